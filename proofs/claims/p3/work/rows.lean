section
-- ===== PART A: goes FIRST, ahead of the names: the tables' words, and 'selects' of the private methods out of them =====
/-- a private method of a class that the tables say can be made, by its rows of tables_1 -/
def lw_okq (q : MethodName × Nat) : Prop := (q.1.cls ≠ "java/lang/invoke/MethodHandle" ∧ q.1.cls ≠ "java/lang/invoke/VarHandle") ∧ Cond.instantiable q.1.cls q.2 ∈ tables_1 ∧ Cond.privateMethod q.1 ∈ tables_1 ∧ Cond.instanceMethod q.1 ∈ tables_1
theorem lw_p0 : lw_okq (⟨"ArchiveDesk", "saveFrom", "(I)I"⟩, 5) := ⟨⟨by decide +kernel, by decide +kernel⟩, List.mem_of_getElem? (i := 19) (by decide +kernel), List.mem_of_getElem? (i := 359) (by decide +kernel), List.mem_of_getElem? (i := 360) (by decide +kernel)⟩
theorem lw_p1 : lw_okq (⟨"ArchiveDesk$Reader", "unpack", "(LArchiveDesk$Row;I)Z"⟩, 10) := ⟨⟨by decide +kernel, by decide +kernel⟩, List.mem_of_getElem? (i := 98) (by decide +kernel), List.mem_of_getElem? (i := 395) (by decide +kernel), List.mem_of_getElem? (i := 396) (by decide +kernel)⟩
theorem lw_p2 : lw_okq (⟨"ArchiveDesk$Reader", "crcAgrees", "()Z"⟩, 10) := ⟨⟨by decide +kernel, by decide +kernel⟩, List.mem_of_getElem? (i := 98) (by decide +kernel), List.mem_of_getElem? (i := 413) (by decide +kernel), List.mem_of_getElem? (i := 414) (by decide +kernel)⟩
theorem lw_p3 : lw_okq (⟨"ArchiveDesk$Shelf", "release", "(LArchiveDesk$Entry;)V"⟩, 3) := ⟨⟨by decide +kernel, by decide +kernel⟩, List.mem_of_getElem? (i := 44) (by decide +kernel), List.mem_of_getElem? (i := 452) (by decide +kernel), List.mem_of_getElem? (i := 453) (by decide +kernel)⟩
theorem lw_p4 : lw_okq (⟨"ArchiveDesk$Shelf", "fill", "(LArchiveDesk$Entry;LArchiveDesk$Row;II)V"⟩, 3) := ⟨⟨by decide +kernel, by decide +kernel⟩, List.mem_of_getElem? (i := 44) (by decide +kernel), List.mem_of_getElem? (i := 467) (by decide +kernel), List.mem_of_getElem? (i := 468) (by decide +kernel)⟩
theorem lw_p5 : lw_okq (⟨"java/lang/Throwable", "fillInStackTrace", "(I)Ljava/lang/Throwable;"⟩, 6) := ⟨⟨by decide +kernel, by decide +kernel⟩, List.mem_of_getElem? (i := 555) (by decide +kernel), List.mem_of_getElem? (i := 553) (by decide +kernel), List.mem_of_getElem? (i := 554) (by decide +kernel)⟩
theorem lw_p6 : lw_okq (⟨"ArchiveDesk$Reader", "endPasses", "(LArchiveDesk$Row;)Z"⟩, 10) := ⟨⟨by decide +kernel, by decide +kernel⟩, List.mem_of_getElem? (i := 98) (by decide +kernel), List.mem_of_getElem? (i := 671) (by decide +kernel), List.mem_of_getElem? (i := 672) (by decide +kernel)⟩
theorem lw_p7 : lw_okq (⟨"ArchiveDesk$Reader", "endStands", "(LArchiveDesk$Row;I)Z"⟩, 10) := ⟨⟨by decide +kernel, by decide +kernel⟩, List.mem_of_getElem? (i := 98) (by decide +kernel), List.mem_of_getElem? (i := 676) (by decide +kernel), List.mem_of_getElem? (i := 677) (by decide +kernel)⟩
theorem lw_p8 : lw_okq (⟨"ArchiveDesk$Reader", "fails", "(III)Z"⟩, 10) := ⟨⟨by decide +kernel, by decide +kernel⟩, List.mem_of_getElem? (i := 98) (by decide +kernel), List.mem_of_getElem? (i := 683) (by decide +kernel), List.mem_of_getElem? (i := 684) (by decide +kernel)⟩
theorem lw_p9 : lw_okq (⟨"ArchiveDesk$Reader", "centralsPass", "(LArchiveDesk$Row;)Z"⟩, 10) := ⟨⟨by decide +kernel, by decide +kernel⟩, List.mem_of_getElem? (i := 98) (by decide +kernel), List.mem_of_getElem? (i := 687) (by decide +kernel), List.mem_of_getElem? (i := 688) (by decide +kernel)⟩
theorem lw_p10 : lw_okq (⟨"ArchiveDesk$Reader", "centralStands", "(LArchiveDesk$Row;II)Z"⟩, 10) := ⟨⟨by decide +kernel, by decide +kernel⟩, List.mem_of_getElem? (i := 98) (by decide +kernel), List.mem_of_getElem? (i := 691) (by decide +kernel), List.mem_of_getElem? (i := 692) (by decide +kernel)⟩
theorem lw_p11 : lw_okq (⟨"ArchiveDesk$Reader", "isEarlierName", "(LArchiveDesk$Row;II)Z"⟩, 10) := ⟨⟨by decide +kernel, by decide +kernel⟩, List.mem_of_getElem? (i := 98) (by decide +kernel), List.mem_of_getElem? (i := 695) (by decide +kernel), List.mem_of_getElem? (i := 696) (by decide +kernel)⟩
theorem lw_p12 : lw_okq (⟨"ArchiveDesk$Reader", "localsPass", "(LArchiveDesk$Row;)Z"⟩, 10) := ⟨⟨by decide +kernel, by decide +kernel⟩, List.mem_of_getElem? (i := 98) (by decide +kernel), List.mem_of_getElem? (i := 700) (by decide +kernel), List.mem_of_getElem? (i := 701) (by decide +kernel)⟩
theorem lw_p13 : lw_okq (⟨"ArchiveDesk$Reader", "localStands", "(LArchiveDesk$Row;II)Z"⟩, 10) := ⟨⟨by decide +kernel, by decide +kernel⟩, List.mem_of_getElem? (i := 98) (by decide +kernel), List.mem_of_getElem? (i := 704) (by decide +kernel), List.mem_of_getElem? (i := 705) (by decide +kernel)⟩
theorem lw_p14 : lw_okq (⟨"ArchiveDesk$Reader", "contentsPass", "(LArchiveDesk$Row;)Z"⟩, 10) := ⟨⟨by decide +kernel, by decide +kernel⟩, List.mem_of_getElem? (i := 98) (by decide +kernel), List.mem_of_getElem? (i := 708) (by decide +kernel), List.mem_of_getElem? (i := 709) (by decide +kernel)⟩
theorem lw_p15 : lw_okq (⟨"ArchiveDeskModel", "isName", "(II)Z"⟩, 19) := ⟨⟨by decide +kernel, by decide +kernel⟩, List.mem_of_getElem? (i := 719) (by decide +kernel), List.mem_of_getElem? (i := 811) (by decide +kernel), List.mem_of_getElem? (i := 812) (by decide +kernel)⟩
def lw_privs_1 : List (MethodName × Nat) := [(⟨"ArchiveDesk", "saveFrom", "(I)I"⟩, 5), (⟨"ArchiveDesk$Reader", "unpack", "(LArchiveDesk$Row;I)Z"⟩, 10), (⟨"ArchiveDesk$Reader", "crcAgrees", "()Z"⟩, 10), (⟨"ArchiveDesk$Shelf", "release", "(LArchiveDesk$Entry;)V"⟩, 3), (⟨"ArchiveDesk$Shelf", "fill", "(LArchiveDesk$Entry;LArchiveDesk$Row;II)V"⟩, 3), (⟨"java/lang/Throwable", "fillInStackTrace", "(I)Ljava/lang/Throwable;"⟩, 6), (⟨"ArchiveDesk$Reader", "endPasses", "(LArchiveDesk$Row;)Z"⟩, 10), (⟨"ArchiveDesk$Reader", "endStands", "(LArchiveDesk$Row;I)Z"⟩, 10), (⟨"ArchiveDesk$Reader", "fails", "(III)Z"⟩, 10), (⟨"ArchiveDesk$Reader", "centralsPass", "(LArchiveDesk$Row;)Z"⟩, 10), (⟨"ArchiveDesk$Reader", "centralStands", "(LArchiveDesk$Row;II)Z"⟩, 10), (⟨"ArchiveDesk$Reader", "isEarlierName", "(LArchiveDesk$Row;II)Z"⟩, 10), (⟨"ArchiveDesk$Reader", "localsPass", "(LArchiveDesk$Row;)Z"⟩, 10), (⟨"ArchiveDesk$Reader", "localStands", "(LArchiveDesk$Row;II)Z"⟩, 10), (⟨"ArchiveDesk$Reader", "contentsPass", "(LArchiveDesk$Row;)Z"⟩, 10), (⟨"ArchiveDeskModel", "isName", "(II)Z"⟩, 19)]
theorem lw_r1 : ∀ q ∈ lw_privs_1, lw_okq q := List.forall_mem_cons.mpr ⟨lw_p0, List.forall_mem_cons.mpr ⟨lw_p1, List.forall_mem_cons.mpr ⟨lw_p2, List.forall_mem_cons.mpr ⟨lw_p3, List.forall_mem_cons.mpr ⟨lw_p4, List.forall_mem_cons.mpr ⟨lw_p5, List.forall_mem_cons.mpr ⟨lw_p6, List.forall_mem_cons.mpr ⟨lw_p7, List.forall_mem_cons.mpr ⟨lw_p8, List.forall_mem_cons.mpr ⟨lw_p9, List.forall_mem_cons.mpr ⟨lw_p10, List.forall_mem_cons.mpr ⟨lw_p11, List.forall_mem_cons.mpr ⟨lw_p12, List.forall_mem_cons.mpr ⟨lw_p13, List.forall_mem_cons.mpr ⟨lw_p14, List.forall_mem_cons.mpr ⟨lw_p15, fun _ h => absurd h List.not_mem_nil⟩⟩⟩⟩⟩⟩⟩⟩⟩⟩⟩⟩⟩⟩⟩⟩
theorem lw_p16 : lw_okq (⟨"ArchiveDeskModel", "named", "(III)I"⟩, 19) := ⟨⟨by decide +kernel, by decide +kernel⟩, List.mem_of_getElem? (i := 719) (by decide +kernel), List.mem_of_getElem? (i := 815) (by decide +kernel), List.mem_of_getElem? (i := 816) (by decide +kernel)⟩
theorem lw_p17 : lw_okq (⟨"ArchiveDeskModel", "total", "()I"⟩, 19) := ⟨⟨by decide +kernel, by decide +kernel⟩, List.mem_of_getElem? (i := 719) (by decide +kernel), List.mem_of_getElem? (i := 819) (by decide +kernel), List.mem_of_getElem? (i := 820) (by decide +kernel)⟩
theorem lw_p18 : lw_okq (⟨"ArchiveDeskModel", "setName", "(III)V"⟩, 19) := ⟨⟨by decide +kernel, by decide +kernel⟩, List.mem_of_getElem? (i := 719) (by decide +kernel), List.mem_of_getElem? (i := 823) (by decide +kernel), List.mem_of_getElem? (i := 824) (by decide +kernel)⟩
theorem lw_p19 : lw_okq (⟨"ArchiveDeskModel", "setBytes", "(III)V"⟩, 19) := ⟨⟨by decide +kernel, by decide +kernel⟩, List.mem_of_getElem? (i := 719) (by decide +kernel), List.mem_of_getElem? (i := 827) (by decide +kernel), List.mem_of_getElem? (i := 828) (by decide +kernel)⟩
theorem lw_p20 : lw_okq (⟨"ArchiveDeskModel", "isFile", "(I)Z"⟩, 19) := ⟨⟨by decide +kernel, by decide +kernel⟩, List.mem_of_getElem? (i := 719) (by decide +kernel), List.mem_of_getElem? (i := 835) (by decide +kernel), List.mem_of_getElem? (i := 836) (by decide +kernel)⟩
theorem lw_p21 : lw_okq (⟨"ArchiveDeskModel", "goes", "(I)V"⟩, 19) := ⟨⟨by decide +kernel, by decide +kernel⟩, List.mem_of_getElem? (i := 719) (by decide +kernel), List.mem_of_getElem? (i := 847) (by decide +kernel), List.mem_of_getElem? (i := 848) (by decide +kernel)⟩
theorem lw_p22 : lw_okq (⟨"ArchiveDeskModel", "copyFile", "(II)V"⟩, 19) := ⟨⟨by decide +kernel, by decide +kernel⟩, List.mem_of_getElem? (i := 719) (by decide +kernel), List.mem_of_getElem? (i := 851) (by decide +kernel), List.mem_of_getElem? (i := 852) (by decide +kernel)⟩
theorem lw_p23 : lw_okq (⟨"ArchiveDeskModel", "isAhead", "(II)Z"⟩, 19) := ⟨⟨by decide +kernel, by decide +kernel⟩, List.mem_of_getElem? (i := 719) (by decide +kernel), List.mem_of_getElem? (i := 859) (by decide +kernel), List.mem_of_getElem? (i := 860) (by decide +kernel)⟩
theorem lw_p24 : lw_okq (⟨"ArchiveDeskModel", "sign", "(II)V"⟩, 19) := ⟨⟨by decide +kernel, by decide +kernel⟩, List.mem_of_getElem? (i := 719) (by decide +kernel), List.mem_of_getElem? (i := 871) (by decide +kernel), List.mem_of_getElem? (i := 872) (by decide +kernel)⟩
theorem lw_p25 : lw_okq (⟨"ArchiveDeskModel", "write", "(II)V"⟩, 19) := ⟨⟨by decide +kernel, by decide +kernel⟩, List.mem_of_getElem? (i := 719) (by decide +kernel), List.mem_of_getElem? (i := 875) (by decide +kernel), List.mem_of_getElem? (i := 876) (by decide +kernel)⟩
theorem lw_p26 : lw_okq (⟨"ArchiveDeskModel", "writeFacts", "(I)V"⟩, 19) := ⟨⟨by decide +kernel, by decide +kernel⟩, List.mem_of_getElem? (i := 719) (by decide +kernel), List.mem_of_getElem? (i := 879) (by decide +kernel), List.mem_of_getElem? (i := 880) (by decide +kernel)⟩
theorem lw_p27 : lw_okq (⟨"ArchiveDeskModel", "method", "(I)I"⟩, 19) := ⟨⟨by decide +kernel, by decide +kernel⟩, List.mem_of_getElem? (i := 719) (by decide +kernel), List.mem_of_getElem? (i := 883) (by decide +kernel), List.mem_of_getElem? (i := 884) (by decide +kernel)⟩
theorem lw_p28 : lw_okq (⟨"ArchiveDeskModel", "fold", "(I)V"⟩, 19) := ⟨⟨by decide +kernel, by decide +kernel⟩, List.mem_of_getElem? (i := 719) (by decide +kernel), List.mem_of_getElem? (i := 887) (by decide +kernel), List.mem_of_getElem? (i := 888) (by decide +kernel)⟩
theorem lw_p29 : lw_okq (⟨"ArchiveDeskModel", "alike", "(II)I"⟩, 19) := ⟨⟨by decide +kernel, by decide +kernel⟩, List.mem_of_getElem? (i := 719) (by decide +kernel), List.mem_of_getElem? (i := 891) (by decide +kernel), List.mem_of_getElem? (i := 892) (by decide +kernel)⟩
theorem lw_p30 : lw_okq (⟨"ArchiveDeskModel", "put", "(I)V"⟩, 19) := ⟨⟨by decide +kernel, by decide +kernel⟩, List.mem_of_getElem? (i := 719) (by decide +kernel), List.mem_of_getElem? (i := 895) (by decide +kernel), List.mem_of_getElem? (i := 896) (by decide +kernel)⟩
theorem lw_p31 : lw_okq (⟨"ArchiveDeskModel", "crc", "(I)I"⟩, 19) := ⟨⟨by decide +kernel, by decide +kernel⟩, List.mem_of_getElem? (i := 719) (by decide +kernel), List.mem_of_getElem? (i := 899) (by decide +kernel), List.mem_of_getElem? (i := 900) (by decide +kernel)⟩
def lw_privs_2 : List (MethodName × Nat) := [(⟨"ArchiveDeskModel", "named", "(III)I"⟩, 19), (⟨"ArchiveDeskModel", "total", "()I"⟩, 19), (⟨"ArchiveDeskModel", "setName", "(III)V"⟩, 19), (⟨"ArchiveDeskModel", "setBytes", "(III)V"⟩, 19), (⟨"ArchiveDeskModel", "isFile", "(I)Z"⟩, 19), (⟨"ArchiveDeskModel", "goes", "(I)V"⟩, 19), (⟨"ArchiveDeskModel", "copyFile", "(II)V"⟩, 19), (⟨"ArchiveDeskModel", "isAhead", "(II)Z"⟩, 19), (⟨"ArchiveDeskModel", "sign", "(II)V"⟩, 19), (⟨"ArchiveDeskModel", "write", "(II)V"⟩, 19), (⟨"ArchiveDeskModel", "writeFacts", "(I)V"⟩, 19), (⟨"ArchiveDeskModel", "method", "(I)I"⟩, 19), (⟨"ArchiveDeskModel", "fold", "(I)V"⟩, 19), (⟨"ArchiveDeskModel", "alike", "(II)I"⟩, 19), (⟨"ArchiveDeskModel", "put", "(I)V"⟩, 19), (⟨"ArchiveDeskModel", "crc", "(I)I"⟩, 19)]
theorem lw_r2 : ∀ q ∈ lw_privs_2, lw_okq q := List.forall_mem_cons.mpr ⟨lw_p16, List.forall_mem_cons.mpr ⟨lw_p17, List.forall_mem_cons.mpr ⟨lw_p18, List.forall_mem_cons.mpr ⟨lw_p19, List.forall_mem_cons.mpr ⟨lw_p20, List.forall_mem_cons.mpr ⟨lw_p21, List.forall_mem_cons.mpr ⟨lw_p22, List.forall_mem_cons.mpr ⟨lw_p23, List.forall_mem_cons.mpr ⟨lw_p24, List.forall_mem_cons.mpr ⟨lw_p25, List.forall_mem_cons.mpr ⟨lw_p26, List.forall_mem_cons.mpr ⟨lw_p27, List.forall_mem_cons.mpr ⟨lw_p28, List.forall_mem_cons.mpr ⟨lw_p29, List.forall_mem_cons.mpr ⟨lw_p30, List.forall_mem_cons.mpr ⟨lw_p31, fun _ h => absurd h List.not_mem_nil⟩⟩⟩⟩⟩⟩⟩⟩⟩⟩⟩⟩⟩⟩⟩⟩
theorem lw_p32 : lw_okq (⟨"ArchiveDeskModel", "packedSize", "(I)I"⟩, 19) := ⟨⟨by decide +kernel, by decide +kernel⟩, List.mem_of_getElem? (i := 719) (by decide +kernel), List.mem_of_getElem? (i := 904) (by decide +kernel), List.mem_of_getElem? (i := 905) (by decide +kernel)⟩
theorem lw_p33 : lw_okq (⟨"ArchiveDeskModel", "writeName", "(I)V"⟩, 19) := ⟨⟨by decide +kernel, by decide +kernel⟩, List.mem_of_getElem? (i := 719) (by decide +kernel), List.mem_of_getElem? (i := 908) (by decide +kernel), List.mem_of_getElem? (i := 909) (by decide +kernel)⟩
theorem lw_p34 : lw_okq (⟨"ArchiveDeskModel", "findEnd", "()I"⟩, 19) := ⟨⟨by decide +kernel, by decide +kernel⟩, List.mem_of_getElem? (i := 719) (by decide +kernel), List.mem_of_getElem? (i := 916) (by decide +kernel), List.mem_of_getElem? (i := 917) (by decide +kernel)⟩
theorem lw_p35 : lw_okq (⟨"ArchiveDeskModel", "isSign", "(III)Z"⟩, 19) := ⟨⟨by decide +kernel, by decide +kernel⟩, List.mem_of_getElem? (i := 719) (by decide +kernel), List.mem_of_getElem? (i := 920) (by decide +kernel), List.mem_of_getElem? (i := 921) (by decide +kernel)⟩
theorem lw_p36 : lw_okq (⟨"ArchiveDeskModel", "is", "(III)Z"⟩, 19) := ⟨⟨by decide +kernel, by decide +kernel⟩, List.mem_of_getElem? (i := 719) (by decide +kernel), List.mem_of_getElem? (i := 924) (by decide +kernel), List.mem_of_getElem? (i := 925) (by decide +kernel)⟩
theorem lw_p37 : lw_okq (⟨"ArchiveDeskModel", "number", "(II)I"⟩, 19) := ⟨⟨by decide +kernel, by decide +kernel⟩, List.mem_of_getElem? (i := 719) (by decide +kernel), List.mem_of_getElem? (i := 928) (by decide +kernel), List.mem_of_getElem? (i := 929) (by decide +kernel)⟩
theorem lw_p38 : lw_okq (⟨"ArchiveDeskModel", "fails", "(III)Z"⟩, 19) := ⟨⟨by decide +kernel, by decide +kernel⟩, List.mem_of_getElem? (i := 719) (by decide +kernel), List.mem_of_getElem? (i := 934) (by decide +kernel), List.mem_of_getElem? (i := 935) (by decide +kernel)⟩
theorem lw_p39 : lw_okq (⟨"ArchiveDeskModel", "findCentrals", "(II)Z"⟩, 19) := ⟨⟨by decide +kernel, by decide +kernel⟩, List.mem_of_getElem? (i := 719) (by decide +kernel), List.mem_of_getElem? (i := 938) (by decide +kernel), List.mem_of_getElem? (i := 939) (by decide +kernel)⟩
theorem lw_p40 : lw_okq (⟨"ArchiveDeskModel", "isCentral", "(III)Z"⟩, 19) := ⟨⟨by decide +kernel, by decide +kernel⟩, List.mem_of_getElem? (i := 719) (by decide +kernel), List.mem_of_getElem? (i := 942) (by decide +kernel), List.mem_of_getElem? (i := 943) (by decide +kernel)⟩
theorem lw_p41 : lw_okq (⟨"ArchiveDeskModel", "areFacts", "(I)Z"⟩, 19) := ⟨⟨by decide +kernel, by decide +kernel⟩, List.mem_of_getElem? (i := 719) (by decide +kernel), List.mem_of_getElem? (i := 946) (by decide +kernel), List.mem_of_getElem? (i := 947) (by decide +kernel)⟩
theorem lw_p42 : lw_okq (⟨"ArchiveDeskModel", "isSame", "(III)Z"⟩, 19) := ⟨⟨by decide +kernel, by decide +kernel⟩, List.mem_of_getElem? (i := 719) (by decide +kernel), List.mem_of_getElem? (i := 950) (by decide +kernel), List.mem_of_getElem? (i := 951) (by decide +kernel)⟩
theorem lw_p43 : lw_okq (⟨"ArchiveDeskModel", "findLocals", "(II)Z"⟩, 19) := ⟨⟨by decide +kernel, by decide +kernel⟩, List.mem_of_getElem? (i := 719) (by decide +kernel), List.mem_of_getElem? (i := 954) (by decide +kernel), List.mem_of_getElem? (i := 955) (by decide +kernel)⟩
theorem lw_p44 : lw_okq (⟨"ArchiveDeskModel", "isLocal", "(IIIZ)Z"⟩, 19) := ⟨⟨by decide +kernel, by decide +kernel⟩, List.mem_of_getElem? (i := 719) (by decide +kernel), List.mem_of_getElem? (i := 958) (by decide +kernel), List.mem_of_getElem? (i := 959) (by decide +kernel)⟩
theorem lw_p45 : lw_okq (⟨"ArchiveDeskModel", "areBytes", "(I)Z"⟩, 19) := ⟨⟨by decide +kernel, by decide +kernel⟩, List.mem_of_getElem? (i := 719) (by decide +kernel), List.mem_of_getElem? (i := 963) (by decide +kernel), List.mem_of_getElem? (i := 964) (by decide +kernel)⟩
theorem lw_p46 : lw_okq (⟨"ArchiveDeskModel", "areSizes", "(I)Z"⟩, 19) := ⟨⟨by decide +kernel, by decide +kernel⟩, List.mem_of_getElem? (i := 719) (by decide +kernel), List.mem_of_getElem? (i := 967) (by decide +kernel), List.mem_of_getElem? (i := 968) (by decide +kernel)⟩
theorem lw_p47 : lw_okq (⟨"ArchiveDeskModel", "unfold", "(II)Z"⟩, 19) := ⟨⟨by decide +kernel, by decide +kernel⟩, List.mem_of_getElem? (i := 719) (by decide +kernel), List.mem_of_getElem? (i := 972) (by decide +kernel), List.mem_of_getElem? (i := 973) (by decide +kernel)⟩
def lw_privs_3 : List (MethodName × Nat) := [(⟨"ArchiveDeskModel", "packedSize", "(I)I"⟩, 19), (⟨"ArchiveDeskModel", "writeName", "(I)V"⟩, 19), (⟨"ArchiveDeskModel", "findEnd", "()I"⟩, 19), (⟨"ArchiveDeskModel", "isSign", "(III)Z"⟩, 19), (⟨"ArchiveDeskModel", "is", "(III)Z"⟩, 19), (⟨"ArchiveDeskModel", "number", "(II)I"⟩, 19), (⟨"ArchiveDeskModel", "fails", "(III)Z"⟩, 19), (⟨"ArchiveDeskModel", "findCentrals", "(II)Z"⟩, 19), (⟨"ArchiveDeskModel", "isCentral", "(III)Z"⟩, 19), (⟨"ArchiveDeskModel", "areFacts", "(I)Z"⟩, 19), (⟨"ArchiveDeskModel", "isSame", "(III)Z"⟩, 19), (⟨"ArchiveDeskModel", "findLocals", "(II)Z"⟩, 19), (⟨"ArchiveDeskModel", "isLocal", "(IIIZ)Z"⟩, 19), (⟨"ArchiveDeskModel", "areBytes", "(I)Z"⟩, 19), (⟨"ArchiveDeskModel", "areSizes", "(I)Z"⟩, 19), (⟨"ArchiveDeskModel", "unfold", "(II)Z"⟩, 19)]
theorem lw_r3 : ∀ q ∈ lw_privs_3, lw_okq q := List.forall_mem_cons.mpr ⟨lw_p32, List.forall_mem_cons.mpr ⟨lw_p33, List.forall_mem_cons.mpr ⟨lw_p34, List.forall_mem_cons.mpr ⟨lw_p35, List.forall_mem_cons.mpr ⟨lw_p36, List.forall_mem_cons.mpr ⟨lw_p37, List.forall_mem_cons.mpr ⟨lw_p38, List.forall_mem_cons.mpr ⟨lw_p39, List.forall_mem_cons.mpr ⟨lw_p40, List.forall_mem_cons.mpr ⟨lw_p41, List.forall_mem_cons.mpr ⟨lw_p42, List.forall_mem_cons.mpr ⟨lw_p43, List.forall_mem_cons.mpr ⟨lw_p44, List.forall_mem_cons.mpr ⟨lw_p45, List.forall_mem_cons.mpr ⟨lw_p46, List.forall_mem_cons.mpr ⟨lw_p47, fun _ h => absurd h List.not_mem_nil⟩⟩⟩⟩⟩⟩⟩⟩⟩⟩⟩⟩⟩⟩⟩⟩
theorem lw_p48 : lw_okq (⟨"ArchiveDeskModel", "isCrc", "(I)Z"⟩, 19) := ⟨⟨by decide +kernel, by decide +kernel⟩, List.mem_of_getElem? (i := 719) (by decide +kernel), List.mem_of_getElem? (i := 976) (by decide +kernel), List.mem_of_getElem? (i := 977) (by decide +kernel)⟩
theorem lw_p49 : lw_okq (⟨"ArchiveDeskModel", "append", "(IIII)V"⟩, 19) := ⟨⟨by decide +kernel, by decide +kernel⟩, List.mem_of_getElem? (i := 719) (by decide +kernel), List.mem_of_getElem? (i := 980) (by decide +kernel), List.mem_of_getElem? (i := 981) (by decide +kernel)⟩
theorem lw_p50 : lw_okq (⟨"ArchiveDeskModel", "saved", "(I)I"⟩, 19) := ⟨⟨by decide +kernel, by decide +kernel⟩, List.mem_of_getElem? (i := 719) (by decide +kernel), List.mem_of_getElem? (i := 992) (by decide +kernel), List.mem_of_getElem? (i := 993) (by decide +kernel)⟩
def lw_privs_4 : List (MethodName × Nat) := [(⟨"ArchiveDeskModel", "isCrc", "(I)Z"⟩, 19), (⟨"ArchiveDeskModel", "append", "(IIII)V"⟩, 19), (⟨"ArchiveDeskModel", "saved", "(I)I"⟩, 19)]
theorem lw_r4 : ∀ q ∈ lw_privs_4, lw_okq q := List.forall_mem_cons.mpr ⟨lw_p48, List.forall_mem_cons.mpr ⟨lw_p49, List.forall_mem_cons.mpr ⟨lw_p50, fun _ h => absurd h List.not_mem_nil⟩⟩⟩
def lw_privs : List (MethodName × Nat) := lw_privs_1 ++ (lw_privs_2 ++ (lw_privs_3 ++ (lw_privs_4)))
def lw_tbl : List Cond := k2_sels lw_privs ++ tables_1
theorem lw_privs_ok : ∀ q ∈ lw_privs, lw_okq q := by
  show ∀ q ∈ lw_privs_1 ++ (lw_privs_2 ++ (lw_privs_3 ++ (lw_privs_4))), lw_okq q
  exact List.forall_mem_append.mpr ⟨lw_r1, List.forall_mem_append.mpr ⟨lw_r2, List.forall_mem_append.mpr ⟨lw_r3, lw_r4⟩⟩⟩
end
section
/-! ===== BEGIN words of one list among another's, by their places ===== -/
theorem goodIn_r {big : List Cond} (ws : List Cond) (ps : List Nat) (hp : ws = ps.filterMap (fun i => big[i]?)) (h : ws.all goodWord = true) : GoodIn big ws := by
  intro w hw
  have h1 := List.all_eq_true.mp h w hw
  rw [hp] at hw
  obtain ⟨i, -, hi⟩ := List.mem_filterMap.mp hw
  have hm : w ∈ big := by first | exact List.mem_of_getElem? hi | exact List.getElem?_mem hi
  exact ⟨hm, good_of_word h1⟩
theorem goodIn_app {big a b : List Cond} (ha : GoodIn big a) (hb : GoodIn big b) : GoodIn big (a ++ b) := fun w h => (List.mem_append.mp h).elim (ha w) (hb w)
theorem goodIn_ca {big a b : List Cond} {c : Cond} (ha : GoodIn big (c :: a)) (hb : GoodIn big b) : GoodIn big (c :: (a ++ b)) := fun w h => (List.mem_cons.mp h).elim (fun e => ha w (List.mem_cons.mpr (Or.inl e))) (fun h => (List.mem_append.mp h).elim (fun h => ha w (List.mem_cons.mpr (Or.inr h))) (hb w))
theorem goodIn_sub {big ws : List Cond} (hm : ∀ w ∈ ws, w ∈ big) (h : ws.all goodWord = true) : GoodIn big ws := fun w hw => ⟨hm w hw, good_of_word (List.all_eq_true.mp h w hw)⟩
/-! ===== END ===== -/

/-! ===== BEGIN exceptions that leave a method, and their catching by the caller (launches without stack traces) ===== -/
section VXA
/-! The laws vx_back, vx_callV, vx_callS, vx_callSW, vx_throw0, vx_throwS follow proofs of the library, with one case more: JvmDerived/Free/Laws.lean (Back.of_free), Shelf42/LK1.lean (callV, callS), Shelf/KitTraced.lean (throwNew0V, throwNewS). -/
/-- where a method has thrown q: the class by its name, the cell, what was written, the world -/
def vx_T (XC : String → State → State → Prop) (st : State) (q : Addr) (t : State) (mc ms : Nat) (free : Addr → Prop) : Prop :=
  ∃ (E : String) (ce : Cell) (L : List Loc), XC E st t ∧ t.heap[q]? = some ce ∧ ce.vm = .none ∧ st.vm.findClass E = some ce.cls ∧ st.WarmedH t.vm ∧ st.sameButNew ({ t with vm := st.vm } : State) L mc ms ∧ ∀ z ∈ L, free z.base
def vx_Q (Qc : Array Value → State → Outcome → State → Prop) (XC : String → State → State → Prop) (mc ms : Nat) (free : Addr → Prop) : Array Value → State → Outcome → State → Prop := fun a st o t =>
  (Qc a st o t ∧ ∃ L, FrameEnd st o t L mc ms ∧ ∀ q ∈ L, free q.base) ∨ ∃ q, o = .threw q ∧ vx_T XC st q t mc ms free
/-- a callee that returns or throws -/
def vx_Met (l : Launch) (y : MethodName) (ws : List Cond) (rm : Room) (Pc : Array Value → State → Prop) (Qc : Array Value → State → Outcome → State → Prop) (XC : String → State → State → Prop) (mc ms : Nat) (free : Addr → Prop) : Prop :=
  MetFree l y (headSpec ws rm) Pc (fun _ _ _ _ _ => True) (vx_Q Qc XC mc ms free)
def vx_Post (XC : String → State → State → Prop) (mc ms : Nat) (free : Addr → Prop) : Pt → Array Value → Addr → Pt → Prop := fun A a q B =>
  ∃ (g : JFrame) (mk : MethodId) (t : State) (L : List Loc) (E : String) (ce : Cell), B.U.heap = t.heap ∧ B.U.vm = t.vm ∧ XC E (A.U.calling g mk a) t ∧ t.heap[q]? = some ce ∧ ce.vm = .none ∧ A.U.vm.findClass E = some ce.cls ∧ B.locs = A.locs ++ L ∧ (∀ z ∈ L, free z.base) ∧ B.cells = A.cells + mc ∧ B.slots = A.slots + ms
def vx_Back (l : Launch) (R : Room) (p : Program) (e : Env) (below : List Frame) (s : State) (sargs : Array Value) (y : MethodName) (len W9 : Nat)
    (Pre : Pt → Array Value → Prop) (Post : Pt → Array Value → Option Value → Pt → Prop) (PostX : Pt → Array Value → Addr → Pt → Prop) : Prop :=
  ∀ (m : MethodId) (meth : Method) (c : Code) (A : Pt) (g : JFrame) (ig : Instr) (mk : MethodId) (a : Array Value),
    Stand p l e R s m sargs below meth c A.U A.locs A.cells A.slots → g.method = m → g.locals.size = c.maxLocals → decode c.code g.pc = .ok (ig, len) →
    2 * g.monitorRoom + (g.stack.map fun v => v.category).sum ≤ W9 → A.U.methodNamed? y = some mk → Pre A a →
    (∃ (v : Option Value) (B : Pt), Stand p l e R s m sargs below meth c B.U B.locs B.cells B.slots ∧ Post A a v B ∧
      Steps p.tables e below (doInvoke e (A.U.setTop g) [] mk a).1 (B.U.setTop { g with pc := g.pc + len, stack := v.toList ++ g.stack })) ∨
    (∃ (q : Addr) (B : Pt), Stand p l e R s m sargs below meth c B.U B.locs B.cells B.slots ∧ PostX A a q B ∧
      Steps p.tables e below (doInvoke e (A.U.setTop g) [] mk a).1 ((B.U.setTop g).pushFrame (.throwing q)))
section Payer
variable {l : Launch} {R : Room} {p : Program} {e : Env} {below : List Frame} {s : State} {sargs : Array Value} {y : MethodName} {len W9 : Nat}
theorem vx_back {ws : List Cond} {rm : Room} {Pc : Array Value → State → Prop} {Qc : Array Value → State → Outcome → State → Prop} {XC : String → State → State → Prop} {mc ms : Nat} {free : Addr → Prop} {bytes : ByteArray} {maxL : Nat} {ret : Option FieldType}
    (hM : vx_Met l y ws rm Pc Qc XC mc ms free) (hblind : FrameBlind Pc) (hrc : rm.cells = mc) (hrs : rm.slots = ms)
    (hframes : rm.frames + 1 ≤ R.frames) (hlocals : W9 + (maxL + 11) + rm.locals ≤ R.locals)
    (hws : ∀ w ∈ ws, ∀ a' U, s.WarmedH U.vm → w.before a' U = true) (hcode : Cond.code y bytes maxL ret ∈ ws) (hinit : ∀ a' U, s.WarmedH U.vm → (Cond.initialized y.cls).before a' U = true) :
    vx_Back l R p e below s sargs y len W9 (PreOf R mc ms Pc) (PostOf Qc mc ms free) (vx_Post XC mc ms free) := by
  intro m meth c A g ig mk a X hg hsize hdg hW hn hp
  have h1 : (headSpec ws rm).pre.before a A.U = true := atoms_intro fun w hw => hws w hw _ _ X.warmed
  have h2 : (Cond.code y bytes maxL ret).before a A.U = true := hws _ hcode _ _ X.warmed
  have h3 : (Cond.initialized y.cls).before a A.U = true := hinit _ _ X.warmed
  have h4 : A.cells + (headSpec ws rm).room.cells ≤ R.cells := by rw [show (headSpec ws rm).room.cells = mc from hrc]; exact hp.1
  have h5 : A.slots + (headSpec ws rm).room.slots ≤ R.slots := by rw [show (headSpec ws rm).room.slots = ms from hrs]; exact hp.2.1
  have hPc : Pc a (A.U.calling g mk a) := hblind _ _ _ _ hp.2.2
  obtain ⟨U, Ls, c0, s0⟩ := A
  dsimp only [Pt.U, Pt.locs, Pt.cells, Pt.slots] at h1 h2 h3 h4 h5 X hn hPc ⊢
  obtain ⟨methY, cY, hmY, hcY, -, hlY, -, -, -, -⟩ := Cond.code_spec hn h2
  obtain ⟨kY, hkY, -⟩ := className_of_methodNamed hn
  have hinitY : kY.init = .initialized := Cond.initialized_spec (findClass_of_methodNamed hn) hkY h3
  have h : At U g.method c below := by rw [hg]; exact X.here
  have hlocals9 : W9 + (maxL + 11) + (headSpec ws rm).room.locals ≤ R.locals := hlocals
  have happ : (headSpec ws rm).appliesLoose y e.platform (U.calling g mk a) = true :=
    Spec.appliesLoose_calling (g := g) h hdg hn hkY hinitY
      (X.room_calling (g := g) (R' := (headSpec ws rm).room) hsize hmY hcY hframes (by rw [hlY]; omega) h4 h5) h1
  obtain ⟨mid, hmid⟩ := h.above
  have hfr : (U.setTop g).frames = (.java g :: mid) ++ below := by rw [State.frames_setTop' g h.top, hmid]; rfl
  obtain ⟨o, s₂, hsteps, -, hend, hq⟩ := Steps.callFree hM p X.admits X.cas X.clock (acts := []) hfr happ hPc trivial
  have hq' : vx_Q Qc XC mc ms free a (U.calling g mk a) o s₂ := hq
  rw [State.frames_setTop' g h.top] at hend
  obtain ⟨g₀, hg0⟩ := Option.isSome_iff_exists.mp h.top
  obtain ⟨r, hr⟩ := State.topJava?_eq_some.mp hg0
  have hr' : (({ U with heap := s₂.heap, slotsUsed := s₂.slotsUsed } : State).setVm s₂.vm).frames = .java g₀ :: r := hr
  rcases hq' with ⟨hqc, L, hfe, hL⟩ | ⟨q, rfl, E, ce, L, hx, hce, hcv, hcl, hW₂, hsm, hL⟩
  · obtain ⟨⟨v, rfl⟩, hW₂, e2, q2, q3, q4, q5, q6⟩ := id hfe
    have e3 : s₂ = ({ (U.calling g mk a).setFrames s₂.frames with heap := s₂.heap, slotsUsed := s₂.slotsUsed } : State).setVm s₂.vm := by
      have : s₂ = ({ s₂ with vm := (U.calling g mk a).vm } : State).setVm s₂.vm := rfl
      rw [e2] at this
      exact this
    obtain ⟨c₂, i₂, len₂, hc₂, hd₂, hf₂⟩ := hend
    have hW' : U.WarmedH s₂.vm := hW₂
    have hcc : c₂ = c := by
      have h1 : s₂.code? g.method = U.code? g.method := by
        rw [State.code?_eq, State.code?_eq, hW'.alike.method?]
      exact Option.some.inj (hc₂.symm.trans (h1.trans h.code))
    subst hcc
    have hlen : len₂ = len := by rw [hdg] at hd₂; cases hd₂; rfl
    subst hlen
    have hs₂ : s₂ = (({ U with heap := s₂.heap, slotsUsed := s₂.slotsUsed } : State).setVm s₂.vm).setTop { g with pc := g.pc + len₂, stack := v.toList ++ g.stack } := by
      refine e3.trans ?_
      rw [hf₂, State.calling_eq h.top, State.setFrames_setFrames, State.setTop_of_frames _ hr', hr]
      rfl
    have hsame : U.sameButNew ({ U with heap := s₂.heap, slotsUsed := s₂.slotsUsed } : State) L mc ms := by
      refine ⟨?_, q2, q3, q4, q5, q6⟩
      obtain ⟨t, ht, -⟩ := State.frames_cons hr
      show ({ U with heap := s₂.heap, slotsUsed := s₂.slotsUsed } : State) = { U.setFrames U.frames with heap := s₂.heap, slotsUsed := s₂.slotsUsed }
      rw [State.setFrames_self ht]
    subst hg
    refine Or.inl ⟨v, ⟨(({ U with heap := s₂.heap, slotsUsed := s₂.slotsUsed } : State).setVm s₂.vm), Ls ++ L, c0 + mc, s0 + ms⟩,
      ⟨X.admits, X.cas, X.clock, X.frames, X.room, X.hears, X.method, X.code, (X.here.setHeapUsed s₂.heap s₂.slotsUsed).setVm hW'.alike, X.tail, State.WarmedH.trans X.warmed hW', X.limits, X.bytes, X.same.trans (hsame.setVm s.vm)⟩,
      ⟨g, mk, s₂, L, rfl, rfl, hqc, rfl, hL, rfl, rfl⟩, ?_⟩
    show Steps p.tables e below _ ((({ U with heap := s₂.heap, slotsUsed := s₂.slotsUsed } : State).setVm s₂.vm).setTop { g with pc := g.pc + len₂, stack := v.toList ++ g.stack })
    rw [← hs₂]
    exact hsteps
  · obtain ⟨e2, q2, q3, q4, q5, q6⟩ := id hsm
    have e3 : s₂ = ({ (U.calling g mk a).setFrames s₂.frames with heap := s₂.heap, slotsUsed := s₂.slotsUsed } : State).setVm s₂.vm := by
      have : s₂ = ({ s₂ with vm := (U.calling g mk a).vm } : State).setVm s₂.vm := rfl
      rw [e2] at this
      exact this
    have hf₂ : s₂.frames = .throwing q :: .java g :: U.frames.tail := hend
    have hW' : U.WarmedH s₂.vm := hW₂
    have hs₂ : s₂ = ((({ U with heap := s₂.heap, slotsUsed := s₂.slotsUsed } : State).setVm s₂.vm).setTop g).pushFrame (.throwing q) := by
      refine e3.trans ?_
      rw [hf₂, State.calling_eq h.top, State.setFrames_setFrames, State.pushFrame, State.frames_setTop _ hr', State.setTop_of_frames _ hr', State.setFrames_setFrames, hr]
      rfl
    have hsame : U.sameButNew ({ U with heap := s₂.heap, slotsUsed := s₂.slotsUsed } : State) L mc ms := by
      refine ⟨?_, q2, q3, q4, q5, q6⟩
      obtain ⟨t, ht, -⟩ := State.frames_cons hr
      show ({ U with heap := s₂.heap, slotsUsed := s₂.slotsUsed } : State) = { U.setFrames U.frames with heap := s₂.heap, slotsUsed := s₂.slotsUsed }
      rw [State.setFrames_self ht]
    subst hg
    refine Or.inr ⟨q, ⟨(({ U with heap := s₂.heap, slotsUsed := s₂.slotsUsed } : State).setVm s₂.vm), Ls ++ L, c0 + mc, s0 + ms⟩,
      ⟨X.admits, X.cas, X.clock, X.frames, X.room, X.hears, X.method, X.code, (X.here.setHeapUsed s₂.heap s₂.slotsUsed).setVm hW'.alike, X.tail, State.WarmedH.trans X.warmed hW', X.limits, X.bytes, X.same.trans (hsame.setVm s.vm)⟩,
      ⟨g, mk, s₂, L, E, ce, rfl, rfl, hx, hce, hcv, hcl, rfl, hL, rfl, rfl⟩, ?_⟩
    show Steps p.tables e below _ (((({ U with heap := s₂.heap, slotsUsed := s₂.slotsUsed } : State).setVm s₂.vm).setTop g).pushFrame (.throwing q))
    rw [← hs₂]
    exact hsteps
end Payer
section Calls
variable {p : Program} {l : Launch} {e : Env} {R : Room} {s : State} {m : MethodId} {args : Array Value} {below : List Frame} {meth : Method} {c : Code} {T : State} {locs : List Loc} {cells slots : Nat}
theorem vx_callV (X : Stand p l e R s m args below meth c T locs cells slots) (hexec : p.tables.exec = Jvm.exec) {own C : String} {index : Nat} {y : MethodName} {bytes : ByteArray} {maxL : Nat} {ret : Option FieldType}
    (hown : s.vm.findClass own = some m.cls) (hlink : (Cond.methodLink own index y).before args s = true) (hinst : (Cond.instanceMethod y).before args s = true) (hsel : (Cond.selects C y y).before args s = true)
    (hcode : (Cond.code y bytes maxL ret).before args s = true) (hy : y.cls ≠ "java/lang/invoke/MethodHandle" ∧ y.cls ≠ "java/lang/invoke/VarHandle")
    {W9 : Nat} {Pre : Pt → Array Value → Prop} {Post : Pt → Array Value → Option Value → Pt → Prop} {PostX : Pt → Array Value → Addr → Pt → Prop} (hK : vx_Back l R p e below s args y 3 W9 Pre Post PostX)
    {b : Addr} {cellB : Cell} (hcell : T.heap[b]? = some cellB) (hobj : cellB.vm.isStatics = false) (hcls : s.vm.findClass C = some cellB.cls)
    {g : JFrame} (hg : g.method = m) (hsize : g.locals.size = c.maxLocals) {argsL rest : List Value} (hlen : ∀ sig, parseMethodDescriptor y.desc = some sig → argsL.length = sig.parameters.length)
    (hstack : g.stack = argsL.reverse ++ .ref b :: rest) (hW : 2 * g.monitorRoom + (rest.map fun v => v.category).sum ≤ W9) (hdg : decode c.code g.pc = .ok (.invokevirtual index, 3))
    (hpre : ∀ vm₁, s.WarmedH vm₁ → Pre ⟨T.setVm vm₁, locs, cells, slots⟩ (Value.ref b :: argsL).toArray) :
    (∃ (v : Option Value) (vm₁ : Vm) (B : Pt), s.WarmedH vm₁ ∧ Stand p l e R s m args below meth c B.U B.locs B.cells B.slots ∧ Post ⟨T.setVm vm₁, locs, cells, slots⟩ (Value.ref b :: argsL).toArray v B ∧
      ∀ target, Steps p.tables e below (B.U.setTop { g with pc := g.pc + 3, stack := v.toList ++ rest }) target → Steps p.tables e below (T.setTop g) target) ∨
    (∃ (q : Addr) (vm₁ : Vm) (B : Pt), s.WarmedH vm₁ ∧ Stand p l e R s m args below meth c B.U B.locs B.cells B.slots ∧ PostX ⟨T.setVm vm₁, locs, cells, slots⟩ (Value.ref b :: argsL).toArray q B ∧
      Steps p.tables e below (T.setTop g) ((B.U.setTop { g with stack := rest }).pushFrame (.throwing q))) := by
  obtain ⟨mk, methM, hnamed, hmethM, hstM, habM⟩ := Cond.instanceMethod_spec hinst
  obtain ⟨methM', cM, hmethM', -, -, -, -, -, -, hsigM⟩ := Cond.code_spec hnamed hcode
  cases hmethM.symm.trans hmethM'
  obtain ⟨c2, r2, m2, q1, q2, q3, q4, kP, hkP, hkPi⟩ := Cond.selects_spec hsel
  cases hcls.symm.trans q1
  cases (State.methodFound?_of_named hnamed hy).symm.trans q2
  cases hnamed.symm.trans q3
  have hselP : selectMethod e.platform s.vm cellB.cls mk = .method mk := by rw [Launch.admits_selectMethod X.admits]; exact q4
  obtain ⟨vm₁, X₁, hstep₁⟩ := X.invokevirtual hexec hown hlink hnamed hmethM hstM hkP hkPi hy (a := b) (cell := cellB) hcell
    (fun z h => by rw [h] at hobj; cases hobj) hselP hmethM habM hkP hkPi (g := g) hg (argsL := argsL) (rest := rest) (hlen _ hsigM) hstack hdg
  rcases hK m meth c ⟨T.setVm vm₁, locs, cells, slots⟩ { g with stack := rest } (.invokevirtual index) mk (Value.ref b :: argsL).toArray X₁ hg hsize hdg hW (X₁.named hnamed) (hpre vm₁ X₁.warmed) with ⟨v, B, X', hpost, hsteps⟩ | ⟨q, B, X', hpost, hsteps⟩
  · exact Or.inl ⟨v, vm₁, B, X₁.warmed, X', hpost, fun target h => hstep₁ _ fun acts => by rw [doInvoke_state]; exact hsteps.trans h⟩
  · exact Or.inr ⟨q, vm₁, B, X₁.warmed, X', hpost, hstep₁ _ fun acts => by rw [doInvoke_state]; exact hsteps⟩
theorem vx_callS (X : Stand p l e R s m args below meth c T locs cells slots) (hexec : p.tables.exec = Jvm.exec) {own : String} {index : Nat} {y : MethodName} {bytes : ByteArray} {maxL : Nat} {ret : Option FieldType}
    (hown : s.vm.findClass own = some m.cls) (hlink : (Cond.methodLink own index y).before args s = true) (hstat : (Cond.static y).before args s = true) (hinit : (Cond.initialized y.cls).before args s = true)
    (hcode : (Cond.code y bytes maxL ret).before args s = true) (hy : y.cls ≠ "java/lang/invoke/MethodHandle" ∧ y.cls ≠ "java/lang/invoke/VarHandle")
    {W9 : Nat} {Pre : Pt → Array Value → Prop} {Post : Pt → Array Value → Option Value → Pt → Prop} {PostX : Pt → Array Value → Addr → Pt → Prop} (hK : vx_Back l R p e below s args y 3 W9 Pre Post PostX)
    {g : JFrame} (hg : g.method = m) (hsize : g.locals.size = c.maxLocals) {argsL rest : List Value} (hlen : ∀ sig, parseMethodDescriptor y.desc = some sig → argsL.length = sig.parameters.length)
    (hstack : g.stack = argsL.reverse ++ rest) (hW : 2 * g.monitorRoom + (rest.map fun v => v.category).sum ≤ W9) (hdg : decode c.code g.pc = .ok (.invokestatic index, 3))
    (hpre : ∀ vm₁, s.WarmedH vm₁ → Pre ⟨T.setVm vm₁, locs, cells, slots⟩ argsL.toArray) :
    (∃ (v : Option Value) (vm₁ : Vm) (B : Pt), s.WarmedH vm₁ ∧ Stand p l e R s m args below meth c B.U B.locs B.cells B.slots ∧ Post ⟨T.setVm vm₁, locs, cells, slots⟩ argsL.toArray v B ∧
      ∀ target, Steps p.tables e below (B.U.setTop { g with pc := g.pc + 3, stack := v.toList ++ rest }) target → Steps p.tables e below (T.setTop g) target) ∨
    (∃ (q : Addr) (vm₁ : Vm) (B : Pt), s.WarmedH vm₁ ∧ Stand p l e R s m args below meth c B.U B.locs B.cells B.slots ∧ PostX ⟨T.setVm vm₁, locs, cells, slots⟩ argsL.toArray q B ∧
      Steps p.tables e below (T.setTop g) ((B.U.setTop { g with stack := rest }).pushFrame (.throwing q))) := by
  obtain ⟨mk, hnamed⟩ := Cond.code_named hcode
  obtain ⟨methM, cM, hmethM, -, -, -, -, -, -, hsigM⟩ := Cond.code_spec hnamed hcode
  have hstatic : methM.isStatic = true := Cond.static_spec hnamed hmethM hstat
  obtain ⟨kP, hkP, -⟩ := className_of_methodNamed hnamed
  have hinitP : kP.init = .initialized := Cond.initialized_spec (findClass_of_methodNamed hnamed) hkP hinit
  obtain ⟨vm₁, X₁, hstep₁⟩ := X.invokestatic hexec hown hlink hnamed hmethM hstatic hkP hinitP hy (g := g) hg (argsL := argsL) (rest := rest) (hlen _ hsigM) hstack hdg
  rcases hK m meth c ⟨T.setVm vm₁, locs, cells, slots⟩ { g with stack := rest } (.invokestatic index) mk argsL.toArray X₁ hg hsize hdg hW (X₁.named hnamed) (hpre vm₁ X₁.warmed) with ⟨v, B, X', hpost, hsteps⟩ | ⟨q, B, X', hpost, hsteps⟩
  · exact Or.inl ⟨v, vm₁, B, X₁.warmed, X', hpost, fun target h => hstep₁ _ fun acts => by rw [doInvoke_state]; exact hsteps.trans h⟩
  · exact Or.inr ⟨q, vm₁, B, X₁.warmed, X', hpost, hstep₁ _ fun acts => by rw [doInvoke_state]; exact hsteps⟩
end Calls
theorem vx_cls {s : State} {T : State} {vm₁ : Vm} {E : String} {k : ClassId} (hW : s.WarmedH vm₁) (h : (T.setVm vm₁).vm.findClass E = some k) : s.vm.findClass E = some k := by
  have h1 : vm₁.findClass E = some k := h
  rw [hW.alike.findClass] at h1
  exact h1
/-- the method's frame g, with q thrown over it -/
def vx_W (p : Program) (l : Launch) (e : Env) (R : Room) (s : State) (m : MethodId) (args : Array Value) (below : List Frame) (meth : Method) (c : Code) (H : Heap) (locs : List Loc) (cells slots : Nat) (Q : State → Prop) (g : JFrame) (q : Addr) : Prop :=
  ∀ T : State, T.heap = H → Stand p l e R s m args below meth c T locs cells slots → ∃ t, Steps p.tables e below ((T.setTop g).pushFrame (.throwing q)) t ∧ Q t
def vx_Run (p : Program) (l : Launch) (e : Env) (R : Room) (s : State) (m : MethodId) (args : Array Value) (below : List Frame) (meth : Method) (c : Code) (H : Heap) (locs : List Loc) (cells slots mc ms : Nat) (g : JFrame) (rest : List Value) (Qa : State → Outcome → State → Prop) (XC : String → State → State → Prop) (free : Addr → Prop) : Prop :=
  ∀ T : State, T.heap = H → Stand p l e R s m args below meth c T locs cells slots →
    (∃ (v : Option Value) (st₀ t T' : State) (L : List Loc), st₀.heap = H ∧ Stand p l e R s m args below meth c T' (locs ++ L) (cells + mc) (slots + ms) ∧ (∀ q ∈ L, free q.base) ∧ T'.heap = t.heap ∧ T'.vm = t.vm ∧ Qa st₀ (.returned v) t ∧
      Goes p e below T g T' { g with pc := g.pc + 3, stack := v.toList ++ rest }) ∨
    (∃ (q : Addr) (st₀ t T' : State) (L : List Loc) (E : String) (ce : Cell), st₀.heap = H ∧ Stand p l e R s m args below meth c T' (locs ++ L) (cells + mc) (slots + ms) ∧ (∀ z ∈ L, free z.base) ∧ T'.heap = t.heap ∧ T'.vm = t.vm ∧ XC E st₀ t ∧ t.heap[q]? = some ce ∧ ce.vm = .none ∧ s.vm.findClass E = some ce.cls ∧
      Steps p.tables e below (T.setTop g) ((T'.setTop { g with stack := rest }).pushFrame (.throwing q)))
def vx_X {S : Type} (px : S → Prop) (B : String → S → State → Prop) (A : Nat → Prop) : String → State → State → Prop := fun E st t => ∃ u : S, px u ∧ B E u t ∧ va_F A st t
section Runs
variable {p : Program} {l : Launch} {e : Env} {R : Room} {s : State} {m : MethodId} {args : Array Value} {below : List Frame} {meth : Method} {c : Code} {H : Heap} {locs : List Loc} {cells slots : Nat}
variable {y : MethodName} {bytes cc : ByteArray} {maxL nL mc ms n index : Nat} {ret : Option FieldType} {ws : List Cond} {rm : Room} {Pc : Array Value → State → Prop} {Qc : Array Value → State → Outcome → State → Prop} {XC : String → State → State → Prop} {free : Addr → Prop} {Ts : List Cond} {own C : String} {b : Addr} {As rest : List Value} {g : JFrame}
theorem vx_callBack (cb : CallB R s args own index y bytes maxL ret ws rm mc ms n) (hM : vx_Met l y ws rm Pc Qc XC mc ms free) (hbl : FrameBlind Pc) : vx_Back l R p e below s args y 3 8 (PreOf R mc ms Pc) (PostOf Qc mc ms free) (vx_Post XC mc ms free) := by
  obtain ⟨hrc, hrs, hfr, hlo, hws, hcw, -, hini, -⟩ := cb
  exact vx_back (bytes := bytes) (maxL := maxL) (ret := ret) hM hbl hrc hrs hfr hlo hws hcw (fun a' U hW => word_at hW (Or.inl (by first | rfl | simp [Cond.onTables, Cond.keeps, Cond.steady])) hini)
theorem vx_runV (S : CallFix p m c cc nL s args Ts own) (hM : vx_Met l y ws rm Pc Qc XC mc ms free) (cw : CallW R s args own C index y bytes maxL ret ws rm mc ms n) (hp : PreV s H C b Pc As)
    (hg : g.method = m) (hn : As.length = n) (hsize : g.locals.size = nL) (hstack : g.stack = As.reverse ++ .ref b :: rest) (hW : 2 * g.monitorRoom + (rest.map fun v => v.category).sum ≤ 8) (hdg : decode cc g.pc = .ok (.invokevirtual index, 3)) (hf : cells + mc ≤ R.cells ∧ slots + ms ≤ R.slots) :
    vx_Run p l e R s m args below meth c H locs cells slots mc ms g rest (Qc (Value.ref b :: As).toArray) XC free := by
  have hK : vx_Back l R p e below s args y 3 8 (PreOf R mc ms Pc) (PostOf Qc mc ms free) (vx_Post XC mc ms free) := vx_callBack cw.1 hM hp.1
  obtain ⟨⟨-, -, -, -, -, -, hcode, -, hy, hlen, hl⟩, hin, hse⟩ := cw
  obtain ⟨hx, hb, hml, ho, -⟩ := S
  obtain ⟨-, ⟨cellB, hcB, hoB, hclB⟩, hPc⟩ := hp
  intro T hT X
  rcases vx_callV X hx (C := C) (bytes := bytes) (maxL := maxL) (ret := ret) ho hl hin hse hcode hy hK (by rw [hT]; exact hcB) hoB hclB hg (hsize.trans hml.symm) (argsL := As) (rest := rest) (fun sig h => hn.trans (hlen sig h)) hstack hW (by rw [hb]; exact hdg)
    (fun vm₁ hW₁ => ⟨hf.1, hf.2, hPc (T.setVm vm₁) hT hW₁⟩) with ⟨v, vm₁, ⟨U', l2, c2, s2⟩, hW₁, X', ⟨g', mk, t, L, e1, e2, hq, h1, hL, h2, h3⟩, st⟩ | ⟨q, vm₁, ⟨U', l2, c2, s2⟩, hW₁, X', ⟨g', mk, t, L, E, ce, e1, e2, hq, hce, hcv, hcl, h1, hL, h2, h3⟩, st⟩
  · dsimp only [Pt.U, Pt.locs, Pt.cells, Pt.slots] at X' e1 e2 h1 h2 h3 st
    subst h1; subst h2; subst h3
    exact Or.inl ⟨v, (T.setVm vm₁).calling g' mk (Value.ref b :: As).toArray, t, U', L, hT, X', hL, e1, e2, hq, st⟩
  · dsimp only [Pt.U, Pt.locs, Pt.cells, Pt.slots] at X' e1 e2 h1 h2 h3 st hcl
    subst h1; subst h2; subst h3
    exact Or.inr ⟨q, (T.setVm vm₁).calling g' mk (Value.ref b :: As).toArray, t, U', L, E, ce, hT, X', hL, e1, e2, hq, hce, hcv, vx_cls hW₁ hcl, st⟩
theorem vx_runS (S : CallFix p m c cc nL s args Ts own) (hM : vx_Met l y ws rm Pc Qc XC mc ms free) (cw : CallB R s args own index y bytes maxL ret ws rm mc ms n ∧ (Cond.static y).before args s = true) (hp : PreS s H Pc As)
    (hg : g.method = m) (hn : As.length = n) (hsize : g.locals.size = nL) (hstack : g.stack = As.reverse ++ rest) (hW : 2 * g.monitorRoom + (rest.map fun v => v.category).sum ≤ 8) (hdg : decode cc g.pc = .ok (.invokestatic index, 3)) (hf : cells + mc ≤ R.cells ∧ slots + ms ≤ R.slots) :
    vx_Run p l e R s m args below meth c H locs cells slots mc ms g rest (Qc As.toArray) XC free := by
  have hK : vx_Back l R p e below s args y 3 8 (PreOf R mc ms Pc) (PostOf Qc mc ms free) (vx_Post XC mc ms free) := vx_callBack cw.1 hM hp.1
  obtain ⟨⟨-, -, -, -, -, -, hcode, hini, hy, hlen, hl⟩, hstt⟩ := cw
  obtain ⟨hx, hb, hml, ho, -⟩ := S
  intro T hT X
  rcases vx_callS X hx (bytes := bytes) (maxL := maxL) (ret := ret) ho hl hstt hini hcode hy hK hg (hsize.trans hml.symm) (argsL := As) (rest := rest) (fun sig h => hn.trans (hlen sig h)) hstack hW (by rw [hb]; exact hdg)
    (fun vm₁ hW₁ => ⟨hf.1, hf.2, hp.2 (T.setVm vm₁) hT hW₁⟩) with ⟨v, vm₁, ⟨U', l2, c2, s2⟩, hW₁, X', ⟨g', mk, t, L, e1, e2, hq, h1, hL, h2, h3⟩, st⟩ | ⟨q, vm₁, ⟨U', l2, c2, s2⟩, hW₁, X', ⟨g', mk, t, L, E, ce, e1, e2, hq, hce, hcv, hcl, h1, hL, h2, h3⟩, st⟩
  · dsimp only [Pt.U, Pt.locs, Pt.cells, Pt.slots] at X' e1 e2 h1 h2 h3 st
    subst h1; subst h2; subst h3
    exact Or.inl ⟨v, (T.setVm vm₁).calling g' mk As.toArray, t, U', L, hT, X', hL, e1, e2, hq, st⟩
  · dsimp only [Pt.U, Pt.locs, Pt.cells, Pt.slots] at X' e1 e2 h1 h2 h3 st hcl
    subst h1; subst h2; subst h3
    exact Or.inr ⟨q, (T.setVm vm₁).calling g' mk As.toArray, t, U', L, E, ce, hT, X', hL, e1, e2, hq, hce, hcv, vx_cls hW₁ hcl, st⟩
end Runs
section Rows
variable {p : Program} {l : Launch} {e : Env} {R : Room} {s : State} {m : MethodId} {args : Array Value} {below : List Frame} {meth : Method} {c : Code} {H : Heap} {locs : List Loc} {cells slots : Nat} {Q : State → Prop}
variable {mc ms : Nat} {free : Addr → Prop} {A0 A1 : Nat → Prop} {H0 : Heap} {a : Array Value} {pc : Nat} {ls : Array Slot} {st0 rest : List Value}
theorem vx_keep {st₀ t T' : State} {L : List Loc} (h0 : st₀.heap = H) (e1 : T'.heap = t.heap) (hS : va_S A0 H0 H locs) (hA : ∀ q, q < H.size → A1 q → A0 q) (hf : ∀ q, free q → A0 q) (hL : ∀ q ∈ L, free q.base) (hF : va_F A1 st₀ t) :
    H.size ≤ T'.heap.size ∧ (∀ q : Nat, q < H.size → ¬ A1 q → T'.heap[q]? = H[q]?) ∧ va_S A0 H0 T'.heap (locs ++ L) := by
  obtain ⟨hz, hk⟩ := hF
  rw [h0] at hz hk
  exact ⟨by rw [e1]; exact hz, fun q h1 h2 => by rw [e1]; exact hk q h1 h2,
    ⟨Nat.le_trans hS.1 (by rw [e1]; exact hz), fun q h1 h2 => by rw [e1, hk q (Nat.lt_of_lt_of_le h1 hS.1) (fun z => h2 (hA q (Nat.lt_of_lt_of_le h1 hS.1) z))]; exact hS.2.1 q h1 h2, fun q hq => by
      rcases List.mem_append.mp hq with h | h
      · exact hS.2.2 q h
      · exact hf _ (hL q h)⟩⟩
theorem vx_calli {S SX : Type} {post : Int32 → S → Prop} {px : SX → Prop} {B : S → State → Prop} {BX : String → SX → State → Prop} {AX : Nat → Prop} (hr : vx_Run p l e R s m args below meth c H locs cells slots mc ms (F0 m pc ls st0) rest (va_Qi post B A1 a) (vx_X px BX AX) free) (hS : va_S A0 H0 H locs) (hA : ∀ q, q < H.size → A1 q → A0 q) (hf : ∀ q, free q → A0 q) (hAX : ∀ q, q < H.size → AX q → A0 q)
    (kx : ∀ (E : String) (ce : Cell) (q9 : Addr) (u : SX) (t : State) (H1 : Heap) (locs1 : List Loc), t.heap = H1 → s.vm.Alike t.vm → px u → BX E u t → H.size ≤ H1.size → (∀ q : Nat, q < H.size → ¬ AX q → H1[q]? = H[q]?) → va_S A0 H0 H1 locs1 → H1[q9]? = some ce → ce.vm = .none → s.vm.findClass E = some ce.cls → vx_W p l e R s m args below meth c H1 locs1 (cells + mc) (slots + ms) Q (F0 m pc ls rest) q9)
    (kk : ∀ (r : Int32) (u : S) (t : State) (H1 : Heap) (locs1 : List Loc), t.heap = H1 → s.vm.Alike t.vm → post r u → B u t → H.size ≤ H1.size → (∀ q : Nat, q < H.size → ¬ A1 q → H1[q]? = H[q]?) → va_S A0 H0 H1 locs1 → W p l e R s m args below meth c H1 locs1 (cells + mc) (slots + ms) Q (F0 m (pc + 3) ls (.int r :: rest))) : W p l e R s m args below meth c H locs cells slots Q (F0 m pc ls st0) := by
  intro T hT X
  rcases hr T hT X with ⟨v, st₀, t, T', L, h0, X', hL, e1, e2, ⟨⟨r, u, hv, hp, hb⟩, hF⟩, st⟩ | ⟨q, st₀, t, T', L, E, ce, h0, X', hL, e1, e2, ⟨u, hp, hb, hF⟩, hce, hcv, hcl, st⟩
  · cases hv
    obtain ⟨k1, k2, k3⟩ := vx_keep h0 e1 hS hA hf hL hF
    obtain ⟨t2, a1, b1⟩ := kk r u t T'.heap (locs ++ L) e1.symm (by rw [← e2]; exact X'.warmed.alike) hp hb k1 k2 k3 T' rfl X'
    exact ⟨t2, st t2 a1, b1⟩
  · obtain ⟨k1, k2, k3⟩ := vx_keep h0 e1 hS hAX hf hL hF
    obtain ⟨t2, a1, b1⟩ := kx E ce q u t T'.heap (locs ++ L) e1.symm (by rw [← e2]; exact X'.warmed.alike) hp hb k1 k2 k3 (by rw [e1]; exact hce) hcv hcl T' rfl X'
    exact ⟨t2, st.trans a1, b1⟩
theorem vx_calll {S SX : Type} {post : Int64 → S → Prop} {px : SX → Prop} {B : S → State → Prop} {BX : String → SX → State → Prop} {AX : Nat → Prop} (hr : vx_Run p l e R s m args below meth c H locs cells slots mc ms (F0 m pc ls st0) rest (va_Ql post B A1 a) (vx_X px BX AX) free) (hS : va_S A0 H0 H locs) (hA : ∀ q, q < H.size → A1 q → A0 q) (hf : ∀ q, free q → A0 q) (hAX : ∀ q, q < H.size → AX q → A0 q)
    (kx : ∀ (E : String) (ce : Cell) (q9 : Addr) (u : SX) (t : State) (H1 : Heap) (locs1 : List Loc), t.heap = H1 → s.vm.Alike t.vm → px u → BX E u t → H.size ≤ H1.size → (∀ q : Nat, q < H.size → ¬ AX q → H1[q]? = H[q]?) → va_S A0 H0 H1 locs1 → H1[q9]? = some ce → ce.vm = .none → s.vm.findClass E = some ce.cls → vx_W p l e R s m args below meth c H1 locs1 (cells + mc) (slots + ms) Q (F0 m pc ls rest) q9)
    (kk : ∀ (r : Int64) (u : S) (t : State) (H1 : Heap) (locs1 : List Loc), t.heap = H1 → s.vm.Alike t.vm → post r u → B u t → H.size ≤ H1.size → (∀ q : Nat, q < H.size → ¬ A1 q → H1[q]? = H[q]?) → va_S A0 H0 H1 locs1 → W p l e R s m args below meth c H1 locs1 (cells + mc) (slots + ms) Q (F0 m (pc + 3) ls (.long r :: rest))) : W p l e R s m args below meth c H locs cells slots Q (F0 m pc ls st0) := by
  intro T hT X
  rcases hr T hT X with ⟨v, st₀, t, T', L, h0, X', hL, e1, e2, ⟨⟨r, u, hv, hp, hb⟩, hF⟩, st⟩ | ⟨q, st₀, t, T', L, E, ce, h0, X', hL, e1, e2, ⟨u, hp, hb, hF⟩, hce, hcv, hcl, st⟩
  · cases hv
    obtain ⟨k1, k2, k3⟩ := vx_keep h0 e1 hS hA hf hL hF
    obtain ⟨t2, a1, b1⟩ := kk r u t T'.heap (locs ++ L) e1.symm (by rw [← e2]; exact X'.warmed.alike) hp hb k1 k2 k3 T' rfl X'
    exact ⟨t2, st t2 a1, b1⟩
  · obtain ⟨k1, k2, k3⟩ := vx_keep h0 e1 hS hAX hf hL hF
    obtain ⟨t2, a1, b1⟩ := kx E ce q u t T'.heap (locs ++ L) e1.symm (by rw [← e2]; exact X'.warmed.alike) hp hb k1 k2 k3 (by rw [e1]; exact hce) hcv hcl T' rfl X'
    exact ⟨t2, st.trans a1, b1⟩
theorem vx_callf {S SX : Type} {post : UInt32 → S → Prop} {px : SX → Prop} {B : S → State → Prop} {BX : String → SX → State → Prop} {AX : Nat → Prop} (hr : vx_Run p l e R s m args below meth c H locs cells slots mc ms (F0 m pc ls st0) rest (va_Qf post B A1 a) (vx_X px BX AX) free) (hS : va_S A0 H0 H locs) (hA : ∀ q, q < H.size → A1 q → A0 q) (hf : ∀ q, free q → A0 q) (hAX : ∀ q, q < H.size → AX q → A0 q)
    (kx : ∀ (E : String) (ce : Cell) (q9 : Addr) (u : SX) (t : State) (H1 : Heap) (locs1 : List Loc), t.heap = H1 → s.vm.Alike t.vm → px u → BX E u t → H.size ≤ H1.size → (∀ q : Nat, q < H.size → ¬ AX q → H1[q]? = H[q]?) → va_S A0 H0 H1 locs1 → H1[q9]? = some ce → ce.vm = .none → s.vm.findClass E = some ce.cls → vx_W p l e R s m args below meth c H1 locs1 (cells + mc) (slots + ms) Q (F0 m pc ls rest) q9)
    (kk : ∀ (r : UInt32) (u : S) (t : State) (H1 : Heap) (locs1 : List Loc), t.heap = H1 → s.vm.Alike t.vm → post r u → B u t → H.size ≤ H1.size → (∀ q : Nat, q < H.size → ¬ A1 q → H1[q]? = H[q]?) → va_S A0 H0 H1 locs1 → W p l e R s m args below meth c H1 locs1 (cells + mc) (slots + ms) Q (F0 m (pc + 3) ls (.float r :: rest))) : W p l e R s m args below meth c H locs cells slots Q (F0 m pc ls st0) := by
  intro T hT X
  rcases hr T hT X with ⟨v, st₀, t, T', L, h0, X', hL, e1, e2, ⟨⟨r, u, hv, hp, hb⟩, hF⟩, st⟩ | ⟨q, st₀, t, T', L, E, ce, h0, X', hL, e1, e2, ⟨u, hp, hb, hF⟩, hce, hcv, hcl, st⟩
  · cases hv
    obtain ⟨k1, k2, k3⟩ := vx_keep h0 e1 hS hA hf hL hF
    obtain ⟨t2, a1, b1⟩ := kk r u t T'.heap (locs ++ L) e1.symm (by rw [← e2]; exact X'.warmed.alike) hp hb k1 k2 k3 T' rfl X'
    exact ⟨t2, st t2 a1, b1⟩
  · obtain ⟨k1, k2, k3⟩ := vx_keep h0 e1 hS hAX hf hL hF
    obtain ⟨t2, a1, b1⟩ := kx E ce q u t T'.heap (locs ++ L) e1.symm (by rw [← e2]; exact X'.warmed.alike) hp hb k1 k2 k3 (by rw [e1]; exact hce) hcv hcl T' rfl X'
    exact ⟨t2, st.trans a1, b1⟩
theorem vx_calld {S SX : Type} {post : UInt64 → S → Prop} {px : SX → Prop} {B : S → State → Prop} {BX : String → SX → State → Prop} {AX : Nat → Prop} (hr : vx_Run p l e R s m args below meth c H locs cells slots mc ms (F0 m pc ls st0) rest (va_Qd post B A1 a) (vx_X px BX AX) free) (hS : va_S A0 H0 H locs) (hA : ∀ q, q < H.size → A1 q → A0 q) (hf : ∀ q, free q → A0 q) (hAX : ∀ q, q < H.size → AX q → A0 q)
    (kx : ∀ (E : String) (ce : Cell) (q9 : Addr) (u : SX) (t : State) (H1 : Heap) (locs1 : List Loc), t.heap = H1 → s.vm.Alike t.vm → px u → BX E u t → H.size ≤ H1.size → (∀ q : Nat, q < H.size → ¬ AX q → H1[q]? = H[q]?) → va_S A0 H0 H1 locs1 → H1[q9]? = some ce → ce.vm = .none → s.vm.findClass E = some ce.cls → vx_W p l e R s m args below meth c H1 locs1 (cells + mc) (slots + ms) Q (F0 m pc ls rest) q9)
    (kk : ∀ (r : UInt64) (u : S) (t : State) (H1 : Heap) (locs1 : List Loc), t.heap = H1 → s.vm.Alike t.vm → post r u → B u t → H.size ≤ H1.size → (∀ q : Nat, q < H.size → ¬ A1 q → H1[q]? = H[q]?) → va_S A0 H0 H1 locs1 → W p l e R s m args below meth c H1 locs1 (cells + mc) (slots + ms) Q (F0 m (pc + 3) ls (.double r :: rest))) : W p l e R s m args below meth c H locs cells slots Q (F0 m pc ls st0) := by
  intro T hT X
  rcases hr T hT X with ⟨v, st₀, t, T', L, h0, X', hL, e1, e2, ⟨⟨r, u, hv, hp, hb⟩, hF⟩, st⟩ | ⟨q, st₀, t, T', L, E, ce, h0, X', hL, e1, e2, ⟨u, hp, hb, hF⟩, hce, hcv, hcl, st⟩
  · cases hv
    obtain ⟨k1, k2, k3⟩ := vx_keep h0 e1 hS hA hf hL hF
    obtain ⟨t2, a1, b1⟩ := kk r u t T'.heap (locs ++ L) e1.symm (by rw [← e2]; exact X'.warmed.alike) hp hb k1 k2 k3 T' rfl X'
    exact ⟨t2, st t2 a1, b1⟩
  · obtain ⟨k1, k2, k3⟩ := vx_keep h0 e1 hS hAX hf hL hF
    obtain ⟨t2, a1, b1⟩ := kx E ce q u t T'.heap (locs ++ L) e1.symm (by rw [← e2]; exact X'.warmed.alike) hp hb k1 k2 k3 (by rw [e1]; exact hce) hcv hcl T' rfl X'
    exact ⟨t2, st.trans a1, b1⟩
theorem vx_callv {S SX : Type} {post : S → Prop} {px : SX → Prop} {B : S → State → Prop} {BX : String → SX → State → Prop} {AX : Nat → Prop} (hr : vx_Run p l e R s m args below meth c H locs cells slots mc ms (F0 m pc ls st0) rest (va_Qv post B A1 a) (vx_X px BX AX) free) (hS : va_S A0 H0 H locs) (hA : ∀ q, q < H.size → A1 q → A0 q) (hf : ∀ q, free q → A0 q) (hAX : ∀ q, q < H.size → AX q → A0 q)
    (kx : ∀ (E : String) (ce : Cell) (q9 : Addr) (u : SX) (t : State) (H1 : Heap) (locs1 : List Loc), t.heap = H1 → s.vm.Alike t.vm → px u → BX E u t → H.size ≤ H1.size → (∀ q : Nat, q < H.size → ¬ AX q → H1[q]? = H[q]?) → va_S A0 H0 H1 locs1 → H1[q9]? = some ce → ce.vm = .none → s.vm.findClass E = some ce.cls → vx_W p l e R s m args below meth c H1 locs1 (cells + mc) (slots + ms) Q (F0 m pc ls rest) q9)
    (kk : ∀ (u : S) (t : State) (H1 : Heap) (locs1 : List Loc), t.heap = H1 → s.vm.Alike t.vm → post u → B u t → H.size ≤ H1.size → (∀ q : Nat, q < H.size → ¬ A1 q → H1[q]? = H[q]?) → va_S A0 H0 H1 locs1 → W p l e R s m args below meth c H1 locs1 (cells + mc) (slots + ms) Q (F0 m (pc + 3) ls (rest))) : W p l e R s m args below meth c H locs cells slots Q (F0 m pc ls st0) := by
  intro T hT X
  rcases hr T hT X with ⟨v, st₀, t, T', L, h0, X', hL, e1, e2, ⟨⟨u, hv, hp, hb⟩, hF⟩, st⟩ | ⟨q, st₀, t, T', L, E, ce, h0, X', hL, e1, e2, ⟨u, hp, hb, hF⟩, hce, hcv, hcl, st⟩
  · cases hv
    obtain ⟨k1, k2, k3⟩ := vx_keep h0 e1 hS hA hf hL hF
    obtain ⟨t2, a1, b1⟩ := kk u t T'.heap (locs ++ L) e1.symm (by rw [← e2]; exact X'.warmed.alike) hp hb k1 k2 k3 T' rfl X'
    exact ⟨t2, st t2 a1, b1⟩
  · obtain ⟨k1, k2, k3⟩ := vx_keep h0 e1 hS hAX hf hL hF
    obtain ⟨t2, a1, b1⟩ := kx E ce q u t T'.heap (locs ++ L) e1.symm (by rw [← e2]; exact X'.warmed.alike) hp hb k1 k2 k3 (by rw [e1]; exact hce) hcv hcl T' rfl X'
    exact ⟨t2, st.trans a1, b1⟩
end Rows
section Ends
variable {p : Program} {l : Launch} {e : Env} {R : Room} {s : State} {m : MethodId} {args : Array Value} {below : List Frame} {meth : Method} {c : Code} {H : Heap} {locs : List Loc} {cells slots : Nat} {Q : State → Prop}
variable {mc ms : Nat} {free : Addr → Prop} {A0 A1 : Nat → Prop} {H0 : Heap} {a : Array Value} {ls : Array Slot} {st0 rest : List Value}
variable {Qc : Array Value → State → Outcome → State → Prop} {XC : String → State → State → Prop}
/-- what a body that may throw owes at its end -/
def vx_MQ (below : List Frame) (Qc : Array Value → State → Outcome → State → Prop) (XC : String → State → State → Prop) (a : Array Value) (s : State) (mc ms : Nat) (free : Addr → Prop) : State → Prop := fun t =>
  ∃ o, t.status = .running ∧ Ended t below o ∧ vx_Q Qc XC mc ms free a s o t
theorem vx_ret {g : JFrame} {mc ms : Nat} (k : W p l e R s m args below meth c H locs cells slots (MQ below Qc args s mc ms free) g) : W p l e R s m args below meth c H locs cells slots (vx_MQ below Qc XC args s mc ms free) g := by
  intro T hT X
  obtain ⟨t, a1, o, b1, b2, b3, b4⟩ := k T hT X
  exact ⟨t, a1, o, b1, b2, Or.inl ⟨b3, b4⟩⟩
/-- not caught here: it goes on to the caller -/
theorem vx_widen {g : JFrame} {q : Addr} {k n : Nat} (h1 : cells ≤ k) (h2 : slots ≤ n) (kk : vx_W p l e R s m args below meth c H locs k n Q g q) : vx_W p l e R s m args below meth c H locs cells slots Q g q := fun T hT X => kk T hT (stand_widen X h1 h2)
theorem vx_out {pc : Nat} {E : String} {ce : Cell} {q : Addr} {mc ms : Nat} (hout : ∀ x ∈ c.exceptionTable.toList, covers x pc = false) (hlocks : meth.locks = false) (hcell : H[q]? = some ce) (hv : ce.vm = .none) (hcl : s.vm.findClass E = some ce.cls)
    (hx : ∀ t : State, t.heap = H → s.vm.Alike t.vm → XC E s t) (hf : ∀ z ∈ locs, free z.base) (hc : cells ≤ mc) (hs : slots ≤ ms) :
    vx_W p l e R s m args below meth c H locs cells slots (vx_MQ below Qc XC args s mc ms free) (F0 m pc ls rest) q := by
  intro T hT X
  obtain ⟨st1, hrun, hend, hW, hsm⟩ := X.leaveThrown q (g := F0 m pc ls rest) rfl rfl rfl hout hlocks
  have hcell9 : (T.setFrames (.throwing q :: below)).heap[q]? = some ce := by
    show T.heap[q]? = some ce
    rw [hT]; exact hcell
  exact ⟨_, st1, .threw q, hrun, hend, Or.inr ⟨q, rfl, E, ce, locs, hx _ hT hW.alike, hcell9, hv, hcl, hW, hsm.mono hc hs, hf⟩⟩
theorem vx_frame {U : State} {k n : Nat} (h : s.sameButNew ({ U with vm := s.vm } : State) locs k n) : s.heap.size ≤ U.heap.size ∧ ∀ q : Nat, q < s.heap.size → (∀ z ∈ locs, z.base ≠ q) → U.heap[q]? = s.heap[q]? := by
  obtain ⟨-, h2, -, -, -, h6⟩ := h
  refine ⟨h2, fun q hq hz => ?_⟩
  obtain ⟨c9, e1, e2, e3, e4⟩ := h6 q _ (Array.getElem?_eq_getElem hq)
  have hs : c9.slots = (s.heap[q]).slots := Array.ext_getElem? fun i => e4 i fun hm => hz _ hm rfl
  have h9 : c9 = s.heap[q] := by
    rw [hs] at e2
    exact e2
  have e5 : U.heap[q]? = some c9 := e1
  rw [e5, h9, Array.getElem?_eq_getElem hq]
/-- the words of a throw but the four that speak of the heap -/
def vx_no (w : Cond) : Bool := decide (w ≠ .isRef (.static Bundle.tN "UNASSIGNED_STACK" Bundle.steD)) && decide (w ≠ .isRef (.static Bundle.tN "SUPPRESSED_SENTINEL" Bundle.listD)) && decide (w ≠ .laysStatic Bundle.tN "UNASSIGNED_STACK" Bundle.steD) && decide (w ≠ .laysStatic Bundle.tN "SUPPRESSED_SENTINEL" Bundle.listD)
def vx_at0 (own : String) (ic : Nat) (X : String) (names : List String) : List Cond := (Bundle.ownAtoms0 own ic X names).filter vx_no
def vx_atS (own : String) (ic : Nat) (X : String) (names : List String) : List Cond := (Bundle.ownAtoms own ic X names).filter vx_no
/-- a word that the tables alone decide, or a good one -/
def vx_ot (w : Cond) : Bool := w.onTables || goodWord w
theorem vx_ot_at {args a' : Array Value} {s U : State} {w : Cond} (hW : s.WarmedH U.vm) (hvm : s.vm = U.vm) (hg : vx_ot w = true) (h : w.before args s = true) : w.before a' U = true := by
  simp only [vx_ot, Bool.or_eq_true] at hg
  rcases hg with hg | hg
  · exact va_tabs hg hvm h
  · exact word_at hW (good_of_word hg) h
/-- a list's words: the good ones out of the method's own list, the others by premises of their own -/
theorem vx_hat {args : Array Value} {s : State} {L B : List Cond} (h1 : ∀ w ∈ L.filter goodWord, w.before args s = true) (h2 : ∀ w ∈ L.filter (fun w => !goodWord w), w ∈ B) (h3 : ∀ w ∈ B, w.before args s = true) : ∀ w ∈ L, w.before args s = true := by
  intro w hw
  by_cases g : goodWord w = true
  · exact h1 w (List.mem_filter.mpr ⟨hw, g⟩)
  · refine h3 w (h2 w (List.mem_filter.mpr ⟨hw, ?_⟩))
    show (!goodWord w) = true
    cases hgw : goodWord w
    · rfl
    · exact absurd hgw g
theorem vx_c {args : Array Value} {s : State} {w : Cond} {B : List Cond} (h : w.before args s = true) (t : ∀ w ∈ B, w.before args s = true) : ∀ w' ∈ w :: B, w'.before args s = true := fun w' h' => (List.mem_cons.mp h').elim (fun e => by rw [e]; exact h) (t w')
theorem vx_n {args : Array Value} {s : State} : ∀ w ∈ ([] : List Cond), w.before args s = true := fun _ h => nomatch h
theorem vx_own {args : Array Value} {s : State} {L : List Cond} (h1 : ∀ w ∈ L.filter vx_no, w.before args s = true)
    (hU : (Cond.isRef (.static Bundle.tN "UNASSIGNED_STACK" Bundle.steD)).before args s = true) (hN : (Cond.isRef (.static Bundle.tN "SUPPRESSED_SENTINEL" Bundle.listD)).before args s = true)
    (lU : (Cond.laysStatic Bundle.tN "UNASSIGNED_STACK" Bundle.steD).before args s = true) (lN : (Cond.laysStatic Bundle.tN "SUPPRESSED_SENTINEL" Bundle.listD).before args s = true) : ∀ w ∈ L, w.before args s = true := by
  intro w hw
  by_cases e1 : w = .isRef (.static Bundle.tN "UNASSIGNED_STACK" Bundle.steD)
  · rw [e1]; exact hU
  · by_cases e2 : w = .isRef (.static Bundle.tN "SUPPRESSED_SENTINEL" Bundle.listD)
    · rw [e2]; exact hN
    · by_cases e3 : w = .laysStatic Bundle.tN "UNASSIGNED_STACK" Bundle.steD
      · rw [e3]; exact lU
      · by_cases e4 : w = .laysStatic Bundle.tN "SUPPRESSED_SENTINEL" Bundle.listD
        · rw [e4]; exact lN
        · exact h1 w (List.mem_filter.mpr ⟨hw, by unfold vx_no; rw [decide_eq_true e1, decide_eq_true e2, decide_eq_true e3, decide_eq_true e4]; rfl⟩)
/-- where a static field lies, its class's statics cell in H -/
def vx_L (C n d : String) (A : Nat → Prop) (U : State) (H : Heap) : Prop := ∃ (c : ClassId) (k : Class) (i : Nat) (f : Field) (a : Nat) (cell : Cell), U.vm.findClass C = some c ∧ U.fieldFound? C n d = some (c, k, i, f) ∧ f.isStatic = true ∧ k.statics = some a ∧ H[a]? = some cell ∧ cell.vm.isStatics = true ∧ cell.cls = c ∧ f.slot < cell.slots.size ∧ k.staticTypes[f.slot]? = some f.type ∧ ¬ A a
theorem vx_L.moved {C n d : String} {A : Nat → Prop} {u U : State} {H : Heap} (hvm : u.vm.Alike U.vm) (h : vx_L C n d A u H) : vx_L C n d A U H := by
  obtain ⟨c, k, i, f, a, cell, h1, h2, h3, h4, h5, h6, h7, h8, h9, h10⟩ := h
  obtain ⟨k', hi', he⟩ := State.fieldFound?_setVm hvm h2
  exact ⟨c, k', i, f, a, cell, by rw [hvm.findClass]; exact h1, hi', h3, by rw [he]; exact h4, h5, h6, h7, h8, by rw [he]; exact h9, h10⟩
theorem vx_L.kept {C n d : String} {A : Nat → Prop} {U : State} {H H1 : Heap} (h : vx_L C n d A U H) (hq : ∀ a : Nat, a < H.size → ¬ A a → H1[a]? = H[a]?) : vx_L C n d A U H1 := by
  obtain ⟨c, k, i, f, a, cell, h1, h2, h3, h4, h5, h6, h7, h8, h9, h10⟩ := h
  exact ⟨c, k, i, f, a, cell, h1, h2, h3, h4, by rw [hq a (Array.getElem?_eq_some_iff.mp h5).1 h10]; exact h5, h6, h7, h8, h9, h10⟩
theorem vx_L.narrow {C n d : String} {A B : Nat → Prop} {U : State} {H : Heap} (h : vx_L C n d A U H) (hAB : ∀ q, B q → A q) : vx_L C n d B U H := by
  obtain ⟨c, k, i, f, a, cell, h1, h2, h3, h4, h5, h6, h7, h8, h9, h10⟩ := h
  exact ⟨c, k, i, f, a, cell, h1, h2, h3, h4, h5, h6, h7, h8, h9, fun z => h10 (hAB _ z)⟩
theorem vx_L.word {C n d : String} {A : Nat → Prop} {s : State} {args : Array Value} (h : vx_L C n d A s s.heap) : (Cond.laysStatic C n d).before args s = true := by
  obtain ⟨c, k, i, f, a, cell, h1, h2, h3, h4, h5, h6, h7, h8, h9, -⟩ := h
  show (Cond.laysStatic C n d).holds args s none s [] = true
  exact Cond.laysStatic_of h1 h2 h3 h4 h5 h6 h7 h8 h9
/-- .. and what it holds: null or some reference -/
def vx_Zq (C n d : String) (A : Nat → Prop) (U : State) (H : Heap) : Prop := va_Zq C n d A U H ∧ vx_L C n d A U H
theorem vx_Zq.moved {C n d : String} {A : Nat → Prop} {u U : State} {H : Heap} (hvm : u.vm.Alike U.vm) (h : vx_Zq C n d A u H) : vx_Zq C n d A U H := ⟨va_Zq.moved hvm h.1, vx_L.moved hvm h.2⟩
theorem vx_Zq.kept {C n d : String} {A : Nat → Prop} {U : State} {H H1 : Heap} (h : vx_Zq C n d A U H) (hq : ∀ a : Nat, a < H.size → ¬ A a → H1[a]? = H[a]?) : vx_Zq C n d A U H1 := ⟨va_Zq.kept h.1 hq, vx_L.kept h.2 hq⟩
theorem vx_Zq.narrow {C n d : String} {A B : Nat → Prop} {U : State} {H : Heap} (h : vx_Zq C n d A U H) (hAB : ∀ q, B q → A q) : vx_Zq C n d B U H := ⟨va_Zq.narrow h.1 hAB, vx_L.narrow h.2 hAB⟩
theorem vx_Zqof {args : Array Value} {s : State} {C n d : String} {A : Nat → Prop} (hl : (Cond.laysStatic C n d).before args s = true) (hini : (Cond.initialized C).before args s = true) (h : (Cond.isRef (.static C n d)).before args s = true) (hA : ∀ a : Nat, a < s.heap.size → ¬ A a) : vx_Zq C n d A s s.heap := by
  refine ⟨va_Zqof hl hini h hA, ?_⟩
  obtain ⟨c, k, i, f, a, cell, h1, h2, h3, h4, h5, h6, h7, h8, h9⟩ := Cond.laysStatic_spec hl
  exact ⟨c, k, i, f, a, cell, h1, h2, h3, h4, h5, h6, h7, h8, h9, hA a (Array.getElem?_eq_some_iff.mp h5).1⟩
theorem vx_isRef {C n d : String} {v : Value} {A : Nat → Prop} {s : State} {args : Array Value} (h : va_Z C n d v A s s.heap) (hv : v.isRef = true) : (Cond.isRef (.static C n d)).before args s = true := by
  obtain ⟨cf, kf, fi, f, a, cell, h1, h2, h3, h4, h5, h6, h7, -⟩ := h
  have he : (Term.static C n d).eval args s none [] s = some v := by
    simp [Term.eval, State.fieldNamed?, h1, h2, h4, h5, h6, h7]
  simp only [Cond.before, Cond.holds, Cond.value, he]
  cases v <;> simp_all [Value.isRef]
theorem vx_isRefq {C n d : String} {A : Nat → Prop} {s : State} {args : Array Value} (h : va_Zq C n d A s s.heap) : (Cond.isRef (.static C n d)).before args s = true := by
  rcases h with h | ⟨t, h⟩
  · exact vx_isRef h rfl
  · exact vx_isRef h rfl
/-- the same frame, seen from here: as if the method were called anew in this heap -/
theorem vx_rebase {T : State} (X : Stand p l e R s m args below meth c T locs cells slots) {R' : Room} (hf : R'.frames ≤ R.frames) (hl : R'.locals ≤ R.locals) (hc : cells + R'.cells ≤ R.cells) (hs : slots + R'.slots ≤ R.slots) :
    Stand p l e R' ((T.setVm s.vm).setFrames (.invoking m args :: below)) m args below meth c T [] 0 0 := by
  have htop : (T.setVm s.vm).topJava?.isSome := X.here.top
  have hF : ((T.setVm s.vm).setFrames (.invoking m args :: below)).frames = .invoking m args :: below := State.frames_setFrames _ (State.cur_lt_of_top htop)
  obtain ⟨g₀, hg0⟩ := Option.isSome_iff_exists.mp htop
  obtain ⟨r, hr⟩ := State.topJava?_eq_some.mp hg0
  have hl9 : e.platform.stackLimits (T.setVm s.vm).me = e.platform.stackLimits s.me := X.limits
  have hb9 : (T.setVm s.vm).me.stackBytes = s.me.stackBytes := X.bytes
  refine ⟨X.admits, X.cas, X.clock, hF, ?_, X.hears, X.method, X.code, X.here, X.tail, X.warmed, ?_, ?_, ?_⟩
  · have h := X.room
    have hU : ((T.setVm s.vm).setFrames (.invoking m args :: below)).localsInUse = s.localsInUse := by
      rw [State.localsInUse_invoking hF (meth := meth) (c := c) X.method X.code, State.localsInUse_invoking X.frames X.method X.code]
    simp only [State.hasRoom, Bool.and_eq_true, decide_eq_true_eq] at h ⊢
    obtain ⟨⟨⟨⟨h1, h2, h3, h4, h5, h6⟩, h7⟩, h8⟩, h9⟩ := h
    rw [X.frames, List.length_cons] at h2 h3
    have q1 := X.heapSize
    have q2 := X.used
    simp only [hF, hU, List.length_cons, State.stackLimits_setFrames, State.stackBytes_setFrames, hl9, hb9]
    refine ⟨⟨⟨⟨by omega, by omega, by omega, by omega, by omega, h6⟩, ?_⟩, ?_⟩, X.book⟩
    · show T.heap.size + R'.cells ≤ e.platform.maxCells
      omega
    · show T.slotsUsed + R'.slots ≤ e.platform.maxSlots
      omega
  · rw [State.stackLimits_setFrames]; rfl
  · rw [State.stackBytes_setFrames]; rfl
  · refine ⟨?_, Nat.le_refl _, Nat.le_refl _, ?_, ?_, fun a c9 h9 => ⟨c9, h9, rfl, rfl, fun _ _ => rfl⟩⟩
    · obtain ⟨t, ht, -⟩ := State.frames_cons hr
      show T.setVm s.vm = { ((T.setVm s.vm).setFrames (.invoking m args :: below)).setFrames (T.setVm s.vm).frames with heap := T.heap, slotsUsed := T.slotsUsed }
      rw [State.setFrames_setFrames, State.setFrames_self ht]
      rfl
    · show T.slotsUsed = T.slotsUsed + ((T.heap.toList.drop T.heap.size).map (·.slots.size)).sum
      rw [List.drop_eq_nil_of_le (Nat.le_of_eq Array.length_toList)]
      rfl
    · show ((T.heap.toList.drop T.heap.size).map (·.slots.size)).sum ≤ 0
      rw [List.drop_eq_nil_of_le (Nat.le_of_eq Array.length_toList)]
      exact Nat.le_refl _
/-- 'throw new E()': new; dup; invokespecial; athrow -/
theorem vx_throw0 {cc : ByteArray} {pc : Nat} (hexec : p.tables.exec = Jvm.exec) (hb : c.code = cc) (hl : l.stackTraces = false) {own cls : String} {names : List String} {ik ic mc ms : Nat} {A : Nat → Prop}
    (hown : s.vm.findClass own = some m.cls) (hcls : Bundle.fit cls = true) (hnames : ∀ n ∈ names, Bundle.fit n = true)
    (hk : (Cond.classLink own ik cls).before args s = true) (hini : (Cond.initialized cls).before args s = true) (hat : ∀ w ∈ vx_at0 own ic cls names, w.before args s = true)
    (hgood : ∀ w ∈ Cond.classLink own ik cls :: Cond.initialized cls :: vx_at0 own ic cls names, vx_ot w = true)
    (hU : vx_Zq Bundle.tN "UNASSIGNED_STACK" Bundle.steD A s s.heap) (hN : vx_Zq Bundle.tN "SUPPRESSED_SENTINEL" Bundle.listD A s s.heap) (hS : va_S A s.heap H locs) (hsize : ls.size = c.maxLocals)
    (d0 : decode cc pc = .ok (.new ik, 3)) (d3 : decode cc (pc + 3) = .ok (.dup, 1)) (d4 : decode cc (pc + 4) = .ok (.invokespecial ic, 3)) (d7 : decode cc (pc + 7) = .ok (.athrow, 1))
    (hout : ∀ x ∈ c.exceptionTable.toList, covers x (pc + 7) = false)
    (hRframes : names.length + 3 < R.frames) (hRlocals : (rest.map fun v => v.category).sum + (13 * (names.length + 1) + 42) ≤ R.locals) (hRcells : cells + 1 ≤ R.cells) (hRslots : slots + 6 ≤ R.slots) (hlocks : meth.locks = false)
    (hx : ∀ t : State, s.vm.Alike t.vm → H.size ≤ t.heap.size → (∀ q : Nat, q < H.size → t.heap[q]? = H[q]?) → XC cls s t)
    (hf : ∀ z ∈ locs, free z.base) (hc : cells + 1 ≤ mc) (hs : slots + 6 ≤ ms) :
    W p l e R s m args below meth c H locs cells slots (vx_MQ below Qc XC args s mc ms free) (F0 m pc ls rest) := by
  intro T hT X
  have htr : e.platform.stackTraces = false := (show e.platform.stackTraces = l.stackTraces by rw [X.admits.platform]).trans hl
  have Y := vx_rebase X (R' := { frames := R.frames, locals := R.locals, cells := 1, slots := 6 }) (Nat.le_refl _) (Nat.le_refl _) hRcells hRslots
  obtain ⟨s', hA⟩ : ∃ z, z = (T.setVm s.vm).setFrames (.invoking m args :: below) := ⟨_, rfl⟩
  rw [← hA] at Y
  have hvm : s'.vm = s.vm := by rw [hA]; rfl
  have hhp : s'.heap = H := by rw [hA]; exact hT
  have hW0 : s.WarmedH s'.vm := by rw [hvm]; exact State.WarmedH.refl s
  have hat' : ∀ w ∈ vx_at0 own ic cls names, w.before args s' = true := fun w hw => vx_ot_at hW0 hvm.symm (hgood w (List.mem_cons_of_mem _ (List.mem_cons_of_mem _ hw))) (hat w hw)
  have hk' : (Cond.classLink own ik cls).before args s' = true := vx_ot_at hW0 hvm.symm (hgood _ List.mem_cons_self) hk
  have hini' : (Cond.initialized cls).before args s' = true := vx_ot_at hW0 hvm.symm (hgood _ (List.mem_cons_of_mem _ List.mem_cons_self)) hini
  have hU' : vx_Zq Bundle.tN "UNASSIGNED_STACK" Bundle.steD A s' s'.heap := by rw [hhp]; exact vx_Zq.moved hW0.alike (hU.kept hS.2.1)
  have hN' : vx_Zq Bundle.tN "SUPPRESSED_SENTINEL" Bundle.listD A s' s'.heap := by rw [hhp]; exact vx_Zq.moved hW0.alike (hN.kept hS.2.1)
  have h : ∀ w ∈ Bundle.ownAtoms0 own ic cls names, w.before args s' = true := vx_own hat' (vx_isRefq hU'.1) (vx_isRefq hN'.1) hU'.2.word hN'.2.word
  have hown' : s'.vm.findClass own = some m.cls := by rw [hvm]; exact hown
  have hins : (Cond.instantiable cls 6).before args s' = true := h _ (by simp [Bundle.ownAtoms0])
  obtain ⟨vm₁, cX, kX, hfX, hkX, -, -, X₁, st1⟩ := Y.newCold hexec (own := own) (C := cls) (index := ik) (n := 6) hown' hk' hins hini'
    (g := F0 m pc ls rest) rfl (by rw [hb]; exact d0) (Nat.le_refl _) (Nat.le_refl _)
  generalize hT1 : (T.setVm vm₁).pushCell { cls := cX, slots := kX.instanceTypes.map defaultValue, vm := .none } = T1 at X₁ st1
  have hcat : (Value.ref T.heap.size).category = 1 := rfl
  have hcellA : T1.heap[T.heap.size]? = some (freshCell cX kX) := by rw [← hT1]; exact State.heap_pushCell_size _ _
  have d3' : decode c.code (pc + 3) = .ok (.dup, 1) := by rw [hb]; exact d3
  obtain ⟨U, hsteps, hrun, hend, hW, hsame, ce, hce, hO⟩ := X₁.ctorThrow0 hexec htr (own := own) (cls := cls) (names := names) (ic := ic) hown' hcls hnames h (fun x hx => nomatch hx) hfX hkX hcellA (by rw [hhp, hT]; exact Nat.le_refl _)
    (g := { method := m, pc := pc + 4, locals := ls, stack := .ref T.heap.size :: .ref T.heap.size :: rest, locked := none }) rfl hsize rfl rfl (rest := rest) rfl
    (by rw [hb]; exact d4) (by rw [hb]; exact d7) hout hRframes (by simp only [List.map_cons, List.sum_cons, hcat]; omega) hlocks
  obtain ⟨f1, f2⟩ := vx_frame hsame
  rw [hhp] at f1 f2
  have hWs : s.WarmedH U.vm := State.WarmedH.trans hW0 hW
  have hcl : s.vm.findClass cls = some ce.cls := by
    have h9 := hO.cls
    rw [hvm] at h9
    exact h9
  have hall : s.sameButNew ({ U with vm := s.vm } : State) locs mc ms := by
    subst hA
    obtain ⟨e1, e2⟩ := hsame
    rw [State.setFrames_setFrames] at e1
    have h2 : (T.setVm s.vm).sameButNew ({ U with vm := s.vm } : State) [] (0 + 1) (0 + 6) := ⟨e1, e2⟩
    have h3 := X.same.trans h2
    rw [List.append_nil] at h3
    exact h3.mono hc hs
  refine ⟨U, ?_, .threw T.heap.size, hrun, hend, Or.inr ⟨T.heap.size, rfl, cls, ce, locs, hx U hWs.alike f1 (fun q hq => f2 q hq (fun z hz => nomatch hz)), hce, hO.vm, hcl, hWs, hall, hf⟩⟩
  refine st1 _ ?_
  show Steps p.tables e below (T1.setTop { method := m, pc := pc + 3, locals := ls, stack := .ref T.heap.size :: rest, locked := none }) _
  jvm_step X₁.here [X₁.here.top, hexec, d3', Value.category]
  exact hsteps
/-- 'throw new E("text")': new; dup; ldc; invokespecial; athrow -/
theorem vx_throwS {cc : ByteArray} {pc : Nat} (hexec : p.tables.exec = Jvm.exec) (hb : c.code = cc) (hl : l.stackTraces = false) {own cls text : String} {names : List String} {ik is ic mc ms sa : Nat} {A : Nat → Prop}
    (hown : s.vm.findClass own = some m.cls) (hcls : Bundle.fit cls = true) (hnames : ∀ n ∈ names, Bundle.fit n = true)
    (hk : (Cond.classLink own ik cls).before args s = true) (hini : (Cond.initialized cls).before args s = true) (hstr : vk_R own is text sa s) (hat : ∀ w ∈ vx_atS own ic cls names, w.before args s = true)
    (hgood : ∀ w ∈ Cond.classLink own ik cls :: Cond.initialized cls :: vx_atS own ic cls names, vx_ot w = true)
    (hU : vx_Zq Bundle.tN "UNASSIGNED_STACK" Bundle.steD A s s.heap) (hN : vx_Zq Bundle.tN "SUPPRESSED_SENTINEL" Bundle.listD A s s.heap) (hS : va_S A s.heap H locs) (hsize : ls.size = c.maxLocals)
    (d0 : decode cc pc = .ok (.new ik, 3)) (d3 : decode cc (pc + 3) = .ok (.dup, 1)) (d4 : decode cc (pc + 4) = .ok (.ldc is, 2)) (d6 : decode cc (pc + 6) = .ok (.invokespecial ic, 3)) (d9 : decode cc (pc + 9) = .ok (.athrow, 1))
    (hout : ∀ x ∈ c.exceptionTable.toList, covers x (pc + 9) = false)
    (hRframes : names.length + 3 < R.frames) (hRlocals : (rest.map fun v => v.category).sum + (13 * (names.length + 1) + 43) ≤ R.locals) (hRcells : cells + 1 ≤ R.cells) (hRslots : slots + 6 ≤ R.slots) (hlocks : meth.locks = false)
    (hx : ∀ t : State, s.vm.Alike t.vm → H.size ≤ t.heap.size → (∀ q : Nat, q < H.size → t.heap[q]? = H[q]?) → XC cls s t)
    (hf : ∀ z ∈ locs, free z.base) (hc : cells + 1 ≤ mc) (hs : slots + 6 ≤ ms) :
    W p l e R s m args below meth c H locs cells slots (vx_MQ below Qc XC args s mc ms free) (F0 m pc ls rest) := by
  intro T hT X
  have htr : e.platform.stackTraces = false := (show e.platform.stackTraces = l.stackTraces by rw [X.admits.platform]).trans hl
  have Y := vx_rebase X (R' := { frames := R.frames, locals := R.locals, cells := 1, slots := 6 }) (Nat.le_refl _) (Nat.le_refl _) hRcells hRslots
  obtain ⟨s', hA⟩ : ∃ z, z = (T.setVm s.vm).setFrames (.invoking m args :: below) := ⟨_, rfl⟩
  rw [← hA] at Y
  have hvm : s'.vm = s.vm := by rw [hA]; rfl
  have hhp : s'.heap = H := by rw [hA]; exact hT
  have hW0 : s.WarmedH s'.vm := by rw [hvm]; exact State.WarmedH.refl s
  have hat' : ∀ w ∈ vx_atS own ic cls names, w.before args s' = true := fun w hw => vx_ot_at hW0 hvm.symm (hgood w (List.mem_cons_of_mem _ (List.mem_cons_of_mem _ hw))) (hat w hw)
  have hk' : (Cond.classLink own ik cls).before args s' = true := vx_ot_at hW0 hvm.symm (hgood _ List.mem_cons_self) hk
  have hini' : (Cond.initialized cls).before args s' = true := vx_ot_at hW0 hvm.symm (hgood _ (List.mem_cons_of_mem _ List.mem_cons_self)) hini
  have hU' : vx_Zq Bundle.tN "UNASSIGNED_STACK" Bundle.steD A s' s'.heap := by rw [hhp]; exact vx_Zq.moved hW0.alike (hU.kept hS.2.1)
  have hN' : vx_Zq Bundle.tN "SUPPRESSED_SENTINEL" Bundle.listD A s' s'.heap := by rw [hhp]; exact vx_Zq.moved hW0.alike (hN.kept hS.2.1)
  have h : ∀ w ∈ Bundle.ownAtoms own ic cls names, w.before args s' = true := vx_own hat' (vx_isRefq hU'.1) (vx_isRefq hN'.1) hU'.2.word hN'.2.word
  have hown' : s'.vm.findClass own = some m.cls := by rw [hvm]; exact hown
  have hins : (Cond.instantiable cls 6).before args s' = true := h _ (by simp [Bundle.ownAtoms])
  obtain ⟨vm₁, cX, kX, hfX, hkX, -, -, X₁, st1⟩ := Y.newCold hexec (own := own) (C := cls) (index := ik) (n := 6) hown' hk' hins hini'
    (g := F0 m pc ls rest) rfl (by rw [hb]; exact d0) (Nat.le_refl _) (Nat.le_refl _)
  generalize hT1 : (T.setVm vm₁).pushCell { cls := cX, slots := kX.instanceTypes.map defaultValue, vm := .none } = T1 at X₁ st1
  have hcat : (Value.ref T.heap.size).category = 1 := rfl
  have hcellA : T1.heap[T.heap.size]? = some (freshCell cX kX) := by rw [← hT1]; exact State.heap_pushCell_size _ _
  have d3' : decode c.code (pc + 3) = .ok (.dup, 1) := by rw [hb]; exact d3
  have d4' : decode c.code (pc + 4) = .ok (.ldc is, 2) := by rw [hb]; exact d4
  have hstr' : vk_R own is text sa s' := vk_R.warm hW0 hstr
  obtain ⟨U, hsteps, hrun, hend, hW, hsame, ce, hce, hO⟩ := X₁.ctorThrowS hexec htr (own := own) (cls := cls) (names := names) (ic := ic) hown' hcls hnames h (fun x hx => nomatch hx) hfX hkX hcellA (by rw [hhp, hT]; exact Nat.le_refl _) (msg := .ref sa) rfl
    (g := { method := m, pc := pc + 6, locals := ls, stack := .ref sa :: .ref T.heap.size :: .ref T.heap.size :: rest, locked := none }) rfl hsize rfl rfl (rest := rest) rfl
    (by rw [hb]; exact d6) (by rw [hb]; exact d9) hout hRframes (by simp only [List.map_cons, List.sum_cons, hcat]; omega) hlocks
  obtain ⟨f1, f2⟩ := vx_frame hsame
  rw [hhp] at f1 f2
  have hWs : s.WarmedH U.vm := State.WarmedH.trans hW0 hW
  have hcl : s.vm.findClass cls = some ce.cls := by
    have h9 := hO.cls
    rw [hvm] at h9
    exact h9
  have hall : s.sameButNew ({ U with vm := s.vm } : State) locs mc ms := by
    subst hA
    obtain ⟨e1, e2⟩ := hsame
    rw [State.setFrames_setFrames] at e1
    have h2 : (T.setVm s.vm).sameButNew ({ U with vm := s.vm } : State) [] (0 + 1) (0 + 6) := ⟨e1, e2⟩
    have h3 := X.same.trans h2
    rw [List.append_nil] at h3
    exact h3.mono hc hs
  refine ⟨U, ?_, .threw T.heap.size, hrun, hend, Or.inr ⟨T.heap.size, rfl, cls, ce, locs, hx U hWs.alike f1 (fun q hq => f2 q hq (fun z hz => nomatch hz)), hce, hO.vm, hcl, hWs, hall, hf⟩⟩
  refine st1 _ ?_
  show Steps p.tables e below (T1.setTop { method := m, pc := pc + 3, locals := ls, stack := .ref T.heap.size :: rest, locked := none }) _
  jvm_step X₁.here [X₁.here.top, hexec, d3', Value.category]
  exact X₁.ldcString hexec (own := own) (text := text) (index := is) (a := sa) hown' hstr'.1 hstr'.2
    (g := { method := m, pc := pc + 4, locals := ls, stack := .ref T.heap.size :: .ref T.heap.size :: rest, locked := none }) rfl d4' _ hsteps
/-- 'throw new E("text")', the text by a wide index -/
theorem vx_throwSW {cc : ByteArray} {pc : Nat} (hexec : p.tables.exec = Jvm.exec) (hb : c.code = cc) (hl : l.stackTraces = false) {own cls text : String} {names : List String} {ik is ic mc ms sa : Nat} {A : Nat → Prop}
    (hown : s.vm.findClass own = some m.cls) (hcls : Bundle.fit cls = true) (hnames : ∀ n ∈ names, Bundle.fit n = true)
    (hk : (Cond.classLink own ik cls).before args s = true) (hini : (Cond.initialized cls).before args s = true) (hstr : vk_R own is text sa s) (hat : ∀ w ∈ vx_atS own ic cls names, w.before args s = true)
    (hgood : ∀ w ∈ Cond.classLink own ik cls :: Cond.initialized cls :: vx_atS own ic cls names, vx_ot w = true)
    (hU : vx_Zq Bundle.tN "UNASSIGNED_STACK" Bundle.steD A s s.heap) (hN : vx_Zq Bundle.tN "SUPPRESSED_SENTINEL" Bundle.listD A s s.heap) (hS : va_S A s.heap H locs) (hsize : ls.size = c.maxLocals)
    (d0 : decode cc pc = .ok (.new ik, 3)) (d3 : decode cc (pc + 3) = .ok (.dup, 1)) (d4 : decode cc (pc + 4) = .ok (.ldc_w is, 3)) (d7 : decode cc (pc + 7) = .ok (.invokespecial ic, 3)) (d10 : decode cc (pc + 10) = .ok (.athrow, 1))
    (hout : ∀ x ∈ c.exceptionTable.toList, covers x (pc + 10) = false)
    (hRframes : names.length + 3 < R.frames) (hRlocals : (rest.map fun v => v.category).sum + (13 * (names.length + 1) + 43) ≤ R.locals) (hRcells : cells + 1 ≤ R.cells) (hRslots : slots + 6 ≤ R.slots) (hlocks : meth.locks = false)
    (hx : ∀ t : State, s.vm.Alike t.vm → H.size ≤ t.heap.size → (∀ q : Nat, q < H.size → t.heap[q]? = H[q]?) → XC cls s t)
    (hf : ∀ z ∈ locs, free z.base) (hc : cells + 1 ≤ mc) (hs : slots + 6 ≤ ms) :
    W p l e R s m args below meth c H locs cells slots (vx_MQ below Qc XC args s mc ms free) (F0 m pc ls rest) := by
  intro T hT X
  have htr : e.platform.stackTraces = false := (show e.platform.stackTraces = l.stackTraces by rw [X.admits.platform]).trans hl
  have Y := vx_rebase X (R' := { frames := R.frames, locals := R.locals, cells := 1, slots := 6 }) (Nat.le_refl _) (Nat.le_refl _) hRcells hRslots
  obtain ⟨s', hA⟩ : ∃ z, z = (T.setVm s.vm).setFrames (.invoking m args :: below) := ⟨_, rfl⟩
  rw [← hA] at Y
  have hvm : s'.vm = s.vm := by rw [hA]; rfl
  have hhp : s'.heap = H := by rw [hA]; exact hT
  have hW0 : s.WarmedH s'.vm := by rw [hvm]; exact State.WarmedH.refl s
  have hat' : ∀ w ∈ vx_atS own ic cls names, w.before args s' = true := fun w hw => vx_ot_at hW0 hvm.symm (hgood w (List.mem_cons_of_mem _ (List.mem_cons_of_mem _ hw))) (hat w hw)
  have hk' : (Cond.classLink own ik cls).before args s' = true := vx_ot_at hW0 hvm.symm (hgood _ List.mem_cons_self) hk
  have hini' : (Cond.initialized cls).before args s' = true := vx_ot_at hW0 hvm.symm (hgood _ (List.mem_cons_of_mem _ List.mem_cons_self)) hini
  have hU' : vx_Zq Bundle.tN "UNASSIGNED_STACK" Bundle.steD A s' s'.heap := by rw [hhp]; exact vx_Zq.moved hW0.alike (hU.kept hS.2.1)
  have hN' : vx_Zq Bundle.tN "SUPPRESSED_SENTINEL" Bundle.listD A s' s'.heap := by rw [hhp]; exact vx_Zq.moved hW0.alike (hN.kept hS.2.1)
  have h : ∀ w ∈ Bundle.ownAtoms own ic cls names, w.before args s' = true := vx_own hat' (vx_isRefq hU'.1) (vx_isRefq hN'.1) hU'.2.word hN'.2.word
  have hown' : s'.vm.findClass own = some m.cls := by rw [hvm]; exact hown
  have hins : (Cond.instantiable cls 6).before args s' = true := h _ (by simp [Bundle.ownAtoms])
  obtain ⟨vm₁, cX, kX, hfX, hkX, -, -, X₁, st1⟩ := Y.newCold hexec (own := own) (C := cls) (index := ik) (n := 6) hown' hk' hins hini'
    (g := F0 m pc ls rest) rfl (by rw [hb]; exact d0) (Nat.le_refl _) (Nat.le_refl _)
  generalize hT1 : (T.setVm vm₁).pushCell { cls := cX, slots := kX.instanceTypes.map defaultValue, vm := .none } = T1 at X₁ st1
  have hcat : (Value.ref T.heap.size).category = 1 := rfl
  have hcellA : T1.heap[T.heap.size]? = some (freshCell cX kX) := by rw [← hT1]; exact State.heap_pushCell_size _ _
  have d3' : decode c.code (pc + 3) = .ok (.dup, 1) := by rw [hb]; exact d3
  have d4' : decode c.code (pc + 4) = .ok (.ldc_w is, 3) := by rw [hb]; exact d4
  have hstr' : vk_R own is text sa s' := vk_R.warm hW0 hstr
  obtain ⟨U, hsteps, hrun, hend, hW, hsame, ce, hce, hO⟩ := X₁.ctorThrowS hexec htr (own := own) (cls := cls) (names := names) (ic := ic) hown' hcls hnames h (fun x hx => nomatch hx) hfX hkX hcellA (by rw [hhp, hT]; exact Nat.le_refl _) (msg := .ref sa) rfl
    (g := { method := m, pc := pc + 7, locals := ls, stack := .ref sa :: .ref T.heap.size :: .ref T.heap.size :: rest, locked := none }) rfl hsize rfl rfl (rest := rest) rfl
    (by rw [hb]; exact d7) (by rw [hb]; exact d10) hout hRframes (by simp only [List.map_cons, List.sum_cons, hcat]; omega) hlocks
  obtain ⟨f1, f2⟩ := vx_frame hsame
  rw [hhp] at f1 f2
  have hWs : s.WarmedH U.vm := State.WarmedH.trans hW0 hW
  have hcl : s.vm.findClass cls = some ce.cls := by
    have h9 := hO.cls
    rw [hvm] at h9
    exact h9
  have hall : s.sameButNew ({ U with vm := s.vm } : State) locs mc ms := by
    subst hA
    obtain ⟨e1, e2⟩ := hsame
    rw [State.setFrames_setFrames] at e1
    have h2 : (T.setVm s.vm).sameButNew ({ U with vm := s.vm } : State) [] (0 + 1) (0 + 6) := ⟨e1, e2⟩
    have h3 := X.same.trans h2
    rw [List.append_nil] at h3
    exact h3.mono hc hs
  refine ⟨U, ?_, .threw T.heap.size, hrun, hend, Or.inr ⟨T.heap.size, rfl, cls, ce, locs, hx U hWs.alike f1 (fun q hq => f2 q hq (fun z hz => nomatch hz)), hce, hO.vm, hcl, hWs, hall, hf⟩⟩
  refine st1 _ ?_
  show Steps p.tables e below (T1.setTop { method := m, pc := pc + 3, locals := ls, stack := .ref T.heap.size :: rest, locked := none }) _
  jvm_step X₁.here [X₁.here.top, hexec, d3', Value.category]
  exact X₁.ldcStringW hexec (own := own) (text := text) (index := is) (a := sa) hown' hstr'.1 hstr'.2
    (g := { method := m, pc := pc + 4, locals := ls, stack := .ref T.heap.size :: .ref T.heap.size :: rest, locked := none }) rfl d4' _ hsteps
end Ends
section Bodies
variable {l : Launch}
theorem vx_ofW {y : MethodName} {ws ws' : List Cond} {rm : Room} {Pc : Array Value → State → Prop} {Qc : Array Value → State → Outcome → State → Prop} {XC : String → State → State → Prop} {mc ms : Nat} {free : Addr → Prop} {cc : ByteArray} {maxL : Nat} {ret : Option FieldType}
    (hy : plainName y.cls = true) (hw : ws = Cond.code y cc maxL ret :: ws')
    (body : ∀ p e s m args below meth c s₁, BodyLoose p l y (headSpec ws rm) cc maxL ret e s m args below meth c s₁ → c.maxLocals = maxL → (∀ x ∈ c.exceptionTable.toList, False) → Pc args s →
      W p l e (headSpec ws rm).room s m args below meth c s.heap [] 0 0 (vx_MQ below Qc XC args s mc ms free) (entryFrame m args maxL)) : vx_Met l y ws rm Pc Qc XC mc ms free := by
  refine MetFree.of_bodyS (code := cc) (maxLocals := maxL) (ret := ret) hy ?_ ?_
  · intro args s m h hn
    obtain ⟨meth, c, h1, h2, h3, h4, h5, h6, -, -⟩ := Cond.code_spec hn (atoms_spec (ws := ws) h _ (by rw [hw]; exact List.mem_cons_self))
    exact ⟨meth, c, h1, h2, h3, h4, h5, h6⟩
  · intro p e s m args below meth c s₁ B hml hP _
    have hh0 : s₁.heap = s.heap := by rw [B.state]; rfl
    have ht : ∀ x ∈ c.exceptionTable.toList, False := by
      obtain ⟨meth9, c9, h1, h2, -, -, -, -, h7, -⟩ := Cond.code_spec B.named (atoms_spec (ws := ws) B.pre _ (by rw [hw]; exact List.mem_cons_self))
      cases Option.some.inj (h1.symm.trans B.method)
      cases Option.some.inj (h2.symm.trans (Stand.of_body B).code)
      intro x hx
      rw [Array.isEmpty_iff.mp h7] at hx
      cases hx
    obtain ⟨t, a1, o, b1, b2, b3⟩ := body p e s m args below meth c s₁ B hml ht hP s₁ hh0 (Stand.of_body B)
    exact ⟨t, o, a1, b1, b2, b3⟩
/-- the table of a body with handlers -/
theorem vx_table {p : Program} {x y : MethodName} {S : Spec} {cc bytes : ByteArray} {maxL maxL' : Nat} {ret ret' : Option FieldType} {e : Env} {s s₁ : State} {m : MethodId} {args : Array Value} {below : List Frame} {meth : Method} {c : Code} {hh : List (Nat × Nat × Nat × Nat)}
    (B : BodyLoose p l y S cc maxL ret e s m args below meth c s₁) (h : (Cond.codeWith y bytes maxL' ret' hh).before args s = true) : c.exceptionTable.toList = tableOf hh := by
  obtain ⟨m9, meth9, c9, hn9, h1, h2, -, -, h6, -⟩ := Cond.codeWith_spec h
  cases Option.some.inj (hn9.symm.trans B.named)
  cases Option.some.inj (h1.symm.trans B.method)
  cases Option.some.inj (h2.symm.trans (Stand.of_body B).code)
  rw [← h6, table_eq]
end Bodies
end VXA
/-! ===== END ===== -/
/-! ===== BEGIN a static call of a method with an exception table ===== -/
section VXS
variable {p : Program} {l : Launch} {e : Env} {R : Room} {s : State} {m : MethodId} {args : Array Value} {below : List Frame} {meth : Method} {c : Code} {T : State} {H : Heap} {locs : List Loc} {cells slots : Nat}
abbrev vx_CSW (R : Room) (s : State) (args : Array Value) (own : String) (index : Nat) (y : MethodName) (bytes : ByteArray) (maxL : Nat) (ret : Option FieldType) (hh : List (Nat × Nat × Nat × Nat)) (ws : List Cond) (rm : Room) (mc ms n : Nat) : Prop :=
  (rm.cells = mc ∧ rm.slots = ms ∧ rm.frames + 1 ≤ R.frames ∧ 8 + (maxL + 11) + rm.locals ≤ R.locals ∧ (∀ w ∈ ws, ∀ (a' : Array Value) (U : State), s.WarmedH U.vm → w.before a' U = true) ∧ Cond.codeWith y bytes maxL ret hh ∈ ws) ∧
  (Cond.codeWith y bytes maxL ret hh).before args s = true ∧ (Cond.initialized y.cls).before args s = true ∧ (y.cls ≠ "java/lang/invoke/MethodHandle" ∧ y.cls ≠ "java/lang/invoke/VarHandle") ∧
  (∀ sig, parseMethodDescriptor y.desc = some sig → n = sig.parameters.length) ∧ (Cond.methodLink own index y).before args s = true ∧ (Cond.static y).before args s = true
theorem vx_cwSW {own : String} {index maxL mc ms : Nat} {y : MethodName} {bytes : ByteArray} {ret : Option FieldType} {hh : List (Nat × Nat × Nat × Nat)} {Ts ws ws' : List Cond} {rm : Room} (n : Nat) (ht : ∀ w ∈ Ts, w.before args s = true) (hT : GoodIn Ts (va_wsS own index y ws)) (hw : ws = Cond.codeWith y bytes maxL ret hh :: ws') (hrc : rm.cells = mc) (hrs : rm.slots = ms)
    (hd : y.cls ≠ "java/lang/invoke/MethodHandle" ∧ y.cls ≠ "java/lang/invoke/VarHandle" ∧ (parseMethodDescriptor y.desc).map (fun d => d.parameters.length) = some n) (hR : rm.frames + 1 ≤ R.frames ∧ 8 + (maxL + 11) + rm.locals ≤ R.locals) :
    vx_CSW R s args own index y bytes maxL ret hh ws rm mc ms n := by
  have ok : ∀ w ∈ va_wsS own index y ws, w.before args s = true := fun w h => ht w (hT w h).1
  have hG : GoodIn Ts ws := fun w h => hT w (by unfold va_wsS; exact List.mem_append_right _ h)
  have hc : Cond.codeWith y bytes maxL ret hh ∈ ws := by rw [hw]; exact List.mem_cons_self
  refine ⟨⟨hrc, hrs, hR.1, hR.2, pay_in ht hG, hc⟩, ht _ (hG _ hc).1, ok _ (by simp [va_wsS]), ⟨hd.1, hd.2.1⟩, fun sig h => ?_, ok _ (by simp [va_wsS]), ok _ (by simp [va_wsS])⟩
  have h2 := hd.2.2
  rw [h] at h2
  exact (Option.some.inj h2).symm
theorem vx_callSW (X : Stand p l e R s m args below meth c T locs cells slots) (hexec : p.tables.exec = Jvm.exec) {own : String} {index : Nat} {y : MethodName} {bytes : ByteArray} {maxL : Nat} {ret : Option FieldType} {hh : List (Nat × Nat × Nat × Nat)}
    (hown : s.vm.findClass own = some m.cls) (hlink : (Cond.methodLink own index y).before args s = true) (hstat : (Cond.static y).before args s = true) (hinit : (Cond.initialized y.cls).before args s = true)
    (hcode : (Cond.codeWith y bytes maxL ret hh).before args s = true) (hy : y.cls ≠ "java/lang/invoke/MethodHandle" ∧ y.cls ≠ "java/lang/invoke/VarHandle")
    {W9 : Nat} {Pre : Pt → Array Value → Prop} {Post : Pt → Array Value → Option Value → Pt → Prop} (hK : Back l R p e below s args y 3 W9 Pre Post)
    {g : JFrame} (hg : g.method = m) (hsize : g.locals.size = c.maxLocals) {argsL rest : List Value} (hlen : ∀ sig, parseMethodDescriptor y.desc = some sig → argsL.length = sig.parameters.length)
    (hstack : g.stack = argsL.reverse ++ rest) (hW : 2 * g.monitorRoom + (rest.map fun v => v.category).sum ≤ W9) (hdg : decode c.code g.pc = .ok (.invokestatic index, 3))
    (hpre : ∀ vm₁, s.WarmedH vm₁ → Pre ⟨T.setVm vm₁, locs, cells, slots⟩ argsL.toArray) :
    ∃ (v : Option Value) (vm₁ : Vm) (B : Pt), s.WarmedH vm₁ ∧ Stand p l e R s m args below meth c B.U B.locs B.cells B.slots ∧ Post ⟨T.setVm vm₁, locs, cells, slots⟩ argsL.toArray v B ∧
      ∀ target, Steps p.tables e below (B.U.setTop { g with pc := g.pc + 3, stack := v.toList ++ rest }) target → Steps p.tables e below (T.setTop g) target := by
  obtain ⟨mk, methM, cM, hnamed, hmethM, -, -, -, -, -, -, hsigM⟩ := Cond.codeWith_spec hcode
  have hstatic : methM.isStatic = true := Cond.static_spec hnamed hmethM hstat
  obtain ⟨kP, hkP, -⟩ := className_of_methodNamed hnamed
  have hinitP : kP.init = .initialized := Cond.initialized_spec (findClass_of_methodNamed hnamed) hkP hinit
  obtain ⟨vm₁, X₁, hstep₁⟩ := X.invokestatic hexec hown hlink hnamed hmethM hstatic hkP hinitP hy (g := g) hg (argsL := argsL) (rest := rest) (hlen _ hsigM) hstack hdg
  obtain ⟨v, B, X', hpost, hsteps⟩ := hK m meth c ⟨T.setVm vm₁, locs, cells, slots⟩ { g with stack := rest } (.invokestatic index) mk argsL.toArray X₁ hg hsize hdg hW (X₁.named hnamed) (hpre vm₁ X₁.warmed)
  exact ⟨v, vm₁, B, X₁.warmed, X', hpost, fun target h => hstep₁ _ fun acts => by rw [doInvoke_state]; exact hsteps.trans h⟩
theorem vx_runSW {y : MethodName} {bytes cc : ByteArray} {maxL nL mc ms n index : Nat} {ret : Option FieldType} {hh : List (Nat × Nat × Nat × Nat)} {ws : List Cond} {rm : Room} {Pc : Array Value → State → Prop} {Qc : Array Value → State → Outcome → State → Prop} {free : Addr → Prop} {Ts : List Cond} {own : String} {As rest : List Value} {g : JFrame}
    (S : CallFix p m c cc nL s args Ts own) (hM : Met l y ws rm Pc Qc mc ms free) (cw : vx_CSW R s args own index y bytes maxL ret hh ws rm mc ms n) (hp : PreS s H Pc As)
    (hg : g.method = m) (hn : As.length = n) (hsize : g.locals.size = nL) (hstack : g.stack = As.reverse ++ rest) (hW : 2 * g.monitorRoom + (rest.map fun v => v.category).sum ≤ 8) (hdg : decode cc g.pc = .ok (.invokestatic index, 3)) (hf : cells + mc ≤ R.cells ∧ slots + ms ≤ R.slots) :
    va_Run p l e R s m args below meth c H locs cells slots mc ms g rest (Qc As.toArray) (free) := by
  obtain ⟨⟨hrc, hrs, hfr, hlo, hws, hcw⟩, hcode, hini, hy, hlen, hl, hstt⟩ := cw
  have hK : Back l R p e below s args y 3 8 (PreOf R mc ms Pc) (PostOf Qc mc ms free) := va_backW (hh := hh) (bytes := bytes) (maxL := maxL) (ret := ret) hM hp.1 hrc hrs hfr hlo hws hcw (fun a' U hW => word_at hW (Or.inl (by first | rfl | simp [Cond.onTables, Cond.keeps, Cond.steady])) hini)
  obtain ⟨hx, hb, hml, ho, -⟩ := S
  intro T hT X
  obtain ⟨v, vm₁, ⟨U', l2, c2, s2⟩, hW₁, X', ⟨g', mk, t, L, e1, e2, hq, h1, hL, h2, h3⟩, st⟩ := vx_callSW X hx (hh := hh) (bytes := bytes) (maxL := maxL) (ret := ret) ho hl hstt hini hcode hy hK hg (hsize.trans hml.symm) (argsL := As) (rest := rest) (fun sig h => hn.trans (hlen sig h)) hstack hW (by rw [hb]; exact hdg)
    (fun vm₁ hW₁ => ⟨hf.1, hf.2, hp.2 (T.setVm vm₁) hT hW₁⟩)
  dsimp only [Pt.U, Pt.locs, Pt.cells, Pt.slots] at X' e1 e2 h1 h2 h3 st
  subst h1; subst h2; subst h3
  exact ⟨v, (T.setVm vm₁).calling g' mk As.toArray, t, U', L, hT, X', hL, e1, e2, hq, st⟩
/-- a thing of a world lies in the heap -/
theorem vx_lt {D : va_G} {cl : List vw_C} {ws : va_W} {H1 : Heap} (h : va_P D cl ws H1) {k : Nat} {q : Nat × va_E} (hk : ws[k]? = some q) : q.1 < H1.size := (h k q hk).lt
end VXS
/-! ===== END ===== -/
/-! ===== BEGIN methods with a table of their own: called by a name, returning or throwing ===== -/
section VXH
/-! vx_backW, vx_callVX, vx_callSX, vx_callVW, vx_runVW, vx_runVX, vx_runSX, vx_ofWH follow the same proofs as their sisters above (Free/Laws.lean, Shelf42/LK1.lean); vx_outP calls Shelf42/NT130.lean (outThrough). -/
section
variable {l : Launch} {R : Room} {p : Program} {e : Env} {below : List Frame} {s : State} {sargs : Array Value} {y : MethodName} {len W9 : Nat}
theorem vx_backW {ws : List Cond} {rm : Room} {Pc : Array Value → State → Prop} {Qc : Array Value → State → Outcome → State → Prop} {XC : String → State → State → Prop} {mc ms : Nat} {free : Addr → Prop} {bytes : ByteArray} {maxL : Nat} {ret : Option FieldType} {hh : List (Nat × Nat × Nat × Nat)}
    (hM : vx_Met l y ws rm Pc Qc XC mc ms free) (hblind : FrameBlind Pc) (hrc : rm.cells = mc) (hrs : rm.slots = ms)
    (hframes : rm.frames + 1 ≤ R.frames) (hlocals : W9 + (maxL + 11) + rm.locals ≤ R.locals)
    (hws : ∀ w ∈ ws, ∀ a' U, s.WarmedH U.vm → w.before a' U = true) (hcode : Cond.codeWith y bytes maxL ret hh ∈ ws) (hinit : ∀ a' U, s.WarmedH U.vm → (Cond.initialized y.cls).before a' U = true) :
    vx_Back l R p e below s sargs y len W9 (PreOf R mc ms Pc) (PostOf Qc mc ms free) (vx_Post XC mc ms free) := by
  intro m meth c A g ig mk a X hg hsize hdg hW hn hp
  have h1 : (headSpec ws rm).pre.before a A.U = true := atoms_intro fun w hw => hws w hw _ _ X.warmed
  have h2 : (Cond.codeWith y bytes maxL ret hh).before a A.U = true := hws _ hcode _ _ X.warmed
  have h3 : (Cond.initialized y.cls).before a A.U = true := hinit _ _ X.warmed
  have h4 : A.cells + (headSpec ws rm).room.cells ≤ R.cells := by rw [show (headSpec ws rm).room.cells = mc from hrc]; exact hp.1
  have h5 : A.slots + (headSpec ws rm).room.slots ≤ R.slots := by rw [show (headSpec ws rm).room.slots = ms from hrs]; exact hp.2.1
  have hPc : Pc a (A.U.calling g mk a) := hblind _ _ _ _ hp.2.2
  obtain ⟨U, Ls, c0, s0⟩ := A
  dsimp only [Pt.U, Pt.locs, Pt.cells, Pt.slots] at h1 h2 h3 h4 h5 X hn hPc ⊢
  obtain ⟨m9, methY, cY, hn9, hmY, hcY, -, hlY, -⟩ := Cond.codeWith_spec h2
  cases Option.some.inj (hn9.symm.trans hn)
  obtain ⟨kY, hkY, -⟩ := className_of_methodNamed hn
  have hinitY : kY.init = .initialized := Cond.initialized_spec (findClass_of_methodNamed hn) hkY h3
  have h : At U g.method c below := by rw [hg]; exact X.here
  have hlocals9 : W9 + (maxL + 11) + (headSpec ws rm).room.locals ≤ R.locals := hlocals
  have happ : (headSpec ws rm).appliesLoose y e.platform (U.calling g mk a) = true :=
    Spec.appliesLoose_calling (g := g) h hdg hn hkY hinitY
      (X.room_calling (g := g) (R' := (headSpec ws rm).room) hsize hmY hcY hframes (by rw [hlY]; omega) h4 h5) h1
  obtain ⟨mid, hmid⟩ := h.above
  have hfr : (U.setTop g).frames = (.java g :: mid) ++ below := by rw [State.frames_setTop' g h.top, hmid]; rfl
  obtain ⟨o, s₂, hsteps, -, hend, hq⟩ := Steps.callFree hM p X.admits X.cas X.clock (acts := []) hfr happ hPc trivial
  have hq' : vx_Q Qc XC mc ms free a (U.calling g mk a) o s₂ := hq
  rw [State.frames_setTop' g h.top] at hend
  obtain ⟨g₀, hg0⟩ := Option.isSome_iff_exists.mp h.top
  obtain ⟨r, hr⟩ := State.topJava?_eq_some.mp hg0
  have hr' : (({ U with heap := s₂.heap, slotsUsed := s₂.slotsUsed } : State).setVm s₂.vm).frames = .java g₀ :: r := hr
  rcases hq' with ⟨hqc, L, hfe, hL⟩ | ⟨q, rfl, E, ce, L, hx, hce, hcv, hcl, hW₂, hsm, hL⟩
  · obtain ⟨⟨v, rfl⟩, hW₂, e2, q2, q3, q4, q5, q6⟩ := id hfe
    have e3 : s₂ = ({ (U.calling g mk a).setFrames s₂.frames with heap := s₂.heap, slotsUsed := s₂.slotsUsed } : State).setVm s₂.vm := by
      have : s₂ = ({ s₂ with vm := (U.calling g mk a).vm } : State).setVm s₂.vm := rfl
      rw [e2] at this
      exact this
    obtain ⟨c₂, i₂, len₂, hc₂, hd₂, hf₂⟩ := hend
    have hW' : U.WarmedH s₂.vm := hW₂
    have hcc : c₂ = c := by
      have h1 : s₂.code? g.method = U.code? g.method := by
        rw [State.code?_eq, State.code?_eq, hW'.alike.method?]
      exact Option.some.inj (hc₂.symm.trans (h1.trans h.code))
    subst hcc
    have hlen : len₂ = len := by rw [hdg] at hd₂; cases hd₂; rfl
    subst hlen
    have hs₂ : s₂ = (({ U with heap := s₂.heap, slotsUsed := s₂.slotsUsed } : State).setVm s₂.vm).setTop { g with pc := g.pc + len₂, stack := v.toList ++ g.stack } := by
      refine e3.trans ?_
      rw [hf₂, State.calling_eq h.top, State.setFrames_setFrames, State.setTop_of_frames _ hr', hr]
      rfl
    have hsame : U.sameButNew ({ U with heap := s₂.heap, slotsUsed := s₂.slotsUsed } : State) L mc ms := by
      refine ⟨?_, q2, q3, q4, q5, q6⟩
      obtain ⟨t, ht, -⟩ := State.frames_cons hr
      show ({ U with heap := s₂.heap, slotsUsed := s₂.slotsUsed } : State) = { U.setFrames U.frames with heap := s₂.heap, slotsUsed := s₂.slotsUsed }
      rw [State.setFrames_self ht]
    subst hg
    refine Or.inl ⟨v, ⟨(({ U with heap := s₂.heap, slotsUsed := s₂.slotsUsed } : State).setVm s₂.vm), Ls ++ L, c0 + mc, s0 + ms⟩,
      ⟨X.admits, X.cas, X.clock, X.frames, X.room, X.hears, X.method, X.code, (X.here.setHeapUsed s₂.heap s₂.slotsUsed).setVm hW'.alike, X.tail, State.WarmedH.trans X.warmed hW', X.limits, X.bytes, X.same.trans (hsame.setVm s.vm)⟩,
      ⟨g, mk, s₂, L, rfl, rfl, hqc, rfl, hL, rfl, rfl⟩, ?_⟩
    show Steps p.tables e below _ ((({ U with heap := s₂.heap, slotsUsed := s₂.slotsUsed } : State).setVm s₂.vm).setTop { g with pc := g.pc + len₂, stack := v.toList ++ g.stack })
    rw [← hs₂]
    exact hsteps
  · obtain ⟨e2, q2, q3, q4, q5, q6⟩ := id hsm
    have e3 : s₂ = ({ (U.calling g mk a).setFrames s₂.frames with heap := s₂.heap, slotsUsed := s₂.slotsUsed } : State).setVm s₂.vm := by
      have : s₂ = ({ s₂ with vm := (U.calling g mk a).vm } : State).setVm s₂.vm := rfl
      rw [e2] at this
      exact this
    have hf₂ : s₂.frames = .throwing q :: .java g :: U.frames.tail := hend
    have hW' : U.WarmedH s₂.vm := hW₂
    have hs₂ : s₂ = ((({ U with heap := s₂.heap, slotsUsed := s₂.slotsUsed } : State).setVm s₂.vm).setTop g).pushFrame (.throwing q) := by
      refine e3.trans ?_
      rw [hf₂, State.calling_eq h.top, State.setFrames_setFrames, State.pushFrame, State.frames_setTop _ hr', State.setTop_of_frames _ hr', State.setFrames_setFrames, hr]
      rfl
    have hsame : U.sameButNew ({ U with heap := s₂.heap, slotsUsed := s₂.slotsUsed } : State) L mc ms := by
      refine ⟨?_, q2, q3, q4, q5, q6⟩
      obtain ⟨t, ht, -⟩ := State.frames_cons hr
      show ({ U with heap := s₂.heap, slotsUsed := s₂.slotsUsed } : State) = { U.setFrames U.frames with heap := s₂.heap, slotsUsed := s₂.slotsUsed }
      rw [State.setFrames_self ht]
    subst hg
    refine Or.inr ⟨q, ⟨(({ U with heap := s₂.heap, slotsUsed := s₂.slotsUsed } : State).setVm s₂.vm), Ls ++ L, c0 + mc, s0 + ms⟩,
      ⟨X.admits, X.cas, X.clock, X.frames, X.room, X.hears, X.method, X.code, (X.here.setHeapUsed s₂.heap s₂.slotsUsed).setVm hW'.alike, X.tail, State.WarmedH.trans X.warmed hW', X.limits, X.bytes, X.same.trans (hsame.setVm s.vm)⟩,
      ⟨g, mk, s₂, L, E, ce, rfl, rfl, hx, hce, hcv, hcl, rfl, hL, rfl, rfl⟩, ?_⟩
    show Steps p.tables e below _ (((({ U with heap := s₂.heap, slotsUsed := s₂.slotsUsed } : State).setVm s₂.vm).setTop g).pushFrame (.throwing q))
    rw [← hs₂]
    exact hsteps
end
variable {p : Program} {l : Launch} {e : Env} {R : Room} {s : State} {m : MethodId} {args : Array Value} {below : List Frame} {meth : Method} {c : Code} {T : State} {H : Heap} {locs : List Loc} {cells slots : Nat}
theorem vx_callVX (X : Stand p l e R s m args below meth c T locs cells slots) (hexec : p.tables.exec = Jvm.exec) {own C : String} {index : Nat} {y : MethodName} {bytes : ByteArray} {maxL : Nat} {ret : Option FieldType} {hh : List (Nat × Nat × Nat × Nat)}
    (hown : s.vm.findClass own = some m.cls) (hlink : (Cond.methodLink own index y).before args s = true) (hinst : (Cond.instanceMethod y).before args s = true) (hsel : (Cond.selects C y y).before args s = true)
    (hcode : (Cond.codeWith y bytes maxL ret hh).before args s = true) (hy : y.cls ≠ "java/lang/invoke/MethodHandle" ∧ y.cls ≠ "java/lang/invoke/VarHandle")
    {W9 : Nat} {Pre : Pt → Array Value → Prop} {Post : Pt → Array Value → Option Value → Pt → Prop} {PostX : Pt → Array Value → Addr → Pt → Prop} (hK : vx_Back l R p e below s args y 3 W9 Pre Post PostX)
    {b : Addr} {cellB : Cell} (hcell : T.heap[b]? = some cellB) (hobj : cellB.vm.isStatics = false) (hcls : s.vm.findClass C = some cellB.cls)
    {g : JFrame} (hg : g.method = m) (hsize : g.locals.size = c.maxLocals) {argsL rest : List Value} (hlen : ∀ sig, parseMethodDescriptor y.desc = some sig → argsL.length = sig.parameters.length)
    (hstack : g.stack = argsL.reverse ++ .ref b :: rest) (hW : 2 * g.monitorRoom + (rest.map fun v => v.category).sum ≤ W9) (hdg : decode c.code g.pc = .ok (.invokevirtual index, 3))
    (hpre : ∀ vm₁, s.WarmedH vm₁ → Pre ⟨T.setVm vm₁, locs, cells, slots⟩ (Value.ref b :: argsL).toArray) :
    (∃ (v : Option Value) (vm₁ : Vm) (B : Pt), s.WarmedH vm₁ ∧ Stand p l e R s m args below meth c B.U B.locs B.cells B.slots ∧ Post ⟨T.setVm vm₁, locs, cells, slots⟩ (Value.ref b :: argsL).toArray v B ∧
      ∀ target, Steps p.tables e below (B.U.setTop { g with pc := g.pc + 3, stack := v.toList ++ rest }) target → Steps p.tables e below (T.setTop g) target) ∨
    (∃ (q : Addr) (vm₁ : Vm) (B : Pt), s.WarmedH vm₁ ∧ Stand p l e R s m args below meth c B.U B.locs B.cells B.slots ∧ PostX ⟨T.setVm vm₁, locs, cells, slots⟩ (Value.ref b :: argsL).toArray q B ∧
      Steps p.tables e below (T.setTop g) ((B.U.setTop { g with stack := rest }).pushFrame (.throwing q))) := by
  obtain ⟨mk, methM, hnamed, hmethM, hstM, habM⟩ := Cond.instanceMethod_spec hinst
  obtain ⟨m8, methM', cM, hn8, hmethM', -, -, -, -, -, -, hsigM⟩ := Cond.codeWith_spec hcode
  cases Option.some.inj (hn8.symm.trans hnamed)
  cases hmethM.symm.trans hmethM'
  obtain ⟨c2, r2, m2, q1, q2, q3, q4, kP, hkP, hkPi⟩ := Cond.selects_spec hsel
  cases hcls.symm.trans q1
  cases (State.methodFound?_of_named hnamed hy).symm.trans q2
  cases hnamed.symm.trans q3
  have hselP : selectMethod e.platform s.vm cellB.cls mk = .method mk := by rw [Launch.admits_selectMethod X.admits]; exact q4
  obtain ⟨vm₁, X₁, hstep₁⟩ := X.invokevirtual hexec hown hlink hnamed hmethM hstM hkP hkPi hy (a := b) (cell := cellB) hcell
    (fun z h => by rw [h] at hobj; cases hobj) hselP hmethM habM hkP hkPi (g := g) hg (argsL := argsL) (rest := rest) (hlen _ hsigM) hstack hdg
  rcases hK m meth c ⟨T.setVm vm₁, locs, cells, slots⟩ { g with stack := rest } (.invokevirtual index) mk (Value.ref b :: argsL).toArray X₁ hg hsize hdg hW (X₁.named hnamed) (hpre vm₁ X₁.warmed) with ⟨v, B, X', hpost, hsteps⟩ | ⟨q, B, X', hpost, hsteps⟩
  · exact Or.inl ⟨v, vm₁, B, X₁.warmed, X', hpost, fun target h => hstep₁ _ fun acts => by rw [doInvoke_state]; exact hsteps.trans h⟩
  · exact Or.inr ⟨q, vm₁, B, X₁.warmed, X', hpost, hstep₁ _ fun acts => by rw [doInvoke_state]; exact hsteps⟩
theorem vx_callSX (X : Stand p l e R s m args below meth c T locs cells slots) (hexec : p.tables.exec = Jvm.exec) {own : String} {index : Nat} {y : MethodName} {bytes : ByteArray} {maxL : Nat} {ret : Option FieldType} {hh : List (Nat × Nat × Nat × Nat)}
    (hown : s.vm.findClass own = some m.cls) (hlink : (Cond.methodLink own index y).before args s = true) (hstat : (Cond.static y).before args s = true) (hinit : (Cond.initialized y.cls).before args s = true)
    (hcode : (Cond.codeWith y bytes maxL ret hh).before args s = true) (hy : y.cls ≠ "java/lang/invoke/MethodHandle" ∧ y.cls ≠ "java/lang/invoke/VarHandle")
    {W9 : Nat} {Pre : Pt → Array Value → Prop} {Post : Pt → Array Value → Option Value → Pt → Prop} {PostX : Pt → Array Value → Addr → Pt → Prop} (hK : vx_Back l R p e below s args y 3 W9 Pre Post PostX)
    {g : JFrame} (hg : g.method = m) (hsize : g.locals.size = c.maxLocals) {argsL rest : List Value} (hlen : ∀ sig, parseMethodDescriptor y.desc = some sig → argsL.length = sig.parameters.length)
    (hstack : g.stack = argsL.reverse ++ rest) (hW : 2 * g.monitorRoom + (rest.map fun v => v.category).sum ≤ W9) (hdg : decode c.code g.pc = .ok (.invokestatic index, 3))
    (hpre : ∀ vm₁, s.WarmedH vm₁ → Pre ⟨T.setVm vm₁, locs, cells, slots⟩ argsL.toArray) :
    (∃ (v : Option Value) (vm₁ : Vm) (B : Pt), s.WarmedH vm₁ ∧ Stand p l e R s m args below meth c B.U B.locs B.cells B.slots ∧ Post ⟨T.setVm vm₁, locs, cells, slots⟩ argsL.toArray v B ∧
      ∀ target, Steps p.tables e below (B.U.setTop { g with pc := g.pc + 3, stack := v.toList ++ rest }) target → Steps p.tables e below (T.setTop g) target) ∨
    (∃ (q : Addr) (vm₁ : Vm) (B : Pt), s.WarmedH vm₁ ∧ Stand p l e R s m args below meth c B.U B.locs B.cells B.slots ∧ PostX ⟨T.setVm vm₁, locs, cells, slots⟩ argsL.toArray q B ∧
      Steps p.tables e below (T.setTop g) ((B.U.setTop { g with stack := rest }).pushFrame (.throwing q))) := by
  obtain ⟨mk, methM, cM, hnamed, hmethM, -, -, -, -, -, -, hsigM⟩ := Cond.codeWith_spec hcode
  have hstatic : methM.isStatic = true := Cond.static_spec hnamed hmethM hstat
  obtain ⟨kP, hkP, -⟩ := className_of_methodNamed hnamed
  have hinitP : kP.init = .initialized := Cond.initialized_spec (findClass_of_methodNamed hnamed) hkP hinit
  obtain ⟨vm₁, X₁, hstep₁⟩ := X.invokestatic hexec hown hlink hnamed hmethM hstatic hkP hinitP hy (g := g) hg (argsL := argsL) (rest := rest) (hlen _ hsigM) hstack hdg
  rcases hK m meth c ⟨T.setVm vm₁, locs, cells, slots⟩ { g with stack := rest } (.invokestatic index) mk argsL.toArray X₁ hg hsize hdg hW (X₁.named hnamed) (hpre vm₁ X₁.warmed) with ⟨v, B, X', hpost, hsteps⟩ | ⟨q, B, X', hpost, hsteps⟩
  · exact Or.inl ⟨v, vm₁, B, X₁.warmed, X', hpost, fun target h => hstep₁ _ fun acts => by rw [doInvoke_state]; exact hsteps.trans h⟩
  · exact Or.inr ⟨q, vm₁, B, X₁.warmed, X', hpost, hstep₁ _ fun acts => by rw [doInvoke_state]; exact hsteps⟩
theorem vx_callVW (X : Stand p l e R s m args below meth c T locs cells slots) (hexec : p.tables.exec = Jvm.exec) {own C : String} {index : Nat} {y : MethodName} {bytes : ByteArray} {maxL : Nat} {ret : Option FieldType} {hh : List (Nat × Nat × Nat × Nat)}
    (hown : s.vm.findClass own = some m.cls) (hlink : (Cond.methodLink own index y).before args s = true) (hinst : (Cond.instanceMethod y).before args s = true) (hsel : (Cond.selects C y y).before args s = true)
    (hcode : (Cond.codeWith y bytes maxL ret hh).before args s = true) (hy : y.cls ≠ "java/lang/invoke/MethodHandle" ∧ y.cls ≠ "java/lang/invoke/VarHandle")
    {W9 : Nat} {Pre : Pt → Array Value → Prop} {Post : Pt → Array Value → Option Value → Pt → Prop} (hK : Back l R p e below s args y 3 W9 Pre Post)
    {b : Addr} {cellB : Cell} (hcell : T.heap[b]? = some cellB) (hobj : cellB.vm.isStatics = false) (hcls : s.vm.findClass C = some cellB.cls)
    {g : JFrame} (hg : g.method = m) (hsize : g.locals.size = c.maxLocals) {argsL rest : List Value} (hlen : ∀ sig, parseMethodDescriptor y.desc = some sig → argsL.length = sig.parameters.length)
    (hstack : g.stack = argsL.reverse ++ .ref b :: rest) (hW : 2 * g.monitorRoom + (rest.map fun v => v.category).sum ≤ W9) (hdg : decode c.code g.pc = .ok (.invokevirtual index, 3))
    (hpre : ∀ vm₁, s.WarmedH vm₁ → Pre ⟨T.setVm vm₁, locs, cells, slots⟩ (Value.ref b :: argsL).toArray) :
    ∃ (v : Option Value) (vm₁ : Vm) (B : Pt), s.WarmedH vm₁ ∧ Stand p l e R s m args below meth c B.U B.locs B.cells B.slots ∧ Post ⟨T.setVm vm₁, locs, cells, slots⟩ (Value.ref b :: argsL).toArray v B ∧
      ∀ target, Steps p.tables e below (B.U.setTop { g with pc := g.pc + 3, stack := v.toList ++ rest }) target → Steps p.tables e below (T.setTop g) target := by
  obtain ⟨mk, methM, hnamed, hmethM, hstM, habM⟩ := Cond.instanceMethod_spec hinst
  obtain ⟨m8, methM', cM, hn8, hmethM', -, -, -, -, -, -, hsigM⟩ := Cond.codeWith_spec hcode
  cases Option.some.inj (hn8.symm.trans hnamed)
  cases hmethM.symm.trans hmethM'
  obtain ⟨c2, r2, m2, q1, q2, q3, q4, kP, hkP, hkPi⟩ := Cond.selects_spec hsel
  cases hcls.symm.trans q1
  cases (State.methodFound?_of_named hnamed hy).symm.trans q2
  cases hnamed.symm.trans q3
  have hselP : selectMethod e.platform s.vm cellB.cls mk = .method mk := by rw [Launch.admits_selectMethod X.admits]; exact q4
  obtain ⟨vm₁, X₁, hstep₁⟩ := X.invokevirtual hexec hown hlink hnamed hmethM hstM hkP hkPi hy (a := b) (cell := cellB) hcell
    (fun z h => by rw [h] at hobj; cases hobj) hselP hmethM habM hkP hkPi (g := g) hg (argsL := argsL) (rest := rest) (hlen _ hsigM) hstack hdg
  obtain ⟨v, B, X', hpost, hsteps⟩ := hK m meth c ⟨T.setVm vm₁, locs, cells, slots⟩ { g with stack := rest } (.invokevirtual index) mk (Value.ref b :: argsL).toArray X₁ hg hsize hdg hW (X₁.named hnamed) (hpre vm₁ X₁.warmed)
  exact ⟨v, vm₁, B, X₁.warmed, X', hpost, fun target h => hstep₁ _ fun acts => by rw [doInvoke_state]; exact hsteps.trans h⟩
abbrev vx_CVW (R : Room) (s : State) (args : Array Value) (own C : String) (index : Nat) (y : MethodName) (bytes : ByteArray) (maxL : Nat) (ret : Option FieldType) (hh : List (Nat × Nat × Nat × Nat)) (ws : List Cond) (rm : Room) (mc ms n : Nat) : Prop :=
  (rm.cells = mc ∧ rm.slots = ms ∧ rm.frames + 1 ≤ R.frames ∧ 8 + (maxL + 11) + rm.locals ≤ R.locals ∧ (∀ w ∈ ws, ∀ (a' : Array Value) (U : State), s.WarmedH U.vm → w.before a' U = true) ∧ Cond.codeWith y bytes maxL ret hh ∈ ws) ∧
  (Cond.codeWith y bytes maxL ret hh).before args s = true ∧ (Cond.initialized y.cls).before args s = true ∧ (y.cls ≠ "java/lang/invoke/MethodHandle" ∧ y.cls ≠ "java/lang/invoke/VarHandle") ∧
  (∀ sig, parseMethodDescriptor y.desc = some sig → n = sig.parameters.length) ∧ (Cond.methodLink own index y).before args s = true ∧ (Cond.instanceMethod y).before args s = true ∧ (Cond.selects C y y).before args s = true
theorem vx_cwVW {own C : String} {index maxL mc ms : Nat} {y : MethodName} {bytes : ByteArray} {ret : Option FieldType} {hh : List (Nat × Nat × Nat × Nat)} {Ts ws ws' : List Cond} {rm : Room} (n : Nat) (ht : ∀ w ∈ Ts, w.before args s = true) (hT : GoodIn Ts (wsV own index C y ws)) (hw : ws = Cond.codeWith y bytes maxL ret hh :: ws') (hrc : rm.cells = mc) (hrs : rm.slots = ms)
    (hd : y.cls = C ∧ y.cls ≠ "java/lang/invoke/MethodHandle" ∧ y.cls ≠ "java/lang/invoke/VarHandle" ∧ (parseMethodDescriptor y.desc).map (fun d => d.parameters.length) = some n) (hR : rm.frames + 1 ≤ R.frames ∧ 8 + (maxL + 11) + rm.locals ≤ R.locals) :
    vx_CVW R s args own C index y bytes maxL ret hh ws rm mc ms n := by
  obtain ⟨hC, hd⟩ := hd
  subst hC
  have ok : ∀ w ∈ wsV own index y.cls y ws, w.before args s = true := fun w h => ht w (hT w h).1
  have hG : GoodIn Ts ws := fun w h => hT w (by unfold wsV; exact List.mem_append_right _ h)
  have hc : Cond.codeWith y bytes maxL ret hh ∈ ws := by rw [hw]; exact List.mem_cons_self
  refine ⟨⟨hrc, hrs, hR.1, hR.2, pay_in ht hG, hc⟩, ht _ (hG _ hc).1, ok _ (by simp [wsV]), ⟨hd.1, hd.2.1⟩, fun sig h => ?_, ok _ (by simp [wsV]), ok _ (by simp [wsV]), ok _ (by simp [wsV])⟩
  have h2 := hd.2.2
  rw [h] at h2
  exact (Option.some.inj h2).symm
theorem vx_runVW {y : MethodName} {bytes cc : ByteArray} {maxL nL mc ms n index : Nat} {ret : Option FieldType} {hh : List (Nat × Nat × Nat × Nat)} {ws : List Cond} {rm : Room} {Pc : Array Value → State → Prop} {Qc : Array Value → State → Outcome → State → Prop} {free : Addr → Prop} {Ts : List Cond} {own C : String} {b : Addr} {As rest : List Value} {g : JFrame}
    (S : CallFix p m c cc nL s args Ts own) (hM : Met l y ws rm Pc Qc mc ms free) (cw : vx_CVW R s args own C index y bytes maxL ret hh ws rm mc ms n) (hp : PreV s H C b Pc As)
    (hg : g.method = m) (hn : As.length = n) (hsize : g.locals.size = nL) (hstack : g.stack = As.reverse ++ .ref b :: rest) (hW : 2 * g.monitorRoom + (rest.map fun v => v.category).sum ≤ 8) (hdg : decode cc g.pc = .ok (.invokevirtual index, 3)) (hf : cells + mc ≤ R.cells ∧ slots + ms ≤ R.slots) :
    va_Run p l e R s m args below meth c H locs cells slots mc ms g rest (Qc (Value.ref b :: As).toArray) free := by
  obtain ⟨⟨hrc, hrs, hfr, hlo, hws, hcw⟩, hcode, hini, hy, hlen, hl, hin, hse⟩ := cw
  have hK : Back l R p e below s args y 3 8 (PreOf R mc ms Pc) (PostOf Qc mc ms free) := va_backW (hh := hh) (bytes := bytes) (maxL := maxL) (ret := ret) hM hp.1 hrc hrs hfr hlo hws hcw (fun a' U hW => word_at hW (Or.inl (by first | rfl | simp [Cond.onTables, Cond.keeps, Cond.steady])) hini)
  obtain ⟨hx, hb, hml, ho, -⟩ := S
  obtain ⟨-, ⟨cellB, hcB, hoB, hclB⟩, hPc⟩ := hp
  intro T hT X
  obtain ⟨v, vm₁, ⟨U', l2, c2, s2⟩, hW₁, X', ⟨g', mk, t, L, e1, e2, hq, h1, hL, h2, h3⟩, st⟩ := vx_callVW X hx (C := C) (hh := hh) (bytes := bytes) (maxL := maxL) (ret := ret) ho hl hin hse hcode hy hK (by rw [hT]; exact hcB) hoB hclB hg (hsize.trans hml.symm) (argsL := As) (rest := rest) (fun sig h => hn.trans (hlen sig h)) hstack hW (by rw [hb]; exact hdg)
    (fun vm₁ hW₁ => ⟨hf.1, hf.2, hPc (T.setVm vm₁) hT hW₁⟩)
  dsimp only [Pt.U, Pt.locs, Pt.cells, Pt.slots] at X' e1 e2 h1 h2 h3 st
  subst h1; subst h2; subst h3
  exact ⟨v, (T.setVm vm₁).calling g' mk (Value.ref b :: As).toArray, t, U', L, hT, X', hL, e1, e2, hq, st⟩
section
variable {y : MethodName} {bytes cc : ByteArray} {maxL nL mc ms n index : Nat} {ret : Option FieldType} {ws : List Cond} {rm : Room} {Pc : Array Value → State → Prop} {Qc : Array Value → State → Outcome → State → Prop} {XC : String → State → State → Prop} {free : Addr → Prop} {Ts : List Cond} {own C : String} {b : Addr} {As rest : List Value} {g : JFrame}
theorem vx_runVX {hh : List (Nat × Nat × Nat × Nat)} (S : CallFix p m c cc nL s args Ts own) (hM : vx_Met l y ws rm Pc Qc XC mc ms free) (cw : vx_CVW R s args own C index y bytes maxL ret hh ws rm mc ms n) (hp : PreV s H C b Pc As)
    (hg : g.method = m) (hn : As.length = n) (hsize : g.locals.size = nL) (hstack : g.stack = As.reverse ++ .ref b :: rest) (hW : 2 * g.monitorRoom + (rest.map fun v => v.category).sum ≤ 8) (hdg : decode cc g.pc = .ok (.invokevirtual index, 3)) (hf : cells + mc ≤ R.cells ∧ slots + ms ≤ R.slots) :
    vx_Run p l e R s m args below meth c H locs cells slots mc ms g rest (Qc (Value.ref b :: As).toArray) XC free := by
  obtain ⟨⟨hrc, hrs, hfr, hlo, hws, hcw⟩, hcode, hini, hy, hlen, hl, hin, hse⟩ := cw
  have hK : vx_Back l R p e below s args y 3 8 (PreOf R mc ms Pc) (PostOf Qc mc ms free) (vx_Post XC mc ms free) := vx_backW (hh := hh) (bytes := bytes) (maxL := maxL) (ret := ret) hM hp.1 hrc hrs hfr hlo hws hcw (fun a' U hW => word_at hW (Or.inl (by first | rfl | simp [Cond.onTables, Cond.keeps, Cond.steady])) hini)
  obtain ⟨hx, hb, hml, ho, -⟩ := S
  obtain ⟨-, ⟨cellB, hcB, hoB, hclB⟩, hPc⟩ := hp
  intro T hT X
  rcases vx_callVX X hx (C := C) (hh := hh) (bytes := bytes) (maxL := maxL) (ret := ret) ho hl hin hse hcode hy hK (by rw [hT]; exact hcB) hoB hclB hg (hsize.trans hml.symm) (argsL := As) (rest := rest) (fun sig h => hn.trans (hlen sig h)) hstack hW (by rw [hb]; exact hdg)
    (fun vm₁ hW₁ => ⟨hf.1, hf.2, hPc (T.setVm vm₁) hT hW₁⟩) with ⟨v, vm₁, ⟨U', l2, c2, s2⟩, hW₁, X', ⟨g', mk, t, L, e1, e2, hq, h1, hL, h2, h3⟩, st⟩ | ⟨q, vm₁, ⟨U', l2, c2, s2⟩, hW₁, X', ⟨g', mk, t, L, E, ce, e1, e2, hq, hce, hcv, hcl, h1, hL, h2, h3⟩, st⟩
  · dsimp only [Pt.U, Pt.locs, Pt.cells, Pt.slots] at X' e1 e2 h1 h2 h3 st
    subst h1; subst h2; subst h3
    exact Or.inl ⟨v, (T.setVm vm₁).calling g' mk (Value.ref b :: As).toArray, t, U', L, hT, X', hL, e1, e2, hq, st⟩
  · dsimp only [Pt.U, Pt.locs, Pt.cells, Pt.slots] at X' e1 e2 h1 h2 h3 st hcl
    subst h1; subst h2; subst h3
    exact Or.inr ⟨q, (T.setVm vm₁).calling g' mk (Value.ref b :: As).toArray, t, U', L, E, ce, hT, X', hL, e1, e2, hq, hce, hcv, vx_cls hW₁ hcl, st⟩
theorem vx_runSX {hh : List (Nat × Nat × Nat × Nat)} (S : CallFix p m c cc nL s args Ts own) (hM : vx_Met l y ws rm Pc Qc XC mc ms free) (cw : vx_CSW R s args own index y bytes maxL ret hh ws rm mc ms n) (hp : PreS s H Pc As)
    (hg : g.method = m) (hn : As.length = n) (hsize : g.locals.size = nL) (hstack : g.stack = As.reverse ++ rest) (hW : 2 * g.monitorRoom + (rest.map fun v => v.category).sum ≤ 8) (hdg : decode cc g.pc = .ok (.invokestatic index, 3)) (hf : cells + mc ≤ R.cells ∧ slots + ms ≤ R.slots) :
    vx_Run p l e R s m args below meth c H locs cells slots mc ms g rest (Qc As.toArray) XC free := by
  obtain ⟨⟨hrc, hrs, hfr, hlo, hws, hcw⟩, hcode, hini, hy, hlen, hl, hstt⟩ := cw
  have hK : vx_Back l R p e below s args y 3 8 (PreOf R mc ms Pc) (PostOf Qc mc ms free) (vx_Post XC mc ms free) := vx_backW (hh := hh) (bytes := bytes) (maxL := maxL) (ret := ret) hM hp.1 hrc hrs hfr hlo hws hcw (fun a' U hW => word_at hW (Or.inl (by first | rfl | simp [Cond.onTables, Cond.keeps, Cond.steady])) hini)
  obtain ⟨hx, hb, hml, ho, -⟩ := S
  intro T hT X
  rcases vx_callSX X hx (hh := hh) (bytes := bytes) (maxL := maxL) (ret := ret) ho hl hstt hini hcode hy hK hg (hsize.trans hml.symm) (argsL := As) (rest := rest) (fun sig h => hn.trans (hlen sig h)) hstack hW (by rw [hb]; exact hdg)
    (fun vm₁ hW₁ => ⟨hf.1, hf.2, hp.2 (T.setVm vm₁) hT hW₁⟩) with ⟨v, vm₁, ⟨U', l2, c2, s2⟩, hW₁, X', ⟨g', mk, t, L, e1, e2, hq, h1, hL, h2, h3⟩, st⟩ | ⟨q, vm₁, ⟨U', l2, c2, s2⟩, hW₁, X', ⟨g', mk, t, L, E, ce, e1, e2, hq, hce, hcv, hcl, h1, hL, h2, h3⟩, st⟩
  · dsimp only [Pt.U, Pt.locs, Pt.cells, Pt.slots] at X' e1 e2 h1 h2 h3 st
    subst h1; subst h2; subst h3
    exact Or.inl ⟨v, (T.setVm vm₁).calling g' mk As.toArray, t, U', L, hT, X', hL, e1, e2, hq, st⟩
  · dsimp only [Pt.U, Pt.locs, Pt.cells, Pt.slots] at X' e1 e2 h1 h2 h3 st hcl
    subst h1; subst h2; subst h3
    exact Or.inr ⟨q, (T.setVm vm₁).calling g' mk As.toArray, t, U', L, E, ce, hT, X', hL, e1, e2, hq, hce, hcv, vx_cls hW₁ hcl, st⟩
end
end VXH
theorem vx_ofWH {l : Launch} {y : MethodName} {ws ws' : List Cond} {rm : Room} {Pc : Array Value → State → Prop} {Qc : Array Value → State → Outcome → State → Prop} {XC : String → State → State → Prop} {mc ms : Nat} {free : Addr → Prop} {cc : ByteArray} {maxL : Nat} {ret : Option FieldType} {hh : List (Nat × Nat × Nat × Nat)}
    (hy : plainName y.cls = true) (hw : ws = Cond.codeWith y cc maxL ret hh :: ws')
    (body : ∀ p e s m args below meth c s₁, BodyLoose p l y (headSpec ws rm) cc maxL ret e s m args below meth c s₁ → c.maxLocals = maxL → Pc args s →
      W p l e (headSpec ws rm).room s m args below meth c s.heap [] 0 0 (vx_MQ below Qc XC args s mc ms free) (entryFrame m args maxL)) : vx_Met l y ws rm Pc Qc XC mc ms free := by
  refine MetFree.of_bodyS (code := cc) (maxLocals := maxL) (ret := ret) hy ?_ ?_
  · intro args s m h hn
    obtain ⟨m9, meth, c, hn9, h1, h2, h3, h4, -, h5, h6, -⟩ := Cond.codeWith_spec (atoms_spec (ws := ws) h _ (by rw [hw]; exact List.mem_cons_self))
    cases hn.symm.trans hn9
    exact ⟨meth, c, h1, h2, h3, h4, h5, h6⟩
  · intro p e s m args below meth c s₁ B hml hP _
    have hh0 : s₁.heap = s.heap := by rw [B.state]; rfl
    obtain ⟨t, a1, o, b1, b2, b3⟩ := body p e s m args below meth c s₁ B hml hP s₁ hh0 (Stand.of_body B)
    exact ⟨t, o, a1, b1, b2, b3⟩
/-! ===== END ===== -/
end
section
def RX0 : String := "ArchiveDesk$Codec"
def TX0 : u_T := fun k => match k with
  | _ => ("", "", "", false)
def tyX0 : Nat → FieldType := fun k => match k with
  | _ => .int
abbrev wsX00 : List Cond := u_ws RX0 TX0 0
theorem nmX0 : ∀ a, a < 0 → ∀ b, b < 0 → a ≠ b → (TX0 a).2.1 ≠ (TX0 b).2.1 := by decide +kernel
theorem tyX0_ok : ∀ k, k < 0 → parseFieldDescriptor (TX0 k).2.2.1 = some (tyX0 k) := by decide +kernel
abbrev cX0_crc : ByteArray := prog_2_method_2_code
def yX0_crc : MethodName := ⟨RX0, "crc", "(LArchiveDesk$Row;II)I"⟩
abbrev cX0_foldedSize : ByteArray := prog_2_method_3_code
def yX0_foldedSize : MethodName := ⟨RX0, "foldedSize", "(LArchiveDesk$Row;II)I"⟩
abbrev cX0_fold : ByteArray := prog_2_method_4_code
def yX0_fold : MethodName := ⟨RX0, "fold", "(LArchiveDesk$Row;IILArchiveDesk$Row;)V"⟩
abbrev cX0_nextGroup : ByteArray := prog_2_method_5_code
def yX0_nextGroup : MethodName := ⟨RX0, "nextGroup", "(LArchiveDesk$Row;II)I"⟩
abbrev cX0_unfold : ByteArray := prog_2_method_6_code
def yX0_unfold : MethodName := ⟨RX0, "unfold", "(LArchiveDesk$Row;IILArchiveDesk$Row;)Z"⟩
abbrev cX0_repeat : ByteArray := prog_2_method_7_code
def yX0_repeat : MethodName := ⟨RX0, "repeat", "(IILArchiveDesk$Row;)V"⟩
def RX1 : String := "ArchiveDesk$Entry"
def TX1 : u_T := fun k => match k with
  | 0 => ("ArchiveDesk$Entry", "name", "LArchiveDesk$Row;", true)
  | 1 => ("ArchiveDesk$Entry", "start", "I", false)
  | 2 => ("ArchiveDesk$Entry", "size", "I", false)
  | 3 => ("ArchiveDesk$Entry", "packed", "I", false)
  | _ => ("ArchiveDesk$Entry", "crc", "I", false)
def tyX1 : Nat → FieldType := fun k => match k with
  | 0 => .object "ArchiveDesk$Row"
  | 1 => .int
  | 2 => .int
  | 3 => .int
  | _ => .int
abbrev wsX10 : List Cond := u_ws RX1 TX1 5
theorem nmX1 : ∀ a, a < 5 → ∀ b, b < 5 → a ≠ b → (TX1 a).2.1 ≠ (TX1 b).2.1 := by decide +kernel
theorem tyX1_ok : ∀ k, k < 5 → parseFieldDescriptor (TX1 k).2.2.1 = some (tyX1 k) := by decide +kernel
abbrev cX1_init : ByteArray := prog_3_method_1_code
def yX1_init : MethodName := ⟨RX1, "<init>", "()V"⟩
abbrev cX1_method : ByteArray := prog_3_method_2_code
def yX1_method : MethodName := ⟨RX1, "method", "()I"⟩
abbrev cX1_localSize : ByteArray := prog_3_method_3_code
def yX1_localSize : MethodName := ⟨RX1, "localSize", "()I"⟩
abbrev cX1_setName : ByteArray := prog_3_method_4_code
def yX1_setName : MethodName := ⟨RX1, "setName", "(LArchiveDesk$Row;II)V"⟩
def RX2 : String := "ArchiveDesk$Header"
def TX2 : u_T := fun k => match k with
  | 0 => ("ArchiveDesk$Header", "method", "I", false)
  | 1 => ("ArchiveDesk$Header", "crc", "I", false)
  | 2 => ("ArchiveDesk$Header", "packed", "J", false)
  | 3 => ("ArchiveDesk$Header", "size", "J", false)
  | _ => ("ArchiveDesk$Header", "nameSize", "I", false)
def tyX2 : Nat → FieldType := fun k => match k with
  | 0 => .int
  | 1 => .int
  | 2 => .long
  | 3 => .long
  | _ => .int
abbrev wsX20 : List Cond := u_ws RX2 TX2 5
theorem nmX2 : ∀ a, a < 5 → ∀ b, b < 5 → a ≠ b → (TX2 a).2.1 ≠ (TX2 b).2.1 := by decide +kernel
theorem tyX2_ok : ∀ k, k < 5 → parseFieldDescriptor (TX2 k).2.2.1 = some (tyX2 k) := by decide +kernel
abbrev cX2_init : ByteArray := prog_4_method_1_code
def yX2_init : MethodName := ⟨RX2, "<init>", "()V"⟩
abbrev cX2_parse : ByteArray := prog_4_method_2_code
def yX2_parse : MethodName := ⟨RX2, "parse", "(LArchiveDesk$Row;I)Z"⟩
abbrev cX2_sizesFit : ByteArray := prog_4_method_3_code
def yX2_sizesFit : MethodName := ⟨RX2, "sizesFit", "()Z"⟩
def RX3 : String := "ArchiveDesk$Reader"
def TX3 : u_T := fun k => match k with
  | 0 => ("ArchiveDesk$Reader", "centralAt", "[I", true)
  | 1 => ("ArchiveDesk$Reader", "packedAt", "[I", true)
  | 2 => ("ArchiveDesk$Reader", "header", "LArchiveDesk$Header;", true)
  | 3 => ("ArchiveDesk$Reader", "unpacked", "LArchiveDesk$Row;", true)
  | 4 => ("ArchiveDesk$Reader", "count", "I", false)
  | 5 => ("ArchiveDesk$Reader", "firstCentral", "I", false)
  | 6 => ("ArchiveDesk$Reader", "endAt", "I", false)
  | 7 => ("ArchiveDesk$Reader", "faultNumber", "I", false)
  | 8 => ("ArchiveDesk$Reader", "faultFile", "I", false)
  | _ => ("ArchiveDesk$Reader", "faultPlace", "I", false)
def tyX3 : Nat → FieldType := fun k => match k with
  | 0 => .array .int
  | 1 => .array .int
  | 2 => .object "ArchiveDesk$Header"
  | 3 => .object "ArchiveDesk$Row"
  | 4 => .int
  | 5 => .int
  | 6 => .int
  | 7 => .int
  | 8 => .int
  | _ => .int
abbrev wsX30 : List Cond := u_ws RX3 TX3 10
theorem nmX3 : ∀ a, a < 10 → ∀ b, b < 10 → a ≠ b → (TX3 a).2.1 ≠ (TX3 b).2.1 := by decide +kernel
theorem tyX3_ok : ∀ k, k < 10 → parseFieldDescriptor (TX3 k).2.2.1 = some (tyX3 k) := by decide +kernel
abbrev cX3_init : ByteArray := prog_5_method_1_code
def yX3_init : MethodName := ⟨RX3, "<init>", "()V"⟩
abbrev cX3_faultNumber : ByteArray := prog_5_method_2_code
def yX3_faultNumber : MethodName := ⟨RX3, "faultNumber", "()I"⟩
abbrev cX3_faultFile : ByteArray := prog_5_method_3_code
def yX3_faultFile : MethodName := ⟨RX3, "faultFile", "()I"⟩
abbrev cX3_faultPlace : ByteArray := prog_5_method_4_code
def yX3_faultPlace : MethodName := ⟨RX3, "faultPlace", "()I"⟩
abbrev cX3_nameSize : ByteArray := prog_5_method_5_code
def yX3_nameSize : MethodName := ⟨RX3, "nameSize", "()I"⟩
abbrev cX3_packedSize : ByteArray := prog_5_method_6_code
def yX3_packedSize : MethodName := ⟨RX3, "packedSize", "()I"⟩
abbrev cX3_unpacked : ByteArray := prog_5_method_7_code
def yX3_unpacked : MethodName := ⟨RX3, "unpacked", "()LArchiveDesk$Row;"⟩
abbrev cX3_passes : ByteArray := prog_5_method_8_code
def yX3_passes : MethodName := ⟨RX3, "passes", "(LArchiveDesk$Row;)Z"⟩
abbrev cX3_fails : ByteArray := prog_5_method_9_code
def yX3_fails : MethodName := ⟨RX3, "fails", "(III)Z"⟩
abbrev cX3_endPasses : ByteArray := prog_5_method_10_code
def yX3_endPasses : MethodName := ⟨RX3, "endPasses", "(LArchiveDesk$Row;)Z"⟩
abbrev cX3_endStands : ByteArray := prog_5_method_11_code
def yX3_endStands : MethodName := ⟨RX3, "endStands", "(LArchiveDesk$Row;I)Z"⟩
abbrev cX3_centralsPass : ByteArray := prog_5_method_12_code
def yX3_centralsPass : MethodName := ⟨RX3, "centralsPass", "(LArchiveDesk$Row;)Z"⟩
abbrev cX3_centralStands : ByteArray := prog_5_method_13_code
def yX3_centralStands : MethodName := ⟨RX3, "centralStands", "(LArchiveDesk$Row;II)Z"⟩
abbrev cX3_isEarlierName : ByteArray := prog_5_method_14_code
def yX3_isEarlierName : MethodName := ⟨RX3, "isEarlierName", "(LArchiveDesk$Row;II)Z"⟩
abbrev cX3_localsPass : ByteArray := prog_5_method_15_code
def yX3_localsPass : MethodName := ⟨RX3, "localsPass", "(LArchiveDesk$Row;)Z"⟩
abbrev cX3_localStands : ByteArray := prog_5_method_16_code
def yX3_localStands : MethodName := ⟨RX3, "localStands", "(LArchiveDesk$Row;II)Z"⟩
abbrev cX3_contentsPass : ByteArray := prog_5_method_17_code
def yX3_contentsPass : MethodName := ⟨RX3, "contentsPass", "(LArchiveDesk$Row;)Z"⟩
abbrev cX3_unpack : ByteArray := prog_5_method_18_code
def yX3_unpack : MethodName := ⟨RX3, "unpack", "(LArchiveDesk$Row;I)Z"⟩
abbrev cX3_crcAgrees : ByteArray := prog_5_method_19_code
def yX3_crcAgrees : MethodName := ⟨RX3, "crcAgrees", "()Z"⟩
abbrev cX3_load : ByteArray := prog_5_method_20_code
def yX3_load : MethodName := ⟨RX3, "load", "(LArchiveDesk$Row;LArchiveDesk$Shelf;)V"⟩
abbrev cX3_wholeAt : ByteArray := prog_5_method_21_code
def yX3_wholeAt : MethodName := ⟨RX3, "wholeAt", "(LArchiveDesk$Row;I)Z"⟩
def RX4 : String := "ArchiveDesk$Row"
def TX4 : u_T := fun k => match k with
  | 0 => ("ArchiveDesk$Row", "cells", "[I", true)
  | _ => ("ArchiveDesk$Row", "size", "I", false)
def tyX4 : Nat → FieldType := fun k => match k with
  | 0 => .array .int
  | _ => .int
abbrev wsX40 : List Cond := u_ws RX4 TX4 2
theorem nmX4 : ∀ a, a < 2 → ∀ b, b < 2 → a ≠ b → (TX4 a).2.1 ≠ (TX4 b).2.1 := by decide +kernel
theorem tyX4_ok : ∀ k, k < 2 → parseFieldDescriptor (TX4 k).2.2.1 = some (tyX4 k) := by decide +kernel
abbrev cX4_init : ByteArray := prog_6_method_1_code
def yX4_init : MethodName := ⟨RX4, "<init>", "(I)V"⟩
abbrev cX4_size : ByteArray := prog_6_method_2_code
def yX4_size : MethodName := ⟨RX4, "size", "()I"⟩
abbrev cX4_room : ByteArray := prog_6_method_3_code
def yX4_room : MethodName := ⟨RX4, "room", "()I"⟩
abbrev cX4_holds : ByteArray := prog_6_method_4_code
def yX4_holds : MethodName := ⟨RX4, "holds", "(II)Z"⟩
abbrev cX4_at : ByteArray := prog_6_method_5_code
def yX4_at : MethodName := ⟨RX4, "at", "(I)I"⟩
abbrev cX4_two : ByteArray := prog_6_method_6_code
def yX4_two : MethodName := ⟨RX4, "two", "(I)I"⟩
abbrev cX4_four : ByteArray := prog_6_method_7_code
def yX4_four : MethodName := ⟨RX4, "four", "(I)J"⟩
abbrev cX4_push : ByteArray := prog_6_method_8_code
def yX4_push : MethodName := ⟨RX4, "push", "(I)V"⟩
abbrev cX4_pushTwo : ByteArray := prog_6_method_9_code
def yX4_pushTwo : MethodName := ⟨RX4, "pushTwo", "(I)V"⟩
abbrev cX4_pushFour : ByteArray := prog_6_method_10_code
def yX4_pushFour : MethodName := ⟨RX4, "pushFour", "(I)V"⟩
abbrev cX4_pushHighFirst : ByteArray := prog_6_method_11_code
def yX4_pushHighFirst : MethodName := ⟨RX4, "pushHighFirst", "(I)V"⟩
abbrev cX4_pushSignature : ByteArray := prog_6_method_12_code
def yX4_pushSignature : MethodName := ⟨RX4, "pushSignature", "(II)V"⟩
abbrev cX4_append : ByteArray := prog_6_method_13_code
def yX4_append : MethodName := ⟨RX4, "append", "(LArchiveDesk$Row;II)V"⟩
abbrev cX4_blank : ByteArray := prog_6_method_14_code
def yX4_blank : MethodName := ⟨RX4, "blank", "()V"⟩
abbrev cX4_shorten : ByteArray := prog_6_method_15_code
def yX4_shorten : MethodName := ⟨RX4, "shorten", "(I)Z"⟩
abbrev cX4_close : ByteArray := prog_6_method_16_code
def yX4_close : MethodName := ⟨RX4, "close", "(II)Z"⟩
abbrev cX4_turn : ByteArray := prog_6_method_17_code
def yX4_turn : MethodName := ⟨RX4, "turn", "(II)Z"⟩
abbrev cX4_hasSignature : ByteArray := prog_6_method_18_code
def yX4_hasSignature : MethodName := ⟨RX4, "hasSignature", "(III)Z"⟩
abbrev cX4_isName : ByteArray := prog_6_method_19_code
def yX4_isName : MethodName := ⟨RX4, "isName", "(II)Z"⟩
abbrev cX4_agrees : ByteArray := prog_6_method_20_code
def yX4_agrees : MethodName := ⟨RX4, "agrees", "(ILArchiveDesk$Row;II)Z"⟩
abbrev cX4_isNameAhead : ByteArray := prog_6_method_21_code
def yX4_isNameAhead : MethodName := ⟨RX4, "isNameAhead", "(LArchiveDesk$Row;)Z"⟩
def RX5 : String := "ArchiveDesk$Shelf"
def TX5 : u_T := fun k => match k with
  | 0 => ("ArchiveDesk$Shelf", "entries", "[LArchiveDesk$Entry;", true)
  | 1 => ("ArchiveDesk$Shelf", "bytes", "LArchiveDesk$Row;", true)
  | _ => ("ArchiveDesk$Shelf", "count", "I", false)
def tyX5 : Nat → FieldType := fun k => match k with
  | 0 => .array (.object "ArchiveDesk$Entry")
  | 1 => .object "ArchiveDesk$Row"
  | _ => .int
abbrev wsX50 : List Cond := u_ws RX5 TX5 3
theorem nmX5 : ∀ a, a < 3 → ∀ b, b < 3 → a ≠ b → (TX5 a).2.1 ≠ (TX5 b).2.1 := by decide +kernel
theorem tyX5_ok : ∀ k, k < 3 → parseFieldDescriptor (TX5 k).2.2.1 = some (tyX5 k) := by decide +kernel
abbrev cX5_init : ByteArray := prog_7_method_1_code
def yX5_init : MethodName := ⟨RX5, "<init>", "()V"⟩
abbrev cX5_count : ByteArray := prog_7_method_2_code
def yX5_count : MethodName := ⟨RX5, "count", "()I"⟩
abbrev cX5_together : ByteArray := prog_7_method_3_code
def yX5_together : MethodName := ⟨RX5, "together", "()I"⟩
abbrev cX5_entry : ByteArray := prog_7_method_4_code
def yX5_entry : MethodName := ⟨RX5, "entry", "(I)LArchiveDesk$Entry;"⟩
abbrev cX5_byteOf : ByteArray := prog_7_method_5_code
def yX5_byteOf : MethodName := ⟨RX5, "byteOf", "(LArchiveDesk$Entry;I)I"⟩
abbrev cX5_lookUp : ByteArray := prog_7_method_6_code
def yX5_lookUp : MethodName := ⟨RX5, "lookUp", "(LArchiveDesk$Row;II)I"⟩
abbrev cX5_hasRoom : ByteArray := prog_7_method_7_code
def yX5_hasRoom : MethodName := ⟨RX5, "hasRoom", "(II)Z"⟩
abbrev cX5_put : ByteArray := prog_7_method_8_code
def yX5_put : MethodName := ⟨RX5, "put", "(LArchiveDesk$Row;IILArchiveDesk$Row;II)V"⟩
abbrev cX5_fill : ByteArray := prog_7_method_9_code
def yX5_fill : MethodName := ⟨RX5, "fill", "(LArchiveDesk$Entry;LArchiveDesk$Row;II)V"⟩
abbrev cX5_changeName : ByteArray := prog_7_method_10_code
def yX5_changeName : MethodName := ⟨RX5, "changeName", "(ILArchiveDesk$Row;)V"⟩
abbrev cX5_changeBytes : ByteArray := prog_7_method_11_code
def yX5_changeBytes : MethodName := ⟨RX5, "changeBytes", "(ILArchiveDesk$Row;)V"⟩
abbrev cX5_release : ByteArray := prog_7_method_12_code
def yX5_release : MethodName := ⟨RX5, "release", "(LArchiveDesk$Entry;)V"⟩
abbrev cX5_takeOut : ByteArray := prog_7_method_13_code
def yX5_takeOut : MethodName := ⟨RX5, "takeOut", "(I)V"⟩
abbrev cX5_takeOutAll : ByteArray := prog_7_method_14_code
def yX5_takeOutAll : MethodName := ⟨RX5, "takeOutAll", "()V"⟩
abbrev cX5_putInOrder : ByteArray := prog_7_method_15_code
def yX5_putInOrder : MethodName := ⟨RX5, "putInOrder", "()V"⟩
abbrev cX5_writeLocals : ByteArray := prog_7_method_16_code
def yX5_writeLocals : MethodName := ⟨RX5, "writeLocals", "(LArchiveDesk$Row;)V"⟩
abbrev cX5_writeCentrals : ByteArray := prog_7_method_17_code
def yX5_writeCentrals : MethodName := ⟨RX5, "writeCentrals", "(LArchiveDesk$Row;)V"⟩
def RX6 : String := "ArchiveDesk$Writer"
def TX6 : u_T := fun k => match k with
  | _ => ("", "", "", false)
def tyX6 : Nat → FieldType := fun k => match k with
  | _ => .int
abbrev wsX60 : List Cond := u_ws RX6 TX6 0
theorem nmX6 : ∀ a, a < 0 → ∀ b, b < 0 → a ≠ b → (TX6 a).2.1 ≠ (TX6 b).2.1 := by decide +kernel
theorem tyX6_ok : ∀ k, k < 0 → parseFieldDescriptor (TX6 k).2.2.1 = some (tyX6 k) := by decide +kernel
abbrev cX6_writeLocal : ByteArray := prog_8_method_2_code
def yX6_writeLocal : MethodName := ⟨RX6, "writeLocal", "(LArchiveDesk$Row;LArchiveDesk$Entry;)V"⟩
abbrev cX6_writeCentral : ByteArray := prog_8_method_3_code
def yX6_writeCentral : MethodName := ⟨RX6, "writeCentral", "(LArchiveDesk$Row;LArchiveDesk$Entry;I)V"⟩
abbrev cX6_writeShared : ByteArray := prog_8_method_4_code
def yX6_writeShared : MethodName := ⟨RX6, "writeShared", "(LArchiveDesk$Row;LArchiveDesk$Entry;)V"⟩
abbrev cX6_writeEnd : ByteArray := prog_8_method_5_code
def yX6_writeEnd : MethodName := ⟨RX6, "writeEnd", "(LArchiveDesk$Row;III)V"⟩
def RX7 : String := "ArchiveDesk"
def TX7 : u_T := fun k => match k with
  | 0 => ("ArchiveDesk", "ready", "LArchiveDesk$Row;", true)
  | 1 => ("ArchiveDesk", "tape", "LArchiveDesk$Row;", true)
  | 2 => ("ArchiveDesk", "output", "LArchiveDesk$Row;", true)
  | 3 => ("ArchiveDesk", "shelf", "LArchiveDesk$Shelf;", true)
  | _ => ("ArchiveDesk", "reader", "LArchiveDesk$Reader;", true)
def tyX7 : Nat → FieldType := fun k => match k with
  | 0 => .object "ArchiveDesk$Row"
  | 1 => .object "ArchiveDesk$Row"
  | 2 => .object "ArchiveDesk$Row"
  | 3 => .object "ArchiveDesk$Shelf"
  | _ => .object "ArchiveDesk$Reader"
abbrev wsX70 : List Cond := u_ws RX7 TX7 5
theorem nmX7 : ∀ a, a < 5 → ∀ b, b < 5 → a ≠ b → (TX7 a).2.1 ≠ (TX7 b).2.1 := by decide +kernel
theorem tyX7_ok : ∀ k, k < 5 → parseFieldDescriptor (TX7 k).2.2.1 = some (tyX7 k) := by decide +kernel
abbrev cX7_init : ByteArray := prog_1_method_1_code
def yX7_init : MethodName := ⟨RX7, "<init>", "()V"⟩
abbrev cX7_feed : ByteArray := prog_1_method_2_code
def yX7_feed : MethodName := ⟨RX7, "feed", "(IIIII)V"⟩
abbrev cX7_end : ByteArray := prog_1_method_3_code
def yX7_end : MethodName := ⟨RX7, "end", "(II)I"⟩
abbrev cX7_cut : ByteArray := prog_1_method_4_code
def yX7_cut : MethodName := ⟨RX7, "cut", "(I)Z"⟩
abbrev cX7_drop : ByteArray := prog_1_method_5_code
def yX7_drop : MethodName := ⟨RX7, "drop", "(I)Z"⟩
abbrev cX7_flip : ByteArray := prog_1_method_6_code
def yX7_flip : MethodName := ⟨RX7, "flip", "(II)Z"⟩
abbrev cX7_take : ByteArray := prog_1_method_7_code
def yX7_take : MethodName := ⟨RX7, "take", "()I"⟩
abbrev cX7_add : ByteArray := prog_1_method_8_code
def yX7_add : MethodName := ⟨RX7, "add", "(I)I"⟩
abbrev cX7_replace : ByteArray := prog_1_method_9_code
def yX7_replace : MethodName := ⟨RX7, "replace", "(I)V"⟩
abbrev cX7_rename : ByteArray := prog_1_method_10_code
def yX7_rename : MethodName := ⟨RX7, "rename", "(I)V"⟩
abbrev cX7_remove : ByteArray := prog_1_method_11_code
def yX7_remove : MethodName := ⟨RX7, "remove", "(I)V"⟩
abbrev cX7_sort : ByteArray := prog_1_method_12_code
def yX7_sort : MethodName := ⟨RX7, "sort", "()V"⟩
abbrev cX7_clear : ByteArray := prog_1_method_13_code
def yX7_clear : MethodName := ⟨RX7, "clear", "()V"⟩
abbrev cX7_make : ByteArray := prog_1_method_14_code
def yX7_make : MethodName := ⟨RX7, "make", "()I"⟩
abbrev cX7_read : ByteArray := prog_1_method_15_code
def yX7_read : MethodName := ⟨RX7, "read", "()I"⟩
abbrev cX7_fault : ByteArray := prog_1_method_16_code
def yX7_fault : MethodName := ⟨RX7, "fault", "(I)I"⟩
abbrev cX7_save : ByteArray := prog_1_method_17_code
def yX7_save : MethodName := ⟨RX7, "save", "()I"⟩
abbrev cX7_saveFrom : ByteArray := prog_1_method_18_code
def yX7_saveFrom : MethodName := ⟨RX7, "saveFrom", "(I)I"⟩
abbrev cX7_file : ByteArray := prog_1_method_19_code
def yX7_file : MethodName := ⟨RX7, "file", "(II)I"⟩
abbrev cX7_letter : ByteArray := prog_1_method_20_code
def yX7_letter : MethodName := ⟨RX7, "letter", "(IZI)I"⟩
abbrev cX7_find : ByteArray := prog_1_method_21_code
def yX7_find : MethodName := ⟨RX7, "find", "()I"⟩
abbrev cX7_output : ByteArray := prog_1_method_22_code
def yX7_output : MethodName := ⟨RX7, "output", "(I)I"⟩
abbrev cX7_about : ByteArray := prog_1_method_23_code
def yX7_about : MethodName := ⟨RX7, "about", "(I)I"⟩
def RX8 : String := "ArchiveDeskModel"
def TX8 : u_T := fun k => match k with
  | 0 => ("ArchiveDeskModel", "thrown", "I", false)
  | 1 => ("ArchiveDeskModel", "ready", "[I", true)
  | 2 => ("ArchiveDeskModel", "tape", "[I", true)
  | 3 => ("ArchiveDeskModel", "size", "I", false)
  | 4 => ("ArchiveDeskModel", "output", "[I", true)
  | 5 => ("ArchiveDeskModel", "outputSize", "I", false)
  | 6 => ("ArchiveDeskModel", "files", "I", false)
  | 7 => ("ArchiveDeskModel", "names", "[I", true)
  | 8 => ("ArchiveDeskModel", "nameSize", "[I", true)
  | 9 => ("ArchiveDeskModel", "bytes", "[I", true)
  | 10 => ("ArchiveDeskModel", "many", "[I", true)
  | 11 => ("ArchiveDeskModel", "fault", "I", false)
  | 12 => ("ArchiveDeskModel", "faultFile", "I", false)
  | 13 => ("ArchiveDeskModel", "faultPlace", "I", false)
  | 14 => ("ArchiveDeskModel", "folded", "[I", true)
  | 15 => ("ArchiveDeskModel", "foldedSize", "I", false)
  | 16 => ("ArchiveDeskModel", "centralAt", "[I", true)
  | 17 => ("ArchiveDeskModel", "bytesAt", "[I", true)
  | _ => ("ArchiveDeskModel", "where", "[I", true)
def tyX8 : Nat → FieldType := fun k => match k with
  | 0 => .int
  | 1 => .array .int
  | 2 => .array .int
  | 3 => .int
  | 4 => .array .int
  | 5 => .int
  | 6 => .int
  | 7 => .array .int
  | 8 => .array .int
  | 9 => .array .int
  | 10 => .array .int
  | 11 => .int
  | 12 => .int
  | 13 => .int
  | 14 => .array .int
  | 15 => .int
  | 16 => .array .int
  | 17 => .array .int
  | _ => .array .int
abbrev wsX80 : List Cond := u_ws RX8 TX8 19
theorem nmX8 : ∀ a, a < 19 → ∀ b, b < 19 → a ≠ b → (TX8 a).2.1 ≠ (TX8 b).2.1 := by decide +kernel
theorem tyX8_ok : ∀ k, k < 19 → parseFieldDescriptor (TX8 k).2.2.1 = some (tyX8 k) := by decide +kernel
abbrev cX8_init : ByteArray := prog_10_method_1_code
def yX8_init : MethodName := ⟨RX8, "<init>", "()V"⟩
abbrev cX8_feed : ByteArray := prog_10_method_3_code
def yX8_feed : MethodName := ⟨RX8, "feed", "(IIIII)V"⟩
abbrev cX8_end : ByteArray := prog_10_method_4_code
def yX8_end : MethodName := ⟨RX8, "end", "(II)I"⟩
abbrev cX8_cut : ByteArray := prog_10_method_5_code
def yX8_cut : MethodName := ⟨RX8, "cut", "(I)Z"⟩
abbrev cX8_drop : ByteArray := prog_10_method_6_code
def yX8_drop : MethodName := ⟨RX8, "drop", "(I)Z"⟩
abbrev cX8_flip : ByteArray := prog_10_method_7_code
def yX8_flip : MethodName := ⟨RX8, "flip", "(II)Z"⟩
abbrev cX8_take : ByteArray := prog_10_method_8_code
def yX8_take : MethodName := ⟨RX8, "take", "()I"⟩
abbrev cX8_isFile : ByteArray := prog_10_method_9_code
def yX8_isFile : MethodName := ⟨RX8, "isFile", "(I)Z"⟩
abbrev cX8_isName : ByteArray := prog_10_method_10_code
def yX8_isName : MethodName := ⟨RX8, "isName", "(II)Z"⟩
abbrev cX8_named : ByteArray := prog_10_method_11_code
def yX8_named : MethodName := ⟨RX8, "named", "(III)I"⟩
abbrev cX8_total : ByteArray := prog_10_method_12_code
def yX8_total : MethodName := ⟨RX8, "total", "()I"⟩
abbrev cX8_setName : ByteArray := prog_10_method_13_code
def yX8_setName : MethodName := ⟨RX8, "setName", "(III)V"⟩
abbrev cX8_setBytes : ByteArray := prog_10_method_14_code
def yX8_setBytes : MethodName := ⟨RX8, "setBytes", "(III)V"⟩
abbrev cX8_copyFile : ByteArray := prog_10_method_15_code
def yX8_copyFile : MethodName := ⟨RX8, "copyFile", "(II)V"⟩
abbrev cX8_goes : ByteArray := prog_10_method_16_code
def yX8_goes : MethodName := ⟨RX8, "goes", "(I)V"⟩
abbrev cX8_add : ByteArray := prog_10_method_17_code
def yX8_add : MethodName := ⟨RX8, "add", "(I)I"⟩
abbrev cX8_replace : ByteArray := prog_10_method_18_code
def yX8_replace : MethodName := ⟨RX8, "replace", "(I)V"⟩
abbrev cX8_rename : ByteArray := prog_10_method_19_code
def yX8_rename : MethodName := ⟨RX8, "rename", "(I)V"⟩
abbrev cX8_remove : ByteArray := prog_10_method_20_code
def yX8_remove : MethodName := ⟨RX8, "remove", "(I)V"⟩
abbrev cX8_isAhead : ByteArray := prog_10_method_21_code
def yX8_isAhead : MethodName := ⟨RX8, "isAhead", "(II)Z"⟩
abbrev cX8_sort : ByteArray := prog_10_method_22_code
def yX8_sort : MethodName := ⟨RX8, "sort", "()V"⟩
abbrev cX8_clear : ByteArray := prog_10_method_23_code
def yX8_clear : MethodName := ⟨RX8, "clear", "()V"⟩
abbrev cX8_alike : ByteArray := prog_10_method_24_code
def yX8_alike : MethodName := ⟨RX8, "alike", "(II)I"⟩
abbrev cX8_put : ByteArray := prog_10_method_25_code
def yX8_put : MethodName := ⟨RX8, "put", "(I)V"⟩
abbrev cX8_fold : ByteArray := prog_10_method_26_code
def yX8_fold : MethodName := ⟨RX8, "fold", "(I)V"⟩
abbrev cX8_method : ByteArray := prog_10_method_27_code
def yX8_method : MethodName := ⟨RX8, "method", "(I)I"⟩
abbrev cX8_packedSize : ByteArray := prog_10_method_28_code
def yX8_packedSize : MethodName := ⟨RX8, "packedSize", "(I)I"⟩
abbrev cX8_crc : ByteArray := prog_10_method_29_code
def yX8_crc : MethodName := ⟨RX8, "crc", "(I)I"⟩
abbrev cX8_write : ByteArray := prog_10_method_30_code
def yX8_write : MethodName := ⟨RX8, "write", "(II)V"⟩
abbrev cX8_writeFacts : ByteArray := prog_10_method_31_code
def yX8_writeFacts : MethodName := ⟨RX8, "writeFacts", "(I)V"⟩
abbrev cX8_writeName : ByteArray := prog_10_method_32_code
def yX8_writeName : MethodName := ⟨RX8, "writeName", "(I)V"⟩
abbrev cX8_sign : ByteArray := prog_10_method_33_code
def yX8_sign : MethodName := ⟨RX8, "sign", "(II)V"⟩
abbrev cX8_make : ByteArray := prog_10_method_34_code
def yX8_make : MethodName := ⟨RX8, "make", "()I"⟩
abbrev cX8_number : ByteArray := prog_10_method_35_code
def yX8_number : MethodName := ⟨RX8, "number", "(II)I"⟩
abbrev cX8_is : ByteArray := prog_10_method_36_code
def yX8_is : MethodName := ⟨RX8, "is", "(III)Z"⟩
abbrev cX8_isSign : ByteArray := prog_10_method_37_code
def yX8_isSign : MethodName := ⟨RX8, "isSign", "(III)Z"⟩
abbrev cX8_fails : ByteArray := prog_10_method_38_code
def yX8_fails : MethodName := ⟨RX8, "fails", "(III)Z"⟩
abbrev cX8_areFacts : ByteArray := prog_10_method_39_code
def yX8_areFacts : MethodName := ⟨RX8, "areFacts", "(I)Z"⟩
abbrev cX8_findEnd : ByteArray := prog_10_method_40_code
def yX8_findEnd : MethodName := ⟨RX8, "findEnd", "()I"⟩
abbrev cX8_isCentral : ByteArray := prog_10_method_41_code
def yX8_isCentral : MethodName := ⟨RX8, "isCentral", "(III)Z"⟩
abbrev cX8_isSame : ByteArray := prog_10_method_42_code
def yX8_isSame : MethodName := ⟨RX8, "isSame", "(III)Z"⟩
abbrev cX8_findCentrals : ByteArray := prog_10_method_43_code
def yX8_findCentrals : MethodName := ⟨RX8, "findCentrals", "(II)Z"⟩
abbrev cX8_isLocal : ByteArray := prog_10_method_44_code
def yX8_isLocal : MethodName := ⟨RX8, "isLocal", "(IIIZ)Z"⟩
abbrev cX8_findLocals : ByteArray := prog_10_method_45_code
def yX8_findLocals : MethodName := ⟨RX8, "findLocals", "(II)Z"⟩
abbrev cX8_areSizes : ByteArray := prog_10_method_46_code
def yX8_areSizes : MethodName := ⟨RX8, "areSizes", "(I)Z"⟩
abbrev cX8_unfold : ByteArray := prog_10_method_47_code
def yX8_unfold : MethodName := ⟨RX8, "unfold", "(II)Z"⟩
abbrev cX8_isCrc : ByteArray := prog_10_method_48_code
def yX8_isCrc : MethodName := ⟨RX8, "isCrc", "(I)Z"⟩
abbrev cX8_areBytes : ByteArray := prog_10_method_49_code
def yX8_areBytes : MethodName := ⟨RX8, "areBytes", "(I)Z"⟩
abbrev cX8_read : ByteArray := prog_10_method_50_code
def yX8_read : MethodName := ⟨RX8, "read", "()I"⟩
abbrev cX8_append : ByteArray := prog_10_method_51_code
def yX8_append : MethodName := ⟨RX8, "append", "(IIII)V"⟩
abbrev cX8_fault : ByteArray := prog_10_method_52_code
def yX8_fault : MethodName := ⟨RX8, "fault", "(I)I"⟩
abbrev cX8_saved : ByteArray := prog_10_method_53_code
def yX8_saved : MethodName := ⟨RX8, "saved", "(I)I"⟩
abbrev cX8_save : ByteArray := prog_10_method_54_code
def yX8_save : MethodName := ⟨RX8, "save", "()I"⟩
abbrev cX8_file : ByteArray := prog_10_method_55_code
def yX8_file : MethodName := ⟨RX8, "file", "(II)I"⟩
abbrev cX8_letter : ByteArray := prog_10_method_56_code
def yX8_letter : MethodName := ⟨RX8, "letter", "(IZI)I"⟩
abbrev cX8_find : ByteArray := prog_10_method_57_code
def yX8_find : MethodName := ⟨RX8, "find", "()I"⟩
abbrev cX8_output : ByteArray := prog_10_method_58_code
def yX8_output : MethodName := ⟨RX8, "output", "(I)I"⟩
abbrev cX8_about : ByteArray := prog_10_method_59_code
def yX8_about : MethodName := ⟨RX8, "about", "(I)I"⟩
def RJ9 : String := "java/lang/Math"
def TJ9 : u_T := fun k => match k with
  | _ => ("", "", "", false)
def tyJ9 : Nat → FieldType := fun k => match k with
  | _ => .int
abbrev wsJ90 : List Cond := u_ws RJ9 TJ9 0
theorem nmJ9 : ∀ a, a < 0 → ∀ b, b < 0 → a ≠ b → (TJ9 a).2.1 ≠ (TJ9 b).2.1 := by decide +kernel
theorem tyJ9_ok : ∀ k, k < 0 → parseFieldDescriptor (TJ9 k).2.2.1 = some (tyJ9 k) := by decide +kernel
abbrev cJ9_abs_0f7a4 : ByteArray := prog_15_method_59_code
def yJ9_abs_0f7a4 : MethodName := ⟨RJ9, "abs", "(I)I"⟩
abbrev cJ9_max_7cf53 : ByteArray := prog_15_method_65_code
def yJ9_max_7cf53 : MethodName := ⟨RJ9, "max", "(II)I"⟩
abbrev cJ9_min_7cf53 : ByteArray := prog_15_method_69_code
def yJ9_min_7cf53 : MethodName := ⟨RJ9, "min", "(II)I"⟩
def RJ0 : String := "java/lang/String"
def TJ0 : u_T := fun k => match k with
  | _ => ("", "", "", false)
def tyJ0 : Nat → FieldType := fun k => match k with
  | _ => .int
abbrev wsJ00 : List Cond := u_ws RJ0 TJ0 0
theorem nmJ0 : ∀ a, a < 0 → ∀ b, b < 0 → a ≠ b → (TJ0 a).2.1 ≠ (TJ0 b).2.1 := by decide +kernel
theorem tyJ0_ok : ∀ k, k < 0 → parseFieldDescriptor (TJ0 k).2.2.1 = some (tyJ0 k) := by decide +kernel
def RJ10 : String := "java/lang/System"
def TJ10 : u_T := fun k => match k with
  | _ => ("", "", "", false)
def tyJ10 : Nat → FieldType := fun k => match k with
  | _ => .int
abbrev wsJ100 : List Cond := u_ws RJ10 TJ10 0
theorem nmJ10 : ∀ a, a < 0 → ∀ b, b < 0 → a ≠ b → (TJ10 a).2.1 ≠ (TJ10 b).2.1 := by decide +kernel
theorem tyJ10_ok : ∀ k, k < 0 → parseFieldDescriptor (TJ10 k).2.2.1 = some (tyJ10 k) := by decide +kernel
def RL : String := "ArchiveDeskLaw"
abbrev cL_take : ByteArray := method_3_code
def yL_take : MethodName := ⟨RL, "take", "(LArchiveDesk;[J)I"⟩
abbrev cL_add : ByteArray := method_4_code
def yL_add : MethodName := ⟨RL, "add", "(LArchiveDesk;I[J)I"⟩
abbrev cL_replace : ByteArray := method_5_code
def yL_replace : MethodName := ⟨RL, "replace", "(LArchiveDesk;I)I"⟩
abbrev cL_rename : ByteArray := method_6_code
def yL_rename : MethodName := ⟨RL, "rename", "(LArchiveDesk;I)I"⟩
abbrev cL_remove : ByteArray := method_7_code
def yL_remove : MethodName := ⟨RL, "remove", "(LArchiveDesk;I)I"⟩
abbrev cL_read : ByteArray := method_8_code
def yL_read : MethodName := ⟨RL, "read", "(LArchiveDesk;[J)I"⟩
abbrev cL_law : ByteArray := code
def yL_law : MethodName := ⟨RL, "law", "([I)Z"⟩
abbrev vwCl : List vw_C := [(RX1, TX1, 5), (RX2, TX2, 5), (RX3, TX3, 10), (RX4, TX4, 2), (RX5, TX5, 3), (RX7, TX7, 5), (RX8, TX8, 19)]
end
section
theorem dX0_crc_0 : decode cX0_crc 0 = .ok (.iconst (-1), 1) := by decide +kernel
theorem dX0_crc_1 : decode cX0_crc 1 = .ok (.istore_n 3, 1) := by decide +kernel
theorem dX0_crc_2 : decode cX0_crc 2 = .ok (.iconst 0, 1) := by decide +kernel
theorem dX0_crc_3 : decode cX0_crc 3 = .ok (.istore 4, 2) := by decide +kernel
theorem dX0_crc_5 : decode cX0_crc 5 = .ok (.iload 4, 2) := by decide +kernel
theorem dX0_crc_7 : decode cX0_crc 7 = .ok (.iload_n 2, 1) := by decide +kernel
theorem dX0_crc_8 : decode cX0_crc 8 = .ok (.if_icmp .ge 46, 3) := by decide +kernel
theorem dX0_crc_11 : decode cX0_crc 11 = .ok (.iload_n 3, 1) := by decide +kernel
theorem dX0_crc_12 : decode cX0_crc 12 = .ok (.aload_n 0, 1) := by decide +kernel
theorem dX0_crc_13 : decode cX0_crc 13 = .ok (.iload_n 1, 1) := by decide +kernel
theorem dX0_crc_14 : decode cX0_crc 14 = .ok (.iload 4, 2) := by decide +kernel
theorem dX0_crc_16 : decode cX0_crc 16 = .ok (.iadd, 1) := by decide +kernel
theorem dX0_crc_17 : decode cX0_crc 17 = .ok (.invokevirtual 7, 3) := by decide +kernel
theorem dX0_crc_20 : decode cX0_crc 20 = .ok (.ixor, 1) := by decide +kernel
theorem dX0_crc_21 : decode cX0_crc 21 = .ok (.istore_n 3, 1) := by decide +kernel
theorem dX0_crc_22 : decode cX0_crc 22 = .ok (.iload_n 3, 1) := by decide +kernel
theorem dX0_crc_23 : decode cX0_crc 23 = .ok (.iconst 4, 1) := by decide +kernel
theorem dX0_crc_24 : decode cX0_crc 24 = .ok (.iushr, 1) := by decide +kernel
theorem dX0_crc_25 : decode cX0_crc 25 = .ok (.getstatic 13, 3) := by decide +kernel
theorem dX0_crc_28 : decode cX0_crc 28 = .ok (.iload_n 3, 1) := by decide +kernel
theorem dX0_crc_29 : decode cX0_crc 29 = .ok (.bipush 15, 2) := by decide +kernel
theorem dX0_crc_31 : decode cX0_crc 31 = .ok (.iand, 1) := by decide +kernel
theorem dX0_crc_32 : decode cX0_crc 32 = .ok (.iaload, 1) := by decide +kernel
theorem dX0_crc_33 : decode cX0_crc 33 = .ok (.ixor, 1) := by decide +kernel
theorem dX0_crc_34 : decode cX0_crc 34 = .ok (.istore_n 3, 1) := by decide +kernel
theorem dX0_crc_35 : decode cX0_crc 35 = .ok (.iload_n 3, 1) := by decide +kernel
theorem dX0_crc_36 : decode cX0_crc 36 = .ok (.iconst 4, 1) := by decide +kernel
theorem dX0_crc_37 : decode cX0_crc 37 = .ok (.iushr, 1) := by decide +kernel
theorem dX0_crc_38 : decode cX0_crc 38 = .ok (.getstatic 13, 3) := by decide +kernel
theorem dX0_crc_41 : decode cX0_crc 41 = .ok (.iload_n 3, 1) := by decide +kernel
theorem dX0_crc_42 : decode cX0_crc 42 = .ok (.bipush 15, 2) := by decide +kernel
theorem dX0_crc_44 : decode cX0_crc 44 = .ok (.iand, 1) := by decide +kernel
theorem dX0_crc_45 : decode cX0_crc 45 = .ok (.iaload, 1) := by decide +kernel
theorem dX0_crc_46 : decode cX0_crc 46 = .ok (.ixor, 1) := by decide +kernel
theorem dX0_crc_47 : decode cX0_crc 47 = .ok (.istore_n 3, 1) := by decide +kernel
theorem dX0_crc_48 : decode cX0_crc 48 = .ok (.iinc 4 1, 3) := by decide +kernel
theorem dX0_crc_51 : decode cX0_crc 51 = .ok (.goto (-46), 3) := by decide +kernel
theorem dX0_crc_54 : decode cX0_crc 54 = .ok (.iload_n 3, 1) := by decide +kernel
theorem dX0_crc_55 : decode cX0_crc 55 = .ok (.iconst (-1), 1) := by decide +kernel
theorem dX0_crc_56 : decode cX0_crc 56 = .ok (.ixor, 1) := by decide +kernel
theorem dX0_crc_57 : decode cX0_crc 57 = .ok (.ireturn, 1) := by decide +kernel
theorem dX0_foldedSize_0 : decode cX0_foldedSize 0 = .ok (.iload_n 1, 1) := by decide +kernel
theorem dX0_foldedSize_1 : decode cX0_foldedSize 1 = .ok (.iload_n 2, 1) := by decide +kernel
theorem dX0_foldedSize_2 : decode cX0_foldedSize 2 = .ok (.iadd, 1) := by decide +kernel
theorem dX0_foldedSize_3 : decode cX0_foldedSize 3 = .ok (.istore_n 3, 1) := by decide +kernel
theorem dX0_foldedSize_4 : decode cX0_foldedSize 4 = .ok (.iconst 0, 1) := by decide +kernel
theorem dX0_foldedSize_5 : decode cX0_foldedSize 5 = .ok (.istore 4, 2) := by decide +kernel
theorem dX0_foldedSize_7 : decode cX0_foldedSize 7 = .ok (.iload_n 1, 1) := by decide +kernel
theorem dX0_foldedSize_8 : decode cX0_foldedSize 8 = .ok (.istore 5, 2) := by decide +kernel
theorem dX0_foldedSize_10 : decode cX0_foldedSize 10 = .ok (.iload 5, 2) := by decide +kernel
theorem dX0_foldedSize_12 : decode cX0_foldedSize 12 = .ok (.iload_n 3, 1) := by decide +kernel
theorem dX0_foldedSize_13 : decode cX0_foldedSize 13 = .ok (.if_icmp .ge 47, 3) := by decide +kernel
theorem dX0_foldedSize_16 : decode cX0_foldedSize 16 = .ok (.aload_n 0, 1) := by decide +kernel
theorem dX0_foldedSize_17 : decode cX0_foldedSize 17 = .ok (.iload 5, 2) := by decide +kernel
theorem dX0_foldedSize_19 : decode cX0_foldedSize 19 = .ok (.iload_n 3, 1) := by decide +kernel
theorem dX0_foldedSize_20 : decode cX0_foldedSize 20 = .ok (.invokestatic 19, 3) := by decide +kernel
theorem dX0_foldedSize_23 : decode cX0_foldedSize 23 = .ok (.istore 6, 2) := by decide +kernel
theorem dX0_foldedSize_25 : decode cX0_foldedSize 25 = .ok (.iload 4, 2) := by decide +kernel
theorem dX0_foldedSize_27 : decode cX0_foldedSize 27 = .ok (.iload 6, 2) := by decide +kernel
theorem dX0_foldedSize_29 : decode cX0_foldedSize 29 = .ok (.ifCond .le 7, 3) := by decide +kernel
theorem dX0_foldedSize_32 : decode cX0_foldedSize 32 = .ok (.iconst 2, 1) := by decide +kernel
theorem dX0_foldedSize_33 : decode cX0_foldedSize 33 = .ok (.goto 7, 3) := by decide +kernel
theorem dX0_foldedSize_36 : decode cX0_foldedSize 36 = .ok (.iconst 1, 1) := by decide +kernel
theorem dX0_foldedSize_37 : decode cX0_foldedSize 37 = .ok (.iload 6, 2) := by decide +kernel
theorem dX0_foldedSize_39 : decode cX0_foldedSize 39 = .ok (.isub, 1) := by decide +kernel
theorem dX0_foldedSize_40 : decode cX0_foldedSize 40 = .ok (.iadd, 1) := by decide +kernel
theorem dX0_foldedSize_41 : decode cX0_foldedSize 41 = .ok (.istore 4, 2) := by decide +kernel
theorem dX0_foldedSize_43 : decode cX0_foldedSize 43 = .ok (.iload 5, 2) := by decide +kernel
theorem dX0_foldedSize_45 : decode cX0_foldedSize 45 = .ok (.iconst 1, 1) := by decide +kernel
theorem dX0_foldedSize_46 : decode cX0_foldedSize 46 = .ok (.iload 6, 2) := by decide +kernel
theorem dX0_foldedSize_48 : decode cX0_foldedSize 48 = .ok (.invokestatic 23, 3) := by decide +kernel
theorem dX0_foldedSize_51 : decode cX0_foldedSize 51 = .ok (.invokestatic 28, 3) := by decide +kernel
theorem dX0_foldedSize_54 : decode cX0_foldedSize 54 = .ok (.iadd, 1) := by decide +kernel
theorem dX0_foldedSize_55 : decode cX0_foldedSize 55 = .ok (.istore 5, 2) := by decide +kernel
theorem dX0_foldedSize_57 : decode cX0_foldedSize 57 = .ok (.goto (-47), 3) := by decide +kernel
theorem dX0_foldedSize_60 : decode cX0_foldedSize 60 = .ok (.iload 4, 2) := by decide +kernel
theorem dX0_foldedSize_62 : decode cX0_foldedSize 62 = .ok (.ireturn, 1) := by decide +kernel
theorem dX0_fold_0 : decode cX0_fold 0 = .ok (.iload_n 1, 1) := by decide +kernel
theorem dX0_fold_1 : decode cX0_fold 1 = .ok (.iload_n 2, 1) := by decide +kernel
theorem dX0_fold_2 : decode cX0_fold 2 = .ok (.iadd, 1) := by decide +kernel
theorem dX0_fold_3 : decode cX0_fold 3 = .ok (.istore 4, 2) := by decide +kernel
theorem dX0_fold_5 : decode cX0_fold 5 = .ok (.iload_n 1, 1) := by decide +kernel
theorem dX0_fold_6 : decode cX0_fold 6 = .ok (.istore 5, 2) := by decide +kernel
theorem dX0_fold_8 : decode cX0_fold 8 = .ok (.iload 5, 2) := by decide +kernel
theorem dX0_fold_10 : decode cX0_fold 10 = .ok (.iload 4, 2) := by decide +kernel
theorem dX0_fold_12 : decode cX0_fold 12 = .ok (.if_icmp .ge 77, 3) := by decide +kernel
theorem dX0_fold_15 : decode cX0_fold 15 = .ok (.aload_n 0, 1) := by decide +kernel
theorem dX0_fold_16 : decode cX0_fold 16 = .ok (.iload 5, 2) := by decide +kernel
theorem dX0_fold_18 : decode cX0_fold 18 = .ok (.iload 4, 2) := by decide +kernel
theorem dX0_fold_20 : decode cX0_fold 20 = .ok (.invokestatic 19, 3) := by decide +kernel
theorem dX0_fold_23 : decode cX0_fold 23 = .ok (.istore 6, 2) := by decide +kernel
theorem dX0_fold_25 : decode cX0_fold 25 = .ok (.iload 6, 2) := by decide +kernel
theorem dX0_fold_27 : decode cX0_fold 27 = .ok (.ifCond .le 26, 3) := by decide +kernel
theorem dX0_fold_30 : decode cX0_fold 30 = .ok (.aload_n 3, 1) := by decide +kernel
theorem dX0_fold_31 : decode cX0_fold 31 = .ok (.sipush 257, 3) := by decide +kernel
theorem dX0_fold_34 : decode cX0_fold 34 = .ok (.iload 6, 2) := by decide +kernel
theorem dX0_fold_36 : decode cX0_fold 36 = .ok (.isub, 1) := by decide +kernel
theorem dX0_fold_37 : decode cX0_fold 37 = .ok (.invokevirtual 32, 3) := by decide +kernel
theorem dX0_fold_40 : decode cX0_fold 40 = .ok (.aload_n 3, 1) := by decide +kernel
theorem dX0_fold_41 : decode cX0_fold 41 = .ok (.aload_n 0, 1) := by decide +kernel
theorem dX0_fold_42 : decode cX0_fold 42 = .ok (.iload 5, 2) := by decide +kernel
theorem dX0_fold_44 : decode cX0_fold 44 = .ok (.invokevirtual 7, 3) := by decide +kernel
theorem dX0_fold_47 : decode cX0_fold 47 = .ok (.invokevirtual 32, 3) := by decide +kernel
theorem dX0_fold_50 : decode cX0_fold 50 = .ok (.goto 22, 3) := by decide +kernel
theorem dX0_fold_53 : decode cX0_fold 53 = .ok (.aload_n 3, 1) := by decide +kernel
theorem dX0_fold_54 : decode cX0_fold 54 = .ok (.iload 6, 2) := by decide +kernel
theorem dX0_fold_56 : decode cX0_fold 56 = .ok (.ineg, 1) := by decide +kernel
theorem dX0_fold_57 : decode cX0_fold 57 = .ok (.iconst 1, 1) := by decide +kernel
theorem dX0_fold_58 : decode cX0_fold 58 = .ok (.isub, 1) := by decide +kernel
theorem dX0_fold_59 : decode cX0_fold 59 = .ok (.invokevirtual 32, 3) := by decide +kernel
theorem dX0_fold_62 : decode cX0_fold 62 = .ok (.aload_n 3, 1) := by decide +kernel
theorem dX0_fold_63 : decode cX0_fold 63 = .ok (.aload_n 0, 1) := by decide +kernel
theorem dX0_fold_64 : decode cX0_fold 64 = .ok (.iload 5, 2) := by decide +kernel
theorem dX0_fold_66 : decode cX0_fold 66 = .ok (.iload 6, 2) := by decide +kernel
theorem dX0_fold_68 : decode cX0_fold 68 = .ok (.ineg, 1) := by decide +kernel
theorem dX0_fold_69 : decode cX0_fold 69 = .ok (.invokevirtual 36, 3) := by decide +kernel
theorem dX0_fold_72 : decode cX0_fold 72 = .ok (.iload 5, 2) := by decide +kernel
theorem dX0_fold_74 : decode cX0_fold 74 = .ok (.iconst 1, 1) := by decide +kernel
theorem dX0_fold_75 : decode cX0_fold 75 = .ok (.iload 6, 2) := by decide +kernel
theorem dX0_fold_77 : decode cX0_fold 77 = .ok (.invokestatic 23, 3) := by decide +kernel
theorem dX0_fold_80 : decode cX0_fold 80 = .ok (.invokestatic 28, 3) := by decide +kernel
theorem dX0_fold_83 : decode cX0_fold 83 = .ok (.iadd, 1) := by decide +kernel
theorem dX0_fold_84 : decode cX0_fold 84 = .ok (.istore 5, 2) := by decide +kernel
theorem dX0_fold_86 : decode cX0_fold 86 = .ok (.goto (-78), 3) := by decide +kernel
theorem dX0_fold_89 : decode cX0_fold 89 = .ok (.return_, 1) := by decide +kernel
theorem dX0_nextGroup_0 : decode cX0_nextGroup 0 = .ok (.iload_n 2, 1) := by decide +kernel
theorem dX0_nextGroup_1 : decode cX0_nextGroup 1 = .ok (.iload_n 1, 1) := by decide +kernel
theorem dX0_nextGroup_2 : decode cX0_nextGroup 2 = .ok (.sipush 128, 3) := by decide +kernel
theorem dX0_nextGroup_5 : decode cX0_nextGroup 5 = .ok (.iadd, 1) := by decide +kernel
theorem dX0_nextGroup_6 : decode cX0_nextGroup 6 = .ok (.invokestatic 40, 3) := by decide +kernel
theorem dX0_nextGroup_9 : decode cX0_nextGroup 9 = .ok (.istore_n 3, 1) := by decide +kernel
theorem dX0_nextGroup_10 : decode cX0_nextGroup 10 = .ok (.iconst 1, 1) := by decide +kernel
theorem dX0_nextGroup_11 : decode cX0_nextGroup 11 = .ok (.istore 4, 2) := by decide +kernel
theorem dX0_nextGroup_13 : decode cX0_nextGroup 13 = .ok (.iload_n 1, 1) := by decide +kernel
theorem dX0_nextGroup_14 : decode cX0_nextGroup 14 = .ok (.iload 4, 2) := by decide +kernel
theorem dX0_nextGroup_16 : decode cX0_nextGroup 16 = .ok (.iadd, 1) := by decide +kernel
theorem dX0_nextGroup_17 : decode cX0_nextGroup 17 = .ok (.iload_n 3, 1) := by decide +kernel
theorem dX0_nextGroup_18 : decode cX0_nextGroup 18 = .ok (.if_icmp .ge 25, 3) := by decide +kernel
theorem dX0_nextGroup_21 : decode cX0_nextGroup 21 = .ok (.aload_n 0, 1) := by decide +kernel
theorem dX0_nextGroup_22 : decode cX0_nextGroup 22 = .ok (.iload_n 1, 1) := by decide +kernel
theorem dX0_nextGroup_23 : decode cX0_nextGroup 23 = .ok (.iload 4, 2) := by decide +kernel
theorem dX0_nextGroup_25 : decode cX0_nextGroup 25 = .ok (.iadd, 1) := by decide +kernel
theorem dX0_nextGroup_26 : decode cX0_nextGroup 26 = .ok (.invokevirtual 7, 3) := by decide +kernel
theorem dX0_nextGroup_29 : decode cX0_nextGroup 29 = .ok (.aload_n 0, 1) := by decide +kernel
theorem dX0_nextGroup_30 : decode cX0_nextGroup 30 = .ok (.iload_n 1, 1) := by decide +kernel
theorem dX0_nextGroup_31 : decode cX0_nextGroup 31 = .ok (.invokevirtual 7, 3) := by decide +kernel
theorem dX0_nextGroup_34 : decode cX0_nextGroup 34 = .ok (.if_icmp .ne 9, 3) := by decide +kernel
theorem dX0_nextGroup_37 : decode cX0_nextGroup 37 = .ok (.iinc 4 1, 3) := by decide +kernel
theorem dX0_nextGroup_40 : decode cX0_nextGroup 40 = .ok (.goto (-27), 3) := by decide +kernel
theorem dX0_nextGroup_43 : decode cX0_nextGroup 43 = .ok (.iload 4, 2) := by decide +kernel
theorem dX0_nextGroup_45 : decode cX0_nextGroup 45 = .ok (.iconst 3, 1) := by decide +kernel
theorem dX0_nextGroup_46 : decode cX0_nextGroup 46 = .ok (.if_icmp .lt 6, 3) := by decide +kernel
theorem dX0_nextGroup_49 : decode cX0_nextGroup 49 = .ok (.iload 4, 2) := by decide +kernel
theorem dX0_nextGroup_51 : decode cX0_nextGroup 51 = .ok (.ireturn, 1) := by decide +kernel
theorem dX0_nextGroup_52 : decode cX0_nextGroup 52 = .ok (.iload_n 1, 1) := by decide +kernel
theorem dX0_nextGroup_53 : decode cX0_nextGroup 53 = .ok (.iconst 1, 1) := by decide +kernel
theorem dX0_nextGroup_54 : decode cX0_nextGroup 54 = .ok (.iadd, 1) := by decide +kernel
theorem dX0_nextGroup_55 : decode cX0_nextGroup 55 = .ok (.istore 5, 2) := by decide +kernel
theorem dX0_nextGroup_57 : decode cX0_nextGroup 57 = .ok (.iload 5, 2) := by decide +kernel
theorem dX0_nextGroup_59 : decode cX0_nextGroup 59 = .ok (.iload_n 3, 1) := by decide +kernel
theorem dX0_nextGroup_60 : decode cX0_nextGroup 60 = .ok (.if_icmp .ge 56, 3) := by decide +kernel
theorem dX0_nextGroup_63 : decode cX0_nextGroup 63 = .ok (.iload 5, 2) := by decide +kernel
theorem dX0_nextGroup_65 : decode cX0_nextGroup 65 = .ok (.iconst 3, 1) := by decide +kernel
theorem dX0_nextGroup_66 : decode cX0_nextGroup 66 = .ok (.iadd, 1) := by decide +kernel
theorem dX0_nextGroup_67 : decode cX0_nextGroup 67 = .ok (.iload_n 2, 1) := by decide +kernel
theorem dX0_nextGroup_68 : decode cX0_nextGroup 68 = .ok (.if_icmp .gt 42, 3) := by decide +kernel
theorem dX0_nextGroup_71 : decode cX0_nextGroup 71 = .ok (.aload_n 0, 1) := by decide +kernel
theorem dX0_nextGroup_72 : decode cX0_nextGroup 72 = .ok (.iload 5, 2) := by decide +kernel
theorem dX0_nextGroup_74 : decode cX0_nextGroup 74 = .ok (.invokevirtual 7, 3) := by decide +kernel
theorem dX0_nextGroup_77 : decode cX0_nextGroup 77 = .ok (.aload_n 0, 1) := by decide +kernel
theorem dX0_nextGroup_78 : decode cX0_nextGroup 78 = .ok (.iload 5, 2) := by decide +kernel
theorem dX0_nextGroup_80 : decode cX0_nextGroup 80 = .ok (.iconst 1, 1) := by decide +kernel
theorem dX0_nextGroup_81 : decode cX0_nextGroup 81 = .ok (.iadd, 1) := by decide +kernel
theorem dX0_nextGroup_82 : decode cX0_nextGroup 82 = .ok (.invokevirtual 7, 3) := by decide +kernel
theorem dX0_nextGroup_85 : decode cX0_nextGroup 85 = .ok (.if_icmp .ne 25, 3) := by decide +kernel
theorem dX0_nextGroup_88 : decode cX0_nextGroup 88 = .ok (.aload_n 0, 1) := by decide +kernel
theorem dX0_nextGroup_89 : decode cX0_nextGroup 89 = .ok (.iload 5, 2) := by decide +kernel
theorem dX0_nextGroup_91 : decode cX0_nextGroup 91 = .ok (.invokevirtual 7, 3) := by decide +kernel
theorem dX0_nextGroup_94 : decode cX0_nextGroup 94 = .ok (.aload_n 0, 1) := by decide +kernel
theorem dX0_nextGroup_95 : decode cX0_nextGroup 95 = .ok (.iload 5, 2) := by decide +kernel
theorem dX0_nextGroup_97 : decode cX0_nextGroup 97 = .ok (.iconst 2, 1) := by decide +kernel
theorem dX0_nextGroup_98 : decode cX0_nextGroup 98 = .ok (.iadd, 1) := by decide +kernel
theorem dX0_nextGroup_99 : decode cX0_nextGroup 99 = .ok (.invokevirtual 7, 3) := by decide +kernel
theorem dX0_nextGroup_102 : decode cX0_nextGroup 102 = .ok (.if_icmp .ne 8, 3) := by decide +kernel
theorem dX0_nextGroup_105 : decode cX0_nextGroup 105 = .ok (.iload_n 1, 1) := by decide +kernel
theorem dX0_nextGroup_106 : decode cX0_nextGroup 106 = .ok (.iload 5, 2) := by decide +kernel
theorem dX0_nextGroup_108 : decode cX0_nextGroup 108 = .ok (.isub, 1) := by decide +kernel
theorem dX0_nextGroup_109 : decode cX0_nextGroup 109 = .ok (.ireturn, 1) := by decide +kernel
theorem dX0_nextGroup_110 : decode cX0_nextGroup 110 = .ok (.iinc 5 1, 3) := by decide +kernel
theorem dX0_nextGroup_113 : decode cX0_nextGroup 113 = .ok (.goto (-56), 3) := by decide +kernel
theorem dX0_nextGroup_116 : decode cX0_nextGroup 116 = .ok (.iload_n 1, 1) := by decide +kernel
theorem dX0_nextGroup_117 : decode cX0_nextGroup 117 = .ok (.iload_n 3, 1) := by decide +kernel
theorem dX0_nextGroup_118 : decode cX0_nextGroup 118 = .ok (.isub, 1) := by decide +kernel
theorem dX0_nextGroup_119 : decode cX0_nextGroup 119 = .ok (.ireturn, 1) := by decide +kernel
theorem dX0_unfold_0 : decode cX0_unfold 0 = .ok (.aload_n 0, 1) := by decide +kernel
theorem dX0_unfold_1 : decode cX0_unfold 1 = .ok (.iload_n 1, 1) := by decide +kernel
theorem dX0_unfold_2 : decode cX0_unfold 2 = .ok (.iload_n 2, 1) := by decide +kernel
theorem dX0_unfold_3 : decode cX0_unfold 3 = .ok (.invokevirtual 43, 3) := by decide +kernel
theorem dX0_unfold_6 : decode cX0_unfold 6 = .ok (.ifCond .ne 5, 3) := by decide +kernel
theorem dX0_unfold_9 : decode cX0_unfold 9 = .ok (.iconst 0, 1) := by decide +kernel
theorem dX0_unfold_10 : decode cX0_unfold 10 = .ok (.ireturn, 1) := by decide +kernel
theorem dX0_unfold_11 : decode cX0_unfold 11 = .ok (.iload_n 1, 1) := by decide +kernel
theorem dX0_unfold_12 : decode cX0_unfold 12 = .ok (.iload_n 2, 1) := by decide +kernel
theorem dX0_unfold_13 : decode cX0_unfold 13 = .ok (.iadd, 1) := by decide +kernel
theorem dX0_unfold_14 : decode cX0_unfold 14 = .ok (.istore 4, 2) := by decide +kernel
theorem dX0_unfold_16 : decode cX0_unfold 16 = .ok (.iload_n 1, 1) := by decide +kernel
theorem dX0_unfold_17 : decode cX0_unfold 17 = .ok (.istore 5, 2) := by decide +kernel
theorem dX0_unfold_19 : decode cX0_unfold 19 = .ok (.iload 5, 2) := by decide +kernel
theorem dX0_unfold_21 : decode cX0_unfold 21 = .ok (.iload 4, 2) := by decide +kernel
theorem dX0_unfold_23 : decode cX0_unfold 23 = .ok (.if_icmp .ge 148, 3) := by decide +kernel
theorem dX0_unfold_26 : decode cX0_unfold 26 = .ok (.aload_n 0, 1) := by decide +kernel
theorem dX0_unfold_27 : decode cX0_unfold 27 = .ok (.iload 5, 2) := by decide +kernel
theorem dX0_unfold_29 : decode cX0_unfold 29 = .ok (.invokevirtual 7, 3) := by decide +kernel
theorem dX0_unfold_32 : decode cX0_unfold 32 = .ok (.istore 6, 2) := by decide +kernel
theorem dX0_unfold_34 : decode cX0_unfold 34 = .ok (.iload 6, 2) := by decide +kernel
theorem dX0_unfold_36 : decode cX0_unfold 36 = .ok (.sipush 128, 3) := by decide +kernel
theorem dX0_unfold_39 : decode cX0_unfold 39 = .ok (.if_icmp .ge 10, 3) := by decide +kernel
theorem dX0_unfold_42 : decode cX0_unfold 42 = .ok (.iload 6, 2) := by decide +kernel
theorem dX0_unfold_44 : decode cX0_unfold 44 = .ok (.iconst 1, 1) := by decide +kernel
theorem dX0_unfold_45 : decode cX0_unfold 45 = .ok (.iadd, 1) := by decide +kernel
theorem dX0_unfold_46 : decode cX0_unfold 46 = .ok (.goto 16, 3) := by decide +kernel
theorem dX0_unfold_49 : decode cX0_unfold 49 = .ok (.iload 6, 2) := by decide +kernel
theorem dX0_unfold_51 : decode cX0_unfold 51 = .ok (.sipush 128, 3) := by decide +kernel
theorem dX0_unfold_54 : decode cX0_unfold 54 = .ok (.if_icmp .ne 7, 3) := by decide +kernel
theorem dX0_unfold_57 : decode cX0_unfold 57 = .ok (.iconst 0, 1) := by decide +kernel
theorem dX0_unfold_58 : decode cX0_unfold 58 = .ok (.goto 4, 3) := by decide +kernel
theorem dX0_unfold_61 : decode cX0_unfold 61 = .ok (.iconst 1, 1) := by decide +kernel
theorem dX0_unfold_62 : decode cX0_unfold 62 = .ok (.istore 7, 2) := by decide +kernel
theorem dX0_unfold_64 : decode cX0_unfold 64 = .ok (.iload 6, 2) := by decide +kernel
theorem dX0_unfold_66 : decode cX0_unfold 66 = .ok (.sipush 128, 3) := by decide +kernel
theorem dX0_unfold_69 : decode cX0_unfold 69 = .ok (.if_icmp .ge 10, 3) := by decide +kernel
theorem dX0_unfold_72 : decode cX0_unfold 72 = .ok (.iload 6, 2) := by decide +kernel
theorem dX0_unfold_74 : decode cX0_unfold 74 = .ok (.iconst 1, 1) := by decide +kernel
theorem dX0_unfold_75 : decode cX0_unfold 75 = .ok (.iadd, 1) := by decide +kernel
theorem dX0_unfold_76 : decode cX0_unfold 76 = .ok (.goto 21, 3) := by decide +kernel
theorem dX0_unfold_79 : decode cX0_unfold 79 = .ok (.iload 6, 2) := by decide +kernel
theorem dX0_unfold_81 : decode cX0_unfold 81 = .ok (.sipush 128, 3) := by decide +kernel
theorem dX0_unfold_84 : decode cX0_unfold 84 = .ok (.if_icmp .ne 7, 3) := by decide +kernel
theorem dX0_unfold_87 : decode cX0_unfold 87 = .ok (.iconst 0, 1) := by decide +kernel
theorem dX0_unfold_88 : decode cX0_unfold 88 = .ok (.goto 9, 3) := by decide +kernel
theorem dX0_unfold_91 : decode cX0_unfold 91 = .ok (.sipush 257, 3) := by decide +kernel
theorem dX0_unfold_94 : decode cX0_unfold 94 = .ok (.iload 6, 2) := by decide +kernel
theorem dX0_unfold_96 : decode cX0_unfold 96 = .ok (.isub, 1) := by decide +kernel
theorem dX0_unfold_97 : decode cX0_unfold 97 = .ok (.istore 8, 2) := by decide +kernel
theorem dX0_unfold_99 : decode cX0_unfold 99 = .ok (.iload 7, 2) := by decide +kernel
theorem dX0_unfold_101 : decode cX0_unfold 101 = .ok (.iload 4, 2) := by decide +kernel
theorem dX0_unfold_103 : decode cX0_unfold 103 = .ok (.iload 5, 2) := by decide +kernel
theorem dX0_unfold_105 : decode cX0_unfold 105 = .ok (.isub, 1) := by decide +kernel
theorem dX0_unfold_106 : decode cX0_unfold 106 = .ok (.iconst 1, 1) := by decide +kernel
theorem dX0_unfold_107 : decode cX0_unfold 107 = .ok (.isub, 1) := by decide +kernel
theorem dX0_unfold_108 : decode cX0_unfold 108 = .ok (.if_icmp .gt 12, 3) := by decide +kernel
theorem dX0_unfold_111 : decode cX0_unfold 111 = .ok (.iload 8, 2) := by decide +kernel
theorem dX0_unfold_113 : decode cX0_unfold 113 = .ok (.aload_n 3, 1) := by decide +kernel
theorem dX0_unfold_114 : decode cX0_unfold 114 = .ok (.invokevirtual 47, 3) := by decide +kernel
theorem dX0_unfold_117 : decode cX0_unfold 117 = .ok (.if_icmp .le 5, 3) := by decide +kernel
theorem dX0_unfold_120 : decode cX0_unfold 120 = .ok (.iconst 0, 1) := by decide +kernel
theorem dX0_unfold_121 : decode cX0_unfold 121 = .ok (.ireturn, 1) := by decide +kernel
theorem dX0_unfold_122 : decode cX0_unfold 122 = .ok (.iload 6, 2) := by decide +kernel
theorem dX0_unfold_124 : decode cX0_unfold 124 = .ok (.sipush 128, 3) := by decide +kernel
theorem dX0_unfold_127 : decode cX0_unfold 127 = .ok (.if_icmp .ge 17, 3) := by decide +kernel
theorem dX0_unfold_130 : decode cX0_unfold 130 = .ok (.aload_n 3, 1) := by decide +kernel
theorem dX0_unfold_131 : decode cX0_unfold 131 = .ok (.aload_n 0, 1) := by decide +kernel
theorem dX0_unfold_132 : decode cX0_unfold 132 = .ok (.iload 5, 2) := by decide +kernel
theorem dX0_unfold_134 : decode cX0_unfold 134 = .ok (.iconst 1, 1) := by decide +kernel
theorem dX0_unfold_135 : decode cX0_unfold 135 = .ok (.iadd, 1) := by decide +kernel
theorem dX0_unfold_136 : decode cX0_unfold 136 = .ok (.iload 7, 2) := by decide +kernel
theorem dX0_unfold_138 : decode cX0_unfold 138 = .ok (.invokevirtual 36, 3) := by decide +kernel
theorem dX0_unfold_141 : decode cX0_unfold 141 = .ok (.goto 17, 3) := by decide +kernel
theorem dX0_unfold_144 : decode cX0_unfold 144 = .ok (.aload_n 0, 1) := by decide +kernel
theorem dX0_unfold_145 : decode cX0_unfold 145 = .ok (.iload 5, 2) := by decide +kernel
theorem dX0_unfold_147 : decode cX0_unfold 147 = .ok (.iconst 1, 1) := by decide +kernel
theorem dX0_unfold_148 : decode cX0_unfold 148 = .ok (.iadd, 1) := by decide +kernel
theorem dX0_unfold_149 : decode cX0_unfold 149 = .ok (.invokevirtual 7, 3) := by decide +kernel
theorem dX0_unfold_152 : decode cX0_unfold 152 = .ok (.iload 8, 2) := by decide +kernel
theorem dX0_unfold_154 : decode cX0_unfold 154 = .ok (.aload_n 3, 1) := by decide +kernel
theorem dX0_unfold_155 : decode cX0_unfold 155 = .ok (.invokestatic 51, 3) := by decide +kernel
theorem dX0_unfold_158 : decode cX0_unfold 158 = .ok (.iload 5, 2) := by decide +kernel
theorem dX0_unfold_160 : decode cX0_unfold 160 = .ok (.iload 7, 2) := by decide +kernel
theorem dX0_unfold_162 : decode cX0_unfold 162 = .ok (.iadd, 1) := by decide +kernel
theorem dX0_unfold_163 : decode cX0_unfold 163 = .ok (.istore 5, 2) := by decide +kernel
theorem dX0_unfold_165 : decode cX0_unfold 165 = .ok (.iinc 5 1, 3) := by decide +kernel
theorem dX0_unfold_168 : decode cX0_unfold 168 = .ok (.goto (-149), 3) := by decide +kernel
theorem dX0_unfold_171 : decode cX0_unfold 171 = .ok (.iconst 1, 1) := by decide +kernel
theorem dX0_unfold_172 : decode cX0_unfold 172 = .ok (.ireturn, 1) := by decide +kernel
theorem dX0_repeat_0 : decode cX0_repeat 0 = .ok (.iconst 0, 1) := by decide +kernel
theorem dX0_repeat_1 : decode cX0_repeat 1 = .ok (.istore_n 3, 1) := by decide +kernel
theorem dX0_repeat_2 : decode cX0_repeat 2 = .ok (.iload_n 3, 1) := by decide +kernel
theorem dX0_repeat_3 : decode cX0_repeat 3 = .ok (.iload_n 1, 1) := by decide +kernel
theorem dX0_repeat_4 : decode cX0_repeat 4 = .ok (.if_icmp .ge 14, 3) := by decide +kernel
theorem dX0_repeat_7 : decode cX0_repeat 7 = .ok (.aload_n 2, 1) := by decide +kernel
theorem dX0_repeat_8 : decode cX0_repeat 8 = .ok (.iload_n 0, 1) := by decide +kernel
theorem dX0_repeat_9 : decode cX0_repeat 9 = .ok (.invokevirtual 32, 3) := by decide +kernel
theorem dX0_repeat_12 : decode cX0_repeat 12 = .ok (.iinc 3 1, 3) := by decide +kernel
theorem dX0_repeat_15 : decode cX0_repeat 15 = .ok (.goto (-13), 3) := by decide +kernel
theorem dX0_repeat_18 : decode cX0_repeat 18 = .ok (.return_, 1) := by decide +kernel
theorem dX1_init_0 : decode cX1_init 0 = .ok (.aload_n 0, 1) := by decide +kernel
theorem dX1_init_1 : decode cX1_init 1 = .ok (.invokespecial 3, 3) := by decide +kernel
theorem dX1_init_4 : decode cX1_init 4 = .ok (.aload_n 0, 1) := by decide +kernel
theorem dX1_init_5 : decode cX1_init 5 = .ok (.new 9, 3) := by decide +kernel
theorem dX1_init_8 : decode cX1_init 8 = .ok (.dup, 1) := by decide +kernel
theorem dX1_init_9 : decode cX1_init 9 = .ok (.bipush 30, 2) := by decide +kernel
theorem dX1_init_11 : decode cX1_init 11 = .ok (.invokespecial 11, 3) := by decide +kernel
theorem dX1_init_14 : decode cX1_init 14 = .ok (.putfield 14, 3) := by decide +kernel
theorem dX1_init_17 : decode cX1_init 17 = .ok (.return_, 1) := by decide +kernel
theorem dX1_method_0 : decode cX1_method 0 = .ok (.aload_n 0, 1) := by decide +kernel
theorem dX1_method_1 : decode cX1_method 1 = .ok (.getfield 20, 3) := by decide +kernel
theorem dX1_method_4 : decode cX1_method 4 = .ok (.aload_n 0, 1) := by decide +kernel
theorem dX1_method_5 : decode cX1_method 5 = .ok (.getfield 24, 3) := by decide +kernel
theorem dX1_method_8 : decode cX1_method 8 = .ok (.if_icmp .ge 8, 3) := by decide +kernel
theorem dX1_method_11 : decode cX1_method 11 = .ok (.bipush 99, 2) := by decide +kernel
theorem dX1_method_13 : decode cX1_method 13 = .ok (.goto 4, 3) := by decide +kernel
theorem dX1_method_16 : decode cX1_method 16 = .ok (.iconst 0, 1) := by decide +kernel
theorem dX1_method_17 : decode cX1_method 17 = .ok (.ireturn, 1) := by decide +kernel
theorem dX1_localSize_0 : decode cX1_localSize 0 = .ok (.bipush 30, 2) := by decide +kernel
theorem dX1_localSize_2 : decode cX1_localSize 2 = .ok (.aload_n 0, 1) := by decide +kernel
theorem dX1_localSize_3 : decode cX1_localSize 3 = .ok (.getfield 14, 3) := by decide +kernel
theorem dX1_localSize_6 : decode cX1_localSize 6 = .ok (.invokevirtual 27, 3) := by decide +kernel
theorem dX1_localSize_9 : decode cX1_localSize 9 = .ok (.iadd, 1) := by decide +kernel
theorem dX1_localSize_10 : decode cX1_localSize 10 = .ok (.aload_n 0, 1) := by decide +kernel
theorem dX1_localSize_11 : decode cX1_localSize 11 = .ok (.getfield 20, 3) := by decide +kernel
theorem dX1_localSize_14 : decode cX1_localSize 14 = .ok (.iadd, 1) := by decide +kernel
theorem dX1_localSize_15 : decode cX1_localSize 15 = .ok (.ireturn, 1) := by decide +kernel
theorem dX1_setName_0 : decode cX1_setName 0 = .ok (.aload_n 0, 1) := by decide +kernel
theorem dX1_setName_1 : decode cX1_setName 1 = .ok (.getfield 14, 3) := by decide +kernel
theorem dX1_setName_4 : decode cX1_setName 4 = .ok (.iconst 0, 1) := by decide +kernel
theorem dX1_setName_5 : decode cX1_setName 5 = .ok (.invokevirtual 30, 3) := by decide +kernel
theorem dX1_setName_8 : decode cX1_setName 8 = .ok (.pop, 1) := by decide +kernel
theorem dX1_setName_9 : decode cX1_setName 9 = .ok (.aload_n 0, 1) := by decide +kernel
theorem dX1_setName_10 : decode cX1_setName 10 = .ok (.getfield 14, 3) := by decide +kernel
theorem dX1_setName_13 : decode cX1_setName 13 = .ok (.aload_n 1, 1) := by decide +kernel
theorem dX1_setName_14 : decode cX1_setName 14 = .ok (.iload_n 2, 1) := by decide +kernel
theorem dX1_setName_15 : decode cX1_setName 15 = .ok (.iload_n 3, 1) := by decide +kernel
theorem dX1_setName_16 : decode cX1_setName 16 = .ok (.invokevirtual 34, 3) := by decide +kernel
theorem dX1_setName_19 : decode cX1_setName 19 = .ok (.return_, 1) := by decide +kernel
theorem dX2_init_0 : decode cX2_init 0 = .ok (.aload_n 0, 1) := by decide +kernel
theorem dX2_init_1 : decode cX2_init 1 = .ok (.invokespecial 3, 3) := by decide +kernel
theorem dX2_init_4 : decode cX2_init 4 = .ok (.return_, 1) := by decide +kernel
theorem dX2_parse_0 : decode cX2_parse 0 = .ok (.aload_n 1, 1) := by decide +kernel
theorem dX2_parse_1 : decode cX2_parse 1 = .ok (.iload_n 2, 1) := by decide +kernel
theorem dX2_parse_2 : decode cX2_parse 2 = .ok (.bipush 26, 2) := by decide +kernel
theorem dX2_parse_4 : decode cX2_parse 4 = .ok (.invokevirtual 9, 3) := by decide +kernel
theorem dX2_parse_7 : decode cX2_parse 7 = .ok (.ifCond .ne 5, 3) := by decide +kernel
theorem dX2_parse_10 : decode cX2_parse 10 = .ok (.iconst 0, 1) := by decide +kernel
theorem dX2_parse_11 : decode cX2_parse 11 = .ok (.ireturn, 1) := by decide +kernel
theorem dX2_parse_12 : decode cX2_parse 12 = .ok (.aload_n 0, 1) := by decide +kernel
theorem dX2_parse_13 : decode cX2_parse 13 = .ok (.aload_n 1, 1) := by decide +kernel
theorem dX2_parse_14 : decode cX2_parse 14 = .ok (.iload_n 2, 1) := by decide +kernel
theorem dX2_parse_15 : decode cX2_parse 15 = .ok (.iconst 4, 1) := by decide +kernel
theorem dX2_parse_16 : decode cX2_parse 16 = .ok (.iadd, 1) := by decide +kernel
theorem dX2_parse_17 : decode cX2_parse 17 = .ok (.invokevirtual 15, 3) := by decide +kernel
theorem dX2_parse_20 : decode cX2_parse 20 = .ok (.putfield 19, 3) := by decide +kernel
theorem dX2_parse_23 : decode cX2_parse 23 = .ok (.aload_n 0, 1) := by decide +kernel
theorem dX2_parse_24 : decode cX2_parse 24 = .ok (.aload_n 1, 1) := by decide +kernel
theorem dX2_parse_25 : decode cX2_parse 25 = .ok (.iload_n 2, 1) := by decide +kernel
theorem dX2_parse_26 : decode cX2_parse 26 = .ok (.bipush 10, 2) := by decide +kernel
theorem dX2_parse_28 : decode cX2_parse 28 = .ok (.iadd, 1) := by decide +kernel
theorem dX2_parse_29 : decode cX2_parse 29 = .ok (.invokevirtual 25, 3) := by decide +kernel
theorem dX2_parse_32 : decode cX2_parse 32 = .ok (.l2i, 1) := by decide +kernel
theorem dX2_parse_33 : decode cX2_parse 33 = .ok (.putfield 29, 3) := by decide +kernel
theorem dX2_parse_36 : decode cX2_parse 36 = .ok (.aload_n 0, 1) := by decide +kernel
theorem dX2_parse_37 : decode cX2_parse 37 = .ok (.aload_n 1, 1) := by decide +kernel
theorem dX2_parse_38 : decode cX2_parse 38 = .ok (.iload_n 2, 1) := by decide +kernel
theorem dX2_parse_39 : decode cX2_parse 39 = .ok (.bipush 14, 2) := by decide +kernel
theorem dX2_parse_41 : decode cX2_parse 41 = .ok (.iadd, 1) := by decide +kernel
theorem dX2_parse_42 : decode cX2_parse 42 = .ok (.invokevirtual 25, 3) := by decide +kernel
theorem dX2_parse_45 : decode cX2_parse 45 = .ok (.putfield 32, 3) := by decide +kernel
theorem dX2_parse_48 : decode cX2_parse 48 = .ok (.aload_n 0, 1) := by decide +kernel
theorem dX2_parse_49 : decode cX2_parse 49 = .ok (.aload_n 1, 1) := by decide +kernel
theorem dX2_parse_50 : decode cX2_parse 50 = .ok (.iload_n 2, 1) := by decide +kernel
theorem dX2_parse_51 : decode cX2_parse 51 = .ok (.bipush 18, 2) := by decide +kernel
theorem dX2_parse_53 : decode cX2_parse 53 = .ok (.iadd, 1) := by decide +kernel
theorem dX2_parse_54 : decode cX2_parse 54 = .ok (.invokevirtual 25, 3) := by decide +kernel
theorem dX2_parse_57 : decode cX2_parse 57 = .ok (.putfield 36, 3) := by decide +kernel
theorem dX2_parse_60 : decode cX2_parse 60 = .ok (.aload_n 0, 1) := by decide +kernel
theorem dX2_parse_61 : decode cX2_parse 61 = .ok (.aload_n 1, 1) := by decide +kernel
theorem dX2_parse_62 : decode cX2_parse 62 = .ok (.iload_n 2, 1) := by decide +kernel
theorem dX2_parse_63 : decode cX2_parse 63 = .ok (.bipush 22, 2) := by decide +kernel
theorem dX2_parse_65 : decode cX2_parse 65 = .ok (.iadd, 1) := by decide +kernel
theorem dX2_parse_66 : decode cX2_parse 66 = .ok (.invokevirtual 15, 3) := by decide +kernel
theorem dX2_parse_69 : decode cX2_parse 69 = .ok (.putfield 39, 3) := by decide +kernel
theorem dX2_parse_72 : decode cX2_parse 72 = .ok (.aload_n 1, 1) := by decide +kernel
theorem dX2_parse_73 : decode cX2_parse 73 = .ok (.iload_n 2, 1) := by decide +kernel
theorem dX2_parse_74 : decode cX2_parse 74 = .ok (.invokevirtual 15, 3) := by decide +kernel
theorem dX2_parse_77 : decode cX2_parse 77 = .ok (.bipush 20, 2) := by decide +kernel
theorem dX2_parse_79 : decode cX2_parse 79 = .ok (.if_icmp .ne 85, 3) := by decide +kernel
theorem dX2_parse_82 : decode cX2_parse 82 = .ok (.aload_n 1, 1) := by decide +kernel
theorem dX2_parse_83 : decode cX2_parse 83 = .ok (.iload_n 2, 1) := by decide +kernel
theorem dX2_parse_84 : decode cX2_parse 84 = .ok (.iconst 2, 1) := by decide +kernel
theorem dX2_parse_85 : decode cX2_parse 85 = .ok (.iadd, 1) := by decide +kernel
theorem dX2_parse_86 : decode cX2_parse 86 = .ok (.invokevirtual 15, 3) := by decide +kernel
theorem dX2_parse_89 : decode cX2_parse 89 = .ok (.ifCond .ne 75, 3) := by decide +kernel
theorem dX2_parse_92 : decode cX2_parse 92 = .ok (.aload_n 0, 1) := by decide +kernel
theorem dX2_parse_93 : decode cX2_parse 93 = .ok (.getfield 19, 3) := by decide +kernel
theorem dX2_parse_96 : decode cX2_parse 96 = .ok (.ifCond .eq 12, 3) := by decide +kernel
theorem dX2_parse_99 : decode cX2_parse 99 = .ok (.aload_n 0, 1) := by decide +kernel
theorem dX2_parse_100 : decode cX2_parse 100 = .ok (.getfield 19, 3) := by decide +kernel
theorem dX2_parse_103 : decode cX2_parse 103 = .ok (.bipush 99, 2) := by decide +kernel
theorem dX2_parse_105 : decode cX2_parse 105 = .ok (.if_icmp .ne 59, 3) := by decide +kernel
theorem dX2_parse_108 : decode cX2_parse 108 = .ok (.aload_n 1, 1) := by decide +kernel
theorem dX2_parse_109 : decode cX2_parse 109 = .ok (.iload_n 2, 1) := by decide +kernel
theorem dX2_parse_110 : decode cX2_parse 110 = .ok (.bipush 6, 2) := by decide +kernel
theorem dX2_parse_112 : decode cX2_parse 112 = .ok (.iadd, 1) := by decide +kernel
theorem dX2_parse_113 : decode cX2_parse 113 = .ok (.invokevirtual 15, 3) := by decide +kernel
theorem dX2_parse_116 : decode cX2_parse 116 = .ok (.ifCond .ne 48, 3) := by decide +kernel
theorem dX2_parse_119 : decode cX2_parse 119 = .ok (.aload_n 1, 1) := by decide +kernel
theorem dX2_parse_120 : decode cX2_parse 120 = .ok (.iload_n 2, 1) := by decide +kernel
theorem dX2_parse_121 : decode cX2_parse 121 = .ok (.bipush 8, 2) := by decide +kernel
theorem dX2_parse_123 : decode cX2_parse 123 = .ok (.iadd, 1) := by decide +kernel
theorem dX2_parse_124 : decode cX2_parse 124 = .ok (.invokevirtual 15, 3) := by decide +kernel
theorem dX2_parse_127 : decode cX2_parse 127 = .ok (.bipush 33, 2) := by decide +kernel
theorem dX2_parse_129 : decode cX2_parse 129 = .ok (.if_icmp .ne 35, 3) := by decide +kernel
theorem dX2_parse_132 : decode cX2_parse 132 = .ok (.aload_n 0, 1) := by decide +kernel
theorem dX2_parse_133 : decode cX2_parse 133 = .ok (.getfield 39, 3) := by decide +kernel
theorem dX2_parse_136 : decode cX2_parse 136 = .ok (.iconst 1, 1) := by decide +kernel
theorem dX2_parse_137 : decode cX2_parse 137 = .ok (.if_icmp .lt 27, 3) := by decide +kernel
theorem dX2_parse_140 : decode cX2_parse 140 = .ok (.aload_n 0, 1) := by decide +kernel
theorem dX2_parse_141 : decode cX2_parse 141 = .ok (.getfield 39, 3) := by decide +kernel
theorem dX2_parse_144 : decode cX2_parse 144 = .ok (.bipush 30, 2) := by decide +kernel
theorem dX2_parse_146 : decode cX2_parse 146 = .ok (.if_icmp .gt 18, 3) := by decide +kernel
theorem dX2_parse_149 : decode cX2_parse 149 = .ok (.aload_n 1, 1) := by decide +kernel
theorem dX2_parse_150 : decode cX2_parse 150 = .ok (.iload_n 2, 1) := by decide +kernel
theorem dX2_parse_151 : decode cX2_parse 151 = .ok (.bipush 24, 2) := by decide +kernel
theorem dX2_parse_153 : decode cX2_parse 153 = .ok (.iadd, 1) := by decide +kernel
theorem dX2_parse_154 : decode cX2_parse 154 = .ok (.invokevirtual 15, 3) := by decide +kernel
theorem dX2_parse_157 : decode cX2_parse 157 = .ok (.ifCond .ne 7, 3) := by decide +kernel
theorem dX2_parse_160 : decode cX2_parse 160 = .ok (.iconst 1, 1) := by decide +kernel
theorem dX2_parse_161 : decode cX2_parse 161 = .ok (.goto 4, 3) := by decide +kernel
theorem dX2_parse_164 : decode cX2_parse 164 = .ok (.iconst 0, 1) := by decide +kernel
theorem dX2_parse_165 : decode cX2_parse 165 = .ok (.ireturn, 1) := by decide +kernel
theorem dX2_sizesFit_0 : decode cX2_sizesFit 0 = .ok (.aload_n 0, 1) := by decide +kernel
theorem dX2_sizesFit_1 : decode cX2_sizesFit 1 = .ok (.getfield 36, 3) := by decide +kernel
theorem dX2_sizesFit_4 : decode cX2_sizesFit 4 = .ok (.ldc2_w 42, 3) := by decide +kernel
theorem dX2_sizesFit_7 : decode cX2_sizesFit 7 = .ok (.lcmp, 1) := by decide +kernel
theorem dX2_sizesFit_8 : decode cX2_sizesFit 8 = .ok (.ifCond .gt 26, 3) := by decide +kernel
theorem dX2_sizesFit_11 : decode cX2_sizesFit 11 = .ok (.aload_n 0, 1) := by decide +kernel
theorem dX2_sizesFit_12 : decode cX2_sizesFit 12 = .ok (.getfield 19, 3) := by decide +kernel
theorem dX2_sizesFit_15 : decode cX2_sizesFit 15 = .ok (.ifCond .ne 15, 3) := by decide +kernel
theorem dX2_sizesFit_18 : decode cX2_sizesFit 18 = .ok (.aload_n 0, 1) := by decide +kernel
theorem dX2_sizesFit_19 : decode cX2_sizesFit 19 = .ok (.getfield 32, 3) := by decide +kernel
theorem dX2_sizesFit_22 : decode cX2_sizesFit 22 = .ok (.aload_n 0, 1) := by decide +kernel
theorem dX2_sizesFit_23 : decode cX2_sizesFit 23 = .ok (.getfield 36, 3) := by decide +kernel
theorem dX2_sizesFit_26 : decode cX2_sizesFit 26 = .ok (.lcmp, 1) := by decide +kernel
theorem dX2_sizesFit_27 : decode cX2_sizesFit 27 = .ok (.ifCond .ne 7, 3) := by decide +kernel
theorem dX2_sizesFit_30 : decode cX2_sizesFit 30 = .ok (.iconst 1, 1) := by decide +kernel
theorem dX2_sizesFit_31 : decode cX2_sizesFit 31 = .ok (.goto 4, 3) := by decide +kernel
theorem dX2_sizesFit_34 : decode cX2_sizesFit 34 = .ok (.iconst 0, 1) := by decide +kernel
theorem dX2_sizesFit_35 : decode cX2_sizesFit 35 = .ok (.ireturn, 1) := by decide +kernel
theorem dX3_init_0 : decode cX3_init 0 = .ok (.aload_n 0, 1) := by decide +kernel
theorem dX3_init_1 : decode cX3_init 1 = .ok (.invokespecial 3, 3) := by decide +kernel
theorem dX3_init_4 : decode cX3_init 4 = .ok (.aload_n 0, 1) := by decide +kernel
theorem dX3_init_5 : decode cX3_init 5 = .ok (.bipush 20, 2) := by decide +kernel
theorem dX3_init_7 : decode cX3_init 7 = .ok (.newarray .int, 2) := by decide +kernel
theorem dX3_init_9 : decode cX3_init 9 = .ok (.putfield 9, 3) := by decide +kernel
theorem dX3_init_12 : decode cX3_init 12 = .ok (.aload_n 0, 1) := by decide +kernel
theorem dX3_init_13 : decode cX3_init 13 = .ok (.bipush 20, 2) := by decide +kernel
theorem dX3_init_15 : decode cX3_init 15 = .ok (.newarray .int, 2) := by decide +kernel
theorem dX3_init_17 : decode cX3_init 17 = .ok (.putfield 15, 3) := by decide +kernel
theorem dX3_init_20 : decode cX3_init 20 = .ok (.aload_n 0, 1) := by decide +kernel
theorem dX3_init_21 : decode cX3_init 21 = .ok (.new 18, 3) := by decide +kernel
theorem dX3_init_24 : decode cX3_init 24 = .ok (.dup, 1) := by decide +kernel
theorem dX3_init_25 : decode cX3_init 25 = .ok (.invokespecial 20, 3) := by decide +kernel
theorem dX3_init_28 : decode cX3_init 28 = .ok (.putfield 21, 3) := by decide +kernel
theorem dX3_init_31 : decode cX3_init 31 = .ok (.aload_n 0, 1) := by decide +kernel
theorem dX3_init_32 : decode cX3_init 32 = .ok (.new 25, 3) := by decide +kernel
theorem dX3_init_35 : decode cX3_init 35 = .ok (.dup, 1) := by decide +kernel
theorem dX3_init_36 : decode cX3_init 36 = .ok (.sipush 1500, 3) := by decide +kernel
theorem dX3_init_39 : decode cX3_init 39 = .ok (.invokespecial 27, 3) := by decide +kernel
theorem dX3_init_42 : decode cX3_init 42 = .ok (.putfield 30, 3) := by decide +kernel
theorem dX3_init_45 : decode cX3_init 45 = .ok (.aload_n 0, 1) := by decide +kernel
theorem dX3_init_46 : decode cX3_init 46 = .ok (.iconst (-1), 1) := by decide +kernel
theorem dX3_init_47 : decode cX3_init 47 = .ok (.putfield 34, 3) := by decide +kernel
theorem dX3_init_50 : decode cX3_init 50 = .ok (.aload_n 0, 1) := by decide +kernel
theorem dX3_init_51 : decode cX3_init 51 = .ok (.iconst (-1), 1) := by decide +kernel
theorem dX3_init_52 : decode cX3_init 52 = .ok (.putfield 38, 3) := by decide +kernel
theorem dX3_init_55 : decode cX3_init 55 = .ok (.aload_n 0, 1) := by decide +kernel
theorem dX3_init_56 : decode cX3_init 56 = .ok (.iconst (-1), 1) := by decide +kernel
theorem dX3_init_57 : decode cX3_init 57 = .ok (.putfield 41, 3) := by decide +kernel
theorem dX3_init_60 : decode cX3_init 60 = .ok (.return_, 1) := by decide +kernel
theorem dX3_faultNumber_0 : decode cX3_faultNumber 0 = .ok (.aload_n 0, 1) := by decide +kernel
theorem dX3_faultNumber_1 : decode cX3_faultNumber 1 = .ok (.getfield 34, 3) := by decide +kernel
theorem dX3_faultNumber_4 : decode cX3_faultNumber 4 = .ok (.ireturn, 1) := by decide +kernel
theorem dX3_faultFile_0 : decode cX3_faultFile 0 = .ok (.aload_n 0, 1) := by decide +kernel
theorem dX3_faultFile_1 : decode cX3_faultFile 1 = .ok (.getfield 38, 3) := by decide +kernel
theorem dX3_faultFile_4 : decode cX3_faultFile 4 = .ok (.ireturn, 1) := by decide +kernel
theorem dX3_faultPlace_0 : decode cX3_faultPlace 0 = .ok (.aload_n 0, 1) := by decide +kernel
theorem dX3_faultPlace_1 : decode cX3_faultPlace 1 = .ok (.getfield 41, 3) := by decide +kernel
theorem dX3_faultPlace_4 : decode cX3_faultPlace 4 = .ok (.ireturn, 1) := by decide +kernel
theorem dX3_nameSize_0 : decode cX3_nameSize 0 = .ok (.aload_n 0, 1) := by decide +kernel
theorem dX3_nameSize_1 : decode cX3_nameSize 1 = .ok (.getfield 21, 3) := by decide +kernel
theorem dX3_nameSize_4 : decode cX3_nameSize 4 = .ok (.getfield 44, 3) := by decide +kernel
theorem dX3_nameSize_7 : decode cX3_nameSize 7 = .ok (.ireturn, 1) := by decide +kernel
theorem dX3_packedSize_0 : decode cX3_packedSize 0 = .ok (.aload_n 0, 1) := by decide +kernel
theorem dX3_packedSize_1 : decode cX3_packedSize 1 = .ok (.getfield 21, 3) := by decide +kernel
theorem dX3_packedSize_4 : decode cX3_packedSize 4 = .ok (.getfield 47, 3) := by decide +kernel
theorem dX3_packedSize_7 : decode cX3_packedSize 7 = .ok (.l2i, 1) := by decide +kernel
theorem dX3_packedSize_8 : decode cX3_packedSize 8 = .ok (.ireturn, 1) := by decide +kernel
theorem dX3_unpacked_0 : decode cX3_unpacked 0 = .ok (.aload_n 0, 1) := by decide +kernel
theorem dX3_unpacked_1 : decode cX3_unpacked 1 = .ok (.getfield 30, 3) := by decide +kernel
theorem dX3_unpacked_4 : decode cX3_unpacked 4 = .ok (.areturn, 1) := by decide +kernel
theorem dX3_passes_0 : decode cX3_passes 0 = .ok (.aload_n 0, 1) := by decide +kernel
theorem dX3_passes_1 : decode cX3_passes 1 = .ok (.iconst 0, 1) := by decide +kernel
theorem dX3_passes_2 : decode cX3_passes 2 = .ok (.putfield 34, 3) := by decide +kernel
theorem dX3_passes_5 : decode cX3_passes 5 = .ok (.aload_n 0, 1) := by decide +kernel
theorem dX3_passes_6 : decode cX3_passes 6 = .ok (.iconst (-1), 1) := by decide +kernel
theorem dX3_passes_7 : decode cX3_passes 7 = .ok (.putfield 38, 3) := by decide +kernel
theorem dX3_passes_10 : decode cX3_passes 10 = .ok (.aload_n 0, 1) := by decide +kernel
theorem dX3_passes_11 : decode cX3_passes 11 = .ok (.iconst (-1), 1) := by decide +kernel
theorem dX3_passes_12 : decode cX3_passes 12 = .ok (.putfield 41, 3) := by decide +kernel
theorem dX3_passes_15 : decode cX3_passes 15 = .ok (.aload_n 0, 1) := by decide +kernel
theorem dX3_passes_16 : decode cX3_passes 16 = .ok (.aload_n 1, 1) := by decide +kernel
theorem dX3_passes_17 : decode cX3_passes 17 = .ok (.invokevirtual 51, 3) := by decide +kernel
theorem dX3_passes_20 : decode cX3_passes 20 = .ok (.ifCond .eq 31, 3) := by decide +kernel
theorem dX3_passes_23 : decode cX3_passes 23 = .ok (.aload_n 0, 1) := by decide +kernel
theorem dX3_passes_24 : decode cX3_passes 24 = .ok (.aload_n 1, 1) := by decide +kernel
theorem dX3_passes_25 : decode cX3_passes 25 = .ok (.invokevirtual 55, 3) := by decide +kernel
theorem dX3_passes_28 : decode cX3_passes 28 = .ok (.ifCond .eq 23, 3) := by decide +kernel
theorem dX3_passes_31 : decode cX3_passes 31 = .ok (.aload_n 0, 1) := by decide +kernel
theorem dX3_passes_32 : decode cX3_passes 32 = .ok (.aload_n 1, 1) := by decide +kernel
theorem dX3_passes_33 : decode cX3_passes 33 = .ok (.invokevirtual 58, 3) := by decide +kernel
theorem dX3_passes_36 : decode cX3_passes 36 = .ok (.ifCond .eq 15, 3) := by decide +kernel
theorem dX3_passes_39 : decode cX3_passes 39 = .ok (.aload_n 0, 1) := by decide +kernel
theorem dX3_passes_40 : decode cX3_passes 40 = .ok (.aload_n 1, 1) := by decide +kernel
theorem dX3_passes_41 : decode cX3_passes 41 = .ok (.invokevirtual 61, 3) := by decide +kernel
theorem dX3_passes_44 : decode cX3_passes 44 = .ok (.ifCond .eq 7, 3) := by decide +kernel
theorem dX3_passes_47 : decode cX3_passes 47 = .ok (.iconst 1, 1) := by decide +kernel
theorem dX3_passes_48 : decode cX3_passes 48 = .ok (.goto 4, 3) := by decide +kernel
theorem dX3_passes_51 : decode cX3_passes 51 = .ok (.iconst 0, 1) := by decide +kernel
theorem dX3_passes_52 : decode cX3_passes 52 = .ok (.ireturn, 1) := by decide +kernel
theorem dX3_fails_0 : decode cX3_fails 0 = .ok (.aload_n 0, 1) := by decide +kernel
theorem dX3_fails_1 : decode cX3_fails 1 = .ok (.iload_n 1, 1) := by decide +kernel
theorem dX3_fails_2 : decode cX3_fails 2 = .ok (.putfield 34, 3) := by decide +kernel
theorem dX3_fails_5 : decode cX3_fails 5 = .ok (.aload_n 0, 1) := by decide +kernel
theorem dX3_fails_6 : decode cX3_fails 6 = .ok (.iload_n 2, 1) := by decide +kernel
theorem dX3_fails_7 : decode cX3_fails 7 = .ok (.putfield 38, 3) := by decide +kernel
theorem dX3_fails_10 : decode cX3_fails 10 = .ok (.aload_n 0, 1) := by decide +kernel
theorem dX3_fails_11 : decode cX3_fails 11 = .ok (.iload_n 3, 1) := by decide +kernel
theorem dX3_fails_12 : decode cX3_fails 12 = .ok (.putfield 41, 3) := by decide +kernel
theorem dX3_fails_15 : decode cX3_fails 15 = .ok (.iconst 0, 1) := by decide +kernel
theorem dX3_fails_16 : decode cX3_fails 16 = .ok (.ireturn, 1) := by decide +kernel
theorem dX3_endPasses_0 : decode cX3_endPasses 0 = .ok (.aload_n 0, 1) := by decide +kernel
theorem dX3_endPasses_1 : decode cX3_endPasses 1 = .ok (.iconst 0, 1) := by decide +kernel
theorem dX3_endPasses_2 : decode cX3_endPasses 2 = .ok (.aload_n 1, 1) := by decide +kernel
theorem dX3_endPasses_3 : decode cX3_endPasses 3 = .ok (.invokevirtual 64, 3) := by decide +kernel
theorem dX3_endPasses_6 : decode cX3_endPasses 6 = .ok (.bipush 22, 2) := by decide +kernel
theorem dX3_endPasses_8 : decode cX3_endPasses 8 = .ok (.isub, 1) := by decide +kernel
theorem dX3_endPasses_9 : decode cX3_endPasses 9 = .ok (.invokestatic 68, 3) := by decide +kernel
theorem dX3_endPasses_12 : decode cX3_endPasses 12 = .ok (.putfield 74, 3) := by decide +kernel
theorem dX3_endPasses_15 : decode cX3_endPasses 15 = .ok (.aload_n 0, 1) := by decide +kernel
theorem dX3_endPasses_16 : decode cX3_endPasses 16 = .ok (.aload_n 1, 1) := by decide +kernel
theorem dX3_endPasses_17 : decode cX3_endPasses 17 = .ok (.aload_n 0, 1) := by decide +kernel
theorem dX3_endPasses_18 : decode cX3_endPasses 18 = .ok (.getfield 74, 3) := by decide +kernel
theorem dX3_endPasses_21 : decode cX3_endPasses 21 = .ok (.invokevirtual 77, 3) := by decide +kernel
theorem dX3_endPasses_24 : decode cX3_endPasses 24 = .ok (.ifCond .ne 16, 3) := by decide +kernel
theorem dX3_endPasses_27 : decode cX3_endPasses 27 = .ok (.aload_n 0, 1) := by decide +kernel
theorem dX3_endPasses_28 : decode cX3_endPasses 28 = .ok (.iconst 1, 1) := by decide +kernel
theorem dX3_endPasses_29 : decode cX3_endPasses 29 = .ok (.iconst (-1), 1) := by decide +kernel
theorem dX3_endPasses_30 : decode cX3_endPasses 30 = .ok (.aload_n 0, 1) := by decide +kernel
theorem dX3_endPasses_31 : decode cX3_endPasses 31 = .ok (.getfield 74, 3) := by decide +kernel
theorem dX3_endPasses_34 : decode cX3_endPasses 34 = .ok (.invokevirtual 81, 3) := by decide +kernel
theorem dX3_endPasses_37 : decode cX3_endPasses 37 = .ok (.ifCond .eq 7, 3) := by decide +kernel
theorem dX3_endPasses_40 : decode cX3_endPasses 40 = .ok (.iconst 1, 1) := by decide +kernel
theorem dX3_endPasses_41 : decode cX3_endPasses 41 = .ok (.goto 4, 3) := by decide +kernel
theorem dX3_endPasses_44 : decode cX3_endPasses 44 = .ok (.iconst 0, 1) := by decide +kernel
theorem dX3_endPasses_45 : decode cX3_endPasses 45 = .ok (.ireturn, 1) := by decide +kernel
theorem dX3_endStands_0 : decode cX3_endStands 0 = .ok (.aload_n 1, 1) := by decide +kernel
theorem dX3_endStands_1 : decode cX3_endStands 1 = .ok (.iload_n 2, 1) := by decide +kernel
theorem dX3_endStands_2 : decode cX3_endStands 2 = .ok (.bipush 22, 2) := by decide +kernel
theorem dX3_endStands_4 : decode cX3_endStands 4 = .ok (.invokevirtual 85, 3) := by decide +kernel
theorem dX3_endStands_7 : decode cX3_endStands 7 = .ok (.ifCond .eq 46, 3) := by decide +kernel
theorem dX3_endStands_10 : decode cX3_endStands 10 = .ok (.aload_n 1, 1) := by decide +kernel
theorem dX3_endStands_11 : decode cX3_endStands 11 = .ok (.iload_n 2, 1) := by decide +kernel
theorem dX3_endStands_12 : decode cX3_endStands 12 = .ok (.iconst 5, 1) := by decide +kernel
theorem dX3_endStands_13 : decode cX3_endStands 13 = .ok (.bipush 6, 2) := by decide +kernel
theorem dX3_endStands_15 : decode cX3_endStands 15 = .ok (.invokevirtual 89, 3) := by decide +kernel
theorem dX3_endStands_18 : decode cX3_endStands 18 = .ok (.ifCond .eq 35, 3) := by decide +kernel
theorem dX3_endStands_21 : decode cX3_endStands 21 = .ok (.aload_n 1, 1) := by decide +kernel
theorem dX3_endStands_22 : decode cX3_endStands 22 = .ok (.iload_n 2, 1) := by decide +kernel
theorem dX3_endStands_23 : decode cX3_endStands 23 = .ok (.iconst 4, 1) := by decide +kernel
theorem dX3_endStands_24 : decode cX3_endStands 24 = .ok (.iadd, 1) := by decide +kernel
theorem dX3_endStands_25 : decode cX3_endStands 25 = .ok (.invokevirtual 92, 3) := by decide +kernel
theorem dX3_endStands_28 : decode cX3_endStands 28 = .ok (.ifCond .ne 25, 3) := by decide +kernel
theorem dX3_endStands_31 : decode cX3_endStands 31 = .ok (.aload_n 1, 1) := by decide +kernel
theorem dX3_endStands_32 : decode cX3_endStands 32 = .ok (.iload_n 2, 1) := by decide +kernel
theorem dX3_endStands_33 : decode cX3_endStands 33 = .ok (.bipush 6, 2) := by decide +kernel
theorem dX3_endStands_35 : decode cX3_endStands 35 = .ok (.iadd, 1) := by decide +kernel
theorem dX3_endStands_36 : decode cX3_endStands 36 = .ok (.invokevirtual 92, 3) := by decide +kernel
theorem dX3_endStands_39 : decode cX3_endStands 39 = .ok (.ifCond .ne 14, 3) := by decide +kernel
theorem dX3_endStands_42 : decode cX3_endStands 42 = .ok (.aload_n 1, 1) := by decide +kernel
theorem dX3_endStands_43 : decode cX3_endStands 43 = .ok (.iload_n 2, 1) := by decide +kernel
theorem dX3_endStands_44 : decode cX3_endStands 44 = .ok (.bipush 20, 2) := by decide +kernel
theorem dX3_endStands_46 : decode cX3_endStands 46 = .ok (.iadd, 1) := by decide +kernel
theorem dX3_endStands_47 : decode cX3_endStands 47 = .ok (.invokevirtual 92, 3) := by decide +kernel
theorem dX3_endStands_50 : decode cX3_endStands 50 = .ok (.ifCond .eq 5, 3) := by decide +kernel
theorem dX3_endStands_53 : decode cX3_endStands 53 = .ok (.iconst 0, 1) := by decide +kernel
theorem dX3_endStands_54 : decode cX3_endStands 54 = .ok (.ireturn, 1) := by decide +kernel
theorem dX3_endStands_55 : decode cX3_endStands 55 = .ok (.aload_n 1, 1) := by decide +kernel
theorem dX3_endStands_56 : decode cX3_endStands 56 = .ok (.iload_n 2, 1) := by decide +kernel
theorem dX3_endStands_57 : decode cX3_endStands 57 = .ok (.bipush 8, 2) := by decide +kernel
theorem dX3_endStands_59 : decode cX3_endStands 59 = .ok (.iadd, 1) := by decide +kernel
theorem dX3_endStands_60 : decode cX3_endStands 60 = .ok (.invokevirtual 92, 3) := by decide +kernel
theorem dX3_endStands_63 : decode cX3_endStands 63 = .ok (.istore_n 3, 1) := by decide +kernel
theorem dX3_endStands_64 : decode cX3_endStands 64 = .ok (.aload_n 1, 1) := by decide +kernel
theorem dX3_endStands_65 : decode cX3_endStands 65 = .ok (.iload_n 2, 1) := by decide +kernel
theorem dX3_endStands_66 : decode cX3_endStands 66 = .ok (.bipush 12, 2) := by decide +kernel
theorem dX3_endStands_68 : decode cX3_endStands 68 = .ok (.iadd, 1) := by decide +kernel
theorem dX3_endStands_69 : decode cX3_endStands 69 = .ok (.invokevirtual 96, 3) := by decide +kernel
theorem dX3_endStands_72 : decode cX3_endStands 72 = .ok (.lstore 4, 2) := by decide +kernel
theorem dX3_endStands_74 : decode cX3_endStands 74 = .ok (.aload_n 1, 1) := by decide +kernel
theorem dX3_endStands_75 : decode cX3_endStands 75 = .ok (.iload_n 2, 1) := by decide +kernel
theorem dX3_endStands_76 : decode cX3_endStands 76 = .ok (.bipush 16, 2) := by decide +kernel
theorem dX3_endStands_78 : decode cX3_endStands 78 = .ok (.iadd, 1) := by decide +kernel
theorem dX3_endStands_79 : decode cX3_endStands 79 = .ok (.invokevirtual 96, 3) := by decide +kernel
theorem dX3_endStands_82 : decode cX3_endStands 82 = .ok (.lstore 6, 2) := by decide +kernel
theorem dX3_endStands_84 : decode cX3_endStands 84 = .ok (.iload_n 3, 1) := by decide +kernel
theorem dX3_endStands_85 : decode cX3_endStands 85 = .ok (.bipush 20, 2) := by decide +kernel
theorem dX3_endStands_87 : decode cX3_endStands 87 = .ok (.if_icmp .gt 26, 3) := by decide +kernel
theorem dX3_endStands_90 : decode cX3_endStands 90 = .ok (.iload_n 3, 1) := by decide +kernel
theorem dX3_endStands_91 : decode cX3_endStands 91 = .ok (.aload_n 1, 1) := by decide +kernel
theorem dX3_endStands_92 : decode cX3_endStands 92 = .ok (.iload_n 2, 1) := by decide +kernel
theorem dX3_endStands_93 : decode cX3_endStands 93 = .ok (.bipush 10, 2) := by decide +kernel
theorem dX3_endStands_95 : decode cX3_endStands 95 = .ok (.iadd, 1) := by decide +kernel
theorem dX3_endStands_96 : decode cX3_endStands 96 = .ok (.invokevirtual 92, 3) := by decide +kernel
theorem dX3_endStands_99 : decode cX3_endStands 99 = .ok (.if_icmp .ne 14, 3) := by decide +kernel
theorem dX3_endStands_102 : decode cX3_endStands 102 = .ok (.lload 6, 2) := by decide +kernel
theorem dX3_endStands_104 : decode cX3_endStands 104 = .ok (.lload 4, 2) := by decide +kernel
theorem dX3_endStands_106 : decode cX3_endStands 106 = .ok (.ladd, 1) := by decide +kernel
theorem dX3_endStands_107 : decode cX3_endStands 107 = .ok (.iload_n 2, 1) := by decide +kernel
theorem dX3_endStands_108 : decode cX3_endStands 108 = .ok (.i2l, 1) := by decide +kernel
theorem dX3_endStands_109 : decode cX3_endStands 109 = .ok (.lcmp, 1) := by decide +kernel
theorem dX3_endStands_110 : decode cX3_endStands 110 = .ok (.ifCond .eq 5, 3) := by decide +kernel
theorem dX3_endStands_113 : decode cX3_endStands 113 = .ok (.iconst 0, 1) := by decide +kernel
theorem dX3_endStands_114 : decode cX3_endStands 114 = .ok (.ireturn, 1) := by decide +kernel
theorem dX3_endStands_115 : decode cX3_endStands 115 = .ok (.aload_n 0, 1) := by decide +kernel
theorem dX3_endStands_116 : decode cX3_endStands 116 = .ok (.iload_n 3, 1) := by decide +kernel
theorem dX3_endStands_117 : decode cX3_endStands 117 = .ok (.putfield 100, 3) := by decide +kernel
theorem dX3_endStands_120 : decode cX3_endStands 120 = .ok (.aload_n 0, 1) := by decide +kernel
theorem dX3_endStands_121 : decode cX3_endStands 121 = .ok (.lload 6, 2) := by decide +kernel
theorem dX3_endStands_123 : decode cX3_endStands 123 = .ok (.l2i, 1) := by decide +kernel
theorem dX3_endStands_124 : decode cX3_endStands 124 = .ok (.putfield 103, 3) := by decide +kernel
theorem dX3_endStands_127 : decode cX3_endStands 127 = .ok (.iload_n 3, 1) := by decide +kernel
theorem dX3_endStands_128 : decode cX3_endStands 128 = .ok (.ifCond .gt 7, 3) := by decide +kernel
theorem dX3_endStands_131 : decode cX3_endStands 131 = .ok (.iload_n 2, 1) := by decide +kernel
theorem dX3_endStands_132 : decode cX3_endStands 132 = .ok (.ifCond .ne 7, 3) := by decide +kernel
theorem dX3_endStands_135 : decode cX3_endStands 135 = .ok (.iconst 1, 1) := by decide +kernel
theorem dX3_endStands_136 : decode cX3_endStands 136 = .ok (.goto 4, 3) := by decide +kernel
theorem dX3_endStands_139 : decode cX3_endStands 139 = .ok (.iconst 0, 1) := by decide +kernel
theorem dX3_endStands_140 : decode cX3_endStands 140 = .ok (.ireturn, 1) := by decide +kernel
theorem dX3_centralsPass_0 : decode cX3_centralsPass 0 = .ok (.aload_n 0, 1) := by decide +kernel
theorem dX3_centralsPass_1 : decode cX3_centralsPass 1 = .ok (.getfield 103, 3) := by decide +kernel
theorem dX3_centralsPass_4 : decode cX3_centralsPass 4 = .ok (.istore_n 2, 1) := by decide +kernel
theorem dX3_centralsPass_5 : decode cX3_centralsPass 5 = .ok (.iconst 0, 1) := by decide +kernel
theorem dX3_centralsPass_6 : decode cX3_centralsPass 6 = .ok (.istore_n 3, 1) := by decide +kernel
theorem dX3_centralsPass_7 : decode cX3_centralsPass 7 = .ok (.iload_n 3, 1) := by decide +kernel
theorem dX3_centralsPass_8 : decode cX3_centralsPass 8 = .ok (.aload_n 0, 1) := by decide +kernel
theorem dX3_centralsPass_9 : decode cX3_centralsPass 9 = .ok (.getfield 100, 3) := by decide +kernel
theorem dX3_centralsPass_12 : decode cX3_centralsPass 12 = .ok (.if_icmp .ge 78, 3) := by decide +kernel
theorem dX3_centralsPass_15 : decode cX3_centralsPass 15 = .ok (.aload_n 0, 1) := by decide +kernel
theorem dX3_centralsPass_16 : decode cX3_centralsPass 16 = .ok (.aload_n 1, 1) := by decide +kernel
theorem dX3_centralsPass_17 : decode cX3_centralsPass 17 = .ok (.iload_n 2, 1) := by decide +kernel
theorem dX3_centralsPass_18 : decode cX3_centralsPass 18 = .ok (.iload_n 3, 1) := by decide +kernel
theorem dX3_centralsPass_19 : decode cX3_centralsPass 19 = .ok (.invokevirtual 106, 3) := by decide +kernel
theorem dX3_centralsPass_22 : decode cX3_centralsPass 22 = .ok (.ifCond .ne 11, 3) := by decide +kernel
theorem dX3_centralsPass_25 : decode cX3_centralsPass 25 = .ok (.aload_n 0, 1) := by decide +kernel
theorem dX3_centralsPass_26 : decode cX3_centralsPass 26 = .ok (.iconst 2, 1) := by decide +kernel
theorem dX3_centralsPass_27 : decode cX3_centralsPass 27 = .ok (.iload_n 3, 1) := by decide +kernel
theorem dX3_centralsPass_28 : decode cX3_centralsPass 28 = .ok (.iload_n 2, 1) := by decide +kernel
theorem dX3_centralsPass_29 : decode cX3_centralsPass 29 = .ok (.invokevirtual 81, 3) := by decide +kernel
theorem dX3_centralsPass_32 : decode cX3_centralsPass 32 = .ok (.ireturn, 1) := by decide +kernel
theorem dX3_centralsPass_33 : decode cX3_centralsPass 33 = .ok (.iload_n 2, 1) := by decide +kernel
theorem dX3_centralsPass_34 : decode cX3_centralsPass 34 = .ok (.bipush 46, 2) := by decide +kernel
theorem dX3_centralsPass_36 : decode cX3_centralsPass 36 = .ok (.iadd, 1) := by decide +kernel
theorem dX3_centralsPass_37 : decode cX3_centralsPass 37 = .ok (.aload_n 0, 1) := by decide +kernel
theorem dX3_centralsPass_38 : decode cX3_centralsPass 38 = .ok (.getfield 21, 3) := by decide +kernel
theorem dX3_centralsPass_41 : decode cX3_centralsPass 41 = .ok (.getfield 44, 3) := by decide +kernel
theorem dX3_centralsPass_44 : decode cX3_centralsPass 44 = .ok (.iadd, 1) := by decide +kernel
theorem dX3_centralsPass_45 : decode cX3_centralsPass 45 = .ok (.istore 4, 2) := by decide +kernel
theorem dX3_centralsPass_47 : decode cX3_centralsPass 47 = .ok (.iload_n 3, 1) := by decide +kernel
theorem dX3_centralsPass_48 : decode cX3_centralsPass 48 = .ok (.aload_n 0, 1) := by decide +kernel
theorem dX3_centralsPass_49 : decode cX3_centralsPass 49 = .ok (.getfield 100, 3) := by decide +kernel
theorem dX3_centralsPass_52 : decode cX3_centralsPass 52 = .ok (.iconst 1, 1) := by decide +kernel
theorem dX3_centralsPass_53 : decode cX3_centralsPass 53 = .ok (.isub, 1) := by decide +kernel
theorem dX3_centralsPass_54 : decode cX3_centralsPass 54 = .ok (.if_icmp .ne 20, 3) := by decide +kernel
theorem dX3_centralsPass_57 : decode cX3_centralsPass 57 = .ok (.iload 4, 2) := by decide +kernel
theorem dX3_centralsPass_59 : decode cX3_centralsPass 59 = .ok (.aload_n 0, 1) := by decide +kernel
theorem dX3_centralsPass_60 : decode cX3_centralsPass 60 = .ok (.getfield 74, 3) := by decide +kernel
theorem dX3_centralsPass_63 : decode cX3_centralsPass 63 = .ok (.if_icmp .eq 11, 3) := by decide +kernel
theorem dX3_centralsPass_66 : decode cX3_centralsPass 66 = .ok (.aload_n 0, 1) := by decide +kernel
theorem dX3_centralsPass_67 : decode cX3_centralsPass 67 = .ok (.iconst 2, 1) := by decide +kernel
theorem dX3_centralsPass_68 : decode cX3_centralsPass 68 = .ok (.iload_n 3, 1) := by decide +kernel
theorem dX3_centralsPass_69 : decode cX3_centralsPass 69 = .ok (.iload_n 2, 1) := by decide +kernel
theorem dX3_centralsPass_70 : decode cX3_centralsPass 70 = .ok (.invokevirtual 81, 3) := by decide +kernel
theorem dX3_centralsPass_73 : decode cX3_centralsPass 73 = .ok (.ireturn, 1) := by decide +kernel
theorem dX3_centralsPass_74 : decode cX3_centralsPass 74 = .ok (.aload_n 0, 1) := by decide +kernel
theorem dX3_centralsPass_75 : decode cX3_centralsPass 75 = .ok (.getfield 9, 3) := by decide +kernel
theorem dX3_centralsPass_78 : decode cX3_centralsPass 78 = .ok (.iload_n 3, 1) := by decide +kernel
theorem dX3_centralsPass_79 : decode cX3_centralsPass 79 = .ok (.iload_n 2, 1) := by decide +kernel
theorem dX3_centralsPass_80 : decode cX3_centralsPass 80 = .ok (.iastore, 1) := by decide +kernel
theorem dX3_centralsPass_81 : decode cX3_centralsPass 81 = .ok (.iload 4, 2) := by decide +kernel
theorem dX3_centralsPass_83 : decode cX3_centralsPass 83 = .ok (.istore_n 2, 1) := by decide +kernel
theorem dX3_centralsPass_84 : decode cX3_centralsPass 84 = .ok (.iinc 3 1, 3) := by decide +kernel
end
section
theorem dX3_centralsPass_87 : decode cX3_centralsPass 87 = .ok (.goto (-80), 3) := by decide +kernel
theorem dX3_centralsPass_90 : decode cX3_centralsPass 90 = .ok (.iconst 1, 1) := by decide +kernel
theorem dX3_centralsPass_91 : decode cX3_centralsPass 91 = .ok (.ireturn, 1) := by decide +kernel
theorem dX3_centralStands_0 : decode cX3_centralStands 0 = .ok (.aload_n 1, 1) := by decide +kernel
theorem dX3_centralStands_1 : decode cX3_centralStands 1 = .ok (.iload_n 2, 1) := by decide +kernel
theorem dX3_centralStands_2 : decode cX3_centralStands 2 = .ok (.iconst 1, 1) := by decide +kernel
theorem dX3_centralStands_3 : decode cX3_centralStands 3 = .ok (.iconst 2, 1) := by decide +kernel
theorem dX3_centralStands_4 : decode cX3_centralStands 4 = .ok (.invokevirtual 89, 3) := by decide +kernel
theorem dX3_centralStands_7 : decode cX3_centralStands 7 = .ok (.ifCond .eq 130, 3) := by decide +kernel
theorem dX3_centralStands_10 : decode cX3_centralStands 10 = .ok (.aload_n 1, 1) := by decide +kernel
theorem dX3_centralStands_11 : decode cX3_centralStands 11 = .ok (.iload_n 2, 1) := by decide +kernel
theorem dX3_centralStands_12 : decode cX3_centralStands 12 = .ok (.iconst 4, 1) := by decide +kernel
theorem dX3_centralStands_13 : decode cX3_centralStands 13 = .ok (.iadd, 1) := by decide +kernel
theorem dX3_centralStands_14 : decode cX3_centralStands 14 = .ok (.invokevirtual 92, 3) := by decide +kernel
theorem dX3_centralStands_17 : decode cX3_centralStands 17 = .ok (.bipush 20, 2) := by decide +kernel
theorem dX3_centralStands_19 : decode cX3_centralStands 19 = .ok (.if_icmp .ne 118, 3) := by decide +kernel
theorem dX3_centralStands_22 : decode cX3_centralStands 22 = .ok (.aload_n 0, 1) := by decide +kernel
theorem dX3_centralStands_23 : decode cX3_centralStands 23 = .ok (.getfield 21, 3) := by decide +kernel
theorem dX3_centralStands_26 : decode cX3_centralStands 26 = .ok (.aload_n 1, 1) := by decide +kernel
theorem dX3_centralStands_27 : decode cX3_centralStands 27 = .ok (.iload_n 2, 1) := by decide +kernel
theorem dX3_centralStands_28 : decode cX3_centralStands 28 = .ok (.bipush 6, 2) := by decide +kernel
theorem dX3_centralStands_30 : decode cX3_centralStands 30 = .ok (.iadd, 1) := by decide +kernel
theorem dX3_centralStands_31 : decode cX3_centralStands 31 = .ok (.invokevirtual 110, 3) := by decide +kernel
theorem dX3_centralStands_34 : decode cX3_centralStands 34 = .ok (.ifCond .eq 103, 3) := by decide +kernel
theorem dX3_centralStands_37 : decode cX3_centralStands 37 = .ok (.aload_n 1, 1) := by decide +kernel
theorem dX3_centralStands_38 : decode cX3_centralStands 38 = .ok (.iload_n 2, 1) := by decide +kernel
theorem dX3_centralStands_39 : decode cX3_centralStands 39 = .ok (.bipush 32, 2) := by decide +kernel
theorem dX3_centralStands_41 : decode cX3_centralStands 41 = .ok (.iadd, 1) := by decide +kernel
theorem dX3_centralStands_42 : decode cX3_centralStands 42 = .ok (.invokevirtual 92, 3) := by decide +kernel
theorem dX3_centralStands_45 : decode cX3_centralStands 45 = .ok (.ifCond .ne 92, 3) := by decide +kernel
theorem dX3_centralStands_48 : decode cX3_centralStands 48 = .ok (.aload_n 1, 1) := by decide +kernel
theorem dX3_centralStands_49 : decode cX3_centralStands 49 = .ok (.iload_n 2, 1) := by decide +kernel
theorem dX3_centralStands_50 : decode cX3_centralStands 50 = .ok (.bipush 34, 2) := by decide +kernel
theorem dX3_centralStands_52 : decode cX3_centralStands 52 = .ok (.iadd, 1) := by decide +kernel
theorem dX3_centralStands_53 : decode cX3_centralStands 53 = .ok (.invokevirtual 92, 3) := by decide +kernel
theorem dX3_centralStands_56 : decode cX3_centralStands 56 = .ok (.ifCond .ne 81, 3) := by decide +kernel
theorem dX3_centralStands_59 : decode cX3_centralStands 59 = .ok (.aload_n 1, 1) := by decide +kernel
theorem dX3_centralStands_60 : decode cX3_centralStands 60 = .ok (.iload_n 2, 1) := by decide +kernel
theorem dX3_centralStands_61 : decode cX3_centralStands 61 = .ok (.bipush 36, 2) := by decide +kernel
theorem dX3_centralStands_63 : decode cX3_centralStands 63 = .ok (.iadd, 1) := by decide +kernel
theorem dX3_centralStands_64 : decode cX3_centralStands 64 = .ok (.invokevirtual 92, 3) := by decide +kernel
theorem dX3_centralStands_67 : decode cX3_centralStands 67 = .ok (.ifCond .ne 70, 3) := by decide +kernel
theorem dX3_centralStands_70 : decode cX3_centralStands 70 = .ok (.aload_n 1, 1) := by decide +kernel
theorem dX3_centralStands_71 : decode cX3_centralStands 71 = .ok (.iload_n 2, 1) := by decide +kernel
theorem dX3_centralStands_72 : decode cX3_centralStands 72 = .ok (.bipush 38, 2) := by decide +kernel
theorem dX3_centralStands_74 : decode cX3_centralStands 74 = .ok (.iadd, 1) := by decide +kernel
theorem dX3_centralStands_75 : decode cX3_centralStands 75 = .ok (.invokevirtual 96, 3) := by decide +kernel
theorem dX3_centralStands_78 : decode cX3_centralStands 78 = .ok (.lconst 0, 1) := by decide +kernel
theorem dX3_centralStands_79 : decode cX3_centralStands 79 = .ok (.lcmp, 1) := by decide +kernel
theorem dX3_centralStands_80 : decode cX3_centralStands 80 = .ok (.ifCond .ne 57, 3) := by decide +kernel
theorem dX3_centralStands_83 : decode cX3_centralStands 83 = .ok (.iload_n 2, 1) := by decide +kernel
theorem dX3_centralStands_84 : decode cX3_centralStands 84 = .ok (.bipush 46, 2) := by decide +kernel
theorem dX3_centralStands_86 : decode cX3_centralStands 86 = .ok (.iadd, 1) := by decide +kernel
theorem dX3_centralStands_87 : decode cX3_centralStands 87 = .ok (.aload_n 0, 1) := by decide +kernel
theorem dX3_centralStands_88 : decode cX3_centralStands 88 = .ok (.getfield 21, 3) := by decide +kernel
theorem dX3_centralStands_91 : decode cX3_centralStands 91 = .ok (.getfield 44, 3) := by decide +kernel
theorem dX3_centralStands_94 : decode cX3_centralStands 94 = .ok (.iadd, 1) := by decide +kernel
theorem dX3_centralStands_95 : decode cX3_centralStands 95 = .ok (.aload_n 0, 1) := by decide +kernel
theorem dX3_centralStands_96 : decode cX3_centralStands 96 = .ok (.getfield 74, 3) := by decide +kernel
theorem dX3_centralStands_99 : decode cX3_centralStands 99 = .ok (.if_icmp .gt 38, 3) := by decide +kernel
theorem dX3_centralStands_102 : decode cX3_centralStands 102 = .ok (.aload_n 1, 1) := by decide +kernel
theorem dX3_centralStands_103 : decode cX3_centralStands 103 = .ok (.iload_n 2, 1) := by decide +kernel
theorem dX3_centralStands_104 : decode cX3_centralStands 104 = .ok (.bipush 46, 2) := by decide +kernel
theorem dX3_centralStands_106 : decode cX3_centralStands 106 = .ok (.iadd, 1) := by decide +kernel
theorem dX3_centralStands_107 : decode cX3_centralStands 107 = .ok (.aload_n 0, 1) := by decide +kernel
theorem dX3_centralStands_108 : decode cX3_centralStands 108 = .ok (.getfield 21, 3) := by decide +kernel
theorem dX3_centralStands_111 : decode cX3_centralStands 111 = .ok (.getfield 44, 3) := by decide +kernel
theorem dX3_centralStands_114 : decode cX3_centralStands 114 = .ok (.invokevirtual 113, 3) := by decide +kernel
theorem dX3_centralStands_117 : decode cX3_centralStands 117 = .ok (.ifCond .eq 20, 3) := by decide +kernel
theorem dX3_centralStands_120 : decode cX3_centralStands 120 = .ok (.aload_n 0, 1) := by decide +kernel
theorem dX3_centralStands_121 : decode cX3_centralStands 121 = .ok (.aload_n 1, 1) := by decide +kernel
theorem dX3_centralStands_122 : decode cX3_centralStands 122 = .ok (.iload_n 2, 1) := by decide +kernel
theorem dX3_centralStands_123 : decode cX3_centralStands 123 = .ok (.bipush 46, 2) := by decide +kernel
theorem dX3_centralStands_125 : decode cX3_centralStands 125 = .ok (.iadd, 1) := by decide +kernel
theorem dX3_centralStands_126 : decode cX3_centralStands 126 = .ok (.iload_n 3, 1) := by decide +kernel
theorem dX3_centralStands_127 : decode cX3_centralStands 127 = .ok (.invokevirtual 116, 3) := by decide +kernel
theorem dX3_centralStands_130 : decode cX3_centralStands 130 = .ok (.ifCond .ne 7, 3) := by decide +kernel
theorem dX3_centralStands_133 : decode cX3_centralStands 133 = .ok (.iconst 1, 1) := by decide +kernel
theorem dX3_centralStands_134 : decode cX3_centralStands 134 = .ok (.goto 4, 3) := by decide +kernel
theorem dX3_centralStands_137 : decode cX3_centralStands 137 = .ok (.iconst 0, 1) := by decide +kernel
theorem dX3_centralStands_138 : decode cX3_centralStands 138 = .ok (.ireturn, 1) := by decide +kernel
theorem dX3_isEarlierName_0 : decode cX3_isEarlierName 0 = .ok (.iconst 0, 1) := by decide +kernel
theorem dX3_isEarlierName_1 : decode cX3_isEarlierName 1 = .ok (.istore 4, 2) := by decide +kernel
theorem dX3_isEarlierName_3 : decode cX3_isEarlierName 3 = .ok (.iload 4, 2) := by decide +kernel
theorem dX3_isEarlierName_5 : decode cX3_isEarlierName 5 = .ok (.iload_n 3, 1) := by decide +kernel
theorem dX3_isEarlierName_6 : decode cX3_isEarlierName 6 = .ok (.if_icmp .ge 63, 3) := by decide +kernel
theorem dX3_isEarlierName_9 : decode cX3_isEarlierName 9 = .ok (.aload_n 0, 1) := by decide +kernel
theorem dX3_isEarlierName_10 : decode cX3_isEarlierName 10 = .ok (.getfield 9, 3) := by decide +kernel
theorem dX3_isEarlierName_13 : decode cX3_isEarlierName 13 = .ok (.iload 4, 2) := by decide +kernel
theorem dX3_isEarlierName_15 : decode cX3_isEarlierName 15 = .ok (.iaload, 1) := by decide +kernel
theorem dX3_isEarlierName_16 : decode cX3_isEarlierName 16 = .ok (.istore 5, 2) := by decide +kernel
theorem dX3_isEarlierName_18 : decode cX3_isEarlierName 18 = .ok (.aload_n 1, 1) := by decide +kernel
theorem dX3_isEarlierName_19 : decode cX3_isEarlierName 19 = .ok (.iload 5, 2) := by decide +kernel
theorem dX3_isEarlierName_21 : decode cX3_isEarlierName 21 = .ok (.bipush 6, 2) := by decide +kernel
theorem dX3_isEarlierName_23 : decode cX3_isEarlierName 23 = .ok (.iadd, 1) := by decide +kernel
theorem dX3_isEarlierName_24 : decode cX3_isEarlierName 24 = .ok (.bipush 22, 2) := by decide +kernel
theorem dX3_isEarlierName_26 : decode cX3_isEarlierName 26 = .ok (.iadd, 1) := by decide +kernel
theorem dX3_isEarlierName_27 : decode cX3_isEarlierName 27 = .ok (.invokevirtual 92, 3) := by decide +kernel
theorem dX3_isEarlierName_30 : decode cX3_isEarlierName 30 = .ok (.aload_n 0, 1) := by decide +kernel
theorem dX3_isEarlierName_31 : decode cX3_isEarlierName 31 = .ok (.getfield 21, 3) := by decide +kernel
theorem dX3_isEarlierName_34 : decode cX3_isEarlierName 34 = .ok (.getfield 44, 3) := by decide +kernel
theorem dX3_isEarlierName_37 : decode cX3_isEarlierName 37 = .ok (.if_icmp .ne 26, 3) := by decide +kernel
theorem dX3_isEarlierName_40 : decode cX3_isEarlierName 40 = .ok (.aload_n 1, 1) := by decide +kernel
theorem dX3_isEarlierName_41 : decode cX3_isEarlierName 41 = .ok (.iload 5, 2) := by decide +kernel
theorem dX3_isEarlierName_43 : decode cX3_isEarlierName 43 = .ok (.bipush 46, 2) := by decide +kernel
theorem dX3_isEarlierName_45 : decode cX3_isEarlierName 45 = .ok (.iadd, 1) := by decide +kernel
theorem dX3_isEarlierName_46 : decode cX3_isEarlierName 46 = .ok (.aload_n 1, 1) := by decide +kernel
theorem dX3_isEarlierName_47 : decode cX3_isEarlierName 47 = .ok (.iload_n 2, 1) := by decide +kernel
theorem dX3_isEarlierName_48 : decode cX3_isEarlierName 48 = .ok (.aload_n 0, 1) := by decide +kernel
theorem dX3_isEarlierName_49 : decode cX3_isEarlierName 49 = .ok (.getfield 21, 3) := by decide +kernel
theorem dX3_isEarlierName_52 : decode cX3_isEarlierName 52 = .ok (.getfield 44, 3) := by decide +kernel
theorem dX3_isEarlierName_55 : decode cX3_isEarlierName 55 = .ok (.invokevirtual 119, 3) := by decide +kernel
theorem dX3_isEarlierName_58 : decode cX3_isEarlierName 58 = .ok (.ifCond .eq 5, 3) := by decide +kernel
theorem dX3_isEarlierName_61 : decode cX3_isEarlierName 61 = .ok (.iconst 1, 1) := by decide +kernel
theorem dX3_isEarlierName_62 : decode cX3_isEarlierName 62 = .ok (.ireturn, 1) := by decide +kernel
theorem dX3_isEarlierName_63 : decode cX3_isEarlierName 63 = .ok (.iinc 4 1, 3) := by decide +kernel
theorem dX3_isEarlierName_66 : decode cX3_isEarlierName 66 = .ok (.goto (-63), 3) := by decide +kernel
theorem dX3_isEarlierName_69 : decode cX3_isEarlierName 69 = .ok (.iconst 0, 1) := by decide +kernel
theorem dX3_isEarlierName_70 : decode cX3_isEarlierName 70 = .ok (.ireturn, 1) := by decide +kernel
theorem dX3_localsPass_0 : decode cX3_localsPass 0 = .ok (.iconst 0, 1) := by decide +kernel
theorem dX3_localsPass_1 : decode cX3_localsPass 1 = .ok (.istore_n 2, 1) := by decide +kernel
theorem dX3_localsPass_2 : decode cX3_localsPass 2 = .ok (.iconst 0, 1) := by decide +kernel
theorem dX3_localsPass_3 : decode cX3_localsPass 3 = .ok (.istore_n 3, 1) := by decide +kernel
theorem dX3_localsPass_4 : decode cX3_localsPass 4 = .ok (.iload_n 3, 1) := by decide +kernel
theorem dX3_localsPass_5 : decode cX3_localsPass 5 = .ok (.aload_n 0, 1) := by decide +kernel
theorem dX3_localsPass_6 : decode cX3_localsPass 6 = .ok (.getfield 100, 3) := by decide +kernel
theorem dX3_localsPass_9 : decode cX3_localsPass 9 = .ok (.if_icmp .ge 93, 3) := by decide +kernel
theorem dX3_localsPass_12 : decode cX3_localsPass 12 = .ok (.aload_n 0, 1) := by decide +kernel
theorem dX3_localsPass_13 : decode cX3_localsPass 13 = .ok (.aload_n 1, 1) := by decide +kernel
theorem dX3_localsPass_14 : decode cX3_localsPass 14 = .ok (.iload_n 2, 1) := by decide +kernel
theorem dX3_localsPass_15 : decode cX3_localsPass 15 = .ok (.aload_n 0, 1) := by decide +kernel
theorem dX3_localsPass_16 : decode cX3_localsPass 16 = .ok (.getfield 9, 3) := by decide +kernel
theorem dX3_localsPass_19 : decode cX3_localsPass 19 = .ok (.iload_n 3, 1) := by decide +kernel
theorem dX3_localsPass_20 : decode cX3_localsPass 20 = .ok (.iaload, 1) := by decide +kernel
theorem dX3_localsPass_21 : decode cX3_localsPass 21 = .ok (.invokevirtual 123, 3) := by decide +kernel
theorem dX3_localsPass_24 : decode cX3_localsPass 24 = .ok (.ifCond .ne 11, 3) := by decide +kernel
theorem dX3_localsPass_27 : decode cX3_localsPass 27 = .ok (.aload_n 0, 1) := by decide +kernel
theorem dX3_localsPass_28 : decode cX3_localsPass 28 = .ok (.iconst 3, 1) := by decide +kernel
theorem dX3_localsPass_29 : decode cX3_localsPass 29 = .ok (.iload_n 3, 1) := by decide +kernel
theorem dX3_localsPass_30 : decode cX3_localsPass 30 = .ok (.iload_n 2, 1) := by decide +kernel
theorem dX3_localsPass_31 : decode cX3_localsPass 31 = .ok (.invokevirtual 81, 3) := by decide +kernel
theorem dX3_localsPass_34 : decode cX3_localsPass 34 = .ok (.ireturn, 1) := by decide +kernel
theorem dX3_localsPass_35 : decode cX3_localsPass 35 = .ok (.aload_n 0, 1) := by decide +kernel
theorem dX3_localsPass_36 : decode cX3_localsPass 36 = .ok (.getfield 15, 3) := by decide +kernel
theorem dX3_localsPass_39 : decode cX3_localsPass 39 = .ok (.iload_n 3, 1) := by decide +kernel
theorem dX3_localsPass_40 : decode cX3_localsPass 40 = .ok (.iload_n 2, 1) := by decide +kernel
theorem dX3_localsPass_41 : decode cX3_localsPass 41 = .ok (.bipush 30, 2) := by decide +kernel
theorem dX3_localsPass_43 : decode cX3_localsPass 43 = .ok (.iadd, 1) := by decide +kernel
theorem dX3_localsPass_44 : decode cX3_localsPass 44 = .ok (.aload_n 0, 1) := by decide +kernel
theorem dX3_localsPass_45 : decode cX3_localsPass 45 = .ok (.getfield 21, 3) := by decide +kernel
theorem dX3_localsPass_48 : decode cX3_localsPass 48 = .ok (.getfield 44, 3) := by decide +kernel
theorem dX3_localsPass_51 : decode cX3_localsPass 51 = .ok (.iadd, 1) := by decide +kernel
theorem dX3_localsPass_52 : decode cX3_localsPass 52 = .ok (.iastore, 1) := by decide +kernel
theorem dX3_localsPass_53 : decode cX3_localsPass 53 = .ok (.aload_n 0, 1) := by decide +kernel
theorem dX3_localsPass_54 : decode cX3_localsPass 54 = .ok (.getfield 15, 3) := by decide +kernel
theorem dX3_localsPass_57 : decode cX3_localsPass 57 = .ok (.iload_n 3, 1) := by decide +kernel
theorem dX3_localsPass_58 : decode cX3_localsPass 58 = .ok (.iaload, 1) := by decide +kernel
theorem dX3_localsPass_59 : decode cX3_localsPass 59 = .ok (.aload_n 0, 1) := by decide +kernel
theorem dX3_localsPass_60 : decode cX3_localsPass 60 = .ok (.invokevirtual 126, 3) := by decide +kernel
theorem dX3_localsPass_63 : decode cX3_localsPass 63 = .ok (.iadd, 1) := by decide +kernel
theorem dX3_localsPass_64 : decode cX3_localsPass 64 = .ok (.istore 4, 2) := by decide +kernel
theorem dX3_localsPass_66 : decode cX3_localsPass 66 = .ok (.iload_n 3, 1) := by decide +kernel
theorem dX3_localsPass_67 : decode cX3_localsPass 67 = .ok (.aload_n 0, 1) := by decide +kernel
theorem dX3_localsPass_68 : decode cX3_localsPass 68 = .ok (.getfield 100, 3) := by decide +kernel
theorem dX3_localsPass_71 : decode cX3_localsPass 71 = .ok (.iconst 1, 1) := by decide +kernel
theorem dX3_localsPass_72 : decode cX3_localsPass 72 = .ok (.isub, 1) := by decide +kernel
theorem dX3_localsPass_73 : decode cX3_localsPass 73 = .ok (.if_icmp .ne 20, 3) := by decide +kernel
theorem dX3_localsPass_76 : decode cX3_localsPass 76 = .ok (.iload 4, 2) := by decide +kernel
theorem dX3_localsPass_78 : decode cX3_localsPass 78 = .ok (.aload_n 0, 1) := by decide +kernel
theorem dX3_localsPass_79 : decode cX3_localsPass 79 = .ok (.getfield 103, 3) := by decide +kernel
theorem dX3_localsPass_82 : decode cX3_localsPass 82 = .ok (.if_icmp .eq 11, 3) := by decide +kernel
theorem dX3_localsPass_85 : decode cX3_localsPass 85 = .ok (.aload_n 0, 1) := by decide +kernel
theorem dX3_localsPass_86 : decode cX3_localsPass 86 = .ok (.iconst 3, 1) := by decide +kernel
theorem dX3_localsPass_87 : decode cX3_localsPass 87 = .ok (.iload_n 3, 1) := by decide +kernel
theorem dX3_localsPass_88 : decode cX3_localsPass 88 = .ok (.iload_n 2, 1) := by decide +kernel
theorem dX3_localsPass_89 : decode cX3_localsPass 89 = .ok (.invokevirtual 81, 3) := by decide +kernel
theorem dX3_localsPass_92 : decode cX3_localsPass 92 = .ok (.ireturn, 1) := by decide +kernel
theorem dX3_localsPass_93 : decode cX3_localsPass 93 = .ok (.iload 4, 2) := by decide +kernel
theorem dX3_localsPass_95 : decode cX3_localsPass 95 = .ok (.istore_n 2, 1) := by decide +kernel
theorem dX3_localsPass_96 : decode cX3_localsPass 96 = .ok (.iinc 3 1, 3) := by decide +kernel
theorem dX3_localsPass_99 : decode cX3_localsPass 99 = .ok (.goto (-95), 3) := by decide +kernel
theorem dX3_localsPass_102 : decode cX3_localsPass 102 = .ok (.iconst 1, 1) := by decide +kernel
theorem dX3_localsPass_103 : decode cX3_localsPass 103 = .ok (.ireturn, 1) := by decide +kernel
theorem dX3_localStands_0 : decode cX3_localStands 0 = .ok (.aload_n 0, 1) := by decide +kernel
theorem dX3_localStands_1 : decode cX3_localStands 1 = .ok (.getfield 21, 3) := by decide +kernel
theorem dX3_localStands_4 : decode cX3_localStands 4 = .ok (.aload_n 1, 1) := by decide +kernel
theorem dX3_localStands_5 : decode cX3_localStands 5 = .ok (.iload_n 3, 1) := by decide +kernel
theorem dX3_localStands_6 : decode cX3_localStands 6 = .ok (.bipush 6, 2) := by decide +kernel
theorem dX3_localStands_8 : decode cX3_localStands 8 = .ok (.iadd, 1) := by decide +kernel
theorem dX3_localStands_9 : decode cX3_localStands 9 = .ok (.invokevirtual 110, 3) := by decide +kernel
theorem dX3_localStands_12 : decode cX3_localStands 12 = .ok (.ifCond .eq 101, 3) := by decide +kernel
theorem dX3_localStands_15 : decode cX3_localStands 15 = .ok (.aload_n 1, 1) := by decide +kernel
theorem dX3_localStands_16 : decode cX3_localStands 16 = .ok (.iload_n 3, 1) := by decide +kernel
theorem dX3_localStands_17 : decode cX3_localStands 17 = .ok (.bipush 42, 2) := by decide +kernel
theorem dX3_localStands_19 : decode cX3_localStands 19 = .ok (.iadd, 1) := by decide +kernel
theorem dX3_localStands_20 : decode cX3_localStands 20 = .ok (.invokevirtual 96, 3) := by decide +kernel
theorem dX3_localStands_23 : decode cX3_localStands 23 = .ok (.iload_n 2, 1) := by decide +kernel
theorem dX3_localStands_24 : decode cX3_localStands 24 = .ok (.i2l, 1) := by decide +kernel
theorem dX3_localStands_25 : decode cX3_localStands 25 = .ok (.lcmp, 1) := by decide +kernel
theorem dX3_localStands_26 : decode cX3_localStands 26 = .ok (.ifCond .ne 87, 3) := by decide +kernel
theorem dX3_localStands_29 : decode cX3_localStands 29 = .ok (.aload_n 1, 1) := by decide +kernel
theorem dX3_localStands_30 : decode cX3_localStands 30 = .ok (.iload_n 2, 1) := by decide +kernel
theorem dX3_localStands_31 : decode cX3_localStands 31 = .ok (.iconst 3, 1) := by decide +kernel
theorem dX3_localStands_32 : decode cX3_localStands 32 = .ok (.iconst 4, 1) := by decide +kernel
theorem dX3_localStands_33 : decode cX3_localStands 33 = .ok (.invokevirtual 89, 3) := by decide +kernel
theorem dX3_localStands_36 : decode cX3_localStands 36 = .ok (.ifCond .eq 77, 3) := by decide +kernel
theorem dX3_localStands_39 : decode cX3_localStands 39 = .ok (.aload_n 1, 1) := by decide +kernel
theorem dX3_localStands_40 : decode cX3_localStands 40 = .ok (.iload_n 2, 1) := by decide +kernel
theorem dX3_localStands_41 : decode cX3_localStands 41 = .ok (.iconst 4, 1) := by decide +kernel
theorem dX3_localStands_42 : decode cX3_localStands 42 = .ok (.iadd, 1) := by decide +kernel
theorem dX3_localStands_43 : decode cX3_localStands 43 = .ok (.aload_n 1, 1) := by decide +kernel
theorem dX3_localStands_44 : decode cX3_localStands 44 = .ok (.iload_n 3, 1) := by decide +kernel
theorem dX3_localStands_45 : decode cX3_localStands 45 = .ok (.bipush 6, 2) := by decide +kernel
theorem dX3_localStands_47 : decode cX3_localStands 47 = .ok (.iadd, 1) := by decide +kernel
theorem dX3_localStands_48 : decode cX3_localStands 48 = .ok (.bipush 26, 2) := by decide +kernel
theorem dX3_localStands_50 : decode cX3_localStands 50 = .ok (.invokevirtual 119, 3) := by decide +kernel
theorem dX3_localStands_53 : decode cX3_localStands 53 = .ok (.ifCond .eq 60, 3) := by decide +kernel
theorem dX3_localStands_56 : decode cX3_localStands 56 = .ok (.aload_n 1, 1) := by decide +kernel
theorem dX3_localStands_57 : decode cX3_localStands 57 = .ok (.iload_n 2, 1) := by decide +kernel
theorem dX3_localStands_58 : decode cX3_localStands 58 = .ok (.bipush 30, 2) := by decide +kernel
theorem dX3_localStands_60 : decode cX3_localStands 60 = .ok (.iadd, 1) := by decide +kernel
theorem dX3_localStands_61 : decode cX3_localStands 61 = .ok (.aload_n 1, 1) := by decide +kernel
theorem dX3_localStands_62 : decode cX3_localStands 62 = .ok (.iload_n 3, 1) := by decide +kernel
theorem dX3_localStands_63 : decode cX3_localStands 63 = .ok (.bipush 46, 2) := by decide +kernel
theorem dX3_localStands_65 : decode cX3_localStands 65 = .ok (.iadd, 1) := by decide +kernel
theorem dX3_localStands_66 : decode cX3_localStands 66 = .ok (.aload_n 0, 1) := by decide +kernel
theorem dX3_localStands_67 : decode cX3_localStands 67 = .ok (.getfield 21, 3) := by decide +kernel
theorem dX3_localStands_70 : decode cX3_localStands 70 = .ok (.getfield 44, 3) := by decide +kernel
theorem dX3_localStands_73 : decode cX3_localStands 73 = .ok (.invokevirtual 119, 3) := by decide +kernel
theorem dX3_localStands_76 : decode cX3_localStands 76 = .ok (.ifCond .eq 37, 3) := by decide +kernel
theorem dX3_localStands_79 : decode cX3_localStands 79 = .ok (.iload_n 2, 1) := by decide +kernel
theorem dX3_localStands_80 : decode cX3_localStands 80 = .ok (.bipush 30, 2) := by decide +kernel
theorem dX3_localStands_82 : decode cX3_localStands 82 = .ok (.iadd, 1) := by decide +kernel
theorem dX3_localStands_83 : decode cX3_localStands 83 = .ok (.aload_n 0, 1) := by decide +kernel
theorem dX3_localStands_84 : decode cX3_localStands 84 = .ok (.getfield 21, 3) := by decide +kernel
theorem dX3_localStands_87 : decode cX3_localStands 87 = .ok (.getfield 44, 3) := by decide +kernel
theorem dX3_localStands_90 : decode cX3_localStands 90 = .ok (.iadd, 1) := by decide +kernel
theorem dX3_localStands_91 : decode cX3_localStands 91 = .ok (.i2l, 1) := by decide +kernel
theorem dX3_localStands_92 : decode cX3_localStands 92 = .ok (.aload_n 0, 1) := by decide +kernel
theorem dX3_localStands_93 : decode cX3_localStands 93 = .ok (.getfield 21, 3) := by decide +kernel
theorem dX3_localStands_96 : decode cX3_localStands 96 = .ok (.getfield 47, 3) := by decide +kernel
theorem dX3_localStands_99 : decode cX3_localStands 99 = .ok (.ladd, 1) := by decide +kernel
theorem dX3_localStands_100 : decode cX3_localStands 100 = .ok (.aload_n 0, 1) := by decide +kernel
theorem dX3_localStands_101 : decode cX3_localStands 101 = .ok (.getfield 103, 3) := by decide +kernel
theorem dX3_localStands_104 : decode cX3_localStands 104 = .ok (.i2l, 1) := by decide +kernel
theorem dX3_localStands_105 : decode cX3_localStands 105 = .ok (.lcmp, 1) := by decide +kernel
theorem dX3_localStands_106 : decode cX3_localStands 106 = .ok (.ifCond .gt 7, 3) := by decide +kernel
theorem dX3_localStands_109 : decode cX3_localStands 109 = .ok (.iconst 1, 1) := by decide +kernel
theorem dX3_localStands_110 : decode cX3_localStands 110 = .ok (.goto 4, 3) := by decide +kernel
theorem dX3_localStands_113 : decode cX3_localStands 113 = .ok (.iconst 0, 1) := by decide +kernel
theorem dX3_localStands_114 : decode cX3_localStands 114 = .ok (.ireturn, 1) := by decide +kernel
theorem dX3_contentsPass_0 : decode cX3_contentsPass 0 = .ok (.lconst 0, 1) := by decide +kernel
theorem dX3_contentsPass_1 : decode cX3_contentsPass 1 = .ok (.lstore_n 2, 1) := by decide +kernel
theorem dX3_contentsPass_2 : decode cX3_contentsPass 2 = .ok (.iconst 0, 1) := by decide +kernel
theorem dX3_contentsPass_3 : decode cX3_contentsPass 3 = .ok (.istore 4, 2) := by decide +kernel
theorem dX3_contentsPass_5 : decode cX3_contentsPass 5 = .ok (.iload 4, 2) := by decide +kernel
theorem dX3_contentsPass_7 : decode cX3_contentsPass 7 = .ok (.aload_n 0, 1) := by decide +kernel
theorem dX3_contentsPass_8 : decode cX3_contentsPass 8 = .ok (.getfield 100, 3) := by decide +kernel
theorem dX3_contentsPass_11 : decode cX3_contentsPass 11 = .ok (.if_icmp .ge 130, 3) := by decide +kernel
theorem dX3_contentsPass_14 : decode cX3_contentsPass 14 = .ok (.aload_n 0, 1) := by decide +kernel
theorem dX3_contentsPass_15 : decode cX3_contentsPass 15 = .ok (.getfield 21, 3) := by decide +kernel
theorem dX3_contentsPass_18 : decode cX3_contentsPass 18 = .ok (.aload_n 1, 1) := by decide +kernel
theorem dX3_contentsPass_19 : decode cX3_contentsPass 19 = .ok (.aload_n 0, 1) := by decide +kernel
theorem dX3_contentsPass_20 : decode cX3_contentsPass 20 = .ok (.getfield 9, 3) := by decide +kernel
theorem dX3_contentsPass_23 : decode cX3_contentsPass 23 = .ok (.iload 4, 2) := by decide +kernel
theorem dX3_contentsPass_25 : decode cX3_contentsPass 25 = .ok (.iaload, 1) := by decide +kernel
theorem dX3_contentsPass_26 : decode cX3_contentsPass 26 = .ok (.bipush 6, 2) := by decide +kernel
theorem dX3_contentsPass_28 : decode cX3_contentsPass 28 = .ok (.iadd, 1) := by decide +kernel
theorem dX3_contentsPass_29 : decode cX3_contentsPass 29 = .ok (.invokevirtual 110, 3) := by decide +kernel
theorem dX3_contentsPass_32 : decode cX3_contentsPass 32 = .ok (.istore 5, 2) := by decide +kernel
theorem dX3_contentsPass_34 : decode cX3_contentsPass 34 = .ok (.lload_n 2, 1) := by decide +kernel
theorem dX3_contentsPass_35 : decode cX3_contentsPass 35 = .ok (.aload_n 0, 1) := by decide +kernel
theorem dX3_contentsPass_36 : decode cX3_contentsPass 36 = .ok (.getfield 21, 3) := by decide +kernel
theorem dX3_contentsPass_39 : decode cX3_contentsPass 39 = .ok (.getfield 129, 3) := by decide +kernel
theorem dX3_contentsPass_42 : decode cX3_contentsPass 42 = .ok (.ladd, 1) := by decide +kernel
theorem dX3_contentsPass_43 : decode cX3_contentsPass 43 = .ok (.lstore_n 2, 1) := by decide +kernel
theorem dX3_contentsPass_44 : decode cX3_contentsPass 44 = .ok (.iload 5, 2) := by decide +kernel
theorem dX3_contentsPass_46 : decode cX3_contentsPass 46 = .ok (.ifCond .eq 21, 3) := by decide +kernel
theorem dX3_contentsPass_49 : decode cX3_contentsPass 49 = .ok (.aload_n 0, 1) := by decide +kernel
theorem dX3_contentsPass_50 : decode cX3_contentsPass 50 = .ok (.getfield 21, 3) := by decide +kernel
theorem dX3_contentsPass_53 : decode cX3_contentsPass 53 = .ok (.invokevirtual 131, 3) := by decide +kernel
theorem dX3_contentsPass_56 : decode cX3_contentsPass 56 = .ok (.ifCond .eq 11, 3) := by decide +kernel
theorem dX3_contentsPass_59 : decode cX3_contentsPass 59 = .ok (.lload_n 2, 1) := by decide +kernel
theorem dX3_contentsPass_60 : decode cX3_contentsPass 60 = .ok (.ldc2_w 135, 3) := by decide +kernel
theorem dX3_contentsPass_63 : decode cX3_contentsPass 63 = .ok (.lcmp, 1) := by decide +kernel
theorem dX3_contentsPass_64 : decode cX3_contentsPass 64 = .ok (.ifCond .le 18, 3) := by decide +kernel
theorem dX3_contentsPass_67 : decode cX3_contentsPass 67 = .ok (.aload_n 0, 1) := by decide +kernel
theorem dX3_contentsPass_68 : decode cX3_contentsPass 68 = .ok (.iconst 4, 1) := by decide +kernel
theorem dX3_contentsPass_69 : decode cX3_contentsPass 69 = .ok (.iload 4, 2) := by decide +kernel
theorem dX3_contentsPass_71 : decode cX3_contentsPass 71 = .ok (.aload_n 0, 1) := by decide +kernel
theorem dX3_contentsPass_72 : decode cX3_contentsPass 72 = .ok (.getfield 15, 3) := by decide +kernel
theorem dX3_contentsPass_75 : decode cX3_contentsPass 75 = .ok (.iload 4, 2) := by decide +kernel
theorem dX3_contentsPass_77 : decode cX3_contentsPass 77 = .ok (.iaload, 1) := by decide +kernel
theorem dX3_contentsPass_78 : decode cX3_contentsPass 78 = .ok (.invokevirtual 81, 3) := by decide +kernel
theorem dX3_contentsPass_81 : decode cX3_contentsPass 81 = .ok (.ireturn, 1) := by decide +kernel
theorem dX3_contentsPass_82 : decode cX3_contentsPass 82 = .ok (.aload_n 0, 1) := by decide +kernel
theorem dX3_contentsPass_83 : decode cX3_contentsPass 83 = .ok (.aload_n 1, 1) := by decide +kernel
theorem dX3_contentsPass_84 : decode cX3_contentsPass 84 = .ok (.aload_n 0, 1) := by decide +kernel
theorem dX3_contentsPass_85 : decode cX3_contentsPass 85 = .ok (.getfield 15, 3) := by decide +kernel
theorem dX3_contentsPass_88 : decode cX3_contentsPass 88 = .ok (.iload 4, 2) := by decide +kernel
theorem dX3_contentsPass_90 : decode cX3_contentsPass 90 = .ok (.iaload, 1) := by decide +kernel
theorem dX3_contentsPass_91 : decode cX3_contentsPass 91 = .ok (.invokevirtual 137, 3) := by decide +kernel
theorem dX3_contentsPass_94 : decode cX3_contentsPass 94 = .ok (.ifCond .ne 18, 3) := by decide +kernel
theorem dX3_contentsPass_97 : decode cX3_contentsPass 97 = .ok (.aload_n 0, 1) := by decide +kernel
theorem dX3_contentsPass_98 : decode cX3_contentsPass 98 = .ok (.iconst 5, 1) := by decide +kernel
theorem dX3_contentsPass_99 : decode cX3_contentsPass 99 = .ok (.iload 4, 2) := by decide +kernel
theorem dX3_contentsPass_101 : decode cX3_contentsPass 101 = .ok (.aload_n 0, 1) := by decide +kernel
theorem dX3_contentsPass_102 : decode cX3_contentsPass 102 = .ok (.getfield 15, 3) := by decide +kernel
theorem dX3_contentsPass_105 : decode cX3_contentsPass 105 = .ok (.iload 4, 2) := by decide +kernel
theorem dX3_contentsPass_107 : decode cX3_contentsPass 107 = .ok (.iaload, 1) := by decide +kernel
theorem dX3_contentsPass_108 : decode cX3_contentsPass 108 = .ok (.invokevirtual 81, 3) := by decide +kernel
theorem dX3_contentsPass_111 : decode cX3_contentsPass 111 = .ok (.ireturn, 1) := by decide +kernel
theorem dX3_contentsPass_112 : decode cX3_contentsPass 112 = .ok (.aload_n 0, 1) := by decide +kernel
theorem dX3_contentsPass_113 : decode cX3_contentsPass 113 = .ok (.invokevirtual 140, 3) := by decide +kernel
theorem dX3_contentsPass_116 : decode cX3_contentsPass 116 = .ok (.ifCond .ne 19, 3) := by decide +kernel
theorem dX3_contentsPass_119 : decode cX3_contentsPass 119 = .ok (.aload_n 0, 1) := by decide +kernel
theorem dX3_contentsPass_120 : decode cX3_contentsPass 120 = .ok (.bipush 6, 2) := by decide +kernel
theorem dX3_contentsPass_122 : decode cX3_contentsPass 122 = .ok (.iload 4, 2) := by decide +kernel
theorem dX3_contentsPass_124 : decode cX3_contentsPass 124 = .ok (.aload_n 0, 1) := by decide +kernel
theorem dX3_contentsPass_125 : decode cX3_contentsPass 125 = .ok (.getfield 15, 3) := by decide +kernel
theorem dX3_contentsPass_128 : decode cX3_contentsPass 128 = .ok (.iload 4, 2) := by decide +kernel
theorem dX3_contentsPass_130 : decode cX3_contentsPass 130 = .ok (.iaload, 1) := by decide +kernel
theorem dX3_contentsPass_131 : decode cX3_contentsPass 131 = .ok (.invokevirtual 81, 3) := by decide +kernel
theorem dX3_contentsPass_134 : decode cX3_contentsPass 134 = .ok (.ireturn, 1) := by decide +kernel
theorem dX3_contentsPass_135 : decode cX3_contentsPass 135 = .ok (.iinc 4 1, 3) := by decide +kernel
theorem dX3_contentsPass_138 : decode cX3_contentsPass 138 = .ok (.goto (-133), 3) := by decide +kernel
theorem dX3_contentsPass_141 : decode cX3_contentsPass 141 = .ok (.iconst 1, 1) := by decide +kernel
theorem dX3_contentsPass_142 : decode cX3_contentsPass 142 = .ok (.ireturn, 1) := by decide +kernel
theorem dX3_unpack_0 : decode cX3_unpack 0 = .ok (.aload_n 0, 1) := by decide +kernel
theorem dX3_unpack_1 : decode cX3_unpack 1 = .ok (.getfield 30, 3) := by decide +kernel
theorem dX3_unpack_4 : decode cX3_unpack 4 = .ok (.iconst 0, 1) := by decide +kernel
theorem dX3_unpack_5 : decode cX3_unpack 5 = .ok (.invokevirtual 143, 3) := by decide +kernel
theorem dX3_unpack_8 : decode cX3_unpack 8 = .ok (.pop, 1) := by decide +kernel
theorem dX3_unpack_9 : decode cX3_unpack 9 = .ok (.aload_n 0, 1) := by decide +kernel
theorem dX3_unpack_10 : decode cX3_unpack 10 = .ok (.getfield 21, 3) := by decide +kernel
theorem dX3_unpack_13 : decode cX3_unpack 13 = .ok (.getfield 147, 3) := by decide +kernel
theorem dX3_unpack_16 : decode cX3_unpack 16 = .ok (.ifCond .ne 19, 3) := by decide +kernel
theorem dX3_unpack_19 : decode cX3_unpack 19 = .ok (.aload_n 0, 1) := by decide +kernel
theorem dX3_unpack_20 : decode cX3_unpack 20 = .ok (.getfield 30, 3) := by decide +kernel
theorem dX3_unpack_23 : decode cX3_unpack 23 = .ok (.aload_n 1, 1) := by decide +kernel
theorem dX3_unpack_24 : decode cX3_unpack 24 = .ok (.iload_n 2, 1) := by decide +kernel
theorem dX3_unpack_25 : decode cX3_unpack 25 = .ok (.aload_n 0, 1) := by decide +kernel
theorem dX3_unpack_26 : decode cX3_unpack 26 = .ok (.invokevirtual 126, 3) := by decide +kernel
theorem dX3_unpack_29 : decode cX3_unpack 29 = .ok (.invokevirtual 150, 3) := by decide +kernel
theorem dX3_unpack_32 : decode cX3_unpack 32 = .ok (.goto 21, 3) := by decide +kernel
theorem dX3_unpack_35 : decode cX3_unpack 35 = .ok (.aload_n 1, 1) := by decide +kernel
theorem dX3_unpack_36 : decode cX3_unpack 36 = .ok (.iload_n 2, 1) := by decide +kernel
theorem dX3_unpack_37 : decode cX3_unpack 37 = .ok (.aload_n 0, 1) := by decide +kernel
theorem dX3_unpack_38 : decode cX3_unpack 38 = .ok (.invokevirtual 126, 3) := by decide +kernel
theorem dX3_unpack_41 : decode cX3_unpack 41 = .ok (.aload_n 0, 1) := by decide +kernel
theorem dX3_unpack_42 : decode cX3_unpack 42 = .ok (.getfield 30, 3) := by decide +kernel
theorem dX3_unpack_45 : decode cX3_unpack 45 = .ok (.invokestatic 154, 3) := by decide +kernel
theorem dX3_unpack_48 : decode cX3_unpack 48 = .ok (.ifCond .ne 5, 3) := by decide +kernel
theorem dX3_unpack_51 : decode cX3_unpack 51 = .ok (.iconst 0, 1) := by decide +kernel
theorem dX3_unpack_52 : decode cX3_unpack 52 = .ok (.ireturn, 1) := by decide +kernel
theorem dX3_unpack_53 : decode cX3_unpack 53 = .ok (.aload_n 0, 1) := by decide +kernel
theorem dX3_unpack_54 : decode cX3_unpack 54 = .ok (.getfield 30, 3) := by decide +kernel
theorem dX3_unpack_57 : decode cX3_unpack 57 = .ok (.invokevirtual 64, 3) := by decide +kernel
theorem dX3_unpack_60 : decode cX3_unpack 60 = .ok (.i2l, 1) := by decide +kernel
theorem dX3_unpack_61 : decode cX3_unpack 61 = .ok (.aload_n 0, 1) := by decide +kernel
theorem dX3_unpack_62 : decode cX3_unpack 62 = .ok (.getfield 21, 3) := by decide +kernel
theorem dX3_unpack_65 : decode cX3_unpack 65 = .ok (.getfield 129, 3) := by decide +kernel
theorem dX3_unpack_68 : decode cX3_unpack 68 = .ok (.lcmp, 1) := by decide +kernel
theorem dX3_unpack_69 : decode cX3_unpack 69 = .ok (.ifCond .ne 7, 3) := by decide +kernel
theorem dX3_unpack_72 : decode cX3_unpack 72 = .ok (.iconst 1, 1) := by decide +kernel
theorem dX3_unpack_73 : decode cX3_unpack 73 = .ok (.goto 4, 3) := by decide +kernel
theorem dX3_unpack_76 : decode cX3_unpack 76 = .ok (.iconst 0, 1) := by decide +kernel
theorem dX3_unpack_77 : decode cX3_unpack 77 = .ok (.ireturn, 1) := by decide +kernel
theorem dX3_crcAgrees_0 : decode cX3_crcAgrees 0 = .ok (.aload_n 0, 1) := by decide +kernel
theorem dX3_crcAgrees_1 : decode cX3_crcAgrees 1 = .ok (.getfield 30, 3) := by decide +kernel
theorem dX3_crcAgrees_4 : decode cX3_crcAgrees 4 = .ok (.iconst 0, 1) := by decide +kernel
theorem dX3_crcAgrees_5 : decode cX3_crcAgrees 5 = .ok (.aload_n 0, 1) := by decide +kernel
theorem dX3_crcAgrees_6 : decode cX3_crcAgrees 6 = .ok (.getfield 30, 3) := by decide +kernel
theorem dX3_crcAgrees_9 : decode cX3_crcAgrees 9 = .ok (.invokevirtual 64, 3) := by decide +kernel
theorem dX3_crcAgrees_12 : decode cX3_crcAgrees 12 = .ok (.invokestatic 160, 3) := by decide +kernel
theorem dX3_crcAgrees_15 : decode cX3_crcAgrees 15 = .ok (.aload_n 0, 1) := by decide +kernel
theorem dX3_crcAgrees_16 : decode cX3_crcAgrees 16 = .ok (.getfield 21, 3) := by decide +kernel
theorem dX3_crcAgrees_19 : decode cX3_crcAgrees 19 = .ok (.getfield 164, 3) := by decide +kernel
theorem dX3_crcAgrees_22 : decode cX3_crcAgrees 22 = .ok (.if_icmp .ne 7, 3) := by decide +kernel
theorem dX3_crcAgrees_25 : decode cX3_crcAgrees 25 = .ok (.iconst 1, 1) := by decide +kernel
theorem dX3_crcAgrees_26 : decode cX3_crcAgrees 26 = .ok (.goto 4, 3) := by decide +kernel
theorem dX3_crcAgrees_29 : decode cX3_crcAgrees 29 = .ok (.iconst 0, 1) := by decide +kernel
theorem dX3_crcAgrees_30 : decode cX3_crcAgrees 30 = .ok (.ireturn, 1) := by decide +kernel
theorem dX3_load_0 : decode cX3_load 0 = .ok (.iconst 0, 1) := by decide +kernel
theorem dX3_load_1 : decode cX3_load 1 = .ok (.istore_n 3, 1) := by decide +kernel
theorem dX3_load_2 : decode cX3_load 2 = .ok (.iload_n 3, 1) := by decide +kernel
theorem dX3_load_3 : decode cX3_load 3 = .ok (.aload_n 0, 1) := by decide +kernel
theorem dX3_load_4 : decode cX3_load 4 = .ok (.getfield 100, 3) := by decide +kernel
theorem dX3_load_7 : decode cX3_load 7 = .ok (.if_icmp .ge 80, 3) := by decide +kernel
theorem dX3_load_10 : decode cX3_load 10 = .ok (.aload_n 0, 1) := by decide +kernel
theorem dX3_load_11 : decode cX3_load 11 = .ok (.getfield 9, 3) := by decide +kernel
theorem dX3_load_14 : decode cX3_load 14 = .ok (.iload_n 3, 1) := by decide +kernel
theorem dX3_load_15 : decode cX3_load 15 = .ok (.iaload, 1) := by decide +kernel
theorem dX3_load_16 : decode cX3_load 16 = .ok (.istore 4, 2) := by decide +kernel
theorem dX3_load_18 : decode cX3_load 18 = .ok (.aload_n 0, 1) := by decide +kernel
theorem dX3_load_19 : decode cX3_load 19 = .ok (.getfield 21, 3) := by decide +kernel
theorem dX3_load_22 : decode cX3_load 22 = .ok (.aload_n 1, 1) := by decide +kernel
theorem dX3_load_23 : decode cX3_load 23 = .ok (.iload 4, 2) := by decide +kernel
theorem dX3_load_25 : decode cX3_load 25 = .ok (.bipush 6, 2) := by decide +kernel
theorem dX3_load_27 : decode cX3_load 27 = .ok (.iadd, 1) := by decide +kernel
theorem dX3_load_28 : decode cX3_load 28 = .ok (.invokevirtual 110, 3) := by decide +kernel
theorem dX3_load_31 : decode cX3_load 31 = .ok (.ifCond .eq 50, 3) := by decide +kernel
theorem dX3_load_34 : decode cX3_load 34 = .ok (.aload_n 0, 1) := by decide +kernel
theorem dX3_load_35 : decode cX3_load 35 = .ok (.aload_n 1, 1) := by decide +kernel
theorem dX3_load_36 : decode cX3_load 36 = .ok (.aload_n 0, 1) := by decide +kernel
theorem dX3_load_37 : decode cX3_load 37 = .ok (.getfield 15, 3) := by decide +kernel
theorem dX3_load_40 : decode cX3_load 40 = .ok (.iload_n 3, 1) := by decide +kernel
theorem dX3_load_41 : decode cX3_load 41 = .ok (.iaload, 1) := by decide +kernel
theorem dX3_load_42 : decode cX3_load 42 = .ok (.invokevirtual 137, 3) := by decide +kernel
theorem dX3_load_45 : decode cX3_load 45 = .ok (.ifCond .eq 36, 3) := by decide +kernel
theorem dX3_load_48 : decode cX3_load 48 = .ok (.iload 4, 2) := by decide +kernel
theorem dX3_load_50 : decode cX3_load 50 = .ok (.bipush 46, 2) := by decide +kernel
theorem dX3_load_52 : decode cX3_load 52 = .ok (.iadd, 1) := by decide +kernel
theorem dX3_load_53 : decode cX3_load 53 = .ok (.istore 5, 2) := by decide +kernel
theorem dX3_load_55 : decode cX3_load 55 = .ok (.aload_n 2, 1) := by decide +kernel
theorem dX3_load_56 : decode cX3_load 56 = .ok (.aload_n 1, 1) := by decide +kernel
theorem dX3_load_57 : decode cX3_load 57 = .ok (.iload 5, 2) := by decide +kernel
theorem dX3_load_59 : decode cX3_load 59 = .ok (.aload_n 0, 1) := by decide +kernel
theorem dX3_load_60 : decode cX3_load 60 = .ok (.getfield 21, 3) := by decide +kernel
theorem dX3_load_63 : decode cX3_load 63 = .ok (.getfield 44, 3) := by decide +kernel
theorem dX3_load_66 : decode cX3_load 66 = .ok (.aload_n 0, 1) := by decide +kernel
theorem dX3_load_67 : decode cX3_load 67 = .ok (.getfield 30, 3) := by decide +kernel
theorem dX3_load_70 : decode cX3_load 70 = .ok (.iconst 0, 1) := by decide +kernel
theorem dX3_load_71 : decode cX3_load 71 = .ok (.aload_n 0, 1) := by decide +kernel
theorem dX3_load_72 : decode cX3_load 72 = .ok (.getfield 30, 3) := by decide +kernel
theorem dX3_load_75 : decode cX3_load 75 = .ok (.invokevirtual 64, 3) := by decide +kernel
theorem dX3_load_78 : decode cX3_load 78 = .ok (.invokevirtual 166, 3) := by decide +kernel
theorem dX3_load_81 : decode cX3_load 81 = .ok (.iinc 3 1, 3) := by decide +kernel
theorem dX3_load_84 : decode cX3_load 84 = .ok (.goto (-82), 3) := by decide +kernel
theorem dX3_load_87 : decode cX3_load 87 = .ok (.return_, 1) := by decide +kernel
theorem dX3_wholeAt_0 : decode cX3_wholeAt 0 = .ok (.aload_n 1, 1) := by decide +kernel
theorem dX3_wholeAt_1 : decode cX3_wholeAt 1 = .ok (.iload_n 2, 1) := by decide +kernel
theorem dX3_wholeAt_2 : decode cX3_wholeAt 2 = .ok (.iconst 3, 1) := by decide +kernel
theorem dX3_wholeAt_3 : decode cX3_wholeAt 3 = .ok (.iconst 4, 1) := by decide +kernel
theorem dX3_wholeAt_4 : decode cX3_wholeAt 4 = .ok (.invokevirtual 89, 3) := by decide +kernel
theorem dX3_wholeAt_7 : decode cX3_wholeAt 7 = .ok (.ifCond .eq 17, 3) := by decide +kernel
theorem dX3_wholeAt_10 : decode cX3_wholeAt 10 = .ok (.aload_n 0, 1) := by decide +kernel
theorem dX3_wholeAt_11 : decode cX3_wholeAt 11 = .ok (.getfield 21, 3) := by decide +kernel
theorem dX3_wholeAt_14 : decode cX3_wholeAt 14 = .ok (.aload_n 1, 1) := by decide +kernel
theorem dX3_wholeAt_15 : decode cX3_wholeAt 15 = .ok (.iload_n 2, 1) := by decide +kernel
theorem dX3_wholeAt_16 : decode cX3_wholeAt 16 = .ok (.iconst 4, 1) := by decide +kernel
theorem dX3_wholeAt_17 : decode cX3_wholeAt 17 = .ok (.iadd, 1) := by decide +kernel
theorem dX3_wholeAt_18 : decode cX3_wholeAt 18 = .ok (.invokevirtual 110, 3) := by decide +kernel
theorem dX3_wholeAt_21 : decode cX3_wholeAt 21 = .ok (.ifCond .ne 5, 3) := by decide +kernel
theorem dX3_wholeAt_24 : decode cX3_wholeAt 24 = .ok (.iconst 0, 1) := by decide +kernel
theorem dX3_wholeAt_25 : decode cX3_wholeAt 25 = .ok (.ireturn, 1) := by decide +kernel
theorem dX3_wholeAt_26 : decode cX3_wholeAt 26 = .ok (.iload_n 2, 1) := by decide +kernel
theorem dX3_wholeAt_27 : decode cX3_wholeAt 27 = .ok (.bipush 30, 2) := by decide +kernel
theorem dX3_wholeAt_29 : decode cX3_wholeAt 29 = .ok (.iadd, 1) := by decide +kernel
theorem dX3_wholeAt_30 : decode cX3_wholeAt 30 = .ok (.istore_n 3, 1) := by decide +kernel
theorem dX3_wholeAt_31 : decode cX3_wholeAt 31 = .ok (.iload_n 3, 1) := by decide +kernel
theorem dX3_wholeAt_32 : decode cX3_wholeAt 32 = .ok (.aload_n 0, 1) := by decide +kernel
theorem dX3_wholeAt_33 : decode cX3_wholeAt 33 = .ok (.getfield 21, 3) := by decide +kernel
theorem dX3_wholeAt_36 : decode cX3_wholeAt 36 = .ok (.getfield 44, 3) := by decide +kernel
theorem dX3_wholeAt_39 : decode cX3_wholeAt 39 = .ok (.iadd, 1) := by decide +kernel
theorem dX3_wholeAt_40 : decode cX3_wholeAt 40 = .ok (.istore 4, 2) := by decide +kernel
theorem dX3_wholeAt_42 : decode cX3_wholeAt 42 = .ok (.aload_n 1, 1) := by decide +kernel
theorem dX3_wholeAt_43 : decode cX3_wholeAt 43 = .ok (.iload_n 3, 1) := by decide +kernel
theorem dX3_wholeAt_44 : decode cX3_wholeAt 44 = .ok (.aload_n 0, 1) := by decide +kernel
theorem dX3_wholeAt_45 : decode cX3_wholeAt 45 = .ok (.getfield 21, 3) := by decide +kernel
theorem dX3_wholeAt_48 : decode cX3_wholeAt 48 = .ok (.getfield 44, 3) := by decide +kernel
theorem dX3_wholeAt_51 : decode cX3_wholeAt 51 = .ok (.invokevirtual 113, 3) := by decide +kernel
theorem dX3_wholeAt_54 : decode cX3_wholeAt 54 = .ok (.ifCond .eq 53, 3) := by decide +kernel
theorem dX3_wholeAt_57 : decode cX3_wholeAt 57 = .ok (.aload_n 0, 1) := by decide +kernel
theorem dX3_wholeAt_58 : decode cX3_wholeAt 58 = .ok (.getfield 21, 3) := by decide +kernel
theorem dX3_wholeAt_61 : decode cX3_wholeAt 61 = .ok (.getfield 47, 3) := by decide +kernel
theorem dX3_wholeAt_64 : decode cX3_wholeAt 64 = .ok (.aload_n 1, 1) := by decide +kernel
theorem dX3_wholeAt_65 : decode cX3_wholeAt 65 = .ok (.invokevirtual 64, 3) := by decide +kernel
theorem dX3_wholeAt_68 : decode cX3_wholeAt 68 = .ok (.iload 4, 2) := by decide +kernel
theorem dX3_wholeAt_70 : decode cX3_wholeAt 70 = .ok (.isub, 1) := by decide +kernel
theorem dX3_wholeAt_71 : decode cX3_wholeAt 71 = .ok (.i2l, 1) := by decide +kernel
theorem dX3_wholeAt_72 : decode cX3_wholeAt 72 = .ok (.lcmp, 1) := by decide +kernel
theorem dX3_wholeAt_73 : decode cX3_wholeAt 73 = .ok (.ifCond .gt 34, 3) := by decide +kernel
theorem dX3_wholeAt_76 : decode cX3_wholeAt 76 = .ok (.aload_n 0, 1) := by decide +kernel
theorem dX3_wholeAt_77 : decode cX3_wholeAt 77 = .ok (.getfield 21, 3) := by decide +kernel
theorem dX3_wholeAt_80 : decode cX3_wholeAt 80 = .ok (.invokevirtual 131, 3) := by decide +kernel
theorem dX3_wholeAt_83 : decode cX3_wholeAt 83 = .ok (.ifCond .eq 24, 3) := by decide +kernel
theorem dX3_wholeAt_86 : decode cX3_wholeAt 86 = .ok (.aload_n 0, 1) := by decide +kernel
theorem dX3_wholeAt_87 : decode cX3_wholeAt 87 = .ok (.aload_n 1, 1) := by decide +kernel
theorem dX3_wholeAt_88 : decode cX3_wholeAt 88 = .ok (.iload 4, 2) := by decide +kernel
theorem dX3_wholeAt_90 : decode cX3_wholeAt 90 = .ok (.invokevirtual 137, 3) := by decide +kernel
theorem dX3_wholeAt_93 : decode cX3_wholeAt 93 = .ok (.ifCond .eq 14, 3) := by decide +kernel
theorem dX3_wholeAt_96 : decode cX3_wholeAt 96 = .ok (.aload_n 0, 1) := by decide +kernel
theorem dX3_wholeAt_97 : decode cX3_wholeAt 97 = .ok (.invokevirtual 140, 3) := by decide +kernel
theorem dX3_wholeAt_100 : decode cX3_wholeAt 100 = .ok (.ifCond .eq 7, 3) := by decide +kernel
theorem dX3_wholeAt_103 : decode cX3_wholeAt 103 = .ok (.iconst 1, 1) := by decide +kernel
theorem dX3_wholeAt_104 : decode cX3_wholeAt 104 = .ok (.goto 4, 3) := by decide +kernel
theorem dX3_wholeAt_107 : decode cX3_wholeAt 107 = .ok (.iconst 0, 1) := by decide +kernel
theorem dX3_wholeAt_108 : decode cX3_wholeAt 108 = .ok (.ireturn, 1) := by decide +kernel
theorem dX4_init_0 : decode cX4_init 0 = .ok (.aload_n 0, 1) := by decide +kernel
theorem dX4_init_1 : decode cX4_init 1 = .ok (.invokespecial 3, 3) := by decide +kernel
theorem dX4_init_4 : decode cX4_init 4 = .ok (.aload_n 0, 1) := by decide +kernel
theorem dX4_init_5 : decode cX4_init 5 = .ok (.iconst 0, 1) := by decide +kernel
theorem dX4_init_6 : decode cX4_init 6 = .ok (.iload_n 1, 1) := by decide +kernel
theorem dX4_init_7 : decode cX4_init 7 = .ok (.invokestatic 9, 3) := by decide +kernel
theorem dX4_init_10 : decode cX4_init 10 = .ok (.newarray .int, 2) := by decide +kernel
theorem dX4_init_12 : decode cX4_init 12 = .ok (.putfield 15, 3) := by decide +kernel
theorem dX4_init_15 : decode cX4_init 15 = .ok (.return_, 1) := by decide +kernel
theorem dX4_size_0 : decode cX4_size 0 = .ok (.aload_n 0, 1) := by decide +kernel
theorem dX4_size_1 : decode cX4_size 1 = .ok (.getfield 21, 3) := by decide +kernel
theorem dX4_size_4 : decode cX4_size 4 = .ok (.ireturn, 1) := by decide +kernel
theorem dX4_room_0 : decode cX4_room 0 = .ok (.aload_n 0, 1) := by decide +kernel
theorem dX4_room_1 : decode cX4_room 1 = .ok (.getfield 15, 3) := by decide +kernel
theorem dX4_room_4 : decode cX4_room 4 = .ok (.arraylength, 1) := by decide +kernel
theorem dX4_room_5 : decode cX4_room 5 = .ok (.aload_n 0, 1) := by decide +kernel
theorem dX4_room_6 : decode cX4_room 6 = .ok (.getfield 21, 3) := by decide +kernel
theorem dX4_room_9 : decode cX4_room 9 = .ok (.isub, 1) := by decide +kernel
theorem dX4_room_10 : decode cX4_room 10 = .ok (.ireturn, 1) := by decide +kernel
theorem dX4_holds_0 : decode cX4_holds 0 = .ok (.iload_n 1, 1) := by decide +kernel
theorem dX4_holds_1 : decode cX4_holds 1 = .ok (.ifCond .lt 29, 3) := by decide +kernel
theorem dX4_holds_4 : decode cX4_holds 4 = .ok (.iload_n 2, 1) := by decide +kernel
theorem dX4_holds_5 : decode cX4_holds 5 = .ok (.ifCond .lt 25, 3) := by decide +kernel
theorem dX4_holds_8 : decode cX4_holds 8 = .ok (.iload_n 2, 1) := by decide +kernel
theorem dX4_holds_9 : decode cX4_holds 9 = .ok (.aload_n 0, 1) := by decide +kernel
theorem dX4_holds_10 : decode cX4_holds 10 = .ok (.getfield 21, 3) := by decide +kernel
theorem dX4_holds_13 : decode cX4_holds 13 = .ok (.if_icmp .gt 17, 3) := by decide +kernel
theorem dX4_holds_16 : decode cX4_holds 16 = .ok (.iload_n 1, 1) := by decide +kernel
theorem dX4_holds_17 : decode cX4_holds 17 = .ok (.aload_n 0, 1) := by decide +kernel
theorem dX4_holds_18 : decode cX4_holds 18 = .ok (.getfield 21, 3) := by decide +kernel
theorem dX4_holds_21 : decode cX4_holds 21 = .ok (.iload_n 2, 1) := by decide +kernel
theorem dX4_holds_22 : decode cX4_holds 22 = .ok (.isub, 1) := by decide +kernel
theorem dX4_holds_23 : decode cX4_holds 23 = .ok (.if_icmp .gt 7, 3) := by decide +kernel
theorem dX4_holds_26 : decode cX4_holds 26 = .ok (.iconst 1, 1) := by decide +kernel
theorem dX4_holds_27 : decode cX4_holds 27 = .ok (.goto 4, 3) := by decide +kernel
theorem dX4_holds_30 : decode cX4_holds 30 = .ok (.iconst 0, 1) := by decide +kernel
theorem dX4_holds_31 : decode cX4_holds 31 = .ok (.ireturn, 1) := by decide +kernel
theorem dX4_at_0 : decode cX4_at 0 = .ok (.iload_n 1, 1) := by decide +kernel
theorem dX4_at_1 : decode cX4_at 1 = .ok (.ifCond .lt 20, 3) := by decide +kernel
theorem dX4_at_4 : decode cX4_at 4 = .ok (.iload_n 1, 1) := by decide +kernel
theorem dX4_at_5 : decode cX4_at 5 = .ok (.aload_n 0, 1) := by decide +kernel
theorem dX4_at_6 : decode cX4_at 6 = .ok (.getfield 21, 3) := by decide +kernel
theorem dX4_at_9 : decode cX4_at 9 = .ok (.if_icmp .ge 12, 3) := by decide +kernel
theorem dX4_at_12 : decode cX4_at 12 = .ok (.aload_n 0, 1) := by decide +kernel
theorem dX4_at_13 : decode cX4_at 13 = .ok (.getfield 15, 3) := by decide +kernel
theorem dX4_at_16 : decode cX4_at 16 = .ok (.iload_n 1, 1) := by decide +kernel
theorem dX4_at_17 : decode cX4_at 17 = .ok (.iaload, 1) := by decide +kernel
theorem dX4_at_18 : decode cX4_at 18 = .ok (.goto 4, 3) := by decide +kernel
theorem dX4_at_21 : decode cX4_at 21 = .ok (.iconst (-1), 1) := by decide +kernel
theorem dX4_at_22 : decode cX4_at 22 = .ok (.ireturn, 1) := by decide +kernel
theorem dX4_two_0 : decode cX4_two 0 = .ok (.aload_n 0, 1) := by decide +kernel
theorem dX4_two_1 : decode cX4_two 1 = .ok (.iload_n 1, 1) := by decide +kernel
theorem dX4_two_2 : decode cX4_two 2 = .ok (.iconst 2, 1) := by decide +kernel
theorem dX4_two_3 : decode cX4_two 3 = .ok (.invokevirtual 25, 3) := by decide +kernel
theorem dX4_two_6 : decode cX4_two 6 = .ok (.ifCond .eq 24, 3) := by decide +kernel
theorem dX4_two_9 : decode cX4_two 9 = .ok (.aload_n 0, 1) := by decide +kernel
theorem dX4_two_10 : decode cX4_two 10 = .ok (.getfield 15, 3) := by decide +kernel
theorem dX4_two_13 : decode cX4_two 13 = .ok (.iload_n 1, 1) := by decide +kernel
theorem dX4_two_14 : decode cX4_two 14 = .ok (.iaload, 1) := by decide +kernel
theorem dX4_two_15 : decode cX4_two 15 = .ok (.aload_n 0, 1) := by decide +kernel
theorem dX4_two_16 : decode cX4_two 16 = .ok (.getfield 15, 3) := by decide +kernel
theorem dX4_two_19 : decode cX4_two 19 = .ok (.iload_n 1, 1) := by decide +kernel
theorem dX4_two_20 : decode cX4_two 20 = .ok (.iconst 1, 1) := by decide +kernel
theorem dX4_two_21 : decode cX4_two 21 = .ok (.iadd, 1) := by decide +kernel
theorem dX4_two_22 : decode cX4_two 22 = .ok (.iaload, 1) := by decide +kernel
theorem dX4_two_23 : decode cX4_two 23 = .ok (.bipush 8, 2) := by decide +kernel
theorem dX4_two_25 : decode cX4_two 25 = .ok (.ishl, 1) := by decide +kernel
theorem dX4_two_26 : decode cX4_two 26 = .ok (.ior, 1) := by decide +kernel
theorem dX4_two_27 : decode cX4_two 27 = .ok (.goto 4, 3) := by decide +kernel
theorem dX4_two_30 : decode cX4_two 30 = .ok (.iconst (-1), 1) := by decide +kernel
theorem dX4_two_31 : decode cX4_two 31 = .ok (.ireturn, 1) := by decide +kernel
theorem dX4_four_0 : decode cX4_four 0 = .ok (.aload_n 0, 1) := by decide +kernel
theorem dX4_four_1 : decode cX4_four 1 = .ok (.iload_n 1, 1) := by decide +kernel
theorem dX4_four_2 : decode cX4_four 2 = .ok (.iconst 4, 1) := by decide +kernel
theorem dX4_four_3 : decode cX4_four 3 = .ok (.invokevirtual 25, 3) := by decide +kernel
theorem dX4_four_6 : decode cX4_four 6 = .ok (.ifCond .ne 7, 3) := by decide +kernel
theorem dX4_four_9 : decode cX4_four 9 = .ok (.ldc2_w 29, 3) := by decide +kernel
theorem dX4_four_12 : decode cX4_four 12 = .ok (.lreturn, 1) := by decide +kernel
theorem dX4_four_13 : decode cX4_four 13 = .ok (.aload_n 0, 1) := by decide +kernel
theorem dX4_four_14 : decode cX4_four 14 = .ok (.getfield 15, 3) := by decide +kernel
theorem dX4_four_17 : decode cX4_four 17 = .ok (.iload_n 1, 1) := by decide +kernel
theorem dX4_four_18 : decode cX4_four 18 = .ok (.iconst 2, 1) := by decide +kernel
theorem dX4_four_19 : decode cX4_four 19 = .ok (.iadd, 1) := by decide +kernel
theorem dX4_four_20 : decode cX4_four 20 = .ok (.iaload, 1) := by decide +kernel
theorem dX4_four_21 : decode cX4_four 21 = .ok (.aload_n 0, 1) := by decide +kernel
theorem dX4_four_22 : decode cX4_four 22 = .ok (.getfield 15, 3) := by decide +kernel
theorem dX4_four_25 : decode cX4_four 25 = .ok (.iload_n 1, 1) := by decide +kernel
theorem dX4_four_26 : decode cX4_four 26 = .ok (.iconst 3, 1) := by decide +kernel
theorem dX4_four_27 : decode cX4_four 27 = .ok (.iadd, 1) := by decide +kernel
theorem dX4_four_28 : decode cX4_four 28 = .ok (.iaload, 1) := by decide +kernel
theorem dX4_four_29 : decode cX4_four 29 = .ok (.bipush 8, 2) := by decide +kernel
theorem dX4_four_31 : decode cX4_four 31 = .ok (.ishl, 1) := by decide +kernel
theorem dX4_four_32 : decode cX4_four 32 = .ok (.ior, 1) := by decide +kernel
theorem dX4_four_33 : decode cX4_four 33 = .ok (.i2l, 1) := by decide +kernel
theorem dX4_four_34 : decode cX4_four 34 = .ok (.lstore_n 2, 1) := by decide +kernel
theorem dX4_four_35 : decode cX4_four 35 = .ok (.lload_n 2, 1) := by decide +kernel
theorem dX4_four_36 : decode cX4_four 36 = .ok (.bipush 16, 2) := by decide +kernel
theorem dX4_four_38 : decode cX4_four 38 = .ok (.lshl, 1) := by decide +kernel
theorem dX4_four_39 : decode cX4_four 39 = .ok (.aload_n 0, 1) := by decide +kernel
theorem dX4_four_40 : decode cX4_four 40 = .ok (.getfield 15, 3) := by decide +kernel
theorem dX4_four_43 : decode cX4_four 43 = .ok (.iload_n 1, 1) := by decide +kernel
theorem dX4_four_44 : decode cX4_four 44 = .ok (.iaload, 1) := by decide +kernel
theorem dX4_four_45 : decode cX4_four 45 = .ok (.i2l, 1) := by decide +kernel
theorem dX4_four_46 : decode cX4_four 46 = .ok (.lor, 1) := by decide +kernel
theorem dX4_four_47 : decode cX4_four 47 = .ok (.aload_n 0, 1) := by decide +kernel
theorem dX4_four_48 : decode cX4_four 48 = .ok (.getfield 15, 3) := by decide +kernel
theorem dX4_four_51 : decode cX4_four 51 = .ok (.iload_n 1, 1) := by decide +kernel
theorem dX4_four_52 : decode cX4_four 52 = .ok (.iconst 1, 1) := by decide +kernel
theorem dX4_four_53 : decode cX4_four 53 = .ok (.iadd, 1) := by decide +kernel
theorem dX4_four_54 : decode cX4_four 54 = .ok (.iaload, 1) := by decide +kernel
theorem dX4_four_55 : decode cX4_four 55 = .ok (.bipush 8, 2) := by decide +kernel
theorem dX4_four_57 : decode cX4_four 57 = .ok (.ishl, 1) := by decide +kernel
theorem dX4_four_58 : decode cX4_four 58 = .ok (.i2l, 1) := by decide +kernel
theorem dX4_four_59 : decode cX4_four 59 = .ok (.lor, 1) := by decide +kernel
theorem dX4_four_60 : decode cX4_four 60 = .ok (.lreturn, 1) := by decide +kernel
theorem dX4_push_0 : decode cX4_push 0 = .ok (.aload_n 0, 1) := by decide +kernel
theorem dX4_push_1 : decode cX4_push 1 = .ok (.getfield 21, 3) := by decide +kernel
theorem dX4_push_4 : decode cX4_push 4 = .ok (.aload_n 0, 1) := by decide +kernel
theorem dX4_push_5 : decode cX4_push 5 = .ok (.getfield 15, 3) := by decide +kernel
theorem dX4_push_8 : decode cX4_push 8 = .ok (.arraylength, 1) := by decide +kernel
theorem dX4_push_9 : decode cX4_push 9 = .ok (.if_icmp .ge 27, 3) := by decide +kernel
theorem dX4_push_12 : decode cX4_push 12 = .ok (.aload_n 0, 1) := by decide +kernel
theorem dX4_push_13 : decode cX4_push 13 = .ok (.getfield 15, 3) := by decide +kernel
theorem dX4_push_16 : decode cX4_push 16 = .ok (.aload_n 0, 1) := by decide +kernel
theorem dX4_push_17 : decode cX4_push 17 = .ok (.getfield 21, 3) := by decide +kernel
theorem dX4_push_20 : decode cX4_push 20 = .ok (.iload_n 1, 1) := by decide +kernel
theorem dX4_push_21 : decode cX4_push 21 = .ok (.sipush 255, 3) := by decide +kernel
theorem dX4_push_24 : decode cX4_push 24 = .ok (.iand, 1) := by decide +kernel
theorem dX4_push_25 : decode cX4_push 25 = .ok (.iastore, 1) := by decide +kernel
theorem dX4_push_26 : decode cX4_push 26 = .ok (.aload_n 0, 1) := by decide +kernel
theorem dX4_push_27 : decode cX4_push 27 = .ok (.dup, 1) := by decide +kernel
theorem dX4_push_28 : decode cX4_push 28 = .ok (.getfield 21, 3) := by decide +kernel
theorem dX4_push_31 : decode cX4_push 31 = .ok (.iconst 1, 1) := by decide +kernel
theorem dX4_push_32 : decode cX4_push 32 = .ok (.iadd, 1) := by decide +kernel
theorem dX4_push_33 : decode cX4_push 33 = .ok (.putfield 21, 3) := by decide +kernel
theorem dX4_push_36 : decode cX4_push 36 = .ok (.return_, 1) := by decide +kernel
theorem dX4_pushTwo_0 : decode cX4_pushTwo 0 = .ok (.aload_n 0, 1) := by decide +kernel
theorem dX4_pushTwo_1 : decode cX4_pushTwo 1 = .ok (.iload_n 1, 1) := by decide +kernel
theorem dX4_pushTwo_2 : decode cX4_pushTwo 2 = .ok (.invokevirtual 31, 3) := by decide +kernel
theorem dX4_pushTwo_5 : decode cX4_pushTwo 5 = .ok (.aload_n 0, 1) := by decide +kernel
theorem dX4_pushTwo_6 : decode cX4_pushTwo 6 = .ok (.iload_n 1, 1) := by decide +kernel
theorem dX4_pushTwo_7 : decode cX4_pushTwo 7 = .ok (.bipush 8, 2) := by decide +kernel
theorem dX4_pushTwo_9 : decode cX4_pushTwo 9 = .ok (.iushr, 1) := by decide +kernel
theorem dX4_pushTwo_10 : decode cX4_pushTwo 10 = .ok (.invokevirtual 31, 3) := by decide +kernel
theorem dX4_pushTwo_13 : decode cX4_pushTwo 13 = .ok (.return_, 1) := by decide +kernel
theorem dX4_pushFour_0 : decode cX4_pushFour 0 = .ok (.aload_n 0, 1) := by decide +kernel
theorem dX4_pushFour_1 : decode cX4_pushFour 1 = .ok (.iload_n 1, 1) := by decide +kernel
theorem dX4_pushFour_2 : decode cX4_pushFour 2 = .ok (.invokevirtual 35, 3) := by decide +kernel
theorem dX4_pushFour_5 : decode cX4_pushFour 5 = .ok (.aload_n 0, 1) := by decide +kernel
theorem dX4_pushFour_6 : decode cX4_pushFour 6 = .ok (.iload_n 1, 1) := by decide +kernel
theorem dX4_pushFour_7 : decode cX4_pushFour 7 = .ok (.bipush 16, 2) := by decide +kernel
theorem dX4_pushFour_9 : decode cX4_pushFour 9 = .ok (.iushr, 1) := by decide +kernel
theorem dX4_pushFour_10 : decode cX4_pushFour 10 = .ok (.invokevirtual 35, 3) := by decide +kernel
theorem dX4_pushFour_13 : decode cX4_pushFour 13 = .ok (.return_, 1) := by decide +kernel
theorem dX4_pushHighFirst_0 : decode cX4_pushHighFirst 0 = .ok (.aload_n 0, 1) := by decide +kernel
theorem dX4_pushHighFirst_1 : decode cX4_pushHighFirst 1 = .ok (.iload_n 1, 1) := by decide +kernel
theorem dX4_pushHighFirst_2 : decode cX4_pushHighFirst 2 = .ok (.bipush 24, 2) := by decide +kernel
theorem dX4_pushHighFirst_4 : decode cX4_pushHighFirst 4 = .ok (.iushr, 1) := by decide +kernel
theorem dX4_pushHighFirst_5 : decode cX4_pushHighFirst 5 = .ok (.invokevirtual 31, 3) := by decide +kernel
theorem dX4_pushHighFirst_8 : decode cX4_pushHighFirst 8 = .ok (.aload_n 0, 1) := by decide +kernel
theorem dX4_pushHighFirst_9 : decode cX4_pushHighFirst 9 = .ok (.iload_n 1, 1) := by decide +kernel
theorem dX4_pushHighFirst_10 : decode cX4_pushHighFirst 10 = .ok (.bipush 16, 2) := by decide +kernel
theorem dX4_pushHighFirst_12 : decode cX4_pushHighFirst 12 = .ok (.iushr, 1) := by decide +kernel
theorem dX4_pushHighFirst_13 : decode cX4_pushHighFirst 13 = .ok (.invokevirtual 31, 3) := by decide +kernel
theorem dX4_pushHighFirst_16 : decode cX4_pushHighFirst 16 = .ok (.aload_n 0, 1) := by decide +kernel
theorem dX4_pushHighFirst_17 : decode cX4_pushHighFirst 17 = .ok (.iload_n 1, 1) := by decide +kernel
theorem dX4_pushHighFirst_18 : decode cX4_pushHighFirst 18 = .ok (.bipush 8, 2) := by decide +kernel
theorem dX4_pushHighFirst_20 : decode cX4_pushHighFirst 20 = .ok (.iushr, 1) := by decide +kernel
theorem dX4_pushHighFirst_21 : decode cX4_pushHighFirst 21 = .ok (.invokevirtual 31, 3) := by decide +kernel
theorem dX4_pushHighFirst_24 : decode cX4_pushHighFirst 24 = .ok (.aload_n 0, 1) := by decide +kernel
theorem dX4_pushHighFirst_25 : decode cX4_pushHighFirst 25 = .ok (.iload_n 1, 1) := by decide +kernel
theorem dX4_pushHighFirst_26 : decode cX4_pushHighFirst 26 = .ok (.invokevirtual 31, 3) := by decide +kernel
theorem dX4_pushHighFirst_29 : decode cX4_pushHighFirst 29 = .ok (.return_, 1) := by decide +kernel
theorem dX4_pushSignature_0 : decode cX4_pushSignature 0 = .ok (.aload_n 0, 1) := by decide +kernel
theorem dX4_pushSignature_1 : decode cX4_pushSignature 1 = .ok (.bipush 80, 2) := by decide +kernel
theorem dX4_pushSignature_3 : decode cX4_pushSignature 3 = .ok (.invokevirtual 31, 3) := by decide +kernel
theorem dX4_pushSignature_6 : decode cX4_pushSignature 6 = .ok (.aload_n 0, 1) := by decide +kernel
theorem dX4_pushSignature_7 : decode cX4_pushSignature 7 = .ok (.bipush 75, 2) := by decide +kernel
theorem dX4_pushSignature_9 : decode cX4_pushSignature 9 = .ok (.invokevirtual 31, 3) := by decide +kernel
theorem dX4_pushSignature_12 : decode cX4_pushSignature 12 = .ok (.aload_n 0, 1) := by decide +kernel
theorem dX4_pushSignature_13 : decode cX4_pushSignature 13 = .ok (.iload_n 1, 1) := by decide +kernel
theorem dX4_pushSignature_14 : decode cX4_pushSignature 14 = .ok (.invokevirtual 31, 3) := by decide +kernel
theorem dX4_pushSignature_17 : decode cX4_pushSignature 17 = .ok (.aload_n 0, 1) := by decide +kernel
theorem dX4_pushSignature_18 : decode cX4_pushSignature 18 = .ok (.iload_n 2, 1) := by decide +kernel
theorem dX4_pushSignature_19 : decode cX4_pushSignature 19 = .ok (.invokevirtual 31, 3) := by decide +kernel
theorem dX4_pushSignature_22 : decode cX4_pushSignature 22 = .ok (.return_, 1) := by decide +kernel
theorem dX4_append_0 : decode cX4_append 0 = .ok (.aload_n 1, 1) := by decide +kernel
theorem dX4_append_1 : decode cX4_append 1 = .ok (.iload_n 2, 1) := by decide +kernel
theorem dX4_append_2 : decode cX4_append 2 = .ok (.iload_n 3, 1) := by decide +kernel
theorem dX4_append_3 : decode cX4_append 3 = .ok (.invokevirtual 25, 3) := by decide +kernel
theorem dX4_append_6 : decode cX4_append 6 = .ok (.ifCond .eq 38, 3) := by decide +kernel
theorem dX4_append_9 : decode cX4_append 9 = .ok (.iload_n 3, 1) := by decide +kernel
theorem dX4_append_10 : decode cX4_append 10 = .ok (.aload_n 0, 1) := by decide +kernel
theorem dX4_append_11 : decode cX4_append 11 = .ok (.invokevirtual 38, 3) := by decide +kernel
theorem dX4_append_14 : decode cX4_append 14 = .ok (.if_icmp .gt 30, 3) := by decide +kernel
theorem dX4_append_17 : decode cX4_append 17 = .ok (.aload_n 1, 1) := by decide +kernel
theorem dX4_append_18 : decode cX4_append 18 = .ok (.getfield 15, 3) := by decide +kernel
theorem dX4_append_21 : decode cX4_append 21 = .ok (.iload_n 2, 1) := by decide +kernel
theorem dX4_append_22 : decode cX4_append 22 = .ok (.aload_n 0, 1) := by decide +kernel
theorem dX4_append_23 : decode cX4_append 23 = .ok (.getfield 15, 3) := by decide +kernel
theorem dX4_append_26 : decode cX4_append 26 = .ok (.aload_n 0, 1) := by decide +kernel
theorem dX4_append_27 : decode cX4_append 27 = .ok (.getfield 21, 3) := by decide +kernel
theorem dX4_append_30 : decode cX4_append 30 = .ok (.iload_n 3, 1) := by decide +kernel
theorem dX4_append_31 : decode cX4_append 31 = .ok (.invokestatic 42, 3) := by decide +kernel
theorem dX4_append_34 : decode cX4_append 34 = .ok (.aload_n 0, 1) := by decide +kernel
theorem dX4_append_35 : decode cX4_append 35 = .ok (.dup, 1) := by decide +kernel
theorem dX4_append_36 : decode cX4_append 36 = .ok (.getfield 21, 3) := by decide +kernel
theorem dX4_append_39 : decode cX4_append 39 = .ok (.iload_n 3, 1) := by decide +kernel
theorem dX4_append_40 : decode cX4_append 40 = .ok (.iadd, 1) := by decide +kernel
theorem dX4_append_41 : decode cX4_append 41 = .ok (.putfield 21, 3) := by decide +kernel
theorem dX4_append_44 : decode cX4_append 44 = .ok (.return_, 1) := by decide +kernel
end
section
theorem dX4_blank_0 : decode cX4_blank 0 = .ok (.iconst 0, 1) := by decide +kernel
theorem dX4_blank_1 : decode cX4_blank 1 = .ok (.istore_n 1, 1) := by decide +kernel
theorem dX4_blank_2 : decode cX4_blank 2 = .ok (.iload_n 1, 1) := by decide +kernel
theorem dX4_blank_3 : decode cX4_blank 3 = .ok (.aload_n 0, 1) := by decide +kernel
theorem dX4_blank_4 : decode cX4_blank 4 = .ok (.getfield 15, 3) := by decide +kernel
theorem dX4_blank_7 : decode cX4_blank 7 = .ok (.arraylength, 1) := by decide +kernel
theorem dX4_blank_8 : decode cX4_blank 8 = .ok (.if_icmp .ge 16, 3) := by decide +kernel
theorem dX4_blank_11 : decode cX4_blank 11 = .ok (.aload_n 0, 1) := by decide +kernel
theorem dX4_blank_12 : decode cX4_blank 12 = .ok (.getfield 15, 3) := by decide +kernel
theorem dX4_blank_15 : decode cX4_blank 15 = .ok (.iload_n 1, 1) := by decide +kernel
theorem dX4_blank_16 : decode cX4_blank 16 = .ok (.iconst 0, 1) := by decide +kernel
theorem dX4_blank_17 : decode cX4_blank 17 = .ok (.iastore, 1) := by decide +kernel
theorem dX4_blank_18 : decode cX4_blank 18 = .ok (.iinc 1 1, 3) := by decide +kernel
theorem dX4_blank_21 : decode cX4_blank 21 = .ok (.goto (-19), 3) := by decide +kernel
theorem dX4_blank_24 : decode cX4_blank 24 = .ok (.aload_n 0, 1) := by decide +kernel
theorem dX4_blank_25 : decode cX4_blank 25 = .ok (.aload_n 0, 1) := by decide +kernel
theorem dX4_blank_26 : decode cX4_blank 26 = .ok (.getfield 15, 3) := by decide +kernel
theorem dX4_blank_29 : decode cX4_blank 29 = .ok (.arraylength, 1) := by decide +kernel
theorem dX4_blank_30 : decode cX4_blank 30 = .ok (.putfield 21, 3) := by decide +kernel
theorem dX4_blank_33 : decode cX4_blank 33 = .ok (.return_, 1) := by decide +kernel
theorem dX4_shorten_0 : decode cX4_shorten 0 = .ok (.iload_n 1, 1) := by decide +kernel
theorem dX4_shorten_1 : decode cX4_shorten 1 = .ok (.ifCond .lt 11, 3) := by decide +kernel
theorem dX4_shorten_4 : decode cX4_shorten 4 = .ok (.iload_n 1, 1) := by decide +kernel
theorem dX4_shorten_5 : decode cX4_shorten 5 = .ok (.aload_n 0, 1) := by decide +kernel
theorem dX4_shorten_6 : decode cX4_shorten 6 = .ok (.getfield 21, 3) := by decide +kernel
theorem dX4_shorten_9 : decode cX4_shorten 9 = .ok (.if_icmp .le 5, 3) := by decide +kernel
theorem dX4_shorten_12 : decode cX4_shorten 12 = .ok (.iconst 0, 1) := by decide +kernel
theorem dX4_shorten_13 : decode cX4_shorten 13 = .ok (.ireturn, 1) := by decide +kernel
theorem dX4_shorten_14 : decode cX4_shorten 14 = .ok (.aload_n 0, 1) := by decide +kernel
theorem dX4_shorten_15 : decode cX4_shorten 15 = .ok (.iload_n 1, 1) := by decide +kernel
theorem dX4_shorten_16 : decode cX4_shorten 16 = .ok (.putfield 21, 3) := by decide +kernel
theorem dX4_shorten_19 : decode cX4_shorten 19 = .ok (.iconst 1, 1) := by decide +kernel
theorem dX4_shorten_20 : decode cX4_shorten 20 = .ok (.ireturn, 1) := by decide +kernel
theorem dX4_close_0 : decode cX4_close 0 = .ok (.aload_n 0, 1) := by decide +kernel
theorem dX4_close_1 : decode cX4_close 1 = .ok (.iload_n 1, 1) := by decide +kernel
theorem dX4_close_2 : decode cX4_close 2 = .ok (.iload_n 2, 1) := by decide +kernel
theorem dX4_close_3 : decode cX4_close 3 = .ok (.invokevirtual 25, 3) := by decide +kernel
theorem dX4_close_6 : decode cX4_close 6 = .ok (.ifCond .ne 5, 3) := by decide +kernel
theorem dX4_close_9 : decode cX4_close 9 = .ok (.iconst 0, 1) := by decide +kernel
theorem dX4_close_10 : decode cX4_close 10 = .ok (.ireturn, 1) := by decide +kernel
theorem dX4_close_11 : decode cX4_close 11 = .ok (.aload_n 0, 1) := by decide +kernel
theorem dX4_close_12 : decode cX4_close 12 = .ok (.getfield 15, 3) := by decide +kernel
theorem dX4_close_15 : decode cX4_close 15 = .ok (.iload_n 1, 1) := by decide +kernel
theorem dX4_close_16 : decode cX4_close 16 = .ok (.iload_n 2, 1) := by decide +kernel
theorem dX4_close_17 : decode cX4_close 17 = .ok (.iadd, 1) := by decide +kernel
theorem dX4_close_18 : decode cX4_close 18 = .ok (.aload_n 0, 1) := by decide +kernel
theorem dX4_close_19 : decode cX4_close 19 = .ok (.getfield 15, 3) := by decide +kernel
theorem dX4_close_22 : decode cX4_close 22 = .ok (.iload_n 1, 1) := by decide +kernel
theorem dX4_close_23 : decode cX4_close 23 = .ok (.aload_n 0, 1) := by decide +kernel
theorem dX4_close_24 : decode cX4_close 24 = .ok (.getfield 21, 3) := by decide +kernel
theorem dX4_close_27 : decode cX4_close 27 = .ok (.iload_n 1, 1) := by decide +kernel
theorem dX4_close_28 : decode cX4_close 28 = .ok (.isub, 1) := by decide +kernel
theorem dX4_close_29 : decode cX4_close 29 = .ok (.iload_n 2, 1) := by decide +kernel
theorem dX4_close_30 : decode cX4_close 30 = .ok (.isub, 1) := by decide +kernel
theorem dX4_close_31 : decode cX4_close 31 = .ok (.invokestatic 42, 3) := by decide +kernel
theorem dX4_close_34 : decode cX4_close 34 = .ok (.aload_n 0, 1) := by decide +kernel
theorem dX4_close_35 : decode cX4_close 35 = .ok (.dup, 1) := by decide +kernel
theorem dX4_close_36 : decode cX4_close 36 = .ok (.getfield 21, 3) := by decide +kernel
theorem dX4_close_39 : decode cX4_close 39 = .ok (.iload_n 2, 1) := by decide +kernel
theorem dX4_close_40 : decode cX4_close 40 = .ok (.isub, 1) := by decide +kernel
theorem dX4_close_41 : decode cX4_close 41 = .ok (.putfield 21, 3) := by decide +kernel
theorem dX4_close_44 : decode cX4_close 44 = .ok (.iconst 1, 1) := by decide +kernel
theorem dX4_close_45 : decode cX4_close 45 = .ok (.ireturn, 1) := by decide +kernel
theorem dX4_turn_0 : decode cX4_turn 0 = .ok (.iload_n 1, 1) := by decide +kernel
theorem dX4_turn_1 : decode cX4_turn 1 = .ok (.ifCond .lt 21, 3) := by decide +kernel
theorem dX4_turn_4 : decode cX4_turn 4 = .ok (.iload_n 1, 1) := by decide +kernel
theorem dX4_turn_5 : decode cX4_turn 5 = .ok (.aload_n 0, 1) := by decide +kernel
theorem dX4_turn_6 : decode cX4_turn 6 = .ok (.getfield 21, 3) := by decide +kernel
theorem dX4_turn_9 : decode cX4_turn 9 = .ok (.if_icmp .ge 13, 3) := by decide +kernel
theorem dX4_turn_12 : decode cX4_turn 12 = .ok (.iload_n 2, 1) := by decide +kernel
theorem dX4_turn_13 : decode cX4_turn 13 = .ok (.ifCond .lt 9, 3) := by decide +kernel
theorem dX4_turn_16 : decode cX4_turn 16 = .ok (.iload_n 2, 1) := by decide +kernel
theorem dX4_turn_17 : decode cX4_turn 17 = .ok (.bipush 7, 2) := by decide +kernel
theorem dX4_turn_19 : decode cX4_turn 19 = .ok (.if_icmp .le 5, 3) := by decide +kernel
theorem dX4_turn_22 : decode cX4_turn 22 = .ok (.iconst 0, 1) := by decide +kernel
theorem dX4_turn_23 : decode cX4_turn 23 = .ok (.ireturn, 1) := by decide +kernel
theorem dX4_turn_24 : decode cX4_turn 24 = .ok (.aload_n 0, 1) := by decide +kernel
theorem dX4_turn_25 : decode cX4_turn 25 = .ok (.getfield 15, 3) := by decide +kernel
theorem dX4_turn_28 : decode cX4_turn 28 = .ok (.iload_n 1, 1) := by decide +kernel
theorem dX4_turn_29 : decode cX4_turn 29 = .ok (.dup2, 1) := by decide +kernel
theorem dX4_turn_30 : decode cX4_turn 30 = .ok (.iaload, 1) := by decide +kernel
theorem dX4_turn_31 : decode cX4_turn 31 = .ok (.iconst 1, 1) := by decide +kernel
theorem dX4_turn_32 : decode cX4_turn 32 = .ok (.iload_n 2, 1) := by decide +kernel
theorem dX4_turn_33 : decode cX4_turn 33 = .ok (.ishl, 1) := by decide +kernel
theorem dX4_turn_34 : decode cX4_turn 34 = .ok (.ixor, 1) := by decide +kernel
theorem dX4_turn_35 : decode cX4_turn 35 = .ok (.iastore, 1) := by decide +kernel
theorem dX4_turn_36 : decode cX4_turn 36 = .ok (.iconst 1, 1) := by decide +kernel
theorem dX4_turn_37 : decode cX4_turn 37 = .ok (.ireturn, 1) := by decide +kernel
theorem dX4_hasSignature_0 : decode cX4_hasSignature 0 = .ok (.aload_n 0, 1) := by decide +kernel
theorem dX4_hasSignature_1 : decode cX4_hasSignature 1 = .ok (.iload_n 1, 1) := by decide +kernel
theorem dX4_hasSignature_2 : decode cX4_hasSignature 2 = .ok (.invokevirtual 48, 3) := by decide +kernel
theorem dX4_hasSignature_5 : decode cX4_hasSignature 5 = .ok (.bipush 80, 2) := by decide +kernel
theorem dX4_hasSignature_7 : decode cX4_hasSignature 7 = .ok (.if_icmp .ne 41, 3) := by decide +kernel
theorem dX4_hasSignature_10 : decode cX4_hasSignature 10 = .ok (.aload_n 0, 1) := by decide +kernel
theorem dX4_hasSignature_11 : decode cX4_hasSignature 11 = .ok (.iload_n 1, 1) := by decide +kernel
theorem dX4_hasSignature_12 : decode cX4_hasSignature 12 = .ok (.iconst 1, 1) := by decide +kernel
theorem dX4_hasSignature_13 : decode cX4_hasSignature 13 = .ok (.iadd, 1) := by decide +kernel
theorem dX4_hasSignature_14 : decode cX4_hasSignature 14 = .ok (.invokevirtual 48, 3) := by decide +kernel
theorem dX4_hasSignature_17 : decode cX4_hasSignature 17 = .ok (.bipush 75, 2) := by decide +kernel
theorem dX4_hasSignature_19 : decode cX4_hasSignature 19 = .ok (.if_icmp .ne 29, 3) := by decide +kernel
theorem dX4_hasSignature_22 : decode cX4_hasSignature 22 = .ok (.aload_n 0, 1) := by decide +kernel
theorem dX4_hasSignature_23 : decode cX4_hasSignature 23 = .ok (.iload_n 1, 1) := by decide +kernel
theorem dX4_hasSignature_24 : decode cX4_hasSignature 24 = .ok (.iconst 2, 1) := by decide +kernel
theorem dX4_hasSignature_25 : decode cX4_hasSignature 25 = .ok (.iadd, 1) := by decide +kernel
theorem dX4_hasSignature_26 : decode cX4_hasSignature 26 = .ok (.invokevirtual 48, 3) := by decide +kernel
theorem dX4_hasSignature_29 : decode cX4_hasSignature 29 = .ok (.iload_n 2, 1) := by decide +kernel
theorem dX4_hasSignature_30 : decode cX4_hasSignature 30 = .ok (.if_icmp .ne 18, 3) := by decide +kernel
theorem dX4_hasSignature_33 : decode cX4_hasSignature 33 = .ok (.aload_n 0, 1) := by decide +kernel
theorem dX4_hasSignature_34 : decode cX4_hasSignature 34 = .ok (.iload_n 1, 1) := by decide +kernel
theorem dX4_hasSignature_35 : decode cX4_hasSignature 35 = .ok (.iconst 3, 1) := by decide +kernel
theorem dX4_hasSignature_36 : decode cX4_hasSignature 36 = .ok (.iadd, 1) := by decide +kernel
theorem dX4_hasSignature_37 : decode cX4_hasSignature 37 = .ok (.invokevirtual 48, 3) := by decide +kernel
theorem dX4_hasSignature_40 : decode cX4_hasSignature 40 = .ok (.iload_n 3, 1) := by decide +kernel
theorem dX4_hasSignature_41 : decode cX4_hasSignature 41 = .ok (.if_icmp .ne 7, 3) := by decide +kernel
theorem dX4_hasSignature_44 : decode cX4_hasSignature 44 = .ok (.iconst 1, 1) := by decide +kernel
theorem dX4_hasSignature_45 : decode cX4_hasSignature 45 = .ok (.goto 4, 3) := by decide +kernel
theorem dX4_hasSignature_48 : decode cX4_hasSignature 48 = .ok (.iconst 0, 1) := by decide +kernel
theorem dX4_hasSignature_49 : decode cX4_hasSignature 49 = .ok (.ireturn, 1) := by decide +kernel
theorem dX4_isName_0 : decode cX4_isName 0 = .ok (.iload_n 2, 1) := by decide +kernel
theorem dX4_isName_1 : decode cX4_isName 1 = .ok (.iconst 1, 1) := by decide +kernel
theorem dX4_isName_2 : decode cX4_isName 2 = .ok (.if_icmp .lt 18, 3) := by decide +kernel
theorem dX4_isName_5 : decode cX4_isName 5 = .ok (.iload_n 2, 1) := by decide +kernel
theorem dX4_isName_6 : decode cX4_isName 6 = .ok (.bipush 30, 2) := by decide +kernel
theorem dX4_isName_8 : decode cX4_isName 8 = .ok (.if_icmp .gt 12, 3) := by decide +kernel
theorem dX4_isName_11 : decode cX4_isName 11 = .ok (.aload_n 0, 1) := by decide +kernel
theorem dX4_isName_12 : decode cX4_isName 12 = .ok (.iload_n 1, 1) := by decide +kernel
theorem dX4_isName_13 : decode cX4_isName 13 = .ok (.iload_n 2, 1) := by decide +kernel
theorem dX4_isName_14 : decode cX4_isName 14 = .ok (.invokevirtual 25, 3) := by decide +kernel
theorem dX4_isName_17 : decode cX4_isName 17 = .ok (.ifCond .ne 5, 3) := by decide +kernel
theorem dX4_isName_20 : decode cX4_isName 20 = .ok (.iconst 0, 1) := by decide +kernel
theorem dX4_isName_21 : decode cX4_isName 21 = .ok (.ireturn, 1) := by decide +kernel
theorem dX4_isName_22 : decode cX4_isName 22 = .ok (.iconst 0, 1) := by decide +kernel
theorem dX4_isName_23 : decode cX4_isName 23 = .ok (.istore_n 3, 1) := by decide +kernel
theorem dX4_isName_24 : decode cX4_isName 24 = .ok (.iload_n 3, 1) := by decide +kernel
theorem dX4_isName_25 : decode cX4_isName 25 = .ok (.iload_n 2, 1) := by decide +kernel
theorem dX4_isName_26 : decode cX4_isName 26 = .ok (.if_icmp .ge 34, 3) := by decide +kernel
theorem dX4_isName_29 : decode cX4_isName 29 = .ok (.aload_n 0, 1) := by decide +kernel
theorem dX4_isName_30 : decode cX4_isName 30 = .ok (.iload_n 1, 1) := by decide +kernel
theorem dX4_isName_31 : decode cX4_isName 31 = .ok (.iload_n 3, 1) := by decide +kernel
theorem dX4_isName_32 : decode cX4_isName 32 = .ok (.iadd, 1) := by decide +kernel
theorem dX4_isName_33 : decode cX4_isName 33 = .ok (.invokevirtual 48, 3) := by decide +kernel
theorem dX4_isName_36 : decode cX4_isName 36 = .ok (.istore 4, 2) := by decide +kernel
theorem dX4_isName_38 : decode cX4_isName 38 = .ok (.iload 4, 2) := by decide +kernel
theorem dX4_isName_40 : decode cX4_isName 40 = .ok (.bipush 33, 2) := by decide +kernel
theorem dX4_isName_42 : decode cX4_isName 42 = .ok (.if_icmp .lt 10, 3) := by decide +kernel
theorem dX4_isName_45 : decode cX4_isName 45 = .ok (.iload 4, 2) := by decide +kernel
theorem dX4_isName_47 : decode cX4_isName 47 = .ok (.bipush 126, 2) := by decide +kernel
theorem dX4_isName_49 : decode cX4_isName 49 = .ok (.if_icmp .le 5, 3) := by decide +kernel
theorem dX4_isName_52 : decode cX4_isName 52 = .ok (.iconst 0, 1) := by decide +kernel
theorem dX4_isName_53 : decode cX4_isName 53 = .ok (.ireturn, 1) := by decide +kernel
theorem dX4_isName_54 : decode cX4_isName 54 = .ok (.iinc 3 1, 3) := by decide +kernel
theorem dX4_isName_57 : decode cX4_isName 57 = .ok (.goto (-33), 3) := by decide +kernel
theorem dX4_isName_60 : decode cX4_isName 60 = .ok (.iconst 1, 1) := by decide +kernel
theorem dX4_isName_61 : decode cX4_isName 61 = .ok (.ireturn, 1) := by decide +kernel
theorem dX4_agrees_0 : decode cX4_agrees 0 = .ok (.aload_n 0, 1) := by decide +kernel
theorem dX4_agrees_1 : decode cX4_agrees 1 = .ok (.iload_n 1, 1) := by decide +kernel
theorem dX4_agrees_2 : decode cX4_agrees 2 = .ok (.iload 4, 2) := by decide +kernel
theorem dX4_agrees_4 : decode cX4_agrees 4 = .ok (.invokevirtual 25, 3) := by decide +kernel
theorem dX4_agrees_7 : decode cX4_agrees 7 = .ok (.ifCond .eq 13, 3) := by decide +kernel
theorem dX4_agrees_10 : decode cX4_agrees 10 = .ok (.aload_n 2, 1) := by decide +kernel
theorem dX4_agrees_11 : decode cX4_agrees 11 = .ok (.iload_n 3, 1) := by decide +kernel
theorem dX4_agrees_12 : decode cX4_agrees 12 = .ok (.iload 4, 2) := by decide +kernel
theorem dX4_agrees_14 : decode cX4_agrees 14 = .ok (.invokevirtual 25, 3) := by decide +kernel
theorem dX4_agrees_17 : decode cX4_agrees 17 = .ok (.ifCond .ne 5, 3) := by decide +kernel
theorem dX4_agrees_20 : decode cX4_agrees 20 = .ok (.iconst 0, 1) := by decide +kernel
theorem dX4_agrees_21 : decode cX4_agrees 21 = .ok (.ireturn, 1) := by decide +kernel
theorem dX4_agrees_22 : decode cX4_agrees 22 = .ok (.iconst 0, 1) := by decide +kernel
theorem dX4_agrees_23 : decode cX4_agrees 23 = .ok (.istore 5, 2) := by decide +kernel
theorem dX4_agrees_25 : decode cX4_agrees 25 = .ok (.iload 5, 2) := by decide +kernel
theorem dX4_agrees_27 : decode cX4_agrees 27 = .ok (.iload 4, 2) := by decide +kernel
theorem dX4_agrees_29 : decode cX4_agrees 29 = .ok (.if_icmp .ge 30, 3) := by decide +kernel
theorem dX4_agrees_32 : decode cX4_agrees 32 = .ok (.aload_n 0, 1) := by decide +kernel
theorem dX4_agrees_33 : decode cX4_agrees 33 = .ok (.iload_n 1, 1) := by decide +kernel
theorem dX4_agrees_34 : decode cX4_agrees 34 = .ok (.iload 5, 2) := by decide +kernel
theorem dX4_agrees_36 : decode cX4_agrees 36 = .ok (.iadd, 1) := by decide +kernel
theorem dX4_agrees_37 : decode cX4_agrees 37 = .ok (.invokevirtual 48, 3) := by decide +kernel
theorem dX4_agrees_40 : decode cX4_agrees 40 = .ok (.aload_n 2, 1) := by decide +kernel
theorem dX4_agrees_41 : decode cX4_agrees 41 = .ok (.iload_n 3, 1) := by decide +kernel
theorem dX4_agrees_42 : decode cX4_agrees 42 = .ok (.iload 5, 2) := by decide +kernel
theorem dX4_agrees_44 : decode cX4_agrees 44 = .ok (.iadd, 1) := by decide +kernel
theorem dX4_agrees_45 : decode cX4_agrees 45 = .ok (.invokevirtual 48, 3) := by decide +kernel
theorem dX4_agrees_48 : decode cX4_agrees 48 = .ok (.if_icmp .eq 5, 3) := by decide +kernel
theorem dX4_agrees_51 : decode cX4_agrees 51 = .ok (.iconst 0, 1) := by decide +kernel
theorem dX4_agrees_52 : decode cX4_agrees 52 = .ok (.ireturn, 1) := by decide +kernel
theorem dX4_agrees_53 : decode cX4_agrees 53 = .ok (.iinc 5 1, 3) := by decide +kernel
theorem dX4_agrees_56 : decode cX4_agrees 56 = .ok (.goto (-31), 3) := by decide +kernel
theorem dX4_agrees_59 : decode cX4_agrees 59 = .ok (.iconst 1, 1) := by decide +kernel
theorem dX4_agrees_60 : decode cX4_agrees 60 = .ok (.ireturn, 1) := by decide +kernel
theorem dX4_isNameAhead_0 : decode cX4_isNameAhead 0 = .ok (.iconst 0, 1) := by decide +kernel
theorem dX4_isNameAhead_1 : decode cX4_isNameAhead 1 = .ok (.istore_n 2, 1) := by decide +kernel
theorem dX4_isNameAhead_2 : decode cX4_isNameAhead 2 = .ok (.iload_n 2, 1) := by decide +kernel
theorem dX4_isNameAhead_3 : decode cX4_isNameAhead 3 = .ok (.bipush 30, 2) := by decide +kernel
theorem dX4_isNameAhead_5 : decode cX4_isNameAhead 5 = .ok (.if_icmp .ge 41, 3) := by decide +kernel
theorem dX4_isNameAhead_8 : decode cX4_isNameAhead 8 = .ok (.aload_n 0, 1) := by decide +kernel
theorem dX4_isNameAhead_9 : decode cX4_isNameAhead 9 = .ok (.iload_n 2, 1) := by decide +kernel
theorem dX4_isNameAhead_10 : decode cX4_isNameAhead 10 = .ok (.invokevirtual 48, 3) := by decide +kernel
theorem dX4_isNameAhead_13 : decode cX4_isNameAhead 13 = .ok (.aload_n 1, 1) := by decide +kernel
theorem dX4_isNameAhead_14 : decode cX4_isNameAhead 14 = .ok (.iload_n 2, 1) := by decide +kernel
theorem dX4_isNameAhead_15 : decode cX4_isNameAhead 15 = .ok (.invokevirtual 48, 3) := by decide +kernel
theorem dX4_isNameAhead_18 : decode cX4_isNameAhead 18 = .ok (.if_icmp .eq 22, 3) := by decide +kernel
theorem dX4_isNameAhead_21 : decode cX4_isNameAhead 21 = .ok (.aload_n 0, 1) := by decide +kernel
theorem dX4_isNameAhead_22 : decode cX4_isNameAhead 22 = .ok (.iload_n 2, 1) := by decide +kernel
theorem dX4_isNameAhead_23 : decode cX4_isNameAhead 23 = .ok (.invokevirtual 48, 3) := by decide +kernel
theorem dX4_isNameAhead_26 : decode cX4_isNameAhead 26 = .ok (.aload_n 1, 1) := by decide +kernel
theorem dX4_isNameAhead_27 : decode cX4_isNameAhead 27 = .ok (.iload_n 2, 1) := by decide +kernel
theorem dX4_isNameAhead_28 : decode cX4_isNameAhead 28 = .ok (.invokevirtual 48, 3) := by decide +kernel
theorem dX4_isNameAhead_31 : decode cX4_isNameAhead 31 = .ok (.if_icmp .ge 7, 3) := by decide +kernel
theorem dX4_isNameAhead_34 : decode cX4_isNameAhead 34 = .ok (.iconst 1, 1) := by decide +kernel
theorem dX4_isNameAhead_35 : decode cX4_isNameAhead 35 = .ok (.goto 4, 3) := by decide +kernel
theorem dX4_isNameAhead_38 : decode cX4_isNameAhead 38 = .ok (.iconst 0, 1) := by decide +kernel
theorem dX4_isNameAhead_39 : decode cX4_isNameAhead 39 = .ok (.ireturn, 1) := by decide +kernel
theorem dX4_isNameAhead_40 : decode cX4_isNameAhead 40 = .ok (.iinc 2 1, 3) := by decide +kernel
theorem dX4_isNameAhead_43 : decode cX4_isNameAhead 43 = .ok (.goto (-41), 3) := by decide +kernel
theorem dX4_isNameAhead_46 : decode cX4_isNameAhead 46 = .ok (.iconst 0, 1) := by decide +kernel
theorem dX4_isNameAhead_47 : decode cX4_isNameAhead 47 = .ok (.ireturn, 1) := by decide +kernel
theorem dX5_init_0 : decode cX5_init 0 = .ok (.aload_n 0, 1) := by decide +kernel
theorem dX5_init_1 : decode cX5_init 1 = .ok (.invokespecial 3, 3) := by decide +kernel
theorem dX5_init_4 : decode cX5_init 4 = .ok (.aload_n 0, 1) := by decide +kernel
theorem dX5_init_5 : decode cX5_init 5 = .ok (.bipush 20, 2) := by decide +kernel
theorem dX5_init_7 : decode cX5_init 7 = .ok (.anewarray 9, 3) := by decide +kernel
theorem dX5_init_10 : decode cX5_init 10 = .ok (.putfield 11, 3) := by decide +kernel
theorem dX5_init_13 : decode cX5_init 13 = .ok (.aload_n 0, 1) := by decide +kernel
theorem dX5_init_14 : decode cX5_init 14 = .ok (.new 17, 3) := by decide +kernel
theorem dX5_init_17 : decode cX5_init 17 = .ok (.dup, 1) := by decide +kernel
theorem dX5_init_18 : decode cX5_init 18 = .ok (.sipush 6000, 3) := by decide +kernel
theorem dX5_init_21 : decode cX5_init 21 = .ok (.invokespecial 19, 3) := by decide +kernel
theorem dX5_init_24 : decode cX5_init 24 = .ok (.putfield 22, 3) := by decide +kernel
theorem dX5_init_27 : decode cX5_init 27 = .ok (.iconst 0, 1) := by decide +kernel
theorem dX5_init_28 : decode cX5_init 28 = .ok (.istore_n 1, 1) := by decide +kernel
theorem dX5_init_29 : decode cX5_init 29 = .ok (.iload_n 1, 1) := by decide +kernel
theorem dX5_init_30 : decode cX5_init 30 = .ok (.aload_n 0, 1) := by decide +kernel
theorem dX5_init_31 : decode cX5_init 31 = .ok (.getfield 11, 3) := by decide +kernel
theorem dX5_init_34 : decode cX5_init 34 = .ok (.arraylength, 1) := by decide +kernel
theorem dX5_init_35 : decode cX5_init 35 = .ok (.if_icmp .ge 22, 3) := by decide +kernel
theorem dX5_init_38 : decode cX5_init 38 = .ok (.aload_n 0, 1) := by decide +kernel
theorem dX5_init_39 : decode cX5_init 39 = .ok (.getfield 11, 3) := by decide +kernel
theorem dX5_init_42 : decode cX5_init 42 = .ok (.iload_n 1, 1) := by decide +kernel
theorem dX5_init_43 : decode cX5_init 43 = .ok (.new 9, 3) := by decide +kernel
theorem dX5_init_46 : decode cX5_init 46 = .ok (.dup, 1) := by decide +kernel
theorem dX5_init_47 : decode cX5_init 47 = .ok (.invokespecial 26, 3) := by decide +kernel
theorem dX5_init_50 : decode cX5_init 50 = .ok (.aastore, 1) := by decide +kernel
theorem dX5_init_51 : decode cX5_init 51 = .ok (.iinc 1 1, 3) := by decide +kernel
theorem dX5_init_54 : decode cX5_init 54 = .ok (.goto (-25), 3) := by decide +kernel
theorem dX5_init_57 : decode cX5_init 57 = .ok (.return_, 1) := by decide +kernel
theorem dX5_count_0 : decode cX5_count 0 = .ok (.aload_n 0, 1) := by decide +kernel
theorem dX5_count_1 : decode cX5_count 1 = .ok (.getfield 27, 3) := by decide +kernel
theorem dX5_count_4 : decode cX5_count 4 = .ok (.ireturn, 1) := by decide +kernel
theorem dX5_together_0 : decode cX5_together 0 = .ok (.aload_n 0, 1) := by decide +kernel
theorem dX5_together_1 : decode cX5_together 1 = .ok (.getfield 22, 3) := by decide +kernel
theorem dX5_together_4 : decode cX5_together 4 = .ok (.invokevirtual 31, 3) := by decide +kernel
theorem dX5_together_7 : decode cX5_together 7 = .ok (.ireturn, 1) := by decide +kernel
theorem dX5_entry_0 : decode cX5_entry 0 = .ok (.iload_n 1, 1) := by decide +kernel
theorem dX5_entry_1 : decode cX5_entry 1 = .ok (.ifCond .lt 20, 3) := by decide +kernel
theorem dX5_entry_4 : decode cX5_entry 4 = .ok (.iload_n 1, 1) := by decide +kernel
theorem dX5_entry_5 : decode cX5_entry 5 = .ok (.aload_n 0, 1) := by decide +kernel
theorem dX5_entry_6 : decode cX5_entry 6 = .ok (.getfield 27, 3) := by decide +kernel
theorem dX5_entry_9 : decode cX5_entry 9 = .ok (.if_icmp .ge 12, 3) := by decide +kernel
theorem dX5_entry_12 : decode cX5_entry 12 = .ok (.aload_n 0, 1) := by decide +kernel
theorem dX5_entry_13 : decode cX5_entry 13 = .ok (.getfield 11, 3) := by decide +kernel
theorem dX5_entry_16 : decode cX5_entry 16 = .ok (.iload_n 1, 1) := by decide +kernel
theorem dX5_entry_17 : decode cX5_entry 17 = .ok (.aaload, 1) := by decide +kernel
theorem dX5_entry_18 : decode cX5_entry 18 = .ok (.goto 4, 3) := by decide +kernel
theorem dX5_entry_21 : decode cX5_entry 21 = .ok (.aconst_null, 1) := by decide +kernel
theorem dX5_entry_22 : decode cX5_entry 22 = .ok (.areturn, 1) := by decide +kernel
theorem dX5_byteOf_0 : decode cX5_byteOf 0 = .ok (.iload_n 2, 1) := by decide +kernel
theorem dX5_byteOf_1 : decode cX5_byteOf 1 = .ok (.ifCond .lt 27, 3) := by decide +kernel
theorem dX5_byteOf_4 : decode cX5_byteOf 4 = .ok (.iload_n 2, 1) := by decide +kernel
theorem dX5_byteOf_5 : decode cX5_byteOf 5 = .ok (.aload_n 1, 1) := by decide +kernel
theorem dX5_byteOf_6 : decode cX5_byteOf 6 = .ok (.getfield 35, 3) := by decide +kernel
theorem dX5_byteOf_9 : decode cX5_byteOf 9 = .ok (.if_icmp .ge 19, 3) := by decide +kernel
theorem dX5_byteOf_12 : decode cX5_byteOf 12 = .ok (.aload_n 0, 1) := by decide +kernel
theorem dX5_byteOf_13 : decode cX5_byteOf 13 = .ok (.getfield 22, 3) := by decide +kernel
theorem dX5_byteOf_16 : decode cX5_byteOf 16 = .ok (.aload_n 1, 1) := by decide +kernel
theorem dX5_byteOf_17 : decode cX5_byteOf 17 = .ok (.getfield 37, 3) := by decide +kernel
theorem dX5_byteOf_20 : decode cX5_byteOf 20 = .ok (.iload_n 2, 1) := by decide +kernel
theorem dX5_byteOf_21 : decode cX5_byteOf 21 = .ok (.iadd, 1) := by decide +kernel
theorem dX5_byteOf_22 : decode cX5_byteOf 22 = .ok (.invokevirtual 40, 3) := by decide +kernel
theorem dX5_byteOf_25 : decode cX5_byteOf 25 = .ok (.goto 4, 3) := by decide +kernel
theorem dX5_byteOf_28 : decode cX5_byteOf 28 = .ok (.iconst (-1), 1) := by decide +kernel
theorem dX5_byteOf_29 : decode cX5_byteOf 29 = .ok (.ireturn, 1) := by decide +kernel
theorem dX5_lookUp_0 : decode cX5_lookUp 0 = .ok (.iconst 0, 1) := by decide +kernel
theorem dX5_lookUp_1 : decode cX5_lookUp 1 = .ok (.istore 4, 2) := by decide +kernel
theorem dX5_lookUp_3 : decode cX5_lookUp 3 = .ok (.iload 4, 2) := by decide +kernel
theorem dX5_lookUp_5 : decode cX5_lookUp 5 = .ok (.aload_n 0, 1) := by decide +kernel
theorem dX5_lookUp_6 : decode cX5_lookUp 6 = .ok (.getfield 27, 3) := by decide +kernel
theorem dX5_lookUp_9 : decode cX5_lookUp 9 = .ok (.if_icmp .ge 45, 3) := by decide +kernel
theorem dX5_lookUp_12 : decode cX5_lookUp 12 = .ok (.aload_n 0, 1) := by decide +kernel
theorem dX5_lookUp_13 : decode cX5_lookUp 13 = .ok (.getfield 11, 3) := by decide +kernel
theorem dX5_lookUp_16 : decode cX5_lookUp 16 = .ok (.iload 4, 2) := by decide +kernel
theorem dX5_lookUp_18 : decode cX5_lookUp 18 = .ok (.aaload, 1) := by decide +kernel
theorem dX5_lookUp_19 : decode cX5_lookUp 19 = .ok (.getfield 44, 3) := by decide +kernel
theorem dX5_lookUp_22 : decode cX5_lookUp 22 = .ok (.astore 5, 2) := by decide +kernel
theorem dX5_lookUp_24 : decode cX5_lookUp 24 = .ok (.aload 5, 2) := by decide +kernel
theorem dX5_lookUp_26 : decode cX5_lookUp 26 = .ok (.invokevirtual 31, 3) := by decide +kernel
theorem dX5_lookUp_29 : decode cX5_lookUp 29 = .ok (.iload_n 3, 1) := by decide +kernel
theorem dX5_lookUp_30 : decode cX5_lookUp 30 = .ok (.if_icmp .ne 18, 3) := by decide +kernel
theorem dX5_lookUp_33 : decode cX5_lookUp 33 = .ok (.aload 5, 2) := by decide +kernel
theorem dX5_lookUp_35 : decode cX5_lookUp 35 = .ok (.iconst 0, 1) := by decide +kernel
theorem dX5_lookUp_36 : decode cX5_lookUp 36 = .ok (.aload_n 1, 1) := by decide +kernel
theorem dX5_lookUp_37 : decode cX5_lookUp 37 = .ok (.iload_n 2, 1) := by decide +kernel
theorem dX5_lookUp_38 : decode cX5_lookUp 38 = .ok (.iload_n 3, 1) := by decide +kernel
theorem dX5_lookUp_39 : decode cX5_lookUp 39 = .ok (.invokevirtual 47, 3) := by decide +kernel
theorem dX5_lookUp_42 : decode cX5_lookUp 42 = .ok (.ifCond .eq 6, 3) := by decide +kernel
theorem dX5_lookUp_45 : decode cX5_lookUp 45 = .ok (.iload 4, 2) := by decide +kernel
theorem dX5_lookUp_47 : decode cX5_lookUp 47 = .ok (.ireturn, 1) := by decide +kernel
theorem dX5_lookUp_48 : decode cX5_lookUp 48 = .ok (.iinc 4 1, 3) := by decide +kernel
theorem dX5_lookUp_51 : decode cX5_lookUp 51 = .ok (.goto (-48), 3) := by decide +kernel
theorem dX5_lookUp_54 : decode cX5_lookUp 54 = .ok (.iconst (-1), 1) := by decide +kernel
theorem dX5_lookUp_55 : decode cX5_lookUp 55 = .ok (.ireturn, 1) := by decide +kernel
theorem dX5_hasRoom_0 : decode cX5_hasRoom 0 = .ok (.aload_n 0, 1) := by decide +kernel
theorem dX5_hasRoom_1 : decode cX5_hasRoom 1 = .ok (.iload_n 1, 1) := by decide +kernel
theorem dX5_hasRoom_2 : decode cX5_hasRoom 2 = .ok (.invokevirtual 51, 3) := by decide +kernel
theorem dX5_hasRoom_5 : decode cX5_hasRoom 5 = .ok (.astore_n 3, 1) := by decide +kernel
theorem dX5_hasRoom_6 : decode cX5_hasRoom 6 = .ok (.aload_n 3, 1) := by decide +kernel
theorem dX5_hasRoom_7 : decode cX5_hasRoom 7 = .ok (.ifnonnull 10, 3) := by decide +kernel
theorem dX5_hasRoom_10 : decode cX5_hasRoom 10 = .ok (.aload_n 0, 1) := by decide +kernel
theorem dX5_hasRoom_11 : decode cX5_hasRoom 11 = .ok (.getfield 27, 3) := by decide +kernel
theorem dX5_hasRoom_14 : decode cX5_hasRoom 14 = .ok (.goto 9, 3) := by decide +kernel
theorem dX5_hasRoom_17 : decode cX5_hasRoom 17 = .ok (.aload_n 0, 1) := by decide +kernel
theorem dX5_hasRoom_18 : decode cX5_hasRoom 18 = .ok (.getfield 27, 3) := by decide +kernel
theorem dX5_hasRoom_21 : decode cX5_hasRoom 21 = .ok (.iconst 1, 1) := by decide +kernel
theorem dX5_hasRoom_22 : decode cX5_hasRoom 22 = .ok (.isub, 1) := by decide +kernel
theorem dX5_hasRoom_23 : decode cX5_hasRoom 23 = .ok (.istore 4, 2) := by decide +kernel
theorem dX5_hasRoom_25 : decode cX5_hasRoom 25 = .ok (.aload_n 3, 1) := by decide +kernel
theorem dX5_hasRoom_26 : decode cX5_hasRoom 26 = .ok (.ifnonnull 13, 3) := by decide +kernel
theorem dX5_hasRoom_29 : decode cX5_hasRoom 29 = .ok (.aload_n 0, 1) := by decide +kernel
theorem dX5_hasRoom_30 : decode cX5_hasRoom 30 = .ok (.getfield 22, 3) := by decide +kernel
theorem dX5_hasRoom_33 : decode cX5_hasRoom 33 = .ok (.invokevirtual 55, 3) := by decide +kernel
theorem dX5_hasRoom_36 : decode cX5_hasRoom 36 = .ok (.goto 15, 3) := by decide +kernel
theorem dX5_hasRoom_39 : decode cX5_hasRoom 39 = .ok (.aload_n 0, 1) := by decide +kernel
theorem dX5_hasRoom_40 : decode cX5_hasRoom 40 = .ok (.getfield 22, 3) := by decide +kernel
theorem dX5_hasRoom_43 : decode cX5_hasRoom 43 = .ok (.invokevirtual 55, 3) := by decide +kernel
theorem dX5_hasRoom_46 : decode cX5_hasRoom 46 = .ok (.aload_n 3, 1) := by decide +kernel
theorem dX5_hasRoom_47 : decode cX5_hasRoom 47 = .ok (.getfield 35, 3) := by decide +kernel
theorem dX5_hasRoom_50 : decode cX5_hasRoom 50 = .ok (.iadd, 1) := by decide +kernel
theorem dX5_hasRoom_51 : decode cX5_hasRoom 51 = .ok (.istore 5, 2) := by decide +kernel
theorem dX5_hasRoom_53 : decode cX5_hasRoom 53 = .ok (.iload 4, 2) := by decide +kernel
theorem dX5_hasRoom_55 : decode cX5_hasRoom 55 = .ok (.bipush 20, 2) := by decide +kernel
theorem dX5_hasRoom_57 : decode cX5_hasRoom 57 = .ok (.if_icmp .ge 13, 3) := by decide +kernel
theorem dX5_hasRoom_60 : decode cX5_hasRoom 60 = .ok (.iload_n 2, 1) := by decide +kernel
theorem dX5_hasRoom_61 : decode cX5_hasRoom 61 = .ok (.iload 5, 2) := by decide +kernel
theorem dX5_hasRoom_63 : decode cX5_hasRoom 63 = .ok (.if_icmp .gt 7, 3) := by decide +kernel
theorem dX5_hasRoom_66 : decode cX5_hasRoom 66 = .ok (.iconst 1, 1) := by decide +kernel
theorem dX5_hasRoom_67 : decode cX5_hasRoom 67 = .ok (.goto 4, 3) := by decide +kernel
theorem dX5_hasRoom_70 : decode cX5_hasRoom 70 = .ok (.iconst 0, 1) := by decide +kernel
theorem dX5_hasRoom_71 : decode cX5_hasRoom 71 = .ok (.ireturn, 1) := by decide +kernel
theorem dX5_put_0 : decode cX5_put 0 = .ok (.aload_n 0, 1) := by decide +kernel
theorem dX5_put_1 : decode cX5_put 1 = .ok (.getfield 27, 3) := by decide +kernel
theorem dX5_put_4 : decode cX5_put 4 = .ok (.bipush 20, 2) := by decide +kernel
theorem dX5_put_6 : decode cX5_put 6 = .ok (.if_icmp .lt 4, 3) := by decide +kernel
theorem dX5_put_9 : decode cX5_put 9 = .ok (.return_, 1) := by decide +kernel
theorem dX5_put_10 : decode cX5_put 10 = .ok (.aload_n 0, 1) := by decide +kernel
theorem dX5_put_11 : decode cX5_put 11 = .ok (.getfield 11, 3) := by decide +kernel
theorem dX5_put_14 : decode cX5_put 14 = .ok (.aload_n 0, 1) := by decide +kernel
theorem dX5_put_15 : decode cX5_put 15 = .ok (.getfield 27, 3) := by decide +kernel
theorem dX5_put_18 : decode cX5_put 18 = .ok (.aaload, 1) := by decide +kernel
theorem dX5_put_19 : decode cX5_put 19 = .ok (.astore 7, 2) := by decide +kernel
theorem dX5_put_21 : decode cX5_put 21 = .ok (.aload 7, 2) := by decide +kernel
theorem dX5_put_23 : decode cX5_put 23 = .ok (.aload_n 1, 1) := by decide +kernel
theorem dX5_put_24 : decode cX5_put 24 = .ok (.iload_n 2, 1) := by decide +kernel
theorem dX5_put_25 : decode cX5_put 25 = .ok (.iload_n 3, 1) := by decide +kernel
theorem dX5_put_26 : decode cX5_put 26 = .ok (.invokevirtual 58, 3) := by decide +kernel
theorem dX5_put_29 : decode cX5_put 29 = .ok (.aload_n 0, 1) := by decide +kernel
theorem dX5_put_30 : decode cX5_put 30 = .ok (.aload 7, 2) := by decide +kernel
theorem dX5_put_32 : decode cX5_put 32 = .ok (.aload 4, 2) := by decide +kernel
theorem dX5_put_34 : decode cX5_put 34 = .ok (.iload 5, 2) := by decide +kernel
theorem dX5_put_36 : decode cX5_put 36 = .ok (.iload 6, 2) := by decide +kernel
theorem dX5_put_38 : decode cX5_put 38 = .ok (.invokevirtual 62, 3) := by decide +kernel
theorem dX5_put_41 : decode cX5_put 41 = .ok (.aload_n 0, 1) := by decide +kernel
theorem dX5_put_42 : decode cX5_put 42 = .ok (.dup, 1) := by decide +kernel
theorem dX5_put_43 : decode cX5_put 43 = .ok (.getfield 27, 3) := by decide +kernel
theorem dX5_put_46 : decode cX5_put 46 = .ok (.iconst 1, 1) := by decide +kernel
theorem dX5_put_47 : decode cX5_put 47 = .ok (.iadd, 1) := by decide +kernel
theorem dX5_put_48 : decode cX5_put 48 = .ok (.putfield 27, 3) := by decide +kernel
theorem dX5_put_51 : decode cX5_put 51 = .ok (.return_, 1) := by decide +kernel
theorem dX5_fill_0 : decode cX5_fill 0 = .ok (.aload_n 1, 1) := by decide +kernel
theorem dX5_fill_1 : decode cX5_fill 1 = .ok (.aload_n 0, 1) := by decide +kernel
theorem dX5_fill_2 : decode cX5_fill 2 = .ok (.getfield 22, 3) := by decide +kernel
theorem dX5_fill_5 : decode cX5_fill 5 = .ok (.invokevirtual 31, 3) := by decide +kernel
theorem dX5_fill_8 : decode cX5_fill 8 = .ok (.putfield 37, 3) := by decide +kernel
theorem dX5_fill_11 : decode cX5_fill 11 = .ok (.aload_n 0, 1) := by decide +kernel
theorem dX5_fill_12 : decode cX5_fill 12 = .ok (.getfield 22, 3) := by decide +kernel
theorem dX5_fill_15 : decode cX5_fill 15 = .ok (.aload_n 2, 1) := by decide +kernel
theorem dX5_fill_16 : decode cX5_fill 16 = .ok (.iload_n 3, 1) := by decide +kernel
theorem dX5_fill_17 : decode cX5_fill 17 = .ok (.iload 4, 2) := by decide +kernel
theorem dX5_fill_19 : decode cX5_fill 19 = .ok (.invokevirtual 66, 3) := by decide +kernel
theorem dX5_fill_22 : decode cX5_fill 22 = .ok (.aload_n 1, 1) := by decide +kernel
theorem dX5_fill_23 : decode cX5_fill 23 = .ok (.aload_n 0, 1) := by decide +kernel
theorem dX5_fill_24 : decode cX5_fill 24 = .ok (.getfield 22, 3) := by decide +kernel
theorem dX5_fill_27 : decode cX5_fill 27 = .ok (.invokevirtual 31, 3) := by decide +kernel
theorem dX5_fill_30 : decode cX5_fill 30 = .ok (.aload_n 1, 1) := by decide +kernel
theorem dX5_fill_31 : decode cX5_fill 31 = .ok (.getfield 37, 3) := by decide +kernel
theorem dX5_fill_34 : decode cX5_fill 34 = .ok (.isub, 1) := by decide +kernel
theorem dX5_fill_35 : decode cX5_fill 35 = .ok (.putfield 35, 3) := by decide +kernel
theorem dX5_fill_38 : decode cX5_fill 38 = .ok (.aload_n 1, 1) := by decide +kernel
theorem dX5_fill_39 : decode cX5_fill 39 = .ok (.aload_n 0, 1) := by decide +kernel
theorem dX5_fill_40 : decode cX5_fill 40 = .ok (.getfield 22, 3) := by decide +kernel
theorem dX5_fill_43 : decode cX5_fill 43 = .ok (.aload_n 1, 1) := by decide +kernel
theorem dX5_fill_44 : decode cX5_fill 44 = .ok (.getfield 37, 3) := by decide +kernel
theorem dX5_fill_47 : decode cX5_fill 47 = .ok (.aload_n 1, 1) := by decide +kernel
theorem dX5_fill_48 : decode cX5_fill 48 = .ok (.getfield 35, 3) := by decide +kernel
theorem dX5_fill_51 : decode cX5_fill 51 = .ok (.invokestatic 69, 3) := by decide +kernel
theorem dX5_fill_54 : decode cX5_fill 54 = .ok (.putfield 75, 3) := by decide +kernel
theorem dX5_fill_57 : decode cX5_fill 57 = .ok (.aload_n 1, 1) := by decide +kernel
theorem dX5_fill_58 : decode cX5_fill 58 = .ok (.aload_n 1, 1) := by decide +kernel
theorem dX5_fill_59 : decode cX5_fill 59 = .ok (.getfield 35, 3) := by decide +kernel
theorem dX5_fill_62 : decode cX5_fill 62 = .ok (.aload_n 0, 1) := by decide +kernel
theorem dX5_fill_63 : decode cX5_fill 63 = .ok (.getfield 22, 3) := by decide +kernel
theorem dX5_fill_66 : decode cX5_fill 66 = .ok (.aload_n 1, 1) := by decide +kernel
theorem dX5_fill_67 : decode cX5_fill 67 = .ok (.getfield 37, 3) := by decide +kernel
theorem dX5_fill_70 : decode cX5_fill 70 = .ok (.aload_n 1, 1) := by decide +kernel
theorem dX5_fill_71 : decode cX5_fill 71 = .ok (.getfield 35, 3) := by decide +kernel
theorem dX5_fill_74 : decode cX5_fill 74 = .ok (.invokestatic 77, 3) := by decide +kernel
theorem dX5_fill_77 : decode cX5_fill 77 = .ok (.invokestatic 80, 3) := by decide +kernel
theorem dX5_fill_80 : decode cX5_fill 80 = .ok (.putfield 86, 3) := by decide +kernel
theorem dX5_fill_83 : decode cX5_fill 83 = .ok (.return_, 1) := by decide +kernel
theorem dX5_changeName_0 : decode cX5_changeName 0 = .ok (.aload_n 0, 1) := by decide +kernel
theorem dX5_changeName_1 : decode cX5_changeName 1 = .ok (.iload_n 1, 1) := by decide +kernel
theorem dX5_changeName_2 : decode cX5_changeName 2 = .ok (.invokevirtual 51, 3) := by decide +kernel
theorem dX5_changeName_5 : decode cX5_changeName 5 = .ok (.astore_n 3, 1) := by decide +kernel
theorem dX5_changeName_6 : decode cX5_changeName 6 = .ok (.aload_n 3, 1) := by decide +kernel
theorem dX5_changeName_7 : decode cX5_changeName 7 = .ok (.ifnull 13, 3) := by decide +kernel
theorem dX5_changeName_10 : decode cX5_changeName 10 = .ok (.aload_n 3, 1) := by decide +kernel
theorem dX5_changeName_11 : decode cX5_changeName 11 = .ok (.aload_n 2, 1) := by decide +kernel
theorem dX5_changeName_12 : decode cX5_changeName 12 = .ok (.iconst 0, 1) := by decide +kernel
theorem dX5_changeName_13 : decode cX5_changeName 13 = .ok (.aload_n 2, 1) := by decide +kernel
theorem dX5_changeName_14 : decode cX5_changeName 14 = .ok (.invokevirtual 31, 3) := by decide +kernel
theorem dX5_changeName_17 : decode cX5_changeName 17 = .ok (.invokevirtual 58, 3) := by decide +kernel
theorem dX5_changeName_20 : decode cX5_changeName 20 = .ok (.return_, 1) := by decide +kernel
theorem dX5_changeBytes_0 : decode cX5_changeBytes 0 = .ok (.aload_n 0, 1) := by decide +kernel
theorem dX5_changeBytes_1 : decode cX5_changeBytes 1 = .ok (.iload_n 1, 1) := by decide +kernel
theorem dX5_changeBytes_2 : decode cX5_changeBytes 2 = .ok (.invokevirtual 51, 3) := by decide +kernel
theorem dX5_changeBytes_5 : decode cX5_changeBytes 5 = .ok (.astore_n 3, 1) := by decide +kernel
theorem dX5_changeBytes_6 : decode cX5_changeBytes 6 = .ok (.aload_n 3, 1) := by decide +kernel
theorem dX5_changeBytes_7 : decode cX5_changeBytes 7 = .ok (.ifnull 19, 3) := by decide +kernel
theorem dX5_changeBytes_10 : decode cX5_changeBytes 10 = .ok (.aload_n 0, 1) := by decide +kernel
theorem dX5_changeBytes_11 : decode cX5_changeBytes 11 = .ok (.aload_n 3, 1) := by decide +kernel
theorem dX5_changeBytes_12 : decode cX5_changeBytes 12 = .ok (.invokevirtual 89, 3) := by decide +kernel
theorem dX5_changeBytes_15 : decode cX5_changeBytes 15 = .ok (.aload_n 0, 1) := by decide +kernel
theorem dX5_changeBytes_16 : decode cX5_changeBytes 16 = .ok (.aload_n 3, 1) := by decide +kernel
theorem dX5_changeBytes_17 : decode cX5_changeBytes 17 = .ok (.aload_n 2, 1) := by decide +kernel
theorem dX5_changeBytes_18 : decode cX5_changeBytes 18 = .ok (.iconst 0, 1) := by decide +kernel
theorem dX5_changeBytes_19 : decode cX5_changeBytes 19 = .ok (.aload_n 2, 1) := by decide +kernel
theorem dX5_changeBytes_20 : decode cX5_changeBytes 20 = .ok (.invokevirtual 31, 3) := by decide +kernel
theorem dX5_changeBytes_23 : decode cX5_changeBytes 23 = .ok (.invokevirtual 62, 3) := by decide +kernel
theorem dX5_changeBytes_26 : decode cX5_changeBytes 26 = .ok (.return_, 1) := by decide +kernel
theorem dX5_release_0 : decode cX5_release 0 = .ok (.aload_n 0, 1) := by decide +kernel
theorem dX5_release_1 : decode cX5_release 1 = .ok (.getfield 22, 3) := by decide +kernel
theorem dX5_release_4 : decode cX5_release 4 = .ok (.aload_n 1, 1) := by decide +kernel
theorem dX5_release_5 : decode cX5_release 5 = .ok (.getfield 37, 3) := by decide +kernel
theorem dX5_release_8 : decode cX5_release 8 = .ok (.aload_n 1, 1) := by decide +kernel
theorem dX5_release_9 : decode cX5_release 9 = .ok (.getfield 35, 3) := by decide +kernel
theorem dX5_release_12 : decode cX5_release 12 = .ok (.invokevirtual 93, 3) := by decide +kernel
theorem dX5_release_15 : decode cX5_release 15 = .ok (.pop, 1) := by decide +kernel
theorem dX5_release_16 : decode cX5_release 16 = .ok (.iconst 0, 1) := by decide +kernel
theorem dX5_release_17 : decode cX5_release 17 = .ok (.istore_n 2, 1) := by decide +kernel
theorem dX5_release_18 : decode cX5_release 18 = .ok (.iload_n 2, 1) := by decide +kernel
theorem dX5_release_19 : decode cX5_release 19 = .ok (.aload_n 0, 1) := by decide +kernel
theorem dX5_release_20 : decode cX5_release 20 = .ok (.getfield 27, 3) := by decide +kernel
theorem dX5_release_23 : decode cX5_release 23 = .ok (.if_icmp .ge 43, 3) := by decide +kernel
theorem dX5_release_26 : decode cX5_release 26 = .ok (.aload_n 0, 1) := by decide +kernel
theorem dX5_release_27 : decode cX5_release 27 = .ok (.getfield 11, 3) := by decide +kernel
theorem dX5_release_30 : decode cX5_release 30 = .ok (.iload_n 2, 1) := by decide +kernel
theorem dX5_release_31 : decode cX5_release 31 = .ok (.aaload, 1) := by decide +kernel
theorem dX5_release_32 : decode cX5_release 32 = .ok (.getfield 37, 3) := by decide +kernel
theorem dX5_release_35 : decode cX5_release 35 = .ok (.aload_n 1, 1) := by decide +kernel
theorem dX5_release_36 : decode cX5_release 36 = .ok (.getfield 37, 3) := by decide +kernel
theorem dX5_release_39 : decode cX5_release 39 = .ok (.if_icmp .le 21, 3) := by decide +kernel
theorem dX5_release_42 : decode cX5_release 42 = .ok (.aload_n 0, 1) := by decide +kernel
theorem dX5_release_43 : decode cX5_release 43 = .ok (.getfield 11, 3) := by decide +kernel
theorem dX5_release_46 : decode cX5_release 46 = .ok (.iload_n 2, 1) := by decide +kernel
theorem dX5_release_47 : decode cX5_release 47 = .ok (.aaload, 1) := by decide +kernel
theorem dX5_release_48 : decode cX5_release 48 = .ok (.dup, 1) := by decide +kernel
theorem dX5_release_49 : decode cX5_release 49 = .ok (.getfield 37, 3) := by decide +kernel
theorem dX5_release_52 : decode cX5_release 52 = .ok (.aload_n 1, 1) := by decide +kernel
theorem dX5_release_53 : decode cX5_release 53 = .ok (.getfield 35, 3) := by decide +kernel
theorem dX5_release_56 : decode cX5_release 56 = .ok (.isub, 1) := by decide +kernel
theorem dX5_release_57 : decode cX5_release 57 = .ok (.putfield 37, 3) := by decide +kernel
theorem dX5_release_60 : decode cX5_release 60 = .ok (.iinc 2 1, 3) := by decide +kernel
theorem dX5_release_63 : decode cX5_release 63 = .ok (.goto (-45), 3) := by decide +kernel
theorem dX5_release_66 : decode cX5_release 66 = .ok (.return_, 1) := by decide +kernel
theorem dX5_takeOut_0 : decode cX5_takeOut 0 = .ok (.aload_n 0, 1) := by decide +kernel
theorem dX5_takeOut_1 : decode cX5_takeOut 1 = .ok (.iload_n 1, 1) := by decide +kernel
theorem dX5_takeOut_2 : decode cX5_takeOut 2 = .ok (.invokevirtual 51, 3) := by decide +kernel
theorem dX5_takeOut_5 : decode cX5_takeOut 5 = .ok (.astore_n 2, 1) := by decide +kernel
theorem dX5_takeOut_6 : decode cX5_takeOut 6 = .ok (.aload_n 2, 1) := by decide +kernel
theorem dX5_takeOut_7 : decode cX5_takeOut 7 = .ok (.ifnonnull 4, 3) := by decide +kernel
theorem dX5_takeOut_10 : decode cX5_takeOut 10 = .ok (.return_, 1) := by decide +kernel
theorem dX5_takeOut_11 : decode cX5_takeOut 11 = .ok (.aload_n 0, 1) := by decide +kernel
theorem dX5_takeOut_12 : decode cX5_takeOut 12 = .ok (.aload_n 2, 1) := by decide +kernel
theorem dX5_takeOut_13 : decode cX5_takeOut 13 = .ok (.invokevirtual 89, 3) := by decide +kernel
theorem dX5_takeOut_16 : decode cX5_takeOut 16 = .ok (.iload_n 1, 1) := by decide +kernel
theorem dX5_takeOut_17 : decode cX5_takeOut 17 = .ok (.iconst 1, 1) := by decide +kernel
theorem dX5_takeOut_18 : decode cX5_takeOut 18 = .ok (.iadd, 1) := by decide +kernel
theorem dX5_takeOut_19 : decode cX5_takeOut 19 = .ok (.istore_n 3, 1) := by decide +kernel
theorem dX5_takeOut_20 : decode cX5_takeOut 20 = .ok (.iload_n 3, 1) := by decide +kernel
theorem dX5_takeOut_21 : decode cX5_takeOut 21 = .ok (.aload_n 0, 1) := by decide +kernel
theorem dX5_takeOut_22 : decode cX5_takeOut 22 = .ok (.getfield 27, 3) := by decide +kernel
theorem dX5_takeOut_25 : decode cX5_takeOut 25 = .ok (.if_icmp .ge 23, 3) := by decide +kernel
theorem dX5_takeOut_28 : decode cX5_takeOut 28 = .ok (.aload_n 0, 1) := by decide +kernel
theorem dX5_takeOut_29 : decode cX5_takeOut 29 = .ok (.getfield 11, 3) := by decide +kernel
theorem dX5_takeOut_32 : decode cX5_takeOut 32 = .ok (.iload_n 3, 1) := by decide +kernel
theorem dX5_takeOut_33 : decode cX5_takeOut 33 = .ok (.iconst 1, 1) := by decide +kernel
theorem dX5_takeOut_34 : decode cX5_takeOut 34 = .ok (.isub, 1) := by decide +kernel
theorem dX5_takeOut_35 : decode cX5_takeOut 35 = .ok (.aload_n 0, 1) := by decide +kernel
theorem dX5_takeOut_36 : decode cX5_takeOut 36 = .ok (.getfield 11, 3) := by decide +kernel
theorem dX5_takeOut_39 : decode cX5_takeOut 39 = .ok (.iload_n 3, 1) := by decide +kernel
theorem dX5_takeOut_40 : decode cX5_takeOut 40 = .ok (.aaload, 1) := by decide +kernel
theorem dX5_takeOut_41 : decode cX5_takeOut 41 = .ok (.aastore, 1) := by decide +kernel
theorem dX5_takeOut_42 : decode cX5_takeOut 42 = .ok (.iinc 3 1, 3) := by decide +kernel
theorem dX5_takeOut_45 : decode cX5_takeOut 45 = .ok (.goto (-25), 3) := by decide +kernel
theorem dX5_takeOut_48 : decode cX5_takeOut 48 = .ok (.aload_n 0, 1) := by decide +kernel
theorem dX5_takeOut_49 : decode cX5_takeOut 49 = .ok (.getfield 11, 3) := by decide +kernel
theorem dX5_takeOut_52 : decode cX5_takeOut 52 = .ok (.aload_n 0, 1) := by decide +kernel
theorem dX5_takeOut_53 : decode cX5_takeOut 53 = .ok (.getfield 27, 3) := by decide +kernel
theorem dX5_takeOut_56 : decode cX5_takeOut 56 = .ok (.iconst 1, 1) := by decide +kernel
theorem dX5_takeOut_57 : decode cX5_takeOut 57 = .ok (.isub, 1) := by decide +kernel
theorem dX5_takeOut_58 : decode cX5_takeOut 58 = .ok (.aload_n 2, 1) := by decide +kernel
theorem dX5_takeOut_59 : decode cX5_takeOut 59 = .ok (.aastore, 1) := by decide +kernel
theorem dX5_takeOut_60 : decode cX5_takeOut 60 = .ok (.aload_n 0, 1) := by decide +kernel
theorem dX5_takeOut_61 : decode cX5_takeOut 61 = .ok (.dup, 1) := by decide +kernel
theorem dX5_takeOut_62 : decode cX5_takeOut 62 = .ok (.getfield 27, 3) := by decide +kernel
theorem dX5_takeOut_65 : decode cX5_takeOut 65 = .ok (.iconst 1, 1) := by decide +kernel
theorem dX5_takeOut_66 : decode cX5_takeOut 66 = .ok (.isub, 1) := by decide +kernel
theorem dX5_takeOut_67 : decode cX5_takeOut 67 = .ok (.putfield 27, 3) := by decide +kernel
theorem dX5_takeOut_70 : decode cX5_takeOut 70 = .ok (.return_, 1) := by decide +kernel
theorem dX5_takeOutAll_0 : decode cX5_takeOutAll 0 = .ok (.aload_n 0, 1) := by decide +kernel
theorem dX5_takeOutAll_1 : decode cX5_takeOutAll 1 = .ok (.iconst 0, 1) := by decide +kernel
theorem dX5_takeOutAll_2 : decode cX5_takeOutAll 2 = .ok (.putfield 27, 3) := by decide +kernel
theorem dX5_takeOutAll_5 : decode cX5_takeOutAll 5 = .ok (.aload_n 0, 1) := by decide +kernel
theorem dX5_takeOutAll_6 : decode cX5_takeOutAll 6 = .ok (.getfield 22, 3) := by decide +kernel
theorem dX5_takeOutAll_9 : decode cX5_takeOutAll 9 = .ok (.iconst 0, 1) := by decide +kernel
theorem dX5_takeOutAll_10 : decode cX5_takeOutAll 10 = .ok (.invokevirtual 97, 3) := by decide +kernel
theorem dX5_takeOutAll_13 : decode cX5_takeOutAll 13 = .ok (.pop, 1) := by decide +kernel
theorem dX5_takeOutAll_14 : decode cX5_takeOutAll 14 = .ok (.return_, 1) := by decide +kernel
theorem dX5_putInOrder_0 : decode cX5_putInOrder 0 = .ok (.iconst 1, 1) := by decide +kernel
theorem dX5_putInOrder_1 : decode cX5_putInOrder 1 = .ok (.istore_n 1, 1) := by decide +kernel
theorem dX5_putInOrder_2 : decode cX5_putInOrder 2 = .ok (.iload_n 1, 1) := by decide +kernel
theorem dX5_putInOrder_3 : decode cX5_putInOrder 3 = .ok (.aload_n 0, 1) := by decide +kernel
theorem dX5_putInOrder_4 : decode cX5_putInOrder 4 = .ok (.getfield 27, 3) := by decide +kernel
theorem dX5_putInOrder_7 : decode cX5_putInOrder 7 = .ok (.if_icmp .ge 77, 3) := by decide +kernel
theorem dX5_putInOrder_10 : decode cX5_putInOrder 10 = .ok (.iload_n 1, 1) := by decide +kernel
theorem dX5_putInOrder_11 : decode cX5_putInOrder 11 = .ok (.istore_n 2, 1) := by decide +kernel
theorem dX5_putInOrder_12 : decode cX5_putInOrder 12 = .ok (.iload_n 2, 1) := by decide +kernel
theorem dX5_putInOrder_13 : decode cX5_putInOrder 13 = .ok (.ifCond .le 65, 3) := by decide +kernel
theorem dX5_putInOrder_16 : decode cX5_putInOrder 16 = .ok (.aload_n 0, 1) := by decide +kernel
theorem dX5_putInOrder_17 : decode cX5_putInOrder 17 = .ok (.getfield 11, 3) := by decide +kernel
theorem dX5_putInOrder_20 : decode cX5_putInOrder 20 = .ok (.iload_n 2, 1) := by decide +kernel
theorem dX5_putInOrder_21 : decode cX5_putInOrder 21 = .ok (.aaload, 1) := by decide +kernel
theorem dX5_putInOrder_22 : decode cX5_putInOrder 22 = .ok (.getfield 44, 3) := by decide +kernel
theorem dX5_putInOrder_25 : decode cX5_putInOrder 25 = .ok (.aload_n 0, 1) := by decide +kernel
theorem dX5_putInOrder_26 : decode cX5_putInOrder 26 = .ok (.getfield 11, 3) := by decide +kernel
theorem dX5_putInOrder_29 : decode cX5_putInOrder 29 = .ok (.iload_n 2, 1) := by decide +kernel
theorem dX5_putInOrder_30 : decode cX5_putInOrder 30 = .ok (.iconst 1, 1) := by decide +kernel
theorem dX5_putInOrder_31 : decode cX5_putInOrder 31 = .ok (.isub, 1) := by decide +kernel
theorem dX5_putInOrder_32 : decode cX5_putInOrder 32 = .ok (.aaload, 1) := by decide +kernel
theorem dX5_putInOrder_33 : decode cX5_putInOrder 33 = .ok (.getfield 44, 3) := by decide +kernel
theorem dX5_putInOrder_36 : decode cX5_putInOrder 36 = .ok (.invokevirtual 101, 3) := by decide +kernel
theorem dX5_putInOrder_39 : decode cX5_putInOrder 39 = .ok (.ifCond .eq 39, 3) := by decide +kernel
theorem dX5_putInOrder_42 : decode cX5_putInOrder 42 = .ok (.aload_n 0, 1) := by decide +kernel
theorem dX5_putInOrder_43 : decode cX5_putInOrder 43 = .ok (.getfield 11, 3) := by decide +kernel
theorem dX5_putInOrder_46 : decode cX5_putInOrder 46 = .ok (.iload_n 2, 1) := by decide +kernel
theorem dX5_putInOrder_47 : decode cX5_putInOrder 47 = .ok (.iconst 1, 1) := by decide +kernel
theorem dX5_putInOrder_48 : decode cX5_putInOrder 48 = .ok (.isub, 1) := by decide +kernel
theorem dX5_putInOrder_49 : decode cX5_putInOrder 49 = .ok (.aaload, 1) := by decide +kernel
theorem dX5_putInOrder_50 : decode cX5_putInOrder 50 = .ok (.astore_n 3, 1) := by decide +kernel
theorem dX5_putInOrder_51 : decode cX5_putInOrder 51 = .ok (.aload_n 0, 1) := by decide +kernel
theorem dX5_putInOrder_52 : decode cX5_putInOrder 52 = .ok (.getfield 11, 3) := by decide +kernel
theorem dX5_putInOrder_55 : decode cX5_putInOrder 55 = .ok (.iload_n 2, 1) := by decide +kernel
theorem dX5_putInOrder_56 : decode cX5_putInOrder 56 = .ok (.iconst 1, 1) := by decide +kernel
theorem dX5_putInOrder_57 : decode cX5_putInOrder 57 = .ok (.isub, 1) := by decide +kernel
theorem dX5_putInOrder_58 : decode cX5_putInOrder 58 = .ok (.aload_n 0, 1) := by decide +kernel
theorem dX5_putInOrder_59 : decode cX5_putInOrder 59 = .ok (.getfield 11, 3) := by decide +kernel
theorem dX5_putInOrder_62 : decode cX5_putInOrder 62 = .ok (.iload_n 2, 1) := by decide +kernel
theorem dX5_putInOrder_63 : decode cX5_putInOrder 63 = .ok (.aaload, 1) := by decide +kernel
theorem dX5_putInOrder_64 : decode cX5_putInOrder 64 = .ok (.aastore, 1) := by decide +kernel
theorem dX5_putInOrder_65 : decode cX5_putInOrder 65 = .ok (.aload_n 0, 1) := by decide +kernel
theorem dX5_putInOrder_66 : decode cX5_putInOrder 66 = .ok (.getfield 11, 3) := by decide +kernel
theorem dX5_putInOrder_69 : decode cX5_putInOrder 69 = .ok (.iload_n 2, 1) := by decide +kernel
theorem dX5_putInOrder_70 : decode cX5_putInOrder 70 = .ok (.aload_n 3, 1) := by decide +kernel
theorem dX5_putInOrder_71 : decode cX5_putInOrder 71 = .ok (.aastore, 1) := by decide +kernel
theorem dX5_putInOrder_72 : decode cX5_putInOrder 72 = .ok (.iinc 2 (-1), 3) := by decide +kernel
theorem dX5_putInOrder_75 : decode cX5_putInOrder 75 = .ok (.goto (-63), 3) := by decide +kernel
theorem dX5_putInOrder_78 : decode cX5_putInOrder 78 = .ok (.iinc 1 1, 3) := by decide +kernel
theorem dX5_putInOrder_81 : decode cX5_putInOrder 81 = .ok (.goto (-79), 3) := by decide +kernel
theorem dX5_putInOrder_84 : decode cX5_putInOrder 84 = .ok (.return_, 1) := by decide +kernel
theorem dX5_writeLocals_0 : decode cX5_writeLocals 0 = .ok (.iconst 0, 1) := by decide +kernel
theorem dX5_writeLocals_1 : decode cX5_writeLocals 1 = .ok (.istore_n 2, 1) := by decide +kernel
theorem dX5_writeLocals_2 : decode cX5_writeLocals 2 = .ok (.iload_n 2, 1) := by decide +kernel
theorem dX5_writeLocals_3 : decode cX5_writeLocals 3 = .ok (.aload_n 0, 1) := by decide +kernel
theorem dX5_writeLocals_4 : decode cX5_writeLocals 4 = .ok (.getfield 27, 3) := by decide +kernel
theorem dX5_writeLocals_7 : decode cX5_writeLocals 7 = .ok (.if_icmp .ge 65, 3) := by decide +kernel
theorem dX5_writeLocals_10 : decode cX5_writeLocals 10 = .ok (.aload_n 0, 1) := by decide +kernel
theorem dX5_writeLocals_11 : decode cX5_writeLocals 11 = .ok (.getfield 11, 3) := by decide +kernel
theorem dX5_writeLocals_14 : decode cX5_writeLocals 14 = .ok (.iload_n 2, 1) := by decide +kernel
theorem dX5_writeLocals_15 : decode cX5_writeLocals 15 = .ok (.aaload, 1) := by decide +kernel
theorem dX5_writeLocals_16 : decode cX5_writeLocals 16 = .ok (.astore_n 3, 1) := by decide +kernel
theorem dX5_writeLocals_17 : decode cX5_writeLocals 17 = .ok (.aload_n 1, 1) := by decide +kernel
theorem dX5_writeLocals_18 : decode cX5_writeLocals 18 = .ok (.aload_n 3, 1) := by decide +kernel
theorem dX5_writeLocals_19 : decode cX5_writeLocals 19 = .ok (.invokestatic 105, 3) := by decide +kernel
theorem dX5_writeLocals_22 : decode cX5_writeLocals 22 = .ok (.aload_n 3, 1) := by decide +kernel
theorem dX5_writeLocals_23 : decode cX5_writeLocals 23 = .ok (.invokevirtual 111, 3) := by decide +kernel
theorem dX5_writeLocals_26 : decode cX5_writeLocals 26 = .ok (.bipush 99, 2) := by decide +kernel
theorem dX5_writeLocals_28 : decode cX5_writeLocals 28 = .ok (.if_icmp .ne 22, 3) := by decide +kernel
theorem dX5_writeLocals_31 : decode cX5_writeLocals 31 = .ok (.aload_n 0, 1) := by decide +kernel
theorem dX5_writeLocals_32 : decode cX5_writeLocals 32 = .ok (.getfield 22, 3) := by decide +kernel
theorem dX5_writeLocals_35 : decode cX5_writeLocals 35 = .ok (.aload_n 3, 1) := by decide +kernel
theorem dX5_writeLocals_36 : decode cX5_writeLocals 36 = .ok (.getfield 37, 3) := by decide +kernel
theorem dX5_writeLocals_39 : decode cX5_writeLocals 39 = .ok (.aload_n 3, 1) := by decide +kernel
theorem dX5_writeLocals_40 : decode cX5_writeLocals 40 = .ok (.getfield 35, 3) := by decide +kernel
theorem dX5_writeLocals_43 : decode cX5_writeLocals 43 = .ok (.aload_n 1, 1) := by decide +kernel
theorem dX5_writeLocals_44 : decode cX5_writeLocals 44 = .ok (.invokestatic 114, 3) := by decide +kernel
theorem dX5_writeLocals_47 : decode cX5_writeLocals 47 = .ok (.goto 19, 3) := by decide +kernel
theorem dX5_writeLocals_50 : decode cX5_writeLocals 50 = .ok (.aload_n 1, 1) := by decide +kernel
theorem dX5_writeLocals_51 : decode cX5_writeLocals 51 = .ok (.aload_n 0, 1) := by decide +kernel
theorem dX5_writeLocals_52 : decode cX5_writeLocals 52 = .ok (.getfield 22, 3) := by decide +kernel
theorem dX5_writeLocals_55 : decode cX5_writeLocals 55 = .ok (.aload_n 3, 1) := by decide +kernel
theorem dX5_writeLocals_56 : decode cX5_writeLocals 56 = .ok (.getfield 37, 3) := by decide +kernel
theorem dX5_writeLocals_59 : decode cX5_writeLocals 59 = .ok (.aload_n 3, 1) := by decide +kernel
theorem dX5_writeLocals_60 : decode cX5_writeLocals 60 = .ok (.getfield 35, 3) := by decide +kernel
theorem dX5_writeLocals_63 : decode cX5_writeLocals 63 = .ok (.invokevirtual 66, 3) := by decide +kernel
theorem dX5_writeLocals_66 : decode cX5_writeLocals 66 = .ok (.iinc 2 1, 3) := by decide +kernel
theorem dX5_writeLocals_69 : decode cX5_writeLocals 69 = .ok (.goto (-67), 3) := by decide +kernel
theorem dX5_writeLocals_72 : decode cX5_writeLocals 72 = .ok (.return_, 1) := by decide +kernel
theorem dX5_writeCentrals_0 : decode cX5_writeCentrals 0 = .ok (.iconst 0, 1) := by decide +kernel
theorem dX5_writeCentrals_1 : decode cX5_writeCentrals 1 = .ok (.istore_n 2, 1) := by decide +kernel
theorem dX5_writeCentrals_2 : decode cX5_writeCentrals 2 = .ok (.iconst 0, 1) := by decide +kernel
theorem dX5_writeCentrals_3 : decode cX5_writeCentrals 3 = .ok (.istore_n 3, 1) := by decide +kernel
theorem dX5_writeCentrals_4 : decode cX5_writeCentrals 4 = .ok (.iload_n 3, 1) := by decide +kernel
theorem dX5_writeCentrals_5 : decode cX5_writeCentrals 5 = .ok (.aload_n 0, 1) := by decide +kernel
theorem dX5_writeCentrals_6 : decode cX5_writeCentrals 6 = .ok (.getfield 27, 3) := by decide +kernel
theorem dX5_writeCentrals_9 : decode cX5_writeCentrals 9 = .ok (.if_icmp .ge 32, 3) := by decide +kernel
theorem dX5_writeCentrals_12 : decode cX5_writeCentrals 12 = .ok (.aload_n 1, 1) := by decide +kernel
theorem dX5_writeCentrals_13 : decode cX5_writeCentrals 13 = .ok (.aload_n 0, 1) := by decide +kernel
theorem dX5_writeCentrals_14 : decode cX5_writeCentrals 14 = .ok (.getfield 11, 3) := by decide +kernel
theorem dX5_writeCentrals_17 : decode cX5_writeCentrals 17 = .ok (.iload_n 3, 1) := by decide +kernel
theorem dX5_writeCentrals_18 : decode cX5_writeCentrals 18 = .ok (.aaload, 1) := by decide +kernel
theorem dX5_writeCentrals_19 : decode cX5_writeCentrals 19 = .ok (.iload_n 2, 1) := by decide +kernel
theorem dX5_writeCentrals_20 : decode cX5_writeCentrals 20 = .ok (.invokestatic 118, 3) := by decide +kernel
theorem dX5_writeCentrals_23 : decode cX5_writeCentrals 23 = .ok (.iload_n 2, 1) := by decide +kernel
theorem dX5_writeCentrals_24 : decode cX5_writeCentrals 24 = .ok (.aload_n 0, 1) := by decide +kernel
theorem dX5_writeCentrals_25 : decode cX5_writeCentrals 25 = .ok (.getfield 11, 3) := by decide +kernel
theorem dX5_writeCentrals_28 : decode cX5_writeCentrals 28 = .ok (.iload_n 3, 1) := by decide +kernel
theorem dX5_writeCentrals_29 : decode cX5_writeCentrals 29 = .ok (.aaload, 1) := by decide +kernel
theorem dX5_writeCentrals_30 : decode cX5_writeCentrals 30 = .ok (.invokevirtual 122, 3) := by decide +kernel
theorem dX5_writeCentrals_33 : decode cX5_writeCentrals 33 = .ok (.iadd, 1) := by decide +kernel
theorem dX5_writeCentrals_34 : decode cX5_writeCentrals 34 = .ok (.istore_n 2, 1) := by decide +kernel
theorem dX5_writeCentrals_35 : decode cX5_writeCentrals 35 = .ok (.iinc 3 1, 3) := by decide +kernel
theorem dX5_writeCentrals_38 : decode cX5_writeCentrals 38 = .ok (.goto (-34), 3) := by decide +kernel
theorem dX5_writeCentrals_41 : decode cX5_writeCentrals 41 = .ok (.return_, 1) := by decide +kernel
theorem dX6_writeLocal_0 : decode cX6_writeLocal 0 = .ok (.aload_n 0, 1) := by decide +kernel
theorem dX6_writeLocal_1 : decode cX6_writeLocal 1 = .ok (.iconst 3, 1) := by decide +kernel
theorem dX6_writeLocal_2 : decode cX6_writeLocal 2 = .ok (.iconst 4, 1) := by decide +kernel
theorem dX6_writeLocal_3 : decode cX6_writeLocal 3 = .ok (.invokevirtual 9, 3) := by decide +kernel
theorem dX6_writeLocal_6 : decode cX6_writeLocal 6 = .ok (.aload_n 0, 1) := by decide +kernel
theorem dX6_writeLocal_7 : decode cX6_writeLocal 7 = .ok (.aload_n 1, 1) := by decide +kernel
theorem dX6_writeLocal_8 : decode cX6_writeLocal 8 = .ok (.invokestatic 15, 3) := by decide +kernel
theorem dX6_writeLocal_11 : decode cX6_writeLocal 11 = .ok (.aload_n 0, 1) := by decide +kernel
theorem dX6_writeLocal_12 : decode cX6_writeLocal 12 = .ok (.aload_n 1, 1) := by decide +kernel
theorem dX6_writeLocal_13 : decode cX6_writeLocal 13 = .ok (.getfield 21, 3) := by decide +kernel
theorem dX6_writeLocal_16 : decode cX6_writeLocal 16 = .ok (.iconst 0, 1) := by decide +kernel
theorem dX6_writeLocal_17 : decode cX6_writeLocal 17 = .ok (.aload_n 1, 1) := by decide +kernel
theorem dX6_writeLocal_18 : decode cX6_writeLocal 18 = .ok (.getfield 21, 3) := by decide +kernel
theorem dX6_writeLocal_21 : decode cX6_writeLocal 21 = .ok (.invokevirtual 27, 3) := by decide +kernel
theorem dX6_writeLocal_24 : decode cX6_writeLocal 24 = .ok (.invokevirtual 31, 3) := by decide +kernel
theorem dX6_writeLocal_27 : decode cX6_writeLocal 27 = .ok (.return_, 1) := by decide +kernel
theorem dX6_writeCentral_0 : decode cX6_writeCentral 0 = .ok (.aload_n 0, 1) := by decide +kernel
theorem dX6_writeCentral_1 : decode cX6_writeCentral 1 = .ok (.iconst 1, 1) := by decide +kernel
theorem dX6_writeCentral_2 : decode cX6_writeCentral 2 = .ok (.iconst 2, 1) := by decide +kernel
theorem dX6_writeCentral_3 : decode cX6_writeCentral 3 = .ok (.invokevirtual 9, 3) := by decide +kernel
theorem dX6_writeCentral_6 : decode cX6_writeCentral 6 = .ok (.aload_n 0, 1) := by decide +kernel
theorem dX6_writeCentral_7 : decode cX6_writeCentral 7 = .ok (.bipush 20, 2) := by decide +kernel
theorem dX6_writeCentral_9 : decode cX6_writeCentral 9 = .ok (.invokevirtual 35, 3) := by decide +kernel
theorem dX6_writeCentral_12 : decode cX6_writeCentral 12 = .ok (.aload_n 0, 1) := by decide +kernel
theorem dX6_writeCentral_13 : decode cX6_writeCentral 13 = .ok (.aload_n 1, 1) := by decide +kernel
theorem dX6_writeCentral_14 : decode cX6_writeCentral 14 = .ok (.invokestatic 15, 3) := by decide +kernel
theorem dX6_writeCentral_17 : decode cX6_writeCentral 17 = .ok (.aload_n 0, 1) := by decide +kernel
theorem dX6_writeCentral_18 : decode cX6_writeCentral 18 = .ok (.iconst 0, 1) := by decide +kernel
theorem dX6_writeCentral_19 : decode cX6_writeCentral 19 = .ok (.invokevirtual 35, 3) := by decide +kernel
theorem dX6_writeCentral_22 : decode cX6_writeCentral 22 = .ok (.aload_n 0, 1) := by decide +kernel
theorem dX6_writeCentral_23 : decode cX6_writeCentral 23 = .ok (.iconst 0, 1) := by decide +kernel
theorem dX6_writeCentral_24 : decode cX6_writeCentral 24 = .ok (.invokevirtual 35, 3) := by decide +kernel
theorem dX6_writeCentral_27 : decode cX6_writeCentral 27 = .ok (.aload_n 0, 1) := by decide +kernel
theorem dX6_writeCentral_28 : decode cX6_writeCentral 28 = .ok (.iconst 0, 1) := by decide +kernel
theorem dX6_writeCentral_29 : decode cX6_writeCentral 29 = .ok (.invokevirtual 35, 3) := by decide +kernel
theorem dX6_writeCentral_32 : decode cX6_writeCentral 32 = .ok (.aload_n 0, 1) := by decide +kernel
theorem dX6_writeCentral_33 : decode cX6_writeCentral 33 = .ok (.iconst 0, 1) := by decide +kernel
theorem dX6_writeCentral_34 : decode cX6_writeCentral 34 = .ok (.invokevirtual 39, 3) := by decide +kernel
theorem dX6_writeCentral_37 : decode cX6_writeCentral 37 = .ok (.aload_n 0, 1) := by decide +kernel
theorem dX6_writeCentral_38 : decode cX6_writeCentral 38 = .ok (.iload_n 2, 1) := by decide +kernel
theorem dX6_writeCentral_39 : decode cX6_writeCentral 39 = .ok (.invokevirtual 39, 3) := by decide +kernel
theorem dX6_writeCentral_42 : decode cX6_writeCentral 42 = .ok (.aload_n 0, 1) := by decide +kernel
theorem dX6_writeCentral_43 : decode cX6_writeCentral 43 = .ok (.aload_n 1, 1) := by decide +kernel
theorem dX6_writeCentral_44 : decode cX6_writeCentral 44 = .ok (.getfield 21, 3) := by decide +kernel
theorem dX6_writeCentral_47 : decode cX6_writeCentral 47 = .ok (.iconst 0, 1) := by decide +kernel
theorem dX6_writeCentral_48 : decode cX6_writeCentral 48 = .ok (.aload_n 1, 1) := by decide +kernel
theorem dX6_writeCentral_49 : decode cX6_writeCentral 49 = .ok (.getfield 21, 3) := by decide +kernel
theorem dX6_writeCentral_52 : decode cX6_writeCentral 52 = .ok (.invokevirtual 27, 3) := by decide +kernel
theorem dX6_writeCentral_55 : decode cX6_writeCentral 55 = .ok (.invokevirtual 31, 3) := by decide +kernel
theorem dX6_writeCentral_58 : decode cX6_writeCentral 58 = .ok (.return_, 1) := by decide +kernel
end
section
theorem dX6_writeShared_0 : decode cX6_writeShared 0 = .ok (.aload_n 0, 1) := by decide +kernel
theorem dX6_writeShared_1 : decode cX6_writeShared 1 = .ok (.bipush 20, 2) := by decide +kernel
theorem dX6_writeShared_3 : decode cX6_writeShared 3 = .ok (.invokevirtual 35, 3) := by decide +kernel
theorem dX6_writeShared_6 : decode cX6_writeShared 6 = .ok (.aload_n 0, 1) := by decide +kernel
theorem dX6_writeShared_7 : decode cX6_writeShared 7 = .ok (.iconst 0, 1) := by decide +kernel
theorem dX6_writeShared_8 : decode cX6_writeShared 8 = .ok (.invokevirtual 35, 3) := by decide +kernel
theorem dX6_writeShared_11 : decode cX6_writeShared 11 = .ok (.aload_n 0, 1) := by decide +kernel
theorem dX6_writeShared_12 : decode cX6_writeShared 12 = .ok (.aload_n 1, 1) := by decide +kernel
theorem dX6_writeShared_13 : decode cX6_writeShared 13 = .ok (.invokevirtual 42, 3) := by decide +kernel
theorem dX6_writeShared_16 : decode cX6_writeShared 16 = .ok (.invokevirtual 35, 3) := by decide +kernel
theorem dX6_writeShared_19 : decode cX6_writeShared 19 = .ok (.aload_n 0, 1) := by decide +kernel
theorem dX6_writeShared_20 : decode cX6_writeShared 20 = .ok (.iconst 0, 1) := by decide +kernel
theorem dX6_writeShared_21 : decode cX6_writeShared 21 = .ok (.invokevirtual 35, 3) := by decide +kernel
theorem dX6_writeShared_24 : decode cX6_writeShared 24 = .ok (.aload_n 0, 1) := by decide +kernel
theorem dX6_writeShared_25 : decode cX6_writeShared 25 = .ok (.bipush 33, 2) := by decide +kernel
theorem dX6_writeShared_27 : decode cX6_writeShared 27 = .ok (.invokevirtual 35, 3) := by decide +kernel
theorem dX6_writeShared_30 : decode cX6_writeShared 30 = .ok (.aload_n 0, 1) := by decide +kernel
theorem dX6_writeShared_31 : decode cX6_writeShared 31 = .ok (.aload_n 1, 1) := by decide +kernel
theorem dX6_writeShared_32 : decode cX6_writeShared 32 = .ok (.getfield 45, 3) := by decide +kernel
theorem dX6_writeShared_35 : decode cX6_writeShared 35 = .ok (.invokevirtual 39, 3) := by decide +kernel
theorem dX6_writeShared_38 : decode cX6_writeShared 38 = .ok (.aload_n 0, 1) := by decide +kernel
theorem dX6_writeShared_39 : decode cX6_writeShared 39 = .ok (.aload_n 1, 1) := by decide +kernel
theorem dX6_writeShared_40 : decode cX6_writeShared 40 = .ok (.getfield 49, 3) := by decide +kernel
theorem dX6_writeShared_43 : decode cX6_writeShared 43 = .ok (.invokevirtual 39, 3) := by decide +kernel
theorem dX6_writeShared_46 : decode cX6_writeShared 46 = .ok (.aload_n 0, 1) := by decide +kernel
theorem dX6_writeShared_47 : decode cX6_writeShared 47 = .ok (.aload_n 1, 1) := by decide +kernel
theorem dX6_writeShared_48 : decode cX6_writeShared 48 = .ok (.getfield 52, 3) := by decide +kernel
theorem dX6_writeShared_51 : decode cX6_writeShared 51 = .ok (.invokevirtual 39, 3) := by decide +kernel
theorem dX6_writeShared_54 : decode cX6_writeShared 54 = .ok (.aload_n 0, 1) := by decide +kernel
theorem dX6_writeShared_55 : decode cX6_writeShared 55 = .ok (.aload_n 1, 1) := by decide +kernel
theorem dX6_writeShared_56 : decode cX6_writeShared 56 = .ok (.getfield 21, 3) := by decide +kernel
theorem dX6_writeShared_59 : decode cX6_writeShared 59 = .ok (.invokevirtual 27, 3) := by decide +kernel
theorem dX6_writeShared_62 : decode cX6_writeShared 62 = .ok (.invokevirtual 35, 3) := by decide +kernel
theorem dX6_writeShared_65 : decode cX6_writeShared 65 = .ok (.aload_n 0, 1) := by decide +kernel
theorem dX6_writeShared_66 : decode cX6_writeShared 66 = .ok (.iconst 0, 1) := by decide +kernel
theorem dX6_writeShared_67 : decode cX6_writeShared 67 = .ok (.invokevirtual 35, 3) := by decide +kernel
theorem dX6_writeShared_70 : decode cX6_writeShared 70 = .ok (.return_, 1) := by decide +kernel
theorem dX6_writeEnd_0 : decode cX6_writeEnd 0 = .ok (.aload_n 0, 1) := by decide +kernel
theorem dX6_writeEnd_1 : decode cX6_writeEnd 1 = .ok (.iconst 5, 1) := by decide +kernel
theorem dX6_writeEnd_2 : decode cX6_writeEnd 2 = .ok (.bipush 6, 2) := by decide +kernel
theorem dX6_writeEnd_4 : decode cX6_writeEnd 4 = .ok (.invokevirtual 9, 3) := by decide +kernel
theorem dX6_writeEnd_7 : decode cX6_writeEnd 7 = .ok (.aload_n 0, 1) := by decide +kernel
theorem dX6_writeEnd_8 : decode cX6_writeEnd 8 = .ok (.iconst 0, 1) := by decide +kernel
theorem dX6_writeEnd_9 : decode cX6_writeEnd 9 = .ok (.invokevirtual 35, 3) := by decide +kernel
theorem dX6_writeEnd_12 : decode cX6_writeEnd 12 = .ok (.aload_n 0, 1) := by decide +kernel
theorem dX6_writeEnd_13 : decode cX6_writeEnd 13 = .ok (.iconst 0, 1) := by decide +kernel
theorem dX6_writeEnd_14 : decode cX6_writeEnd 14 = .ok (.invokevirtual 35, 3) := by decide +kernel
theorem dX6_writeEnd_17 : decode cX6_writeEnd 17 = .ok (.aload_n 0, 1) := by decide +kernel
theorem dX6_writeEnd_18 : decode cX6_writeEnd 18 = .ok (.iload_n 1, 1) := by decide +kernel
theorem dX6_writeEnd_19 : decode cX6_writeEnd 19 = .ok (.invokevirtual 35, 3) := by decide +kernel
theorem dX6_writeEnd_22 : decode cX6_writeEnd 22 = .ok (.aload_n 0, 1) := by decide +kernel
theorem dX6_writeEnd_23 : decode cX6_writeEnd 23 = .ok (.iload_n 1, 1) := by decide +kernel
theorem dX6_writeEnd_24 : decode cX6_writeEnd 24 = .ok (.invokevirtual 35, 3) := by decide +kernel
theorem dX6_writeEnd_27 : decode cX6_writeEnd 27 = .ok (.aload_n 0, 1) := by decide +kernel
theorem dX6_writeEnd_28 : decode cX6_writeEnd 28 = .ok (.iload_n 2, 1) := by decide +kernel
theorem dX6_writeEnd_29 : decode cX6_writeEnd 29 = .ok (.invokevirtual 39, 3) := by decide +kernel
theorem dX6_writeEnd_32 : decode cX6_writeEnd 32 = .ok (.aload_n 0, 1) := by decide +kernel
theorem dX6_writeEnd_33 : decode cX6_writeEnd 33 = .ok (.iload_n 3, 1) := by decide +kernel
theorem dX6_writeEnd_34 : decode cX6_writeEnd 34 = .ok (.invokevirtual 39, 3) := by decide +kernel
theorem dX6_writeEnd_37 : decode cX6_writeEnd 37 = .ok (.aload_n 0, 1) := by decide +kernel
theorem dX6_writeEnd_38 : decode cX6_writeEnd 38 = .ok (.iconst 0, 1) := by decide +kernel
theorem dX6_writeEnd_39 : decode cX6_writeEnd 39 = .ok (.invokevirtual 35, 3) := by decide +kernel
theorem dX6_writeEnd_42 : decode cX6_writeEnd 42 = .ok (.return_, 1) := by decide +kernel
theorem dX7_init_0 : decode cX7_init 0 = .ok (.aload_n 0, 1) := by decide +kernel
theorem dX7_init_1 : decode cX7_init 1 = .ok (.invokespecial 1, 3) := by decide +kernel
theorem dX7_init_4 : decode cX7_init 4 = .ok (.aload_n 0, 1) := by decide +kernel
theorem dX7_init_5 : decode cX7_init 5 = .ok (.new 7, 3) := by decide +kernel
theorem dX7_init_8 : decode cX7_init 8 = .ok (.dup, 1) := by decide +kernel
theorem dX7_init_9 : decode cX7_init 9 = .ok (.bipush 20, 2) := by decide +kernel
theorem dX7_init_11 : decode cX7_init 11 = .ok (.invokespecial 11, 3) := by decide +kernel
theorem dX7_init_14 : decode cX7_init 14 = .ok (.putfield 14, 3) := by decide +kernel
theorem dX7_init_17 : decode cX7_init 17 = .ok (.aload_n 0, 1) := by decide +kernel
theorem dX7_init_18 : decode cX7_init 18 = .ok (.new 7, 3) := by decide +kernel
theorem dX7_init_21 : decode cX7_init 21 = .ok (.dup, 1) := by decide +kernel
theorem dX7_init_22 : decode cX7_init 22 = .ok (.sipush 9000, 3) := by decide +kernel
theorem dX7_init_25 : decode cX7_init 25 = .ok (.invokespecial 11, 3) := by decide +kernel
theorem dX7_init_28 : decode cX7_init 28 = .ok (.putfield 18, 3) := by decide +kernel
theorem dX7_init_31 : decode cX7_init 31 = .ok (.aload_n 0, 1) := by decide +kernel
theorem dX7_init_32 : decode cX7_init 32 = .ok (.new 7, 3) := by decide +kernel
theorem dX7_init_35 : decode cX7_init 35 = .ok (.dup, 1) := by decide +kernel
theorem dX7_init_36 : decode cX7_init 36 = .ok (.sipush 9000, 3) := by decide +kernel
theorem dX7_init_39 : decode cX7_init 39 = .ok (.invokespecial 11, 3) := by decide +kernel
theorem dX7_init_42 : decode cX7_init 42 = .ok (.putfield 21, 3) := by decide +kernel
theorem dX7_init_45 : decode cX7_init 45 = .ok (.aload_n 0, 1) := by decide +kernel
theorem dX7_init_46 : decode cX7_init 46 = .ok (.new 24, 3) := by decide +kernel
theorem dX7_init_49 : decode cX7_init 49 = .ok (.dup, 1) := by decide +kernel
theorem dX7_init_50 : decode cX7_init 50 = .ok (.invokespecial 26, 3) := by decide +kernel
theorem dX7_init_53 : decode cX7_init 53 = .ok (.putfield 27, 3) := by decide +kernel
theorem dX7_init_56 : decode cX7_init 56 = .ok (.aload_n 0, 1) := by decide +kernel
theorem dX7_init_57 : decode cX7_init 57 = .ok (.new 31, 3) := by decide +kernel
theorem dX7_init_60 : decode cX7_init 60 = .ok (.dup, 1) := by decide +kernel
theorem dX7_init_61 : decode cX7_init 61 = .ok (.invokespecial 33, 3) := by decide +kernel
theorem dX7_init_64 : decode cX7_init 64 = .ok (.putfield 34, 3) := by decide +kernel
theorem dX7_init_67 : decode cX7_init 67 = .ok (.aload_n 0, 1) := by decide +kernel
theorem dX7_init_68 : decode cX7_init 68 = .ok (.getfield 14, 3) := by decide +kernel
theorem dX7_init_71 : decode cX7_init 71 = .ok (.invokevirtual 38, 3) := by decide +kernel
theorem dX7_init_74 : decode cX7_init 74 = .ok (.return_, 1) := by decide +kernel
theorem dX7_feed_0 : decode cX7_feed 0 = .ok (.aload_n 0, 1) := by decide +kernel
theorem dX7_feed_1 : decode cX7_feed 1 = .ok (.getfield 14, 3) := by decide +kernel
theorem dX7_feed_4 : decode cX7_feed 4 = .ok (.iconst 0, 1) := by decide +kernel
theorem dX7_feed_5 : decode cX7_feed 5 = .ok (.invokevirtual 41, 3) := by decide +kernel
theorem dX7_feed_8 : decode cX7_feed 8 = .ok (.pop, 1) := by decide +kernel
theorem dX7_feed_9 : decode cX7_feed 9 = .ok (.aload_n 0, 1) := by decide +kernel
theorem dX7_feed_10 : decode cX7_feed 10 = .ok (.getfield 14, 3) := by decide +kernel
theorem dX7_feed_13 : decode cX7_feed 13 = .ok (.iload_n 1, 1) := by decide +kernel
theorem dX7_feed_14 : decode cX7_feed 14 = .ok (.invokevirtual 45, 3) := by decide +kernel
theorem dX7_feed_17 : decode cX7_feed 17 = .ok (.aload_n 0, 1) := by decide +kernel
theorem dX7_feed_18 : decode cX7_feed 18 = .ok (.getfield 14, 3) := by decide +kernel
theorem dX7_feed_21 : decode cX7_feed 21 = .ok (.iload_n 2, 1) := by decide +kernel
theorem dX7_feed_22 : decode cX7_feed 22 = .ok (.invokevirtual 45, 3) := by decide +kernel
theorem dX7_feed_25 : decode cX7_feed 25 = .ok (.aload_n 0, 1) := by decide +kernel
theorem dX7_feed_26 : decode cX7_feed 26 = .ok (.getfield 14, 3) := by decide +kernel
theorem dX7_feed_29 : decode cX7_feed 29 = .ok (.iload_n 3, 1) := by decide +kernel
theorem dX7_feed_30 : decode cX7_feed 30 = .ok (.invokevirtual 45, 3) := by decide +kernel
theorem dX7_feed_33 : decode cX7_feed 33 = .ok (.aload_n 0, 1) := by decide +kernel
theorem dX7_feed_34 : decode cX7_feed 34 = .ok (.getfield 14, 3) := by decide +kernel
theorem dX7_feed_37 : decode cX7_feed 37 = .ok (.iload 4, 2) := by decide +kernel
theorem dX7_feed_39 : decode cX7_feed 39 = .ok (.invokevirtual 45, 3) := by decide +kernel
theorem dX7_feed_42 : decode cX7_feed 42 = .ok (.aload_n 0, 1) := by decide +kernel
theorem dX7_feed_43 : decode cX7_feed 43 = .ok (.getfield 14, 3) := by decide +kernel
theorem dX7_feed_46 : decode cX7_feed 46 = .ok (.iload 5, 2) := by decide +kernel
theorem dX7_feed_48 : decode cX7_feed 48 = .ok (.invokevirtual 45, 3) := by decide +kernel
theorem dX7_feed_51 : decode cX7_feed 51 = .ok (.return_, 1) := by decide +kernel
theorem dX7_end_0 : decode cX7_end 0 = .ok (.iload_n 1, 1) := by decide +kernel
theorem dX7_end_1 : decode cX7_end 1 = .ok (.ifCond .lt 33, 3) := by decide +kernel
theorem dX7_end_4 : decode cX7_end 4 = .ok (.iload_n 1, 1) := by decide +kernel
theorem dX7_end_5 : decode cX7_end 5 = .ok (.bipush 20, 2) := by decide +kernel
theorem dX7_end_7 : decode cX7_end 7 = .ok (.if_icmp .gt 27, 3) := by decide +kernel
theorem dX7_end_10 : decode cX7_end 10 = .ok (.iload_n 2, 1) := by decide +kernel
theorem dX7_end_11 : decode cX7_end 11 = .ok (.iconst 1, 1) := by decide +kernel
theorem dX7_end_12 : decode cX7_end 12 = .ok (.if_icmp .lt 22, 3) := by decide +kernel
theorem dX7_end_15 : decode cX7_end 15 = .ok (.iload_n 2, 1) := by decide +kernel
theorem dX7_end_16 : decode cX7_end 16 = .ok (.bipush 100, 2) := by decide +kernel
theorem dX7_end_18 : decode cX7_end 18 = .ok (.if_icmp .gt 16, 3) := by decide +kernel
theorem dX7_end_21 : decode cX7_end 21 = .ok (.iload_n 1, 1) := by decide +kernel
theorem dX7_end_22 : decode cX7_end 22 = .ok (.iload_n 2, 1) := by decide +kernel
theorem dX7_end_23 : decode cX7_end 23 = .ok (.imul, 1) := by decide +kernel
theorem dX7_end_24 : decode cX7_end 24 = .ok (.aload_n 0, 1) := by decide +kernel
theorem dX7_end_25 : decode cX7_end 25 = .ok (.getfield 18, 3) := by decide +kernel
theorem dX7_end_28 : decode cX7_end 28 = .ok (.invokevirtual 48, 3) := by decide +kernel
theorem dX7_end_31 : decode cX7_end 31 = .ok (.if_icmp .le 5, 3) := by decide +kernel
theorem dX7_end_34 : decode cX7_end 34 = .ok (.iconst (-1), 1) := by decide +kernel
theorem dX7_end_35 : decode cX7_end 35 = .ok (.ireturn, 1) := by decide +kernel
theorem dX7_end_36 : decode cX7_end 36 = .ok (.iconst 0, 1) := by decide +kernel
theorem dX7_end_37 : decode cX7_end 37 = .ok (.istore_n 3, 1) := by decide +kernel
theorem dX7_end_38 : decode cX7_end 38 = .ok (.iload_n 3, 1) := by decide +kernel
theorem dX7_end_39 : decode cX7_end 39 = .ok (.iload_n 2, 1) := by decide +kernel
theorem dX7_end_40 : decode cX7_end 40 = .ok (.if_icmp .ge 22, 3) := by decide +kernel
theorem dX7_end_43 : decode cX7_end 43 = .ok (.aload_n 0, 1) := by decide +kernel
theorem dX7_end_44 : decode cX7_end 44 = .ok (.getfield 18, 3) := by decide +kernel
theorem dX7_end_47 : decode cX7_end 47 = .ok (.aload_n 0, 1) := by decide +kernel
theorem dX7_end_48 : decode cX7_end 48 = .ok (.getfield 14, 3) := by decide +kernel
theorem dX7_end_51 : decode cX7_end 51 = .ok (.iconst 0, 1) := by decide +kernel
theorem dX7_end_52 : decode cX7_end 52 = .ok (.iload_n 1, 1) := by decide +kernel
theorem dX7_end_53 : decode cX7_end 53 = .ok (.invokevirtual 52, 3) := by decide +kernel
theorem dX7_end_56 : decode cX7_end 56 = .ok (.iinc 3 1, 3) := by decide +kernel
theorem dX7_end_59 : decode cX7_end 59 = .ok (.goto (-21), 3) := by decide +kernel
theorem dX7_end_62 : decode cX7_end 62 = .ok (.aload_n 0, 1) := by decide +kernel
theorem dX7_end_63 : decode cX7_end 63 = .ok (.getfield 14, 3) := by decide +kernel
theorem dX7_end_66 : decode cX7_end 66 = .ok (.invokevirtual 38, 3) := by decide +kernel
theorem dX7_end_69 : decode cX7_end 69 = .ok (.aload_n 0, 1) := by decide +kernel
theorem dX7_end_70 : decode cX7_end 70 = .ok (.getfield 18, 3) := by decide +kernel
theorem dX7_end_73 : decode cX7_end 73 = .ok (.invokevirtual 56, 3) := by decide +kernel
theorem dX7_end_76 : decode cX7_end 76 = .ok (.ireturn, 1) := by decide +kernel
theorem dX7_cut_0 : decode cX7_cut 0 = .ok (.aload_n 0, 1) := by decide +kernel
theorem dX7_cut_1 : decode cX7_cut 1 = .ok (.getfield 18, 3) := by decide +kernel
theorem dX7_cut_4 : decode cX7_cut 4 = .ok (.iload_n 1, 1) := by decide +kernel
theorem dX7_cut_5 : decode cX7_cut 5 = .ok (.invokevirtual 41, 3) := by decide +kernel
theorem dX7_cut_8 : decode cX7_cut 8 = .ok (.ireturn, 1) := by decide +kernel
theorem dX7_drop_0 : decode cX7_drop 0 = .ok (.aload_n 0, 1) := by decide +kernel
theorem dX7_drop_1 : decode cX7_drop 1 = .ok (.getfield 18, 3) := by decide +kernel
theorem dX7_drop_4 : decode cX7_drop 4 = .ok (.iconst 0, 1) := by decide +kernel
theorem dX7_drop_5 : decode cX7_drop 5 = .ok (.iload_n 1, 1) := by decide +kernel
theorem dX7_drop_6 : decode cX7_drop 6 = .ok (.invokevirtual 59, 3) := by decide +kernel
theorem dX7_drop_9 : decode cX7_drop 9 = .ok (.ireturn, 1) := by decide +kernel
theorem dX7_flip_0 : decode cX7_flip 0 = .ok (.aload_n 0, 1) := by decide +kernel
theorem dX7_flip_1 : decode cX7_flip 1 = .ok (.getfield 18, 3) := by decide +kernel
theorem dX7_flip_4 : decode cX7_flip 4 = .ok (.iload_n 1, 1) := by decide +kernel
theorem dX7_flip_5 : decode cX7_flip 5 = .ok (.iload_n 2, 1) := by decide +kernel
theorem dX7_flip_6 : decode cX7_flip 6 = .ok (.invokevirtual 63, 3) := by decide +kernel
theorem dX7_flip_9 : decode cX7_flip 9 = .ok (.ireturn, 1) := by decide +kernel
theorem dX7_take_0 : decode cX7_take 0 = .ok (.aload_n 0, 1) := by decide +kernel
theorem dX7_take_1 : decode cX7_take 1 = .ok (.getfield 21, 3) := by decide +kernel
theorem dX7_take_4 : decode cX7_take 4 = .ok (.invokevirtual 56, 3) := by decide +kernel
theorem dX7_take_7 : decode cX7_take 7 = .ok (.aload_n 0, 1) := by decide +kernel
theorem dX7_take_8 : decode cX7_take 8 = .ok (.getfield 18, 3) := by decide +kernel
theorem dX7_take_11 : decode cX7_take 11 = .ok (.invokevirtual 48, 3) := by decide +kernel
theorem dX7_take_14 : decode cX7_take 14 = .ok (.if_icmp .le 13, 3) := by decide +kernel
theorem dX7_take_17 : decode cX7_take 17 = .ok (.new 66, 3) := by decide +kernel
theorem dX7_take_20 : decode cX7_take 20 = .ok (.dup, 1) := by decide +kernel
theorem dX7_take_21 : decode cX7_take 21 = .ok (.ldc 68, 2) := by decide +kernel
theorem dX7_take_23 : decode cX7_take 23 = .ok (.invokespecial 70, 3) := by decide +kernel
theorem dX7_take_26 : decode cX7_take 26 = .ok (.athrow, 1) := by decide +kernel
theorem dX7_take_27 : decode cX7_take 27 = .ok (.aload_n 0, 1) := by decide +kernel
theorem dX7_take_28 : decode cX7_take 28 = .ok (.getfield 18, 3) := by decide +kernel
theorem dX7_take_31 : decode cX7_take 31 = .ok (.aload_n 0, 1) := by decide +kernel
theorem dX7_take_32 : decode cX7_take 32 = .ok (.getfield 21, 3) := by decide +kernel
theorem dX7_take_35 : decode cX7_take 35 = .ok (.iconst 0, 1) := by decide +kernel
theorem dX7_take_36 : decode cX7_take 36 = .ok (.aload_n 0, 1) := by decide +kernel
theorem dX7_take_37 : decode cX7_take 37 = .ok (.getfield 21, 3) := by decide +kernel
theorem dX7_take_40 : decode cX7_take 40 = .ok (.invokevirtual 56, 3) := by decide +kernel
theorem dX7_take_43 : decode cX7_take 43 = .ok (.invokevirtual 52, 3) := by decide +kernel
theorem dX7_take_46 : decode cX7_take 46 = .ok (.aload_n 0, 1) := by decide +kernel
theorem dX7_take_47 : decode cX7_take 47 = .ok (.getfield 18, 3) := by decide +kernel
theorem dX7_take_50 : decode cX7_take 50 = .ok (.invokevirtual 56, 3) := by decide +kernel
theorem dX7_take_53 : decode cX7_take 53 = .ok (.ireturn, 1) := by decide +kernel
theorem dX7_add_0 : decode cX7_add 0 = .ok (.aload_n 0, 1) := by decide +kernel
theorem dX7_add_1 : decode cX7_add 1 = .ok (.getfield 18, 3) := by decide +kernel
theorem dX7_add_4 : decode cX7_add 4 = .ok (.iconst 0, 1) := by decide +kernel
theorem dX7_add_5 : decode cX7_add 5 = .ok (.iload_n 1, 1) := by decide +kernel
theorem dX7_add_6 : decode cX7_add 6 = .ok (.invokevirtual 73, 3) := by decide +kernel
theorem dX7_add_9 : decode cX7_add 9 = .ok (.ifCond .ne 13, 3) := by decide +kernel
theorem dX7_add_12 : decode cX7_add 12 = .ok (.new 76, 3) := by decide +kernel
theorem dX7_add_15 : decode cX7_add 15 = .ok (.dup, 1) := by decide +kernel
theorem dX7_add_16 : decode cX7_add 16 = .ok (.ldc 78, 2) := by decide +kernel
theorem dX7_add_18 : decode cX7_add 18 = .ok (.invokespecial 80, 3) := by decide +kernel
theorem dX7_add_21 : decode cX7_add 21 = .ok (.athrow, 1) := by decide +kernel
theorem dX7_add_22 : decode cX7_add 22 = .ok (.aload_n 0, 1) := by decide +kernel
theorem dX7_add_23 : decode cX7_add 23 = .ok (.getfield 18, 3) := by decide +kernel
theorem dX7_add_26 : decode cX7_add 26 = .ok (.invokevirtual 56, 3) := by decide +kernel
theorem dX7_add_29 : decode cX7_add 29 = .ok (.iload_n 1, 1) := by decide +kernel
theorem dX7_add_30 : decode cX7_add 30 = .ok (.isub, 1) := by decide +kernel
theorem dX7_add_31 : decode cX7_add 31 = .ok (.istore_n 2, 1) := by decide +kernel
theorem dX7_add_32 : decode cX7_add 32 = .ok (.iload_n 2, 1) := by decide +kernel
theorem dX7_add_33 : decode cX7_add 33 = .ok (.sipush 1500, 3) := by decide +kernel
theorem dX7_add_36 : decode cX7_add 36 = .ok (.if_icmp .le 13, 3) := by decide +kernel
theorem dX7_add_39 : decode cX7_add 39 = .ok (.new 76, 3) := by decide +kernel
theorem dX7_add_42 : decode cX7_add 42 = .ok (.dup, 1) := by decide +kernel
theorem dX7_add_43 : decode cX7_add 43 = .ok (.ldc 81, 2) := by decide +kernel
theorem dX7_add_45 : decode cX7_add 45 = .ok (.invokespecial 80, 3) := by decide +kernel
theorem dX7_add_48 : decode cX7_add 48 = .ok (.athrow, 1) := by decide +kernel
theorem dX7_add_49 : decode cX7_add 49 = .ok (.aload_n 0, 1) := by decide +kernel
theorem dX7_add_50 : decode cX7_add 50 = .ok (.getfield 27, 3) := by decide +kernel
theorem dX7_add_53 : decode cX7_add 53 = .ok (.aload_n 0, 1) := by decide +kernel
theorem dX7_add_54 : decode cX7_add 54 = .ok (.getfield 18, 3) := by decide +kernel
theorem dX7_add_57 : decode cX7_add 57 = .ok (.iconst 0, 1) := by decide +kernel
theorem dX7_add_58 : decode cX7_add 58 = .ok (.iload_n 1, 1) := by decide +kernel
theorem dX7_add_59 : decode cX7_add 59 = .ok (.invokevirtual 83, 3) := by decide +kernel
theorem dX7_add_62 : decode cX7_add 62 = .ok (.iconst (-1), 1) := by decide +kernel
theorem dX7_add_63 : decode cX7_add 63 = .ok (.if_icmp .eq 13, 3) := by decide +kernel
theorem dX7_add_66 : decode cX7_add 66 = .ok (.new 66, 3) := by decide +kernel
theorem dX7_add_69 : decode cX7_add 69 = .ok (.dup, 1) := by decide +kernel
theorem dX7_add_70 : decode cX7_add 70 = .ok (.ldc 87, 2) := by decide +kernel
theorem dX7_add_72 : decode cX7_add 72 = .ok (.invokespecial 70, 3) := by decide +kernel
theorem dX7_add_75 : decode cX7_add 75 = .ok (.athrow, 1) := by decide +kernel
theorem dX7_add_76 : decode cX7_add 76 = .ok (.aload_n 0, 1) := by decide +kernel
theorem dX7_add_77 : decode cX7_add 77 = .ok (.getfield 27, 3) := by decide +kernel
theorem dX7_add_80 : decode cX7_add 80 = .ok (.iconst (-1), 1) := by decide +kernel
theorem dX7_add_81 : decode cX7_add 81 = .ok (.iload_n 2, 1) := by decide +kernel
theorem dX7_add_82 : decode cX7_add 82 = .ok (.invokevirtual 89, 3) := by decide +kernel
theorem dX7_add_85 : decode cX7_add 85 = .ok (.ifCond .ne 13, 3) := by decide +kernel
theorem dX7_add_88 : decode cX7_add 88 = .ok (.new 66, 3) := by decide +kernel
theorem dX7_add_91 : decode cX7_add 91 = .ok (.dup, 1) := by decide +kernel
theorem dX7_add_92 : decode cX7_add 92 = .ok (.ldc 92, 2) := by decide +kernel
theorem dX7_add_94 : decode cX7_add 94 = .ok (.invokespecial 70, 3) := by decide +kernel
theorem dX7_add_97 : decode cX7_add 97 = .ok (.athrow, 1) := by decide +kernel
theorem dX7_add_98 : decode cX7_add 98 = .ok (.aload_n 0, 1) := by decide +kernel
theorem dX7_add_99 : decode cX7_add 99 = .ok (.getfield 27, 3) := by decide +kernel
theorem dX7_add_102 : decode cX7_add 102 = .ok (.aload_n 0, 1) := by decide +kernel
theorem dX7_add_103 : decode cX7_add 103 = .ok (.getfield 18, 3) := by decide +kernel
theorem dX7_add_106 : decode cX7_add 106 = .ok (.iconst 0, 1) := by decide +kernel
theorem dX7_add_107 : decode cX7_add 107 = .ok (.iload_n 1, 1) := by decide +kernel
theorem dX7_add_108 : decode cX7_add 108 = .ok (.aload_n 0, 1) := by decide +kernel
theorem dX7_add_109 : decode cX7_add 109 = .ok (.getfield 18, 3) := by decide +kernel
theorem dX7_add_112 : decode cX7_add 112 = .ok (.iload_n 1, 1) := by decide +kernel
theorem dX7_add_113 : decode cX7_add 113 = .ok (.iload_n 2, 1) := by decide +kernel
theorem dX7_add_114 : decode cX7_add 114 = .ok (.invokevirtual 94, 3) := by decide +kernel
theorem dX7_add_117 : decode cX7_add 117 = .ok (.aload_n 0, 1) := by decide +kernel
theorem dX7_add_118 : decode cX7_add 118 = .ok (.getfield 18, 3) := by decide +kernel
theorem dX7_add_121 : decode cX7_add 121 = .ok (.iconst 0, 1) := by decide +kernel
theorem dX7_add_122 : decode cX7_add 122 = .ok (.invokevirtual 41, 3) := by decide +kernel
theorem dX7_add_125 : decode cX7_add 125 = .ok (.pop, 1) := by decide +kernel
theorem dX7_add_126 : decode cX7_add 126 = .ok (.aload_n 0, 1) := by decide +kernel
theorem dX7_add_127 : decode cX7_add 127 = .ok (.getfield 27, 3) := by decide +kernel
theorem dX7_add_130 : decode cX7_add 130 = .ok (.invokevirtual 98, 3) := by decide +kernel
theorem dX7_add_133 : decode cX7_add 133 = .ok (.iconst 1, 1) := by decide +kernel
theorem dX7_add_134 : decode cX7_add 134 = .ok (.isub, 1) := by decide +kernel
theorem dX7_add_135 : decode cX7_add 135 = .ok (.ireturn, 1) := by decide +kernel
theorem dX7_replace_0 : decode cX7_replace 0 = .ok (.aload_n 0, 1) := by decide +kernel
theorem dX7_replace_1 : decode cX7_replace 1 = .ok (.getfield 27, 3) := by decide +kernel
theorem dX7_replace_4 : decode cX7_replace 4 = .ok (.iload_n 1, 1) := by decide +kernel
theorem dX7_replace_5 : decode cX7_replace 5 = .ok (.invokevirtual 101, 3) := by decide +kernel
theorem dX7_replace_8 : decode cX7_replace 8 = .ok (.ifnonnull 13, 3) := by decide +kernel
theorem dX7_replace_11 : decode cX7_replace 11 = .ok (.new 105, 3) := by decide +kernel
theorem dX7_replace_14 : decode cX7_replace 14 = .ok (.dup, 1) := by decide +kernel
theorem dX7_replace_15 : decode cX7_replace 15 = .ok (.ldc 107, 2) := by decide +kernel
theorem dX7_replace_17 : decode cX7_replace 17 = .ok (.invokespecial 109, 3) := by decide +kernel
theorem dX7_replace_20 : decode cX7_replace 20 = .ok (.athrow, 1) := by decide +kernel
theorem dX7_replace_21 : decode cX7_replace 21 = .ok (.aload_n 0, 1) := by decide +kernel
theorem dX7_replace_22 : decode cX7_replace 22 = .ok (.getfield 18, 3) := by decide +kernel
theorem dX7_replace_25 : decode cX7_replace 25 = .ok (.invokevirtual 56, 3) := by decide +kernel
theorem dX7_replace_28 : decode cX7_replace 28 = .ok (.sipush 1500, 3) := by decide +kernel
theorem dX7_replace_31 : decode cX7_replace 31 = .ok (.if_icmp .le 13, 3) := by decide +kernel
theorem dX7_replace_34 : decode cX7_replace 34 = .ok (.new 76, 3) := by decide +kernel
theorem dX7_replace_37 : decode cX7_replace 37 = .ok (.dup, 1) := by decide +kernel
theorem dX7_replace_38 : decode cX7_replace 38 = .ok (.ldc 81, 2) := by decide +kernel
theorem dX7_replace_40 : decode cX7_replace 40 = .ok (.invokespecial 80, 3) := by decide +kernel
theorem dX7_replace_43 : decode cX7_replace 43 = .ok (.athrow, 1) := by decide +kernel
theorem dX7_replace_44 : decode cX7_replace 44 = .ok (.aload_n 0, 1) := by decide +kernel
theorem dX7_replace_45 : decode cX7_replace 45 = .ok (.getfield 27, 3) := by decide +kernel
theorem dX7_replace_48 : decode cX7_replace 48 = .ok (.iload_n 1, 1) := by decide +kernel
theorem dX7_replace_49 : decode cX7_replace 49 = .ok (.aload_n 0, 1) := by decide +kernel
theorem dX7_replace_50 : decode cX7_replace 50 = .ok (.getfield 18, 3) := by decide +kernel
theorem dX7_replace_53 : decode cX7_replace 53 = .ok (.invokevirtual 56, 3) := by decide +kernel
theorem dX7_replace_56 : decode cX7_replace 56 = .ok (.invokevirtual 89, 3) := by decide +kernel
theorem dX7_replace_59 : decode cX7_replace 59 = .ok (.ifCond .ne 13, 3) := by decide +kernel
theorem dX7_replace_62 : decode cX7_replace 62 = .ok (.new 66, 3) := by decide +kernel
theorem dX7_replace_65 : decode cX7_replace 65 = .ok (.dup, 1) := by decide +kernel
theorem dX7_replace_66 : decode cX7_replace 66 = .ok (.ldc 110, 2) := by decide +kernel
theorem dX7_replace_68 : decode cX7_replace 68 = .ok (.invokespecial 70, 3) := by decide +kernel
theorem dX7_replace_71 : decode cX7_replace 71 = .ok (.athrow, 1) := by decide +kernel
theorem dX7_replace_72 : decode cX7_replace 72 = .ok (.aload_n 0, 1) := by decide +kernel
theorem dX7_replace_73 : decode cX7_replace 73 = .ok (.getfield 27, 3) := by decide +kernel
theorem dX7_replace_76 : decode cX7_replace 76 = .ok (.iload_n 1, 1) := by decide +kernel
theorem dX7_replace_77 : decode cX7_replace 77 = .ok (.aload_n 0, 1) := by decide +kernel
theorem dX7_replace_78 : decode cX7_replace 78 = .ok (.getfield 18, 3) := by decide +kernel
theorem dX7_replace_81 : decode cX7_replace 81 = .ok (.invokevirtual 112, 3) := by decide +kernel
theorem dX7_replace_84 : decode cX7_replace 84 = .ok (.aload_n 0, 1) := by decide +kernel
theorem dX7_replace_85 : decode cX7_replace 85 = .ok (.getfield 18, 3) := by decide +kernel
theorem dX7_replace_88 : decode cX7_replace 88 = .ok (.iconst 0, 1) := by decide +kernel
theorem dX7_replace_89 : decode cX7_replace 89 = .ok (.invokevirtual 41, 3) := by decide +kernel
theorem dX7_replace_92 : decode cX7_replace 92 = .ok (.pop, 1) := by decide +kernel
theorem dX7_replace_93 : decode cX7_replace 93 = .ok (.return_, 1) := by decide +kernel
theorem dX7_rename_0 : decode cX7_rename 0 = .ok (.aload_n 0, 1) := by decide +kernel
theorem dX7_rename_1 : decode cX7_rename 1 = .ok (.getfield 27, 3) := by decide +kernel
theorem dX7_rename_4 : decode cX7_rename 4 = .ok (.iload_n 1, 1) := by decide +kernel
theorem dX7_rename_5 : decode cX7_rename 5 = .ok (.invokevirtual 101, 3) := by decide +kernel
theorem dX7_rename_8 : decode cX7_rename 8 = .ok (.ifnonnull 13, 3) := by decide +kernel
theorem dX7_rename_11 : decode cX7_rename 11 = .ok (.new 105, 3) := by decide +kernel
theorem dX7_rename_14 : decode cX7_rename 14 = .ok (.dup, 1) := by decide +kernel
theorem dX7_rename_15 : decode cX7_rename 15 = .ok (.ldc 107, 2) := by decide +kernel
theorem dX7_rename_17 : decode cX7_rename 17 = .ok (.invokespecial 109, 3) := by decide +kernel
theorem dX7_rename_20 : decode cX7_rename 20 = .ok (.athrow, 1) := by decide +kernel
theorem dX7_rename_21 : decode cX7_rename 21 = .ok (.aload_n 0, 1) := by decide +kernel
theorem dX7_rename_22 : decode cX7_rename 22 = .ok (.getfield 18, 3) := by decide +kernel
theorem dX7_rename_25 : decode cX7_rename 25 = .ok (.iconst 0, 1) := by decide +kernel
theorem dX7_rename_26 : decode cX7_rename 26 = .ok (.aload_n 0, 1) := by decide +kernel
theorem dX7_rename_27 : decode cX7_rename 27 = .ok (.getfield 18, 3) := by decide +kernel
theorem dX7_rename_30 : decode cX7_rename 30 = .ok (.invokevirtual 56, 3) := by decide +kernel
theorem dX7_rename_33 : decode cX7_rename 33 = .ok (.invokevirtual 73, 3) := by decide +kernel
theorem dX7_rename_36 : decode cX7_rename 36 = .ok (.ifCond .ne 13, 3) := by decide +kernel
theorem dX7_rename_39 : decode cX7_rename 39 = .ok (.new 76, 3) := by decide +kernel
theorem dX7_rename_42 : decode cX7_rename 42 = .ok (.dup, 1) := by decide +kernel
theorem dX7_rename_43 : decode cX7_rename 43 = .ok (.ldc 78, 2) := by decide +kernel
theorem dX7_rename_45 : decode cX7_rename 45 = .ok (.invokespecial 80, 3) := by decide +kernel
theorem dX7_rename_48 : decode cX7_rename 48 = .ok (.athrow, 1) := by decide +kernel
theorem dX7_rename_49 : decode cX7_rename 49 = .ok (.aload_n 0, 1) := by decide +kernel
theorem dX7_rename_50 : decode cX7_rename 50 = .ok (.getfield 27, 3) := by decide +kernel
theorem dX7_rename_53 : decode cX7_rename 53 = .ok (.aload_n 0, 1) := by decide +kernel
theorem dX7_rename_54 : decode cX7_rename 54 = .ok (.getfield 18, 3) := by decide +kernel
theorem dX7_rename_57 : decode cX7_rename 57 = .ok (.iconst 0, 1) := by decide +kernel
theorem dX7_rename_58 : decode cX7_rename 58 = .ok (.aload_n 0, 1) := by decide +kernel
theorem dX7_rename_59 : decode cX7_rename 59 = .ok (.getfield 18, 3) := by decide +kernel
theorem dX7_rename_62 : decode cX7_rename 62 = .ok (.invokevirtual 56, 3) := by decide +kernel
theorem dX7_rename_65 : decode cX7_rename 65 = .ok (.invokevirtual 83, 3) := by decide +kernel
theorem dX7_rename_68 : decode cX7_rename 68 = .ok (.istore_n 2, 1) := by decide +kernel
theorem dX7_rename_69 : decode cX7_rename 69 = .ok (.iload_n 2, 1) := by decide +kernel
theorem dX7_rename_70 : decode cX7_rename 70 = .ok (.iconst (-1), 1) := by decide +kernel
theorem dX7_rename_71 : decode cX7_rename 71 = .ok (.if_icmp .eq 18, 3) := by decide +kernel
theorem dX7_rename_74 : decode cX7_rename 74 = .ok (.iload_n 2, 1) := by decide +kernel
theorem dX7_rename_75 : decode cX7_rename 75 = .ok (.iload_n 1, 1) := by decide +kernel
theorem dX7_rename_76 : decode cX7_rename 76 = .ok (.if_icmp .eq 13, 3) := by decide +kernel
theorem dX7_rename_79 : decode cX7_rename 79 = .ok (.new 66, 3) := by decide +kernel
theorem dX7_rename_82 : decode cX7_rename 82 = .ok (.dup, 1) := by decide +kernel
theorem dX7_rename_83 : decode cX7_rename 83 = .ok (.ldc 87, 2) := by decide +kernel
theorem dX7_rename_85 : decode cX7_rename 85 = .ok (.invokespecial 70, 3) := by decide +kernel
theorem dX7_rename_88 : decode cX7_rename 88 = .ok (.athrow, 1) := by decide +kernel
theorem dX7_rename_89 : decode cX7_rename 89 = .ok (.aload_n 0, 1) := by decide +kernel
theorem dX7_rename_90 : decode cX7_rename 90 = .ok (.getfield 27, 3) := by decide +kernel
theorem dX7_rename_93 : decode cX7_rename 93 = .ok (.iload_n 1, 1) := by decide +kernel
theorem dX7_rename_94 : decode cX7_rename 94 = .ok (.aload_n 0, 1) := by decide +kernel
theorem dX7_rename_95 : decode cX7_rename 95 = .ok (.getfield 18, 3) := by decide +kernel
theorem dX7_rename_98 : decode cX7_rename 98 = .ok (.invokevirtual 116, 3) := by decide +kernel
theorem dX7_rename_101 : decode cX7_rename 101 = .ok (.aload_n 0, 1) := by decide +kernel
theorem dX7_rename_102 : decode cX7_rename 102 = .ok (.getfield 18, 3) := by decide +kernel
theorem dX7_rename_105 : decode cX7_rename 105 = .ok (.iconst 0, 1) := by decide +kernel
theorem dX7_rename_106 : decode cX7_rename 106 = .ok (.invokevirtual 41, 3) := by decide +kernel
theorem dX7_rename_109 : decode cX7_rename 109 = .ok (.pop, 1) := by decide +kernel
theorem dX7_rename_110 : decode cX7_rename 110 = .ok (.return_, 1) := by decide +kernel
theorem dX7_remove_0 : decode cX7_remove 0 = .ok (.aload_n 0, 1) := by decide +kernel
theorem dX7_remove_1 : decode cX7_remove 1 = .ok (.getfield 27, 3) := by decide +kernel
theorem dX7_remove_4 : decode cX7_remove 4 = .ok (.iload_n 1, 1) := by decide +kernel
theorem dX7_remove_5 : decode cX7_remove 5 = .ok (.invokevirtual 101, 3) := by decide +kernel
theorem dX7_remove_8 : decode cX7_remove 8 = .ok (.ifnonnull 13, 3) := by decide +kernel
theorem dX7_remove_11 : decode cX7_remove 11 = .ok (.new 105, 3) := by decide +kernel
theorem dX7_remove_14 : decode cX7_remove 14 = .ok (.dup, 1) := by decide +kernel
theorem dX7_remove_15 : decode cX7_remove 15 = .ok (.ldc 107, 2) := by decide +kernel
theorem dX7_remove_17 : decode cX7_remove 17 = .ok (.invokespecial 109, 3) := by decide +kernel
theorem dX7_remove_20 : decode cX7_remove 20 = .ok (.athrow, 1) := by decide +kernel
theorem dX7_remove_21 : decode cX7_remove 21 = .ok (.aload_n 0, 1) := by decide +kernel
theorem dX7_remove_22 : decode cX7_remove 22 = .ok (.getfield 27, 3) := by decide +kernel
theorem dX7_remove_25 : decode cX7_remove 25 = .ok (.iload_n 1, 1) := by decide +kernel
theorem dX7_remove_26 : decode cX7_remove 26 = .ok (.invokevirtual 119, 3) := by decide +kernel
theorem dX7_remove_29 : decode cX7_remove 29 = .ok (.return_, 1) := by decide +kernel
theorem dX7_sort_0 : decode cX7_sort 0 = .ok (.aload_n 0, 1) := by decide +kernel
theorem dX7_sort_1 : decode cX7_sort 1 = .ok (.getfield 27, 3) := by decide +kernel
theorem dX7_sort_4 : decode cX7_sort 4 = .ok (.invokevirtual 122, 3) := by decide +kernel
theorem dX7_sort_7 : decode cX7_sort 7 = .ok (.return_, 1) := by decide +kernel
theorem dX7_clear_0 : decode cX7_clear 0 = .ok (.aload_n 0, 1) := by decide +kernel
theorem dX7_clear_1 : decode cX7_clear 1 = .ok (.getfield 27, 3) := by decide +kernel
theorem dX7_clear_4 : decode cX7_clear 4 = .ok (.invokevirtual 125, 3) := by decide +kernel
theorem dX7_clear_7 : decode cX7_clear 7 = .ok (.return_, 1) := by decide +kernel
theorem dX7_make_0 : decode cX7_make 0 = .ok (.aload_n 0, 1) := by decide +kernel
theorem dX7_make_1 : decode cX7_make 1 = .ok (.getfield 21, 3) := by decide +kernel
theorem dX7_make_4 : decode cX7_make 4 = .ok (.iconst 0, 1) := by decide +kernel
theorem dX7_make_5 : decode cX7_make 5 = .ok (.invokevirtual 41, 3) := by decide +kernel
theorem dX7_make_8 : decode cX7_make 8 = .ok (.pop, 1) := by decide +kernel
theorem dX7_make_9 : decode cX7_make 9 = .ok (.aload_n 0, 1) := by decide +kernel
theorem dX7_make_10 : decode cX7_make 10 = .ok (.getfield 27, 3) := by decide +kernel
theorem dX7_make_13 : decode cX7_make 13 = .ok (.aload_n 0, 1) := by decide +kernel
theorem dX7_make_14 : decode cX7_make 14 = .ok (.getfield 21, 3) := by decide +kernel
theorem dX7_make_17 : decode cX7_make 17 = .ok (.invokevirtual 128, 3) := by decide +kernel
theorem dX7_make_20 : decode cX7_make 20 = .ok (.aload_n 0, 1) := by decide +kernel
theorem dX7_make_21 : decode cX7_make 21 = .ok (.getfield 21, 3) := by decide +kernel
theorem dX7_make_24 : decode cX7_make 24 = .ok (.invokevirtual 56, 3) := by decide +kernel
theorem dX7_make_27 : decode cX7_make 27 = .ok (.istore_n 1, 1) := by decide +kernel
theorem dX7_make_28 : decode cX7_make 28 = .ok (.aload_n 0, 1) := by decide +kernel
theorem dX7_make_29 : decode cX7_make 29 = .ok (.getfield 27, 3) := by decide +kernel
theorem dX7_make_32 : decode cX7_make 32 = .ok (.aload_n 0, 1) := by decide +kernel
theorem dX7_make_33 : decode cX7_make 33 = .ok (.getfield 21, 3) := by decide +kernel
theorem dX7_make_36 : decode cX7_make 36 = .ok (.invokevirtual 132, 3) := by decide +kernel
theorem dX7_make_39 : decode cX7_make 39 = .ok (.aload_n 0, 1) := by decide +kernel
theorem dX7_make_40 : decode cX7_make 40 = .ok (.getfield 21, 3) := by decide +kernel
theorem dX7_make_43 : decode cX7_make 43 = .ok (.invokevirtual 56, 3) := by decide +kernel
theorem dX7_make_46 : decode cX7_make 46 = .ok (.iload_n 1, 1) := by decide +kernel
theorem dX7_make_47 : decode cX7_make 47 = .ok (.isub, 1) := by decide +kernel
theorem dX7_make_48 : decode cX7_make 48 = .ok (.istore_n 2, 1) := by decide +kernel
theorem dX7_make_49 : decode cX7_make 49 = .ok (.aload_n 0, 1) := by decide +kernel
theorem dX7_make_50 : decode cX7_make 50 = .ok (.getfield 21, 3) := by decide +kernel
theorem dX7_make_53 : decode cX7_make 53 = .ok (.aload_n 0, 1) := by decide +kernel
theorem dX7_make_54 : decode cX7_make 54 = .ok (.getfield 27, 3) := by decide +kernel
theorem dX7_make_57 : decode cX7_make 57 = .ok (.invokevirtual 98, 3) := by decide +kernel
theorem dX7_make_60 : decode cX7_make 60 = .ok (.iload_n 2, 1) := by decide +kernel
theorem dX7_make_61 : decode cX7_make 61 = .ok (.iload_n 1, 1) := by decide +kernel
theorem dX7_make_62 : decode cX7_make 62 = .ok (.invokestatic 135, 3) := by decide +kernel
theorem dX7_make_65 : decode cX7_make 65 = .ok (.aload_n 0, 1) := by decide +kernel
theorem dX7_make_66 : decode cX7_make 66 = .ok (.getfield 21, 3) := by decide +kernel
theorem dX7_make_69 : decode cX7_make 69 = .ok (.invokevirtual 56, 3) := by decide +kernel
theorem dX7_make_72 : decode cX7_make 72 = .ok (.ireturn, 1) := by decide +kernel
theorem dX7_read_0 : decode cX7_read 0 = .ok (.aload_n 0, 1) := by decide +kernel
theorem dX7_read_1 : decode cX7_read 1 = .ok (.getfield 34, 3) := by decide +kernel
theorem dX7_read_4 : decode cX7_read 4 = .ok (.aload_n 0, 1) := by decide +kernel
theorem dX7_read_5 : decode cX7_read 5 = .ok (.getfield 18, 3) := by decide +kernel
theorem dX7_read_8 : decode cX7_read 8 = .ok (.invokevirtual 141, 3) := by decide +kernel
theorem dX7_read_11 : decode cX7_read 11 = .ok (.ifCond .ne 13, 3) := by decide +kernel
theorem dX7_read_14 : decode cX7_read 14 = .ok (.new 76, 3) := by decide +kernel
theorem dX7_read_17 : decode cX7_read 17 = .ok (.dup, 1) := by decide +kernel
theorem dX7_read_18 : decode cX7_read 18 = .ok (.ldc 145, 2) := by decide +kernel
theorem dX7_read_20 : decode cX7_read 20 = .ok (.invokespecial 80, 3) := by decide +kernel
theorem dX7_read_23 : decode cX7_read 23 = .ok (.athrow, 1) := by decide +kernel
theorem dX7_read_24 : decode cX7_read 24 = .ok (.aload_n 0, 1) := by decide +kernel
theorem dX7_read_25 : decode cX7_read 25 = .ok (.getfield 27, 3) := by decide +kernel
theorem dX7_read_28 : decode cX7_read 28 = .ok (.invokevirtual 125, 3) := by decide +kernel
theorem dX7_read_31 : decode cX7_read 31 = .ok (.aload_n 0, 1) := by decide +kernel
theorem dX7_read_32 : decode cX7_read 32 = .ok (.getfield 34, 3) := by decide +kernel
theorem dX7_read_35 : decode cX7_read 35 = .ok (.aload_n 0, 1) := by decide +kernel
theorem dX7_read_36 : decode cX7_read 36 = .ok (.getfield 18, 3) := by decide +kernel
theorem dX7_read_39 : decode cX7_read 39 = .ok (.aload_n 0, 1) := by decide +kernel
theorem dX7_read_40 : decode cX7_read 40 = .ok (.getfield 27, 3) := by decide +kernel
theorem dX7_read_43 : decode cX7_read 43 = .ok (.invokevirtual 147, 3) := by decide +kernel
theorem dX7_read_46 : decode cX7_read 46 = .ok (.aload_n 0, 1) := by decide +kernel
theorem dX7_read_47 : decode cX7_read 47 = .ok (.getfield 27, 3) := by decide +kernel
theorem dX7_read_50 : decode cX7_read 50 = .ok (.invokevirtual 98, 3) := by decide +kernel
theorem dX7_read_53 : decode cX7_read 53 = .ok (.ireturn, 1) := by decide +kernel
theorem dX7_fault_0 : decode cX7_fault 0 = .ok (.iload_n 1, 1) := by decide +kernel
theorem dX7_fault_1 : decode cX7_fault 1 = .ok (.tableswitch 51 0 2 #[27, 35, 43], 27) := by decide +kernel
theorem dX7_fault_28 : decode cX7_fault 28 = .ok (.aload_n 0, 1) := by decide +kernel
theorem dX7_fault_29 : decode cX7_fault 29 = .ok (.getfield 34, 3) := by decide +kernel
theorem dX7_fault_32 : decode cX7_fault 32 = .ok (.invokevirtual 151, 3) := by decide +kernel
theorem dX7_fault_35 : decode cX7_fault 35 = .ok (.ireturn, 1) := by decide +kernel
theorem dX7_fault_36 : decode cX7_fault 36 = .ok (.aload_n 0, 1) := by decide +kernel
theorem dX7_fault_37 : decode cX7_fault 37 = .ok (.getfield 34, 3) := by decide +kernel
theorem dX7_fault_40 : decode cX7_fault 40 = .ok (.invokevirtual 154, 3) := by decide +kernel
theorem dX7_fault_43 : decode cX7_fault 43 = .ok (.ireturn, 1) := by decide +kernel
theorem dX7_fault_44 : decode cX7_fault 44 = .ok (.aload_n 0, 1) := by decide +kernel
theorem dX7_fault_45 : decode cX7_fault 45 = .ok (.getfield 34, 3) := by decide +kernel
theorem dX7_fault_48 : decode cX7_fault 48 = .ok (.invokevirtual 157, 3) := by decide +kernel
theorem dX7_fault_51 : decode cX7_fault 51 = .ok (.ireturn, 1) := by decide +kernel
theorem dX7_fault_52 : decode cX7_fault 52 = .ok (.iconst (-1), 1) := by decide +kernel
theorem dX7_fault_53 : decode cX7_fault 53 = .ok (.ireturn, 1) := by decide +kernel
theorem dX7_save_0 : decode cX7_save 0 = .ok (.iconst 0, 1) := by decide +kernel
theorem dX7_save_1 : decode cX7_save 1 = .ok (.istore_n 1, 1) := by decide +kernel
theorem dX7_save_2 : decode cX7_save 2 = .ok (.iconst 0, 1) := by decide +kernel
theorem dX7_save_3 : decode cX7_save 3 = .ok (.istore_n 2, 1) := by decide +kernel
theorem dX7_save_4 : decode cX7_save 4 = .ok (.iload_n 2, 1) := by decide +kernel
theorem dX7_save_5 : decode cX7_save 5 = .ok (.aload_n 0, 1) := by decide +kernel
theorem dX7_save_6 : decode cX7_save 6 = .ok (.getfield 18, 3) := by decide +kernel
theorem dX7_save_9 : decode cX7_save 9 = .ok (.invokevirtual 56, 3) := by decide +kernel
theorem dX7_save_12 : decode cX7_save 12 = .ok (.if_icmp .ge 27, 3) := by decide +kernel
theorem dX7_save_15 : decode cX7_save 15 = .ok (.aload_n 0, 1) := by decide +kernel
theorem dX7_save_16 : decode cX7_save 16 = .ok (.iload_n 2, 1) := by decide +kernel
theorem dX7_save_17 : decode cX7_save 17 = .ok (.invokevirtual 160, 3) := by decide +kernel
theorem dX7_save_20 : decode cX7_save 20 = .ok (.istore_n 3, 1) := by decide +kernel
theorem dX7_save_21 : decode cX7_save 21 = .ok (.iload_n 3, 1) := by decide +kernel
theorem dX7_save_22 : decode cX7_save 22 = .ok (.iload_n 2, 1) := by decide +kernel
theorem dX7_save_23 : decode cX7_save 23 = .ok (.if_icmp .le 10, 3) := by decide +kernel
theorem dX7_save_26 : decode cX7_save 26 = .ok (.iinc 1 1, 3) := by decide +kernel
theorem dX7_save_29 : decode cX7_save 29 = .ok (.iload_n 3, 1) := by decide +kernel
theorem dX7_save_30 : decode cX7_save 30 = .ok (.iconst 1, 1) := by decide +kernel
theorem dX7_save_31 : decode cX7_save 31 = .ok (.isub, 1) := by decide +kernel
theorem dX7_save_32 : decode cX7_save 32 = .ok (.istore_n 2, 1) := by decide +kernel
theorem dX7_save_33 : decode cX7_save 33 = .ok (.iinc 2 1, 3) := by decide +kernel
theorem dX7_save_36 : decode cX7_save 36 = .ok (.goto (-32), 3) := by decide +kernel
theorem dX7_save_39 : decode cX7_save 39 = .ok (.iload_n 1, 1) := by decide +kernel
theorem dX7_save_40 : decode cX7_save 40 = .ok (.ireturn, 1) := by decide +kernel
theorem dX7_saveFrom_0 : decode cX7_saveFrom 0 = .ok (.aload_n 0, 1) := by decide +kernel
theorem dX7_saveFrom_1 : decode cX7_saveFrom 1 = .ok (.getfield 34, 3) := by decide +kernel
theorem dX7_saveFrom_4 : decode cX7_saveFrom 4 = .ok (.aload_n 0, 1) := by decide +kernel
theorem dX7_saveFrom_5 : decode cX7_saveFrom 5 = .ok (.getfield 18, 3) := by decide +kernel
theorem dX7_saveFrom_8 : decode cX7_saveFrom 8 = .ok (.iload_n 1, 1) := by decide +kernel
theorem dX7_saveFrom_9 : decode cX7_saveFrom 9 = .ok (.invokevirtual 164, 3) := by decide +kernel
theorem dX7_saveFrom_12 : decode cX7_saveFrom 12 = .ok (.ifCond .ne 5, 3) := by decide +kernel
theorem dX7_saveFrom_15 : decode cX7_saveFrom 15 = .ok (.iconst (-1), 1) := by decide +kernel
theorem dX7_saveFrom_16 : decode cX7_saveFrom 16 = .ok (.ireturn, 1) := by decide +kernel
theorem dX7_saveFrom_17 : decode cX7_saveFrom 17 = .ok (.iload_n 1, 1) := by decide +kernel
theorem dX7_saveFrom_18 : decode cX7_saveFrom 18 = .ok (.bipush 30, 2) := by decide +kernel
theorem dX7_saveFrom_20 : decode cX7_saveFrom 20 = .ok (.iadd, 1) := by decide +kernel
theorem dX7_saveFrom_21 : decode cX7_saveFrom 21 = .ok (.istore_n 2, 1) := by decide +kernel
theorem dX7_saveFrom_22 : decode cX7_saveFrom 22 = .ok (.aload_n 0, 1) := by decide +kernel
theorem dX7_saveFrom_23 : decode cX7_saveFrom 23 = .ok (.getfield 34, 3) := by decide +kernel
theorem dX7_saveFrom_26 : decode cX7_saveFrom 26 = .ok (.invokevirtual 168, 3) := by decide +kernel
theorem dX7_saveFrom_29 : decode cX7_saveFrom 29 = .ok (.istore_n 3, 1) := by decide +kernel
theorem dX7_saveFrom_30 : decode cX7_saveFrom 30 = .ok (.aload_n 0, 1) := by decide +kernel
theorem dX7_saveFrom_31 : decode cX7_saveFrom 31 = .ok (.getfield 34, 3) := by decide +kernel
theorem dX7_saveFrom_34 : decode cX7_saveFrom 34 = .ok (.invokevirtual 171, 3) := by decide +kernel
theorem dX7_saveFrom_37 : decode cX7_saveFrom 37 = .ok (.astore 4, 2) := by decide +kernel
theorem dX7_saveFrom_39 : decode cX7_saveFrom 39 = .ok (.aload_n 0, 1) := by decide +kernel
theorem dX7_saveFrom_40 : decode cX7_saveFrom 40 = .ok (.getfield 27, 3) := by decide +kernel
theorem dX7_saveFrom_43 : decode cX7_saveFrom 43 = .ok (.aload_n 0, 1) := by decide +kernel
theorem dX7_saveFrom_44 : decode cX7_saveFrom 44 = .ok (.getfield 18, 3) := by decide +kernel
theorem dX7_saveFrom_47 : decode cX7_saveFrom 47 = .ok (.iload_n 2, 1) := by decide +kernel
theorem dX7_saveFrom_48 : decode cX7_saveFrom 48 = .ok (.iload_n 3, 1) := by decide +kernel
theorem dX7_saveFrom_49 : decode cX7_saveFrom 49 = .ok (.invokevirtual 83, 3) := by decide +kernel
theorem dX7_saveFrom_52 : decode cX7_saveFrom 52 = .ok (.istore 5, 2) := by decide +kernel
theorem dX7_saveFrom_54 : decode cX7_saveFrom 54 = .ok (.aload_n 0, 1) := by decide +kernel
theorem dX7_saveFrom_55 : decode cX7_saveFrom 55 = .ok (.getfield 27, 3) := by decide +kernel
theorem dX7_saveFrom_58 : decode cX7_saveFrom 58 = .ok (.iload 5, 2) := by decide +kernel
theorem dX7_saveFrom_60 : decode cX7_saveFrom 60 = .ok (.aload 4, 2) := by decide +kernel
theorem dX7_saveFrom_62 : decode cX7_saveFrom 62 = .ok (.invokevirtual 56, 3) := by decide +kernel
theorem dX7_saveFrom_65 : decode cX7_saveFrom 65 = .ok (.invokevirtual 89, 3) := by decide +kernel
theorem dX7_saveFrom_68 : decode cX7_saveFrom 68 = .ok (.ifCond .ne 5, 3) := by decide +kernel
theorem dX7_saveFrom_71 : decode cX7_saveFrom 71 = .ok (.iconst (-1), 1) := by decide +kernel
theorem dX7_saveFrom_72 : decode cX7_saveFrom 72 = .ok (.ireturn, 1) := by decide +kernel
theorem dX7_saveFrom_73 : decode cX7_saveFrom 73 = .ok (.aload_n 0, 1) := by decide +kernel
theorem dX7_saveFrom_74 : decode cX7_saveFrom 74 = .ok (.getfield 27, 3) := by decide +kernel
theorem dX7_saveFrom_77 : decode cX7_saveFrom 77 = .ok (.iload 5, 2) := by decide +kernel
theorem dX7_saveFrom_79 : decode cX7_saveFrom 79 = .ok (.invokevirtual 119, 3) := by decide +kernel
theorem dX7_saveFrom_82 : decode cX7_saveFrom 82 = .ok (.aload_n 0, 1) := by decide +kernel
theorem dX7_saveFrom_83 : decode cX7_saveFrom 83 = .ok (.getfield 27, 3) := by decide +kernel
theorem dX7_saveFrom_86 : decode cX7_saveFrom 86 = .ok (.aload_n 0, 1) := by decide +kernel
theorem dX7_saveFrom_87 : decode cX7_saveFrom 87 = .ok (.getfield 18, 3) := by decide +kernel
theorem dX7_saveFrom_90 : decode cX7_saveFrom 90 = .ok (.iload_n 2, 1) := by decide +kernel
theorem dX7_saveFrom_91 : decode cX7_saveFrom 91 = .ok (.iload_n 3, 1) := by decide +kernel
theorem dX7_saveFrom_92 : decode cX7_saveFrom 92 = .ok (.aload 4, 2) := by decide +kernel
theorem dX7_saveFrom_94 : decode cX7_saveFrom 94 = .ok (.iconst 0, 1) := by decide +kernel
theorem dX7_saveFrom_95 : decode cX7_saveFrom 95 = .ok (.aload 4, 2) := by decide +kernel
theorem dX7_saveFrom_97 : decode cX7_saveFrom 97 = .ok (.invokevirtual 56, 3) := by decide +kernel
theorem dX7_saveFrom_100 : decode cX7_saveFrom 100 = .ok (.invokevirtual 94, 3) := by decide +kernel
theorem dX7_saveFrom_103 : decode cX7_saveFrom 103 = .ok (.iload_n 2, 1) := by decide +kernel
theorem dX7_saveFrom_104 : decode cX7_saveFrom 104 = .ok (.iload_n 3, 1) := by decide +kernel
theorem dX7_saveFrom_105 : decode cX7_saveFrom 105 = .ok (.iadd, 1) := by decide +kernel
theorem dX7_saveFrom_106 : decode cX7_saveFrom 106 = .ok (.aload_n 0, 1) := by decide +kernel
theorem dX7_saveFrom_107 : decode cX7_saveFrom 107 = .ok (.getfield 34, 3) := by decide +kernel
theorem dX7_saveFrom_110 : decode cX7_saveFrom 110 = .ok (.invokevirtual 175, 3) := by decide +kernel
theorem dX7_saveFrom_113 : decode cX7_saveFrom 113 = .ok (.iadd, 1) := by decide +kernel
theorem dX7_saveFrom_114 : decode cX7_saveFrom 114 = .ok (.ireturn, 1) := by decide +kernel
theorem dX7_file_0 : decode cX7_file 0 = .ok (.aload_n 0, 1) := by decide +kernel
theorem dX7_file_1 : decode cX7_file 1 = .ok (.getfield 27, 3) := by decide +kernel
theorem dX7_file_4 : decode cX7_file 4 = .ok (.iload_n 1, 1) := by decide +kernel
theorem dX7_file_5 : decode cX7_file 5 = .ok (.invokevirtual 101, 3) := by decide +kernel
theorem dX7_file_8 : decode cX7_file 8 = .ok (.astore_n 3, 1) := by decide +kernel
theorem dX7_file_9 : decode cX7_file 9 = .ok (.aload_n 3, 1) := by decide +kernel
theorem dX7_file_10 : decode cX7_file 10 = .ok (.ifnonnull 5, 3) := by decide +kernel
theorem dX7_file_13 : decode cX7_file 13 = .ok (.iconst (-1), 1) := by decide +kernel
theorem dX7_file_14 : decode cX7_file 14 = .ok (.ireturn, 1) := by decide +kernel
theorem dX7_file_15 : decode cX7_file 15 = .ok (.iload_n 2, 1) := by decide +kernel
theorem dX7_file_16 : decode cX7_file 16 = .ok (.tableswitch 64 0 4 #[36, 44, 49, 54, 59], 36) := by decide +kernel
theorem dX7_file_52 : decode cX7_file 52 = .ok (.aload_n 3, 1) := by decide +kernel
theorem dX7_file_53 : decode cX7_file 53 = .ok (.getfield 178, 3) := by decide +kernel
theorem dX7_file_56 : decode cX7_file 56 = .ok (.invokevirtual 56, 3) := by decide +kernel
theorem dX7_file_59 : decode cX7_file 59 = .ok (.ireturn, 1) := by decide +kernel
theorem dX7_file_60 : decode cX7_file 60 = .ok (.aload_n 3, 1) := by decide +kernel
theorem dX7_file_61 : decode cX7_file 61 = .ok (.getfield 183, 3) := by decide +kernel
theorem dX7_file_64 : decode cX7_file 64 = .ok (.ireturn, 1) := by decide +kernel
theorem dX7_file_65 : decode cX7_file 65 = .ok (.aload_n 3, 1) := by decide +kernel
theorem dX7_file_66 : decode cX7_file 66 = .ok (.getfield 186, 3) := by decide +kernel
theorem dX7_file_69 : decode cX7_file 69 = .ok (.ireturn, 1) := by decide +kernel
theorem dX7_file_70 : decode cX7_file 70 = .ok (.aload_n 3, 1) := by decide +kernel
theorem dX7_file_71 : decode cX7_file 71 = .ok (.invokevirtual 189, 3) := by decide +kernel
theorem dX7_file_74 : decode cX7_file 74 = .ok (.ireturn, 1) := by decide +kernel
theorem dX7_file_75 : decode cX7_file 75 = .ok (.aload_n 3, 1) := by decide +kernel
theorem dX7_file_76 : decode cX7_file 76 = .ok (.getfield 192, 3) := by decide +kernel
theorem dX7_file_79 : decode cX7_file 79 = .ok (.ireturn, 1) := by decide +kernel
theorem dX7_file_80 : decode cX7_file 80 = .ok (.iconst (-1), 1) := by decide +kernel
theorem dX7_file_81 : decode cX7_file 81 = .ok (.ireturn, 1) := by decide +kernel
theorem dX7_letter_0 : decode cX7_letter 0 = .ok (.aload_n 0, 1) := by decide +kernel
theorem dX7_letter_1 : decode cX7_letter 1 = .ok (.getfield 27, 3) := by decide +kernel
theorem dX7_letter_4 : decode cX7_letter 4 = .ok (.iload_n 1, 1) := by decide +kernel
theorem dX7_letter_5 : decode cX7_letter 5 = .ok (.invokevirtual 101, 3) := by decide +kernel
theorem dX7_letter_8 : decode cX7_letter 8 = .ok (.astore 4, 2) := by decide +kernel
theorem dX7_letter_10 : decode cX7_letter 10 = .ok (.aload 4, 2) := by decide +kernel
theorem dX7_letter_12 : decode cX7_letter 12 = .ok (.ifnonnull 5, 3) := by decide +kernel
theorem dX7_letter_15 : decode cX7_letter 15 = .ok (.iconst (-1), 1) := by decide +kernel
theorem dX7_letter_16 : decode cX7_letter 16 = .ok (.ireturn, 1) := by decide +kernel
theorem dX7_letter_17 : decode cX7_letter 17 = .ok (.iload_n 2, 1) := by decide +kernel
theorem dX7_letter_18 : decode cX7_letter 18 = .ok (.ifCond .eq 15, 3) := by decide +kernel
theorem dX7_letter_21 : decode cX7_letter 21 = .ok (.aload 4, 2) := by decide +kernel
theorem dX7_letter_23 : decode cX7_letter 23 = .ok (.getfield 178, 3) := by decide +kernel
theorem dX7_letter_26 : decode cX7_letter 26 = .ok (.iload_n 3, 1) := by decide +kernel
theorem dX7_letter_27 : decode cX7_letter 27 = .ok (.invokevirtual 195, 3) := by decide +kernel
theorem dX7_letter_30 : decode cX7_letter 30 = .ok (.goto 13, 3) := by decide +kernel
theorem dX7_letter_33 : decode cX7_letter 33 = .ok (.aload_n 0, 1) := by decide +kernel
theorem dX7_letter_34 : decode cX7_letter 34 = .ok (.getfield 27, 3) := by decide +kernel
theorem dX7_letter_37 : decode cX7_letter 37 = .ok (.aload 4, 2) := by decide +kernel
theorem dX7_letter_39 : decode cX7_letter 39 = .ok (.iload_n 3, 1) := by decide +kernel
theorem dX7_letter_40 : decode cX7_letter 40 = .ok (.invokevirtual 198, 3) := by decide +kernel
theorem dX7_letter_43 : decode cX7_letter 43 = .ok (.ireturn, 1) := by decide +kernel
theorem dX7_find_0 : decode cX7_find 0 = .ok (.aload_n 0, 1) := by decide +kernel
theorem dX7_find_1 : decode cX7_find 1 = .ok (.getfield 27, 3) := by decide +kernel
theorem dX7_find_4 : decode cX7_find 4 = .ok (.aload_n 0, 1) := by decide +kernel
theorem dX7_find_5 : decode cX7_find 5 = .ok (.getfield 18, 3) := by decide +kernel
theorem dX7_find_8 : decode cX7_find 8 = .ok (.iconst 0, 1) := by decide +kernel
theorem dX7_find_9 : decode cX7_find 9 = .ok (.aload_n 0, 1) := by decide +kernel
theorem dX7_find_10 : decode cX7_find 10 = .ok (.getfield 18, 3) := by decide +kernel
theorem dX7_find_13 : decode cX7_find 13 = .ok (.invokevirtual 56, 3) := by decide +kernel
theorem dX7_find_16 : decode cX7_find 16 = .ok (.invokevirtual 83, 3) := by decide +kernel
theorem dX7_find_19 : decode cX7_find 19 = .ok (.ireturn, 1) := by decide +kernel
theorem dX7_output_0 : decode cX7_output 0 = .ok (.aload_n 0, 1) := by decide +kernel
theorem dX7_output_1 : decode cX7_output 1 = .ok (.getfield 21, 3) := by decide +kernel
theorem dX7_output_4 : decode cX7_output 4 = .ok (.iload_n 1, 1) := by decide +kernel
theorem dX7_output_5 : decode cX7_output 5 = .ok (.invokevirtual 195, 3) := by decide +kernel
theorem dX7_output_8 : decode cX7_output 8 = .ok (.ireturn, 1) := by decide +kernel
theorem dX7_about_0 : decode cX7_about 0 = .ok (.iload_n 1, 1) := by decide +kernel
theorem dX7_about_1 : decode cX7_about 1 = .ok (.tableswitch 63 0 3 #[31, 39, 47, 55], 31) := by decide +kernel
theorem dX7_about_32 : decode cX7_about 32 = .ok (.aload_n 0, 1) := by decide +kernel
theorem dX7_about_33 : decode cX7_about 33 = .ok (.getfield 18, 3) := by decide +kernel
theorem dX7_about_36 : decode cX7_about 36 = .ok (.invokevirtual 56, 3) := by decide +kernel
theorem dX7_about_39 : decode cX7_about 39 = .ok (.ireturn, 1) := by decide +kernel
theorem dX7_about_40 : decode cX7_about 40 = .ok (.aload_n 0, 1) := by decide +kernel
theorem dX7_about_41 : decode cX7_about 41 = .ok (.getfield 21, 3) := by decide +kernel
theorem dX7_about_44 : decode cX7_about 44 = .ok (.invokevirtual 56, 3) := by decide +kernel
theorem dX7_about_47 : decode cX7_about 47 = .ok (.ireturn, 1) := by decide +kernel
theorem dX7_about_48 : decode cX7_about 48 = .ok (.aload_n 0, 1) := by decide +kernel
theorem dX7_about_49 : decode cX7_about 49 = .ok (.getfield 27, 3) := by decide +kernel
theorem dX7_about_52 : decode cX7_about 52 = .ok (.invokevirtual 98, 3) := by decide +kernel
theorem dX7_about_55 : decode cX7_about 55 = .ok (.ireturn, 1) := by decide +kernel
theorem dX7_about_56 : decode cX7_about 56 = .ok (.aload_n 0, 1) := by decide +kernel
theorem dX7_about_57 : decode cX7_about 57 = .ok (.getfield 27, 3) := by decide +kernel
theorem dX7_about_60 : decode cX7_about 60 = .ok (.invokevirtual 202, 3) := by decide +kernel
theorem dX7_about_63 : decode cX7_about 63 = .ok (.ireturn, 1) := by decide +kernel
theorem dX7_about_64 : decode cX7_about 64 = .ok (.iconst (-1), 1) := by decide +kernel
theorem dX7_about_65 : decode cX7_about 65 = .ok (.ireturn, 1) := by decide +kernel
theorem dX8_init_0 : decode cX8_init 0 = .ok (.aload_n 0, 1) := by decide +kernel
theorem dX8_init_1 : decode cX8_init 1 = .ok (.invokespecial 1, 3) := by decide +kernel
theorem dX8_init_4 : decode cX8_init 4 = .ok (.aload_n 0, 1) := by decide +kernel
theorem dX8_init_5 : decode cX8_init 5 = .ok (.bipush 20, 2) := by decide +kernel
theorem dX8_init_7 : decode cX8_init 7 = .ok (.newarray .int, 2) := by decide +kernel
theorem dX8_init_9 : decode cX8_init 9 = .ok (.putfield 7, 3) := by decide +kernel
theorem dX8_init_12 : decode cX8_init 12 = .ok (.aload_n 0, 1) := by decide +kernel
theorem dX8_init_13 : decode cX8_init 13 = .ok (.sipush 9000, 3) := by decide +kernel
theorem dX8_init_16 : decode cX8_init 16 = .ok (.newarray .int, 2) := by decide +kernel
theorem dX8_init_18 : decode cX8_init 18 = .ok (.putfield 13, 3) := by decide +kernel
theorem dX8_init_21 : decode cX8_init 21 = .ok (.aload_n 0, 1) := by decide +kernel
theorem dX8_init_22 : decode cX8_init 22 = .ok (.sipush 9000, 3) := by decide +kernel
theorem dX8_init_25 : decode cX8_init 25 = .ok (.newarray .int, 2) := by decide +kernel
theorem dX8_init_27 : decode cX8_init 27 = .ok (.putfield 16, 3) := by decide +kernel
theorem dX8_init_30 : decode cX8_init 30 = .ok (.aload_n 0, 1) := by decide +kernel
theorem dX8_init_31 : decode cX8_init 31 = .ok (.sipush 630, 3) := by decide +kernel
theorem dX8_init_34 : decode cX8_init 34 = .ok (.newarray .int, 2) := by decide +kernel
theorem dX8_init_36 : decode cX8_init 36 = .ok (.putfield 19, 3) := by decide +kernel
theorem dX8_init_39 : decode cX8_init 39 = .ok (.aload_n 0, 1) := by decide +kernel
theorem dX8_init_40 : decode cX8_init 40 = .ok (.bipush 21, 2) := by decide +kernel
theorem dX8_init_42 : decode cX8_init 42 = .ok (.newarray .int, 2) := by decide +kernel
theorem dX8_init_44 : decode cX8_init 44 = .ok (.putfield 22, 3) := by decide +kernel
theorem dX8_init_47 : decode cX8_init 47 = .ok (.aload_n 0, 1) := by decide +kernel
theorem dX8_init_48 : decode cX8_init 48 = .ok (.sipush 31500, 3) := by decide +kernel
theorem dX8_init_51 : decode cX8_init 51 = .ok (.newarray .int, 2) := by decide +kernel
theorem dX8_init_53 : decode cX8_init 53 = .ok (.putfield 25, 3) := by decide +kernel
theorem dX8_init_56 : decode cX8_init 56 = .ok (.aload_n 0, 1) := by decide +kernel
theorem dX8_init_57 : decode cX8_init 57 = .ok (.bipush 21, 2) := by decide +kernel
theorem dX8_init_59 : decode cX8_init 59 = .ok (.newarray .int, 2) := by decide +kernel
theorem dX8_init_61 : decode cX8_init 61 = .ok (.putfield 28, 3) := by decide +kernel
theorem dX8_init_64 : decode cX8_init 64 = .ok (.aload_n 0, 1) := by decide +kernel
theorem dX8_init_65 : decode cX8_init 65 = .ok (.iconst (-1), 1) := by decide +kernel
theorem dX8_init_66 : decode cX8_init 66 = .ok (.putfield 31, 3) := by decide +kernel
theorem dX8_init_69 : decode cX8_init 69 = .ok (.aload_n 0, 1) := by decide +kernel
theorem dX8_init_70 : decode cX8_init 70 = .ok (.iconst (-1), 1) := by decide +kernel
theorem dX8_init_71 : decode cX8_init 71 = .ok (.putfield 35, 3) := by decide +kernel
theorem dX8_init_74 : decode cX8_init 74 = .ok (.aload_n 0, 1) := by decide +kernel
theorem dX8_init_75 : decode cX8_init 75 = .ok (.sipush 1600, 3) := by decide +kernel
theorem dX8_init_78 : decode cX8_init 78 = .ok (.newarray .int, 2) := by decide +kernel
theorem dX8_init_80 : decode cX8_init 80 = .ok (.putfield 38, 3) := by decide +kernel
theorem dX8_init_83 : decode cX8_init 83 = .ok (.aload_n 0, 1) := by decide +kernel
theorem dX8_init_84 : decode cX8_init 84 = .ok (.bipush 20, 2) := by decide +kernel
theorem dX8_init_86 : decode cX8_init 86 = .ok (.newarray .int, 2) := by decide +kernel
theorem dX8_init_88 : decode cX8_init 88 = .ok (.putfield 41, 3) := by decide +kernel
theorem dX8_init_91 : decode cX8_init 91 = .ok (.aload_n 0, 1) := by decide +kernel
theorem dX8_init_92 : decode cX8_init 92 = .ok (.bipush 20, 2) := by decide +kernel
theorem dX8_init_94 : decode cX8_init 94 = .ok (.newarray .int, 2) := by decide +kernel
theorem dX8_init_96 : decode cX8_init 96 = .ok (.putfield 44, 3) := by decide +kernel
end
section
theorem dX8_init_99 : decode cX8_init 99 = .ok (.aload_n 0, 1) := by decide +kernel
theorem dX8_init_100 : decode cX8_init 100 = .ok (.bipush 21, 2) := by decide +kernel
theorem dX8_init_102 : decode cX8_init 102 = .ok (.newarray .int, 2) := by decide +kernel
theorem dX8_init_104 : decode cX8_init 104 = .ok (.putfield 47, 3) := by decide +kernel
theorem dX8_init_107 : decode cX8_init 107 = .ok (.return_, 1) := by decide +kernel
theorem dX8_feed_0 : decode cX8_feed 0 = .ok (.aload_n 0, 1) := by decide +kernel
theorem dX8_feed_1 : decode cX8_feed 1 = .ok (.iconst 0, 1) := by decide +kernel
theorem dX8_feed_2 : decode cX8_feed 2 = .ok (.putfield 50, 3) := by decide +kernel
theorem dX8_feed_5 : decode cX8_feed 5 = .ok (.iconst 0, 1) := by decide +kernel
theorem dX8_feed_6 : decode cX8_feed 6 = .ok (.istore 6, 2) := by decide +kernel
theorem dX8_feed_8 : decode cX8_feed 8 = .ok (.iload 6, 2) := by decide +kernel
theorem dX8_feed_10 : decode cX8_feed 10 = .ok (.bipush 20, 2) := by decide +kernel
theorem dX8_feed_12 : decode cX8_feed 12 = .ok (.if_icmp .ge 81, 3) := by decide +kernel
theorem dX8_feed_15 : decode cX8_feed 15 = .ok (.iload 6, 2) := by decide +kernel
theorem dX8_feed_17 : decode cX8_feed 17 = .ok (.iconst 4, 1) := by decide +kernel
theorem dX8_feed_18 : decode cX8_feed 18 = .ok (.if_icmp .ge 7, 3) := by decide +kernel
theorem dX8_feed_21 : decode cX8_feed 21 = .ok (.iload_n 1, 1) := by decide +kernel
theorem dX8_feed_22 : decode cX8_feed 22 = .ok (.goto 39, 3) := by decide +kernel
theorem dX8_feed_25 : decode cX8_feed 25 = .ok (.iload 6, 2) := by decide +kernel
theorem dX8_feed_27 : decode cX8_feed 27 = .ok (.bipush 8, 2) := by decide +kernel
theorem dX8_feed_29 : decode cX8_feed 29 = .ok (.if_icmp .ge 7, 3) := by decide +kernel
theorem dX8_feed_32 : decode cX8_feed 32 = .ok (.iload_n 2, 1) := by decide +kernel
theorem dX8_feed_33 : decode cX8_feed 33 = .ok (.goto 28, 3) := by decide +kernel
theorem dX8_feed_36 : decode cX8_feed 36 = .ok (.iload 6, 2) := by decide +kernel
theorem dX8_feed_38 : decode cX8_feed 38 = .ok (.bipush 12, 2) := by decide +kernel
theorem dX8_feed_40 : decode cX8_feed 40 = .ok (.if_icmp .ge 7, 3) := by decide +kernel
theorem dX8_feed_43 : decode cX8_feed 43 = .ok (.iload_n 3, 1) := by decide +kernel
theorem dX8_feed_44 : decode cX8_feed 44 = .ok (.goto 17, 3) := by decide +kernel
theorem dX8_feed_47 : decode cX8_feed 47 = .ok (.iload 6, 2) := by decide +kernel
theorem dX8_feed_49 : decode cX8_feed 49 = .ok (.bipush 16, 2) := by decide +kernel
theorem dX8_feed_51 : decode cX8_feed 51 = .ok (.if_icmp .ge 8, 3) := by decide +kernel
theorem dX8_feed_54 : decode cX8_feed 54 = .ok (.iload 4, 2) := by decide +kernel
theorem dX8_feed_56 : decode cX8_feed 56 = .ok (.goto 5, 3) := by decide +kernel
theorem dX8_feed_59 : decode cX8_feed 59 = .ok (.iload 5, 2) := by decide +kernel
theorem dX8_feed_61 : decode cX8_feed 61 = .ok (.istore 7, 2) := by decide +kernel
theorem dX8_feed_63 : decode cX8_feed 63 = .ok (.aload_n 0, 1) := by decide +kernel
theorem dX8_feed_64 : decode cX8_feed 64 = .ok (.getfield 7, 3) := by decide +kernel
theorem dX8_feed_67 : decode cX8_feed 67 = .ok (.iload 6, 2) := by decide +kernel
theorem dX8_feed_69 : decode cX8_feed 69 = .ok (.iload 7, 2) := by decide +kernel
theorem dX8_feed_71 : decode cX8_feed 71 = .ok (.bipush 24, 2) := by decide +kernel
theorem dX8_feed_73 : decode cX8_feed 73 = .ok (.bipush 8, 2) := by decide +kernel
theorem dX8_feed_75 : decode cX8_feed 75 = .ok (.iload 6, 2) := by decide +kernel
theorem dX8_feed_77 : decode cX8_feed 77 = .ok (.iconst 4, 1) := by decide +kernel
theorem dX8_feed_78 : decode cX8_feed 78 = .ok (.irem, 1) := by decide +kernel
theorem dX8_feed_79 : decode cX8_feed 79 = .ok (.imul, 1) := by decide +kernel
theorem dX8_feed_80 : decode cX8_feed 80 = .ok (.isub, 1) := by decide +kernel
theorem dX8_feed_81 : decode cX8_feed 81 = .ok (.ishr, 1) := by decide +kernel
theorem dX8_feed_82 : decode cX8_feed 82 = .ok (.sipush 255, 3) := by decide +kernel
theorem dX8_feed_85 : decode cX8_feed 85 = .ok (.iand, 1) := by decide +kernel
theorem dX8_feed_86 : decode cX8_feed 86 = .ok (.iastore, 1) := by decide +kernel
theorem dX8_feed_87 : decode cX8_feed 87 = .ok (.iinc 6 1, 3) := by decide +kernel
theorem dX8_feed_90 : decode cX8_feed 90 = .ok (.goto (-82), 3) := by decide +kernel
theorem dX8_feed_93 : decode cX8_feed 93 = .ok (.return_, 1) := by decide +kernel
theorem dX8_end_0 : decode cX8_end 0 = .ok (.aload_n 0, 1) := by decide +kernel
theorem dX8_end_1 : decode cX8_end 1 = .ok (.iconst 0, 1) := by decide +kernel
theorem dX8_end_2 : decode cX8_end 2 = .ok (.putfield 50, 3) := by decide +kernel
theorem dX8_end_5 : decode cX8_end 5 = .ok (.iload_n 1, 1) := by decide +kernel
theorem dX8_end_6 : decode cX8_end 6 = .ok (.ifCond .lt 34, 3) := by decide +kernel
theorem dX8_end_9 : decode cX8_end 9 = .ok (.iload_n 1, 1) := by decide +kernel
theorem dX8_end_10 : decode cX8_end 10 = .ok (.bipush 20, 2) := by decide +kernel
theorem dX8_end_12 : decode cX8_end 12 = .ok (.if_icmp .gt 28, 3) := by decide +kernel
theorem dX8_end_15 : decode cX8_end 15 = .ok (.iload_n 2, 1) := by decide +kernel
theorem dX8_end_16 : decode cX8_end 16 = .ok (.iconst 1, 1) := by decide +kernel
theorem dX8_end_17 : decode cX8_end 17 = .ok (.if_icmp .lt 23, 3) := by decide +kernel
theorem dX8_end_20 : decode cX8_end 20 = .ok (.iload_n 2, 1) := by decide +kernel
theorem dX8_end_21 : decode cX8_end 21 = .ok (.bipush 100, 2) := by decide +kernel
theorem dX8_end_23 : decode cX8_end 23 = .ok (.if_icmp .gt 17, 3) := by decide +kernel
theorem dX8_end_26 : decode cX8_end 26 = .ok (.aload_n 0, 1) := by decide +kernel
theorem dX8_end_27 : decode cX8_end 27 = .ok (.getfield 53, 3) := by decide +kernel
theorem dX8_end_30 : decode cX8_end 30 = .ok (.iload_n 1, 1) := by decide +kernel
theorem dX8_end_31 : decode cX8_end 31 = .ok (.iload_n 2, 1) := by decide +kernel
theorem dX8_end_32 : decode cX8_end 32 = .ok (.imul, 1) := by decide +kernel
theorem dX8_end_33 : decode cX8_end 33 = .ok (.iadd, 1) := by decide +kernel
theorem dX8_end_34 : decode cX8_end 34 = .ok (.sipush 9000, 3) := by decide +kernel
theorem dX8_end_37 : decode cX8_end 37 = .ok (.if_icmp .le 5, 3) := by decide +kernel
theorem dX8_end_40 : decode cX8_end 40 = .ok (.iconst (-1), 1) := by decide +kernel
theorem dX8_end_41 : decode cX8_end 41 = .ok (.ireturn, 1) := by decide +kernel
theorem dX8_end_42 : decode cX8_end 42 = .ok (.iconst 0, 1) := by decide +kernel
theorem dX8_end_43 : decode cX8_end 43 = .ok (.istore_n 3, 1) := by decide +kernel
theorem dX8_end_44 : decode cX8_end 44 = .ok (.iload_n 3, 1) := by decide +kernel
theorem dX8_end_45 : decode cX8_end 45 = .ok (.iload_n 2, 1) := by decide +kernel
theorem dX8_end_46 : decode cX8_end 46 = .ok (.if_icmp .ge 53, 3) := by decide +kernel
theorem dX8_end_49 : decode cX8_end 49 = .ok (.iconst 0, 1) := by decide +kernel
theorem dX8_end_50 : decode cX8_end 50 = .ok (.istore 4, 2) := by decide +kernel
theorem dX8_end_52 : decode cX8_end 52 = .ok (.iload 4, 2) := by decide +kernel
theorem dX8_end_54 : decode cX8_end 54 = .ok (.iload_n 1, 1) := by decide +kernel
theorem dX8_end_55 : decode cX8_end 55 = .ok (.if_icmp .ge 28, 3) := by decide +kernel
theorem dX8_end_58 : decode cX8_end 58 = .ok (.aload_n 0, 1) := by decide +kernel
theorem dX8_end_59 : decode cX8_end 59 = .ok (.getfield 13, 3) := by decide +kernel
theorem dX8_end_62 : decode cX8_end 62 = .ok (.aload_n 0, 1) := by decide +kernel
theorem dX8_end_63 : decode cX8_end 63 = .ok (.getfield 53, 3) := by decide +kernel
theorem dX8_end_66 : decode cX8_end 66 = .ok (.iload 4, 2) := by decide +kernel
theorem dX8_end_68 : decode cX8_end 68 = .ok (.iadd, 1) := by decide +kernel
theorem dX8_end_69 : decode cX8_end 69 = .ok (.aload_n 0, 1) := by decide +kernel
theorem dX8_end_70 : decode cX8_end 70 = .ok (.getfield 7, 3) := by decide +kernel
theorem dX8_end_73 : decode cX8_end 73 = .ok (.iload 4, 2) := by decide +kernel
theorem dX8_end_75 : decode cX8_end 75 = .ok (.iaload, 1) := by decide +kernel
theorem dX8_end_76 : decode cX8_end 76 = .ok (.iastore, 1) := by decide +kernel
theorem dX8_end_77 : decode cX8_end 77 = .ok (.iinc 4 1, 3) := by decide +kernel
theorem dX8_end_80 : decode cX8_end 80 = .ok (.goto (-28), 3) := by decide +kernel
theorem dX8_end_83 : decode cX8_end 83 = .ok (.aload_n 0, 1) := by decide +kernel
theorem dX8_end_84 : decode cX8_end 84 = .ok (.dup, 1) := by decide +kernel
theorem dX8_end_85 : decode cX8_end 85 = .ok (.getfield 53, 3) := by decide +kernel
theorem dX8_end_88 : decode cX8_end 88 = .ok (.iload_n 1, 1) := by decide +kernel
theorem dX8_end_89 : decode cX8_end 89 = .ok (.iadd, 1) := by decide +kernel
theorem dX8_end_90 : decode cX8_end 90 = .ok (.putfield 53, 3) := by decide +kernel
theorem dX8_end_93 : decode cX8_end 93 = .ok (.iinc 3 1, 3) := by decide +kernel
theorem dX8_end_96 : decode cX8_end 96 = .ok (.goto (-52), 3) := by decide +kernel
theorem dX8_end_99 : decode cX8_end 99 = .ok (.iconst 0, 1) := by decide +kernel
theorem dX8_end_100 : decode cX8_end 100 = .ok (.istore_n 3, 1) := by decide +kernel
theorem dX8_end_101 : decode cX8_end 101 = .ok (.iload_n 3, 1) := by decide +kernel
theorem dX8_end_102 : decode cX8_end 102 = .ok (.bipush 20, 2) := by decide +kernel
theorem dX8_end_104 : decode cX8_end 104 = .ok (.if_icmp .ge 16, 3) := by decide +kernel
theorem dX8_end_107 : decode cX8_end 107 = .ok (.aload_n 0, 1) := by decide +kernel
theorem dX8_end_108 : decode cX8_end 108 = .ok (.getfield 7, 3) := by decide +kernel
theorem dX8_end_111 : decode cX8_end 111 = .ok (.iload_n 3, 1) := by decide +kernel
theorem dX8_end_112 : decode cX8_end 112 = .ok (.iconst 0, 1) := by decide +kernel
theorem dX8_end_113 : decode cX8_end 113 = .ok (.iastore, 1) := by decide +kernel
theorem dX8_end_114 : decode cX8_end 114 = .ok (.iinc 3 1, 3) := by decide +kernel
theorem dX8_end_117 : decode cX8_end 117 = .ok (.goto (-16), 3) := by decide +kernel
theorem dX8_end_120 : decode cX8_end 120 = .ok (.aload_n 0, 1) := by decide +kernel
theorem dX8_end_121 : decode cX8_end 121 = .ok (.getfield 53, 3) := by decide +kernel
theorem dX8_end_124 : decode cX8_end 124 = .ok (.ireturn, 1) := by decide +kernel
theorem dX8_cut_0 : decode cX8_cut 0 = .ok (.aload_n 0, 1) := by decide +kernel
theorem dX8_cut_1 : decode cX8_cut 1 = .ok (.iconst 0, 1) := by decide +kernel
theorem dX8_cut_2 : decode cX8_cut 2 = .ok (.putfield 50, 3) := by decide +kernel
theorem dX8_cut_5 : decode cX8_cut 5 = .ok (.iload_n 1, 1) := by decide +kernel
theorem dX8_cut_6 : decode cX8_cut 6 = .ok (.ifCond .lt 11, 3) := by decide +kernel
theorem dX8_cut_9 : decode cX8_cut 9 = .ok (.iload_n 1, 1) := by decide +kernel
theorem dX8_cut_10 : decode cX8_cut 10 = .ok (.aload_n 0, 1) := by decide +kernel
theorem dX8_cut_11 : decode cX8_cut 11 = .ok (.getfield 53, 3) := by decide +kernel
theorem dX8_cut_14 : decode cX8_cut 14 = .ok (.if_icmp .le 5, 3) := by decide +kernel
theorem dX8_cut_17 : decode cX8_cut 17 = .ok (.iconst 0, 1) := by decide +kernel
theorem dX8_cut_18 : decode cX8_cut 18 = .ok (.ireturn, 1) := by decide +kernel
theorem dX8_cut_19 : decode cX8_cut 19 = .ok (.aload_n 0, 1) := by decide +kernel
theorem dX8_cut_20 : decode cX8_cut 20 = .ok (.iload_n 1, 1) := by decide +kernel
theorem dX8_cut_21 : decode cX8_cut 21 = .ok (.putfield 53, 3) := by decide +kernel
theorem dX8_cut_24 : decode cX8_cut 24 = .ok (.iconst 1, 1) := by decide +kernel
theorem dX8_cut_25 : decode cX8_cut 25 = .ok (.ireturn, 1) := by decide +kernel
theorem dX8_drop_0 : decode cX8_drop 0 = .ok (.aload_n 0, 1) := by decide +kernel
theorem dX8_drop_1 : decode cX8_drop 1 = .ok (.iconst 0, 1) := by decide +kernel
theorem dX8_drop_2 : decode cX8_drop 2 = .ok (.putfield 50, 3) := by decide +kernel
theorem dX8_drop_5 : decode cX8_drop 5 = .ok (.iload_n 1, 1) := by decide +kernel
theorem dX8_drop_6 : decode cX8_drop 6 = .ok (.ifCond .lt 11, 3) := by decide +kernel
theorem dX8_drop_9 : decode cX8_drop 9 = .ok (.iload_n 1, 1) := by decide +kernel
theorem dX8_drop_10 : decode cX8_drop 10 = .ok (.aload_n 0, 1) := by decide +kernel
theorem dX8_drop_11 : decode cX8_drop 11 = .ok (.getfield 53, 3) := by decide +kernel
theorem dX8_drop_14 : decode cX8_drop 14 = .ok (.if_icmp .le 5, 3) := by decide +kernel
theorem dX8_drop_17 : decode cX8_drop 17 = .ok (.iconst 0, 1) := by decide +kernel
theorem dX8_drop_18 : decode cX8_drop 18 = .ok (.ireturn, 1) := by decide +kernel
theorem dX8_drop_19 : decode cX8_drop 19 = .ok (.iload_n 1, 1) := by decide +kernel
theorem dX8_drop_20 : decode cX8_drop 20 = .ok (.istore_n 2, 1) := by decide +kernel
theorem dX8_drop_21 : decode cX8_drop 21 = .ok (.iload_n 2, 1) := by decide +kernel
theorem dX8_drop_22 : decode cX8_drop 22 = .ok (.aload_n 0, 1) := by decide +kernel
theorem dX8_drop_23 : decode cX8_drop 23 = .ok (.getfield 53, 3) := by decide +kernel
theorem dX8_drop_26 : decode cX8_drop 26 = .ok (.if_icmp .ge 23, 3) := by decide +kernel
theorem dX8_drop_29 : decode cX8_drop 29 = .ok (.aload_n 0, 1) := by decide +kernel
theorem dX8_drop_30 : decode cX8_drop 30 = .ok (.getfield 13, 3) := by decide +kernel
theorem dX8_drop_33 : decode cX8_drop 33 = .ok (.iload_n 2, 1) := by decide +kernel
theorem dX8_drop_34 : decode cX8_drop 34 = .ok (.iload_n 1, 1) := by decide +kernel
theorem dX8_drop_35 : decode cX8_drop 35 = .ok (.isub, 1) := by decide +kernel
theorem dX8_drop_36 : decode cX8_drop 36 = .ok (.aload_n 0, 1) := by decide +kernel
theorem dX8_drop_37 : decode cX8_drop 37 = .ok (.getfield 13, 3) := by decide +kernel
theorem dX8_drop_40 : decode cX8_drop 40 = .ok (.iload_n 2, 1) := by decide +kernel
theorem dX8_drop_41 : decode cX8_drop 41 = .ok (.iaload, 1) := by decide +kernel
theorem dX8_drop_42 : decode cX8_drop 42 = .ok (.iastore, 1) := by decide +kernel
theorem dX8_drop_43 : decode cX8_drop 43 = .ok (.iinc 2 1, 3) := by decide +kernel
theorem dX8_drop_46 : decode cX8_drop 46 = .ok (.goto (-25), 3) := by decide +kernel
theorem dX8_drop_49 : decode cX8_drop 49 = .ok (.aload_n 0, 1) := by decide +kernel
theorem dX8_drop_50 : decode cX8_drop 50 = .ok (.dup, 1) := by decide +kernel
theorem dX8_drop_51 : decode cX8_drop 51 = .ok (.getfield 53, 3) := by decide +kernel
theorem dX8_drop_54 : decode cX8_drop 54 = .ok (.iload_n 1, 1) := by decide +kernel
theorem dX8_drop_55 : decode cX8_drop 55 = .ok (.isub, 1) := by decide +kernel
theorem dX8_drop_56 : decode cX8_drop 56 = .ok (.putfield 53, 3) := by decide +kernel
theorem dX8_drop_59 : decode cX8_drop 59 = .ok (.iconst 1, 1) := by decide +kernel
theorem dX8_drop_60 : decode cX8_drop 60 = .ok (.ireturn, 1) := by decide +kernel
theorem dX8_flip_0 : decode cX8_flip 0 = .ok (.aload_n 0, 1) := by decide +kernel
theorem dX8_flip_1 : decode cX8_flip 1 = .ok (.iconst 0, 1) := by decide +kernel
theorem dX8_flip_2 : decode cX8_flip 2 = .ok (.putfield 50, 3) := by decide +kernel
theorem dX8_flip_5 : decode cX8_flip 5 = .ok (.iload_n 1, 1) := by decide +kernel
theorem dX8_flip_6 : decode cX8_flip 6 = .ok (.ifCond .lt 21, 3) := by decide +kernel
theorem dX8_flip_9 : decode cX8_flip 9 = .ok (.iload_n 1, 1) := by decide +kernel
theorem dX8_flip_10 : decode cX8_flip 10 = .ok (.aload_n 0, 1) := by decide +kernel
theorem dX8_flip_11 : decode cX8_flip 11 = .ok (.getfield 53, 3) := by decide +kernel
theorem dX8_flip_14 : decode cX8_flip 14 = .ok (.if_icmp .ge 13, 3) := by decide +kernel
theorem dX8_flip_17 : decode cX8_flip 17 = .ok (.iload_n 2, 1) := by decide +kernel
theorem dX8_flip_18 : decode cX8_flip 18 = .ok (.ifCond .lt 9, 3) := by decide +kernel
theorem dX8_flip_21 : decode cX8_flip 21 = .ok (.iload_n 2, 1) := by decide +kernel
theorem dX8_flip_22 : decode cX8_flip 22 = .ok (.bipush 7, 2) := by decide +kernel
theorem dX8_flip_24 : decode cX8_flip 24 = .ok (.if_icmp .le 5, 3) := by decide +kernel
theorem dX8_flip_27 : decode cX8_flip 27 = .ok (.iconst 0, 1) := by decide +kernel
theorem dX8_flip_28 : decode cX8_flip 28 = .ok (.ireturn, 1) := by decide +kernel
theorem dX8_flip_29 : decode cX8_flip 29 = .ok (.aload_n 0, 1) := by decide +kernel
theorem dX8_flip_30 : decode cX8_flip 30 = .ok (.getfield 13, 3) := by decide +kernel
theorem dX8_flip_33 : decode cX8_flip 33 = .ok (.iload_n 1, 1) := by decide +kernel
theorem dX8_flip_34 : decode cX8_flip 34 = .ok (.dup2, 1) := by decide +kernel
theorem dX8_flip_35 : decode cX8_flip 35 = .ok (.iaload, 1) := by decide +kernel
theorem dX8_flip_36 : decode cX8_flip 36 = .ok (.iconst 1, 1) := by decide +kernel
theorem dX8_flip_37 : decode cX8_flip 37 = .ok (.iload_n 2, 1) := by decide +kernel
theorem dX8_flip_38 : decode cX8_flip 38 = .ok (.ishl, 1) := by decide +kernel
theorem dX8_flip_39 : decode cX8_flip 39 = .ok (.ixor, 1) := by decide +kernel
theorem dX8_flip_40 : decode cX8_flip 40 = .ok (.iastore, 1) := by decide +kernel
theorem dX8_flip_41 : decode cX8_flip 41 = .ok (.iconst 1, 1) := by decide +kernel
theorem dX8_flip_42 : decode cX8_flip 42 = .ok (.ireturn, 1) := by decide +kernel
theorem dX8_take_0 : decode cX8_take 0 = .ok (.aload_n 0, 1) := by decide +kernel
theorem dX8_take_1 : decode cX8_take 1 = .ok (.aload_n 0, 1) := by decide +kernel
theorem dX8_take_2 : decode cX8_take 2 = .ok (.getfield 53, 3) := by decide +kernel
theorem dX8_take_5 : decode cX8_take 5 = .ok (.aload_n 0, 1) := by decide +kernel
theorem dX8_take_6 : decode cX8_take 6 = .ok (.getfield 56, 3) := by decide +kernel
theorem dX8_take_9 : decode cX8_take 9 = .ok (.iadd, 1) := by decide +kernel
theorem dX8_take_10 : decode cX8_take 10 = .ok (.sipush 9000, 3) := by decide +kernel
theorem dX8_take_13 : decode cX8_take 13 = .ok (.if_icmp .le 7, 3) := by decide +kernel
theorem dX8_take_16 : decode cX8_take 16 = .ok (.iconst 1, 1) := by decide +kernel
theorem dX8_take_17 : decode cX8_take 17 = .ok (.goto 4, 3) := by decide +kernel
theorem dX8_take_20 : decode cX8_take 20 = .ok (.iconst 0, 1) := by decide +kernel
theorem dX8_take_21 : decode cX8_take 21 = .ok (.putfield 50, 3) := by decide +kernel
theorem dX8_take_24 : decode cX8_take 24 = .ok (.aload_n 0, 1) := by decide +kernel
theorem dX8_take_25 : decode cX8_take 25 = .ok (.getfield 50, 3) := by decide +kernel
theorem dX8_take_28 : decode cX8_take 28 = .ok (.ifCond .le 5, 3) := by decide +kernel
theorem dX8_take_31 : decode cX8_take 31 = .ok (.iconst 0, 1) := by decide +kernel
theorem dX8_take_32 : decode cX8_take 32 = .ok (.ireturn, 1) := by decide +kernel
theorem dX8_take_33 : decode cX8_take 33 = .ok (.iconst 0, 1) := by decide +kernel
theorem dX8_take_34 : decode cX8_take 34 = .ok (.istore_n 1, 1) := by decide +kernel
theorem dX8_take_35 : decode cX8_take 35 = .ok (.iload_n 1, 1) := by decide +kernel
theorem dX8_take_36 : decode cX8_take 36 = .ok (.aload_n 0, 1) := by decide +kernel
theorem dX8_take_37 : decode cX8_take 37 = .ok (.getfield 56, 3) := by decide +kernel
theorem dX8_take_40 : decode cX8_take 40 = .ok (.if_icmp .ge 26, 3) := by decide +kernel
theorem dX8_take_43 : decode cX8_take 43 = .ok (.aload_n 0, 1) := by decide +kernel
theorem dX8_take_44 : decode cX8_take 44 = .ok (.getfield 13, 3) := by decide +kernel
theorem dX8_take_47 : decode cX8_take 47 = .ok (.aload_n 0, 1) := by decide +kernel
theorem dX8_take_48 : decode cX8_take 48 = .ok (.getfield 53, 3) := by decide +kernel
theorem dX8_take_51 : decode cX8_take 51 = .ok (.iload_n 1, 1) := by decide +kernel
theorem dX8_take_52 : decode cX8_take 52 = .ok (.iadd, 1) := by decide +kernel
theorem dX8_take_53 : decode cX8_take 53 = .ok (.aload_n 0, 1) := by decide +kernel
theorem dX8_take_54 : decode cX8_take 54 = .ok (.getfield 16, 3) := by decide +kernel
theorem dX8_take_57 : decode cX8_take 57 = .ok (.iload_n 1, 1) := by decide +kernel
theorem dX8_take_58 : decode cX8_take 58 = .ok (.iaload, 1) := by decide +kernel
theorem dX8_take_59 : decode cX8_take 59 = .ok (.iastore, 1) := by decide +kernel
theorem dX8_take_60 : decode cX8_take 60 = .ok (.iinc 1 1, 3) := by decide +kernel
theorem dX8_take_63 : decode cX8_take 63 = .ok (.goto (-28), 3) := by decide +kernel
theorem dX8_take_66 : decode cX8_take 66 = .ok (.aload_n 0, 1) := by decide +kernel
theorem dX8_take_67 : decode cX8_take 67 = .ok (.dup, 1) := by decide +kernel
theorem dX8_take_68 : decode cX8_take 68 = .ok (.getfield 53, 3) := by decide +kernel
theorem dX8_take_71 : decode cX8_take 71 = .ok (.aload_n 0, 1) := by decide +kernel
theorem dX8_take_72 : decode cX8_take 72 = .ok (.getfield 56, 3) := by decide +kernel
theorem dX8_take_75 : decode cX8_take 75 = .ok (.iadd, 1) := by decide +kernel
theorem dX8_take_76 : decode cX8_take 76 = .ok (.putfield 53, 3) := by decide +kernel
theorem dX8_take_79 : decode cX8_take 79 = .ok (.aload_n 0, 1) := by decide +kernel
theorem dX8_take_80 : decode cX8_take 80 = .ok (.getfield 53, 3) := by decide +kernel
theorem dX8_take_83 : decode cX8_take 83 = .ok (.ireturn, 1) := by decide +kernel
theorem dX8_isFile_0 : decode cX8_isFile 0 = .ok (.iload_n 1, 1) := by decide +kernel
theorem dX8_isFile_1 : decode cX8_isFile 1 = .ok (.ifCond .lt 15, 3) := by decide +kernel
theorem dX8_isFile_4 : decode cX8_isFile 4 = .ok (.iload_n 1, 1) := by decide +kernel
theorem dX8_isFile_5 : decode cX8_isFile 5 = .ok (.aload_n 0, 1) := by decide +kernel
theorem dX8_isFile_6 : decode cX8_isFile 6 = .ok (.getfield 59, 3) := by decide +kernel
theorem dX8_isFile_9 : decode cX8_isFile 9 = .ok (.if_icmp .ge 7, 3) := by decide +kernel
theorem dX8_isFile_12 : decode cX8_isFile 12 = .ok (.iconst 1, 1) := by decide +kernel
theorem dX8_isFile_13 : decode cX8_isFile 13 = .ok (.goto 4, 3) := by decide +kernel
theorem dX8_isFile_16 : decode cX8_isFile 16 = .ok (.iconst 0, 1) := by decide +kernel
theorem dX8_isFile_17 : decode cX8_isFile 17 = .ok (.ireturn, 1) := by decide +kernel
theorem dX8_isName_0 : decode cX8_isName 0 = .ok (.iload_n 2, 1) := by decide +kernel
theorem dX8_isName_1 : decode cX8_isName 1 = .ok (.ifCond .le 13, 3) := by decide +kernel
theorem dX8_isName_4 : decode cX8_isName 4 = .ok (.iload_n 2, 1) := by decide +kernel
theorem dX8_isName_5 : decode cX8_isName 5 = .ok (.bipush 30, 2) := by decide +kernel
theorem dX8_isName_7 : decode cX8_isName 7 = .ok (.if_icmp .gt 7, 3) := by decide +kernel
theorem dX8_isName_10 : decode cX8_isName 10 = .ok (.iconst 1, 1) := by decide +kernel
theorem dX8_isName_11 : decode cX8_isName 11 = .ok (.goto 4, 3) := by decide +kernel
theorem dX8_isName_14 : decode cX8_isName 14 = .ok (.iconst 0, 1) := by decide +kernel
theorem dX8_isName_15 : decode cX8_isName 15 = .ok (.istore_n 3, 1) := by decide +kernel
theorem dX8_isName_16 : decode cX8_isName 16 = .ok (.iconst 0, 1) := by decide +kernel
theorem dX8_isName_17 : decode cX8_isName 17 = .ok (.istore 4, 2) := by decide +kernel
theorem dX8_isName_19 : decode cX8_isName 19 = .ok (.iload 4, 2) := by decide +kernel
theorem dX8_isName_21 : decode cX8_isName 21 = .ok (.iload_n 2, 1) := by decide +kernel
theorem dX8_isName_22 : decode cX8_isName 22 = .ok (.if_icmp .ge 47, 3) := by decide +kernel
theorem dX8_isName_25 : decode cX8_isName 25 = .ok (.iload_n 3, 1) := by decide +kernel
theorem dX8_isName_26 : decode cX8_isName 26 = .ok (.ifCond .eq 43, 3) := by decide +kernel
theorem dX8_isName_29 : decode cX8_isName 29 = .ok (.aload_n 0, 1) := by decide +kernel
theorem dX8_isName_30 : decode cX8_isName 30 = .ok (.getfield 13, 3) := by decide +kernel
theorem dX8_isName_33 : decode cX8_isName 33 = .ok (.iload_n 1, 1) := by decide +kernel
theorem dX8_isName_34 : decode cX8_isName 34 = .ok (.iload 4, 2) := by decide +kernel
theorem dX8_isName_36 : decode cX8_isName 36 = .ok (.iadd, 1) := by decide +kernel
theorem dX8_isName_37 : decode cX8_isName 37 = .ok (.iaload, 1) := by decide +kernel
theorem dX8_isName_38 : decode cX8_isName 38 = .ok (.bipush 32, 2) := by decide +kernel
theorem dX8_isName_40 : decode cX8_isName 40 = .ok (.if_icmp .le 21, 3) := by decide +kernel
theorem dX8_isName_43 : decode cX8_isName 43 = .ok (.aload_n 0, 1) := by decide +kernel
theorem dX8_isName_44 : decode cX8_isName 44 = .ok (.getfield 13, 3) := by decide +kernel
theorem dX8_isName_47 : decode cX8_isName 47 = .ok (.iload_n 1, 1) := by decide +kernel
theorem dX8_isName_48 : decode cX8_isName 48 = .ok (.iload 4, 2) := by decide +kernel
theorem dX8_isName_50 : decode cX8_isName 50 = .ok (.iadd, 1) := by decide +kernel
theorem dX8_isName_51 : decode cX8_isName 51 = .ok (.iaload, 1) := by decide +kernel
theorem dX8_isName_52 : decode cX8_isName 52 = .ok (.bipush 127, 2) := by decide +kernel
theorem dX8_isName_54 : decode cX8_isName 54 = .ok (.if_icmp .ge 7, 3) := by decide +kernel
theorem dX8_isName_57 : decode cX8_isName 57 = .ok (.iconst 1, 1) := by decide +kernel
theorem dX8_isName_58 : decode cX8_isName 58 = .ok (.goto 4, 3) := by decide +kernel
theorem dX8_isName_61 : decode cX8_isName 61 = .ok (.iconst 0, 1) := by decide +kernel
theorem dX8_isName_62 : decode cX8_isName 62 = .ok (.istore_n 3, 1) := by decide +kernel
theorem dX8_isName_63 : decode cX8_isName 63 = .ok (.iinc 4 1, 3) := by decide +kernel
theorem dX8_isName_66 : decode cX8_isName 66 = .ok (.goto (-47), 3) := by decide +kernel
theorem dX8_isName_69 : decode cX8_isName 69 = .ok (.iload_n 3, 1) := by decide +kernel
theorem dX8_isName_70 : decode cX8_isName 70 = .ok (.ireturn, 1) := by decide +kernel
theorem dX8_named_0 : decode cX8_named 0 = .ok (.iconst 0, 1) := by decide +kernel
theorem dX8_named_1 : decode cX8_named 1 = .ok (.istore 4, 2) := by decide +kernel
theorem dX8_named_3 : decode cX8_named 3 = .ok (.iload 4, 2) := by decide +kernel
theorem dX8_named_5 : decode cX8_named 5 = .ok (.iload_n 3, 1) := by decide +kernel
theorem dX8_named_6 : decode cX8_named 6 = .ok (.if_icmp .ge 87, 3) := by decide +kernel
theorem dX8_named_9 : decode cX8_named 9 = .ok (.aload_n 0, 1) := by decide +kernel
theorem dX8_named_10 : decode cX8_named 10 = .ok (.getfield 22, 3) := by decide +kernel
theorem dX8_named_13 : decode cX8_named 13 = .ok (.iload 4, 2) := by decide +kernel
theorem dX8_named_15 : decode cX8_named 15 = .ok (.iaload, 1) := by decide +kernel
theorem dX8_named_16 : decode cX8_named 16 = .ok (.iload_n 2, 1) := by decide +kernel
theorem dX8_named_17 : decode cX8_named 17 = .ok (.if_icmp .ne 7, 3) := by decide +kernel
theorem dX8_named_20 : decode cX8_named 20 = .ok (.iconst 1, 1) := by decide +kernel
theorem dX8_named_21 : decode cX8_named 21 = .ok (.goto 4, 3) := by decide +kernel
theorem dX8_named_24 : decode cX8_named 24 = .ok (.iconst 0, 1) := by decide +kernel
theorem dX8_named_25 : decode cX8_named 25 = .ok (.istore 5, 2) := by decide +kernel
theorem dX8_named_27 : decode cX8_named 27 = .ok (.iconst 0, 1) := by decide +kernel
theorem dX8_named_28 : decode cX8_named 28 = .ok (.istore 6, 2) := by decide +kernel
theorem dX8_named_30 : decode cX8_named 30 = .ok (.iload 6, 2) := by decide +kernel
theorem dX8_named_32 : decode cX8_named 32 = .ok (.iload_n 2, 1) := by decide +kernel
theorem dX8_named_33 : decode cX8_named 33 = .ok (.if_icmp .ge 46, 3) := by decide +kernel
theorem dX8_named_36 : decode cX8_named 36 = .ok (.iload 5, 2) := by decide +kernel
theorem dX8_named_38 : decode cX8_named 38 = .ok (.ifCond .eq 41, 3) := by decide +kernel
theorem dX8_named_41 : decode cX8_named 41 = .ok (.aload_n 0, 1) := by decide +kernel
theorem dX8_named_42 : decode cX8_named 42 = .ok (.getfield 19, 3) := by decide +kernel
theorem dX8_named_45 : decode cX8_named 45 = .ok (.bipush 30, 2) := by decide +kernel
theorem dX8_named_47 : decode cX8_named 47 = .ok (.iload 4, 2) := by decide +kernel
theorem dX8_named_49 : decode cX8_named 49 = .ok (.imul, 1) := by decide +kernel
theorem dX8_named_50 : decode cX8_named 50 = .ok (.iload 6, 2) := by decide +kernel
theorem dX8_named_52 : decode cX8_named 52 = .ok (.iadd, 1) := by decide +kernel
theorem dX8_named_53 : decode cX8_named 53 = .ok (.iaload, 1) := by decide +kernel
theorem dX8_named_54 : decode cX8_named 54 = .ok (.aload_n 0, 1) := by decide +kernel
theorem dX8_named_55 : decode cX8_named 55 = .ok (.getfield 13, 3) := by decide +kernel
theorem dX8_named_58 : decode cX8_named 58 = .ok (.iload_n 1, 1) := by decide +kernel
theorem dX8_named_59 : decode cX8_named 59 = .ok (.iload 6, 2) := by decide +kernel
theorem dX8_named_61 : decode cX8_named 61 = .ok (.iadd, 1) := by decide +kernel
theorem dX8_named_62 : decode cX8_named 62 = .ok (.iaload, 1) := by decide +kernel
theorem dX8_named_63 : decode cX8_named 63 = .ok (.if_icmp .ne 7, 3) := by decide +kernel
theorem dX8_named_66 : decode cX8_named 66 = .ok (.iconst 1, 1) := by decide +kernel
theorem dX8_named_67 : decode cX8_named 67 = .ok (.goto 4, 3) := by decide +kernel
theorem dX8_named_70 : decode cX8_named 70 = .ok (.iconst 0, 1) := by decide +kernel
theorem dX8_named_71 : decode cX8_named 71 = .ok (.istore 5, 2) := by decide +kernel
theorem dX8_named_73 : decode cX8_named 73 = .ok (.iinc 6 1, 3) := by decide +kernel
theorem dX8_named_76 : decode cX8_named 76 = .ok (.goto (-46), 3) := by decide +kernel
theorem dX8_named_79 : decode cX8_named 79 = .ok (.iload 5, 2) := by decide +kernel
theorem dX8_named_81 : decode cX8_named 81 = .ok (.ifCond .eq 6, 3) := by decide +kernel
theorem dX8_named_84 : decode cX8_named 84 = .ok (.iload 4, 2) := by decide +kernel
theorem dX8_named_86 : decode cX8_named 86 = .ok (.ireturn, 1) := by decide +kernel
theorem dX8_named_87 : decode cX8_named 87 = .ok (.iinc 4 1, 3) := by decide +kernel
theorem dX8_named_90 : decode cX8_named 90 = .ok (.goto (-87), 3) := by decide +kernel
theorem dX8_named_93 : decode cX8_named 93 = .ok (.iconst (-1), 1) := by decide +kernel
theorem dX8_named_94 : decode cX8_named 94 = .ok (.ireturn, 1) := by decide +kernel
theorem dX8_total_0 : decode cX8_total 0 = .ok (.iconst 0, 1) := by decide +kernel
theorem dX8_total_1 : decode cX8_total 1 = .ok (.istore_n 1, 1) := by decide +kernel
theorem dX8_total_2 : decode cX8_total 2 = .ok (.iconst 0, 1) := by decide +kernel
theorem dX8_total_3 : decode cX8_total 3 = .ok (.istore_n 2, 1) := by decide +kernel
theorem dX8_total_4 : decode cX8_total 4 = .ok (.iload_n 2, 1) := by decide +kernel
theorem dX8_total_5 : decode cX8_total 5 = .ok (.aload_n 0, 1) := by decide +kernel
theorem dX8_total_6 : decode cX8_total 6 = .ok (.getfield 59, 3) := by decide +kernel
theorem dX8_total_9 : decode cX8_total 9 = .ok (.if_icmp .ge 18, 3) := by decide +kernel
theorem dX8_total_12 : decode cX8_total 12 = .ok (.iload_n 1, 1) := by decide +kernel
theorem dX8_total_13 : decode cX8_total 13 = .ok (.aload_n 0, 1) := by decide +kernel
theorem dX8_total_14 : decode cX8_total 14 = .ok (.getfield 28, 3) := by decide +kernel
theorem dX8_total_17 : decode cX8_total 17 = .ok (.iload_n 2, 1) := by decide +kernel
theorem dX8_total_18 : decode cX8_total 18 = .ok (.iaload, 1) := by decide +kernel
theorem dX8_total_19 : decode cX8_total 19 = .ok (.iadd, 1) := by decide +kernel
theorem dX8_total_20 : decode cX8_total 20 = .ok (.istore_n 1, 1) := by decide +kernel
theorem dX8_total_21 : decode cX8_total 21 = .ok (.iinc 2 1, 3) := by decide +kernel
theorem dX8_total_24 : decode cX8_total 24 = .ok (.goto (-20), 3) := by decide +kernel
theorem dX8_total_27 : decode cX8_total 27 = .ok (.iload_n 1, 1) := by decide +kernel
theorem dX8_total_28 : decode cX8_total 28 = .ok (.ireturn, 1) := by decide +kernel
theorem dX8_setName_0 : decode cX8_setName 0 = .ok (.iconst 0, 1) := by decide +kernel
theorem dX8_setName_1 : decode cX8_setName 1 = .ok (.istore 4, 2) := by decide +kernel
theorem dX8_setName_3 : decode cX8_setName 3 = .ok (.iload 4, 2) := by decide +kernel
theorem dX8_setName_5 : decode cX8_setName 5 = .ok (.iload_n 3, 1) := by decide +kernel
theorem dX8_setName_6 : decode cX8_setName 6 = .ok (.if_icmp .ge 30, 3) := by decide +kernel
theorem dX8_setName_9 : decode cX8_setName 9 = .ok (.aload_n 0, 1) := by decide +kernel
theorem dX8_setName_10 : decode cX8_setName 10 = .ok (.getfield 19, 3) := by decide +kernel
theorem dX8_setName_13 : decode cX8_setName 13 = .ok (.bipush 30, 2) := by decide +kernel
theorem dX8_setName_15 : decode cX8_setName 15 = .ok (.iload_n 1, 1) := by decide +kernel
theorem dX8_setName_16 : decode cX8_setName 16 = .ok (.imul, 1) := by decide +kernel
theorem dX8_setName_17 : decode cX8_setName 17 = .ok (.iload 4, 2) := by decide +kernel
theorem dX8_setName_19 : decode cX8_setName 19 = .ok (.iadd, 1) := by decide +kernel
theorem dX8_setName_20 : decode cX8_setName 20 = .ok (.aload_n 0, 1) := by decide +kernel
theorem dX8_setName_21 : decode cX8_setName 21 = .ok (.getfield 13, 3) := by decide +kernel
theorem dX8_setName_24 : decode cX8_setName 24 = .ok (.iload_n 2, 1) := by decide +kernel
theorem dX8_setName_25 : decode cX8_setName 25 = .ok (.iload 4, 2) := by decide +kernel
theorem dX8_setName_27 : decode cX8_setName 27 = .ok (.iadd, 1) := by decide +kernel
theorem dX8_setName_28 : decode cX8_setName 28 = .ok (.iaload, 1) := by decide +kernel
theorem dX8_setName_29 : decode cX8_setName 29 = .ok (.iastore, 1) := by decide +kernel
theorem dX8_setName_30 : decode cX8_setName 30 = .ok (.iinc 4 1, 3) := by decide +kernel
theorem dX8_setName_33 : decode cX8_setName 33 = .ok (.goto (-30), 3) := by decide +kernel
theorem dX8_setName_36 : decode cX8_setName 36 = .ok (.aload_n 0, 1) := by decide +kernel
theorem dX8_setName_37 : decode cX8_setName 37 = .ok (.getfield 22, 3) := by decide +kernel
theorem dX8_setName_40 : decode cX8_setName 40 = .ok (.iload_n 1, 1) := by decide +kernel
theorem dX8_setName_41 : decode cX8_setName 41 = .ok (.iload_n 3, 1) := by decide +kernel
theorem dX8_setName_42 : decode cX8_setName 42 = .ok (.iastore, 1) := by decide +kernel
theorem dX8_setName_43 : decode cX8_setName 43 = .ok (.return_, 1) := by decide +kernel
theorem dX8_setBytes_0 : decode cX8_setBytes 0 = .ok (.iconst 0, 1) := by decide +kernel
theorem dX8_setBytes_1 : decode cX8_setBytes 1 = .ok (.istore 4, 2) := by decide +kernel
theorem dX8_setBytes_3 : decode cX8_setBytes 3 = .ok (.iload 4, 2) := by decide +kernel
theorem dX8_setBytes_5 : decode cX8_setBytes 5 = .ok (.iload_n 3, 1) := by decide +kernel
theorem dX8_setBytes_6 : decode cX8_setBytes 6 = .ok (.if_icmp .ge 31, 3) := by decide +kernel
theorem dX8_setBytes_9 : decode cX8_setBytes 9 = .ok (.aload_n 0, 1) := by decide +kernel
theorem dX8_setBytes_10 : decode cX8_setBytes 10 = .ok (.getfield 25, 3) := by decide +kernel
theorem dX8_setBytes_13 : decode cX8_setBytes 13 = .ok (.sipush 1500, 3) := by decide +kernel
theorem dX8_setBytes_16 : decode cX8_setBytes 16 = .ok (.iload_n 1, 1) := by decide +kernel
theorem dX8_setBytes_17 : decode cX8_setBytes 17 = .ok (.imul, 1) := by decide +kernel
theorem dX8_setBytes_18 : decode cX8_setBytes 18 = .ok (.iload 4, 2) := by decide +kernel
theorem dX8_setBytes_20 : decode cX8_setBytes 20 = .ok (.iadd, 1) := by decide +kernel
theorem dX8_setBytes_21 : decode cX8_setBytes 21 = .ok (.aload_n 0, 1) := by decide +kernel
theorem dX8_setBytes_22 : decode cX8_setBytes 22 = .ok (.getfield 13, 3) := by decide +kernel
theorem dX8_setBytes_25 : decode cX8_setBytes 25 = .ok (.iload_n 2, 1) := by decide +kernel
theorem dX8_setBytes_26 : decode cX8_setBytes 26 = .ok (.iload 4, 2) := by decide +kernel
theorem dX8_setBytes_28 : decode cX8_setBytes 28 = .ok (.iadd, 1) := by decide +kernel
theorem dX8_setBytes_29 : decode cX8_setBytes 29 = .ok (.iaload, 1) := by decide +kernel
theorem dX8_setBytes_30 : decode cX8_setBytes 30 = .ok (.iastore, 1) := by decide +kernel
theorem dX8_setBytes_31 : decode cX8_setBytes 31 = .ok (.iinc 4 1, 3) := by decide +kernel
theorem dX8_setBytes_34 : decode cX8_setBytes 34 = .ok (.goto (-31), 3) := by decide +kernel
theorem dX8_setBytes_37 : decode cX8_setBytes 37 = .ok (.aload_n 0, 1) := by decide +kernel
theorem dX8_setBytes_38 : decode cX8_setBytes 38 = .ok (.getfield 28, 3) := by decide +kernel
theorem dX8_setBytes_41 : decode cX8_setBytes 41 = .ok (.iload_n 1, 1) := by decide +kernel
theorem dX8_setBytes_42 : decode cX8_setBytes 42 = .ok (.iload_n 3, 1) := by decide +kernel
theorem dX8_setBytes_43 : decode cX8_setBytes 43 = .ok (.iastore, 1) := by decide +kernel
theorem dX8_setBytes_44 : decode cX8_setBytes 44 = .ok (.return_, 1) := by decide +kernel
theorem dX8_copyFile_0 : decode cX8_copyFile 0 = .ok (.iconst 0, 1) := by decide +kernel
theorem dX8_copyFile_1 : decode cX8_copyFile 1 = .ok (.istore_n 3, 1) := by decide +kernel
theorem dX8_copyFile_2 : decode cX8_copyFile 2 = .ok (.iload_n 3, 1) := by decide +kernel
theorem dX8_copyFile_3 : decode cX8_copyFile 3 = .ok (.bipush 30, 2) := by decide +kernel
theorem dX8_copyFile_5 : decode cX8_copyFile 5 = .ok (.if_icmp .ge 31, 3) := by decide +kernel
theorem dX8_copyFile_8 : decode cX8_copyFile 8 = .ok (.aload_n 0, 1) := by decide +kernel
theorem dX8_copyFile_9 : decode cX8_copyFile 9 = .ok (.getfield 19, 3) := by decide +kernel
theorem dX8_copyFile_12 : decode cX8_copyFile 12 = .ok (.bipush 30, 2) := by decide +kernel
theorem dX8_copyFile_14 : decode cX8_copyFile 14 = .ok (.iload_n 2, 1) := by decide +kernel
theorem dX8_copyFile_15 : decode cX8_copyFile 15 = .ok (.imul, 1) := by decide +kernel
theorem dX8_copyFile_16 : decode cX8_copyFile 16 = .ok (.iload_n 3, 1) := by decide +kernel
theorem dX8_copyFile_17 : decode cX8_copyFile 17 = .ok (.iadd, 1) := by decide +kernel
theorem dX8_copyFile_18 : decode cX8_copyFile 18 = .ok (.aload_n 0, 1) := by decide +kernel
theorem dX8_copyFile_19 : decode cX8_copyFile 19 = .ok (.getfield 19, 3) := by decide +kernel
theorem dX8_copyFile_22 : decode cX8_copyFile 22 = .ok (.bipush 30, 2) := by decide +kernel
theorem dX8_copyFile_24 : decode cX8_copyFile 24 = .ok (.iload_n 1, 1) := by decide +kernel
theorem dX8_copyFile_25 : decode cX8_copyFile 25 = .ok (.imul, 1) := by decide +kernel
theorem dX8_copyFile_26 : decode cX8_copyFile 26 = .ok (.iload_n 3, 1) := by decide +kernel
theorem dX8_copyFile_27 : decode cX8_copyFile 27 = .ok (.iadd, 1) := by decide +kernel
theorem dX8_copyFile_28 : decode cX8_copyFile 28 = .ok (.iaload, 1) := by decide +kernel
theorem dX8_copyFile_29 : decode cX8_copyFile 29 = .ok (.iastore, 1) := by decide +kernel
theorem dX8_copyFile_30 : decode cX8_copyFile 30 = .ok (.iinc 3 1, 3) := by decide +kernel
theorem dX8_copyFile_33 : decode cX8_copyFile 33 = .ok (.goto (-31), 3) := by decide +kernel
theorem dX8_copyFile_36 : decode cX8_copyFile 36 = .ok (.aload_n 0, 1) := by decide +kernel
theorem dX8_copyFile_37 : decode cX8_copyFile 37 = .ok (.getfield 22, 3) := by decide +kernel
theorem dX8_copyFile_40 : decode cX8_copyFile 40 = .ok (.iload_n 2, 1) := by decide +kernel
theorem dX8_copyFile_41 : decode cX8_copyFile 41 = .ok (.aload_n 0, 1) := by decide +kernel
theorem dX8_copyFile_42 : decode cX8_copyFile 42 = .ok (.getfield 22, 3) := by decide +kernel
theorem dX8_copyFile_45 : decode cX8_copyFile 45 = .ok (.iload_n 1, 1) := by decide +kernel
theorem dX8_copyFile_46 : decode cX8_copyFile 46 = .ok (.iaload, 1) := by decide +kernel
theorem dX8_copyFile_47 : decode cX8_copyFile 47 = .ok (.iastore, 1) := by decide +kernel
theorem dX8_copyFile_48 : decode cX8_copyFile 48 = .ok (.iconst 0, 1) := by decide +kernel
theorem dX8_copyFile_49 : decode cX8_copyFile 49 = .ok (.istore_n 3, 1) := by decide +kernel
theorem dX8_copyFile_50 : decode cX8_copyFile 50 = .ok (.iload_n 3, 1) := by decide +kernel
theorem dX8_copyFile_51 : decode cX8_copyFile 51 = .ok (.aload_n 0, 1) := by decide +kernel
theorem dX8_copyFile_52 : decode cX8_copyFile 52 = .ok (.getfield 28, 3) := by decide +kernel
theorem dX8_copyFile_55 : decode cX8_copyFile 55 = .ok (.iload_n 1, 1) := by decide +kernel
theorem dX8_copyFile_56 : decode cX8_copyFile 56 = .ok (.iaload, 1) := by decide +kernel
theorem dX8_copyFile_57 : decode cX8_copyFile 57 = .ok (.if_icmp .ge 33, 3) := by decide +kernel
theorem dX8_copyFile_60 : decode cX8_copyFile 60 = .ok (.aload_n 0, 1) := by decide +kernel
theorem dX8_copyFile_61 : decode cX8_copyFile 61 = .ok (.getfield 25, 3) := by decide +kernel
theorem dX8_copyFile_64 : decode cX8_copyFile 64 = .ok (.sipush 1500, 3) := by decide +kernel
theorem dX8_copyFile_67 : decode cX8_copyFile 67 = .ok (.iload_n 2, 1) := by decide +kernel
theorem dX8_copyFile_68 : decode cX8_copyFile 68 = .ok (.imul, 1) := by decide +kernel
theorem dX8_copyFile_69 : decode cX8_copyFile 69 = .ok (.iload_n 3, 1) := by decide +kernel
theorem dX8_copyFile_70 : decode cX8_copyFile 70 = .ok (.iadd, 1) := by decide +kernel
theorem dX8_copyFile_71 : decode cX8_copyFile 71 = .ok (.aload_n 0, 1) := by decide +kernel
theorem dX8_copyFile_72 : decode cX8_copyFile 72 = .ok (.getfield 25, 3) := by decide +kernel
theorem dX8_copyFile_75 : decode cX8_copyFile 75 = .ok (.sipush 1500, 3) := by decide +kernel
theorem dX8_copyFile_78 : decode cX8_copyFile 78 = .ok (.iload_n 1, 1) := by decide +kernel
theorem dX8_copyFile_79 : decode cX8_copyFile 79 = .ok (.imul, 1) := by decide +kernel
theorem dX8_copyFile_80 : decode cX8_copyFile 80 = .ok (.iload_n 3, 1) := by decide +kernel
theorem dX8_copyFile_81 : decode cX8_copyFile 81 = .ok (.iadd, 1) := by decide +kernel
theorem dX8_copyFile_82 : decode cX8_copyFile 82 = .ok (.iaload, 1) := by decide +kernel
theorem dX8_copyFile_83 : decode cX8_copyFile 83 = .ok (.iastore, 1) := by decide +kernel
theorem dX8_copyFile_84 : decode cX8_copyFile 84 = .ok (.iinc 3 1, 3) := by decide +kernel
theorem dX8_copyFile_87 : decode cX8_copyFile 87 = .ok (.goto (-37), 3) := by decide +kernel
theorem dX8_copyFile_90 : decode cX8_copyFile 90 = .ok (.aload_n 0, 1) := by decide +kernel
theorem dX8_copyFile_91 : decode cX8_copyFile 91 = .ok (.getfield 28, 3) := by decide +kernel
theorem dX8_copyFile_94 : decode cX8_copyFile 94 = .ok (.iload_n 2, 1) := by decide +kernel
theorem dX8_copyFile_95 : decode cX8_copyFile 95 = .ok (.aload_n 0, 1) := by decide +kernel
theorem dX8_copyFile_96 : decode cX8_copyFile 96 = .ok (.getfield 28, 3) := by decide +kernel
theorem dX8_copyFile_99 : decode cX8_copyFile 99 = .ok (.iload_n 1, 1) := by decide +kernel
theorem dX8_copyFile_100 : decode cX8_copyFile 100 = .ok (.iaload, 1) := by decide +kernel
theorem dX8_copyFile_101 : decode cX8_copyFile 101 = .ok (.iastore, 1) := by decide +kernel
theorem dX8_copyFile_102 : decode cX8_copyFile 102 = .ok (.return_, 1) := by decide +kernel
theorem dX8_goes_0 : decode cX8_goes 0 = .ok (.iload_n 1, 1) := by decide +kernel
theorem dX8_goes_1 : decode cX8_goes 1 = .ok (.istore_n 2, 1) := by decide +kernel
theorem dX8_goes_2 : decode cX8_goes 2 = .ok (.iload_n 2, 1) := by decide +kernel
theorem dX8_goes_3 : decode cX8_goes 3 = .ok (.iconst 1, 1) := by decide +kernel
theorem dX8_goes_4 : decode cX8_goes 4 = .ok (.iadd, 1) := by decide +kernel
theorem dX8_goes_5 : decode cX8_goes 5 = .ok (.aload_n 0, 1) := by decide +kernel
theorem dX8_goes_6 : decode cX8_goes 6 = .ok (.getfield 59, 3) := by decide +kernel
theorem dX8_goes_9 : decode cX8_goes 9 = .ok (.if_icmp .ge 17, 3) := by decide +kernel
theorem dX8_goes_12 : decode cX8_goes 12 = .ok (.aload_n 0, 1) := by decide +kernel
theorem dX8_goes_13 : decode cX8_goes 13 = .ok (.iload_n 2, 1) := by decide +kernel
theorem dX8_goes_14 : decode cX8_goes 14 = .ok (.iconst 1, 1) := by decide +kernel
theorem dX8_goes_15 : decode cX8_goes 15 = .ok (.iadd, 1) := by decide +kernel
theorem dX8_goes_16 : decode cX8_goes 16 = .ok (.iload_n 2, 1) := by decide +kernel
theorem dX8_goes_17 : decode cX8_goes 17 = .ok (.invokevirtual 62, 3) := by decide +kernel
theorem dX8_goes_20 : decode cX8_goes 20 = .ok (.iinc 2 1, 3) := by decide +kernel
theorem dX8_goes_23 : decode cX8_goes 23 = .ok (.goto (-21), 3) := by decide +kernel
theorem dX8_goes_26 : decode cX8_goes 26 = .ok (.aload_n 0, 1) := by decide +kernel
theorem dX8_goes_27 : decode cX8_goes 27 = .ok (.dup, 1) := by decide +kernel
theorem dX8_goes_28 : decode cX8_goes 28 = .ok (.getfield 59, 3) := by decide +kernel
theorem dX8_goes_31 : decode cX8_goes 31 = .ok (.iconst 1, 1) := by decide +kernel
theorem dX8_goes_32 : decode cX8_goes 32 = .ok (.isub, 1) := by decide +kernel
theorem dX8_goes_33 : decode cX8_goes 33 = .ok (.putfield 59, 3) := by decide +kernel
theorem dX8_goes_36 : decode cX8_goes 36 = .ok (.return_, 1) := by decide +kernel
theorem dX8_add_0 : decode cX8_add 0 = .ok (.aload_n 0, 1) := by decide +kernel
theorem dX8_add_1 : decode cX8_add 1 = .ok (.iload_n 1, 1) := by decide +kernel
theorem dX8_add_2 : decode cX8_add 2 = .ok (.ifCond .lt 32, 3) := by decide +kernel
theorem dX8_add_5 : decode cX8_add 5 = .ok (.iload_n 1, 1) := by decide +kernel
theorem dX8_add_6 : decode cX8_add 6 = .ok (.aload_n 0, 1) := by decide +kernel
theorem dX8_add_7 : decode cX8_add 7 = .ok (.getfield 53, 3) := by decide +kernel
theorem dX8_add_10 : decode cX8_add 10 = .ok (.if_icmp .gt 24, 3) := by decide +kernel
theorem dX8_add_13 : decode cX8_add 13 = .ok (.aload_n 0, 1) := by decide +kernel
theorem dX8_add_14 : decode cX8_add 14 = .ok (.iconst 0, 1) := by decide +kernel
theorem dX8_add_15 : decode cX8_add 15 = .ok (.iload_n 1, 1) := by decide +kernel
theorem dX8_add_16 : decode cX8_add 16 = .ok (.invokevirtual 66, 3) := by decide +kernel
theorem dX8_add_19 : decode cX8_add 19 = .ok (.ifCond .eq 15, 3) := by decide +kernel
theorem dX8_add_22 : decode cX8_add 22 = .ok (.aload_n 0, 1) := by decide +kernel
theorem dX8_add_23 : decode cX8_add 23 = .ok (.getfield 53, 3) := by decide +kernel
theorem dX8_add_26 : decode cX8_add 26 = .ok (.iload_n 1, 1) := by decide +kernel
theorem dX8_add_27 : decode cX8_add 27 = .ok (.isub, 1) := by decide +kernel
theorem dX8_add_28 : decode cX8_add 28 = .ok (.sipush 1500, 3) := by decide +kernel
theorem dX8_add_31 : decode cX8_add 31 = .ok (.if_icmp .le 7, 3) := by decide +kernel
theorem dX8_add_34 : decode cX8_add 34 = .ok (.iconst 1, 1) := by decide +kernel
theorem dX8_add_35 : decode cX8_add 35 = .ok (.goto 4, 3) := by decide +kernel
theorem dX8_add_38 : decode cX8_add 38 = .ok (.iconst 0, 1) := by decide +kernel
theorem dX8_add_39 : decode cX8_add 39 = .ok (.putfield 50, 3) := by decide +kernel
theorem dX8_add_42 : decode cX8_add 42 = .ok (.aload_n 0, 1) := by decide +kernel
theorem dX8_add_43 : decode cX8_add 43 = .ok (.getfield 50, 3) := by decide +kernel
theorem dX8_add_46 : decode cX8_add 46 = .ok (.ifCond .ne 48, 3) := by decide +kernel
theorem dX8_add_49 : decode cX8_add 49 = .ok (.aload_n 0, 1) := by decide +kernel
theorem dX8_add_50 : decode cX8_add 50 = .ok (.iconst 0, 1) := by decide +kernel
theorem dX8_add_51 : decode cX8_add 51 = .ok (.iload_n 1, 1) := by decide +kernel
theorem dX8_add_52 : decode cX8_add 52 = .ok (.aload_n 0, 1) := by decide +kernel
theorem dX8_add_53 : decode cX8_add 53 = .ok (.getfield 59, 3) := by decide +kernel
theorem dX8_add_56 : decode cX8_add 56 = .ok (.invokevirtual 70, 3) := by decide +kernel
theorem dX8_add_59 : decode cX8_add 59 = .ok (.iconst (-1), 1) := by decide +kernel
theorem dX8_add_60 : decode cX8_add 60 = .ok (.if_icmp .ne 29, 3) := by decide +kernel
theorem dX8_add_63 : decode cX8_add 63 = .ok (.aload_n 0, 1) := by decide +kernel
theorem dX8_add_64 : decode cX8_add 64 = .ok (.getfield 59, 3) := by decide +kernel
theorem dX8_add_67 : decode cX8_add 67 = .ok (.bipush 20, 2) := by decide +kernel
theorem dX8_add_69 : decode cX8_add 69 = .ok (.if_icmp .eq 20, 3) := by decide +kernel
theorem dX8_add_72 : decode cX8_add 72 = .ok (.aload_n 0, 1) := by decide +kernel
theorem dX8_add_73 : decode cX8_add 73 = .ok (.invokevirtual 74, 3) := by decide +kernel
theorem dX8_add_76 : decode cX8_add 76 = .ok (.aload_n 0, 1) := by decide +kernel
theorem dX8_add_77 : decode cX8_add 77 = .ok (.getfield 53, 3) := by decide +kernel
theorem dX8_add_80 : decode cX8_add 80 = .ok (.iadd, 1) := by decide +kernel
theorem dX8_add_81 : decode cX8_add 81 = .ok (.iload_n 1, 1) := by decide +kernel
theorem dX8_add_82 : decode cX8_add 82 = .ok (.isub, 1) := by decide +kernel
theorem dX8_add_83 : decode cX8_add 83 = .ok (.sipush 6000, 3) := by decide +kernel
theorem dX8_add_86 : decode cX8_add 86 = .ok (.if_icmp .le 8, 3) := by decide +kernel
theorem dX8_add_89 : decode cX8_add 89 = .ok (.aload_n 0, 1) := by decide +kernel
theorem dX8_add_90 : decode cX8_add 90 = .ok (.iconst 2, 1) := by decide +kernel
theorem dX8_add_91 : decode cX8_add 91 = .ok (.putfield 50, 3) := by decide +kernel
theorem dX8_add_94 : decode cX8_add 94 = .ok (.aload_n 0, 1) := by decide +kernel
theorem dX8_add_95 : decode cX8_add 95 = .ok (.getfield 50, 3) := by decide +kernel
theorem dX8_add_98 : decode cX8_add 98 = .ok (.ifCond .le 5, 3) := by decide +kernel
theorem dX8_add_101 : decode cX8_add 101 = .ok (.iconst 0, 1) := by decide +kernel
theorem dX8_add_102 : decode cX8_add 102 = .ok (.ireturn, 1) := by decide +kernel
theorem dX8_add_103 : decode cX8_add 103 = .ok (.aload_n 0, 1) := by decide +kernel
theorem dX8_add_104 : decode cX8_add 104 = .ok (.aload_n 0, 1) := by decide +kernel
theorem dX8_add_105 : decode cX8_add 105 = .ok (.getfield 59, 3) := by decide +kernel
theorem dX8_add_108 : decode cX8_add 108 = .ok (.iconst 0, 1) := by decide +kernel
theorem dX8_add_109 : decode cX8_add 109 = .ok (.iload_n 1, 1) := by decide +kernel
theorem dX8_add_110 : decode cX8_add 110 = .ok (.invokevirtual 78, 3) := by decide +kernel
theorem dX8_add_113 : decode cX8_add 113 = .ok (.aload_n 0, 1) := by decide +kernel
theorem dX8_add_114 : decode cX8_add 114 = .ok (.aload_n 0, 1) := by decide +kernel
theorem dX8_add_115 : decode cX8_add 115 = .ok (.getfield 59, 3) := by decide +kernel
theorem dX8_add_118 : decode cX8_add 118 = .ok (.iload_n 1, 1) := by decide +kernel
theorem dX8_add_119 : decode cX8_add 119 = .ok (.aload_n 0, 1) := by decide +kernel
theorem dX8_add_120 : decode cX8_add 120 = .ok (.getfield 53, 3) := by decide +kernel
theorem dX8_add_123 : decode cX8_add 123 = .ok (.iload_n 1, 1) := by decide +kernel
theorem dX8_add_124 : decode cX8_add 124 = .ok (.isub, 1) := by decide +kernel
theorem dX8_add_125 : decode cX8_add 125 = .ok (.invokevirtual 82, 3) := by decide +kernel
theorem dX8_add_128 : decode cX8_add 128 = .ok (.aload_n 0, 1) := by decide +kernel
theorem dX8_add_129 : decode cX8_add 129 = .ok (.dup, 1) := by decide +kernel
theorem dX8_add_130 : decode cX8_add 130 = .ok (.getfield 59, 3) := by decide +kernel
theorem dX8_add_133 : decode cX8_add 133 = .ok (.iconst 1, 1) := by decide +kernel
theorem dX8_add_134 : decode cX8_add 134 = .ok (.iadd, 1) := by decide +kernel
theorem dX8_add_135 : decode cX8_add 135 = .ok (.putfield 59, 3) := by decide +kernel
theorem dX8_add_138 : decode cX8_add 138 = .ok (.aload_n 0, 1) := by decide +kernel
theorem dX8_add_139 : decode cX8_add 139 = .ok (.iconst 0, 1) := by decide +kernel
theorem dX8_add_140 : decode cX8_add 140 = .ok (.putfield 53, 3) := by decide +kernel
theorem dX8_add_143 : decode cX8_add 143 = .ok (.aload_n 0, 1) := by decide +kernel
theorem dX8_add_144 : decode cX8_add 144 = .ok (.getfield 59, 3) := by decide +kernel
theorem dX8_add_147 : decode cX8_add 147 = .ok (.iconst 1, 1) := by decide +kernel
theorem dX8_add_148 : decode cX8_add 148 = .ok (.isub, 1) := by decide +kernel
theorem dX8_add_149 : decode cX8_add 149 = .ok (.ireturn, 1) := by decide +kernel
theorem dX8_replace_0 : decode cX8_replace 0 = .ok (.aload_n 0, 1) := by decide +kernel
theorem dX8_replace_1 : decode cX8_replace 1 = .ok (.aload_n 0, 1) := by decide +kernel
theorem dX8_replace_2 : decode cX8_replace 2 = .ok (.iload_n 1, 1) := by decide +kernel
theorem dX8_replace_3 : decode cX8_replace 3 = .ok (.invokevirtual 85, 3) := by decide +kernel
theorem dX8_replace_6 : decode cX8_replace 6 = .ok (.ifCond .ne 7, 3) := by decide +kernel
theorem dX8_replace_9 : decode cX8_replace 9 = .ok (.iconst 1, 1) := by decide +kernel
theorem dX8_replace_10 : decode cX8_replace 10 = .ok (.goto 44, 3) := by decide +kernel
theorem dX8_replace_13 : decode cX8_replace 13 = .ok (.aload_n 0, 1) := by decide +kernel
theorem dX8_replace_14 : decode cX8_replace 14 = .ok (.getfield 53, 3) := by decide +kernel
theorem dX8_replace_17 : decode cX8_replace 17 = .ok (.sipush 1500, 3) := by decide +kernel
theorem dX8_replace_20 : decode cX8_replace 20 = .ok (.if_icmp .le 7, 3) := by decide +kernel
theorem dX8_replace_23 : decode cX8_replace 23 = .ok (.iconst 2, 1) := by decide +kernel
theorem dX8_replace_24 : decode cX8_replace 24 = .ok (.goto 30, 3) := by decide +kernel
theorem dX8_replace_27 : decode cX8_replace 27 = .ok (.aload_n 0, 1) := by decide +kernel
theorem dX8_replace_28 : decode cX8_replace 28 = .ok (.invokevirtual 74, 3) := by decide +kernel
theorem dX8_replace_31 : decode cX8_replace 31 = .ok (.aload_n 0, 1) := by decide +kernel
theorem dX8_replace_32 : decode cX8_replace 32 = .ok (.getfield 28, 3) := by decide +kernel
theorem dX8_replace_35 : decode cX8_replace 35 = .ok (.iload_n 1, 1) := by decide +kernel
theorem dX8_replace_36 : decode cX8_replace 36 = .ok (.iaload, 1) := by decide +kernel
theorem dX8_replace_37 : decode cX8_replace 37 = .ok (.isub, 1) := by decide +kernel
theorem dX8_replace_38 : decode cX8_replace 38 = .ok (.aload_n 0, 1) := by decide +kernel
theorem dX8_replace_39 : decode cX8_replace 39 = .ok (.getfield 53, 3) := by decide +kernel
theorem dX8_replace_42 : decode cX8_replace 42 = .ok (.iadd, 1) := by decide +kernel
theorem dX8_replace_43 : decode cX8_replace 43 = .ok (.sipush 6000, 3) := by decide +kernel
theorem dX8_replace_46 : decode cX8_replace 46 = .ok (.if_icmp .le 7, 3) := by decide +kernel
theorem dX8_replace_49 : decode cX8_replace 49 = .ok (.iconst 3, 1) := by decide +kernel
theorem dX8_replace_50 : decode cX8_replace 50 = .ok (.goto 4, 3) := by decide +kernel
theorem dX8_replace_53 : decode cX8_replace 53 = .ok (.iconst 0, 1) := by decide +kernel
theorem dX8_replace_54 : decode cX8_replace 54 = .ok (.putfield 50, 3) := by decide +kernel
theorem dX8_replace_57 : decode cX8_replace 57 = .ok (.aload_n 0, 1) := by decide +kernel
theorem dX8_replace_58 : decode cX8_replace 58 = .ok (.getfield 50, 3) := by decide +kernel
theorem dX8_replace_61 : decode cX8_replace 61 = .ok (.ifCond .le 4, 3) := by decide +kernel
theorem dX8_replace_64 : decode cX8_replace 64 = .ok (.return_, 1) := by decide +kernel
theorem dX8_replace_65 : decode cX8_replace 65 = .ok (.aload_n 0, 1) := by decide +kernel
theorem dX8_replace_66 : decode cX8_replace 66 = .ok (.iload_n 1, 1) := by decide +kernel
theorem dX8_replace_67 : decode cX8_replace 67 = .ok (.iconst 0, 1) := by decide +kernel
theorem dX8_replace_68 : decode cX8_replace 68 = .ok (.aload_n 0, 1) := by decide +kernel
theorem dX8_replace_69 : decode cX8_replace 69 = .ok (.getfield 53, 3) := by decide +kernel
theorem dX8_replace_72 : decode cX8_replace 72 = .ok (.invokevirtual 82, 3) := by decide +kernel
theorem dX8_replace_75 : decode cX8_replace 75 = .ok (.aload_n 0, 1) := by decide +kernel
theorem dX8_replace_76 : decode cX8_replace 76 = .ok (.iconst 0, 1) := by decide +kernel
theorem dX8_replace_77 : decode cX8_replace 77 = .ok (.putfield 53, 3) := by decide +kernel
theorem dX8_replace_80 : decode cX8_replace 80 = .ok (.return_, 1) := by decide +kernel
theorem dX8_rename_0 : decode cX8_rename 0 = .ok (.aload_n 0, 1) := by decide +kernel
theorem dX8_rename_1 : decode cX8_rename 1 = .ok (.aload_n 0, 1) := by decide +kernel
theorem dX8_rename_2 : decode cX8_rename 2 = .ok (.iload_n 1, 1) := by decide +kernel
theorem dX8_rename_3 : decode cX8_rename 3 = .ok (.invokevirtual 85, 3) := by decide +kernel
theorem dX8_rename_6 : decode cX8_rename 6 = .ok (.ifCond .ne 7, 3) := by decide +kernel
theorem dX8_rename_9 : decode cX8_rename 9 = .ok (.iconst 1, 1) := by decide +kernel
theorem dX8_rename_10 : decode cX8_rename 10 = .ok (.goto 20, 3) := by decide +kernel
theorem dX8_rename_13 : decode cX8_rename 13 = .ok (.aload_n 0, 1) := by decide +kernel
theorem dX8_rename_14 : decode cX8_rename 14 = .ok (.iconst 0, 1) := by decide +kernel
theorem dX8_rename_15 : decode cX8_rename 15 = .ok (.aload_n 0, 1) := by decide +kernel
theorem dX8_rename_16 : decode cX8_rename 16 = .ok (.getfield 53, 3) := by decide +kernel
theorem dX8_rename_19 : decode cX8_rename 19 = .ok (.invokevirtual 66, 3) := by decide +kernel
theorem dX8_rename_22 : decode cX8_rename 22 = .ok (.ifCond .ne 7, 3) := by decide +kernel
theorem dX8_rename_25 : decode cX8_rename 25 = .ok (.iconst 2, 1) := by decide +kernel
theorem dX8_rename_26 : decode cX8_rename 26 = .ok (.goto 4, 3) := by decide +kernel
theorem dX8_rename_29 : decode cX8_rename 29 = .ok (.iconst 0, 1) := by decide +kernel
theorem dX8_rename_30 : decode cX8_rename 30 = .ok (.putfield 50, 3) := by decide +kernel
theorem dX8_rename_33 : decode cX8_rename 33 = .ok (.aload_n 0, 1) := by decide +kernel
theorem dX8_rename_34 : decode cX8_rename 34 = .ok (.getfield 50, 3) := by decide +kernel
theorem dX8_rename_37 : decode cX8_rename 37 = .ok (.ifCond .le 4, 3) := by decide +kernel
theorem dX8_rename_40 : decode cX8_rename 40 = .ok (.return_, 1) := by decide +kernel
theorem dX8_rename_41 : decode cX8_rename 41 = .ok (.aload_n 0, 1) := by decide +kernel
theorem dX8_rename_42 : decode cX8_rename 42 = .ok (.iconst 0, 1) := by decide +kernel
theorem dX8_rename_43 : decode cX8_rename 43 = .ok (.aload_n 0, 1) := by decide +kernel
theorem dX8_rename_44 : decode cX8_rename 44 = .ok (.getfield 53, 3) := by decide +kernel
theorem dX8_rename_47 : decode cX8_rename 47 = .ok (.aload_n 0, 1) := by decide +kernel
theorem dX8_rename_48 : decode cX8_rename 48 = .ok (.getfield 59, 3) := by decide +kernel
theorem dX8_rename_51 : decode cX8_rename 51 = .ok (.invokevirtual 70, 3) := by decide +kernel
theorem dX8_rename_54 : decode cX8_rename 54 = .ok (.istore_n 2, 1) := by decide +kernel
theorem dX8_rename_55 : decode cX8_rename 55 = .ok (.aload_n 0, 1) := by decide +kernel
theorem dX8_rename_56 : decode cX8_rename 56 = .ok (.iload_n 2, 1) := by decide +kernel
theorem dX8_rename_57 : decode cX8_rename 57 = .ok (.iconst (-1), 1) := by decide +kernel
theorem dX8_rename_58 : decode cX8_rename 58 = .ok (.if_icmp .eq 12, 3) := by decide +kernel
theorem dX8_rename_61 : decode cX8_rename 61 = .ok (.iload_n 2, 1) := by decide +kernel
theorem dX8_rename_62 : decode cX8_rename 62 = .ok (.iload_n 1, 1) := by decide +kernel
theorem dX8_rename_63 : decode cX8_rename 63 = .ok (.if_icmp .eq 7, 3) := by decide +kernel
theorem dX8_rename_66 : decode cX8_rename 66 = .ok (.iconst 3, 1) := by decide +kernel
theorem dX8_rename_67 : decode cX8_rename 67 = .ok (.goto 4, 3) := by decide +kernel
theorem dX8_rename_70 : decode cX8_rename 70 = .ok (.iconst 0, 1) := by decide +kernel
theorem dX8_rename_71 : decode cX8_rename 71 = .ok (.putfield 50, 3) := by decide +kernel
theorem dX8_rename_74 : decode cX8_rename 74 = .ok (.aload_n 0, 1) := by decide +kernel
theorem dX8_rename_75 : decode cX8_rename 75 = .ok (.getfield 50, 3) := by decide +kernel
theorem dX8_rename_78 : decode cX8_rename 78 = .ok (.ifCond .le 4, 3) := by decide +kernel
theorem dX8_rename_81 : decode cX8_rename 81 = .ok (.return_, 1) := by decide +kernel
theorem dX8_rename_82 : decode cX8_rename 82 = .ok (.aload_n 0, 1) := by decide +kernel
theorem dX8_rename_83 : decode cX8_rename 83 = .ok (.iload_n 1, 1) := by decide +kernel
theorem dX8_rename_84 : decode cX8_rename 84 = .ok (.iconst 0, 1) := by decide +kernel
theorem dX8_rename_85 : decode cX8_rename 85 = .ok (.aload_n 0, 1) := by decide +kernel
theorem dX8_rename_86 : decode cX8_rename 86 = .ok (.getfield 53, 3) := by decide +kernel
theorem dX8_rename_89 : decode cX8_rename 89 = .ok (.invokevirtual 78, 3) := by decide +kernel
theorem dX8_rename_92 : decode cX8_rename 92 = .ok (.aload_n 0, 1) := by decide +kernel
theorem dX8_rename_93 : decode cX8_rename 93 = .ok (.iconst 0, 1) := by decide +kernel
theorem dX8_rename_94 : decode cX8_rename 94 = .ok (.putfield 53, 3) := by decide +kernel
theorem dX8_rename_97 : decode cX8_rename 97 = .ok (.return_, 1) := by decide +kernel
theorem dX8_remove_0 : decode cX8_remove 0 = .ok (.aload_n 0, 1) := by decide +kernel
theorem dX8_remove_1 : decode cX8_remove 1 = .ok (.aload_n 0, 1) := by decide +kernel
theorem dX8_remove_2 : decode cX8_remove 2 = .ok (.iload_n 1, 1) := by decide +kernel
theorem dX8_remove_3 : decode cX8_remove 3 = .ok (.invokevirtual 85, 3) := by decide +kernel
theorem dX8_remove_6 : decode cX8_remove 6 = .ok (.ifCond .eq 7, 3) := by decide +kernel
theorem dX8_remove_9 : decode cX8_remove 9 = .ok (.iconst 0, 1) := by decide +kernel
theorem dX8_remove_10 : decode cX8_remove 10 = .ok (.goto 4, 3) := by decide +kernel
end
section
theorem dX8_remove_13 : decode cX8_remove 13 = .ok (.iconst 1, 1) := by decide +kernel
theorem dX8_remove_14 : decode cX8_remove 14 = .ok (.putfield 50, 3) := by decide +kernel
theorem dX8_remove_17 : decode cX8_remove 17 = .ok (.aload_n 0, 1) := by decide +kernel
theorem dX8_remove_18 : decode cX8_remove 18 = .ok (.getfield 50, 3) := by decide +kernel
theorem dX8_remove_21 : decode cX8_remove 21 = .ok (.ifCond .ne 8, 3) := by decide +kernel
theorem dX8_remove_24 : decode cX8_remove 24 = .ok (.aload_n 0, 1) := by decide +kernel
theorem dX8_remove_25 : decode cX8_remove 25 = .ok (.iload_n 1, 1) := by decide +kernel
theorem dX8_remove_26 : decode cX8_remove 26 = .ok (.invokevirtual 89, 3) := by decide +kernel
theorem dX8_remove_29 : decode cX8_remove 29 = .ok (.return_, 1) := by decide +kernel
theorem dX8_isAhead_0 : decode cX8_isAhead 0 = .ok (.iconst 0, 1) := by decide +kernel
theorem dX8_isAhead_1 : decode cX8_isAhead 1 = .ok (.istore_n 3, 1) := by decide +kernel
theorem dX8_isAhead_2 : decode cX8_isAhead 2 = .ok (.iload_n 3, 1) := by decide +kernel
theorem dX8_isAhead_3 : decode cX8_isAhead 3 = .ok (.aload_n 0, 1) := by decide +kernel
theorem dX8_isAhead_4 : decode cX8_isAhead 4 = .ok (.getfield 22, 3) := by decide +kernel
theorem dX8_isAhead_7 : decode cX8_isAhead 7 = .ok (.iload_n 1, 1) := by decide +kernel
theorem dX8_isAhead_8 : decode cX8_isAhead 8 = .ok (.iaload, 1) := by decide +kernel
theorem dX8_isAhead_9 : decode cX8_isAhead 9 = .ok (.if_icmp .ge 44, 3) := by decide +kernel
theorem dX8_isAhead_12 : decode cX8_isAhead 12 = .ok (.iload_n 3, 1) := by decide +kernel
theorem dX8_isAhead_13 : decode cX8_isAhead 13 = .ok (.aload_n 0, 1) := by decide +kernel
theorem dX8_isAhead_14 : decode cX8_isAhead 14 = .ok (.getfield 22, 3) := by decide +kernel
theorem dX8_isAhead_17 : decode cX8_isAhead 17 = .ok (.iload_n 2, 1) := by decide +kernel
theorem dX8_isAhead_18 : decode cX8_isAhead 18 = .ok (.iaload, 1) := by decide +kernel
theorem dX8_isAhead_19 : decode cX8_isAhead 19 = .ok (.if_icmp .ge 34, 3) := by decide +kernel
theorem dX8_isAhead_22 : decode cX8_isAhead 22 = .ok (.aload_n 0, 1) := by decide +kernel
theorem dX8_isAhead_23 : decode cX8_isAhead 23 = .ok (.getfield 19, 3) := by decide +kernel
theorem dX8_isAhead_26 : decode cX8_isAhead 26 = .ok (.bipush 30, 2) := by decide +kernel
theorem dX8_isAhead_28 : decode cX8_isAhead 28 = .ok (.iload_n 1, 1) := by decide +kernel
theorem dX8_isAhead_29 : decode cX8_isAhead 29 = .ok (.imul, 1) := by decide +kernel
theorem dX8_isAhead_30 : decode cX8_isAhead 30 = .ok (.iload_n 3, 1) := by decide +kernel
theorem dX8_isAhead_31 : decode cX8_isAhead 31 = .ok (.iadd, 1) := by decide +kernel
theorem dX8_isAhead_32 : decode cX8_isAhead 32 = .ok (.iaload, 1) := by decide +kernel
theorem dX8_isAhead_33 : decode cX8_isAhead 33 = .ok (.aload_n 0, 1) := by decide +kernel
theorem dX8_isAhead_34 : decode cX8_isAhead 34 = .ok (.getfield 19, 3) := by decide +kernel
theorem dX8_isAhead_37 : decode cX8_isAhead 37 = .ok (.bipush 30, 2) := by decide +kernel
theorem dX8_isAhead_39 : decode cX8_isAhead 39 = .ok (.iload_n 2, 1) := by decide +kernel
theorem dX8_isAhead_40 : decode cX8_isAhead 40 = .ok (.imul, 1) := by decide +kernel
theorem dX8_isAhead_41 : decode cX8_isAhead 41 = .ok (.iload_n 3, 1) := by decide +kernel
theorem dX8_isAhead_42 : decode cX8_isAhead 42 = .ok (.iadd, 1) := by decide +kernel
theorem dX8_isAhead_43 : decode cX8_isAhead 43 = .ok (.iaload, 1) := by decide +kernel
theorem dX8_isAhead_44 : decode cX8_isAhead 44 = .ok (.if_icmp .ne 9, 3) := by decide +kernel
theorem dX8_isAhead_47 : decode cX8_isAhead 47 = .ok (.iinc 3 1, 3) := by decide +kernel
theorem dX8_isAhead_50 : decode cX8_isAhead 50 = .ok (.goto (-48), 3) := by decide +kernel
theorem dX8_isAhead_53 : decode cX8_isAhead 53 = .ok (.iload_n 3, 1) := by decide +kernel
theorem dX8_isAhead_54 : decode cX8_isAhead 54 = .ok (.aload_n 0, 1) := by decide +kernel
theorem dX8_isAhead_55 : decode cX8_isAhead 55 = .ok (.getfield 22, 3) := by decide +kernel
theorem dX8_isAhead_58 : decode cX8_isAhead 58 = .ok (.iload_n 1, 1) := by decide +kernel
theorem dX8_isAhead_59 : decode cX8_isAhead 59 = .ok (.iaload, 1) := by decide +kernel
theorem dX8_isAhead_60 : decode cX8_isAhead 60 = .ok (.if_icmp .eq 13, 3) := by decide +kernel
theorem dX8_isAhead_63 : decode cX8_isAhead 63 = .ok (.iload_n 3, 1) := by decide +kernel
theorem dX8_isAhead_64 : decode cX8_isAhead 64 = .ok (.aload_n 0, 1) := by decide +kernel
theorem dX8_isAhead_65 : decode cX8_isAhead 65 = .ok (.getfield 22, 3) := by decide +kernel
theorem dX8_isAhead_68 : decode cX8_isAhead 68 = .ok (.iload_n 2, 1) := by decide +kernel
theorem dX8_isAhead_69 : decode cX8_isAhead 69 = .ok (.iaload, 1) := by decide +kernel
theorem dX8_isAhead_70 : decode cX8_isAhead 70 = .ok (.if_icmp .ne 24, 3) := by decide +kernel
theorem dX8_isAhead_73 : decode cX8_isAhead 73 = .ok (.aload_n 0, 1) := by decide +kernel
theorem dX8_isAhead_74 : decode cX8_isAhead 74 = .ok (.getfield 22, 3) := by decide +kernel
theorem dX8_isAhead_77 : decode cX8_isAhead 77 = .ok (.iload_n 1, 1) := by decide +kernel
theorem dX8_isAhead_78 : decode cX8_isAhead 78 = .ok (.iaload, 1) := by decide +kernel
theorem dX8_isAhead_79 : decode cX8_isAhead 79 = .ok (.aload_n 0, 1) := by decide +kernel
theorem dX8_isAhead_80 : decode cX8_isAhead 80 = .ok (.getfield 22, 3) := by decide +kernel
theorem dX8_isAhead_83 : decode cX8_isAhead 83 = .ok (.iload_n 2, 1) := by decide +kernel
theorem dX8_isAhead_84 : decode cX8_isAhead 84 = .ok (.iaload, 1) := by decide +kernel
theorem dX8_isAhead_85 : decode cX8_isAhead 85 = .ok (.if_icmp .ge 7, 3) := by decide +kernel
theorem dX8_isAhead_88 : decode cX8_isAhead 88 = .ok (.iconst 1, 1) := by decide +kernel
theorem dX8_isAhead_89 : decode cX8_isAhead 89 = .ok (.goto 4, 3) := by decide +kernel
theorem dX8_isAhead_92 : decode cX8_isAhead 92 = .ok (.iconst 0, 1) := by decide +kernel
theorem dX8_isAhead_93 : decode cX8_isAhead 93 = .ok (.ireturn, 1) := by decide +kernel
theorem dX8_isAhead_94 : decode cX8_isAhead 94 = .ok (.aload_n 0, 1) := by decide +kernel
theorem dX8_isAhead_95 : decode cX8_isAhead 95 = .ok (.getfield 19, 3) := by decide +kernel
theorem dX8_isAhead_98 : decode cX8_isAhead 98 = .ok (.bipush 30, 2) := by decide +kernel
theorem dX8_isAhead_100 : decode cX8_isAhead 100 = .ok (.iload_n 1, 1) := by decide +kernel
theorem dX8_isAhead_101 : decode cX8_isAhead 101 = .ok (.imul, 1) := by decide +kernel
theorem dX8_isAhead_102 : decode cX8_isAhead 102 = .ok (.iload_n 3, 1) := by decide +kernel
theorem dX8_isAhead_103 : decode cX8_isAhead 103 = .ok (.iadd, 1) := by decide +kernel
theorem dX8_isAhead_104 : decode cX8_isAhead 104 = .ok (.iaload, 1) := by decide +kernel
theorem dX8_isAhead_105 : decode cX8_isAhead 105 = .ok (.aload_n 0, 1) := by decide +kernel
theorem dX8_isAhead_106 : decode cX8_isAhead 106 = .ok (.getfield 19, 3) := by decide +kernel
theorem dX8_isAhead_109 : decode cX8_isAhead 109 = .ok (.bipush 30, 2) := by decide +kernel
theorem dX8_isAhead_111 : decode cX8_isAhead 111 = .ok (.iload_n 2, 1) := by decide +kernel
theorem dX8_isAhead_112 : decode cX8_isAhead 112 = .ok (.imul, 1) := by decide +kernel
theorem dX8_isAhead_113 : decode cX8_isAhead 113 = .ok (.iload_n 3, 1) := by decide +kernel
theorem dX8_isAhead_114 : decode cX8_isAhead 114 = .ok (.iadd, 1) := by decide +kernel
theorem dX8_isAhead_115 : decode cX8_isAhead 115 = .ok (.iaload, 1) := by decide +kernel
theorem dX8_isAhead_116 : decode cX8_isAhead 116 = .ok (.if_icmp .ge 7, 3) := by decide +kernel
theorem dX8_isAhead_119 : decode cX8_isAhead 119 = .ok (.iconst 1, 1) := by decide +kernel
theorem dX8_isAhead_120 : decode cX8_isAhead 120 = .ok (.goto 4, 3) := by decide +kernel
theorem dX8_isAhead_123 : decode cX8_isAhead 123 = .ok (.iconst 0, 1) := by decide +kernel
theorem dX8_isAhead_124 : decode cX8_isAhead 124 = .ok (.ireturn, 1) := by decide +kernel
theorem dX8_sort_0 : decode cX8_sort 0 = .ok (.aload_n 0, 1) := by decide +kernel
theorem dX8_sort_1 : decode cX8_sort 1 = .ok (.iconst 0, 1) := by decide +kernel
theorem dX8_sort_2 : decode cX8_sort 2 = .ok (.putfield 50, 3) := by decide +kernel
theorem dX8_sort_5 : decode cX8_sort 5 = .ok (.iconst 0, 1) := by decide +kernel
theorem dX8_sort_6 : decode cX8_sort 6 = .ok (.istore_n 1, 1) := by decide +kernel
theorem dX8_sort_7 : decode cX8_sort 7 = .ok (.iload_n 1, 1) := by decide +kernel
theorem dX8_sort_8 : decode cX8_sort 8 = .ok (.aload_n 0, 1) := by decide +kernel
theorem dX8_sort_9 : decode cX8_sort 9 = .ok (.getfield 59, 3) := by decide +kernel
theorem dX8_sort_12 : decode cX8_sort 12 = .ok (.if_icmp .ge 68, 3) := by decide +kernel
theorem dX8_sort_15 : decode cX8_sort 15 = .ok (.iload_n 1, 1) := by decide +kernel
theorem dX8_sort_16 : decode cX8_sort 16 = .ok (.istore_n 2, 1) := by decide +kernel
theorem dX8_sort_17 : decode cX8_sort 17 = .ok (.iload_n 1, 1) := by decide +kernel
theorem dX8_sort_18 : decode cX8_sort 18 = .ok (.iconst 1, 1) := by decide +kernel
theorem dX8_sort_19 : decode cX8_sort 19 = .ok (.iadd, 1) := by decide +kernel
theorem dX8_sort_20 : decode cX8_sort 20 = .ok (.istore_n 3, 1) := by decide +kernel
theorem dX8_sort_21 : decode cX8_sort 21 = .ok (.iload_n 3, 1) := by decide +kernel
theorem dX8_sort_22 : decode cX8_sort 22 = .ok (.aload_n 0, 1) := by decide +kernel
theorem dX8_sort_23 : decode cX8_sort 23 = .ok (.getfield 59, 3) := by decide +kernel
theorem dX8_sort_26 : decode cX8_sort 26 = .ok (.if_icmp .ge 20, 3) := by decide +kernel
theorem dX8_sort_29 : decode cX8_sort 29 = .ok (.aload_n 0, 1) := by decide +kernel
theorem dX8_sort_30 : decode cX8_sort 30 = .ok (.iload_n 3, 1) := by decide +kernel
theorem dX8_sort_31 : decode cX8_sort 31 = .ok (.iload_n 2, 1) := by decide +kernel
theorem dX8_sort_32 : decode cX8_sort 32 = .ok (.invokevirtual 93, 3) := by decide +kernel
theorem dX8_sort_35 : decode cX8_sort 35 = .ok (.ifCond .eq 5, 3) := by decide +kernel
theorem dX8_sort_38 : decode cX8_sort 38 = .ok (.iload_n 3, 1) := by decide +kernel
theorem dX8_sort_39 : decode cX8_sort 39 = .ok (.istore_n 2, 1) := by decide +kernel
theorem dX8_sort_40 : decode cX8_sort 40 = .ok (.iinc 3 1, 3) := by decide +kernel
theorem dX8_sort_43 : decode cX8_sort 43 = .ok (.goto (-22), 3) := by decide +kernel
theorem dX8_sort_46 : decode cX8_sort 46 = .ok (.iload_n 2, 1) := by decide +kernel
theorem dX8_sort_47 : decode cX8_sort 47 = .ok (.iload_n 1, 1) := by decide +kernel
theorem dX8_sort_48 : decode cX8_sort 48 = .ok (.if_icmp .ne 6, 3) := by decide +kernel
theorem dX8_sort_51 : decode cX8_sort 51 = .ok (.goto 23, 3) := by decide +kernel
theorem dX8_sort_54 : decode cX8_sort 54 = .ok (.aload_n 0, 1) := by decide +kernel
theorem dX8_sort_55 : decode cX8_sort 55 = .ok (.iload_n 1, 1) := by decide +kernel
theorem dX8_sort_56 : decode cX8_sort 56 = .ok (.bipush 20, 2) := by decide +kernel
theorem dX8_sort_58 : decode cX8_sort 58 = .ok (.invokevirtual 62, 3) := by decide +kernel
theorem dX8_sort_61 : decode cX8_sort 61 = .ok (.aload_n 0, 1) := by decide +kernel
theorem dX8_sort_62 : decode cX8_sort 62 = .ok (.iload_n 2, 1) := by decide +kernel
theorem dX8_sort_63 : decode cX8_sort 63 = .ok (.iload_n 1, 1) := by decide +kernel
theorem dX8_sort_64 : decode cX8_sort 64 = .ok (.invokevirtual 62, 3) := by decide +kernel
theorem dX8_sort_67 : decode cX8_sort 67 = .ok (.aload_n 0, 1) := by decide +kernel
theorem dX8_sort_68 : decode cX8_sort 68 = .ok (.bipush 20, 2) := by decide +kernel
theorem dX8_sort_70 : decode cX8_sort 70 = .ok (.iload_n 2, 1) := by decide +kernel
theorem dX8_sort_71 : decode cX8_sort 71 = .ok (.invokevirtual 62, 3) := by decide +kernel
theorem dX8_sort_74 : decode cX8_sort 74 = .ok (.iinc 1 1, 3) := by decide +kernel
theorem dX8_sort_77 : decode cX8_sort 77 = .ok (.goto (-70), 3) := by decide +kernel
theorem dX8_sort_80 : decode cX8_sort 80 = .ok (.return_, 1) := by decide +kernel
theorem dX8_clear_0 : decode cX8_clear 0 = .ok (.aload_n 0, 1) := by decide +kernel
theorem dX8_clear_1 : decode cX8_clear 1 = .ok (.iconst 0, 1) := by decide +kernel
theorem dX8_clear_2 : decode cX8_clear 2 = .ok (.putfield 50, 3) := by decide +kernel
theorem dX8_clear_5 : decode cX8_clear 5 = .ok (.aload_n 0, 1) := by decide +kernel
theorem dX8_clear_6 : decode cX8_clear 6 = .ok (.iconst 0, 1) := by decide +kernel
theorem dX8_clear_7 : decode cX8_clear 7 = .ok (.putfield 59, 3) := by decide +kernel
theorem dX8_clear_10 : decode cX8_clear 10 = .ok (.return_, 1) := by decide +kernel
theorem dX8_alike_0 : decode cX8_alike 0 = .ok (.iconst 1, 1) := by decide +kernel
theorem dX8_alike_1 : decode cX8_alike 1 = .ok (.istore_n 3, 1) := by decide +kernel
theorem dX8_alike_2 : decode cX8_alike 2 = .ok (.iload_n 3, 1) := by decide +kernel
theorem dX8_alike_3 : decode cX8_alike 3 = .ok (.sipush 128, 3) := by decide +kernel
theorem dX8_alike_6 : decode cX8_alike 6 = .ok (.if_icmp .ge 50, 3) := by decide +kernel
theorem dX8_alike_9 : decode cX8_alike 9 = .ok (.iload_n 2, 1) := by decide +kernel
theorem dX8_alike_10 : decode cX8_alike 10 = .ok (.iload_n 3, 1) := by decide +kernel
theorem dX8_alike_11 : decode cX8_alike 11 = .ok (.iadd, 1) := by decide +kernel
theorem dX8_alike_12 : decode cX8_alike 12 = .ok (.aload_n 0, 1) := by decide +kernel
theorem dX8_alike_13 : decode cX8_alike 13 = .ok (.getfield 28, 3) := by decide +kernel
theorem dX8_alike_16 : decode cX8_alike 16 = .ok (.iload_n 1, 1) := by decide +kernel
theorem dX8_alike_17 : decode cX8_alike 17 = .ok (.iaload, 1) := by decide +kernel
theorem dX8_alike_18 : decode cX8_alike 18 = .ok (.if_icmp .ge 38, 3) := by decide +kernel
theorem dX8_alike_21 : decode cX8_alike 21 = .ok (.aload_n 0, 1) := by decide +kernel
theorem dX8_alike_22 : decode cX8_alike 22 = .ok (.getfield 25, 3) := by decide +kernel
theorem dX8_alike_25 : decode cX8_alike 25 = .ok (.sipush 1500, 3) := by decide +kernel
theorem dX8_alike_28 : decode cX8_alike 28 = .ok (.iload_n 1, 1) := by decide +kernel
theorem dX8_alike_29 : decode cX8_alike 29 = .ok (.imul, 1) := by decide +kernel
theorem dX8_alike_30 : decode cX8_alike 30 = .ok (.iload_n 2, 1) := by decide +kernel
theorem dX8_alike_31 : decode cX8_alike 31 = .ok (.iadd, 1) := by decide +kernel
theorem dX8_alike_32 : decode cX8_alike 32 = .ok (.iload_n 3, 1) := by decide +kernel
theorem dX8_alike_33 : decode cX8_alike 33 = .ok (.iadd, 1) := by decide +kernel
theorem dX8_alike_34 : decode cX8_alike 34 = .ok (.iaload, 1) := by decide +kernel
theorem dX8_alike_35 : decode cX8_alike 35 = .ok (.aload_n 0, 1) := by decide +kernel
theorem dX8_alike_36 : decode cX8_alike 36 = .ok (.getfield 25, 3) := by decide +kernel
theorem dX8_alike_39 : decode cX8_alike 39 = .ok (.sipush 1500, 3) := by decide +kernel
theorem dX8_alike_42 : decode cX8_alike 42 = .ok (.iload_n 1, 1) := by decide +kernel
theorem dX8_alike_43 : decode cX8_alike 43 = .ok (.imul, 1) := by decide +kernel
theorem dX8_alike_44 : decode cX8_alike 44 = .ok (.iload_n 2, 1) := by decide +kernel
theorem dX8_alike_45 : decode cX8_alike 45 = .ok (.iadd, 1) := by decide +kernel
theorem dX8_alike_46 : decode cX8_alike 46 = .ok (.iaload, 1) := by decide +kernel
theorem dX8_alike_47 : decode cX8_alike 47 = .ok (.if_icmp .ne 9, 3) := by decide +kernel
theorem dX8_alike_50 : decode cX8_alike 50 = .ok (.iinc 3 1, 3) := by decide +kernel
theorem dX8_alike_53 : decode cX8_alike 53 = .ok (.goto (-51), 3) := by decide +kernel
theorem dX8_alike_56 : decode cX8_alike 56 = .ok (.iload_n 3, 1) := by decide +kernel
theorem dX8_alike_57 : decode cX8_alike 57 = .ok (.ireturn, 1) := by decide +kernel
theorem dX8_put_0 : decode cX8_put 0 = .ok (.aload_n 0, 1) := by decide +kernel
theorem dX8_put_1 : decode cX8_put 1 = .ok (.getfield 38, 3) := by decide +kernel
theorem dX8_put_4 : decode cX8_put 4 = .ok (.aload_n 0, 1) := by decide +kernel
theorem dX8_put_5 : decode cX8_put 5 = .ok (.getfield 96, 3) := by decide +kernel
theorem dX8_put_8 : decode cX8_put 8 = .ok (.iload_n 1, 1) := by decide +kernel
theorem dX8_put_9 : decode cX8_put 9 = .ok (.iastore, 1) := by decide +kernel
theorem dX8_put_10 : decode cX8_put 10 = .ok (.aload_n 0, 1) := by decide +kernel
theorem dX8_put_11 : decode cX8_put 11 = .ok (.dup, 1) := by decide +kernel
theorem dX8_put_12 : decode cX8_put 12 = .ok (.getfield 96, 3) := by decide +kernel
theorem dX8_put_15 : decode cX8_put 15 = .ok (.iconst 1, 1) := by decide +kernel
theorem dX8_put_16 : decode cX8_put 16 = .ok (.iadd, 1) := by decide +kernel
theorem dX8_put_17 : decode cX8_put 17 = .ok (.putfield 96, 3) := by decide +kernel
theorem dX8_put_20 : decode cX8_put 20 = .ok (.return_, 1) := by decide +kernel
theorem dX8_fold_0 : decode cX8_fold 0 = .ok (.aload_n 0, 1) := by decide +kernel
theorem dX8_fold_1 : decode cX8_fold 1 = .ok (.iconst 0, 1) := by decide +kernel
theorem dX8_fold_2 : decode cX8_fold 2 = .ok (.putfield 96, 3) := by decide +kernel
theorem dX8_fold_5 : decode cX8_fold 5 = .ok (.iconst 0, 1) := by decide +kernel
theorem dX8_fold_6 : decode cX8_fold 6 = .ok (.istore_n 2, 1) := by decide +kernel
theorem dX8_fold_7 : decode cX8_fold 7 = .ok (.iload_n 2, 1) := by decide +kernel
theorem dX8_fold_8 : decode cX8_fold 8 = .ok (.aload_n 0, 1) := by decide +kernel
theorem dX8_fold_9 : decode cX8_fold 9 = .ok (.getfield 28, 3) := by decide +kernel
theorem dX8_fold_12 : decode cX8_fold 12 = .ok (.iload_n 1, 1) := by decide +kernel
theorem dX8_fold_13 : decode cX8_fold 13 = .ok (.iaload, 1) := by decide +kernel
theorem dX8_fold_14 : decode cX8_fold 14 = .ok (.if_icmp .ge 162, 3) := by decide +kernel
theorem dX8_fold_17 : decode cX8_fold 17 = .ok (.aload_n 0, 1) := by decide +kernel
theorem dX8_fold_18 : decode cX8_fold 18 = .ok (.iload_n 1, 1) := by decide +kernel
theorem dX8_fold_19 : decode cX8_fold 19 = .ok (.iload_n 2, 1) := by decide +kernel
theorem dX8_fold_20 : decode cX8_fold 20 = .ok (.invokevirtual 99, 3) := by decide +kernel
theorem dX8_fold_23 : decode cX8_fold 23 = .ok (.istore_n 3, 1) := by decide +kernel
theorem dX8_fold_24 : decode cX8_fold 24 = .ok (.iload_n 3, 1) := by decide +kernel
theorem dX8_fold_25 : decode cX8_fold 25 = .ok (.iconst 2, 1) := by decide +kernel
theorem dX8_fold_26 : decode cX8_fold 26 = .ok (.if_icmp .le 35, 3) := by decide +kernel
theorem dX8_fold_29 : decode cX8_fold 29 = .ok (.aload_n 0, 1) := by decide +kernel
theorem dX8_fold_30 : decode cX8_fold 30 = .ok (.sipush 257, 3) := by decide +kernel
theorem dX8_fold_33 : decode cX8_fold 33 = .ok (.iload_n 3, 1) := by decide +kernel
theorem dX8_fold_34 : decode cX8_fold 34 = .ok (.isub, 1) := by decide +kernel
theorem dX8_fold_35 : decode cX8_fold 35 = .ok (.invokevirtual 103, 3) := by decide +kernel
theorem dX8_fold_38 : decode cX8_fold 38 = .ok (.aload_n 0, 1) := by decide +kernel
theorem dX8_fold_39 : decode cX8_fold 39 = .ok (.aload_n 0, 1) := by decide +kernel
theorem dX8_fold_40 : decode cX8_fold 40 = .ok (.getfield 25, 3) := by decide +kernel
theorem dX8_fold_43 : decode cX8_fold 43 = .ok (.sipush 1500, 3) := by decide +kernel
theorem dX8_fold_46 : decode cX8_fold 46 = .ok (.iload_n 1, 1) := by decide +kernel
theorem dX8_fold_47 : decode cX8_fold 47 = .ok (.imul, 1) := by decide +kernel
theorem dX8_fold_48 : decode cX8_fold 48 = .ok (.iload_n 2, 1) := by decide +kernel
theorem dX8_fold_49 : decode cX8_fold 49 = .ok (.iadd, 1) := by decide +kernel
theorem dX8_fold_50 : decode cX8_fold 50 = .ok (.iaload, 1) := by decide +kernel
theorem dX8_fold_51 : decode cX8_fold 51 = .ok (.invokevirtual 103, 3) := by decide +kernel
theorem dX8_fold_54 : decode cX8_fold 54 = .ok (.iload_n 2, 1) := by decide +kernel
theorem dX8_fold_55 : decode cX8_fold 55 = .ok (.iload_n 3, 1) := by decide +kernel
theorem dX8_fold_56 : decode cX8_fold 56 = .ok (.iadd, 1) := by decide +kernel
theorem dX8_fold_57 : decode cX8_fold 57 = .ok (.istore_n 2, 1) := by decide +kernel
theorem dX8_fold_58 : decode cX8_fold 58 = .ok (.goto (-51), 3) := by decide +kernel
theorem dX8_fold_61 : decode cX8_fold 61 = .ok (.iload_n 2, 1) := by decide +kernel
theorem dX8_fold_62 : decode cX8_fold 62 = .ok (.iconst 1, 1) := by decide +kernel
theorem dX8_fold_63 : decode cX8_fold 63 = .ok (.iadd, 1) := by decide +kernel
theorem dX8_fold_64 : decode cX8_fold 64 = .ok (.istore 4, 2) := by decide +kernel
theorem dX8_fold_66 : decode cX8_fold 66 = .ok (.iload 4, 2) := by decide +kernel
theorem dX8_fold_68 : decode cX8_fold 68 = .ok (.aload_n 0, 1) := by decide +kernel
theorem dX8_fold_69 : decode cX8_fold 69 = .ok (.getfield 28, 3) := by decide +kernel
theorem dX8_fold_72 : decode cX8_fold 72 = .ok (.iload_n 1, 1) := by decide +kernel
theorem dX8_fold_73 : decode cX8_fold 73 = .ok (.iaload, 1) := by decide +kernel
theorem dX8_fold_74 : decode cX8_fold 74 = .ok (.if_icmp .ge 20, 3) := by decide +kernel
theorem dX8_fold_77 : decode cX8_fold 77 = .ok (.aload_n 0, 1) := by decide +kernel
theorem dX8_fold_78 : decode cX8_fold 78 = .ok (.iload_n 1, 1) := by decide +kernel
theorem dX8_fold_79 : decode cX8_fold 79 = .ok (.iload 4, 2) := by decide +kernel
theorem dX8_fold_81 : decode cX8_fold 81 = .ok (.invokevirtual 99, 3) := by decide +kernel
theorem dX8_fold_84 : decode cX8_fold 84 = .ok (.iconst 3, 1) := by decide +kernel
theorem dX8_fold_85 : decode cX8_fold 85 = .ok (.if_icmp .ge 9, 3) := by decide +kernel
theorem dX8_fold_88 : decode cX8_fold 88 = .ok (.iinc 4 1, 3) := by decide +kernel
theorem dX8_fold_91 : decode cX8_fold 91 = .ok (.goto (-25), 3) := by decide +kernel
theorem dX8_fold_94 : decode cX8_fold 94 = .ok (.iload_n 2, 1) := by decide +kernel
theorem dX8_fold_95 : decode cX8_fold 95 = .ok (.iload 4, 2) := by decide +kernel
theorem dX8_fold_97 : decode cX8_fold 97 = .ok (.if_icmp .ge 76, 3) := by decide +kernel
theorem dX8_fold_100 : decode cX8_fold 100 = .ok (.iload 4, 2) := by decide +kernel
theorem dX8_fold_102 : decode cX8_fold 102 = .ok (.iload_n 2, 1) := by decide +kernel
theorem dX8_fold_103 : decode cX8_fold 103 = .ok (.isub, 1) := by decide +kernel
theorem dX8_fold_104 : decode cX8_fold 104 = .ok (.sipush 128, 3) := by decide +kernel
theorem dX8_fold_107 : decode cX8_fold 107 = .ok (.if_icmp .ge 10, 3) := by decide +kernel
theorem dX8_fold_110 : decode cX8_fold 110 = .ok (.iload 4, 2) := by decide +kernel
theorem dX8_fold_112 : decode cX8_fold 112 = .ok (.iload_n 2, 1) := by decide +kernel
theorem dX8_fold_113 : decode cX8_fold 113 = .ok (.isub, 1) := by decide +kernel
theorem dX8_fold_114 : decode cX8_fold 114 = .ok (.goto 6, 3) := by decide +kernel
theorem dX8_fold_117 : decode cX8_fold 117 = .ok (.sipush 128, 3) := by decide +kernel
theorem dX8_fold_120 : decode cX8_fold 120 = .ok (.istore 5, 2) := by decide +kernel
theorem dX8_fold_122 : decode cX8_fold 122 = .ok (.aload_n 0, 1) := by decide +kernel
theorem dX8_fold_123 : decode cX8_fold 123 = .ok (.iload 5, 2) := by decide +kernel
theorem dX8_fold_125 : decode cX8_fold 125 = .ok (.iconst 1, 1) := by decide +kernel
theorem dX8_fold_126 : decode cX8_fold 126 = .ok (.isub, 1) := by decide +kernel
theorem dX8_fold_127 : decode cX8_fold 127 = .ok (.invokevirtual 103, 3) := by decide +kernel
theorem dX8_fold_130 : decode cX8_fold 130 = .ok (.iconst 0, 1) := by decide +kernel
theorem dX8_fold_131 : decode cX8_fold 131 = .ok (.istore 6, 2) := by decide +kernel
theorem dX8_fold_133 : decode cX8_fold 133 = .ok (.iload 6, 2) := by decide +kernel
theorem dX8_fold_135 : decode cX8_fold 135 = .ok (.iload 5, 2) := by decide +kernel
theorem dX8_fold_137 : decode cX8_fold 137 = .ok (.if_icmp .ge 28, 3) := by decide +kernel
theorem dX8_fold_140 : decode cX8_fold 140 = .ok (.aload_n 0, 1) := by decide +kernel
theorem dX8_fold_141 : decode cX8_fold 141 = .ok (.aload_n 0, 1) := by decide +kernel
theorem dX8_fold_142 : decode cX8_fold 142 = .ok (.getfield 25, 3) := by decide +kernel
theorem dX8_fold_145 : decode cX8_fold 145 = .ok (.sipush 1500, 3) := by decide +kernel
theorem dX8_fold_148 : decode cX8_fold 148 = .ok (.iload_n 1, 1) := by decide +kernel
theorem dX8_fold_149 : decode cX8_fold 149 = .ok (.imul, 1) := by decide +kernel
theorem dX8_fold_150 : decode cX8_fold 150 = .ok (.iload_n 2, 1) := by decide +kernel
theorem dX8_fold_151 : decode cX8_fold 151 = .ok (.iadd, 1) := by decide +kernel
theorem dX8_fold_152 : decode cX8_fold 152 = .ok (.iload 6, 2) := by decide +kernel
theorem dX8_fold_154 : decode cX8_fold 154 = .ok (.iadd, 1) := by decide +kernel
theorem dX8_fold_155 : decode cX8_fold 155 = .ok (.iaload, 1) := by decide +kernel
theorem dX8_fold_156 : decode cX8_fold 156 = .ok (.invokevirtual 103, 3) := by decide +kernel
theorem dX8_fold_159 : decode cX8_fold 159 = .ok (.iinc 6 1, 3) := by decide +kernel
theorem dX8_fold_162 : decode cX8_fold 162 = .ok (.goto (-29), 3) := by decide +kernel
theorem dX8_fold_165 : decode cX8_fold 165 = .ok (.iload_n 2, 1) := by decide +kernel
theorem dX8_fold_166 : decode cX8_fold 166 = .ok (.iload 5, 2) := by decide +kernel
theorem dX8_fold_168 : decode cX8_fold 168 = .ok (.iadd, 1) := by decide +kernel
theorem dX8_fold_169 : decode cX8_fold 169 = .ok (.istore_n 2, 1) := by decide +kernel
theorem dX8_fold_170 : decode cX8_fold 170 = .ok (.goto (-76), 3) := by decide +kernel
theorem dX8_fold_173 : decode cX8_fold 173 = .ok (.goto (-166), 3) := by decide +kernel
theorem dX8_fold_176 : decode cX8_fold 176 = .ok (.return_, 1) := by decide +kernel
theorem dX8_method_0 : decode cX8_method 0 = .ok (.aload_n 0, 1) := by decide +kernel
theorem dX8_method_1 : decode cX8_method 1 = .ok (.iload_n 1, 1) := by decide +kernel
theorem dX8_method_2 : decode cX8_method 2 = .ok (.invokevirtual 106, 3) := by decide +kernel
theorem dX8_method_5 : decode cX8_method 5 = .ok (.aload_n 0, 1) := by decide +kernel
theorem dX8_method_6 : decode cX8_method 6 = .ok (.getfield 96, 3) := by decide +kernel
theorem dX8_method_9 : decode cX8_method 9 = .ok (.aload_n 0, 1) := by decide +kernel
theorem dX8_method_10 : decode cX8_method 10 = .ok (.getfield 28, 3) := by decide +kernel
theorem dX8_method_13 : decode cX8_method 13 = .ok (.iload_n 1, 1) := by decide +kernel
theorem dX8_method_14 : decode cX8_method 14 = .ok (.iaload, 1) := by decide +kernel
theorem dX8_method_15 : decode cX8_method 15 = .ok (.if_icmp .ge 8, 3) := by decide +kernel
theorem dX8_method_18 : decode cX8_method 18 = .ok (.bipush 99, 2) := by decide +kernel
theorem dX8_method_20 : decode cX8_method 20 = .ok (.goto 4, 3) := by decide +kernel
theorem dX8_method_23 : decode cX8_method 23 = .ok (.iconst 0, 1) := by decide +kernel
theorem dX8_method_24 : decode cX8_method 24 = .ok (.ireturn, 1) := by decide +kernel
theorem dX8_packedSize_0 : decode cX8_packedSize 0 = .ok (.aload_n 0, 1) := by decide +kernel
theorem dX8_packedSize_1 : decode cX8_packedSize 1 = .ok (.iload_n 1, 1) := by decide +kernel
theorem dX8_packedSize_2 : decode cX8_packedSize 2 = .ok (.invokevirtual 109, 3) := by decide +kernel
theorem dX8_packedSize_5 : decode cX8_packedSize 5 = .ok (.bipush 99, 2) := by decide +kernel
theorem dX8_packedSize_7 : decode cX8_packedSize 7 = .ok (.if_icmp .ne 10, 3) := by decide +kernel
theorem dX8_packedSize_10 : decode cX8_packedSize 10 = .ok (.aload_n 0, 1) := by decide +kernel
theorem dX8_packedSize_11 : decode cX8_packedSize 11 = .ok (.getfield 96, 3) := by decide +kernel
theorem dX8_packedSize_14 : decode cX8_packedSize 14 = .ok (.goto 9, 3) := by decide +kernel
theorem dX8_packedSize_17 : decode cX8_packedSize 17 = .ok (.aload_n 0, 1) := by decide +kernel
theorem dX8_packedSize_18 : decode cX8_packedSize 18 = .ok (.getfield 28, 3) := by decide +kernel
theorem dX8_packedSize_21 : decode cX8_packedSize 21 = .ok (.iload_n 1, 1) := by decide +kernel
theorem dX8_packedSize_22 : decode cX8_packedSize 22 = .ok (.iaload, 1) := by decide +kernel
theorem dX8_packedSize_23 : decode cX8_packedSize 23 = .ok (.ireturn, 1) := by decide +kernel
theorem dX8_crc_0 : decode cX8_crc 0 = .ok (.iconst (-1), 1) := by decide +kernel
theorem dX8_crc_1 : decode cX8_crc 1 = .ok (.istore_n 2, 1) := by decide +kernel
theorem dX8_crc_2 : decode cX8_crc 2 = .ok (.iconst 0, 1) := by decide +kernel
theorem dX8_crc_3 : decode cX8_crc 3 = .ok (.istore_n 3, 1) := by decide +kernel
theorem dX8_crc_4 : decode cX8_crc 4 = .ok (.iload_n 3, 1) := by decide +kernel
theorem dX8_crc_5 : decode cX8_crc 5 = .ok (.aload_n 0, 1) := by decide +kernel
theorem dX8_crc_6 : decode cX8_crc 6 = .ok (.getfield 28, 3) := by decide +kernel
theorem dX8_crc_9 : decode cX8_crc 9 = .ok (.iload_n 1, 1) := by decide +kernel
theorem dX8_crc_10 : decode cX8_crc 10 = .ok (.iaload, 1) := by decide +kernel
theorem dX8_crc_11 : decode cX8_crc 11 = .ok (.if_icmp .ge 60, 3) := by decide +kernel
theorem dX8_crc_14 : decode cX8_crc 14 = .ok (.iload_n 2, 1) := by decide +kernel
theorem dX8_crc_15 : decode cX8_crc 15 = .ok (.aload_n 0, 1) := by decide +kernel
theorem dX8_crc_16 : decode cX8_crc 16 = .ok (.getfield 25, 3) := by decide +kernel
theorem dX8_crc_19 : decode cX8_crc 19 = .ok (.sipush 1500, 3) := by decide +kernel
theorem dX8_crc_22 : decode cX8_crc 22 = .ok (.iload_n 1, 1) := by decide +kernel
theorem dX8_crc_23 : decode cX8_crc 23 = .ok (.imul, 1) := by decide +kernel
theorem dX8_crc_24 : decode cX8_crc 24 = .ok (.iload_n 3, 1) := by decide +kernel
theorem dX8_crc_25 : decode cX8_crc 25 = .ok (.iadd, 1) := by decide +kernel
theorem dX8_crc_26 : decode cX8_crc 26 = .ok (.iaload, 1) := by decide +kernel
theorem dX8_crc_27 : decode cX8_crc 27 = .ok (.ixor, 1) := by decide +kernel
theorem dX8_crc_28 : decode cX8_crc 28 = .ok (.istore_n 2, 1) := by decide +kernel
theorem dX8_crc_29 : decode cX8_crc 29 = .ok (.iconst 0, 1) := by decide +kernel
theorem dX8_crc_30 : decode cX8_crc 30 = .ok (.istore 4, 2) := by decide +kernel
theorem dX8_crc_32 : decode cX8_crc 32 = .ok (.iload 4, 2) := by decide +kernel
theorem dX8_crc_34 : decode cX8_crc 34 = .ok (.bipush 8, 2) := by decide +kernel
theorem dX8_crc_36 : decode cX8_crc 36 = .ok (.if_icmp .ge 29, 3) := by decide +kernel
theorem dX8_crc_39 : decode cX8_crc 39 = .ok (.iload_n 2, 1) := by decide +kernel
theorem dX8_crc_40 : decode cX8_crc 40 = .ok (.iconst 1, 1) := by decide +kernel
theorem dX8_crc_41 : decode cX8_crc 41 = .ok (.iand, 1) := by decide +kernel
theorem dX8_crc_42 : decode cX8_crc 42 = .ok (.iconst 1, 1) := by decide +kernel
theorem dX8_crc_43 : decode cX8_crc 43 = .ok (.if_icmp .ne 12, 3) := by decide +kernel
theorem dX8_crc_46 : decode cX8_crc 46 = .ok (.iload_n 2, 1) := by decide +kernel
theorem dX8_crc_47 : decode cX8_crc 47 = .ok (.iconst 1, 1) := by decide +kernel
theorem dX8_crc_48 : decode cX8_crc 48 = .ok (.iushr, 1) := by decide +kernel
theorem dX8_crc_49 : decode cX8_crc 49 = .ok (.ldc 113, 2) := by decide +kernel
theorem dX8_crc_51 : decode cX8_crc 51 = .ok (.ixor, 1) := by decide +kernel
theorem dX8_crc_52 : decode cX8_crc 52 = .ok (.goto 6, 3) := by decide +kernel
theorem dX8_crc_55 : decode cX8_crc 55 = .ok (.iload_n 2, 1) := by decide +kernel
theorem dX8_crc_56 : decode cX8_crc 56 = .ok (.iconst 1, 1) := by decide +kernel
theorem dX8_crc_57 : decode cX8_crc 57 = .ok (.iushr, 1) := by decide +kernel
theorem dX8_crc_58 : decode cX8_crc 58 = .ok (.istore_n 2, 1) := by decide +kernel
theorem dX8_crc_59 : decode cX8_crc 59 = .ok (.iinc 4 1, 3) := by decide +kernel
theorem dX8_crc_62 : decode cX8_crc 62 = .ok (.goto (-30), 3) := by decide +kernel
theorem dX8_crc_65 : decode cX8_crc 65 = .ok (.iinc 3 1, 3) := by decide +kernel
theorem dX8_crc_68 : decode cX8_crc 68 = .ok (.goto (-64), 3) := by decide +kernel
theorem dX8_crc_71 : decode cX8_crc 71 = .ok (.iload_n 2, 1) := by decide +kernel
theorem dX8_crc_72 : decode cX8_crc 72 = .ok (.iconst (-1), 1) := by decide +kernel
theorem dX8_crc_73 : decode cX8_crc 73 = .ok (.ixor, 1) := by decide +kernel
theorem dX8_crc_74 : decode cX8_crc 74 = .ok (.ireturn, 1) := by decide +kernel
theorem dX8_write_0 : decode cX8_write 0 = .ok (.iconst 0, 1) := by decide +kernel
theorem dX8_write_1 : decode cX8_write 1 = .ok (.istore_n 3, 1) := by decide +kernel
theorem dX8_write_2 : decode cX8_write 2 = .ok (.iload_n 3, 1) := by decide +kernel
theorem dX8_write_3 : decode cX8_write 3 = .ok (.iload_n 2, 1) := by decide +kernel
theorem dX8_write_4 : decode cX8_write 4 = .ok (.if_icmp .ge 38, 3) := by decide +kernel
theorem dX8_write_7 : decode cX8_write 7 = .ok (.aload_n 0, 1) := by decide +kernel
theorem dX8_write_8 : decode cX8_write 8 = .ok (.getfield 16, 3) := by decide +kernel
theorem dX8_write_11 : decode cX8_write 11 = .ok (.aload_n 0, 1) := by decide +kernel
theorem dX8_write_12 : decode cX8_write 12 = .ok (.getfield 56, 3) := by decide +kernel
theorem dX8_write_15 : decode cX8_write 15 = .ok (.iload_n 1, 1) := by decide +kernel
theorem dX8_write_16 : decode cX8_write 16 = .ok (.bipush 8, 2) := by decide +kernel
theorem dX8_write_18 : decode cX8_write 18 = .ok (.iload_n 3, 1) := by decide +kernel
theorem dX8_write_19 : decode cX8_write 19 = .ok (.imul, 1) := by decide +kernel
theorem dX8_write_20 : decode cX8_write 20 = .ok (.ishr, 1) := by decide +kernel
theorem dX8_write_21 : decode cX8_write 21 = .ok (.sipush 255, 3) := by decide +kernel
theorem dX8_write_24 : decode cX8_write 24 = .ok (.iand, 1) := by decide +kernel
theorem dX8_write_25 : decode cX8_write 25 = .ok (.iastore, 1) := by decide +kernel
theorem dX8_write_26 : decode cX8_write 26 = .ok (.aload_n 0, 1) := by decide +kernel
theorem dX8_write_27 : decode cX8_write 27 = .ok (.dup, 1) := by decide +kernel
theorem dX8_write_28 : decode cX8_write 28 = .ok (.getfield 56, 3) := by decide +kernel
theorem dX8_write_31 : decode cX8_write 31 = .ok (.iconst 1, 1) := by decide +kernel
theorem dX8_write_32 : decode cX8_write 32 = .ok (.iadd, 1) := by decide +kernel
theorem dX8_write_33 : decode cX8_write 33 = .ok (.putfield 56, 3) := by decide +kernel
theorem dX8_write_36 : decode cX8_write 36 = .ok (.iinc 3 1, 3) := by decide +kernel
theorem dX8_write_39 : decode cX8_write 39 = .ok (.goto (-37), 3) := by decide +kernel
theorem dX8_write_42 : decode cX8_write 42 = .ok (.return_, 1) := by decide +kernel
theorem dX8_writeFacts_0 : decode cX8_writeFacts 0 = .ok (.aload_n 0, 1) := by decide +kernel
theorem dX8_writeFacts_1 : decode cX8_writeFacts 1 = .ok (.iconst 0, 1) := by decide +kernel
theorem dX8_writeFacts_2 : decode cX8_writeFacts 2 = .ok (.iconst 2, 1) := by decide +kernel
theorem dX8_writeFacts_3 : decode cX8_writeFacts 3 = .ok (.invokevirtual 114, 3) := by decide +kernel
theorem dX8_writeFacts_6 : decode cX8_writeFacts 6 = .ok (.aload_n 0, 1) := by decide +kernel
theorem dX8_writeFacts_7 : decode cX8_writeFacts 7 = .ok (.aload_n 0, 1) := by decide +kernel
theorem dX8_writeFacts_8 : decode cX8_writeFacts 8 = .ok (.iload_n 1, 1) := by decide +kernel
theorem dX8_writeFacts_9 : decode cX8_writeFacts 9 = .ok (.invokevirtual 109, 3) := by decide +kernel
theorem dX8_writeFacts_12 : decode cX8_writeFacts 12 = .ok (.iconst 2, 1) := by decide +kernel
theorem dX8_writeFacts_13 : decode cX8_writeFacts 13 = .ok (.invokevirtual 114, 3) := by decide +kernel
theorem dX8_writeFacts_16 : decode cX8_writeFacts 16 = .ok (.aload_n 0, 1) := by decide +kernel
theorem dX8_writeFacts_17 : decode cX8_writeFacts 17 = .ok (.iconst 0, 1) := by decide +kernel
theorem dX8_writeFacts_18 : decode cX8_writeFacts 18 = .ok (.iconst 2, 1) := by decide +kernel
theorem dX8_writeFacts_19 : decode cX8_writeFacts 19 = .ok (.invokevirtual 114, 3) := by decide +kernel
theorem dX8_writeFacts_22 : decode cX8_writeFacts 22 = .ok (.aload_n 0, 1) := by decide +kernel
theorem dX8_writeFacts_23 : decode cX8_writeFacts 23 = .ok (.bipush 33, 2) := by decide +kernel
theorem dX8_writeFacts_25 : decode cX8_writeFacts 25 = .ok (.iconst 2, 1) := by decide +kernel
theorem dX8_writeFacts_26 : decode cX8_writeFacts 26 = .ok (.invokevirtual 114, 3) := by decide +kernel
theorem dX8_writeFacts_29 : decode cX8_writeFacts 29 = .ok (.aload_n 0, 1) := by decide +kernel
theorem dX8_writeFacts_30 : decode cX8_writeFacts 30 = .ok (.aload_n 0, 1) := by decide +kernel
theorem dX8_writeFacts_31 : decode cX8_writeFacts 31 = .ok (.iload_n 1, 1) := by decide +kernel
theorem dX8_writeFacts_32 : decode cX8_writeFacts 32 = .ok (.invokevirtual 117, 3) := by decide +kernel
theorem dX8_writeFacts_35 : decode cX8_writeFacts 35 = .ok (.iconst 4, 1) := by decide +kernel
theorem dX8_writeFacts_36 : decode cX8_writeFacts 36 = .ok (.invokevirtual 114, 3) := by decide +kernel
theorem dX8_writeFacts_39 : decode cX8_writeFacts 39 = .ok (.aload_n 0, 1) := by decide +kernel
theorem dX8_writeFacts_40 : decode cX8_writeFacts 40 = .ok (.aload_n 0, 1) := by decide +kernel
theorem dX8_writeFacts_41 : decode cX8_writeFacts 41 = .ok (.iload_n 1, 1) := by decide +kernel
theorem dX8_writeFacts_42 : decode cX8_writeFacts 42 = .ok (.invokevirtual 120, 3) := by decide +kernel
theorem dX8_writeFacts_45 : decode cX8_writeFacts 45 = .ok (.iconst 4, 1) := by decide +kernel
theorem dX8_writeFacts_46 : decode cX8_writeFacts 46 = .ok (.invokevirtual 114, 3) := by decide +kernel
theorem dX8_writeFacts_49 : decode cX8_writeFacts 49 = .ok (.aload_n 0, 1) := by decide +kernel
theorem dX8_writeFacts_50 : decode cX8_writeFacts 50 = .ok (.aload_n 0, 1) := by decide +kernel
theorem dX8_writeFacts_51 : decode cX8_writeFacts 51 = .ok (.getfield 28, 3) := by decide +kernel
theorem dX8_writeFacts_54 : decode cX8_writeFacts 54 = .ok (.iload_n 1, 1) := by decide +kernel
theorem dX8_writeFacts_55 : decode cX8_writeFacts 55 = .ok (.iaload, 1) := by decide +kernel
theorem dX8_writeFacts_56 : decode cX8_writeFacts 56 = .ok (.iconst 4, 1) := by decide +kernel
theorem dX8_writeFacts_57 : decode cX8_writeFacts 57 = .ok (.invokevirtual 114, 3) := by decide +kernel
theorem dX8_writeFacts_60 : decode cX8_writeFacts 60 = .ok (.aload_n 0, 1) := by decide +kernel
theorem dX8_writeFacts_61 : decode cX8_writeFacts 61 = .ok (.aload_n 0, 1) := by decide +kernel
theorem dX8_writeFacts_62 : decode cX8_writeFacts 62 = .ok (.getfield 22, 3) := by decide +kernel
theorem dX8_writeFacts_65 : decode cX8_writeFacts 65 = .ok (.iload_n 1, 1) := by decide +kernel
theorem dX8_writeFacts_66 : decode cX8_writeFacts 66 = .ok (.iaload, 1) := by decide +kernel
theorem dX8_writeFacts_67 : decode cX8_writeFacts 67 = .ok (.iconst 2, 1) := by decide +kernel
theorem dX8_writeFacts_68 : decode cX8_writeFacts 68 = .ok (.invokevirtual 114, 3) := by decide +kernel
theorem dX8_writeFacts_71 : decode cX8_writeFacts 71 = .ok (.return_, 1) := by decide +kernel
theorem dX8_writeName_0 : decode cX8_writeName 0 = .ok (.iconst 0, 1) := by decide +kernel
theorem dX8_writeName_1 : decode cX8_writeName 1 = .ok (.istore_n 2, 1) := by decide +kernel
theorem dX8_writeName_2 : decode cX8_writeName 2 = .ok (.iload_n 2, 1) := by decide +kernel
theorem dX8_writeName_3 : decode cX8_writeName 3 = .ok (.aload_n 0, 1) := by decide +kernel
theorem dX8_writeName_4 : decode cX8_writeName 4 = .ok (.getfield 22, 3) := by decide +kernel
theorem dX8_writeName_7 : decode cX8_writeName 7 = .ok (.iload_n 1, 1) := by decide +kernel
theorem dX8_writeName_8 : decode cX8_writeName 8 = .ok (.iaload, 1) := by decide +kernel
theorem dX8_writeName_9 : decode cX8_writeName 9 = .ok (.if_icmp .ge 25, 3) := by decide +kernel
theorem dX8_writeName_12 : decode cX8_writeName 12 = .ok (.aload_n 0, 1) := by decide +kernel
theorem dX8_writeName_13 : decode cX8_writeName 13 = .ok (.aload_n 0, 1) := by decide +kernel
theorem dX8_writeName_14 : decode cX8_writeName 14 = .ok (.getfield 19, 3) := by decide +kernel
theorem dX8_writeName_17 : decode cX8_writeName 17 = .ok (.bipush 30, 2) := by decide +kernel
theorem dX8_writeName_19 : decode cX8_writeName 19 = .ok (.iload_n 1, 1) := by decide +kernel
theorem dX8_writeName_20 : decode cX8_writeName 20 = .ok (.imul, 1) := by decide +kernel
theorem dX8_writeName_21 : decode cX8_writeName 21 = .ok (.iload_n 2, 1) := by decide +kernel
theorem dX8_writeName_22 : decode cX8_writeName 22 = .ok (.iadd, 1) := by decide +kernel
theorem dX8_writeName_23 : decode cX8_writeName 23 = .ok (.iaload, 1) := by decide +kernel
theorem dX8_writeName_24 : decode cX8_writeName 24 = .ok (.iconst 1, 1) := by decide +kernel
theorem dX8_writeName_25 : decode cX8_writeName 25 = .ok (.invokevirtual 114, 3) := by decide +kernel
theorem dX8_writeName_28 : decode cX8_writeName 28 = .ok (.iinc 2 1, 3) := by decide +kernel
theorem dX8_writeName_31 : decode cX8_writeName 31 = .ok (.goto (-29), 3) := by decide +kernel
theorem dX8_writeName_34 : decode cX8_writeName 34 = .ok (.return_, 1) := by decide +kernel
theorem dX8_sign_0 : decode cX8_sign 0 = .ok (.aload_n 0, 1) := by decide +kernel
theorem dX8_sign_1 : decode cX8_sign 1 = .ok (.bipush 80, 2) := by decide +kernel
theorem dX8_sign_3 : decode cX8_sign 3 = .ok (.iconst 1, 1) := by decide +kernel
theorem dX8_sign_4 : decode cX8_sign 4 = .ok (.invokevirtual 114, 3) := by decide +kernel
theorem dX8_sign_7 : decode cX8_sign 7 = .ok (.aload_n 0, 1) := by decide +kernel
theorem dX8_sign_8 : decode cX8_sign 8 = .ok (.bipush 75, 2) := by decide +kernel
theorem dX8_sign_10 : decode cX8_sign 10 = .ok (.iconst 1, 1) := by decide +kernel
theorem dX8_sign_11 : decode cX8_sign 11 = .ok (.invokevirtual 114, 3) := by decide +kernel
theorem dX8_sign_14 : decode cX8_sign 14 = .ok (.aload_n 0, 1) := by decide +kernel
theorem dX8_sign_15 : decode cX8_sign 15 = .ok (.iload_n 1, 1) := by decide +kernel
theorem dX8_sign_16 : decode cX8_sign 16 = .ok (.iconst 1, 1) := by decide +kernel
theorem dX8_sign_17 : decode cX8_sign 17 = .ok (.invokevirtual 114, 3) := by decide +kernel
theorem dX8_sign_20 : decode cX8_sign 20 = .ok (.aload_n 0, 1) := by decide +kernel
theorem dX8_sign_21 : decode cX8_sign 21 = .ok (.iload_n 2, 1) := by decide +kernel
theorem dX8_sign_22 : decode cX8_sign 22 = .ok (.iconst 1, 1) := by decide +kernel
theorem dX8_sign_23 : decode cX8_sign 23 = .ok (.invokevirtual 114, 3) := by decide +kernel
theorem dX8_sign_26 : decode cX8_sign 26 = .ok (.return_, 1) := by decide +kernel
theorem dX8_make_0 : decode cX8_make 0 = .ok (.aload_n 0, 1) := by decide +kernel
theorem dX8_make_1 : decode cX8_make 1 = .ok (.iconst 0, 1) := by decide +kernel
theorem dX8_make_2 : decode cX8_make 2 = .ok (.putfield 50, 3) := by decide +kernel
theorem dX8_make_5 : decode cX8_make 5 = .ok (.aload_n 0, 1) := by decide +kernel
theorem dX8_make_6 : decode cX8_make 6 = .ok (.iconst 0, 1) := by decide +kernel
theorem dX8_make_7 : decode cX8_make 7 = .ok (.putfield 56, 3) := by decide +kernel
theorem dX8_make_10 : decode cX8_make 10 = .ok (.iconst 0, 1) := by decide +kernel
theorem dX8_make_11 : decode cX8_make 11 = .ok (.istore_n 1, 1) := by decide +kernel
theorem dX8_make_12 : decode cX8_make 12 = .ok (.iload_n 1, 1) := by decide +kernel
theorem dX8_make_13 : decode cX8_make 13 = .ok (.aload_n 0, 1) := by decide +kernel
theorem dX8_make_14 : decode cX8_make 14 = .ok (.getfield 59, 3) := by decide +kernel
theorem dX8_make_17 : decode cX8_make 17 = .ok (.if_icmp .ge 129, 3) := by decide +kernel
theorem dX8_make_20 : decode cX8_make 20 = .ok (.aload_n 0, 1) := by decide +kernel
theorem dX8_make_21 : decode cX8_make 21 = .ok (.getfield 47, 3) := by decide +kernel
theorem dX8_make_24 : decode cX8_make 24 = .ok (.iload_n 1, 1) := by decide +kernel
theorem dX8_make_25 : decode cX8_make 25 = .ok (.aload_n 0, 1) := by decide +kernel
theorem dX8_make_26 : decode cX8_make 26 = .ok (.getfield 56, 3) := by decide +kernel
theorem dX8_make_29 : decode cX8_make 29 = .ok (.iastore, 1) := by decide +kernel
theorem dX8_make_30 : decode cX8_make 30 = .ok (.aload_n 0, 1) := by decide +kernel
theorem dX8_make_31 : decode cX8_make 31 = .ok (.iconst 3, 1) := by decide +kernel
theorem dX8_make_32 : decode cX8_make 32 = .ok (.iconst 4, 1) := by decide +kernel
theorem dX8_make_33 : decode cX8_make 33 = .ok (.invokevirtual 123, 3) := by decide +kernel
theorem dX8_make_36 : decode cX8_make 36 = .ok (.aload_n 0, 1) := by decide +kernel
theorem dX8_make_37 : decode cX8_make 37 = .ok (.bipush 20, 2) := by decide +kernel
theorem dX8_make_39 : decode cX8_make 39 = .ok (.iconst 2, 1) := by decide +kernel
theorem dX8_make_40 : decode cX8_make 40 = .ok (.invokevirtual 114, 3) := by decide +kernel
theorem dX8_make_43 : decode cX8_make 43 = .ok (.aload_n 0, 1) := by decide +kernel
theorem dX8_make_44 : decode cX8_make 44 = .ok (.iload_n 1, 1) := by decide +kernel
theorem dX8_make_45 : decode cX8_make 45 = .ok (.invokevirtual 126, 3) := by decide +kernel
theorem dX8_make_48 : decode cX8_make 48 = .ok (.aload_n 0, 1) := by decide +kernel
theorem dX8_make_49 : decode cX8_make 49 = .ok (.iconst 0, 1) := by decide +kernel
theorem dX8_make_50 : decode cX8_make 50 = .ok (.iconst 2, 1) := by decide +kernel
theorem dX8_make_51 : decode cX8_make 51 = .ok (.invokevirtual 114, 3) := by decide +kernel
theorem dX8_make_54 : decode cX8_make 54 = .ok (.aload_n 0, 1) := by decide +kernel
theorem dX8_make_55 : decode cX8_make 55 = .ok (.iload_n 1, 1) := by decide +kernel
theorem dX8_make_56 : decode cX8_make 56 = .ok (.invokevirtual 129, 3) := by decide +kernel
theorem dX8_make_59 : decode cX8_make 59 = .ok (.aload_n 0, 1) := by decide +kernel
theorem dX8_make_60 : decode cX8_make 60 = .ok (.iload_n 1, 1) := by decide +kernel
theorem dX8_make_61 : decode cX8_make 61 = .ok (.invokevirtual 109, 3) := by decide +kernel
theorem dX8_make_64 : decode cX8_make 64 = .ok (.bipush 99, 2) := by decide +kernel
theorem dX8_make_66 : decode cX8_make 66 = .ok (.if_icmp .ne 7, 3) := by decide +kernel
theorem dX8_make_69 : decode cX8_make 69 = .ok (.iconst 1, 1) := by decide +kernel
theorem dX8_make_70 : decode cX8_make 70 = .ok (.goto 4, 3) := by decide +kernel
theorem dX8_make_73 : decode cX8_make 73 = .ok (.iconst 0, 1) := by decide +kernel
theorem dX8_make_74 : decode cX8_make 74 = .ok (.istore_n 2, 1) := by decide +kernel
theorem dX8_make_75 : decode cX8_make 75 = .ok (.iload_n 2, 1) := by decide +kernel
theorem dX8_make_76 : decode cX8_make 76 = .ok (.ifCond .eq 10, 3) := by decide +kernel
theorem dX8_make_79 : decode cX8_make 79 = .ok (.aload_n 0, 1) := by decide +kernel
theorem dX8_make_80 : decode cX8_make 80 = .ok (.getfield 96, 3) := by decide +kernel
theorem dX8_make_83 : decode cX8_make 83 = .ok (.goto 9, 3) := by decide +kernel
theorem dX8_make_86 : decode cX8_make 86 = .ok (.aload_n 0, 1) := by decide +kernel
theorem dX8_make_87 : decode cX8_make 87 = .ok (.getfield 28, 3) := by decide +kernel
theorem dX8_make_90 : decode cX8_make 90 = .ok (.iload_n 1, 1) := by decide +kernel
theorem dX8_make_91 : decode cX8_make 91 = .ok (.iaload, 1) := by decide +kernel
theorem dX8_make_92 : decode cX8_make 92 = .ok (.istore_n 3, 1) := by decide +kernel
theorem dX8_make_93 : decode cX8_make 93 = .ok (.iconst 0, 1) := by decide +kernel
theorem dX8_make_94 : decode cX8_make 94 = .ok (.istore 4, 2) := by decide +kernel
theorem dX8_make_96 : decode cX8_make 96 = .ok (.iload 4, 2) := by decide +kernel
theorem dX8_make_98 : decode cX8_make 98 = .ok (.iload_n 3, 1) := by decide +kernel
theorem dX8_make_99 : decode cX8_make 99 = .ok (.if_icmp .ge 41, 3) := by decide +kernel
theorem dX8_make_102 : decode cX8_make 102 = .ok (.aload_n 0, 1) := by decide +kernel
theorem dX8_make_103 : decode cX8_make 103 = .ok (.iload_n 2, 1) := by decide +kernel
theorem dX8_make_104 : decode cX8_make 104 = .ok (.ifCond .eq 13, 3) := by decide +kernel
theorem dX8_make_107 : decode cX8_make 107 = .ok (.aload_n 0, 1) := by decide +kernel
theorem dX8_make_108 : decode cX8_make 108 = .ok (.getfield 38, 3) := by decide +kernel
theorem dX8_make_111 : decode cX8_make 111 = .ok (.iload 4, 2) := by decide +kernel
theorem dX8_make_113 : decode cX8_make 113 = .ok (.iaload, 1) := by decide +kernel
theorem dX8_make_114 : decode cX8_make 114 = .ok (.goto 16, 3) := by decide +kernel
theorem dX8_make_117 : decode cX8_make 117 = .ok (.aload_n 0, 1) := by decide +kernel
theorem dX8_make_118 : decode cX8_make 118 = .ok (.getfield 25, 3) := by decide +kernel
theorem dX8_make_121 : decode cX8_make 121 = .ok (.sipush 1500, 3) := by decide +kernel
theorem dX8_make_124 : decode cX8_make 124 = .ok (.iload_n 1, 1) := by decide +kernel
theorem dX8_make_125 : decode cX8_make 125 = .ok (.imul, 1) := by decide +kernel
theorem dX8_make_126 : decode cX8_make 126 = .ok (.iload 4, 2) := by decide +kernel
theorem dX8_make_128 : decode cX8_make 128 = .ok (.iadd, 1) := by decide +kernel
theorem dX8_make_129 : decode cX8_make 129 = .ok (.iaload, 1) := by decide +kernel
theorem dX8_make_130 : decode cX8_make 130 = .ok (.iconst 1, 1) := by decide +kernel
theorem dX8_make_131 : decode cX8_make 131 = .ok (.invokevirtual 114, 3) := by decide +kernel
theorem dX8_make_134 : decode cX8_make 134 = .ok (.iinc 4 1, 3) := by decide +kernel
theorem dX8_make_137 : decode cX8_make 137 = .ok (.goto (-41), 3) := by decide +kernel
theorem dX8_make_140 : decode cX8_make 140 = .ok (.iinc 1 1, 3) := by decide +kernel
theorem dX8_make_143 : decode cX8_make 143 = .ok (.goto (-131), 3) := by decide +kernel
theorem dX8_make_146 : decode cX8_make 146 = .ok (.aload_n 0, 1) := by decide +kernel
theorem dX8_make_147 : decode cX8_make 147 = .ok (.getfield 56, 3) := by decide +kernel
theorem dX8_make_150 : decode cX8_make 150 = .ok (.istore_n 1, 1) := by decide +kernel
theorem dX8_make_151 : decode cX8_make 151 = .ok (.iconst 0, 1) := by decide +kernel
theorem dX8_make_152 : decode cX8_make 152 = .ok (.istore_n 2, 1) := by decide +kernel
theorem dX8_make_153 : decode cX8_make 153 = .ok (.iload_n 2, 1) := by decide +kernel
theorem dX8_make_154 : decode cX8_make 154 = .ok (.aload_n 0, 1) := by decide +kernel
theorem dX8_make_155 : decode cX8_make 155 = .ok (.getfield 59, 3) := by decide +kernel
theorem dX8_make_158 : decode cX8_make 158 = .ok (.if_icmp .ge 63, 3) := by decide +kernel
theorem dX8_make_161 : decode cX8_make 161 = .ok (.aload_n 0, 1) := by decide +kernel
theorem dX8_make_162 : decode cX8_make 162 = .ok (.iconst 1, 1) := by decide +kernel
theorem dX8_make_163 : decode cX8_make 163 = .ok (.iconst 2, 1) := by decide +kernel
theorem dX8_make_164 : decode cX8_make 164 = .ok (.invokevirtual 123, 3) := by decide +kernel
theorem dX8_make_167 : decode cX8_make 167 = .ok (.aload_n 0, 1) := by decide +kernel
theorem dX8_make_168 : decode cX8_make 168 = .ok (.bipush 20, 2) := by decide +kernel
theorem dX8_make_170 : decode cX8_make 170 = .ok (.iconst 2, 1) := by decide +kernel
theorem dX8_make_171 : decode cX8_make 171 = .ok (.invokevirtual 114, 3) := by decide +kernel
theorem dX8_make_174 : decode cX8_make 174 = .ok (.aload_n 0, 1) := by decide +kernel
theorem dX8_make_175 : decode cX8_make 175 = .ok (.bipush 20, 2) := by decide +kernel
theorem dX8_make_177 : decode cX8_make 177 = .ok (.iconst 2, 1) := by decide +kernel
theorem dX8_make_178 : decode cX8_make 178 = .ok (.invokevirtual 114, 3) := by decide +kernel
theorem dX8_make_181 : decode cX8_make 181 = .ok (.aload_n 0, 1) := by decide +kernel
theorem dX8_make_182 : decode cX8_make 182 = .ok (.iload_n 2, 1) := by decide +kernel
theorem dX8_make_183 : decode cX8_make 183 = .ok (.invokevirtual 126, 3) := by decide +kernel
theorem dX8_make_186 : decode cX8_make 186 = .ok (.aload_n 0, 1) := by decide +kernel
theorem dX8_make_187 : decode cX8_make 187 = .ok (.iconst 0, 1) := by decide +kernel
theorem dX8_make_188 : decode cX8_make 188 = .ok (.bipush 8, 2) := by decide +kernel
theorem dX8_make_190 : decode cX8_make 190 = .ok (.invokevirtual 114, 3) := by decide +kernel
theorem dX8_make_193 : decode cX8_make 193 = .ok (.aload_n 0, 1) := by decide +kernel
theorem dX8_make_194 : decode cX8_make 194 = .ok (.iconst 0, 1) := by decide +kernel
theorem dX8_make_195 : decode cX8_make 195 = .ok (.iconst 4, 1) := by decide +kernel
theorem dX8_make_196 : decode cX8_make 196 = .ok (.invokevirtual 114, 3) := by decide +kernel
theorem dX8_make_199 : decode cX8_make 199 = .ok (.aload_n 0, 1) := by decide +kernel
theorem dX8_make_200 : decode cX8_make 200 = .ok (.aload_n 0, 1) := by decide +kernel
theorem dX8_make_201 : decode cX8_make 201 = .ok (.getfield 47, 3) := by decide +kernel
theorem dX8_make_204 : decode cX8_make 204 = .ok (.iload_n 2, 1) := by decide +kernel
theorem dX8_make_205 : decode cX8_make 205 = .ok (.iaload, 1) := by decide +kernel
theorem dX8_make_206 : decode cX8_make 206 = .ok (.iconst 4, 1) := by decide +kernel
theorem dX8_make_207 : decode cX8_make 207 = .ok (.invokevirtual 114, 3) := by decide +kernel
theorem dX8_make_210 : decode cX8_make 210 = .ok (.aload_n 0, 1) := by decide +kernel
theorem dX8_make_211 : decode cX8_make 211 = .ok (.iload_n 2, 1) := by decide +kernel
theorem dX8_make_212 : decode cX8_make 212 = .ok (.invokevirtual 129, 3) := by decide +kernel
theorem dX8_make_215 : decode cX8_make 215 = .ok (.iinc 2 1, 3) := by decide +kernel
theorem dX8_make_218 : decode cX8_make 218 = .ok (.goto (-65), 3) := by decide +kernel
theorem dX8_make_221 : decode cX8_make 221 = .ok (.aload_n 0, 1) := by decide +kernel
theorem dX8_make_222 : decode cX8_make 222 = .ok (.getfield 56, 3) := by decide +kernel
theorem dX8_make_225 : decode cX8_make 225 = .ok (.iload_n 1, 1) := by decide +kernel
theorem dX8_make_226 : decode cX8_make 226 = .ok (.isub, 1) := by decide +kernel
theorem dX8_make_227 : decode cX8_make 227 = .ok (.istore_n 2, 1) := by decide +kernel
theorem dX8_make_228 : decode cX8_make 228 = .ok (.aload_n 0, 1) := by decide +kernel
theorem dX8_make_229 : decode cX8_make 229 = .ok (.iconst 5, 1) := by decide +kernel
theorem dX8_make_230 : decode cX8_make 230 = .ok (.bipush 6, 2) := by decide +kernel
theorem dX8_make_232 : decode cX8_make 232 = .ok (.invokevirtual 123, 3) := by decide +kernel
theorem dX8_make_235 : decode cX8_make 235 = .ok (.aload_n 0, 1) := by decide +kernel
theorem dX8_make_236 : decode cX8_make 236 = .ok (.iconst 0, 1) := by decide +kernel
theorem dX8_make_237 : decode cX8_make 237 = .ok (.iconst 4, 1) := by decide +kernel
theorem dX8_make_238 : decode cX8_make 238 = .ok (.invokevirtual 114, 3) := by decide +kernel
theorem dX8_make_241 : decode cX8_make 241 = .ok (.aload_n 0, 1) := by decide +kernel
theorem dX8_make_242 : decode cX8_make 242 = .ok (.aload_n 0, 1) := by decide +kernel
theorem dX8_make_243 : decode cX8_make 243 = .ok (.getfield 59, 3) := by decide +kernel
theorem dX8_make_246 : decode cX8_make 246 = .ok (.iconst 2, 1) := by decide +kernel
theorem dX8_make_247 : decode cX8_make 247 = .ok (.invokevirtual 114, 3) := by decide +kernel
theorem dX8_make_250 : decode cX8_make 250 = .ok (.aload_n 0, 1) := by decide +kernel
theorem dX8_make_251 : decode cX8_make 251 = .ok (.aload_n 0, 1) := by decide +kernel
theorem dX8_make_252 : decode cX8_make 252 = .ok (.getfield 59, 3) := by decide +kernel
theorem dX8_make_255 : decode cX8_make 255 = .ok (.iconst 2, 1) := by decide +kernel
theorem dX8_make_256 : decode cX8_make 256 = .ok (.invokevirtual 114, 3) := by decide +kernel
theorem dX8_make_259 : decode cX8_make 259 = .ok (.aload_n 0, 1) := by decide +kernel
theorem dX8_make_260 : decode cX8_make 260 = .ok (.iload_n 2, 1) := by decide +kernel
theorem dX8_make_261 : decode cX8_make 261 = .ok (.iconst 4, 1) := by decide +kernel
theorem dX8_make_262 : decode cX8_make 262 = .ok (.invokevirtual 114, 3) := by decide +kernel
theorem dX8_make_265 : decode cX8_make 265 = .ok (.aload_n 0, 1) := by decide +kernel
theorem dX8_make_266 : decode cX8_make 266 = .ok (.iload_n 1, 1) := by decide +kernel
theorem dX8_make_267 : decode cX8_make 267 = .ok (.iconst 4, 1) := by decide +kernel
theorem dX8_make_268 : decode cX8_make 268 = .ok (.invokevirtual 114, 3) := by decide +kernel
theorem dX8_make_271 : decode cX8_make 271 = .ok (.aload_n 0, 1) := by decide +kernel
theorem dX8_make_272 : decode cX8_make 272 = .ok (.iconst 0, 1) := by decide +kernel
theorem dX8_make_273 : decode cX8_make 273 = .ok (.iconst 2, 1) := by decide +kernel
theorem dX8_make_274 : decode cX8_make 274 = .ok (.invokevirtual 114, 3) := by decide +kernel
theorem dX8_make_277 : decode cX8_make 277 = .ok (.aload_n 0, 1) := by decide +kernel
theorem dX8_make_278 : decode cX8_make 278 = .ok (.getfield 56, 3) := by decide +kernel
theorem dX8_make_281 : decode cX8_make 281 = .ok (.ireturn, 1) := by decide +kernel
theorem dX8_number_0 : decode cX8_number 0 = .ok (.lconst 0, 1) := by decide +kernel
theorem dX8_number_1 : decode cX8_number 1 = .ok (.lstore_n 3, 1) := by decide +kernel
theorem dX8_number_2 : decode cX8_number 2 = .ok (.iload_n 2, 1) := by decide +kernel
theorem dX8_number_3 : decode cX8_number 3 = .ok (.iconst 1, 1) := by decide +kernel
theorem dX8_number_4 : decode cX8_number 4 = .ok (.isub, 1) := by decide +kernel
theorem dX8_number_5 : decode cX8_number 5 = .ok (.istore 5, 2) := by decide +kernel
theorem dX8_number_7 : decode cX8_number 7 = .ok (.iload 5, 2) := by decide +kernel
theorem dX8_number_9 : decode cX8_number 9 = .ok (.ifCond .lt 25, 3) := by decide +kernel
theorem dX8_number_12 : decode cX8_number 12 = .ok (.lload_n 3, 1) := by decide +kernel
theorem dX8_number_13 : decode cX8_number 13 = .ok (.bipush 8, 2) := by decide +kernel
theorem dX8_number_15 : decode cX8_number 15 = .ok (.lshl, 1) := by decide +kernel
theorem dX8_number_16 : decode cX8_number 16 = .ok (.aload_n 0, 1) := by decide +kernel
theorem dX8_number_17 : decode cX8_number 17 = .ok (.getfield 13, 3) := by decide +kernel
theorem dX8_number_20 : decode cX8_number 20 = .ok (.iload_n 1, 1) := by decide +kernel
theorem dX8_number_21 : decode cX8_number 21 = .ok (.iload 5, 2) := by decide +kernel
theorem dX8_number_23 : decode cX8_number 23 = .ok (.iadd, 1) := by decide +kernel
theorem dX8_number_24 : decode cX8_number 24 = .ok (.iaload, 1) := by decide +kernel
theorem dX8_number_25 : decode cX8_number 25 = .ok (.i2l, 1) := by decide +kernel
theorem dX8_number_26 : decode cX8_number 26 = .ok (.lor, 1) := by decide +kernel
theorem dX8_number_27 : decode cX8_number 27 = .ok (.lstore_n 3, 1) := by decide +kernel
theorem dX8_number_28 : decode cX8_number 28 = .ok (.iinc 5 (-1), 3) := by decide +kernel
theorem dX8_number_31 : decode cX8_number 31 = .ok (.goto (-24), 3) := by decide +kernel
theorem dX8_number_34 : decode cX8_number 34 = .ok (.lload_n 3, 1) := by decide +kernel
theorem dX8_number_35 : decode cX8_number 35 = .ok (.ldc2_w 132, 3) := by decide +kernel
theorem dX8_number_38 : decode cX8_number 38 = .ok (.lcmp, 1) := by decide +kernel
theorem dX8_number_39 : decode cX8_number 39 = .ok (.ifCond .le 8, 3) := by decide +kernel
theorem dX8_number_42 : decode cX8_number 42 = .ok (.ldc 134, 2) := by decide +kernel
theorem dX8_number_44 : decode cX8_number 44 = .ok (.goto 5, 3) := by decide +kernel
theorem dX8_number_47 : decode cX8_number 47 = .ok (.lload_n 3, 1) := by decide +kernel
theorem dX8_number_48 : decode cX8_number 48 = .ok (.l2i, 1) := by decide +kernel
theorem dX8_number_49 : decode cX8_number 49 = .ok (.ireturn, 1) := by decide +kernel
theorem dX8_is_0 : decode cX8_is 0 = .ok (.aload_n 0, 1) := by decide +kernel
theorem dX8_is_1 : decode cX8_is 1 = .ok (.iload_n 1, 1) := by decide +kernel
theorem dX8_is_2 : decode cX8_is 2 = .ok (.iload_n 2, 1) := by decide +kernel
theorem dX8_is_3 : decode cX8_is 3 = .ok (.invokevirtual 135, 3) := by decide +kernel
theorem dX8_is_6 : decode cX8_is 6 = .ok (.iload_n 3, 1) := by decide +kernel
theorem dX8_is_7 : decode cX8_is 7 = .ok (.if_icmp .ne 7, 3) := by decide +kernel
theorem dX8_is_10 : decode cX8_is 10 = .ok (.iconst 1, 1) := by decide +kernel
theorem dX8_is_11 : decode cX8_is 11 = .ok (.goto 4, 3) := by decide +kernel
theorem dX8_is_14 : decode cX8_is 14 = .ok (.iconst 0, 1) := by decide +kernel
theorem dX8_is_15 : decode cX8_is 15 = .ok (.ireturn, 1) := by decide +kernel
theorem dX8_isSign_0 : decode cX8_isSign 0 = .ok (.aload_n 0, 1) := by decide +kernel
theorem dX8_isSign_1 : decode cX8_isSign 1 = .ok (.getfield 13, 3) := by decide +kernel
theorem dX8_isSign_4 : decode cX8_isSign 4 = .ok (.iload_n 1, 1) := by decide +kernel
theorem dX8_isSign_5 : decode cX8_isSign 5 = .ok (.iaload, 1) := by decide +kernel
theorem dX8_isSign_6 : decode cX8_isSign 6 = .ok (.bipush 80, 2) := by decide +kernel
theorem dX8_isSign_8 : decode cX8_isSign 8 = .ok (.if_icmp .ne 44, 3) := by decide +kernel
theorem dX8_isSign_11 : decode cX8_isSign 11 = .ok (.aload_n 0, 1) := by decide +kernel
theorem dX8_isSign_12 : decode cX8_isSign 12 = .ok (.getfield 13, 3) := by decide +kernel
theorem dX8_isSign_15 : decode cX8_isSign 15 = .ok (.iload_n 1, 1) := by decide +kernel
theorem dX8_isSign_16 : decode cX8_isSign 16 = .ok (.iconst 1, 1) := by decide +kernel
theorem dX8_isSign_17 : decode cX8_isSign 17 = .ok (.iadd, 1) := by decide +kernel
theorem dX8_isSign_18 : decode cX8_isSign 18 = .ok (.iaload, 1) := by decide +kernel
theorem dX8_isSign_19 : decode cX8_isSign 19 = .ok (.bipush 75, 2) := by decide +kernel
theorem dX8_isSign_21 : decode cX8_isSign 21 = .ok (.if_icmp .ne 31, 3) := by decide +kernel
theorem dX8_isSign_24 : decode cX8_isSign 24 = .ok (.aload_n 0, 1) := by decide +kernel
theorem dX8_isSign_25 : decode cX8_isSign 25 = .ok (.getfield 13, 3) := by decide +kernel
end
section
theorem dX8_isSign_28 : decode cX8_isSign 28 = .ok (.iload_n 1, 1) := by decide +kernel
theorem dX8_isSign_29 : decode cX8_isSign 29 = .ok (.iconst 2, 1) := by decide +kernel
theorem dX8_isSign_30 : decode cX8_isSign 30 = .ok (.iadd, 1) := by decide +kernel
theorem dX8_isSign_31 : decode cX8_isSign 31 = .ok (.iaload, 1) := by decide +kernel
theorem dX8_isSign_32 : decode cX8_isSign 32 = .ok (.iload_n 2, 1) := by decide +kernel
theorem dX8_isSign_33 : decode cX8_isSign 33 = .ok (.if_icmp .ne 19, 3) := by decide +kernel
theorem dX8_isSign_36 : decode cX8_isSign 36 = .ok (.aload_n 0, 1) := by decide +kernel
theorem dX8_isSign_37 : decode cX8_isSign 37 = .ok (.getfield 13, 3) := by decide +kernel
theorem dX8_isSign_40 : decode cX8_isSign 40 = .ok (.iload_n 1, 1) := by decide +kernel
theorem dX8_isSign_41 : decode cX8_isSign 41 = .ok (.iconst 3, 1) := by decide +kernel
theorem dX8_isSign_42 : decode cX8_isSign 42 = .ok (.iadd, 1) := by decide +kernel
theorem dX8_isSign_43 : decode cX8_isSign 43 = .ok (.iaload, 1) := by decide +kernel
theorem dX8_isSign_44 : decode cX8_isSign 44 = .ok (.iload_n 3, 1) := by decide +kernel
theorem dX8_isSign_45 : decode cX8_isSign 45 = .ok (.if_icmp .ne 7, 3) := by decide +kernel
theorem dX8_isSign_48 : decode cX8_isSign 48 = .ok (.iconst 1, 1) := by decide +kernel
theorem dX8_isSign_49 : decode cX8_isSign 49 = .ok (.goto 4, 3) := by decide +kernel
theorem dX8_isSign_52 : decode cX8_isSign 52 = .ok (.iconst 0, 1) := by decide +kernel
theorem dX8_isSign_53 : decode cX8_isSign 53 = .ok (.ireturn, 1) := by decide +kernel
theorem dX8_fails_0 : decode cX8_fails 0 = .ok (.aload_n 0, 1) := by decide +kernel
theorem dX8_fails_1 : decode cX8_fails 1 = .ok (.iload_n 1, 1) := by decide +kernel
theorem dX8_fails_2 : decode cX8_fails 2 = .ok (.putfield 138, 3) := by decide +kernel
theorem dX8_fails_5 : decode cX8_fails 5 = .ok (.aload_n 0, 1) := by decide +kernel
theorem dX8_fails_6 : decode cX8_fails 6 = .ok (.iload_n 2, 1) := by decide +kernel
theorem dX8_fails_7 : decode cX8_fails 7 = .ok (.putfield 31, 3) := by decide +kernel
theorem dX8_fails_10 : decode cX8_fails 10 = .ok (.aload_n 0, 1) := by decide +kernel
theorem dX8_fails_11 : decode cX8_fails 11 = .ok (.iload_n 3, 1) := by decide +kernel
theorem dX8_fails_12 : decode cX8_fails 12 = .ok (.putfield 35, 3) := by decide +kernel
theorem dX8_fails_15 : decode cX8_fails 15 = .ok (.iconst 0, 1) := by decide +kernel
theorem dX8_fails_16 : decode cX8_fails 16 = .ok (.ireturn, 1) := by decide +kernel
theorem dX8_areFacts_0 : decode cX8_areFacts 0 = .ok (.aload_n 0, 1) := by decide +kernel
theorem dX8_areFacts_1 : decode cX8_areFacts 1 = .ok (.iload_n 1, 1) := by decide +kernel
theorem dX8_areFacts_2 : decode cX8_areFacts 2 = .ok (.iconst 2, 1) := by decide +kernel
theorem dX8_areFacts_3 : decode cX8_areFacts 3 = .ok (.iadd, 1) := by decide +kernel
theorem dX8_areFacts_4 : decode cX8_areFacts 4 = .ok (.iconst 2, 1) := by decide +kernel
theorem dX8_areFacts_5 : decode cX8_areFacts 5 = .ok (.iconst 0, 1) := by decide +kernel
theorem dX8_areFacts_6 : decode cX8_areFacts 6 = .ok (.invokevirtual 141, 3) := by decide +kernel
theorem dX8_areFacts_9 : decode cX8_areFacts 9 = .ok (.ifCond .ne 16, 3) := by decide +kernel
theorem dX8_areFacts_12 : decode cX8_areFacts 12 = .ok (.aload_n 0, 1) := by decide +kernel
theorem dX8_areFacts_13 : decode cX8_areFacts 13 = .ok (.iload_n 1, 1) := by decide +kernel
theorem dX8_areFacts_14 : decode cX8_areFacts 14 = .ok (.iconst 2, 1) := by decide +kernel
theorem dX8_areFacts_15 : decode cX8_areFacts 15 = .ok (.iadd, 1) := by decide +kernel
theorem dX8_areFacts_16 : decode cX8_areFacts 16 = .ok (.iconst 2, 1) := by decide +kernel
theorem dX8_areFacts_17 : decode cX8_areFacts 17 = .ok (.bipush 99, 2) := by decide +kernel
theorem dX8_areFacts_19 : decode cX8_areFacts 19 = .ok (.invokevirtual 141, 3) := by decide +kernel
theorem dX8_areFacts_22 : decode cX8_areFacts 22 = .ok (.ifCond .eq 7, 3) := by decide +kernel
theorem dX8_areFacts_25 : decode cX8_areFacts 25 = .ok (.iconst 1, 1) := by decide +kernel
theorem dX8_areFacts_26 : decode cX8_areFacts 26 = .ok (.goto 4, 3) := by decide +kernel
theorem dX8_areFacts_29 : decode cX8_areFacts 29 = .ok (.iconst 0, 1) := by decide +kernel
theorem dX8_areFacts_30 : decode cX8_areFacts 30 = .ok (.istore_n 2, 1) := by decide +kernel
theorem dX8_areFacts_31 : decode cX8_areFacts 31 = .ok (.aload_n 0, 1) := by decide +kernel
theorem dX8_areFacts_32 : decode cX8_areFacts 32 = .ok (.iload_n 1, 1) := by decide +kernel
theorem dX8_areFacts_33 : decode cX8_areFacts 33 = .ok (.iconst 2, 1) := by decide +kernel
theorem dX8_areFacts_34 : decode cX8_areFacts 34 = .ok (.iconst 0, 1) := by decide +kernel
theorem dX8_areFacts_35 : decode cX8_areFacts 35 = .ok (.invokevirtual 141, 3) := by decide +kernel
theorem dX8_areFacts_38 : decode cX8_areFacts 38 = .ok (.ifCond .eq 37, 3) := by decide +kernel
theorem dX8_areFacts_41 : decode cX8_areFacts 41 = .ok (.iload_n 2, 1) := by decide +kernel
theorem dX8_areFacts_42 : decode cX8_areFacts 42 = .ok (.ifCond .eq 33, 3) := by decide +kernel
theorem dX8_areFacts_45 : decode cX8_areFacts 45 = .ok (.aload_n 0, 1) := by decide +kernel
theorem dX8_areFacts_46 : decode cX8_areFacts 46 = .ok (.iload_n 1, 1) := by decide +kernel
theorem dX8_areFacts_47 : decode cX8_areFacts 47 = .ok (.iconst 4, 1) := by decide +kernel
theorem dX8_areFacts_48 : decode cX8_areFacts 48 = .ok (.iadd, 1) := by decide +kernel
theorem dX8_areFacts_49 : decode cX8_areFacts 49 = .ok (.iconst 2, 1) := by decide +kernel
theorem dX8_areFacts_50 : decode cX8_areFacts 50 = .ok (.iconst 0, 1) := by decide +kernel
theorem dX8_areFacts_51 : decode cX8_areFacts 51 = .ok (.invokevirtual 141, 3) := by decide +kernel
theorem dX8_areFacts_54 : decode cX8_areFacts 54 = .ok (.ifCond .eq 21, 3) := by decide +kernel
theorem dX8_areFacts_57 : decode cX8_areFacts 57 = .ok (.aload_n 0, 1) := by decide +kernel
theorem dX8_areFacts_58 : decode cX8_areFacts 58 = .ok (.iload_n 1, 1) := by decide +kernel
theorem dX8_areFacts_59 : decode cX8_areFacts 59 = .ok (.bipush 6, 2) := by decide +kernel
theorem dX8_areFacts_61 : decode cX8_areFacts 61 = .ok (.iadd, 1) := by decide +kernel
theorem dX8_areFacts_62 : decode cX8_areFacts 62 = .ok (.iconst 2, 1) := by decide +kernel
theorem dX8_areFacts_63 : decode cX8_areFacts 63 = .ok (.bipush 33, 2) := by decide +kernel
theorem dX8_areFacts_65 : decode cX8_areFacts 65 = .ok (.invokevirtual 141, 3) := by decide +kernel
theorem dX8_areFacts_68 : decode cX8_areFacts 68 = .ok (.ifCond .eq 7, 3) := by decide +kernel
theorem dX8_areFacts_71 : decode cX8_areFacts 71 = .ok (.iconst 1, 1) := by decide +kernel
theorem dX8_areFacts_72 : decode cX8_areFacts 72 = .ok (.goto 4, 3) := by decide +kernel
theorem dX8_areFacts_75 : decode cX8_areFacts 75 = .ok (.iconst 0, 1) := by decide +kernel
theorem dX8_areFacts_76 : decode cX8_areFacts 76 = .ok (.ireturn, 1) := by decide +kernel
theorem dX8_findEnd_0 : decode cX8_findEnd 0 = .ok (.aload_n 0, 1) := by decide +kernel
theorem dX8_findEnd_1 : decode cX8_findEnd 1 = .ok (.getfield 53, 3) := by decide +kernel
theorem dX8_findEnd_4 : decode cX8_findEnd 4 = .ok (.bipush 22, 2) := by decide +kernel
theorem dX8_findEnd_6 : decode cX8_findEnd 6 = .ok (.isub, 1) := by decide +kernel
theorem dX8_findEnd_7 : decode cX8_findEnd 7 = .ok (.istore_n 1, 1) := by decide +kernel
theorem dX8_findEnd_8 : decode cX8_findEnd 8 = .ok (.iload_n 1, 1) := by decide +kernel
theorem dX8_findEnd_9 : decode cX8_findEnd 9 = .ok (.ifCond .ge 5, 3) := by decide +kernel
theorem dX8_findEnd_12 : decode cX8_findEnd 12 = .ok (.iconst (-1), 1) := by decide +kernel
theorem dX8_findEnd_13 : decode cX8_findEnd 13 = .ok (.ireturn, 1) := by decide +kernel
theorem dX8_findEnd_14 : decode cX8_findEnd 14 = .ok (.aload_n 0, 1) := by decide +kernel
theorem dX8_findEnd_15 : decode cX8_findEnd 15 = .ok (.iload_n 1, 1) := by decide +kernel
theorem dX8_findEnd_16 : decode cX8_findEnd 16 = .ok (.iconst 5, 1) := by decide +kernel
theorem dX8_findEnd_17 : decode cX8_findEnd 17 = .ok (.bipush 6, 2) := by decide +kernel
theorem dX8_findEnd_19 : decode cX8_findEnd 19 = .ok (.invokevirtual 145, 3) := by decide +kernel
theorem dX8_findEnd_22 : decode cX8_findEnd 22 = .ok (.ifCond .eq 67, 3) := by decide +kernel
theorem dX8_findEnd_25 : decode cX8_findEnd 25 = .ok (.aload_n 0, 1) := by decide +kernel
theorem dX8_findEnd_26 : decode cX8_findEnd 26 = .ok (.iload_n 1, 1) := by decide +kernel
theorem dX8_findEnd_27 : decode cX8_findEnd 27 = .ok (.iconst 4, 1) := by decide +kernel
theorem dX8_findEnd_28 : decode cX8_findEnd 28 = .ok (.iadd, 1) := by decide +kernel
theorem dX8_findEnd_29 : decode cX8_findEnd 29 = .ok (.iconst 4, 1) := by decide +kernel
theorem dX8_findEnd_30 : decode cX8_findEnd 30 = .ok (.iconst 0, 1) := by decide +kernel
theorem dX8_findEnd_31 : decode cX8_findEnd 31 = .ok (.invokevirtual 141, 3) := by decide +kernel
theorem dX8_findEnd_34 : decode cX8_findEnd 34 = .ok (.ifCond .eq 55, 3) := by decide +kernel
theorem dX8_findEnd_37 : decode cX8_findEnd 37 = .ok (.aload_n 0, 1) := by decide +kernel
theorem dX8_findEnd_38 : decode cX8_findEnd 38 = .ok (.iload_n 1, 1) := by decide +kernel
theorem dX8_findEnd_39 : decode cX8_findEnd 39 = .ok (.bipush 8, 2) := by decide +kernel
theorem dX8_findEnd_41 : decode cX8_findEnd 41 = .ok (.iadd, 1) := by decide +kernel
theorem dX8_findEnd_42 : decode cX8_findEnd 42 = .ok (.iconst 2, 1) := by decide +kernel
theorem dX8_findEnd_43 : decode cX8_findEnd 43 = .ok (.invokevirtual 135, 3) := by decide +kernel
theorem dX8_findEnd_46 : decode cX8_findEnd 46 = .ok (.bipush 20, 2) := by decide +kernel
theorem dX8_findEnd_48 : decode cX8_findEnd 48 = .ok (.if_icmp .gt 41, 3) := by decide +kernel
theorem dX8_findEnd_51 : decode cX8_findEnd 51 = .ok (.aload_n 0, 1) := by decide +kernel
theorem dX8_findEnd_52 : decode cX8_findEnd 52 = .ok (.iload_n 1, 1) := by decide +kernel
theorem dX8_findEnd_53 : decode cX8_findEnd 53 = .ok (.bipush 8, 2) := by decide +kernel
theorem dX8_findEnd_55 : decode cX8_findEnd 55 = .ok (.iadd, 1) := by decide +kernel
theorem dX8_findEnd_56 : decode cX8_findEnd 56 = .ok (.iconst 2, 1) := by decide +kernel
theorem dX8_findEnd_57 : decode cX8_findEnd 57 = .ok (.invokevirtual 135, 3) := by decide +kernel
theorem dX8_findEnd_60 : decode cX8_findEnd 60 = .ok (.aload_n 0, 1) := by decide +kernel
theorem dX8_findEnd_61 : decode cX8_findEnd 61 = .ok (.iload_n 1, 1) := by decide +kernel
theorem dX8_findEnd_62 : decode cX8_findEnd 62 = .ok (.bipush 10, 2) := by decide +kernel
theorem dX8_findEnd_64 : decode cX8_findEnd 64 = .ok (.iadd, 1) := by decide +kernel
theorem dX8_findEnd_65 : decode cX8_findEnd 65 = .ok (.iconst 2, 1) := by decide +kernel
theorem dX8_findEnd_66 : decode cX8_findEnd 66 = .ok (.invokevirtual 135, 3) := by decide +kernel
theorem dX8_findEnd_69 : decode cX8_findEnd 69 = .ok (.if_icmp .ne 20, 3) := by decide +kernel
theorem dX8_findEnd_72 : decode cX8_findEnd 72 = .ok (.aload_n 0, 1) := by decide +kernel
theorem dX8_findEnd_73 : decode cX8_findEnd 73 = .ok (.iload_n 1, 1) := by decide +kernel
theorem dX8_findEnd_74 : decode cX8_findEnd 74 = .ok (.bipush 20, 2) := by decide +kernel
theorem dX8_findEnd_76 : decode cX8_findEnd 76 = .ok (.iadd, 1) := by decide +kernel
theorem dX8_findEnd_77 : decode cX8_findEnd 77 = .ok (.iconst 2, 1) := by decide +kernel
theorem dX8_findEnd_78 : decode cX8_findEnd 78 = .ok (.iconst 0, 1) := by decide +kernel
theorem dX8_findEnd_79 : decode cX8_findEnd 79 = .ok (.invokevirtual 141, 3) := by decide +kernel
theorem dX8_findEnd_82 : decode cX8_findEnd 82 = .ok (.ifCond .eq 7, 3) := by decide +kernel
theorem dX8_findEnd_85 : decode cX8_findEnd 85 = .ok (.iconst 1, 1) := by decide +kernel
theorem dX8_findEnd_86 : decode cX8_findEnd 86 = .ok (.goto 4, 3) := by decide +kernel
theorem dX8_findEnd_89 : decode cX8_findEnd 89 = .ok (.iconst 0, 1) := by decide +kernel
theorem dX8_findEnd_90 : decode cX8_findEnd 90 = .ok (.istore_n 2, 1) := by decide +kernel
theorem dX8_findEnd_91 : decode cX8_findEnd 91 = .ok (.aload_n 0, 1) := by decide +kernel
theorem dX8_findEnd_92 : decode cX8_findEnd 92 = .ok (.iload_n 1, 1) := by decide +kernel
theorem dX8_findEnd_93 : decode cX8_findEnd 93 = .ok (.bipush 12, 2) := by decide +kernel
theorem dX8_findEnd_95 : decode cX8_findEnd 95 = .ok (.iadd, 1) := by decide +kernel
theorem dX8_findEnd_96 : decode cX8_findEnd 96 = .ok (.iconst 4, 1) := by decide +kernel
theorem dX8_findEnd_97 : decode cX8_findEnd 97 = .ok (.invokevirtual 135, 3) := by decide +kernel
theorem dX8_findEnd_100 : decode cX8_findEnd 100 = .ok (.i2l, 1) := by decide +kernel
theorem dX8_findEnd_101 : decode cX8_findEnd 101 = .ok (.aload_n 0, 1) := by decide +kernel
theorem dX8_findEnd_102 : decode cX8_findEnd 102 = .ok (.iload_n 1, 1) := by decide +kernel
theorem dX8_findEnd_103 : decode cX8_findEnd 103 = .ok (.bipush 16, 2) := by decide +kernel
theorem dX8_findEnd_105 : decode cX8_findEnd 105 = .ok (.iadd, 1) := by decide +kernel
theorem dX8_findEnd_106 : decode cX8_findEnd 106 = .ok (.iconst 4, 1) := by decide +kernel
theorem dX8_findEnd_107 : decode cX8_findEnd 107 = .ok (.invokevirtual 135, 3) := by decide +kernel
theorem dX8_findEnd_110 : decode cX8_findEnd 110 = .ok (.i2l, 1) := by decide +kernel
theorem dX8_findEnd_111 : decode cX8_findEnd 111 = .ok (.ladd, 1) := by decide +kernel
theorem dX8_findEnd_112 : decode cX8_findEnd 112 = .ok (.lstore_n 3, 1) := by decide +kernel
theorem dX8_findEnd_113 : decode cX8_findEnd 113 = .ok (.iload_n 2, 1) := by decide +kernel
theorem dX8_findEnd_114 : decode cX8_findEnd 114 = .ok (.ifCond .eq 20, 3) := by decide +kernel
theorem dX8_findEnd_117 : decode cX8_findEnd 117 = .ok (.aload_n 0, 1) := by decide +kernel
theorem dX8_findEnd_118 : decode cX8_findEnd 118 = .ok (.iload_n 1, 1) := by decide +kernel
theorem dX8_findEnd_119 : decode cX8_findEnd 119 = .ok (.bipush 8, 2) := by decide +kernel
theorem dX8_findEnd_121 : decode cX8_findEnd 121 = .ok (.iadd, 1) := by decide +kernel
theorem dX8_findEnd_122 : decode cX8_findEnd 122 = .ok (.iconst 2, 1) := by decide +kernel
theorem dX8_findEnd_123 : decode cX8_findEnd 123 = .ok (.iconst 0, 1) := by decide +kernel
theorem dX8_findEnd_124 : decode cX8_findEnd 124 = .ok (.invokevirtual 141, 3) := by decide +kernel
theorem dX8_findEnd_127 : decode cX8_findEnd 127 = .ok (.ifCond .eq 7, 3) := by decide +kernel
theorem dX8_findEnd_130 : decode cX8_findEnd 130 = .ok (.iconst 1, 1) := by decide +kernel
theorem dX8_findEnd_131 : decode cX8_findEnd 131 = .ok (.goto 4, 3) := by decide +kernel
theorem dX8_findEnd_134 : decode cX8_findEnd 134 = .ok (.iconst 0, 1) := by decide +kernel
theorem dX8_findEnd_135 : decode cX8_findEnd 135 = .ok (.istore 5, 2) := by decide +kernel
theorem dX8_findEnd_137 : decode cX8_findEnd 137 = .ok (.iload_n 2, 1) := by decide +kernel
theorem dX8_findEnd_138 : decode cX8_findEnd 138 = .ok (.ifCond .eq 23, 3) := by decide +kernel
theorem dX8_findEnd_141 : decode cX8_findEnd 141 = .ok (.lload_n 3, 1) := by decide +kernel
theorem dX8_findEnd_142 : decode cX8_findEnd 142 = .ok (.iload_n 1, 1) := by decide +kernel
theorem dX8_findEnd_143 : decode cX8_findEnd 143 = .ok (.i2l, 1) := by decide +kernel
theorem dX8_findEnd_144 : decode cX8_findEnd 144 = .ok (.lcmp, 1) := by decide +kernel
theorem dX8_findEnd_145 : decode cX8_findEnd 145 = .ok (.ifCond .ne 16, 3) := by decide +kernel
theorem dX8_findEnd_148 : decode cX8_findEnd 148 = .ok (.iload 5, 2) := by decide +kernel
theorem dX8_findEnd_150 : decode cX8_findEnd 150 = .ok (.ifCond .eq 7, 3) := by decide +kernel
theorem dX8_findEnd_153 : decode cX8_findEnd 153 = .ok (.iload_n 1, 1) := by decide +kernel
theorem dX8_findEnd_154 : decode cX8_findEnd 154 = .ok (.ifCond .ne 7, 3) := by decide +kernel
theorem dX8_findEnd_157 : decode cX8_findEnd 157 = .ok (.iload_n 1, 1) := by decide +kernel
theorem dX8_findEnd_158 : decode cX8_findEnd 158 = .ok (.goto 4, 3) := by decide +kernel
theorem dX8_findEnd_161 : decode cX8_findEnd 161 = .ok (.iconst (-1), 1) := by decide +kernel
theorem dX8_findEnd_162 : decode cX8_findEnd 162 = .ok (.ireturn, 1) := by decide +kernel
theorem dX8_isCentral_0 : decode cX8_isCentral 0 = .ok (.iload_n 2, 1) := by decide +kernel
theorem dX8_isCentral_1 : decode cX8_isCentral 1 = .ok (.bipush 46, 2) := by decide +kernel
theorem dX8_isCentral_3 : decode cX8_isCentral 3 = .ok (.iadd, 1) := by decide +kernel
theorem dX8_isCentral_4 : decode cX8_isCentral 4 = .ok (.iload_n 3, 1) := by decide +kernel
theorem dX8_isCentral_5 : decode cX8_isCentral 5 = .ok (.if_icmp .gt 51, 3) := by decide +kernel
theorem dX8_isCentral_8 : decode cX8_isCentral 8 = .ok (.aload_n 0, 1) := by decide +kernel
theorem dX8_isCentral_9 : decode cX8_isCentral 9 = .ok (.iload_n 2, 1) := by decide +kernel
theorem dX8_isCentral_10 : decode cX8_isCentral 10 = .ok (.iconst 1, 1) := by decide +kernel
theorem dX8_isCentral_11 : decode cX8_isCentral 11 = .ok (.iconst 2, 1) := by decide +kernel
theorem dX8_isCentral_12 : decode cX8_isCentral 12 = .ok (.invokevirtual 145, 3) := by decide +kernel
theorem dX8_isCentral_15 : decode cX8_isCentral 15 = .ok (.ifCond .eq 41, 3) := by decide +kernel
theorem dX8_isCentral_18 : decode cX8_isCentral 18 = .ok (.aload_n 0, 1) := by decide +kernel
theorem dX8_isCentral_19 : decode cX8_isCentral 19 = .ok (.iload_n 2, 1) := by decide +kernel
theorem dX8_isCentral_20 : decode cX8_isCentral 20 = .ok (.iconst 4, 1) := by decide +kernel
theorem dX8_isCentral_21 : decode cX8_isCentral 21 = .ok (.iadd, 1) := by decide +kernel
theorem dX8_isCentral_22 : decode cX8_isCentral 22 = .ok (.iconst 2, 1) := by decide +kernel
theorem dX8_isCentral_23 : decode cX8_isCentral 23 = .ok (.bipush 20, 2) := by decide +kernel
theorem dX8_isCentral_25 : decode cX8_isCentral 25 = .ok (.invokevirtual 141, 3) := by decide +kernel
theorem dX8_isCentral_28 : decode cX8_isCentral 28 = .ok (.ifCond .eq 28, 3) := by decide +kernel
theorem dX8_isCentral_31 : decode cX8_isCentral 31 = .ok (.aload_n 0, 1) := by decide +kernel
theorem dX8_isCentral_32 : decode cX8_isCentral 32 = .ok (.iload_n 2, 1) := by decide +kernel
theorem dX8_isCentral_33 : decode cX8_isCentral 33 = .ok (.bipush 6, 2) := by decide +kernel
theorem dX8_isCentral_35 : decode cX8_isCentral 35 = .ok (.iadd, 1) := by decide +kernel
theorem dX8_isCentral_36 : decode cX8_isCentral 36 = .ok (.iconst 2, 1) := by decide +kernel
theorem dX8_isCentral_37 : decode cX8_isCentral 37 = .ok (.bipush 20, 2) := by decide +kernel
theorem dX8_isCentral_39 : decode cX8_isCentral 39 = .ok (.invokevirtual 141, 3) := by decide +kernel
theorem dX8_isCentral_42 : decode cX8_isCentral 42 = .ok (.ifCond .eq 14, 3) := by decide +kernel
theorem dX8_isCentral_45 : decode cX8_isCentral 45 = .ok (.aload_n 0, 1) := by decide +kernel
theorem dX8_isCentral_46 : decode cX8_isCentral 46 = .ok (.iload_n 2, 1) := by decide +kernel
theorem dX8_isCentral_47 : decode cX8_isCentral 47 = .ok (.bipush 8, 2) := by decide +kernel
theorem dX8_isCentral_49 : decode cX8_isCentral 49 = .ok (.iadd, 1) := by decide +kernel
theorem dX8_isCentral_50 : decode cX8_isCentral 50 = .ok (.invokevirtual 148, 3) := by decide +kernel
theorem dX8_isCentral_53 : decode cX8_isCentral 53 = .ok (.ifCond .ne 5, 3) := by decide +kernel
theorem dX8_isCentral_56 : decode cX8_isCentral 56 = .ok (.iconst 0, 1) := by decide +kernel
theorem dX8_isCentral_57 : decode cX8_isCentral 57 = .ok (.ireturn, 1) := by decide +kernel
theorem dX8_isCentral_58 : decode cX8_isCentral 58 = .ok (.aload_n 0, 1) := by decide +kernel
theorem dX8_isCentral_59 : decode cX8_isCentral 59 = .ok (.iload_n 2, 1) := by decide +kernel
theorem dX8_isCentral_60 : decode cX8_isCentral 60 = .ok (.bipush 28, 2) := by decide +kernel
theorem dX8_isCentral_62 : decode cX8_isCentral 62 = .ok (.iadd, 1) := by decide +kernel
theorem dX8_isCentral_63 : decode cX8_isCentral 63 = .ok (.iconst 2, 1) := by decide +kernel
theorem dX8_isCentral_64 : decode cX8_isCentral 64 = .ok (.invokevirtual 135, 3) := by decide +kernel
theorem dX8_isCentral_67 : decode cX8_isCentral 67 = .ok (.istore 4, 2) := by decide +kernel
theorem dX8_isCentral_69 : decode cX8_isCentral 69 = .ok (.iload_n 2, 1) := by decide +kernel
theorem dX8_isCentral_70 : decode cX8_isCentral 70 = .ok (.bipush 46, 2) := by decide +kernel
theorem dX8_isCentral_72 : decode cX8_isCentral 72 = .ok (.iadd, 1) := by decide +kernel
theorem dX8_isCentral_73 : decode cX8_isCentral 73 = .ok (.iload 4, 2) := by decide +kernel
theorem dX8_isCentral_75 : decode cX8_isCentral 75 = .ok (.iadd, 1) := by decide +kernel
theorem dX8_isCentral_76 : decode cX8_isCentral 76 = .ok (.iload_n 3, 1) := by decide +kernel
theorem dX8_isCentral_77 : decode cX8_isCentral 77 = .ok (.if_icmp .gt 55, 3) := by decide +kernel
theorem dX8_isCentral_80 : decode cX8_isCentral 80 = .ok (.aload_n 0, 1) := by decide +kernel
theorem dX8_isCentral_81 : decode cX8_isCentral 81 = .ok (.iload_n 2, 1) := by decide +kernel
theorem dX8_isCentral_82 : decode cX8_isCentral 82 = .ok (.bipush 46, 2) := by decide +kernel
theorem dX8_isCentral_84 : decode cX8_isCentral 84 = .ok (.iadd, 1) := by decide +kernel
theorem dX8_isCentral_85 : decode cX8_isCentral 85 = .ok (.iload 4, 2) := by decide +kernel
theorem dX8_isCentral_87 : decode cX8_isCentral 87 = .ok (.invokevirtual 66, 3) := by decide +kernel
theorem dX8_isCentral_90 : decode cX8_isCentral 90 = .ok (.ifCond .eq 42, 3) := by decide +kernel
theorem dX8_isCentral_93 : decode cX8_isCentral 93 = .ok (.aload_n 0, 1) := by decide +kernel
theorem dX8_isCentral_94 : decode cX8_isCentral 94 = .ok (.iload_n 2, 1) := by decide +kernel
theorem dX8_isCentral_95 : decode cX8_isCentral 95 = .ok (.bipush 30, 2) := by decide +kernel
theorem dX8_isCentral_97 : decode cX8_isCentral 97 = .ok (.iadd, 1) := by decide +kernel
theorem dX8_isCentral_98 : decode cX8_isCentral 98 = .ok (.iconst 4, 1) := by decide +kernel
theorem dX8_isCentral_99 : decode cX8_isCentral 99 = .ok (.iconst 0, 1) := by decide +kernel
theorem dX8_isCentral_100 : decode cX8_isCentral 100 = .ok (.invokevirtual 141, 3) := by decide +kernel
theorem dX8_isCentral_103 : decode cX8_isCentral 103 = .ok (.ifCond .eq 29, 3) := by decide +kernel
theorem dX8_isCentral_106 : decode cX8_isCentral 106 = .ok (.aload_n 0, 1) := by decide +kernel
theorem dX8_isCentral_107 : decode cX8_isCentral 107 = .ok (.iload_n 2, 1) := by decide +kernel
theorem dX8_isCentral_108 : decode cX8_isCentral 108 = .ok (.bipush 34, 2) := by decide +kernel
theorem dX8_isCentral_110 : decode cX8_isCentral 110 = .ok (.iadd, 1) := by decide +kernel
theorem dX8_isCentral_111 : decode cX8_isCentral 111 = .ok (.iconst 4, 1) := by decide +kernel
theorem dX8_isCentral_112 : decode cX8_isCentral 112 = .ok (.iconst 0, 1) := by decide +kernel
theorem dX8_isCentral_113 : decode cX8_isCentral 113 = .ok (.invokevirtual 141, 3) := by decide +kernel
theorem dX8_isCentral_116 : decode cX8_isCentral 116 = .ok (.ifCond .eq 16, 3) := by decide +kernel
theorem dX8_isCentral_119 : decode cX8_isCentral 119 = .ok (.aload_n 0, 1) := by decide +kernel
theorem dX8_isCentral_120 : decode cX8_isCentral 120 = .ok (.iload_n 2, 1) := by decide +kernel
theorem dX8_isCentral_121 : decode cX8_isCentral 121 = .ok (.bipush 38, 2) := by decide +kernel
theorem dX8_isCentral_123 : decode cX8_isCentral 123 = .ok (.iadd, 1) := by decide +kernel
theorem dX8_isCentral_124 : decode cX8_isCentral 124 = .ok (.iconst 4, 1) := by decide +kernel
theorem dX8_isCentral_125 : decode cX8_isCentral 125 = .ok (.iconst 0, 1) := by decide +kernel
theorem dX8_isCentral_126 : decode cX8_isCentral 126 = .ok (.invokevirtual 141, 3) := by decide +kernel
theorem dX8_isCentral_129 : decode cX8_isCentral 129 = .ok (.ifCond .ne 5, 3) := by decide +kernel
theorem dX8_isCentral_132 : decode cX8_isCentral 132 = .ok (.iconst 0, 1) := by decide +kernel
theorem dX8_isCentral_133 : decode cX8_isCentral 133 = .ok (.ireturn, 1) := by decide +kernel
theorem dX8_isCentral_134 : decode cX8_isCentral 134 = .ok (.iconst 0, 1) := by decide +kernel
theorem dX8_isCentral_135 : decode cX8_isCentral 135 = .ok (.istore 5, 2) := by decide +kernel
theorem dX8_isCentral_137 : decode cX8_isCentral 137 = .ok (.iconst 0, 1) := by decide +kernel
theorem dX8_isCentral_138 : decode cX8_isCentral 138 = .ok (.istore 6, 2) := by decide +kernel
theorem dX8_isCentral_140 : decode cX8_isCentral 140 = .ok (.iload 6, 2) := by decide +kernel
theorem dX8_isCentral_142 : decode cX8_isCentral 142 = .ok (.iload_n 1, 1) := by decide +kernel
theorem dX8_isCentral_143 : decode cX8_isCentral 143 = .ok (.if_icmp .ge 64, 3) := by decide +kernel
theorem dX8_isCentral_146 : decode cX8_isCentral 146 = .ok (.iload 5, 2) := by decide +kernel
theorem dX8_isCentral_148 : decode cX8_isCentral 148 = .ok (.ifCond .ne 46, 3) := by decide +kernel
theorem dX8_isCentral_151 : decode cX8_isCentral 151 = .ok (.aload_n 0, 1) := by decide +kernel
theorem dX8_isCentral_152 : decode cX8_isCentral 152 = .ok (.aload_n 0, 1) := by decide +kernel
theorem dX8_isCentral_153 : decode cX8_isCentral 153 = .ok (.getfield 41, 3) := by decide +kernel
theorem dX8_isCentral_156 : decode cX8_isCentral 156 = .ok (.iload 6, 2) := by decide +kernel
theorem dX8_isCentral_158 : decode cX8_isCentral 158 = .ok (.iaload, 1) := by decide +kernel
theorem dX8_isCentral_159 : decode cX8_isCentral 159 = .ok (.bipush 46, 2) := by decide +kernel
theorem dX8_isCentral_161 : decode cX8_isCentral 161 = .ok (.iadd, 1) := by decide +kernel
theorem dX8_isCentral_162 : decode cX8_isCentral 162 = .ok (.iload_n 2, 1) := by decide +kernel
theorem dX8_isCentral_163 : decode cX8_isCentral 163 = .ok (.bipush 46, 2) := by decide +kernel
theorem dX8_isCentral_165 : decode cX8_isCentral 165 = .ok (.iadd, 1) := by decide +kernel
theorem dX8_isCentral_166 : decode cX8_isCentral 166 = .ok (.iload 4, 2) := by decide +kernel
theorem dX8_isCentral_168 : decode cX8_isCentral 168 = .ok (.invokevirtual 151, 3) := by decide +kernel
theorem dX8_isCentral_171 : decode cX8_isCentral 171 = .ok (.ifCond .eq 27, 3) := by decide +kernel
theorem dX8_isCentral_174 : decode cX8_isCentral 174 = .ok (.aload_n 0, 1) := by decide +kernel
theorem dX8_isCentral_175 : decode cX8_isCentral 175 = .ok (.aload_n 0, 1) := by decide +kernel
theorem dX8_isCentral_176 : decode cX8_isCentral 176 = .ok (.getfield 41, 3) := by decide +kernel
theorem dX8_isCentral_179 : decode cX8_isCentral 179 = .ok (.iload 6, 2) := by decide +kernel
theorem dX8_isCentral_181 : decode cX8_isCentral 181 = .ok (.iaload, 1) := by decide +kernel
theorem dX8_isCentral_182 : decode cX8_isCentral 182 = .ok (.bipush 28, 2) := by decide +kernel
theorem dX8_isCentral_184 : decode cX8_isCentral 184 = .ok (.iadd, 1) := by decide +kernel
theorem dX8_isCentral_185 : decode cX8_isCentral 185 = .ok (.iconst 2, 1) := by decide +kernel
theorem dX8_isCentral_186 : decode cX8_isCentral 186 = .ok (.iload 4, 2) := by decide +kernel
theorem dX8_isCentral_188 : decode cX8_isCentral 188 = .ok (.invokevirtual 141, 3) := by decide +kernel
theorem dX8_isCentral_191 : decode cX8_isCentral 191 = .ok (.ifCond .eq 7, 3) := by decide +kernel
theorem dX8_isCentral_194 : decode cX8_isCentral 194 = .ok (.iconst 1, 1) := by decide +kernel
theorem dX8_isCentral_195 : decode cX8_isCentral 195 = .ok (.goto 4, 3) := by decide +kernel
theorem dX8_isCentral_198 : decode cX8_isCentral 198 = .ok (.iconst 0, 1) := by decide +kernel
theorem dX8_isCentral_199 : decode cX8_isCentral 199 = .ok (.istore 5, 2) := by decide +kernel
theorem dX8_isCentral_201 : decode cX8_isCentral 201 = .ok (.iinc 6 1, 3) := by decide +kernel
theorem dX8_isCentral_204 : decode cX8_isCentral 204 = .ok (.goto (-64), 3) := by decide +kernel
theorem dX8_isCentral_207 : decode cX8_isCentral 207 = .ok (.iload 5, 2) := by decide +kernel
theorem dX8_isCentral_209 : decode cX8_isCentral 209 = .ok (.ifCond .ne 7, 3) := by decide +kernel
theorem dX8_isCentral_212 : decode cX8_isCentral 212 = .ok (.iconst 1, 1) := by decide +kernel
theorem dX8_isCentral_213 : decode cX8_isCentral 213 = .ok (.goto 4, 3) := by decide +kernel
theorem dX8_isCentral_216 : decode cX8_isCentral 216 = .ok (.iconst 0, 1) := by decide +kernel
theorem dX8_isCentral_217 : decode cX8_isCentral 217 = .ok (.ireturn, 1) := by decide +kernel
theorem dX8_isSame_0 : decode cX8_isSame 0 = .ok (.iconst 1, 1) := by decide +kernel
theorem dX8_isSame_1 : decode cX8_isSame 1 = .ok (.istore 4, 2) := by decide +kernel
theorem dX8_isSame_3 : decode cX8_isSame 3 = .ok (.iconst 0, 1) := by decide +kernel
theorem dX8_isSame_4 : decode cX8_isSame 4 = .ok (.istore 5, 2) := by decide +kernel
theorem dX8_isSame_6 : decode cX8_isSame 6 = .ok (.iload 5, 2) := by decide +kernel
theorem dX8_isSame_8 : decode cX8_isSame 8 = .ok (.iload_n 3, 1) := by decide +kernel
theorem dX8_isSame_9 : decode cX8_isSame 9 = .ok (.if_icmp .ge 42, 3) := by decide +kernel
theorem dX8_isSame_12 : decode cX8_isSame 12 = .ok (.iload 4, 2) := by decide +kernel
theorem dX8_isSame_14 : decode cX8_isSame 14 = .ok (.ifCond .eq 37, 3) := by decide +kernel
theorem dX8_isSame_17 : decode cX8_isSame 17 = .ok (.aload_n 0, 1) := by decide +kernel
theorem dX8_isSame_18 : decode cX8_isSame 18 = .ok (.getfield 13, 3) := by decide +kernel
theorem dX8_isSame_21 : decode cX8_isSame 21 = .ok (.iload_n 1, 1) := by decide +kernel
theorem dX8_isSame_22 : decode cX8_isSame 22 = .ok (.iload 5, 2) := by decide +kernel
theorem dX8_isSame_24 : decode cX8_isSame 24 = .ok (.iadd, 1) := by decide +kernel
theorem dX8_isSame_25 : decode cX8_isSame 25 = .ok (.iaload, 1) := by decide +kernel
theorem dX8_isSame_26 : decode cX8_isSame 26 = .ok (.aload_n 0, 1) := by decide +kernel
theorem dX8_isSame_27 : decode cX8_isSame 27 = .ok (.getfield 13, 3) := by decide +kernel
theorem dX8_isSame_30 : decode cX8_isSame 30 = .ok (.iload_n 2, 1) := by decide +kernel
theorem dX8_isSame_31 : decode cX8_isSame 31 = .ok (.iload 5, 2) := by decide +kernel
theorem dX8_isSame_33 : decode cX8_isSame 33 = .ok (.iadd, 1) := by decide +kernel
theorem dX8_isSame_34 : decode cX8_isSame 34 = .ok (.iaload, 1) := by decide +kernel
theorem dX8_isSame_35 : decode cX8_isSame 35 = .ok (.if_icmp .ne 7, 3) := by decide +kernel
theorem dX8_isSame_38 : decode cX8_isSame 38 = .ok (.iconst 1, 1) := by decide +kernel
theorem dX8_isSame_39 : decode cX8_isSame 39 = .ok (.goto 4, 3) := by decide +kernel
theorem dX8_isSame_42 : decode cX8_isSame 42 = .ok (.iconst 0, 1) := by decide +kernel
theorem dX8_isSame_43 : decode cX8_isSame 43 = .ok (.istore 4, 2) := by decide +kernel
theorem dX8_isSame_45 : decode cX8_isSame 45 = .ok (.iinc 5 1, 3) := by decide +kernel
theorem dX8_isSame_48 : decode cX8_isSame 48 = .ok (.goto (-42), 3) := by decide +kernel
theorem dX8_isSame_51 : decode cX8_isSame 51 = .ok (.iload 4, 2) := by decide +kernel
theorem dX8_isSame_53 : decode cX8_isSame 53 = .ok (.ireturn, 1) := by decide +kernel
theorem dX8_findCentrals_0 : decode cX8_findCentrals 0 = .ok (.iload_n 2, 1) := by decide +kernel
theorem dX8_findCentrals_1 : decode cX8_findCentrals 1 = .ok (.aload_n 0, 1) := by decide +kernel
theorem dX8_findCentrals_2 : decode cX8_findCentrals 2 = .ok (.iload_n 2, 1) := by decide +kernel
theorem dX8_findCentrals_3 : decode cX8_findCentrals 3 = .ok (.bipush 12, 2) := by decide +kernel
theorem dX8_findCentrals_5 : decode cX8_findCentrals 5 = .ok (.iadd, 1) := by decide +kernel
theorem dX8_findCentrals_6 : decode cX8_findCentrals 6 = .ok (.iconst 4, 1) := by decide +kernel
theorem dX8_findCentrals_7 : decode cX8_findCentrals 7 = .ok (.invokevirtual 135, 3) := by decide +kernel
theorem dX8_findCentrals_10 : decode cX8_findCentrals 10 = .ok (.isub, 1) := by decide +kernel
theorem dX8_findCentrals_11 : decode cX8_findCentrals 11 = .ok (.istore_n 3, 1) := by decide +kernel
theorem dX8_findCentrals_12 : decode cX8_findCentrals 12 = .ok (.iconst 0, 1) := by decide +kernel
theorem dX8_findCentrals_13 : decode cX8_findCentrals 13 = .ok (.istore 4, 2) := by decide +kernel
theorem dX8_findCentrals_15 : decode cX8_findCentrals 15 = .ok (.iload 4, 2) := by decide +kernel
theorem dX8_findCentrals_17 : decode cX8_findCentrals 17 = .ok (.iload_n 1, 1) := by decide +kernel
theorem dX8_findCentrals_18 : decode cX8_findCentrals 18 = .ok (.if_icmp .ge 81, 3) := by decide +kernel
theorem dX8_findCentrals_21 : decode cX8_findCentrals 21 = .ok (.aload_n 0, 1) := by decide +kernel
theorem dX8_findCentrals_22 : decode cX8_findCentrals 22 = .ok (.iload 4, 2) := by decide +kernel
theorem dX8_findCentrals_24 : decode cX8_findCentrals 24 = .ok (.iload_n 3, 1) := by decide +kernel
theorem dX8_findCentrals_25 : decode cX8_findCentrals 25 = .ok (.iload_n 2, 1) := by decide +kernel
theorem dX8_findCentrals_26 : decode cX8_findCentrals 26 = .ok (.invokevirtual 154, 3) := by decide +kernel
theorem dX8_findCentrals_29 : decode cX8_findCentrals 29 = .ok (.ifCond .eq 18, 3) := by decide +kernel
theorem dX8_findCentrals_32 : decode cX8_findCentrals 32 = .ok (.bipush 46, 2) := by decide +kernel
theorem dX8_findCentrals_34 : decode cX8_findCentrals 34 = .ok (.aload_n 0, 1) := by decide +kernel
theorem dX8_findCentrals_35 : decode cX8_findCentrals 35 = .ok (.iload_n 3, 1) := by decide +kernel
theorem dX8_findCentrals_36 : decode cX8_findCentrals 36 = .ok (.bipush 28, 2) := by decide +kernel
theorem dX8_findCentrals_38 : decode cX8_findCentrals 38 = .ok (.iadd, 1) := by decide +kernel
theorem dX8_findCentrals_39 : decode cX8_findCentrals 39 = .ok (.iconst 2, 1) := by decide +kernel
theorem dX8_findCentrals_40 : decode cX8_findCentrals 40 = .ok (.invokevirtual 135, 3) := by decide +kernel
theorem dX8_findCentrals_43 : decode cX8_findCentrals 43 = .ok (.iadd, 1) := by decide +kernel
theorem dX8_findCentrals_44 : decode cX8_findCentrals 44 = .ok (.goto 4, 3) := by decide +kernel
theorem dX8_findCentrals_47 : decode cX8_findCentrals 47 = .ok (.iconst 0, 1) := by decide +kernel
theorem dX8_findCentrals_48 : decode cX8_findCentrals 48 = .ok (.istore 5, 2) := by decide +kernel
theorem dX8_findCentrals_50 : decode cX8_findCentrals 50 = .ok (.iload 5, 2) := by decide +kernel
theorem dX8_findCentrals_52 : decode cX8_findCentrals 52 = .ok (.ifCond .eq 19, 3) := by decide +kernel
theorem dX8_findCentrals_55 : decode cX8_findCentrals 55 = .ok (.iload 4, 2) := by decide +kernel
theorem dX8_findCentrals_57 : decode cX8_findCentrals 57 = .ok (.iload_n 1, 1) := by decide +kernel
theorem dX8_findCentrals_58 : decode cX8_findCentrals 58 = .ok (.iconst 1, 1) := by decide +kernel
theorem dX8_findCentrals_59 : decode cX8_findCentrals 59 = .ok (.isub, 1) := by decide +kernel
theorem dX8_findCentrals_60 : decode cX8_findCentrals 60 = .ok (.if_icmp .ne 20, 3) := by decide +kernel
theorem dX8_findCentrals_63 : decode cX8_findCentrals 63 = .ok (.iload_n 3, 1) := by decide +kernel
theorem dX8_findCentrals_64 : decode cX8_findCentrals 64 = .ok (.iload 5, 2) := by decide +kernel
theorem dX8_findCentrals_66 : decode cX8_findCentrals 66 = .ok (.iadd, 1) := by decide +kernel
theorem dX8_findCentrals_67 : decode cX8_findCentrals 67 = .ok (.iload_n 2, 1) := by decide +kernel
theorem dX8_findCentrals_68 : decode cX8_findCentrals 68 = .ok (.if_icmp .eq 12, 3) := by decide +kernel
theorem dX8_findCentrals_71 : decode cX8_findCentrals 71 = .ok (.aload_n 0, 1) := by decide +kernel
theorem dX8_findCentrals_72 : decode cX8_findCentrals 72 = .ok (.iconst 2, 1) := by decide +kernel
theorem dX8_findCentrals_73 : decode cX8_findCentrals 73 = .ok (.iload 4, 2) := by decide +kernel
theorem dX8_findCentrals_75 : decode cX8_findCentrals 75 = .ok (.iload_n 3, 1) := by decide +kernel
theorem dX8_findCentrals_76 : decode cX8_findCentrals 76 = .ok (.invokevirtual 157, 3) := by decide +kernel
theorem dX8_findCentrals_79 : decode cX8_findCentrals 79 = .ok (.ireturn, 1) := by decide +kernel
theorem dX8_findCentrals_80 : decode cX8_findCentrals 80 = .ok (.aload_n 0, 1) := by decide +kernel
theorem dX8_findCentrals_81 : decode cX8_findCentrals 81 = .ok (.getfield 41, 3) := by decide +kernel
theorem dX8_findCentrals_84 : decode cX8_findCentrals 84 = .ok (.iload 4, 2) := by decide +kernel
theorem dX8_findCentrals_86 : decode cX8_findCentrals 86 = .ok (.iload_n 3, 1) := by decide +kernel
theorem dX8_findCentrals_87 : decode cX8_findCentrals 87 = .ok (.iastore, 1) := by decide +kernel
theorem dX8_findCentrals_88 : decode cX8_findCentrals 88 = .ok (.iload_n 3, 1) := by decide +kernel
theorem dX8_findCentrals_89 : decode cX8_findCentrals 89 = .ok (.iload 5, 2) := by decide +kernel
theorem dX8_findCentrals_91 : decode cX8_findCentrals 91 = .ok (.iadd, 1) := by decide +kernel
theorem dX8_findCentrals_92 : decode cX8_findCentrals 92 = .ok (.istore_n 3, 1) := by decide +kernel
theorem dX8_findCentrals_93 : decode cX8_findCentrals 93 = .ok (.iinc 4 1, 3) := by decide +kernel
theorem dX8_findCentrals_96 : decode cX8_findCentrals 96 = .ok (.goto (-81), 3) := by decide +kernel
theorem dX8_findCentrals_99 : decode cX8_findCentrals 99 = .ok (.iconst 1, 1) := by decide +kernel
theorem dX8_findCentrals_100 : decode cX8_findCentrals 100 = .ok (.ireturn, 1) := by decide +kernel
theorem dX8_isLocal_0 : decode cX8_isLocal 0 = .ok (.aload_n 0, 1) := by decide +kernel
theorem dX8_isLocal_1 : decode cX8_isLocal 1 = .ok (.getfield 41, 3) := by decide +kernel
theorem dX8_isLocal_4 : decode cX8_isLocal 4 = .ok (.iload_n 1, 1) := by decide +kernel
theorem dX8_isLocal_5 : decode cX8_isLocal 5 = .ok (.iaload, 1) := by decide +kernel
theorem dX8_isLocal_6 : decode cX8_isLocal 6 = .ok (.istore 5, 2) := by decide +kernel
theorem dX8_isLocal_8 : decode cX8_isLocal 8 = .ok (.aload_n 0, 1) := by decide +kernel
theorem dX8_isLocal_9 : decode cX8_isLocal 9 = .ok (.iload 5, 2) := by decide +kernel
theorem dX8_isLocal_11 : decode cX8_isLocal 11 = .ok (.bipush 28, 2) := by decide +kernel
theorem dX8_isLocal_13 : decode cX8_isLocal 13 = .ok (.iadd, 1) := by decide +kernel
theorem dX8_isLocal_14 : decode cX8_isLocal 14 = .ok (.iconst 2, 1) := by decide +kernel
theorem dX8_isLocal_15 : decode cX8_isLocal 15 = .ok (.invokevirtual 135, 3) := by decide +kernel
theorem dX8_isLocal_18 : decode cX8_isLocal 18 = .ok (.istore 6, 2) := by decide +kernel
theorem dX8_isLocal_20 : decode cX8_isLocal 20 = .ok (.aload_n 0, 1) := by decide +kernel
theorem dX8_isLocal_21 : decode cX8_isLocal 21 = .ok (.iload 5, 2) := by decide +kernel
theorem dX8_isLocal_23 : decode cX8_isLocal 23 = .ok (.bipush 42, 2) := by decide +kernel
theorem dX8_isLocal_25 : decode cX8_isLocal 25 = .ok (.iadd, 1) := by decide +kernel
theorem dX8_isLocal_26 : decode cX8_isLocal 26 = .ok (.iconst 4, 1) := by decide +kernel
theorem dX8_isLocal_27 : decode cX8_isLocal 27 = .ok (.iload_n 2, 1) := by decide +kernel
theorem dX8_isLocal_28 : decode cX8_isLocal 28 = .ok (.invokevirtual 141, 3) := by decide +kernel
theorem dX8_isLocal_31 : decode cX8_isLocal 31 = .ok (.ifCond .eq 14, 3) := by decide +kernel
theorem dX8_isLocal_34 : decode cX8_isLocal 34 = .ok (.iload_n 2, 1) := by decide +kernel
theorem dX8_isLocal_35 : decode cX8_isLocal 35 = .ok (.bipush 30, 2) := by decide +kernel
theorem dX8_isLocal_37 : decode cX8_isLocal 37 = .ok (.iadd, 1) := by decide +kernel
theorem dX8_isLocal_38 : decode cX8_isLocal 38 = .ok (.iload 6, 2) := by decide +kernel
theorem dX8_isLocal_40 : decode cX8_isLocal 40 = .ok (.iadd, 1) := by decide +kernel
theorem dX8_isLocal_41 : decode cX8_isLocal 41 = .ok (.iload_n 3, 1) := by decide +kernel
theorem dX8_isLocal_42 : decode cX8_isLocal 42 = .ok (.if_icmp .le 5, 3) := by decide +kernel
theorem dX8_isLocal_45 : decode cX8_isLocal 45 = .ok (.iconst 0, 1) := by decide +kernel
theorem dX8_isLocal_46 : decode cX8_isLocal 46 = .ok (.ireturn, 1) := by decide +kernel
theorem dX8_isLocal_47 : decode cX8_isLocal 47 = .ok (.aload_n 0, 1) := by decide +kernel
theorem dX8_isLocal_48 : decode cX8_isLocal 48 = .ok (.iload_n 2, 1) := by decide +kernel
theorem dX8_isLocal_49 : decode cX8_isLocal 49 = .ok (.iconst 3, 1) := by decide +kernel
theorem dX8_isLocal_50 : decode cX8_isLocal 50 = .ok (.iconst 4, 1) := by decide +kernel
theorem dX8_isLocal_51 : decode cX8_isLocal 51 = .ok (.invokevirtual 145, 3) := by decide +kernel
theorem dX8_isLocal_54 : decode cX8_isLocal 54 = .ok (.ifCond .eq 65, 3) := by decide +kernel
theorem dX8_isLocal_57 : decode cX8_isLocal 57 = .ok (.aload_n 0, 1) := by decide +kernel
theorem dX8_isLocal_58 : decode cX8_isLocal 58 = .ok (.iload_n 2, 1) := by decide +kernel
theorem dX8_isLocal_59 : decode cX8_isLocal 59 = .ok (.iconst 4, 1) := by decide +kernel
theorem dX8_isLocal_60 : decode cX8_isLocal 60 = .ok (.iadd, 1) := by decide +kernel
theorem dX8_isLocal_61 : decode cX8_isLocal 61 = .ok (.iconst 2, 1) := by decide +kernel
theorem dX8_isLocal_62 : decode cX8_isLocal 62 = .ok (.bipush 20, 2) := by decide +kernel
theorem dX8_isLocal_64 : decode cX8_isLocal 64 = .ok (.invokevirtual 141, 3) := by decide +kernel
theorem dX8_isLocal_67 : decode cX8_isLocal 67 = .ok (.ifCond .eq 52, 3) := by decide +kernel
theorem dX8_isLocal_70 : decode cX8_isLocal 70 = .ok (.aload_n 0, 1) := by decide +kernel
theorem dX8_isLocal_71 : decode cX8_isLocal 71 = .ok (.iload_n 2, 1) := by decide +kernel
theorem dX8_isLocal_72 : decode cX8_isLocal 72 = .ok (.bipush 6, 2) := by decide +kernel
theorem dX8_isLocal_74 : decode cX8_isLocal 74 = .ok (.iadd, 1) := by decide +kernel
theorem dX8_isLocal_75 : decode cX8_isLocal 75 = .ok (.iload 5, 2) := by decide +kernel
theorem dX8_isLocal_77 : decode cX8_isLocal 77 = .ok (.bipush 8, 2) := by decide +kernel
theorem dX8_isLocal_79 : decode cX8_isLocal 79 = .ok (.iadd, 1) := by decide +kernel
theorem dX8_isLocal_80 : decode cX8_isLocal 80 = .ok (.bipush 22, 2) := by decide +kernel
theorem dX8_isLocal_82 : decode cX8_isLocal 82 = .ok (.invokevirtual 151, 3) := by decide +kernel
theorem dX8_isLocal_85 : decode cX8_isLocal 85 = .ok (.ifCond .eq 34, 3) := by decide +kernel
theorem dX8_isLocal_88 : decode cX8_isLocal 88 = .ok (.aload_n 0, 1) := by decide +kernel
theorem dX8_isLocal_89 : decode cX8_isLocal 89 = .ok (.iload_n 2, 1) := by decide +kernel
theorem dX8_isLocal_90 : decode cX8_isLocal 90 = .ok (.bipush 28, 2) := by decide +kernel
theorem dX8_isLocal_92 : decode cX8_isLocal 92 = .ok (.iadd, 1) := by decide +kernel
theorem dX8_isLocal_93 : decode cX8_isLocal 93 = .ok (.iconst 2, 1) := by decide +kernel
theorem dX8_isLocal_94 : decode cX8_isLocal 94 = .ok (.iconst 0, 1) := by decide +kernel
theorem dX8_isLocal_95 : decode cX8_isLocal 95 = .ok (.invokevirtual 141, 3) := by decide +kernel
theorem dX8_isLocal_98 : decode cX8_isLocal 98 = .ok (.ifCond .eq 21, 3) := by decide +kernel
theorem dX8_isLocal_101 : decode cX8_isLocal 101 = .ok (.aload_n 0, 1) := by decide +kernel
theorem dX8_isLocal_102 : decode cX8_isLocal 102 = .ok (.iload_n 2, 1) := by decide +kernel
theorem dX8_isLocal_103 : decode cX8_isLocal 103 = .ok (.bipush 30, 2) := by decide +kernel
theorem dX8_isLocal_105 : decode cX8_isLocal 105 = .ok (.iadd, 1) := by decide +kernel
theorem dX8_isLocal_106 : decode cX8_isLocal 106 = .ok (.iload 5, 2) := by decide +kernel
theorem dX8_isLocal_108 : decode cX8_isLocal 108 = .ok (.bipush 46, 2) := by decide +kernel
theorem dX8_isLocal_110 : decode cX8_isLocal 110 = .ok (.iadd, 1) := by decide +kernel
theorem dX8_isLocal_111 : decode cX8_isLocal 111 = .ok (.iload 6, 2) := by decide +kernel
theorem dX8_isLocal_113 : decode cX8_isLocal 113 = .ok (.invokevirtual 151, 3) := by decide +kernel
theorem dX8_isLocal_116 : decode cX8_isLocal 116 = .ok (.ifCond .ne 5, 3) := by decide +kernel
theorem dX8_isLocal_119 : decode cX8_isLocal 119 = .ok (.iconst 0, 1) := by decide +kernel
theorem dX8_isLocal_120 : decode cX8_isLocal 120 = .ok (.ireturn, 1) := by decide +kernel
theorem dX8_isLocal_121 : decode cX8_isLocal 121 = .ok (.iload_n 2, 1) := by decide +kernel
theorem dX8_isLocal_122 : decode cX8_isLocal 122 = .ok (.i2l, 1) := by decide +kernel
theorem dX8_isLocal_123 : decode cX8_isLocal 123 = .ok (.ldc2_w 160, 3) := by decide +kernel
theorem dX8_isLocal_126 : decode cX8_isLocal 126 = .ok (.ladd, 1) := by decide +kernel
theorem dX8_isLocal_127 : decode cX8_isLocal 127 = .ok (.iload 6, 2) := by decide +kernel
theorem dX8_isLocal_129 : decode cX8_isLocal 129 = .ok (.i2l, 1) := by decide +kernel
theorem dX8_isLocal_130 : decode cX8_isLocal 130 = .ok (.ladd, 1) := by decide +kernel
theorem dX8_isLocal_131 : decode cX8_isLocal 131 = .ok (.aload_n 0, 1) := by decide +kernel
theorem dX8_isLocal_132 : decode cX8_isLocal 132 = .ok (.iload 5, 2) := by decide +kernel
theorem dX8_isLocal_134 : decode cX8_isLocal 134 = .ok (.bipush 20, 2) := by decide +kernel
theorem dX8_isLocal_136 : decode cX8_isLocal 136 = .ok (.iadd, 1) := by decide +kernel
theorem dX8_isLocal_137 : decode cX8_isLocal 137 = .ok (.iconst 4, 1) := by decide +kernel
theorem dX8_isLocal_138 : decode cX8_isLocal 138 = .ok (.invokevirtual 135, 3) := by decide +kernel
theorem dX8_isLocal_141 : decode cX8_isLocal 141 = .ok (.i2l, 1) := by decide +kernel
theorem dX8_isLocal_142 : decode cX8_isLocal 142 = .ok (.ladd, 1) := by decide +kernel
theorem dX8_isLocal_143 : decode cX8_isLocal 143 = .ok (.lstore 7, 2) := by decide +kernel
theorem dX8_isLocal_145 : decode cX8_isLocal 145 = .ok (.iload 4, 2) := by decide +kernel
theorem dX8_isLocal_147 : decode cX8_isLocal 147 = .ok (.ifCond .eq 19, 3) := by decide +kernel
theorem dX8_isLocal_150 : decode cX8_isLocal 150 = .ok (.lload 7, 2) := by decide +kernel
theorem dX8_isLocal_152 : decode cX8_isLocal 152 = .ok (.iload_n 3, 1) := by decide +kernel
theorem dX8_isLocal_153 : decode cX8_isLocal 153 = .ok (.i2l, 1) := by decide +kernel
theorem dX8_isLocal_154 : decode cX8_isLocal 154 = .ok (.lcmp, 1) := by decide +kernel
theorem dX8_isLocal_155 : decode cX8_isLocal 155 = .ok (.ifCond .ne 7, 3) := by decide +kernel
theorem dX8_isLocal_158 : decode cX8_isLocal 158 = .ok (.iconst 1, 1) := by decide +kernel
theorem dX8_isLocal_159 : decode cX8_isLocal 159 = .ok (.goto 20, 3) := by decide +kernel
theorem dX8_isLocal_162 : decode cX8_isLocal 162 = .ok (.iconst 0, 1) := by decide +kernel
theorem dX8_isLocal_163 : decode cX8_isLocal 163 = .ok (.goto 16, 3) := by decide +kernel
theorem dX8_isLocal_166 : decode cX8_isLocal 166 = .ok (.lload 7, 2) := by decide +kernel
theorem dX8_isLocal_168 : decode cX8_isLocal 168 = .ok (.iload_n 3, 1) := by decide +kernel
theorem dX8_isLocal_169 : decode cX8_isLocal 169 = .ok (.i2l, 1) := by decide +kernel
theorem dX8_isLocal_170 : decode cX8_isLocal 170 = .ok (.lcmp, 1) := by decide +kernel
theorem dX8_isLocal_171 : decode cX8_isLocal 171 = .ok (.ifCond .gt 7, 3) := by decide +kernel
theorem dX8_isLocal_174 : decode cX8_isLocal 174 = .ok (.iconst 1, 1) := by decide +kernel
theorem dX8_isLocal_175 : decode cX8_isLocal 175 = .ok (.goto 4, 3) := by decide +kernel
theorem dX8_isLocal_178 : decode cX8_isLocal 178 = .ok (.iconst 0, 1) := by decide +kernel
theorem dX8_isLocal_179 : decode cX8_isLocal 179 = .ok (.ireturn, 1) := by decide +kernel
theorem dX8_findLocals_0 : decode cX8_findLocals 0 = .ok (.iconst 0, 1) := by decide +kernel
theorem dX8_findLocals_1 : decode cX8_findLocals 1 = .ok (.istore_n 3, 1) := by decide +kernel
theorem dX8_findLocals_2 : decode cX8_findLocals 2 = .ok (.iload_n 1, 1) := by decide +kernel
theorem dX8_findLocals_3 : decode cX8_findLocals 3 = .ok (.ifCond .le 12, 3) := by decide +kernel
theorem dX8_findLocals_6 : decode cX8_findLocals 6 = .ok (.aload_n 0, 1) := by decide +kernel
theorem dX8_findLocals_7 : decode cX8_findLocals 7 = .ok (.getfield 41, 3) := by decide +kernel
theorem dX8_findLocals_10 : decode cX8_findLocals 10 = .ok (.iconst 0, 1) := by decide +kernel
theorem dX8_findLocals_11 : decode cX8_findLocals 11 = .ok (.iaload, 1) := by decide +kernel
theorem dX8_findLocals_12 : decode cX8_findLocals 12 = .ok (.goto 4, 3) := by decide +kernel
theorem dX8_findLocals_15 : decode cX8_findLocals 15 = .ok (.iload_n 2, 1) := by decide +kernel
theorem dX8_findLocals_16 : decode cX8_findLocals 16 = .ok (.istore 4, 2) := by decide +kernel
theorem dX8_findLocals_18 : decode cX8_findLocals 18 = .ok (.iconst 0, 1) := by decide +kernel
theorem dX8_findLocals_19 : decode cX8_findLocals 19 = .ok (.istore 5, 2) := by decide +kernel
theorem dX8_findLocals_21 : decode cX8_findLocals 21 = .ok (.iload 5, 2) := by decide +kernel
theorem dX8_findLocals_23 : decode cX8_findLocals 23 = .ok (.iload_n 1, 1) := by decide +kernel
theorem dX8_findLocals_24 : decode cX8_findLocals 24 = .ok (.if_icmp .ge 82, 3) := by decide +kernel
theorem dX8_findLocals_27 : decode cX8_findLocals 27 = .ok (.aload_n 0, 1) := by decide +kernel
theorem dX8_findLocals_28 : decode cX8_findLocals 28 = .ok (.iload 5, 2) := by decide +kernel
theorem dX8_findLocals_30 : decode cX8_findLocals 30 = .ok (.iload_n 3, 1) := by decide +kernel
theorem dX8_findLocals_31 : decode cX8_findLocals 31 = .ok (.iload 4, 2) := by decide +kernel
theorem dX8_findLocals_33 : decode cX8_findLocals 33 = .ok (.iload 5, 2) := by decide +kernel
theorem dX8_findLocals_35 : decode cX8_findLocals 35 = .ok (.iload_n 1, 1) := by decide +kernel
theorem dX8_findLocals_36 : decode cX8_findLocals 36 = .ok (.iconst 1, 1) := by decide +kernel
theorem dX8_findLocals_37 : decode cX8_findLocals 37 = .ok (.isub, 1) := by decide +kernel
theorem dX8_findLocals_38 : decode cX8_findLocals 38 = .ok (.if_icmp .ne 7, 3) := by decide +kernel
theorem dX8_findLocals_41 : decode cX8_findLocals 41 = .ok (.iconst 1, 1) := by decide +kernel
theorem dX8_findLocals_42 : decode cX8_findLocals 42 = .ok (.goto 4, 3) := by decide +kernel
theorem dX8_findLocals_45 : decode cX8_findLocals 45 = .ok (.iconst 0, 1) := by decide +kernel
theorem dX8_findLocals_46 : decode cX8_findLocals 46 = .ok (.invokevirtual 162, 3) := by decide +kernel
theorem dX8_findLocals_49 : decode cX8_findLocals 49 = .ok (.ifCond .ne 12, 3) := by decide +kernel
theorem dX8_findLocals_52 : decode cX8_findLocals 52 = .ok (.aload_n 0, 1) := by decide +kernel
theorem dX8_findLocals_53 : decode cX8_findLocals 53 = .ok (.iconst 3, 1) := by decide +kernel
theorem dX8_findLocals_54 : decode cX8_findLocals 54 = .ok (.iload 5, 2) := by decide +kernel
theorem dX8_findLocals_56 : decode cX8_findLocals 56 = .ok (.iload_n 3, 1) := by decide +kernel
theorem dX8_findLocals_57 : decode cX8_findLocals 57 = .ok (.invokevirtual 157, 3) := by decide +kernel
theorem dX8_findLocals_60 : decode cX8_findLocals 60 = .ok (.ireturn, 1) := by decide +kernel
theorem dX8_findLocals_61 : decode cX8_findLocals 61 = .ok (.aload_n 0, 1) := by decide +kernel
theorem dX8_findLocals_62 : decode cX8_findLocals 62 = .ok (.getfield 44, 3) := by decide +kernel
theorem dX8_findLocals_65 : decode cX8_findLocals 65 = .ok (.iload 5, 2) := by decide +kernel
theorem dX8_findLocals_67 : decode cX8_findLocals 67 = .ok (.iload_n 3, 1) := by decide +kernel
theorem dX8_findLocals_68 : decode cX8_findLocals 68 = .ok (.bipush 30, 2) := by decide +kernel
theorem dX8_findLocals_70 : decode cX8_findLocals 70 = .ok (.iadd, 1) := by decide +kernel
theorem dX8_findLocals_71 : decode cX8_findLocals 71 = .ok (.aload_n 0, 1) := by decide +kernel
theorem dX8_findLocals_72 : decode cX8_findLocals 72 = .ok (.iload_n 3, 1) := by decide +kernel
theorem dX8_findLocals_73 : decode cX8_findLocals 73 = .ok (.bipush 26, 2) := by decide +kernel
theorem dX8_findLocals_75 : decode cX8_findLocals 75 = .ok (.iadd, 1) := by decide +kernel
theorem dX8_findLocals_76 : decode cX8_findLocals 76 = .ok (.iconst 2, 1) := by decide +kernel
theorem dX8_findLocals_77 : decode cX8_findLocals 77 = .ok (.invokevirtual 135, 3) := by decide +kernel
theorem dX8_findLocals_80 : decode cX8_findLocals 80 = .ok (.iadd, 1) := by decide +kernel
theorem dX8_findLocals_81 : decode cX8_findLocals 81 = .ok (.iastore, 1) := by decide +kernel
theorem dX8_findLocals_82 : decode cX8_findLocals 82 = .ok (.aload_n 0, 1) := by decide +kernel
theorem dX8_findLocals_83 : decode cX8_findLocals 83 = .ok (.getfield 44, 3) := by decide +kernel
theorem dX8_findLocals_86 : decode cX8_findLocals 86 = .ok (.iload 5, 2) := by decide +kernel
theorem dX8_findLocals_88 : decode cX8_findLocals 88 = .ok (.iaload, 1) := by decide +kernel
theorem dX8_findLocals_89 : decode cX8_findLocals 89 = .ok (.aload_n 0, 1) := by decide +kernel
theorem dX8_findLocals_90 : decode cX8_findLocals 90 = .ok (.iload_n 3, 1) := by decide +kernel
theorem dX8_findLocals_91 : decode cX8_findLocals 91 = .ok (.bipush 18, 2) := by decide +kernel
theorem dX8_findLocals_93 : decode cX8_findLocals 93 = .ok (.iadd, 1) := by decide +kernel
theorem dX8_findLocals_94 : decode cX8_findLocals 94 = .ok (.iconst 4, 1) := by decide +kernel
theorem dX8_findLocals_95 : decode cX8_findLocals 95 = .ok (.invokevirtual 135, 3) := by decide +kernel
theorem dX8_findLocals_98 : decode cX8_findLocals 98 = .ok (.iadd, 1) := by decide +kernel
theorem dX8_findLocals_99 : decode cX8_findLocals 99 = .ok (.istore_n 3, 1) := by decide +kernel
theorem dX8_findLocals_100 : decode cX8_findLocals 100 = .ok (.iinc 5 1, 3) := by decide +kernel
theorem dX8_findLocals_103 : decode cX8_findLocals 103 = .ok (.goto (-82), 3) := by decide +kernel
theorem dX8_findLocals_106 : decode cX8_findLocals 106 = .ok (.iconst 1, 1) := by decide +kernel
theorem dX8_findLocals_107 : decode cX8_findLocals 107 = .ok (.ireturn, 1) := by decide +kernel
theorem dX8_areSizes_0 : decode cX8_areSizes 0 = .ok (.aload_n 0, 1) := by decide +kernel
theorem dX8_areSizes_1 : decode cX8_areSizes 1 = .ok (.iload_n 1, 1) := by decide +kernel
theorem dX8_areSizes_2 : decode cX8_areSizes 2 = .ok (.bipush 10, 2) := by decide +kernel
theorem dX8_areSizes_4 : decode cX8_areSizes 4 = .ok (.iadd, 1) := by decide +kernel
theorem dX8_areSizes_5 : decode cX8_areSizes 5 = .ok (.iconst 4, 1) := by decide +kernel
theorem dX8_areSizes_6 : decode cX8_areSizes 6 = .ok (.invokevirtual 135, 3) := by decide +kernel
theorem dX8_areSizes_9 : decode cX8_areSizes 9 = .ok (.istore_n 2, 1) := by decide +kernel
theorem dX8_areSizes_10 : decode cX8_areSizes 10 = .ok (.aload_n 0, 1) := by decide +kernel
theorem dX8_areSizes_11 : decode cX8_areSizes 11 = .ok (.iload_n 1, 1) := by decide +kernel
theorem dX8_areSizes_12 : decode cX8_areSizes 12 = .ok (.bipush 14, 2) := by decide +kernel
theorem dX8_areSizes_14 : decode cX8_areSizes 14 = .ok (.iadd, 1) := by decide +kernel
theorem dX8_areSizes_15 : decode cX8_areSizes 15 = .ok (.iconst 4, 1) := by decide +kernel
theorem dX8_areSizes_16 : decode cX8_areSizes 16 = .ok (.invokevirtual 135, 3) := by decide +kernel
theorem dX8_areSizes_19 : decode cX8_areSizes 19 = .ok (.istore_n 3, 1) := by decide +kernel
theorem dX8_areSizes_20 : decode cX8_areSizes 20 = .ok (.iload_n 3, 1) := by decide +kernel
theorem dX8_areSizes_21 : decode cX8_areSizes 21 = .ok (.sipush 1500, 3) := by decide +kernel
theorem dX8_areSizes_24 : decode cX8_areSizes 24 = .ok (.if_icmp .gt 39, 3) := by decide +kernel
theorem dX8_areSizes_27 : decode cX8_areSizes 27 = .ok (.aload_n 0, 1) := by decide +kernel
theorem dX8_areSizes_28 : decode cX8_areSizes 28 = .ok (.iload_n 1, 1) := by decide +kernel
theorem dX8_areSizes_29 : decode cX8_areSizes 29 = .ok (.iconst 2, 1) := by decide +kernel
theorem dX8_areSizes_30 : decode cX8_areSizes 30 = .ok (.bipush 99, 2) := by decide +kernel
theorem dX8_areSizes_32 : decode cX8_areSizes 32 = .ok (.invokevirtual 141, 3) := by decide +kernel
theorem dX8_areSizes_35 : decode cX8_areSizes 35 = .ok (.ifCond .ne 24, 3) := by decide +kernel
theorem dX8_areSizes_38 : decode cX8_areSizes 38 = .ok (.iload_n 2, 1) := by decide +kernel
theorem dX8_areSizes_39 : decode cX8_areSizes 39 = .ok (.iload_n 3, 1) := by decide +kernel
theorem dX8_areSizes_40 : decode cX8_areSizes 40 = .ok (.if_icmp .ne 23, 3) := by decide +kernel
theorem dX8_areSizes_43 : decode cX8_areSizes 43 = .ok (.aload_n 0, 1) := by decide +kernel
theorem dX8_areSizes_44 : decode cX8_areSizes 44 = .ok (.iload_n 1, 1) := by decide +kernel
theorem dX8_areSizes_45 : decode cX8_areSizes 45 = .ok (.bipush 10, 2) := by decide +kernel
theorem dX8_areSizes_47 : decode cX8_areSizes 47 = .ok (.iadd, 1) := by decide +kernel
theorem dX8_areSizes_48 : decode cX8_areSizes 48 = .ok (.iload_n 1, 1) := by decide +kernel
theorem dX8_areSizes_49 : decode cX8_areSizes 49 = .ok (.bipush 14, 2) := by decide +kernel
theorem dX8_areSizes_51 : decode cX8_areSizes 51 = .ok (.iadd, 1) := by decide +kernel
theorem dX8_areSizes_52 : decode cX8_areSizes 52 = .ok (.iconst 4, 1) := by decide +kernel
theorem dX8_areSizes_53 : decode cX8_areSizes 53 = .ok (.invokevirtual 151, 3) := by decide +kernel
theorem dX8_areSizes_56 : decode cX8_areSizes 56 = .ok (.ifCond .eq 7, 3) := by decide +kernel
theorem dX8_areSizes_59 : decode cX8_areSizes 59 = .ok (.iconst 1, 1) := by decide +kernel
theorem dX8_areSizes_60 : decode cX8_areSizes 60 = .ok (.goto 4, 3) := by decide +kernel
theorem dX8_areSizes_63 : decode cX8_areSizes 63 = .ok (.iconst 0, 1) := by decide +kernel
theorem dX8_areSizes_64 : decode cX8_areSizes 64 = .ok (.ireturn, 1) := by decide +kernel
theorem dX8_unfold_0 : decode cX8_unfold 0 = .ok (.aload_n 0, 1) := by decide +kernel
theorem dX8_unfold_1 : decode cX8_unfold 1 = .ok (.iload_n 2, 1) := by decide +kernel
theorem dX8_unfold_2 : decode cX8_unfold 2 = .ok (.bipush 14, 2) := by decide +kernel
theorem dX8_unfold_4 : decode cX8_unfold 4 = .ok (.iadd, 1) := by decide +kernel
theorem dX8_unfold_5 : decode cX8_unfold 5 = .ok (.iconst 4, 1) := by decide +kernel
theorem dX8_unfold_6 : decode cX8_unfold 6 = .ok (.invokevirtual 135, 3) := by decide +kernel
theorem dX8_unfold_9 : decode cX8_unfold 9 = .ok (.istore_n 3, 1) := by decide +kernel
theorem dX8_unfold_10 : decode cX8_unfold 10 = .ok (.aload_n 0, 1) := by decide +kernel
theorem dX8_unfold_11 : decode cX8_unfold 11 = .ok (.iload_n 2, 1) := by decide +kernel
theorem dX8_unfold_12 : decode cX8_unfold 12 = .ok (.bipush 10, 2) := by decide +kernel
theorem dX8_unfold_14 : decode cX8_unfold 14 = .ok (.iadd, 1) := by decide +kernel
theorem dX8_unfold_15 : decode cX8_unfold 15 = .ok (.iconst 4, 1) := by decide +kernel
theorem dX8_unfold_16 : decode cX8_unfold 16 = .ok (.invokevirtual 135, 3) := by decide +kernel
theorem dX8_unfold_19 : decode cX8_unfold 19 = .ok (.istore 4, 2) := by decide +kernel
theorem dX8_unfold_21 : decode cX8_unfold 21 = .ok (.aload_n 0, 1) := by decide +kernel
theorem dX8_unfold_22 : decode cX8_unfold 22 = .ok (.iload_n 2, 1) := by decide +kernel
theorem dX8_unfold_23 : decode cX8_unfold 23 = .ok (.iconst 2, 1) := by decide +kernel
theorem dX8_unfold_24 : decode cX8_unfold 24 = .ok (.iconst 0, 1) := by decide +kernel
theorem dX8_unfold_25 : decode cX8_unfold 25 = .ok (.invokevirtual 141, 3) := by decide +kernel
theorem dX8_unfold_28 : decode cX8_unfold 28 = .ok (.ifCond .eq 13, 3) := by decide +kernel
theorem dX8_unfold_31 : decode cX8_unfold 31 = .ok (.aload_n 0, 1) := by decide +kernel
theorem dX8_unfold_32 : decode cX8_unfold 32 = .ok (.bipush 20, 2) := by decide +kernel
theorem dX8_unfold_34 : decode cX8_unfold 34 = .ok (.iload_n 1, 1) := by decide +kernel
theorem dX8_unfold_35 : decode cX8_unfold 35 = .ok (.iload_n 3, 1) := by decide +kernel
theorem dX8_unfold_36 : decode cX8_unfold 36 = .ok (.invokevirtual 82, 3) := by decide +kernel
theorem dX8_unfold_39 : decode cX8_unfold 39 = .ok (.iconst 1, 1) := by decide +kernel
theorem dX8_unfold_40 : decode cX8_unfold 40 = .ok (.ireturn, 1) := by decide +kernel
theorem dX8_unfold_41 : decode cX8_unfold 41 = .ok (.iconst 0, 1) := by decide +kernel
theorem dX8_unfold_42 : decode cX8_unfold 42 = .ok (.istore 5, 2) := by decide +kernel
theorem dX8_unfold_44 : decode cX8_unfold 44 = .ok (.iload_n 1, 1) := by decide +kernel
theorem dX8_unfold_45 : decode cX8_unfold 45 = .ok (.istore 6, 2) := by decide +kernel
theorem dX8_unfold_47 : decode cX8_unfold 47 = .ok (.iload_n 1, 1) := by decide +kernel
theorem dX8_unfold_48 : decode cX8_unfold 48 = .ok (.iload 4, 2) := by decide +kernel
theorem dX8_unfold_50 : decode cX8_unfold 50 = .ok (.iadd, 1) := by decide +kernel
theorem dX8_unfold_51 : decode cX8_unfold 51 = .ok (.istore 7, 2) := by decide +kernel
theorem dX8_unfold_53 : decode cX8_unfold 53 = .ok (.iload 6, 2) := by decide +kernel
theorem dX8_unfold_55 : decode cX8_unfold 55 = .ok (.iload 7, 2) := by decide +kernel
theorem dX8_unfold_57 : decode cX8_unfold 57 = .ok (.if_icmp .ge 171, 3) := by decide +kernel
theorem dX8_unfold_60 : decode cX8_unfold 60 = .ok (.aload_n 0, 1) := by decide +kernel
theorem dX8_unfold_61 : decode cX8_unfold 61 = .ok (.getfield 13, 3) := by decide +kernel
theorem dX8_unfold_64 : decode cX8_unfold 64 = .ok (.iload 6, 2) := by decide +kernel
theorem dX8_unfold_66 : decode cX8_unfold 66 = .ok (.iaload, 1) := by decide +kernel
theorem dX8_unfold_67 : decode cX8_unfold 67 = .ok (.istore 8, 2) := by decide +kernel
theorem dX8_unfold_69 : decode cX8_unfold 69 = .ok (.iload 8, 2) := by decide +kernel
theorem dX8_unfold_71 : decode cX8_unfold 71 = .ok (.sipush 128, 3) := by decide +kernel
theorem dX8_unfold_74 : decode cX8_unfold 74 = .ok (.if_icmp .ge 10, 3) := by decide +kernel
theorem dX8_unfold_77 : decode cX8_unfold 77 = .ok (.iload 8, 2) := by decide +kernel
theorem dX8_unfold_79 : decode cX8_unfold 79 = .ok (.iconst 1, 1) := by decide +kernel
theorem dX8_unfold_80 : decode cX8_unfold 80 = .ok (.iadd, 1) := by decide +kernel
theorem dX8_unfold_81 : decode cX8_unfold 81 = .ok (.goto 21, 3) := by decide +kernel
theorem dX8_unfold_84 : decode cX8_unfold 84 = .ok (.iload 8, 2) := by decide +kernel
theorem dX8_unfold_86 : decode cX8_unfold 86 = .ok (.sipush 128, 3) := by decide +kernel
theorem dX8_unfold_89 : decode cX8_unfold 89 = .ok (.if_icmp .ne 7, 3) := by decide +kernel
theorem dX8_unfold_92 : decode cX8_unfold 92 = .ok (.iconst 0, 1) := by decide +kernel
theorem dX8_unfold_93 : decode cX8_unfold 93 = .ok (.goto 9, 3) := by decide +kernel
theorem dX8_unfold_96 : decode cX8_unfold 96 = .ok (.sipush 257, 3) := by decide +kernel
theorem dX8_unfold_99 : decode cX8_unfold 99 = .ok (.iload 8, 2) := by decide +kernel
theorem dX8_unfold_101 : decode cX8_unfold 101 = .ok (.isub, 1) := by decide +kernel
theorem dX8_unfold_102 : decode cX8_unfold 102 = .ok (.istore 9, 2) := by decide +kernel
theorem dX8_unfold_104 : decode cX8_unfold 104 = .ok (.iload 8, 2) := by decide +kernel
theorem dX8_unfold_106 : decode cX8_unfold 106 = .ok (.sipush 128, 3) := by decide +kernel
theorem dX8_unfold_109 : decode cX8_unfold 109 = .ok (.if_icmp .ge 8, 3) := by decide +kernel
theorem dX8_unfold_112 : decode cX8_unfold 112 = .ok (.iload 9, 2) := by decide +kernel
theorem dX8_unfold_114 : decode cX8_unfold 114 = .ok (.goto 16, 3) := by decide +kernel
theorem dX8_unfold_117 : decode cX8_unfold 117 = .ok (.iload 8, 2) := by decide +kernel
theorem dX8_unfold_119 : decode cX8_unfold 119 = .ok (.sipush 128, 3) := by decide +kernel
theorem dX8_unfold_122 : decode cX8_unfold 122 = .ok (.if_icmp .ne 7, 3) := by decide +kernel
theorem dX8_unfold_125 : decode cX8_unfold 125 = .ok (.iconst 0, 1) := by decide +kernel
theorem dX8_unfold_126 : decode cX8_unfold 126 = .ok (.goto 4, 3) := by decide +kernel
theorem dX8_unfold_129 : decode cX8_unfold 129 = .ok (.iconst 1, 1) := by decide +kernel
theorem dX8_unfold_130 : decode cX8_unfold 130 = .ok (.istore 10, 2) := by decide +kernel
theorem dX8_unfold_132 : decode cX8_unfold 132 = .ok (.iload 6, 2) := by decide +kernel
theorem dX8_unfold_134 : decode cX8_unfold 134 = .ok (.iconst 1, 1) := by decide +kernel
theorem dX8_unfold_135 : decode cX8_unfold 135 = .ok (.iadd, 1) := by decide +kernel
theorem dX8_unfold_136 : decode cX8_unfold 136 = .ok (.iload 10, 2) := by decide +kernel
theorem dX8_unfold_138 : decode cX8_unfold 138 = .ok (.iadd, 1) := by decide +kernel
theorem dX8_unfold_139 : decode cX8_unfold 139 = .ok (.iload 7, 2) := by decide +kernel
theorem dX8_unfold_141 : decode cX8_unfold 141 = .ok (.if_icmp .gt 12, 3) := by decide +kernel
theorem dX8_unfold_144 : decode cX8_unfold 144 = .ok (.iload 5, 2) := by decide +kernel
theorem dX8_unfold_146 : decode cX8_unfold 146 = .ok (.iload 9, 2) := by decide +kernel
theorem dX8_unfold_148 : decode cX8_unfold 148 = .ok (.iadd, 1) := by decide +kernel
theorem dX8_unfold_149 : decode cX8_unfold 149 = .ok (.iload_n 3, 1) := by decide +kernel
theorem dX8_unfold_150 : decode cX8_unfold 150 = .ok (.if_icmp .le 5, 3) := by decide +kernel
theorem dX8_unfold_153 : decode cX8_unfold 153 = .ok (.iconst 0, 1) := by decide +kernel
theorem dX8_unfold_154 : decode cX8_unfold 154 = .ok (.ireturn, 1) := by decide +kernel
theorem dX8_unfold_155 : decode cX8_unfold 155 = .ok (.iconst 0, 1) := by decide +kernel
theorem dX8_unfold_156 : decode cX8_unfold 156 = .ok (.istore 11, 2) := by decide +kernel
theorem dX8_unfold_158 : decode cX8_unfold 158 = .ok (.iload 11, 2) := by decide +kernel
end
section
theorem dX8_unfold_160 : decode cX8_unfold 160 = .ok (.iload 9, 2) := by decide +kernel
theorem dX8_unfold_162 : decode cX8_unfold 162 = .ok (.if_icmp .ge 47, 3) := by decide +kernel
theorem dX8_unfold_165 : decode cX8_unfold 165 = .ok (.aload_n 0, 1) := by decide +kernel
theorem dX8_unfold_166 : decode cX8_unfold 166 = .ok (.getfield 25, 3) := by decide +kernel
theorem dX8_unfold_169 : decode cX8_unfold 169 = .ok (.sipush 30000, 3) := by decide +kernel
theorem dX8_unfold_172 : decode cX8_unfold 172 = .ok (.iload 5, 2) := by decide +kernel
theorem dX8_unfold_174 : decode cX8_unfold 174 = .ok (.iadd, 1) := by decide +kernel
theorem dX8_unfold_175 : decode cX8_unfold 175 = .ok (.iload 11, 2) := by decide +kernel
theorem dX8_unfold_177 : decode cX8_unfold 177 = .ok (.iadd, 1) := by decide +kernel
theorem dX8_unfold_178 : decode cX8_unfold 178 = .ok (.aload_n 0, 1) := by decide +kernel
theorem dX8_unfold_179 : decode cX8_unfold 179 = .ok (.getfield 13, 3) := by decide +kernel
theorem dX8_unfold_182 : decode cX8_unfold 182 = .ok (.iload 6, 2) := by decide +kernel
theorem dX8_unfold_184 : decode cX8_unfold 184 = .ok (.iconst 1, 1) := by decide +kernel
theorem dX8_unfold_185 : decode cX8_unfold 185 = .ok (.iadd, 1) := by decide +kernel
theorem dX8_unfold_186 : decode cX8_unfold 186 = .ok (.iload 8, 2) := by decide +kernel
theorem dX8_unfold_188 : decode cX8_unfold 188 = .ok (.sipush 128, 3) := by decide +kernel
theorem dX8_unfold_191 : decode cX8_unfold 191 = .ok (.if_icmp .ge 8, 3) := by decide +kernel
theorem dX8_unfold_194 : decode cX8_unfold 194 = .ok (.iload 11, 2) := by decide +kernel
theorem dX8_unfold_196 : decode cX8_unfold 196 = .ok (.goto 4, 3) := by decide +kernel
theorem dX8_unfold_199 : decode cX8_unfold 199 = .ok (.iconst 0, 1) := by decide +kernel
theorem dX8_unfold_200 : decode cX8_unfold 200 = .ok (.iadd, 1) := by decide +kernel
theorem dX8_unfold_201 : decode cX8_unfold 201 = .ok (.iaload, 1) := by decide +kernel
theorem dX8_unfold_202 : decode cX8_unfold 202 = .ok (.iastore, 1) := by decide +kernel
theorem dX8_unfold_203 : decode cX8_unfold 203 = .ok (.iinc 11 1, 3) := by decide +kernel
theorem dX8_unfold_206 : decode cX8_unfold 206 = .ok (.goto (-48), 3) := by decide +kernel
theorem dX8_unfold_209 : decode cX8_unfold 209 = .ok (.iload 5, 2) := by decide +kernel
theorem dX8_unfold_211 : decode cX8_unfold 211 = .ok (.iload 9, 2) := by decide +kernel
theorem dX8_unfold_213 : decode cX8_unfold 213 = .ok (.iadd, 1) := by decide +kernel
theorem dX8_unfold_214 : decode cX8_unfold 214 = .ok (.istore 5, 2) := by decide +kernel
theorem dX8_unfold_216 : decode cX8_unfold 216 = .ok (.iload 6, 2) := by decide +kernel
theorem dX8_unfold_218 : decode cX8_unfold 218 = .ok (.iconst 1, 1) := by decide +kernel
theorem dX8_unfold_219 : decode cX8_unfold 219 = .ok (.iload 10, 2) := by decide +kernel
theorem dX8_unfold_221 : decode cX8_unfold 221 = .ok (.iadd, 1) := by decide +kernel
theorem dX8_unfold_222 : decode cX8_unfold 222 = .ok (.iadd, 1) := by decide +kernel
theorem dX8_unfold_223 : decode cX8_unfold 223 = .ok (.istore 6, 2) := by decide +kernel
theorem dX8_unfold_225 : decode cX8_unfold 225 = .ok (.goto (-172), 3) := by decide +kernel
theorem dX8_unfold_228 : decode cX8_unfold 228 = .ok (.aload_n 0, 1) := by decide +kernel
theorem dX8_unfold_229 : decode cX8_unfold 229 = .ok (.getfield 28, 3) := by decide +kernel
theorem dX8_unfold_232 : decode cX8_unfold 232 = .ok (.bipush 20, 2) := by decide +kernel
theorem dX8_unfold_234 : decode cX8_unfold 234 = .ok (.iload 5, 2) := by decide +kernel
theorem dX8_unfold_236 : decode cX8_unfold 236 = .ok (.iastore, 1) := by decide +kernel
theorem dX8_unfold_237 : decode cX8_unfold 237 = .ok (.iload 5, 2) := by decide +kernel
theorem dX8_unfold_239 : decode cX8_unfold 239 = .ok (.iload_n 3, 1) := by decide +kernel
theorem dX8_unfold_240 : decode cX8_unfold 240 = .ok (.if_icmp .ne 7, 3) := by decide +kernel
theorem dX8_unfold_243 : decode cX8_unfold 243 = .ok (.iconst 1, 1) := by decide +kernel
theorem dX8_unfold_244 : decode cX8_unfold 244 = .ok (.goto 4, 3) := by decide +kernel
theorem dX8_unfold_247 : decode cX8_unfold 247 = .ok (.iconst 0, 1) := by decide +kernel
theorem dX8_unfold_248 : decode cX8_unfold 248 = .ok (.ireturn, 1) := by decide +kernel
theorem dX8_isCrc_0 : decode cX8_isCrc 0 = .ok (.aload_n 0, 1) := by decide +kernel
theorem dX8_isCrc_1 : decode cX8_isCrc 1 = .ok (.bipush 20, 2) := by decide +kernel
theorem dX8_isCrc_3 : decode cX8_isCrc 3 = .ok (.invokevirtual 117, 3) := by decide +kernel
theorem dX8_isCrc_6 : decode cX8_isCrc 6 = .ok (.istore_n 2, 1) := by decide +kernel
theorem dX8_isCrc_7 : decode cX8_isCrc 7 = .ok (.iconst 1, 1) := by decide +kernel
theorem dX8_isCrc_8 : decode cX8_isCrc 8 = .ok (.istore_n 3, 1) := by decide +kernel
theorem dX8_isCrc_9 : decode cX8_isCrc 9 = .ok (.iconst 0, 1) := by decide +kernel
theorem dX8_isCrc_10 : decode cX8_isCrc 10 = .ok (.istore 4, 2) := by decide +kernel
theorem dX8_isCrc_12 : decode cX8_isCrc 12 = .ok (.iload 4, 2) := by decide +kernel
theorem dX8_isCrc_14 : decode cX8_isCrc 14 = .ok (.iconst 4, 1) := by decide +kernel
theorem dX8_isCrc_15 : decode cX8_isCrc 15 = .ok (.if_icmp .ge 45, 3) := by decide +kernel
theorem dX8_isCrc_18 : decode cX8_isCrc 18 = .ok (.iload_n 3, 1) := by decide +kernel
theorem dX8_isCrc_19 : decode cX8_isCrc 19 = .ok (.ifCond .eq 33, 3) := by decide +kernel
theorem dX8_isCrc_22 : decode cX8_isCrc 22 = .ok (.aload_n 0, 1) := by decide +kernel
theorem dX8_isCrc_23 : decode cX8_isCrc 23 = .ok (.getfield 13, 3) := by decide +kernel
theorem dX8_isCrc_26 : decode cX8_isCrc 26 = .ok (.iload_n 1, 1) := by decide +kernel
theorem dX8_isCrc_27 : decode cX8_isCrc 27 = .ok (.bipush 6, 2) := by decide +kernel
theorem dX8_isCrc_29 : decode cX8_isCrc 29 = .ok (.iadd, 1) := by decide +kernel
theorem dX8_isCrc_30 : decode cX8_isCrc 30 = .ok (.iload 4, 2) := by decide +kernel
theorem dX8_isCrc_32 : decode cX8_isCrc 32 = .ok (.iadd, 1) := by decide +kernel
theorem dX8_isCrc_33 : decode cX8_isCrc 33 = .ok (.iaload, 1) := by decide +kernel
theorem dX8_isCrc_34 : decode cX8_isCrc 34 = .ok (.iload_n 2, 1) := by decide +kernel
theorem dX8_isCrc_35 : decode cX8_isCrc 35 = .ok (.bipush 8, 2) := by decide +kernel
theorem dX8_isCrc_37 : decode cX8_isCrc 37 = .ok (.iload 4, 2) := by decide +kernel
theorem dX8_isCrc_39 : decode cX8_isCrc 39 = .ok (.imul, 1) := by decide +kernel
theorem dX8_isCrc_40 : decode cX8_isCrc 40 = .ok (.ishr, 1) := by decide +kernel
theorem dX8_isCrc_41 : decode cX8_isCrc 41 = .ok (.sipush 255, 3) := by decide +kernel
theorem dX8_isCrc_44 : decode cX8_isCrc 44 = .ok (.iand, 1) := by decide +kernel
theorem dX8_isCrc_45 : decode cX8_isCrc 45 = .ok (.if_icmp .ne 7, 3) := by decide +kernel
theorem dX8_isCrc_48 : decode cX8_isCrc 48 = .ok (.iconst 1, 1) := by decide +kernel
theorem dX8_isCrc_49 : decode cX8_isCrc 49 = .ok (.goto 4, 3) := by decide +kernel
theorem dX8_isCrc_52 : decode cX8_isCrc 52 = .ok (.iconst 0, 1) := by decide +kernel
theorem dX8_isCrc_53 : decode cX8_isCrc 53 = .ok (.istore_n 3, 1) := by decide +kernel
theorem dX8_isCrc_54 : decode cX8_isCrc 54 = .ok (.iinc 4 1, 3) := by decide +kernel
theorem dX8_isCrc_57 : decode cX8_isCrc 57 = .ok (.goto (-45), 3) := by decide +kernel
theorem dX8_isCrc_60 : decode cX8_isCrc 60 = .ok (.iload_n 3, 1) := by decide +kernel
theorem dX8_isCrc_61 : decode cX8_isCrc 61 = .ok (.ireturn, 1) := by decide +kernel
theorem dX8_areBytes_0 : decode cX8_areBytes 0 = .ok (.lconst 0, 1) := by decide +kernel
theorem dX8_areBytes_1 : decode cX8_areBytes 1 = .ok (.lstore_n 2, 1) := by decide +kernel
theorem dX8_areBytes_2 : decode cX8_areBytes 2 = .ok (.iconst 0, 1) := by decide +kernel
theorem dX8_areBytes_3 : decode cX8_areBytes 3 = .ok (.istore 4, 2) := by decide +kernel
theorem dX8_areBytes_5 : decode cX8_areBytes 5 = .ok (.iload 4, 2) := by decide +kernel
theorem dX8_areBytes_7 : decode cX8_areBytes 7 = .ok (.iload_n 1, 1) := by decide +kernel
theorem dX8_areBytes_8 : decode cX8_areBytes 8 = .ok (.if_icmp .ge 123, 3) := by decide +kernel
theorem dX8_areBytes_11 : decode cX8_areBytes 11 = .ok (.aload_n 0, 1) := by decide +kernel
theorem dX8_areBytes_12 : decode cX8_areBytes 12 = .ok (.getfield 41, 3) := by decide +kernel
theorem dX8_areBytes_15 : decode cX8_areBytes 15 = .ok (.iload 4, 2) := by decide +kernel
theorem dX8_areBytes_17 : decode cX8_areBytes 17 = .ok (.iaload, 1) := by decide +kernel
theorem dX8_areBytes_18 : decode cX8_areBytes 18 = .ok (.bipush 10, 2) := by decide +kernel
theorem dX8_areBytes_20 : decode cX8_areBytes 20 = .ok (.iadd, 1) := by decide +kernel
theorem dX8_areBytes_21 : decode cX8_areBytes 21 = .ok (.istore 5, 2) := by decide +kernel
theorem dX8_areBytes_23 : decode cX8_areBytes 23 = .ok (.lload_n 2, 1) := by decide +kernel
theorem dX8_areBytes_24 : decode cX8_areBytes 24 = .ok (.aload_n 0, 1) := by decide +kernel
theorem dX8_areBytes_25 : decode cX8_areBytes 25 = .ok (.iload 5, 2) := by decide +kernel
theorem dX8_areBytes_27 : decode cX8_areBytes 27 = .ok (.bipush 14, 2) := by decide +kernel
theorem dX8_areBytes_29 : decode cX8_areBytes 29 = .ok (.iadd, 1) := by decide +kernel
theorem dX8_areBytes_30 : decode cX8_areBytes 30 = .ok (.iconst 4, 1) := by decide +kernel
theorem dX8_areBytes_31 : decode cX8_areBytes 31 = .ok (.invokevirtual 135, 3) := by decide +kernel
theorem dX8_areBytes_34 : decode cX8_areBytes 34 = .ok (.i2l, 1) := by decide +kernel
theorem dX8_areBytes_35 : decode cX8_areBytes 35 = .ok (.ladd, 1) := by decide +kernel
theorem dX8_areBytes_36 : decode cX8_areBytes 36 = .ok (.lstore_n 2, 1) := by decide +kernel
theorem dX8_areBytes_37 : decode cX8_areBytes 37 = .ok (.aload_n 0, 1) := by decide +kernel
theorem dX8_areBytes_38 : decode cX8_areBytes 38 = .ok (.iload 5, 2) := by decide +kernel
theorem dX8_areBytes_40 : decode cX8_areBytes 40 = .ok (.invokevirtual 166, 3) := by decide +kernel
theorem dX8_areBytes_43 : decode cX8_areBytes 43 = .ok (.ifCond .eq 11, 3) := by decide +kernel
theorem dX8_areBytes_46 : decode cX8_areBytes 46 = .ok (.lload_n 2, 1) := by decide +kernel
theorem dX8_areBytes_47 : decode cX8_areBytes 47 = .ok (.ldc2_w 169, 3) := by decide +kernel
theorem dX8_areBytes_50 : decode cX8_areBytes 50 = .ok (.lcmp, 1) := by decide +kernel
theorem dX8_areBytes_51 : decode cX8_areBytes 51 = .ok (.ifCond .le 18, 3) := by decide +kernel
theorem dX8_areBytes_54 : decode cX8_areBytes 54 = .ok (.aload_n 0, 1) := by decide +kernel
theorem dX8_areBytes_55 : decode cX8_areBytes 55 = .ok (.iconst 4, 1) := by decide +kernel
theorem dX8_areBytes_56 : decode cX8_areBytes 56 = .ok (.iload 4, 2) := by decide +kernel
theorem dX8_areBytes_58 : decode cX8_areBytes 58 = .ok (.aload_n 0, 1) := by decide +kernel
theorem dX8_areBytes_59 : decode cX8_areBytes 59 = .ok (.getfield 44, 3) := by decide +kernel
theorem dX8_areBytes_62 : decode cX8_areBytes 62 = .ok (.iload 4, 2) := by decide +kernel
theorem dX8_areBytes_64 : decode cX8_areBytes 64 = .ok (.iaload, 1) := by decide +kernel
theorem dX8_areBytes_65 : decode cX8_areBytes 65 = .ok (.invokevirtual 157, 3) := by decide +kernel
theorem dX8_areBytes_68 : decode cX8_areBytes 68 = .ok (.ireturn, 1) := by decide +kernel
theorem dX8_areBytes_69 : decode cX8_areBytes 69 = .ok (.aload_n 0, 1) := by decide +kernel
theorem dX8_areBytes_70 : decode cX8_areBytes 70 = .ok (.aload_n 0, 1) := by decide +kernel
theorem dX8_areBytes_71 : decode cX8_areBytes 71 = .ok (.getfield 44, 3) := by decide +kernel
theorem dX8_areBytes_74 : decode cX8_areBytes 74 = .ok (.iload 4, 2) := by decide +kernel
theorem dX8_areBytes_76 : decode cX8_areBytes 76 = .ok (.iaload, 1) := by decide +kernel
theorem dX8_areBytes_77 : decode cX8_areBytes 77 = .ok (.iload 5, 2) := by decide +kernel
theorem dX8_areBytes_79 : decode cX8_areBytes 79 = .ok (.invokevirtual 171, 3) := by decide +kernel
theorem dX8_areBytes_82 : decode cX8_areBytes 82 = .ok (.ifCond .ne 18, 3) := by decide +kernel
theorem dX8_areBytes_85 : decode cX8_areBytes 85 = .ok (.aload_n 0, 1) := by decide +kernel
theorem dX8_areBytes_86 : decode cX8_areBytes 86 = .ok (.iconst 5, 1) := by decide +kernel
theorem dX8_areBytes_87 : decode cX8_areBytes 87 = .ok (.iload 4, 2) := by decide +kernel
theorem dX8_areBytes_89 : decode cX8_areBytes 89 = .ok (.aload_n 0, 1) := by decide +kernel
theorem dX8_areBytes_90 : decode cX8_areBytes 90 = .ok (.getfield 44, 3) := by decide +kernel
theorem dX8_areBytes_93 : decode cX8_areBytes 93 = .ok (.iload 4, 2) := by decide +kernel
theorem dX8_areBytes_95 : decode cX8_areBytes 95 = .ok (.iaload, 1) := by decide +kernel
theorem dX8_areBytes_96 : decode cX8_areBytes 96 = .ok (.invokevirtual 157, 3) := by decide +kernel
theorem dX8_areBytes_99 : decode cX8_areBytes 99 = .ok (.ireturn, 1) := by decide +kernel
theorem dX8_areBytes_100 : decode cX8_areBytes 100 = .ok (.aload_n 0, 1) := by decide +kernel
theorem dX8_areBytes_101 : decode cX8_areBytes 101 = .ok (.iload 5, 2) := by decide +kernel
theorem dX8_areBytes_103 : decode cX8_areBytes 103 = .ok (.invokevirtual 174, 3) := by decide +kernel
theorem dX8_areBytes_106 : decode cX8_areBytes 106 = .ok (.ifCond .ne 19, 3) := by decide +kernel
theorem dX8_areBytes_109 : decode cX8_areBytes 109 = .ok (.aload_n 0, 1) := by decide +kernel
theorem dX8_areBytes_110 : decode cX8_areBytes 110 = .ok (.bipush 6, 2) := by decide +kernel
theorem dX8_areBytes_112 : decode cX8_areBytes 112 = .ok (.iload 4, 2) := by decide +kernel
theorem dX8_areBytes_114 : decode cX8_areBytes 114 = .ok (.aload_n 0, 1) := by decide +kernel
theorem dX8_areBytes_115 : decode cX8_areBytes 115 = .ok (.getfield 44, 3) := by decide +kernel
theorem dX8_areBytes_118 : decode cX8_areBytes 118 = .ok (.iload 4, 2) := by decide +kernel
theorem dX8_areBytes_120 : decode cX8_areBytes 120 = .ok (.iaload, 1) := by decide +kernel
theorem dX8_areBytes_121 : decode cX8_areBytes 121 = .ok (.invokevirtual 157, 3) := by decide +kernel
theorem dX8_areBytes_124 : decode cX8_areBytes 124 = .ok (.ireturn, 1) := by decide +kernel
theorem dX8_areBytes_125 : decode cX8_areBytes 125 = .ok (.iinc 4 1, 3) := by decide +kernel
theorem dX8_areBytes_128 : decode cX8_areBytes 128 = .ok (.goto (-123), 3) := by decide +kernel
theorem dX8_areBytes_131 : decode cX8_areBytes 131 = .ok (.iconst 1, 1) := by decide +kernel
theorem dX8_areBytes_132 : decode cX8_areBytes 132 = .ok (.ireturn, 1) := by decide +kernel
theorem dX8_read_0 : decode cX8_read 0 = .ok (.aload_n 0, 1) := by decide +kernel
theorem dX8_read_1 : decode cX8_read 1 = .ok (.iconst 0, 1) := by decide +kernel
theorem dX8_read_2 : decode cX8_read 2 = .ok (.putfield 138, 3) := by decide +kernel
theorem dX8_read_5 : decode cX8_read 5 = .ok (.aload_n 0, 1) := by decide +kernel
theorem dX8_read_6 : decode cX8_read 6 = .ok (.iconst (-1), 1) := by decide +kernel
theorem dX8_read_7 : decode cX8_read 7 = .ok (.putfield 31, 3) := by decide +kernel
theorem dX8_read_10 : decode cX8_read 10 = .ok (.aload_n 0, 1) := by decide +kernel
theorem dX8_read_11 : decode cX8_read 11 = .ok (.iconst (-1), 1) := by decide +kernel
theorem dX8_read_12 : decode cX8_read 12 = .ok (.putfield 35, 3) := by decide +kernel
theorem dX8_read_15 : decode cX8_read 15 = .ok (.aload_n 0, 1) := by decide +kernel
theorem dX8_read_16 : decode cX8_read 16 = .ok (.invokevirtual 177, 3) := by decide +kernel
theorem dX8_read_19 : decode cX8_read 19 = .ok (.istore_n 1, 1) := by decide +kernel
theorem dX8_read_20 : decode cX8_read 20 = .ok (.iload_n 1, 1) := by decide +kernel
theorem dX8_read_21 : decode cX8_read 21 = .ok (.iconst (-1), 1) := by decide +kernel
theorem dX8_read_22 : decode cX8_read 22 = .ok (.if_icmp .ne 32, 3) := by decide +kernel
theorem dX8_read_25 : decode cX8_read 25 = .ok (.aload_n 0, 1) := by decide +kernel
theorem dX8_read_26 : decode cX8_read 26 = .ok (.iconst 1, 1) := by decide +kernel
theorem dX8_read_27 : decode cX8_read 27 = .ok (.iconst (-1), 1) := by decide +kernel
theorem dX8_read_28 : decode cX8_read 28 = .ok (.aload_n 0, 1) := by decide +kernel
theorem dX8_read_29 : decode cX8_read 29 = .ok (.getfield 53, 3) := by decide +kernel
theorem dX8_read_32 : decode cX8_read 32 = .ok (.bipush 22, 2) := by decide +kernel
theorem dX8_read_34 : decode cX8_read 34 = .ok (.if_icmp .ge 7, 3) := by decide +kernel
theorem dX8_read_37 : decode cX8_read 37 = .ok (.iconst 0, 1) := by decide +kernel
theorem dX8_read_38 : decode cX8_read 38 = .ok (.goto 10, 3) := by decide +kernel
theorem dX8_read_41 : decode cX8_read 41 = .ok (.aload_n 0, 1) := by decide +kernel
theorem dX8_read_42 : decode cX8_read 42 = .ok (.getfield 53, 3) := by decide +kernel
theorem dX8_read_45 : decode cX8_read 45 = .ok (.bipush 22, 2) := by decide +kernel
theorem dX8_read_47 : decode cX8_read 47 = .ok (.isub, 1) := by decide +kernel
theorem dX8_read_48 : decode cX8_read 48 = .ok (.invokevirtual 157, 3) := by decide +kernel
theorem dX8_read_51 : decode cX8_read 51 = .ok (.ifCond .eq 7, 3) := by decide +kernel
theorem dX8_read_54 : decode cX8_read 54 = .ok (.iconst 1, 1) := by decide +kernel
theorem dX8_read_55 : decode cX8_read 55 = .ok (.goto 4, 3) := by decide +kernel
theorem dX8_read_58 : decode cX8_read 58 = .ok (.iconst 0, 1) := by decide +kernel
theorem dX8_read_59 : decode cX8_read 59 = .ok (.istore_n 2, 1) := by decide +kernel
theorem dX8_read_60 : decode cX8_read 60 = .ok (.iload_n 2, 1) := by decide +kernel
theorem dX8_read_61 : decode cX8_read 61 = .ok (.ifCond .eq 15, 3) := by decide +kernel
theorem dX8_read_64 : decode cX8_read 64 = .ok (.aload_n 0, 1) := by decide +kernel
theorem dX8_read_65 : decode cX8_read 65 = .ok (.iload_n 1, 1) := by decide +kernel
theorem dX8_read_66 : decode cX8_read 66 = .ok (.bipush 8, 2) := by decide +kernel
theorem dX8_read_68 : decode cX8_read 68 = .ok (.iadd, 1) := by decide +kernel
theorem dX8_read_69 : decode cX8_read 69 = .ok (.iconst 2, 1) := by decide +kernel
theorem dX8_read_70 : decode cX8_read 70 = .ok (.invokevirtual 135, 3) := by decide +kernel
theorem dX8_read_73 : decode cX8_read 73 = .ok (.goto 4, 3) := by decide +kernel
theorem dX8_read_76 : decode cX8_read 76 = .ok (.iconst 0, 1) := by decide +kernel
theorem dX8_read_77 : decode cX8_read 77 = .ok (.istore_n 3, 1) := by decide +kernel
theorem dX8_read_78 : decode cX8_read 78 = .ok (.iload_n 2, 1) := by decide +kernel
theorem dX8_read_79 : decode cX8_read 79 = .ok (.ifCond .eq 33, 3) := by decide +kernel
theorem dX8_read_82 : decode cX8_read 82 = .ok (.aload_n 0, 1) := by decide +kernel
theorem dX8_read_83 : decode cX8_read 83 = .ok (.iload_n 3, 1) := by decide +kernel
theorem dX8_read_84 : decode cX8_read 84 = .ok (.iload_n 1, 1) := by decide +kernel
theorem dX8_read_85 : decode cX8_read 85 = .ok (.invokevirtual 180, 3) := by decide +kernel
theorem dX8_read_88 : decode cX8_read 88 = .ok (.ifCond .eq 24, 3) := by decide +kernel
theorem dX8_read_91 : decode cX8_read 91 = .ok (.aload_n 0, 1) := by decide +kernel
theorem dX8_read_92 : decode cX8_read 92 = .ok (.iload_n 3, 1) := by decide +kernel
theorem dX8_read_93 : decode cX8_read 93 = .ok (.iload_n 1, 1) := by decide +kernel
theorem dX8_read_94 : decode cX8_read 94 = .ok (.invokevirtual 183, 3) := by decide +kernel
theorem dX8_read_97 : decode cX8_read 97 = .ok (.ifCond .eq 15, 3) := by decide +kernel
theorem dX8_read_100 : decode cX8_read 100 = .ok (.aload_n 0, 1) := by decide +kernel
theorem dX8_read_101 : decode cX8_read 101 = .ok (.iload_n 3, 1) := by decide +kernel
theorem dX8_read_102 : decode cX8_read 102 = .ok (.invokevirtual 186, 3) := by decide +kernel
theorem dX8_read_105 : decode cX8_read 105 = .ok (.ifCond .eq 7, 3) := by decide +kernel
theorem dX8_read_108 : decode cX8_read 108 = .ok (.iconst 1, 1) := by decide +kernel
theorem dX8_read_109 : decode cX8_read 109 = .ok (.goto 4, 3) := by decide +kernel
theorem dX8_read_112 : decode cX8_read 112 = .ok (.iconst 0, 1) := by decide +kernel
theorem dX8_read_113 : decode cX8_read 113 = .ok (.istore_n 2, 1) := by decide +kernel
theorem dX8_read_114 : decode cX8_read 114 = .ok (.aload_n 0, 1) := by decide +kernel
theorem dX8_read_115 : decode cX8_read 115 = .ok (.iload_n 2, 1) := by decide +kernel
theorem dX8_read_116 : decode cX8_read 116 = .ok (.ifCond .eq 7, 3) := by decide +kernel
theorem dX8_read_119 : decode cX8_read 119 = .ok (.iconst 0, 1) := by decide +kernel
theorem dX8_read_120 : decode cX8_read 120 = .ok (.goto 4, 3) := by decide +kernel
theorem dX8_read_123 : decode cX8_read 123 = .ok (.iconst 1, 1) := by decide +kernel
theorem dX8_read_124 : decode cX8_read 124 = .ok (.putfield 50, 3) := by decide +kernel
theorem dX8_read_127 : decode cX8_read 127 = .ok (.iload_n 2, 1) := by decide +kernel
theorem dX8_read_128 : decode cX8_read 128 = .ok (.ifCond .ne 5, 3) := by decide +kernel
theorem dX8_read_131 : decode cX8_read 131 = .ok (.iconst 0, 1) := by decide +kernel
theorem dX8_read_132 : decode cX8_read 132 = .ok (.ireturn, 1) := by decide +kernel
theorem dX8_read_133 : decode cX8_read 133 = .ok (.aload_n 0, 1) := by decide +kernel
theorem dX8_read_134 : decode cX8_read 134 = .ok (.iconst 0, 1) := by decide +kernel
theorem dX8_read_135 : decode cX8_read 135 = .ok (.putfield 59, 3) := by decide +kernel
theorem dX8_read_138 : decode cX8_read 138 = .ok (.iconst 0, 1) := by decide +kernel
theorem dX8_read_139 : decode cX8_read 139 = .ok (.istore 4, 2) := by decide +kernel
theorem dX8_read_141 : decode cX8_read 141 = .ok (.iload 4, 2) := by decide +kernel
theorem dX8_read_143 : decode cX8_read 143 = .ok (.iload_n 3, 1) := by decide +kernel
theorem dX8_read_144 : decode cX8_read 144 = .ok (.if_icmp .ge 55, 3) := by decide +kernel
theorem dX8_read_147 : decode cX8_read 147 = .ok (.aload_n 0, 1) := by decide +kernel
theorem dX8_read_148 : decode cX8_read 148 = .ok (.aload_n 0, 1) := by decide +kernel
theorem dX8_read_149 : decode cX8_read 149 = .ok (.getfield 41, 3) := by decide +kernel
theorem dX8_read_152 : decode cX8_read 152 = .ok (.iload 4, 2) := by decide +kernel
theorem dX8_read_154 : decode cX8_read 154 = .ok (.iaload, 1) := by decide +kernel
theorem dX8_read_155 : decode cX8_read 155 = .ok (.bipush 46, 2) := by decide +kernel
theorem dX8_read_157 : decode cX8_read 157 = .ok (.iadd, 1) := by decide +kernel
theorem dX8_read_158 : decode cX8_read 158 = .ok (.aload_n 0, 1) := by decide +kernel
theorem dX8_read_159 : decode cX8_read 159 = .ok (.aload_n 0, 1) := by decide +kernel
theorem dX8_read_160 : decode cX8_read 160 = .ok (.getfield 41, 3) := by decide +kernel
theorem dX8_read_163 : decode cX8_read 163 = .ok (.iload 4, 2) := by decide +kernel
theorem dX8_read_165 : decode cX8_read 165 = .ok (.iaload, 1) := by decide +kernel
theorem dX8_read_166 : decode cX8_read 166 = .ok (.bipush 28, 2) := by decide +kernel
theorem dX8_read_168 : decode cX8_read 168 = .ok (.iadd, 1) := by decide +kernel
theorem dX8_read_169 : decode cX8_read 169 = .ok (.iconst 2, 1) := by decide +kernel
theorem dX8_read_170 : decode cX8_read 170 = .ok (.invokevirtual 135, 3) := by decide +kernel
theorem dX8_read_173 : decode cX8_read 173 = .ok (.aload_n 0, 1) := by decide +kernel
theorem dX8_read_174 : decode cX8_read 174 = .ok (.getfield 44, 3) := by decide +kernel
theorem dX8_read_177 : decode cX8_read 177 = .ok (.iload 4, 2) := by decide +kernel
theorem dX8_read_179 : decode cX8_read 179 = .ok (.iaload, 1) := by decide +kernel
theorem dX8_read_180 : decode cX8_read 180 = .ok (.aload_n 0, 1) := by decide +kernel
theorem dX8_read_181 : decode cX8_read 181 = .ok (.getfield 41, 3) := by decide +kernel
theorem dX8_read_184 : decode cX8_read 184 = .ok (.iload 4, 2) := by decide +kernel
theorem dX8_read_186 : decode cX8_read 186 = .ok (.iaload, 1) := by decide +kernel
theorem dX8_read_187 : decode cX8_read 187 = .ok (.bipush 10, 2) := by decide +kernel
theorem dX8_read_189 : decode cX8_read 189 = .ok (.iadd, 1) := by decide +kernel
theorem dX8_read_190 : decode cX8_read 190 = .ok (.invokevirtual 189, 3) := by decide +kernel
theorem dX8_read_193 : decode cX8_read 193 = .ok (.iinc 4 1, 3) := by decide +kernel
theorem dX8_read_196 : decode cX8_read 196 = .ok (.goto (-55), 3) := by decide +kernel
theorem dX8_read_199 : decode cX8_read 199 = .ok (.aload_n 0, 1) := by decide +kernel
theorem dX8_read_200 : decode cX8_read 200 = .ok (.getfield 59, 3) := by decide +kernel
theorem dX8_read_203 : decode cX8_read 203 = .ok (.ireturn, 1) := by decide +kernel
theorem dX8_append_0 : decode cX8_append 0 = .ok (.aload_n 0, 1) := by decide +kernel
theorem dX8_append_1 : decode cX8_append 1 = .ok (.iload_n 3, 1) := by decide +kernel
theorem dX8_append_2 : decode cX8_append 2 = .ok (.iload 4, 2) := by decide +kernel
theorem dX8_append_4 : decode cX8_append 4 = .ok (.invokevirtual 171, 3) := by decide +kernel
theorem dX8_append_7 : decode cX8_append 7 = .ok (.istore 5, 2) := by decide +kernel
theorem dX8_append_9 : decode cX8_append 9 = .ok (.aload_n 0, 1) := by decide +kernel
theorem dX8_append_10 : decode cX8_append 10 = .ok (.bipush 20, 2) := by decide +kernel
theorem dX8_append_12 : decode cX8_append 12 = .ok (.iload_n 1, 1) := by decide +kernel
theorem dX8_append_13 : decode cX8_append 13 = .ok (.iload_n 2, 1) := by decide +kernel
theorem dX8_append_14 : decode cX8_append 14 = .ok (.invokevirtual 78, 3) := by decide +kernel
theorem dX8_append_17 : decode cX8_append 17 = .ok (.aload_n 0, 1) := by decide +kernel
theorem dX8_append_18 : decode cX8_append 18 = .ok (.bipush 20, 2) := by decide +kernel
theorem dX8_append_20 : decode cX8_append 20 = .ok (.aload_n 0, 1) := by decide +kernel
theorem dX8_append_21 : decode cX8_append 21 = .ok (.getfield 59, 3) := by decide +kernel
theorem dX8_append_24 : decode cX8_append 24 = .ok (.invokevirtual 62, 3) := by decide +kernel
theorem dX8_append_27 : decode cX8_append 27 = .ok (.aload_n 0, 1) := by decide +kernel
theorem dX8_append_28 : decode cX8_append 28 = .ok (.dup, 1) := by decide +kernel
theorem dX8_append_29 : decode cX8_append 29 = .ok (.getfield 59, 3) := by decide +kernel
theorem dX8_append_32 : decode cX8_append 32 = .ok (.iconst 1, 1) := by decide +kernel
theorem dX8_append_33 : decode cX8_append 33 = .ok (.iadd, 1) := by decide +kernel
theorem dX8_append_34 : decode cX8_append 34 = .ok (.putfield 59, 3) := by decide +kernel
theorem dX8_append_37 : decode cX8_append 37 = .ok (.return_, 1) := by decide +kernel
theorem dX8_fault_0 : decode cX8_fault 0 = .ok (.aload_n 0, 1) := by decide +kernel
theorem dX8_fault_1 : decode cX8_fault 1 = .ok (.iconst 0, 1) := by decide +kernel
theorem dX8_fault_2 : decode cX8_fault 2 = .ok (.putfield 50, 3) := by decide +kernel
theorem dX8_fault_5 : decode cX8_fault 5 = .ok (.iload_n 1, 1) := by decide +kernel
theorem dX8_fault_6 : decode cX8_fault 6 = .ok (.ifCond .ne 10, 3) := by decide +kernel
theorem dX8_fault_9 : decode cX8_fault 9 = .ok (.aload_n 0, 1) := by decide +kernel
theorem dX8_fault_10 : decode cX8_fault 10 = .ok (.getfield 138, 3) := by decide +kernel
theorem dX8_fault_13 : decode cX8_fault 13 = .ok (.goto 28, 3) := by decide +kernel
theorem dX8_fault_16 : decode cX8_fault 16 = .ok (.iload_n 1, 1) := by decide +kernel
theorem dX8_fault_17 : decode cX8_fault 17 = .ok (.iconst 1, 1) := by decide +kernel
theorem dX8_fault_18 : decode cX8_fault 18 = .ok (.if_icmp .ne 10, 3) := by decide +kernel
theorem dX8_fault_21 : decode cX8_fault 21 = .ok (.aload_n 0, 1) := by decide +kernel
theorem dX8_fault_22 : decode cX8_fault 22 = .ok (.getfield 31, 3) := by decide +kernel
theorem dX8_fault_25 : decode cX8_fault 25 = .ok (.goto 16, 3) := by decide +kernel
theorem dX8_fault_28 : decode cX8_fault 28 = .ok (.iload_n 1, 1) := by decide +kernel
theorem dX8_fault_29 : decode cX8_fault 29 = .ok (.iconst 2, 1) := by decide +kernel
theorem dX8_fault_30 : decode cX8_fault 30 = .ok (.if_icmp .ne 10, 3) := by decide +kernel
theorem dX8_fault_33 : decode cX8_fault 33 = .ok (.aload_n 0, 1) := by decide +kernel
theorem dX8_fault_34 : decode cX8_fault 34 = .ok (.getfield 35, 3) := by decide +kernel
theorem dX8_fault_37 : decode cX8_fault 37 = .ok (.goto 4, 3) := by decide +kernel
theorem dX8_fault_40 : decode cX8_fault 40 = .ok (.iconst (-1), 1) := by decide +kernel
theorem dX8_fault_41 : decode cX8_fault 41 = .ok (.ireturn, 1) := by decide +kernel
theorem dX8_saved_0 : decode cX8_saved 0 = .ok (.iload_n 1, 1) := by decide +kernel
theorem dX8_saved_1 : decode cX8_saved 1 = .ok (.bipush 30, 2) := by decide +kernel
theorem dX8_saved_3 : decode cX8_saved 3 = .ok (.iadd, 1) := by decide +kernel
theorem dX8_saved_4 : decode cX8_saved 4 = .ok (.aload_n 0, 1) := by decide +kernel
theorem dX8_saved_5 : decode cX8_saved 5 = .ok (.getfield 53, 3) := by decide +kernel
theorem dX8_saved_8 : decode cX8_saved 8 = .ok (.if_icmp .gt 50, 3) := by decide +kernel
theorem dX8_saved_11 : decode cX8_saved 11 = .ok (.aload_n 0, 1) := by decide +kernel
theorem dX8_saved_12 : decode cX8_saved 12 = .ok (.iload_n 1, 1) := by decide +kernel
theorem dX8_saved_13 : decode cX8_saved 13 = .ok (.iconst 3, 1) := by decide +kernel
theorem dX8_saved_14 : decode cX8_saved 14 = .ok (.iconst 4, 1) := by decide +kernel
theorem dX8_saved_15 : decode cX8_saved 15 = .ok (.invokevirtual 145, 3) := by decide +kernel
theorem dX8_saved_18 : decode cX8_saved 18 = .ok (.ifCond .eq 40, 3) := by decide +kernel
theorem dX8_saved_21 : decode cX8_saved 21 = .ok (.aload_n 0, 1) := by decide +kernel
theorem dX8_saved_22 : decode cX8_saved 22 = .ok (.iload_n 1, 1) := by decide +kernel
theorem dX8_saved_23 : decode cX8_saved 23 = .ok (.iconst 4, 1) := by decide +kernel
theorem dX8_saved_24 : decode cX8_saved 24 = .ok (.iadd, 1) := by decide +kernel
theorem dX8_saved_25 : decode cX8_saved 25 = .ok (.iconst 2, 1) := by decide +kernel
theorem dX8_saved_26 : decode cX8_saved 26 = .ok (.bipush 20, 2) := by decide +kernel
theorem dX8_saved_28 : decode cX8_saved 28 = .ok (.invokevirtual 141, 3) := by decide +kernel
theorem dX8_saved_31 : decode cX8_saved 31 = .ok (.ifCond .eq 27, 3) := by decide +kernel
theorem dX8_saved_34 : decode cX8_saved 34 = .ok (.aload_n 0, 1) := by decide +kernel
theorem dX8_saved_35 : decode cX8_saved 35 = .ok (.iload_n 1, 1) := by decide +kernel
theorem dX8_saved_36 : decode cX8_saved 36 = .ok (.bipush 6, 2) := by decide +kernel
theorem dX8_saved_38 : decode cX8_saved 38 = .ok (.iadd, 1) := by decide +kernel
theorem dX8_saved_39 : decode cX8_saved 39 = .ok (.invokevirtual 148, 3) := by decide +kernel
theorem dX8_saved_42 : decode cX8_saved 42 = .ok (.ifCond .eq 16, 3) := by decide +kernel
theorem dX8_saved_45 : decode cX8_saved 45 = .ok (.aload_n 0, 1) := by decide +kernel
theorem dX8_saved_46 : decode cX8_saved 46 = .ok (.iload_n 1, 1) := by decide +kernel
theorem dX8_saved_47 : decode cX8_saved 47 = .ok (.bipush 28, 2) := by decide +kernel
theorem dX8_saved_49 : decode cX8_saved 49 = .ok (.iadd, 1) := by decide +kernel
theorem dX8_saved_50 : decode cX8_saved 50 = .ok (.iconst 2, 1) := by decide +kernel
theorem dX8_saved_51 : decode cX8_saved 51 = .ok (.iconst 0, 1) := by decide +kernel
theorem dX8_saved_52 : decode cX8_saved 52 = .ok (.invokevirtual 141, 3) := by decide +kernel
theorem dX8_saved_55 : decode cX8_saved 55 = .ok (.ifCond .ne 5, 3) := by decide +kernel
theorem dX8_saved_58 : decode cX8_saved 58 = .ok (.iconst 0, 1) := by decide +kernel
theorem dX8_saved_59 : decode cX8_saved 59 = .ok (.ireturn, 1) := by decide +kernel
theorem dX8_saved_60 : decode cX8_saved 60 = .ok (.aload_n 0, 1) := by decide +kernel
theorem dX8_saved_61 : decode cX8_saved 61 = .ok (.iload_n 1, 1) := by decide +kernel
theorem dX8_saved_62 : decode cX8_saved 62 = .ok (.bipush 26, 2) := by decide +kernel
theorem dX8_saved_64 : decode cX8_saved 64 = .ok (.iadd, 1) := by decide +kernel
theorem dX8_saved_65 : decode cX8_saved 65 = .ok (.iconst 2, 1) := by decide +kernel
theorem dX8_saved_66 : decode cX8_saved 66 = .ok (.invokevirtual 135, 3) := by decide +kernel
theorem dX8_saved_69 : decode cX8_saved 69 = .ok (.istore_n 2, 1) := by decide +kernel
theorem dX8_saved_70 : decode cX8_saved 70 = .ok (.aload_n 0, 1) := by decide +kernel
theorem dX8_saved_71 : decode cX8_saved 71 = .ok (.iload_n 1, 1) := by decide +kernel
theorem dX8_saved_72 : decode cX8_saved 72 = .ok (.bipush 18, 2) := by decide +kernel
theorem dX8_saved_74 : decode cX8_saved 74 = .ok (.iadd, 1) := by decide +kernel
theorem dX8_saved_75 : decode cX8_saved 75 = .ok (.iconst 4, 1) := by decide +kernel
theorem dX8_saved_76 : decode cX8_saved 76 = .ok (.invokevirtual 135, 3) := by decide +kernel
theorem dX8_saved_79 : decode cX8_saved 79 = .ok (.istore_n 3, 1) := by decide +kernel
theorem dX8_saved_80 : decode cX8_saved 80 = .ok (.iload_n 1, 1) := by decide +kernel
theorem dX8_saved_81 : decode cX8_saved 81 = .ok (.i2l, 1) := by decide +kernel
theorem dX8_saved_82 : decode cX8_saved 82 = .ok (.ldc2_w 160, 3) := by decide +kernel
theorem dX8_saved_85 : decode cX8_saved 85 = .ok (.ladd, 1) := by decide +kernel
theorem dX8_saved_86 : decode cX8_saved 86 = .ok (.iload_n 2, 1) := by decide +kernel
theorem dX8_saved_87 : decode cX8_saved 87 = .ok (.i2l, 1) := by decide +kernel
theorem dX8_saved_88 : decode cX8_saved 88 = .ok (.ladd, 1) := by decide +kernel
theorem dX8_saved_89 : decode cX8_saved 89 = .ok (.iload_n 3, 1) := by decide +kernel
theorem dX8_saved_90 : decode cX8_saved 90 = .ok (.i2l, 1) := by decide +kernel
theorem dX8_saved_91 : decode cX8_saved 91 = .ok (.ladd, 1) := by decide +kernel
theorem dX8_saved_92 : decode cX8_saved 92 = .ok (.aload_n 0, 1) := by decide +kernel
theorem dX8_saved_93 : decode cX8_saved 93 = .ok (.getfield 53, 3) := by decide +kernel
theorem dX8_saved_96 : decode cX8_saved 96 = .ok (.i2l, 1) := by decide +kernel
theorem dX8_saved_97 : decode cX8_saved 97 = .ok (.lcmp, 1) := by decide +kernel
theorem dX8_saved_98 : decode cX8_saved 98 = .ok (.ifCond .gt 26, 3) := by decide +kernel
theorem dX8_saved_101 : decode cX8_saved 101 = .ok (.aload_n 0, 1) := by decide +kernel
theorem dX8_saved_102 : decode cX8_saved 102 = .ok (.iload_n 1, 1) := by decide +kernel
theorem dX8_saved_103 : decode cX8_saved 103 = .ok (.bipush 30, 2) := by decide +kernel
theorem dX8_saved_105 : decode cX8_saved 105 = .ok (.iadd, 1) := by decide +kernel
theorem dX8_saved_106 : decode cX8_saved 106 = .ok (.iload_n 2, 1) := by decide +kernel
theorem dX8_saved_107 : decode cX8_saved 107 = .ok (.invokevirtual 66, 3) := by decide +kernel
theorem dX8_saved_110 : decode cX8_saved 110 = .ok (.ifCond .eq 14, 3) := by decide +kernel
theorem dX8_saved_113 : decode cX8_saved 113 = .ok (.aload_n 0, 1) := by decide +kernel
theorem dX8_saved_114 : decode cX8_saved 114 = .ok (.iload_n 1, 1) := by decide +kernel
theorem dX8_saved_115 : decode cX8_saved 115 = .ok (.bipush 8, 2) := by decide +kernel
theorem dX8_saved_117 : decode cX8_saved 117 = .ok (.iadd, 1) := by decide +kernel
theorem dX8_saved_118 : decode cX8_saved 118 = .ok (.invokevirtual 166, 3) := by decide +kernel
theorem dX8_saved_121 : decode cX8_saved 121 = .ok (.ifCond .ne 5, 3) := by decide +kernel
theorem dX8_saved_124 : decode cX8_saved 124 = .ok (.iconst 0, 1) := by decide +kernel
theorem dX8_saved_125 : decode cX8_saved 125 = .ok (.ireturn, 1) := by decide +kernel
theorem dX8_saved_126 : decode cX8_saved 126 = .ok (.aload_n 0, 1) := by decide +kernel
theorem dX8_saved_127 : decode cX8_saved 127 = .ok (.iload_n 1, 1) := by decide +kernel
theorem dX8_saved_128 : decode cX8_saved 128 = .ok (.bipush 30, 2) := by decide +kernel
theorem dX8_saved_130 : decode cX8_saved 130 = .ok (.iadd, 1) := by decide +kernel
theorem dX8_saved_131 : decode cX8_saved 131 = .ok (.iload_n 2, 1) := by decide +kernel
theorem dX8_saved_132 : decode cX8_saved 132 = .ok (.iadd, 1) := by decide +kernel
theorem dX8_saved_133 : decode cX8_saved 133 = .ok (.iload_n 1, 1) := by decide +kernel
theorem dX8_saved_134 : decode cX8_saved 134 = .ok (.bipush 8, 2) := by decide +kernel
theorem dX8_saved_136 : decode cX8_saved 136 = .ok (.iadd, 1) := by decide +kernel
theorem dX8_saved_137 : decode cX8_saved 137 = .ok (.invokevirtual 171, 3) := by decide +kernel
theorem dX8_saved_140 : decode cX8_saved 140 = .ok (.ifCond .eq 14, 3) := by decide +kernel
theorem dX8_saved_143 : decode cX8_saved 143 = .ok (.aload_n 0, 1) := by decide +kernel
theorem dX8_saved_144 : decode cX8_saved 144 = .ok (.iload_n 1, 1) := by decide +kernel
theorem dX8_saved_145 : decode cX8_saved 145 = .ok (.bipush 8, 2) := by decide +kernel
theorem dX8_saved_147 : decode cX8_saved 147 = .ok (.iadd, 1) := by decide +kernel
theorem dX8_saved_148 : decode cX8_saved 148 = .ok (.invokevirtual 174, 3) := by decide +kernel
theorem dX8_saved_151 : decode cX8_saved 151 = .ok (.ifCond .ne 5, 3) := by decide +kernel
theorem dX8_saved_154 : decode cX8_saved 154 = .ok (.iconst 0, 1) := by decide +kernel
theorem dX8_saved_155 : decode cX8_saved 155 = .ok (.ireturn, 1) := by decide +kernel
theorem dX8_saved_156 : decode cX8_saved 156 = .ok (.aload_n 0, 1) := by decide +kernel
theorem dX8_saved_157 : decode cX8_saved 157 = .ok (.iload_n 1, 1) := by decide +kernel
theorem dX8_saved_158 : decode cX8_saved 158 = .ok (.bipush 30, 2) := by decide +kernel
theorem dX8_saved_160 : decode cX8_saved 160 = .ok (.iadd, 1) := by decide +kernel
theorem dX8_saved_161 : decode cX8_saved 161 = .ok (.iload_n 2, 1) := by decide +kernel
theorem dX8_saved_162 : decode cX8_saved 162 = .ok (.aload_n 0, 1) := by decide +kernel
theorem dX8_saved_163 : decode cX8_saved 163 = .ok (.getfield 59, 3) := by decide +kernel
theorem dX8_saved_166 : decode cX8_saved 166 = .ok (.invokevirtual 70, 3) := by decide +kernel
theorem dX8_saved_169 : decode cX8_saved 169 = .ok (.istore 4, 2) := by decide +kernel
theorem dX8_saved_171 : decode cX8_saved 171 = .ok (.aload_n 0, 1) := by decide +kernel
theorem dX8_saved_172 : decode cX8_saved 172 = .ok (.invokevirtual 74, 3) := by decide +kernel
theorem dX8_saved_175 : decode cX8_saved 175 = .ok (.iload 4, 2) := by decide +kernel
theorem dX8_saved_177 : decode cX8_saved 177 = .ok (.iconst (-1), 1) := by decide +kernel
theorem dX8_saved_178 : decode cX8_saved 178 = .ok (.if_icmp .ne 7, 3) := by decide +kernel
theorem dX8_saved_181 : decode cX8_saved 181 = .ok (.iconst 0, 1) := by decide +kernel
theorem dX8_saved_182 : decode cX8_saved 182 = .ok (.goto 10, 3) := by decide +kernel
theorem dX8_saved_185 : decode cX8_saved 185 = .ok (.aload_n 0, 1) := by decide +kernel
theorem dX8_saved_186 : decode cX8_saved 186 = .ok (.getfield 28, 3) := by decide +kernel
theorem dX8_saved_189 : decode cX8_saved 189 = .ok (.iload 4, 2) := by decide +kernel
theorem dX8_saved_191 : decode cX8_saved 191 = .ok (.iaload, 1) := by decide +kernel
theorem dX8_saved_192 : decode cX8_saved 192 = .ok (.isub, 1) := by decide +kernel
theorem dX8_saved_193 : decode cX8_saved 193 = .ok (.istore 5, 2) := by decide +kernel
theorem dX8_saved_195 : decode cX8_saved 195 = .ok (.iload 4, 2) := by decide +kernel
theorem dX8_saved_197 : decode cX8_saved 197 = .ok (.iconst (-1), 1) := by decide +kernel
theorem dX8_saved_198 : decode cX8_saved 198 = .ok (.if_icmp .ne 12, 3) := by decide +kernel
theorem dX8_saved_201 : decode cX8_saved 201 = .ok (.aload_n 0, 1) := by decide +kernel
theorem dX8_saved_202 : decode cX8_saved 202 = .ok (.getfield 59, 3) := by decide +kernel
theorem dX8_saved_205 : decode cX8_saved 205 = .ok (.bipush 20, 2) := by decide +kernel
theorem dX8_saved_207 : decode cX8_saved 207 = .ok (.if_icmp .eq 19, 3) := by decide +kernel
theorem dX8_saved_210 : decode cX8_saved 210 = .ok (.iload 5, 2) := by decide +kernel
theorem dX8_saved_212 : decode cX8_saved 212 = .ok (.aload_n 0, 1) := by decide +kernel
theorem dX8_saved_213 : decode cX8_saved 213 = .ok (.getfield 28, 3) := by decide +kernel
theorem dX8_saved_216 : decode cX8_saved 216 = .ok (.bipush 20, 2) := by decide +kernel
theorem dX8_saved_218 : decode cX8_saved 218 = .ok (.iaload, 1) := by decide +kernel
theorem dX8_saved_219 : decode cX8_saved 219 = .ok (.iadd, 1) := by decide +kernel
theorem dX8_saved_220 : decode cX8_saved 220 = .ok (.sipush 6000, 3) := by decide +kernel
theorem dX8_saved_223 : decode cX8_saved 223 = .ok (.if_icmp .le 5, 3) := by decide +kernel
theorem dX8_saved_226 : decode cX8_saved 226 = .ok (.iconst 0, 1) := by decide +kernel
theorem dX8_saved_227 : decode cX8_saved 227 = .ok (.ireturn, 1) := by decide +kernel
theorem dX8_saved_228 : decode cX8_saved 228 = .ok (.iload 4, 2) := by decide +kernel
theorem dX8_saved_230 : decode cX8_saved 230 = .ok (.iconst (-1), 1) := by decide +kernel
theorem dX8_saved_231 : decode cX8_saved 231 = .ok (.if_icmp .eq 9, 3) := by decide +kernel
theorem dX8_saved_234 : decode cX8_saved 234 = .ok (.aload_n 0, 1) := by decide +kernel
theorem dX8_saved_235 : decode cX8_saved 235 = .ok (.iload 4, 2) := by decide +kernel
theorem dX8_saved_237 : decode cX8_saved 237 = .ok (.invokevirtual 89, 3) := by decide +kernel
theorem dX8_saved_240 : decode cX8_saved 240 = .ok (.aload_n 0, 1) := by decide +kernel
theorem dX8_saved_241 : decode cX8_saved 241 = .ok (.iload_n 1, 1) := by decide +kernel
theorem dX8_saved_242 : decode cX8_saved 242 = .ok (.bipush 30, 2) := by decide +kernel
theorem dX8_saved_244 : decode cX8_saved 244 = .ok (.iadd, 1) := by decide +kernel
theorem dX8_saved_245 : decode cX8_saved 245 = .ok (.iload_n 2, 1) := by decide +kernel
theorem dX8_saved_246 : decode cX8_saved 246 = .ok (.iload_n 1, 1) := by decide +kernel
theorem dX8_saved_247 : decode cX8_saved 247 = .ok (.bipush 30, 2) := by decide +kernel
theorem dX8_saved_249 : decode cX8_saved 249 = .ok (.iadd, 1) := by decide +kernel
theorem dX8_saved_250 : decode cX8_saved 250 = .ok (.iload_n 2, 1) := by decide +kernel
theorem dX8_saved_251 : decode cX8_saved 251 = .ok (.iadd, 1) := by decide +kernel
theorem dX8_saved_252 : decode cX8_saved 252 = .ok (.iload_n 1, 1) := by decide +kernel
theorem dX8_saved_253 : decode cX8_saved 253 = .ok (.bipush 8, 2) := by decide +kernel
theorem dX8_saved_255 : decode cX8_saved 255 = .ok (.iadd, 1) := by decide +kernel
theorem dX8_saved_256 : decode cX8_saved 256 = .ok (.invokevirtual 189, 3) := by decide +kernel
theorem dX8_saved_259 : decode cX8_saved 259 = .ok (.bipush 30, 2) := by decide +kernel
theorem dX8_saved_261 : decode cX8_saved 261 = .ok (.iload_n 2, 1) := by decide +kernel
theorem dX8_saved_262 : decode cX8_saved 262 = .ok (.iadd, 1) := by decide +kernel
theorem dX8_saved_263 : decode cX8_saved 263 = .ok (.iload_n 3, 1) := by decide +kernel
theorem dX8_saved_264 : decode cX8_saved 264 = .ok (.iadd, 1) := by decide +kernel
theorem dX8_saved_265 : decode cX8_saved 265 = .ok (.ireturn, 1) := by decide +kernel
theorem dX8_save_0 : decode cX8_save 0 = .ok (.aload_n 0, 1) := by decide +kernel
theorem dX8_save_1 : decode cX8_save 1 = .ok (.iconst 0, 1) := by decide +kernel
theorem dX8_save_2 : decode cX8_save 2 = .ok (.putfield 50, 3) := by decide +kernel
theorem dX8_save_5 : decode cX8_save 5 = .ok (.iconst 0, 1) := by decide +kernel
theorem dX8_save_6 : decode cX8_save 6 = .ok (.istore_n 1, 1) := by decide +kernel
theorem dX8_save_7 : decode cX8_save 7 = .ok (.iconst 0, 1) := by decide +kernel
theorem dX8_save_8 : decode cX8_save 8 = .ok (.istore_n 2, 1) := by decide +kernel
theorem dX8_save_9 : decode cX8_save 9 = .ok (.iload_n 2, 1) := by decide +kernel
theorem dX8_save_10 : decode cX8_save 10 = .ok (.aload_n 0, 1) := by decide +kernel
theorem dX8_save_11 : decode cX8_save 11 = .ok (.getfield 53, 3) := by decide +kernel
theorem dX8_save_14 : decode cX8_save 14 = .ok (.if_icmp .ge 36, 3) := by decide +kernel
theorem dX8_save_17 : decode cX8_save 17 = .ok (.aload_n 0, 1) := by decide +kernel
theorem dX8_save_18 : decode cX8_save 18 = .ok (.iload_n 2, 1) := by decide +kernel
theorem dX8_save_19 : decode cX8_save 19 = .ok (.invokevirtual 193, 3) := by decide +kernel
theorem dX8_save_22 : decode cX8_save 22 = .ok (.istore_n 3, 1) := by decide +kernel
theorem dX8_save_23 : decode cX8_save 23 = .ok (.iload_n 1, 1) := by decide +kernel
theorem dX8_save_24 : decode cX8_save 24 = .ok (.iload_n 3, 1) := by decide +kernel
theorem dX8_save_25 : decode cX8_save 25 = .ok (.ifCond .le 7, 3) := by decide +kernel
theorem dX8_save_28 : decode cX8_save 28 = .ok (.iconst 1, 1) := by decide +kernel
theorem dX8_save_29 : decode cX8_save 29 = .ok (.goto 4, 3) := by decide +kernel
theorem dX8_save_32 : decode cX8_save 32 = .ok (.iconst 0, 1) := by decide +kernel
theorem dX8_save_33 : decode cX8_save 33 = .ok (.iadd, 1) := by decide +kernel
theorem dX8_save_34 : decode cX8_save 34 = .ok (.istore_n 1, 1) := by decide +kernel
theorem dX8_save_35 : decode cX8_save 35 = .ok (.iload_n 2, 1) := by decide +kernel
theorem dX8_save_36 : decode cX8_save 36 = .ok (.iload_n 3, 1) := by decide +kernel
theorem dX8_save_37 : decode cX8_save 37 = .ok (.ifCond .le 7, 3) := by decide +kernel
theorem dX8_save_40 : decode cX8_save 40 = .ok (.iload_n 3, 1) := by decide +kernel
theorem dX8_save_41 : decode cX8_save 41 = .ok (.goto 4, 3) := by decide +kernel
theorem dX8_save_44 : decode cX8_save 44 = .ok (.iconst 1, 1) := by decide +kernel
theorem dX8_save_45 : decode cX8_save 45 = .ok (.iadd, 1) := by decide +kernel
theorem dX8_save_46 : decode cX8_save 46 = .ok (.istore_n 2, 1) := by decide +kernel
theorem dX8_save_47 : decode cX8_save 47 = .ok (.goto (-38), 3) := by decide +kernel
theorem dX8_save_50 : decode cX8_save 50 = .ok (.iload_n 1, 1) := by decide +kernel
theorem dX8_save_51 : decode cX8_save 51 = .ok (.ireturn, 1) := by decide +kernel
theorem dX8_file_0 : decode cX8_file 0 = .ok (.aload_n 0, 1) := by decide +kernel
theorem dX8_file_1 : decode cX8_file 1 = .ok (.iconst 0, 1) := by decide +kernel
theorem dX8_file_2 : decode cX8_file 2 = .ok (.putfield 50, 3) := by decide +kernel
theorem dX8_file_5 : decode cX8_file 5 = .ok (.aload_n 0, 1) := by decide +kernel
theorem dX8_file_6 : decode cX8_file 6 = .ok (.iload_n 1, 1) := by decide +kernel
theorem dX8_file_7 : decode cX8_file 7 = .ok (.invokevirtual 85, 3) := by decide +kernel
theorem dX8_file_10 : decode cX8_file 10 = .ok (.ifCond .ne 5, 3) := by decide +kernel
theorem dX8_file_13 : decode cX8_file 13 = .ok (.iconst (-1), 1) := by decide +kernel
theorem dX8_file_14 : decode cX8_file 14 = .ok (.ireturn, 1) := by decide +kernel
theorem dX8_file_15 : decode cX8_file 15 = .ok (.iload_n 2, 1) := by decide +kernel
theorem dX8_file_16 : decode cX8_file 16 = .ok (.tableswitch 68 0 4 #[36, 43, 50, 56, 62], 36) := by decide +kernel
theorem dX8_file_52 : decode cX8_file 52 = .ok (.aload_n 0, 1) := by decide +kernel
theorem dX8_file_53 : decode cX8_file 53 = .ok (.getfield 22, 3) := by decide +kernel
theorem dX8_file_56 : decode cX8_file 56 = .ok (.iload_n 1, 1) := by decide +kernel
theorem dX8_file_57 : decode cX8_file 57 = .ok (.iaload, 1) := by decide +kernel
theorem dX8_file_58 : decode cX8_file 58 = .ok (.ireturn, 1) := by decide +kernel
theorem dX8_file_59 : decode cX8_file 59 = .ok (.aload_n 0, 1) := by decide +kernel
theorem dX8_file_60 : decode cX8_file 60 = .ok (.getfield 28, 3) := by decide +kernel
theorem dX8_file_63 : decode cX8_file 63 = .ok (.iload_n 1, 1) := by decide +kernel
theorem dX8_file_64 : decode cX8_file 64 = .ok (.iaload, 1) := by decide +kernel
theorem dX8_file_65 : decode cX8_file 65 = .ok (.ireturn, 1) := by decide +kernel
theorem dX8_file_66 : decode cX8_file 66 = .ok (.aload_n 0, 1) := by decide +kernel
theorem dX8_file_67 : decode cX8_file 67 = .ok (.iload_n 1, 1) := by decide +kernel
theorem dX8_file_68 : decode cX8_file 68 = .ok (.invokevirtual 120, 3) := by decide +kernel
theorem dX8_file_71 : decode cX8_file 71 = .ok (.ireturn, 1) := by decide +kernel
theorem dX8_file_72 : decode cX8_file 72 = .ok (.aload_n 0, 1) := by decide +kernel
theorem dX8_file_73 : decode cX8_file 73 = .ok (.iload_n 1, 1) := by decide +kernel
theorem dX8_file_74 : decode cX8_file 74 = .ok (.invokevirtual 109, 3) := by decide +kernel
theorem dX8_file_77 : decode cX8_file 77 = .ok (.ireturn, 1) := by decide +kernel
theorem dX8_file_78 : decode cX8_file 78 = .ok (.aload_n 0, 1) := by decide +kernel
theorem dX8_file_79 : decode cX8_file 79 = .ok (.iload_n 1, 1) := by decide +kernel
theorem dX8_file_80 : decode cX8_file 80 = .ok (.invokevirtual 117, 3) := by decide +kernel
theorem dX8_file_83 : decode cX8_file 83 = .ok (.ireturn, 1) := by decide +kernel
theorem dX8_file_84 : decode cX8_file 84 = .ok (.iconst (-1), 1) := by decide +kernel
theorem dX8_file_85 : decode cX8_file 85 = .ok (.ireturn, 1) := by decide +kernel
theorem dX8_letter_0 : decode cX8_letter 0 = .ok (.aload_n 0, 1) := by decide +kernel
theorem dX8_letter_1 : decode cX8_letter 1 = .ok (.iconst 0, 1) := by decide +kernel
theorem dX8_letter_2 : decode cX8_letter 2 = .ok (.putfield 50, 3) := by decide +kernel
theorem dX8_letter_5 : decode cX8_letter 5 = .ok (.aload_n 0, 1) := by decide +kernel
theorem dX8_letter_6 : decode cX8_letter 6 = .ok (.iload_n 1, 1) := by decide +kernel
theorem dX8_letter_7 : decode cX8_letter 7 = .ok (.invokevirtual 85, 3) := by decide +kernel
theorem dX8_letter_10 : decode cX8_letter 10 = .ok (.ifCond .eq 30, 3) := by decide +kernel
theorem dX8_letter_13 : decode cX8_letter 13 = .ok (.iload_n 3, 1) := by decide +kernel
theorem dX8_letter_14 : decode cX8_letter 14 = .ok (.ifCond .lt 26, 3) := by decide +kernel
theorem dX8_letter_17 : decode cX8_letter 17 = .ok (.iload_n 3, 1) := by decide +kernel
theorem dX8_letter_18 : decode cX8_letter 18 = .ok (.iload_n 2, 1) := by decide +kernel
theorem dX8_letter_19 : decode cX8_letter 19 = .ok (.ifCond .eq 12, 3) := by decide +kernel
theorem dX8_letter_22 : decode cX8_letter 22 = .ok (.aload_n 0, 1) := by decide +kernel
theorem dX8_letter_23 : decode cX8_letter 23 = .ok (.getfield 22, 3) := by decide +kernel
theorem dX8_letter_26 : decode cX8_letter 26 = .ok (.iload_n 1, 1) := by decide +kernel
theorem dX8_letter_27 : decode cX8_letter 27 = .ok (.iaload, 1) := by decide +kernel
theorem dX8_letter_28 : decode cX8_letter 28 = .ok (.goto 9, 3) := by decide +kernel
theorem dX8_letter_31 : decode cX8_letter 31 = .ok (.aload_n 0, 1) := by decide +kernel
theorem dX8_letter_32 : decode cX8_letter 32 = .ok (.getfield 28, 3) := by decide +kernel
theorem dX8_letter_35 : decode cX8_letter 35 = .ok (.iload_n 1, 1) := by decide +kernel
theorem dX8_letter_36 : decode cX8_letter 36 = .ok (.iaload, 1) := by decide +kernel
theorem dX8_letter_37 : decode cX8_letter 37 = .ok (.if_icmp .lt 5, 3) := by decide +kernel
theorem dX8_letter_40 : decode cX8_letter 40 = .ok (.iconst (-1), 1) := by decide +kernel
theorem dX8_letter_41 : decode cX8_letter 41 = .ok (.ireturn, 1) := by decide +kernel
theorem dX8_letter_42 : decode cX8_letter 42 = .ok (.iload_n 2, 1) := by decide +kernel
theorem dX8_letter_43 : decode cX8_letter 43 = .ok (.ifCond .eq 17, 3) := by decide +kernel
theorem dX8_letter_46 : decode cX8_letter 46 = .ok (.aload_n 0, 1) := by decide +kernel
theorem dX8_letter_47 : decode cX8_letter 47 = .ok (.getfield 19, 3) := by decide +kernel
theorem dX8_letter_50 : decode cX8_letter 50 = .ok (.bipush 30, 2) := by decide +kernel
theorem dX8_letter_52 : decode cX8_letter 52 = .ok (.iload_n 1, 1) := by decide +kernel
theorem dX8_letter_53 : decode cX8_letter 53 = .ok (.imul, 1) := by decide +kernel
theorem dX8_letter_54 : decode cX8_letter 54 = .ok (.iload_n 3, 1) := by decide +kernel
theorem dX8_letter_55 : decode cX8_letter 55 = .ok (.iadd, 1) := by decide +kernel
theorem dX8_letter_56 : decode cX8_letter 56 = .ok (.iaload, 1) := by decide +kernel
theorem dX8_letter_57 : decode cX8_letter 57 = .ok (.goto 15, 3) := by decide +kernel
theorem dX8_letter_60 : decode cX8_letter 60 = .ok (.aload_n 0, 1) := by decide +kernel
theorem dX8_letter_61 : decode cX8_letter 61 = .ok (.getfield 25, 3) := by decide +kernel
theorem dX8_letter_64 : decode cX8_letter 64 = .ok (.sipush 1500, 3) := by decide +kernel
theorem dX8_letter_67 : decode cX8_letter 67 = .ok (.iload_n 1, 1) := by decide +kernel
theorem dX8_letter_68 : decode cX8_letter 68 = .ok (.imul, 1) := by decide +kernel
theorem dX8_letter_69 : decode cX8_letter 69 = .ok (.iload_n 3, 1) := by decide +kernel
theorem dX8_letter_70 : decode cX8_letter 70 = .ok (.iadd, 1) := by decide +kernel
theorem dX8_letter_71 : decode cX8_letter 71 = .ok (.iaload, 1) := by decide +kernel
theorem dX8_letter_72 : decode cX8_letter 72 = .ok (.ireturn, 1) := by decide +kernel
theorem dX8_find_0 : decode cX8_find 0 = .ok (.aload_n 0, 1) := by decide +kernel
theorem dX8_find_1 : decode cX8_find 1 = .ok (.iconst 0, 1) := by decide +kernel
theorem dX8_find_2 : decode cX8_find 2 = .ok (.putfield 50, 3) := by decide +kernel
theorem dX8_find_5 : decode cX8_find 5 = .ok (.aload_n 0, 1) := by decide +kernel
theorem dX8_find_6 : decode cX8_find 6 = .ok (.iconst 0, 1) := by decide +kernel
theorem dX8_find_7 : decode cX8_find 7 = .ok (.aload_n 0, 1) := by decide +kernel
theorem dX8_find_8 : decode cX8_find 8 = .ok (.getfield 53, 3) := by decide +kernel
theorem dX8_find_11 : decode cX8_find 11 = .ok (.invokevirtual 66, 3) := by decide +kernel
theorem dX8_find_14 : decode cX8_find 14 = .ok (.ifCond .eq 19, 3) := by decide +kernel
theorem dX8_find_17 : decode cX8_find 17 = .ok (.aload_n 0, 1) := by decide +kernel
theorem dX8_find_18 : decode cX8_find 18 = .ok (.iconst 0, 1) := by decide +kernel
theorem dX8_find_19 : decode cX8_find 19 = .ok (.aload_n 0, 1) := by decide +kernel
theorem dX8_find_20 : decode cX8_find 20 = .ok (.getfield 53, 3) := by decide +kernel
theorem dX8_find_23 : decode cX8_find 23 = .ok (.aload_n 0, 1) := by decide +kernel
theorem dX8_find_24 : decode cX8_find 24 = .ok (.getfield 59, 3) := by decide +kernel
theorem dX8_find_27 : decode cX8_find 27 = .ok (.invokevirtual 70, 3) := by decide +kernel
theorem dX8_find_30 : decode cX8_find 30 = .ok (.goto 4, 3) := by decide +kernel
theorem dX8_find_33 : decode cX8_find 33 = .ok (.iconst (-1), 1) := by decide +kernel
theorem dX8_find_34 : decode cX8_find 34 = .ok (.ireturn, 1) := by decide +kernel
theorem dX8_output_0 : decode cX8_output 0 = .ok (.aload_n 0, 1) := by decide +kernel
theorem dX8_output_1 : decode cX8_output 1 = .ok (.iconst 0, 1) := by decide +kernel
theorem dX8_output_2 : decode cX8_output 2 = .ok (.putfield 50, 3) := by decide +kernel
theorem dX8_output_5 : decode cX8_output 5 = .ok (.iload_n 1, 1) := by decide +kernel
theorem dX8_output_6 : decode cX8_output 6 = .ok (.ifCond .lt 11, 3) := by decide +kernel
theorem dX8_output_9 : decode cX8_output 9 = .ok (.iload_n 1, 1) := by decide +kernel
theorem dX8_output_10 : decode cX8_output 10 = .ok (.aload_n 0, 1) := by decide +kernel
theorem dX8_output_11 : decode cX8_output 11 = .ok (.getfield 56, 3) := by decide +kernel
theorem dX8_output_14 : decode cX8_output 14 = .ok (.if_icmp .lt 7, 3) := by decide +kernel
theorem dX8_output_17 : decode cX8_output 17 = .ok (.iconst (-1), 1) := by decide +kernel
theorem dX8_output_18 : decode cX8_output 18 = .ok (.goto 9, 3) := by decide +kernel
theorem dX8_output_21 : decode cX8_output 21 = .ok (.aload_n 0, 1) := by decide +kernel
theorem dX8_output_22 : decode cX8_output 22 = .ok (.getfield 16, 3) := by decide +kernel
theorem dX8_output_25 : decode cX8_output 25 = .ok (.iload_n 1, 1) := by decide +kernel
theorem dX8_output_26 : decode cX8_output 26 = .ok (.iaload, 1) := by decide +kernel
theorem dX8_output_27 : decode cX8_output 27 = .ok (.ireturn, 1) := by decide +kernel
theorem dX8_about_0 : decode cX8_about 0 = .ok (.aload_n 0, 1) := by decide +kernel
theorem dX8_about_1 : decode cX8_about 1 = .ok (.iconst 0, 1) := by decide +kernel
theorem dX8_about_2 : decode cX8_about 2 = .ok (.putfield 50, 3) := by decide +kernel
theorem dX8_about_5 : decode cX8_about 5 = .ok (.iload_n 1, 1) := by decide +kernel
theorem dX8_about_6 : decode cX8_about 6 = .ok (.ifCond .ne 10, 3) := by decide +kernel
theorem dX8_about_9 : decode cX8_about 9 = .ok (.aload_n 0, 1) := by decide +kernel
theorem dX8_about_10 : decode cX8_about 10 = .ok (.getfield 53, 3) := by decide +kernel
theorem dX8_about_13 : decode cX8_about 13 = .ok (.goto 40, 3) := by decide +kernel
theorem dX8_about_16 : decode cX8_about 16 = .ok (.iload_n 1, 1) := by decide +kernel
theorem dX8_about_17 : decode cX8_about 17 = .ok (.iconst 1, 1) := by decide +kernel
theorem dX8_about_18 : decode cX8_about 18 = .ok (.if_icmp .ne 10, 3) := by decide +kernel
theorem dX8_about_21 : decode cX8_about 21 = .ok (.aload_n 0, 1) := by decide +kernel
theorem dX8_about_22 : decode cX8_about 22 = .ok (.getfield 56, 3) := by decide +kernel
theorem dX8_about_25 : decode cX8_about 25 = .ok (.goto 28, 3) := by decide +kernel
theorem dX8_about_28 : decode cX8_about 28 = .ok (.iload_n 1, 1) := by decide +kernel
theorem dX8_about_29 : decode cX8_about 29 = .ok (.iconst 2, 1) := by decide +kernel
theorem dX8_about_30 : decode cX8_about 30 = .ok (.if_icmp .ne 10, 3) := by decide +kernel
theorem dX8_about_33 : decode cX8_about 33 = .ok (.aload_n 0, 1) := by decide +kernel
theorem dX8_about_34 : decode cX8_about 34 = .ok (.getfield 59, 3) := by decide +kernel
theorem dX8_about_37 : decode cX8_about 37 = .ok (.goto 16, 3) := by decide +kernel
theorem dX8_about_40 : decode cX8_about 40 = .ok (.iload_n 1, 1) := by decide +kernel
theorem dX8_about_41 : decode cX8_about 41 = .ok (.iconst 3, 1) := by decide +kernel
theorem dX8_about_42 : decode cX8_about 42 = .ok (.if_icmp .ne 10, 3) := by decide +kernel
theorem dX8_about_45 : decode cX8_about 45 = .ok (.aload_n 0, 1) := by decide +kernel
theorem dX8_about_46 : decode cX8_about 46 = .ok (.invokevirtual 74, 3) := by decide +kernel
theorem dX8_about_49 : decode cX8_about 49 = .ok (.goto 4, 3) := by decide +kernel
theorem dX8_about_52 : decode cX8_about 52 = .ok (.iconst (-1), 1) := by decide +kernel
theorem dX8_about_53 : decode cX8_about 53 = .ok (.ireturn, 1) := by decide +kernel
theorem dJ9_abs_0f7a4_0 : decode cJ9_abs_0f7a4 0 = .ok (.iload_n 0, 1) := by decide +kernel
theorem dJ9_abs_0f7a4_1 : decode cJ9_abs_0f7a4 1 = .ok (.ifCond .ge 8, 3) := by decide +kernel
theorem dJ9_abs_0f7a4_4 : decode cJ9_abs_0f7a4 4 = .ok (.iload_n 0, 1) := by decide +kernel
theorem dJ9_abs_0f7a4_5 : decode cJ9_abs_0f7a4 5 = .ok (.ineg, 1) := by decide +kernel
theorem dJ9_abs_0f7a4_6 : decode cJ9_abs_0f7a4 6 = .ok (.goto 4, 3) := by decide +kernel
theorem dJ9_abs_0f7a4_9 : decode cJ9_abs_0f7a4 9 = .ok (.iload_n 0, 1) := by decide +kernel
theorem dJ9_abs_0f7a4_10 : decode cJ9_abs_0f7a4 10 = .ok (.ireturn, 1) := by decide +kernel
theorem dJ9_max_7cf53_0 : decode cJ9_max_7cf53 0 = .ok (.iload_n 0, 1) := by decide +kernel
theorem dJ9_max_7cf53_1 : decode cJ9_max_7cf53 1 = .ok (.iload_n 1, 1) := by decide +kernel
theorem dJ9_max_7cf53_2 : decode cJ9_max_7cf53 2 = .ok (.if_icmp .lt 7, 3) := by decide +kernel
theorem dJ9_max_7cf53_5 : decode cJ9_max_7cf53 5 = .ok (.iload_n 0, 1) := by decide +kernel
theorem dJ9_max_7cf53_6 : decode cJ9_max_7cf53 6 = .ok (.goto 4, 3) := by decide +kernel
theorem dJ9_max_7cf53_9 : decode cJ9_max_7cf53 9 = .ok (.iload_n 1, 1) := by decide +kernel
theorem dJ9_max_7cf53_10 : decode cJ9_max_7cf53 10 = .ok (.ireturn, 1) := by decide +kernel
theorem dJ9_min_7cf53_0 : decode cJ9_min_7cf53 0 = .ok (.iload_n 0, 1) := by decide +kernel
theorem dJ9_min_7cf53_1 : decode cJ9_min_7cf53 1 = .ok (.iload_n 1, 1) := by decide +kernel
theorem dJ9_min_7cf53_2 : decode cJ9_min_7cf53 2 = .ok (.if_icmp .gt 7, 3) := by decide +kernel
theorem dJ9_min_7cf53_5 : decode cJ9_min_7cf53 5 = .ok (.iload_n 0, 1) := by decide +kernel
theorem dJ9_min_7cf53_6 : decode cJ9_min_7cf53 6 = .ok (.goto 4, 3) := by decide +kernel
theorem dJ9_min_7cf53_9 : decode cJ9_min_7cf53 9 = .ok (.iload_n 1, 1) := by decide +kernel
theorem dJ9_min_7cf53_10 : decode cJ9_min_7cf53 10 = .ok (.ireturn, 1) := by decide +kernel
theorem dL_take_0 : decode cL_take 0 = .ok (.aload_n 1, 1) := by decide +kernel
theorem dL_take_1 : decode cL_take 1 = .ok (.iconst 0, 1) := by decide +kernel
theorem dL_take_2 : decode cL_take 2 = .ok (.aload_n 0, 1) := by decide +kernel
theorem dL_take_3 : decode cL_take 3 = .ok (.invokevirtual 7, 3) := by decide +kernel
theorem dL_take_6 : decode cL_take 6 = .ok (.i2l, 1) := by decide +kernel
theorem dL_take_7 : decode cL_take 7 = .ok (.lastore, 1) := by decide +kernel
theorem dL_take_8 : decode cL_take 8 = .ok (.goto 6, 3) := by decide +kernel
theorem dL_take_11 : decode cL_take 11 = .ok (.astore_n 2, 1) := by decide +kernel
theorem dL_take_12 : decode cL_take 12 = .ok (.iconst 1, 1) := by decide +kernel
theorem dL_take_13 : decode cL_take 13 = .ok (.ireturn, 1) := by decide +kernel
theorem dL_take_14 : decode cL_take 14 = .ok (.iconst 0, 1) := by decide +kernel
theorem dL_take_15 : decode cL_take 15 = .ok (.ireturn, 1) := by decide +kernel
theorem dL_add_0 : decode cL_add 0 = .ok (.aload_n 2, 1) := by decide +kernel
theorem dL_add_1 : decode cL_add 1 = .ok (.iconst 0, 1) := by decide +kernel
theorem dL_add_2 : decode cL_add 2 = .ok (.aload_n 0, 1) := by decide +kernel
theorem dL_add_3 : decode cL_add 3 = .ok (.iload_n 1, 1) := by decide +kernel
theorem dL_add_4 : decode cL_add 4 = .ok (.invokevirtual 15, 3) := by decide +kernel
theorem dL_add_7 : decode cL_add 7 = .ok (.i2l, 1) := by decide +kernel
theorem dL_add_8 : decode cL_add 8 = .ok (.lastore, 1) := by decide +kernel
end
section
theorem dL_add_9 : decode cL_add 9 = .ok (.goto 9, 3) := by decide +kernel
theorem dL_add_12 : decode cL_add 12 = .ok (.astore_n 3, 1) := by decide +kernel
theorem dL_add_13 : decode cL_add 13 = .ok (.iconst 1, 1) := by decide +kernel
theorem dL_add_14 : decode cL_add 14 = .ok (.ireturn, 1) := by decide +kernel
theorem dL_add_15 : decode cL_add 15 = .ok (.astore_n 3, 1) := by decide +kernel
theorem dL_add_16 : decode cL_add 16 = .ok (.iconst 2, 1) := by decide +kernel
theorem dL_add_17 : decode cL_add 17 = .ok (.ireturn, 1) := by decide +kernel
theorem dL_add_18 : decode cL_add 18 = .ok (.iconst 0, 1) := by decide +kernel
theorem dL_add_19 : decode cL_add 19 = .ok (.ireturn, 1) := by decide +kernel
theorem dL_replace_0 : decode cL_replace 0 = .ok (.aload_n 0, 1) := by decide +kernel
theorem dL_replace_1 : decode cL_replace 1 = .ok (.iload_n 1, 1) := by decide +kernel
theorem dL_replace_2 : decode cL_replace 2 = .ok (.invokevirtual 21, 3) := by decide +kernel
theorem dL_replace_5 : decode cL_replace 5 = .ok (.goto 12, 3) := by decide +kernel
theorem dL_replace_8 : decode cL_replace 8 = .ok (.astore_n 2, 1) := by decide +kernel
theorem dL_replace_9 : decode cL_replace 9 = .ok (.iconst 1, 1) := by decide +kernel
theorem dL_replace_10 : decode cL_replace 10 = .ok (.ireturn, 1) := by decide +kernel
theorem dL_replace_11 : decode cL_replace 11 = .ok (.astore_n 2, 1) := by decide +kernel
theorem dL_replace_12 : decode cL_replace 12 = .ok (.iconst 2, 1) := by decide +kernel
theorem dL_replace_13 : decode cL_replace 13 = .ok (.ireturn, 1) := by decide +kernel
theorem dL_replace_14 : decode cL_replace 14 = .ok (.astore_n 2, 1) := by decide +kernel
theorem dL_replace_15 : decode cL_replace 15 = .ok (.iconst 3, 1) := by decide +kernel
theorem dL_replace_16 : decode cL_replace 16 = .ok (.ireturn, 1) := by decide +kernel
theorem dL_replace_17 : decode cL_replace 17 = .ok (.iconst 0, 1) := by decide +kernel
theorem dL_replace_18 : decode cL_replace 18 = .ok (.ireturn, 1) := by decide +kernel
theorem dL_rename_0 : decode cL_rename 0 = .ok (.aload_n 0, 1) := by decide +kernel
theorem dL_rename_1 : decode cL_rename 1 = .ok (.iload_n 1, 1) := by decide +kernel
theorem dL_rename_2 : decode cL_rename 2 = .ok (.invokevirtual 27, 3) := by decide +kernel
theorem dL_rename_5 : decode cL_rename 5 = .ok (.goto 12, 3) := by decide +kernel
theorem dL_rename_8 : decode cL_rename 8 = .ok (.astore_n 2, 1) := by decide +kernel
theorem dL_rename_9 : decode cL_rename 9 = .ok (.iconst 1, 1) := by decide +kernel
theorem dL_rename_10 : decode cL_rename 10 = .ok (.ireturn, 1) := by decide +kernel
theorem dL_rename_11 : decode cL_rename 11 = .ok (.astore_n 2, 1) := by decide +kernel
theorem dL_rename_12 : decode cL_rename 12 = .ok (.iconst 2, 1) := by decide +kernel
theorem dL_rename_13 : decode cL_rename 13 = .ok (.ireturn, 1) := by decide +kernel
theorem dL_rename_14 : decode cL_rename 14 = .ok (.astore_n 2, 1) := by decide +kernel
theorem dL_rename_15 : decode cL_rename 15 = .ok (.iconst 3, 1) := by decide +kernel
theorem dL_rename_16 : decode cL_rename 16 = .ok (.ireturn, 1) := by decide +kernel
theorem dL_rename_17 : decode cL_rename 17 = .ok (.iconst 0, 1) := by decide +kernel
theorem dL_rename_18 : decode cL_rename 18 = .ok (.ireturn, 1) := by decide +kernel
theorem dL_remove_0 : decode cL_remove 0 = .ok (.aload_n 0, 1) := by decide +kernel
theorem dL_remove_1 : decode cL_remove 1 = .ok (.iload_n 1, 1) := by decide +kernel
theorem dL_remove_2 : decode cL_remove 2 = .ok (.invokevirtual 30, 3) := by decide +kernel
theorem dL_remove_5 : decode cL_remove 5 = .ok (.goto 6, 3) := by decide +kernel
theorem dL_remove_8 : decode cL_remove 8 = .ok (.astore_n 2, 1) := by decide +kernel
theorem dL_remove_9 : decode cL_remove 9 = .ok (.iconst 1, 1) := by decide +kernel
theorem dL_remove_10 : decode cL_remove 10 = .ok (.ireturn, 1) := by decide +kernel
theorem dL_remove_11 : decode cL_remove 11 = .ok (.iconst 0, 1) := by decide +kernel
theorem dL_remove_12 : decode cL_remove 12 = .ok (.ireturn, 1) := by decide +kernel
theorem dL_read_0 : decode cL_read 0 = .ok (.aload_n 1, 1) := by decide +kernel
theorem dL_read_1 : decode cL_read 1 = .ok (.iconst 0, 1) := by decide +kernel
theorem dL_read_2 : decode cL_read 2 = .ok (.aload_n 0, 1) := by decide +kernel
theorem dL_read_3 : decode cL_read 3 = .ok (.invokevirtual 33, 3) := by decide +kernel
theorem dL_read_6 : decode cL_read 6 = .ok (.i2l, 1) := by decide +kernel
theorem dL_read_7 : decode cL_read 7 = .ok (.lastore, 1) := by decide +kernel
theorem dL_read_8 : decode cL_read 8 = .ok (.goto 6, 3) := by decide +kernel
theorem dL_read_11 : decode cL_read 11 = .ok (.astore_n 2, 1) := by decide +kernel
theorem dL_read_12 : decode cL_read 12 = .ok (.iconst 1, 1) := by decide +kernel
theorem dL_read_13 : decode cL_read 13 = .ok (.ireturn, 1) := by decide +kernel
theorem dL_read_14 : decode cL_read 14 = .ok (.iconst 0, 1) := by decide +kernel
theorem dL_read_15 : decode cL_read 15 = .ok (.ireturn, 1) := by decide +kernel
theorem dL_law_0 : decode cL_law 0 = .ok (.new 8, 3) := by decide +kernel
theorem dL_law_3 : decode cL_law 3 = .ok (.dup, 1) := by decide +kernel
theorem dL_law_4 : decode cL_law 4 = .ok (.invokespecial 36, 3) := by decide +kernel
theorem dL_law_7 : decode cL_law 7 = .ok (.astore_n 1, 1) := by decide +kernel
theorem dL_law_8 : decode cL_law 8 = .ok (.new 37, 3) := by decide +kernel
theorem dL_law_11 : decode cL_law 11 = .ok (.dup, 1) := by decide +kernel
theorem dL_law_12 : decode cL_law 12 = .ok (.invokespecial 39, 3) := by decide +kernel
theorem dL_law_15 : decode cL_law 15 = .ok (.astore_n 2, 1) := by decide +kernel
theorem dL_law_16 : decode cL_law 16 = .ok (.iconst 1, 1) := by decide +kernel
theorem dL_law_17 : decode cL_law 17 = .ok (.newarray .long, 2) := by decide +kernel
theorem dL_law_19 : decode cL_law 19 = .ok (.astore_n 3, 1) := by decide +kernel
theorem dL_law_20 : decode cL_law 20 = .ok (.iconst 0, 1) := by decide +kernel
theorem dL_law_21 : decode cL_law 21 = .ok (.istore 4, 2) := by decide +kernel
theorem dL_law_23 : decode cL_law 23 = .ok (.iload 4, 2) := by decide +kernel
theorem dL_law_25 : decode cL_law 25 = .ok (.aload_n 0, 1) := by decide +kernel
theorem dL_law_26 : decode cL_law 26 = .ok (.arraylength, 1) := by decide +kernel
theorem dL_law_27 : decode cL_law 27 = .ok (.bipush 6, 2) := by decide +kernel
theorem dL_law_29 : decode cL_law 29 = .ok (.isub, 1) := by decide +kernel
theorem dL_law_30 : decode cL_law 30 = .ok (.if_icmp .gt 684, 3) := by decide +kernel
theorem dL_law_33 : decode cL_law 33 = .ok (.aload_n 0, 1) := by decide +kernel
theorem dL_law_34 : decode cL_law 34 = .ok (.iload 4, 2) := by decide +kernel
theorem dL_law_36 : decode cL_law 36 = .ok (.iaload, 1) := by decide +kernel
theorem dL_law_37 : decode cL_law 37 = .ok (.bipush 31, 2) := by decide +kernel
theorem dL_law_39 : decode cL_law 39 = .ok (.iand, 1) := by decide +kernel
theorem dL_law_40 : decode cL_law 40 = .ok (.tableswitch 668 0 20 #[100, 171, 208, 233, 258, 295, 311, 339, 364, 389, 414, 425, 436, 449, 465, 490, 503, 540, 605, 618, 643], 100) := by decide +kernel
theorem dL_law_140 : decode cL_law 140 = .ok (.aload_n 1, 1) := by decide +kernel
theorem dL_law_141 : decode cL_law 141 = .ok (.aload_n 0, 1) := by decide +kernel
theorem dL_law_142 : decode cL_law 142 = .ok (.iload 4, 2) := by decide +kernel
theorem dL_law_144 : decode cL_law 144 = .ok (.iconst 1, 1) := by decide +kernel
theorem dL_law_145 : decode cL_law 145 = .ok (.iadd, 1) := by decide +kernel
theorem dL_law_146 : decode cL_law 146 = .ok (.iaload, 1) := by decide +kernel
theorem dL_law_147 : decode cL_law 147 = .ok (.aload_n 0, 1) := by decide +kernel
theorem dL_law_148 : decode cL_law 148 = .ok (.iload 4, 2) := by decide +kernel
theorem dL_law_150 : decode cL_law 150 = .ok (.iconst 2, 1) := by decide +kernel
theorem dL_law_151 : decode cL_law 151 = .ok (.iadd, 1) := by decide +kernel
theorem dL_law_152 : decode cL_law 152 = .ok (.iaload, 1) := by decide +kernel
theorem dL_law_153 : decode cL_law 153 = .ok (.aload_n 0, 1) := by decide +kernel
theorem dL_law_154 : decode cL_law 154 = .ok (.iload 4, 2) := by decide +kernel
theorem dL_law_156 : decode cL_law 156 = .ok (.iconst 3, 1) := by decide +kernel
theorem dL_law_157 : decode cL_law 157 = .ok (.iadd, 1) := by decide +kernel
theorem dL_law_158 : decode cL_law 158 = .ok (.iaload, 1) := by decide +kernel
theorem dL_law_159 : decode cL_law 159 = .ok (.aload_n 0, 1) := by decide +kernel
theorem dL_law_160 : decode cL_law 160 = .ok (.iload 4, 2) := by decide +kernel
theorem dL_law_162 : decode cL_law 162 = .ok (.iconst 4, 1) := by decide +kernel
theorem dL_law_163 : decode cL_law 163 = .ok (.iadd, 1) := by decide +kernel
theorem dL_law_164 : decode cL_law 164 = .ok (.iaload, 1) := by decide +kernel
theorem dL_law_165 : decode cL_law 165 = .ok (.aload_n 0, 1) := by decide +kernel
theorem dL_law_166 : decode cL_law 166 = .ok (.iload 4, 2) := by decide +kernel
theorem dL_law_168 : decode cL_law 168 = .ok (.iconst 5, 1) := by decide +kernel
theorem dL_law_169 : decode cL_law 169 = .ok (.iadd, 1) := by decide +kernel
theorem dL_law_170 : decode cL_law 170 = .ok (.iaload, 1) := by decide +kernel
theorem dL_law_171 : decode cL_law 171 = .ok (.invokevirtual 40, 3) := by decide +kernel
theorem dL_law_174 : decode cL_law 174 = .ok (.aload_n 2, 1) := by decide +kernel
theorem dL_law_175 : decode cL_law 175 = .ok (.aload_n 0, 1) := by decide +kernel
theorem dL_law_176 : decode cL_law 176 = .ok (.iload 4, 2) := by decide +kernel
theorem dL_law_178 : decode cL_law 178 = .ok (.iconst 1, 1) := by decide +kernel
theorem dL_law_179 : decode cL_law 179 = .ok (.iadd, 1) := by decide +kernel
theorem dL_law_180 : decode cL_law 180 = .ok (.iaload, 1) := by decide +kernel
theorem dL_law_181 : decode cL_law 181 = .ok (.aload_n 0, 1) := by decide +kernel
theorem dL_law_182 : decode cL_law 182 = .ok (.iload 4, 2) := by decide +kernel
theorem dL_law_184 : decode cL_law 184 = .ok (.iconst 2, 1) := by decide +kernel
theorem dL_law_185 : decode cL_law 185 = .ok (.iadd, 1) := by decide +kernel
theorem dL_law_186 : decode cL_law 186 = .ok (.iaload, 1) := by decide +kernel
theorem dL_law_187 : decode cL_law 187 = .ok (.aload_n 0, 1) := by decide +kernel
theorem dL_law_188 : decode cL_law 188 = .ok (.iload 4, 2) := by decide +kernel
theorem dL_law_190 : decode cL_law 190 = .ok (.iconst 3, 1) := by decide +kernel
theorem dL_law_191 : decode cL_law 191 = .ok (.iadd, 1) := by decide +kernel
theorem dL_law_192 : decode cL_law 192 = .ok (.iaload, 1) := by decide +kernel
theorem dL_law_193 : decode cL_law 193 = .ok (.aload_n 0, 1) := by decide +kernel
theorem dL_law_194 : decode cL_law 194 = .ok (.iload 4, 2) := by decide +kernel
theorem dL_law_196 : decode cL_law 196 = .ok (.iconst 4, 1) := by decide +kernel
theorem dL_law_197 : decode cL_law 197 = .ok (.iadd, 1) := by decide +kernel
theorem dL_law_198 : decode cL_law 198 = .ok (.iaload, 1) := by decide +kernel
theorem dL_law_199 : decode cL_law 199 = .ok (.aload_n 0, 1) := by decide +kernel
theorem dL_law_200 : decode cL_law 200 = .ok (.iload 4, 2) := by decide +kernel
theorem dL_law_202 : decode cL_law 202 = .ok (.iconst 5, 1) := by decide +kernel
theorem dL_law_203 : decode cL_law 203 = .ok (.iadd, 1) := by decide +kernel
theorem dL_law_204 : decode cL_law 204 = .ok (.iaload, 1) := by decide +kernel
theorem dL_law_205 : decode cL_law 205 = .ok (.invokevirtual 44, 3) := by decide +kernel
theorem dL_law_208 : decode cL_law 208 = .ok (.goto 500, 3) := by decide +kernel
theorem dL_law_211 : decode cL_law 211 = .ok (.aload_n 1, 1) := by decide +kernel
theorem dL_law_212 : decode cL_law 212 = .ok (.aload_n 0, 1) := by decide +kernel
theorem dL_law_213 : decode cL_law 213 = .ok (.iload 4, 2) := by decide +kernel
theorem dL_law_215 : decode cL_law 215 = .ok (.iconst 1, 1) := by decide +kernel
theorem dL_law_216 : decode cL_law 216 = .ok (.iadd, 1) := by decide +kernel
theorem dL_law_217 : decode cL_law 217 = .ok (.iaload, 1) := by decide +kernel
theorem dL_law_218 : decode cL_law 218 = .ok (.aload_n 0, 1) := by decide +kernel
theorem dL_law_219 : decode cL_law 219 = .ok (.iload 4, 2) := by decide +kernel
theorem dL_law_221 : decode cL_law 221 = .ok (.iconst 2, 1) := by decide +kernel
theorem dL_law_222 : decode cL_law 222 = .ok (.iadd, 1) := by decide +kernel
theorem dL_law_223 : decode cL_law 223 = .ok (.iaload, 1) := by decide +kernel
theorem dL_law_224 : decode cL_law 224 = .ok (.invokevirtual 45, 3) := by decide +kernel
theorem dL_law_227 : decode cL_law 227 = .ok (.aload_n 2, 1) := by decide +kernel
theorem dL_law_228 : decode cL_law 228 = .ok (.aload_n 0, 1) := by decide +kernel
theorem dL_law_229 : decode cL_law 229 = .ok (.iload 4, 2) := by decide +kernel
theorem dL_law_231 : decode cL_law 231 = .ok (.iconst 1, 1) := by decide +kernel
theorem dL_law_232 : decode cL_law 232 = .ok (.iadd, 1) := by decide +kernel
theorem dL_law_233 : decode cL_law 233 = .ok (.iaload, 1) := by decide +kernel
theorem dL_law_234 : decode cL_law 234 = .ok (.aload_n 0, 1) := by decide +kernel
theorem dL_law_235 : decode cL_law 235 = .ok (.iload 4, 2) := by decide +kernel
theorem dL_law_237 : decode cL_law 237 = .ok (.iconst 2, 1) := by decide +kernel
theorem dL_law_238 : decode cL_law 238 = .ok (.iadd, 1) := by decide +kernel
theorem dL_law_239 : decode cL_law 239 = .ok (.iaload, 1) := by decide +kernel
theorem dL_law_240 : decode cL_law 240 = .ok (.invokevirtual 49, 3) := by decide +kernel
theorem dL_law_243 : decode cL_law 243 = .ok (.if_icmp .eq 465, 3) := by decide +kernel
theorem dL_law_246 : decode cL_law 246 = .ok (.iconst 0, 1) := by decide +kernel
theorem dL_law_247 : decode cL_law 247 = .ok (.ireturn, 1) := by decide +kernel
theorem dL_law_248 : decode cL_law 248 = .ok (.aload_n 1, 1) := by decide +kernel
theorem dL_law_249 : decode cL_law 249 = .ok (.aload_n 0, 1) := by decide +kernel
theorem dL_law_250 : decode cL_law 250 = .ok (.iload 4, 2) := by decide +kernel
theorem dL_law_252 : decode cL_law 252 = .ok (.iconst 1, 1) := by decide +kernel
theorem dL_law_253 : decode cL_law 253 = .ok (.iadd, 1) := by decide +kernel
theorem dL_law_254 : decode cL_law 254 = .ok (.iaload, 1) := by decide +kernel
theorem dL_law_255 : decode cL_law 255 = .ok (.invokevirtual 50, 3) := by decide +kernel
theorem dL_law_258 : decode cL_law 258 = .ok (.pop, 1) := by decide +kernel
theorem dL_law_259 : decode cL_law 259 = .ok (.aload_n 2, 1) := by decide +kernel
theorem dL_law_260 : decode cL_law 260 = .ok (.aload_n 0, 1) := by decide +kernel
theorem dL_law_261 : decode cL_law 261 = .ok (.iload 4, 2) := by decide +kernel
theorem dL_law_263 : decode cL_law 263 = .ok (.iconst 1, 1) := by decide +kernel
theorem dL_law_264 : decode cL_law 264 = .ok (.iadd, 1) := by decide +kernel
theorem dL_law_265 : decode cL_law 265 = .ok (.iaload, 1) := by decide +kernel
theorem dL_law_266 : decode cL_law 266 = .ok (.invokevirtual 54, 3) := by decide +kernel
theorem dL_law_269 : decode cL_law 269 = .ok (.pop, 1) := by decide +kernel
theorem dL_law_270 : decode cL_law 270 = .ok (.goto 438, 3) := by decide +kernel
theorem dL_law_273 : decode cL_law 273 = .ok (.aload_n 1, 1) := by decide +kernel
theorem dL_law_274 : decode cL_law 274 = .ok (.aload_n 0, 1) := by decide +kernel
theorem dL_law_275 : decode cL_law 275 = .ok (.iload 4, 2) := by decide +kernel
theorem dL_law_277 : decode cL_law 277 = .ok (.iconst 1, 1) := by decide +kernel
theorem dL_law_278 : decode cL_law 278 = .ok (.iadd, 1) := by decide +kernel
theorem dL_law_279 : decode cL_law 279 = .ok (.iaload, 1) := by decide +kernel
theorem dL_law_280 : decode cL_law 280 = .ok (.invokevirtual 55, 3) := by decide +kernel
theorem dL_law_283 : decode cL_law 283 = .ok (.pop, 1) := by decide +kernel
theorem dL_law_284 : decode cL_law 284 = .ok (.aload_n 2, 1) := by decide +kernel
theorem dL_law_285 : decode cL_law 285 = .ok (.aload_n 0, 1) := by decide +kernel
theorem dL_law_286 : decode cL_law 286 = .ok (.iload 4, 2) := by decide +kernel
theorem dL_law_288 : decode cL_law 288 = .ok (.iconst 1, 1) := by decide +kernel
theorem dL_law_289 : decode cL_law 289 = .ok (.iadd, 1) := by decide +kernel
theorem dL_law_290 : decode cL_law 290 = .ok (.iaload, 1) := by decide +kernel
theorem dL_law_291 : decode cL_law 291 = .ok (.invokevirtual 58, 3) := by decide +kernel
theorem dL_law_294 : decode cL_law 294 = .ok (.pop, 1) := by decide +kernel
theorem dL_law_295 : decode cL_law 295 = .ok (.goto 413, 3) := by decide +kernel
theorem dL_law_298 : decode cL_law 298 = .ok (.aload_n 1, 1) := by decide +kernel
theorem dL_law_299 : decode cL_law 299 = .ok (.aload_n 0, 1) := by decide +kernel
theorem dL_law_300 : decode cL_law 300 = .ok (.iload 4, 2) := by decide +kernel
theorem dL_law_302 : decode cL_law 302 = .ok (.iconst 1, 1) := by decide +kernel
theorem dL_law_303 : decode cL_law 303 = .ok (.iadd, 1) := by decide +kernel
theorem dL_law_304 : decode cL_law 304 = .ok (.iaload, 1) := by decide +kernel
theorem dL_law_305 : decode cL_law 305 = .ok (.aload_n 0, 1) := by decide +kernel
theorem dL_law_306 : decode cL_law 306 = .ok (.iload 4, 2) := by decide +kernel
theorem dL_law_308 : decode cL_law 308 = .ok (.iconst 2, 1) := by decide +kernel
theorem dL_law_309 : decode cL_law 309 = .ok (.iadd, 1) := by decide +kernel
theorem dL_law_310 : decode cL_law 310 = .ok (.iaload, 1) := by decide +kernel
theorem dL_law_311 : decode cL_law 311 = .ok (.invokevirtual 59, 3) := by decide +kernel
theorem dL_law_314 : decode cL_law 314 = .ok (.pop, 1) := by decide +kernel
theorem dL_law_315 : decode cL_law 315 = .ok (.aload_n 2, 1) := by decide +kernel
theorem dL_law_316 : decode cL_law 316 = .ok (.aload_n 0, 1) := by decide +kernel
theorem dL_law_317 : decode cL_law 317 = .ok (.iload 4, 2) := by decide +kernel
theorem dL_law_319 : decode cL_law 319 = .ok (.iconst 1, 1) := by decide +kernel
theorem dL_law_320 : decode cL_law 320 = .ok (.iadd, 1) := by decide +kernel
theorem dL_law_321 : decode cL_law 321 = .ok (.iaload, 1) := by decide +kernel
theorem dL_law_322 : decode cL_law 322 = .ok (.aload_n 0, 1) := by decide +kernel
theorem dL_law_323 : decode cL_law 323 = .ok (.iload 4, 2) := by decide +kernel
theorem dL_law_325 : decode cL_law 325 = .ok (.iconst 2, 1) := by decide +kernel
theorem dL_law_326 : decode cL_law 326 = .ok (.iadd, 1) := by decide +kernel
theorem dL_law_327 : decode cL_law 327 = .ok (.iaload, 1) := by decide +kernel
theorem dL_law_328 : decode cL_law 328 = .ok (.invokevirtual 63, 3) := by decide +kernel
theorem dL_law_331 : decode cL_law 331 = .ok (.pop, 1) := by decide +kernel
theorem dL_law_332 : decode cL_law 332 = .ok (.goto 376, 3) := by decide +kernel
theorem dL_law_335 : decode cL_law 335 = .ok (.aload_n 1, 1) := by decide +kernel
theorem dL_law_336 : decode cL_law 336 = .ok (.aload_n 3, 1) := by decide +kernel
theorem dL_law_337 : decode cL_law 337 = .ok (.invokestatic 64, 3) := by decide +kernel
theorem dL_law_340 : decode cL_law 340 = .ok (.istore 5, 2) := by decide +kernel
theorem dL_law_342 : decode cL_law 342 = .ok (.aload_n 2, 1) := by decide +kernel
theorem dL_law_343 : decode cL_law 343 = .ok (.invokevirtual 69, 3) := by decide +kernel
theorem dL_law_346 : decode cL_law 346 = .ok (.istore 6, 2) := by decide +kernel
theorem dL_law_348 : decode cL_law 348 = .ok (.goto 360, 3) := by decide +kernel
theorem dL_law_351 : decode cL_law 351 = .ok (.aload_n 1, 1) := by decide +kernel
theorem dL_law_352 : decode cL_law 352 = .ok (.aload_n 0, 1) := by decide +kernel
theorem dL_law_353 : decode cL_law 353 = .ok (.iload 4, 2) := by decide +kernel
theorem dL_law_355 : decode cL_law 355 = .ok (.iconst 1, 1) := by decide +kernel
theorem dL_law_356 : decode cL_law 356 = .ok (.iadd, 1) := by decide +kernel
theorem dL_law_357 : decode cL_law 357 = .ok (.iaload, 1) := by decide +kernel
theorem dL_law_358 : decode cL_law 358 = .ok (.aload_n 3, 1) := by decide +kernel
theorem dL_law_359 : decode cL_law 359 = .ok (.invokestatic 70, 3) := by decide +kernel
theorem dL_law_362 : decode cL_law 362 = .ok (.istore 5, 2) := by decide +kernel
theorem dL_law_364 : decode cL_law 364 = .ok (.aload_n 2, 1) := by decide +kernel
theorem dL_law_365 : decode cL_law 365 = .ok (.aload_n 0, 1) := by decide +kernel
theorem dL_law_366 : decode cL_law 366 = .ok (.iload 4, 2) := by decide +kernel
theorem dL_law_368 : decode cL_law 368 = .ok (.iconst 1, 1) := by decide +kernel
theorem dL_law_369 : decode cL_law 369 = .ok (.iadd, 1) := by decide +kernel
theorem dL_law_370 : decode cL_law 370 = .ok (.iaload, 1) := by decide +kernel
theorem dL_law_371 : decode cL_law 371 = .ok (.invokevirtual 73, 3) := by decide +kernel
theorem dL_law_374 : decode cL_law 374 = .ok (.istore 6, 2) := by decide +kernel
theorem dL_law_376 : decode cL_law 376 = .ok (.goto 332, 3) := by decide +kernel
theorem dL_law_379 : decode cL_law 379 = .ok (.aload_n 1, 1) := by decide +kernel
theorem dL_law_380 : decode cL_law 380 = .ok (.aload_n 0, 1) := by decide +kernel
theorem dL_law_381 : decode cL_law 381 = .ok (.iload 4, 2) := by decide +kernel
theorem dL_law_383 : decode cL_law 383 = .ok (.iconst 1, 1) := by decide +kernel
theorem dL_law_384 : decode cL_law 384 = .ok (.iadd, 1) := by decide +kernel
theorem dL_law_385 : decode cL_law 385 = .ok (.iaload, 1) := by decide +kernel
theorem dL_law_386 : decode cL_law 386 = .ok (.invokestatic 74, 3) := by decide +kernel
theorem dL_law_389 : decode cL_law 389 = .ok (.istore 5, 2) := by decide +kernel
theorem dL_law_391 : decode cL_law 391 = .ok (.aload_n 2, 1) := by decide +kernel
theorem dL_law_392 : decode cL_law 392 = .ok (.aload_n 0, 1) := by decide +kernel
theorem dL_law_393 : decode cL_law 393 = .ok (.iload 4, 2) := by decide +kernel
theorem dL_law_395 : decode cL_law 395 = .ok (.iconst 1, 1) := by decide +kernel
theorem dL_law_396 : decode cL_law 396 = .ok (.iadd, 1) := by decide +kernel
theorem dL_law_397 : decode cL_law 397 = .ok (.iaload, 1) := by decide +kernel
theorem dL_law_398 : decode cL_law 398 = .ok (.invokevirtual 77, 3) := by decide +kernel
theorem dL_law_401 : decode cL_law 401 = .ok (.goto 307, 3) := by decide +kernel
theorem dL_law_404 : decode cL_law 404 = .ok (.aload_n 1, 1) := by decide +kernel
theorem dL_law_405 : decode cL_law 405 = .ok (.aload_n 0, 1) := by decide +kernel
theorem dL_law_406 : decode cL_law 406 = .ok (.iload 4, 2) := by decide +kernel
theorem dL_law_408 : decode cL_law 408 = .ok (.iconst 1, 1) := by decide +kernel
theorem dL_law_409 : decode cL_law 409 = .ok (.iadd, 1) := by decide +kernel
theorem dL_law_410 : decode cL_law 410 = .ok (.iaload, 1) := by decide +kernel
theorem dL_law_411 : decode cL_law 411 = .ok (.invokestatic 78, 3) := by decide +kernel
theorem dL_law_414 : decode cL_law 414 = .ok (.istore 5, 2) := by decide +kernel
theorem dL_law_416 : decode cL_law 416 = .ok (.aload_n 2, 1) := by decide +kernel
theorem dL_law_417 : decode cL_law 417 = .ok (.aload_n 0, 1) := by decide +kernel
theorem dL_law_418 : decode cL_law 418 = .ok (.iload 4, 2) := by decide +kernel
theorem dL_law_420 : decode cL_law 420 = .ok (.iconst 1, 1) := by decide +kernel
theorem dL_law_421 : decode cL_law 421 = .ok (.iadd, 1) := by decide +kernel
theorem dL_law_422 : decode cL_law 422 = .ok (.iaload, 1) := by decide +kernel
theorem dL_law_423 : decode cL_law 423 = .ok (.invokevirtual 80, 3) := by decide +kernel
theorem dL_law_426 : decode cL_law 426 = .ok (.goto 282, 3) := by decide +kernel
theorem dL_law_429 : decode cL_law 429 = .ok (.aload_n 1, 1) := by decide +kernel
theorem dL_law_430 : decode cL_law 430 = .ok (.aload_n 0, 1) := by decide +kernel
theorem dL_law_431 : decode cL_law 431 = .ok (.iload 4, 2) := by decide +kernel
theorem dL_law_433 : decode cL_law 433 = .ok (.iconst 1, 1) := by decide +kernel
theorem dL_law_434 : decode cL_law 434 = .ok (.iadd, 1) := by decide +kernel
theorem dL_law_435 : decode cL_law 435 = .ok (.iaload, 1) := by decide +kernel
theorem dL_law_436 : decode cL_law 436 = .ok (.invokestatic 81, 3) := by decide +kernel
theorem dL_law_439 : decode cL_law 439 = .ok (.istore 5, 2) := by decide +kernel
theorem dL_law_441 : decode cL_law 441 = .ok (.aload_n 2, 1) := by decide +kernel
theorem dL_law_442 : decode cL_law 442 = .ok (.aload_n 0, 1) := by decide +kernel
theorem dL_law_443 : decode cL_law 443 = .ok (.iload 4, 2) := by decide +kernel
theorem dL_law_445 : decode cL_law 445 = .ok (.iconst 1, 1) := by decide +kernel
theorem dL_law_446 : decode cL_law 446 = .ok (.iadd, 1) := by decide +kernel
theorem dL_law_447 : decode cL_law 447 = .ok (.iaload, 1) := by decide +kernel
theorem dL_law_448 : decode cL_law 448 = .ok (.invokevirtual 83, 3) := by decide +kernel
theorem dL_law_451 : decode cL_law 451 = .ok (.goto 257, 3) := by decide +kernel
theorem dL_law_454 : decode cL_law 454 = .ok (.aload_n 1, 1) := by decide +kernel
theorem dL_law_455 : decode cL_law 455 = .ok (.invokevirtual 84, 3) := by decide +kernel
theorem dL_law_458 : decode cL_law 458 = .ok (.aload_n 2, 1) := by decide +kernel
theorem dL_law_459 : decode cL_law 459 = .ok (.invokevirtual 87, 3) := by decide +kernel
theorem dL_law_462 : decode cL_law 462 = .ok (.goto 246, 3) := by decide +kernel
theorem dL_law_465 : decode cL_law 465 = .ok (.aload_n 1, 1) := by decide +kernel
theorem dL_law_466 : decode cL_law 466 = .ok (.invokevirtual 88, 3) := by decide +kernel
theorem dL_law_469 : decode cL_law 469 = .ok (.aload_n 2, 1) := by decide +kernel
theorem dL_law_470 : decode cL_law 470 = .ok (.invokevirtual 91, 3) := by decide +kernel
theorem dL_law_473 : decode cL_law 473 = .ok (.goto 235, 3) := by decide +kernel
theorem dL_law_476 : decode cL_law 476 = .ok (.aload_n 1, 1) := by decide +kernel
theorem dL_law_477 : decode cL_law 477 = .ok (.invokevirtual 92, 3) := by decide +kernel
theorem dL_law_480 : decode cL_law 480 = .ok (.pop, 1) := by decide +kernel
theorem dL_law_481 : decode cL_law 481 = .ok (.aload_n 2, 1) := by decide +kernel
theorem dL_law_482 : decode cL_law 482 = .ok (.invokevirtual 95, 3) := by decide +kernel
theorem dL_law_485 : decode cL_law 485 = .ok (.pop, 1) := by decide +kernel
theorem dL_law_486 : decode cL_law 486 = .ok (.goto 222, 3) := by decide +kernel
theorem dL_law_489 : decode cL_law 489 = .ok (.aload_n 1, 1) := by decide +kernel
theorem dL_law_490 : decode cL_law 490 = .ok (.aload_n 3, 1) := by decide +kernel
theorem dL_law_491 : decode cL_law 491 = .ok (.invokestatic 96, 3) := by decide +kernel
theorem dL_law_494 : decode cL_law 494 = .ok (.istore 5, 2) := by decide +kernel
theorem dL_law_496 : decode cL_law 496 = .ok (.aload_n 2, 1) := by decide +kernel
theorem dL_law_497 : decode cL_law 497 = .ok (.invokevirtual 98, 3) := by decide +kernel
theorem dL_law_500 : decode cL_law 500 = .ok (.istore 6, 2) := by decide +kernel
theorem dL_law_502 : decode cL_law 502 = .ok (.goto 206, 3) := by decide +kernel
theorem dL_law_505 : decode cL_law 505 = .ok (.aload_n 1, 1) := by decide +kernel
theorem dL_law_506 : decode cL_law 506 = .ok (.aload_n 0, 1) := by decide +kernel
theorem dL_law_507 : decode cL_law 507 = .ok (.iload 4, 2) := by decide +kernel
theorem dL_law_509 : decode cL_law 509 = .ok (.iconst 1, 1) := by decide +kernel
theorem dL_law_510 : decode cL_law 510 = .ok (.iadd, 1) := by decide +kernel
theorem dL_law_511 : decode cL_law 511 = .ok (.iaload, 1) := by decide +kernel
theorem dL_law_512 : decode cL_law 512 = .ok (.invokevirtual 99, 3) := by decide +kernel
theorem dL_law_515 : decode cL_law 515 = .ok (.pop, 1) := by decide +kernel
theorem dL_law_516 : decode cL_law 516 = .ok (.aload_n 2, 1) := by decide +kernel
theorem dL_law_517 : decode cL_law 517 = .ok (.aload_n 0, 1) := by decide +kernel
theorem dL_law_518 : decode cL_law 518 = .ok (.iload 4, 2) := by decide +kernel
theorem dL_law_520 : decode cL_law 520 = .ok (.iconst 1, 1) := by decide +kernel
theorem dL_law_521 : decode cL_law 521 = .ok (.iadd, 1) := by decide +kernel
theorem dL_law_522 : decode cL_law 522 = .ok (.iaload, 1) := by decide +kernel
theorem dL_law_523 : decode cL_law 523 = .ok (.invokevirtual 102, 3) := by decide +kernel
theorem dL_law_526 : decode cL_law 526 = .ok (.pop, 1) := by decide +kernel
theorem dL_law_527 : decode cL_law 527 = .ok (.goto 181, 3) := by decide +kernel
theorem dL_law_530 : decode cL_law 530 = .ok (.aload_n 1, 1) := by decide +kernel
theorem dL_law_531 : decode cL_law 531 = .ok (.invokevirtual 103, 3) := by decide +kernel
theorem dL_law_534 : decode cL_law 534 = .ok (.pop, 1) := by decide +kernel
theorem dL_law_535 : decode cL_law 535 = .ok (.aload_n 2, 1) := by decide +kernel
theorem dL_law_536 : decode cL_law 536 = .ok (.invokevirtual 106, 3) := by decide +kernel
theorem dL_law_539 : decode cL_law 539 = .ok (.pop, 1) := by decide +kernel
theorem dL_law_540 : decode cL_law 540 = .ok (.goto 168, 3) := by decide +kernel
theorem dL_law_543 : decode cL_law 543 = .ok (.aload_n 1, 1) := by decide +kernel
theorem dL_law_544 : decode cL_law 544 = .ok (.aload_n 0, 1) := by decide +kernel
theorem dL_law_545 : decode cL_law 545 = .ok (.iload 4, 2) := by decide +kernel
theorem dL_law_547 : decode cL_law 547 = .ok (.iconst 1, 1) := by decide +kernel
theorem dL_law_548 : decode cL_law 548 = .ok (.iadd, 1) := by decide +kernel
theorem dL_law_549 : decode cL_law 549 = .ok (.iaload, 1) := by decide +kernel
theorem dL_law_550 : decode cL_law 550 = .ok (.aload_n 0, 1) := by decide +kernel
theorem dL_law_551 : decode cL_law 551 = .ok (.iload 4, 2) := by decide +kernel
theorem dL_law_553 : decode cL_law 553 = .ok (.iconst 2, 1) := by decide +kernel
theorem dL_law_554 : decode cL_law 554 = .ok (.iadd, 1) := by decide +kernel
theorem dL_law_555 : decode cL_law 555 = .ok (.iaload, 1) := by decide +kernel
theorem dL_law_556 : decode cL_law 556 = .ok (.invokevirtual 107, 3) := by decide +kernel
theorem dL_law_559 : decode cL_law 559 = .ok (.pop, 1) := by decide +kernel
theorem dL_law_560 : decode cL_law 560 = .ok (.aload_n 2, 1) := by decide +kernel
theorem dL_law_561 : decode cL_law 561 = .ok (.aload_n 0, 1) := by decide +kernel
theorem dL_law_562 : decode cL_law 562 = .ok (.iload 4, 2) := by decide +kernel
theorem dL_law_564 : decode cL_law 564 = .ok (.iconst 1, 1) := by decide +kernel
theorem dL_law_565 : decode cL_law 565 = .ok (.iadd, 1) := by decide +kernel
theorem dL_law_566 : decode cL_law 566 = .ok (.iaload, 1) := by decide +kernel
theorem dL_law_567 : decode cL_law 567 = .ok (.aload_n 0, 1) := by decide +kernel
theorem dL_law_568 : decode cL_law 568 = .ok (.iload 4, 2) := by decide +kernel
theorem dL_law_570 : decode cL_law 570 = .ok (.iconst 2, 1) := by decide +kernel
theorem dL_law_571 : decode cL_law 571 = .ok (.iadd, 1) := by decide +kernel
theorem dL_law_572 : decode cL_law 572 = .ok (.iaload, 1) := by decide +kernel
theorem dL_law_573 : decode cL_law 573 = .ok (.invokevirtual 110, 3) := by decide +kernel
theorem dL_law_576 : decode cL_law 576 = .ok (.pop, 1) := by decide +kernel
theorem dL_law_577 : decode cL_law 577 = .ok (.goto 131, 3) := by decide +kernel
theorem dL_law_580 : decode cL_law 580 = .ok (.aload_n 1, 1) := by decide +kernel
theorem dL_law_581 : decode cL_law 581 = .ok (.aload_n 0, 1) := by decide +kernel
theorem dL_law_582 : decode cL_law 582 = .ok (.iload 4, 2) := by decide +kernel
theorem dL_law_584 : decode cL_law 584 = .ok (.iconst 1, 1) := by decide +kernel
theorem dL_law_585 : decode cL_law 585 = .ok (.iadd, 1) := by decide +kernel
theorem dL_law_586 : decode cL_law 586 = .ok (.iaload, 1) := by decide +kernel
theorem dL_law_587 : decode cL_law 587 = .ok (.aload_n 0, 1) := by decide +kernel
theorem dL_law_588 : decode cL_law 588 = .ok (.iload 4, 2) := by decide +kernel
theorem dL_law_590 : decode cL_law 590 = .ok (.iconst 2, 1) := by decide +kernel
theorem dL_law_591 : decode cL_law 591 = .ok (.iadd, 1) := by decide +kernel
theorem dL_law_592 : decode cL_law 592 = .ok (.iaload, 1) := by decide +kernel
theorem dL_law_593 : decode cL_law 593 = .ok (.ifCond .eq 7, 3) := by decide +kernel
theorem dL_law_596 : decode cL_law 596 = .ok (.iconst 1, 1) := by decide +kernel
theorem dL_law_597 : decode cL_law 597 = .ok (.goto 4, 3) := by decide +kernel
theorem dL_law_600 : decode cL_law 600 = .ok (.iconst 0, 1) := by decide +kernel
theorem dL_law_601 : decode cL_law 601 = .ok (.aload_n 0, 1) := by decide +kernel
theorem dL_law_602 : decode cL_law 602 = .ok (.iload 4, 2) := by decide +kernel
theorem dL_law_604 : decode cL_law 604 = .ok (.iconst 3, 1) := by decide +kernel
theorem dL_law_605 : decode cL_law 605 = .ok (.iadd, 1) := by decide +kernel
theorem dL_law_606 : decode cL_law 606 = .ok (.iaload, 1) := by decide +kernel
theorem dL_law_607 : decode cL_law 607 = .ok (.invokevirtual 111, 3) := by decide +kernel
theorem dL_law_610 : decode cL_law 610 = .ok (.pop, 1) := by decide +kernel
theorem dL_law_611 : decode cL_law 611 = .ok (.aload_n 2, 1) := by decide +kernel
theorem dL_law_612 : decode cL_law 612 = .ok (.aload_n 0, 1) := by decide +kernel
theorem dL_law_613 : decode cL_law 613 = .ok (.iload 4, 2) := by decide +kernel
theorem dL_law_615 : decode cL_law 615 = .ok (.iconst 1, 1) := by decide +kernel
theorem dL_law_616 : decode cL_law 616 = .ok (.iadd, 1) := by decide +kernel
theorem dL_law_617 : decode cL_law 617 = .ok (.iaload, 1) := by decide +kernel
theorem dL_law_618 : decode cL_law 618 = .ok (.aload_n 0, 1) := by decide +kernel
theorem dL_law_619 : decode cL_law 619 = .ok (.iload 4, 2) := by decide +kernel
theorem dL_law_621 : decode cL_law 621 = .ok (.iconst 2, 1) := by decide +kernel
theorem dL_law_622 : decode cL_law 622 = .ok (.iadd, 1) := by decide +kernel
theorem dL_law_623 : decode cL_law 623 = .ok (.iaload, 1) := by decide +kernel
theorem dL_law_624 : decode cL_law 624 = .ok (.ifCond .eq 7, 3) := by decide +kernel
theorem dL_law_627 : decode cL_law 627 = .ok (.iconst 1, 1) := by decide +kernel
theorem dL_law_628 : decode cL_law 628 = .ok (.goto 4, 3) := by decide +kernel
theorem dL_law_631 : decode cL_law 631 = .ok (.iconst 0, 1) := by decide +kernel
theorem dL_law_632 : decode cL_law 632 = .ok (.aload_n 0, 1) := by decide +kernel
theorem dL_law_633 : decode cL_law 633 = .ok (.iload 4, 2) := by decide +kernel
theorem dL_law_635 : decode cL_law 635 = .ok (.iconst 3, 1) := by decide +kernel
theorem dL_law_636 : decode cL_law 636 = .ok (.iadd, 1) := by decide +kernel
theorem dL_law_637 : decode cL_law 637 = .ok (.iaload, 1) := by decide +kernel
theorem dL_law_638 : decode cL_law 638 = .ok (.invokevirtual 115, 3) := by decide +kernel
theorem dL_law_641 : decode cL_law 641 = .ok (.pop, 1) := by decide +kernel
theorem dL_law_642 : decode cL_law 642 = .ok (.goto 66, 3) := by decide +kernel
theorem dL_law_645 : decode cL_law 645 = .ok (.aload_n 1, 1) := by decide +kernel
theorem dL_law_646 : decode cL_law 646 = .ok (.invokevirtual 116, 3) := by decide +kernel
theorem dL_law_649 : decode cL_law 649 = .ok (.pop, 1) := by decide +kernel
theorem dL_law_650 : decode cL_law 650 = .ok (.aload_n 2, 1) := by decide +kernel
theorem dL_law_651 : decode cL_law 651 = .ok (.invokevirtual 119, 3) := by decide +kernel
theorem dL_law_654 : decode cL_law 654 = .ok (.pop, 1) := by decide +kernel
theorem dL_law_655 : decode cL_law 655 = .ok (.goto 53, 3) := by decide +kernel
theorem dL_law_658 : decode cL_law 658 = .ok (.aload_n 1, 1) := by decide +kernel
theorem dL_law_659 : decode cL_law 659 = .ok (.aload_n 0, 1) := by decide +kernel
theorem dL_law_660 : decode cL_law 660 = .ok (.iload 4, 2) := by decide +kernel
theorem dL_law_662 : decode cL_law 662 = .ok (.iconst 1, 1) := by decide +kernel
theorem dL_law_663 : decode cL_law 663 = .ok (.iadd, 1) := by decide +kernel
theorem dL_law_664 : decode cL_law 664 = .ok (.iaload, 1) := by decide +kernel
theorem dL_law_665 : decode cL_law 665 = .ok (.invokevirtual 120, 3) := by decide +kernel
theorem dL_law_668 : decode cL_law 668 = .ok (.pop, 1) := by decide +kernel
theorem dL_law_669 : decode cL_law 669 = .ok (.aload_n 2, 1) := by decide +kernel
theorem dL_law_670 : decode cL_law 670 = .ok (.aload_n 0, 1) := by decide +kernel
theorem dL_law_671 : decode cL_law 671 = .ok (.iload 4, 2) := by decide +kernel
theorem dL_law_673 : decode cL_law 673 = .ok (.iconst 1, 1) := by decide +kernel
theorem dL_law_674 : decode cL_law 674 = .ok (.iadd, 1) := by decide +kernel
theorem dL_law_675 : decode cL_law 675 = .ok (.iaload, 1) := by decide +kernel
theorem dL_law_676 : decode cL_law 676 = .ok (.invokevirtual 123, 3) := by decide +kernel
theorem dL_law_679 : decode cL_law 679 = .ok (.pop, 1) := by decide +kernel
theorem dL_law_680 : decode cL_law 680 = .ok (.goto 28, 3) := by decide +kernel
theorem dL_law_683 : decode cL_law 683 = .ok (.aload_n 1, 1) := by decide +kernel
theorem dL_law_684 : decode cL_law 684 = .ok (.aload_n 0, 1) := by decide +kernel
theorem dL_law_685 : decode cL_law 685 = .ok (.iload 4, 2) := by decide +kernel
theorem dL_law_687 : decode cL_law 687 = .ok (.iconst 1, 1) := by decide +kernel
theorem dL_law_688 : decode cL_law 688 = .ok (.iadd, 1) := by decide +kernel
theorem dL_law_689 : decode cL_law 689 = .ok (.iaload, 1) := by decide +kernel
theorem dL_law_690 : decode cL_law 690 = .ok (.invokevirtual 124, 3) := by decide +kernel
theorem dL_law_693 : decode cL_law 693 = .ok (.pop, 1) := by decide +kernel
theorem dL_law_694 : decode cL_law 694 = .ok (.aload_n 2, 1) := by decide +kernel
theorem dL_law_695 : decode cL_law 695 = .ok (.aload_n 0, 1) := by decide +kernel
theorem dL_law_696 : decode cL_law 696 = .ok (.iload 4, 2) := by decide +kernel
theorem dL_law_698 : decode cL_law 698 = .ok (.iconst 1, 1) := by decide +kernel
theorem dL_law_699 : decode cL_law 699 = .ok (.iadd, 1) := by decide +kernel
theorem dL_law_700 : decode cL_law 700 = .ok (.iaload, 1) := by decide +kernel
theorem dL_law_701 : decode cL_law 701 = .ok (.invokevirtual 127, 3) := by decide +kernel
theorem dL_law_704 : decode cL_law 704 = .ok (.pop, 1) := by decide +kernel
theorem dL_law_705 : decode cL_law 705 = .ok (.goto 3, 3) := by decide +kernel
theorem dL_law_708 : decode cL_law 708 = .ok (.iinc 4 6, 3) := by decide +kernel
theorem dL_law_711 : decode cL_law 711 = .ok (.goto (-688), 3) := by decide +kernel
theorem dL_law_714 : decode cL_law 714 = .ok (.iconst 1, 1) := by decide +kernel
theorem dL_law_715 : decode cL_law 715 = .ok (.ireturn, 1) := by decide +kernel
end
section
/-! ===== the words of all methods: the good ones of the tables ===== -/
def bw : List Cond := lw_tbl.filter goodWord
theorem bw_mem (i : Nat) {w : Cond} (h : lw_tbl[i]? = some w) (g : goodWord w = true) : w ∈ bw := List.mem_filter.mpr ⟨List.mem_of_getElem? h, g⟩
theorem bw_tbl {w : Cond} (h : w ∈ bw) : w ∈ lw_tbl := (List.mem_filter.mp h).1
abbrev wsY (y : MethodName) (cc : ByteArray) (n : Nat) (r : Option FieldType) : List Cond := .code y cc n r :: bw
theorem bw_all {ws : List Cond} (hw : ∀ w ∈ bw, w ∈ ws) {y : MethodName} {cc : ByteArray} {n : Nat} {r : Option FieldType} (h : Cond.code y cc n r ∈ bw) : GoodIn ws (wsY y cc n r) := by
  intro w h1
  have key : ∀ v ∈ bw, v ∈ ws ∧ ((v.onTables && v.keeps) = true ∨ ∃ ty, v = .arrayClass ty) := fun v hv => ⟨hw v hv, good_of_word (List.mem_filter.mp hv).2⟩
  rcases List.mem_cons.mp h1 with rfl | h2
  · exact key _ h
  · exact key _ h2
theorem bw_V {ws : List Cond} (hw : ∀ w ∈ bw, w ∈ ws) {own : String} {idx : Nat} {C : String} {y : MethodName} {cc : ByteArray} {n : Nat} {r : Option FieldType} (h : Cond.code y cc n r ∈ bw) (h1 : Cond.methodLink own idx y ∈ bw) (h2 : Cond.instanceMethod y ∈ bw) (h3 : Cond.selects C y y ∈ bw) (h4 : Cond.initialized C ∈ bw) : GoodIn ws (wsV own idx C y (wsY y cc n r)) := by
  have key : ∀ v ∈ bw, v ∈ ws ∧ ((v.onTables && v.keeps) = true ∨ ∃ ty, v = .arrayClass ty) := fun v hv => ⟨hw v hv, good_of_word (List.mem_filter.mp hv).2⟩
  intro w hh
  rcases List.mem_append.mp hh with hh | hh
  · simp only [List.mem_cons, List.not_mem_nil, or_false] at hh
    rcases hh with rfl | rfl | rfl | rfl
    · exact key _ h1
    · exact key _ h2
    · exact key _ h3
    · exact key _ h4
  · exact bw_all hw h w hh
theorem bw_S {ws : List Cond} (hw : ∀ w ∈ bw, w ∈ ws) {own : String} {idx : Nat} {y : MethodName} {cc : ByteArray} {n : Nat} {r : Option FieldType} (h : Cond.code y cc n r ∈ bw) (h1 : Cond.methodLink own idx y ∈ bw) (h2 : Cond.static y ∈ bw) (h3 : Cond.initialized y.cls ∈ bw) : GoodIn ws (va_wsS own idx y (wsY y cc n r)) := by
  have key : ∀ v ∈ bw, v ∈ ws ∧ ((v.onTables && v.keeps) = true ∨ ∃ ty, v = .arrayClass ty) := fun v hv => ⟨hw v hv, good_of_word (List.mem_filter.mp hv).2⟩
  intro w hh
  rcases List.mem_append.mp hh with hh | hh
  · simp only [List.mem_cons, List.not_mem_nil, or_false] at hh
    rcases hh with rfl | rfl | rfl
    · exact key _ h1
    · exact key _ h2
    · exact key _ h3
  · exact bw_all hw h w hh

theorem mz_L : Cond.initialized RL ∈ bw := bw_mem 51 (by decide +kernel) (by decide +kernel)
theorem mz_X7 : Cond.initialized RX7 ∈ bw := bw_mem 52 (by decide +kernel) (by decide +kernel)
theorem mz_X4 : Cond.initialized RX4 ∈ bw := bw_mem 53 (by decide +kernel) (by decide +kernel)
theorem mz_J9 : Cond.initialized RJ9 ∈ bw := bw_mem 54 (by decide +kernel) (by decide +kernel)
theorem mz_X5 : Cond.initialized RX5 ∈ bw := bw_mem 55 (by decide +kernel) (by decide +kernel)
theorem mz_X1 : Cond.initialized RX1 ∈ bw := bw_mem 56 (by decide +kernel) (by decide +kernel)
theorem mz_X3 : Cond.initialized RX3 ∈ bw := bw_mem 57 (by decide +kernel) (by decide +kernel)
theorem mz_X2 : Cond.initialized RX2 ∈ bw := bw_mem 58 (by decide +kernel) (by decide +kernel)
theorem mz_X8 : Cond.initialized RX8 ∈ bw := bw_mem 59 (by decide +kernel) (by decide +kernel)
theorem mz_J10 : Cond.initialized RJ10 ∈ bw := bw_mem 60 (by decide +kernel) (by decide +kernel)
theorem mz_Throwable : Cond.initialized "java/lang/Throwable" ∈ bw := bw_mem 61 (by decide +kernel) (by decide +kernel)
theorem mz_Exception : Cond.initialized "java/lang/Exception" ∈ bw := bw_mem 62 (by decide +kernel) (by decide +kernel)
theorem mz_RuntimeException : Cond.initialized "java/lang/RuntimeException" ∈ bw := bw_mem 63 (by decide +kernel) (by decide +kernel)
theorem mz_IllegalStateException : Cond.initialized "java/lang/IllegalStateException" ∈ bw := bw_mem 64 (by decide +kernel) (by decide +kernel)
theorem mz_IllegalArgumentException : Cond.initialized "java/lang/IllegalArgumentException" ∈ bw := bw_mem 65 (by decide +kernel) (by decide +kernel)
theorem mz_X0 : Cond.initialized RX0 ∈ bw := bw_mem 66 (by decide +kernel) (by decide +kernel)
theorem mz_IndexOutOfBoundsException : Cond.initialized "java/lang/IndexOutOfBoundsException" ∈ bw := bw_mem 67 (by decide +kernel) (by decide +kernel)
theorem mz_X6 : Cond.initialized RX6 ∈ bw := bw_mem 68 (by decide +kernel) (by decide +kernel)
theorem ml_L_36 : Cond.methodLink RL 36 yX7_init ∈ bw := bw_mem 71 (by decide +kernel) (by decide +kernel)
theorem mi_X7_init : Cond.instanceMethod yX7_init ∈ bw := bw_mem 72 (by decide +kernel) (by decide +kernel)
theorem mc_X7_init : Cond.code yX7_init cX7_init 1 none ∈ bw := bw_mem 73 (by decide +kernel) (by decide +kernel)
theorem ml_X7_1 : Cond.methodLink RX7 1 ⟨"java/lang/Object", "<init>", "()V"⟩ ∈ bw := bw_mem 74 (by decide +kernel) (by decide +kernel)
theorem ml_X7_11 : Cond.methodLink RX7 11 yX4_init ∈ bw := bw_mem 79 (by decide +kernel) (by decide +kernel)
theorem mi_X4_init : Cond.instanceMethod yX4_init ∈ bw := bw_mem 80 (by decide +kernel) (by decide +kernel)
theorem mc_X4_init : Cond.code yX4_init cX4_init 2 none ∈ bw := bw_mem 81 (by decide +kernel) (by decide +kernel)
theorem ml_X4_3 : Cond.methodLink RX4 3 ⟨"java/lang/Object", "<init>", "()V"⟩ ∈ bw := bw_mem 82 (by decide +kernel) (by decide +kernel)
theorem ml_X4_9 : Cond.methodLink RX4 9 yJ9_max_7cf53 ∈ bw := bw_mem 83 (by decide +kernel) (by decide +kernel)
theorem mt_J9_max_7cf53 : Cond.static yJ9_max_7cf53 ∈ bw := bw_mem 84 (by decide +kernel) (by decide +kernel)
theorem mc_J9_max_7cf53 : Cond.code yJ9_max_7cf53 cJ9_max_7cf53 2 (some .int) ∈ bw := bw_mem 85 (by decide +kernel) (by decide +kernel)
theorem mf_X4_15 : Cond.fieldLink RX4 15 "ArchiveDesk$Row" "cells" "[I" ∈ bw := bw_mem 86 (by decide +kernel) (by decide +kernel)
theorem mf_X4_21 : Cond.fieldLink RX4 21 "ArchiveDesk$Row" "size" "I" ∈ bw := bw_mem 87 (by decide +kernel) (by decide +kernel)
theorem ml_X7_26 : Cond.methodLink RX7 26 yX5_init ∈ bw := bw_mem 96 (by decide +kernel) (by decide +kernel)
theorem mi_X5_init : Cond.instanceMethod yX5_init ∈ bw := bw_mem 97 (by decide +kernel) (by decide +kernel)
theorem mc_X5_init : Cond.code yX5_init cX5_init 2 none ∈ bw := bw_mem 98 (by decide +kernel) (by decide +kernel)
theorem ml_X5_3 : Cond.methodLink RX5 3 ⟨"java/lang/Object", "<init>", "()V"⟩ ∈ bw := bw_mem 99 (by decide +kernel) (by decide +kernel)
theorem ml_X5_19 : Cond.methodLink RX5 19 yX4_init ∈ bw := bw_mem 103 (by decide +kernel) (by decide +kernel)
theorem mi_X1_init : Cond.instanceMethod yX1_init ∈ bw := bw_mem 106 (by decide +kernel) (by decide +kernel)
theorem mc_X1_init : Cond.code yX1_init cX1_init 1 none ∈ bw := bw_mem 107 (by decide +kernel) (by decide +kernel)
theorem ml_X1_3 : Cond.methodLink RX1 3 ⟨"java/lang/Object", "<init>", "()V"⟩ ∈ bw := bw_mem 108 (by decide +kernel) (by decide +kernel)
theorem ml_X1_11 : Cond.methodLink RX1 11 yX4_init ∈ bw := bw_mem 110 (by decide +kernel) (by decide +kernel)
theorem mf_X1_14 : Cond.fieldLink RX1 14 "ArchiveDesk$Entry" "name" "LArchiveDesk$Row;" ∈ bw := bw_mem 111 (by decide +kernel) (by decide +kernel)
theorem mf_X1_24 : Cond.fieldLink RX1 24 "ArchiveDesk$Entry" "size" "I" ∈ bw := bw_mem 116 (by decide +kernel) (by decide +kernel)
theorem mf_X1_20 : Cond.fieldLink RX1 20 "ArchiveDesk$Entry" "packed" "I" ∈ bw := bw_mem 120 (by decide +kernel) (by decide +kernel)
theorem mf_X5_11 : Cond.fieldLink RX5 11 "ArchiveDesk$Shelf" "entries" "[LArchiveDesk$Entry;" ∈ bw := bw_mem 138 (by decide +kernel) (by decide +kernel)
theorem mf_X5_22 : Cond.fieldLink RX5 22 "ArchiveDesk$Shelf" "bytes" "LArchiveDesk$Row;" ∈ bw := bw_mem 139 (by decide +kernel) (by decide +kernel)
theorem mf_X5_27 : Cond.fieldLink RX5 27 "ArchiveDesk$Shelf" "count" "I" ∈ bw := bw_mem 140 (by decide +kernel) (by decide +kernel)
theorem mi_X3_init : Cond.instanceMethod yX3_init ∈ bw := bw_mem 151 (by decide +kernel) (by decide +kernel)
theorem mc_X3_init : Cond.code yX3_init cX3_init 1 none ∈ bw := bw_mem 152 (by decide +kernel) (by decide +kernel)
theorem ml_X3_3 : Cond.methodLink RX3 3 ⟨"java/lang/Object", "<init>", "()V"⟩ ∈ bw := bw_mem 153 (by decide +kernel) (by decide +kernel)
theorem mi_X2_init : Cond.instanceMethod yX2_init ∈ bw := bw_mem 157 (by decide +kernel) (by decide +kernel)
theorem mc_X2_init : Cond.code yX2_init cX2_init 1 none ∈ bw := bw_mem 158 (by decide +kernel) (by decide +kernel)
theorem ml_X2_3 : Cond.methodLink RX2 3 ⟨"java/lang/Object", "<init>", "()V"⟩ ∈ bw := bw_mem 159 (by decide +kernel) (by decide +kernel)
theorem mf_X2_19 : Cond.fieldLink RX2 19 "ArchiveDesk$Header" "method" "I" ∈ bw := bw_mem 160 (by decide +kernel) (by decide +kernel)
theorem mf_X2_29 : Cond.fieldLink RX2 29 "ArchiveDesk$Header" "crc" "I" ∈ bw := bw_mem 162 (by decide +kernel) (by decide +kernel)
theorem mf_X2_32 : Cond.fieldLink RX2 32 "ArchiveDesk$Header" "packed" "J" ∈ bw := bw_mem 164 (by decide +kernel) (by decide +kernel)
theorem mf_X2_36 : Cond.fieldLink RX2 36 "ArchiveDesk$Header" "size" "J" ∈ bw := bw_mem 166 (by decide +kernel) (by decide +kernel)
theorem mf_X2_39 : Cond.fieldLink RX2 39 "ArchiveDesk$Header" "nameSize" "I" ∈ bw := bw_mem 168 (by decide +kernel) (by decide +kernel)
theorem ml_X3_27 : Cond.methodLink RX3 27 yX4_init ∈ bw := bw_mem 182 (by decide +kernel) (by decide +kernel)
theorem mf_X3_9 : Cond.fieldLink RX3 9 "ArchiveDesk$Reader" "centralAt" "[I" ∈ bw := bw_mem 183 (by decide +kernel) (by decide +kernel)
theorem mf_X3_15 : Cond.fieldLink RX3 15 "ArchiveDesk$Reader" "packedAt" "[I" ∈ bw := bw_mem 184 (by decide +kernel) (by decide +kernel)
theorem mf_X3_21 : Cond.fieldLink RX3 21 "ArchiveDesk$Reader" "header" "LArchiveDesk$Header;" ∈ bw := bw_mem 185 (by decide +kernel) (by decide +kernel)
theorem mf_X3_30 : Cond.fieldLink RX3 30 "ArchiveDesk$Reader" "unpacked" "LArchiveDesk$Row;" ∈ bw := bw_mem 186 (by decide +kernel) (by decide +kernel)
theorem mf_X3_100 : Cond.fieldLink RX3 100 "ArchiveDesk$Reader" "count" "I" ∈ bw := bw_mem 187 (by decide +kernel) (by decide +kernel)
theorem mf_X3_103 : Cond.fieldLink RX3 103 "ArchiveDesk$Reader" "firstCentral" "I" ∈ bw := bw_mem 188 (by decide +kernel) (by decide +kernel)
theorem mf_X3_74 : Cond.fieldLink RX3 74 "ArchiveDesk$Reader" "endAt" "I" ∈ bw := bw_mem 189 (by decide +kernel) (by decide +kernel)
theorem mf_X3_34 : Cond.fieldLink RX3 34 "ArchiveDesk$Reader" "faultNumber" "I" ∈ bw := bw_mem 190 (by decide +kernel) (by decide +kernel)
theorem mf_X3_38 : Cond.fieldLink RX3 38 "ArchiveDesk$Reader" "faultFile" "I" ∈ bw := bw_mem 191 (by decide +kernel) (by decide +kernel)
theorem mf_X3_41 : Cond.fieldLink RX3 41 "ArchiveDesk$Reader" "faultPlace" "I" ∈ bw := bw_mem 192 (by decide +kernel) (by decide +kernel)
theorem ml_X7_38 : Cond.methodLink RX7 38 yX4_blank ∈ bw := bw_mem 214 (by decide +kernel) (by decide +kernel)
theorem mi_X4_blank : Cond.instanceMethod yX4_blank ∈ bw := bw_mem 215 (by decide +kernel) (by decide +kernel)
theorem ms_X4_blank : Cond.selects RX4 yX4_blank yX4_blank ∈ bw := bw_mem 216 (by decide +kernel) (by decide +kernel)
theorem mc_X4_blank : Cond.code yX4_blank cX4_blank 2 none ∈ bw := bw_mem 217 (by decide +kernel) (by decide +kernel)
theorem mf_X7_14 : Cond.fieldLink RX7 14 "ArchiveDesk" "ready" "LArchiveDesk$Row;" ∈ bw := bw_mem 218 (by decide +kernel) (by decide +kernel)
theorem mf_X7_18 : Cond.fieldLink RX7 18 "ArchiveDesk" "tape" "LArchiveDesk$Row;" ∈ bw := bw_mem 219 (by decide +kernel) (by decide +kernel)
theorem mf_X7_21 : Cond.fieldLink RX7 21 "ArchiveDesk" "output" "LArchiveDesk$Row;" ∈ bw := bw_mem 220 (by decide +kernel) (by decide +kernel)
theorem mf_X7_27 : Cond.fieldLink RX7 27 "ArchiveDesk" "shelf" "LArchiveDesk$Shelf;" ∈ bw := bw_mem 221 (by decide +kernel) (by decide +kernel)
theorem mf_X7_34 : Cond.fieldLink RX7 34 "ArchiveDesk" "reader" "LArchiveDesk$Reader;" ∈ bw := bw_mem 222 (by decide +kernel) (by decide +kernel)
theorem ml_L_40 : Cond.methodLink RL 40 yX7_feed ∈ bw := bw_mem 234 (by decide +kernel) (by decide +kernel)
theorem mi_X7_feed : Cond.instanceMethod yX7_feed ∈ bw := bw_mem 235 (by decide +kernel) (by decide +kernel)
theorem ms_X7_feed : Cond.selects RX7 yX7_feed yX7_feed ∈ bw := bw_mem 236 (by decide +kernel) (by decide +kernel)
theorem mc_X7_feed : Cond.code yX7_feed cX7_feed 6 none ∈ bw := bw_mem 237 (by decide +kernel) (by decide +kernel)
theorem ml_X7_41 : Cond.methodLink RX7 41 yX4_shorten ∈ bw := bw_mem 238 (by decide +kernel) (by decide +kernel)
theorem mi_X4_shorten : Cond.instanceMethod yX4_shorten ∈ bw := bw_mem 239 (by decide +kernel) (by decide +kernel)
theorem ms_X4_shorten : Cond.selects RX4 yX4_shorten yX4_shorten ∈ bw := bw_mem 240 (by decide +kernel) (by decide +kernel)
theorem mc_X4_shorten : Cond.code yX4_shorten cX4_shorten 2 (some .boolean) ∈ bw := bw_mem 241 (by decide +kernel) (by decide +kernel)
theorem ml_X7_45 : Cond.methodLink RX7 45 yX4_pushHighFirst ∈ bw := bw_mem 242 (by decide +kernel) (by decide +kernel)
theorem mi_X4_pushHighFirst : Cond.instanceMethod yX4_pushHighFirst ∈ bw := bw_mem 243 (by decide +kernel) (by decide +kernel)
theorem ms_X4_pushHighFirst : Cond.selects RX4 yX4_pushHighFirst yX4_pushHighFirst ∈ bw := bw_mem 244 (by decide +kernel) (by decide +kernel)
theorem mc_X4_pushHighFirst : Cond.code yX4_pushHighFirst cX4_pushHighFirst 2 none ∈ bw := bw_mem 245 (by decide +kernel) (by decide +kernel)
theorem ml_X4_31 : Cond.methodLink RX4 31 yX4_push ∈ bw := bw_mem 246 (by decide +kernel) (by decide +kernel)
theorem mi_X4_push : Cond.instanceMethod yX4_push ∈ bw := bw_mem 247 (by decide +kernel) (by decide +kernel)
theorem ms_X4_push : Cond.selects RX4 yX4_push yX4_push ∈ bw := bw_mem 248 (by decide +kernel) (by decide +kernel)
theorem mc_X4_push : Cond.code yX4_push cX4_push 2 none ∈ bw := bw_mem 249 (by decide +kernel) (by decide +kernel)
theorem ml_L_45 : Cond.methodLink RL 45 yX7_end ∈ bw := bw_mem 250 (by decide +kernel) (by decide +kernel)
theorem mi_X7_end : Cond.instanceMethod yX7_end ∈ bw := bw_mem 251 (by decide +kernel) (by decide +kernel)
theorem ms_X7_end : Cond.selects RX7 yX7_end yX7_end ∈ bw := bw_mem 252 (by decide +kernel) (by decide +kernel)
theorem mc_X7_end : Cond.code yX7_end cX7_end 4 (some .int) ∈ bw := bw_mem 253 (by decide +kernel) (by decide +kernel)
theorem ml_X7_48 : Cond.methodLink RX7 48 yX4_room ∈ bw := bw_mem 254 (by decide +kernel) (by decide +kernel)
theorem mi_X4_room : Cond.instanceMethod yX4_room ∈ bw := bw_mem 255 (by decide +kernel) (by decide +kernel)
theorem ms_X4_room : Cond.selects RX4 yX4_room yX4_room ∈ bw := bw_mem 256 (by decide +kernel) (by decide +kernel)
theorem mc_X4_room : Cond.code yX4_room cX4_room 1 (some .int) ∈ bw := bw_mem 257 (by decide +kernel) (by decide +kernel)
theorem ml_X7_52 : Cond.methodLink RX7 52 yX4_append ∈ bw := bw_mem 258 (by decide +kernel) (by decide +kernel)
theorem mi_X4_append : Cond.instanceMethod yX4_append ∈ bw := bw_mem 259 (by decide +kernel) (by decide +kernel)
theorem ms_X4_append : Cond.selects RX4 yX4_append yX4_append ∈ bw := bw_mem 260 (by decide +kernel) (by decide +kernel)
theorem mc_X4_append : Cond.code yX4_append cX4_append 4 none ∈ bw := bw_mem 261 (by decide +kernel) (by decide +kernel)
theorem ml_X4_25 : Cond.methodLink RX4 25 yX4_holds ∈ bw := bw_mem 262 (by decide +kernel) (by decide +kernel)
theorem mi_X4_holds : Cond.instanceMethod yX4_holds ∈ bw := bw_mem 263 (by decide +kernel) (by decide +kernel)
theorem ms_X4_holds : Cond.selects RX4 yX4_holds yX4_holds ∈ bw := bw_mem 264 (by decide +kernel) (by decide +kernel)
theorem mc_X4_holds : Cond.code yX4_holds cX4_holds 3 (some .boolean) ∈ bw := bw_mem 265 (by decide +kernel) (by decide +kernel)
theorem ml_X4_38 : Cond.methodLink RX4 38 yX4_room ∈ bw := bw_mem 266 (by decide +kernel) (by decide +kernel)
theorem ml_X4_42 : Cond.methodLink RX4 42 ⟨"java/lang/System", "arraycopy", "(Ljava/lang/Object;ILjava/lang/Object;II)V"⟩ ∈ bw := bw_mem 267 (by decide +kernel) (by decide +kernel)
theorem ml_X7_56 : Cond.methodLink RX7 56 yX4_size ∈ bw := bw_mem 270 (by decide +kernel) (by decide +kernel)
theorem mi_X4_size : Cond.instanceMethod yX4_size ∈ bw := bw_mem 271 (by decide +kernel) (by decide +kernel)
theorem ms_X4_size : Cond.selects RX4 yX4_size yX4_size ∈ bw := bw_mem 272 (by decide +kernel) (by decide +kernel)
theorem mc_X4_size : Cond.code yX4_size cX4_size 1 (some .int) ∈ bw := bw_mem 273 (by decide +kernel) (by decide +kernel)
theorem ml_L_50 : Cond.methodLink RL 50 yX7_cut ∈ bw := bw_mem 274 (by decide +kernel) (by decide +kernel)
theorem mi_X7_cut : Cond.instanceMethod yX7_cut ∈ bw := bw_mem 275 (by decide +kernel) (by decide +kernel)
theorem ms_X7_cut : Cond.selects RX7 yX7_cut yX7_cut ∈ bw := bw_mem 276 (by decide +kernel) (by decide +kernel)
theorem mc_X7_cut : Cond.code yX7_cut cX7_cut 2 (some .boolean) ∈ bw := bw_mem 277 (by decide +kernel) (by decide +kernel)
theorem ml_L_55 : Cond.methodLink RL 55 yX7_drop ∈ bw := bw_mem 278 (by decide +kernel) (by decide +kernel)
theorem mi_X7_drop : Cond.instanceMethod yX7_drop ∈ bw := bw_mem 279 (by decide +kernel) (by decide +kernel)
theorem ms_X7_drop : Cond.selects RX7 yX7_drop yX7_drop ∈ bw := bw_mem 280 (by decide +kernel) (by decide +kernel)
theorem mc_X7_drop : Cond.code yX7_drop cX7_drop 2 (some .boolean) ∈ bw := bw_mem 281 (by decide +kernel) (by decide +kernel)
theorem ml_X7_59 : Cond.methodLink RX7 59 yX4_close ∈ bw := bw_mem 282 (by decide +kernel) (by decide +kernel)
theorem mi_X4_close : Cond.instanceMethod yX4_close ∈ bw := bw_mem 283 (by decide +kernel) (by decide +kernel)
theorem ms_X4_close : Cond.selects RX4 yX4_close yX4_close ∈ bw := bw_mem 284 (by decide +kernel) (by decide +kernel)
theorem mc_X4_close : Cond.code yX4_close cX4_close 3 (some .boolean) ∈ bw := bw_mem 285 (by decide +kernel) (by decide +kernel)
theorem ml_L_59 : Cond.methodLink RL 59 yX7_flip ∈ bw := bw_mem 286 (by decide +kernel) (by decide +kernel)
theorem mi_X7_flip : Cond.instanceMethod yX7_flip ∈ bw := bw_mem 287 (by decide +kernel) (by decide +kernel)
theorem ms_X7_flip : Cond.selects RX7 yX7_flip yX7_flip ∈ bw := bw_mem 288 (by decide +kernel) (by decide +kernel)
theorem mc_X7_flip : Cond.code yX7_flip cX7_flip 3 (some .boolean) ∈ bw := bw_mem 289 (by decide +kernel) (by decide +kernel)
theorem ml_X7_63 : Cond.methodLink RX7 63 yX4_turn ∈ bw := bw_mem 290 (by decide +kernel) (by decide +kernel)
theorem mi_X4_turn : Cond.instanceMethod yX4_turn ∈ bw := bw_mem 291 (by decide +kernel) (by decide +kernel)
theorem ms_X4_turn : Cond.selects RX4 yX4_turn yX4_turn ∈ bw := bw_mem 292 (by decide +kernel) (by decide +kernel)
theorem mc_X4_turn : Cond.code yX4_turn cX4_turn 3 (some .boolean) ∈ bw := bw_mem 293 (by decide +kernel) (by decide +kernel)
theorem ml_L_84 : Cond.methodLink RL 84 yX7_sort ∈ bw := bw_mem 294 (by decide +kernel) (by decide +kernel)
theorem mi_X7_sort : Cond.instanceMethod yX7_sort ∈ bw := bw_mem 295 (by decide +kernel) (by decide +kernel)
theorem ms_X7_sort : Cond.selects RX7 yX7_sort yX7_sort ∈ bw := bw_mem 296 (by decide +kernel) (by decide +kernel)
theorem mc_X7_sort : Cond.code yX7_sort cX7_sort 1 none ∈ bw := bw_mem 297 (by decide +kernel) (by decide +kernel)
theorem ml_X7_122 : Cond.methodLink RX7 122 yX5_putInOrder ∈ bw := bw_mem 298 (by decide +kernel) (by decide +kernel)
theorem mi_X5_putInOrder : Cond.instanceMethod yX5_putInOrder ∈ bw := bw_mem 299 (by decide +kernel) (by decide +kernel)
theorem ms_X5_putInOrder : Cond.selects RX5 yX5_putInOrder yX5_putInOrder ∈ bw := bw_mem 300 (by decide +kernel) (by decide +kernel)
theorem mc_X5_putInOrder : Cond.code yX5_putInOrder cX5_putInOrder 4 none ∈ bw := bw_mem 301 (by decide +kernel) (by decide +kernel)
theorem ml_X5_101 : Cond.methodLink RX5 101 yX4_isNameAhead ∈ bw := bw_mem 302 (by decide +kernel) (by decide +kernel)
theorem mi_X4_isNameAhead : Cond.instanceMethod yX4_isNameAhead ∈ bw := bw_mem 303 (by decide +kernel) (by decide +kernel)
theorem ms_X4_isNameAhead : Cond.selects RX4 yX4_isNameAhead yX4_isNameAhead ∈ bw := bw_mem 304 (by decide +kernel) (by decide +kernel)
theorem mc_X4_isNameAhead : Cond.code yX4_isNameAhead cX4_isNameAhead 3 (some .boolean) ∈ bw := bw_mem 305 (by decide +kernel) (by decide +kernel)
theorem ml_X4_48 : Cond.methodLink RX4 48 yX4_at ∈ bw := bw_mem 306 (by decide +kernel) (by decide +kernel)
theorem mi_X4_at : Cond.instanceMethod yX4_at ∈ bw := bw_mem 307 (by decide +kernel) (by decide +kernel)
theorem ms_X4_at : Cond.selects RX4 yX4_at yX4_at ∈ bw := bw_mem 308 (by decide +kernel) (by decide +kernel)
theorem mc_X4_at : Cond.code yX4_at cX4_at 2 (some .int) ∈ bw := bw_mem 309 (by decide +kernel) (by decide +kernel)
theorem ml_L_88 : Cond.methodLink RL 88 yX7_clear ∈ bw := bw_mem 310 (by decide +kernel) (by decide +kernel)
theorem mi_X7_clear : Cond.instanceMethod yX7_clear ∈ bw := bw_mem 311 (by decide +kernel) (by decide +kernel)
theorem ms_X7_clear : Cond.selects RX7 yX7_clear yX7_clear ∈ bw := bw_mem 312 (by decide +kernel) (by decide +kernel)
theorem mc_X7_clear : Cond.code yX7_clear cX7_clear 1 none ∈ bw := bw_mem 313 (by decide +kernel) (by decide +kernel)
theorem ml_X7_125 : Cond.methodLink RX7 125 yX5_takeOutAll ∈ bw := bw_mem 314 (by decide +kernel) (by decide +kernel)
theorem mi_X5_takeOutAll : Cond.instanceMethod yX5_takeOutAll ∈ bw := bw_mem 315 (by decide +kernel) (by decide +kernel)
theorem ms_X5_takeOutAll : Cond.selects RX5 yX5_takeOutAll yX5_takeOutAll ∈ bw := bw_mem 316 (by decide +kernel) (by decide +kernel)
theorem mc_X5_takeOutAll : Cond.code yX5_takeOutAll cX5_takeOutAll 1 none ∈ bw := bw_mem 317 (by decide +kernel) (by decide +kernel)
theorem ml_X5_97 : Cond.methodLink RX5 97 yX4_shorten ∈ bw := bw_mem 318 (by decide +kernel) (by decide +kernel)
theorem ml_L_92 : Cond.methodLink RL 92 yX7_make ∈ bw := bw_mem 319 (by decide +kernel) (by decide +kernel)
theorem mi_X7_make : Cond.instanceMethod yX7_make ∈ bw := bw_mem 320 (by decide +kernel) (by decide +kernel)
theorem ms_X7_make : Cond.selects RX7 yX7_make yX7_make ∈ bw := bw_mem 321 (by decide +kernel) (by decide +kernel)
theorem mc_X7_make : Cond.code yX7_make cX7_make 3 (some .int) ∈ bw := bw_mem 322 (by decide +kernel) (by decide +kernel)
theorem ml_X7_128 : Cond.methodLink RX7 128 yX5_writeLocals ∈ bw := bw_mem 323 (by decide +kernel) (by decide +kernel)
theorem mi_X5_writeLocals : Cond.instanceMethod yX5_writeLocals ∈ bw := bw_mem 324 (by decide +kernel) (by decide +kernel)
theorem ms_X5_writeLocals : Cond.selects RX5 yX5_writeLocals yX5_writeLocals ∈ bw := bw_mem 325 (by decide +kernel) (by decide +kernel)
theorem mc_X5_writeLocals : Cond.code yX5_writeLocals cX5_writeLocals 4 none ∈ bw := bw_mem 326 (by decide +kernel) (by decide +kernel)
theorem ml_X5_105 : Cond.methodLink RX5 105 yX6_writeLocal ∈ bw := bw_mem 327 (by decide +kernel) (by decide +kernel)
theorem mt_X6_writeLocal : Cond.static yX6_writeLocal ∈ bw := bw_mem 328 (by decide +kernel) (by decide +kernel)
theorem mc_X6_writeLocal : Cond.code yX6_writeLocal cX6_writeLocal 2 none ∈ bw := bw_mem 329 (by decide +kernel) (by decide +kernel)
theorem ml_X6_9 : Cond.methodLink RX6 9 yX4_pushSignature ∈ bw := bw_mem 330 (by decide +kernel) (by decide +kernel)
theorem mi_X4_pushSignature : Cond.instanceMethod yX4_pushSignature ∈ bw := bw_mem 331 (by decide +kernel) (by decide +kernel)
theorem ms_X4_pushSignature : Cond.selects RX4 yX4_pushSignature yX4_pushSignature ∈ bw := bw_mem 332 (by decide +kernel) (by decide +kernel)
theorem mc_X4_pushSignature : Cond.code yX4_pushSignature cX4_pushSignature 3 none ∈ bw := bw_mem 333 (by decide +kernel) (by decide +kernel)
theorem ml_X6_15 : Cond.methodLink RX6 15 yX6_writeShared ∈ bw := bw_mem 334 (by decide +kernel) (by decide +kernel)
theorem mt_X6_writeShared : Cond.static yX6_writeShared ∈ bw := bw_mem 335 (by decide +kernel) (by decide +kernel)
theorem mc_X6_writeShared : Cond.code yX6_writeShared cX6_writeShared 2 none ∈ bw := bw_mem 336 (by decide +kernel) (by decide +kernel)
theorem ml_X6_35 : Cond.methodLink RX6 35 yX4_pushTwo ∈ bw := bw_mem 337 (by decide +kernel) (by decide +kernel)
theorem mi_X4_pushTwo : Cond.instanceMethod yX4_pushTwo ∈ bw := bw_mem 338 (by decide +kernel) (by decide +kernel)
theorem ms_X4_pushTwo : Cond.selects RX4 yX4_pushTwo yX4_pushTwo ∈ bw := bw_mem 339 (by decide +kernel) (by decide +kernel)
theorem mc_X4_pushTwo : Cond.code yX4_pushTwo cX4_pushTwo 2 none ∈ bw := bw_mem 340 (by decide +kernel) (by decide +kernel)
theorem ml_X6_42 : Cond.methodLink RX6 42 yX1_method ∈ bw := bw_mem 341 (by decide +kernel) (by decide +kernel)
theorem mi_X1_method : Cond.instanceMethod yX1_method ∈ bw := bw_mem 342 (by decide +kernel) (by decide +kernel)
theorem ms_X1_method : Cond.selects RX1 yX1_method yX1_method ∈ bw := bw_mem 343 (by decide +kernel) (by decide +kernel)
theorem mc_X1_method : Cond.code yX1_method cX1_method 1 (some .int) ∈ bw := bw_mem 344 (by decide +kernel) (by decide +kernel)
theorem ml_X6_39 : Cond.methodLink RX6 39 yX4_pushFour ∈ bw := bw_mem 345 (by decide +kernel) (by decide +kernel)
theorem mi_X4_pushFour : Cond.instanceMethod yX4_pushFour ∈ bw := bw_mem 346 (by decide +kernel) (by decide +kernel)
theorem ms_X4_pushFour : Cond.selects RX4 yX4_pushFour yX4_pushFour ∈ bw := bw_mem 347 (by decide +kernel) (by decide +kernel)
theorem mc_X4_pushFour : Cond.code yX4_pushFour cX4_pushFour 2 none ∈ bw := bw_mem 348 (by decide +kernel) (by decide +kernel)
theorem ml_X4_35 : Cond.methodLink RX4 35 yX4_pushTwo ∈ bw := bw_mem 349 (by decide +kernel) (by decide +kernel)
theorem ml_X6_27 : Cond.methodLink RX6 27 yX4_size ∈ bw := bw_mem 350 (by decide +kernel) (by decide +kernel)
theorem ml_X6_31 : Cond.methodLink RX6 31 yX4_append ∈ bw := bw_mem 351 (by decide +kernel) (by decide +kernel)
theorem ml_X5_111 : Cond.methodLink RX5 111 yX1_method ∈ bw := bw_mem 352 (by decide +kernel) (by decide +kernel)
theorem ml_X5_114 : Cond.methodLink RX5 114 yX0_fold ∈ bw := bw_mem 353 (by decide +kernel) (by decide +kernel)
theorem mt_X0_fold : Cond.static yX0_fold ∈ bw := bw_mem 354 (by decide +kernel) (by decide +kernel)
theorem mc_X0_fold : Cond.code yX0_fold cX0_fold 7 none ∈ bw := bw_mem 355 (by decide +kernel) (by decide +kernel)
theorem ml_X0_19 : Cond.methodLink RX0 19 yX0_nextGroup ∈ bw := bw_mem 356 (by decide +kernel) (by decide +kernel)
theorem mt_X0_nextGroup : Cond.static yX0_nextGroup ∈ bw := bw_mem 357 (by decide +kernel) (by decide +kernel)
theorem mc_X0_nextGroup : Cond.code yX0_nextGroup cX0_nextGroup 6 (some .int) ∈ bw := bw_mem 358 (by decide +kernel) (by decide +kernel)
theorem ml_X0_40 : Cond.methodLink RX0 40 yJ9_min_7cf53 ∈ bw := bw_mem 359 (by decide +kernel) (by decide +kernel)
theorem mt_J9_min_7cf53 : Cond.static yJ9_min_7cf53 ∈ bw := bw_mem 360 (by decide +kernel) (by decide +kernel)
theorem mc_J9_min_7cf53 : Cond.code yJ9_min_7cf53 cJ9_min_7cf53 2 (some .int) ∈ bw := bw_mem 361 (by decide +kernel) (by decide +kernel)
theorem ml_X0_7 : Cond.methodLink RX0 7 yX4_at ∈ bw := bw_mem 362 (by decide +kernel) (by decide +kernel)
theorem ml_X0_32 : Cond.methodLink RX0 32 yX4_push ∈ bw := bw_mem 363 (by decide +kernel) (by decide +kernel)
theorem ml_X0_36 : Cond.methodLink RX0 36 yX4_append ∈ bw := bw_mem 364 (by decide +kernel) (by decide +kernel)
theorem ml_X0_23 : Cond.methodLink RX0 23 yJ9_abs_0f7a4 ∈ bw := bw_mem 365 (by decide +kernel) (by decide +kernel)
theorem mt_J9_abs_0f7a4 : Cond.static yJ9_abs_0f7a4 ∈ bw := bw_mem 366 (by decide +kernel) (by decide +kernel)
theorem mc_J9_abs_0f7a4 : Cond.code yJ9_abs_0f7a4 cJ9_abs_0f7a4 1 (some .int) ∈ bw := bw_mem 367 (by decide +kernel) (by decide +kernel)
theorem ml_X0_28 : Cond.methodLink RX0 28 yJ9_max_7cf53 ∈ bw := bw_mem 368 (by decide +kernel) (by decide +kernel)
theorem ml_X5_66 : Cond.methodLink RX5 66 yX4_append ∈ bw := bw_mem 369 (by decide +kernel) (by decide +kernel)
theorem ml_X7_132 : Cond.methodLink RX7 132 yX5_writeCentrals ∈ bw := bw_mem 370 (by decide +kernel) (by decide +kernel)
theorem mi_X5_writeCentrals : Cond.instanceMethod yX5_writeCentrals ∈ bw := bw_mem 371 (by decide +kernel) (by decide +kernel)
theorem ms_X5_writeCentrals : Cond.selects RX5 yX5_writeCentrals yX5_writeCentrals ∈ bw := bw_mem 372 (by decide +kernel) (by decide +kernel)
theorem mc_X5_writeCentrals : Cond.code yX5_writeCentrals cX5_writeCentrals 4 none ∈ bw := bw_mem 373 (by decide +kernel) (by decide +kernel)
theorem ml_X5_118 : Cond.methodLink RX5 118 yX6_writeCentral ∈ bw := bw_mem 374 (by decide +kernel) (by decide +kernel)
theorem mt_X6_writeCentral : Cond.static yX6_writeCentral ∈ bw := bw_mem 375 (by decide +kernel) (by decide +kernel)
theorem mc_X6_writeCentral : Cond.code yX6_writeCentral cX6_writeCentral 3 none ∈ bw := bw_mem 376 (by decide +kernel) (by decide +kernel)
theorem ml_X5_122 : Cond.methodLink RX5 122 yX1_localSize ∈ bw := bw_mem 377 (by decide +kernel) (by decide +kernel)
theorem mi_X1_localSize : Cond.instanceMethod yX1_localSize ∈ bw := bw_mem 378 (by decide +kernel) (by decide +kernel)
theorem ms_X1_localSize : Cond.selects RX1 yX1_localSize yX1_localSize ∈ bw := bw_mem 379 (by decide +kernel) (by decide +kernel)
theorem mc_X1_localSize : Cond.code yX1_localSize cX1_localSize 1 (some .int) ∈ bw := bw_mem 380 (by decide +kernel) (by decide +kernel)
theorem ml_X1_27 : Cond.methodLink RX1 27 yX4_size ∈ bw := bw_mem 381 (by decide +kernel) (by decide +kernel)
theorem ml_X7_98 : Cond.methodLink RX7 98 yX5_count ∈ bw := bw_mem 382 (by decide +kernel) (by decide +kernel)
theorem mi_X5_count : Cond.instanceMethod yX5_count ∈ bw := bw_mem 383 (by decide +kernel) (by decide +kernel)
theorem ms_X5_count : Cond.selects RX5 yX5_count yX5_count ∈ bw := bw_mem 384 (by decide +kernel) (by decide +kernel)
theorem mc_X5_count : Cond.code yX5_count cX5_count 1 (some .int) ∈ bw := bw_mem 385 (by decide +kernel) (by decide +kernel)
theorem ml_X7_135 : Cond.methodLink RX7 135 yX6_writeEnd ∈ bw := bw_mem 386 (by decide +kernel) (by decide +kernel)
theorem mt_X6_writeEnd : Cond.static yX6_writeEnd ∈ bw := bw_mem 387 (by decide +kernel) (by decide +kernel)
theorem mc_X6_writeEnd : Cond.code yX6_writeEnd cX6_writeEnd 4 none ∈ bw := bw_mem 388 (by decide +kernel) (by decide +kernel)
theorem ml_L_99 : Cond.methodLink RL 99 yX7_fault ∈ bw := bw_mem 389 (by decide +kernel) (by decide +kernel)
theorem mi_X7_fault : Cond.instanceMethod yX7_fault ∈ bw := bw_mem 390 (by decide +kernel) (by decide +kernel)
theorem ms_X7_fault : Cond.selects RX7 yX7_fault yX7_fault ∈ bw := bw_mem 391 (by decide +kernel) (by decide +kernel)
theorem mc_X7_fault : Cond.code yX7_fault cX7_fault 2 (some .int) ∈ bw := bw_mem 392 (by decide +kernel) (by decide +kernel)
theorem ml_X7_151 : Cond.methodLink RX7 151 yX3_faultNumber ∈ bw := bw_mem 393 (by decide +kernel) (by decide +kernel)
theorem mi_X3_faultNumber : Cond.instanceMethod yX3_faultNumber ∈ bw := bw_mem 394 (by decide +kernel) (by decide +kernel)
theorem ms_X3_faultNumber : Cond.selects RX3 yX3_faultNumber yX3_faultNumber ∈ bw := bw_mem 395 (by decide +kernel) (by decide +kernel)
theorem mc_X3_faultNumber : Cond.code yX3_faultNumber cX3_faultNumber 1 (some .int) ∈ bw := bw_mem 396 (by decide +kernel) (by decide +kernel)
theorem ml_X7_154 : Cond.methodLink RX7 154 yX3_faultFile ∈ bw := bw_mem 397 (by decide +kernel) (by decide +kernel)
theorem mi_X3_faultFile : Cond.instanceMethod yX3_faultFile ∈ bw := bw_mem 398 (by decide +kernel) (by decide +kernel)
theorem ms_X3_faultFile : Cond.selects RX3 yX3_faultFile yX3_faultFile ∈ bw := bw_mem 399 (by decide +kernel) (by decide +kernel)
theorem mc_X3_faultFile : Cond.code yX3_faultFile cX3_faultFile 1 (some .int) ∈ bw := bw_mem 400 (by decide +kernel) (by decide +kernel)
theorem ml_X7_157 : Cond.methodLink RX7 157 yX3_faultPlace ∈ bw := bw_mem 401 (by decide +kernel) (by decide +kernel)
theorem mi_X3_faultPlace : Cond.instanceMethod yX3_faultPlace ∈ bw := bw_mem 402 (by decide +kernel) (by decide +kernel)
theorem ms_X3_faultPlace : Cond.selects RX3 yX3_faultPlace yX3_faultPlace ∈ bw := bw_mem 403 (by decide +kernel) (by decide +kernel)
theorem mc_X3_faultPlace : Cond.code yX3_faultPlace cX3_faultPlace 1 (some .int) ∈ bw := bw_mem 404 (by decide +kernel) (by decide +kernel)
theorem ml_L_103 : Cond.methodLink RL 103 yX7_save ∈ bw := bw_mem 405 (by decide +kernel) (by decide +kernel)
theorem mi_X7_save : Cond.instanceMethod yX7_save ∈ bw := bw_mem 406 (by decide +kernel) (by decide +kernel)
theorem ms_X7_save : Cond.selects RX7 yX7_save yX7_save ∈ bw := bw_mem 407 (by decide +kernel) (by decide +kernel)
theorem mc_X7_save : Cond.code yX7_save cX7_save 4 (some .int) ∈ bw := bw_mem 408 (by decide +kernel) (by decide +kernel)
theorem ml_X7_160 : Cond.methodLink RX7 160 yX7_saveFrom ∈ bw := bw_mem 409 (by decide +kernel) (by decide +kernel)
theorem mi_X7_saveFrom : Cond.instanceMethod yX7_saveFrom ∈ bw := bw_mem 411 (by decide +kernel) (by decide +kernel)
theorem mc_X7_saveFrom : Cond.code yX7_saveFrom cX7_saveFrom 6 (some .int) ∈ bw := bw_mem 412 (by decide +kernel) (by decide +kernel)
theorem ml_X7_164 : Cond.methodLink RX7 164 yX3_wholeAt ∈ bw := bw_mem 413 (by decide +kernel) (by decide +kernel)
theorem mi_X3_wholeAt : Cond.instanceMethod yX3_wholeAt ∈ bw := bw_mem 414 (by decide +kernel) (by decide +kernel)
theorem ms_X3_wholeAt : Cond.selects RX3 yX3_wholeAt yX3_wholeAt ∈ bw := bw_mem 415 (by decide +kernel) (by decide +kernel)
theorem mc_X3_wholeAt : Cond.code yX3_wholeAt cX3_wholeAt 5 (some .boolean) ∈ bw := bw_mem 416 (by decide +kernel) (by decide +kernel)
theorem ml_X3_89 : Cond.methodLink RX3 89 yX4_hasSignature ∈ bw := bw_mem 417 (by decide +kernel) (by decide +kernel)
theorem mi_X4_hasSignature : Cond.instanceMethod yX4_hasSignature ∈ bw := bw_mem 418 (by decide +kernel) (by decide +kernel)
theorem ms_X4_hasSignature : Cond.selects RX4 yX4_hasSignature yX4_hasSignature ∈ bw := bw_mem 419 (by decide +kernel) (by decide +kernel)
theorem mc_X4_hasSignature : Cond.code yX4_hasSignature cX4_hasSignature 4 (some .boolean) ∈ bw := bw_mem 420 (by decide +kernel) (by decide +kernel)
theorem ml_X3_110 : Cond.methodLink RX3 110 yX2_parse ∈ bw := bw_mem 421 (by decide +kernel) (by decide +kernel)
theorem mi_X2_parse : Cond.instanceMethod yX2_parse ∈ bw := bw_mem 422 (by decide +kernel) (by decide +kernel)
theorem ms_X2_parse : Cond.selects RX2 yX2_parse yX2_parse ∈ bw := bw_mem 423 (by decide +kernel) (by decide +kernel)
theorem mc_X2_parse : Cond.code yX2_parse cX2_parse 3 (some .boolean) ∈ bw := bw_mem 424 (by decide +kernel) (by decide +kernel)
theorem ml_X2_9 : Cond.methodLink RX2 9 yX4_holds ∈ bw := bw_mem 425 (by decide +kernel) (by decide +kernel)
theorem ml_X2_15 : Cond.methodLink RX2 15 yX4_two ∈ bw := bw_mem 426 (by decide +kernel) (by decide +kernel)
theorem mi_X4_two : Cond.instanceMethod yX4_two ∈ bw := bw_mem 427 (by decide +kernel) (by decide +kernel)
theorem ms_X4_two : Cond.selects RX4 yX4_two yX4_two ∈ bw := bw_mem 428 (by decide +kernel) (by decide +kernel)
theorem mc_X4_two : Cond.code yX4_two cX4_two 2 (some .int) ∈ bw := bw_mem 429 (by decide +kernel) (by decide +kernel)
theorem ml_X2_25 : Cond.methodLink RX2 25 yX4_four ∈ bw := bw_mem 430 (by decide +kernel) (by decide +kernel)
theorem mi_X4_four : Cond.instanceMethod yX4_four ∈ bw := bw_mem 431 (by decide +kernel) (by decide +kernel)
theorem ms_X4_four : Cond.selects RX4 yX4_four yX4_four ∈ bw := bw_mem 432 (by decide +kernel) (by decide +kernel)
theorem mc_X4_four : Cond.code yX4_four cX4_four 4 (some .long) ∈ bw := bw_mem 433 (by decide +kernel) (by decide +kernel)
theorem mk_X4_29 : Cond.constantLong RX4 29 (-1) ∈ bw := bw_mem 434 (by decide +kernel) (by decide +kernel)
theorem ml_X3_113 : Cond.methodLink RX3 113 yX4_isName ∈ bw := bw_mem 435 (by decide +kernel) (by decide +kernel)
theorem mi_X4_isName : Cond.instanceMethod yX4_isName ∈ bw := bw_mem 436 (by decide +kernel) (by decide +kernel)
theorem ms_X4_isName : Cond.selects RX4 yX4_isName yX4_isName ∈ bw := bw_mem 437 (by decide +kernel) (by decide +kernel)
theorem mc_X4_isName : Cond.code yX4_isName cX4_isName 5 (some .boolean) ∈ bw := bw_mem 438 (by decide +kernel) (by decide +kernel)
theorem ml_X3_64 : Cond.methodLink RX3 64 yX4_size ∈ bw := bw_mem 439 (by decide +kernel) (by decide +kernel)
theorem ml_X3_131 : Cond.methodLink RX3 131 yX2_sizesFit ∈ bw := bw_mem 440 (by decide +kernel) (by decide +kernel)
theorem mi_X2_sizesFit : Cond.instanceMethod yX2_sizesFit ∈ bw := bw_mem 441 (by decide +kernel) (by decide +kernel)
theorem ms_X2_sizesFit : Cond.selects RX2 yX2_sizesFit yX2_sizesFit ∈ bw := bw_mem 442 (by decide +kernel) (by decide +kernel)
theorem mc_X2_sizesFit : Cond.code yX2_sizesFit cX2_sizesFit 1 (some .boolean) ∈ bw := bw_mem 443 (by decide +kernel) (by decide +kernel)
theorem mk_X2_42 : Cond.constantLong RX2 42 (1500) ∈ bw := bw_mem 444 (by decide +kernel) (by decide +kernel)
theorem ml_X3_137 : Cond.methodLink RX3 137 yX3_unpack ∈ bw := bw_mem 445 (by decide +kernel) (by decide +kernel)
theorem mi_X3_unpack : Cond.instanceMethod yX3_unpack ∈ bw := bw_mem 447 (by decide +kernel) (by decide +kernel)
theorem mc_X3_unpack : Cond.code yX3_unpack cX3_unpack 3 (some .boolean) ∈ bw := bw_mem 448 (by decide +kernel) (by decide +kernel)
theorem ml_X3_143 : Cond.methodLink RX3 143 yX4_shorten ∈ bw := bw_mem 449 (by decide +kernel) (by decide +kernel)
theorem ml_X3_126 : Cond.methodLink RX3 126 yX3_packedSize ∈ bw := bw_mem 450 (by decide +kernel) (by decide +kernel)
theorem mi_X3_packedSize : Cond.instanceMethod yX3_packedSize ∈ bw := bw_mem 451 (by decide +kernel) (by decide +kernel)
theorem ms_X3_packedSize : Cond.selects RX3 yX3_packedSize yX3_packedSize ∈ bw := bw_mem 452 (by decide +kernel) (by decide +kernel)
theorem mc_X3_packedSize : Cond.code yX3_packedSize cX3_packedSize 1 (some .int) ∈ bw := bw_mem 453 (by decide +kernel) (by decide +kernel)
theorem ml_X3_150 : Cond.methodLink RX3 150 yX4_append ∈ bw := bw_mem 454 (by decide +kernel) (by decide +kernel)
theorem ml_X3_154 : Cond.methodLink RX3 154 yX0_unfold ∈ bw := bw_mem 455 (by decide +kernel) (by decide +kernel)
theorem mt_X0_unfold : Cond.static yX0_unfold ∈ bw := bw_mem 456 (by decide +kernel) (by decide +kernel)
theorem mc_X0_unfold : Cond.code yX0_unfold cX0_unfold 9 (some .boolean) ∈ bw := bw_mem 457 (by decide +kernel) (by decide +kernel)
theorem ml_X0_43 : Cond.methodLink RX0 43 yX4_holds ∈ bw := bw_mem 458 (by decide +kernel) (by decide +kernel)
theorem ml_X0_47 : Cond.methodLink RX0 47 yX4_room ∈ bw := bw_mem 459 (by decide +kernel) (by decide +kernel)
theorem ml_X0_51 : Cond.methodLink RX0 51 yX0_repeat ∈ bw := bw_mem 460 (by decide +kernel) (by decide +kernel)
theorem mt_X0_repeat : Cond.static yX0_repeat ∈ bw := bw_mem 461 (by decide +kernel) (by decide +kernel)
theorem mc_X0_repeat : Cond.code yX0_repeat cX0_repeat 4 none ∈ bw := bw_mem 462 (by decide +kernel) (by decide +kernel)
theorem ml_X3_140 : Cond.methodLink RX3 140 yX3_crcAgrees ∈ bw := bw_mem 463 (by decide +kernel) (by decide +kernel)
theorem mi_X3_crcAgrees : Cond.instanceMethod yX3_crcAgrees ∈ bw := bw_mem 465 (by decide +kernel) (by decide +kernel)
theorem mc_X3_crcAgrees : Cond.code yX3_crcAgrees cX3_crcAgrees 1 (some .boolean) ∈ bw := bw_mem 466 (by decide +kernel) (by decide +kernel)
theorem ml_X3_160 : Cond.methodLink RX3 160 yX0_crc ∈ bw := bw_mem 467 (by decide +kernel) (by decide +kernel)
theorem mt_X0_crc : Cond.static yX0_crc ∈ bw := bw_mem 468 (by decide +kernel) (by decide +kernel)
theorem mc_X0_crc : Cond.code yX0_crc cX0_crc 5 (some .int) ∈ bw := bw_mem 469 (by decide +kernel) (by decide +kernel)
theorem mf_X0_13 : Cond.fieldLink RX0 13 "ArchiveDesk$Codec" "CRC_STEPS" "[I" ∈ bw := bw_mem 470 (by decide +kernel) (by decide +kernel)
theorem ml_X7_168 : Cond.methodLink RX7 168 yX3_nameSize ∈ bw := bw_mem 472 (by decide +kernel) (by decide +kernel)
theorem mi_X3_nameSize : Cond.instanceMethod yX3_nameSize ∈ bw := bw_mem 473 (by decide +kernel) (by decide +kernel)
theorem ms_X3_nameSize : Cond.selects RX3 yX3_nameSize yX3_nameSize ∈ bw := bw_mem 474 (by decide +kernel) (by decide +kernel)
theorem mc_X3_nameSize : Cond.code yX3_nameSize cX3_nameSize 1 (some .int) ∈ bw := bw_mem 475 (by decide +kernel) (by decide +kernel)
theorem ml_X7_171 : Cond.methodLink RX7 171 yX3_unpacked ∈ bw := bw_mem 476 (by decide +kernel) (by decide +kernel)
theorem mi_X3_unpacked : Cond.instanceMethod yX3_unpacked ∈ bw := bw_mem 477 (by decide +kernel) (by decide +kernel)
theorem ms_X3_unpacked : Cond.selects RX3 yX3_unpacked yX3_unpacked ∈ bw := bw_mem 478 (by decide +kernel) (by decide +kernel)
theorem mc_X3_unpacked : Cond.code yX3_unpacked cX3_unpacked 1 (some (.object "ArchiveDesk$Row")) ∈ bw := bw_mem 479 (by decide +kernel) (by decide +kernel)
theorem ml_X7_83 : Cond.methodLink RX7 83 yX5_lookUp ∈ bw := bw_mem 480 (by decide +kernel) (by decide +kernel)
theorem mi_X5_lookUp : Cond.instanceMethod yX5_lookUp ∈ bw := bw_mem 481 (by decide +kernel) (by decide +kernel)
theorem ms_X5_lookUp : Cond.selects RX5 yX5_lookUp yX5_lookUp ∈ bw := bw_mem 482 (by decide +kernel) (by decide +kernel)
theorem mc_X5_lookUp : Cond.code yX5_lookUp cX5_lookUp 6 (some .int) ∈ bw := bw_mem 483 (by decide +kernel) (by decide +kernel)
theorem ml_X5_31 : Cond.methodLink RX5 31 yX4_size ∈ bw := bw_mem 484 (by decide +kernel) (by decide +kernel)
theorem ml_X5_47 : Cond.methodLink RX5 47 yX4_agrees ∈ bw := bw_mem 485 (by decide +kernel) (by decide +kernel)
theorem mi_X4_agrees : Cond.instanceMethod yX4_agrees ∈ bw := bw_mem 486 (by decide +kernel) (by decide +kernel)
theorem ms_X4_agrees : Cond.selects RX4 yX4_agrees yX4_agrees ∈ bw := bw_mem 487 (by decide +kernel) (by decide +kernel)
theorem mc_X4_agrees : Cond.code yX4_agrees cX4_agrees 6 (some .boolean) ∈ bw := bw_mem 488 (by decide +kernel) (by decide +kernel)
theorem ml_X7_89 : Cond.methodLink RX7 89 yX5_hasRoom ∈ bw := bw_mem 489 (by decide +kernel) (by decide +kernel)
theorem mi_X5_hasRoom : Cond.instanceMethod yX5_hasRoom ∈ bw := bw_mem 490 (by decide +kernel) (by decide +kernel)
theorem ms_X5_hasRoom : Cond.selects RX5 yX5_hasRoom yX5_hasRoom ∈ bw := bw_mem 491 (by decide +kernel) (by decide +kernel)
theorem mc_X5_hasRoom : Cond.code yX5_hasRoom cX5_hasRoom 6 (some .boolean) ∈ bw := bw_mem 492 (by decide +kernel) (by decide +kernel)
theorem ml_X5_51 : Cond.methodLink RX5 51 yX5_entry ∈ bw := bw_mem 493 (by decide +kernel) (by decide +kernel)
theorem mi_X5_entry : Cond.instanceMethod yX5_entry ∈ bw := bw_mem 494 (by decide +kernel) (by decide +kernel)
theorem ms_X5_entry : Cond.selects RX5 yX5_entry yX5_entry ∈ bw := bw_mem 495 (by decide +kernel) (by decide +kernel)
theorem mc_X5_entry : Cond.code yX5_entry cX5_entry 2 (some (.object "ArchiveDesk$Entry")) ∈ bw := bw_mem 496 (by decide +kernel) (by decide +kernel)
theorem ml_X5_55 : Cond.methodLink RX5 55 yX4_room ∈ bw := bw_mem 497 (by decide +kernel) (by decide +kernel)
theorem ml_X7_119 : Cond.methodLink RX7 119 yX5_takeOut ∈ bw := bw_mem 498 (by decide +kernel) (by decide +kernel)
theorem mi_X5_takeOut : Cond.instanceMethod yX5_takeOut ∈ bw := bw_mem 499 (by decide +kernel) (by decide +kernel)
theorem ms_X5_takeOut : Cond.selects RX5 yX5_takeOut yX5_takeOut ∈ bw := bw_mem 500 (by decide +kernel) (by decide +kernel)
theorem mc_X5_takeOut : Cond.code yX5_takeOut cX5_takeOut 4 none ∈ bw := bw_mem 501 (by decide +kernel) (by decide +kernel)
theorem ml_X5_89 : Cond.methodLink RX5 89 yX5_release ∈ bw := bw_mem 502 (by decide +kernel) (by decide +kernel)
theorem mi_X5_release : Cond.instanceMethod yX5_release ∈ bw := bw_mem 504 (by decide +kernel) (by decide +kernel)
theorem mc_X5_release : Cond.code yX5_release cX5_release 3 none ∈ bw := bw_mem 505 (by decide +kernel) (by decide +kernel)
theorem ml_X5_93 : Cond.methodLink RX5 93 yX4_close ∈ bw := bw_mem 506 (by decide +kernel) (by decide +kernel)
theorem ml_X7_94 : Cond.methodLink RX7 94 yX5_put ∈ bw := bw_mem 507 (by decide +kernel) (by decide +kernel)
theorem mi_X5_put : Cond.instanceMethod yX5_put ∈ bw := bw_mem 508 (by decide +kernel) (by decide +kernel)
theorem ms_X5_put : Cond.selects RX5 yX5_put yX5_put ∈ bw := bw_mem 509 (by decide +kernel) (by decide +kernel)
theorem mc_X5_put : Cond.code yX5_put cX5_put 8 none ∈ bw := bw_mem 510 (by decide +kernel) (by decide +kernel)
theorem ml_X5_58 : Cond.methodLink RX5 58 yX1_setName ∈ bw := bw_mem 511 (by decide +kernel) (by decide +kernel)
theorem mi_X1_setName : Cond.instanceMethod yX1_setName ∈ bw := bw_mem 512 (by decide +kernel) (by decide +kernel)
theorem ms_X1_setName : Cond.selects RX1 yX1_setName yX1_setName ∈ bw := bw_mem 513 (by decide +kernel) (by decide +kernel)
theorem mc_X1_setName : Cond.code yX1_setName cX1_setName 4 none ∈ bw := bw_mem 514 (by decide +kernel) (by decide +kernel)
theorem ml_X1_30 : Cond.methodLink RX1 30 yX4_shorten ∈ bw := bw_mem 515 (by decide +kernel) (by decide +kernel)
theorem ml_X1_34 : Cond.methodLink RX1 34 yX4_append ∈ bw := bw_mem 516 (by decide +kernel) (by decide +kernel)
theorem ml_X5_62 : Cond.methodLink RX5 62 yX5_fill ∈ bw := bw_mem 517 (by decide +kernel) (by decide +kernel)
theorem mi_X5_fill : Cond.instanceMethod yX5_fill ∈ bw := bw_mem 519 (by decide +kernel) (by decide +kernel)
theorem mc_X5_fill : Cond.code yX5_fill cX5_fill 5 none ∈ bw := bw_mem 520 (by decide +kernel) (by decide +kernel)
theorem ml_X5_69 : Cond.methodLink RX5 69 yX0_crc ∈ bw := bw_mem 521 (by decide +kernel) (by decide +kernel)
theorem ml_X5_77 : Cond.methodLink RX5 77 yX0_foldedSize ∈ bw := bw_mem 522 (by decide +kernel) (by decide +kernel)
theorem mt_X0_foldedSize : Cond.static yX0_foldedSize ∈ bw := bw_mem 523 (by decide +kernel) (by decide +kernel)
theorem mc_X0_foldedSize : Cond.code yX0_foldedSize cX0_foldedSize 7 (some .int) ∈ bw := bw_mem 524 (by decide +kernel) (by decide +kernel)
theorem ml_X5_80 : Cond.methodLink RX5 80 yJ9_min_7cf53 ∈ bw := bw_mem 525 (by decide +kernel) (by decide +kernel)
theorem ml_X7_175 : Cond.methodLink RX7 175 yX3_packedSize ∈ bw := bw_mem 526 (by decide +kernel) (by decide +kernel)
theorem ml_L_107 : Cond.methodLink RL 107 yX7_file ∈ bw := bw_mem 527 (by decide +kernel) (by decide +kernel)
theorem mi_X7_file : Cond.instanceMethod yX7_file ∈ bw := bw_mem 528 (by decide +kernel) (by decide +kernel)
theorem ms_X7_file : Cond.selects RX7 yX7_file yX7_file ∈ bw := bw_mem 529 (by decide +kernel) (by decide +kernel)
theorem mc_X7_file : Cond.code yX7_file cX7_file 4 (some .int) ∈ bw := bw_mem 530 (by decide +kernel) (by decide +kernel)
theorem ml_X7_101 : Cond.methodLink RX7 101 yX5_entry ∈ bw := bw_mem 531 (by decide +kernel) (by decide +kernel)
theorem ml_X7_189 : Cond.methodLink RX7 189 yX1_method ∈ bw := bw_mem 532 (by decide +kernel) (by decide +kernel)
theorem ml_L_111 : Cond.methodLink RL 111 yX7_letter ∈ bw := bw_mem 533 (by decide +kernel) (by decide +kernel)
theorem mi_X7_letter : Cond.instanceMethod yX7_letter ∈ bw := bw_mem 534 (by decide +kernel) (by decide +kernel)
theorem ms_X7_letter : Cond.selects RX7 yX7_letter yX7_letter ∈ bw := bw_mem 535 (by decide +kernel) (by decide +kernel)
theorem mc_X7_letter : Cond.code yX7_letter cX7_letter 5 (some .int) ∈ bw := bw_mem 536 (by decide +kernel) (by decide +kernel)
theorem ml_X7_195 : Cond.methodLink RX7 195 yX4_at ∈ bw := bw_mem 537 (by decide +kernel) (by decide +kernel)
theorem ml_X7_198 : Cond.methodLink RX7 198 yX5_byteOf ∈ bw := bw_mem 538 (by decide +kernel) (by decide +kernel)
theorem mi_X5_byteOf : Cond.instanceMethod yX5_byteOf ∈ bw := bw_mem 539 (by decide +kernel) (by decide +kernel)
theorem ms_X5_byteOf : Cond.selects RX5 yX5_byteOf yX5_byteOf ∈ bw := bw_mem 540 (by decide +kernel) (by decide +kernel)
theorem mc_X5_byteOf : Cond.code yX5_byteOf cX5_byteOf 3 (some .int) ∈ bw := bw_mem 541 (by decide +kernel) (by decide +kernel)
theorem ml_X5_40 : Cond.methodLink RX5 40 yX4_at ∈ bw := bw_mem 542 (by decide +kernel) (by decide +kernel)
theorem ml_L_116 : Cond.methodLink RL 116 yX7_find ∈ bw := bw_mem 543 (by decide +kernel) (by decide +kernel)
theorem mi_X7_find : Cond.instanceMethod yX7_find ∈ bw := bw_mem 544 (by decide +kernel) (by decide +kernel)
theorem ms_X7_find : Cond.selects RX7 yX7_find yX7_find ∈ bw := bw_mem 545 (by decide +kernel) (by decide +kernel)
theorem mc_X7_find : Cond.code yX7_find cX7_find 1 (some .int) ∈ bw := bw_mem 546 (by decide +kernel) (by decide +kernel)
theorem ml_L_120 : Cond.methodLink RL 120 yX7_output ∈ bw := bw_mem 547 (by decide +kernel) (by decide +kernel)
theorem mi_X7_output : Cond.instanceMethod yX7_output ∈ bw := bw_mem 548 (by decide +kernel) (by decide +kernel)
theorem ms_X7_output : Cond.selects RX7 yX7_output yX7_output ∈ bw := bw_mem 549 (by decide +kernel) (by decide +kernel)
theorem mc_X7_output : Cond.code yX7_output cX7_output 2 (some .int) ∈ bw := bw_mem 550 (by decide +kernel) (by decide +kernel)
theorem ml_L_124 : Cond.methodLink RL 124 yX7_about ∈ bw := bw_mem 551 (by decide +kernel) (by decide +kernel)
theorem mi_X7_about : Cond.instanceMethod yX7_about ∈ bw := bw_mem 552 (by decide +kernel) (by decide +kernel)
theorem ms_X7_about : Cond.selects RX7 yX7_about yX7_about ∈ bw := bw_mem 553 (by decide +kernel) (by decide +kernel)
theorem mc_X7_about : Cond.code yX7_about cX7_about 2 (some .int) ∈ bw := bw_mem 554 (by decide +kernel) (by decide +kernel)
theorem ml_X7_202 : Cond.methodLink RX7 202 yX5_together ∈ bw := bw_mem 555 (by decide +kernel) (by decide +kernel)
theorem mi_X5_together : Cond.instanceMethod yX5_together ∈ bw := bw_mem 556 (by decide +kernel) (by decide +kernel)
theorem ms_X5_together : Cond.selects RX5 yX5_together yX5_together ∈ bw := bw_mem 557 (by decide +kernel) (by decide +kernel)
theorem mc_X5_together : Cond.code yX5_together cX5_together 1 (some .int) ∈ bw := bw_mem 558 (by decide +kernel) (by decide +kernel)
theorem ml_L_64 : Cond.methodLink RL 64 yL_take ∈ bw := bw_mem 559 (by decide +kernel) (by decide +kernel)
theorem mt_L_take : Cond.static yL_take ∈ bw := bw_mem 560 (by decide +kernel) (by decide +kernel)
theorem ml_L_7 : Cond.methodLink RL 7 yX7_take ∈ bw := bw_mem 563 (by decide +kernel) (by decide +kernel)
theorem mi_X7_take : Cond.instanceMethod yX7_take ∈ bw := bw_mem 564 (by decide +kernel) (by decide +kernel)
theorem ms_X7_take : Cond.selects RX7 yX7_take yX7_take ∈ bw := bw_mem 565 (by decide +kernel) (by decide +kernel)
theorem mc_X7_take : Cond.code yX7_take cX7_take 1 (some .int) ∈ bw := bw_mem 566 (by decide +kernel) (by decide +kernel)
theorem ml_X7_70 : Cond.methodLink RX7 70 ⟨"java/lang/IllegalStateException", "<init>", "(Ljava/lang/String;)V"⟩ ∈ bw := bw_mem 609 (by decide +kernel) (by decide +kernel)
theorem ml_L_70 : Cond.methodLink RL 70 yL_add ∈ bw := bw_mem 635 (by decide +kernel) (by decide +kernel)
theorem mt_L_add : Cond.static yL_add ∈ bw := bw_mem 636 (by decide +kernel) (by decide +kernel)
theorem ml_L_15 : Cond.methodLink RL 15 yX7_add ∈ bw := bw_mem 639 (by decide +kernel) (by decide +kernel)
theorem mi_X7_add : Cond.instanceMethod yX7_add ∈ bw := bw_mem 640 (by decide +kernel) (by decide +kernel)
theorem ms_X7_add : Cond.selects RX7 yX7_add yX7_add ∈ bw := bw_mem 641 (by decide +kernel) (by decide +kernel)
theorem mc_X7_add : Cond.code yX7_add cX7_add 3 (some .int) ∈ bw := bw_mem 642 (by decide +kernel) (by decide +kernel)
theorem ml_X7_73 : Cond.methodLink RX7 73 yX4_isName ∈ bw := bw_mem 643 (by decide +kernel) (by decide +kernel)
theorem ml_X7_80 : Cond.methodLink RX7 80 ⟨"java/lang/IllegalArgumentException", "<init>", "(Ljava/lang/String;)V"⟩ ∈ bw := bw_mem 654 (by decide +kernel) (by decide +kernel)
theorem ml_L_74 : Cond.methodLink RL 74 yL_replace ∈ bw := bw_mem 663 (by decide +kernel) (by decide +kernel)
theorem mt_L_replace : Cond.static yL_replace ∈ bw := bw_mem 664 (by decide +kernel) (by decide +kernel)
theorem ml_L_21 : Cond.methodLink RL 21 yX7_replace ∈ bw := bw_mem 667 (by decide +kernel) (by decide +kernel)
theorem mi_X7_replace : Cond.instanceMethod yX7_replace ∈ bw := bw_mem 668 (by decide +kernel) (by decide +kernel)
theorem ms_X7_replace : Cond.selects RX7 yX7_replace yX7_replace ∈ bw := bw_mem 669 (by decide +kernel) (by decide +kernel)
theorem mc_X7_replace : Cond.code yX7_replace cX7_replace 2 none ∈ bw := bw_mem 670 (by decide +kernel) (by decide +kernel)
theorem ml_X7_109 : Cond.methodLink RX7 109 ⟨"java/lang/IndexOutOfBoundsException", "<init>", "(Ljava/lang/String;)V"⟩ ∈ bw := bw_mem 681 (by decide +kernel) (by decide +kernel)
theorem ml_X7_112 : Cond.methodLink RX7 112 yX5_changeBytes ∈ bw := bw_mem 688 (by decide +kernel) (by decide +kernel)
theorem mi_X5_changeBytes : Cond.instanceMethod yX5_changeBytes ∈ bw := bw_mem 689 (by decide +kernel) (by decide +kernel)
theorem ms_X5_changeBytes : Cond.selects RX5 yX5_changeBytes yX5_changeBytes ∈ bw := bw_mem 690 (by decide +kernel) (by decide +kernel)
theorem mc_X5_changeBytes : Cond.code yX5_changeBytes cX5_changeBytes 4 none ∈ bw := bw_mem 691 (by decide +kernel) (by decide +kernel)
theorem ml_L_78 : Cond.methodLink RL 78 yL_rename ∈ bw := bw_mem 692 (by decide +kernel) (by decide +kernel)
theorem mt_L_rename : Cond.static yL_rename ∈ bw := bw_mem 693 (by decide +kernel) (by decide +kernel)
theorem ml_L_27 : Cond.methodLink RL 27 yX7_rename ∈ bw := bw_mem 695 (by decide +kernel) (by decide +kernel)
theorem mi_X7_rename : Cond.instanceMethod yX7_rename ∈ bw := bw_mem 696 (by decide +kernel) (by decide +kernel)
theorem ms_X7_rename : Cond.selects RX7 yX7_rename yX7_rename ∈ bw := bw_mem 697 (by decide +kernel) (by decide +kernel)
theorem mc_X7_rename : Cond.code yX7_rename cX7_rename 3 none ∈ bw := bw_mem 698 (by decide +kernel) (by decide +kernel)
theorem ml_X7_116 : Cond.methodLink RX7 116 yX5_changeName ∈ bw := bw_mem 699 (by decide +kernel) (by decide +kernel)
theorem mi_X5_changeName : Cond.instanceMethod yX5_changeName ∈ bw := bw_mem 700 (by decide +kernel) (by decide +kernel)
theorem ms_X5_changeName : Cond.selects RX5 yX5_changeName yX5_changeName ∈ bw := bw_mem 701 (by decide +kernel) (by decide +kernel)
theorem mc_X5_changeName : Cond.code yX5_changeName cX5_changeName 4 none ∈ bw := bw_mem 702 (by decide +kernel) (by decide +kernel)
theorem ml_L_81 : Cond.methodLink RL 81 yL_remove ∈ bw := bw_mem 703 (by decide +kernel) (by decide +kernel)
theorem mt_L_remove : Cond.static yL_remove ∈ bw := bw_mem 704 (by decide +kernel) (by decide +kernel)
theorem ml_L_30 : Cond.methodLink RL 30 yX7_remove ∈ bw := bw_mem 706 (by decide +kernel) (by decide +kernel)
theorem mi_X7_remove : Cond.instanceMethod yX7_remove ∈ bw := bw_mem 707 (by decide +kernel) (by decide +kernel)
theorem ms_X7_remove : Cond.selects RX7 yX7_remove yX7_remove ∈ bw := bw_mem 708 (by decide +kernel) (by decide +kernel)
theorem mc_X7_remove : Cond.code yX7_remove cX7_remove 2 none ∈ bw := bw_mem 709 (by decide +kernel) (by decide +kernel)
theorem ml_L_96 : Cond.methodLink RL 96 yL_read ∈ bw := bw_mem 710 (by decide +kernel) (by decide +kernel)
theorem mt_L_read : Cond.static yL_read ∈ bw := bw_mem 711 (by decide +kernel) (by decide +kernel)
theorem ml_L_33 : Cond.methodLink RL 33 yX7_read ∈ bw := bw_mem 713 (by decide +kernel) (by decide +kernel)
theorem mi_X7_read : Cond.instanceMethod yX7_read ∈ bw := bw_mem 714 (by decide +kernel) (by decide +kernel)
theorem ms_X7_read : Cond.selects RX7 yX7_read yX7_read ∈ bw := bw_mem 715 (by decide +kernel) (by decide +kernel)
theorem mc_X7_read : Cond.code yX7_read cX7_read 1 (some .int) ∈ bw := bw_mem 716 (by decide +kernel) (by decide +kernel)
theorem ml_X7_141 : Cond.methodLink RX7 141 yX3_passes ∈ bw := bw_mem 717 (by decide +kernel) (by decide +kernel)
theorem mi_X3_passes : Cond.instanceMethod yX3_passes ∈ bw := bw_mem 718 (by decide +kernel) (by decide +kernel)
theorem ms_X3_passes : Cond.selects RX3 yX3_passes yX3_passes ∈ bw := bw_mem 719 (by decide +kernel) (by decide +kernel)
theorem mc_X3_passes : Cond.code yX3_passes cX3_passes 2 (some .boolean) ∈ bw := bw_mem 720 (by decide +kernel) (by decide +kernel)
theorem ml_X3_51 : Cond.methodLink RX3 51 yX3_endPasses ∈ bw := bw_mem 721 (by decide +kernel) (by decide +kernel)
theorem mi_X3_endPasses : Cond.instanceMethod yX3_endPasses ∈ bw := bw_mem 723 (by decide +kernel) (by decide +kernel)
theorem mc_X3_endPasses : Cond.code yX3_endPasses cX3_endPasses 2 (some .boolean) ∈ bw := bw_mem 724 (by decide +kernel) (by decide +kernel)
theorem ml_X3_68 : Cond.methodLink RX3 68 yJ9_max_7cf53 ∈ bw := bw_mem 725 (by decide +kernel) (by decide +kernel)
theorem ml_X3_77 : Cond.methodLink RX3 77 yX3_endStands ∈ bw := bw_mem 726 (by decide +kernel) (by decide +kernel)
theorem mi_X3_endStands : Cond.instanceMethod yX3_endStands ∈ bw := bw_mem 728 (by decide +kernel) (by decide +kernel)
theorem mc_X3_endStands : Cond.code yX3_endStands cX3_endStands 8 (some .boolean) ∈ bw := bw_mem 729 (by decide +kernel) (by decide +kernel)
theorem ml_X3_85 : Cond.methodLink RX3 85 yX4_holds ∈ bw := bw_mem 730 (by decide +kernel) (by decide +kernel)
theorem ml_X3_92 : Cond.methodLink RX3 92 yX4_two ∈ bw := bw_mem 731 (by decide +kernel) (by decide +kernel)
theorem ml_X3_96 : Cond.methodLink RX3 96 yX4_four ∈ bw := bw_mem 732 (by decide +kernel) (by decide +kernel)
theorem ml_X3_81 : Cond.methodLink RX3 81 yX3_fails ∈ bw := bw_mem 733 (by decide +kernel) (by decide +kernel)
theorem mi_X3_fails : Cond.instanceMethod yX3_fails ∈ bw := bw_mem 735 (by decide +kernel) (by decide +kernel)
theorem mc_X3_fails : Cond.code yX3_fails cX3_fails 4 (some .boolean) ∈ bw := bw_mem 736 (by decide +kernel) (by decide +kernel)
theorem ml_X3_55 : Cond.methodLink RX3 55 yX3_centralsPass ∈ bw := bw_mem 737 (by decide +kernel) (by decide +kernel)
theorem mi_X3_centralsPass : Cond.instanceMethod yX3_centralsPass ∈ bw := bw_mem 739 (by decide +kernel) (by decide +kernel)
theorem mc_X3_centralsPass : Cond.code yX3_centralsPass cX3_centralsPass 5 (some .boolean) ∈ bw := bw_mem 740 (by decide +kernel) (by decide +kernel)
theorem ml_X3_106 : Cond.methodLink RX3 106 yX3_centralStands ∈ bw := bw_mem 741 (by decide +kernel) (by decide +kernel)
theorem mi_X3_centralStands : Cond.instanceMethod yX3_centralStands ∈ bw := bw_mem 743 (by decide +kernel) (by decide +kernel)
theorem mc_X3_centralStands : Cond.code yX3_centralStands cX3_centralStands 4 (some .boolean) ∈ bw := bw_mem 744 (by decide +kernel) (by decide +kernel)
theorem ml_X3_116 : Cond.methodLink RX3 116 yX3_isEarlierName ∈ bw := bw_mem 745 (by decide +kernel) (by decide +kernel)
theorem mi_X3_isEarlierName : Cond.instanceMethod yX3_isEarlierName ∈ bw := bw_mem 747 (by decide +kernel) (by decide +kernel)
theorem mc_X3_isEarlierName : Cond.code yX3_isEarlierName cX3_isEarlierName 6 (some .boolean) ∈ bw := bw_mem 748 (by decide +kernel) (by decide +kernel)
theorem ml_X3_119 : Cond.methodLink RX3 119 yX4_agrees ∈ bw := bw_mem 749 (by decide +kernel) (by decide +kernel)
theorem ml_X3_58 : Cond.methodLink RX3 58 yX3_localsPass ∈ bw := bw_mem 750 (by decide +kernel) (by decide +kernel)
theorem mi_X3_localsPass : Cond.instanceMethod yX3_localsPass ∈ bw := bw_mem 752 (by decide +kernel) (by decide +kernel)
theorem mc_X3_localsPass : Cond.code yX3_localsPass cX3_localsPass 5 (some .boolean) ∈ bw := bw_mem 753 (by decide +kernel) (by decide +kernel)
theorem ml_X3_123 : Cond.methodLink RX3 123 yX3_localStands ∈ bw := bw_mem 754 (by decide +kernel) (by decide +kernel)
theorem mi_X3_localStands : Cond.instanceMethod yX3_localStands ∈ bw := bw_mem 756 (by decide +kernel) (by decide +kernel)
theorem mc_X3_localStands : Cond.code yX3_localStands cX3_localStands 4 (some .boolean) ∈ bw := bw_mem 757 (by decide +kernel) (by decide +kernel)
theorem ml_X3_61 : Cond.methodLink RX3 61 yX3_contentsPass ∈ bw := bw_mem 758 (by decide +kernel) (by decide +kernel)
theorem mi_X3_contentsPass : Cond.instanceMethod yX3_contentsPass ∈ bw := bw_mem 760 (by decide +kernel) (by decide +kernel)
theorem mc_X3_contentsPass : Cond.code yX3_contentsPass cX3_contentsPass 6 (some .boolean) ∈ bw := bw_mem 761 (by decide +kernel) (by decide +kernel)
theorem mk_X3_135 : Cond.constantLong RX3 135 (6000) ∈ bw := bw_mem 762 (by decide +kernel) (by decide +kernel)
theorem ml_X7_147 : Cond.methodLink RX7 147 yX3_load ∈ bw := bw_mem 764 (by decide +kernel) (by decide +kernel)
theorem mi_X3_load : Cond.instanceMethod yX3_load ∈ bw := bw_mem 765 (by decide +kernel) (by decide +kernel)
theorem ms_X3_load : Cond.selects RX3 yX3_load yX3_load ∈ bw := bw_mem 766 (by decide +kernel) (by decide +kernel)
theorem mc_X3_load : Cond.code yX3_load cX3_load 6 none ∈ bw := bw_mem 767 (by decide +kernel) (by decide +kernel)
theorem ml_X3_166 : Cond.methodLink RX3 166 yX5_put ∈ bw := bw_mem 768 (by decide +kernel) (by decide +kernel)
theorem ml_L_39 : Cond.methodLink RL 39 yX8_init ∈ bw := bw_mem 771 (by decide +kernel) (by decide +kernel)
theorem mi_X8_init : Cond.instanceMethod yX8_init ∈ bw := bw_mem 772 (by decide +kernel) (by decide +kernel)
theorem mc_X8_init : Cond.code yX8_init cX8_init 1 none ∈ bw := bw_mem 773 (by decide +kernel) (by decide +kernel)
theorem ml_X8_1 : Cond.methodLink RX8 1 ⟨"java/lang/Object", "<init>", "()V"⟩ ∈ bw := bw_mem 774 (by decide +kernel) (by decide +kernel)
theorem mf_X8_50 : Cond.fieldLink RX8 50 "ArchiveDeskModel" "thrown" "I" ∈ bw := bw_mem 775 (by decide +kernel) (by decide +kernel)
theorem mf_X8_7 : Cond.fieldLink RX8 7 "ArchiveDeskModel" "ready" "[I" ∈ bw := bw_mem 776 (by decide +kernel) (by decide +kernel)
theorem mf_X8_13 : Cond.fieldLink RX8 13 "ArchiveDeskModel" "tape" "[I" ∈ bw := bw_mem 777 (by decide +kernel) (by decide +kernel)
theorem mf_X8_53 : Cond.fieldLink RX8 53 "ArchiveDeskModel" "size" "I" ∈ bw := bw_mem 778 (by decide +kernel) (by decide +kernel)
theorem mf_X8_16 : Cond.fieldLink RX8 16 "ArchiveDeskModel" "output" "[I" ∈ bw := bw_mem 779 (by decide +kernel) (by decide +kernel)
theorem mf_X8_56 : Cond.fieldLink RX8 56 "ArchiveDeskModel" "outputSize" "I" ∈ bw := bw_mem 780 (by decide +kernel) (by decide +kernel)
theorem mf_X8_59 : Cond.fieldLink RX8 59 "ArchiveDeskModel" "files" "I" ∈ bw := bw_mem 781 (by decide +kernel) (by decide +kernel)
theorem mf_X8_19 : Cond.fieldLink RX8 19 "ArchiveDeskModel" "names" "[I" ∈ bw := bw_mem 782 (by decide +kernel) (by decide +kernel)
theorem mf_X8_22 : Cond.fieldLink RX8 22 "ArchiveDeskModel" "nameSize" "[I" ∈ bw := bw_mem 783 (by decide +kernel) (by decide +kernel)
theorem mf_X8_25 : Cond.fieldLink RX8 25 "ArchiveDeskModel" "bytes" "[I" ∈ bw := bw_mem 784 (by decide +kernel) (by decide +kernel)
theorem mf_X8_28 : Cond.fieldLink RX8 28 "ArchiveDeskModel" "many" "[I" ∈ bw := bw_mem 785 (by decide +kernel) (by decide +kernel)
theorem mf_X8_138 : Cond.fieldLink RX8 138 "ArchiveDeskModel" "fault" "I" ∈ bw := bw_mem 786 (by decide +kernel) (by decide +kernel)
theorem mf_X8_31 : Cond.fieldLink RX8 31 "ArchiveDeskModel" "faultFile" "I" ∈ bw := bw_mem 787 (by decide +kernel) (by decide +kernel)
theorem mf_X8_35 : Cond.fieldLink RX8 35 "ArchiveDeskModel" "faultPlace" "I" ∈ bw := bw_mem 788 (by decide +kernel) (by decide +kernel)
theorem mf_X8_38 : Cond.fieldLink RX8 38 "ArchiveDeskModel" "folded" "[I" ∈ bw := bw_mem 789 (by decide +kernel) (by decide +kernel)
theorem mf_X8_96 : Cond.fieldLink RX8 96 "ArchiveDeskModel" "foldedSize" "I" ∈ bw := bw_mem 790 (by decide +kernel) (by decide +kernel)
theorem mf_X8_41 : Cond.fieldLink RX8 41 "ArchiveDeskModel" "centralAt" "[I" ∈ bw := bw_mem 791 (by decide +kernel) (by decide +kernel)
theorem mf_X8_44 : Cond.fieldLink RX8 44 "ArchiveDeskModel" "bytesAt" "[I" ∈ bw := bw_mem 792 (by decide +kernel) (by decide +kernel)
theorem mf_X8_47 : Cond.fieldLink RX8 47 "ArchiveDeskModel" "where" "[I" ∈ bw := bw_mem 793 (by decide +kernel) (by decide +kernel)
theorem ml_L_44 : Cond.methodLink RL 44 yX8_feed ∈ bw := bw_mem 833 (by decide +kernel) (by decide +kernel)
theorem mi_X8_feed : Cond.instanceMethod yX8_feed ∈ bw := bw_mem 834 (by decide +kernel) (by decide +kernel)
theorem ms_X8_feed : Cond.selects RX8 yX8_feed yX8_feed ∈ bw := bw_mem 835 (by decide +kernel) (by decide +kernel)
theorem mc_X8_feed : Cond.code yX8_feed cX8_feed 8 none ∈ bw := bw_mem 836 (by decide +kernel) (by decide +kernel)
theorem ml_L_49 : Cond.methodLink RL 49 yX8_end ∈ bw := bw_mem 837 (by decide +kernel) (by decide +kernel)
theorem mi_X8_end : Cond.instanceMethod yX8_end ∈ bw := bw_mem 838 (by decide +kernel) (by decide +kernel)
theorem ms_X8_end : Cond.selects RX8 yX8_end yX8_end ∈ bw := bw_mem 839 (by decide +kernel) (by decide +kernel)
theorem mc_X8_end : Cond.code yX8_end cX8_end 5 (some .int) ∈ bw := bw_mem 840 (by decide +kernel) (by decide +kernel)
theorem ml_L_54 : Cond.methodLink RL 54 yX8_cut ∈ bw := bw_mem 841 (by decide +kernel) (by decide +kernel)
theorem mi_X8_cut : Cond.instanceMethod yX8_cut ∈ bw := bw_mem 842 (by decide +kernel) (by decide +kernel)
theorem ms_X8_cut : Cond.selects RX8 yX8_cut yX8_cut ∈ bw := bw_mem 843 (by decide +kernel) (by decide +kernel)
theorem mc_X8_cut : Cond.code yX8_cut cX8_cut 2 (some .boolean) ∈ bw := bw_mem 844 (by decide +kernel) (by decide +kernel)
theorem ml_L_58 : Cond.methodLink RL 58 yX8_drop ∈ bw := bw_mem 845 (by decide +kernel) (by decide +kernel)
theorem mi_X8_drop : Cond.instanceMethod yX8_drop ∈ bw := bw_mem 846 (by decide +kernel) (by decide +kernel)
theorem ms_X8_drop : Cond.selects RX8 yX8_drop yX8_drop ∈ bw := bw_mem 847 (by decide +kernel) (by decide +kernel)
theorem mc_X8_drop : Cond.code yX8_drop cX8_drop 3 (some .boolean) ∈ bw := bw_mem 848 (by decide +kernel) (by decide +kernel)
theorem ml_L_63 : Cond.methodLink RL 63 yX8_flip ∈ bw := bw_mem 849 (by decide +kernel) (by decide +kernel)
theorem mi_X8_flip : Cond.instanceMethod yX8_flip ∈ bw := bw_mem 850 (by decide +kernel) (by decide +kernel)
theorem ms_X8_flip : Cond.selects RX8 yX8_flip yX8_flip ∈ bw := bw_mem 851 (by decide +kernel) (by decide +kernel)
theorem mc_X8_flip : Cond.code yX8_flip cX8_flip 3 (some .boolean) ∈ bw := bw_mem 852 (by decide +kernel) (by decide +kernel)
theorem ml_L_69 : Cond.methodLink RL 69 yX8_take ∈ bw := bw_mem 853 (by decide +kernel) (by decide +kernel)
theorem mi_X8_take : Cond.instanceMethod yX8_take ∈ bw := bw_mem 854 (by decide +kernel) (by decide +kernel)
theorem ms_X8_take : Cond.selects RX8 yX8_take yX8_take ∈ bw := bw_mem 855 (by decide +kernel) (by decide +kernel)
theorem mc_X8_take : Cond.code yX8_take cX8_take 2 (some .int) ∈ bw := bw_mem 856 (by decide +kernel) (by decide +kernel)
theorem ml_L_73 : Cond.methodLink RL 73 yX8_add ∈ bw := bw_mem 857 (by decide +kernel) (by decide +kernel)
theorem mi_X8_add : Cond.instanceMethod yX8_add ∈ bw := bw_mem 858 (by decide +kernel) (by decide +kernel)
theorem ms_X8_add : Cond.selects RX8 yX8_add yX8_add ∈ bw := bw_mem 859 (by decide +kernel) (by decide +kernel)
theorem mc_X8_add : Cond.code yX8_add cX8_add 2 (some .int) ∈ bw := bw_mem 860 (by decide +kernel) (by decide +kernel)
theorem ml_X8_66 : Cond.methodLink RX8 66 yX8_isName ∈ bw := bw_mem 861 (by decide +kernel) (by decide +kernel)
theorem mi_X8_isName : Cond.instanceMethod yX8_isName ∈ bw := bw_mem 863 (by decide +kernel) (by decide +kernel)
theorem mc_X8_isName : Cond.code yX8_isName cX8_isName 5 (some .boolean) ∈ bw := bw_mem 864 (by decide +kernel) (by decide +kernel)
theorem ml_X8_70 : Cond.methodLink RX8 70 yX8_named ∈ bw := bw_mem 865 (by decide +kernel) (by decide +kernel)
theorem mi_X8_named : Cond.instanceMethod yX8_named ∈ bw := bw_mem 867 (by decide +kernel) (by decide +kernel)
theorem mc_X8_named : Cond.code yX8_named cX8_named 7 (some .int) ∈ bw := bw_mem 868 (by decide +kernel) (by decide +kernel)
theorem ml_X8_74 : Cond.methodLink RX8 74 yX8_total ∈ bw := bw_mem 869 (by decide +kernel) (by decide +kernel)
theorem mi_X8_total : Cond.instanceMethod yX8_total ∈ bw := bw_mem 871 (by decide +kernel) (by decide +kernel)
theorem mc_X8_total : Cond.code yX8_total cX8_total 3 (some .int) ∈ bw := bw_mem 872 (by decide +kernel) (by decide +kernel)
theorem ml_X8_78 : Cond.methodLink RX8 78 yX8_setName ∈ bw := bw_mem 873 (by decide +kernel) (by decide +kernel)
theorem mi_X8_setName : Cond.instanceMethod yX8_setName ∈ bw := bw_mem 875 (by decide +kernel) (by decide +kernel)
theorem mc_X8_setName : Cond.code yX8_setName cX8_setName 5 none ∈ bw := bw_mem 876 (by decide +kernel) (by decide +kernel)
theorem ml_X8_82 : Cond.methodLink RX8 82 yX8_setBytes ∈ bw := bw_mem 877 (by decide +kernel) (by decide +kernel)
theorem mi_X8_setBytes : Cond.instanceMethod yX8_setBytes ∈ bw := bw_mem 879 (by decide +kernel) (by decide +kernel)
theorem mc_X8_setBytes : Cond.code yX8_setBytes cX8_setBytes 5 none ∈ bw := bw_mem 880 (by decide +kernel) (by decide +kernel)
theorem ml_L_77 : Cond.methodLink RL 77 yX8_replace ∈ bw := bw_mem 881 (by decide +kernel) (by decide +kernel)
theorem mi_X8_replace : Cond.instanceMethod yX8_replace ∈ bw := bw_mem 882 (by decide +kernel) (by decide +kernel)
theorem ms_X8_replace : Cond.selects RX8 yX8_replace yX8_replace ∈ bw := bw_mem 883 (by decide +kernel) (by decide +kernel)
theorem mc_X8_replace : Cond.code yX8_replace cX8_replace 2 none ∈ bw := bw_mem 884 (by decide +kernel) (by decide +kernel)
theorem ml_X8_85 : Cond.methodLink RX8 85 yX8_isFile ∈ bw := bw_mem 885 (by decide +kernel) (by decide +kernel)
theorem mi_X8_isFile : Cond.instanceMethod yX8_isFile ∈ bw := bw_mem 887 (by decide +kernel) (by decide +kernel)
theorem mc_X8_isFile : Cond.code yX8_isFile cX8_isFile 2 (some .boolean) ∈ bw := bw_mem 888 (by decide +kernel) (by decide +kernel)
theorem ml_L_80 : Cond.methodLink RL 80 yX8_rename ∈ bw := bw_mem 889 (by decide +kernel) (by decide +kernel)
theorem mi_X8_rename : Cond.instanceMethod yX8_rename ∈ bw := bw_mem 890 (by decide +kernel) (by decide +kernel)
theorem ms_X8_rename : Cond.selects RX8 yX8_rename yX8_rename ∈ bw := bw_mem 891 (by decide +kernel) (by decide +kernel)
theorem mc_X8_rename : Cond.code yX8_rename cX8_rename 3 none ∈ bw := bw_mem 892 (by decide +kernel) (by decide +kernel)
theorem ml_L_83 : Cond.methodLink RL 83 yX8_remove ∈ bw := bw_mem 893 (by decide +kernel) (by decide +kernel)
theorem mi_X8_remove : Cond.instanceMethod yX8_remove ∈ bw := bw_mem 894 (by decide +kernel) (by decide +kernel)
theorem ms_X8_remove : Cond.selects RX8 yX8_remove yX8_remove ∈ bw := bw_mem 895 (by decide +kernel) (by decide +kernel)
theorem mc_X8_remove : Cond.code yX8_remove cX8_remove 2 none ∈ bw := bw_mem 896 (by decide +kernel) (by decide +kernel)
theorem ml_X8_89 : Cond.methodLink RX8 89 yX8_goes ∈ bw := bw_mem 897 (by decide +kernel) (by decide +kernel)
theorem mi_X8_goes : Cond.instanceMethod yX8_goes ∈ bw := bw_mem 899 (by decide +kernel) (by decide +kernel)
theorem mc_X8_goes : Cond.code yX8_goes cX8_goes 3 none ∈ bw := bw_mem 900 (by decide +kernel) (by decide +kernel)
theorem ml_X8_62 : Cond.methodLink RX8 62 yX8_copyFile ∈ bw := bw_mem 901 (by decide +kernel) (by decide +kernel)
theorem mi_X8_copyFile : Cond.instanceMethod yX8_copyFile ∈ bw := bw_mem 903 (by decide +kernel) (by decide +kernel)
theorem mc_X8_copyFile : Cond.code yX8_copyFile cX8_copyFile 4 none ∈ bw := bw_mem 904 (by decide +kernel) (by decide +kernel)
theorem ml_L_87 : Cond.methodLink RL 87 yX8_sort ∈ bw := bw_mem 905 (by decide +kernel) (by decide +kernel)
theorem mi_X8_sort : Cond.instanceMethod yX8_sort ∈ bw := bw_mem 906 (by decide +kernel) (by decide +kernel)
theorem ms_X8_sort : Cond.selects RX8 yX8_sort yX8_sort ∈ bw := bw_mem 907 (by decide +kernel) (by decide +kernel)
theorem mc_X8_sort : Cond.code yX8_sort cX8_sort 4 none ∈ bw := bw_mem 908 (by decide +kernel) (by decide +kernel)
theorem ml_X8_93 : Cond.methodLink RX8 93 yX8_isAhead ∈ bw := bw_mem 909 (by decide +kernel) (by decide +kernel)
theorem mi_X8_isAhead : Cond.instanceMethod yX8_isAhead ∈ bw := bw_mem 911 (by decide +kernel) (by decide +kernel)
theorem mc_X8_isAhead : Cond.code yX8_isAhead cX8_isAhead 4 (some .boolean) ∈ bw := bw_mem 912 (by decide +kernel) (by decide +kernel)
theorem ml_L_91 : Cond.methodLink RL 91 yX8_clear ∈ bw := bw_mem 913 (by decide +kernel) (by decide +kernel)
theorem mi_X8_clear : Cond.instanceMethod yX8_clear ∈ bw := bw_mem 914 (by decide +kernel) (by decide +kernel)
theorem ms_X8_clear : Cond.selects RX8 yX8_clear yX8_clear ∈ bw := bw_mem 915 (by decide +kernel) (by decide +kernel)
theorem mc_X8_clear : Cond.code yX8_clear cX8_clear 1 none ∈ bw := bw_mem 916 (by decide +kernel) (by decide +kernel)
theorem ml_L_95 : Cond.methodLink RL 95 yX8_make ∈ bw := bw_mem 917 (by decide +kernel) (by decide +kernel)
theorem mi_X8_make : Cond.instanceMethod yX8_make ∈ bw := bw_mem 918 (by decide +kernel) (by decide +kernel)
theorem ms_X8_make : Cond.selects RX8 yX8_make yX8_make ∈ bw := bw_mem 919 (by decide +kernel) (by decide +kernel)
theorem mc_X8_make : Cond.code yX8_make cX8_make 5 (some .int) ∈ bw := bw_mem 920 (by decide +kernel) (by decide +kernel)
theorem ml_X8_123 : Cond.methodLink RX8 123 yX8_sign ∈ bw := bw_mem 921 (by decide +kernel) (by decide +kernel)
theorem mi_X8_sign : Cond.instanceMethod yX8_sign ∈ bw := bw_mem 923 (by decide +kernel) (by decide +kernel)
theorem mc_X8_sign : Cond.code yX8_sign cX8_sign 3 none ∈ bw := bw_mem 924 (by decide +kernel) (by decide +kernel)
theorem ml_X8_114 : Cond.methodLink RX8 114 yX8_write ∈ bw := bw_mem 925 (by decide +kernel) (by decide +kernel)
theorem mi_X8_write : Cond.instanceMethod yX8_write ∈ bw := bw_mem 927 (by decide +kernel) (by decide +kernel)
theorem mc_X8_write : Cond.code yX8_write cX8_write 4 none ∈ bw := bw_mem 928 (by decide +kernel) (by decide +kernel)
theorem ml_X8_126 : Cond.methodLink RX8 126 yX8_writeFacts ∈ bw := bw_mem 929 (by decide +kernel) (by decide +kernel)
theorem mi_X8_writeFacts : Cond.instanceMethod yX8_writeFacts ∈ bw := bw_mem 931 (by decide +kernel) (by decide +kernel)
theorem mc_X8_writeFacts : Cond.code yX8_writeFacts cX8_writeFacts 2 none ∈ bw := bw_mem 932 (by decide +kernel) (by decide +kernel)
theorem ml_X8_109 : Cond.methodLink RX8 109 yX8_method ∈ bw := bw_mem 933 (by decide +kernel) (by decide +kernel)
theorem mi_X8_method : Cond.instanceMethod yX8_method ∈ bw := bw_mem 935 (by decide +kernel) (by decide +kernel)
theorem mc_X8_method : Cond.code yX8_method cX8_method 2 (some .int) ∈ bw := bw_mem 936 (by decide +kernel) (by decide +kernel)
theorem ml_X8_106 : Cond.methodLink RX8 106 yX8_fold ∈ bw := bw_mem 937 (by decide +kernel) (by decide +kernel)
theorem mi_X8_fold : Cond.instanceMethod yX8_fold ∈ bw := bw_mem 939 (by decide +kernel) (by decide +kernel)
theorem mc_X8_fold : Cond.code yX8_fold cX8_fold 7 none ∈ bw := bw_mem 940 (by decide +kernel) (by decide +kernel)
theorem ml_X8_99 : Cond.methodLink RX8 99 yX8_alike ∈ bw := bw_mem 941 (by decide +kernel) (by decide +kernel)
theorem mi_X8_alike : Cond.instanceMethod yX8_alike ∈ bw := bw_mem 943 (by decide +kernel) (by decide +kernel)
theorem mc_X8_alike : Cond.code yX8_alike cX8_alike 4 (some .int) ∈ bw := bw_mem 944 (by decide +kernel) (by decide +kernel)
theorem ml_X8_103 : Cond.methodLink RX8 103 yX8_put ∈ bw := bw_mem 945 (by decide +kernel) (by decide +kernel)
theorem mi_X8_put : Cond.instanceMethod yX8_put ∈ bw := bw_mem 947 (by decide +kernel) (by decide +kernel)
theorem mc_X8_put : Cond.code yX8_put cX8_put 2 none ∈ bw := bw_mem 948 (by decide +kernel) (by decide +kernel)
theorem ml_X8_117 : Cond.methodLink RX8 117 yX8_crc ∈ bw := bw_mem 949 (by decide +kernel) (by decide +kernel)
theorem mi_X8_crc : Cond.instanceMethod yX8_crc ∈ bw := bw_mem 951 (by decide +kernel) (by decide +kernel)
theorem mc_X8_crc : Cond.code yX8_crc cX8_crc 5 (some .int) ∈ bw := bw_mem 952 (by decide +kernel) (by decide +kernel)
theorem mk_X8_113 : Cond.constant RX8 113 (-306674912) ∈ bw := bw_mem 953 (by decide +kernel) (by decide +kernel)
theorem ml_X8_120 : Cond.methodLink RX8 120 yX8_packedSize ∈ bw := bw_mem 954 (by decide +kernel) (by decide +kernel)
theorem mi_X8_packedSize : Cond.instanceMethod yX8_packedSize ∈ bw := bw_mem 956 (by decide +kernel) (by decide +kernel)
theorem mc_X8_packedSize : Cond.code yX8_packedSize cX8_packedSize 2 (some .int) ∈ bw := bw_mem 957 (by decide +kernel) (by decide +kernel)
theorem ml_X8_129 : Cond.methodLink RX8 129 yX8_writeName ∈ bw := bw_mem 958 (by decide +kernel) (by decide +kernel)
theorem mi_X8_writeName : Cond.instanceMethod yX8_writeName ∈ bw := bw_mem 960 (by decide +kernel) (by decide +kernel)
theorem mc_X8_writeName : Cond.code yX8_writeName cX8_writeName 3 none ∈ bw := bw_mem 961 (by decide +kernel) (by decide +kernel)
theorem ml_L_98 : Cond.methodLink RL 98 yX8_read ∈ bw := bw_mem 962 (by decide +kernel) (by decide +kernel)
theorem mi_X8_read : Cond.instanceMethod yX8_read ∈ bw := bw_mem 963 (by decide +kernel) (by decide +kernel)
theorem ms_X8_read : Cond.selects RX8 yX8_read yX8_read ∈ bw := bw_mem 964 (by decide +kernel) (by decide +kernel)
theorem mc_X8_read : Cond.code yX8_read cX8_read 5 (some .int) ∈ bw := bw_mem 965 (by decide +kernel) (by decide +kernel)
theorem ml_X8_177 : Cond.methodLink RX8 177 yX8_findEnd ∈ bw := bw_mem 966 (by decide +kernel) (by decide +kernel)
theorem mi_X8_findEnd : Cond.instanceMethod yX8_findEnd ∈ bw := bw_mem 968 (by decide +kernel) (by decide +kernel)
theorem mc_X8_findEnd : Cond.code yX8_findEnd cX8_findEnd 6 (some .int) ∈ bw := bw_mem 969 (by decide +kernel) (by decide +kernel)
theorem ml_X8_145 : Cond.methodLink RX8 145 yX8_isSign ∈ bw := bw_mem 970 (by decide +kernel) (by decide +kernel)
theorem mi_X8_isSign : Cond.instanceMethod yX8_isSign ∈ bw := bw_mem 972 (by decide +kernel) (by decide +kernel)
theorem mc_X8_isSign : Cond.code yX8_isSign cX8_isSign 4 (some .boolean) ∈ bw := bw_mem 973 (by decide +kernel) (by decide +kernel)
theorem ml_X8_141 : Cond.methodLink RX8 141 yX8_is ∈ bw := bw_mem 974 (by decide +kernel) (by decide +kernel)
theorem mi_X8_is : Cond.instanceMethod yX8_is ∈ bw := bw_mem 976 (by decide +kernel) (by decide +kernel)
theorem mc_X8_is : Cond.code yX8_is cX8_is 4 (some .boolean) ∈ bw := bw_mem 977 (by decide +kernel) (by decide +kernel)
theorem ml_X8_135 : Cond.methodLink RX8 135 yX8_number ∈ bw := bw_mem 978 (by decide +kernel) (by decide +kernel)
theorem mi_X8_number : Cond.instanceMethod yX8_number ∈ bw := bw_mem 980 (by decide +kernel) (by decide +kernel)
theorem mc_X8_number : Cond.code yX8_number cX8_number 6 (some .int) ∈ bw := bw_mem 981 (by decide +kernel) (by decide +kernel)
theorem mk_X8_132 : Cond.constantLong RX8 132 (2147483647) ∈ bw := bw_mem 982 (by decide +kernel) (by decide +kernel)
theorem mk_X8_134 : Cond.constant RX8 134 (2147483647) ∈ bw := bw_mem 983 (by decide +kernel) (by decide +kernel)
theorem ml_X8_157 : Cond.methodLink RX8 157 yX8_fails ∈ bw := bw_mem 984 (by decide +kernel) (by decide +kernel)
theorem mi_X8_fails : Cond.instanceMethod yX8_fails ∈ bw := bw_mem 986 (by decide +kernel) (by decide +kernel)
theorem mc_X8_fails : Cond.code yX8_fails cX8_fails 4 (some .boolean) ∈ bw := bw_mem 987 (by decide +kernel) (by decide +kernel)
theorem ml_X8_180 : Cond.methodLink RX8 180 yX8_findCentrals ∈ bw := bw_mem 988 (by decide +kernel) (by decide +kernel)
theorem mi_X8_findCentrals : Cond.instanceMethod yX8_findCentrals ∈ bw := bw_mem 990 (by decide +kernel) (by decide +kernel)
theorem mc_X8_findCentrals : Cond.code yX8_findCentrals cX8_findCentrals 6 (some .boolean) ∈ bw := bw_mem 991 (by decide +kernel) (by decide +kernel)
theorem ml_X8_154 : Cond.methodLink RX8 154 yX8_isCentral ∈ bw := bw_mem 992 (by decide +kernel) (by decide +kernel)
theorem mi_X8_isCentral : Cond.instanceMethod yX8_isCentral ∈ bw := bw_mem 994 (by decide +kernel) (by decide +kernel)
theorem mc_X8_isCentral : Cond.code yX8_isCentral cX8_isCentral 7 (some .boolean) ∈ bw := bw_mem 995 (by decide +kernel) (by decide +kernel)
theorem ml_X8_148 : Cond.methodLink RX8 148 yX8_areFacts ∈ bw := bw_mem 996 (by decide +kernel) (by decide +kernel)
theorem mi_X8_areFacts : Cond.instanceMethod yX8_areFacts ∈ bw := bw_mem 998 (by decide +kernel) (by decide +kernel)
theorem mc_X8_areFacts : Cond.code yX8_areFacts cX8_areFacts 3 (some .boolean) ∈ bw := bw_mem 999 (by decide +kernel) (by decide +kernel)
theorem ml_X8_151 : Cond.methodLink RX8 151 yX8_isSame ∈ bw := bw_mem 1000 (by decide +kernel) (by decide +kernel)
theorem mi_X8_isSame : Cond.instanceMethod yX8_isSame ∈ bw := bw_mem 1002 (by decide +kernel) (by decide +kernel)
theorem mc_X8_isSame : Cond.code yX8_isSame cX8_isSame 6 (some .boolean) ∈ bw := bw_mem 1003 (by decide +kernel) (by decide +kernel)
theorem ml_X8_183 : Cond.methodLink RX8 183 yX8_findLocals ∈ bw := bw_mem 1004 (by decide +kernel) (by decide +kernel)
theorem mi_X8_findLocals : Cond.instanceMethod yX8_findLocals ∈ bw := bw_mem 1006 (by decide +kernel) (by decide +kernel)
theorem mc_X8_findLocals : Cond.code yX8_findLocals cX8_findLocals 6 (some .boolean) ∈ bw := bw_mem 1007 (by decide +kernel) (by decide +kernel)
theorem ml_X8_162 : Cond.methodLink RX8 162 yX8_isLocal ∈ bw := bw_mem 1008 (by decide +kernel) (by decide +kernel)
theorem mi_X8_isLocal : Cond.instanceMethod yX8_isLocal ∈ bw := bw_mem 1010 (by decide +kernel) (by decide +kernel)
theorem mc_X8_isLocal : Cond.code yX8_isLocal cX8_isLocal 9 (some .boolean) ∈ bw := bw_mem 1011 (by decide +kernel) (by decide +kernel)
theorem mk_X8_160 : Cond.constantLong RX8 160 (30) ∈ bw := bw_mem 1012 (by decide +kernel) (by decide +kernel)
theorem ml_X8_186 : Cond.methodLink RX8 186 yX8_areBytes ∈ bw := bw_mem 1013 (by decide +kernel) (by decide +kernel)
theorem mi_X8_areBytes : Cond.instanceMethod yX8_areBytes ∈ bw := bw_mem 1015 (by decide +kernel) (by decide +kernel)
theorem mc_X8_areBytes : Cond.code yX8_areBytes cX8_areBytes 6 (some .boolean) ∈ bw := bw_mem 1016 (by decide +kernel) (by decide +kernel)
theorem ml_X8_166 : Cond.methodLink RX8 166 yX8_areSizes ∈ bw := bw_mem 1017 (by decide +kernel) (by decide +kernel)
theorem mi_X8_areSizes : Cond.instanceMethod yX8_areSizes ∈ bw := bw_mem 1019 (by decide +kernel) (by decide +kernel)
theorem mc_X8_areSizes : Cond.code yX8_areSizes cX8_areSizes 4 (some .boolean) ∈ bw := bw_mem 1020 (by decide +kernel) (by decide +kernel)
theorem mk_X8_169 : Cond.constantLong RX8 169 (6000) ∈ bw := bw_mem 1021 (by decide +kernel) (by decide +kernel)
theorem ml_X8_171 : Cond.methodLink RX8 171 yX8_unfold ∈ bw := bw_mem 1022 (by decide +kernel) (by decide +kernel)
theorem mi_X8_unfold : Cond.instanceMethod yX8_unfold ∈ bw := bw_mem 1024 (by decide +kernel) (by decide +kernel)
theorem mc_X8_unfold : Cond.code yX8_unfold cX8_unfold 12 (some .boolean) ∈ bw := bw_mem 1025 (by decide +kernel) (by decide +kernel)
theorem ml_X8_174 : Cond.methodLink RX8 174 yX8_isCrc ∈ bw := bw_mem 1026 (by decide +kernel) (by decide +kernel)
theorem mi_X8_isCrc : Cond.instanceMethod yX8_isCrc ∈ bw := bw_mem 1028 (by decide +kernel) (by decide +kernel)
theorem mc_X8_isCrc : Cond.code yX8_isCrc cX8_isCrc 5 (some .boolean) ∈ bw := bw_mem 1029 (by decide +kernel) (by decide +kernel)
theorem ml_X8_189 : Cond.methodLink RX8 189 yX8_append ∈ bw := bw_mem 1030 (by decide +kernel) (by decide +kernel)
theorem mi_X8_append : Cond.instanceMethod yX8_append ∈ bw := bw_mem 1032 (by decide +kernel) (by decide +kernel)
theorem mc_X8_append : Cond.code yX8_append cX8_append 6 none ∈ bw := bw_mem 1033 (by decide +kernel) (by decide +kernel)
theorem ml_L_102 : Cond.methodLink RL 102 yX8_fault ∈ bw := bw_mem 1034 (by decide +kernel) (by decide +kernel)
theorem mi_X8_fault : Cond.instanceMethod yX8_fault ∈ bw := bw_mem 1035 (by decide +kernel) (by decide +kernel)
theorem ms_X8_fault : Cond.selects RX8 yX8_fault yX8_fault ∈ bw := bw_mem 1036 (by decide +kernel) (by decide +kernel)
theorem mc_X8_fault : Cond.code yX8_fault cX8_fault 2 (some .int) ∈ bw := bw_mem 1037 (by decide +kernel) (by decide +kernel)
theorem ml_L_106 : Cond.methodLink RL 106 yX8_save ∈ bw := bw_mem 1038 (by decide +kernel) (by decide +kernel)
theorem mi_X8_save : Cond.instanceMethod yX8_save ∈ bw := bw_mem 1039 (by decide +kernel) (by decide +kernel)
theorem ms_X8_save : Cond.selects RX8 yX8_save yX8_save ∈ bw := bw_mem 1040 (by decide +kernel) (by decide +kernel)
theorem mc_X8_save : Cond.code yX8_save cX8_save 4 (some .int) ∈ bw := bw_mem 1041 (by decide +kernel) (by decide +kernel)
theorem ml_X8_193 : Cond.methodLink RX8 193 yX8_saved ∈ bw := bw_mem 1042 (by decide +kernel) (by decide +kernel)
theorem mi_X8_saved : Cond.instanceMethod yX8_saved ∈ bw := bw_mem 1044 (by decide +kernel) (by decide +kernel)
theorem mc_X8_saved : Cond.code yX8_saved cX8_saved 6 (some .int) ∈ bw := bw_mem 1045 (by decide +kernel) (by decide +kernel)
theorem ml_L_110 : Cond.methodLink RL 110 yX8_file ∈ bw := bw_mem 1046 (by decide +kernel) (by decide +kernel)
theorem mi_X8_file : Cond.instanceMethod yX8_file ∈ bw := bw_mem 1047 (by decide +kernel) (by decide +kernel)
theorem ms_X8_file : Cond.selects RX8 yX8_file yX8_file ∈ bw := bw_mem 1048 (by decide +kernel) (by decide +kernel)
theorem mc_X8_file : Cond.code yX8_file cX8_file 3 (some .int) ∈ bw := bw_mem 1049 (by decide +kernel) (by decide +kernel)
theorem ml_L_115 : Cond.methodLink RL 115 yX8_letter ∈ bw := bw_mem 1050 (by decide +kernel) (by decide +kernel)
theorem mi_X8_letter : Cond.instanceMethod yX8_letter ∈ bw := bw_mem 1051 (by decide +kernel) (by decide +kernel)
theorem ms_X8_letter : Cond.selects RX8 yX8_letter yX8_letter ∈ bw := bw_mem 1052 (by decide +kernel) (by decide +kernel)
theorem mc_X8_letter : Cond.code yX8_letter cX8_letter 4 (some .int) ∈ bw := bw_mem 1053 (by decide +kernel) (by decide +kernel)
theorem ml_L_119 : Cond.methodLink RL 119 yX8_find ∈ bw := bw_mem 1054 (by decide +kernel) (by decide +kernel)
theorem mi_X8_find : Cond.instanceMethod yX8_find ∈ bw := bw_mem 1055 (by decide +kernel) (by decide +kernel)
theorem ms_X8_find : Cond.selects RX8 yX8_find yX8_find ∈ bw := bw_mem 1056 (by decide +kernel) (by decide +kernel)
theorem mc_X8_find : Cond.code yX8_find cX8_find 1 (some .int) ∈ bw := bw_mem 1057 (by decide +kernel) (by decide +kernel)
theorem ml_L_123 : Cond.methodLink RL 123 yX8_output ∈ bw := bw_mem 1058 (by decide +kernel) (by decide +kernel)
theorem mi_X8_output : Cond.instanceMethod yX8_output ∈ bw := bw_mem 1059 (by decide +kernel) (by decide +kernel)
theorem ms_X8_output : Cond.selects RX8 yX8_output yX8_output ∈ bw := bw_mem 1060 (by decide +kernel) (by decide +kernel)
theorem mc_X8_output : Cond.code yX8_output cX8_output 2 (some .int) ∈ bw := bw_mem 1061 (by decide +kernel) (by decide +kernel)
theorem ml_L_127 : Cond.methodLink RL 127 yX8_about ∈ bw := bw_mem 1062 (by decide +kernel) (by decide +kernel)
theorem mi_X8_about : Cond.instanceMethod yX8_about ∈ bw := bw_mem 1063 (by decide +kernel) (by decide +kernel)
theorem ms_X8_about : Cond.selects RX8 yX8_about yX8_about ∈ bw := bw_mem 1064 (by decide +kernel) (by decide +kernel)
theorem mc_X8_about : Cond.code yX8_about cX8_about 2 (some .int) ∈ bw := bw_mem 1065 (by decide +kernel) (by decide +kernel)
theorem ms_X7_saveFrom : Cond.selects RX7 yX7_saveFrom yX7_saveFrom ∈ bw := bw_mem 0 (by decide +kernel) (by decide +kernel)
theorem ms_X3_unpack : Cond.selects RX3 yX3_unpack yX3_unpack ∈ bw := bw_mem 1 (by decide +kernel) (by decide +kernel)
theorem ms_X3_crcAgrees : Cond.selects RX3 yX3_crcAgrees yX3_crcAgrees ∈ bw := bw_mem 2 (by decide +kernel) (by decide +kernel)
theorem ms_X5_release : Cond.selects RX5 yX5_release yX5_release ∈ bw := bw_mem 3 (by decide +kernel) (by decide +kernel)
theorem ms_X5_fill : Cond.selects RX5 yX5_fill yX5_fill ∈ bw := bw_mem 4 (by decide +kernel) (by decide +kernel)
theorem ms_X3_endPasses : Cond.selects RX3 yX3_endPasses yX3_endPasses ∈ bw := bw_mem 6 (by decide +kernel) (by decide +kernel)
theorem ms_X3_endStands : Cond.selects RX3 yX3_endStands yX3_endStands ∈ bw := bw_mem 7 (by decide +kernel) (by decide +kernel)
theorem ms_X3_fails : Cond.selects RX3 yX3_fails yX3_fails ∈ bw := bw_mem 8 (by decide +kernel) (by decide +kernel)
theorem ms_X3_centralsPass : Cond.selects RX3 yX3_centralsPass yX3_centralsPass ∈ bw := bw_mem 9 (by decide +kernel) (by decide +kernel)
theorem ms_X3_centralStands : Cond.selects RX3 yX3_centralStands yX3_centralStands ∈ bw := bw_mem 10 (by decide +kernel) (by decide +kernel)
theorem ms_X3_isEarlierName : Cond.selects RX3 yX3_isEarlierName yX3_isEarlierName ∈ bw := bw_mem 11 (by decide +kernel) (by decide +kernel)
theorem ms_X3_localsPass : Cond.selects RX3 yX3_localsPass yX3_localsPass ∈ bw := bw_mem 12 (by decide +kernel) (by decide +kernel)
theorem ms_X3_localStands : Cond.selects RX3 yX3_localStands yX3_localStands ∈ bw := bw_mem 13 (by decide +kernel) (by decide +kernel)
theorem ms_X3_contentsPass : Cond.selects RX3 yX3_contentsPass yX3_contentsPass ∈ bw := bw_mem 14 (by decide +kernel) (by decide +kernel)
theorem ms_X8_isName : Cond.selects RX8 yX8_isName yX8_isName ∈ bw := bw_mem 15 (by decide +kernel) (by decide +kernel)
theorem ms_X8_named : Cond.selects RX8 yX8_named yX8_named ∈ bw := bw_mem 16 (by decide +kernel) (by decide +kernel)
theorem ms_X8_total : Cond.selects RX8 yX8_total yX8_total ∈ bw := bw_mem 17 (by decide +kernel) (by decide +kernel)
theorem ms_X8_setName : Cond.selects RX8 yX8_setName yX8_setName ∈ bw := bw_mem 18 (by decide +kernel) (by decide +kernel)
theorem ms_X8_setBytes : Cond.selects RX8 yX8_setBytes yX8_setBytes ∈ bw := bw_mem 19 (by decide +kernel) (by decide +kernel)
theorem ms_X8_isFile : Cond.selects RX8 yX8_isFile yX8_isFile ∈ bw := bw_mem 20 (by decide +kernel) (by decide +kernel)
theorem ms_X8_goes : Cond.selects RX8 yX8_goes yX8_goes ∈ bw := bw_mem 21 (by decide +kernel) (by decide +kernel)
theorem ms_X8_copyFile : Cond.selects RX8 yX8_copyFile yX8_copyFile ∈ bw := bw_mem 22 (by decide +kernel) (by decide +kernel)
theorem ms_X8_isAhead : Cond.selects RX8 yX8_isAhead yX8_isAhead ∈ bw := bw_mem 23 (by decide +kernel) (by decide +kernel)
theorem ms_X8_sign : Cond.selects RX8 yX8_sign yX8_sign ∈ bw := bw_mem 24 (by decide +kernel) (by decide +kernel)
theorem ms_X8_write : Cond.selects RX8 yX8_write yX8_write ∈ bw := bw_mem 25 (by decide +kernel) (by decide +kernel)
theorem ms_X8_writeFacts : Cond.selects RX8 yX8_writeFacts yX8_writeFacts ∈ bw := bw_mem 26 (by decide +kernel) (by decide +kernel)
theorem ms_X8_method : Cond.selects RX8 yX8_method yX8_method ∈ bw := bw_mem 27 (by decide +kernel) (by decide +kernel)
theorem ms_X8_fold : Cond.selects RX8 yX8_fold yX8_fold ∈ bw := bw_mem 28 (by decide +kernel) (by decide +kernel)
theorem ms_X8_alike : Cond.selects RX8 yX8_alike yX8_alike ∈ bw := bw_mem 29 (by decide +kernel) (by decide +kernel)
theorem ms_X8_put : Cond.selects RX8 yX8_put yX8_put ∈ bw := bw_mem 30 (by decide +kernel) (by decide +kernel)
theorem ms_X8_crc : Cond.selects RX8 yX8_crc yX8_crc ∈ bw := bw_mem 31 (by decide +kernel) (by decide +kernel)
theorem ms_X8_packedSize : Cond.selects RX8 yX8_packedSize yX8_packedSize ∈ bw := bw_mem 32 (by decide +kernel) (by decide +kernel)
theorem ms_X8_writeName : Cond.selects RX8 yX8_writeName yX8_writeName ∈ bw := bw_mem 33 (by decide +kernel) (by decide +kernel)
theorem ms_X8_findEnd : Cond.selects RX8 yX8_findEnd yX8_findEnd ∈ bw := bw_mem 34 (by decide +kernel) (by decide +kernel)
theorem ms_X8_isSign : Cond.selects RX8 yX8_isSign yX8_isSign ∈ bw := bw_mem 35 (by decide +kernel) (by decide +kernel)
theorem ms_X8_is : Cond.selects RX8 yX8_is yX8_is ∈ bw := bw_mem 36 (by decide +kernel) (by decide +kernel)
theorem ms_X8_number : Cond.selects RX8 yX8_number yX8_number ∈ bw := bw_mem 37 (by decide +kernel) (by decide +kernel)
theorem ms_X8_fails : Cond.selects RX8 yX8_fails yX8_fails ∈ bw := bw_mem 38 (by decide +kernel) (by decide +kernel)
theorem ms_X8_findCentrals : Cond.selects RX8 yX8_findCentrals yX8_findCentrals ∈ bw := bw_mem 39 (by decide +kernel) (by decide +kernel)
theorem ms_X8_isCentral : Cond.selects RX8 yX8_isCentral yX8_isCentral ∈ bw := bw_mem 40 (by decide +kernel) (by decide +kernel)
theorem ms_X8_areFacts : Cond.selects RX8 yX8_areFacts yX8_areFacts ∈ bw := bw_mem 41 (by decide +kernel) (by decide +kernel)
theorem ms_X8_isSame : Cond.selects RX8 yX8_isSame yX8_isSame ∈ bw := bw_mem 42 (by decide +kernel) (by decide +kernel)
theorem ms_X8_findLocals : Cond.selects RX8 yX8_findLocals yX8_findLocals ∈ bw := bw_mem 43 (by decide +kernel) (by decide +kernel)
theorem ms_X8_isLocal : Cond.selects RX8 yX8_isLocal yX8_isLocal ∈ bw := bw_mem 44 (by decide +kernel) (by decide +kernel)
theorem ms_X8_areBytes : Cond.selects RX8 yX8_areBytes yX8_areBytes ∈ bw := bw_mem 45 (by decide +kernel) (by decide +kernel)
theorem ms_X8_areSizes : Cond.selects RX8 yX8_areSizes yX8_areSizes ∈ bw := bw_mem 46 (by decide +kernel) (by decide +kernel)
theorem ms_X8_unfold : Cond.selects RX8 yX8_unfold yX8_unfold ∈ bw := bw_mem 47 (by decide +kernel) (by decide +kernel)
theorem ms_X8_isCrc : Cond.selects RX8 yX8_isCrc yX8_isCrc ∈ bw := bw_mem 48 (by decide +kernel) (by decide +kernel)
theorem ms_X8_append : Cond.selects RX8 yX8_append yX8_append ∈ bw := bw_mem 49 (by decide +kernel) (by decide +kernel)
theorem ms_X8_saved : Cond.selects RX8 yX8_saved yX8_saved ∈ bw := bw_mem 50 (by decide +kernel) (by decide +kernel)
set_option maxRecDepth 20000 in
theorem inX1 : ∀ w ∈ wsX10, w ∈ bw := by decide +kernel
set_option maxRecDepth 20000 in
theorem inX2 : ∀ w ∈ wsX20, w ∈ bw := by decide +kernel
set_option maxRecDepth 20000 in
theorem inX3 : ∀ w ∈ wsX30, w ∈ bw := by decide +kernel
set_option maxRecDepth 20000 in
theorem inX4 : ∀ w ∈ wsX40, w ∈ bw := by decide +kernel
set_option maxRecDepth 20000 in
theorem inX5 : ∀ w ∈ wsX50, w ∈ bw := by decide +kernel
set_option maxRecDepth 20000 in
theorem inX7 : ∀ w ∈ wsX70, w ∈ bw := by decide +kernel
set_option maxRecDepth 20000 in
theorem inX8 : ∀ w ∈ wsX80, w ∈ bw := by decide +kernel
abbrev ax_nest : List (String × Nat × String × String × String × String) := [("ArchiveDesk$Writer", 21, "ArchiveDesk$Entry", "name", "LArchiveDesk$Row;", "ArchiveDesk"), ("ArchiveDesk$Shelf", 44, "ArchiveDesk$Entry", "name", "LArchiveDesk$Row;", "ArchiveDesk"), ("ArchiveDesk", 178, "ArchiveDesk$Entry", "name", "LArchiveDesk$Row;", "ArchiveDesk"), ("ArchiveDesk$Shelf", 37, "ArchiveDesk$Entry", "start", "I", "ArchiveDesk"), ("ArchiveDesk$Writer", 52, "ArchiveDesk$Entry", "size", "I", "ArchiveDesk"), ("ArchiveDesk$Shelf", 35, "ArchiveDesk$Entry", "size", "I", "ArchiveDesk"), ("ArchiveDesk", 183, "ArchiveDesk$Entry", "size", "I", "ArchiveDesk"), ("ArchiveDesk$Writer", 49, "ArchiveDesk$Entry", "packed", "I", "ArchiveDesk"), ("ArchiveDesk$Shelf", 86, "ArchiveDesk$Entry", "packed", "I", "ArchiveDesk"), ("ArchiveDesk", 186, "ArchiveDesk$Entry", "packed", "I", "ArchiveDesk"), ("ArchiveDesk$Writer", 45, "ArchiveDesk$Entry", "crc", "I", "ArchiveDesk"), ("ArchiveDesk$Shelf", 75, "ArchiveDesk$Entry", "crc", "I", "ArchiveDesk"), ("ArchiveDesk", 192, "ArchiveDesk$Entry", "crc", "I", "ArchiveDesk"), ("ArchiveDesk$Reader", 147, "ArchiveDesk$Header", "method", "I", "ArchiveDesk"), ("ArchiveDesk$Reader", 164, "ArchiveDesk$Header", "crc", "I", "ArchiveDesk"), ("ArchiveDesk$Reader", 47, "ArchiveDesk$Header", "packed", "J", "ArchiveDesk"), ("ArchiveDesk$Reader", 129, "ArchiveDesk$Header", "size", "J", "ArchiveDesk"), ("ArchiveDesk$Reader", 44, "ArchiveDesk$Header", "nameSize", "I", "ArchiveDesk")]
end
section
/-! ===== a pool of n cells: the i-th at address ad i ===== -/
def ax_w (n : Nat) (ad : Nat → Nat) (c : Nat → va_E) : va_W := (List.range n).map fun i => (ad i, c i)
def ax_A (n : Nat) (ad : Nat → Nat) (sz : Nat) : Nat → Prop := fun q => (∃ i, i < n ∧ ad i = q) ∨ sz ≤ q
def ax_J (n : Nat) (ad : Nat → Nat) : Prop := ∀ i j, i < n → j < n → ad i = ad j → i = j
theorem ax_len (n : Nat) (ad : Nat → Nat) (c : Nat → va_E) : (ax_w n ad c).length = n := by simp [ax_w]
theorem ax_get {n : Nat} {ad : Nat → Nat} {c : Nat → va_E} {i : Nat} (h : i < n) : (ax_w n ad c)[i]? = some (ad i, c i) := by simp [ax_w, h]
theorem ax_at {n : Nat} {ad : Nat → Nat} {c : Nat → va_E} {i : Nat} {e : va_E} (h : i < n) (he : c i = e) : (ax_w n ad c)[i]? = some (ad i, e) := by rw [ax_get h, he]
theorem ax_inv {n : Nat} {ad : Nat → Nat} {c : Nat → va_E} {i : Nat} {q : Nat × va_E} (h : (ax_w n ad c)[i]? = some q) : i < n ∧ q = (ad i, c i) := by
  have hl := (List.getElem?_eq_some_iff.mp h).1
  rw [ax_len] at hl
  rw [ax_get hl] at h
  exact ⟨hl, (Option.some.inj h).symm⟩
theorem ax_set {n : Nat} {ad : Nat → Nat} {c c' : Nat → va_E} {i : Nat} {e : va_E} (h : i < n) (he : c' i = e) (ho : ∀ j, j < n → j ≠ i → c j = c' j) : (ax_w n ad c).set i (ad i, e) = ax_w n ad c' := by
  apply List.ext_getElem?
  intro j
  by_cases hj : j = i
  · subst hj
    rw [List.getElem?_set_self (by rw [ax_len]; exact h), ax_get h, he]
  · rw [List.getElem?_set_ne (Ne.symm hj)]
    by_cases hjn : j < n
    · rw [ax_get hjn, ax_get hjn, ho j hjn hj]
    · rw [List.getElem?_eq_none (by rw [ax_len]; omega), List.getElem?_eq_none (by rw [ax_len]; omega)]
theorem ax_D {n : Nat} {ad : Nat → Nat} {c : Nat → va_E} {A : Nat → Prop} (hJ : ax_J n ad) (hA : ∀ i, i < n → A (ad i)) : va_D A (ax_w n ad c) := by
  refine ⟨fun i j x y hi hj hxy => ?_, fun k q hk => ?_⟩
  · obtain ⟨h1, rfl⟩ := ax_inv hi
    obtain ⟨h2, rfl⟩ := ax_inv hj
    exact hJ i j h1 h2 hxy
  · obtain ⟨h1, rfl⟩ := ax_inv hk
    exact hA k h1
theorem ax_Ai {n : Nat} {ad : Nat → Nat} {sz i : Nat} (h : i < n) : ax_A n ad sz (ad i) := Or.inl ⟨i, h, rfl⟩
theorem ax_An {n : Nat} {ad : Nat → Nat} {sz q : Nat} (h : sz ≤ q) : ax_A n ad sz q := Or.inr h
/-! ===== what a method finds beside its pool: the tables, the nest's links, the CRC's steps ===== -/
abbrev ax_tys (cyI cyE : ClassId) : List (ClassId × FieldType) := [(cyI, .int), (cyE, .object RX1)]
def ax_nw (q : String × Nat × String × String × String × String) : Cond := .fieldLinkNest q.1 q.2.1 q.2.2.1 q.2.2.2.1 q.2.2.2.2.1 q.2.2.2.2.2
abbrev ax_crcL : List Int32 := [0x00000000, 0x1DB71064, 0x3B6E20C8, 0x26D930AC, 0x76DC4190, 0x6B6B51F4, 0x4DB26158, 0x5005713C, -306674912, -267414716, -690576408, -882789492, -1687895376, -2032938284, -1609899400, -1111625188]
def ax_crc (j : Nat) : Int32 := ax_crcL.getD j 0
def ax_env (dC : Nat → ClassId) (dI : Nat → Nat → Nat) (cyI cyE : ClassId) (tC : Nat) (A : Nat → Prop) (U : State) (H : Heap) : Prop :=
  va_K (dC, dI) vwCl (ax_tys cyI cyE) U ∧ (∀ q ∈ ax_nest, va_Nw (ax_nw q) U) ∧ va_Z "ArchiveDesk$Codec" "CRC_STEPS" "[I" (.ref tC) A U H ∧ va_T .int tC 16 (fun j => .int (ax_crc j)) A U H
theorem ax_env.blind {dC : Nat → ClassId} {dI : Nat → Nat → Nat} {cyI cyE : ClassId} {tC : Nat} {A : Nat → Prop} {U U' : State} {H : Heap} (h : ax_env dC dI cyI cyE tC A U H) (hvm : U.vm = U'.vm) : ax_env dC dI cyI cyE tC A U' H :=
  have hal : U.vm.Alike U'.vm := by rw [hvm]; exact Vm.Alike.refl _
  ⟨h.1.moved hal, fun q hq => va_tabs rfl hvm (h.2.1 q hq), h.2.2.1.moved hal, h.2.2.2.moved hal⟩
theorem ax_env.call {dC : Nat → ClassId} {dI : Nat → Nat → Nat} {cyI cyE : ClassId} {tC : Nat} {A B : Nat → Prop} {s U : State} {H : Heap} {locs : List Loc} (h : ax_env dC dI cyI cyE tC A s s.heap) (hW : s.WarmedH U.vm) (hS : va_S A s.heap H locs) (hB : ∀ q, B q → A q) : ax_env dC dI cyI cyE tC B U H :=
  ⟨h.1.moved hW.alike, fun q hq => va_Nw.warmF hW (h.2.1 q hq), ((h.2.2.1.moved hW.alike).kept hS.2.1).narrow hB, ((h.2.2.2.moved hW.alike).kept hS.2.1).narrow hB⟩
/-! ===== a contract over the pool: from σ, with the words vs, to σ' (and the answer) ===== -/
def ax_pre {S : Type} (dC : Nat → ClassId) (dI : Nat → Nat → Nat) (cyI cyE : ClassId) (tC n : Nat) (cf : S → Nat → va_E) (ad : Nat → Nat) (σ : S) (sz : Nat) (U : State) : Prop :=
  U.heap.size = sz ∧ va_P (dC, dI) vwCl (ax_w n ad (cf σ)) U.heap ∧ ax_J n ad ∧ ax_env dC dI cyI cyE tC (ax_A n ad sz) U U.heap
abbrev ax_B {S : Type} (dC : Nat → ClassId) (dI : Nat → Nat → Nat) (n : Nat) (cf : S → Nat → va_E) (ad : Nat → Nat) (u : S) (t : State) : Prop := va_P (dC, dI) vwCl (ax_w n ad (cf u)) t.heap
def ax_Mi {S : Type} (l : Launch) (dC : Nat → ClassId) (dI : Nat → Nat → Nat) (cyI cyE : ClassId) (tC n : Nat) (cf : S → Nat → va_E) (ad : Nat → Nat) (y : MethodName) (cc : ByteArray) (nL : Nat) (ret : Option FieldType) (rm : Room) (vs : List Value) (σ : S) (r : Int32) (σ' : S) : Prop :=
  ∀ sz, Met l y (wsY y cc nL ret) rm (va_Pc vs (ax_pre dC dI cyI cyE tC n cf ad σ sz)) (va_Qi (fun (a : Int32) (u : S) => a = r ∧ u = σ') (ax_B dC dI n cf ad) (ax_A n ad sz)) 0 0 (ax_A n ad sz)
def ax_Ml {S : Type} (l : Launch) (dC : Nat → ClassId) (dI : Nat → Nat → Nat) (cyI cyE : ClassId) (tC n : Nat) (cf : S → Nat → va_E) (ad : Nat → Nat) (y : MethodName) (cc : ByteArray) (nL : Nat) (ret : Option FieldType) (rm : Room) (vs : List Value) (σ : S) (r : Int64) (σ' : S) : Prop :=
  ∀ sz, Met l y (wsY y cc nL ret) rm (va_Pc vs (ax_pre dC dI cyI cyE tC n cf ad σ sz)) (va_Ql (fun (a : Int64) (u : S) => a = r ∧ u = σ') (ax_B dC dI n cf ad) (ax_A n ad sz)) 0 0 (ax_A n ad sz)
def ax_Mv {S : Type} (l : Launch) (dC : Nat → ClassId) (dI : Nat → Nat → Nat) (cyI cyE : ClassId) (tC n : Nat) (cf : S → Nat → va_E) (ad : Nat → Nat) (y : MethodName) (cc : ByteArray) (nL : Nat) (ret : Option FieldType) (rm : Room) (vs : List Value) (σ : S) (σ' : S) : Prop :=
  ∀ sz, Met l y (wsY y cc nL ret) rm (va_Pc vs (ax_pre dC dI cyI cyE tC n cf ad σ sz)) (va_Qv (fun (u : S) => u = σ') (ax_B dC dI n cf ad) (ax_A n ad sz)) 0 0 (ax_A n ad sz)
theorem ax_blind {S : Type} {dC : Nat → ClassId} {dI : Nat → Nat → Nat} {cyI cyE : ClassId} {tC n : Nat} {cf : S → Nat → va_E} {ad : Nat → Nat} {σ : S} {sz : Nat} {vs : List Value} : FrameBlind (va_Pc vs (ax_pre dC dI cyI cyE tC n cf ad σ sz)) :=
  fun a U g mk q => by
    obtain ⟨q0, q1, qP, qJ, qE⟩ := q
    exact ⟨q0, q1, qP, qJ, qE.blind (U' := U.calling g mk a) rfl⟩
/-- where a method stands: its code and words, the tables, the pool's addresses -/
def ax_C {p : Program} (l : Launch) (e : Env) (dC : Nat → ClassId) (dI : Nat → Nat → Nat) (cyI cyE : ClassId) (tC n : Nat) (ad : Nat → Nat) (s : State) (m : MethodId) (args : Array Value) (meth : Method) (c : Code) (y : MethodName) (cc : ByteArray) (nL : Nat) (ret : Option FieldType) (own : String) : Prop :=
  CallFix p m c cc nL s args (wsY y cc nL ret) own ∧ meth.sig.returnType = ret ∧ meth.locks = false ∧ ax_J n ad ∧ ax_env dC dI cyI cyE tC (ax_A n ad s.heap.size) s s.heap
end
section
section AXR
variable {p : Program} {l : Launch} {e : Env} {R : Room} {s : State} {m : MethodId} {args : Array Value} {below : List Frame} {meth : Method} {c : Code} {H : Heap} {locs : List Loc} {cells slots : Nat} {Q : State → Prop}
variable {S : Type} {dC : Nat → ClassId} {dI : Nat → Nat → Nat} {cyI cyE : ClassId} {tC n : Nat} {cf : S → Nat → va_E} {ad : Nat → Nat} {σ σ' : S}
variable {cc : ByteArray} {nL pc : Nat} {ls : Array Slot} {Ts : List Cond} {own : String}
theorem ax_mono (hS : va_S (ax_A n ad s.heap.size) s.heap H locs) : ∀ q, ax_A n ad H.size q → ax_A n ad s.heap.size q := fun _ h => h.elim Or.inl (fun h => Or.inr (Nat.le_trans hS.1 h))
theorem ax_callVi {y : MethodName} {cy : ByteArray} {nl : Nat} {ret : Option FieldType} {rm : Room} {r : Int32} {C : String} {b ci i k idx : Nat} {q : vw_C} {fs : List Value} {st0 rest : List Value} (As : List Value)
    (C0 : CallFix p m c cc nL s args Ts own) (hT : ∀ w ∈ bw, w ∈ Ts) (hJ : ax_J n ad) (hE : ax_env dC dI cyI cyE tC (ax_A n ad s.heap.size) s s.heap)
    (hM : ax_Mi l dC dI cyI cyE tC n cf ad y cy nl ret rm (.ref (ad i) :: As) σ r σ')
    (hP : va_P (dC, dI) vwCl (ax_w n ad (cf σ)) H) (hS : va_S (ax_A n ad s.heap.size) s.heap H locs)
    (hcode : Cond.code y cy nl ret ∈ bw) (hlink : Cond.methodLink own idx y ∈ bw) (hinst : Cond.instanceMethod y ∈ bw) (hsel : Cond.selects q.1 y y ∈ bw) (hini : Cond.initialized q.1 ∈ bw)
    (hd : y.cls = q.1 ∧ y.cls ≠ "java/lang/invoke/MethodHandle" ∧ y.cls ≠ "java/lang/invoke/VarHandle" ∧ (parseMethodDescriptor y.desc).map (fun d => d.parameters.length) = some k)
    (hrm : rm.cells = 0 ∧ rm.slots = 0) (hR : rm.frames + 1 ≤ R.frames ∧ 8 + (nl + 11) + rm.locals ≤ R.locals)
    (hi : i < n) (he : cf σ i = .inr (ci, fs)) (hc : vwCl[ci]? = some q) (hst : st0 = As.reverse ++ .ref (ad i) :: rest) (hlen : As.length = k) (hsz : ls.size = nL) (hcat : (rest.map fun v => v.category).sum ≤ 8)
    (hdg : decode cc pc = .ok (.invokevirtual idx, 3)) (hcs : cells ≤ R.cells ∧ slots ≤ R.slots)
    (kk : ∀ (H1 : Heap) (locs1 : List Loc), va_P (dC, dI) vwCl (ax_w n ad (cf σ')) H1 → va_S (ax_A n ad s.heap.size) s.heap H1 locs1 → W p l e R s m args below meth c H1 locs1 cells slots Q (F0 m (pc + 3) ls (.int r :: rest))) :
    W p l e R s m args below meth c H locs cells slots Q (F0 m pc ls st0) := by
  refine va_calli (va_runV (As := As) (rest := rest) C0 (hM H.size) (cwV k C0.2.2.2.2 (bw_V hT hcode hlink hinst hsel hini) rfl hrm.1 hrm.2 hd hR) ⟨ax_blind, va_recv hE.1 hP hc (ax_at hi he), fun U hU hW => ⟨rfl, by rw [hU], by rw [hU]; exact hP, hJ, by rw [hU]; exact hE.call hW hS (ax_mono hS)⟩⟩ rfl hlen hsz hst (by simpa using hcat) hdg hcs) hS (fun q _ h => ax_mono hS q h) (ax_mono hS) (fun r2 u t H1 locs1 ht hvm hw hB hz hk hS1 => ?_)
  obtain ⟨rfl, rfl⟩ := hw
  exact kk H1 locs1 (by rw [← ht]; exact hB) hS1
theorem ax_callVl {y : MethodName} {cy : ByteArray} {nl : Nat} {ret : Option FieldType} {rm : Room} {r : Int64} {b ci i k idx : Nat} {q : vw_C} {fs : List Value} {st0 rest : List Value} (As : List Value)
    (C0 : CallFix p m c cc nL s args Ts own) (hT : ∀ w ∈ bw, w ∈ Ts) (hJ : ax_J n ad) (hE : ax_env dC dI cyI cyE tC (ax_A n ad s.heap.size) s s.heap)
    (hM : ax_Ml l dC dI cyI cyE tC n cf ad y cy nl ret rm (.ref (ad i) :: As) σ r σ')
    (hP : va_P (dC, dI) vwCl (ax_w n ad (cf σ)) H) (hS : va_S (ax_A n ad s.heap.size) s.heap H locs)
    (hcode : Cond.code y cy nl ret ∈ bw) (hlink : Cond.methodLink own idx y ∈ bw) (hinst : Cond.instanceMethod y ∈ bw) (hsel : Cond.selects q.1 y y ∈ bw) (hini : Cond.initialized q.1 ∈ bw)
    (hd : y.cls = q.1 ∧ y.cls ≠ "java/lang/invoke/MethodHandle" ∧ y.cls ≠ "java/lang/invoke/VarHandle" ∧ (parseMethodDescriptor y.desc).map (fun d => d.parameters.length) = some k)
    (hrm : rm.cells = 0 ∧ rm.slots = 0) (hR : rm.frames + 1 ≤ R.frames ∧ 8 + (nl + 11) + rm.locals ≤ R.locals)
    (hi : i < n) (he : cf σ i = .inr (ci, fs)) (hc : vwCl[ci]? = some q) (hst : st0 = As.reverse ++ .ref (ad i) :: rest) (hlen : As.length = k) (hsz : ls.size = nL) (hcat : (rest.map fun v => v.category).sum ≤ 8)
    (hdg : decode cc pc = .ok (.invokevirtual idx, 3)) (hcs : cells ≤ R.cells ∧ slots ≤ R.slots)
    (kk : ∀ (H1 : Heap) (locs1 : List Loc), va_P (dC, dI) vwCl (ax_w n ad (cf σ')) H1 → va_S (ax_A n ad s.heap.size) s.heap H1 locs1 → W p l e R s m args below meth c H1 locs1 cells slots Q (F0 m (pc + 3) ls (.long r :: rest))) :
    W p l e R s m args below meth c H locs cells slots Q (F0 m pc ls st0) := by
  refine va_calll (va_runV (As := As) (rest := rest) C0 (hM H.size) (cwV k C0.2.2.2.2 (bw_V hT hcode hlink hinst hsel hini) rfl hrm.1 hrm.2 hd hR) ⟨ax_blind, va_recv hE.1 hP hc (ax_at hi he), fun U hU hW => ⟨rfl, by rw [hU], by rw [hU]; exact hP, hJ, by rw [hU]; exact hE.call hW hS (ax_mono hS)⟩⟩ rfl hlen hsz hst (by simpa using hcat) hdg hcs) hS (fun q _ h => ax_mono hS q h) (ax_mono hS) (fun r2 u t H1 locs1 ht hvm hw hB hz hk hS1 => ?_)
  obtain ⟨rfl, rfl⟩ := hw
  exact kk H1 locs1 (by rw [← ht]; exact hB) hS1
theorem ax_callVv {y : MethodName} {cy : ByteArray} {nl : Nat} {ret : Option FieldType} {rm : Room} {b ci i k idx : Nat} {q : vw_C} {fs : List Value} {st0 rest : List Value} (As : List Value)
    (C0 : CallFix p m c cc nL s args Ts own) (hT : ∀ w ∈ bw, w ∈ Ts) (hJ : ax_J n ad) (hE : ax_env dC dI cyI cyE tC (ax_A n ad s.heap.size) s s.heap)
    (hM : ax_Mv l dC dI cyI cyE tC n cf ad y cy nl ret rm (.ref (ad i) :: As) σ σ')
    (hP : va_P (dC, dI) vwCl (ax_w n ad (cf σ)) H) (hS : va_S (ax_A n ad s.heap.size) s.heap H locs)
    (hcode : Cond.code y cy nl ret ∈ bw) (hlink : Cond.methodLink own idx y ∈ bw) (hinst : Cond.instanceMethod y ∈ bw) (hsel : Cond.selects q.1 y y ∈ bw) (hini : Cond.initialized q.1 ∈ bw)
    (hd : y.cls = q.1 ∧ y.cls ≠ "java/lang/invoke/MethodHandle" ∧ y.cls ≠ "java/lang/invoke/VarHandle" ∧ (parseMethodDescriptor y.desc).map (fun d => d.parameters.length) = some k)
    (hrm : rm.cells = 0 ∧ rm.slots = 0) (hR : rm.frames + 1 ≤ R.frames ∧ 8 + (nl + 11) + rm.locals ≤ R.locals)
    (hi : i < n) (he : cf σ i = .inr (ci, fs)) (hc : vwCl[ci]? = some q) (hst : st0 = As.reverse ++ .ref (ad i) :: rest) (hlen : As.length = k) (hsz : ls.size = nL) (hcat : (rest.map fun v => v.category).sum ≤ 8)
    (hdg : decode cc pc = .ok (.invokevirtual idx, 3)) (hcs : cells ≤ R.cells ∧ slots ≤ R.slots)
    (kk : ∀ (H1 : Heap) (locs1 : List Loc), va_P (dC, dI) vwCl (ax_w n ad (cf σ')) H1 → va_S (ax_A n ad s.heap.size) s.heap H1 locs1 → W p l e R s m args below meth c H1 locs1 cells slots Q (F0 m (pc + 3) ls rest)) :
    W p l e R s m args below meth c H locs cells slots Q (F0 m pc ls st0) := by
  refine va_callv (va_runV (As := As) (rest := rest) C0 (hM H.size) (cwV k C0.2.2.2.2 (bw_V hT hcode hlink hinst hsel hini) rfl hrm.1 hrm.2 hd hR) ⟨ax_blind, va_recv hE.1 hP hc (ax_at hi he), fun U hU hW => ⟨rfl, by rw [hU], by rw [hU]; exact hP, hJ, by rw [hU]; exact hE.call hW hS (ax_mono hS)⟩⟩ rfl hlen hsz hst (by simpa using hcat) hdg hcs) hS (fun q _ h => ax_mono hS q h) (ax_mono hS) (fun u t H1 locs1 ht hvm hw hB hz hk hS1 => ?_)
  subst hw
  exact kk H1 locs1 (by rw [← ht]; exact hB) hS1
theorem ax_callSi {y : MethodName} {cy : ByteArray} {nl : Nat} {ret : Option FieldType} {rm : Room} {r : Int32} {k idx : Nat} {st0 rest : List Value} (As : List Value)
    (C0 : CallFix p m c cc nL s args Ts own) (hT : ∀ w ∈ bw, w ∈ Ts) (hJ : ax_J n ad) (hE : ax_env dC dI cyI cyE tC (ax_A n ad s.heap.size) s s.heap)
    (hM : ax_Mi l dC dI cyI cyE tC n cf ad y cy nl ret rm As σ r σ')
    (hP : va_P (dC, dI) vwCl (ax_w n ad (cf σ)) H) (hS : va_S (ax_A n ad s.heap.size) s.heap H locs)
    (hcode : Cond.code y cy nl ret ∈ bw) (hlink : Cond.methodLink own idx y ∈ bw) (hstat : Cond.static y ∈ bw) (hini : Cond.initialized y.cls ∈ bw)
    (hd : y.cls ≠ "java/lang/invoke/MethodHandle" ∧ y.cls ≠ "java/lang/invoke/VarHandle" ∧ (parseMethodDescriptor y.desc).map (fun d => d.parameters.length) = some k)
    (hrm : rm.cells = 0 ∧ rm.slots = 0) (hR : rm.frames + 1 ≤ R.frames ∧ 8 + (nl + 11) + rm.locals ≤ R.locals)
    (hst : st0 = As.reverse ++ rest) (hlen : As.length = k) (hsz : ls.size = nL) (hcat : (rest.map fun v => v.category).sum ≤ 8)
    (hdg : decode cc pc = .ok (.invokestatic idx, 3)) (hcs : cells ≤ R.cells ∧ slots ≤ R.slots)
    (kk : ∀ (H1 : Heap) (locs1 : List Loc), va_P (dC, dI) vwCl (ax_w n ad (cf σ')) H1 → va_S (ax_A n ad s.heap.size) s.heap H1 locs1 → W p l e R s m args below meth c H1 locs1 cells slots Q (F0 m (pc + 3) ls (.int r :: rest))) :
    W p l e R s m args below meth c H locs cells slots Q (F0 m pc ls st0) := by
  refine va_calli (va_runS (As := As) (rest := rest) C0 (hM H.size) (va_cwS k C0.2.2.2.2 (bw_S hT hcode hlink hstat hini) rfl hrm.1 hrm.2 hd hR) ⟨ax_blind, fun U hU hW => ⟨rfl, by rw [hU], by rw [hU]; exact hP, hJ, by rw [hU]; exact hE.call hW hS (ax_mono hS)⟩⟩ rfl hlen hsz hst (by simpa using hcat) hdg hcs) hS (fun q _ h => ax_mono hS q h) (ax_mono hS) (fun r2 u t H1 locs1 ht hvm hw hB hz hk hS1 => ?_)
  obtain ⟨rfl, rfl⟩ := hw
  exact kk H1 locs1 (by rw [← ht]; exact hB) hS1
theorem ax_callSv {y : MethodName} {cy : ByteArray} {nl : Nat} {ret : Option FieldType} {rm : Room} {k idx : Nat} {st0 rest : List Value} (As : List Value)
    (C0 : CallFix p m c cc nL s args Ts own) (hT : ∀ w ∈ bw, w ∈ Ts) (hJ : ax_J n ad) (hE : ax_env dC dI cyI cyE tC (ax_A n ad s.heap.size) s s.heap)
    (hM : ax_Mv l dC dI cyI cyE tC n cf ad y cy nl ret rm As σ σ')
    (hP : va_P (dC, dI) vwCl (ax_w n ad (cf σ)) H) (hS : va_S (ax_A n ad s.heap.size) s.heap H locs)
    (hcode : Cond.code y cy nl ret ∈ bw) (hlink : Cond.methodLink own idx y ∈ bw) (hstat : Cond.static y ∈ bw) (hini : Cond.initialized y.cls ∈ bw)
    (hd : y.cls ≠ "java/lang/invoke/MethodHandle" ∧ y.cls ≠ "java/lang/invoke/VarHandle" ∧ (parseMethodDescriptor y.desc).map (fun d => d.parameters.length) = some k)
    (hrm : rm.cells = 0 ∧ rm.slots = 0) (hR : rm.frames + 1 ≤ R.frames ∧ 8 + (nl + 11) + rm.locals ≤ R.locals)
    (hst : st0 = As.reverse ++ rest) (hlen : As.length = k) (hsz : ls.size = nL) (hcat : (rest.map fun v => v.category).sum ≤ 8)
    (hdg : decode cc pc = .ok (.invokestatic idx, 3)) (hcs : cells ≤ R.cells ∧ slots ≤ R.slots)
    (kk : ∀ (H1 : Heap) (locs1 : List Loc), va_P (dC, dI) vwCl (ax_w n ad (cf σ')) H1 → va_S (ax_A n ad s.heap.size) s.heap H1 locs1 → W p l e R s m args below meth c H1 locs1 cells slots Q (F0 m (pc + 3) ls rest)) :
    W p l e R s m args below meth c H locs cells slots Q (F0 m pc ls st0) := by
  refine va_callv (va_runS (As := As) (rest := rest) C0 (hM H.size) (va_cwS k C0.2.2.2.2 (bw_S hT hcode hlink hstat hini) rfl hrm.1 hrm.2 hd hR) ⟨ax_blind, fun U hU hW => ⟨rfl, by rw [hU], by rw [hU]; exact hP, hJ, by rw [hU]; exact hE.call hW hS (ax_mono hS)⟩⟩ rfl hlen hsz hst (by simpa using hcat) hdg hcs) hS (fun q _ h => ax_mono hS q h) (ax_mono hS) (fun u t H1 locs1 ht hvm hw hB hz hk hS1 => ?_)
  subst hw
  exact kk H1 locs1 (by rw [← ht]; exact hB) hS1
/-! the ends -/
theorem ax_iret {v : Int32} {r : Int32} {ty : FieldType} (hx : p.tables.exec = Jvm.exec) (hb : c.code = cc) (hr : meth.sig.returnType = some ty) (hlocks : meth.locks = false) (hn : narrow ty (.int v) = .int v)
    (hP : va_P (dC, dI) vwCl (ax_w n ad (cf σ)) H) (hS : va_S (ax_A n ad s.heap.size) s.heap H locs) (hdg : decode cc pc = .ok (.ireturn, 1)) (hv : v = r) (hσ : σ = σ') :
    W p l e R s m args below meth c H locs 0 0 (MQ below (va_Qi (fun (a : Int32) (u : S) => a = r ∧ u = σ') (ax_B dC dI n cf ad) (ax_A n ad s.heap.size)) args s 0 0 (ax_A n ad s.heap.size)) (F0 m pc ls [.int v]) := by
  subst hv hσ
  exact W.zret hx hb hr hn (fun t ht hW => ⟨⟨_, _, rfl, ⟨rfl, rfl⟩, by show va_P _ _ _ t.heap; rw [ht]; exact hP⟩, hS.F ht⟩) hS.2.2 hdg hlocks
theorem ax_lret {v : Int64} {r : Int64} (hx : p.tables.exec = Jvm.exec) (hb : c.code = cc) (hr : meth.sig.returnType = some .long) (hlocks : meth.locks = false)
    (hP : va_P (dC, dI) vwCl (ax_w n ad (cf σ)) H) (hS : va_S (ax_A n ad s.heap.size) s.heap H locs) (hdg : decode cc pc = .ok (.lreturn, 1)) (hv : v = r) (hσ : σ = σ') :
    W p l e R s m args below meth c H locs 0 0 (MQ below (va_Ql (fun (a : Int64) (u : S) => a = r ∧ u = σ') (ax_B dC dI n cf ad) (ax_A n ad s.heap.size)) args s 0 0 (ax_A n ad s.heap.size)) (F0 m pc ls [.long v]) := by
  subst hv hσ
  exact W.lret hx hb hr (fun t ht hW => ⟨⟨_, _, rfl, ⟨rfl, rfl⟩, by show va_P _ _ _ t.heap; rw [ht]; exact hP⟩, hS.F ht⟩) hS.2.2 hdg hlocks
theorem ax_vret (hx : p.tables.exec = Jvm.exec) (hb : c.code = cc) (hr : meth.sig.returnType = none) (hlocks : meth.locks = false)
    (hP : va_P (dC, dI) vwCl (ax_w n ad (cf σ)) H) (hS : va_S (ax_A n ad s.heap.size) s.heap H locs) (hdg : decode cc pc = .ok (.return_, 1)) (hσ : σ = σ') :
    W p l e R s m args below meth c H locs 0 0 (MQ below (va_Qv (fun (u : S) => u = σ') (ax_B dC dI n cf ad) (ax_A n ad s.heap.size)) args s 0 0 (ax_A n ad s.heap.size)) (F0 m pc ls []) := by
  subst hσ
  exact W.vret hx hb hr (fun t ht hW => ⟨⟨_, rfl, rfl, by show va_P _ _ _ t.heap; rw [ht]; exact hP⟩, hS.F ht⟩) hS.2.2 hdg hlocks
end AXR
end
section
/-! ===== the desk's world: what its cells hold, by numbers =====
σ.1 f i: the int fields (0 Row.size; 1..4 Entry.start, size, packed, crc; 5 Shelf.count; 6..11 Reader's; 12..14 Header.method, crc, nameSize); σ.2.1: Header.packed, size; σ.2.2.1: the int arrays (0 ready, 1 tape, 2 output, 3 all bytes, 4 unpacked, 5.. names, 25 centralAt, 26 packedAt); σ.2.2.2: which entry lies at a place -/
abbrev SD : Type := (Nat → Nat → Int32) × (Nat → Int64) × (Nat → Nat → Int32) × (Nat → Nat)
def u2 {α : Type} (f : Nat → Nat → α) (a b : Nat) (v : α) : Nat → Nat → α := fun i j => if i = a ∧ j = b then v else f i j
def SDi (σ : SD) (f i : Nat) (v : Int32) : SD := (u2 σ.1 f i v, σ.2)
def SDj (σ : SD) (f : Nat) (v : Int64) : SD := (σ.1, va_up σ.2.1 f v, σ.2.2)
def SDc (σ : SD) (a : Nat) (g : Nat → Int32) : SD := (σ.1, σ.2.1, va_up σ.2.2.1 a g, σ.2.2.2)
def SDe (σ : SD) (k e : Nat) : SD := (σ.1, σ.2.1, σ.2.2.1, va_up σ.2.2.2 k e)
def capD (a : Nat) : Nat := if a = 0 then 20 else if a = 1 then 9000 else if a = 2 then 9000 else if a = 3 then 6000 else if a = 4 then 1500 else if a < 25 then 30 else 20
def cD (cyI cyE : ClassId) (ad : Nat → Nat) (σ : SD) (i : Nat) : va_E :=
  if i < 25 then .inr (3, [.ref (ad (25 + i)), .int (σ.1 0 i)])
  else if i < 52 then .inl (cyI, capD (i - 25), .inl (σ.2.2.1 (i - 25)))
  else if i < 72 then .inr (0, [.ref (ad (5 + (i - 52))), .int (σ.1 1 (i - 52)), .int (σ.1 2 (i - 52)), .int (σ.1 3 (i - 52)), .int (σ.1 4 (i - 52))])
  else if i = 72 then .inl (cyE, 20, .inr (.inr (.inr (.inr (fun k => some (ad (52 + σ.2.2.2 k)))))))
  else if i = 73 then .inr (1, [.int (σ.1 12 0), .int (σ.1 13 0), .long (σ.2.1 0), .long (σ.2.1 1), .int (σ.1 14 0)])
  else if i = 74 then .inr (2, [.ref (ad (25 + 25)), .ref (ad (25 + 26)), .ref (ad 73), .ref (ad 4), .int (σ.1 6 0), .int (σ.1 7 0), .int (σ.1 8 0), .int (σ.1 9 0), .int (σ.1 10 0), .int (σ.1 11 0)])
  else if i = 75 then .inr (4, [.ref (ad 72), .ref (ad 3), .int (σ.1 5 0)])
  else .inr (5, [.ref (ad 0), .ref (ad 1), .ref (ad 2), .ref (ad 75), .ref (ad 74)])
def SM0 : Type := (Nat → Int32) × (Nat → Nat → Int32)
abbrev SM : Type := (Nat → Int32) × (Nat → Nat → Int32)
def SMi (σ : SM) (f : Nat) (v : Int32) : SM := (va_up σ.1 f v, σ.2)
def SMc (σ : SM) (a : Nat) (g : Nat → Int32) : SM := (σ.1, va_up σ.2 a g)
def capM (a : Nat) : Nat := ([20, 9000, 9000, 630, 21, 31500, 21, 1600, 20, 20, 21] : List Nat).getD a 0
def cM (cyI : ClassId) (ad : Nat → Nat) (σ : SM) (i : Nat) : va_E := if i < 11 then .inl (cyI, capM i, .inl (σ.2 i)) else .inr (6, [.int (σ.1 0), .ref (ad 0), .ref (ad 1), .int (σ.1 1), .ref (ad 2), .int (σ.1 2), .int (σ.1 3), .ref (ad 3), .ref (ad 4), .ref (ad 5), .ref (ad 6), .int (σ.1 4), .int (σ.1 5), .int (σ.1 6), .ref (ad 7), .int (σ.1 7), .ref (ad 8), .ref (ad 9), .ref (ad 10)])
theorem cD_Row {cyI cyE : ClassId} {ad : Nat → Nat} {σ : SD} {r : Nat} (h : r < 25) : cD cyI cyE ad σ r = .inr (3, [.ref (ad (25 + r)), .int (σ.1 0 r)]) := by simp [cD, h]
theorem cD_Entry {cyI cyE : ClassId} {ad : Nat → Nat} {σ : SD} {k : Nat} (h : k < 20) : cD cyI cyE ad σ (52 + k) = .inr (0, [.ref (ad (5 + k)), .int (σ.1 1 k), .int (σ.1 2 k), .int (σ.1 3 k), .int (σ.1 4 k)]) := by
  have h1 : ¬ 52 + k < 25 := by omega
  have h2 : ¬ 52 + k < 52 := by omega
  have h3 : 52 + k < 72 := by omega
  have h4 : 52 + k - 52 = k := by omega
  simp only [cD, if_neg h1, if_neg h2, if_pos h3, h4]
theorem cD_Header {cyI cyE : ClassId} {ad : Nat → Nat} {σ : SD} : cD cyI cyE ad σ 73 = .inr (1, [.int (σ.1 12 0), .int (σ.1 13 0), .long (σ.2.1 0), .long (σ.2.1 1), .int (σ.1 14 0)]) := rfl
theorem cD_Reader {cyI cyE : ClassId} {ad : Nat → Nat} {σ : SD} : cD cyI cyE ad σ 74 = .inr (2, [.ref (ad (25 + 25)), .ref (ad (25 + 26)), .ref (ad 73), .ref (ad 4), .int (σ.1 6 0), .int (σ.1 7 0), .int (σ.1 8 0), .int (σ.1 9 0), .int (σ.1 10 0), .int (σ.1 11 0)]) := rfl
theorem cD_Shelf {cyI cyE : ClassId} {ad : Nat → Nat} {σ : SD} : cD cyI cyE ad σ 75 = .inr (4, [.ref (ad 72), .ref (ad 3), .int (σ.1 5 0)]) := rfl
theorem cD_Desk {cyI cyE : ClassId} {ad : Nat → Nat} {σ : SD} : cD cyI cyE ad σ 76 = .inr (5, [.ref (ad 0), .ref (ad 1), .ref (ad 2), .ref (ad 75), .ref (ad 74)]) := rfl
theorem cD_A {cyI cyE : ClassId} {ad : Nat → Nat} {σ : SD} {a : Nat} (h : a < 27) : cD cyI cyE ad σ (25 + a) = .inl (cyI, capD a, .inl (σ.2.2.1 a)) := by
  have h1 : ¬ 25 + a < 25 := by omega
  have h2 : 25 + a < 52 := by omega
  have h4 : 25 + a - 25 = a := by omega
  simp only [cD, if_neg h1, if_pos h2, h4]
theorem cD_E {cyI cyE : ClassId} {ad : Nat → Nat} {σ : SD} : cD cyI cyE ad σ 72 = .inl (cyE, 20, .inr (.inr (.inr (.inr (fun k => some (ad (52 + σ.2.2.2 k))))))) := rfl
theorem cM_A {cyI : ClassId} {ad : Nat → Nat} {σ : SM} {a : Nat} (h : a < 11) : cM cyI ad σ a = .inl (cyI, capM a, .inl (σ.2 a)) := by simp only [cM, if_pos h]
theorem cM_O {cyI : ClassId} {ad : Nat → Nat} {σ : SM} : cM cyI ad σ 11 = .inr (6, [.int (σ.1 0), .ref (ad 0), .ref (ad 1), .int (σ.1 1), .ref (ad 2), .int (σ.1 2), .int (σ.1 3), .ref (ad 3), .ref (ad 4), .ref (ad 5), .ref (ad 6), .int (σ.1 4), .int (σ.1 5), .int (σ.1 6), .ref (ad 7), .int (σ.1 7), .ref (ad 8), .ref (ad 9), .ref (ad 10)]) := rfl
theorem oD_0 {cyI cyE : ClassId} {ad : Nat → Nat} {σ : SD} {r : Nat} {v : Int32} (j : Nat) (h : j ≠ r) : cD cyI cyE ad σ j = cD cyI cyE ad (SDi σ 0 r v) j := by
  simp [cD, SDi, u2, h]
theorem oD_e {cyI cyE : ClassId} {ad : Nat → Nat} {σ : SD} {f k : Nat} {v : Int32} (hf : 1 ≤ f ∧ f ≤ 4) (j : Nat) (h : j ≠ 52 + k) : cD cyI cyE ad σ j = cD cyI cyE ad (SDi σ f k v) j := by
  obtain ⟨h1, h2⟩ := hf
  have n0 : ¬ (0 = f) := by omega
  have n5 : ∀ x, 5 ≤ x → ¬ (x = f) := by intro x hx; omega
  by_cases a1 : j < 25
  · simp [cD, SDi, u2, a1, n0]
  by_cases a2 : j < 52
  · simp [cD, SDi, u2, a1, a2]
  by_cases a3 : j < 72
  · have hj : ¬ (j - 52 = k) := by omega
    simp [cD, SDi, u2, a1, a2, a3, hj]
  · have b5 : ¬ (5 = f) := by omega
    have b6 : ¬ (6 = f) := by omega
    have b7 : ¬ (7 = f) := by omega
    have b8 : ¬ (8 = f) := by omega
    have b9 : ¬ (9 = f) := by omega
    have b10 : ¬ (10 = f) := by omega
    have b11 : ¬ (11 = f) := by omega
    have b12 : ¬ (12 = f) := by omega
    have b13 : ¬ (13 = f) := by omega
    have b14 : ¬ (14 = f) := by omega
    simp [cD, SDi, u2, a1, a2, a3, b5, b6, b7, b8, b9, b10, b11, b12, b13, b14]
theorem oD_s {cyI cyE : ClassId} {ad : Nat → Nat} {σ : SD} {f k : Nat} {v : Int32} (hf : 5 ≤ f ∧ f ≤ 5) (j : Nat) (h : j ≠ 75) : cD cyI cyE ad σ j = cD cyI cyE ad (SDi σ f k v) j := by
  have b0 : ¬ (0 = f) := by omega
  have b1 : ¬ (1 = f) := by omega
  have b2 : ¬ (2 = f) := by omega
  have b3 : ¬ (3 = f) := by omega
  have b4 : ¬ (4 = f) := by omega
  have b6 : ¬ (6 = f) := by omega
  have b7 : ¬ (7 = f) := by omega
  have b8 : ¬ (8 = f) := by omega
  have b9 : ¬ (9 = f) := by omega
  have b10 : ¬ (10 = f) := by omega
  have b11 : ¬ (11 = f) := by omega
  have b12 : ¬ (12 = f) := by omega
  have b13 : ¬ (13 = f) := by omega
  have b14 : ¬ (14 = f) := by omega
  simp [cD, SDi, u2, h, b0, b1, b2, b3, b4, b6, b7, b8, b9, b10, b11, b12, b13, b14]
theorem oD_r {cyI cyE : ClassId} {ad : Nat → Nat} {σ : SD} {f k : Nat} {v : Int32} (hf : 6 ≤ f ∧ f ≤ 11) (j : Nat) (h : j ≠ 74) : cD cyI cyE ad σ j = cD cyI cyE ad (SDi σ f k v) j := by
  have b0 : ¬ (0 = f) := by omega
  have b1 : ¬ (1 = f) := by omega
  have b2 : ¬ (2 = f) := by omega
  have b3 : ¬ (3 = f) := by omega
  have b4 : ¬ (4 = f) := by omega
  have b5 : ¬ (5 = f) := by omega
  have b12 : ¬ (12 = f) := by omega
  have b13 : ¬ (13 = f) := by omega
  have b14 : ¬ (14 = f) := by omega
  simp [cD, SDi, u2, h, b0, b1, b2, b3, b4, b5, b12, b13, b14]
theorem oD_h {cyI cyE : ClassId} {ad : Nat → Nat} {σ : SD} {f k : Nat} {v : Int32} (hf : 12 ≤ f ∧ f ≤ 14) (j : Nat) (h : j ≠ 73) : cD cyI cyE ad σ j = cD cyI cyE ad (SDi σ f k v) j := by
  have b0 : ¬ (0 = f) := by omega
  have b1 : ¬ (1 = f) := by omega
  have b2 : ¬ (2 = f) := by omega
  have b3 : ¬ (3 = f) := by omega
  have b4 : ¬ (4 = f) := by omega
  have b5 : ¬ (5 = f) := by omega
  have b6 : ¬ (6 = f) := by omega
  have b7 : ¬ (7 = f) := by omega
  have b8 : ¬ (8 = f) := by omega
  have b9 : ¬ (9 = f) := by omega
  have b10 : ¬ (10 = f) := by omega
  have b11 : ¬ (11 = f) := by omega
  simp [cD, SDi, u2, h, b0, b1, b2, b3, b4, b5, b6, b7, b8, b9, b10, b11]
theorem oD_j {cyI cyE : ClassId} {ad : Nat → Nat} {σ : SD} {f : Nat} {v : Int64} (j : Nat) (h : j ≠ 73) : cD cyI cyE ad σ j = cD cyI cyE ad (SDj σ f v) j := by
  simp [cD, SDj, h]
theorem oD_c {cyI cyE : ClassId} {ad : Nat → Nat} {σ : SD} {a : Nat} {g : Nat → Int32} (j : Nat) (h : j ≠ 25 + a) : cD cyI cyE ad σ j = cD cyI cyE ad (SDc σ a g) j := by
  by_cases a1 : j < 25
  · simp [cD, SDc, a1]
  by_cases a2 : j < 52
  · have hj : ¬ (j - 25 = a) := by omega
    simp [cD, SDc, va_up, a1, a2, hj]
  · simp [cD, SDc, a1, a2]
theorem oD_x {cyI cyE : ClassId} {ad : Nat → Nat} {σ : SD} {k x : Nat} (j : Nat) (h : j ≠ 72) : cD cyI cyE ad σ j = cD cyI cyE ad (SDe σ k x) j := by
  simp [cD, SDe, h]
theorem oM_i {cyI : ClassId} {ad : Nat → Nat} {σ : SM} {f : Nat} {v : Int32} (j : Nat) (hj : j < 12) (h : j ≠ 11) : cM cyI ad σ j = cM cyI ad (SMi σ f v) j := by
  have : j < 11 := by omega
  simp [cM, SMi, this]
theorem oM_c {cyI : ClassId} {ad : Nat → Nat} {σ : SM} {a : Nat} {g : Nat → Int32} (j : Nat) (h : j ≠ a) : cM cyI ad σ j = cM cyI ad (SMc σ a g) j := by
  by_cases a1 : j < 11
  · simp [cM, SMc, va_up, a1, h]
  · simp [cM, SMc, a1]
end
section
section AXF
variable {p : Program} {l : Launch} {e : Env} {R : Room} {s : State} {m : MethodId} {args : Array Value} {below : List Frame} {meth : Method} {c : Code} {H : Heap} {locs : List Loc} {cells slots : Nat} {Q : State → Prop}
variable {dC : Nat → ClassId} {dI : Nat → Nat → Nat} {cyI cyE : ClassId} {tC : Nat} {ad : Nat → Nat}
variable {cc : ByteArray} {nL pc idx : Nat} {ls : Array Slot} {rest : List Value} {Ts : List Cond} {own : String}
theorem g_Row_cells {σ : SD} {r : Nat} (h : r < 25) (C0 : CallFix p m c cc nL s args Ts own) (hT : ∀ w ∈ bw, w ∈ Ts) (hE : ax_env dC dI cyI cyE tC (ax_A 77 ad s.heap.size) s s.heap) (hP : va_P (dC, dI) vwCl (ax_w 77 ad (cD cyI cyE ad σ)) H) (hl : Cond.fieldLink own idx "ArchiveDesk$Row" "cells" "[I" ∈ bw) (hdg : decode cc pc = .ok (.getfield idx, 3)) (kk : W p l e R s m args below meth c H locs cells slots Q (F0 m (pc + 3) ls (.ref (ad (25 + r)) :: rest))) : W p l e R s m args below meth c H locs cells slots Q (F0 m pc ls (.ref (ad r) :: rest)) :=
  va_get (D := (dC, dI)) (ci := 3) (C := RX4) (T := TX4) (N := 2) C0.1 C0.2.1 C0.2.2.2.2 (fun w h9 => hT w (inX4 w h9)) C0.2.2.2.1 hE.1 hP r (ax_at (by omega) (cD_Row h)) rfl 0 (by decide) (C0.2.2.2.2 _ (hT _ hl)) (fun _ h9 => h9) rfl hdg kk
theorem g_Row_size {σ : SD} {r : Nat} (h : r < 25) (C0 : CallFix p m c cc nL s args Ts own) (hT : ∀ w ∈ bw, w ∈ Ts) (hE : ax_env dC dI cyI cyE tC (ax_A 77 ad s.heap.size) s s.heap) (hP : va_P (dC, dI) vwCl (ax_w 77 ad (cD cyI cyE ad σ)) H) (hl : Cond.fieldLink own idx "ArchiveDesk$Row" "size" "I" ∈ bw) (hdg : decode cc pc = .ok (.getfield idx, 3)) (kk : W p l e R s m args below meth c H locs cells slots Q (F0 m (pc + 3) ls (.int (σ.1 0 r) :: rest))) : W p l e R s m args below meth c H locs cells slots Q (F0 m pc ls (.ref (ad r) :: rest)) :=
  va_get (D := (dC, dI)) (ci := 3) (C := RX4) (T := TX4) (N := 2) C0.1 C0.2.1 C0.2.2.2.2 (fun w h9 => hT w (inX4 w h9)) C0.2.2.2.1 hE.1 hP r (ax_at (by omega) (cD_Row h)) rfl 1 (by decide) (C0.2.2.2.2 _ (hT _ hl)) (fun _ h9 => h9) rfl hdg kk
theorem p_Row_size {σ : SD} {r : Nat} (h : r < 25) {v : Int32} (C0 : CallFix p m c cc nL s args Ts own) (hT : ∀ w ∈ bw, w ∈ Ts) (hE : ax_env dC dI cyI cyE tC (ax_A 77 ad s.heap.size) s s.heap) (hJ : ax_J 77 ad) (hP : va_P (dC, dI) vwCl (ax_w 77 ad (cD cyI cyE ad σ)) H) (hS : va_S (ax_A 77 ad s.heap.size) s.heap H locs) (hl : Cond.fieldLink own idx "ArchiveDesk$Row" "size" "I" ∈ bw) (hdg : decode cc pc = .ok (.putfield idx, 3)) (kk : ∀ (H1 : Heap) (locs1 : List Loc), va_P (dC, dI) vwCl (ax_w 77 ad (cD cyI cyE ad (SDi σ 0 r v))) H1 → va_S (ax_A 77 ad s.heap.size) s.heap H1 locs1 → W p l e R s m args below meth c H1 locs1 cells slots Q (F0 m (pc + 3) ls rest)) : W p l e R s m args below meth c H locs cells slots Q (F0 m pc ls (.int v :: .ref (ad r) :: rest)) := by
  refine va_put (D := (dC, dI)) (ci := 3) (ty := .int) (C := RX4) (T := TX4) (N := 2) C0.1 C0.2.1 C0.2.2.2.2 (fun w h9 => hT w (inX4 w h9)) tyX4 tyX4_ok nmX4 C0.2.2.2.1 hE.1 hP (ax_D hJ (fun i hi => ax_Ai hi)) hS r (ax_at (by omega) (cD_Row h)) rfl 1 (by decide) (C0.2.2.2.2 _ (hT _ hl)) (fun _ h9 => h9) rfl (by decide +kernel) rfl rfl (Nat.le_of_ble_eq_true rfl) hdg (fun H1 locs1 hP1 hD1 hS1 => kk H1 locs1 ?_ hS1)
  have e : (ax_w 77 ad (cD cyI cyE ad σ)).set r (ad r, .inr (3, [.ref (ad (25 + r)), .int v])) = ax_w 77 ad (cD cyI cyE ad (SDi σ 0 r v)) := ax_set (by omega) (by rw [cD_Row h]; simp [SDi, SDj, u2, va_up]) (fun j _ hj => oD_0 j hj)
  rw [← e]
  exact hP1
theorem g_Entry_name {σ : SD} {k : Nat} (h : k < 20) (C0 : CallFix p m c cc nL s args Ts own) (hT : ∀ w ∈ bw, w ∈ Ts) (hE : ax_env dC dI cyI cyE tC (ax_A 77 ad s.heap.size) s s.heap) (hP : va_P (dC, dI) vwCl (ax_w 77 ad (cD cyI cyE ad σ)) H) (hl : Cond.fieldLink own idx "ArchiveDesk$Entry" "name" "LArchiveDesk$Row;" ∈ bw) (hdg : decode cc pc = .ok (.getfield idx, 3)) (kk : W p l e R s m args below meth c H locs cells slots Q (F0 m (pc + 3) ls (.ref (ad (5 + k)) :: rest))) : W p l e R s m args below meth c H locs cells slots Q (F0 m pc ls (.ref (ad (52 + k)) :: rest)) :=
  va_get (D := (dC, dI)) (ci := 0) (C := RX1) (T := TX1) (N := 5) C0.1 C0.2.1 C0.2.2.2.2 (fun w h9 => hT w (inX1 w h9)) C0.2.2.2.1 hE.1 hP (52 + k) (ax_at (by omega) (cD_Entry h)) rfl 0 (by decide) (C0.2.2.2.2 _ (hT _ hl)) (fun _ h9 => h9) rfl hdg kk
theorem gN_Entry_name {σ : SD} {k : Nat} (h : k < 20) (C0 : CallFix p m c cc nL s args Ts own) (hT : ∀ w ∈ bw, w ∈ Ts) (hE : ax_env dC dI cyI cyE tC (ax_A 77 ad s.heap.size) s s.heap) (hP : va_P (dC, dI) vwCl (ax_w 77 ad (cD cyI cyE ad σ)) H) (hl : (own, idx, "ArchiveDesk$Entry", "name", "LArchiveDesk$Row;", "ArchiveDesk") ∈ ax_nest) (hdg : decode cc pc = .ok (.getfield idx, 3)) (kk : W p l e R s m args below meth c H locs cells slots Q (F0 m (pc + 3) ls (.ref (ad (5 + k)) :: rest))) : W p l e R s m args below meth c H locs cells slots Q (F0 m pc ls (.ref (ad (52 + k)) :: rest)) :=
  va_getN (host := "ArchiveDesk") (D := (dC, dI)) (ci := 0) (C := RX1) (T := TX1) (N := 5) C0.1 C0.2.1 C0.2.2.2.2 (fun w h9 => hT w (inX1 w h9)) C0.2.2.2.1 hE.1 hP (52 + k) (ax_at (by omega) (cD_Entry h)) rfl 0 (by decide) (va_Nw.use rfl (hE.2.1 _ hl)) (fun _ h9 => h9) rfl hdg kk
theorem g_Entry_start {σ : SD} {k : Nat} (h : k < 20) (C0 : CallFix p m c cc nL s args Ts own) (hT : ∀ w ∈ bw, w ∈ Ts) (hE : ax_env dC dI cyI cyE tC (ax_A 77 ad s.heap.size) s s.heap) (hP : va_P (dC, dI) vwCl (ax_w 77 ad (cD cyI cyE ad σ)) H) (hl : Cond.fieldLink own idx "ArchiveDesk$Entry" "start" "I" ∈ bw) (hdg : decode cc pc = .ok (.getfield idx, 3)) (kk : W p l e R s m args below meth c H locs cells slots Q (F0 m (pc + 3) ls (.int (σ.1 1 k) :: rest))) : W p l e R s m args below meth c H locs cells slots Q (F0 m pc ls (.ref (ad (52 + k)) :: rest)) :=
  va_get (D := (dC, dI)) (ci := 0) (C := RX1) (T := TX1) (N := 5) C0.1 C0.2.1 C0.2.2.2.2 (fun w h9 => hT w (inX1 w h9)) C0.2.2.2.1 hE.1 hP (52 + k) (ax_at (by omega) (cD_Entry h)) rfl 1 (by decide) (C0.2.2.2.2 _ (hT _ hl)) (fun _ h9 => h9) rfl hdg kk
theorem p_Entry_start {σ : SD} {k : Nat} (h : k < 20) {v : Int32} (C0 : CallFix p m c cc nL s args Ts own) (hT : ∀ w ∈ bw, w ∈ Ts) (hE : ax_env dC dI cyI cyE tC (ax_A 77 ad s.heap.size) s s.heap) (hJ : ax_J 77 ad) (hP : va_P (dC, dI) vwCl (ax_w 77 ad (cD cyI cyE ad σ)) H) (hS : va_S (ax_A 77 ad s.heap.size) s.heap H locs) (hl : Cond.fieldLink own idx "ArchiveDesk$Entry" "start" "I" ∈ bw) (hdg : decode cc pc = .ok (.putfield idx, 3)) (kk : ∀ (H1 : Heap) (locs1 : List Loc), va_P (dC, dI) vwCl (ax_w 77 ad (cD cyI cyE ad (SDi σ 1 k v))) H1 → va_S (ax_A 77 ad s.heap.size) s.heap H1 locs1 → W p l e R s m args below meth c H1 locs1 cells slots Q (F0 m (pc + 3) ls rest)) : W p l e R s m args below meth c H locs cells slots Q (F0 m pc ls (.int v :: .ref (ad (52 + k)) :: rest)) := by
  refine va_put (D := (dC, dI)) (ci := 0) (ty := .int) (C := RX1) (T := TX1) (N := 5) C0.1 C0.2.1 C0.2.2.2.2 (fun w h9 => hT w (inX1 w h9)) tyX1 tyX1_ok nmX1 C0.2.2.2.1 hE.1 hP (ax_D hJ (fun i hi => ax_Ai hi)) hS (52 + k) (ax_at (by omega) (cD_Entry h)) rfl 1 (by decide) (C0.2.2.2.2 _ (hT _ hl)) (fun _ h9 => h9) rfl (by decide +kernel) rfl rfl (Nat.le_of_ble_eq_true rfl) hdg (fun H1 locs1 hP1 hD1 hS1 => kk H1 locs1 ?_ hS1)
  have e : (ax_w 77 ad (cD cyI cyE ad σ)).set (52 + k) (ad (52 + k), .inr (0, [.ref (ad (5 + k)), .int v, .int (σ.1 2 k), .int (σ.1 3 k), .int (σ.1 4 k)])) = ax_w 77 ad (cD cyI cyE ad (SDi σ 1 k v)) := ax_set (by omega) (by rw [cD_Entry h]; simp [SDi, SDj, u2, va_up]) (fun j _ hj => oD_e (by decide) j hj)
  rw [← e]
  exact hP1
theorem gN_Entry_start {σ : SD} {k : Nat} (h : k < 20) (C0 : CallFix p m c cc nL s args Ts own) (hT : ∀ w ∈ bw, w ∈ Ts) (hE : ax_env dC dI cyI cyE tC (ax_A 77 ad s.heap.size) s s.heap) (hP : va_P (dC, dI) vwCl (ax_w 77 ad (cD cyI cyE ad σ)) H) (hl : (own, idx, "ArchiveDesk$Entry", "start", "I", "ArchiveDesk") ∈ ax_nest) (hdg : decode cc pc = .ok (.getfield idx, 3)) (kk : W p l e R s m args below meth c H locs cells slots Q (F0 m (pc + 3) ls (.int (σ.1 1 k) :: rest))) : W p l e R s m args below meth c H locs cells slots Q (F0 m pc ls (.ref (ad (52 + k)) :: rest)) :=
  va_getN (host := "ArchiveDesk") (D := (dC, dI)) (ci := 0) (C := RX1) (T := TX1) (N := 5) C0.1 C0.2.1 C0.2.2.2.2 (fun w h9 => hT w (inX1 w h9)) C0.2.2.2.1 hE.1 hP (52 + k) (ax_at (by omega) (cD_Entry h)) rfl 1 (by decide) (va_Nw.use rfl (hE.2.1 _ hl)) (fun _ h9 => h9) rfl hdg kk
theorem pN_Entry_start {σ : SD} {k : Nat} (h : k < 20) {v : Int32} (C0 : CallFix p m c cc nL s args Ts own) (hT : ∀ w ∈ bw, w ∈ Ts) (hE : ax_env dC dI cyI cyE tC (ax_A 77 ad s.heap.size) s s.heap) (hJ : ax_J 77 ad) (hP : va_P (dC, dI) vwCl (ax_w 77 ad (cD cyI cyE ad σ)) H) (hS : va_S (ax_A 77 ad s.heap.size) s.heap H locs) (hl : (own, idx, "ArchiveDesk$Entry", "start", "I", "ArchiveDesk") ∈ ax_nest) (hdg : decode cc pc = .ok (.putfield idx, 3)) (kk : ∀ (H1 : Heap) (locs1 : List Loc), va_P (dC, dI) vwCl (ax_w 77 ad (cD cyI cyE ad (SDi σ 1 k v))) H1 → va_S (ax_A 77 ad s.heap.size) s.heap H1 locs1 → W p l e R s m args below meth c H1 locs1 cells slots Q (F0 m (pc + 3) ls rest)) : W p l e R s m args below meth c H locs cells slots Q (F0 m pc ls (.int v :: .ref (ad (52 + k)) :: rest)) := by
  refine va_putN (host := "ArchiveDesk") (D := (dC, dI)) (ci := 0) (ty := .int) (C := RX1) (T := TX1) (N := 5) C0.1 C0.2.1 C0.2.2.2.2 (fun w h9 => hT w (inX1 w h9)) tyX1 tyX1_ok nmX1 C0.2.2.2.1 hE.1 hP (ax_D hJ (fun i hi => ax_Ai hi)) hS (52 + k) (ax_at (by omega) (cD_Entry h)) rfl 1 (by decide) (va_Nw.use rfl (hE.2.1 _ hl)) (fun _ h9 => h9) rfl (by decide +kernel) rfl rfl (Nat.le_of_ble_eq_true rfl) hdg (fun H1 locs1 hP1 hD1 hS1 => kk H1 locs1 ?_ hS1)
  have e : (ax_w 77 ad (cD cyI cyE ad σ)).set (52 + k) (ad (52 + k), .inr (0, [.ref (ad (5 + k)), .int v, .int (σ.1 2 k), .int (σ.1 3 k), .int (σ.1 4 k)])) = ax_w 77 ad (cD cyI cyE ad (SDi σ 1 k v)) := ax_set (by omega) (by rw [cD_Entry h]; simp [SDi, SDj, u2, va_up]) (fun j _ hj => oD_e (by decide) j hj)
  rw [← e]
  exact hP1
theorem g_Entry_size {σ : SD} {k : Nat} (h : k < 20) (C0 : CallFix p m c cc nL s args Ts own) (hT : ∀ w ∈ bw, w ∈ Ts) (hE : ax_env dC dI cyI cyE tC (ax_A 77 ad s.heap.size) s s.heap) (hP : va_P (dC, dI) vwCl (ax_w 77 ad (cD cyI cyE ad σ)) H) (hl : Cond.fieldLink own idx "ArchiveDesk$Entry" "size" "I" ∈ bw) (hdg : decode cc pc = .ok (.getfield idx, 3)) (kk : W p l e R s m args below meth c H locs cells slots Q (F0 m (pc + 3) ls (.int (σ.1 2 k) :: rest))) : W p l e R s m args below meth c H locs cells slots Q (F0 m pc ls (.ref (ad (52 + k)) :: rest)) :=
  va_get (D := (dC, dI)) (ci := 0) (C := RX1) (T := TX1) (N := 5) C0.1 C0.2.1 C0.2.2.2.2 (fun w h9 => hT w (inX1 w h9)) C0.2.2.2.1 hE.1 hP (52 + k) (ax_at (by omega) (cD_Entry h)) rfl 2 (by decide) (C0.2.2.2.2 _ (hT _ hl)) (fun _ h9 => h9) rfl hdg kk
theorem p_Entry_size {σ : SD} {k : Nat} (h : k < 20) {v : Int32} (C0 : CallFix p m c cc nL s args Ts own) (hT : ∀ w ∈ bw, w ∈ Ts) (hE : ax_env dC dI cyI cyE tC (ax_A 77 ad s.heap.size) s s.heap) (hJ : ax_J 77 ad) (hP : va_P (dC, dI) vwCl (ax_w 77 ad (cD cyI cyE ad σ)) H) (hS : va_S (ax_A 77 ad s.heap.size) s.heap H locs) (hl : Cond.fieldLink own idx "ArchiveDesk$Entry" "size" "I" ∈ bw) (hdg : decode cc pc = .ok (.putfield idx, 3)) (kk : ∀ (H1 : Heap) (locs1 : List Loc), va_P (dC, dI) vwCl (ax_w 77 ad (cD cyI cyE ad (SDi σ 2 k v))) H1 → va_S (ax_A 77 ad s.heap.size) s.heap H1 locs1 → W p l e R s m args below meth c H1 locs1 cells slots Q (F0 m (pc + 3) ls rest)) : W p l e R s m args below meth c H locs cells slots Q (F0 m pc ls (.int v :: .ref (ad (52 + k)) :: rest)) := by
  refine va_put (D := (dC, dI)) (ci := 0) (ty := .int) (C := RX1) (T := TX1) (N := 5) C0.1 C0.2.1 C0.2.2.2.2 (fun w h9 => hT w (inX1 w h9)) tyX1 tyX1_ok nmX1 C0.2.2.2.1 hE.1 hP (ax_D hJ (fun i hi => ax_Ai hi)) hS (52 + k) (ax_at (by omega) (cD_Entry h)) rfl 2 (by decide) (C0.2.2.2.2 _ (hT _ hl)) (fun _ h9 => h9) rfl (by decide +kernel) rfl rfl (Nat.le_of_ble_eq_true rfl) hdg (fun H1 locs1 hP1 hD1 hS1 => kk H1 locs1 ?_ hS1)
  have e : (ax_w 77 ad (cD cyI cyE ad σ)).set (52 + k) (ad (52 + k), .inr (0, [.ref (ad (5 + k)), .int (σ.1 1 k), .int v, .int (σ.1 3 k), .int (σ.1 4 k)])) = ax_w 77 ad (cD cyI cyE ad (SDi σ 2 k v)) := ax_set (by omega) (by rw [cD_Entry h]; simp [SDi, SDj, u2, va_up]) (fun j _ hj => oD_e (by decide) j hj)
  rw [← e]
  exact hP1
theorem gN_Entry_size {σ : SD} {k : Nat} (h : k < 20) (C0 : CallFix p m c cc nL s args Ts own) (hT : ∀ w ∈ bw, w ∈ Ts) (hE : ax_env dC dI cyI cyE tC (ax_A 77 ad s.heap.size) s s.heap) (hP : va_P (dC, dI) vwCl (ax_w 77 ad (cD cyI cyE ad σ)) H) (hl : (own, idx, "ArchiveDesk$Entry", "size", "I", "ArchiveDesk") ∈ ax_nest) (hdg : decode cc pc = .ok (.getfield idx, 3)) (kk : W p l e R s m args below meth c H locs cells slots Q (F0 m (pc + 3) ls (.int (σ.1 2 k) :: rest))) : W p l e R s m args below meth c H locs cells slots Q (F0 m pc ls (.ref (ad (52 + k)) :: rest)) :=
  va_getN (host := "ArchiveDesk") (D := (dC, dI)) (ci := 0) (C := RX1) (T := TX1) (N := 5) C0.1 C0.2.1 C0.2.2.2.2 (fun w h9 => hT w (inX1 w h9)) C0.2.2.2.1 hE.1 hP (52 + k) (ax_at (by omega) (cD_Entry h)) rfl 2 (by decide) (va_Nw.use rfl (hE.2.1 _ hl)) (fun _ h9 => h9) rfl hdg kk
theorem pN_Entry_size {σ : SD} {k : Nat} (h : k < 20) {v : Int32} (C0 : CallFix p m c cc nL s args Ts own) (hT : ∀ w ∈ bw, w ∈ Ts) (hE : ax_env dC dI cyI cyE tC (ax_A 77 ad s.heap.size) s s.heap) (hJ : ax_J 77 ad) (hP : va_P (dC, dI) vwCl (ax_w 77 ad (cD cyI cyE ad σ)) H) (hS : va_S (ax_A 77 ad s.heap.size) s.heap H locs) (hl : (own, idx, "ArchiveDesk$Entry", "size", "I", "ArchiveDesk") ∈ ax_nest) (hdg : decode cc pc = .ok (.putfield idx, 3)) (kk : ∀ (H1 : Heap) (locs1 : List Loc), va_P (dC, dI) vwCl (ax_w 77 ad (cD cyI cyE ad (SDi σ 2 k v))) H1 → va_S (ax_A 77 ad s.heap.size) s.heap H1 locs1 → W p l e R s m args below meth c H1 locs1 cells slots Q (F0 m (pc + 3) ls rest)) : W p l e R s m args below meth c H locs cells slots Q (F0 m pc ls (.int v :: .ref (ad (52 + k)) :: rest)) := by
  refine va_putN (host := "ArchiveDesk") (D := (dC, dI)) (ci := 0) (ty := .int) (C := RX1) (T := TX1) (N := 5) C0.1 C0.2.1 C0.2.2.2.2 (fun w h9 => hT w (inX1 w h9)) tyX1 tyX1_ok nmX1 C0.2.2.2.1 hE.1 hP (ax_D hJ (fun i hi => ax_Ai hi)) hS (52 + k) (ax_at (by omega) (cD_Entry h)) rfl 2 (by decide) (va_Nw.use rfl (hE.2.1 _ hl)) (fun _ h9 => h9) rfl (by decide +kernel) rfl rfl (Nat.le_of_ble_eq_true rfl) hdg (fun H1 locs1 hP1 hD1 hS1 => kk H1 locs1 ?_ hS1)
  have e : (ax_w 77 ad (cD cyI cyE ad σ)).set (52 + k) (ad (52 + k), .inr (0, [.ref (ad (5 + k)), .int (σ.1 1 k), .int v, .int (σ.1 3 k), .int (σ.1 4 k)])) = ax_w 77 ad (cD cyI cyE ad (SDi σ 2 k v)) := ax_set (by omega) (by rw [cD_Entry h]; simp [SDi, SDj, u2, va_up]) (fun j _ hj => oD_e (by decide) j hj)
  rw [← e]
  exact hP1
theorem g_Entry_packed {σ : SD} {k : Nat} (h : k < 20) (C0 : CallFix p m c cc nL s args Ts own) (hT : ∀ w ∈ bw, w ∈ Ts) (hE : ax_env dC dI cyI cyE tC (ax_A 77 ad s.heap.size) s s.heap) (hP : va_P (dC, dI) vwCl (ax_w 77 ad (cD cyI cyE ad σ)) H) (hl : Cond.fieldLink own idx "ArchiveDesk$Entry" "packed" "I" ∈ bw) (hdg : decode cc pc = .ok (.getfield idx, 3)) (kk : W p l e R s m args below meth c H locs cells slots Q (F0 m (pc + 3) ls (.int (σ.1 3 k) :: rest))) : W p l e R s m args below meth c H locs cells slots Q (F0 m pc ls (.ref (ad (52 + k)) :: rest)) :=
  va_get (D := (dC, dI)) (ci := 0) (C := RX1) (T := TX1) (N := 5) C0.1 C0.2.1 C0.2.2.2.2 (fun w h9 => hT w (inX1 w h9)) C0.2.2.2.1 hE.1 hP (52 + k) (ax_at (by omega) (cD_Entry h)) rfl 3 (by decide) (C0.2.2.2.2 _ (hT _ hl)) (fun _ h9 => h9) rfl hdg kk
theorem p_Entry_packed {σ : SD} {k : Nat} (h : k < 20) {v : Int32} (C0 : CallFix p m c cc nL s args Ts own) (hT : ∀ w ∈ bw, w ∈ Ts) (hE : ax_env dC dI cyI cyE tC (ax_A 77 ad s.heap.size) s s.heap) (hJ : ax_J 77 ad) (hP : va_P (dC, dI) vwCl (ax_w 77 ad (cD cyI cyE ad σ)) H) (hS : va_S (ax_A 77 ad s.heap.size) s.heap H locs) (hl : Cond.fieldLink own idx "ArchiveDesk$Entry" "packed" "I" ∈ bw) (hdg : decode cc pc = .ok (.putfield idx, 3)) (kk : ∀ (H1 : Heap) (locs1 : List Loc), va_P (dC, dI) vwCl (ax_w 77 ad (cD cyI cyE ad (SDi σ 3 k v))) H1 → va_S (ax_A 77 ad s.heap.size) s.heap H1 locs1 → W p l e R s m args below meth c H1 locs1 cells slots Q (F0 m (pc + 3) ls rest)) : W p l e R s m args below meth c H locs cells slots Q (F0 m pc ls (.int v :: .ref (ad (52 + k)) :: rest)) := by
  refine va_put (D := (dC, dI)) (ci := 0) (ty := .int) (C := RX1) (T := TX1) (N := 5) C0.1 C0.2.1 C0.2.2.2.2 (fun w h9 => hT w (inX1 w h9)) tyX1 tyX1_ok nmX1 C0.2.2.2.1 hE.1 hP (ax_D hJ (fun i hi => ax_Ai hi)) hS (52 + k) (ax_at (by omega) (cD_Entry h)) rfl 3 (by decide) (C0.2.2.2.2 _ (hT _ hl)) (fun _ h9 => h9) rfl (by decide +kernel) rfl rfl (Nat.le_of_ble_eq_true rfl) hdg (fun H1 locs1 hP1 hD1 hS1 => kk H1 locs1 ?_ hS1)
  have e : (ax_w 77 ad (cD cyI cyE ad σ)).set (52 + k) (ad (52 + k), .inr (0, [.ref (ad (5 + k)), .int (σ.1 1 k), .int (σ.1 2 k), .int v, .int (σ.1 4 k)])) = ax_w 77 ad (cD cyI cyE ad (SDi σ 3 k v)) := ax_set (by omega) (by rw [cD_Entry h]; simp [SDi, SDj, u2, va_up]) (fun j _ hj => oD_e (by decide) j hj)
  rw [← e]
  exact hP1
theorem gN_Entry_packed {σ : SD} {k : Nat} (h : k < 20) (C0 : CallFix p m c cc nL s args Ts own) (hT : ∀ w ∈ bw, w ∈ Ts) (hE : ax_env dC dI cyI cyE tC (ax_A 77 ad s.heap.size) s s.heap) (hP : va_P (dC, dI) vwCl (ax_w 77 ad (cD cyI cyE ad σ)) H) (hl : (own, idx, "ArchiveDesk$Entry", "packed", "I", "ArchiveDesk") ∈ ax_nest) (hdg : decode cc pc = .ok (.getfield idx, 3)) (kk : W p l e R s m args below meth c H locs cells slots Q (F0 m (pc + 3) ls (.int (σ.1 3 k) :: rest))) : W p l e R s m args below meth c H locs cells slots Q (F0 m pc ls (.ref (ad (52 + k)) :: rest)) :=
  va_getN (host := "ArchiveDesk") (D := (dC, dI)) (ci := 0) (C := RX1) (T := TX1) (N := 5) C0.1 C0.2.1 C0.2.2.2.2 (fun w h9 => hT w (inX1 w h9)) C0.2.2.2.1 hE.1 hP (52 + k) (ax_at (by omega) (cD_Entry h)) rfl 3 (by decide) (va_Nw.use rfl (hE.2.1 _ hl)) (fun _ h9 => h9) rfl hdg kk
theorem pN_Entry_packed {σ : SD} {k : Nat} (h : k < 20) {v : Int32} (C0 : CallFix p m c cc nL s args Ts own) (hT : ∀ w ∈ bw, w ∈ Ts) (hE : ax_env dC dI cyI cyE tC (ax_A 77 ad s.heap.size) s s.heap) (hJ : ax_J 77 ad) (hP : va_P (dC, dI) vwCl (ax_w 77 ad (cD cyI cyE ad σ)) H) (hS : va_S (ax_A 77 ad s.heap.size) s.heap H locs) (hl : (own, idx, "ArchiveDesk$Entry", "packed", "I", "ArchiveDesk") ∈ ax_nest) (hdg : decode cc pc = .ok (.putfield idx, 3)) (kk : ∀ (H1 : Heap) (locs1 : List Loc), va_P (dC, dI) vwCl (ax_w 77 ad (cD cyI cyE ad (SDi σ 3 k v))) H1 → va_S (ax_A 77 ad s.heap.size) s.heap H1 locs1 → W p l e R s m args below meth c H1 locs1 cells slots Q (F0 m (pc + 3) ls rest)) : W p l e R s m args below meth c H locs cells slots Q (F0 m pc ls (.int v :: .ref (ad (52 + k)) :: rest)) := by
  refine va_putN (host := "ArchiveDesk") (D := (dC, dI)) (ci := 0) (ty := .int) (C := RX1) (T := TX1) (N := 5) C0.1 C0.2.1 C0.2.2.2.2 (fun w h9 => hT w (inX1 w h9)) tyX1 tyX1_ok nmX1 C0.2.2.2.1 hE.1 hP (ax_D hJ (fun i hi => ax_Ai hi)) hS (52 + k) (ax_at (by omega) (cD_Entry h)) rfl 3 (by decide) (va_Nw.use rfl (hE.2.1 _ hl)) (fun _ h9 => h9) rfl (by decide +kernel) rfl rfl (Nat.le_of_ble_eq_true rfl) hdg (fun H1 locs1 hP1 hD1 hS1 => kk H1 locs1 ?_ hS1)
  have e : (ax_w 77 ad (cD cyI cyE ad σ)).set (52 + k) (ad (52 + k), .inr (0, [.ref (ad (5 + k)), .int (σ.1 1 k), .int (σ.1 2 k), .int v, .int (σ.1 4 k)])) = ax_w 77 ad (cD cyI cyE ad (SDi σ 3 k v)) := ax_set (by omega) (by rw [cD_Entry h]; simp [SDi, SDj, u2, va_up]) (fun j _ hj => oD_e (by decide) j hj)
  rw [← e]
  exact hP1
theorem g_Entry_crc {σ : SD} {k : Nat} (h : k < 20) (C0 : CallFix p m c cc nL s args Ts own) (hT : ∀ w ∈ bw, w ∈ Ts) (hE : ax_env dC dI cyI cyE tC (ax_A 77 ad s.heap.size) s s.heap) (hP : va_P (dC, dI) vwCl (ax_w 77 ad (cD cyI cyE ad σ)) H) (hl : Cond.fieldLink own idx "ArchiveDesk$Entry" "crc" "I" ∈ bw) (hdg : decode cc pc = .ok (.getfield idx, 3)) (kk : W p l e R s m args below meth c H locs cells slots Q (F0 m (pc + 3) ls (.int (σ.1 4 k) :: rest))) : W p l e R s m args below meth c H locs cells slots Q (F0 m pc ls (.ref (ad (52 + k)) :: rest)) :=
  va_get (D := (dC, dI)) (ci := 0) (C := RX1) (T := TX1) (N := 5) C0.1 C0.2.1 C0.2.2.2.2 (fun w h9 => hT w (inX1 w h9)) C0.2.2.2.1 hE.1 hP (52 + k) (ax_at (by omega) (cD_Entry h)) rfl 4 (by decide) (C0.2.2.2.2 _ (hT _ hl)) (fun _ h9 => h9) rfl hdg kk
theorem p_Entry_crc {σ : SD} {k : Nat} (h : k < 20) {v : Int32} (C0 : CallFix p m c cc nL s args Ts own) (hT : ∀ w ∈ bw, w ∈ Ts) (hE : ax_env dC dI cyI cyE tC (ax_A 77 ad s.heap.size) s s.heap) (hJ : ax_J 77 ad) (hP : va_P (dC, dI) vwCl (ax_w 77 ad (cD cyI cyE ad σ)) H) (hS : va_S (ax_A 77 ad s.heap.size) s.heap H locs) (hl : Cond.fieldLink own idx "ArchiveDesk$Entry" "crc" "I" ∈ bw) (hdg : decode cc pc = .ok (.putfield idx, 3)) (kk : ∀ (H1 : Heap) (locs1 : List Loc), va_P (dC, dI) vwCl (ax_w 77 ad (cD cyI cyE ad (SDi σ 4 k v))) H1 → va_S (ax_A 77 ad s.heap.size) s.heap H1 locs1 → W p l e R s m args below meth c H1 locs1 cells slots Q (F0 m (pc + 3) ls rest)) : W p l e R s m args below meth c H locs cells slots Q (F0 m pc ls (.int v :: .ref (ad (52 + k)) :: rest)) := by
  refine va_put (D := (dC, dI)) (ci := 0) (ty := .int) (C := RX1) (T := TX1) (N := 5) C0.1 C0.2.1 C0.2.2.2.2 (fun w h9 => hT w (inX1 w h9)) tyX1 tyX1_ok nmX1 C0.2.2.2.1 hE.1 hP (ax_D hJ (fun i hi => ax_Ai hi)) hS (52 + k) (ax_at (by omega) (cD_Entry h)) rfl 4 (by decide) (C0.2.2.2.2 _ (hT _ hl)) (fun _ h9 => h9) rfl (by decide +kernel) rfl rfl (Nat.le_of_ble_eq_true rfl) hdg (fun H1 locs1 hP1 hD1 hS1 => kk H1 locs1 ?_ hS1)
  have e : (ax_w 77 ad (cD cyI cyE ad σ)).set (52 + k) (ad (52 + k), .inr (0, [.ref (ad (5 + k)), .int (σ.1 1 k), .int (σ.1 2 k), .int (σ.1 3 k), .int v])) = ax_w 77 ad (cD cyI cyE ad (SDi σ 4 k v)) := ax_set (by omega) (by rw [cD_Entry h]; simp [SDi, SDj, u2, va_up]) (fun j _ hj => oD_e (by decide) j hj)
  rw [← e]
  exact hP1
theorem gN_Entry_crc {σ : SD} {k : Nat} (h : k < 20) (C0 : CallFix p m c cc nL s args Ts own) (hT : ∀ w ∈ bw, w ∈ Ts) (hE : ax_env dC dI cyI cyE tC (ax_A 77 ad s.heap.size) s s.heap) (hP : va_P (dC, dI) vwCl (ax_w 77 ad (cD cyI cyE ad σ)) H) (hl : (own, idx, "ArchiveDesk$Entry", "crc", "I", "ArchiveDesk") ∈ ax_nest) (hdg : decode cc pc = .ok (.getfield idx, 3)) (kk : W p l e R s m args below meth c H locs cells slots Q (F0 m (pc + 3) ls (.int (σ.1 4 k) :: rest))) : W p l e R s m args below meth c H locs cells slots Q (F0 m pc ls (.ref (ad (52 + k)) :: rest)) :=
  va_getN (host := "ArchiveDesk") (D := (dC, dI)) (ci := 0) (C := RX1) (T := TX1) (N := 5) C0.1 C0.2.1 C0.2.2.2.2 (fun w h9 => hT w (inX1 w h9)) C0.2.2.2.1 hE.1 hP (52 + k) (ax_at (by omega) (cD_Entry h)) rfl 4 (by decide) (va_Nw.use rfl (hE.2.1 _ hl)) (fun _ h9 => h9) rfl hdg kk
theorem pN_Entry_crc {σ : SD} {k : Nat} (h : k < 20) {v : Int32} (C0 : CallFix p m c cc nL s args Ts own) (hT : ∀ w ∈ bw, w ∈ Ts) (hE : ax_env dC dI cyI cyE tC (ax_A 77 ad s.heap.size) s s.heap) (hJ : ax_J 77 ad) (hP : va_P (dC, dI) vwCl (ax_w 77 ad (cD cyI cyE ad σ)) H) (hS : va_S (ax_A 77 ad s.heap.size) s.heap H locs) (hl : (own, idx, "ArchiveDesk$Entry", "crc", "I", "ArchiveDesk") ∈ ax_nest) (hdg : decode cc pc = .ok (.putfield idx, 3)) (kk : ∀ (H1 : Heap) (locs1 : List Loc), va_P (dC, dI) vwCl (ax_w 77 ad (cD cyI cyE ad (SDi σ 4 k v))) H1 → va_S (ax_A 77 ad s.heap.size) s.heap H1 locs1 → W p l e R s m args below meth c H1 locs1 cells slots Q (F0 m (pc + 3) ls rest)) : W p l e R s m args below meth c H locs cells slots Q (F0 m pc ls (.int v :: .ref (ad (52 + k)) :: rest)) := by
  refine va_putN (host := "ArchiveDesk") (D := (dC, dI)) (ci := 0) (ty := .int) (C := RX1) (T := TX1) (N := 5) C0.1 C0.2.1 C0.2.2.2.2 (fun w h9 => hT w (inX1 w h9)) tyX1 tyX1_ok nmX1 C0.2.2.2.1 hE.1 hP (ax_D hJ (fun i hi => ax_Ai hi)) hS (52 + k) (ax_at (by omega) (cD_Entry h)) rfl 4 (by decide) (va_Nw.use rfl (hE.2.1 _ hl)) (fun _ h9 => h9) rfl (by decide +kernel) rfl rfl (Nat.le_of_ble_eq_true rfl) hdg (fun H1 locs1 hP1 hD1 hS1 => kk H1 locs1 ?_ hS1)
  have e : (ax_w 77 ad (cD cyI cyE ad σ)).set (52 + k) (ad (52 + k), .inr (0, [.ref (ad (5 + k)), .int (σ.1 1 k), .int (σ.1 2 k), .int (σ.1 3 k), .int v])) = ax_w 77 ad (cD cyI cyE ad (SDi σ 4 k v)) := ax_set (by omega) (by rw [cD_Entry h]; simp [SDi, SDj, u2, va_up]) (fun j _ hj => oD_e (by decide) j hj)
  rw [← e]
  exact hP1
theorem g_Header_method {σ : SD} (C0 : CallFix p m c cc nL s args Ts own) (hT : ∀ w ∈ bw, w ∈ Ts) (hE : ax_env dC dI cyI cyE tC (ax_A 77 ad s.heap.size) s s.heap) (hP : va_P (dC, dI) vwCl (ax_w 77 ad (cD cyI cyE ad σ)) H) (hl : Cond.fieldLink own idx "ArchiveDesk$Header" "method" "I" ∈ bw) (hdg : decode cc pc = .ok (.getfield idx, 3)) (kk : W p l e R s m args below meth c H locs cells slots Q (F0 m (pc + 3) ls (.int (σ.1 12 0) :: rest))) : W p l e R s m args below meth c H locs cells slots Q (F0 m pc ls (.ref (ad 73) :: rest)) :=
  va_get (D := (dC, dI)) (ci := 1) (C := RX2) (T := TX2) (N := 5) C0.1 C0.2.1 C0.2.2.2.2 (fun w h9 => hT w (inX2 w h9)) C0.2.2.2.1 hE.1 hP 73 (ax_at (by decide) (cD_Header)) rfl 0 (by decide) (C0.2.2.2.2 _ (hT _ hl)) (fun _ h9 => h9) rfl hdg kk
theorem p_Header_method {σ : SD} {v : Int32} (C0 : CallFix p m c cc nL s args Ts own) (hT : ∀ w ∈ bw, w ∈ Ts) (hE : ax_env dC dI cyI cyE tC (ax_A 77 ad s.heap.size) s s.heap) (hJ : ax_J 77 ad) (hP : va_P (dC, dI) vwCl (ax_w 77 ad (cD cyI cyE ad σ)) H) (hS : va_S (ax_A 77 ad s.heap.size) s.heap H locs) (hl : Cond.fieldLink own idx "ArchiveDesk$Header" "method" "I" ∈ bw) (hdg : decode cc pc = .ok (.putfield idx, 3)) (kk : ∀ (H1 : Heap) (locs1 : List Loc), va_P (dC, dI) vwCl (ax_w 77 ad (cD cyI cyE ad (SDi σ 12 0 v))) H1 → va_S (ax_A 77 ad s.heap.size) s.heap H1 locs1 → W p l e R s m args below meth c H1 locs1 cells slots Q (F0 m (pc + 3) ls rest)) : W p l e R s m args below meth c H locs cells slots Q (F0 m pc ls (.int v :: .ref (ad 73) :: rest)) := by
  refine va_put (D := (dC, dI)) (ci := 1) (ty := .int) (C := RX2) (T := TX2) (N := 5) C0.1 C0.2.1 C0.2.2.2.2 (fun w h9 => hT w (inX2 w h9)) tyX2 tyX2_ok nmX2 C0.2.2.2.1 hE.1 hP (ax_D hJ (fun i hi => ax_Ai hi)) hS 73 (ax_at (by decide) (cD_Header)) rfl 0 (by decide) (C0.2.2.2.2 _ (hT _ hl)) (fun _ h9 => h9) rfl (by decide +kernel) rfl rfl (Nat.le_of_ble_eq_true rfl) hdg (fun H1 locs1 hP1 hD1 hS1 => kk H1 locs1 ?_ hS1)
  have e : (ax_w 77 ad (cD cyI cyE ad σ)).set 73 (ad 73, .inr (1, [.int v, .int (σ.1 13 0), .long (σ.2.1 0), .long (σ.2.1 1), .int (σ.1 14 0)])) = ax_w 77 ad (cD cyI cyE ad (SDi σ 12 0 v)) := ax_set (by decide) (by rw [cD_Header]; simp [SDi, SDj, u2, va_up]) (fun j _ hj => oD_h (by decide) j hj)
  rw [← e]
  exact hP1
theorem gN_Header_method {σ : SD} (C0 : CallFix p m c cc nL s args Ts own) (hT : ∀ w ∈ bw, w ∈ Ts) (hE : ax_env dC dI cyI cyE tC (ax_A 77 ad s.heap.size) s s.heap) (hP : va_P (dC, dI) vwCl (ax_w 77 ad (cD cyI cyE ad σ)) H) (hl : (own, idx, "ArchiveDesk$Header", "method", "I", "ArchiveDesk") ∈ ax_nest) (hdg : decode cc pc = .ok (.getfield idx, 3)) (kk : W p l e R s m args below meth c H locs cells slots Q (F0 m (pc + 3) ls (.int (σ.1 12 0) :: rest))) : W p l e R s m args below meth c H locs cells slots Q (F0 m pc ls (.ref (ad 73) :: rest)) :=
  va_getN (host := "ArchiveDesk") (D := (dC, dI)) (ci := 1) (C := RX2) (T := TX2) (N := 5) C0.1 C0.2.1 C0.2.2.2.2 (fun w h9 => hT w (inX2 w h9)) C0.2.2.2.1 hE.1 hP 73 (ax_at (by decide) (cD_Header)) rfl 0 (by decide) (va_Nw.use rfl (hE.2.1 _ hl)) (fun _ h9 => h9) rfl hdg kk
theorem pN_Header_method {σ : SD} {v : Int32} (C0 : CallFix p m c cc nL s args Ts own) (hT : ∀ w ∈ bw, w ∈ Ts) (hE : ax_env dC dI cyI cyE tC (ax_A 77 ad s.heap.size) s s.heap) (hJ : ax_J 77 ad) (hP : va_P (dC, dI) vwCl (ax_w 77 ad (cD cyI cyE ad σ)) H) (hS : va_S (ax_A 77 ad s.heap.size) s.heap H locs) (hl : (own, idx, "ArchiveDesk$Header", "method", "I", "ArchiveDesk") ∈ ax_nest) (hdg : decode cc pc = .ok (.putfield idx, 3)) (kk : ∀ (H1 : Heap) (locs1 : List Loc), va_P (dC, dI) vwCl (ax_w 77 ad (cD cyI cyE ad (SDi σ 12 0 v))) H1 → va_S (ax_A 77 ad s.heap.size) s.heap H1 locs1 → W p l e R s m args below meth c H1 locs1 cells slots Q (F0 m (pc + 3) ls rest)) : W p l e R s m args below meth c H locs cells slots Q (F0 m pc ls (.int v :: .ref (ad 73) :: rest)) := by
  refine va_putN (host := "ArchiveDesk") (D := (dC, dI)) (ci := 1) (ty := .int) (C := RX2) (T := TX2) (N := 5) C0.1 C0.2.1 C0.2.2.2.2 (fun w h9 => hT w (inX2 w h9)) tyX2 tyX2_ok nmX2 C0.2.2.2.1 hE.1 hP (ax_D hJ (fun i hi => ax_Ai hi)) hS 73 (ax_at (by decide) (cD_Header)) rfl 0 (by decide) (va_Nw.use rfl (hE.2.1 _ hl)) (fun _ h9 => h9) rfl (by decide +kernel) rfl rfl (Nat.le_of_ble_eq_true rfl) hdg (fun H1 locs1 hP1 hD1 hS1 => kk H1 locs1 ?_ hS1)
  have e : (ax_w 77 ad (cD cyI cyE ad σ)).set 73 (ad 73, .inr (1, [.int v, .int (σ.1 13 0), .long (σ.2.1 0), .long (σ.2.1 1), .int (σ.1 14 0)])) = ax_w 77 ad (cD cyI cyE ad (SDi σ 12 0 v)) := ax_set (by decide) (by rw [cD_Header]; simp [SDi, SDj, u2, va_up]) (fun j _ hj => oD_h (by decide) j hj)
  rw [← e]
  exact hP1
theorem g_Header_crc {σ : SD} (C0 : CallFix p m c cc nL s args Ts own) (hT : ∀ w ∈ bw, w ∈ Ts) (hE : ax_env dC dI cyI cyE tC (ax_A 77 ad s.heap.size) s s.heap) (hP : va_P (dC, dI) vwCl (ax_w 77 ad (cD cyI cyE ad σ)) H) (hl : Cond.fieldLink own idx "ArchiveDesk$Header" "crc" "I" ∈ bw) (hdg : decode cc pc = .ok (.getfield idx, 3)) (kk : W p l e R s m args below meth c H locs cells slots Q (F0 m (pc + 3) ls (.int (σ.1 13 0) :: rest))) : W p l e R s m args below meth c H locs cells slots Q (F0 m pc ls (.ref (ad 73) :: rest)) :=
  va_get (D := (dC, dI)) (ci := 1) (C := RX2) (T := TX2) (N := 5) C0.1 C0.2.1 C0.2.2.2.2 (fun w h9 => hT w (inX2 w h9)) C0.2.2.2.1 hE.1 hP 73 (ax_at (by decide) (cD_Header)) rfl 1 (by decide) (C0.2.2.2.2 _ (hT _ hl)) (fun _ h9 => h9) rfl hdg kk
theorem p_Header_crc {σ : SD} {v : Int32} (C0 : CallFix p m c cc nL s args Ts own) (hT : ∀ w ∈ bw, w ∈ Ts) (hE : ax_env dC dI cyI cyE tC (ax_A 77 ad s.heap.size) s s.heap) (hJ : ax_J 77 ad) (hP : va_P (dC, dI) vwCl (ax_w 77 ad (cD cyI cyE ad σ)) H) (hS : va_S (ax_A 77 ad s.heap.size) s.heap H locs) (hl : Cond.fieldLink own idx "ArchiveDesk$Header" "crc" "I" ∈ bw) (hdg : decode cc pc = .ok (.putfield idx, 3)) (kk : ∀ (H1 : Heap) (locs1 : List Loc), va_P (dC, dI) vwCl (ax_w 77 ad (cD cyI cyE ad (SDi σ 13 0 v))) H1 → va_S (ax_A 77 ad s.heap.size) s.heap H1 locs1 → W p l e R s m args below meth c H1 locs1 cells slots Q (F0 m (pc + 3) ls rest)) : W p l e R s m args below meth c H locs cells slots Q (F0 m pc ls (.int v :: .ref (ad 73) :: rest)) := by
  refine va_put (D := (dC, dI)) (ci := 1) (ty := .int) (C := RX2) (T := TX2) (N := 5) C0.1 C0.2.1 C0.2.2.2.2 (fun w h9 => hT w (inX2 w h9)) tyX2 tyX2_ok nmX2 C0.2.2.2.1 hE.1 hP (ax_D hJ (fun i hi => ax_Ai hi)) hS 73 (ax_at (by decide) (cD_Header)) rfl 1 (by decide) (C0.2.2.2.2 _ (hT _ hl)) (fun _ h9 => h9) rfl (by decide +kernel) rfl rfl (Nat.le_of_ble_eq_true rfl) hdg (fun H1 locs1 hP1 hD1 hS1 => kk H1 locs1 ?_ hS1)
  have e : (ax_w 77 ad (cD cyI cyE ad σ)).set 73 (ad 73, .inr (1, [.int (σ.1 12 0), .int v, .long (σ.2.1 0), .long (σ.2.1 1), .int (σ.1 14 0)])) = ax_w 77 ad (cD cyI cyE ad (SDi σ 13 0 v)) := ax_set (by decide) (by rw [cD_Header]; simp [SDi, SDj, u2, va_up]) (fun j _ hj => oD_h (by decide) j hj)
  rw [← e]
  exact hP1
theorem gN_Header_crc {σ : SD} (C0 : CallFix p m c cc nL s args Ts own) (hT : ∀ w ∈ bw, w ∈ Ts) (hE : ax_env dC dI cyI cyE tC (ax_A 77 ad s.heap.size) s s.heap) (hP : va_P (dC, dI) vwCl (ax_w 77 ad (cD cyI cyE ad σ)) H) (hl : (own, idx, "ArchiveDesk$Header", "crc", "I", "ArchiveDesk") ∈ ax_nest) (hdg : decode cc pc = .ok (.getfield idx, 3)) (kk : W p l e R s m args below meth c H locs cells slots Q (F0 m (pc + 3) ls (.int (σ.1 13 0) :: rest))) : W p l e R s m args below meth c H locs cells slots Q (F0 m pc ls (.ref (ad 73) :: rest)) :=
  va_getN (host := "ArchiveDesk") (D := (dC, dI)) (ci := 1) (C := RX2) (T := TX2) (N := 5) C0.1 C0.2.1 C0.2.2.2.2 (fun w h9 => hT w (inX2 w h9)) C0.2.2.2.1 hE.1 hP 73 (ax_at (by decide) (cD_Header)) rfl 1 (by decide) (va_Nw.use rfl (hE.2.1 _ hl)) (fun _ h9 => h9) rfl hdg kk
theorem pN_Header_crc {σ : SD} {v : Int32} (C0 : CallFix p m c cc nL s args Ts own) (hT : ∀ w ∈ bw, w ∈ Ts) (hE : ax_env dC dI cyI cyE tC (ax_A 77 ad s.heap.size) s s.heap) (hJ : ax_J 77 ad) (hP : va_P (dC, dI) vwCl (ax_w 77 ad (cD cyI cyE ad σ)) H) (hS : va_S (ax_A 77 ad s.heap.size) s.heap H locs) (hl : (own, idx, "ArchiveDesk$Header", "crc", "I", "ArchiveDesk") ∈ ax_nest) (hdg : decode cc pc = .ok (.putfield idx, 3)) (kk : ∀ (H1 : Heap) (locs1 : List Loc), va_P (dC, dI) vwCl (ax_w 77 ad (cD cyI cyE ad (SDi σ 13 0 v))) H1 → va_S (ax_A 77 ad s.heap.size) s.heap H1 locs1 → W p l e R s m args below meth c H1 locs1 cells slots Q (F0 m (pc + 3) ls rest)) : W p l e R s m args below meth c H locs cells slots Q (F0 m pc ls (.int v :: .ref (ad 73) :: rest)) := by
  refine va_putN (host := "ArchiveDesk") (D := (dC, dI)) (ci := 1) (ty := .int) (C := RX2) (T := TX2) (N := 5) C0.1 C0.2.1 C0.2.2.2.2 (fun w h9 => hT w (inX2 w h9)) tyX2 tyX2_ok nmX2 C0.2.2.2.1 hE.1 hP (ax_D hJ (fun i hi => ax_Ai hi)) hS 73 (ax_at (by decide) (cD_Header)) rfl 1 (by decide) (va_Nw.use rfl (hE.2.1 _ hl)) (fun _ h9 => h9) rfl (by decide +kernel) rfl rfl (Nat.le_of_ble_eq_true rfl) hdg (fun H1 locs1 hP1 hD1 hS1 => kk H1 locs1 ?_ hS1)
  have e : (ax_w 77 ad (cD cyI cyE ad σ)).set 73 (ad 73, .inr (1, [.int (σ.1 12 0), .int v, .long (σ.2.1 0), .long (σ.2.1 1), .int (σ.1 14 0)])) = ax_w 77 ad (cD cyI cyE ad (SDi σ 13 0 v)) := ax_set (by decide) (by rw [cD_Header]; simp [SDi, SDj, u2, va_up]) (fun j _ hj => oD_h (by decide) j hj)
  rw [← e]
  exact hP1
theorem g_Header_packed {σ : SD} (C0 : CallFix p m c cc nL s args Ts own) (hT : ∀ w ∈ bw, w ∈ Ts) (hE : ax_env dC dI cyI cyE tC (ax_A 77 ad s.heap.size) s s.heap) (hP : va_P (dC, dI) vwCl (ax_w 77 ad (cD cyI cyE ad σ)) H) (hl : Cond.fieldLink own idx "ArchiveDesk$Header" "packed" "J" ∈ bw) (hdg : decode cc pc = .ok (.getfield idx, 3)) (kk : W p l e R s m args below meth c H locs cells slots Q (F0 m (pc + 3) ls (.long (σ.2.1 0) :: rest))) : W p l e R s m args below meth c H locs cells slots Q (F0 m pc ls (.ref (ad 73) :: rest)) :=
  va_get (D := (dC, dI)) (ci := 1) (C := RX2) (T := TX2) (N := 5) C0.1 C0.2.1 C0.2.2.2.2 (fun w h9 => hT w (inX2 w h9)) C0.2.2.2.1 hE.1 hP 73 (ax_at (by decide) (cD_Header)) rfl 2 (by decide) (C0.2.2.2.2 _ (hT _ hl)) (fun _ h9 => h9) rfl hdg kk
theorem p_Header_packed {σ : SD} {v : Int64} (C0 : CallFix p m c cc nL s args Ts own) (hT : ∀ w ∈ bw, w ∈ Ts) (hE : ax_env dC dI cyI cyE tC (ax_A 77 ad s.heap.size) s s.heap) (hJ : ax_J 77 ad) (hP : va_P (dC, dI) vwCl (ax_w 77 ad (cD cyI cyE ad σ)) H) (hS : va_S (ax_A 77 ad s.heap.size) s.heap H locs) (hl : Cond.fieldLink own idx "ArchiveDesk$Header" "packed" "J" ∈ bw) (hdg : decode cc pc = .ok (.putfield idx, 3)) (kk : ∀ (H1 : Heap) (locs1 : List Loc), va_P (dC, dI) vwCl (ax_w 77 ad (cD cyI cyE ad (SDj σ 0 v))) H1 → va_S (ax_A 77 ad s.heap.size) s.heap H1 locs1 → W p l e R s m args below meth c H1 locs1 cells slots Q (F0 m (pc + 3) ls rest)) : W p l e R s m args below meth c H locs cells slots Q (F0 m pc ls (.long v :: .ref (ad 73) :: rest)) := by
  refine va_put (D := (dC, dI)) (ci := 1) (ty := .long) (C := RX2) (T := TX2) (N := 5) C0.1 C0.2.1 C0.2.2.2.2 (fun w h9 => hT w (inX2 w h9)) tyX2 tyX2_ok nmX2 C0.2.2.2.1 hE.1 hP (ax_D hJ (fun i hi => ax_Ai hi)) hS 73 (ax_at (by decide) (cD_Header)) rfl 2 (by decide) (C0.2.2.2.2 _ (hT _ hl)) (fun _ h9 => h9) rfl (by decide +kernel) rfl rfl (Nat.le_of_ble_eq_true rfl) hdg (fun H1 locs1 hP1 hD1 hS1 => kk H1 locs1 ?_ hS1)
  have e : (ax_w 77 ad (cD cyI cyE ad σ)).set 73 (ad 73, .inr (1, [.int (σ.1 12 0), .int (σ.1 13 0), .long v, .long (σ.2.1 1), .int (σ.1 14 0)])) = ax_w 77 ad (cD cyI cyE ad (SDj σ 0 v)) := ax_set (by decide) (by rw [cD_Header]; simp [SDi, SDj, u2, va_up]) (fun j _ hj => oD_j j hj)
  rw [← e]
  exact hP1
theorem gN_Header_packed {σ : SD} (C0 : CallFix p m c cc nL s args Ts own) (hT : ∀ w ∈ bw, w ∈ Ts) (hE : ax_env dC dI cyI cyE tC (ax_A 77 ad s.heap.size) s s.heap) (hP : va_P (dC, dI) vwCl (ax_w 77 ad (cD cyI cyE ad σ)) H) (hl : (own, idx, "ArchiveDesk$Header", "packed", "J", "ArchiveDesk") ∈ ax_nest) (hdg : decode cc pc = .ok (.getfield idx, 3)) (kk : W p l e R s m args below meth c H locs cells slots Q (F0 m (pc + 3) ls (.long (σ.2.1 0) :: rest))) : W p l e R s m args below meth c H locs cells slots Q (F0 m pc ls (.ref (ad 73) :: rest)) :=
  va_getN (host := "ArchiveDesk") (D := (dC, dI)) (ci := 1) (C := RX2) (T := TX2) (N := 5) C0.1 C0.2.1 C0.2.2.2.2 (fun w h9 => hT w (inX2 w h9)) C0.2.2.2.1 hE.1 hP 73 (ax_at (by decide) (cD_Header)) rfl 2 (by decide) (va_Nw.use rfl (hE.2.1 _ hl)) (fun _ h9 => h9) rfl hdg kk
theorem pN_Header_packed {σ : SD} {v : Int64} (C0 : CallFix p m c cc nL s args Ts own) (hT : ∀ w ∈ bw, w ∈ Ts) (hE : ax_env dC dI cyI cyE tC (ax_A 77 ad s.heap.size) s s.heap) (hJ : ax_J 77 ad) (hP : va_P (dC, dI) vwCl (ax_w 77 ad (cD cyI cyE ad σ)) H) (hS : va_S (ax_A 77 ad s.heap.size) s.heap H locs) (hl : (own, idx, "ArchiveDesk$Header", "packed", "J", "ArchiveDesk") ∈ ax_nest) (hdg : decode cc pc = .ok (.putfield idx, 3)) (kk : ∀ (H1 : Heap) (locs1 : List Loc), va_P (dC, dI) vwCl (ax_w 77 ad (cD cyI cyE ad (SDj σ 0 v))) H1 → va_S (ax_A 77 ad s.heap.size) s.heap H1 locs1 → W p l e R s m args below meth c H1 locs1 cells slots Q (F0 m (pc + 3) ls rest)) : W p l e R s m args below meth c H locs cells slots Q (F0 m pc ls (.long v :: .ref (ad 73) :: rest)) := by
  refine va_putN (host := "ArchiveDesk") (D := (dC, dI)) (ci := 1) (ty := .long) (C := RX2) (T := TX2) (N := 5) C0.1 C0.2.1 C0.2.2.2.2 (fun w h9 => hT w (inX2 w h9)) tyX2 tyX2_ok nmX2 C0.2.2.2.1 hE.1 hP (ax_D hJ (fun i hi => ax_Ai hi)) hS 73 (ax_at (by decide) (cD_Header)) rfl 2 (by decide) (va_Nw.use rfl (hE.2.1 _ hl)) (fun _ h9 => h9) rfl (by decide +kernel) rfl rfl (Nat.le_of_ble_eq_true rfl) hdg (fun H1 locs1 hP1 hD1 hS1 => kk H1 locs1 ?_ hS1)
  have e : (ax_w 77 ad (cD cyI cyE ad σ)).set 73 (ad 73, .inr (1, [.int (σ.1 12 0), .int (σ.1 13 0), .long v, .long (σ.2.1 1), .int (σ.1 14 0)])) = ax_w 77 ad (cD cyI cyE ad (SDj σ 0 v)) := ax_set (by decide) (by rw [cD_Header]; simp [SDi, SDj, u2, va_up]) (fun j _ hj => oD_j j hj)
  rw [← e]
  exact hP1
theorem g_Header_size {σ : SD} (C0 : CallFix p m c cc nL s args Ts own) (hT : ∀ w ∈ bw, w ∈ Ts) (hE : ax_env dC dI cyI cyE tC (ax_A 77 ad s.heap.size) s s.heap) (hP : va_P (dC, dI) vwCl (ax_w 77 ad (cD cyI cyE ad σ)) H) (hl : Cond.fieldLink own idx "ArchiveDesk$Header" "size" "J" ∈ bw) (hdg : decode cc pc = .ok (.getfield idx, 3)) (kk : W p l e R s m args below meth c H locs cells slots Q (F0 m (pc + 3) ls (.long (σ.2.1 1) :: rest))) : W p l e R s m args below meth c H locs cells slots Q (F0 m pc ls (.ref (ad 73) :: rest)) :=
  va_get (D := (dC, dI)) (ci := 1) (C := RX2) (T := TX2) (N := 5) C0.1 C0.2.1 C0.2.2.2.2 (fun w h9 => hT w (inX2 w h9)) C0.2.2.2.1 hE.1 hP 73 (ax_at (by decide) (cD_Header)) rfl 3 (by decide) (C0.2.2.2.2 _ (hT _ hl)) (fun _ h9 => h9) rfl hdg kk
theorem p_Header_size {σ : SD} {v : Int64} (C0 : CallFix p m c cc nL s args Ts own) (hT : ∀ w ∈ bw, w ∈ Ts) (hE : ax_env dC dI cyI cyE tC (ax_A 77 ad s.heap.size) s s.heap) (hJ : ax_J 77 ad) (hP : va_P (dC, dI) vwCl (ax_w 77 ad (cD cyI cyE ad σ)) H) (hS : va_S (ax_A 77 ad s.heap.size) s.heap H locs) (hl : Cond.fieldLink own idx "ArchiveDesk$Header" "size" "J" ∈ bw) (hdg : decode cc pc = .ok (.putfield idx, 3)) (kk : ∀ (H1 : Heap) (locs1 : List Loc), va_P (dC, dI) vwCl (ax_w 77 ad (cD cyI cyE ad (SDj σ 1 v))) H1 → va_S (ax_A 77 ad s.heap.size) s.heap H1 locs1 → W p l e R s m args below meth c H1 locs1 cells slots Q (F0 m (pc + 3) ls rest)) : W p l e R s m args below meth c H locs cells slots Q (F0 m pc ls (.long v :: .ref (ad 73) :: rest)) := by
  refine va_put (D := (dC, dI)) (ci := 1) (ty := .long) (C := RX2) (T := TX2) (N := 5) C0.1 C0.2.1 C0.2.2.2.2 (fun w h9 => hT w (inX2 w h9)) tyX2 tyX2_ok nmX2 C0.2.2.2.1 hE.1 hP (ax_D hJ (fun i hi => ax_Ai hi)) hS 73 (ax_at (by decide) (cD_Header)) rfl 3 (by decide) (C0.2.2.2.2 _ (hT _ hl)) (fun _ h9 => h9) rfl (by decide +kernel) rfl rfl (Nat.le_of_ble_eq_true rfl) hdg (fun H1 locs1 hP1 hD1 hS1 => kk H1 locs1 ?_ hS1)
  have e : (ax_w 77 ad (cD cyI cyE ad σ)).set 73 (ad 73, .inr (1, [.int (σ.1 12 0), .int (σ.1 13 0), .long (σ.2.1 0), .long v, .int (σ.1 14 0)])) = ax_w 77 ad (cD cyI cyE ad (SDj σ 1 v)) := ax_set (by decide) (by rw [cD_Header]; simp [SDi, SDj, u2, va_up]) (fun j _ hj => oD_j j hj)
  rw [← e]
  exact hP1
theorem gN_Header_size {σ : SD} (C0 : CallFix p m c cc nL s args Ts own) (hT : ∀ w ∈ bw, w ∈ Ts) (hE : ax_env dC dI cyI cyE tC (ax_A 77 ad s.heap.size) s s.heap) (hP : va_P (dC, dI) vwCl (ax_w 77 ad (cD cyI cyE ad σ)) H) (hl : (own, idx, "ArchiveDesk$Header", "size", "J", "ArchiveDesk") ∈ ax_nest) (hdg : decode cc pc = .ok (.getfield idx, 3)) (kk : W p l e R s m args below meth c H locs cells slots Q (F0 m (pc + 3) ls (.long (σ.2.1 1) :: rest))) : W p l e R s m args below meth c H locs cells slots Q (F0 m pc ls (.ref (ad 73) :: rest)) :=
  va_getN (host := "ArchiveDesk") (D := (dC, dI)) (ci := 1) (C := RX2) (T := TX2) (N := 5) C0.1 C0.2.1 C0.2.2.2.2 (fun w h9 => hT w (inX2 w h9)) C0.2.2.2.1 hE.1 hP 73 (ax_at (by decide) (cD_Header)) rfl 3 (by decide) (va_Nw.use rfl (hE.2.1 _ hl)) (fun _ h9 => h9) rfl hdg kk
theorem pN_Header_size {σ : SD} {v : Int64} (C0 : CallFix p m c cc nL s args Ts own) (hT : ∀ w ∈ bw, w ∈ Ts) (hE : ax_env dC dI cyI cyE tC (ax_A 77 ad s.heap.size) s s.heap) (hJ : ax_J 77 ad) (hP : va_P (dC, dI) vwCl (ax_w 77 ad (cD cyI cyE ad σ)) H) (hS : va_S (ax_A 77 ad s.heap.size) s.heap H locs) (hl : (own, idx, "ArchiveDesk$Header", "size", "J", "ArchiveDesk") ∈ ax_nest) (hdg : decode cc pc = .ok (.putfield idx, 3)) (kk : ∀ (H1 : Heap) (locs1 : List Loc), va_P (dC, dI) vwCl (ax_w 77 ad (cD cyI cyE ad (SDj σ 1 v))) H1 → va_S (ax_A 77 ad s.heap.size) s.heap H1 locs1 → W p l e R s m args below meth c H1 locs1 cells slots Q (F0 m (pc + 3) ls rest)) : W p l e R s m args below meth c H locs cells slots Q (F0 m pc ls (.long v :: .ref (ad 73) :: rest)) := by
  refine va_putN (host := "ArchiveDesk") (D := (dC, dI)) (ci := 1) (ty := .long) (C := RX2) (T := TX2) (N := 5) C0.1 C0.2.1 C0.2.2.2.2 (fun w h9 => hT w (inX2 w h9)) tyX2 tyX2_ok nmX2 C0.2.2.2.1 hE.1 hP (ax_D hJ (fun i hi => ax_Ai hi)) hS 73 (ax_at (by decide) (cD_Header)) rfl 3 (by decide) (va_Nw.use rfl (hE.2.1 _ hl)) (fun _ h9 => h9) rfl (by decide +kernel) rfl rfl (Nat.le_of_ble_eq_true rfl) hdg (fun H1 locs1 hP1 hD1 hS1 => kk H1 locs1 ?_ hS1)
  have e : (ax_w 77 ad (cD cyI cyE ad σ)).set 73 (ad 73, .inr (1, [.int (σ.1 12 0), .int (σ.1 13 0), .long (σ.2.1 0), .long v, .int (σ.1 14 0)])) = ax_w 77 ad (cD cyI cyE ad (SDj σ 1 v)) := ax_set (by decide) (by rw [cD_Header]; simp [SDi, SDj, u2, va_up]) (fun j _ hj => oD_j j hj)
  rw [← e]
  exact hP1
theorem g_Header_nameSize {σ : SD} (C0 : CallFix p m c cc nL s args Ts own) (hT : ∀ w ∈ bw, w ∈ Ts) (hE : ax_env dC dI cyI cyE tC (ax_A 77 ad s.heap.size) s s.heap) (hP : va_P (dC, dI) vwCl (ax_w 77 ad (cD cyI cyE ad σ)) H) (hl : Cond.fieldLink own idx "ArchiveDesk$Header" "nameSize" "I" ∈ bw) (hdg : decode cc pc = .ok (.getfield idx, 3)) (kk : W p l e R s m args below meth c H locs cells slots Q (F0 m (pc + 3) ls (.int (σ.1 14 0) :: rest))) : W p l e R s m args below meth c H locs cells slots Q (F0 m pc ls (.ref (ad 73) :: rest)) :=
  va_get (D := (dC, dI)) (ci := 1) (C := RX2) (T := TX2) (N := 5) C0.1 C0.2.1 C0.2.2.2.2 (fun w h9 => hT w (inX2 w h9)) C0.2.2.2.1 hE.1 hP 73 (ax_at (by decide) (cD_Header)) rfl 4 (by decide) (C0.2.2.2.2 _ (hT _ hl)) (fun _ h9 => h9) rfl hdg kk
theorem p_Header_nameSize {σ : SD} {v : Int32} (C0 : CallFix p m c cc nL s args Ts own) (hT : ∀ w ∈ bw, w ∈ Ts) (hE : ax_env dC dI cyI cyE tC (ax_A 77 ad s.heap.size) s s.heap) (hJ : ax_J 77 ad) (hP : va_P (dC, dI) vwCl (ax_w 77 ad (cD cyI cyE ad σ)) H) (hS : va_S (ax_A 77 ad s.heap.size) s.heap H locs) (hl : Cond.fieldLink own idx "ArchiveDesk$Header" "nameSize" "I" ∈ bw) (hdg : decode cc pc = .ok (.putfield idx, 3)) (kk : ∀ (H1 : Heap) (locs1 : List Loc), va_P (dC, dI) vwCl (ax_w 77 ad (cD cyI cyE ad (SDi σ 14 0 v))) H1 → va_S (ax_A 77 ad s.heap.size) s.heap H1 locs1 → W p l e R s m args below meth c H1 locs1 cells slots Q (F0 m (pc + 3) ls rest)) : W p l e R s m args below meth c H locs cells slots Q (F0 m pc ls (.int v :: .ref (ad 73) :: rest)) := by
  refine va_put (D := (dC, dI)) (ci := 1) (ty := .int) (C := RX2) (T := TX2) (N := 5) C0.1 C0.2.1 C0.2.2.2.2 (fun w h9 => hT w (inX2 w h9)) tyX2 tyX2_ok nmX2 C0.2.2.2.1 hE.1 hP (ax_D hJ (fun i hi => ax_Ai hi)) hS 73 (ax_at (by decide) (cD_Header)) rfl 4 (by decide) (C0.2.2.2.2 _ (hT _ hl)) (fun _ h9 => h9) rfl (by decide +kernel) rfl rfl (Nat.le_of_ble_eq_true rfl) hdg (fun H1 locs1 hP1 hD1 hS1 => kk H1 locs1 ?_ hS1)
  have e : (ax_w 77 ad (cD cyI cyE ad σ)).set 73 (ad 73, .inr (1, [.int (σ.1 12 0), .int (σ.1 13 0), .long (σ.2.1 0), .long (σ.2.1 1), .int v])) = ax_w 77 ad (cD cyI cyE ad (SDi σ 14 0 v)) := ax_set (by decide) (by rw [cD_Header]; simp [SDi, SDj, u2, va_up]) (fun j _ hj => oD_h (by decide) j hj)
  rw [← e]
  exact hP1
theorem gN_Header_nameSize {σ : SD} (C0 : CallFix p m c cc nL s args Ts own) (hT : ∀ w ∈ bw, w ∈ Ts) (hE : ax_env dC dI cyI cyE tC (ax_A 77 ad s.heap.size) s s.heap) (hP : va_P (dC, dI) vwCl (ax_w 77 ad (cD cyI cyE ad σ)) H) (hl : (own, idx, "ArchiveDesk$Header", "nameSize", "I", "ArchiveDesk") ∈ ax_nest) (hdg : decode cc pc = .ok (.getfield idx, 3)) (kk : W p l e R s m args below meth c H locs cells slots Q (F0 m (pc + 3) ls (.int (σ.1 14 0) :: rest))) : W p l e R s m args below meth c H locs cells slots Q (F0 m pc ls (.ref (ad 73) :: rest)) :=
  va_getN (host := "ArchiveDesk") (D := (dC, dI)) (ci := 1) (C := RX2) (T := TX2) (N := 5) C0.1 C0.2.1 C0.2.2.2.2 (fun w h9 => hT w (inX2 w h9)) C0.2.2.2.1 hE.1 hP 73 (ax_at (by decide) (cD_Header)) rfl 4 (by decide) (va_Nw.use rfl (hE.2.1 _ hl)) (fun _ h9 => h9) rfl hdg kk
theorem pN_Header_nameSize {σ : SD} {v : Int32} (C0 : CallFix p m c cc nL s args Ts own) (hT : ∀ w ∈ bw, w ∈ Ts) (hE : ax_env dC dI cyI cyE tC (ax_A 77 ad s.heap.size) s s.heap) (hJ : ax_J 77 ad) (hP : va_P (dC, dI) vwCl (ax_w 77 ad (cD cyI cyE ad σ)) H) (hS : va_S (ax_A 77 ad s.heap.size) s.heap H locs) (hl : (own, idx, "ArchiveDesk$Header", "nameSize", "I", "ArchiveDesk") ∈ ax_nest) (hdg : decode cc pc = .ok (.putfield idx, 3)) (kk : ∀ (H1 : Heap) (locs1 : List Loc), va_P (dC, dI) vwCl (ax_w 77 ad (cD cyI cyE ad (SDi σ 14 0 v))) H1 → va_S (ax_A 77 ad s.heap.size) s.heap H1 locs1 → W p l e R s m args below meth c H1 locs1 cells slots Q (F0 m (pc + 3) ls rest)) : W p l e R s m args below meth c H locs cells slots Q (F0 m pc ls (.int v :: .ref (ad 73) :: rest)) := by
  refine va_putN (host := "ArchiveDesk") (D := (dC, dI)) (ci := 1) (ty := .int) (C := RX2) (T := TX2) (N := 5) C0.1 C0.2.1 C0.2.2.2.2 (fun w h9 => hT w (inX2 w h9)) tyX2 tyX2_ok nmX2 C0.2.2.2.1 hE.1 hP (ax_D hJ (fun i hi => ax_Ai hi)) hS 73 (ax_at (by decide) (cD_Header)) rfl 4 (by decide) (va_Nw.use rfl (hE.2.1 _ hl)) (fun _ h9 => h9) rfl (by decide +kernel) rfl rfl (Nat.le_of_ble_eq_true rfl) hdg (fun H1 locs1 hP1 hD1 hS1 => kk H1 locs1 ?_ hS1)
  have e : (ax_w 77 ad (cD cyI cyE ad σ)).set 73 (ad 73, .inr (1, [.int (σ.1 12 0), .int (σ.1 13 0), .long (σ.2.1 0), .long (σ.2.1 1), .int v])) = ax_w 77 ad (cD cyI cyE ad (SDi σ 14 0 v)) := ax_set (by decide) (by rw [cD_Header]; simp [SDi, SDj, u2, va_up]) (fun j _ hj => oD_h (by decide) j hj)
  rw [← e]
  exact hP1
theorem g_Reader_centralAt {σ : SD} (C0 : CallFix p m c cc nL s args Ts own) (hT : ∀ w ∈ bw, w ∈ Ts) (hE : ax_env dC dI cyI cyE tC (ax_A 77 ad s.heap.size) s s.heap) (hP : va_P (dC, dI) vwCl (ax_w 77 ad (cD cyI cyE ad σ)) H) (hl : Cond.fieldLink own idx "ArchiveDesk$Reader" "centralAt" "[I" ∈ bw) (hdg : decode cc pc = .ok (.getfield idx, 3)) (kk : W p l e R s m args below meth c H locs cells slots Q (F0 m (pc + 3) ls (.ref (ad (25 + 25)) :: rest))) : W p l e R s m args below meth c H locs cells slots Q (F0 m pc ls (.ref (ad 74) :: rest)) :=
  va_get (D := (dC, dI)) (ci := 2) (C := RX3) (T := TX3) (N := 10) C0.1 C0.2.1 C0.2.2.2.2 (fun w h9 => hT w (inX3 w h9)) C0.2.2.2.1 hE.1 hP 74 (ax_at (by decide) (cD_Reader)) rfl 0 (by decide) (C0.2.2.2.2 _ (hT _ hl)) (fun _ h9 => h9) rfl hdg kk
theorem g_Reader_packedAt {σ : SD} (C0 : CallFix p m c cc nL s args Ts own) (hT : ∀ w ∈ bw, w ∈ Ts) (hE : ax_env dC dI cyI cyE tC (ax_A 77 ad s.heap.size) s s.heap) (hP : va_P (dC, dI) vwCl (ax_w 77 ad (cD cyI cyE ad σ)) H) (hl : Cond.fieldLink own idx "ArchiveDesk$Reader" "packedAt" "[I" ∈ bw) (hdg : decode cc pc = .ok (.getfield idx, 3)) (kk : W p l e R s m args below meth c H locs cells slots Q (F0 m (pc + 3) ls (.ref (ad (25 + 26)) :: rest))) : W p l e R s m args below meth c H locs cells slots Q (F0 m pc ls (.ref (ad 74) :: rest)) :=
  va_get (D := (dC, dI)) (ci := 2) (C := RX3) (T := TX3) (N := 10) C0.1 C0.2.1 C0.2.2.2.2 (fun w h9 => hT w (inX3 w h9)) C0.2.2.2.1 hE.1 hP 74 (ax_at (by decide) (cD_Reader)) rfl 1 (by decide) (C0.2.2.2.2 _ (hT _ hl)) (fun _ h9 => h9) rfl hdg kk
theorem g_Reader_header {σ : SD} (C0 : CallFix p m c cc nL s args Ts own) (hT : ∀ w ∈ bw, w ∈ Ts) (hE : ax_env dC dI cyI cyE tC (ax_A 77 ad s.heap.size) s s.heap) (hP : va_P (dC, dI) vwCl (ax_w 77 ad (cD cyI cyE ad σ)) H) (hl : Cond.fieldLink own idx "ArchiveDesk$Reader" "header" "LArchiveDesk$Header;" ∈ bw) (hdg : decode cc pc = .ok (.getfield idx, 3)) (kk : W p l e R s m args below meth c H locs cells slots Q (F0 m (pc + 3) ls (.ref (ad 73) :: rest))) : W p l e R s m args below meth c H locs cells slots Q (F0 m pc ls (.ref (ad 74) :: rest)) :=
  va_get (D := (dC, dI)) (ci := 2) (C := RX3) (T := TX3) (N := 10) C0.1 C0.2.1 C0.2.2.2.2 (fun w h9 => hT w (inX3 w h9)) C0.2.2.2.1 hE.1 hP 74 (ax_at (by decide) (cD_Reader)) rfl 2 (by decide) (C0.2.2.2.2 _ (hT _ hl)) (fun _ h9 => h9) rfl hdg kk
theorem g_Reader_unpacked {σ : SD} (C0 : CallFix p m c cc nL s args Ts own) (hT : ∀ w ∈ bw, w ∈ Ts) (hE : ax_env dC dI cyI cyE tC (ax_A 77 ad s.heap.size) s s.heap) (hP : va_P (dC, dI) vwCl (ax_w 77 ad (cD cyI cyE ad σ)) H) (hl : Cond.fieldLink own idx "ArchiveDesk$Reader" "unpacked" "LArchiveDesk$Row;" ∈ bw) (hdg : decode cc pc = .ok (.getfield idx, 3)) (kk : W p l e R s m args below meth c H locs cells slots Q (F0 m (pc + 3) ls (.ref (ad 4) :: rest))) : W p l e R s m args below meth c H locs cells slots Q (F0 m pc ls (.ref (ad 74) :: rest)) :=
  va_get (D := (dC, dI)) (ci := 2) (C := RX3) (T := TX3) (N := 10) C0.1 C0.2.1 C0.2.2.2.2 (fun w h9 => hT w (inX3 w h9)) C0.2.2.2.1 hE.1 hP 74 (ax_at (by decide) (cD_Reader)) rfl 3 (by decide) (C0.2.2.2.2 _ (hT _ hl)) (fun _ h9 => h9) rfl hdg kk
theorem g_Reader_count {σ : SD} (C0 : CallFix p m c cc nL s args Ts own) (hT : ∀ w ∈ bw, w ∈ Ts) (hE : ax_env dC dI cyI cyE tC (ax_A 77 ad s.heap.size) s s.heap) (hP : va_P (dC, dI) vwCl (ax_w 77 ad (cD cyI cyE ad σ)) H) (hl : Cond.fieldLink own idx "ArchiveDesk$Reader" "count" "I" ∈ bw) (hdg : decode cc pc = .ok (.getfield idx, 3)) (kk : W p l e R s m args below meth c H locs cells slots Q (F0 m (pc + 3) ls (.int (σ.1 6 0) :: rest))) : W p l e R s m args below meth c H locs cells slots Q (F0 m pc ls (.ref (ad 74) :: rest)) :=
  va_get (D := (dC, dI)) (ci := 2) (C := RX3) (T := TX3) (N := 10) C0.1 C0.2.1 C0.2.2.2.2 (fun w h9 => hT w (inX3 w h9)) C0.2.2.2.1 hE.1 hP 74 (ax_at (by decide) (cD_Reader)) rfl 4 (by decide) (C0.2.2.2.2 _ (hT _ hl)) (fun _ h9 => h9) rfl hdg kk
theorem p_Reader_count {σ : SD} {v : Int32} (C0 : CallFix p m c cc nL s args Ts own) (hT : ∀ w ∈ bw, w ∈ Ts) (hE : ax_env dC dI cyI cyE tC (ax_A 77 ad s.heap.size) s s.heap) (hJ : ax_J 77 ad) (hP : va_P (dC, dI) vwCl (ax_w 77 ad (cD cyI cyE ad σ)) H) (hS : va_S (ax_A 77 ad s.heap.size) s.heap H locs) (hl : Cond.fieldLink own idx "ArchiveDesk$Reader" "count" "I" ∈ bw) (hdg : decode cc pc = .ok (.putfield idx, 3)) (kk : ∀ (H1 : Heap) (locs1 : List Loc), va_P (dC, dI) vwCl (ax_w 77 ad (cD cyI cyE ad (SDi σ 6 0 v))) H1 → va_S (ax_A 77 ad s.heap.size) s.heap H1 locs1 → W p l e R s m args below meth c H1 locs1 cells slots Q (F0 m (pc + 3) ls rest)) : W p l e R s m args below meth c H locs cells slots Q (F0 m pc ls (.int v :: .ref (ad 74) :: rest)) := by
  refine va_put (D := (dC, dI)) (ci := 2) (ty := .int) (C := RX3) (T := TX3) (N := 10) C0.1 C0.2.1 C0.2.2.2.2 (fun w h9 => hT w (inX3 w h9)) tyX3 tyX3_ok nmX3 C0.2.2.2.1 hE.1 hP (ax_D hJ (fun i hi => ax_Ai hi)) hS 74 (ax_at (by decide) (cD_Reader)) rfl 4 (by decide) (C0.2.2.2.2 _ (hT _ hl)) (fun _ h9 => h9) rfl (by decide +kernel) rfl rfl (Nat.le_of_ble_eq_true rfl) hdg (fun H1 locs1 hP1 hD1 hS1 => kk H1 locs1 ?_ hS1)
  have e : (ax_w 77 ad (cD cyI cyE ad σ)).set 74 (ad 74, .inr (2, [.ref (ad (25 + 25)), .ref (ad (25 + 26)), .ref (ad 73), .ref (ad 4), .int v, .int (σ.1 7 0), .int (σ.1 8 0), .int (σ.1 9 0), .int (σ.1 10 0), .int (σ.1 11 0)])) = ax_w 77 ad (cD cyI cyE ad (SDi σ 6 0 v)) := ax_set (by decide) (by rw [cD_Reader]; simp [SDi, SDj, u2, va_up]) (fun j _ hj => oD_r (by decide) j hj)
  rw [← e]
  exact hP1
theorem g_Reader_firstCentral {σ : SD} (C0 : CallFix p m c cc nL s args Ts own) (hT : ∀ w ∈ bw, w ∈ Ts) (hE : ax_env dC dI cyI cyE tC (ax_A 77 ad s.heap.size) s s.heap) (hP : va_P (dC, dI) vwCl (ax_w 77 ad (cD cyI cyE ad σ)) H) (hl : Cond.fieldLink own idx "ArchiveDesk$Reader" "firstCentral" "I" ∈ bw) (hdg : decode cc pc = .ok (.getfield idx, 3)) (kk : W p l e R s m args below meth c H locs cells slots Q (F0 m (pc + 3) ls (.int (σ.1 7 0) :: rest))) : W p l e R s m args below meth c H locs cells slots Q (F0 m pc ls (.ref (ad 74) :: rest)) :=
  va_get (D := (dC, dI)) (ci := 2) (C := RX3) (T := TX3) (N := 10) C0.1 C0.2.1 C0.2.2.2.2 (fun w h9 => hT w (inX3 w h9)) C0.2.2.2.1 hE.1 hP 74 (ax_at (by decide) (cD_Reader)) rfl 5 (by decide) (C0.2.2.2.2 _ (hT _ hl)) (fun _ h9 => h9) rfl hdg kk
theorem p_Reader_firstCentral {σ : SD} {v : Int32} (C0 : CallFix p m c cc nL s args Ts own) (hT : ∀ w ∈ bw, w ∈ Ts) (hE : ax_env dC dI cyI cyE tC (ax_A 77 ad s.heap.size) s s.heap) (hJ : ax_J 77 ad) (hP : va_P (dC, dI) vwCl (ax_w 77 ad (cD cyI cyE ad σ)) H) (hS : va_S (ax_A 77 ad s.heap.size) s.heap H locs) (hl : Cond.fieldLink own idx "ArchiveDesk$Reader" "firstCentral" "I" ∈ bw) (hdg : decode cc pc = .ok (.putfield idx, 3)) (kk : ∀ (H1 : Heap) (locs1 : List Loc), va_P (dC, dI) vwCl (ax_w 77 ad (cD cyI cyE ad (SDi σ 7 0 v))) H1 → va_S (ax_A 77 ad s.heap.size) s.heap H1 locs1 → W p l e R s m args below meth c H1 locs1 cells slots Q (F0 m (pc + 3) ls rest)) : W p l e R s m args below meth c H locs cells slots Q (F0 m pc ls (.int v :: .ref (ad 74) :: rest)) := by
  refine va_put (D := (dC, dI)) (ci := 2) (ty := .int) (C := RX3) (T := TX3) (N := 10) C0.1 C0.2.1 C0.2.2.2.2 (fun w h9 => hT w (inX3 w h9)) tyX3 tyX3_ok nmX3 C0.2.2.2.1 hE.1 hP (ax_D hJ (fun i hi => ax_Ai hi)) hS 74 (ax_at (by decide) (cD_Reader)) rfl 5 (by decide) (C0.2.2.2.2 _ (hT _ hl)) (fun _ h9 => h9) rfl (by decide +kernel) rfl rfl (Nat.le_of_ble_eq_true rfl) hdg (fun H1 locs1 hP1 hD1 hS1 => kk H1 locs1 ?_ hS1)
  have e : (ax_w 77 ad (cD cyI cyE ad σ)).set 74 (ad 74, .inr (2, [.ref (ad (25 + 25)), .ref (ad (25 + 26)), .ref (ad 73), .ref (ad 4), .int (σ.1 6 0), .int v, .int (σ.1 8 0), .int (σ.1 9 0), .int (σ.1 10 0), .int (σ.1 11 0)])) = ax_w 77 ad (cD cyI cyE ad (SDi σ 7 0 v)) := ax_set (by decide) (by rw [cD_Reader]; simp [SDi, SDj, u2, va_up]) (fun j _ hj => oD_r (by decide) j hj)
  rw [← e]
  exact hP1
theorem g_Reader_endAt {σ : SD} (C0 : CallFix p m c cc nL s args Ts own) (hT : ∀ w ∈ bw, w ∈ Ts) (hE : ax_env dC dI cyI cyE tC (ax_A 77 ad s.heap.size) s s.heap) (hP : va_P (dC, dI) vwCl (ax_w 77 ad (cD cyI cyE ad σ)) H) (hl : Cond.fieldLink own idx "ArchiveDesk$Reader" "endAt" "I" ∈ bw) (hdg : decode cc pc = .ok (.getfield idx, 3)) (kk : W p l e R s m args below meth c H locs cells slots Q (F0 m (pc + 3) ls (.int (σ.1 8 0) :: rest))) : W p l e R s m args below meth c H locs cells slots Q (F0 m pc ls (.ref (ad 74) :: rest)) :=
  va_get (D := (dC, dI)) (ci := 2) (C := RX3) (T := TX3) (N := 10) C0.1 C0.2.1 C0.2.2.2.2 (fun w h9 => hT w (inX3 w h9)) C0.2.2.2.1 hE.1 hP 74 (ax_at (by decide) (cD_Reader)) rfl 6 (by decide) (C0.2.2.2.2 _ (hT _ hl)) (fun _ h9 => h9) rfl hdg kk
theorem p_Reader_endAt {σ : SD} {v : Int32} (C0 : CallFix p m c cc nL s args Ts own) (hT : ∀ w ∈ bw, w ∈ Ts) (hE : ax_env dC dI cyI cyE tC (ax_A 77 ad s.heap.size) s s.heap) (hJ : ax_J 77 ad) (hP : va_P (dC, dI) vwCl (ax_w 77 ad (cD cyI cyE ad σ)) H) (hS : va_S (ax_A 77 ad s.heap.size) s.heap H locs) (hl : Cond.fieldLink own idx "ArchiveDesk$Reader" "endAt" "I" ∈ bw) (hdg : decode cc pc = .ok (.putfield idx, 3)) (kk : ∀ (H1 : Heap) (locs1 : List Loc), va_P (dC, dI) vwCl (ax_w 77 ad (cD cyI cyE ad (SDi σ 8 0 v))) H1 → va_S (ax_A 77 ad s.heap.size) s.heap H1 locs1 → W p l e R s m args below meth c H1 locs1 cells slots Q (F0 m (pc + 3) ls rest)) : W p l e R s m args below meth c H locs cells slots Q (F0 m pc ls (.int v :: .ref (ad 74) :: rest)) := by
  refine va_put (D := (dC, dI)) (ci := 2) (ty := .int) (C := RX3) (T := TX3) (N := 10) C0.1 C0.2.1 C0.2.2.2.2 (fun w h9 => hT w (inX3 w h9)) tyX3 tyX3_ok nmX3 C0.2.2.2.1 hE.1 hP (ax_D hJ (fun i hi => ax_Ai hi)) hS 74 (ax_at (by decide) (cD_Reader)) rfl 6 (by decide) (C0.2.2.2.2 _ (hT _ hl)) (fun _ h9 => h9) rfl (by decide +kernel) rfl rfl (Nat.le_of_ble_eq_true rfl) hdg (fun H1 locs1 hP1 hD1 hS1 => kk H1 locs1 ?_ hS1)
  have e : (ax_w 77 ad (cD cyI cyE ad σ)).set 74 (ad 74, .inr (2, [.ref (ad (25 + 25)), .ref (ad (25 + 26)), .ref (ad 73), .ref (ad 4), .int (σ.1 6 0), .int (σ.1 7 0), .int v, .int (σ.1 9 0), .int (σ.1 10 0), .int (σ.1 11 0)])) = ax_w 77 ad (cD cyI cyE ad (SDi σ 8 0 v)) := ax_set (by decide) (by rw [cD_Reader]; simp [SDi, SDj, u2, va_up]) (fun j _ hj => oD_r (by decide) j hj)
  rw [← e]
  exact hP1
theorem g_Reader_faultNumber {σ : SD} (C0 : CallFix p m c cc nL s args Ts own) (hT : ∀ w ∈ bw, w ∈ Ts) (hE : ax_env dC dI cyI cyE tC (ax_A 77 ad s.heap.size) s s.heap) (hP : va_P (dC, dI) vwCl (ax_w 77 ad (cD cyI cyE ad σ)) H) (hl : Cond.fieldLink own idx "ArchiveDesk$Reader" "faultNumber" "I" ∈ bw) (hdg : decode cc pc = .ok (.getfield idx, 3)) (kk : W p l e R s m args below meth c H locs cells slots Q (F0 m (pc + 3) ls (.int (σ.1 9 0) :: rest))) : W p l e R s m args below meth c H locs cells slots Q (F0 m pc ls (.ref (ad 74) :: rest)) :=
  va_get (D := (dC, dI)) (ci := 2) (C := RX3) (T := TX3) (N := 10) C0.1 C0.2.1 C0.2.2.2.2 (fun w h9 => hT w (inX3 w h9)) C0.2.2.2.1 hE.1 hP 74 (ax_at (by decide) (cD_Reader)) rfl 7 (by decide) (C0.2.2.2.2 _ (hT _ hl)) (fun _ h9 => h9) rfl hdg kk
theorem p_Reader_faultNumber {σ : SD} {v : Int32} (C0 : CallFix p m c cc nL s args Ts own) (hT : ∀ w ∈ bw, w ∈ Ts) (hE : ax_env dC dI cyI cyE tC (ax_A 77 ad s.heap.size) s s.heap) (hJ : ax_J 77 ad) (hP : va_P (dC, dI) vwCl (ax_w 77 ad (cD cyI cyE ad σ)) H) (hS : va_S (ax_A 77 ad s.heap.size) s.heap H locs) (hl : Cond.fieldLink own idx "ArchiveDesk$Reader" "faultNumber" "I" ∈ bw) (hdg : decode cc pc = .ok (.putfield idx, 3)) (kk : ∀ (H1 : Heap) (locs1 : List Loc), va_P (dC, dI) vwCl (ax_w 77 ad (cD cyI cyE ad (SDi σ 9 0 v))) H1 → va_S (ax_A 77 ad s.heap.size) s.heap H1 locs1 → W p l e R s m args below meth c H1 locs1 cells slots Q (F0 m (pc + 3) ls rest)) : W p l e R s m args below meth c H locs cells slots Q (F0 m pc ls (.int v :: .ref (ad 74) :: rest)) := by
  refine va_put (D := (dC, dI)) (ci := 2) (ty := .int) (C := RX3) (T := TX3) (N := 10) C0.1 C0.2.1 C0.2.2.2.2 (fun w h9 => hT w (inX3 w h9)) tyX3 tyX3_ok nmX3 C0.2.2.2.1 hE.1 hP (ax_D hJ (fun i hi => ax_Ai hi)) hS 74 (ax_at (by decide) (cD_Reader)) rfl 7 (by decide) (C0.2.2.2.2 _ (hT _ hl)) (fun _ h9 => h9) rfl (by decide +kernel) rfl rfl (Nat.le_of_ble_eq_true rfl) hdg (fun H1 locs1 hP1 hD1 hS1 => kk H1 locs1 ?_ hS1)
  have e : (ax_w 77 ad (cD cyI cyE ad σ)).set 74 (ad 74, .inr (2, [.ref (ad (25 + 25)), .ref (ad (25 + 26)), .ref (ad 73), .ref (ad 4), .int (σ.1 6 0), .int (σ.1 7 0), .int (σ.1 8 0), .int v, .int (σ.1 10 0), .int (σ.1 11 0)])) = ax_w 77 ad (cD cyI cyE ad (SDi σ 9 0 v)) := ax_set (by decide) (by rw [cD_Reader]; simp [SDi, SDj, u2, va_up]) (fun j _ hj => oD_r (by decide) j hj)
  rw [← e]
  exact hP1
theorem g_Reader_faultFile {σ : SD} (C0 : CallFix p m c cc nL s args Ts own) (hT : ∀ w ∈ bw, w ∈ Ts) (hE : ax_env dC dI cyI cyE tC (ax_A 77 ad s.heap.size) s s.heap) (hP : va_P (dC, dI) vwCl (ax_w 77 ad (cD cyI cyE ad σ)) H) (hl : Cond.fieldLink own idx "ArchiveDesk$Reader" "faultFile" "I" ∈ bw) (hdg : decode cc pc = .ok (.getfield idx, 3)) (kk : W p l e R s m args below meth c H locs cells slots Q (F0 m (pc + 3) ls (.int (σ.1 10 0) :: rest))) : W p l e R s m args below meth c H locs cells slots Q (F0 m pc ls (.ref (ad 74) :: rest)) :=
  va_get (D := (dC, dI)) (ci := 2) (C := RX3) (T := TX3) (N := 10) C0.1 C0.2.1 C0.2.2.2.2 (fun w h9 => hT w (inX3 w h9)) C0.2.2.2.1 hE.1 hP 74 (ax_at (by decide) (cD_Reader)) rfl 8 (by decide) (C0.2.2.2.2 _ (hT _ hl)) (fun _ h9 => h9) rfl hdg kk
theorem p_Reader_faultFile {σ : SD} {v : Int32} (C0 : CallFix p m c cc nL s args Ts own) (hT : ∀ w ∈ bw, w ∈ Ts) (hE : ax_env dC dI cyI cyE tC (ax_A 77 ad s.heap.size) s s.heap) (hJ : ax_J 77 ad) (hP : va_P (dC, dI) vwCl (ax_w 77 ad (cD cyI cyE ad σ)) H) (hS : va_S (ax_A 77 ad s.heap.size) s.heap H locs) (hl : Cond.fieldLink own idx "ArchiveDesk$Reader" "faultFile" "I" ∈ bw) (hdg : decode cc pc = .ok (.putfield idx, 3)) (kk : ∀ (H1 : Heap) (locs1 : List Loc), va_P (dC, dI) vwCl (ax_w 77 ad (cD cyI cyE ad (SDi σ 10 0 v))) H1 → va_S (ax_A 77 ad s.heap.size) s.heap H1 locs1 → W p l e R s m args below meth c H1 locs1 cells slots Q (F0 m (pc + 3) ls rest)) : W p l e R s m args below meth c H locs cells slots Q (F0 m pc ls (.int v :: .ref (ad 74) :: rest)) := by
  refine va_put (D := (dC, dI)) (ci := 2) (ty := .int) (C := RX3) (T := TX3) (N := 10) C0.1 C0.2.1 C0.2.2.2.2 (fun w h9 => hT w (inX3 w h9)) tyX3 tyX3_ok nmX3 C0.2.2.2.1 hE.1 hP (ax_D hJ (fun i hi => ax_Ai hi)) hS 74 (ax_at (by decide) (cD_Reader)) rfl 8 (by decide) (C0.2.2.2.2 _ (hT _ hl)) (fun _ h9 => h9) rfl (by decide +kernel) rfl rfl (Nat.le_of_ble_eq_true rfl) hdg (fun H1 locs1 hP1 hD1 hS1 => kk H1 locs1 ?_ hS1)
  have e : (ax_w 77 ad (cD cyI cyE ad σ)).set 74 (ad 74, .inr (2, [.ref (ad (25 + 25)), .ref (ad (25 + 26)), .ref (ad 73), .ref (ad 4), .int (σ.1 6 0), .int (σ.1 7 0), .int (σ.1 8 0), .int (σ.1 9 0), .int v, .int (σ.1 11 0)])) = ax_w 77 ad (cD cyI cyE ad (SDi σ 10 0 v)) := ax_set (by decide) (by rw [cD_Reader]; simp [SDi, SDj, u2, va_up]) (fun j _ hj => oD_r (by decide) j hj)
  rw [← e]
  exact hP1
theorem g_Reader_faultPlace {σ : SD} (C0 : CallFix p m c cc nL s args Ts own) (hT : ∀ w ∈ bw, w ∈ Ts) (hE : ax_env dC dI cyI cyE tC (ax_A 77 ad s.heap.size) s s.heap) (hP : va_P (dC, dI) vwCl (ax_w 77 ad (cD cyI cyE ad σ)) H) (hl : Cond.fieldLink own idx "ArchiveDesk$Reader" "faultPlace" "I" ∈ bw) (hdg : decode cc pc = .ok (.getfield idx, 3)) (kk : W p l e R s m args below meth c H locs cells slots Q (F0 m (pc + 3) ls (.int (σ.1 11 0) :: rest))) : W p l e R s m args below meth c H locs cells slots Q (F0 m pc ls (.ref (ad 74) :: rest)) :=
  va_get (D := (dC, dI)) (ci := 2) (C := RX3) (T := TX3) (N := 10) C0.1 C0.2.1 C0.2.2.2.2 (fun w h9 => hT w (inX3 w h9)) C0.2.2.2.1 hE.1 hP 74 (ax_at (by decide) (cD_Reader)) rfl 9 (by decide) (C0.2.2.2.2 _ (hT _ hl)) (fun _ h9 => h9) rfl hdg kk
theorem p_Reader_faultPlace {σ : SD} {v : Int32} (C0 : CallFix p m c cc nL s args Ts own) (hT : ∀ w ∈ bw, w ∈ Ts) (hE : ax_env dC dI cyI cyE tC (ax_A 77 ad s.heap.size) s s.heap) (hJ : ax_J 77 ad) (hP : va_P (dC, dI) vwCl (ax_w 77 ad (cD cyI cyE ad σ)) H) (hS : va_S (ax_A 77 ad s.heap.size) s.heap H locs) (hl : Cond.fieldLink own idx "ArchiveDesk$Reader" "faultPlace" "I" ∈ bw) (hdg : decode cc pc = .ok (.putfield idx, 3)) (kk : ∀ (H1 : Heap) (locs1 : List Loc), va_P (dC, dI) vwCl (ax_w 77 ad (cD cyI cyE ad (SDi σ 11 0 v))) H1 → va_S (ax_A 77 ad s.heap.size) s.heap H1 locs1 → W p l e R s m args below meth c H1 locs1 cells slots Q (F0 m (pc + 3) ls rest)) : W p l e R s m args below meth c H locs cells slots Q (F0 m pc ls (.int v :: .ref (ad 74) :: rest)) := by
  refine va_put (D := (dC, dI)) (ci := 2) (ty := .int) (C := RX3) (T := TX3) (N := 10) C0.1 C0.2.1 C0.2.2.2.2 (fun w h9 => hT w (inX3 w h9)) tyX3 tyX3_ok nmX3 C0.2.2.2.1 hE.1 hP (ax_D hJ (fun i hi => ax_Ai hi)) hS 74 (ax_at (by decide) (cD_Reader)) rfl 9 (by decide) (C0.2.2.2.2 _ (hT _ hl)) (fun _ h9 => h9) rfl (by decide +kernel) rfl rfl (Nat.le_of_ble_eq_true rfl) hdg (fun H1 locs1 hP1 hD1 hS1 => kk H1 locs1 ?_ hS1)
  have e : (ax_w 77 ad (cD cyI cyE ad σ)).set 74 (ad 74, .inr (2, [.ref (ad (25 + 25)), .ref (ad (25 + 26)), .ref (ad 73), .ref (ad 4), .int (σ.1 6 0), .int (σ.1 7 0), .int (σ.1 8 0), .int (σ.1 9 0), .int (σ.1 10 0), .int v])) = ax_w 77 ad (cD cyI cyE ad (SDi σ 11 0 v)) := ax_set (by decide) (by rw [cD_Reader]; simp [SDi, SDj, u2, va_up]) (fun j _ hj => oD_r (by decide) j hj)
  rw [← e]
  exact hP1
theorem g_Shelf_entries {σ : SD} (C0 : CallFix p m c cc nL s args Ts own) (hT : ∀ w ∈ bw, w ∈ Ts) (hE : ax_env dC dI cyI cyE tC (ax_A 77 ad s.heap.size) s s.heap) (hP : va_P (dC, dI) vwCl (ax_w 77 ad (cD cyI cyE ad σ)) H) (hl : Cond.fieldLink own idx "ArchiveDesk$Shelf" "entries" "[LArchiveDesk$Entry;" ∈ bw) (hdg : decode cc pc = .ok (.getfield idx, 3)) (kk : W p l e R s m args below meth c H locs cells slots Q (F0 m (pc + 3) ls (.ref (ad 72) :: rest))) : W p l e R s m args below meth c H locs cells slots Q (F0 m pc ls (.ref (ad 75) :: rest)) :=
  va_get (D := (dC, dI)) (ci := 4) (C := RX5) (T := TX5) (N := 3) C0.1 C0.2.1 C0.2.2.2.2 (fun w h9 => hT w (inX5 w h9)) C0.2.2.2.1 hE.1 hP 75 (ax_at (by decide) (cD_Shelf)) rfl 0 (by decide) (C0.2.2.2.2 _ (hT _ hl)) (fun _ h9 => h9) rfl hdg kk
theorem g_Shelf_bytes {σ : SD} (C0 : CallFix p m c cc nL s args Ts own) (hT : ∀ w ∈ bw, w ∈ Ts) (hE : ax_env dC dI cyI cyE tC (ax_A 77 ad s.heap.size) s s.heap) (hP : va_P (dC, dI) vwCl (ax_w 77 ad (cD cyI cyE ad σ)) H) (hl : Cond.fieldLink own idx "ArchiveDesk$Shelf" "bytes" "LArchiveDesk$Row;" ∈ bw) (hdg : decode cc pc = .ok (.getfield idx, 3)) (kk : W p l e R s m args below meth c H locs cells slots Q (F0 m (pc + 3) ls (.ref (ad 3) :: rest))) : W p l e R s m args below meth c H locs cells slots Q (F0 m pc ls (.ref (ad 75) :: rest)) :=
  va_get (D := (dC, dI)) (ci := 4) (C := RX5) (T := TX5) (N := 3) C0.1 C0.2.1 C0.2.2.2.2 (fun w h9 => hT w (inX5 w h9)) C0.2.2.2.1 hE.1 hP 75 (ax_at (by decide) (cD_Shelf)) rfl 1 (by decide) (C0.2.2.2.2 _ (hT _ hl)) (fun _ h9 => h9) rfl hdg kk
theorem g_Shelf_count {σ : SD} (C0 : CallFix p m c cc nL s args Ts own) (hT : ∀ w ∈ bw, w ∈ Ts) (hE : ax_env dC dI cyI cyE tC (ax_A 77 ad s.heap.size) s s.heap) (hP : va_P (dC, dI) vwCl (ax_w 77 ad (cD cyI cyE ad σ)) H) (hl : Cond.fieldLink own idx "ArchiveDesk$Shelf" "count" "I" ∈ bw) (hdg : decode cc pc = .ok (.getfield idx, 3)) (kk : W p l e R s m args below meth c H locs cells slots Q (F0 m (pc + 3) ls (.int (σ.1 5 0) :: rest))) : W p l e R s m args below meth c H locs cells slots Q (F0 m pc ls (.ref (ad 75) :: rest)) :=
  va_get (D := (dC, dI)) (ci := 4) (C := RX5) (T := TX5) (N := 3) C0.1 C0.2.1 C0.2.2.2.2 (fun w h9 => hT w (inX5 w h9)) C0.2.2.2.1 hE.1 hP 75 (ax_at (by decide) (cD_Shelf)) rfl 2 (by decide) (C0.2.2.2.2 _ (hT _ hl)) (fun _ h9 => h9) rfl hdg kk
theorem p_Shelf_count {σ : SD} {v : Int32} (C0 : CallFix p m c cc nL s args Ts own) (hT : ∀ w ∈ bw, w ∈ Ts) (hE : ax_env dC dI cyI cyE tC (ax_A 77 ad s.heap.size) s s.heap) (hJ : ax_J 77 ad) (hP : va_P (dC, dI) vwCl (ax_w 77 ad (cD cyI cyE ad σ)) H) (hS : va_S (ax_A 77 ad s.heap.size) s.heap H locs) (hl : Cond.fieldLink own idx "ArchiveDesk$Shelf" "count" "I" ∈ bw) (hdg : decode cc pc = .ok (.putfield idx, 3)) (kk : ∀ (H1 : Heap) (locs1 : List Loc), va_P (dC, dI) vwCl (ax_w 77 ad (cD cyI cyE ad (SDi σ 5 0 v))) H1 → va_S (ax_A 77 ad s.heap.size) s.heap H1 locs1 → W p l e R s m args below meth c H1 locs1 cells slots Q (F0 m (pc + 3) ls rest)) : W p l e R s m args below meth c H locs cells slots Q (F0 m pc ls (.int v :: .ref (ad 75) :: rest)) := by
  refine va_put (D := (dC, dI)) (ci := 4) (ty := .int) (C := RX5) (T := TX5) (N := 3) C0.1 C0.2.1 C0.2.2.2.2 (fun w h9 => hT w (inX5 w h9)) tyX5 tyX5_ok nmX5 C0.2.2.2.1 hE.1 hP (ax_D hJ (fun i hi => ax_Ai hi)) hS 75 (ax_at (by decide) (cD_Shelf)) rfl 2 (by decide) (C0.2.2.2.2 _ (hT _ hl)) (fun _ h9 => h9) rfl (by decide +kernel) rfl rfl (Nat.le_of_ble_eq_true rfl) hdg (fun H1 locs1 hP1 hD1 hS1 => kk H1 locs1 ?_ hS1)
  have e : (ax_w 77 ad (cD cyI cyE ad σ)).set 75 (ad 75, .inr (4, [.ref (ad 72), .ref (ad 3), .int v])) = ax_w 77 ad (cD cyI cyE ad (SDi σ 5 0 v)) := ax_set (by decide) (by rw [cD_Shelf]; simp [SDi, SDj, u2, va_up]) (fun j _ hj => oD_s (by decide) j hj)
  rw [← e]
  exact hP1
theorem g_Desk_ready {σ : SD} (C0 : CallFix p m c cc nL s args Ts own) (hT : ∀ w ∈ bw, w ∈ Ts) (hE : ax_env dC dI cyI cyE tC (ax_A 77 ad s.heap.size) s s.heap) (hP : va_P (dC, dI) vwCl (ax_w 77 ad (cD cyI cyE ad σ)) H) (hl : Cond.fieldLink own idx "ArchiveDesk" "ready" "LArchiveDesk$Row;" ∈ bw) (hdg : decode cc pc = .ok (.getfield idx, 3)) (kk : W p l e R s m args below meth c H locs cells slots Q (F0 m (pc + 3) ls (.ref (ad 0) :: rest))) : W p l e R s m args below meth c H locs cells slots Q (F0 m pc ls (.ref (ad 76) :: rest)) :=
  va_get (D := (dC, dI)) (ci := 5) (C := RX7) (T := TX7) (N := 5) C0.1 C0.2.1 C0.2.2.2.2 (fun w h9 => hT w (inX7 w h9)) C0.2.2.2.1 hE.1 hP 76 (ax_at (by decide) (cD_Desk)) rfl 0 (by decide) (C0.2.2.2.2 _ (hT _ hl)) (fun _ h9 => h9) rfl hdg kk
theorem g_Desk_tape {σ : SD} (C0 : CallFix p m c cc nL s args Ts own) (hT : ∀ w ∈ bw, w ∈ Ts) (hE : ax_env dC dI cyI cyE tC (ax_A 77 ad s.heap.size) s s.heap) (hP : va_P (dC, dI) vwCl (ax_w 77 ad (cD cyI cyE ad σ)) H) (hl : Cond.fieldLink own idx "ArchiveDesk" "tape" "LArchiveDesk$Row;" ∈ bw) (hdg : decode cc pc = .ok (.getfield idx, 3)) (kk : W p l e R s m args below meth c H locs cells slots Q (F0 m (pc + 3) ls (.ref (ad 1) :: rest))) : W p l e R s m args below meth c H locs cells slots Q (F0 m pc ls (.ref (ad 76) :: rest)) :=
  va_get (D := (dC, dI)) (ci := 5) (C := RX7) (T := TX7) (N := 5) C0.1 C0.2.1 C0.2.2.2.2 (fun w h9 => hT w (inX7 w h9)) C0.2.2.2.1 hE.1 hP 76 (ax_at (by decide) (cD_Desk)) rfl 1 (by decide) (C0.2.2.2.2 _ (hT _ hl)) (fun _ h9 => h9) rfl hdg kk
theorem g_Desk_output {σ : SD} (C0 : CallFix p m c cc nL s args Ts own) (hT : ∀ w ∈ bw, w ∈ Ts) (hE : ax_env dC dI cyI cyE tC (ax_A 77 ad s.heap.size) s s.heap) (hP : va_P (dC, dI) vwCl (ax_w 77 ad (cD cyI cyE ad σ)) H) (hl : Cond.fieldLink own idx "ArchiveDesk" "output" "LArchiveDesk$Row;" ∈ bw) (hdg : decode cc pc = .ok (.getfield idx, 3)) (kk : W p l e R s m args below meth c H locs cells slots Q (F0 m (pc + 3) ls (.ref (ad 2) :: rest))) : W p l e R s m args below meth c H locs cells slots Q (F0 m pc ls (.ref (ad 76) :: rest)) :=
  va_get (D := (dC, dI)) (ci := 5) (C := RX7) (T := TX7) (N := 5) C0.1 C0.2.1 C0.2.2.2.2 (fun w h9 => hT w (inX7 w h9)) C0.2.2.2.1 hE.1 hP 76 (ax_at (by decide) (cD_Desk)) rfl 2 (by decide) (C0.2.2.2.2 _ (hT _ hl)) (fun _ h9 => h9) rfl hdg kk
theorem g_Desk_shelf {σ : SD} (C0 : CallFix p m c cc nL s args Ts own) (hT : ∀ w ∈ bw, w ∈ Ts) (hE : ax_env dC dI cyI cyE tC (ax_A 77 ad s.heap.size) s s.heap) (hP : va_P (dC, dI) vwCl (ax_w 77 ad (cD cyI cyE ad σ)) H) (hl : Cond.fieldLink own idx "ArchiveDesk" "shelf" "LArchiveDesk$Shelf;" ∈ bw) (hdg : decode cc pc = .ok (.getfield idx, 3)) (kk : W p l e R s m args below meth c H locs cells slots Q (F0 m (pc + 3) ls (.ref (ad 75) :: rest))) : W p l e R s m args below meth c H locs cells slots Q (F0 m pc ls (.ref (ad 76) :: rest)) :=
  va_get (D := (dC, dI)) (ci := 5) (C := RX7) (T := TX7) (N := 5) C0.1 C0.2.1 C0.2.2.2.2 (fun w h9 => hT w (inX7 w h9)) C0.2.2.2.1 hE.1 hP 76 (ax_at (by decide) (cD_Desk)) rfl 3 (by decide) (C0.2.2.2.2 _ (hT _ hl)) (fun _ h9 => h9) rfl hdg kk
theorem g_Desk_reader {σ : SD} (C0 : CallFix p m c cc nL s args Ts own) (hT : ∀ w ∈ bw, w ∈ Ts) (hE : ax_env dC dI cyI cyE tC (ax_A 77 ad s.heap.size) s s.heap) (hP : va_P (dC, dI) vwCl (ax_w 77 ad (cD cyI cyE ad σ)) H) (hl : Cond.fieldLink own idx "ArchiveDesk" "reader" "LArchiveDesk$Reader;" ∈ bw) (hdg : decode cc pc = .ok (.getfield idx, 3)) (kk : W p l e R s m args below meth c H locs cells slots Q (F0 m (pc + 3) ls (.ref (ad 74) :: rest))) : W p l e R s m args below meth c H locs cells slots Q (F0 m pc ls (.ref (ad 76) :: rest)) :=
  va_get (D := (dC, dI)) (ci := 5) (C := RX7) (T := TX7) (N := 5) C0.1 C0.2.1 C0.2.2.2.2 (fun w h9 => hT w (inX7 w h9)) C0.2.2.2.1 hE.1 hP 76 (ax_at (by decide) (cD_Desk)) rfl 4 (by decide) (C0.2.2.2.2 _ (hT _ hl)) (fun _ h9 => h9) rfl hdg kk
theorem aD_ld {σ : SD} {a : Nat} (h : a < 27) {i : Int32} (C0 : CallFix p m c cc nL s args Ts own) (hT : ∀ w ∈ bw, w ∈ Ts) (hE : ax_env dC dI cyI cyE tC (ax_A 77 ad s.heap.size) s s.heap) (hP : va_P (dC, dI) vwCl (ax_w 77 ad (cD cyI cyE ad σ)) H) (hin : vp_in i (capD a)) (hdg : decode cc pc = .ok (.iaload, 1)) (kk : W p l e R s m args below meth c H locs cells slots Q (F0 m (pc + 1) ls (.int (σ.2.2.1 a i.toNatClampNeg) :: rest))) : W p l e R s m args below meth c H locs cells slots Q (F0 m pc ls (.int i :: .ref (ad (25 + a)) :: rest)) :=
  va_iald C0.1 C0.2.1 hE.1 hP (25 + a) 0 (ax_at (by omega) (cD_A h)) rfl hin hdg kk
theorem aD_st {σ : SD} {a : Nat} (h : a < 27) {i x : Int32} (C0 : CallFix p m c cc nL s args Ts own) (hT : ∀ w ∈ bw, w ∈ Ts) (hE : ax_env dC dI cyI cyE tC (ax_A 77 ad s.heap.size) s s.heap) (hJ : ax_J 77 ad) (hP : va_P (dC, dI) vwCl (ax_w 77 ad (cD cyI cyE ad σ)) H) (hS : va_S (ax_A 77 ad s.heap.size) s.heap H locs) (hin : vp_in i (capD a)) (hdg : decode cc pc = .ok (.iastore, 1)) (kk : ∀ (H1 : Heap) (locs1 : List Loc), va_P (dC, dI) vwCl (ax_w 77 ad (cD cyI cyE ad (SDc σ a (upd (σ.2.2.1 a) i.toNatClampNeg x)))) H1 → va_S (ax_A 77 ad s.heap.size) s.heap H1 locs1 → W p l e R s m args below meth c H1 locs1 cells slots Q (F0 m (pc + 1) ls rest)) : W p l e R s m args below meth c H locs cells slots Q (F0 m pc ls (.int x :: .int i :: .ref (ad (25 + a)) :: rest)) := by
  refine va_iast C0.1 C0.2.1 hE.1 hP (ax_D hJ (fun i hi => ax_Ai hi)) hS (25 + a) 0 (ax_at (by omega) (cD_A h)) rfl hin hdg (fun H1 locs1 hP1 hD1 hS1 => kk H1 locs1 ?_ hS1)
  have e : (ax_w 77 ad (cD cyI cyE ad σ)).set (25 + a) (ad (25 + a), .inl (cyI, capD a, .inl (upd (σ.2.2.1 a) i.toNatClampNeg x))) = ax_w 77 ad (cD cyI cyE ad (SDc σ a (upd (σ.2.2.1 a) i.toNatClampNeg x))) := ax_set (by omega) (by rw [cD_A h]; simp [SDc, va_up]) (fun j _ hj => oD_c j hj)
  rw [← e]
  exact hP1
theorem aD_len {σ : SD} {a : Nat} (h : a < 27) (C0 : CallFix p m c cc nL s args Ts own) (hT : ∀ w ∈ bw, w ∈ Ts) (hE : ax_env dC dI cyI cyE tC (ax_A 77 ad s.heap.size) s s.heap) (hP : va_P (dC, dI) vwCl (ax_w 77 ad (cD cyI cyE ad σ)) H) (hdg : decode cc pc = .ok (.arraylength, 1)) (kk : W p l e R s m args below meth c H locs cells slots Q (F0 m (pc + 1) ls (.int (Int32.ofNat (capD a)) :: rest))) : W p l e R s m args below meth c H locs cells slots Q (F0 m pc ls (.ref (ad (25 + a)) :: rest)) :=
  va_alen C0.1 C0.2.1 hE.1 hP (25 + a) 0 (ax_at (by omega) (cD_A h)) rfl rfl hdg kk
theorem aD_lde {σ : SD} {i : Int32} (C0 : CallFix p m c cc nL s args Ts own) (hT : ∀ w ∈ bw, w ∈ Ts) (hE : ax_env dC dI cyI cyE tC (ax_A 77 ad s.heap.size) s s.heap) (hP : va_P (dC, dI) vwCl (ax_w 77 ad (cD cyI cyE ad σ)) H) (hin : vp_in i 20) (hdg : decode cc pc = .ok (.aaload, 1)) (kk : W p l e R s m args below meth c H locs cells slots Q (F0 m (pc + 1) ls (.ref (ad (52 + σ.2.2.2 i.toNatClampNeg)) :: rest))) : W p l e R s m args below meth c H locs cells slots Q (F0 m pc ls (.int i :: .ref (ad 72) :: rest)) :=
  va_aldq C0.1 C0.2.1 hE.1 hP 72 1 (ax_at (by decide) cD_E) rfl hin hdg kk
theorem aD_ste {σ : SD} {k : Nat} (h : k < 20) {i : Int32} (C0 : CallFix p m c cc nL s args Ts own) (hT : ∀ w ∈ bw, w ∈ Ts) (hE : ax_env dC dI cyI cyE tC (ax_A 77 ad s.heap.size) s s.heap) (hJ : ax_J 77 ad) (hP : va_P (dC, dI) vwCl (ax_w 77 ad (cD cyI cyE ad σ)) H) (hS : va_S (ax_A 77 ad s.heap.size) s.heap H locs) (hin : vp_in i 20) (hdg : decode cc pc = .ok (.aastore, 1)) (kk : ∀ (H1 : Heap) (locs1 : List Loc), va_P (dC, dI) vwCl (ax_w 77 ad (cD cyI cyE ad (SDe σ i.toNatClampNeg k))) H1 → va_S (ax_A 77 ad s.heap.size) s.heap H1 locs1 → W p l e R s m args below meth c H1 locs1 cells slots Q (F0 m (pc + 1) ls rest)) : W p l e R s m args below meth c H locs cells slots Q (F0 m pc ls (.ref (ad (52 + k)) :: .int i :: .ref (ad 72) :: rest)) := by
  refine va_astq C0.1 C0.2.1 hE.1 hP (ax_D hJ (fun i hi => ax_Ai hi)) hS 72 1 (52 + k) 0 (ax_at (by decide) cD_E) rfl (ax_at (by omega) (cD_Entry h)) rfl hin hdg (fun H1 locs1 hP1 hD1 hS1 => kk H1 locs1 ?_ hS1)
  have e : (ax_w 77 ad (cD cyI cyE ad σ)).set 72 (ad 72, .inl (cyE, 20, .inr (.inr (.inr (.inr (va_up (fun k => some (ad (52 + σ.2.2.2 k))) i.toNatClampNeg (some (ad (52 + k))))))))) = ax_w 77 ad (cD cyI cyE ad (SDe σ i.toNatClampNeg k)) := ax_set (by decide) (by
      rw [cD_E]
      refine congrArg (fun z => Sum.inl (cyE, 20, Sum.inr (Sum.inr (Sum.inr (Sum.inr z))))) (funext fun z => ?_)
      simp only [SDe, va_up]
      split <;> rfl) (fun j _ hj => oD_x j hj)
  rw [← e]
  exact hP1
theorem aD_lne {σ : SD} (C0 : CallFix p m c cc nL s args Ts own) (hT : ∀ w ∈ bw, w ∈ Ts) (hE : ax_env dC dI cyI cyE tC (ax_A 77 ad s.heap.size) s s.heap) (hP : va_P (dC, dI) vwCl (ax_w 77 ad (cD cyI cyE ad σ)) H) (hdg : decode cc pc = .ok (.arraylength, 1)) (kk : W p l e R s m args below meth c H locs cells slots Q (F0 m (pc + 1) ls (.int 20 :: rest))) : W p l e R s m args below meth c H locs cells slots Q (F0 m pc ls (.ref (ad 72) :: rest)) :=
  va_alen C0.1 C0.2.1 hE.1 hP 72 1 (ax_at (by decide) cD_E) rfl rfl hdg kk
theorem g_Model_thrown {σ : SM} (C0 : CallFix p m c cc nL s args Ts own) (hT : ∀ w ∈ bw, w ∈ Ts) (hE : ax_env dC dI cyI cyE tC (ax_A 12 ad s.heap.size) s s.heap) (hP : va_P (dC, dI) vwCl (ax_w 12 ad (cM cyI ad σ)) H) (hl : Cond.fieldLink own idx "ArchiveDeskModel" "thrown" "I" ∈ bw) (hdg : decode cc pc = .ok (.getfield idx, 3)) (kk : W p l e R s m args below meth c H locs cells slots Q (F0 m (pc + 3) ls (.int (σ.1 0) :: rest))) : W p l e R s m args below meth c H locs cells slots Q (F0 m pc ls (.ref (ad 11) :: rest)) :=
  va_get (D := (dC, dI)) (ci := 6) (C := RX8) (T := TX8) (N := 19) C0.1 C0.2.1 C0.2.2.2.2 (fun w h9 => hT w (inX8 w h9)) C0.2.2.2.1 hE.1 hP 11 (ax_at (by decide) cM_O) rfl 0 (by decide) (C0.2.2.2.2 _ (hT _ hl)) (fun _ h9 => h9) rfl hdg kk
theorem p_Model_thrown {σ : SM} {v : Int32} (C0 : CallFix p m c cc nL s args Ts own) (hT : ∀ w ∈ bw, w ∈ Ts) (hE : ax_env dC dI cyI cyE tC (ax_A 12 ad s.heap.size) s s.heap) (hJ : ax_J 12 ad) (hP : va_P (dC, dI) vwCl (ax_w 12 ad (cM cyI ad σ)) H) (hS : va_S (ax_A 12 ad s.heap.size) s.heap H locs) (hl : Cond.fieldLink own idx "ArchiveDeskModel" "thrown" "I" ∈ bw) (hdg : decode cc pc = .ok (.putfield idx, 3)) (kk : ∀ (H1 : Heap) (locs1 : List Loc), va_P (dC, dI) vwCl (ax_w 12 ad (cM cyI ad (SMi σ 0 v))) H1 → va_S (ax_A 12 ad s.heap.size) s.heap H1 locs1 → W p l e R s m args below meth c H1 locs1 cells slots Q (F0 m (pc + 3) ls rest)) : W p l e R s m args below meth c H locs cells slots Q (F0 m pc ls (.int v :: .ref (ad 11) :: rest)) := by
  refine va_put (D := (dC, dI)) (ci := 6) (ty := .int) (C := RX8) (T := TX8) (N := 19) C0.1 C0.2.1 C0.2.2.2.2 (fun w h9 => hT w (inX8 w h9)) tyX8 tyX8_ok nmX8 C0.2.2.2.1 hE.1 hP (ax_D hJ (fun i hi => ax_Ai hi)) hS 11 (ax_at (by decide) cM_O) rfl 0 (by decide) (C0.2.2.2.2 _ (hT _ hl)) (fun _ h9 => h9) rfl (by decide +kernel) rfl rfl (Nat.le_of_ble_eq_true rfl) hdg (fun H1 locs1 hP1 hD1 hS1 => kk H1 locs1 ?_ hS1)
  have e : (ax_w 12 ad (cM cyI ad σ)).set 11 (ad 11, .inr (6, [.int v, .ref (ad 0), .ref (ad 1), .int (σ.1 1), .ref (ad 2), .int (σ.1 2), .int (σ.1 3), .ref (ad 3), .ref (ad 4), .ref (ad 5), .ref (ad 6), .int (σ.1 4), .int (σ.1 5), .int (σ.1 6), .ref (ad 7), .int (σ.1 7), .ref (ad 8), .ref (ad 9), .ref (ad 10)])) = ax_w 12 ad (cM cyI ad (SMi σ 0 v)) := ax_set (by decide) rfl (fun j h hj => oM_i j h hj)
  rw [← e]
  exact hP1
theorem g_Model_ready {σ : SM} (C0 : CallFix p m c cc nL s args Ts own) (hT : ∀ w ∈ bw, w ∈ Ts) (hE : ax_env dC dI cyI cyE tC (ax_A 12 ad s.heap.size) s s.heap) (hP : va_P (dC, dI) vwCl (ax_w 12 ad (cM cyI ad σ)) H) (hl : Cond.fieldLink own idx "ArchiveDeskModel" "ready" "[I" ∈ bw) (hdg : decode cc pc = .ok (.getfield idx, 3)) (kk : W p l e R s m args below meth c H locs cells slots Q (F0 m (pc + 3) ls (.ref (ad 0) :: rest))) : W p l e R s m args below meth c H locs cells slots Q (F0 m pc ls (.ref (ad 11) :: rest)) :=
  va_get (D := (dC, dI)) (ci := 6) (C := RX8) (T := TX8) (N := 19) C0.1 C0.2.1 C0.2.2.2.2 (fun w h9 => hT w (inX8 w h9)) C0.2.2.2.1 hE.1 hP 11 (ax_at (by decide) cM_O) rfl 1 (by decide) (C0.2.2.2.2 _ (hT _ hl)) (fun _ h9 => h9) rfl hdg kk
theorem g_Model_tape {σ : SM} (C0 : CallFix p m c cc nL s args Ts own) (hT : ∀ w ∈ bw, w ∈ Ts) (hE : ax_env dC dI cyI cyE tC (ax_A 12 ad s.heap.size) s s.heap) (hP : va_P (dC, dI) vwCl (ax_w 12 ad (cM cyI ad σ)) H) (hl : Cond.fieldLink own idx "ArchiveDeskModel" "tape" "[I" ∈ bw) (hdg : decode cc pc = .ok (.getfield idx, 3)) (kk : W p l e R s m args below meth c H locs cells slots Q (F0 m (pc + 3) ls (.ref (ad 1) :: rest))) : W p l e R s m args below meth c H locs cells slots Q (F0 m pc ls (.ref (ad 11) :: rest)) :=
  va_get (D := (dC, dI)) (ci := 6) (C := RX8) (T := TX8) (N := 19) C0.1 C0.2.1 C0.2.2.2.2 (fun w h9 => hT w (inX8 w h9)) C0.2.2.2.1 hE.1 hP 11 (ax_at (by decide) cM_O) rfl 2 (by decide) (C0.2.2.2.2 _ (hT _ hl)) (fun _ h9 => h9) rfl hdg kk
theorem g_Model_size {σ : SM} (C0 : CallFix p m c cc nL s args Ts own) (hT : ∀ w ∈ bw, w ∈ Ts) (hE : ax_env dC dI cyI cyE tC (ax_A 12 ad s.heap.size) s s.heap) (hP : va_P (dC, dI) vwCl (ax_w 12 ad (cM cyI ad σ)) H) (hl : Cond.fieldLink own idx "ArchiveDeskModel" "size" "I" ∈ bw) (hdg : decode cc pc = .ok (.getfield idx, 3)) (kk : W p l e R s m args below meth c H locs cells slots Q (F0 m (pc + 3) ls (.int (σ.1 1) :: rest))) : W p l e R s m args below meth c H locs cells slots Q (F0 m pc ls (.ref (ad 11) :: rest)) :=
  va_get (D := (dC, dI)) (ci := 6) (C := RX8) (T := TX8) (N := 19) C0.1 C0.2.1 C0.2.2.2.2 (fun w h9 => hT w (inX8 w h9)) C0.2.2.2.1 hE.1 hP 11 (ax_at (by decide) cM_O) rfl 3 (by decide) (C0.2.2.2.2 _ (hT _ hl)) (fun _ h9 => h9) rfl hdg kk
theorem p_Model_size {σ : SM} {v : Int32} (C0 : CallFix p m c cc nL s args Ts own) (hT : ∀ w ∈ bw, w ∈ Ts) (hE : ax_env dC dI cyI cyE tC (ax_A 12 ad s.heap.size) s s.heap) (hJ : ax_J 12 ad) (hP : va_P (dC, dI) vwCl (ax_w 12 ad (cM cyI ad σ)) H) (hS : va_S (ax_A 12 ad s.heap.size) s.heap H locs) (hl : Cond.fieldLink own idx "ArchiveDeskModel" "size" "I" ∈ bw) (hdg : decode cc pc = .ok (.putfield idx, 3)) (kk : ∀ (H1 : Heap) (locs1 : List Loc), va_P (dC, dI) vwCl (ax_w 12 ad (cM cyI ad (SMi σ 1 v))) H1 → va_S (ax_A 12 ad s.heap.size) s.heap H1 locs1 → W p l e R s m args below meth c H1 locs1 cells slots Q (F0 m (pc + 3) ls rest)) : W p l e R s m args below meth c H locs cells slots Q (F0 m pc ls (.int v :: .ref (ad 11) :: rest)) := by
  refine va_put (D := (dC, dI)) (ci := 6) (ty := .int) (C := RX8) (T := TX8) (N := 19) C0.1 C0.2.1 C0.2.2.2.2 (fun w h9 => hT w (inX8 w h9)) tyX8 tyX8_ok nmX8 C0.2.2.2.1 hE.1 hP (ax_D hJ (fun i hi => ax_Ai hi)) hS 11 (ax_at (by decide) cM_O) rfl 3 (by decide) (C0.2.2.2.2 _ (hT _ hl)) (fun _ h9 => h9) rfl (by decide +kernel) rfl rfl (Nat.le_of_ble_eq_true rfl) hdg (fun H1 locs1 hP1 hD1 hS1 => kk H1 locs1 ?_ hS1)
  have e : (ax_w 12 ad (cM cyI ad σ)).set 11 (ad 11, .inr (6, [.int (σ.1 0), .ref (ad 0), .ref (ad 1), .int v, .ref (ad 2), .int (σ.1 2), .int (σ.1 3), .ref (ad 3), .ref (ad 4), .ref (ad 5), .ref (ad 6), .int (σ.1 4), .int (σ.1 5), .int (σ.1 6), .ref (ad 7), .int (σ.1 7), .ref (ad 8), .ref (ad 9), .ref (ad 10)])) = ax_w 12 ad (cM cyI ad (SMi σ 1 v)) := ax_set (by decide) rfl (fun j h hj => oM_i j h hj)
  rw [← e]
  exact hP1
theorem g_Model_output {σ : SM} (C0 : CallFix p m c cc nL s args Ts own) (hT : ∀ w ∈ bw, w ∈ Ts) (hE : ax_env dC dI cyI cyE tC (ax_A 12 ad s.heap.size) s s.heap) (hP : va_P (dC, dI) vwCl (ax_w 12 ad (cM cyI ad σ)) H) (hl : Cond.fieldLink own idx "ArchiveDeskModel" "output" "[I" ∈ bw) (hdg : decode cc pc = .ok (.getfield idx, 3)) (kk : W p l e R s m args below meth c H locs cells slots Q (F0 m (pc + 3) ls (.ref (ad 2) :: rest))) : W p l e R s m args below meth c H locs cells slots Q (F0 m pc ls (.ref (ad 11) :: rest)) :=
  va_get (D := (dC, dI)) (ci := 6) (C := RX8) (T := TX8) (N := 19) C0.1 C0.2.1 C0.2.2.2.2 (fun w h9 => hT w (inX8 w h9)) C0.2.2.2.1 hE.1 hP 11 (ax_at (by decide) cM_O) rfl 4 (by decide) (C0.2.2.2.2 _ (hT _ hl)) (fun _ h9 => h9) rfl hdg kk
theorem g_Model_outputSize {σ : SM} (C0 : CallFix p m c cc nL s args Ts own) (hT : ∀ w ∈ bw, w ∈ Ts) (hE : ax_env dC dI cyI cyE tC (ax_A 12 ad s.heap.size) s s.heap) (hP : va_P (dC, dI) vwCl (ax_w 12 ad (cM cyI ad σ)) H) (hl : Cond.fieldLink own idx "ArchiveDeskModel" "outputSize" "I" ∈ bw) (hdg : decode cc pc = .ok (.getfield idx, 3)) (kk : W p l e R s m args below meth c H locs cells slots Q (F0 m (pc + 3) ls (.int (σ.1 2) :: rest))) : W p l e R s m args below meth c H locs cells slots Q (F0 m pc ls (.ref (ad 11) :: rest)) :=
  va_get (D := (dC, dI)) (ci := 6) (C := RX8) (T := TX8) (N := 19) C0.1 C0.2.1 C0.2.2.2.2 (fun w h9 => hT w (inX8 w h9)) C0.2.2.2.1 hE.1 hP 11 (ax_at (by decide) cM_O) rfl 5 (by decide) (C0.2.2.2.2 _ (hT _ hl)) (fun _ h9 => h9) rfl hdg kk
theorem p_Model_outputSize {σ : SM} {v : Int32} (C0 : CallFix p m c cc nL s args Ts own) (hT : ∀ w ∈ bw, w ∈ Ts) (hE : ax_env dC dI cyI cyE tC (ax_A 12 ad s.heap.size) s s.heap) (hJ : ax_J 12 ad) (hP : va_P (dC, dI) vwCl (ax_w 12 ad (cM cyI ad σ)) H) (hS : va_S (ax_A 12 ad s.heap.size) s.heap H locs) (hl : Cond.fieldLink own idx "ArchiveDeskModel" "outputSize" "I" ∈ bw) (hdg : decode cc pc = .ok (.putfield idx, 3)) (kk : ∀ (H1 : Heap) (locs1 : List Loc), va_P (dC, dI) vwCl (ax_w 12 ad (cM cyI ad (SMi σ 2 v))) H1 → va_S (ax_A 12 ad s.heap.size) s.heap H1 locs1 → W p l e R s m args below meth c H1 locs1 cells slots Q (F0 m (pc + 3) ls rest)) : W p l e R s m args below meth c H locs cells slots Q (F0 m pc ls (.int v :: .ref (ad 11) :: rest)) := by
  refine va_put (D := (dC, dI)) (ci := 6) (ty := .int) (C := RX8) (T := TX8) (N := 19) C0.1 C0.2.1 C0.2.2.2.2 (fun w h9 => hT w (inX8 w h9)) tyX8 tyX8_ok nmX8 C0.2.2.2.1 hE.1 hP (ax_D hJ (fun i hi => ax_Ai hi)) hS 11 (ax_at (by decide) cM_O) rfl 5 (by decide) (C0.2.2.2.2 _ (hT _ hl)) (fun _ h9 => h9) rfl (by decide +kernel) rfl rfl (Nat.le_of_ble_eq_true rfl) hdg (fun H1 locs1 hP1 hD1 hS1 => kk H1 locs1 ?_ hS1)
  have e : (ax_w 12 ad (cM cyI ad σ)).set 11 (ad 11, .inr (6, [.int (σ.1 0), .ref (ad 0), .ref (ad 1), .int (σ.1 1), .ref (ad 2), .int v, .int (σ.1 3), .ref (ad 3), .ref (ad 4), .ref (ad 5), .ref (ad 6), .int (σ.1 4), .int (σ.1 5), .int (σ.1 6), .ref (ad 7), .int (σ.1 7), .ref (ad 8), .ref (ad 9), .ref (ad 10)])) = ax_w 12 ad (cM cyI ad (SMi σ 2 v)) := ax_set (by decide) rfl (fun j h hj => oM_i j h hj)
  rw [← e]
  exact hP1
theorem g_Model_files {σ : SM} (C0 : CallFix p m c cc nL s args Ts own) (hT : ∀ w ∈ bw, w ∈ Ts) (hE : ax_env dC dI cyI cyE tC (ax_A 12 ad s.heap.size) s s.heap) (hP : va_P (dC, dI) vwCl (ax_w 12 ad (cM cyI ad σ)) H) (hl : Cond.fieldLink own idx "ArchiveDeskModel" "files" "I" ∈ bw) (hdg : decode cc pc = .ok (.getfield idx, 3)) (kk : W p l e R s m args below meth c H locs cells slots Q (F0 m (pc + 3) ls (.int (σ.1 3) :: rest))) : W p l e R s m args below meth c H locs cells slots Q (F0 m pc ls (.ref (ad 11) :: rest)) :=
  va_get (D := (dC, dI)) (ci := 6) (C := RX8) (T := TX8) (N := 19) C0.1 C0.2.1 C0.2.2.2.2 (fun w h9 => hT w (inX8 w h9)) C0.2.2.2.1 hE.1 hP 11 (ax_at (by decide) cM_O) rfl 6 (by decide) (C0.2.2.2.2 _ (hT _ hl)) (fun _ h9 => h9) rfl hdg kk
theorem p_Model_files {σ : SM} {v : Int32} (C0 : CallFix p m c cc nL s args Ts own) (hT : ∀ w ∈ bw, w ∈ Ts) (hE : ax_env dC dI cyI cyE tC (ax_A 12 ad s.heap.size) s s.heap) (hJ : ax_J 12 ad) (hP : va_P (dC, dI) vwCl (ax_w 12 ad (cM cyI ad σ)) H) (hS : va_S (ax_A 12 ad s.heap.size) s.heap H locs) (hl : Cond.fieldLink own idx "ArchiveDeskModel" "files" "I" ∈ bw) (hdg : decode cc pc = .ok (.putfield idx, 3)) (kk : ∀ (H1 : Heap) (locs1 : List Loc), va_P (dC, dI) vwCl (ax_w 12 ad (cM cyI ad (SMi σ 3 v))) H1 → va_S (ax_A 12 ad s.heap.size) s.heap H1 locs1 → W p l e R s m args below meth c H1 locs1 cells slots Q (F0 m (pc + 3) ls rest)) : W p l e R s m args below meth c H locs cells slots Q (F0 m pc ls (.int v :: .ref (ad 11) :: rest)) := by
  refine va_put (D := (dC, dI)) (ci := 6) (ty := .int) (C := RX8) (T := TX8) (N := 19) C0.1 C0.2.1 C0.2.2.2.2 (fun w h9 => hT w (inX8 w h9)) tyX8 tyX8_ok nmX8 C0.2.2.2.1 hE.1 hP (ax_D hJ (fun i hi => ax_Ai hi)) hS 11 (ax_at (by decide) cM_O) rfl 6 (by decide) (C0.2.2.2.2 _ (hT _ hl)) (fun _ h9 => h9) rfl (by decide +kernel) rfl rfl (Nat.le_of_ble_eq_true rfl) hdg (fun H1 locs1 hP1 hD1 hS1 => kk H1 locs1 ?_ hS1)
  have e : (ax_w 12 ad (cM cyI ad σ)).set 11 (ad 11, .inr (6, [.int (σ.1 0), .ref (ad 0), .ref (ad 1), .int (σ.1 1), .ref (ad 2), .int (σ.1 2), .int v, .ref (ad 3), .ref (ad 4), .ref (ad 5), .ref (ad 6), .int (σ.1 4), .int (σ.1 5), .int (σ.1 6), .ref (ad 7), .int (σ.1 7), .ref (ad 8), .ref (ad 9), .ref (ad 10)])) = ax_w 12 ad (cM cyI ad (SMi σ 3 v)) := ax_set (by decide) rfl (fun j h hj => oM_i j h hj)
  rw [← e]
  exact hP1
theorem g_Model_names {σ : SM} (C0 : CallFix p m c cc nL s args Ts own) (hT : ∀ w ∈ bw, w ∈ Ts) (hE : ax_env dC dI cyI cyE tC (ax_A 12 ad s.heap.size) s s.heap) (hP : va_P (dC, dI) vwCl (ax_w 12 ad (cM cyI ad σ)) H) (hl : Cond.fieldLink own idx "ArchiveDeskModel" "names" "[I" ∈ bw) (hdg : decode cc pc = .ok (.getfield idx, 3)) (kk : W p l e R s m args below meth c H locs cells slots Q (F0 m (pc + 3) ls (.ref (ad 3) :: rest))) : W p l e R s m args below meth c H locs cells slots Q (F0 m pc ls (.ref (ad 11) :: rest)) :=
  va_get (D := (dC, dI)) (ci := 6) (C := RX8) (T := TX8) (N := 19) C0.1 C0.2.1 C0.2.2.2.2 (fun w h9 => hT w (inX8 w h9)) C0.2.2.2.1 hE.1 hP 11 (ax_at (by decide) cM_O) rfl 7 (by decide) (C0.2.2.2.2 _ (hT _ hl)) (fun _ h9 => h9) rfl hdg kk
theorem g_Model_nameSize {σ : SM} (C0 : CallFix p m c cc nL s args Ts own) (hT : ∀ w ∈ bw, w ∈ Ts) (hE : ax_env dC dI cyI cyE tC (ax_A 12 ad s.heap.size) s s.heap) (hP : va_P (dC, dI) vwCl (ax_w 12 ad (cM cyI ad σ)) H) (hl : Cond.fieldLink own idx "ArchiveDeskModel" "nameSize" "[I" ∈ bw) (hdg : decode cc pc = .ok (.getfield idx, 3)) (kk : W p l e R s m args below meth c H locs cells slots Q (F0 m (pc + 3) ls (.ref (ad 4) :: rest))) : W p l e R s m args below meth c H locs cells slots Q (F0 m pc ls (.ref (ad 11) :: rest)) :=
  va_get (D := (dC, dI)) (ci := 6) (C := RX8) (T := TX8) (N := 19) C0.1 C0.2.1 C0.2.2.2.2 (fun w h9 => hT w (inX8 w h9)) C0.2.2.2.1 hE.1 hP 11 (ax_at (by decide) cM_O) rfl 8 (by decide) (C0.2.2.2.2 _ (hT _ hl)) (fun _ h9 => h9) rfl hdg kk
theorem g_Model_bytes {σ : SM} (C0 : CallFix p m c cc nL s args Ts own) (hT : ∀ w ∈ bw, w ∈ Ts) (hE : ax_env dC dI cyI cyE tC (ax_A 12 ad s.heap.size) s s.heap) (hP : va_P (dC, dI) vwCl (ax_w 12 ad (cM cyI ad σ)) H) (hl : Cond.fieldLink own idx "ArchiveDeskModel" "bytes" "[I" ∈ bw) (hdg : decode cc pc = .ok (.getfield idx, 3)) (kk : W p l e R s m args below meth c H locs cells slots Q (F0 m (pc + 3) ls (.ref (ad 5) :: rest))) : W p l e R s m args below meth c H locs cells slots Q (F0 m pc ls (.ref (ad 11) :: rest)) :=
  va_get (D := (dC, dI)) (ci := 6) (C := RX8) (T := TX8) (N := 19) C0.1 C0.2.1 C0.2.2.2.2 (fun w h9 => hT w (inX8 w h9)) C0.2.2.2.1 hE.1 hP 11 (ax_at (by decide) cM_O) rfl 9 (by decide) (C0.2.2.2.2 _ (hT _ hl)) (fun _ h9 => h9) rfl hdg kk
theorem g_Model_many {σ : SM} (C0 : CallFix p m c cc nL s args Ts own) (hT : ∀ w ∈ bw, w ∈ Ts) (hE : ax_env dC dI cyI cyE tC (ax_A 12 ad s.heap.size) s s.heap) (hP : va_P (dC, dI) vwCl (ax_w 12 ad (cM cyI ad σ)) H) (hl : Cond.fieldLink own idx "ArchiveDeskModel" "many" "[I" ∈ bw) (hdg : decode cc pc = .ok (.getfield idx, 3)) (kk : W p l e R s m args below meth c H locs cells slots Q (F0 m (pc + 3) ls (.ref (ad 6) :: rest))) : W p l e R s m args below meth c H locs cells slots Q (F0 m pc ls (.ref (ad 11) :: rest)) :=
  va_get (D := (dC, dI)) (ci := 6) (C := RX8) (T := TX8) (N := 19) C0.1 C0.2.1 C0.2.2.2.2 (fun w h9 => hT w (inX8 w h9)) C0.2.2.2.1 hE.1 hP 11 (ax_at (by decide) cM_O) rfl 10 (by decide) (C0.2.2.2.2 _ (hT _ hl)) (fun _ h9 => h9) rfl hdg kk
theorem g_Model_fault {σ : SM} (C0 : CallFix p m c cc nL s args Ts own) (hT : ∀ w ∈ bw, w ∈ Ts) (hE : ax_env dC dI cyI cyE tC (ax_A 12 ad s.heap.size) s s.heap) (hP : va_P (dC, dI) vwCl (ax_w 12 ad (cM cyI ad σ)) H) (hl : Cond.fieldLink own idx "ArchiveDeskModel" "fault" "I" ∈ bw) (hdg : decode cc pc = .ok (.getfield idx, 3)) (kk : W p l e R s m args below meth c H locs cells slots Q (F0 m (pc + 3) ls (.int (σ.1 4) :: rest))) : W p l e R s m args below meth c H locs cells slots Q (F0 m pc ls (.ref (ad 11) :: rest)) :=
  va_get (D := (dC, dI)) (ci := 6) (C := RX8) (T := TX8) (N := 19) C0.1 C0.2.1 C0.2.2.2.2 (fun w h9 => hT w (inX8 w h9)) C0.2.2.2.1 hE.1 hP 11 (ax_at (by decide) cM_O) rfl 11 (by decide) (C0.2.2.2.2 _ (hT _ hl)) (fun _ h9 => h9) rfl hdg kk
theorem p_Model_fault {σ : SM} {v : Int32} (C0 : CallFix p m c cc nL s args Ts own) (hT : ∀ w ∈ bw, w ∈ Ts) (hE : ax_env dC dI cyI cyE tC (ax_A 12 ad s.heap.size) s s.heap) (hJ : ax_J 12 ad) (hP : va_P (dC, dI) vwCl (ax_w 12 ad (cM cyI ad σ)) H) (hS : va_S (ax_A 12 ad s.heap.size) s.heap H locs) (hl : Cond.fieldLink own idx "ArchiveDeskModel" "fault" "I" ∈ bw) (hdg : decode cc pc = .ok (.putfield idx, 3)) (kk : ∀ (H1 : Heap) (locs1 : List Loc), va_P (dC, dI) vwCl (ax_w 12 ad (cM cyI ad (SMi σ 4 v))) H1 → va_S (ax_A 12 ad s.heap.size) s.heap H1 locs1 → W p l e R s m args below meth c H1 locs1 cells slots Q (F0 m (pc + 3) ls rest)) : W p l e R s m args below meth c H locs cells slots Q (F0 m pc ls (.int v :: .ref (ad 11) :: rest)) := by
  refine va_put (D := (dC, dI)) (ci := 6) (ty := .int) (C := RX8) (T := TX8) (N := 19) C0.1 C0.2.1 C0.2.2.2.2 (fun w h9 => hT w (inX8 w h9)) tyX8 tyX8_ok nmX8 C0.2.2.2.1 hE.1 hP (ax_D hJ (fun i hi => ax_Ai hi)) hS 11 (ax_at (by decide) cM_O) rfl 11 (by decide) (C0.2.2.2.2 _ (hT _ hl)) (fun _ h9 => h9) rfl (by decide +kernel) rfl rfl (Nat.le_of_ble_eq_true rfl) hdg (fun H1 locs1 hP1 hD1 hS1 => kk H1 locs1 ?_ hS1)
  have e : (ax_w 12 ad (cM cyI ad σ)).set 11 (ad 11, .inr (6, [.int (σ.1 0), .ref (ad 0), .ref (ad 1), .int (σ.1 1), .ref (ad 2), .int (σ.1 2), .int (σ.1 3), .ref (ad 3), .ref (ad 4), .ref (ad 5), .ref (ad 6), .int v, .int (σ.1 5), .int (σ.1 6), .ref (ad 7), .int (σ.1 7), .ref (ad 8), .ref (ad 9), .ref (ad 10)])) = ax_w 12 ad (cM cyI ad (SMi σ 4 v)) := ax_set (by decide) rfl (fun j h hj => oM_i j h hj)
  rw [← e]
  exact hP1
theorem g_Model_faultFile {σ : SM} (C0 : CallFix p m c cc nL s args Ts own) (hT : ∀ w ∈ bw, w ∈ Ts) (hE : ax_env dC dI cyI cyE tC (ax_A 12 ad s.heap.size) s s.heap) (hP : va_P (dC, dI) vwCl (ax_w 12 ad (cM cyI ad σ)) H) (hl : Cond.fieldLink own idx "ArchiveDeskModel" "faultFile" "I" ∈ bw) (hdg : decode cc pc = .ok (.getfield idx, 3)) (kk : W p l e R s m args below meth c H locs cells slots Q (F0 m (pc + 3) ls (.int (σ.1 5) :: rest))) : W p l e R s m args below meth c H locs cells slots Q (F0 m pc ls (.ref (ad 11) :: rest)) :=
  va_get (D := (dC, dI)) (ci := 6) (C := RX8) (T := TX8) (N := 19) C0.1 C0.2.1 C0.2.2.2.2 (fun w h9 => hT w (inX8 w h9)) C0.2.2.2.1 hE.1 hP 11 (ax_at (by decide) cM_O) rfl 12 (by decide) (C0.2.2.2.2 _ (hT _ hl)) (fun _ h9 => h9) rfl hdg kk
theorem p_Model_faultFile {σ : SM} {v : Int32} (C0 : CallFix p m c cc nL s args Ts own) (hT : ∀ w ∈ bw, w ∈ Ts) (hE : ax_env dC dI cyI cyE tC (ax_A 12 ad s.heap.size) s s.heap) (hJ : ax_J 12 ad) (hP : va_P (dC, dI) vwCl (ax_w 12 ad (cM cyI ad σ)) H) (hS : va_S (ax_A 12 ad s.heap.size) s.heap H locs) (hl : Cond.fieldLink own idx "ArchiveDeskModel" "faultFile" "I" ∈ bw) (hdg : decode cc pc = .ok (.putfield idx, 3)) (kk : ∀ (H1 : Heap) (locs1 : List Loc), va_P (dC, dI) vwCl (ax_w 12 ad (cM cyI ad (SMi σ 5 v))) H1 → va_S (ax_A 12 ad s.heap.size) s.heap H1 locs1 → W p l e R s m args below meth c H1 locs1 cells slots Q (F0 m (pc + 3) ls rest)) : W p l e R s m args below meth c H locs cells slots Q (F0 m pc ls (.int v :: .ref (ad 11) :: rest)) := by
  refine va_put (D := (dC, dI)) (ci := 6) (ty := .int) (C := RX8) (T := TX8) (N := 19) C0.1 C0.2.1 C0.2.2.2.2 (fun w h9 => hT w (inX8 w h9)) tyX8 tyX8_ok nmX8 C0.2.2.2.1 hE.1 hP (ax_D hJ (fun i hi => ax_Ai hi)) hS 11 (ax_at (by decide) cM_O) rfl 12 (by decide) (C0.2.2.2.2 _ (hT _ hl)) (fun _ h9 => h9) rfl (by decide +kernel) rfl rfl (Nat.le_of_ble_eq_true rfl) hdg (fun H1 locs1 hP1 hD1 hS1 => kk H1 locs1 ?_ hS1)
  have e : (ax_w 12 ad (cM cyI ad σ)).set 11 (ad 11, .inr (6, [.int (σ.1 0), .ref (ad 0), .ref (ad 1), .int (σ.1 1), .ref (ad 2), .int (σ.1 2), .int (σ.1 3), .ref (ad 3), .ref (ad 4), .ref (ad 5), .ref (ad 6), .int (σ.1 4), .int v, .int (σ.1 6), .ref (ad 7), .int (σ.1 7), .ref (ad 8), .ref (ad 9), .ref (ad 10)])) = ax_w 12 ad (cM cyI ad (SMi σ 5 v)) := ax_set (by decide) rfl (fun j h hj => oM_i j h hj)
  rw [← e]
  exact hP1
theorem g_Model_faultPlace {σ : SM} (C0 : CallFix p m c cc nL s args Ts own) (hT : ∀ w ∈ bw, w ∈ Ts) (hE : ax_env dC dI cyI cyE tC (ax_A 12 ad s.heap.size) s s.heap) (hP : va_P (dC, dI) vwCl (ax_w 12 ad (cM cyI ad σ)) H) (hl : Cond.fieldLink own idx "ArchiveDeskModel" "faultPlace" "I" ∈ bw) (hdg : decode cc pc = .ok (.getfield idx, 3)) (kk : W p l e R s m args below meth c H locs cells slots Q (F0 m (pc + 3) ls (.int (σ.1 6) :: rest))) : W p l e R s m args below meth c H locs cells slots Q (F0 m pc ls (.ref (ad 11) :: rest)) :=
  va_get (D := (dC, dI)) (ci := 6) (C := RX8) (T := TX8) (N := 19) C0.1 C0.2.1 C0.2.2.2.2 (fun w h9 => hT w (inX8 w h9)) C0.2.2.2.1 hE.1 hP 11 (ax_at (by decide) cM_O) rfl 13 (by decide) (C0.2.2.2.2 _ (hT _ hl)) (fun _ h9 => h9) rfl hdg kk
theorem p_Model_faultPlace {σ : SM} {v : Int32} (C0 : CallFix p m c cc nL s args Ts own) (hT : ∀ w ∈ bw, w ∈ Ts) (hE : ax_env dC dI cyI cyE tC (ax_A 12 ad s.heap.size) s s.heap) (hJ : ax_J 12 ad) (hP : va_P (dC, dI) vwCl (ax_w 12 ad (cM cyI ad σ)) H) (hS : va_S (ax_A 12 ad s.heap.size) s.heap H locs) (hl : Cond.fieldLink own idx "ArchiveDeskModel" "faultPlace" "I" ∈ bw) (hdg : decode cc pc = .ok (.putfield idx, 3)) (kk : ∀ (H1 : Heap) (locs1 : List Loc), va_P (dC, dI) vwCl (ax_w 12 ad (cM cyI ad (SMi σ 6 v))) H1 → va_S (ax_A 12 ad s.heap.size) s.heap H1 locs1 → W p l e R s m args below meth c H1 locs1 cells slots Q (F0 m (pc + 3) ls rest)) : W p l e R s m args below meth c H locs cells slots Q (F0 m pc ls (.int v :: .ref (ad 11) :: rest)) := by
  refine va_put (D := (dC, dI)) (ci := 6) (ty := .int) (C := RX8) (T := TX8) (N := 19) C0.1 C0.2.1 C0.2.2.2.2 (fun w h9 => hT w (inX8 w h9)) tyX8 tyX8_ok nmX8 C0.2.2.2.1 hE.1 hP (ax_D hJ (fun i hi => ax_Ai hi)) hS 11 (ax_at (by decide) cM_O) rfl 13 (by decide) (C0.2.2.2.2 _ (hT _ hl)) (fun _ h9 => h9) rfl (by decide +kernel) rfl rfl (Nat.le_of_ble_eq_true rfl) hdg (fun H1 locs1 hP1 hD1 hS1 => kk H1 locs1 ?_ hS1)
  have e : (ax_w 12 ad (cM cyI ad σ)).set 11 (ad 11, .inr (6, [.int (σ.1 0), .ref (ad 0), .ref (ad 1), .int (σ.1 1), .ref (ad 2), .int (σ.1 2), .int (σ.1 3), .ref (ad 3), .ref (ad 4), .ref (ad 5), .ref (ad 6), .int (σ.1 4), .int (σ.1 5), .int v, .ref (ad 7), .int (σ.1 7), .ref (ad 8), .ref (ad 9), .ref (ad 10)])) = ax_w 12 ad (cM cyI ad (SMi σ 6 v)) := ax_set (by decide) rfl (fun j h hj => oM_i j h hj)
  rw [← e]
  exact hP1
theorem g_Model_folded {σ : SM} (C0 : CallFix p m c cc nL s args Ts own) (hT : ∀ w ∈ bw, w ∈ Ts) (hE : ax_env dC dI cyI cyE tC (ax_A 12 ad s.heap.size) s s.heap) (hP : va_P (dC, dI) vwCl (ax_w 12 ad (cM cyI ad σ)) H) (hl : Cond.fieldLink own idx "ArchiveDeskModel" "folded" "[I" ∈ bw) (hdg : decode cc pc = .ok (.getfield idx, 3)) (kk : W p l e R s m args below meth c H locs cells slots Q (F0 m (pc + 3) ls (.ref (ad 7) :: rest))) : W p l e R s m args below meth c H locs cells slots Q (F0 m pc ls (.ref (ad 11) :: rest)) :=
  va_get (D := (dC, dI)) (ci := 6) (C := RX8) (T := TX8) (N := 19) C0.1 C0.2.1 C0.2.2.2.2 (fun w h9 => hT w (inX8 w h9)) C0.2.2.2.1 hE.1 hP 11 (ax_at (by decide) cM_O) rfl 14 (by decide) (C0.2.2.2.2 _ (hT _ hl)) (fun _ h9 => h9) rfl hdg kk
theorem g_Model_foldedSize {σ : SM} (C0 : CallFix p m c cc nL s args Ts own) (hT : ∀ w ∈ bw, w ∈ Ts) (hE : ax_env dC dI cyI cyE tC (ax_A 12 ad s.heap.size) s s.heap) (hP : va_P (dC, dI) vwCl (ax_w 12 ad (cM cyI ad σ)) H) (hl : Cond.fieldLink own idx "ArchiveDeskModel" "foldedSize" "I" ∈ bw) (hdg : decode cc pc = .ok (.getfield idx, 3)) (kk : W p l e R s m args below meth c H locs cells slots Q (F0 m (pc + 3) ls (.int (σ.1 7) :: rest))) : W p l e R s m args below meth c H locs cells slots Q (F0 m pc ls (.ref (ad 11) :: rest)) :=
  va_get (D := (dC, dI)) (ci := 6) (C := RX8) (T := TX8) (N := 19) C0.1 C0.2.1 C0.2.2.2.2 (fun w h9 => hT w (inX8 w h9)) C0.2.2.2.1 hE.1 hP 11 (ax_at (by decide) cM_O) rfl 15 (by decide) (C0.2.2.2.2 _ (hT _ hl)) (fun _ h9 => h9) rfl hdg kk
theorem p_Model_foldedSize {σ : SM} {v : Int32} (C0 : CallFix p m c cc nL s args Ts own) (hT : ∀ w ∈ bw, w ∈ Ts) (hE : ax_env dC dI cyI cyE tC (ax_A 12 ad s.heap.size) s s.heap) (hJ : ax_J 12 ad) (hP : va_P (dC, dI) vwCl (ax_w 12 ad (cM cyI ad σ)) H) (hS : va_S (ax_A 12 ad s.heap.size) s.heap H locs) (hl : Cond.fieldLink own idx "ArchiveDeskModel" "foldedSize" "I" ∈ bw) (hdg : decode cc pc = .ok (.putfield idx, 3)) (kk : ∀ (H1 : Heap) (locs1 : List Loc), va_P (dC, dI) vwCl (ax_w 12 ad (cM cyI ad (SMi σ 7 v))) H1 → va_S (ax_A 12 ad s.heap.size) s.heap H1 locs1 → W p l e R s m args below meth c H1 locs1 cells slots Q (F0 m (pc + 3) ls rest)) : W p l e R s m args below meth c H locs cells slots Q (F0 m pc ls (.int v :: .ref (ad 11) :: rest)) := by
  refine va_put (D := (dC, dI)) (ci := 6) (ty := .int) (C := RX8) (T := TX8) (N := 19) C0.1 C0.2.1 C0.2.2.2.2 (fun w h9 => hT w (inX8 w h9)) tyX8 tyX8_ok nmX8 C0.2.2.2.1 hE.1 hP (ax_D hJ (fun i hi => ax_Ai hi)) hS 11 (ax_at (by decide) cM_O) rfl 15 (by decide) (C0.2.2.2.2 _ (hT _ hl)) (fun _ h9 => h9) rfl (by decide +kernel) rfl rfl (Nat.le_of_ble_eq_true rfl) hdg (fun H1 locs1 hP1 hD1 hS1 => kk H1 locs1 ?_ hS1)
  have e : (ax_w 12 ad (cM cyI ad σ)).set 11 (ad 11, .inr (6, [.int (σ.1 0), .ref (ad 0), .ref (ad 1), .int (σ.1 1), .ref (ad 2), .int (σ.1 2), .int (σ.1 3), .ref (ad 3), .ref (ad 4), .ref (ad 5), .ref (ad 6), .int (σ.1 4), .int (σ.1 5), .int (σ.1 6), .ref (ad 7), .int v, .ref (ad 8), .ref (ad 9), .ref (ad 10)])) = ax_w 12 ad (cM cyI ad (SMi σ 7 v)) := ax_set (by decide) rfl (fun j h hj => oM_i j h hj)
  rw [← e]
  exact hP1
theorem g_Model_centralAt {σ : SM} (C0 : CallFix p m c cc nL s args Ts own) (hT : ∀ w ∈ bw, w ∈ Ts) (hE : ax_env dC dI cyI cyE tC (ax_A 12 ad s.heap.size) s s.heap) (hP : va_P (dC, dI) vwCl (ax_w 12 ad (cM cyI ad σ)) H) (hl : Cond.fieldLink own idx "ArchiveDeskModel" "centralAt" "[I" ∈ bw) (hdg : decode cc pc = .ok (.getfield idx, 3)) (kk : W p l e R s m args below meth c H locs cells slots Q (F0 m (pc + 3) ls (.ref (ad 8) :: rest))) : W p l e R s m args below meth c H locs cells slots Q (F0 m pc ls (.ref (ad 11) :: rest)) :=
  va_get (D := (dC, dI)) (ci := 6) (C := RX8) (T := TX8) (N := 19) C0.1 C0.2.1 C0.2.2.2.2 (fun w h9 => hT w (inX8 w h9)) C0.2.2.2.1 hE.1 hP 11 (ax_at (by decide) cM_O) rfl 16 (by decide) (C0.2.2.2.2 _ (hT _ hl)) (fun _ h9 => h9) rfl hdg kk
theorem g_Model_bytesAt {σ : SM} (C0 : CallFix p m c cc nL s args Ts own) (hT : ∀ w ∈ bw, w ∈ Ts) (hE : ax_env dC dI cyI cyE tC (ax_A 12 ad s.heap.size) s s.heap) (hP : va_P (dC, dI) vwCl (ax_w 12 ad (cM cyI ad σ)) H) (hl : Cond.fieldLink own idx "ArchiveDeskModel" "bytesAt" "[I" ∈ bw) (hdg : decode cc pc = .ok (.getfield idx, 3)) (kk : W p l e R s m args below meth c H locs cells slots Q (F0 m (pc + 3) ls (.ref (ad 9) :: rest))) : W p l e R s m args below meth c H locs cells slots Q (F0 m pc ls (.ref (ad 11) :: rest)) :=
  va_get (D := (dC, dI)) (ci := 6) (C := RX8) (T := TX8) (N := 19) C0.1 C0.2.1 C0.2.2.2.2 (fun w h9 => hT w (inX8 w h9)) C0.2.2.2.1 hE.1 hP 11 (ax_at (by decide) cM_O) rfl 17 (by decide) (C0.2.2.2.2 _ (hT _ hl)) (fun _ h9 => h9) rfl hdg kk
theorem g_Model_where {σ : SM} (C0 : CallFix p m c cc nL s args Ts own) (hT : ∀ w ∈ bw, w ∈ Ts) (hE : ax_env dC dI cyI cyE tC (ax_A 12 ad s.heap.size) s s.heap) (hP : va_P (dC, dI) vwCl (ax_w 12 ad (cM cyI ad σ)) H) (hl : Cond.fieldLink own idx "ArchiveDeskModel" "where" "[I" ∈ bw) (hdg : decode cc pc = .ok (.getfield idx, 3)) (kk : W p l e R s m args below meth c H locs cells slots Q (F0 m (pc + 3) ls (.ref (ad 10) :: rest))) : W p l e R s m args below meth c H locs cells slots Q (F0 m pc ls (.ref (ad 11) :: rest)) :=
  va_get (D := (dC, dI)) (ci := 6) (C := RX8) (T := TX8) (N := 19) C0.1 C0.2.1 C0.2.2.2.2 (fun w h9 => hT w (inX8 w h9)) C0.2.2.2.1 hE.1 hP 11 (ax_at (by decide) cM_O) rfl 18 (by decide) (C0.2.2.2.2 _ (hT _ hl)) (fun _ h9 => h9) rfl hdg kk
theorem aM_ld {σ : SM} {a : Nat} (h : a < 11) {i : Int32} (C0 : CallFix p m c cc nL s args Ts own) (hT : ∀ w ∈ bw, w ∈ Ts) (hE : ax_env dC dI cyI cyE tC (ax_A 12 ad s.heap.size) s s.heap) (hP : va_P (dC, dI) vwCl (ax_w 12 ad (cM cyI ad σ)) H) (hin : vp_in i (capM a)) (hdg : decode cc pc = .ok (.iaload, 1)) (kk : W p l e R s m args below meth c H locs cells slots Q (F0 m (pc + 1) ls (.int (σ.2 a i.toNatClampNeg) :: rest))) : W p l e R s m args below meth c H locs cells slots Q (F0 m pc ls (.int i :: .ref (ad a) :: rest)) :=
  va_iald C0.1 C0.2.1 hE.1 hP a 0 (ax_at (by omega) (cM_A h)) rfl hin hdg kk
theorem aM_st {σ : SM} {a : Nat} (h : a < 11) {i x : Int32} (C0 : CallFix p m c cc nL s args Ts own) (hT : ∀ w ∈ bw, w ∈ Ts) (hE : ax_env dC dI cyI cyE tC (ax_A 12 ad s.heap.size) s s.heap) (hJ : ax_J 12 ad) (hP : va_P (dC, dI) vwCl (ax_w 12 ad (cM cyI ad σ)) H) (hS : va_S (ax_A 12 ad s.heap.size) s.heap H locs) (hin : vp_in i (capM a)) (hdg : decode cc pc = .ok (.iastore, 1)) (kk : ∀ (H1 : Heap) (locs1 : List Loc), va_P (dC, dI) vwCl (ax_w 12 ad (cM cyI ad (SMc σ a (upd (σ.2 a) i.toNatClampNeg x)))) H1 → va_S (ax_A 12 ad s.heap.size) s.heap H1 locs1 → W p l e R s m args below meth c H1 locs1 cells slots Q (F0 m (pc + 1) ls rest)) : W p l e R s m args below meth c H locs cells slots Q (F0 m pc ls (.int x :: .int i :: .ref (ad a) :: rest)) := by
  refine va_iast C0.1 C0.2.1 hE.1 hP (ax_D hJ (fun i hi => ax_Ai hi)) hS a 0 (ax_at (by omega) (cM_A h)) rfl hin hdg (fun H1 locs1 hP1 hD1 hS1 => kk H1 locs1 ?_ hS1)
  have e : (ax_w 12 ad (cM cyI ad σ)).set a (ad a, .inl (cyI, capM a, .inl (upd (σ.2 a) i.toNatClampNeg x))) = ax_w 12 ad (cM cyI ad (SMc σ a (upd (σ.2 a) i.toNatClampNeg x))) := ax_set (by omega) (by rw [cM_A h]; simp [SMc, va_up]) (fun j _ hj => oM_c j hj)
  rw [← e]
  exact hP1
end AXF
end
