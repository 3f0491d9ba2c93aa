section
-- ===== PART A: goes FIRST, ahead of the names: the tables' words, and 'selects' of the private methods out of them =====
/-- a private method of a class that the tables say can be made, by its rows of tables_1 -/
def lw_okq (q : MethodName × Nat) : Prop := (q.1.cls ≠ "java/lang/invoke/MethodHandle" ∧ q.1.cls ≠ "java/lang/invoke/VarHandle") ∧ Cond.instantiable q.1.cls q.2 ∈ tables_1 ∧ Cond.privateMethod q.1 ∈ tables_1 ∧ Cond.instanceMethod q.1 ∈ tables_1
theorem lw_p0 : lw_okq (⟨"LogFs", "countInMemory", "(I)I"⟩, 4) := ⟨⟨by decide +kernel, by decide +kernel⟩, List.mem_of_getElem? (i := 16) (by decide +kernel), List.mem_of_getElem? (i := 139) (by decide +kernel), List.mem_of_getElem? (i := 140) (by decide +kernel)⟩
theorem lw_p1 : lw_okq (⟨"LogFs$Volume", "inodeByte", "(II)I"⟩, 2) := ⟨⟨by decide +kernel, by decide +kernel⟩, List.mem_of_getElem? (i := 90) (by decide +kernel), List.mem_of_getElem? (i := 162) (by decide +kernel), List.mem_of_getElem? (i := 163) (by decide +kernel)⟩
theorem lw_p2 : lw_okq (⟨"LogFs", "requirePower", "()V"⟩, 4) := ⟨⟨by decide +kernel, by decide +kernel⟩, List.mem_of_getElem? (i := 16) (by decide +kernel), List.mem_of_getElem? (i := 182) (by decide +kernel), List.mem_of_getElem? (i := 183) (by decide +kernel)⟩
theorem lw_p3 : lw_okq (⟨"java/lang/Throwable", "fillInStackTrace", "(I)Ljava/lang/Throwable;"⟩, 6) := ⟨⟨by decide +kernel, by decide +kernel⟩, List.mem_of_getElem? (i := 224) (by decide +kernel), List.mem_of_getElem? (i := 222) (by decide +kernel), List.mem_of_getElem? (i := 223) (by decide +kernel)⟩
theorem lw_p4 : lw_okq (⟨"LogFs$Volume", "entryAt", "(II)J"⟩, 2) := ⟨⟨by decide +kernel, by decide +kernel⟩, List.mem_of_getElem? (i := 90) (by decide +kernel), List.mem_of_getElem? (i := 279) (by decide +kernel), List.mem_of_getElem? (i := 280) (by decide +kernel)⟩
theorem lw_p5 : lw_okq (⟨"LogFs$Volume", "contentBlock", "(II)I"⟩, 2) := ⟨⟨by decide +kernel, by decide +kernel⟩, List.mem_of_getElem? (i := 90) (by decide +kernel), List.mem_of_getElem? (i := 283) (by decide +kernel), List.mem_of_getElem? (i := 284) (by decide +kernel)⟩
theorem lw_p6 : lw_okq (⟨"LogFs$Volume", "fits", "(II)Z"⟩, 2) := ⟨⟨by decide +kernel, by decide +kernel⟩, List.mem_of_getElem? (i := 90) (by decide +kernel), List.mem_of_getElem? (i := 291) (by decide +kernel), List.mem_of_getElem? (i := 292) (by decide +kernel)⟩
theorem lw_p7 : lw_okq (⟨"LogFs$Volume", "blocksToTake", "(II)I"⟩, 2) := ⟨⟨by decide +kernel, by decide +kernel⟩, List.mem_of_getElem? (i := 90) (by decide +kernel), List.mem_of_getElem? (i := 295) (by decide +kernel), List.mem_of_getElem? (i := 296) (by decide +kernel)⟩
theorem lw_p8 : lw_okq (⟨"LogFs", "commitIfMany", "()V"⟩, 4) := ⟨⟨by decide +kernel, by decide +kernel⟩, List.mem_of_getElem? (i := 16) (by decide +kernel), List.mem_of_getElem? (i := 303) (by decide +kernel), List.mem_of_getElem? (i := 304) (by decide +kernel)⟩
theorem lw_p9 : lw_okq (⟨"LogFs", "commit", "()V"⟩, 4) := ⟨⟨by decide +kernel, by decide +kernel⟩, List.mem_of_getElem? (i := 16) (by decide +kernel), List.mem_of_getElem? (i := 307) (by decide +kernel), List.mem_of_getElem? (i := 308) (by decide +kernel)⟩
theorem lw_p10 : lw_okq (⟨"LogFs$Disk", "storeInLog", "(LLogFs$Memory;)Z"⟩, 4) := ⟨⟨by decide +kernel, by decide +kernel⟩, List.mem_of_getElem? (i := 24) (by decide +kernel), List.mem_of_getElem? (i := 315) (by decide +kernel), List.mem_of_getElem? (i := 316) (by decide +kernel)⟩
theorem lw_p11 : lw_okq (⟨"LogFs$Disk", "storeBlock", "(LLogFs$Blocks;II)Z"⟩, 4) := ⟨⟨by decide +kernel, by decide +kernel⟩, List.mem_of_getElem? (i := 24) (by decide +kernel), List.mem_of_getElem? (i := 320) (by decide +kernel), List.mem_of_getElem? (i := 321) (by decide +kernel)⟩
theorem lw_p12 : lw_okq (⟨"LogFs$Disk", "spendWrite", "()Z"⟩, 4) := ⟨⟨by decide +kernel, by decide +kernel⟩, List.mem_of_getElem? (i := 24) (by decide +kernel), List.mem_of_getElem? (i := 324) (by decide +kernel), List.mem_of_getElem? (i := 325) (by decide +kernel)⟩
theorem lw_p13 : lw_okq (⟨"LogFs$Disk", "storeHead", "(LLogFs$Memory;)Z"⟩, 4) := ⟨⟨by decide +kernel, by decide +kernel⟩, List.mem_of_getElem? (i := 24) (by decide +kernel), List.mem_of_getElem? (i := 332) (by decide +kernel), List.mem_of_getElem? (i := 333) (by decide +kernel)⟩
theorem lw_p14 : lw_okq (⟨"LogFs$Disk", "storeInPlace", "(LLogFs$Memory;)Z"⟩, 4) := ⟨⟨by decide +kernel, by decide +kernel⟩, List.mem_of_getElem? (i := 24) (by decide +kernel), List.mem_of_getElem? (i := 341) (by decide +kernel), List.mem_of_getElem? (i := 342) (by decide +kernel)⟩
theorem lw_p15 : lw_okq (⟨"LogFs$Disk", "clearHead", "()Z"⟩, 4) := ⟨⟨by decide +kernel, by decide +kernel⟩, List.mem_of_getElem? (i := 24) (by decide +kernel), List.mem_of_getElem? (i := 345) (by decide +kernel), List.mem_of_getElem? (i := 346) (by decide +kernel)⟩
def lw_privs_1 : List (MethodName × Nat) := [(⟨"LogFs", "countInMemory", "(I)I"⟩, 4), (⟨"LogFs$Volume", "inodeByte", "(II)I"⟩, 2), (⟨"LogFs", "requirePower", "()V"⟩, 4), (⟨"java/lang/Throwable", "fillInStackTrace", "(I)Ljava/lang/Throwable;"⟩, 6), (⟨"LogFs$Volume", "entryAt", "(II)J"⟩, 2), (⟨"LogFs$Volume", "contentBlock", "(II)I"⟩, 2), (⟨"LogFs$Volume", "fits", "(II)Z"⟩, 2), (⟨"LogFs$Volume", "blocksToTake", "(II)I"⟩, 2), (⟨"LogFs", "commitIfMany", "()V"⟩, 4), (⟨"LogFs", "commit", "()V"⟩, 4), (⟨"LogFs$Disk", "storeInLog", "(LLogFs$Memory;)Z"⟩, 4), (⟨"LogFs$Disk", "storeBlock", "(LLogFs$Blocks;II)Z"⟩, 4), (⟨"LogFs$Disk", "spendWrite", "()Z"⟩, 4), (⟨"LogFs$Disk", "storeHead", "(LLogFs$Memory;)Z"⟩, 4), (⟨"LogFs$Disk", "storeInPlace", "(LLogFs$Memory;)Z"⟩, 4), (⟨"LogFs$Disk", "clearHead", "()Z"⟩, 4)]
theorem lw_r1 : ∀ q ∈ lw_privs_1, lw_okq q := List.forall_mem_cons.mpr ⟨lw_p0, List.forall_mem_cons.mpr ⟨lw_p1, List.forall_mem_cons.mpr ⟨lw_p2, List.forall_mem_cons.mpr ⟨lw_p3, List.forall_mem_cons.mpr ⟨lw_p4, List.forall_mem_cons.mpr ⟨lw_p5, List.forall_mem_cons.mpr ⟨lw_p6, List.forall_mem_cons.mpr ⟨lw_p7, List.forall_mem_cons.mpr ⟨lw_p8, List.forall_mem_cons.mpr ⟨lw_p9, List.forall_mem_cons.mpr ⟨lw_p10, List.forall_mem_cons.mpr ⟨lw_p11, List.forall_mem_cons.mpr ⟨lw_p12, List.forall_mem_cons.mpr ⟨lw_p13, List.forall_mem_cons.mpr ⟨lw_p14, List.forall_mem_cons.mpr ⟨lw_p15, fun _ h => absurd h List.not_mem_nil⟩⟩⟩⟩⟩⟩⟩⟩⟩⟩⟩⟩⟩⟩⟩⟩
theorem lw_p16 : lw_okq (⟨"LogFs$Volume", "setInodeByte", "(III)V"⟩, 2) := ⟨⟨by decide +kernel, by decide +kernel⟩, List.mem_of_getElem? (i := 90) (by decide +kernel), List.mem_of_getElem? (i := 370) (by decide +kernel), List.mem_of_getElem? (i := 371) (by decide +kernel)⟩
theorem lw_p17 : lw_okq (⟨"LogFs$Memory", "markPending", "(I)V"⟩, 3) := ⟨⟨by decide +kernel, by decide +kernel⟩, List.mem_of_getElem? (i := 66) (by decide +kernel), List.mem_of_getElem? (i := 378) (by decide +kernel), List.mem_of_getElem? (i := 379) (by decide +kernel)⟩
theorem lw_p18 : lw_okq (⟨"LogFs$Volume", "putByte", "(III)V"⟩, 2) := ⟨⟨by decide +kernel, by decide +kernel⟩, List.mem_of_getElem? (i := 90) (by decide +kernel), List.mem_of_getElem? (i := 392) (by decide +kernel), List.mem_of_getElem? (i := 393) (by decide +kernel)⟩
theorem lw_p19 : lw_okq (⟨"LogFs$Volume", "addContentBlock", "(II)V"⟩, 2) := ⟨⟨by decide +kernel, by decide +kernel⟩, List.mem_of_getElem? (i := 90) (by decide +kernel), List.mem_of_getElem? (i := 396) (by decide +kernel), List.mem_of_getElem? (i := 397) (by decide +kernel)⟩
theorem lw_p20 : lw_okq (⟨"LogFs$Volume", "takeBlock", "()I"⟩, 2) := ⟨⟨by decide +kernel, by decide +kernel⟩, List.mem_of_getElem? (i := 90) (by decide +kernel), List.mem_of_getElem? (i := 400) (by decide +kernel), List.mem_of_getElem? (i := 401) (by decide +kernel)⟩
theorem lw_p21 : lw_okq (⟨"LogFs$Volume", "leastFreeBlock", "()I"⟩, 2) := ⟨⟨by decide +kernel, by decide +kernel⟩, List.mem_of_getElem? (i := 90) (by decide +kernel), List.mem_of_getElem? (i := 404) (by decide +kernel), List.mem_of_getElem? (i := 405) (by decide +kernel)⟩
theorem lw_p22 : lw_okq (⟨"LogFs$Volume", "growTo", "(II)V"⟩, 2) := ⟨⟨by decide +kernel, by decide +kernel⟩, List.mem_of_getElem? (i := 90) (by decide +kernel), List.mem_of_getElem? (i := 413) (by decide +kernel), List.mem_of_getElem? (i := 414) (by decide +kernel)⟩
theorem lw_p23 : lw_okq (⟨"LogFs$Volume", "giveBack", "(I)V"⟩, 2) := ⟨⟨by decide +kernel, by decide +kernel⟩, List.mem_of_getElem? (i := 90) (by decide +kernel), List.mem_of_getElem? (i := 461) (by decide +kernel), List.mem_of_getElem? (i := 462) (by decide +kernel)⟩
theorem lw_p24 : lw_okq (⟨"LogFsModel", "load", "()V"⟩, 12) := ⟨⟨by decide +kernel, by decide +kernel⟩, List.mem_of_getElem? (i := 581) (by decide +kernel), List.mem_of_getElem? (i := 587) (by decide +kernel), List.mem_of_getElem? (i := 588) (by decide +kernel)⟩
theorem lw_p25 : lw_okq (⟨"LogFsModel", "dead", "()Z"⟩, 12) := ⟨⟨by decide +kernel, by decide +kernel⟩, List.mem_of_getElem? (i := 581) (by decide +kernel), List.mem_of_getElem? (i := 636) (by decide +kernel), List.mem_of_getElem? (i := 637) (by decide +kernel)⟩
theorem lw_p26 : lw_okq (⟨"LogFsModel", "commit", "()Z"⟩, 12) := ⟨⟨by decide +kernel, by decide +kernel⟩, List.mem_of_getElem? (i := 581) (by decide +kernel), List.mem_of_getElem? (i := 640) (by decide +kernel), List.mem_of_getElem? (i := 641) (by decide +kernel)⟩
theorem lw_p27 : lw_okq (⟨"LogFsModel", "fetch", "(I)V"⟩, 12) := ⟨⟨by decide +kernel, by decide +kernel⟩, List.mem_of_getElem? (i := 581) (by decide +kernel), List.mem_of_getElem? (i := 644) (by decide +kernel), List.mem_of_getElem? (i := 645) (by decide +kernel)⟩
theorem lw_p28 : lw_okq (⟨"LogFsModel", "put", "(I)V"⟩, 12) := ⟨⟨by decide +kernel, by decide +kernel⟩, List.mem_of_getElem? (i := 581) (by decide +kernel), List.mem_of_getElem? (i := 648) (by decide +kernel), List.mem_of_getElem? (i := 649) (by decide +kernel)⟩
theorem lw_p29 : lw_okq (⟨"LogFsModel", "head", "(I)V"⟩, 12) := ⟨⟨by decide +kernel, by decide +kernel⟩, List.mem_of_getElem? (i := 581) (by decide +kernel), List.mem_of_getElem? (i := 652) (by decide +kernel), List.mem_of_getElem? (i := 653) (by decide +kernel)⟩
theorem lw_p30 : lw_okq (⟨"LogFsModel", "isName", "(J)Z"⟩, 12) := ⟨⟨by decide +kernel, by decide +kernel⟩, List.mem_of_getElem? (i := 581) (by decide +kernel), List.mem_of_getElem? (i := 668) (by decide +kernel), List.mem_of_getElem? (i := 669) (by decide +kernel)⟩
theorem lw_p31 : lw_okq (⟨"LogFsModel", "is", "(II)Z"⟩, 12) := ⟨⟨by decide +kernel, by decide +kernel⟩, List.mem_of_getElem? (i := 581) (by decide +kernel), List.mem_of_getElem? (i := 673) (by decide +kernel), List.mem_of_getElem? (i := 674) (by decide +kernel)⟩
def lw_privs_2 : List (MethodName × Nat) := [(⟨"LogFs$Volume", "setInodeByte", "(III)V"⟩, 2), (⟨"LogFs$Memory", "markPending", "(I)V"⟩, 3), (⟨"LogFs$Volume", "putByte", "(III)V"⟩, 2), (⟨"LogFs$Volume", "addContentBlock", "(II)V"⟩, 2), (⟨"LogFs$Volume", "takeBlock", "()I"⟩, 2), (⟨"LogFs$Volume", "leastFreeBlock", "()I"⟩, 2), (⟨"LogFs$Volume", "growTo", "(II)V"⟩, 2), (⟨"LogFs$Volume", "giveBack", "(I)V"⟩, 2), (⟨"LogFsModel", "load", "()V"⟩, 12), (⟨"LogFsModel", "dead", "()Z"⟩, 12), (⟨"LogFsModel", "commit", "()Z"⟩, 12), (⟨"LogFsModel", "fetch", "(I)V"⟩, 12), (⟨"LogFsModel", "put", "(I)V"⟩, 12), (⟨"LogFsModel", "head", "(I)V"⟩, 12), (⟨"LogFsModel", "isName", "(J)Z"⟩, 12), (⟨"LogFsModel", "is", "(II)Z"⟩, 12)]
theorem lw_r2 : ∀ q ∈ lw_privs_2, lw_okq q := List.forall_mem_cons.mpr ⟨lw_p16, List.forall_mem_cons.mpr ⟨lw_p17, List.forall_mem_cons.mpr ⟨lw_p18, List.forall_mem_cons.mpr ⟨lw_p19, List.forall_mem_cons.mpr ⟨lw_p20, List.forall_mem_cons.mpr ⟨lw_p21, List.forall_mem_cons.mpr ⟨lw_p22, List.forall_mem_cons.mpr ⟨lw_p23, List.forall_mem_cons.mpr ⟨lw_p24, List.forall_mem_cons.mpr ⟨lw_p25, List.forall_mem_cons.mpr ⟨lw_p26, List.forall_mem_cons.mpr ⟨lw_p27, List.forall_mem_cons.mpr ⟨lw_p28, List.forall_mem_cons.mpr ⟨lw_p29, List.forall_mem_cons.mpr ⟨lw_p30, List.forall_mem_cons.mpr ⟨lw_p31, fun _ h => absurd h List.not_mem_nil⟩⟩⟩⟩⟩⟩⟩⟩⟩⟩⟩⟩⟩⟩⟩⟩
theorem lw_p32 : lw_okq (⟨"LogFsModel", "inodeAt", "(II)I"⟩, 12) := ⟨⟨by decide +kernel, by decide +kernel⟩, List.mem_of_getElem? (i := 581) (by decide +kernel), List.mem_of_getElem? (i := 680) (by decide +kernel), List.mem_of_getElem? (i := 681) (by decide +kernel)⟩
theorem lw_p33 : lw_okq (⟨"LogFsModel", "at", "(II)I"⟩, 12) := ⟨⟨by decide +kernel, by decide +kernel⟩, List.mem_of_getElem? (i := 581) (by decide +kernel), List.mem_of_getElem? (i := 690) (by decide +kernel), List.mem_of_getElem? (i := 691) (by decide +kernel)⟩
theorem lw_p34 : lw_okq (⟨"LogFsModel", "mayEnter", "(I)Z"⟩, 12) := ⟨⟨by decide +kernel, by decide +kernel⟩, List.mem_of_getElem? (i := 581) (by decide +kernel), List.mem_of_getElem? (i := 694) (by decide +kernel), List.mem_of_getElem? (i := 695) (by decide +kernel)⟩
theorem lw_p35 : lw_okq (⟨"LogFsModel", "placeForEntry", "(I)I"⟩, 12) := ⟨⟨by decide +kernel, by decide +kernel⟩, List.mem_of_getElem? (i := 581) (by decide +kernel), List.mem_of_getElem? (i := 698) (by decide +kernel), List.mem_of_getElem? (i := 699) (by decide +kernel)⟩
theorem lw_p36 : lw_okq (⟨"LogFsModel", "sizeOf", "(I)I"⟩, 12) := ⟨⟨by decide +kernel, by decide +kernel⟩, List.mem_of_getElem? (i := 581) (by decide +kernel), List.mem_of_getElem? (i := 702) (by decide +kernel), List.mem_of_getElem? (i := 703) (by decide +kernel)⟩
theorem lw_p37 : lw_okq (⟨"LogFsModel", "contentAt", "(II)I"⟩, 12) := ⟨⟨by decide +kernel, by decide +kernel⟩, List.mem_of_getElem? (i := 581) (by decide +kernel), List.mem_of_getElem? (i := 706) (by decide +kernel), List.mem_of_getElem? (i := 707) (by decide +kernel)⟩
theorem lw_p38 : lw_okq (⟨"LogFsModel", "contentBlock", "(II)I"⟩, 12) := ⟨⟨by decide +kernel, by decide +kernel⟩, List.mem_of_getElem? (i := 581) (by decide +kernel), List.mem_of_getElem? (i := 710) (by decide +kernel), List.mem_of_getElem? (i := 711) (by decide +kernel)⟩
theorem lw_p39 : lw_okq (⟨"LogFsModel", "findEntry", "(I)I"⟩, 12) := ⟨⟨by decide +kernel, by decide +kernel⟩, List.mem_of_getElem? (i := 581) (by decide +kernel), List.mem_of_getElem? (i := 714) (by decide +kernel), List.mem_of_getElem? (i := 715) (by decide +kernel)⟩
theorem lw_p40 : lw_okq (⟨"LogFsModel", "needs", "(II)I"⟩, 12) := ⟨⟨by decide +kernel, by decide +kernel⟩, List.mem_of_getElem? (i := 581) (by decide +kernel), List.mem_of_getElem? (i := 718) (by decide +kernel), List.mem_of_getElem? (i := 719) (by decide +kernel)⟩
theorem lw_p41 : lw_okq (⟨"LogFsModel", "freeBlocks", "()I"⟩, 12) := ⟨⟨by decide +kernel, by decide +kernel⟩, List.mem_of_getElem? (i := 581) (by decide +kernel), List.mem_of_getElem? (i := 725) (by decide +kernel), List.mem_of_getElem? (i := 726) (by decide +kernel)⟩
theorem lw_p42 : lw_okq (⟨"LogFsModel", "isUsed", "(I)Z"⟩, 12) := ⟨⟨by decide +kernel, by decide +kernel⟩, List.mem_of_getElem? (i := 581) (by decide +kernel), List.mem_of_getElem? (i := 729) (by decide +kernel), List.mem_of_getElem? (i := 730) (by decide +kernel)⟩
theorem lw_p43 : lw_okq (⟨"LogFsModel", "freeInode", "()I"⟩, 12) := ⟨⟨by decide +kernel, by decide +kernel⟩, List.mem_of_getElem? (i := 581) (by decide +kernel), List.mem_of_getElem? (i := 733) (by decide +kernel), List.mem_of_getElem? (i := 734) (by decide +kernel)⟩
theorem lw_p44 : lw_okq (⟨"LogFsModel", "ready", "()Z"⟩, 12) := ⟨⟨by decide +kernel, by decide +kernel⟩, List.mem_of_getElem? (i := 581) (by decide +kernel), List.mem_of_getElem? (i := 737) (by decide +kernel), List.mem_of_getElem? (i := 738) (by decide +kernel)⟩
theorem lw_p45 : lw_okq (⟨"LogFsModel", "setInode", "(III)V"⟩, 12) := ⟨⟨by decide +kernel, by decide +kernel⟩, List.mem_of_getElem? (i := 581) (by decide +kernel), List.mem_of_getElem? (i := 741) (by decide +kernel), List.mem_of_getElem? (i := 742) (by decide +kernel)⟩
theorem lw_p46 : lw_okq (⟨"LogFsModel", "set", "(III)V"⟩, 12) := ⟨⟨by decide +kernel, by decide +kernel⟩, List.mem_of_getElem? (i := 581) (by decide +kernel), List.mem_of_getElem? (i := 745) (by decide +kernel), List.mem_of_getElem? (i := 746) (by decide +kernel)⟩
theorem lw_p47 : lw_okq (⟨"LogFsModel", "pend", "(I)V"⟩, 12) := ⟨⟨by decide +kernel, by decide +kernel⟩, List.mem_of_getElem? (i := 581) (by decide +kernel), List.mem_of_getElem? (i := 749) (by decide +kernel), List.mem_of_getElem? (i := 750) (by decide +kernel)⟩
def lw_privs_3 : List (MethodName × Nat) := [(⟨"LogFsModel", "inodeAt", "(II)I"⟩, 12), (⟨"LogFsModel", "at", "(II)I"⟩, 12), (⟨"LogFsModel", "mayEnter", "(I)Z"⟩, 12), (⟨"LogFsModel", "placeForEntry", "(I)I"⟩, 12), (⟨"LogFsModel", "sizeOf", "(I)I"⟩, 12), (⟨"LogFsModel", "contentAt", "(II)I"⟩, 12), (⟨"LogFsModel", "contentBlock", "(II)I"⟩, 12), (⟨"LogFsModel", "findEntry", "(I)I"⟩, 12), (⟨"LogFsModel", "needs", "(II)I"⟩, 12), (⟨"LogFsModel", "freeBlocks", "()I"⟩, 12), (⟨"LogFsModel", "isUsed", "(I)Z"⟩, 12), (⟨"LogFsModel", "freeInode", "()I"⟩, 12), (⟨"LogFsModel", "ready", "()Z"⟩, 12), (⟨"LogFsModel", "setInode", "(III)V"⟩, 12), (⟨"LogFsModel", "set", "(III)V"⟩, 12), (⟨"LogFsModel", "pend", "(I)V"⟩, 12)]
theorem lw_r3 : ∀ q ∈ lw_privs_3, lw_okq q := List.forall_mem_cons.mpr ⟨lw_p32, List.forall_mem_cons.mpr ⟨lw_p33, List.forall_mem_cons.mpr ⟨lw_p34, List.forall_mem_cons.mpr ⟨lw_p35, List.forall_mem_cons.mpr ⟨lw_p36, List.forall_mem_cons.mpr ⟨lw_p37, List.forall_mem_cons.mpr ⟨lw_p38, List.forall_mem_cons.mpr ⟨lw_p39, List.forall_mem_cons.mpr ⟨lw_p40, List.forall_mem_cons.mpr ⟨lw_p41, List.forall_mem_cons.mpr ⟨lw_p42, List.forall_mem_cons.mpr ⟨lw_p43, List.forall_mem_cons.mpr ⟨lw_p44, List.forall_mem_cons.mpr ⟨lw_p45, List.forall_mem_cons.mpr ⟨lw_p46, List.forall_mem_cons.mpr ⟨lw_p47, fun _ h => absurd h List.not_mem_nil⟩⟩⟩⟩⟩⟩⟩⟩⟩⟩⟩⟩⟩⟩⟩⟩
theorem lw_p48 : lw_okq (⟨"LogFsModel", "enter", "(II)V"⟩, 12) := ⟨⟨by decide +kernel, by decide +kernel⟩, List.mem_of_getElem? (i := 581) (by decide +kernel), List.mem_of_getElem? (i := 753) (by decide +kernel), List.mem_of_getElem? (i := 754) (by decide +kernel)⟩
theorem lw_p49 : lw_okq (⟨"LogFsModel", "blockFor", "(II)V"⟩, 12) := ⟨⟨by decide +kernel, by decide +kernel⟩, List.mem_of_getElem? (i := 581) (by decide +kernel), List.mem_of_getElem? (i := 757) (by decide +kernel), List.mem_of_getElem? (i := 758) (by decide +kernel)⟩
theorem lw_p50 : lw_okq (⟨"LogFsModel", "takeBlock", "()I"⟩, 12) := ⟨⟨by decide +kernel, by decide +kernel⟩, List.mem_of_getElem? (i := 581) (by decide +kernel), List.mem_of_getElem? (i := 761) (by decide +kernel), List.mem_of_getElem? (i := 762) (by decide +kernel)⟩
theorem lw_p51 : lw_okq (⟨"LogFsModel", "setSize", "(II)V"⟩, 12) := ⟨⟨by decide +kernel, by decide +kernel⟩, List.mem_of_getElem? (i := 581) (by decide +kernel), List.mem_of_getElem? (i := 765) (by decide +kernel), List.mem_of_getElem? (i := 766) (by decide +kernel)⟩
theorem lw_p52 : lw_okq (⟨"LogFsModel", "entries", "(I)I"⟩, 12) := ⟨⟨by decide +kernel, by decide +kernel⟩, List.mem_of_getElem? (i := 581) (by decide +kernel), List.mem_of_getElem? (i := 777) (by decide +kernel), List.mem_of_getElem? (i := 778) (by decide +kernel)⟩
theorem lw_p53 : lw_okq (⟨"LogFsModel", "release", "(I)V"⟩, 12) := ⟨⟨by decide +kernel, by decide +kernel⟩, List.mem_of_getElem? (i := 581) (by decide +kernel), List.mem_of_getElem? (i := 781) (by decide +kernel), List.mem_of_getElem? (i := 782) (by decide +kernel)⟩
theorem lw_p54 : lw_okq (⟨"LogFsModel", "free", "(I)V"⟩, 12) := ⟨⟨by decide +kernel, by decide +kernel⟩, List.mem_of_getElem? (i := 581) (by decide +kernel), List.mem_of_getElem? (i := 785) (by decide +kernel), List.mem_of_getElem? (i := 786) (by decide +kernel)⟩
theorem lw_p55 : lw_okq (⟨"LogFsModel", "clear", "(II)V"⟩, 12) := ⟨⟨by decide +kernel, by decide +kernel⟩, List.mem_of_getElem? (i := 581) (by decide +kernel), List.mem_of_getElem? (i := 789) (by decide +kernel), List.mem_of_getElem? (i := 790) (by decide +kernel)⟩
theorem lw_p56 : lw_okq (⟨"LogFsModel", "mayWrite", "(III)Z"⟩, 12) := ⟨⟨by decide +kernel, by decide +kernel⟩, List.mem_of_getElem? (i := 581) (by decide +kernel), List.mem_of_getElem? (i := 797) (by decide +kernel), List.mem_of_getElem? (i := 798) (by decide +kernel)⟩
theorem lw_p57 : lw_okq (⟨"LogFsModel", "writes", "(III)I"⟩, 12) := ⟨⟨by decide +kernel, by decide +kernel⟩, List.mem_of_getElem? (i := 581) (by decide +kernel), List.mem_of_getElem? (i := 801) (by decide +kernel), List.mem_of_getElem? (i := 802) (by decide +kernel)⟩
def lw_privs_4 : List (MethodName × Nat) := [(⟨"LogFsModel", "enter", "(II)V"⟩, 12), (⟨"LogFsModel", "blockFor", "(II)V"⟩, 12), (⟨"LogFsModel", "takeBlock", "()I"⟩, 12), (⟨"LogFsModel", "setSize", "(II)V"⟩, 12), (⟨"LogFsModel", "entries", "(I)I"⟩, 12), (⟨"LogFsModel", "release", "(I)V"⟩, 12), (⟨"LogFsModel", "free", "(I)V"⟩, 12), (⟨"LogFsModel", "clear", "(II)V"⟩, 12), (⟨"LogFsModel", "mayWrite", "(III)Z"⟩, 12), (⟨"LogFsModel", "writes", "(III)I"⟩, 12)]
theorem lw_r4 : ∀ q ∈ lw_privs_4, lw_okq q := List.forall_mem_cons.mpr ⟨lw_p48, List.forall_mem_cons.mpr ⟨lw_p49, List.forall_mem_cons.mpr ⟨lw_p50, List.forall_mem_cons.mpr ⟨lw_p51, List.forall_mem_cons.mpr ⟨lw_p52, List.forall_mem_cons.mpr ⟨lw_p53, List.forall_mem_cons.mpr ⟨lw_p54, List.forall_mem_cons.mpr ⟨lw_p55, List.forall_mem_cons.mpr ⟨lw_p56, List.forall_mem_cons.mpr ⟨lw_p57, fun _ h => absurd h List.not_mem_nil⟩⟩⟩⟩⟩⟩⟩⟩⟩⟩
def lw_privs : List (MethodName × Nat) := lw_privs_1 ++ (lw_privs_2 ++ (lw_privs_3 ++ (lw_privs_4)))
def lw_tbl : List Cond := k2_sels lw_privs ++ tables_1
theorem lw_privs_ok : ∀ q ∈ lw_privs, lw_okq q := by
  show ∀ q ∈ lw_privs_1 ++ (lw_privs_2 ++ (lw_privs_3 ++ (lw_privs_4))), lw_okq q
  exact List.forall_mem_append.mpr ⟨lw_r1, List.forall_mem_append.mpr ⟨lw_r2, List.forall_mem_append.mpr ⟨lw_r3, lw_r4⟩⟩⟩
end
section
/-! Methods that may throw, over the machine: a contract with a code (0: it returned; else: an object of the class xN code was thrown), calls of such methods, throwing, catching. Own rows. -/
def xN (k : Nat) : String := if k = 1 then "java/lang/IllegalStateException" else if k = 2 then "java/lang/UnsupportedOperationException" else "java/lang/IndexOutOfBoundsException"
/-- how an invocation ended -/
def xE (k : Nat) (v : Option Value) (st : State) (o : Outcome) (t : State) : Prop :=
  (k = 0 ∧ o = .returned v) ∨ (k ≠ 0 ∧ ∃ (q : Addr) (ce : Cell), o = .threw q ∧ t.heap[q]? = some ce ∧ ce.vm = .none ∧ st.vm.findClass (xN k) = some ce.cls)
def xQ (k : Nat) (v : Option Value) (B : State → Prop) (A : Nat → Prop) (mc ms : Nat) (st : State) (o : Outcome) (t : State) : Prop :=
  xE k v st o t ∧ B t ∧ va_F A st t ∧ st.WarmedH t.vm ∧ ∃ L, st.sameButNew ({ t with vm := st.vm } : State) L mc ms ∧ ∀ z ∈ L, A z.base
def xMet (l : Launch) (y : MethodName) (ws : List Cond) (rm : Room) (Pc : Array Value → State → Prop) (k : Nat) (v : Option Value) (B : State → Prop) (A : Nat → Prop) (mc ms : Nat) : Prop :=
  MetFree l y (headSpec ws rm) Pc (fun _ _ _ _ _ => True) (fun _ st o t => xQ k v B A mc ms st o t)
def xMQ (below : List Frame) (k : Nat) (v : Option Value) (B : State → Prop) (A : Nat → Prop) (s : State) (mc ms : Nat) : State → Prop := fun t =>
  ∃ o, t.status = .running ∧ Ended t below o ∧ xQ k v B A mc ms s o t
/-- a walk on which the note 'q is thrown' lies over the frame g -/
def xW (p : Program) (l : Launch) (e : Env) (R : Room) (s : State) (m : MethodId) (args : Array Value) (below : List Frame) (meth : Method) (c : Code) (H : Heap) (locs : List Loc) (cells slots : Nat) (Q : State → Prop) (g : JFrame) (q : Addr) : Prop :=
  ∀ T : State, T.heap = H → Stand p l e R s m args below meth c T locs cells slots → ∃ t, Steps p.tables e below ((T.setTop g).pushFrame (.throwing q)) t ∧ Q t
/-- what a call of a method comes to: the point behind it, or the note over the frame -/
def xBack (l : Launch) (R : Room) (p : Program) (e : Env) (below : List Frame) (s : State) (sargs : Array Value) (y : MethodName) (W9 : Nat) (Pc : Array Value → State → Prop) (k : Nat) (v : Option Value) (B : State → Prop) (A : Nat → Prop) (mc ms : Nat) : Prop :=
  ∀ (m : MethodId) (meth : Method) (c : Code) (U : State) (Ls : List Loc) (c0 s0 : Nat) (g : JFrame) (ig : Instr) (mk : MethodId) (a : Array Value),
    Stand p l e R s m sargs below meth c U Ls c0 s0 → g.method = m → g.locals.size = c.maxLocals → decode c.code g.pc = .ok (ig, 3) →
    2 * g.monitorRoom + (g.stack.map fun v => v.category).sum ≤ W9 → U.methodNamed? y = some mk → c0 + mc ≤ R.cells → s0 + ms ≤ R.slots → Pc a (U.calling g mk a) →
    ∃ (t T' : State) (L : List Loc), Stand p l e R s m sargs below meth c T' (Ls ++ L) (c0 + mc) (s0 + ms) ∧ (∀ z ∈ L, A z.base) ∧ T'.heap = t.heap ∧ T'.vm = t.vm ∧ B t ∧ va_F A (U.calling g mk a) t ∧
      ((k = 0 ∧ Steps p.tables e below (doInvoke e (U.setTop g) [] mk a).1 (T'.setTop { g with pc := g.pc + 3, stack := v.toList ++ g.stack })) ∨
       (k ≠ 0 ∧ ∃ (q : Addr) (ce : Cell), t.heap[q]? = some ce ∧ ce.vm = .none ∧ U.vm.findClass (xN k) = some ce.cls ∧ Steps p.tables e below (doInvoke e (U.setTop g) [] mk a).1 ((T'.setTop g).pushFrame (.throwing q))))
section XPay
variable {l : Launch} {R : Room} {p : Program} {e : Env} {below : List Frame} {s : State} {sargs : Array Value} {y : MethodName} {W9 : Nat}
/-- out of the contract: what a call comes to -/
theorem x_back {ws : List Cond} {rm : Room} {Pc : Array Value → State → Prop} {k : Nat} {v : Option Value} {B : State → Prop} {A : Nat → Prop} {mc ms : Nat} {bytes : ByteArray} {maxL : Nat} {ret : Option FieldType}
    (hM : xMet l y ws rm Pc k v B A mc ms) (hrc : rm.cells = mc) (hrs : rm.slots = ms) (hframes : rm.frames + 1 ≤ R.frames) (hlocals : W9 + (maxL + 11) + rm.locals ≤ R.locals)
    (hws : ∀ w ∈ ws, ∀ a' U, s.WarmedH U.vm → w.before a' U = true) (hcode : Cond.code y bytes maxL ret ∈ ws) (hinit : ∀ a' U, s.WarmedH U.vm → (Cond.initialized y.cls).before a' U = true) :
    xBack l R p e below s sargs y W9 Pc k v B A mc ms := by
  intro m meth c U Ls c0 s0 g ig mk a X hg hsize hdg hW hn hcc hss hPc
  have hpre : (headSpec ws rm).pre.before a U = true := atoms_intro fun w hw => hws w hw _ _ X.warmed
  obtain ⟨methY, cY, hmY, hcY, -, hlY, -, -, -, -⟩ := Cond.code_spec hn (hws _ hcode a U X.warmed)
  obtain ⟨kY, hkY, -⟩ := className_of_methodNamed hn
  have hiniY : kY.init = .initialized := Cond.initialized_spec (findClass_of_methodNamed hn) hkY (hinit a U X.warmed)
  have hat : At U g.method c below := by rw [hg]; exact X.here
  have hlo : W9 + (maxL + 11) + (headSpec ws rm).room.locals ≤ R.locals := hlocals
  have happ : (headSpec ws rm).appliesLoose y e.platform (U.calling g mk a) = true :=
    Spec.appliesLoose_calling (g := g) hat hdg hn hkY hiniY
      (X.room_calling (g := g) (R' := (headSpec ws rm).room) hsize hmY hcY hframes (by rw [hlY]; omega) (by rw [show (headSpec ws rm).room.cells = mc from hrc]; exact hcc) (by rw [show (headSpec ws rm).room.slots = ms from hrs]; exact hss)) hpre
  obtain ⟨mid, hmid⟩ := hat.above
  have hfr : (U.setTop g).frames = (.java g :: mid) ++ below := by rw [State.frames_setTop' g hat.top, hmid]; rfl
  obtain ⟨o, s₂, hsteps, -, hend, hq⟩ := Steps.callFree hM p X.admits X.cas X.clock (acts := []) hfr happ hPc trivial
  have hq : xQ k v B A mc ms (U.calling g mk a) o s₂ := hq
  rw [State.frames_setTop' g hat.top] at hend
  obtain ⟨hE, hB, hF, hW₂, L, hsm, hL⟩ := hq
  obtain ⟨g₀, hg0⟩ := Option.isSome_iff_exists.mp hat.top
  obtain ⟨r, hr⟩ := State.topJava?_eq_some.mp hg0
  have hW' : U.WarmedH s₂.vm := hW₂
  obtain ⟨e2, q2, q3, q4, q5, q6⟩ := id hsm
  have e3 : s₂ = ({ (U.calling g mk a).setFrames s₂.frames with heap := s₂.heap, slotsUsed := s₂.slotsUsed } : State).setVm s₂.vm := by
    have : s₂ = ({ s₂ with vm := (U.calling g mk a).vm } : State).setVm s₂.vm := rfl
    rw [e2] at this
    exact this
  obtain ⟨V, hV⟩ : ∃ z, z = (({ U with heap := s₂.heap, slotsUsed := s₂.slotsUsed } : State).setVm s₂.vm) := ⟨_, rfl⟩
  have hr' : V.frames = .java g₀ :: r := by rw [hV]; exact hr
  have hsame : U.sameButNew ({ U with heap := s₂.heap, slotsUsed := s₂.slotsUsed } : State) L mc ms := by
    refine ⟨?_, q2, q3, q4, q5, q6⟩
    obtain ⟨t, ht, -⟩ := State.frames_cons hr
    show ({ U with heap := s₂.heap, slotsUsed := s₂.slotsUsed } : State) = { U.setFrames U.frames with heap := s₂.heap, slotsUsed := s₂.slotsUsed }
    rw [State.setFrames_self ht]
  subst hg
  have XV : Stand p l e R s g.method sargs below meth c V (Ls ++ L) (c0 + mc) (s0 + ms) := by
    rw [hV]
    exact ⟨X.admits, X.cas, X.clock, X.frames, X.room, X.hears, X.method, X.code, (X.here.setHeapUsed s₂.heap s₂.slotsUsed).setVm hW'.alike, X.tail, State.WarmedH.trans X.warmed hW', X.limits, X.bytes, X.same.trans (hsame.setVm s.vm)⟩
  refine ⟨s₂, V, L, XV, hL, by rw [hV]; rfl, by rw [hV]; rfl, hB, hF, ?_⟩
  rcases hE with ⟨hk, rfl⟩ | ⟨hk, q, ce, rfl, hce, hcv, hcl⟩
  · refine Or.inl ⟨hk, ?_⟩
    obtain ⟨c₂, i₂, len₂, hc₂, hd₂, hf₂⟩ := hend
    have hcc2 : c₂ = c := by
      have h1 : s₂.code? g.method = U.code? g.method := by
        rw [State.code?_eq, State.code?_eq, hW'.alike.method?]
      exact Option.some.inj (hc₂.symm.trans (h1.trans hat.code))
    subst hcc2
    have hlen : len₂ = 3 := by rw [hdg] at hd₂; cases hd₂; rfl
    subst hlen
    have hs₂ : s₂ = V.setTop { g with pc := g.pc + 3, stack := v.toList ++ g.stack } := by
      refine e3.trans ?_
      rw [State.setTop_of_frames _ hr', hV, hf₂, State.calling_eq hat.top, State.setFrames_setFrames, hr]
      rfl
    rw [← hs₂]
    exact hsteps
  · refine Or.inr ⟨hk, q, ce, hce, hcv, hcl, ?_⟩
    have hf₂ : s₂.frames = .throwing q :: .java g :: U.frames.tail := hend
    have hs₂ : s₂ = (V.setTop g).pushFrame (.throwing q) := by
      refine e3.trans ?_
      rw [State.pushFrame, State.frames_setTop _ hr', State.setTop_of_frames _ hr', State.setFrames_setFrames, hV, hf₂, State.calling_eq hat.top, State.setFrames_setFrames, hr]
      rfl
    rw [← hs₂]
    exact hsteps
end XPay
def xRun (p : Program) (l : Launch) (e : Env) (R : Room) (s : State) (m : MethodId) (args : Array Value) (below : List Frame) (meth : Method) (c : Code) (H : Heap) (locs : List Loc) (cells slots mc ms : Nat) (g : JFrame) (rest : List Value) (k : Nat) (v : Option Value) (B : State → Prop) (A : Nat → Prop) : Prop :=
  ∀ T : State, T.heap = H → Stand p l e R s m args below meth c T locs cells slots → ∃ (st₀ t T' : State) (L : List Loc), st₀.heap = H ∧ Stand p l e R s m args below meth c T' (locs ++ L) (cells + mc) (slots + ms) ∧ (∀ z ∈ L, A z.base) ∧ T'.heap = t.heap ∧ T'.vm = t.vm ∧ B t ∧ va_F A st₀ t ∧
    ((k = 0 ∧ Goes p e below T g T' { g with pc := g.pc + 3, stack := v.toList ++ rest }) ∨
     (k ≠ 0 ∧ ∃ (q : Addr) (ce : Cell), t.heap[q]? = some ce ∧ ce.vm = .none ∧ s.vm.findClass (xN k) = some ce.cls ∧ ∀ tg, Steps p.tables e below ((T'.setTop { g with stack := rest }).pushFrame (.throwing q)) tg → Steps p.tables e below (T.setTop g) tg))
section XCall
variable {p : Program} {l : Launch} {e : Env} {R : Room} {s : State} {m : MethodId} {args : Array Value} {below : List Frame} {meth : Method} {c : Code} {H : Heap} {locs : List Loc} {cells slots : Nat} {Q : State → Prop}
variable {y : MethodName} {bytes cc : ByteArray} {maxL nL mc ms n index : Nat} {ret : Option FieldType} {ws : List Cond} {rm : Room} {Pc : Array Value → State → Prop} {Ts : List Cond} {own C host : String} {b : Addr} {As rest : List Value} {g : JFrame} {k : Nat} {v : Option Value} {B : State → Prop} {A : Nat → Prop} {a : Array Value}
/-- a call, its first step at hand -/
theorem x_run (hK : xBack l R p e below s args y 8 Pc k v B A mc ms) (hg : g.method = m) (hsize : g.locals.size = c.maxLocals) (hW : 2 * g.monitorRoom + (rest.map fun v => v.category).sum ≤ 8) (hf : cells + mc ≤ R.cells ∧ slots + ms ≤ R.slots)
    (hPc : FrameBlind Pc ∧ ∀ U : State, U.heap = H → s.WarmedH U.vm → Pc a U)
    (hst : ∀ T : State, T.heap = H → Stand p l e R s m args below meth c T locs cells slots → ∃ (vm₁ : Vm) (mk : MethodId) (ig : Instr), Stand p l e R s m args below meth c (T.setVm vm₁) locs cells slots ∧ decode c.code g.pc = .ok (ig, 3) ∧ (T.setVm vm₁).methodNamed? y = some mk ∧
      ∀ tg, (∀ acts, Steps p.tables e below (doInvoke e ((T.setVm vm₁).setTop { g with stack := rest }) acts mk a).1 tg) → Steps p.tables e below (T.setTop g) tg) :
    xRun p l e R s m args below meth c H locs cells slots mc ms g rest k v B A := by
  intro T hT X
  obtain ⟨vm₁, mk, ig, X₁, hd, hn, hs1⟩ := hst T hT X
  obtain ⟨t, T', L, X', hL, e1, e2, hB, hF, hend⟩ := hK m meth c (T.setVm vm₁) locs cells slots { g with stack := rest } ig mk a X₁ hg hsize hd hW hn hf.1 hf.2 (hPc.1 _ _ _ _ (hPc.2 (T.setVm vm₁) hT X₁.warmed))
  refine ⟨(T.setVm vm₁).calling { g with stack := rest } mk a, t, T', L, hT, X', hL, e1, e2, hB, hF, ?_⟩
  rcases hend with ⟨hk, h⟩ | ⟨hk, q, ce, h1, h2, h3, h⟩
  · exact Or.inl ⟨hk, fun tg htg => hs1 tg fun acts => by rw [doInvoke_state]; exact h.trans htg⟩
  · refine Or.inr ⟨hk, q, ce, h1, h2, ?_, fun tg htg => hs1 tg fun acts => by rw [doInvoke_state]; exact h.trans htg⟩
    have h4 : (T.setVm vm₁).vm.findClass (xN k) = some ce.cls := h3
    rwa [X₁.warmed.alike.findClass] at h4
/-- invokevirtual, the class's own name -/
theorem x_runV (S : CallFix p m c cc nL s args Ts own) (hM : xMet l y ws rm Pc k v B A mc ms) (cw : CallW R s args own C index y bytes maxL ret ws rm mc ms n) (hp : PreV s H C b Pc As)
    (hg : g.method = m) (hn : As.length = n) (hsize : g.locals.size = nL) (hstack : g.stack = As.reverse ++ .ref b :: rest) (hW : 2 * g.monitorRoom + (rest.map fun v => v.category).sum ≤ 8) (hdg : decode cc g.pc = .ok (.invokevirtual index, 3)) (hf : cells + mc ≤ R.cells ∧ slots + ms ≤ R.slots) :
    xRun p l e R s m args below meth c H locs cells slots mc ms g rest k v B A := by
  obtain ⟨⟨hrc, hrs, hfr, hlo, hws, hcw, hcode, hini, hy, hlen, hl⟩, hin, hse⟩ := cw
  obtain ⟨hx, hb, hml, ho, -⟩ := S
  obtain ⟨hbl, ⟨cellB, hcB, hoB, hclB⟩, hPc⟩ := hp
  refine x_run (x_back (bytes := bytes) (maxL := maxL) (ret := ret) hM hrc hrs hfr hlo hws hcw (fun a' U hW => word_at hW (Or.inl (by first | rfl | simp [Cond.onTables, Cond.keeps, Cond.steady])) hini)) hg (hsize.trans hml.symm) hW hf ⟨hbl, hPc⟩ ?_
  intro T hT X
  obtain ⟨mk, methM, hnamed, hmethM, hstM, habM⟩ := Cond.instanceMethod_spec hin
  obtain ⟨methM', cM, hmethM', -, -, -, -, -, -, hsigM⟩ := Cond.code_spec hnamed hcode
  cases hmethM.symm.trans hmethM'
  obtain ⟨c2, r2, m2, q1, q2, q3, q4, kP, hkP, hkPi⟩ := Cond.selects_spec hse
  cases hclB.symm.trans q1
  cases (State.methodFound?_of_named hnamed hy).symm.trans q2
  cases hnamed.symm.trans q3
  have hselP : selectMethod e.platform s.vm cellB.cls mk = .method mk := by rw [Launch.admits_selectMethod X.admits]; exact q4
  obtain ⟨vm₁, X₁, hstep₁⟩ := X.invokevirtual hx ho hl hnamed hmethM hstM hkP hkPi hy (a := b) (cell := cellB) (by rw [hT]; exact hcB)
    (fun z h => by rw [h] at hoB; cases hoB) hselP hmethM habM hkP hkPi (g := g) hg (argsL := As) (rest := rest) (hn.trans (hlen _ hsigM)) hstack (by rw [hb]; exact hdg)
  exact ⟨vm₁, mk, .invokevirtual index, X₁, by rw [hb]; exact hdg, X₁.named hnamed, hstep₁⟩
/-- invokevirtual of a nest mate's -/
theorem x_runVN (S : CallFix p m c cc nL s args Ts own) (hM : xMet l y ws rm Pc k v B A mc ms) (cw : va_CN R s args own index y host bytes maxL ret ws rm mc ms n ∧ (Cond.instanceMethod y).before args s = true ∧ (Cond.selects C y y).before args s = true) (hp : PreV s H C b Pc As)
    (hg : g.method = m) (hn : As.length = n) (hsize : g.locals.size = nL) (hstack : g.stack = As.reverse ++ .ref b :: rest) (hW : 2 * g.monitorRoom + (rest.map fun v => v.category).sum ≤ 8) (hdg : decode cc g.pc = .ok (.invokevirtual index, 3)) (hf : cells + mc ≤ R.cells ∧ slots + ms ≤ R.slots) :
    xRun p l e R s m args below meth c H locs cells slots mc ms g rest k v B A := by
  obtain ⟨⟨⟨hrc, hrs, hfr, hlo, hws, hcw⟩, hcode, hini, hy, hlen, hl⟩, hin, hse⟩ := cw
  obtain ⟨hx, hb, hml, ho, -⟩ := S
  obtain ⟨hbl, ⟨cellB, hcB, hoB, hclB⟩, hPc⟩ := hp
  refine x_run (x_back (bytes := bytes) (maxL := maxL) (ret := ret) hM hrc hrs hfr hlo hws hcw (fun a' U hW => word_at hW (Or.inl (by first | rfl | simp [Cond.onTables, Cond.keeps, Cond.steady])) hini)) hg (hsize.trans hml.symm) hW hf ⟨hbl, hPc⟩ ?_
  intro T hT X
  obtain ⟨mk, methM, hnamed, hmethM, hstM, habM⟩ := Cond.instanceMethod_spec hin
  obtain ⟨methM', cM, hmethM', -, -, -, -, -, -, hsigM⟩ := Cond.code_spec hnamed hcode
  cases hmethM.symm.trans hmethM'
  obtain ⟨c2, r2, m2, q1, q2, q3, q4, kP, hkP, hkPi⟩ := Cond.selects_spec hse
  cases hclB.symm.trans q1
  cases (State.methodFound?_of_named hnamed hy).symm.trans q2
  cases hnamed.symm.trans q3
  have hselP : selectMethod e.platform s.vm cellB.cls mk = .method mk := by rw [Launch.admits_selectMethod X.admits]; exact q4
  obtain ⟨vm₁, X₁, hstep₁⟩ := X.invokevirtualNest hx ho hl hnamed hmethM hstM hkP hkPi hy (a := b) (cell := cellB) (by rw [hT]; exact hcB)
    (fun z h => by rw [h] at hoB; cases hoB) hselP hmethM habM hkP hkPi (g := g) hg (argsL := As) (rest := rest) (hn.trans (hlen _ hsigM)) hstack (by rw [hb]; exact hdg)
  exact ⟨vm₁, mk, .invokevirtual index, X₁, by rw [hb]; exact hdg, X₁.named hnamed, hstep₁⟩
/-- invokestatic -/
theorem x_runS (S : CallFix p m c cc nL s args Ts own) (hM : xMet l y ws rm Pc k v B A mc ms) (cw : CallB R s args own index y bytes maxL ret ws rm mc ms n ∧ (Cond.static y).before args s = true) (hp : PreS s H Pc As)
    (hg : g.method = m) (hn : As.length = n) (hsize : g.locals.size = nL) (hstack : g.stack = As.reverse ++ rest) (hW : 2 * g.monitorRoom + (rest.map fun v => v.category).sum ≤ 8) (hdg : decode cc g.pc = .ok (.invokestatic index, 3)) (hf : cells + mc ≤ R.cells ∧ slots + ms ≤ R.slots) :
    xRun p l e R s m args below meth c H locs cells slots mc ms g rest k v B A := by
  obtain ⟨⟨hrc, hrs, hfr, hlo, hws, hcw, hcode, hini, hy, hlen, hl⟩, hstt⟩ := cw
  obtain ⟨hx, hb, hml, ho, -⟩ := S
  refine x_run (x_back (bytes := bytes) (maxL := maxL) (ret := ret) hM hrc hrs hfr hlo hws hcw (fun a' U hW => word_at hW (Or.inl (by first | rfl | simp [Cond.onTables, Cond.keeps, Cond.steady])) hini)) hg (hsize.trans hml.symm) hW hf hp ?_
  intro T hT X
  obtain ⟨mk, hnamed⟩ := Cond.code_named hcode
  obtain ⟨methM, cM, hmethM, -, -, -, -, -, -, hsigM⟩ := Cond.code_spec hnamed hcode
  have hstatic : methM.isStatic = true := Cond.static_spec hnamed hmethM hstt
  obtain ⟨kP, hkP, -⟩ := className_of_methodNamed hnamed
  have hinitP : kP.init = .initialized := Cond.initialized_spec (findClass_of_methodNamed hnamed) hkP hini
  obtain ⟨vm₁, X₁, hstep₁⟩ := X.invokestatic hx ho hl hnamed hmethM hstatic hkP hinitP hy (g := g) hg (argsL := As) (rest := rest) (hn.trans (hlen _ hsigM)) hstack (by rw [hb]; exact hdg)
  exact ⟨vm₁, mk, .invokestatic index, X₁, by rw [hb]; exact hdg, X₁.named hnamed, hstep₁⟩
/-- behind the call: it goes on, or the note lies over the frame -/
theorem x_call {pc : Nat} {ls : Array Slot} {st0 : List Value} {H0 : Heap} (hr : xRun p l e R s m args below meth c H locs cells slots mc ms (F0 m pc ls st0) rest k v B A) (hS : va_S A H0 H locs)
    (kn : k = 0 → ∀ (t : State) (H1 : Heap) (locs1 : List Loc), t.heap = H1 → s.WarmedH t.vm → B t → H.size ≤ H1.size → va_S A H0 H1 locs1 → W p l e R s m args below meth c H1 locs1 (cells + mc) (slots + ms) Q (F0 m (pc + 3) ls (v.toList ++ rest)))
    (kx : k ≠ 0 → ∀ (q : Addr) (ce : Cell) (t : State) (H1 : Heap) (locs1 : List Loc), t.heap = H1 → s.WarmedH t.vm → B t → H.size ≤ H1.size → va_S A H0 H1 locs1 → H1[q]? = some ce → ce.vm = .none → s.vm.findClass (xN k) = some ce.cls →
      xW p l e R s m args below meth c H1 locs1 (cells + mc) (slots + ms) Q (F0 m pc ls rest) q) : W p l e R s m args below meth c H locs cells slots Q (F0 m pc ls st0) := by
  intro T hT X
  obtain ⟨st₀, t, T', L, h0, X', hL, e1, e2, hB, ⟨hz, hk⟩, hend⟩ := hr T hT X
  rw [h0] at hz hk
  have hS' : va_S A H0 T'.heap (locs ++ L) := ⟨Nat.le_trans hS.1 (by rw [e1]; exact hz), fun q h1 h2 => by rw [e1, hk q (Nat.lt_of_lt_of_le h1 hS.1) h2]; exact hS.2.1 q h1 h2, fun q hq => by
    rcases List.mem_append.mp hq with h | h
    · exact hS.2.2 q h
    · exact hL q h⟩
  have hWt : s.WarmedH t.vm := by rw [← e2]; exact X'.warmed
  rcases hend with ⟨hk0, hgo⟩ | ⟨hk0, q, ce, h1, h2, h3, hgo⟩
  · obtain ⟨t2, a1, b1⟩ := kn hk0 t T'.heap (locs ++ L) e1.symm hWt hB (by rw [e1]; exact hz) hS' T' rfl X'
    exact ⟨t2, hgo t2 a1, b1⟩
  · obtain ⟨t2, a1, b1⟩ := kx hk0 q ce t T'.heap (locs ++ L) e1.symm hWt hB (by rw [e1]; exact hz) hS' (by rw [e1]; exact h1) h2 h3 T' rfl X'
    exact ⟨t2, hgo t2 a1, b1⟩
/-- no handler here: the method throws it on -/
theorem x_out {pc : Nat} {ls : Array Slot} {q : Addr} {ce : Cell} (hout : ∀ x ∈ c.exceptionTable.toList, covers x pc = false) (hlocks : meth.locks = false) (hk : k ≠ 0) (hcell : H[q]? = some ce) (hv : ce.vm = .none) (hcl : s.vm.findClass (xN k) = some ce.cls)
    (hB : ∀ t : State, t.heap = H → s.WarmedH t.vm → B t) (hS : va_S A s.heap H locs) (hc : cells ≤ mc) (hs : slots ≤ ms) :
    xW p l e R s m args below meth c H locs cells slots (xMQ below k v B A s mc ms) (F0 m pc ls rest) q := by
  intro T hT X
  obtain ⟨st1, hrun, hend, hW, hsm⟩ := X.leaveThrown q (g := F0 m pc ls rest) rfl rfl rfl hout hlocks
  have hcell9 : (T.setFrames (.throwing q :: below)).heap[q]? = some ce := by
    show T.heap[q]? = some ce
    rw [hT]; exact hcell
  exact ⟨_, st1, .threw q, hrun, hend, Or.inr ⟨hk, q, ce, rfl, hcell9, hv, hcl⟩, hB _ hT hW, hS.F hT, hW, locs, hsm.mono hc hs, hS.2.2⟩
/-- it returned -/
theorem x_ret (w : W p l e R s m args below meth c H locs cells slots (MQ below (fun _ st o t => (o = .returned v ∧ B t) ∧ va_F A st t) args s mc ms A) g) : W p l e R s m args below meth c H locs cells slots (xMQ below 0 v B A s mc ms) g := by
  intro T hT X
  obtain ⟨t, a1, o, b1, b2, ⟨⟨rfl, b3⟩, b4⟩, L, ⟨-, f2, f3⟩, hL⟩ := w T hT X
  exact ⟨t, a1, .returned v, b1, b2, Or.inl ⟨rfl, rfl⟩, b3, b4, f2, L, f3, hL⟩
end XCall
/-- the contract out of the walk of the body -/
theorem x_ofW {l : Launch} {y : MethodName} {ws ws' : List Cond} {rm : Room} {Pc : Array Value → State → Prop} {k : Nat} {v : Option Value} {B : State → Prop} {A : Nat → Prop} {mc ms : Nat} {cc : ByteArray} {maxL : Nat} {ret : Option FieldType}
    (hy : plainName y.cls = true) (hw : ws = Cond.code y cc maxL ret :: ws')
    (body : ∀ p e s m args below meth c s₁, BodyLoose p l y (headSpec ws rm) cc maxL ret e s m args below meth c s₁ → c.maxLocals = maxL → (∀ x ∈ c.exceptionTable.toList, False) → Pc args s →
      W p l e (headSpec ws rm).room s m args below meth c s.heap [] 0 0 (xMQ below k v B A s mc ms) (entryFrame m args maxL)) : xMet l y ws rm Pc k v B A mc ms := by
  refine MetFree.of_bodyS (code := cc) (maxLocals := maxL) (ret := ret) hy ?_ ?_
  · intro args s m h hn
    obtain ⟨meth, c, h1, h2, h3, h4, h5, h6, -, -⟩ := Cond.code_spec hn (atoms_spec (ws := ws) h _ (by rw [hw]; exact List.mem_cons_self))
    exact ⟨meth, c, h1, h2, h3, h4, h5, h6⟩
  · intro p e s m args below meth c s₁ B9 hml hP _
    have hh0 : s₁.heap = s.heap := by rw [B9.state]; rfl
    have ht : ∀ x ∈ c.exceptionTable.toList, False := by
      obtain ⟨meth9, c9, h1, h2, -, -, -, -, h7, -⟩ := Cond.code_spec B9.named (atoms_spec (ws := ws) B9.pre _ (by rw [hw]; exact List.mem_cons_self))
      cases Option.some.inj (h1.symm.trans B9.method)
      cases Option.some.inj (h2.symm.trans (Stand.of_body B9).code)
      intro x hx
      rw [Array.isEmpty_iff.mp h7] at hx
      cases hx
    obtain ⟨t, a1, o, b1, b2, b3⟩ := body p e s m args below meth c s₁ B9 hml ht hP s₁ hh0 (Stand.of_body B9)
    exact ⟨t, o, a1, b1, b2, b3⟩
/-- a static field that holds a reference or null; its cell lies outside A -/
def xS (C n d : String) (A : Nat → Prop) (U : State) (H : Heap) : Prop := ∃ (cf : ClassId) (kf : Class) (i : Nat) (f : Field) (a : Nat) (cell : Cell), U.vm.findClass C = some cf ∧ U.fieldFound? C n d = some (cf, kf, i, f) ∧ f.isStatic = true ∧ kf.statics = some a ∧ H[a]? = some cell ∧ cell.vm.isStatics = true ∧ cell.cls = cf ∧ f.slot < cell.slots.size ∧ kf.staticTypes[f.slot]? = some f.type ∧ (∃ v : Value, cell.slots[f.slot]? = some v ∧ v.isRef = true) ∧ ¬ A a
theorem xS.moved {C n d : String} {A : Nat → Prop} {u U : State} {H : Heap} (hvm : u.vm.Alike U.vm) (h : xS C n d A u H) : xS C n d A U H := by
  obtain ⟨cf, kf, i, f, a, cell, h1, h2, h3, h4, h5, h6, h7, h8, h9, h10⟩ := h
  obtain ⟨k', hi', he⟩ := State.fieldFound?_setVm hvm h2
  exact ⟨cf, k', i, f, a, cell, by rw [hvm.findClass]; exact h1, hi', h3, by rw [he]; exact h4, h5, h6, h7, h8, by rw [he]; exact h9, h10⟩
theorem xS.kept {C n d : String} {A : Nat → Prop} {U : State} {H H1 : Heap} (h : xS C n d A U H) (hq : ∀ a : Nat, a < H.size → ¬ A a → H1[a]? = H[a]?) : xS C n d A U H1 := by
  obtain ⟨cf, kf, i, f, a, cell, h1, h2, h3, h4, h5, h6⟩ := h
  exact ⟨cf, kf, i, f, a, cell, h1, h2, h3, h4, by rw [hq a (Array.getElem?_eq_some_iff.mp h5).1 h6.2.2.2.2.2]; exact h5, h6⟩
theorem xS.lays {C n d : String} {A : Nat → Prop} {s : State} {args : Array Value} (h : xS C n d A s s.heap) : (Cond.laysStatic C n d).before args s = true := by
  obtain ⟨cf, kf, i, f, a, cell, h1, h2, h3, h4, h5, h6, h7, h8, h9, -⟩ := h
  show (Cond.laysStatic C n d).holds args s none s [] = true
  exact Cond.laysStatic_of h1 h2 h3 h4 h5 h6 h7 h8 h9
theorem xS.isRef {C n d : String} {A : Nat → Prop} {s : State} {args : Array Value} (h : xS C n d A s s.heap) : (Cond.isRef (.static C n d)).before args s = true := by
  obtain ⟨cf, kf, i, f, a, cell, h1, h2, h3, h4, h5, h6, h7, h8, h9, ⟨v, hv, hr⟩, -⟩ := h
  have he : (Term.static C n d).eval args s none [] s = some v := by
    simp [Term.eval, State.fieldNamed?, h2, h3, h4, h5, h6, hv]
  simp only [Cond.before, Cond.holds, Cond.value, he]
  cases v <;> simp_all [Value.isRef]
theorem xS.of {C n d : String} {A : Nat → Prop} {s : State} {args : Array Value} (hl : (Cond.laysStatic C n d).before args s = true) (hr : (Cond.isRef (.static C n d)).before args s = true) (hA : ∀ a : Nat, a < s.heap.size → ¬ A a) : xS C n d A s s.heap := by
  obtain ⟨cf, kf, i, f, a, cell, h1, h2, h3, h4, h5, h6, h7, h8, h9⟩ := Cond.laysStatic_spec hl
  refine ⟨cf, kf, i, f, a, cell, h1, h2, h3, h4, h5, h6, h7, h8, h9, ?_, hA a (Array.getElem?_eq_some_iff.mp h5).1⟩
  obtain ⟨v, hv⟩ : ∃ v, cell.slots[f.slot]? = some v := ⟨_, Array.getElem?_eq_getElem h8⟩
  refine ⟨v, hv, ?_⟩
  have he : (Term.static C n d).eval args s none [] s = some v := by
    simp [Term.eval, State.fieldNamed?, h2, h3, h4, h5, h6, hv]
  simp only [Cond.before, Cond.holds, Cond.value, he] at hr
  cases v <;> simp_all [Value.isRef]
section XThrow
variable {p : Program} {l : Launch} {e : Env} {R : Room} {s : State} {m : MethodId} {args : Array Value} {below : List Frame} {meth : Method} {c : Code} {H : Heap} {locs : List Loc} {cells slots : Nat}
/-- the state in which this very method would be called now, in this heap: what it was called in, but for the heap -/
def xNow (s T : State) (m : MethodId) (args : Array Value) (below : List Frame) : State := (T.setVm s.vm).setFrames (.invoking m args :: below)
theorem x_nowF {T : State} (X : Stand p l e R s m args below meth c T locs cells slots) : (xNow s T m args below).frames = .invoking m args :: below :=
  State.frames_setFrames _ (State.cur_lt_of_top (show (T.setVm s.vm).topJava?.isSome from X.here.top))
theorem x_nowSame {T : State} (X : Stand p l e R s m args below meth c T locs cells slots) : (xNow s T m args below).sameButNew (T.setVm (xNow s T m args below).vm) [] 0 0 := by
  obtain ⟨g₀, hfr⟩ := X.frames_eq
  have hfr' : (T.setVm s.vm).frames = .java g₀ :: below := hfr
  obtain ⟨t, ht, -⟩ := State.frames_cons hfr'
  obtain ⟨t', ht', -⟩ := State.frames_cons (x_nowF X)
  have h := (State.sameButNew.refl (xNow s T m args below) ht').setFrames (T.setVm s.vm).frames (State.cur_lt_of_frames (x_nowF X))
  unfold xNow at h
  rw [State.setFrames_setFrames, State.setFrames_self ht] at h
  exact h
theorem x_nowRoom {T : State} (X : Stand p l e R s m args below meth c T locs cells slots) {R' : Room} (hf : R'.frames ≤ R.frames) (hl : R'.locals ≤ R.locals) (hc : cells + R'.cells ≤ R.cells) (hs : slots + R'.slots ≤ R.slots) :
    (xNow s T m args below).hasRoom e.platform R' = true := by
  have h := X.room
  have hU : (xNow s T m args below).localsInUse = s.localsInUse := by
    rw [State.localsInUse_invoking (x_nowF X) (meth := meth) (c := c) X.method X.code, State.localsInUse_invoking X.frames X.method X.code]
  have h1 : e.platform.stackLimits (xNow s T m args below).me = e.platform.stackLimits s.me := by
    unfold xNow; rw [State.stackLimits_setFrames]; exact X.limits
  have h2 : (xNow s T m args below).me.stackBytes = s.me.stackBytes := by
    unfold xNow; rw [State.stackBytes_setFrames]; exact X.bytes
  have z1 := X.heapSize
  have z2 := X.used
  have z3 : (xNow s T m args below).heap = T.heap := rfl
  have z4 : (xNow s T m args below).slotsUsed = T.slotsUsed := rfl
  have z5 : (xNow s T m args below).slotsTrue = true := X.book
  simp only [State.hasRoom, Bool.and_eq_true, decide_eq_true_eq] at h ⊢
  rw [X.frames] at h
  rw [x_nowF X, hU, h1, h2, z3, z4]
  simp only [List.length_cons] at h ⊢
  obtain ⟨⟨⟨⟨q1, q2, q3, q4, q5, q6⟩, q7⟩, q8⟩, -⟩ := h
  exact ⟨⟨⟨⟨by omega, by omega, by omega, by omega, by omega, q6⟩, by omega⟩, by omega⟩, z5⟩
/-- the walk goes on as one of that call -/
theorem x_now {T : State} (X : Stand p l e R s m args below meth c T locs cells slots) {R' : Room} (hf : R'.frames ≤ R.frames) (hl : R'.locals ≤ R.locals) (hc : cells + R'.cells ≤ R.cells) (hs : slots + R'.slots ≤ R.slots) :
    Stand p l e R' (xNow s T m args below) m args below meth c T [] 0 0 :=
  ⟨X.admits, X.cas, X.clock, x_nowF X, x_nowRoom X hf hl hc hs, X.hears, X.method, X.code, X.here, X.tail, X.warmed,
    by unfold xNow; rw [State.stackLimits_setFrames]; rfl, by unfold xNow; rw [State.stackBytes_setFrames]; rfl, x_nowSame X⟩
end XThrow
/-- words that stay true of warmer tables, and speak of the tables alone -/
def xGood : Cond → Bool
  | .fieldLinkNest .. | .methodLinkNest .. | .castable .. | .declares _ => true
  | .not (.castable ..) => true
  | .arrayClass _ => true
  | w => w.onTables && w.keeps
theorem x_wordAt {args a' : Array Value} {s U : State} (hW : s.WarmedH U.vm) {w : Cond} (hg : xGood w = true) (h : w.before args s = true) : w.before a' U = true := by
  have hcast : ∀ w : Cond, w.castAtom = true → w.before args s = true → w.before args (s.setVm U.vm) = true := fun w hc hh => Cond.castAtom_setVm hW.alike w hc hh
  unfold xGood at hg
  split at hg
  · exact va_tabs rfl (rfl : (s.setVm U.vm).vm = U.vm) (Cond.fieldLinkNest_warmed (args := args) hW h)
  · exact va_tabs rfl (rfl : (s.setVm U.vm).vm = U.vm) (Cond.methodLinkNest_warmed (args := args) hW h)
  · exact va_tabs rfl (rfl : (s.setVm U.vm).vm = U.vm) (by rw [Cond.castable_setVm hW.alike]; exact h)
  · exact va_tabs rfl (rfl : (s.setVm U.vm).vm = U.vm) (by rw [Cond.declares_setVm hW.alike]; exact h)
  · have h1 := hcast _ rfl h
    simp only [Cond.before, Cond.holds, Cond.value] at h1 ⊢
    exact h1
  · exact word_at hW (Or.inr ⟨_, rfl⟩) h
  · exact word_at hW (Or.inl hg) h
section XThrow2
variable {p : Program} {l : Launch} {e : Env} {R : Room} {s : State} {m : MethodId} {args : Array Value} {below : List Frame} {meth : Method} {c : Code} {H : Heap} {locs : List Loc} {cells slots : Nat}
/-- not one of the four words of a throw that speak of the heap -/
def xTab (w : Cond) : Bool := match w with
  | .isRef _ => false
  | .laysStatic .. => false
  | _ => true
theorem x_ownW {own : String} {ic : Nat} {E : String} {names : List String} {A : Nat → Prop} {s : State} (h : ∀ w ∈ (Bundle.ownAtoms own ic E names).filter xTab, w.before args s = true)
    (hU : xS Bundle.tN "UNASSIGNED_STACK" Bundle.steD A s s.heap) (hN : xS Bundle.tN "SUPPRESSED_SENTINEL" Bundle.listD A s s.heap) : ∀ w ∈ Bundle.ownAtoms own ic E names, w.before args s = true := by
  intro w hw
  by_cases ht : xTab w = true
  · exact h w (List.mem_filter.mpr ⟨hw, ht⟩)
  · simp only [Bundle.ownAtoms, Bundle.throwableAtoms, Bundle.throwableSAtoms, List.mem_append, List.mem_cons, List.not_mem_nil, or_false] at hw
    have hch : ∀ (ns : List String) (Y : String), w ∈ Bundle.chainSAtoms Y ns → xTab w = true := by
      intro ns
      induction ns with
      | nil =>
        intro Y hY
        simp only [Bundle.chainSAtoms, Bundle.passSAtoms, List.mem_cons, List.not_mem_nil, or_false] at hY
        rcases hY with rfl | rfl | rfl | rfl | rfl <;> rfl
      | cons n ns ih =>
        intro Y hY
        simp only [Bundle.chainSAtoms, List.mem_append] at hY
        rcases hY with hY | hY
        · simp only [Bundle.passSAtoms, List.mem_cons, List.not_mem_nil, or_false] at hY
          rcases hY with rfl | rfl | rfl | rfl | rfl <;> rfl
        · exact ih n hY
    rcases hw with ((hw | hw) | hw) | hw
    · rcases hw with rfl | rfl | rfl | rfl | rfl | rfl | rfl | rfl | rfl | rfl | rfl | rfl | rfl | rfl | rfl | rfl | rfl | rfl | rfl | rfl | rfl | rfl | rfl | rfl <;> first | exact hU.lays | exact hN.lays | exact absurd rfl ht
    · rcases hw with rfl | rfl | rfl | rfl <;> exact absurd rfl ht
    · exact absurd (hch names E hw) ht
    · rcases hw with rfl | rfl | rfl | rfl | rfl | rfl | rfl | rfl | rfl | rfl | rfl | rfl | rfl | rfl <;> first | exact hU.isRef | exact hN.isRef | exact absurd rfl ht
theorem x_sameHeap {U : State} {n r : Nat} (h : s.sameButNew ({ U with vm := s.vm } : State) [] n r) : s.heap.size ≤ U.heap.size ∧ ∀ q : Nat, q < s.heap.size → U.heap[q]? = s.heap[q]? := by
  obtain ⟨-, h2, -, -, -, h6⟩ := h
  refine ⟨h2, fun q hq => ?_⟩
  obtain ⟨c9, e1, e2, -, e4⟩ := h6 q _ (Array.getElem?_eq_getElem hq)
  have hs : c9.slots = (s.heap[q]).slots := Array.ext_getElem? fun i => e4 i (fun hm => nomatch hm)
  rw [hs] at e2
  have e5 : U.heap[q]? = some c9 := e1
  rw [e5, Array.getElem?_eq_getElem hq]
  exact congrArg some e2
/-- throw new E("text") -/
theorem x_throw {cc : ByteArray} {pc : Nat} {ls : Array Slot} {rest : List Value} (hexec : p.tables.exec = Jvm.exec) (hb : c.code = cc) (hl : l.stackTraces = false) {own text : String} {names : List String} {ik is ic mc ms sa k : Nat} {v : Option Value} {B : State → Prop} {A : Nat → Prop}
    (hown : s.vm.findClass own = some m.cls) (hfit : Bundle.fit (xN k) = true) (hnames : ∀ n ∈ names, Bundle.fit n = true) (hk0 : k ≠ 0)
    (hw : ∀ w ∈ Cond.classLink own ik (xN k) :: Cond.initialized (xN k) :: (Bundle.ownAtoms own ic (xN k) names).filter xTab, w.before args s = true ∧ w.onTables = true) (hstr : vk_R own is text sa s)
    (hU : xS Bundle.tN "UNASSIGNED_STACK" Bundle.steD A s s.heap) (hN : xS Bundle.tN "SUPPRESSED_SENTINEL" Bundle.listD A s s.heap) (hS : va_S A s.heap H locs) (hsize : ls.size = c.maxLocals)
    (d0 : decode cc pc = .ok (.new ik, 3)) (d3 : decode cc (pc + 3) = .ok (.dup, 1)) (d4 : decode cc (pc + 4) = .ok (.ldc is, 2)) (d6 : decode cc (pc + 6) = .ok (.invokespecial ic, 3)) (d9 : decode cc (pc + 9) = .ok (.athrow, 1))
    (hout : ∀ x ∈ c.exceptionTable.toList, covers x (pc + 9) = false) (hRf : names.length + 3 < R.frames) (hRl : (rest.map fun v => v.category).sum + (13 * (names.length + 1) + 43) ≤ R.locals) (hRc : cells + 1 ≤ R.cells) (hRs : slots + 6 ≤ R.slots) (hlocks : meth.locks = false)
    (hB : ∀ t : State, s.WarmedH t.vm → H.size ≤ t.heap.size → (∀ q : Nat, q < H.size → t.heap[q]? = H[q]?) → B t) (hc : cells + 1 ≤ mc) (hs : slots + 6 ≤ ms) :
    W p l e R s m args below meth c H locs cells slots (xMQ below k v B A s mc ms) (F0 m pc ls rest) := by
  intro T hT X
  have htr : e.platform.stackTraces = false := (show e.platform.stackTraces = l.stackTraces by rw [X.admits.platform]).trans hl
  have Y := x_now X (R' := { frames := R.frames, locals := R.locals, cells := 1, slots := 6 }) (Nat.le_refl _) (Nat.le_refl _) hRc hRs
  obtain ⟨z, hz⟩ : ∃ z, z = xNow s T m args below := ⟨_, rfl⟩
  rw [← hz] at Y
  have zv : z.vm = s.vm := by rw [hz]; rfl
  have zh : z.heap = H := by rw [hz]; exact hT
  have zW : s.WarmedH z.vm := by rw [zv]; exact State.WarmedH.refl s
  have zw : ∀ w ∈ Cond.classLink own ik (xN k) :: Cond.initialized (xN k) :: (Bundle.ownAtoms own ic (xN k) names).filter xTab, w.before args z = true := fun w h => va_tabs (hw w h).2 zv.symm (hw w h).1
  have zU : xS Bundle.tN "UNASSIGNED_STACK" Bundle.steD A z z.heap := by rw [zh]; exact (hU.kept hS.2.1).moved zW.alike
  have zN : xS Bundle.tN "SUPPRESSED_SENTINEL" Bundle.listD A z z.heap := by rw [zh]; exact (hN.kept hS.2.1).moved zW.alike
  have zo : ∀ w ∈ Bundle.ownAtoms own ic (xN k) names, w.before args z = true := x_ownW (fun w h => zw w (List.mem_cons_of_mem _ (List.mem_cons_of_mem _ h))) zU zN
  have zown : z.vm.findClass own = some m.cls := by rw [zv]; exact hown
  obtain ⟨vm₁, cX, kX, hfX, hkX, -, -, X₁, st1⟩ := Y.newCold hexec (own := own) (C := xN k) (index := ik) (n := 6) zown (zw _ List.mem_cons_self) (zo _ (by simp [Bundle.ownAtoms])) (zw _ (List.mem_cons_of_mem _ List.mem_cons_self))
    (g := F0 m pc ls rest) rfl (by rw [hb]; exact d0) (Nat.le_refl _) (Nat.le_refl _)
  generalize hT1 : (T.setVm vm₁).pushCell { cls := cX, slots := kX.instanceTypes.map defaultValue, vm := .none } = T1 at X₁ st1
  have hcellA : T1.heap[T.heap.size]? = some (freshCell cX kX) := by rw [← hT1]; exact State.heap_pushCell_size _ _
  have hcat : (Value.ref T.heap.size).category = 1 := rfl
  have d3' : decode c.code (pc + 3) = .ok (.dup, 1) := by rw [hb]; exact d3
  have zstr : vk_R own is text sa z := vk_R.warm zW hstr
  obtain ⟨U, hsteps, hrun, hend, hWU, hsame, ce, hce, hO⟩ := X₁.ctorThrowS hexec htr (own := own) (cls := xN k) (names := names) (ic := ic) zown hfit hnames zo (fun x hx => nomatch hx) hfX hkX hcellA (by rw [zh, hT]; exact Nat.le_refl _) (msg := .ref sa) rfl
    (g := { method := m, pc := pc + 6, locals := ls, stack := .ref sa :: .ref T.heap.size :: .ref T.heap.size :: rest, locked := none }) rfl hsize rfl rfl (rest := rest) rfl
    (by rw [hb]; exact d6) (by rw [hb]; exact d9) hout hRf (by simp only [List.map_cons, List.sum_cons, hcat]; omega) hlocks
  obtain ⟨f1, f2⟩ := x_sameHeap hsame
  rw [zh] at f1 f2
  have hWs : s.WarmedH U.vm := State.WarmedH.trans zW hWU
  have hcl : s.vm.findClass (xN k) = some ce.cls := by rw [← zv]; exact hO.cls
  have hall : s.sameButNew ({ U with vm := s.vm } : State) locs mc ms := by
    subst hz
    obtain ⟨e1, e2⟩ := hsame
    unfold xNow at e1 e2
    rw [State.setFrames_setFrames] at e1
    have h2 : (T.setVm s.vm).sameButNew ({ U with vm := s.vm } : State) [] (0 + 1) (0 + 6) := ⟨e1, e2⟩
    have h3 := X.same.trans h2
    rw [List.append_nil] at h3
    exact h3.mono hc hs
  have hF : va_F A s U := ⟨Nat.le_trans hS.1 f1, fun q h1 h2 => (f2 q (Nat.lt_of_lt_of_le h1 hS.1)).trans (hS.2.1 q h1 h2)⟩
  refine ⟨U, ?_, .threw T.heap.size, hrun, hend, Or.inr ⟨hk0, T.heap.size, ce, rfl, hce, hO.vm, hcl⟩, hB U hWs f1 f2, hF, hWs, locs, hall, hS.2.2⟩
  refine st1 _ ?_
  show Steps p.tables e below (T1.setTop { method := m, pc := pc + 3, locals := ls, stack := .ref T.heap.size :: rest, locked := none }) _
  jvm_step X₁.here [X₁.here.top, hexec, d3', Value.category]
  exact X₁.ldcString hexec (own := own) (text := text) (index := is) (a := sa) zown zstr.1 zstr.2
    (g := { method := m, pc := pc + 4, locals := ls, stack := .ref T.heap.size :: .ref T.heap.size :: rest, locked := none }) rfl (by rw [hb]; exact d4) _ hsteps
end XThrow2
section XCatch
/-- one row of a table, its class linked or not yet: it catches, or the search goes on; the tables know the link from then on -/
theorem x_row {Q : Handler → Pre} {E : CtlPost} {e : Env} {d : Bool} {acts : List Action} {S : State} {f : JFrame} {a : Addr} {x : ExceptionTableEntry} {t : List ExceptionTableEntry} {k : ClassId} {cell : Cell} (hx : covers x f.pc = true) (h0 : x.catchType ≠ 0)
    (hl : S.vm.ClassLinks e.platform f.method.cls x.catchType k) (hcell : S.heap[a]? = some cell) (hobj : ∀ z, cell.vm ≠ .statics z) (hc : ∃ z, S.vm.classes[cell.cls]? = some z) (hk : ∃ z, S.vm.classes[k]? = some z) :
    wp (findHandler.go f a (x :: t)) Q E e d acts S ↔ if S.vm.assignable cell.cls k = true then Q (.found x.handlerPc) d acts (S.setVm (S.vm.noted f.method.cls x.catchType (.cls k))) else wp (findHandler.go f a t) Q E e d acts (S.setVm (S.vm.noted f.method.cls x.catchType (.cls k))) := by
  simp only [covers] at hx
  obtain ⟨ha, ht⟩ := (resolveClass_links e.toSetting hl).op (op := VmOp.resolveClass f.method.cls x.catchType) rfl
  have hal : S.vm.Alike (S.vm.noted f.method.cls x.catchType (.cls k)) := (Vm.Alike.refl S.vm).noted _ _ _
  obtain ⟨z1, hz1⟩ := hc
  obtain ⟨z2, hz2⟩ := hk
  obtain ⟨y1, hy1, -⟩ := hal.2.2 _ _ hz1
  obtain ⟨y2, hy2, -⟩ := hal.2.2 _ _ hz2
  have hsame : (S.vm.noted f.method.cls x.catchType (.cls k)).assignable cell.cls k = S.vm.assignable cell.cls k := hal.assignable ..
  cases hq : S.vm.assignable cell.cls k <;> rw [hq] at hsame <;>
    simp [findHandler.go, hx, h0, ha, ht, hcell, hobj, hy1, hy2, hsame, VmOp.dirties, VmOp.acts]
/-- a row that names the class nm -/
def xRow (s : State) (args : Array Value) (own : String) (pc : Nat) (x : ExceptionTableEntry) (nm : String) : Prop := covers x pc = true ∧ x.catchType ≠ 0 ∧ (Cond.classLink own x.catchType nm).before args s = true
/-- the search: rows of other classes, then one that takes the object -/
theorem x_search {e : Env} (hpl : e.platform.magicAccessors = ({} : Platform).magicAccessors) {s : State} {args : Array Value} {own : String} {f : JFrame} {a : Addr} {cell : Cell} {E9 : String} (hown : s.vm.findClass own = some f.method.cls) (hobj : ∀ z, cell.vm ≠ .statics z) (hcl : s.vm.findClass E9 = some cell.cls)
    (x : ExceptionTableEntry) (rest : List ExceptionTableEntry) (nm : String) (hx : xRow s args own f.pc x nm) (hfit : (Cond.castable E9 nm).before args s = true) :
    ∀ (pre : List (ExceptionTableEntry × String)) (S : State), s.WarmedH S.vm → S.heap[a]? = some cell → (∀ y ∈ pre, xRow s args own f.pc y.1 y.2 ∧ (Cond.not (.castable E9 y.2)).before args s = true) →
      ∃ vm', s.WarmedH vm' ∧ ∀ (Q : Handler → Pre) (E : CtlPost) (d : Bool) (acts : List Action), wp (findHandler.go f a (pre.map (·.1) ++ x :: rest)) Q E e d acts S ↔ Q (.found x.handlerPc) d acts (S.setVm vm') := by
  obtain ⟨k9, hk9, -⟩ := Vm.findClass_spec hcl
  intro pre
  induction pre with
  | nil =>
    intro S hW hcell _
    obtain ⟨hcov, h0, hlink⟩ := hx
    obtain ⟨c', hc', hl⟩ := Cond.classLink_spec hown hlink e.platform hpl
    obtain ⟨c3, c4, h3, h4, hasg⟩ := Cond.castable_spec hfit
    cases Option.some.inj (h3.symm.trans hcl)
    cases Option.some.inj (h4.symm.trans hc')
    obtain ⟨dk, _, _, kt, hd, _, _, _, _, hkt, _, hopen⟩ := hl.here
    obtain ⟨k9', hk9', -⟩ := hW.alike.2.2 _ _ hk9
    obtain ⟨kt', hkt', -⟩ := hW.alike.2.2 _ _ hkt
    refine ⟨_, hW.noted hd hopen (State.rightAt_cls hl), fun Q E d acts => ?_⟩
    rw [List.map_nil, List.nil_append, x_row hcov h0 (hW.classLinks hl) hcell hobj ⟨k9', hk9'⟩ ⟨kt', hkt'⟩, if_pos (by rw [hW.alike.assignable]; exact hasg)]
  | cons y ys ih =>
    intro S hW hcell hpre
    obtain ⟨⟨hcov, h0, hlink⟩, hno⟩ := hpre y List.mem_cons_self
    obtain ⟨c', hc', hl⟩ := Cond.classLink_spec hown hlink e.platform hpl
    have hv := Cond.holds_not_iff.mp hno
    simp only [Cond.value, hcl, hc'] at hv
    have hv := Option.some.inj hv
    obtain ⟨dk, _, _, kt, hd, _, _, _, _, hkt, _, hopen⟩ := hl.here
    obtain ⟨k9', hk9', -⟩ := hW.alike.2.2 _ _ hk9
    obtain ⟨kt', hkt', -⟩ := hW.alike.2.2 _ _ hkt
    obtain ⟨vm', hW', hq⟩ := ih (S.setVm (S.vm.noted f.method.cls y.1.catchType (.cls c'))) (hW.noted hd hopen (State.rightAt_cls hl)) hcell (fun z hz => hpre z (List.mem_cons_of_mem _ hz))
    refine ⟨vm', hW', fun Q E d acts => ?_⟩
    rw [List.map_cons, List.cons_append, x_row hcov h0 (hW.classLinks hl) hcell hobj ⟨k9', hk9'⟩ ⟨kt', hkt'⟩, if_neg (by rw [hW.alike.assignable, hv]; decide)]
    exact hq Q E d acts
/-- a step of the throwing thread into the handler -/
theorem x_into {tb : Tables} {e : Env} {s target : State} {g : JFrame} {c : Code} {below : List Frame} {a : Addr} (h : At s g.method c below) {pc : Nat} {vm' : Vm}
    (hfind : ∀ (Q : Handler → Pre) (E : CtlPost) (d : Bool) (acts : List Action), wp (findHandler g a) Q E e d acts ((s.setTop g).pushFrame (.throwing a)) ↔ Q (.found pc) d acts (((s.setTop g).pushFrame (.throwing a)).setVm vm'))
    (hrest : Steps tb e below ((s.setVm vm').setTop { g with pc := pc, stack := [.ref a] }) target) : Steps tb e below ((s.setTop g).pushFrame (.throwing a)) target := by
  obtain ⟨hgo, hw⟩ := h.throwing a
  refine Steps.head hgo hw ?_
  rw [stepThread_throwing (frames_entered h.top _)]
  obtain ⟨g₀, hg⟩ := Option.isSome_iff_exists.mp h.top
  obtain ⟨r, hr⟩ := State.topJava?_eq_some.mp hg
  have hstep : (stepThrowing e ((s.setTop g).pushFrame (.throwing a)) a (.java g :: s.frames.tail)).Is ((((s.setTop g).pushFrame (.throwing a)).setVm vm').setFrames (.java { g with pc := pc, stack := [.ref a] } :: s.frames.tail)) [] := by
    simp only [stepThrowing, searchFrame, vmDo]
    generalize hres : Sem.go _ e false [] ((s.setTop g).pushFrame (.throwing a)) = res
    obtain ⟨as, rfl, ha⟩ := Sem.eq_ok_of hres (a := Handler.found pc) (s' := ((s.setTop g).pushFrame (.throwing a)).setVm vm') (acts' := []) (by simp [hfind _ _ _ _])
    exact ⟨rfl, ha⟩
  rw [hstep.1]
  have hr' : (s.setVm vm').frames = .java g₀ :: r := hr
  rw [State.setTop_of_frames _ hr'] at hrest
  have hfs : ∀ (u : State) (F G : List Frame), ((u.setFrames F).setVm vm').setFrames G = (u.setVm vm').setFrames G := fun u F G => by
    have h1 : (u.setFrames F).setVm vm' = (u.setVm vm').setFrames F := rfl
    rw [h1, State.setFrames_setFrames]
  rw [hr, List.tail_cons, State.pushFrame, hfs, State.setTop_of_frames _ hr, hfs]
  exact hrest
variable {p : Program} {l : Launch} {e : Env} {R : Room} {s : State} {m : MethodId} {args : Array Value} {below : List Frame} {meth : Method} {c : Code} {H : Heap} {locs : List Loc} {cells slots : Nat} {Q : State → Prop} {ls : Array Slot} {rest : List Value} {pc : Nat}
/-- caught: the walk goes on at the handler -/
theorem x_catch {own nm : String} {k : Nat} {ce : Cell} {q : Addr} (hown : s.vm.findClass own = some m.cls) (pre : List (ExceptionTableEntry × String)) (x : ExceptionTableEntry) (suf : List ExceptionTableEntry) (hsplit : c.exceptionTable.toList = pre.map (·.1) ++ x :: suf)
    (hpre : ∀ y ∈ pre, xRow s args own pc y.1 y.2 ∧ (Cond.not (.castable (xN k) y.2)).before args s = true) (hx : xRow s args own pc x nm) (hfit : (Cond.castable (xN k) nm).before args s = true) (hcell : H[q]? = some ce) (hv : ce.vm = .none) (hcl : s.vm.findClass (xN k) = some ce.cls)
    (kk : W p l e R s m args below meth c H locs cells slots Q (F0 m x.handlerPc ls [.ref q])) : xW p l e R s m args below meth c H locs cells slots Q (F0 m pc ls rest) q := by
  intro T hT X
  have hpl : e.platform.magicAccessors = ({} : Platform).magicAccessors := by rw [X.admits.platform]
  obtain ⟨vm', hW', hq⟩ := x_search hpl (f := F0 m pc ls rest) (a := q) hown (VmData.ne_statics_of (by rw [hv]; rfl)) hcl x suf nm hx hfit pre (((T.setTop (F0 m pc ls rest)).pushFrame (.throwing q))) X.warmed (by show T.heap[q]? = some ce; rw [hT]; exact hcell) hpre
  obtain ⟨t, a1, b1⟩ := kk (T.setVm vm') hT (X.noted hW')
  refine ⟨t, x_into (g := F0 m pc ls rest) (pc := x.handlerPc) (vm' := vm') X.here (fun Q9 E9 d acts => ?_) a1, b1⟩
  rw [W.findHandler_eq (meth := meth) (code := c) X.method' X.code, hsplit]
  exact hq Q9 E9 d acts
end XCatch
end
section
/-! Small rows: how a pure function's value is followed along a walk. Own rows. -/
theorem j_t {c : Prop} [Decidable c] {α : Type} {a b r : α} (hJ : (if c then a else b) = r) (h : c) : a = r := by rw [if_pos h] at hJ; exact hJ
theorem j_f {c : Prop} [Decidable c] {α : Type} {a b r : α} (hJ : (if c then a else b) = r) (h : ¬ c) : b = r := by rw [if_neg h] at hJ; exact hJ
theorem j_g {c : Bool} {α : Type} {a : Option α} {r : α} (hJ : (if c = true then a else none) = some r) : c = true ∧ a = some r := by
  by_cases h : c = true
  · rw [if_pos h] at hJ; exact ⟨h, hJ⟩
  · rw [if_neg h] at hJ; cases hJ
theorem j_bind {α β : Type} {o : Option α} {f : α → Option β} {r : β} (hJ : o.bind f = some r) : ∃ a, o = some a ∧ f a = some r := by
  cases o with
  | none => cases hJ
  | some a => exact ⟨a, rfl, hJ⟩
theorem j_none {α : Type} {r : α} {P : Prop} (h : (none : Option α) = some r) : P := nomatch h
def jin (i : Int32) (n : Nat) : Bool := decide (0 ≤ i.toInt ∧ i.toInt < n)
theorem j_in {i : Int32} {n : Nat} (h : jin i n = true) : vp_in i n := vp_in_iff.mpr (of_decide_eq_true h)
theorem jin_nI {n N : Nat} (h : n < N) (hN : N < 2 ^ 31) : jin (nI n) N = true := decide_eq_true (by rw [nI_toInt (by omega)]; omega)
def jbl (x : Int32) : Bool := decide (x = 0 ∨ x = 1)
theorem j_bl {x : Int32} (h : jbl x = true) : narrow .boolean (.int x) = .int x ∧ fits .boolean (.int x) = true := by
  rcases of_decide_eq_true h with rfl | rfl
  · exact ⟨by decide +kernel, by decide +kernel⟩
  · exact ⟨by decide +kernel, by decide +kernel⟩
abbrev By : Type := Nat → Int8
theorem by_upd (f : By) (k : Nat) (x : Int32) : upd (fun j => (f j).toInt32) k (vp_nar .byte x) = fun j => (va_up f k x.toInt8 j).toInt32 := by
  funext j
  unfold upd va_up
  by_cases h : j = k
  · rw [if_pos h, if_pos h]; rfl
  · rw [if_neg h, if_neg h]
theorem by_cpy (f g : By) (sp dp n : Nat) : va_cpy (fun j => (f j).toInt32) (fun j => (g j).toInt32) sp dp n = fun j => (va_cpy f g sp dp n j).toInt32 := by
  funext j
  unfold va_cpy
  by_cases h : dp ≤ j ∧ j < dp + n
  · rw [if_pos h, if_pos h]
  · rw [if_neg h, if_neg h]
theorem by_fit (x : Int8) : fits .byte (.int x.toInt32) = true := by
  have h := pk_fb (x.toInt32)
  have e : x.toInt32.toInt8.toInt32 = x.toInt32 := by simp
  rw [e] at h
  exact h
end
section
/-! Names: classes, their fields, methods; the words of the tables that stay true (tb). Written by wip/gen/names.py. -/
def R_Blocks : String := "LogFs$Blocks"
def T_Blocks : u_T := fun k => match k with
  | _ => ("LogFs$Blocks", "bytes", "[B", true)
def t_Blocks : Nat → FieldType := fun k => match k with
  | _ => .array .byte
theorem n_Blocks : ∀ a, a < 1 → ∀ b, b < 1 → a ≠ b → (T_Blocks a).2.1 ≠ (T_Blocks b).2.1 := by decide +kernel
theorem t_Blocks_ok : ∀ k, k < 1 → parseFieldDescriptor (T_Blocks k).2.2.1 = some (t_Blocks k) := by decide +kernel
def R_Disk : String := "LogFs$Disk"
def T_Disk : u_T := fun k => match k with
  | 0 => ("LogFs$Disk", "blocks", "LLogFs$Blocks;", true)
  | 1 => ("LogFs$Disk", "writes", "I", false)
  | 2 => ("LogFs$Disk", "writesToFailure", "I", false)
  | _ => ("LogFs$Disk", "isOff", "Z", false)
def t_Disk : Nat → FieldType := fun k => match k with
  | 0 => .object "LogFs$Blocks"
  | 1 => .int
  | 2 => .int
  | _ => .boolean
theorem n_Disk : ∀ a, a < 4 → ∀ b, b < 4 → a ≠ b → (T_Disk a).2.1 ≠ (T_Disk b).2.1 := by decide +kernel
theorem t_Disk_ok : ∀ k, k < 4 → parseFieldDescriptor (T_Disk k).2.2.1 = some (t_Disk k) := by decide +kernel
def R_Memory : String := "LogFs$Memory"
def T_Memory : u_T := fun k => match k with
  | 0 => ("LogFs$Memory", "blocks", "LLogFs$Blocks;", true)
  | 1 => ("LogFs$Memory", "pending", "[I", true)
  | _ => ("LogFs$Memory", "pendingCount", "I", false)
def t_Memory : Nat → FieldType := fun k => match k with
  | 0 => .object "LogFs$Blocks"
  | 1 => .array .int
  | _ => .int
theorem n_Memory : ∀ a, a < 3 → ∀ b, b < 3 → a ≠ b → (T_Memory a).2.1 ≠ (T_Memory b).2.1 := by decide +kernel
theorem t_Memory_ok : ∀ k, k < 3 → parseFieldDescriptor (T_Memory k).2.2.1 = some (t_Memory k) := by decide +kernel
def R_Volume : String := "LogFs$Volume"
def T_Volume : u_T := fun k => match k with
  | 0 => ("LogFs$Volume", "memory", "LLogFs$Memory;", true)
  | _ => ("LogFs$Volume", "blocks", "LLogFs$Blocks;", true)
def t_Volume : Nat → FieldType := fun k => match k with
  | 0 => .object "LogFs$Memory"
  | _ => .object "LogFs$Blocks"
theorem n_Volume : ∀ a, a < 2 → ∀ b, b < 2 → a ≠ b → (T_Volume a).2.1 ≠ (T_Volume b).2.1 := by decide +kernel
theorem t_Volume_ok : ∀ k, k < 2 → parseFieldDescriptor (T_Volume k).2.2.1 = some (t_Volume k) := by decide +kernel
def R_LogFs : String := "LogFs"
def T_LogFs : u_T := fun k => match k with
  | 0 => ("LogFs", "onDisk", "LLogFs$Disk;", true)
  | 1 => ("LogFs", "inMemory", "LLogFs$Memory;", true)
  | 2 => ("LogFs", "volume", "LLogFs$Volume;", true)
  | _ => ("LogFs", "commits", "I", false)
def t_LogFs : Nat → FieldType := fun k => match k with
  | 0 => .object "LogFs$Disk"
  | 1 => .object "LogFs$Memory"
  | 2 => .object "LogFs$Volume"
  | _ => .int
theorem n_LogFs : ∀ a, a < 4 → ∀ b, b < 4 → a ≠ b → (T_LogFs a).2.1 ≠ (T_LogFs b).2.1 := by decide +kernel
theorem t_LogFs_ok : ∀ k, k < 4 → parseFieldDescriptor (T_LogFs k).2.2.1 = some (t_LogFs k) := by decide +kernel
def R_Model : String := "LogFsModel"
def T_Model : u_T := fun k => match k with
  | 0 => ("LogFsModel", "thrown", "I", false)
  | 1 => ("LogFsModel", "disk", "[B", true)
  | 2 => ("LogFsModel", "memory", "[B", true)
  | 3 => ("LogFsModel", "pending", "[I", true)
  | 4 => ("LogFsModel", "pendings", "I", false)
  | 5 => ("LogFsModel", "writes", "I", false)
  | 6 => ("LogFsModel", "commits", "I", false)
  | 7 => ("LogFsModel", "left", "I", false)
  | 8 => ("LogFsModel", "off", "Z", false)
  | 9 => ("LogFsModel", "failed", "Z", false)
  | 10 => ("LogFsModel", "name", "[B", true)
  | _ => ("LogFsModel", "page", "[B", true)
def t_Model : Nat → FieldType := fun k => match k with
  | 0 => .int
  | 1 => .array .byte
  | 2 => .array .byte
  | 3 => .array .int
  | 4 => .int
  | 5 => .int
  | 6 => .int
  | 7 => .int
  | 8 => .boolean
  | 9 => .boolean
  | 10 => .array .byte
  | _ => .array .byte
theorem n_Model : ∀ a, a < 12 → ∀ b, b < 12 → a ≠ b → (T_Model a).2.1 ≠ (T_Model b).2.1 := by decide +kernel
theorem t_Model_ok : ∀ k, k < 12 → parseFieldDescriptor (T_Model k).2.2.1 = some (t_Model k) := by decide +kernel
abbrev cls : List vw_C := [(R_Blocks, T_Blocks, 1), (R_Disk, T_Disk, 4), (R_Memory, T_Memory, 3), (R_Volume, T_Volume, 2), (R_LogFs, T_LogFs, 4), (R_Model, T_Model, 12)]
abbrev b_LogFs_init : ByteArray := prog_1_method_1_code
abbrev y_LogFs_init : MethodName := ⟨"LogFs", "<init>", "()V"⟩
abbrev b_Disk_init : ByteArray := prog_3_method_1_code
abbrev y_Disk_init : MethodName := ⟨"LogFs$Disk", "<init>", "()V"⟩
abbrev b_Blocks_init : ByteArray := prog_2_method_1_code
abbrev y_Blocks_init : MethodName := ⟨"LogFs$Blocks", "<init>", "()V"⟩
abbrev b_Blocks_set : ByteArray := prog_2_method_3_code
abbrev y_Blocks_set : MethodName := ⟨"LogFs$Blocks", "set", "(III)V"⟩
abbrev b_Blocks_get : ByteArray := prog_2_method_2_code
abbrev y_Blocks_get : MethodName := ⟨"LogFs$Blocks", "get", "(II)I"⟩
abbrev b_Memory_init : ByteArray := prog_4_method_1_code
abbrev y_Memory_init : MethodName := ⟨"LogFs$Memory", "<init>", "()V"⟩
abbrev b_Volume_init : ByteArray := prog_5_method_1_code
abbrev y_Volume_init : MethodName := ⟨"LogFs$Volume", "<init>", "(LLogFs$Memory;)V"⟩
abbrev b_Memory_load : ByteArray := prog_4_method_2_code
abbrev y_Memory_load : MethodName := ⟨"LogFs$Memory", "load", "(LLogFs$Blocks;)V"⟩
abbrev b_Blocks_copyAll : ByteArray := prog_2_method_6_code
abbrev y_Blocks_copyAll : MethodName := ⟨"LogFs$Blocks", "copyAll", "(LLogFs$Blocks;)V"⟩
abbrev b_Memory_forgetPending : ByteArray := prog_4_method_6_code
abbrev y_Memory_forgetPending : MethodName := ⟨"LogFs$Memory", "forgetPending", "()V"⟩
abbrev b_LogFs_failAfter : ByteArray := prog_1_method_9_code
abbrev y_LogFs_failAfter : MethodName := ⟨"LogFs", "failAfter", "(I)Z"⟩
abbrev b_LogFs_count : ByteArray := prog_1_method_16_code
abbrev y_LogFs_count : MethodName := ⟨"LogFs", "count", "(I)I"⟩
abbrev b_LogFs_countInMemory : ByteArray := prog_1_method_17_code
abbrev y_LogFs_countInMemory : MethodName := ⟨"LogFs", "countInMemory", "(I)I"⟩
abbrev b_Volume_freeBlocks : ByteArray := prog_5_method_9_code
abbrev y_Volume_freeBlocks : MethodName := ⟨"LogFs$Volume", "freeBlocks", "()I"⟩
abbrev b_Integer_bitCount : ByteArray := prog_11_method_49_code
abbrev y_Integer_bitCount : MethodName := ⟨"java/lang/Integer", "bitCount", "(I)I"⟩
abbrev b_Volume_freeInodes : ByteArray := prog_5_method_8_code
abbrev y_Volume_freeInodes : MethodName := ⟨"LogFs$Volume", "freeInodes", "()I"⟩
abbrev b_Volume_type : ByteArray := prog_5_method_2_code
abbrev y_Volume_type : MethodName := ⟨"LogFs$Volume", "type", "(I)I"⟩
abbrev b_Volume_inodeByte : ByteArray := prog_5_method_23_code
abbrev y_Volume_inodeByte : MethodName := ⟨"LogFs$Volume", "inodeByte", "(II)I"⟩
abbrev b_LogFs_isInode : ByteArray := prog_1_method_22_code
abbrev y_LogFs_isInode : MethodName := ⟨"LogFs", "isInode", "(I)Z"⟩
abbrev b_Memory_pendingAt : ByteArray := prog_4_method_5_code
abbrev y_Memory_pendingAt : MethodName := ⟨"LogFs$Memory", "pendingAt", "(I)I"⟩
abbrev b_LogFs_make : ByteArray := prog_1_method_2_code
abbrev y_LogFs_make : MethodName := ⟨"LogFs", "make", "(IJZ)I"⟩
abbrev b_LogFs_requirePower : ByteArray := prog_1_method_18_code
abbrev y_LogFs_requirePower : MethodName := ⟨"LogFs", "requirePower", "()V"⟩
abbrev b_Volume_leastFreeInode : ByteArray := prog_5_method_7_code
abbrev y_Volume_leastFreeInode : MethodName := ⟨"LogFs$Volume", "leastFreeInode", "()I"⟩
abbrev b_Volume_canEnter : ByteArray := prog_5_method_15_code
abbrev y_Volume_canEnter : MethodName := ⟨"LogFs$Volume", "canEnter", "(IJ)Z"⟩
abbrev b_Volume_isDirectory : ByteArray := prog_5_method_6_code
abbrev y_Volume_isDirectory : MethodName := ⟨"LogFs$Volume", "isDirectory", "(I)Z"⟩
abbrev b_LogFs_isName : ByteArray := prog_1_method_26_code
abbrev y_LogFs_isName : MethodName := ⟨"LogFs", "isName", "(J)Z"⟩
abbrev b_LogFs_byteOf : ByteArray := prog_1_method_24_code
abbrev y_LogFs_byteOf : MethodName := ⟨"LogFs", "byteOf", "(JI)I"⟩
abbrev b_Volume_placeOf : ByteArray := prog_5_method_11_code
abbrev y_Volume_placeOf : MethodName := ⟨"LogFs$Volume", "placeOf", "(IJ)I"⟩
abbrev b_Volume_size : ByteArray := prog_5_method_4_code
abbrev y_Volume_size : MethodName := ⟨"LogFs$Volume", "size", "(I)I"⟩
abbrev b_Volume_entryAt : ByteArray := prog_5_method_26_code
abbrev y_Volume_entryAt : MethodName := ⟨"LogFs$Volume", "entryAt", "(II)J"⟩
abbrev b_Volume_contentBlock : ByteArray := prog_5_method_25_code
abbrev y_Volume_contentBlock : MethodName := ⟨"LogFs$Volume", "contentBlock", "(II)I"⟩
abbrev b_Volume_placeForEntry : ByteArray := prog_5_method_12_code
abbrev y_Volume_placeForEntry : MethodName := ⟨"LogFs$Volume", "placeForEntry", "(I)I"⟩
abbrev b_Volume_fits : ByteArray := prog_5_method_27_code
abbrev y_Volume_fits : MethodName := ⟨"LogFs$Volume", "fits", "(II)Z"⟩
abbrev b_Volume_blocksToTake : ByteArray := prog_5_method_28_code
abbrev y_Volume_blocksToTake : MethodName := ⟨"LogFs$Volume", "blocksToTake", "(II)I"⟩
abbrev b_LogFs_blocksFor : ByteArray := prog_1_method_23_code
abbrev y_LogFs_blocksFor : MethodName := ⟨"LogFs", "blocksFor", "(I)I"⟩
abbrev b_LogFs_commitIfMany : ByteArray := prog_1_method_20_code
abbrev y_LogFs_commitIfMany : MethodName := ⟨"LogFs", "commitIfMany", "()V"⟩
abbrev b_LogFs_commit : ByteArray := prog_1_method_21_code
abbrev y_LogFs_commit : MethodName := ⟨"LogFs", "commit", "()V"⟩
abbrev b_Disk_storePending : ByteArray := prog_3_method_2_code
abbrev y_Disk_storePending : MethodName := ⟨"LogFs$Disk", "storePending", "(LLogFs$Memory;)Z"⟩
abbrev b_Disk_storeInLog : ByteArray := prog_3_method_4_code
abbrev y_Disk_storeInLog : MethodName := ⟨"LogFs$Disk", "storeInLog", "(LLogFs$Memory;)Z"⟩
abbrev b_Disk_storeBlock : ByteArray := prog_3_method_8_code
abbrev y_Disk_storeBlock : MethodName := ⟨"LogFs$Disk", "storeBlock", "(LLogFs$Blocks;II)Z"⟩
abbrev b_Disk_spendWrite : ByteArray := prog_3_method_9_code
abbrev y_Disk_spendWrite : MethodName := ⟨"LogFs$Disk", "spendWrite", "()Z"⟩
abbrev b_Blocks_copyBlock : ByteArray := prog_2_method_5_code
abbrev y_Blocks_copyBlock : MethodName := ⟨"LogFs$Blocks", "copyBlock", "(LLogFs$Blocks;II)V"⟩
abbrev b_Disk_storeHead : ByteArray := prog_3_method_6_code
abbrev y_Disk_storeHead : MethodName := ⟨"LogFs$Disk", "storeHead", "(LLogFs$Memory;)Z"⟩
abbrev b_Blocks_clear : ByteArray := prog_2_method_4_code
abbrev y_Blocks_clear : MethodName := ⟨"LogFs$Blocks", "clear", "(I)V"⟩
abbrev b_Disk_storeInPlace : ByteArray := prog_3_method_5_code
abbrev y_Disk_storeInPlace : MethodName := ⟨"LogFs$Disk", "storeInPlace", "(LLogFs$Memory;)Z"⟩
abbrev b_Disk_clearHead : ByteArray := prog_3_method_7_code
abbrev y_Disk_clearHead : MethodName := ⟨"LogFs$Disk", "clearHead", "()Z"⟩
abbrev b_Volume_begin : ByteArray := prog_5_method_17_code
abbrev y_Volume_begin : MethodName := ⟨"LogFs$Volume", "begin", "(II)V"⟩
abbrev b_Volume_setInodeByte : ByteArray := prog_5_method_24_code
abbrev y_Volume_setInodeByte : MethodName := ⟨"LogFs$Volume", "setInodeByte", "(III)V"⟩
abbrev b_Memory_change : ByteArray := prog_4_method_3_code
abbrev y_Memory_change : MethodName := ⟨"LogFs$Memory", "change", "(III)V"⟩
abbrev b_Memory_markPending : ByteArray := prog_4_method_7_code
abbrev y_Memory_markPending : MethodName := ⟨"LogFs$Memory", "markPending", "(I)V"⟩
abbrev b_LogFs_entryOf : ByteArray := prog_1_method_25_code
abbrev y_LogFs_entryOf : MethodName := ⟨"LogFs", "entryOf", "(IJ)J"⟩
abbrev b_Volume_putLong : ByteArray := prog_5_method_20_code
abbrev y_Volume_putLong : MethodName := ⟨"LogFs$Volume", "putLong", "(IIJI)V"⟩
abbrev b_Volume_putByte : ByteArray := prog_5_method_29_code
abbrev y_Volume_putByte : MethodName := ⟨"LogFs$Volume", "putByte", "(III)V"⟩
abbrev b_Volume_addContentBlock : ByteArray := prog_5_method_31_code
abbrev y_Volume_addContentBlock : MethodName := ⟨"LogFs$Volume", "addContentBlock", "(II)V"⟩
abbrev b_Volume_takeBlock : ByteArray := prog_5_method_32_code
abbrev y_Volume_takeBlock : MethodName := ⟨"LogFs$Volume", "takeBlock", "()I"⟩
abbrev b_Volume_leastFreeBlock : ByteArray := prog_5_method_34_code
abbrev y_Volume_leastFreeBlock : MethodName := ⟨"LogFs$Volume", "leastFreeBlock", "()I"⟩
abbrev b_Memory_clear : ByteArray := prog_4_method_4_code
abbrev y_Memory_clear : MethodName := ⟨"LogFs$Memory", "clear", "(I)V"⟩
abbrev b_Volume_growTo : ByteArray := prog_5_method_30_code
abbrev y_Volume_growTo : MethodName := ⟨"LogFs$Volume", "growTo", "(II)V"⟩
abbrev b_LogFs_link : ByteArray := prog_1_method_3_code
abbrev y_LogFs_link : MethodName := ⟨"LogFs", "link", "(IJI)Z"⟩
abbrev b_Volume_isFile : ByteArray := prog_5_method_5_code
abbrev y_Volume_isFile : MethodName := ⟨"LogFs$Volume", "isFile", "(I)Z"⟩
abbrev b_Volume_links : ByteArray := prog_5_method_3_code
abbrev y_Volume_links : MethodName := ⟨"LogFs$Volume", "links", "(I)I"⟩
abbrev b_Volume_addLink : ByteArray := prog_5_method_18_code
abbrev y_Volume_addLink : MethodName := ⟨"LogFs$Volume", "addLink", "(I)V"⟩
abbrev b_LogFs_unlink : ByteArray := prog_1_method_4_code
abbrev y_LogFs_unlink : MethodName := ⟨"LogFs", "unlink", "(IJ)Z"⟩
abbrev b_Volume_inodeAt : ByteArray := prog_5_method_13_code
abbrev y_Volume_inodeAt : MethodName := ⟨"LogFs$Volume", "inodeAt", "(II)I"⟩
abbrev b_Volume_entries : ByteArray := prog_5_method_14_code
abbrev y_Volume_entries : MethodName := ⟨"LogFs$Volume", "entries", "(I)I"⟩
abbrev b_Volume_dropLink : ByteArray := prog_5_method_19_code
abbrev y_Volume_dropLink : MethodName := ⟨"LogFs$Volume", "dropLink", "(I)V"⟩
abbrev b_Volume_empty : ByteArray := prog_5_method_22_code
abbrev y_Volume_empty : MethodName := ⟨"LogFs$Volume", "empty", "(I)V"⟩
abbrev b_Volume_giveBack : ByteArray := prog_5_method_33_code
abbrev y_Volume_giveBack : MethodName := ⟨"LogFs$Volume", "giveBack", "(I)V"⟩
abbrev b_LogFs_write : ByteArray := prog_1_method_5_code
abbrev y_LogFs_write : MethodName := ⟨"LogFs", "write", "(IIJI)I"⟩
abbrev b_Volume_canPut : ByteArray := prog_5_method_16_code
abbrev y_Volume_canPut : MethodName := ⟨"LogFs$Volume", "canPut", "(III)Z"⟩
abbrev b_LogFs_fill : ByteArray := prog_1_method_6_code
abbrev y_LogFs_fill : MethodName := ⟨"LogFs", "fill", "(IIII)I"⟩
abbrev b_Volume_putSame : ByteArray := prog_5_method_21_code
abbrev y_Volume_putSame : MethodName := ⟨"LogFs$Volume", "putSame", "(IIII)V"⟩
abbrev b_LogFs_truncate : ByteArray := prog_1_method_7_code
abbrev y_LogFs_truncate : MethodName := ⟨"LogFs", "truncate", "(I)Z"⟩
abbrev b_LogFs_sync : ByteArray := prog_1_method_8_code
abbrev y_LogFs_sync : MethodName := ⟨"LogFs", "sync", "()I"⟩
abbrev b_LogFs_mount : ByteArray := prog_1_method_10_code
abbrev y_LogFs_mount : MethodName := ⟨"LogFs", "mount", "()I"⟩
abbrev b_Disk_replayLog : ByteArray := prog_3_method_3_code
abbrev y_Disk_replayLog : MethodName := ⟨"LogFs$Disk", "replayLog", "(I)Z"⟩
abbrev b_LogFs_find : ByteArray := prog_1_method_11_code
abbrev y_LogFs_find : MethodName := ⟨"LogFs", "find", "(IJ)I"⟩
abbrev b_LogFs_read : ByteArray := prog_1_method_12_code
abbrev y_LogFs_read : MethodName := ⟨"LogFs", "read", "(II)I"⟩
abbrev b_Volume_contentByte : ByteArray := prog_5_method_10_code
abbrev y_Volume_contentByte : MethodName := ⟨"LogFs$Volume", "contentByte", "(II)I"⟩
abbrev b_LogFs_look : ByteArray := prog_1_method_13_code
abbrev y_LogFs_look : MethodName := ⟨"LogFs", "look", "(II)I"⟩
abbrev b_LogFs_disk : ByteArray := prog_1_method_14_code
abbrev y_LogFs_disk : MethodName := ⟨"LogFs", "disk", "(II)I"⟩
abbrev b_LogFs_requireByte : ByteArray := prog_1_method_19_code
abbrev y_LogFs_requireByte : MethodName := ⟨"LogFs", "requireByte", "(II)V"⟩
abbrev b_LogFs_memory : ByteArray := prog_1_method_15_code
abbrev y_LogFs_memory : MethodName := ⟨"LogFs", "memory", "(II)I"⟩
abbrev b_Model_init : ByteArray := prog_7_method_1_code
abbrev y_Model_init : MethodName := ⟨"LogFsModel", "<init>", "()V"⟩
abbrev b_Model_load : ByteArray := prog_7_method_3_code
abbrev y_Model_load : MethodName := ⟨"LogFsModel", "load", "()V"⟩
abbrev b_Model_thrown : ByteArray := prog_7_method_2_code
abbrev y_Model_thrown : MethodName := ⟨"LogFsModel", "thrown", "()I"⟩
abbrev b_Model_sync : ByteArray := prog_7_method_27_code
abbrev y_Model_sync : MethodName := ⟨"LogFsModel", "sync", "()I"⟩
abbrev b_Model_dead : ByteArray := prog_7_method_26_code
abbrev y_Model_dead : MethodName := ⟨"LogFsModel", "dead", "()Z"⟩
abbrev b_Model_commit : ByteArray := prog_7_method_24_code
abbrev y_Model_commit : MethodName := ⟨"LogFsModel", "commit", "()Z"⟩
abbrev b_Model_fetch : ByteArray := prog_7_method_22_code
abbrev y_Model_fetch : MethodName := ⟨"LogFsModel", "fetch", "(I)V"⟩
abbrev b_Model_put : ByteArray := prog_7_method_21_code
abbrev y_Model_put : MethodName := ⟨"LogFsModel", "put", "(I)V"⟩
abbrev b_Model_head : ByteArray := prog_7_method_23_code
abbrev y_Model_head : MethodName := ⟨"LogFsModel", "head", "(I)V"⟩
abbrev b_Model_failAfter : ByteArray := prog_7_method_28_code
abbrev y_Model_failAfter : MethodName := ⟨"LogFsModel", "failAfter", "(I)Z"⟩
abbrev b_Model_mount : ByteArray := prog_7_method_29_code
abbrev y_Model_mount : MethodName := ⟨"LogFsModel", "mount", "()I"⟩
abbrev b_Model_make : ByteArray := prog_7_method_39_code
abbrev y_Model_make : MethodName := ⟨"LogFsModel", "make", "(IJZ)I"⟩
abbrev b_Model_isName : ByteArray := prog_7_method_30_code
abbrev y_Model_isName : MethodName := ⟨"LogFsModel", "isName", "(J)Z"⟩
abbrev b_Model_is : ByteArray := prog_7_method_12_code
abbrev y_Model_is : MethodName := ⟨"LogFsModel", "is", "(II)Z"⟩
abbrev b_Model_isInode : ByteArray := prog_7_method_11_code
abbrev y_Model_isInode : MethodName := ⟨"LogFsModel", "isInode", "(I)Z"⟩
abbrev b_Model_inodeAt : ByteArray := prog_7_method_9_code
abbrev y_Model_inodeAt : MethodName := ⟨"LogFsModel", "inodeAt", "(II)I"⟩
abbrev b_Model_blockOf : ByteArray := prog_7_method_7_code
abbrev y_Model_blockOf : MethodName := ⟨"LogFsModel", "blockOf", "(I)I"⟩
abbrev b_Model_placeOf : ByteArray := prog_7_method_8_code
abbrev y_Model_placeOf : MethodName := ⟨"LogFsModel", "placeOf", "(I)I"⟩
abbrev b_Model_at : ByteArray := prog_7_method_4_code
abbrev y_Model_at : MethodName := ⟨"LogFsModel", "at", "(II)I"⟩
abbrev b_Model_mayEnter : ByteArray := prog_7_method_38_code
abbrev y_Model_mayEnter : MethodName := ⟨"LogFsModel", "mayEnter", "(I)Z"⟩
abbrev b_Model_placeForEntry : ByteArray := prog_7_method_32_code
abbrev y_Model_placeForEntry : MethodName := ⟨"LogFsModel", "placeForEntry", "(I)I"⟩
abbrev b_Model_sizeOf : ByteArray := prog_7_method_13_code
abbrev y_Model_sizeOf : MethodName := ⟨"LogFsModel", "sizeOf", "(I)I"⟩
abbrev b_Model_contentAt : ByteArray := prog_7_method_17_code
abbrev y_Model_contentAt : MethodName := ⟨"LogFsModel", "contentAt", "(II)I"⟩
abbrev b_Model_contentBlock : ByteArray := prog_7_method_16_code
abbrev y_Model_contentBlock : MethodName := ⟨"LogFsModel", "contentBlock", "(II)I"⟩
abbrev b_Model_findEntry : ByteArray := prog_7_method_31_code
abbrev y_Model_findEntry : MethodName := ⟨"LogFsModel", "findEntry", "(I)I"⟩
abbrev b_Model_needs : ByteArray := prog_7_method_34_code
abbrev y_Model_needs : MethodName := ⟨"LogFsModel", "needs", "(II)I"⟩
abbrev b_Model_blocksFor : ByteArray := prog_7_method_15_code
abbrev y_Model_blocksFor : MethodName := ⟨"LogFsModel", "blocksFor", "(I)I"⟩
abbrev b_Model_freeBlocks : ByteArray := prog_7_method_19_code
abbrev y_Model_freeBlocks : MethodName := ⟨"LogFsModel", "freeBlocks", "()I"⟩
abbrev b_Model_isUsed : ByteArray := prog_7_method_18_code
abbrev y_Model_isUsed : MethodName := ⟨"LogFsModel", "isUsed", "(I)Z"⟩
abbrev b_Model_freeInode : ByteArray := prog_7_method_20_code
abbrev y_Model_freeInode : MethodName := ⟨"LogFsModel", "freeInode", "()I"⟩
abbrev b_Model_ready : ByteArray := prog_7_method_25_code
abbrev y_Model_ready : MethodName := ⟨"LogFsModel", "ready", "()Z"⟩
abbrev b_Model_setInode : ByteArray := prog_7_method_10_code
abbrev y_Model_setInode : MethodName := ⟨"LogFsModel", "setInode", "(III)V"⟩
abbrev b_Model_set : ByteArray := prog_7_method_6_code
abbrev y_Model_set : MethodName := ⟨"LogFsModel", "set", "(III)V"⟩
abbrev b_Model_pend : ByteArray := prog_7_method_5_code
abbrev y_Model_pend : MethodName := ⟨"LogFsModel", "pend", "(I)V"⟩
abbrev b_Model_enter : ByteArray := prog_7_method_37_code
abbrev y_Model_enter : MethodName := ⟨"LogFsModel", "enter", "(II)V"⟩
abbrev b_Model_blockFor : ByteArray := prog_7_method_36_code
abbrev y_Model_blockFor : MethodName := ⟨"LogFsModel", "blockFor", "(II)V"⟩
abbrev b_Model_takeBlock : ByteArray := prog_7_method_35_code
abbrev y_Model_takeBlock : MethodName := ⟨"LogFsModel", "takeBlock", "()I"⟩
abbrev b_Model_setSize : ByteArray := prog_7_method_14_code
abbrev y_Model_setSize : MethodName := ⟨"LogFsModel", "setSize", "(II)V"⟩
abbrev b_Model_link : ByteArray := prog_7_method_40_code
abbrev y_Model_link : MethodName := ⟨"LogFsModel", "link", "(IJI)Z"⟩
abbrev b_Model_unlink : ByteArray := prog_7_method_44_code
abbrev y_Model_unlink : MethodName := ⟨"LogFsModel", "unlink", "(IJ)Z"⟩
abbrev b_Model_entries : ByteArray := prog_7_method_33_code
abbrev y_Model_entries : MethodName := ⟨"LogFsModel", "entries", "(I)I"⟩
abbrev b_Model_release : ByteArray := prog_7_method_41_code
abbrev y_Model_release : MethodName := ⟨"LogFsModel", "release", "(I)V"⟩
abbrev b_Model_free : ByteArray := prog_7_method_42_code
abbrev y_Model_free : MethodName := ⟨"LogFsModel", "free", "(I)V"⟩
abbrev b_Model_clear : ByteArray := prog_7_method_43_code
abbrev y_Model_clear : MethodName := ⟨"LogFsModel", "clear", "(II)V"⟩
abbrev b_Model_write : ByteArray := prog_7_method_47_code
abbrev y_Model_write : MethodName := ⟨"LogFsModel", "write", "(IIJI)I"⟩
abbrev b_Model_mayWrite : ByteArray := prog_7_method_45_code
abbrev y_Model_mayWrite : MethodName := ⟨"LogFsModel", "mayWrite", "(III)Z"⟩
abbrev b_Model_writes : ByteArray := prog_7_method_46_code
abbrev y_Model_writes : MethodName := ⟨"LogFsModel", "writes", "(III)I"⟩
abbrev b_Model_fill : ByteArray := prog_7_method_48_code
abbrev y_Model_fill : MethodName := ⟨"LogFsModel", "fill", "(IIII)I"⟩
abbrev b_Model_truncate : ByteArray := prog_7_method_49_code
abbrev y_Model_truncate : MethodName := ⟨"LogFsModel", "truncate", "(I)Z"⟩
abbrev b_Model_find : ByteArray := prog_7_method_50_code
abbrev y_Model_find : MethodName := ⟨"LogFsModel", "find", "(IJ)I"⟩
abbrev b_Model_read : ByteArray := prog_7_method_51_code
abbrev y_Model_read : MethodName := ⟨"LogFsModel", "read", "(II)I"⟩
abbrev b_Model_look : ByteArray := prog_7_method_52_code
abbrev y_Model_look : MethodName := ⟨"LogFsModel", "look", "(II)I"⟩
abbrev b_Model_disk : ByteArray := prog_7_method_54_code
abbrev y_Model_disk : MethodName := ⟨"LogFsModel", "disk", "(II)I"⟩
abbrev b_Model_isByte : ByteArray := prog_7_method_53_code
abbrev y_Model_isByte : MethodName := ⟨"LogFsModel", "isByte", "(II)Z"⟩
abbrev b_Model_memory : ByteArray := prog_7_method_55_code
abbrev y_Model_memory : MethodName := ⟨"LogFsModel", "memory", "(II)I"⟩
abbrev b_Model_count : ByteArray := prog_7_method_56_code
abbrev y_Model_count : MethodName := ⟨"LogFsModel", "count", "(I)I"⟩
abbrev b_Law_make : ByteArray := method_3_code
abbrev y_Law_make : MethodName := ⟨"LogFsLaw", "make", "(LLogFs;IJZ[J)I"⟩
abbrev b_Law_link : ByteArray := method_4_code
abbrev y_Law_link : MethodName := ⟨"LogFsLaw", "link", "(LLogFs;IJI[J)I"⟩
abbrev b_Law_unlink : ByteArray := method_5_code
abbrev y_Law_unlink : MethodName := ⟨"LogFsLaw", "unlink", "(LLogFs;IJ[J)I"⟩
abbrev b_Law_write : ByteArray := method_6_code
abbrev y_Law_write : MethodName := ⟨"LogFsLaw", "write", "(LLogFs;IIJI[J)I"⟩
abbrev b_Law_fill : ByteArray := method_7_code
abbrev y_Law_fill : MethodName := ⟨"LogFsLaw", "fill", "(LLogFs;IIII[J)I"⟩
abbrev b_Law_truncate : ByteArray := method_8_code
abbrev y_Law_truncate : MethodName := ⟨"LogFsLaw", "truncate", "(LLogFs;I[J)I"⟩
abbrev b_Law_sync : ByteArray := method_9_code
abbrev y_Law_sync : MethodName := ⟨"LogFsLaw", "sync", "(LLogFs;[J)I"⟩
abbrev b_Law_mount : ByteArray := method_10_code
abbrev y_Law_mount : MethodName := ⟨"LogFsLaw", "mount", "(LLogFs;[J)I"⟩
abbrev b_Law_find : ByteArray := method_11_code
abbrev y_Law_find : MethodName := ⟨"LogFsLaw", "find", "(LLogFs;IJ[J)I"⟩
abbrev b_Law_read : ByteArray := method_12_code
abbrev y_Law_read : MethodName := ⟨"LogFsLaw", "read", "(LLogFs;II[J)I"⟩
abbrev b_Law_look : ByteArray := method_13_code
abbrev y_Law_look : MethodName := ⟨"LogFsLaw", "look", "(LLogFs;II[J)I"⟩
abbrev b_Law_disk : ByteArray := method_14_code
abbrev y_Law_disk : MethodName := ⟨"LogFsLaw", "disk", "(LLogFs;II[J)I"⟩
abbrev b_Law_memory : ByteArray := method_15_code
abbrev y_Law_memory : MethodName := ⟨"LogFsLaw", "memory", "(LLogFs;II[J)I"⟩
def tb : List Cond := lw_tbl.filter xGood
theorem tb_in {w : Cond} (n : Nat) (h : tables_1[n]? = some w) (hg : xGood w = true) : w ∈ tb := List.mem_filter.mpr ⟨List.mem_append_right _ (List.mem_of_getElem? h), hg⟩
theorem tb_sel {q : MethodName × Nat} (h : q ∈ lw_privs) : Cond.selects q.1.cls q.1 q.1 ∈ tb := List.mem_filter.mpr ⟨List.mem_append_left _ (List.mem_map.mpr ⟨q, h, rfl⟩), rfl⟩
end
section
/-! The words of the tables, one by one, in tb. Written by wip/gen/names.py. -/
theorem tw0 : (Cond.initialized "LogFsLaw") ∈ tb := tb_in 0 (by decide +kernel) (by decide +kernel)
theorem tw1 : (Cond.initialized "LogFs") ∈ tb := tb_in 1 (by decide +kernel) (by decide +kernel)
theorem tw2 : (Cond.initialized "LogFs$Disk") ∈ tb := tb_in 2 (by decide +kernel) (by decide +kernel)
theorem tw3 : (Cond.initialized "LogFs$Blocks") ∈ tb := tb_in 3 (by decide +kernel) (by decide +kernel)
theorem tw4 : (Cond.initialized "LogFs$Memory") ∈ tb := tb_in 4 (by decide +kernel) (by decide +kernel)
theorem tw5 : (Cond.initialized "LogFs$Volume") ∈ tb := tb_in 5 (by decide +kernel) (by decide +kernel)
theorem tw6 : (Cond.initialized "java/lang/System") ∈ tb := tb_in 6 (by decide +kernel) (by decide +kernel)
theorem tw7 : (Cond.initialized "LogFsModel") ∈ tb := tb_in 7 (by decide +kernel) (by decide +kernel)
theorem tw8 : (Cond.initialized "java/lang/Throwable") ∈ tb := tb_in 8 (by decide +kernel) (by decide +kernel)
theorem tw9 : (Cond.initialized "java/lang/Exception") ∈ tb := tb_in 9 (by decide +kernel) (by decide +kernel)
theorem tw10 : (Cond.initialized "java/lang/RuntimeException") ∈ tb := tb_in 10 (by decide +kernel) (by decide +kernel)
theorem tw11 : (Cond.initialized "java/lang/IllegalStateException") ∈ tb := tb_in 11 (by decide +kernel) (by decide +kernel)
theorem tw12 : (Cond.initialized "java/lang/Integer") ∈ tb := tb_in 12 (by decide +kernel) (by decide +kernel)
theorem tw13 : (Cond.initialized "java/lang/UnsupportedOperationException") ∈ tb := tb_in 13 (by decide +kernel) (by decide +kernel)
theorem tw14 : (Cond.initialized "java/lang/IndexOutOfBoundsException") ∈ tb := tb_in 14 (by decide +kernel) (by decide +kernel)
theorem tw15 : (Cond.classLink "LogFsLaw" 8 "LogFs") ∈ tb := tb_in 15 (by decide +kernel) (by decide +kernel)
theorem tw16 : (Cond.instantiable "LogFs" 4) ∈ tb := tb_in 16 (by decide +kernel) (by decide +kernel)
theorem tw17 : (Cond.methodLink "LogFsLaw" 63 ⟨"LogFs", "<init>", "()V"⟩) ∈ tb := tb_in 17 (by decide +kernel) (by decide +kernel)
theorem tw18 : (Cond.instanceMethod ⟨"LogFs", "<init>", "()V"⟩) ∈ tb := tb_in 18 (by decide +kernel) (by decide +kernel)
theorem tw19 : (Cond.code ⟨"LogFs", "<init>", "()V"⟩ prog_1_method_1_code 1 none) ∈ tb := tb_in 19 (by decide +kernel) (by decide +kernel)
theorem tw20 : (Cond.methodLink "LogFs" 1 ⟨"java/lang/Object", "<init>", "()V"⟩) ∈ tb := tb_in 20 (by decide +kernel) (by decide +kernel)
theorem tw21 : (Cond.instanceMethod ⟨"java/lang/Object", "<init>", "()V"⟩) ∈ tb := tb_in 21 (by decide +kernel) (by decide +kernel)
theorem tw22 : (Cond.code ⟨"java/lang/Object", "<init>", "()V"⟩ object_method_1_code 1 none) ∈ tb := tb_in 22 (by decide +kernel) (by decide +kernel)
theorem tw23 : (Cond.classLink "LogFs" 7 "LogFs$Disk") ∈ tb := tb_in 23 (by decide +kernel) (by decide +kernel)
theorem tw24 : (Cond.instantiable "LogFs$Disk" 4) ∈ tb := tb_in 24 (by decide +kernel) (by decide +kernel)
theorem tw25 : (Cond.methodLink "LogFs" 9 ⟨"LogFs$Disk", "<init>", "()V"⟩) ∈ tb := tb_in 25 (by decide +kernel) (by decide +kernel)
theorem tw26 : (Cond.instanceMethod ⟨"LogFs$Disk", "<init>", "()V"⟩) ∈ tb := tb_in 26 (by decide +kernel) (by decide +kernel)
theorem tw27 : (Cond.code ⟨"LogFs$Disk", "<init>", "()V"⟩ prog_3_method_1_code 2 none) ∈ tb := tb_in 27 (by decide +kernel) (by decide +kernel)
theorem tw28 : (Cond.methodLink "LogFs$Disk" 3 ⟨"java/lang/Object", "<init>", "()V"⟩) ∈ tb := tb_in 28 (by decide +kernel) (by decide +kernel)
theorem tw29 : (Cond.classLink "LogFs$Disk" 9 "LogFs$Blocks") ∈ tb := tb_in 29 (by decide +kernel) (by decide +kernel)
theorem tw30 : (Cond.instantiable "LogFs$Blocks" 1) ∈ tb := tb_in 30 (by decide +kernel) (by decide +kernel)
theorem tw31 : (Cond.methodLink "LogFs$Disk" 11 ⟨"LogFs$Blocks", "<init>", "()V"⟩) ∈ tb := tb_in 31 (by decide +kernel) (by decide +kernel)
theorem tw32 : (Cond.instanceMethod ⟨"LogFs$Blocks", "<init>", "()V"⟩) ∈ tb := tb_in 32 (by decide +kernel) (by decide +kernel)
theorem tw33 : (Cond.code ⟨"LogFs$Blocks", "<init>", "()V"⟩ prog_2_method_1_code 1 none) ∈ tb := tb_in 33 (by decide +kernel) (by decide +kernel)
theorem tw34 : (Cond.methodLink "LogFs$Blocks" 3 ⟨"java/lang/Object", "<init>", "()V"⟩) ∈ tb := tb_in 34 (by decide +kernel) (by decide +kernel)
theorem tw35 : (Cond.fieldLink "LogFs$Blocks" 9 "LogFs$Blocks" "bytes" "[B") ∈ tb := tb_in 35 (by decide +kernel) (by decide +kernel)
theorem tw36 : (Cond.laysFinal "LogFs$Blocks" "LogFs$Blocks" "bytes" "[B") ∈ tb := tb_in 36 (by decide +kernel) (by decide +kernel)
theorem tw38 : (Cond.superclass "LogFs$Blocks" "java/lang/Object") ∈ tb := tb_in 38 (by decide +kernel) (by decide +kernel)
theorem tw39 : (Cond.arrayClass .byte) ∈ tb := tb_in 39 (by decide +kernel) (by decide +kernel)
theorem tw40 : (Cond.methodLink "LogFs$Disk" 29 ⟨"LogFs$Blocks", "set", "(III)V"⟩) ∈ tb := tb_in 40 (by decide +kernel) (by decide +kernel)
theorem tw41 : (Cond.instanceMethod ⟨"LogFs$Blocks", "set", "(III)V"⟩) ∈ tb := tb_in 41 (by decide +kernel) (by decide +kernel)
theorem tw42 : (Cond.selects "LogFs$Blocks" ⟨"LogFs$Blocks", "set", "(III)V"⟩ ⟨"LogFs$Blocks", "set", "(III)V"⟩) ∈ tb := tb_in 42 (by decide +kernel) (by decide +kernel)
theorem tw43 : (Cond.code ⟨"LogFs$Blocks", "set", "(III)V"⟩ prog_2_method_3_code 4 none) ∈ tb := tb_in 43 (by decide +kernel) (by decide +kernel)
theorem tw44 : (Cond.methodLink "LogFs$Disk" 33 ⟨"LogFs$Blocks", "get", "(II)I"⟩) ∈ tb := tb_in 44 (by decide +kernel) (by decide +kernel)
theorem tw45 : (Cond.instanceMethod ⟨"LogFs$Blocks", "get", "(II)I"⟩) ∈ tb := tb_in 45 (by decide +kernel) (by decide +kernel)
theorem tw46 : (Cond.selects "LogFs$Blocks" ⟨"LogFs$Blocks", "get", "(II)I"⟩ ⟨"LogFs$Blocks", "get", "(II)I"⟩) ∈ tb := tb_in 46 (by decide +kernel) (by decide +kernel)
theorem tw47 : (Cond.code ⟨"LogFs$Blocks", "get", "(II)I"⟩ prog_2_method_2_code 3 (some .int)) ∈ tb := tb_in 47 (by decide +kernel) (by decide +kernel)
theorem tw48 : (Cond.fieldLink "LogFs$Disk" 12 "LogFs$Disk" "blocks" "LLogFs$Blocks;") ∈ tb := tb_in 48 (by decide +kernel) (by decide +kernel)
theorem tw49 : (Cond.fieldLinkNest "LogFs" 36 "LogFs$Disk" "blocks" "LLogFs$Blocks;" "LogFs") ∈ tb := tb_in 49 (by decide +kernel) (by decide +kernel)
theorem tw50 : (Cond.fieldLink "LogFs$Disk" 18 "LogFs$Disk" "writes" "I") ∈ tb := tb_in 50 (by decide +kernel) (by decide +kernel)
theorem tw51 : (Cond.fieldLinkNest "LogFs" 113 "LogFs$Disk" "writes" "I" "LogFs") ∈ tb := tb_in 51 (by decide +kernel) (by decide +kernel)
theorem tw52 : (Cond.fieldLink "LogFs$Disk" 22 "LogFs$Disk" "writesToFailure" "I") ∈ tb := tb_in 52 (by decide +kernel) (by decide +kernel)
theorem tw53 : (Cond.fieldLinkNest "LogFs" 119 "LogFs$Disk" "writesToFailure" "I" "LogFs") ∈ tb := tb_in 53 (by decide +kernel) (by decide +kernel)
theorem tw54 : (Cond.fieldLink "LogFs$Disk" 25 "LogFs$Disk" "isOff" "Z") ∈ tb := tb_in 54 (by decide +kernel) (by decide +kernel)
theorem tw55 : (Cond.fieldLinkNest "LogFs" 122 "LogFs$Disk" "isOff" "Z" "LogFs") ∈ tb := tb_in 55 (by decide +kernel) (by decide +kernel)
theorem tw56 : (Cond.laysFinal "LogFs$Disk" "LogFs$Disk" "blocks" "LLogFs$Blocks;") ∈ tb := tb_in 56 (by decide +kernel) (by decide +kernel)
theorem tw58 : (Cond.lays "LogFs$Disk" "LogFs$Disk" "writes" "I") ∈ tb := tb_in 58 (by decide +kernel) (by decide +kernel)
theorem tw60 : (Cond.lays "LogFs$Disk" "LogFs$Disk" "writesToFailure" "I") ∈ tb := tb_in 60 (by decide +kernel) (by decide +kernel)
theorem tw62 : (Cond.lays "LogFs$Disk" "LogFs$Disk" "isOff" "Z") ∈ tb := tb_in 62 (by decide +kernel) (by decide +kernel)
theorem tw64 : (Cond.superclass "LogFs$Disk" "java/lang/Object") ∈ tb := tb_in 64 (by decide +kernel) (by decide +kernel)
theorem tw65 : (Cond.classLink "LogFs" 16 "LogFs$Memory") ∈ tb := tb_in 65 (by decide +kernel) (by decide +kernel)
theorem tw66 : (Cond.instantiable "LogFs$Memory" 3) ∈ tb := tb_in 66 (by decide +kernel) (by decide +kernel)
theorem tw67 : (Cond.methodLink "LogFs" 18 ⟨"LogFs$Memory", "<init>", "()V"⟩) ∈ tb := tb_in 67 (by decide +kernel) (by decide +kernel)
theorem tw68 : (Cond.instanceMethod ⟨"LogFs$Memory", "<init>", "()V"⟩) ∈ tb := tb_in 68 (by decide +kernel) (by decide +kernel)
theorem tw69 : (Cond.code ⟨"LogFs$Memory", "<init>", "()V"⟩ prog_4_method_1_code 1 none) ∈ tb := tb_in 69 (by decide +kernel) (by decide +kernel)
theorem tw70 : (Cond.methodLink "LogFs$Memory" 3 ⟨"java/lang/Object", "<init>", "()V"⟩) ∈ tb := tb_in 70 (by decide +kernel) (by decide +kernel)
theorem tw71 : (Cond.classLink "LogFs$Memory" 9 "LogFs$Blocks") ∈ tb := tb_in 71 (by decide +kernel) (by decide +kernel)
theorem tw72 : (Cond.methodLink "LogFs$Memory" 11 ⟨"LogFs$Blocks", "<init>", "()V"⟩) ∈ tb := tb_in 72 (by decide +kernel) (by decide +kernel)
theorem tw73 : (Cond.fieldLinkNest "LogFs$Volume" 15 "LogFs$Memory" "blocks" "LLogFs$Blocks;" "LogFs") ∈ tb := tb_in 73 (by decide +kernel) (by decide +kernel)
theorem tw74 : (Cond.fieldLink "LogFs$Memory" 12 "LogFs$Memory" "blocks" "LLogFs$Blocks;") ∈ tb := tb_in 74 (by decide +kernel) (by decide +kernel)
theorem tw75 : (Cond.fieldLinkNest "LogFs$Disk" 60 "LogFs$Memory" "blocks" "LLogFs$Blocks;" "LogFs") ∈ tb := tb_in 75 (by decide +kernel) (by decide +kernel)
theorem tw76 : (Cond.fieldLinkNest "LogFs" 165 "LogFs$Memory" "blocks" "LLogFs$Blocks;" "LogFs") ∈ tb := tb_in 76 (by decide +kernel) (by decide +kernel)
theorem tw77 : (Cond.fieldLink "LogFs$Memory" 18 "LogFs$Memory" "pending" "[I") ∈ tb := tb_in 77 (by decide +kernel) (by decide +kernel)
theorem tw78 : (Cond.fieldLink "LogFs$Memory" 22 "LogFs$Memory" "pendingCount" "I") ∈ tb := tb_in 78 (by decide +kernel) (by decide +kernel)
theorem tw79 : (Cond.fieldLinkNest "LogFs$Disk" 55 "LogFs$Memory" "pendingCount" "I" "LogFs") ∈ tb := tb_in 79 (by decide +kernel) (by decide +kernel)
theorem tw80 : (Cond.fieldLinkNest "LogFs" 169 "LogFs$Memory" "pendingCount" "I" "LogFs") ∈ tb := tb_in 80 (by decide +kernel) (by decide +kernel)
theorem tw81 : (Cond.laysFinal "LogFs$Memory" "LogFs$Memory" "blocks" "LLogFs$Blocks;") ∈ tb := tb_in 81 (by decide +kernel) (by decide +kernel)
theorem tw83 : (Cond.laysFinal "LogFs$Memory" "LogFs$Memory" "pending" "[I") ∈ tb := tb_in 83 (by decide +kernel) (by decide +kernel)
theorem tw85 : (Cond.lays "LogFs$Memory" "LogFs$Memory" "pendingCount" "I") ∈ tb := tb_in 85 (by decide +kernel) (by decide +kernel)
theorem tw87 : (Cond.superclass "LogFs$Memory" "java/lang/Object") ∈ tb := tb_in 87 (by decide +kernel) (by decide +kernel)
theorem tw88 : (Cond.arrayClass .int) ∈ tb := tb_in 88 (by decide +kernel) (by decide +kernel)
theorem tw89 : (Cond.classLink "LogFs" 23 "LogFs$Volume") ∈ tb := tb_in 89 (by decide +kernel) (by decide +kernel)
theorem tw90 : (Cond.instantiable "LogFs$Volume" 2) ∈ tb := tb_in 90 (by decide +kernel) (by decide +kernel)
theorem tw91 : (Cond.methodLink "LogFs" 25 ⟨"LogFs$Volume", "<init>", "(LLogFs$Memory;)V"⟩) ∈ tb := tb_in 91 (by decide +kernel) (by decide +kernel)
theorem tw92 : (Cond.instanceMethod ⟨"LogFs$Volume", "<init>", "(LLogFs$Memory;)V"⟩) ∈ tb := tb_in 92 (by decide +kernel) (by decide +kernel)
theorem tw93 : (Cond.code ⟨"LogFs$Volume", "<init>", "(LLogFs$Memory;)V"⟩ prog_5_method_1_code 2 none) ∈ tb := tb_in 93 (by decide +kernel) (by decide +kernel)
theorem tw94 : (Cond.methodLink "LogFs$Volume" 3 ⟨"java/lang/Object", "<init>", "()V"⟩) ∈ tb := tb_in 94 (by decide +kernel) (by decide +kernel)
theorem tw95 : (Cond.fieldLink "LogFs$Volume" 9 "LogFs$Volume" "memory" "LLogFs$Memory;") ∈ tb := tb_in 95 (by decide +kernel) (by decide +kernel)
theorem tw96 : (Cond.fieldLink "LogFs$Volume" 21 "LogFs$Volume" "blocks" "LLogFs$Blocks;") ∈ tb := tb_in 96 (by decide +kernel) (by decide +kernel)
theorem tw97 : (Cond.laysFinal "LogFs$Volume" "LogFs$Volume" "memory" "LLogFs$Memory;") ∈ tb := tb_in 97 (by decide +kernel) (by decide +kernel)
theorem tw99 : (Cond.laysFinal "LogFs$Volume" "LogFs$Volume" "blocks" "LLogFs$Blocks;") ∈ tb := tb_in 99 (by decide +kernel) (by decide +kernel)
theorem tw101 : (Cond.superclass "LogFs$Volume" "java/lang/Object") ∈ tb := tb_in 101 (by decide +kernel) (by decide +kernel)
theorem tw102 : (Cond.methodLink "LogFs" 40 ⟨"LogFs$Memory", "load", "(LLogFs$Blocks;)V"⟩) ∈ tb := tb_in 102 (by decide +kernel) (by decide +kernel)
theorem tw103 : (Cond.instanceMethod ⟨"LogFs$Memory", "load", "(LLogFs$Blocks;)V"⟩) ∈ tb := tb_in 103 (by decide +kernel) (by decide +kernel)
theorem tw104 : (Cond.selects "LogFs$Memory" ⟨"LogFs$Memory", "load", "(LLogFs$Blocks;)V"⟩ ⟨"LogFs$Memory", "load", "(LLogFs$Blocks;)V"⟩) ∈ tb := tb_in 104 (by decide +kernel) (by decide +kernel)
theorem tw105 : (Cond.code ⟨"LogFs$Memory", "load", "(LLogFs$Blocks;)V"⟩ prog_4_method_2_code 2 none) ∈ tb := tb_in 105 (by decide +kernel) (by decide +kernel)
theorem tw106 : (Cond.methodLink "LogFs$Memory" 26 ⟨"LogFs$Blocks", "copyAll", "(LLogFs$Blocks;)V"⟩) ∈ tb := tb_in 106 (by decide +kernel) (by decide +kernel)
theorem tw107 : (Cond.instanceMethod ⟨"LogFs$Blocks", "copyAll", "(LLogFs$Blocks;)V"⟩) ∈ tb := tb_in 107 (by decide +kernel) (by decide +kernel)
theorem tw108 : (Cond.selects "LogFs$Blocks" ⟨"LogFs$Blocks", "copyAll", "(LLogFs$Blocks;)V"⟩ ⟨"LogFs$Blocks", "copyAll", "(LLogFs$Blocks;)V"⟩) ∈ tb := tb_in 108 (by decide +kernel) (by decide +kernel)
theorem tw109 : (Cond.code ⟨"LogFs$Blocks", "copyAll", "(LLogFs$Blocks;)V"⟩ prog_2_method_6_code 2 none) ∈ tb := tb_in 109 (by decide +kernel) (by decide +kernel)
theorem tw110 : (Cond.methodLink "LogFs$Blocks" 19 ⟨"java/lang/System", "arraycopy", "(Ljava/lang/Object;ILjava/lang/Object;II)V"⟩) ∈ tb := tb_in 110 (by decide +kernel) (by decide +kernel)
theorem tw111 : (Cond.static ⟨"java/lang/System", "arraycopy", "(Ljava/lang/Object;ILjava/lang/Object;II)V"⟩) ∈ tb := tb_in 111 (by decide +kernel) (by decide +kernel)
theorem tw112 : (Cond.native ⟨"java/lang/System", "arraycopy", "(Ljava/lang/Object;ILjava/lang/Object;II)V"⟩) ∈ tb := tb_in 112 (by decide +kernel) (by decide +kernel)
theorem tw113 : (Cond.methodLink "LogFs$Memory" 30 ⟨"LogFs$Memory", "forgetPending", "()V"⟩) ∈ tb := tb_in 113 (by decide +kernel) (by decide +kernel)
theorem tw114 : (Cond.instanceMethod ⟨"LogFs$Memory", "forgetPending", "()V"⟩) ∈ tb := tb_in 114 (by decide +kernel) (by decide +kernel)
theorem tw115 : (Cond.selects "LogFs$Memory" ⟨"LogFs$Memory", "forgetPending", "()V"⟩ ⟨"LogFs$Memory", "forgetPending", "()V"⟩) ∈ tb := tb_in 115 (by decide +kernel) (by decide +kernel)
theorem tw116 : (Cond.code ⟨"LogFs$Memory", "forgetPending", "()V"⟩ prog_4_method_6_code 1 none) ∈ tb := tb_in 116 (by decide +kernel) (by decide +kernel)
theorem tw117 : (Cond.fieldLink "LogFs" 10 "LogFs" "onDisk" "LLogFs$Disk;") ∈ tb := tb_in 117 (by decide +kernel) (by decide +kernel)
theorem tw118 : (Cond.fieldLink "LogFs" 19 "LogFs" "inMemory" "LLogFs$Memory;") ∈ tb := tb_in 118 (by decide +kernel) (by decide +kernel)
theorem tw119 : (Cond.fieldLink "LogFs" 28 "LogFs" "volume" "LLogFs$Volume;") ∈ tb := tb_in 119 (by decide +kernel) (by decide +kernel)
theorem tw120 : (Cond.fieldLink "LogFs" 32 "LogFs" "commits" "I") ∈ tb := tb_in 120 (by decide +kernel) (by decide +kernel)
theorem tw121 : (Cond.laysFinal "LogFs" "LogFs" "onDisk" "LLogFs$Disk;") ∈ tb := tb_in 121 (by decide +kernel) (by decide +kernel)
theorem tw123 : (Cond.laysFinal "LogFs" "LogFs" "inMemory" "LLogFs$Memory;") ∈ tb := tb_in 123 (by decide +kernel) (by decide +kernel)
theorem tw125 : (Cond.laysFinal "LogFs" "LogFs" "volume" "LLogFs$Volume;") ∈ tb := tb_in 125 (by decide +kernel) (by decide +kernel)
theorem tw127 : (Cond.lays "LogFs" "LogFs" "commits" "I") ∈ tb := tb_in 127 (by decide +kernel) (by decide +kernel)
theorem tw129 : (Cond.superclass "LogFs" "java/lang/Object") ∈ tb := tb_in 129 (by decide +kernel) (by decide +kernel)
theorem tw130 : (Cond.methodLink "LogFsLaw" 102 ⟨"LogFs", "failAfter", "(I)Z"⟩) ∈ tb := tb_in 130 (by decide +kernel) (by decide +kernel)
theorem tw131 : (Cond.instanceMethod ⟨"LogFs", "failAfter", "(I)Z"⟩) ∈ tb := tb_in 131 (by decide +kernel) (by decide +kernel)
theorem tw132 : (Cond.selects "LogFs" ⟨"LogFs", "failAfter", "(I)Z"⟩ ⟨"LogFs", "failAfter", "(I)Z"⟩) ∈ tb := tb_in 132 (by decide +kernel) (by decide +kernel)
theorem tw133 : (Cond.code ⟨"LogFs", "failAfter", "(I)Z"⟩ prog_1_method_9_code 2 (some .boolean)) ∈ tb := tb_in 133 (by decide +kernel) (by decide +kernel)
theorem tw134 : (Cond.methodLink "LogFsLaw" 125 ⟨"LogFs", "count", "(I)I"⟩) ∈ tb := tb_in 134 (by decide +kernel) (by decide +kernel)
theorem tw135 : (Cond.instanceMethod ⟨"LogFs", "count", "(I)I"⟩) ∈ tb := tb_in 135 (by decide +kernel) (by decide +kernel)
theorem tw136 : (Cond.selects "LogFs" ⟨"LogFs", "count", "(I)I"⟩ ⟨"LogFs", "count", "(I)I"⟩) ∈ tb := tb_in 136 (by decide +kernel) (by decide +kernel)
theorem tw137 : (Cond.code ⟨"LogFs", "count", "(I)I"⟩ prog_1_method_16_code 2 (some .int)) ∈ tb := tb_in 137 (by decide +kernel) (by decide +kernel)
theorem tw138 : (Cond.methodLink "LogFs" 166 ⟨"LogFs", "countInMemory", "(I)I"⟩) ∈ tb := tb_in 138 (by decide +kernel) (by decide +kernel)
theorem tw140 : (Cond.instanceMethod ⟨"LogFs", "countInMemory", "(I)I"⟩) ∈ tb := tb_in 140 (by decide +kernel) (by decide +kernel)
theorem tw141 : (Cond.code ⟨"LogFs", "countInMemory", "(I)I"⟩ prog_1_method_17_code 2 (some .int)) ∈ tb := tb_in 141 (by decide +kernel) (by decide +kernel)
theorem tw142 : (Cond.methodLink "LogFs" 172 ⟨"LogFs$Volume", "freeBlocks", "()I"⟩) ∈ tb := tb_in 142 (by decide +kernel) (by decide +kernel)
theorem tw143 : (Cond.instanceMethod ⟨"LogFs$Volume", "freeBlocks", "()I"⟩) ∈ tb := tb_in 143 (by decide +kernel) (by decide +kernel)
theorem tw144 : (Cond.selects "LogFs$Volume" ⟨"LogFs$Volume", "freeBlocks", "()I"⟩ ⟨"LogFs$Volume", "freeBlocks", "()I"⟩) ∈ tb := tb_in 144 (by decide +kernel) (by decide +kernel)
theorem tw145 : (Cond.code ⟨"LogFs$Volume", "freeBlocks", "()I"⟩ prog_5_method_9_code 3 (some .int)) ∈ tb := tb_in 145 (by decide +kernel) (by decide +kernel)
theorem tw146 : (Cond.methodLink "LogFs$Volume" 30 ⟨"LogFs$Blocks", "get", "(II)I"⟩) ∈ tb := tb_in 146 (by decide +kernel) (by decide +kernel)
theorem tw147 : (Cond.methodLink "LogFs$Volume" 35 ⟨"java/lang/Integer", "bitCount", "(I)I"⟩) ∈ tb := tb_in 147 (by decide +kernel) (by decide +kernel)
theorem tw148 : (Cond.static ⟨"java/lang/Integer", "bitCount", "(I)I"⟩) ∈ tb := tb_in 148 (by decide +kernel) (by decide +kernel)
theorem tw149 : (Cond.code ⟨"java/lang/Integer", "bitCount", "(I)I"⟩ prog_11_method_49_code 1 (some .int)) ∈ tb := tb_in 149 (by decide +kernel) (by decide +kernel)
theorem tw150 : (Cond.constant "java/lang/Integer" 265 (1431655765 : Int32)) ∈ tb := tb_in 150 (by decide +kernel) (by decide +kernel)
theorem tw151 : (Cond.constant "java/lang/Integer" 266 (858993459 : Int32)) ∈ tb := tb_in 151 (by decide +kernel) (by decide +kernel)
theorem tw152 : (Cond.constant "java/lang/Integer" 267 (252645135 : Int32)) ∈ tb := tb_in 152 (by decide +kernel) (by decide +kernel)
theorem tw153 : (Cond.methodLink "LogFs" 175 ⟨"LogFs$Volume", "freeInodes", "()I"⟩) ∈ tb := tb_in 153 (by decide +kernel) (by decide +kernel)
theorem tw154 : (Cond.instanceMethod ⟨"LogFs$Volume", "freeInodes", "()I"⟩) ∈ tb := tb_in 154 (by decide +kernel) (by decide +kernel)
theorem tw155 : (Cond.selects "LogFs$Volume" ⟨"LogFs$Volume", "freeInodes", "()I"⟩ ⟨"LogFs$Volume", "freeInodes", "()I"⟩) ∈ tb := tb_in 155 (by decide +kernel) (by decide +kernel)
theorem tw156 : (Cond.code ⟨"LogFs$Volume", "freeInodes", "()I"⟩ prog_5_method_8_code 3 (some .int)) ∈ tb := tb_in 156 (by decide +kernel) (by decide +kernel)
theorem tw157 : (Cond.methodLink "LogFs$Volume" 26 ⟨"LogFs$Volume", "type", "(I)I"⟩) ∈ tb := tb_in 157 (by decide +kernel) (by decide +kernel)
theorem tw158 : (Cond.instanceMethod ⟨"LogFs$Volume", "type", "(I)I"⟩) ∈ tb := tb_in 158 (by decide +kernel) (by decide +kernel)
theorem tw159 : (Cond.selects "LogFs$Volume" ⟨"LogFs$Volume", "type", "(I)I"⟩ ⟨"LogFs$Volume", "type", "(I)I"⟩) ∈ tb := tb_in 159 (by decide +kernel) (by decide +kernel)
theorem tw160 : (Cond.code ⟨"LogFs$Volume", "type", "(I)I"⟩ prog_5_method_2_code 2 (some .int)) ∈ tb := tb_in 160 (by decide +kernel) (by decide +kernel)
theorem tw161 : (Cond.methodLink "LogFs$Volume" 22 ⟨"LogFs$Volume", "inodeByte", "(II)I"⟩) ∈ tb := tb_in 161 (by decide +kernel) (by decide +kernel)
theorem tw163 : (Cond.instanceMethod ⟨"LogFs$Volume", "inodeByte", "(II)I"⟩) ∈ tb := tb_in 163 (by decide +kernel) (by decide +kernel)
theorem tw164 : (Cond.code ⟨"LogFs$Volume", "inodeByte", "(II)I"⟩ prog_5_method_23_code 3 (some .int)) ∈ tb := tb_in 164 (by decide +kernel) (by decide +kernel)
theorem tw165 : (Cond.methodLinkNest "LogFs$Volume" 100 ⟨"LogFs", "isInode", "(I)Z"⟩ "LogFs") ∈ tb := tb_in 165 (by decide +kernel) (by decide +kernel)
theorem tw166 : (Cond.static ⟨"LogFs", "isInode", "(I)Z"⟩) ∈ tb := tb_in 166 (by decide +kernel) (by decide +kernel)
theorem tw167 : (Cond.code ⟨"LogFs", "isInode", "(I)Z"⟩ prog_1_method_22_code 1 (some .boolean)) ∈ tb := tb_in 167 (by decide +kernel) (by decide +kernel)
theorem tw168 : (Cond.methodLink "LogFs" 178 ⟨"LogFs$Memory", "pendingAt", "(I)I"⟩) ∈ tb := tb_in 168 (by decide +kernel) (by decide +kernel)
theorem tw169 : (Cond.instanceMethod ⟨"LogFs$Memory", "pendingAt", "(I)I"⟩) ∈ tb := tb_in 169 (by decide +kernel) (by decide +kernel)
theorem tw170 : (Cond.selects "LogFs$Memory" ⟨"LogFs$Memory", "pendingAt", "(I)I"⟩ ⟨"LogFs$Memory", "pendingAt", "(I)I"⟩) ∈ tb := tb_in 170 (by decide +kernel) (by decide +kernel)
theorem tw171 : (Cond.code ⟨"LogFs$Memory", "pendingAt", "(I)I"⟩ prog_4_method_5_code 2 (some .int)) ∈ tb := tb_in 171 (by decide +kernel) (by decide +kernel)
theorem tw172 : (Cond.methodLink "LogFsLaw" 69 ⟨"LogFsLaw", "make", "(LLogFs;IJZ[J)I"⟩) ∈ tb := tb_in 172 (by decide +kernel) (by decide +kernel)
theorem tw173 : (Cond.static ⟨"LogFsLaw", "make", "(LLogFs;IJZ[J)I"⟩) ∈ tb := tb_in 173 (by decide +kernel) (by decide +kernel)
theorem tw174 : (Cond.codeWith ⟨"LogFsLaw", "make", "(LLogFs;IJZ[J)I"⟩ method_3_code 7 (some .int) [(0, 13, 16, 13), (0, 13, 20, 15)]) ∈ tb := tb_in 174 (by decide +kernel) (by decide +kernel)
theorem tw175 : (Cond.classLink "LogFsLaw" 13 "java/lang/IllegalStateException") ∈ tb := tb_in 175 (by decide +kernel) (by decide +kernel)
theorem tw176 : (Cond.classLink "LogFsLaw" 15 "java/lang/UnsupportedOperationException") ∈ tb := tb_in 176 (by decide +kernel) (by decide +kernel)
theorem tw177 : (Cond.methodLink "LogFsLaw" 7 ⟨"LogFs", "make", "(IJZ)I"⟩) ∈ tb := tb_in 177 (by decide +kernel) (by decide +kernel)
theorem tw178 : (Cond.instanceMethod ⟨"LogFs", "make", "(IJZ)I"⟩) ∈ tb := tb_in 178 (by decide +kernel) (by decide +kernel)
theorem tw179 : (Cond.selects "LogFs" ⟨"LogFs", "make", "(IJZ)I"⟩ ⟨"LogFs", "make", "(IJZ)I"⟩) ∈ tb := tb_in 179 (by decide +kernel) (by decide +kernel)
theorem tw180 : (Cond.code ⟨"LogFs", "make", "(IJZ)I"⟩ prog_1_method_2_code 6 (some .int)) ∈ tb := tb_in 180 (by decide +kernel) (by decide +kernel)
theorem tw181 : (Cond.methodLink "LogFs" 44 ⟨"LogFs", "requirePower", "()V"⟩) ∈ tb := tb_in 181 (by decide +kernel) (by decide +kernel)
theorem tw183 : (Cond.instanceMethod ⟨"LogFs", "requirePower", "()V"⟩) ∈ tb := tb_in 183 (by decide +kernel) (by decide +kernel)
theorem tw184 : (Cond.code ⟨"LogFs", "requirePower", "()V"⟩ prog_1_method_18_code 1 none) ∈ tb := tb_in 184 (by decide +kernel) (by decide +kernel)
theorem tw185 : (Cond.classLink "LogFs" 181 "java/lang/IllegalStateException") ∈ tb := tb_in 185 (by decide +kernel) (by decide +kernel)
theorem tw186 : (Cond.instantiable "java/lang/IllegalStateException" 6) ∈ tb := tb_in 186 (by decide +kernel) (by decide +kernel)
theorem tw187 : (Cond.castable "java/lang/IllegalStateException" "java/lang/IllegalStateException") ∈ tb := tb_in 187 (by decide +kernel) (by decide +kernel)
theorem tw188 : (Cond.declares ⟨"java/lang/RuntimeException", "<init>", "()V"⟩) ∈ tb := tb_in 188 (by decide +kernel) (by decide +kernel)
theorem tw189 : (Cond.declares ⟨"java/lang/RuntimeException", "<init>", "(Ljava/lang/String;)V"⟩) ∈ tb := tb_in 189 (by decide +kernel) (by decide +kernel)
theorem tw190 : (Cond.declares ⟨"java/lang/Exception", "<init>", "()V"⟩) ∈ tb := tb_in 190 (by decide +kernel) (by decide +kernel)
theorem tw191 : (Cond.declares ⟨"java/lang/Exception", "<init>", "(Ljava/lang/String;)V"⟩) ∈ tb := tb_in 191 (by decide +kernel) (by decide +kernel)
theorem tw192 : (Cond.declares ⟨"java/lang/Throwable", "<init>", "()V"⟩) ∈ tb := tb_in 192 (by decide +kernel) (by decide +kernel)
theorem tw193 : (Cond.declares ⟨"java/lang/Throwable", "<init>", "(Ljava/lang/String;)V"⟩) ∈ tb := tb_in 193 (by decide +kernel) (by decide +kernel)
theorem tw194 : (Cond.selects "java/lang/IllegalStateException" ⟨"java/lang/Throwable", "fillInStackTrace", "(I)Ljava/lang/Throwable;"⟩ ⟨"java/lang/Throwable", "fillInStackTrace", "(I)Ljava/lang/Throwable;"⟩) ∈ tb := tb_in 194 (by decide +kernel) (by decide +kernel)
theorem tw195 : (Cond.selects "java/lang/IllegalStateException" ⟨"java/lang/Throwable", "fillInStackTrace", "()Ljava/lang/Throwable;"⟩ ⟨"java/lang/Throwable", "fillInStackTrace", "()Ljava/lang/Throwable;"⟩) ∈ tb := tb_in 195 (by decide +kernel) (by decide +kernel)
theorem tw196 : (Cond.lays "java/lang/IllegalStateException" "java/lang/Throwable" "cause" "Ljava/lang/Throwable;") ∈ tb := tb_in 196 (by decide +kernel) (by decide +kernel)
theorem tw197 : (Cond.lays "java/lang/Throwable" "java/lang/Throwable" "cause" "Ljava/lang/Throwable;") ∈ tb := tb_in 197 (by decide +kernel) (by decide +kernel)
theorem tw198 : (Cond.lays "java/lang/IllegalStateException" "java/lang/Throwable" "stackTrace" "[Ljava/lang/StackTraceElement;") ∈ tb := tb_in 198 (by decide +kernel) (by decide +kernel)
theorem tw199 : (Cond.lays "java/lang/Throwable" "java/lang/Throwable" "stackTrace" "[Ljava/lang/StackTraceElement;") ∈ tb := tb_in 199 (by decide +kernel) (by decide +kernel)
theorem tw200 : (Cond.lays "java/lang/IllegalStateException" "java/lang/Throwable" "suppressedExceptions" "Ljava/util/List;") ∈ tb := tb_in 200 (by decide +kernel) (by decide +kernel)
theorem tw201 : (Cond.lays "java/lang/Throwable" "java/lang/Throwable" "suppressedExceptions" "Ljava/util/List;") ∈ tb := tb_in 201 (by decide +kernel) (by decide +kernel)
theorem tw202 : (Cond.lays "java/lang/IllegalStateException" "java/lang/Throwable" "detailMessage" "Ljava/lang/String;") ∈ tb := tb_in 202 (by decide +kernel) (by decide +kernel)
theorem tw203 : (Cond.lays "java/lang/Throwable" "java/lang/Throwable" "detailMessage" "Ljava/lang/String;") ∈ tb := tb_in 203 (by decide +kernel) (by decide +kernel)
theorem tw204 : (Cond.lays "java/lang/IllegalStateException" "java/lang/Throwable" "backtrace" "Ljava/lang/Object;") ∈ tb := tb_in 204 (by decide +kernel) (by decide +kernel)
theorem tw205 : (Cond.lays "java/lang/Throwable" "java/lang/Throwable" "backtrace" "Ljava/lang/Object;") ∈ tb := tb_in 205 (by decide +kernel) (by decide +kernel)
theorem tw206 : (Cond.fieldLink "java/lang/Throwable" 198 "java/lang/Throwable" "backtrace" "Ljava/lang/Object;") ∈ tb := tb_in 206 (by decide +kernel) (by decide +kernel)
theorem tw207 : (Cond.superclass "java/lang/Throwable" "java/lang/Object") ∈ tb := tb_in 207 (by decide +kernel) (by decide +kernel)
theorem tw208 : (Cond.instanceMethod ⟨"java/lang/Throwable", "<init>", "()V"⟩) ∈ tb := tb_in 208 (by decide +kernel) (by decide +kernel)
theorem tw209 : (Cond.code ⟨"java/lang/Throwable", "<init>", "()V"⟩ prog_15_method_1_code 1 none) ∈ tb := tb_in 209 (by decide +kernel) (by decide +kernel)
theorem tw210 : (Cond.methodLink "java/lang/Throwable" 1 ⟨"java/lang/Object", "<init>", "()V"⟩) ∈ tb := tb_in 210 (by decide +kernel) (by decide +kernel)
theorem tw211 : (Cond.fieldLink "java/lang/Throwable" 13 "java/lang/Throwable" "UNASSIGNED_STACK" "[Ljava/lang/StackTraceElement;") ∈ tb := tb_in 211 (by decide +kernel) (by decide +kernel)
theorem tw213 : (Cond.fieldLink "java/lang/Throwable" 20 "java/lang/Throwable" "SUPPRESSED_SENTINEL" "Ljava/util/List;") ∈ tb := tb_in 213 (by decide +kernel) (by decide +kernel)
theorem tw215 : (Cond.methodLink "java/lang/Throwable" 27 ⟨"java/lang/Throwable", "fillInStackTrace", "()Ljava/lang/Throwable;"⟩) ∈ tb := tb_in 215 (by decide +kernel) (by decide +kernel)
theorem tw216 : (Cond.instanceMethod ⟨"java/lang/Throwable", "fillInStackTrace", "()Ljava/lang/Throwable;"⟩) ∈ tb := tb_in 216 (by decide +kernel) (by decide +kernel)
theorem tw217 : (Cond.sameMethod "java/lang/Throwable" "java/lang/Throwable" "fillInStackTrace" "()Ljava/lang/Throwable;") ∈ tb := tb_in 217 (by decide +kernel) (by decide +kernel)
theorem tw218 : (Cond.selects "java/lang/IndexOutOfBoundsException" ⟨"java/lang/Throwable", "fillInStackTrace", "()Ljava/lang/Throwable;"⟩ ⟨"java/lang/Throwable", "fillInStackTrace", "()Ljava/lang/Throwable;"⟩) ∈ tb := tb_in 218 (by decide +kernel) (by decide +kernel)
theorem tw219 : (Cond.selects "java/lang/UnsupportedOperationException" ⟨"java/lang/Throwable", "fillInStackTrace", "()Ljava/lang/Throwable;"⟩ ⟨"java/lang/Throwable", "fillInStackTrace", "()Ljava/lang/Throwable;"⟩) ∈ tb := tb_in 219 (by decide +kernel) (by decide +kernel)
theorem tw220 : (Cond.codeSync ⟨"java/lang/Throwable", "fillInStackTrace", "()Ljava/lang/Throwable;"⟩ prog_15_method_18_code 1 (some (.object "java/lang/Throwable"))) ∈ tb := tb_in 220 (by decide +kernel) (by decide +kernel)
theorem tw221 : (Cond.methodLink "java/lang/Throwable" 202 ⟨"java/lang/Throwable", "fillInStackTrace", "(I)Ljava/lang/Throwable;"⟩) ∈ tb := tb_in 221 (by decide +kernel) (by decide +kernel)
theorem tw223 : (Cond.instanceMethod ⟨"java/lang/Throwable", "fillInStackTrace", "(I)Ljava/lang/Throwable;"⟩) ∈ tb := tb_in 223 (by decide +kernel) (by decide +kernel)
theorem tw224 : (Cond.instantiable "java/lang/Throwable" 6) ∈ tb := tb_in 224 (by decide +kernel) (by decide +kernel)
theorem tw225 : (Cond.native ⟨"java/lang/Throwable", "fillInStackTrace", "(I)Ljava/lang/Throwable;"⟩) ∈ tb := tb_in 225 (by decide +kernel) (by decide +kernel)
theorem tw227 : (Cond.methodLink "LogFs" 185 ⟨"java/lang/IllegalStateException", "<init>", "(Ljava/lang/String;)V"⟩) ∈ tb := tb_in 227 (by decide +kernel) (by decide +kernel)
theorem tw228 : (Cond.instanceMethod ⟨"java/lang/IllegalStateException", "<init>", "(Ljava/lang/String;)V"⟩) ∈ tb := tb_in 228 (by decide +kernel) (by decide +kernel)
theorem tw229 : (Cond.code ⟨"java/lang/IllegalStateException", "<init>", "(Ljava/lang/String;)V"⟩ prog_9_method_2_code 2 none) ∈ tb := tb_in 229 (by decide +kernel) (by decide +kernel)
theorem tw230 : (Cond.methodLink "java/lang/IllegalStateException" 7 ⟨"java/lang/RuntimeException", "<init>", "(Ljava/lang/String;)V"⟩) ∈ tb := tb_in 230 (by decide +kernel) (by decide +kernel)
theorem tw231 : (Cond.instanceMethod ⟨"java/lang/RuntimeException", "<init>", "(Ljava/lang/String;)V"⟩) ∈ tb := tb_in 231 (by decide +kernel) (by decide +kernel)
theorem tw232 : (Cond.code ⟨"java/lang/RuntimeException", "<init>", "(Ljava/lang/String;)V"⟩ prog_12_method_2_code 2 none) ∈ tb := tb_in 232 (by decide +kernel) (by decide +kernel)
theorem tw233 : (Cond.methodLink "java/lang/RuntimeException" 7 ⟨"java/lang/Exception", "<init>", "(Ljava/lang/String;)V"⟩) ∈ tb := tb_in 233 (by decide +kernel) (by decide +kernel)
theorem tw234 : (Cond.instanceMethod ⟨"java/lang/Exception", "<init>", "(Ljava/lang/String;)V"⟩) ∈ tb := tb_in 234 (by decide +kernel) (by decide +kernel)
theorem tw235 : (Cond.code ⟨"java/lang/Exception", "<init>", "(Ljava/lang/String;)V"⟩ prog_8_method_2_code 2 none) ∈ tb := tb_in 235 (by decide +kernel) (by decide +kernel)
theorem tw236 : (Cond.methodLink "java/lang/Exception" 7 ⟨"java/lang/Throwable", "<init>", "(Ljava/lang/String;)V"⟩) ∈ tb := tb_in 236 (by decide +kernel) (by decide +kernel)
theorem tw237 : (Cond.instanceMethod ⟨"java/lang/Throwable", "<init>", "(Ljava/lang/String;)V"⟩) ∈ tb := tb_in 237 (by decide +kernel) (by decide +kernel)
theorem tw238 : (Cond.code ⟨"java/lang/Throwable", "<init>", "(Ljava/lang/String;)V"⟩ prog_15_method_2_code 2 none) ∈ tb := tb_in 238 (by decide +kernel) (by decide +kernel)
theorem tw239 : (Cond.fieldLink "java/lang/Throwable" 198 "java/lang/Throwable" "backtrace" "Ljava/lang/Object;") ∈ tb := tb_in 239 (by decide +kernel) (by decide +kernel)
theorem tw240 : (Cond.fieldLink "java/lang/Throwable" 31 "java/lang/Throwable" "detailMessage" "Ljava/lang/String;") ∈ tb := tb_in 240 (by decide +kernel) (by decide +kernel)
theorem tw241 : (Cond.fieldLink "java/lang/Throwable" 7 "java/lang/Throwable" "cause" "Ljava/lang/Throwable;") ∈ tb := tb_in 241 (by decide +kernel) (by decide +kernel)
theorem tw242 : (Cond.fieldLink "java/lang/Throwable" 17 "java/lang/Throwable" "stackTrace" "[Ljava/lang/StackTraceElement;") ∈ tb := tb_in 242 (by decide +kernel) (by decide +kernel)
theorem tw243 : (Cond.fieldLink "java/lang/Throwable" 24 "java/lang/Throwable" "suppressedExceptions" "Ljava/util/List;") ∈ tb := tb_in 243 (by decide +kernel) (by decide +kernel)
theorem tw248 : (Cond.lays "java/lang/IllegalStateException" "java/lang/Throwable" "depth" "I") ∈ tb := tb_in 248 (by decide +kernel) (by decide +kernel)
theorem tw251 : (Cond.superclass "java/lang/IllegalStateException" "java/lang/RuntimeException") ∈ tb := tb_in 251 (by decide +kernel) (by decide +kernel)
theorem tw252 : (Cond.methodLink "LogFs" 47 ⟨"LogFs$Volume", "leastFreeInode", "()I"⟩) ∈ tb := tb_in 252 (by decide +kernel) (by decide +kernel)
theorem tw253 : (Cond.instanceMethod ⟨"LogFs$Volume", "leastFreeInode", "()I"⟩) ∈ tb := tb_in 253 (by decide +kernel) (by decide +kernel)
theorem tw254 : (Cond.selects "LogFs$Volume" ⟨"LogFs$Volume", "leastFreeInode", "()I"⟩ ⟨"LogFs$Volume", "leastFreeInode", "()I"⟩) ∈ tb := tb_in 254 (by decide +kernel) (by decide +kernel)
theorem tw255 : (Cond.code ⟨"LogFs$Volume", "leastFreeInode", "()I"⟩ prog_5_method_7_code 2 (some .int)) ∈ tb := tb_in 255 (by decide +kernel) (by decide +kernel)
theorem tw256 : (Cond.methodLink "LogFs" 51 ⟨"LogFs$Volume", "canEnter", "(IJ)Z"⟩) ∈ tb := tb_in 256 (by decide +kernel) (by decide +kernel)
theorem tw257 : (Cond.instanceMethod ⟨"LogFs$Volume", "canEnter", "(IJ)Z"⟩) ∈ tb := tb_in 257 (by decide +kernel) (by decide +kernel)
theorem tw258 : (Cond.selects "LogFs$Volume" ⟨"LogFs$Volume", "canEnter", "(IJ)Z"⟩ ⟨"LogFs$Volume", "canEnter", "(IJ)Z"⟩) ∈ tb := tb_in 258 (by decide +kernel) (by decide +kernel)
theorem tw259 : (Cond.code ⟨"LogFs$Volume", "canEnter", "(IJ)Z"⟩ prog_5_method_15_code 4 (some .boolean)) ∈ tb := tb_in 259 (by decide +kernel) (by decide +kernel)
theorem tw260 : (Cond.methodLink "LogFs$Volume" 43 ⟨"LogFs$Volume", "isDirectory", "(I)Z"⟩) ∈ tb := tb_in 260 (by decide +kernel) (by decide +kernel)
theorem tw261 : (Cond.instanceMethod ⟨"LogFs$Volume", "isDirectory", "(I)Z"⟩) ∈ tb := tb_in 261 (by decide +kernel) (by decide +kernel)
theorem tw262 : (Cond.selects "LogFs$Volume" ⟨"LogFs$Volume", "isDirectory", "(I)Z"⟩ ⟨"LogFs$Volume", "isDirectory", "(I)Z"⟩) ∈ tb := tb_in 262 (by decide +kernel) (by decide +kernel)
theorem tw263 : (Cond.code ⟨"LogFs$Volume", "isDirectory", "(I)Z"⟩ prog_5_method_6_code 2 (some .boolean)) ∈ tb := tb_in 263 (by decide +kernel) (by decide +kernel)
theorem tw264 : (Cond.methodLinkNest "LogFs$Volume" 47 ⟨"LogFs", "isName", "(J)Z"⟩ "LogFs") ∈ tb := tb_in 264 (by decide +kernel) (by decide +kernel)
theorem tw265 : (Cond.static ⟨"LogFs", "isName", "(J)Z"⟩) ∈ tb := tb_in 265 (by decide +kernel) (by decide +kernel)
theorem tw266 : (Cond.code ⟨"LogFs", "isName", "(J)Z"⟩ prog_1_method_26_code 4 (some .boolean)) ∈ tb := tb_in 266 (by decide +kernel) (by decide +kernel)
theorem tw267 : (Cond.methodLink "LogFs" 195 ⟨"LogFs", "byteOf", "(JI)I"⟩) ∈ tb := tb_in 267 (by decide +kernel) (by decide +kernel)
theorem tw268 : (Cond.static ⟨"LogFs", "byteOf", "(JI)I"⟩) ∈ tb := tb_in 268 (by decide +kernel) (by decide +kernel)
theorem tw269 : (Cond.code ⟨"LogFs", "byteOf", "(JI)I"⟩ prog_1_method_24_code 3 (some .int)) ∈ tb := tb_in 269 (by decide +kernel) (by decide +kernel)
theorem tw270 : (Cond.methodLink "LogFs$Volume" 62 ⟨"LogFs$Volume", "placeOf", "(IJ)I"⟩) ∈ tb := tb_in 270 (by decide +kernel) (by decide +kernel)
theorem tw271 : (Cond.instanceMethod ⟨"LogFs$Volume", "placeOf", "(IJ)I"⟩) ∈ tb := tb_in 271 (by decide +kernel) (by decide +kernel)
theorem tw272 : (Cond.selects "LogFs$Volume" ⟨"LogFs$Volume", "placeOf", "(IJ)I"⟩ ⟨"LogFs$Volume", "placeOf", "(IJ)I"⟩) ∈ tb := tb_in 272 (by decide +kernel) (by decide +kernel)
theorem tw273 : (Cond.code ⟨"LogFs$Volume", "placeOf", "(IJ)I"⟩ prog_5_method_11_code 6 (some .int)) ∈ tb := tb_in 273 (by decide +kernel) (by decide +kernel)
theorem tw274 : (Cond.methodLink "LogFs$Volume" 51 ⟨"LogFs$Volume", "size", "(I)I"⟩) ∈ tb := tb_in 274 (by decide +kernel) (by decide +kernel)
theorem tw275 : (Cond.instanceMethod ⟨"LogFs$Volume", "size", "(I)I"⟩) ∈ tb := tb_in 275 (by decide +kernel) (by decide +kernel)
theorem tw276 : (Cond.selects "LogFs$Volume" ⟨"LogFs$Volume", "size", "(I)I"⟩ ⟨"LogFs$Volume", "size", "(I)I"⟩) ∈ tb := tb_in 276 (by decide +kernel) (by decide +kernel)
theorem tw277 : (Cond.code ⟨"LogFs$Volume", "size", "(I)I"⟩ prog_5_method_4_code 2 (some .int)) ∈ tb := tb_in 277 (by decide +kernel) (by decide +kernel)
theorem tw278 : (Cond.methodLink "LogFs$Volume" 54 ⟨"LogFs$Volume", "entryAt", "(II)J"⟩) ∈ tb := tb_in 278 (by decide +kernel) (by decide +kernel)
theorem tw280 : (Cond.instanceMethod ⟨"LogFs$Volume", "entryAt", "(II)J"⟩) ∈ tb := tb_in 280 (by decide +kernel) (by decide +kernel)
theorem tw281 : (Cond.code ⟨"LogFs$Volume", "entryAt", "(II)J"⟩ prog_5_method_26_code 7 (some .long)) ∈ tb := tb_in 281 (by decide +kernel) (by decide +kernel)
theorem tw282 : (Cond.methodLink "LogFs$Volume" 40 ⟨"LogFs$Volume", "contentBlock", "(II)I"⟩) ∈ tb := tb_in 282 (by decide +kernel) (by decide +kernel)
theorem tw284 : (Cond.instanceMethod ⟨"LogFs$Volume", "contentBlock", "(II)I"⟩) ∈ tb := tb_in 284 (by decide +kernel) (by decide +kernel)
theorem tw285 : (Cond.code ⟨"LogFs$Volume", "contentBlock", "(II)I"⟩ prog_5_method_25_code 4 (some .int)) ∈ tb := tb_in 285 (by decide +kernel) (by decide +kernel)
theorem tw286 : (Cond.methodLink "LogFs$Volume" 66 ⟨"LogFs$Volume", "placeForEntry", "(I)I"⟩) ∈ tb := tb_in 286 (by decide +kernel) (by decide +kernel)
theorem tw287 : (Cond.instanceMethod ⟨"LogFs$Volume", "placeForEntry", "(I)I"⟩) ∈ tb := tb_in 287 (by decide +kernel) (by decide +kernel)
theorem tw288 : (Cond.selects "LogFs$Volume" ⟨"LogFs$Volume", "placeForEntry", "(I)I"⟩ ⟨"LogFs$Volume", "placeForEntry", "(I)I"⟩) ∈ tb := tb_in 288 (by decide +kernel) (by decide +kernel)
theorem tw289 : (Cond.code ⟨"LogFs$Volume", "placeForEntry", "(I)I"⟩ prog_5_method_12_code 4 (some .int)) ∈ tb := tb_in 289 (by decide +kernel) (by decide +kernel)
theorem tw290 : (Cond.methodLink "LogFs$Volume" 69 ⟨"LogFs$Volume", "fits", "(II)Z"⟩) ∈ tb := tb_in 290 (by decide +kernel) (by decide +kernel)
theorem tw292 : (Cond.instanceMethod ⟨"LogFs$Volume", "fits", "(II)Z"⟩) ∈ tb := tb_in 292 (by decide +kernel) (by decide +kernel)
theorem tw293 : (Cond.code ⟨"LogFs$Volume", "fits", "(II)Z"⟩ prog_5_method_27_code 3 (some .boolean)) ∈ tb := tb_in 293 (by decide +kernel) (by decide +kernel)
theorem tw294 : (Cond.methodLink "LogFs$Volume" 106 ⟨"LogFs$Volume", "blocksToTake", "(II)I"⟩) ∈ tb := tb_in 294 (by decide +kernel) (by decide +kernel)
theorem tw296 : (Cond.instanceMethod ⟨"LogFs$Volume", "blocksToTake", "(II)I"⟩) ∈ tb := tb_in 296 (by decide +kernel) (by decide +kernel)
theorem tw297 : (Cond.code ⟨"LogFs$Volume", "blocksToTake", "(II)I"⟩ prog_5_method_28_code 6 (some .int)) ∈ tb := tb_in 297 (by decide +kernel) (by decide +kernel)
theorem tw298 : (Cond.methodLinkNest "LogFs$Volume" 94 ⟨"LogFs", "blocksFor", "(I)I"⟩ "LogFs") ∈ tb := tb_in 298 (by decide +kernel) (by decide +kernel)
theorem tw299 : (Cond.static ⟨"LogFs", "blocksFor", "(I)I"⟩) ∈ tb := tb_in 299 (by decide +kernel) (by decide +kernel)
theorem tw300 : (Cond.code ⟨"LogFs", "blocksFor", "(I)I"⟩ prog_1_method_23_code 1 (some .int)) ∈ tb := tb_in 300 (by decide +kernel) (by decide +kernel)
theorem tw301 : (Cond.methodLink "LogFs$Volume" 109 ⟨"LogFs$Volume", "freeBlocks", "()I"⟩) ∈ tb := tb_in 301 (by decide +kernel) (by decide +kernel)
theorem tw302 : (Cond.methodLink "LogFs" 55 ⟨"LogFs", "commitIfMany", "()V"⟩) ∈ tb := tb_in 302 (by decide +kernel) (by decide +kernel)
theorem tw304 : (Cond.instanceMethod ⟨"LogFs", "commitIfMany", "()V"⟩) ∈ tb := tb_in 304 (by decide +kernel) (by decide +kernel)
theorem tw305 : (Cond.code ⟨"LogFs", "commitIfMany", "()V"⟩ prog_1_method_20_code 1 none) ∈ tb := tb_in 305 (by decide +kernel) (by decide +kernel)
theorem tw306 : (Cond.methodLink "LogFs" 116 ⟨"LogFs", "commit", "()V"⟩) ∈ tb := tb_in 306 (by decide +kernel) (by decide +kernel)
theorem tw308 : (Cond.instanceMethod ⟨"LogFs", "commit", "()V"⟩) ∈ tb := tb_in 308 (by decide +kernel) (by decide +kernel)
theorem tw309 : (Cond.code ⟨"LogFs", "commit", "()V"⟩ prog_1_method_21_code 1 none) ∈ tb := tb_in 309 (by decide +kernel) (by decide +kernel)
theorem tw310 : (Cond.methodLink "LogFs" 188 ⟨"LogFs$Disk", "storePending", "(LLogFs$Memory;)Z"⟩) ∈ tb := tb_in 310 (by decide +kernel) (by decide +kernel)
theorem tw311 : (Cond.instanceMethod ⟨"LogFs$Disk", "storePending", "(LLogFs$Memory;)Z"⟩) ∈ tb := tb_in 311 (by decide +kernel) (by decide +kernel)
theorem tw312 : (Cond.selects "LogFs$Disk" ⟨"LogFs$Disk", "storePending", "(LLogFs$Memory;)Z"⟩ ⟨"LogFs$Disk", "storePending", "(LLogFs$Memory;)Z"⟩) ∈ tb := tb_in 312 (by decide +kernel) (by decide +kernel)
theorem tw313 : (Cond.code ⟨"LogFs$Disk", "storePending", "(LLogFs$Memory;)Z"⟩ prog_3_method_2_code 2 (some .boolean)) ∈ tb := tb_in 313 (by decide +kernel) (by decide +kernel)
theorem tw314 : (Cond.methodLink "LogFs$Disk" 37 ⟨"LogFs$Disk", "storeInLog", "(LLogFs$Memory;)Z"⟩) ∈ tb := tb_in 314 (by decide +kernel) (by decide +kernel)
theorem tw316 : (Cond.instanceMethod ⟨"LogFs$Disk", "storeInLog", "(LLogFs$Memory;)Z"⟩) ∈ tb := tb_in 316 (by decide +kernel) (by decide +kernel)
theorem tw317 : (Cond.code ⟨"LogFs$Disk", "storeInLog", "(LLogFs$Memory;)Z"⟩ prog_3_method_4_code 3 (some .boolean)) ∈ tb := tb_in 317 (by decide +kernel) (by decide +kernel)
theorem tw318 : (Cond.methodLink "LogFs$Disk" 61 ⟨"LogFs$Memory", "pendingAt", "(I)I"⟩) ∈ tb := tb_in 318 (by decide +kernel) (by decide +kernel)
theorem tw319 : (Cond.methodLink "LogFs$Disk" 51 ⟨"LogFs$Disk", "storeBlock", "(LLogFs$Blocks;II)Z"⟩) ∈ tb := tb_in 319 (by decide +kernel) (by decide +kernel)
theorem tw321 : (Cond.instanceMethod ⟨"LogFs$Disk", "storeBlock", "(LLogFs$Blocks;II)Z"⟩) ∈ tb := tb_in 321 (by decide +kernel) (by decide +kernel)
theorem tw322 : (Cond.code ⟨"LogFs$Disk", "storeBlock", "(LLogFs$Blocks;II)Z"⟩ prog_3_method_8_code 4 (some .boolean)) ∈ tb := tb_in 322 (by decide +kernel) (by decide +kernel)
theorem tw323 : (Cond.methodLink "LogFs$Disk" 65 ⟨"LogFs$Disk", "spendWrite", "()Z"⟩) ∈ tb := tb_in 323 (by decide +kernel) (by decide +kernel)
theorem tw325 : (Cond.instanceMethod ⟨"LogFs$Disk", "spendWrite", "()Z"⟩) ∈ tb := tb_in 325 (by decide +kernel) (by decide +kernel)
theorem tw326 : (Cond.code ⟨"LogFs$Disk", "spendWrite", "()Z"⟩ prog_3_method_9_code 1 (some .boolean)) ∈ tb := tb_in 326 (by decide +kernel) (by decide +kernel)
theorem tw327 : (Cond.methodLink "LogFs$Disk" 72 ⟨"LogFs$Blocks", "copyBlock", "(LLogFs$Blocks;II)V"⟩) ∈ tb := tb_in 327 (by decide +kernel) (by decide +kernel)
theorem tw328 : (Cond.instanceMethod ⟨"LogFs$Blocks", "copyBlock", "(LLogFs$Blocks;II)V"⟩) ∈ tb := tb_in 328 (by decide +kernel) (by decide +kernel)
theorem tw329 : (Cond.selects "LogFs$Blocks" ⟨"LogFs$Blocks", "copyBlock", "(LLogFs$Blocks;II)V"⟩ ⟨"LogFs$Blocks", "copyBlock", "(LLogFs$Blocks;II)V"⟩) ∈ tb := tb_in 329 (by decide +kernel) (by decide +kernel)
theorem tw330 : (Cond.code ⟨"LogFs$Blocks", "copyBlock", "(LLogFs$Blocks;II)V"⟩ prog_2_method_5_code 4 none) ∈ tb := tb_in 330 (by decide +kernel) (by decide +kernel)
theorem tw331 : (Cond.methodLink "LogFs$Disk" 41 ⟨"LogFs$Disk", "storeHead", "(LLogFs$Memory;)Z"⟩) ∈ tb := tb_in 331 (by decide +kernel) (by decide +kernel)
theorem tw333 : (Cond.instanceMethod ⟨"LogFs$Disk", "storeHead", "(LLogFs$Memory;)Z"⟩) ∈ tb := tb_in 333 (by decide +kernel) (by decide +kernel)
theorem tw334 : (Cond.code ⟨"LogFs$Disk", "storeHead", "(LLogFs$Memory;)Z"⟩ prog_3_method_6_code 3 (some .boolean)) ∈ tb := tb_in 334 (by decide +kernel) (by decide +kernel)
theorem tw335 : (Cond.methodLink "LogFs$Disk" 68 ⟨"LogFs$Blocks", "clear", "(I)V"⟩) ∈ tb := tb_in 335 (by decide +kernel) (by decide +kernel)
theorem tw336 : (Cond.instanceMethod ⟨"LogFs$Blocks", "clear", "(I)V"⟩) ∈ tb := tb_in 336 (by decide +kernel) (by decide +kernel)
theorem tw337 : (Cond.selects "LogFs$Blocks" ⟨"LogFs$Blocks", "clear", "(I)V"⟩ ⟨"LogFs$Blocks", "clear", "(I)V"⟩) ∈ tb := tb_in 337 (by decide +kernel) (by decide +kernel)
theorem tw338 : (Cond.code ⟨"LogFs$Blocks", "clear", "(I)V"⟩ prog_2_method_4_code 3 none) ∈ tb := tb_in 338 (by decide +kernel) (by decide +kernel)
theorem tw339 : (Cond.methodLink "LogFs$Blocks" 15 ⟨"LogFs$Blocks", "set", "(III)V"⟩) ∈ tb := tb_in 339 (by decide +kernel) (by decide +kernel)
theorem tw340 : (Cond.methodLink "LogFs$Disk" 44 ⟨"LogFs$Disk", "storeInPlace", "(LLogFs$Memory;)Z"⟩) ∈ tb := tb_in 340 (by decide +kernel) (by decide +kernel)
theorem tw342 : (Cond.instanceMethod ⟨"LogFs$Disk", "storeInPlace", "(LLogFs$Memory;)Z"⟩) ∈ tb := tb_in 342 (by decide +kernel) (by decide +kernel)
theorem tw343 : (Cond.code ⟨"LogFs$Disk", "storeInPlace", "(LLogFs$Memory;)Z"⟩ prog_3_method_5_code 3 (some .boolean)) ∈ tb := tb_in 343 (by decide +kernel) (by decide +kernel)
theorem tw344 : (Cond.methodLink "LogFs$Disk" 47 ⟨"LogFs$Disk", "clearHead", "()Z"⟩) ∈ tb := tb_in 344 (by decide +kernel) (by decide +kernel)
theorem tw346 : (Cond.instanceMethod ⟨"LogFs$Disk", "clearHead", "()Z"⟩) ∈ tb := tb_in 346 (by decide +kernel) (by decide +kernel)
theorem tw347 : (Cond.code ⟨"LogFs$Disk", "clearHead", "()Z"⟩ prog_3_method_7_code 1 (some .boolean)) ∈ tb := tb_in 347 (by decide +kernel) (by decide +kernel)
theorem tw348 : (Cond.classLink "LogFs" 134 "java/lang/UnsupportedOperationException") ∈ tb := tb_in 348 (by decide +kernel) (by decide +kernel)
theorem tw349 : (Cond.instantiable "java/lang/UnsupportedOperationException" 6) ∈ tb := tb_in 349 (by decide +kernel) (by decide +kernel)
theorem tw350 : (Cond.castable "java/lang/UnsupportedOperationException" "java/lang/UnsupportedOperationException") ∈ tb := tb_in 350 (by decide +kernel) (by decide +kernel)
theorem tw351 : (Cond.selects "java/lang/UnsupportedOperationException" ⟨"java/lang/Throwable", "fillInStackTrace", "(I)Ljava/lang/Throwable;"⟩ ⟨"java/lang/Throwable", "fillInStackTrace", "(I)Ljava/lang/Throwable;"⟩) ∈ tb := tb_in 351 (by decide +kernel) (by decide +kernel)
theorem tw352 : (Cond.lays "java/lang/UnsupportedOperationException" "java/lang/Throwable" "cause" "Ljava/lang/Throwable;") ∈ tb := tb_in 352 (by decide +kernel) (by decide +kernel)
theorem tw353 : (Cond.lays "java/lang/UnsupportedOperationException" "java/lang/Throwable" "stackTrace" "[Ljava/lang/StackTraceElement;") ∈ tb := tb_in 353 (by decide +kernel) (by decide +kernel)
theorem tw354 : (Cond.lays "java/lang/UnsupportedOperationException" "java/lang/Throwable" "suppressedExceptions" "Ljava/util/List;") ∈ tb := tb_in 354 (by decide +kernel) (by decide +kernel)
theorem tw355 : (Cond.lays "java/lang/UnsupportedOperationException" "java/lang/Throwable" "detailMessage" "Ljava/lang/String;") ∈ tb := tb_in 355 (by decide +kernel) (by decide +kernel)
theorem tw356 : (Cond.lays "java/lang/UnsupportedOperationException" "java/lang/Throwable" "backtrace" "Ljava/lang/Object;") ∈ tb := tb_in 356 (by decide +kernel) (by decide +kernel)
theorem tw358 : (Cond.methodLink "LogFs" 138 ⟨"java/lang/UnsupportedOperationException", "<init>", "(Ljava/lang/String;)V"⟩) ∈ tb := tb_in 358 (by decide +kernel) (by decide +kernel)
theorem tw359 : (Cond.instanceMethod ⟨"java/lang/UnsupportedOperationException", "<init>", "(Ljava/lang/String;)V"⟩) ∈ tb := tb_in 359 (by decide +kernel) (by decide +kernel)
theorem tw360 : (Cond.code ⟨"java/lang/UnsupportedOperationException", "<init>", "(Ljava/lang/String;)V"⟩ prog_16_method_2_code 2 none) ∈ tb := tb_in 360 (by decide +kernel) (by decide +kernel)
theorem tw361 : (Cond.methodLink "java/lang/UnsupportedOperationException" 7 ⟨"java/lang/RuntimeException", "<init>", "(Ljava/lang/String;)V"⟩) ∈ tb := tb_in 361 (by decide +kernel) (by decide +kernel)
theorem tw362 : (Cond.lays "java/lang/UnsupportedOperationException" "java/lang/Throwable" "depth" "I") ∈ tb := tb_in 362 (by decide +kernel) (by decide +kernel)
theorem tw363 : (Cond.superclass "java/lang/UnsupportedOperationException" "java/lang/RuntimeException") ∈ tb := tb_in 363 (by decide +kernel) (by decide +kernel)
theorem tw364 : (Cond.methodLink "LogFs" 192 ⟨"LogFs$Memory", "forgetPending", "()V"⟩) ∈ tb := tb_in 364 (by decide +kernel) (by decide +kernel)
theorem tw365 : (Cond.methodLink "LogFs" 58 ⟨"LogFs$Volume", "begin", "(II)V"⟩) ∈ tb := tb_in 365 (by decide +kernel) (by decide +kernel)
theorem tw366 : (Cond.instanceMethod ⟨"LogFs$Volume", "begin", "(II)V"⟩) ∈ tb := tb_in 366 (by decide +kernel) (by decide +kernel)
theorem tw367 : (Cond.selects "LogFs$Volume" ⟨"LogFs$Volume", "begin", "(II)V"⟩ ⟨"LogFs$Volume", "begin", "(II)V"⟩) ∈ tb := tb_in 367 (by decide +kernel) (by decide +kernel)
theorem tw368 : (Cond.code ⟨"LogFs$Volume", "begin", "(II)V"⟩ prog_5_method_17_code 3 none) ∈ tb := tb_in 368 (by decide +kernel) (by decide +kernel)
theorem tw369 : (Cond.methodLink "LogFs$Volume" 76 ⟨"LogFs$Volume", "setInodeByte", "(III)V"⟩) ∈ tb := tb_in 369 (by decide +kernel) (by decide +kernel)
theorem tw371 : (Cond.instanceMethod ⟨"LogFs$Volume", "setInodeByte", "(III)V"⟩) ∈ tb := tb_in 371 (by decide +kernel) (by decide +kernel)
theorem tw372 : (Cond.code ⟨"LogFs$Volume", "setInodeByte", "(III)V"⟩ prog_5_method_24_code 4 none) ∈ tb := tb_in 372 (by decide +kernel) (by decide +kernel)
theorem tw373 : (Cond.methodLink "LogFs$Volume" 103 ⟨"LogFs$Memory", "change", "(III)V"⟩) ∈ tb := tb_in 373 (by decide +kernel) (by decide +kernel)
theorem tw374 : (Cond.instanceMethod ⟨"LogFs$Memory", "change", "(III)V"⟩) ∈ tb := tb_in 374 (by decide +kernel) (by decide +kernel)
theorem tw375 : (Cond.selects "LogFs$Memory" ⟨"LogFs$Memory", "change", "(III)V"⟩ ⟨"LogFs$Memory", "change", "(III)V"⟩) ∈ tb := tb_in 375 (by decide +kernel) (by decide +kernel)
theorem tw376 : (Cond.code ⟨"LogFs$Memory", "change", "(III)V"⟩ prog_4_method_3_code 4 none) ∈ tb := tb_in 376 (by decide +kernel) (by decide +kernel)
theorem tw377 : (Cond.methodLink "LogFs$Memory" 33 ⟨"LogFs$Memory", "markPending", "(I)V"⟩) ∈ tb := tb_in 377 (by decide +kernel) (by decide +kernel)
theorem tw379 : (Cond.instanceMethod ⟨"LogFs$Memory", "markPending", "(I)V"⟩) ∈ tb := tb_in 379 (by decide +kernel) (by decide +kernel)
theorem tw380 : (Cond.code ⟨"LogFs$Memory", "markPending", "(I)V"⟩ prog_4_method_7_code 3 none) ∈ tb := tb_in 380 (by decide +kernel) (by decide +kernel)
theorem tw381 : (Cond.methodLink "LogFs$Memory" 37 ⟨"LogFs$Blocks", "set", "(III)V"⟩) ∈ tb := tb_in 381 (by decide +kernel) (by decide +kernel)
theorem tw382 : (Cond.methodLink "LogFs" 62 ⟨"LogFs$Volume", "placeForEntry", "(I)I"⟩) ∈ tb := tb_in 382 (by decide +kernel) (by decide +kernel)
theorem tw383 : (Cond.methodLink "LogFs" 66 ⟨"LogFs", "entryOf", "(IJ)J"⟩) ∈ tb := tb_in 383 (by decide +kernel) (by decide +kernel)
theorem tw384 : (Cond.static ⟨"LogFs", "entryOf", "(IJ)J"⟩) ∈ tb := tb_in 384 (by decide +kernel) (by decide +kernel)
theorem tw385 : (Cond.code ⟨"LogFs", "entryOf", "(IJ)J"⟩ prog_1_method_25_code 3 (some .long)) ∈ tb := tb_in 385 (by decide +kernel) (by decide +kernel)
theorem tw386 : (Cond.methodLink "LogFs" 70 ⟨"LogFs$Volume", "putLong", "(IIJI)V"⟩) ∈ tb := tb_in 386 (by decide +kernel) (by decide +kernel)
theorem tw387 : (Cond.instanceMethod ⟨"LogFs$Volume", "putLong", "(IIJI)V"⟩) ∈ tb := tb_in 387 (by decide +kernel) (by decide +kernel)
theorem tw388 : (Cond.selects "LogFs$Volume" ⟨"LogFs$Volume", "putLong", "(IIJI)V"⟩ ⟨"LogFs$Volume", "putLong", "(IIJI)V"⟩) ∈ tb := tb_in 388 (by decide +kernel) (by decide +kernel)
theorem tw389 : (Cond.code ⟨"LogFs$Volume", "putLong", "(IIJI)V"⟩ prog_5_method_20_code 7 none) ∈ tb := tb_in 389 (by decide +kernel) (by decide +kernel)
theorem tw390 : (Cond.methodLinkNest "LogFs$Volume" 58 ⟨"LogFs", "byteOf", "(JI)I"⟩ "LogFs") ∈ tb := tb_in 390 (by decide +kernel) (by decide +kernel)
theorem tw391 : (Cond.methodLink "LogFs$Volume" 87 ⟨"LogFs$Volume", "putByte", "(III)V"⟩) ∈ tb := tb_in 391 (by decide +kernel) (by decide +kernel)
theorem tw393 : (Cond.instanceMethod ⟨"LogFs$Volume", "putByte", "(III)V"⟩) ∈ tb := tb_in 393 (by decide +kernel) (by decide +kernel)
theorem tw394 : (Cond.code ⟨"LogFs$Volume", "putByte", "(III)V"⟩ prog_5_method_29_code 5 none) ∈ tb := tb_in 394 (by decide +kernel) (by decide +kernel)
theorem tw395 : (Cond.methodLink "LogFs$Volume" 113 ⟨"LogFs$Volume", "addContentBlock", "(II)V"⟩) ∈ tb := tb_in 395 (by decide +kernel) (by decide +kernel)
theorem tw397 : (Cond.instanceMethod ⟨"LogFs$Volume", "addContentBlock", "(II)V"⟩) ∈ tb := tb_in 397 (by decide +kernel) (by decide +kernel)
theorem tw398 : (Cond.code ⟨"LogFs$Volume", "addContentBlock", "(II)V"⟩ prog_5_method_31_code 4 none) ∈ tb := tb_in 398 (by decide +kernel) (by decide +kernel)
theorem tw399 : (Cond.methodLink "LogFs$Volume" 116 ⟨"LogFs$Volume", "takeBlock", "()I"⟩) ∈ tb := tb_in 399 (by decide +kernel) (by decide +kernel)
theorem tw401 : (Cond.instanceMethod ⟨"LogFs$Volume", "takeBlock", "()I"⟩) ∈ tb := tb_in 401 (by decide +kernel) (by decide +kernel)
theorem tw402 : (Cond.code ⟨"LogFs$Volume", "takeBlock", "()I"⟩ prog_5_method_32_code 2 (some .int)) ∈ tb := tb_in 402 (by decide +kernel) (by decide +kernel)
theorem tw403 : (Cond.methodLink "LogFs$Volume" 119 ⟨"LogFs$Volume", "leastFreeBlock", "()I"⟩) ∈ tb := tb_in 403 (by decide +kernel) (by decide +kernel)
theorem tw405 : (Cond.instanceMethod ⟨"LogFs$Volume", "leastFreeBlock", "()I"⟩) ∈ tb := tb_in 405 (by decide +kernel) (by decide +kernel)
theorem tw406 : (Cond.code ⟨"LogFs$Volume", "leastFreeBlock", "()I"⟩ prog_5_method_34_code 2 (some .int)) ∈ tb := tb_in 406 (by decide +kernel) (by decide +kernel)
theorem tw407 : (Cond.methodLink "LogFs$Volume" 122 ⟨"LogFs$Memory", "clear", "(I)V"⟩) ∈ tb := tb_in 407 (by decide +kernel) (by decide +kernel)
theorem tw408 : (Cond.instanceMethod ⟨"LogFs$Memory", "clear", "(I)V"⟩) ∈ tb := tb_in 408 (by decide +kernel) (by decide +kernel)
theorem tw409 : (Cond.selects "LogFs$Memory" ⟨"LogFs$Memory", "clear", "(I)V"⟩ ⟨"LogFs$Memory", "clear", "(I)V"⟩) ∈ tb := tb_in 409 (by decide +kernel) (by decide +kernel)
theorem tw410 : (Cond.code ⟨"LogFs$Memory", "clear", "(I)V"⟩ prog_4_method_4_code 2 none) ∈ tb := tb_in 410 (by decide +kernel) (by decide +kernel)
theorem tw411 : (Cond.methodLink "LogFs$Memory" 41 ⟨"LogFs$Blocks", "clear", "(I)V"⟩) ∈ tb := tb_in 411 (by decide +kernel) (by decide +kernel)
theorem tw412 : (Cond.methodLink "LogFs$Volume" 90 ⟨"LogFs$Volume", "growTo", "(II)V"⟩) ∈ tb := tb_in 412 (by decide +kernel) (by decide +kernel)
theorem tw414 : (Cond.instanceMethod ⟨"LogFs$Volume", "growTo", "(II)V"⟩) ∈ tb := tb_in 414 (by decide +kernel) (by decide +kernel)
theorem tw415 : (Cond.code ⟨"LogFs$Volume", "growTo", "(II)V"⟩ prog_5_method_30_code 3 none) ∈ tb := tb_in 415 (by decide +kernel) (by decide +kernel)
theorem tw416 : (Cond.methodLink "LogFsLaw" 78 ⟨"LogFsLaw", "link", "(LLogFs;IJI[J)I"⟩) ∈ tb := tb_in 416 (by decide +kernel) (by decide +kernel)
theorem tw417 : (Cond.static ⟨"LogFsLaw", "link", "(LLogFs;IJI[J)I"⟩) ∈ tb := tb_in 417 (by decide +kernel) (by decide +kernel)
theorem tw418 : (Cond.codeWith ⟨"LogFsLaw", "link", "(LLogFs;IJI[J)I"⟩ method_4_code 7 (some .int) [(0, 20, 23, 13), (0, 20, 27, 15)]) ∈ tb := tb_in 418 (by decide +kernel) (by decide +kernel)
theorem tw419 : (Cond.methodLink "LogFsLaw" 17 ⟨"LogFs", "link", "(IJI)Z"⟩) ∈ tb := tb_in 419 (by decide +kernel) (by decide +kernel)
theorem tw420 : (Cond.instanceMethod ⟨"LogFs", "link", "(IJI)Z"⟩) ∈ tb := tb_in 420 (by decide +kernel) (by decide +kernel)
theorem tw421 : (Cond.selects "LogFs" ⟨"LogFs", "link", "(IJI)Z"⟩ ⟨"LogFs", "link", "(IJI)Z"⟩) ∈ tb := tb_in 421 (by decide +kernel) (by decide +kernel)
theorem tw422 : (Cond.code ⟨"LogFs", "link", "(IJI)Z"⟩ prog_1_method_3_code 5 (some .boolean)) ∈ tb := tb_in 422 (by decide +kernel) (by decide +kernel)
theorem tw423 : (Cond.methodLink "LogFs" 74 ⟨"LogFs$Volume", "isFile", "(I)Z"⟩) ∈ tb := tb_in 423 (by decide +kernel) (by decide +kernel)
theorem tw424 : (Cond.instanceMethod ⟨"LogFs$Volume", "isFile", "(I)Z"⟩) ∈ tb := tb_in 424 (by decide +kernel) (by decide +kernel)
theorem tw425 : (Cond.selects "LogFs$Volume" ⟨"LogFs$Volume", "isFile", "(I)Z"⟩ ⟨"LogFs$Volume", "isFile", "(I)Z"⟩) ∈ tb := tb_in 425 (by decide +kernel) (by decide +kernel)
theorem tw426 : (Cond.code ⟨"LogFs$Volume", "isFile", "(I)Z"⟩ prog_5_method_5_code 2 (some .boolean)) ∈ tb := tb_in 426 (by decide +kernel) (by decide +kernel)
theorem tw427 : (Cond.methodLink "LogFs" 78 ⟨"LogFs$Volume", "links", "(I)I"⟩) ∈ tb := tb_in 427 (by decide +kernel) (by decide +kernel)
theorem tw428 : (Cond.instanceMethod ⟨"LogFs$Volume", "links", "(I)I"⟩) ∈ tb := tb_in 428 (by decide +kernel) (by decide +kernel)
theorem tw429 : (Cond.selects "LogFs$Volume" ⟨"LogFs$Volume", "links", "(I)I"⟩ ⟨"LogFs$Volume", "links", "(I)I"⟩) ∈ tb := tb_in 429 (by decide +kernel) (by decide +kernel)
theorem tw430 : (Cond.code ⟨"LogFs$Volume", "links", "(I)I"⟩ prog_5_method_3_code 2 (some .int)) ∈ tb := tb_in 430 (by decide +kernel) (by decide +kernel)
theorem tw431 : (Cond.methodLink "LogFs" 81 ⟨"LogFs$Volume", "addLink", "(I)V"⟩) ∈ tb := tb_in 431 (by decide +kernel) (by decide +kernel)
theorem tw432 : (Cond.instanceMethod ⟨"LogFs$Volume", "addLink", "(I)V"⟩) ∈ tb := tb_in 432 (by decide +kernel) (by decide +kernel)
theorem tw433 : (Cond.selects "LogFs$Volume" ⟨"LogFs$Volume", "addLink", "(I)V"⟩ ⟨"LogFs$Volume", "addLink", "(I)V"⟩) ∈ tb := tb_in 433 (by decide +kernel) (by decide +kernel)
theorem tw434 : (Cond.code ⟨"LogFs$Volume", "addLink", "(I)V"⟩ prog_5_method_18_code 2 none) ∈ tb := tb_in 434 (by decide +kernel) (by decide +kernel)
theorem tw435 : (Cond.methodLink "LogFs$Volume" 80 ⟨"LogFs$Volume", "links", "(I)I"⟩) ∈ tb := tb_in 435 (by decide +kernel) (by decide +kernel)
theorem tw436 : (Cond.methodLink "LogFsLaw" 82 ⟨"LogFsLaw", "unlink", "(LLogFs;IJ[J)I"⟩) ∈ tb := tb_in 436 (by decide +kernel) (by decide +kernel)
theorem tw437 : (Cond.static ⟨"LogFsLaw", "unlink", "(LLogFs;IJ[J)I"⟩) ∈ tb := tb_in 437 (by decide +kernel) (by decide +kernel)
theorem tw438 : (Cond.codeWith ⟨"LogFsLaw", "unlink", "(LLogFs;IJ[J)I"⟩ method_5_code 6 (some .int) [(0, 18, 21, 13), (0, 18, 25, 15)]) ∈ tb := tb_in 438 (by decide +kernel) (by decide +kernel)
theorem tw439 : (Cond.methodLink "LogFsLaw" 21 ⟨"LogFs", "unlink", "(IJ)Z"⟩) ∈ tb := tb_in 439 (by decide +kernel) (by decide +kernel)
theorem tw440 : (Cond.instanceMethod ⟨"LogFs", "unlink", "(IJ)Z"⟩) ∈ tb := tb_in 440 (by decide +kernel) (by decide +kernel)
theorem tw441 : (Cond.selects "LogFs" ⟨"LogFs", "unlink", "(IJ)Z"⟩ ⟨"LogFs", "unlink", "(IJ)Z"⟩) ∈ tb := tb_in 441 (by decide +kernel) (by decide +kernel)
theorem tw442 : (Cond.code ⟨"LogFs", "unlink", "(IJ)Z"⟩ prog_1_method_4_code 6 (some .boolean)) ∈ tb := tb_in 442 (by decide +kernel) (by decide +kernel)
theorem tw443 : (Cond.methodLink "LogFs" 85 ⟨"LogFs$Volume", "placeOf", "(IJ)I"⟩) ∈ tb := tb_in 443 (by decide +kernel) (by decide +kernel)
theorem tw444 : (Cond.methodLink "LogFs" 89 ⟨"LogFs$Volume", "inodeAt", "(II)I"⟩) ∈ tb := tb_in 444 (by decide +kernel) (by decide +kernel)
theorem tw445 : (Cond.instanceMethod ⟨"LogFs$Volume", "inodeAt", "(II)I"⟩) ∈ tb := tb_in 445 (by decide +kernel) (by decide +kernel)
theorem tw446 : (Cond.selects "LogFs$Volume" ⟨"LogFs$Volume", "inodeAt", "(II)I"⟩ ⟨"LogFs$Volume", "inodeAt", "(II)I"⟩) ∈ tb := tb_in 446 (by decide +kernel) (by decide +kernel)
theorem tw447 : (Cond.code ⟨"LogFs$Volume", "inodeAt", "(II)I"⟩ prog_5_method_13_code 3 (some .int)) ∈ tb := tb_in 447 (by decide +kernel) (by decide +kernel)
theorem tw448 : (Cond.methodLink "LogFs" 93 ⟨"LogFs$Volume", "entries", "(I)I"⟩) ∈ tb := tb_in 448 (by decide +kernel) (by decide +kernel)
theorem tw449 : (Cond.instanceMethod ⟨"LogFs$Volume", "entries", "(I)I"⟩) ∈ tb := tb_in 449 (by decide +kernel) (by decide +kernel)
theorem tw450 : (Cond.selects "LogFs$Volume" ⟨"LogFs$Volume", "entries", "(I)I"⟩ ⟨"LogFs$Volume", "entries", "(I)I"⟩) ∈ tb := tb_in 450 (by decide +kernel) (by decide +kernel)
theorem tw451 : (Cond.code ⟨"LogFs$Volume", "entries", "(I)I"⟩ prog_5_method_14_code 5 (some .int)) ∈ tb := tb_in 451 (by decide +kernel) (by decide +kernel)
theorem tw452 : (Cond.methodLink "LogFs" 96 ⟨"LogFs$Volume", "dropLink", "(I)V"⟩) ∈ tb := tb_in 452 (by decide +kernel) (by decide +kernel)
theorem tw453 : (Cond.instanceMethod ⟨"LogFs$Volume", "dropLink", "(I)V"⟩) ∈ tb := tb_in 453 (by decide +kernel) (by decide +kernel)
theorem tw454 : (Cond.selects "LogFs$Volume" ⟨"LogFs$Volume", "dropLink", "(I)V"⟩ ⟨"LogFs$Volume", "dropLink", "(I)V"⟩) ∈ tb := tb_in 454 (by decide +kernel) (by decide +kernel)
theorem tw455 : (Cond.code ⟨"LogFs$Volume", "dropLink", "(I)V"⟩ prog_5_method_19_code 2 none) ∈ tb := tb_in 455 (by decide +kernel) (by decide +kernel)
theorem tw456 : (Cond.methodLink "LogFs$Volume" 83 ⟨"LogFs$Volume", "empty", "(I)V"⟩) ∈ tb := tb_in 456 (by decide +kernel) (by decide +kernel)
theorem tw457 : (Cond.instanceMethod ⟨"LogFs$Volume", "empty", "(I)V"⟩) ∈ tb := tb_in 457 (by decide +kernel) (by decide +kernel)
theorem tw458 : (Cond.selects "LogFs$Volume" ⟨"LogFs$Volume", "empty", "(I)V"⟩ ⟨"LogFs$Volume", "empty", "(I)V"⟩) ∈ tb := tb_in 458 (by decide +kernel) (by decide +kernel)
theorem tw459 : (Cond.code ⟨"LogFs$Volume", "empty", "(I)V"⟩ prog_5_method_22_code 5 none) ∈ tb := tb_in 459 (by decide +kernel) (by decide +kernel)
theorem tw460 : (Cond.methodLink "LogFs$Volume" 97 ⟨"LogFs$Volume", "giveBack", "(I)V"⟩) ∈ tb := tb_in 460 (by decide +kernel) (by decide +kernel)
theorem tw462 : (Cond.instanceMethod ⟨"LogFs$Volume", "giveBack", "(I)V"⟩) ∈ tb := tb_in 462 (by decide +kernel) (by decide +kernel)
theorem tw463 : (Cond.code ⟨"LogFs$Volume", "giveBack", "(I)V"⟩ prog_5_method_33_code 2 none) ∈ tb := tb_in 463 (by decide +kernel) (by decide +kernel)
theorem tw464 : (Cond.methodLink "LogFsLaw" 86 ⟨"LogFsLaw", "write", "(LLogFs;IIJI[J)I"⟩) ∈ tb := tb_in 464 (by decide +kernel) (by decide +kernel)
theorem tw465 : (Cond.static ⟨"LogFsLaw", "write", "(LLogFs;IIJI[J)I"⟩) ∈ tb := tb_in 465 (by decide +kernel) (by decide +kernel)
theorem tw466 : (Cond.codeWith ⟨"LogFsLaw", "write", "(LLogFs;IIJI[J)I"⟩ method_6_code 8 (some .int) [(0, 14, 17, 13), (0, 14, 21, 15)]) ∈ tb := tb_in 466 (by decide +kernel) (by decide +kernel)
theorem tw467 : (Cond.methodLink "LogFsLaw" 25 ⟨"LogFs", "write", "(IIJI)I"⟩) ∈ tb := tb_in 467 (by decide +kernel) (by decide +kernel)
theorem tw468 : (Cond.instanceMethod ⟨"LogFs", "write", "(IIJI)I"⟩) ∈ tb := tb_in 468 (by decide +kernel) (by decide +kernel)
theorem tw469 : (Cond.selects "LogFs" ⟨"LogFs", "write", "(IIJI)I"⟩ ⟨"LogFs", "write", "(IIJI)I"⟩) ∈ tb := tb_in 469 (by decide +kernel) (by decide +kernel)
theorem tw470 : (Cond.code ⟨"LogFs", "write", "(IIJI)I"⟩ prog_1_method_5_code 6 (some .int)) ∈ tb := tb_in 470 (by decide +kernel) (by decide +kernel)
theorem tw471 : (Cond.methodLink "LogFs" 99 ⟨"LogFs$Volume", "canPut", "(III)Z"⟩) ∈ tb := tb_in 471 (by decide +kernel) (by decide +kernel)
theorem tw472 : (Cond.instanceMethod ⟨"LogFs$Volume", "canPut", "(III)Z"⟩) ∈ tb := tb_in 472 (by decide +kernel) (by decide +kernel)
theorem tw473 : (Cond.selects "LogFs$Volume" ⟨"LogFs$Volume", "canPut", "(III)Z"⟩ ⟨"LogFs$Volume", "canPut", "(III)Z"⟩) ∈ tb := tb_in 473 (by decide +kernel) (by decide +kernel)
theorem tw474 : (Cond.code ⟨"LogFs$Volume", "canPut", "(III)Z"⟩ prog_5_method_16_code 4 (some .boolean)) ∈ tb := tb_in 474 (by decide +kernel) (by decide +kernel)
theorem tw475 : (Cond.methodLink "LogFs$Volume" 73 ⟨"LogFs$Volume", "isFile", "(I)Z"⟩) ∈ tb := tb_in 475 (by decide +kernel) (by decide +kernel)
theorem tw476 : (Cond.methodLink "LogFs" 103 ⟨"LogFs$Volume", "size", "(I)I"⟩) ∈ tb := tb_in 476 (by decide +kernel) (by decide +kernel)
theorem tw477 : (Cond.methodLink "LogFsLaw" 90 ⟨"LogFsLaw", "fill", "(LLogFs;IIII[J)I"⟩) ∈ tb := tb_in 477 (by decide +kernel) (by decide +kernel)
theorem tw478 : (Cond.static ⟨"LogFsLaw", "fill", "(LLogFs;IIII[J)I"⟩) ∈ tb := tb_in 478 (by decide +kernel) (by decide +kernel)
theorem tw479 : (Cond.codeWith ⟨"LogFsLaw", "fill", "(LLogFs;IIII[J)I"⟩ method_7_code 7 (some .int) [(0, 14, 17, 13), (0, 14, 21, 15)]) ∈ tb := tb_in 479 (by decide +kernel) (by decide +kernel)
theorem tw480 : (Cond.methodLink "LogFsLaw" 29 ⟨"LogFs", "fill", "(IIII)I"⟩) ∈ tb := tb_in 480 (by decide +kernel) (by decide +kernel)
theorem tw481 : (Cond.instanceMethod ⟨"LogFs", "fill", "(IIII)I"⟩) ∈ tb := tb_in 481 (by decide +kernel) (by decide +kernel)
theorem tw482 : (Cond.selects "LogFs" ⟨"LogFs", "fill", "(IIII)I"⟩ ⟨"LogFs", "fill", "(IIII)I"⟩) ∈ tb := tb_in 482 (by decide +kernel) (by decide +kernel)
theorem tw483 : (Cond.code ⟨"LogFs", "fill", "(IIII)I"⟩ prog_1_method_6_code 5 (some .int)) ∈ tb := tb_in 483 (by decide +kernel) (by decide +kernel)
theorem tw484 : (Cond.methodLink "LogFs" 106 ⟨"LogFs$Volume", "putSame", "(IIII)V"⟩) ∈ tb := tb_in 484 (by decide +kernel) (by decide +kernel)
theorem tw485 : (Cond.instanceMethod ⟨"LogFs$Volume", "putSame", "(IIII)V"⟩) ∈ tb := tb_in 485 (by decide +kernel) (by decide +kernel)
theorem tw486 : (Cond.selects "LogFs$Volume" ⟨"LogFs$Volume", "putSame", "(IIII)V"⟩ ⟨"LogFs$Volume", "putSame", "(IIII)V"⟩) ∈ tb := tb_in 486 (by decide +kernel) (by decide +kernel)
theorem tw487 : (Cond.code ⟨"LogFs$Volume", "putSame", "(IIII)V"⟩ prog_5_method_21_code 6 none) ∈ tb := tb_in 487 (by decide +kernel) (by decide +kernel)
theorem tw488 : (Cond.methodLink "LogFsLaw" 94 ⟨"LogFsLaw", "truncate", "(LLogFs;I[J)I"⟩) ∈ tb := tb_in 488 (by decide +kernel) (by decide +kernel)
theorem tw489 : (Cond.static ⟨"LogFsLaw", "truncate", "(LLogFs;I[J)I"⟩) ∈ tb := tb_in 489 (by decide +kernel) (by decide +kernel)
theorem tw490 : (Cond.codeWith ⟨"LogFsLaw", "truncate", "(LLogFs;I[J)I"⟩ method_8_code 4 (some .int) [(0, 16, 19, 13), (0, 16, 22, 15)]) ∈ tb := tb_in 490 (by decide +kernel) (by decide +kernel)
theorem tw491 : (Cond.methodLink "LogFsLaw" 33 ⟨"LogFs", "truncate", "(I)Z"⟩) ∈ tb := tb_in 491 (by decide +kernel) (by decide +kernel)
theorem tw492 : (Cond.instanceMethod ⟨"LogFs", "truncate", "(I)Z"⟩) ∈ tb := tb_in 492 (by decide +kernel) (by decide +kernel)
theorem tw493 : (Cond.selects "LogFs" ⟨"LogFs", "truncate", "(I)Z"⟩ ⟨"LogFs", "truncate", "(I)Z"⟩) ∈ tb := tb_in 493 (by decide +kernel) (by decide +kernel)
theorem tw494 : (Cond.code ⟨"LogFs", "truncate", "(I)Z"⟩ prog_1_method_7_code 2 (some .boolean)) ∈ tb := tb_in 494 (by decide +kernel) (by decide +kernel)
theorem tw495 : (Cond.methodLink "LogFs" 110 ⟨"LogFs$Volume", "empty", "(I)V"⟩) ∈ tb := tb_in 495 (by decide +kernel) (by decide +kernel)
theorem tw496 : (Cond.methodLink "LogFsLaw" 98 ⟨"LogFsLaw", "sync", "(LLogFs;[J)I"⟩) ∈ tb := tb_in 496 (by decide +kernel) (by decide +kernel)
theorem tw497 : (Cond.static ⟨"LogFsLaw", "sync", "(LLogFs;[J)I"⟩) ∈ tb := tb_in 497 (by decide +kernel) (by decide +kernel)
theorem tw498 : (Cond.codeWith ⟨"LogFsLaw", "sync", "(LLogFs;[J)I"⟩ method_9_code 3 (some .int) [(0, 8, 11, 13), (0, 8, 14, 15)]) ∈ tb := tb_in 498 (by decide +kernel) (by decide +kernel)
theorem tw499 : (Cond.methodLink "LogFsLaw" 37 ⟨"LogFs", "sync", "()I"⟩) ∈ tb := tb_in 499 (by decide +kernel) (by decide +kernel)
theorem tw500 : (Cond.instanceMethod ⟨"LogFs", "sync", "()I"⟩) ∈ tb := tb_in 500 (by decide +kernel) (by decide +kernel)
theorem tw501 : (Cond.selects "LogFs" ⟨"LogFs", "sync", "()I"⟩ ⟨"LogFs", "sync", "()I"⟩) ∈ tb := tb_in 501 (by decide +kernel) (by decide +kernel)
theorem tw502 : (Cond.code ⟨"LogFs", "sync", "()I"⟩ prog_1_method_8_code 2 (some .int)) ∈ tb := tb_in 502 (by decide +kernel) (by decide +kernel)
theorem tw503 : (Cond.methodLink "LogFsLaw" 106 ⟨"LogFsLaw", "mount", "(LLogFs;[J)I"⟩) ∈ tb := tb_in 503 (by decide +kernel) (by decide +kernel)
theorem tw504 : (Cond.static ⟨"LogFsLaw", "mount", "(LLogFs;[J)I"⟩) ∈ tb := tb_in 504 (by decide +kernel) (by decide +kernel)
theorem tw505 : (Cond.codeWith ⟨"LogFsLaw", "mount", "(LLogFs;[J)I"⟩ method_10_code 3 (some .int) [(0, 8, 11, 15)]) ∈ tb := tb_in 505 (by decide +kernel) (by decide +kernel)
theorem tw506 : (Cond.methodLink "LogFsLaw" 41 ⟨"LogFs", "mount", "()I"⟩) ∈ tb := tb_in 506 (by decide +kernel) (by decide +kernel)
theorem tw507 : (Cond.instanceMethod ⟨"LogFs", "mount", "()I"⟩) ∈ tb := tb_in 507 (by decide +kernel) (by decide +kernel)
theorem tw508 : (Cond.selects "LogFs" ⟨"LogFs", "mount", "()I"⟩ ⟨"LogFs", "mount", "()I"⟩) ∈ tb := tb_in 508 (by decide +kernel) (by decide +kernel)
theorem tw509 : (Cond.code ⟨"LogFs", "mount", "()I"⟩ prog_1_method_10_code 2 (some .int)) ∈ tb := tb_in 509 (by decide +kernel) (by decide +kernel)
theorem tw510 : (Cond.methodLink "LogFs" 126 ⟨"LogFs$Blocks", "get", "(II)I"⟩) ∈ tb := tb_in 510 (by decide +kernel) (by decide +kernel)
theorem tw511 : (Cond.methodLink "LogFs" 131 ⟨"LogFs$Disk", "replayLog", "(I)Z"⟩) ∈ tb := tb_in 511 (by decide +kernel) (by decide +kernel)
theorem tw512 : (Cond.instanceMethod ⟨"LogFs$Disk", "replayLog", "(I)Z"⟩) ∈ tb := tb_in 512 (by decide +kernel) (by decide +kernel)
theorem tw513 : (Cond.selects "LogFs$Disk" ⟨"LogFs$Disk", "replayLog", "(I)Z"⟩ ⟨"LogFs$Disk", "replayLog", "(I)Z"⟩) ∈ tb := tb_in 513 (by decide +kernel) (by decide +kernel)
theorem tw514 : (Cond.code ⟨"LogFs$Disk", "replayLog", "(I)Z"⟩ prog_3_method_3_code 3 (some .boolean)) ∈ tb := tb_in 514 (by decide +kernel) (by decide +kernel)
theorem tw515 : (Cond.methodLink "LogFsLaw" 109 ⟨"LogFsLaw", "find", "(LLogFs;IJ[J)I"⟩) ∈ tb := tb_in 515 (by decide +kernel) (by decide +kernel)
theorem tw516 : (Cond.static ⟨"LogFsLaw", "find", "(LLogFs;IJ[J)I"⟩) ∈ tb := tb_in 516 (by decide +kernel) (by decide +kernel)
theorem tw517 : (Cond.codeWith ⟨"LogFsLaw", "find", "(LLogFs;IJ[J)I"⟩ method_11_code 6 (some .int) [(0, 11, 14, 13)]) ∈ tb := tb_in 517 (by decide +kernel) (by decide +kernel)
theorem tw518 : (Cond.methodLink "LogFsLaw" 44 ⟨"LogFs", "find", "(IJ)I"⟩) ∈ tb := tb_in 518 (by decide +kernel) (by decide +kernel)
theorem tw519 : (Cond.instanceMethod ⟨"LogFs", "find", "(IJ)I"⟩) ∈ tb := tb_in 519 (by decide +kernel) (by decide +kernel)
theorem tw520 : (Cond.selects "LogFs" ⟨"LogFs", "find", "(IJ)I"⟩ ⟨"LogFs", "find", "(IJ)I"⟩) ∈ tb := tb_in 520 (by decide +kernel) (by decide +kernel)
theorem tw521 : (Cond.code ⟨"LogFs", "find", "(IJ)I"⟩ prog_1_method_11_code 5 (some .int)) ∈ tb := tb_in 521 (by decide +kernel) (by decide +kernel)
theorem tw522 : (Cond.methodLink "LogFsLaw" 112 ⟨"LogFsLaw", "read", "(LLogFs;II[J)I"⟩) ∈ tb := tb_in 522 (by decide +kernel) (by decide +kernel)
theorem tw523 : (Cond.static ⟨"LogFsLaw", "read", "(LLogFs;II[J)I"⟩) ∈ tb := tb_in 523 (by decide +kernel) (by decide +kernel)
theorem tw524 : (Cond.codeWith ⟨"LogFsLaw", "read", "(LLogFs;II[J)I"⟩ method_12_code 5 (some .int) [(0, 10, 13, 13), (0, 10, 17, 52)]) ∈ tb := tb_in 524 (by decide +kernel) (by decide +kernel)
theorem tw525 : (Cond.classLink "LogFsLaw" 52 "java/lang/IndexOutOfBoundsException") ∈ tb := tb_in 525 (by decide +kernel) (by decide +kernel)
theorem tw526 : (Cond.methodLink "LogFsLaw" 48 ⟨"LogFs", "read", "(II)I"⟩) ∈ tb := tb_in 526 (by decide +kernel) (by decide +kernel)
theorem tw527 : (Cond.instanceMethod ⟨"LogFs", "read", "(II)I"⟩) ∈ tb := tb_in 527 (by decide +kernel) (by decide +kernel)
theorem tw528 : (Cond.selects "LogFs" ⟨"LogFs", "read", "(II)I"⟩ ⟨"LogFs", "read", "(II)I"⟩) ∈ tb := tb_in 528 (by decide +kernel) (by decide +kernel)
theorem tw529 : (Cond.code ⟨"LogFs", "read", "(II)I"⟩ prog_1_method_12_code 3 (some .int)) ∈ tb := tb_in 529 (by decide +kernel) (by decide +kernel)
theorem tw530 : (Cond.classLink "LogFs" 141 "java/lang/IndexOutOfBoundsException") ∈ tb := tb_in 530 (by decide +kernel) (by decide +kernel)
theorem tw531 : (Cond.instantiable "java/lang/IndexOutOfBoundsException" 6) ∈ tb := tb_in 531 (by decide +kernel) (by decide +kernel)
theorem tw532 : (Cond.castable "java/lang/IndexOutOfBoundsException" "java/lang/IndexOutOfBoundsException") ∈ tb := tb_in 532 (by decide +kernel) (by decide +kernel)
theorem tw533 : (Cond.selects "java/lang/IndexOutOfBoundsException" ⟨"java/lang/Throwable", "fillInStackTrace", "(I)Ljava/lang/Throwable;"⟩ ⟨"java/lang/Throwable", "fillInStackTrace", "(I)Ljava/lang/Throwable;"⟩) ∈ tb := tb_in 533 (by decide +kernel) (by decide +kernel)
theorem tw534 : (Cond.lays "java/lang/IndexOutOfBoundsException" "java/lang/Throwable" "cause" "Ljava/lang/Throwable;") ∈ tb := tb_in 534 (by decide +kernel) (by decide +kernel)
theorem tw535 : (Cond.lays "java/lang/IndexOutOfBoundsException" "java/lang/Throwable" "stackTrace" "[Ljava/lang/StackTraceElement;") ∈ tb := tb_in 535 (by decide +kernel) (by decide +kernel)
theorem tw536 : (Cond.lays "java/lang/IndexOutOfBoundsException" "java/lang/Throwable" "suppressedExceptions" "Ljava/util/List;") ∈ tb := tb_in 536 (by decide +kernel) (by decide +kernel)
theorem tw537 : (Cond.lays "java/lang/IndexOutOfBoundsException" "java/lang/Throwable" "detailMessage" "Ljava/lang/String;") ∈ tb := tb_in 537 (by decide +kernel) (by decide +kernel)
theorem tw538 : (Cond.lays "java/lang/IndexOutOfBoundsException" "java/lang/Throwable" "backtrace" "Ljava/lang/Object;") ∈ tb := tb_in 538 (by decide +kernel) (by decide +kernel)
theorem tw540 : (Cond.methodLink "LogFs" 145 ⟨"java/lang/IndexOutOfBoundsException", "<init>", "(Ljava/lang/String;)V"⟩) ∈ tb := tb_in 540 (by decide +kernel) (by decide +kernel)
theorem tw541 : (Cond.instanceMethod ⟨"java/lang/IndexOutOfBoundsException", "<init>", "(Ljava/lang/String;)V"⟩) ∈ tb := tb_in 541 (by decide +kernel) (by decide +kernel)
theorem tw542 : (Cond.code ⟨"java/lang/IndexOutOfBoundsException", "<init>", "(Ljava/lang/String;)V"⟩ prog_10_method_2_code 2 none) ∈ tb := tb_in 542 (by decide +kernel) (by decide +kernel)
theorem tw543 : (Cond.methodLink "java/lang/IndexOutOfBoundsException" 7 ⟨"java/lang/RuntimeException", "<init>", "(Ljava/lang/String;)V"⟩) ∈ tb := tb_in 543 (by decide +kernel) (by decide +kernel)
theorem tw544 : (Cond.lays "java/lang/IndexOutOfBoundsException" "java/lang/Throwable" "depth" "I") ∈ tb := tb_in 544 (by decide +kernel) (by decide +kernel)
theorem tw545 : (Cond.superclass "java/lang/IndexOutOfBoundsException" "java/lang/RuntimeException") ∈ tb := tb_in 545 (by decide +kernel) (by decide +kernel)
theorem tw546 : (Cond.methodLink "LogFs" 146 ⟨"LogFs$Volume", "contentByte", "(II)I"⟩) ∈ tb := tb_in 546 (by decide +kernel) (by decide +kernel)
theorem tw547 : (Cond.instanceMethod ⟨"LogFs$Volume", "contentByte", "(II)I"⟩) ∈ tb := tb_in 547 (by decide +kernel) (by decide +kernel)
theorem tw548 : (Cond.selects "LogFs$Volume" ⟨"LogFs$Volume", "contentByte", "(II)I"⟩ ⟨"LogFs$Volume", "contentByte", "(II)I"⟩) ∈ tb := tb_in 548 (by decide +kernel) (by decide +kernel)
theorem tw549 : (Cond.code ⟨"LogFs$Volume", "contentByte", "(II)I"⟩ prog_5_method_10_code 3 (some .int)) ∈ tb := tb_in 549 (by decide +kernel) (by decide +kernel)
theorem tw550 : (Cond.methodLink "LogFsLaw" 116 ⟨"LogFsLaw", "look", "(LLogFs;II[J)I"⟩) ∈ tb := tb_in 550 (by decide +kernel) (by decide +kernel)
theorem tw551 : (Cond.static ⟨"LogFsLaw", "look", "(LLogFs;II[J)I"⟩) ∈ tb := tb_in 551 (by decide +kernel) (by decide +kernel)
theorem tw552 : (Cond.codeWith ⟨"LogFsLaw", "look", "(LLogFs;II[J)I"⟩ method_13_code 5 (some .int) [(0, 10, 13, 13), (0, 10, 17, 52)]) ∈ tb := tb_in 552 (by decide +kernel) (by decide +kernel)
theorem tw553 : (Cond.methodLink "LogFsLaw" 54 ⟨"LogFs", "look", "(II)I"⟩) ∈ tb := tb_in 553 (by decide +kernel) (by decide +kernel)
theorem tw554 : (Cond.instanceMethod ⟨"LogFs", "look", "(II)I"⟩) ∈ tb := tb_in 554 (by decide +kernel) (by decide +kernel)
theorem tw555 : (Cond.selects "LogFs" ⟨"LogFs", "look", "(II)I"⟩ ⟨"LogFs", "look", "(II)I"⟩) ∈ tb := tb_in 555 (by decide +kernel) (by decide +kernel)
theorem tw556 : (Cond.code ⟨"LogFs", "look", "(II)I"⟩ prog_1_method_13_code 3 (some .int)) ∈ tb := tb_in 556 (by decide +kernel) (by decide +kernel)
theorem tw557 : (Cond.methodLink "LogFs" 149 ⟨"LogFs", "isInode", "(I)Z"⟩) ∈ tb := tb_in 557 (by decide +kernel) (by decide +kernel)
theorem tw559 : (Cond.methodLink "LogFs" 154 ⟨"LogFs$Volume", "type", "(I)I"⟩) ∈ tb := tb_in 559 (by decide +kernel) (by decide +kernel)
theorem tw560 : (Cond.methodLink "LogFs" 157 ⟨"LogFs", "blocksFor", "(I)I"⟩) ∈ tb := tb_in 560 (by decide +kernel) (by decide +kernel)
theorem tw562 : (Cond.methodLink "LogFsLaw" 119 ⟨"LogFsLaw", "disk", "(LLogFs;II[J)I"⟩) ∈ tb := tb_in 562 (by decide +kernel) (by decide +kernel)
theorem tw563 : (Cond.static ⟨"LogFsLaw", "disk", "(LLogFs;II[J)I"⟩) ∈ tb := tb_in 563 (by decide +kernel) (by decide +kernel)
theorem tw564 : (Cond.codeWith ⟨"LogFsLaw", "disk", "(LLogFs;II[J)I"⟩ method_14_code 5 (some .int) [(0, 10, 13, 52)]) ∈ tb := tb_in 564 (by decide +kernel) (by decide +kernel)
theorem tw565 : (Cond.methodLink "LogFsLaw" 57 ⟨"LogFs", "disk", "(II)I"⟩) ∈ tb := tb_in 565 (by decide +kernel) (by decide +kernel)
theorem tw566 : (Cond.instanceMethod ⟨"LogFs", "disk", "(II)I"⟩) ∈ tb := tb_in 566 (by decide +kernel) (by decide +kernel)
theorem tw567 : (Cond.selects "LogFs" ⟨"LogFs", "disk", "(II)I"⟩ ⟨"LogFs", "disk", "(II)I"⟩) ∈ tb := tb_in 567 (by decide +kernel) (by decide +kernel)
theorem tw568 : (Cond.code ⟨"LogFs", "disk", "(II)I"⟩ prog_1_method_14_code 3 (some .int)) ∈ tb := tb_in 568 (by decide +kernel) (by decide +kernel)
theorem tw569 : (Cond.methodLink "LogFs" 162 ⟨"LogFs", "requireByte", "(II)V"⟩) ∈ tb := tb_in 569 (by decide +kernel) (by decide +kernel)
theorem tw570 : (Cond.static ⟨"LogFs", "requireByte", "(II)V"⟩) ∈ tb := tb_in 570 (by decide +kernel) (by decide +kernel)
theorem tw571 : (Cond.code ⟨"LogFs", "requireByte", "(II)V"⟩ prog_1_method_19_code 2 none) ∈ tb := tb_in 571 (by decide +kernel) (by decide +kernel)
theorem tw573 : (Cond.methodLink "LogFsLaw" 122 ⟨"LogFsLaw", "memory", "(LLogFs;II[J)I"⟩) ∈ tb := tb_in 573 (by decide +kernel) (by decide +kernel)
theorem tw574 : (Cond.static ⟨"LogFsLaw", "memory", "(LLogFs;II[J)I"⟩) ∈ tb := tb_in 574 (by decide +kernel) (by decide +kernel)
theorem tw575 : (Cond.codeWith ⟨"LogFsLaw", "memory", "(LLogFs;II[J)I"⟩ method_15_code 5 (some .int) [(0, 10, 13, 13), (0, 10, 17, 52)]) ∈ tb := tb_in 575 (by decide +kernel) (by decide +kernel)
theorem tw576 : (Cond.methodLink "LogFsLaw" 60 ⟨"LogFs", "memory", "(II)I"⟩) ∈ tb := tb_in 576 (by decide +kernel) (by decide +kernel)
theorem tw577 : (Cond.instanceMethod ⟨"LogFs", "memory", "(II)I"⟩) ∈ tb := tb_in 577 (by decide +kernel) (by decide +kernel)
theorem tw578 : (Cond.selects "LogFs" ⟨"LogFs", "memory", "(II)I"⟩ ⟨"LogFs", "memory", "(II)I"⟩) ∈ tb := tb_in 578 (by decide +kernel) (by decide +kernel)
theorem tw579 : (Cond.code ⟨"LogFs", "memory", "(II)I"⟩ prog_1_method_15_code 3 (some .int)) ∈ tb := tb_in 579 (by decide +kernel) (by decide +kernel)
theorem tw580 : (Cond.classLink "LogFsLaw" 64 "LogFsModel") ∈ tb := tb_in 580 (by decide +kernel) (by decide +kernel)
theorem tw581 : (Cond.instantiable "LogFsModel" 12) ∈ tb := tb_in 581 (by decide +kernel) (by decide +kernel)
theorem tw582 : (Cond.methodLink "LogFsLaw" 66 ⟨"LogFsModel", "<init>", "()V"⟩) ∈ tb := tb_in 582 (by decide +kernel) (by decide +kernel)
theorem tw583 : (Cond.instanceMethod ⟨"LogFsModel", "<init>", "()V"⟩) ∈ tb := tb_in 583 (by decide +kernel) (by decide +kernel)
theorem tw584 : (Cond.code ⟨"LogFsModel", "<init>", "()V"⟩ prog_7_method_1_code 2 none) ∈ tb := tb_in 584 (by decide +kernel) (by decide +kernel)
theorem tw585 : (Cond.methodLink "LogFsModel" 1 ⟨"java/lang/Object", "<init>", "()V"⟩) ∈ tb := tb_in 585 (by decide +kernel) (by decide +kernel)
theorem tw586 : (Cond.methodLink "LogFsModel" 30 ⟨"LogFsModel", "load", "()V"⟩) ∈ tb := tb_in 586 (by decide +kernel) (by decide +kernel)
theorem tw588 : (Cond.instanceMethod ⟨"LogFsModel", "load", "()V"⟩) ∈ tb := tb_in 588 (by decide +kernel) (by decide +kernel)
theorem tw589 : (Cond.code ⟨"LogFsModel", "load", "()V"⟩ prog_7_method_3_code 2 none) ∈ tb := tb_in 589 (by decide +kernel) (by decide +kernel)
theorem tw590 : (Cond.fieldLink "LogFsModel" 33 "LogFsModel" "thrown" "I") ∈ tb := tb_in 590 (by decide +kernel) (by decide +kernel)
theorem tw591 : (Cond.fieldLink "LogFsModel" 7 "LogFsModel" "disk" "[B") ∈ tb := tb_in 591 (by decide +kernel) (by decide +kernel)
theorem tw592 : (Cond.fieldLink "LogFsModel" 13 "LogFsModel" "memory" "[B") ∈ tb := tb_in 592 (by decide +kernel) (by decide +kernel)
theorem tw593 : (Cond.fieldLink "LogFsModel" 16 "LogFsModel" "pending" "[I") ∈ tb := tb_in 593 (by decide +kernel) (by decide +kernel)
theorem tw594 : (Cond.fieldLink "LogFsModel" 36 "LogFsModel" "pendings" "I") ∈ tb := tb_in 594 (by decide +kernel) (by decide +kernel)
theorem tw595 : (Cond.fieldLink "LogFsModel" 81 "LogFsModel" "writes" "I") ∈ tb := tb_in 595 (by decide +kernel) (by decide +kernel)
theorem tw596 : (Cond.fieldLink "LogFsModel" 84 "LogFsModel" "commits" "I") ∈ tb := tb_in 596 (by decide +kernel) (by decide +kernel)
theorem tw597 : (Cond.fieldLink "LogFsModel" 20 "LogFsModel" "left" "I") ∈ tb := tb_in 597 (by decide +kernel) (by decide +kernel)
theorem tw598 : (Cond.fieldLink "LogFsModel" 78 "LogFsModel" "off" "Z") ∈ tb := tb_in 598 (by decide +kernel) (by decide +kernel)
theorem tw599 : (Cond.fieldLink "LogFsModel" 74 "LogFsModel" "failed" "Z") ∈ tb := tb_in 599 (by decide +kernel) (by decide +kernel)
theorem tw600 : (Cond.fieldLink "LogFsModel" 24 "LogFsModel" "name" "[B") ∈ tb := tb_in 600 (by decide +kernel) (by decide +kernel)
theorem tw601 : (Cond.fieldLink "LogFsModel" 27 "LogFsModel" "page" "[B") ∈ tb := tb_in 601 (by decide +kernel) (by decide +kernel)
theorem tw602 : (Cond.lays "LogFsModel" "LogFsModel" "thrown" "I") ∈ tb := tb_in 602 (by decide +kernel) (by decide +kernel)
theorem tw604 : (Cond.laysFinal "LogFsModel" "LogFsModel" "disk" "[B") ∈ tb := tb_in 604 (by decide +kernel) (by decide +kernel)
theorem tw606 : (Cond.laysFinal "LogFsModel" "LogFsModel" "memory" "[B") ∈ tb := tb_in 606 (by decide +kernel) (by decide +kernel)
theorem tw608 : (Cond.laysFinal "LogFsModel" "LogFsModel" "pending" "[I") ∈ tb := tb_in 608 (by decide +kernel) (by decide +kernel)
theorem tw610 : (Cond.lays "LogFsModel" "LogFsModel" "pendings" "I") ∈ tb := tb_in 610 (by decide +kernel) (by decide +kernel)
theorem tw612 : (Cond.lays "LogFsModel" "LogFsModel" "writes" "I") ∈ tb := tb_in 612 (by decide +kernel) (by decide +kernel)
theorem tw614 : (Cond.lays "LogFsModel" "LogFsModel" "commits" "I") ∈ tb := tb_in 614 (by decide +kernel) (by decide +kernel)
theorem tw616 : (Cond.lays "LogFsModel" "LogFsModel" "left" "I") ∈ tb := tb_in 616 (by decide +kernel) (by decide +kernel)
theorem tw618 : (Cond.lays "LogFsModel" "LogFsModel" "off" "Z") ∈ tb := tb_in 618 (by decide +kernel) (by decide +kernel)
theorem tw620 : (Cond.lays "LogFsModel" "LogFsModel" "failed" "Z") ∈ tb := tb_in 620 (by decide +kernel) (by decide +kernel)
theorem tw622 : (Cond.laysFinal "LogFsModel" "LogFsModel" "name" "[B") ∈ tb := tb_in 622 (by decide +kernel) (by decide +kernel)
theorem tw624 : (Cond.laysFinal "LogFsModel" "LogFsModel" "page" "[B") ∈ tb := tb_in 624 (by decide +kernel) (by decide +kernel)
theorem tw626 : (Cond.superclass "LogFsModel" "java/lang/Object") ∈ tb := tb_in 626 (by decide +kernel) (by decide +kernel)
theorem tw627 : (Cond.methodLink "LogFsLaw" 75 ⟨"LogFsModel", "thrown", "()I"⟩) ∈ tb := tb_in 627 (by decide +kernel) (by decide +kernel)
theorem tw628 : (Cond.instanceMethod ⟨"LogFsModel", "thrown", "()I"⟩) ∈ tb := tb_in 628 (by decide +kernel) (by decide +kernel)
theorem tw629 : (Cond.selects "LogFsModel" ⟨"LogFsModel", "thrown", "()I"⟩ ⟨"LogFsModel", "thrown", "()I"⟩) ∈ tb := tb_in 629 (by decide +kernel) (by decide +kernel)
theorem tw630 : (Cond.code ⟨"LogFsModel", "thrown", "()I"⟩ prog_7_method_2_code 1 (some .int)) ∈ tb := tb_in 630 (by decide +kernel) (by decide +kernel)
theorem tw631 : (Cond.methodLink "LogFsLaw" 101 ⟨"LogFsModel", "sync", "()I"⟩) ∈ tb := tb_in 631 (by decide +kernel) (by decide +kernel)
theorem tw632 : (Cond.instanceMethod ⟨"LogFsModel", "sync", "()I"⟩) ∈ tb := tb_in 632 (by decide +kernel) (by decide +kernel)
theorem tw633 : (Cond.selects "LogFsModel" ⟨"LogFsModel", "sync", "()I"⟩ ⟨"LogFsModel", "sync", "()I"⟩) ∈ tb := tb_in 633 (by decide +kernel) (by decide +kernel)
theorem tw634 : (Cond.code ⟨"LogFsModel", "sync", "()I"⟩ prog_7_method_27_code 2 (some .int)) ∈ tb := tb_in 634 (by decide +kernel) (by decide +kernel)
theorem tw635 : (Cond.methodLink "LogFsModel" 100 ⟨"LogFsModel", "dead", "()Z"⟩) ∈ tb := tb_in 635 (by decide +kernel) (by decide +kernel)
theorem tw637 : (Cond.instanceMethod ⟨"LogFsModel", "dead", "()Z"⟩) ∈ tb := tb_in 637 (by decide +kernel) (by decide +kernel)
theorem tw638 : (Cond.code ⟨"LogFsModel", "dead", "()Z"⟩ prog_7_method_26_code 1 (some .boolean)) ∈ tb := tb_in 638 (by decide +kernel) (by decide +kernel)
theorem tw639 : (Cond.methodLink "LogFsModel" 96 ⟨"LogFsModel", "commit", "()Z"⟩) ∈ tb := tb_in 639 (by decide +kernel) (by decide +kernel)
theorem tw641 : (Cond.instanceMethod ⟨"LogFsModel", "commit", "()Z"⟩) ∈ tb := tb_in 641 (by decide +kernel) (by decide +kernel)
theorem tw642 : (Cond.code ⟨"LogFsModel", "commit", "()Z"⟩ prog_7_method_24_code 3 (some .boolean)) ∈ tb := tb_in 642 (by decide +kernel) (by decide +kernel)
theorem tw643 : (Cond.methodLink "LogFsModel" 87 ⟨"LogFsModel", "fetch", "(I)V"⟩) ∈ tb := tb_in 643 (by decide +kernel) (by decide +kernel)
theorem tw645 : (Cond.instanceMethod ⟨"LogFsModel", "fetch", "(I)V"⟩) ∈ tb := tb_in 645 (by decide +kernel) (by decide +kernel)
theorem tw646 : (Cond.code ⟨"LogFsModel", "fetch", "(I)V"⟩ prog_7_method_22_code 3 none) ∈ tb := tb_in 646 (by decide +kernel) (by decide +kernel)
theorem tw647 : (Cond.methodLink "LogFsModel" 90 ⟨"LogFsModel", "put", "(I)V"⟩) ∈ tb := tb_in 647 (by decide +kernel) (by decide +kernel)
theorem tw649 : (Cond.instanceMethod ⟨"LogFsModel", "put", "(I)V"⟩) ∈ tb := tb_in 649 (by decide +kernel) (by decide +kernel)
theorem tw650 : (Cond.code ⟨"LogFsModel", "put", "(I)V"⟩ prog_7_method_21_code 3 none) ∈ tb := tb_in 650 (by decide +kernel) (by decide +kernel)
theorem tw651 : (Cond.methodLink "LogFsModel" 93 ⟨"LogFsModel", "head", "(I)V"⟩) ∈ tb := tb_in 651 (by decide +kernel) (by decide +kernel)
theorem tw653 : (Cond.instanceMethod ⟨"LogFsModel", "head", "(I)V"⟩) ∈ tb := tb_in 653 (by decide +kernel) (by decide +kernel)
theorem tw654 : (Cond.code ⟨"LogFsModel", "head", "(I)V"⟩ prog_7_method_23_code 3 none) ∈ tb := tb_in 654 (by decide +kernel) (by decide +kernel)
theorem tw655 : (Cond.methodLink "LogFsLaw" 105 ⟨"LogFsModel", "failAfter", "(I)Z"⟩) ∈ tb := tb_in 655 (by decide +kernel) (by decide +kernel)
theorem tw656 : (Cond.instanceMethod ⟨"LogFsModel", "failAfter", "(I)Z"⟩) ∈ tb := tb_in 656 (by decide +kernel) (by decide +kernel)
theorem tw657 : (Cond.selects "LogFsModel" ⟨"LogFsModel", "failAfter", "(I)Z"⟩ ⟨"LogFsModel", "failAfter", "(I)Z"⟩) ∈ tb := tb_in 657 (by decide +kernel) (by decide +kernel)
theorem tw658 : (Cond.code ⟨"LogFsModel", "failAfter", "(I)Z"⟩ prog_7_method_28_code 2 (some .boolean)) ∈ tb := tb_in 658 (by decide +kernel) (by decide +kernel)
theorem tw659 : (Cond.methodLink "LogFsLaw" 108 ⟨"LogFsModel", "mount", "()I"⟩) ∈ tb := tb_in 659 (by decide +kernel) (by decide +kernel)
theorem tw660 : (Cond.instanceMethod ⟨"LogFsModel", "mount", "()I"⟩) ∈ tb := tb_in 660 (by decide +kernel) (by decide +kernel)
theorem tw661 : (Cond.selects "LogFsModel" ⟨"LogFsModel", "mount", "()I"⟩ ⟨"LogFsModel", "mount", "()I"⟩) ∈ tb := tb_in 661 (by decide +kernel) (by decide +kernel)
theorem tw662 : (Cond.code ⟨"LogFsModel", "mount", "()I"⟩ prog_7_method_29_code 4 (some .int)) ∈ tb := tb_in 662 (by decide +kernel) (by decide +kernel)
theorem tw663 : (Cond.methodLink "LogFsLaw" 74 ⟨"LogFsModel", "make", "(IJZ)I"⟩) ∈ tb := tb_in 663 (by decide +kernel) (by decide +kernel)
theorem tw664 : (Cond.instanceMethod ⟨"LogFsModel", "make", "(IJZ)I"⟩) ∈ tb := tb_in 664 (by decide +kernel) (by decide +kernel)
theorem tw665 : (Cond.selects "LogFsModel" ⟨"LogFsModel", "make", "(IJZ)I"⟩ ⟨"LogFsModel", "make", "(IJZ)I"⟩) ∈ tb := tb_in 665 (by decide +kernel) (by decide +kernel)
theorem tw666 : (Cond.code ⟨"LogFsModel", "make", "(IJZ)I"⟩ prog_7_method_39_code 6 (some .int)) ∈ tb := tb_in 666 (by decide +kernel) (by decide +kernel)
theorem tw667 : (Cond.methodLink "LogFsModel" 137 ⟨"LogFsModel", "isName", "(J)Z"⟩) ∈ tb := tb_in 667 (by decide +kernel) (by decide +kernel)
theorem tw669 : (Cond.instanceMethod ⟨"LogFsModel", "isName", "(J)Z"⟩) ∈ tb := tb_in 669 (by decide +kernel) (by decide +kernel)
theorem tw670 : (Cond.code ⟨"LogFsModel", "isName", "(J)Z"⟩ prog_7_method_30_code 7 (some .boolean)) ∈ tb := tb_in 670 (by decide +kernel) (by decide +kernel)
theorem tw671 : (Cond.constantLong "LogFsModel" 103 (255 : Int64)) ∈ tb := tb_in 671 (by decide +kernel) (by decide +kernel)
theorem tw672 : (Cond.methodLink "LogFsModel" 141 ⟨"LogFsModel", "is", "(II)Z"⟩) ∈ tb := tb_in 672 (by decide +kernel) (by decide +kernel)
theorem tw674 : (Cond.instanceMethod ⟨"LogFsModel", "is", "(II)Z"⟩) ∈ tb := tb_in 674 (by decide +kernel) (by decide +kernel)
theorem tw675 : (Cond.code ⟨"LogFsModel", "is", "(II)Z"⟩ prog_7_method_12_code 3 (some .boolean)) ∈ tb := tb_in 675 (by decide +kernel) (by decide +kernel)
theorem tw676 : (Cond.methodLink "LogFsModel" 58 ⟨"LogFsModel", "isInode", "(I)Z"⟩) ∈ tb := tb_in 676 (by decide +kernel) (by decide +kernel)
theorem tw677 : (Cond.static ⟨"LogFsModel", "isInode", "(I)Z"⟩) ∈ tb := tb_in 677 (by decide +kernel) (by decide +kernel)
theorem tw678 : (Cond.code ⟨"LogFsModel", "isInode", "(I)Z"⟩ prog_7_method_11_code 1 (some .boolean)) ∈ tb := tb_in 678 (by decide +kernel) (by decide +kernel)
theorem tw679 : (Cond.methodLink "LogFsModel" 62 ⟨"LogFsModel", "inodeAt", "(II)I"⟩) ∈ tb := tb_in 679 (by decide +kernel) (by decide +kernel)
theorem tw681 : (Cond.instanceMethod ⟨"LogFsModel", "inodeAt", "(II)I"⟩) ∈ tb := tb_in 681 (by decide +kernel) (by decide +kernel)
theorem tw682 : (Cond.code ⟨"LogFsModel", "inodeAt", "(II)I"⟩ prog_7_method_9_code 3 (some .int)) ∈ tb := tb_in 682 (by decide +kernel) (by decide +kernel)
theorem tw683 : (Cond.methodLink "LogFsModel" 43 ⟨"LogFsModel", "blockOf", "(I)I"⟩) ∈ tb := tb_in 683 (by decide +kernel) (by decide +kernel)
theorem tw684 : (Cond.static ⟨"LogFsModel", "blockOf", "(I)I"⟩) ∈ tb := tb_in 684 (by decide +kernel) (by decide +kernel)
theorem tw685 : (Cond.code ⟨"LogFsModel", "blockOf", "(I)I"⟩ prog_7_method_7_code 1 (some .int)) ∈ tb := tb_in 685 (by decide +kernel) (by decide +kernel)
theorem tw686 : (Cond.methodLink "LogFsModel" 47 ⟨"LogFsModel", "placeOf", "(I)I"⟩) ∈ tb := tb_in 686 (by decide +kernel) (by decide +kernel)
theorem tw687 : (Cond.static ⟨"LogFsModel", "placeOf", "(I)I"⟩) ∈ tb := tb_in 687 (by decide +kernel) (by decide +kernel)
theorem tw688 : (Cond.code ⟨"LogFsModel", "placeOf", "(I)I"⟩ prog_7_method_8_code 1 (some .int)) ∈ tb := tb_in 688 (by decide +kernel) (by decide +kernel)
theorem tw689 : (Cond.methodLink "LogFsModel" 50 ⟨"LogFsModel", "at", "(II)I"⟩) ∈ tb := tb_in 689 (by decide +kernel) (by decide +kernel)
theorem tw691 : (Cond.instanceMethod ⟨"LogFsModel", "at", "(II)I"⟩) ∈ tb := tb_in 691 (by decide +kernel) (by decide +kernel)
theorem tw692 : (Cond.code ⟨"LogFsModel", "at", "(II)I"⟩ prog_7_method_4_code 3 (some .int)) ∈ tb := tb_in 692 (by decide +kernel) (by decide +kernel)
theorem tw693 : (Cond.methodLink "LogFsModel" 145 ⟨"LogFsModel", "mayEnter", "(I)Z"⟩) ∈ tb := tb_in 693 (by decide +kernel) (by decide +kernel)
theorem tw695 : (Cond.instanceMethod ⟨"LogFsModel", "mayEnter", "(I)Z"⟩) ∈ tb := tb_in 695 (by decide +kernel) (by decide +kernel)
theorem tw696 : (Cond.code ⟨"LogFsModel", "mayEnter", "(I)Z"⟩ prog_7_method_38_code 4 (some .boolean)) ∈ tb := tb_in 696 (by decide +kernel) (by decide +kernel)
theorem tw697 : (Cond.methodLink "LogFsModel" 118 ⟨"LogFsModel", "placeForEntry", "(I)I"⟩) ∈ tb := tb_in 697 (by decide +kernel) (by decide +kernel)
theorem tw699 : (Cond.instanceMethod ⟨"LogFsModel", "placeForEntry", "(I)I"⟩) ∈ tb := tb_in 699 (by decide +kernel) (by decide +kernel)
theorem tw700 : (Cond.code ⟨"LogFsModel", "placeForEntry", "(I)I"⟩ prog_7_method_32_code 3 (some .int)) ∈ tb := tb_in 700 (by decide +kernel) (by decide +kernel)
theorem tw701 : (Cond.methodLink "LogFsModel" 105 ⟨"LogFsModel", "sizeOf", "(I)I"⟩) ∈ tb := tb_in 701 (by decide +kernel) (by decide +kernel)
theorem tw703 : (Cond.instanceMethod ⟨"LogFsModel", "sizeOf", "(I)I"⟩) ∈ tb := tb_in 703 (by decide +kernel) (by decide +kernel)
theorem tw704 : (Cond.code ⟨"LogFsModel", "sizeOf", "(I)I"⟩ prog_7_method_13_code 2 (some .int)) ∈ tb := tb_in 704 (by decide +kernel) (by decide +kernel)
theorem tw705 : (Cond.methodLink "LogFsModel" 108 ⟨"LogFsModel", "contentAt", "(II)I"⟩) ∈ tb := tb_in 705 (by decide +kernel) (by decide +kernel)
theorem tw707 : (Cond.instanceMethod ⟨"LogFsModel", "contentAt", "(II)I"⟩) ∈ tb := tb_in 707 (by decide +kernel) (by decide +kernel)
theorem tw708 : (Cond.code ⟨"LogFsModel", "contentAt", "(II)I"⟩ prog_7_method_17_code 3 (some .int)) ∈ tb := tb_in 708 (by decide +kernel) (by decide +kernel)
theorem tw709 : (Cond.methodLink "LogFsModel" 68 ⟨"LogFsModel", "contentBlock", "(II)I"⟩) ∈ tb := tb_in 709 (by decide +kernel) (by decide +kernel)
theorem tw711 : (Cond.instanceMethod ⟨"LogFsModel", "contentBlock", "(II)I"⟩) ∈ tb := tb_in 711 (by decide +kernel) (by decide +kernel)
theorem tw712 : (Cond.code ⟨"LogFsModel", "contentBlock", "(II)I"⟩ prog_7_method_16_code 3 (some .int)) ∈ tb := tb_in 712 (by decide +kernel) (by decide +kernel)
theorem tw713 : (Cond.methodLink "LogFsModel" 128 ⟨"LogFsModel", "findEntry", "(I)I"⟩) ∈ tb := tb_in 713 (by decide +kernel) (by decide +kernel)
theorem tw715 : (Cond.instanceMethod ⟨"LogFsModel", "findEntry", "(I)I"⟩) ∈ tb := tb_in 715 (by decide +kernel) (by decide +kernel)
theorem tw716 : (Cond.code ⟨"LogFsModel", "findEntry", "(I)I"⟩ prog_7_method_31_code 6 (some .int)) ∈ tb := tb_in 716 (by decide +kernel) (by decide +kernel)
theorem tw717 : (Cond.methodLink "LogFsModel" 131 ⟨"LogFsModel", "needs", "(II)I"⟩) ∈ tb := tb_in 717 (by decide +kernel) (by decide +kernel)
theorem tw719 : (Cond.instanceMethod ⟨"LogFsModel", "needs", "(II)I"⟩) ∈ tb := tb_in 719 (by decide +kernel) (by decide +kernel)
theorem tw720 : (Cond.code ⟨"LogFsModel", "needs", "(II)I"⟩ prog_7_method_34_code 5 (some .int)) ∈ tb := tb_in 720 (by decide +kernel) (by decide +kernel)
theorem tw721 : (Cond.methodLink "LogFsModel" 111 ⟨"LogFsModel", "blocksFor", "(I)I"⟩) ∈ tb := tb_in 721 (by decide +kernel) (by decide +kernel)
theorem tw722 : (Cond.static ⟨"LogFsModel", "blocksFor", "(I)I"⟩) ∈ tb := tb_in 722 (by decide +kernel) (by decide +kernel)
theorem tw723 : (Cond.code ⟨"LogFsModel", "blocksFor", "(I)I"⟩ prog_7_method_15_code 1 (some .int)) ∈ tb := tb_in 723 (by decide +kernel) (by decide +kernel)
theorem tw724 : (Cond.methodLink "LogFsModel" 134 ⟨"LogFsModel", "freeBlocks", "()I"⟩) ∈ tb := tb_in 724 (by decide +kernel) (by decide +kernel)
theorem tw726 : (Cond.instanceMethod ⟨"LogFsModel", "freeBlocks", "()I"⟩) ∈ tb := tb_in 726 (by decide +kernel) (by decide +kernel)
theorem tw727 : (Cond.code ⟨"LogFsModel", "freeBlocks", "()I"⟩ prog_7_method_19_code 3 (some .int)) ∈ tb := tb_in 727 (by decide +kernel) (by decide +kernel)
theorem tw728 : (Cond.methodLink "LogFsModel" 71 ⟨"LogFsModel", "isUsed", "(I)Z"⟩) ∈ tb := tb_in 728 (by decide +kernel) (by decide +kernel)
theorem tw730 : (Cond.instanceMethod ⟨"LogFsModel", "isUsed", "(I)Z"⟩) ∈ tb := tb_in 730 (by decide +kernel) (by decide +kernel)
theorem tw731 : (Cond.code ⟨"LogFsModel", "isUsed", "(I)Z"⟩ prog_7_method_18_code 2 (some .boolean)) ∈ tb := tb_in 731 (by decide +kernel) (by decide +kernel)
theorem tw732 : (Cond.methodLink "LogFsModel" 148 ⟨"LogFsModel", "freeInode", "()I"⟩) ∈ tb := tb_in 732 (by decide +kernel) (by decide +kernel)
theorem tw734 : (Cond.instanceMethod ⟨"LogFsModel", "freeInode", "()I"⟩) ∈ tb := tb_in 734 (by decide +kernel) (by decide +kernel)
theorem tw735 : (Cond.code ⟨"LogFsModel", "freeInode", "()I"⟩ prog_7_method_20_code 2 (some .int)) ∈ tb := tb_in 735 (by decide +kernel) (by decide +kernel)
theorem tw736 : (Cond.methodLink "LogFsModel" 151 ⟨"LogFsModel", "ready", "()Z"⟩) ∈ tb := tb_in 736 (by decide +kernel) (by decide +kernel)
theorem tw738 : (Cond.instanceMethod ⟨"LogFsModel", "ready", "()Z"⟩) ∈ tb := tb_in 738 (by decide +kernel) (by decide +kernel)
theorem tw739 : (Cond.code ⟨"LogFsModel", "ready", "()Z"⟩ prog_7_method_25_code 2 (some .boolean)) ∈ tb := tb_in 739 (by decide +kernel) (by decide +kernel)
theorem tw740 : (Cond.methodLink "LogFsModel" 65 ⟨"LogFsModel", "setInode", "(III)V"⟩) ∈ tb := tb_in 740 (by decide +kernel) (by decide +kernel)
theorem tw742 : (Cond.instanceMethod ⟨"LogFsModel", "setInode", "(III)V"⟩) ∈ tb := tb_in 742 (by decide +kernel) (by decide +kernel)
theorem tw743 : (Cond.code ⟨"LogFsModel", "setInode", "(III)V"⟩ prog_7_method_10_code 4 none) ∈ tb := tb_in 743 (by decide +kernel) (by decide +kernel)
theorem tw744 : (Cond.methodLink "LogFsModel" 54 ⟨"LogFsModel", "set", "(III)V"⟩) ∈ tb := tb_in 744 (by decide +kernel) (by decide +kernel)
theorem tw746 : (Cond.instanceMethod ⟨"LogFsModel", "set", "(III)V"⟩) ∈ tb := tb_in 746 (by decide +kernel) (by decide +kernel)
theorem tw747 : (Cond.code ⟨"LogFsModel", "set", "(III)V"⟩ prog_7_method_6_code 4 none) ∈ tb := tb_in 747 (by decide +kernel) (by decide +kernel)
theorem tw748 : (Cond.methodLink "LogFsModel" 39 ⟨"LogFsModel", "pend", "(I)V"⟩) ∈ tb := tb_in 748 (by decide +kernel) (by decide +kernel)
theorem tw750 : (Cond.instanceMethod ⟨"LogFsModel", "pend", "(I)V"⟩) ∈ tb := tb_in 750 (by decide +kernel) (by decide +kernel)
theorem tw751 : (Cond.code ⟨"LogFsModel", "pend", "(I)V"⟩ prog_7_method_5_code 4 none) ∈ tb := tb_in 751 (by decide +kernel) (by decide +kernel)
theorem tw752 : (Cond.methodLink "LogFsModel" 154 ⟨"LogFsModel", "enter", "(II)V"⟩) ∈ tb := tb_in 752 (by decide +kernel) (by decide +kernel)
theorem tw754 : (Cond.instanceMethod ⟨"LogFsModel", "enter", "(II)V"⟩) ∈ tb := tb_in 754 (by decide +kernel) (by decide +kernel)
theorem tw755 : (Cond.code ⟨"LogFsModel", "enter", "(II)V"⟩ prog_7_method_37_code 7 none) ∈ tb := tb_in 755 (by decide +kernel) (by decide +kernel)
theorem tw756 : (Cond.methodLink "LogFsModel" 121 ⟨"LogFsModel", "blockFor", "(II)V"⟩) ∈ tb := tb_in 756 (by decide +kernel) (by decide +kernel)
theorem tw758 : (Cond.instanceMethod ⟨"LogFsModel", "blockFor", "(II)V"⟩) ∈ tb := tb_in 758 (by decide +kernel) (by decide +kernel)
theorem tw759 : (Cond.code ⟨"LogFsModel", "blockFor", "(II)V"⟩ prog_7_method_36_code 4 none) ∈ tb := tb_in 759 (by decide +kernel) (by decide +kernel)
theorem tw760 : (Cond.methodLink "LogFsModel" 114 ⟨"LogFsModel", "takeBlock", "()I"⟩) ∈ tb := tb_in 760 (by decide +kernel) (by decide +kernel)
theorem tw762 : (Cond.instanceMethod ⟨"LogFsModel", "takeBlock", "()I"⟩) ∈ tb := tb_in 762 (by decide +kernel) (by decide +kernel)
theorem tw763 : (Cond.code ⟨"LogFsModel", "takeBlock", "()I"⟩ prog_7_method_35_code 3 (some .int)) ∈ tb := tb_in 763 (by decide +kernel) (by decide +kernel)
theorem tw764 : (Cond.methodLink "LogFsModel" 125 ⟨"LogFsModel", "setSize", "(II)V"⟩) ∈ tb := tb_in 764 (by decide +kernel) (by decide +kernel)
theorem tw766 : (Cond.instanceMethod ⟨"LogFsModel", "setSize", "(II)V"⟩) ∈ tb := tb_in 766 (by decide +kernel) (by decide +kernel)
theorem tw767 : (Cond.code ⟨"LogFsModel", "setSize", "(II)V"⟩ prog_7_method_14_code 3 none) ∈ tb := tb_in 767 (by decide +kernel) (by decide +kernel)
theorem tw768 : (Cond.methodLink "LogFsLaw" 81 ⟨"LogFsModel", "link", "(IJI)Z"⟩) ∈ tb := tb_in 768 (by decide +kernel) (by decide +kernel)
theorem tw769 : (Cond.instanceMethod ⟨"LogFsModel", "link", "(IJI)Z"⟩) ∈ tb := tb_in 769 (by decide +kernel) (by decide +kernel)
theorem tw770 : (Cond.selects "LogFsModel" ⟨"LogFsModel", "link", "(IJI)Z"⟩ ⟨"LogFsModel", "link", "(IJI)Z"⟩) ∈ tb := tb_in 770 (by decide +kernel) (by decide +kernel)
theorem tw771 : (Cond.code ⟨"LogFsModel", "link", "(IJI)Z"⟩ prog_7_method_40_code 5 (some .boolean)) ∈ tb := tb_in 771 (by decide +kernel) (by decide +kernel)
theorem tw772 : (Cond.methodLink "LogFsLaw" 85 ⟨"LogFsModel", "unlink", "(IJ)Z"⟩) ∈ tb := tb_in 772 (by decide +kernel) (by decide +kernel)
theorem tw773 : (Cond.instanceMethod ⟨"LogFsModel", "unlink", "(IJ)Z"⟩) ∈ tb := tb_in 773 (by decide +kernel) (by decide +kernel)
theorem tw774 : (Cond.selects "LogFsModel" ⟨"LogFsModel", "unlink", "(IJ)Z"⟩ ⟨"LogFsModel", "unlink", "(IJ)Z"⟩) ∈ tb := tb_in 774 (by decide +kernel) (by decide +kernel)
theorem tw775 : (Cond.code ⟨"LogFsModel", "unlink", "(IJ)Z"⟩ prog_7_method_44_code 8 (some .boolean)) ∈ tb := tb_in 775 (by decide +kernel) (by decide +kernel)
theorem tw776 : (Cond.methodLink "LogFsModel" 160 ⟨"LogFsModel", "entries", "(I)I"⟩) ∈ tb := tb_in 776 (by decide +kernel) (by decide +kernel)
theorem tw778 : (Cond.instanceMethod ⟨"LogFsModel", "entries", "(I)I"⟩) ∈ tb := tb_in 778 (by decide +kernel) (by decide +kernel)
theorem tw779 : (Cond.code ⟨"LogFsModel", "entries", "(I)I"⟩ prog_7_method_33_code 4 (some .int)) ∈ tb := tb_in 779 (by decide +kernel) (by decide +kernel)
theorem tw780 : (Cond.methodLink "LogFsModel" 163 ⟨"LogFsModel", "release", "(I)V"⟩) ∈ tb := tb_in 780 (by decide +kernel) (by decide +kernel)
theorem tw782 : (Cond.instanceMethod ⟨"LogFsModel", "release", "(I)V"⟩) ∈ tb := tb_in 782 (by decide +kernel) (by decide +kernel)
theorem tw783 : (Cond.code ⟨"LogFsModel", "release", "(I)V"⟩ prog_7_method_41_code 4 none) ∈ tb := tb_in 783 (by decide +kernel) (by decide +kernel)
theorem tw784 : (Cond.methodLink "LogFsModel" 157 ⟨"LogFsModel", "free", "(I)V"⟩) ∈ tb := tb_in 784 (by decide +kernel) (by decide +kernel)
theorem tw786 : (Cond.instanceMethod ⟨"LogFsModel", "free", "(I)V"⟩) ∈ tb := tb_in 786 (by decide +kernel) (by decide +kernel)
theorem tw787 : (Cond.code ⟨"LogFsModel", "free", "(I)V"⟩ prog_7_method_42_code 2 none) ∈ tb := tb_in 787 (by decide +kernel) (by decide +kernel)
theorem tw788 : (Cond.methodLink "LogFsModel" 166 ⟨"LogFsModel", "clear", "(II)V"⟩) ∈ tb := tb_in 788 (by decide +kernel) (by decide +kernel)
theorem tw790 : (Cond.instanceMethod ⟨"LogFsModel", "clear", "(II)V"⟩) ∈ tb := tb_in 790 (by decide +kernel) (by decide +kernel)
theorem tw791 : (Cond.code ⟨"LogFsModel", "clear", "(II)V"⟩ prog_7_method_43_code 4 none) ∈ tb := tb_in 791 (by decide +kernel) (by decide +kernel)
theorem tw792 : (Cond.methodLink "LogFsLaw" 89 ⟨"LogFsModel", "write", "(IIJI)I"⟩) ∈ tb := tb_in 792 (by decide +kernel) (by decide +kernel)
theorem tw793 : (Cond.instanceMethod ⟨"LogFsModel", "write", "(IIJI)I"⟩) ∈ tb := tb_in 793 (by decide +kernel) (by decide +kernel)
theorem tw794 : (Cond.selects "LogFsModel" ⟨"LogFsModel", "write", "(IIJI)I"⟩ ⟨"LogFsModel", "write", "(IIJI)I"⟩) ∈ tb := tb_in 794 (by decide +kernel) (by decide +kernel)
theorem tw795 : (Cond.code ⟨"LogFsModel", "write", "(IIJI)I"⟩ prog_7_method_47_code 7 (some .int)) ∈ tb := tb_in 795 (by decide +kernel) (by decide +kernel)
theorem tw796 : (Cond.methodLink "LogFsModel" 169 ⟨"LogFsModel", "mayWrite", "(III)Z"⟩) ∈ tb := tb_in 796 (by decide +kernel) (by decide +kernel)
theorem tw798 : (Cond.instanceMethod ⟨"LogFsModel", "mayWrite", "(III)Z"⟩) ∈ tb := tb_in 798 (by decide +kernel) (by decide +kernel)
theorem tw799 : (Cond.code ⟨"LogFsModel", "mayWrite", "(III)Z"⟩ prog_7_method_45_code 4 (some .boolean)) ∈ tb := tb_in 799 (by decide +kernel) (by decide +kernel)
theorem tw800 : (Cond.methodLink "LogFsModel" 173 ⟨"LogFsModel", "writes", "(III)I"⟩) ∈ tb := tb_in 800 (by decide +kernel) (by decide +kernel)
theorem tw802 : (Cond.instanceMethod ⟨"LogFsModel", "writes", "(III)I"⟩) ∈ tb := tb_in 802 (by decide +kernel) (by decide +kernel)
theorem tw803 : (Cond.code ⟨"LogFsModel", "writes", "(III)I"⟩ prog_7_method_46_code 6 (some .int)) ∈ tb := tb_in 803 (by decide +kernel) (by decide +kernel)
theorem tw804 : (Cond.methodLink "LogFsLaw" 93 ⟨"LogFsModel", "fill", "(IIII)I"⟩) ∈ tb := tb_in 804 (by decide +kernel) (by decide +kernel)
theorem tw805 : (Cond.instanceMethod ⟨"LogFsModel", "fill", "(IIII)I"⟩) ∈ tb := tb_in 805 (by decide +kernel) (by decide +kernel)
theorem tw806 : (Cond.selects "LogFsModel" ⟨"LogFsModel", "fill", "(IIII)I"⟩ ⟨"LogFsModel", "fill", "(IIII)I"⟩) ∈ tb := tb_in 806 (by decide +kernel) (by decide +kernel)
theorem tw807 : (Cond.code ⟨"LogFsModel", "fill", "(IIII)I"⟩ prog_7_method_48_code 6 (some .int)) ∈ tb := tb_in 807 (by decide +kernel) (by decide +kernel)
theorem tw808 : (Cond.methodLink "LogFsLaw" 97 ⟨"LogFsModel", "truncate", "(I)Z"⟩) ∈ tb := tb_in 808 (by decide +kernel) (by decide +kernel)
theorem tw809 : (Cond.instanceMethod ⟨"LogFsModel", "truncate", "(I)Z"⟩) ∈ tb := tb_in 809 (by decide +kernel) (by decide +kernel)
theorem tw810 : (Cond.selects "LogFsModel" ⟨"LogFsModel", "truncate", "(I)Z"⟩ ⟨"LogFsModel", "truncate", "(I)Z"⟩) ∈ tb := tb_in 810 (by decide +kernel) (by decide +kernel)
theorem tw811 : (Cond.code ⟨"LogFsModel", "truncate", "(I)Z"⟩ prog_7_method_49_code 2 (some .boolean)) ∈ tb := tb_in 811 (by decide +kernel) (by decide +kernel)
theorem tw812 : (Cond.methodLink "LogFsLaw" 111 ⟨"LogFsModel", "find", "(IJ)I"⟩) ∈ tb := tb_in 812 (by decide +kernel) (by decide +kernel)
theorem tw813 : (Cond.instanceMethod ⟨"LogFsModel", "find", "(IJ)I"⟩) ∈ tb := tb_in 813 (by decide +kernel) (by decide +kernel)
theorem tw814 : (Cond.selects "LogFsModel" ⟨"LogFsModel", "find", "(IJ)I"⟩ ⟨"LogFsModel", "find", "(IJ)I"⟩) ∈ tb := tb_in 814 (by decide +kernel) (by decide +kernel)
theorem tw815 : (Cond.code ⟨"LogFsModel", "find", "(IJ)I"⟩ prog_7_method_50_code 5 (some .int)) ∈ tb := tb_in 815 (by decide +kernel) (by decide +kernel)
theorem tw816 : (Cond.methodLink "LogFsLaw" 115 ⟨"LogFsModel", "read", "(II)I"⟩) ∈ tb := tb_in 816 (by decide +kernel) (by decide +kernel)
theorem tw817 : (Cond.instanceMethod ⟨"LogFsModel", "read", "(II)I"⟩) ∈ tb := tb_in 817 (by decide +kernel) (by decide +kernel)
theorem tw818 : (Cond.selects "LogFsModel" ⟨"LogFsModel", "read", "(II)I"⟩ ⟨"LogFsModel", "read", "(II)I"⟩) ∈ tb := tb_in 818 (by decide +kernel) (by decide +kernel)
theorem tw819 : (Cond.code ⟨"LogFsModel", "read", "(II)I"⟩ prog_7_method_51_code 3 (some .int)) ∈ tb := tb_in 819 (by decide +kernel) (by decide +kernel)
theorem tw820 : (Cond.methodLink "LogFsLaw" 118 ⟨"LogFsModel", "look", "(II)I"⟩) ∈ tb := tb_in 820 (by decide +kernel) (by decide +kernel)
theorem tw821 : (Cond.instanceMethod ⟨"LogFsModel", "look", "(II)I"⟩) ∈ tb := tb_in 821 (by decide +kernel) (by decide +kernel)
theorem tw822 : (Cond.selects "LogFsModel" ⟨"LogFsModel", "look", "(II)I"⟩ ⟨"LogFsModel", "look", "(II)I"⟩) ∈ tb := tb_in 822 (by decide +kernel) (by decide +kernel)
theorem tw823 : (Cond.code ⟨"LogFsModel", "look", "(II)I"⟩ prog_7_method_52_code 3 (some .int)) ∈ tb := tb_in 823 (by decide +kernel) (by decide +kernel)
theorem tw824 : (Cond.methodLink "LogFsLaw" 121 ⟨"LogFsModel", "disk", "(II)I"⟩) ∈ tb := tb_in 824 (by decide +kernel) (by decide +kernel)
theorem tw825 : (Cond.instanceMethod ⟨"LogFsModel", "disk", "(II)I"⟩) ∈ tb := tb_in 825 (by decide +kernel) (by decide +kernel)
theorem tw826 : (Cond.selects "LogFsModel" ⟨"LogFsModel", "disk", "(II)I"⟩ ⟨"LogFsModel", "disk", "(II)I"⟩) ∈ tb := tb_in 826 (by decide +kernel) (by decide +kernel)
theorem tw827 : (Cond.code ⟨"LogFsModel", "disk", "(II)I"⟩ prog_7_method_54_code 3 (some .int)) ∈ tb := tb_in 827 (by decide +kernel) (by decide +kernel)
theorem tw828 : (Cond.methodLink "LogFsModel" 176 ⟨"LogFsModel", "isByte", "(II)Z"⟩) ∈ tb := tb_in 828 (by decide +kernel) (by decide +kernel)
theorem tw829 : (Cond.static ⟨"LogFsModel", "isByte", "(II)Z"⟩) ∈ tb := tb_in 829 (by decide +kernel) (by decide +kernel)
theorem tw830 : (Cond.code ⟨"LogFsModel", "isByte", "(II)Z"⟩ prog_7_method_53_code 2 (some .boolean)) ∈ tb := tb_in 830 (by decide +kernel) (by decide +kernel)
theorem tw831 : (Cond.methodLink "LogFsLaw" 124 ⟨"LogFsModel", "memory", "(II)I"⟩) ∈ tb := tb_in 831 (by decide +kernel) (by decide +kernel)
theorem tw832 : (Cond.instanceMethod ⟨"LogFsModel", "memory", "(II)I"⟩) ∈ tb := tb_in 832 (by decide +kernel) (by decide +kernel)
theorem tw833 : (Cond.selects "LogFsModel" ⟨"LogFsModel", "memory", "(II)I"⟩ ⟨"LogFsModel", "memory", "(II)I"⟩) ∈ tb := tb_in 833 (by decide +kernel) (by decide +kernel)
theorem tw834 : (Cond.code ⟨"LogFsModel", "memory", "(II)I"⟩ prog_7_method_55_code 3 (some .int)) ∈ tb := tb_in 834 (by decide +kernel) (by decide +kernel)
theorem tw835 : (Cond.methodLink "LogFsLaw" 129 ⟨"LogFsModel", "count", "(I)I"⟩) ∈ tb := tb_in 835 (by decide +kernel) (by decide +kernel)
theorem tw836 : (Cond.instanceMethod ⟨"LogFsModel", "count", "(I)I"⟩) ∈ tb := tb_in 836 (by decide +kernel) (by decide +kernel)
theorem tw837 : (Cond.selects "LogFsModel" ⟨"LogFsModel", "count", "(I)I"⟩ ⟨"LogFsModel", "count", "(I)I"⟩) ∈ tb := tb_in 837 (by decide +kernel) (by decide +kernel)
theorem tw838 : (Cond.code ⟨"LogFsModel", "count", "(I)I"⟩ prog_7_method_56_code 4 (some .int)) ∈ tb := tb_in 838 (by decide +kernel) (by decide +kernel)
theorem tw839 : (Cond.constantLong "LogFsLaw" 67 (4294967295 : Int64)) ∈ tb := tb_in 839 (by decide +kernel) (by decide +kernel)
theorem tw840 : (Cond.arrayClass .long) ∈ tb := tb_in 840 (by decide +kernel) (by decide +kernel)
theorem tw841 : (Cond.sameMethod "java/lang/Throwable" "java/lang/Throwable" "fillInStackTrace" "(I)Ljava/lang/Throwable;") ∈ tb := tb_in 841 (by decide +kernel) (by decide +kernel)
theorem uin_Blocks : ∀ w ∈ u_ws R_Blocks T_Blocks 1, w ∈ tb := by
  exact (List.forall_mem_cons.mpr ⟨tw36, (fun _ h => absurd h List.not_mem_nil)⟩)
theorem uin_Disk : ∀ w ∈ u_ws R_Disk T_Disk 4, w ∈ tb := by
  exact (List.forall_mem_cons.mpr ⟨tw56, (List.forall_mem_cons.mpr ⟨tw58, (List.forall_mem_cons.mpr ⟨tw60, (List.forall_mem_cons.mpr ⟨tw62, (fun _ h => absurd h List.not_mem_nil)⟩)⟩)⟩)⟩)
theorem uin_Memory : ∀ w ∈ u_ws R_Memory T_Memory 3, w ∈ tb := by
  exact (List.forall_mem_cons.mpr ⟨tw81, (List.forall_mem_cons.mpr ⟨tw83, (List.forall_mem_cons.mpr ⟨tw85, (fun _ h => absurd h List.not_mem_nil)⟩)⟩)⟩)
theorem uin_Volume : ∀ w ∈ u_ws R_Volume T_Volume 2, w ∈ tb := by
  exact (List.forall_mem_cons.mpr ⟨tw97, (List.forall_mem_cons.mpr ⟨tw99, (fun _ h => absurd h List.not_mem_nil)⟩)⟩)
theorem uin_LogFs : ∀ w ∈ u_ws R_LogFs T_LogFs 4, w ∈ tb := by
  exact (List.forall_mem_cons.mpr ⟨tw121, (List.forall_mem_cons.mpr ⟨tw123, (List.forall_mem_cons.mpr ⟨tw125, (List.forall_mem_cons.mpr ⟨tw127, (fun _ h => absurd h List.not_mem_nil)⟩)⟩)⟩)⟩)
theorem uin_Model : ∀ w ∈ u_ws R_Model T_Model 12, w ∈ tb := by
  exact (List.forall_mem_cons.mpr ⟨tw602, (List.forall_mem_cons.mpr ⟨tw604, (List.forall_mem_cons.mpr ⟨tw606, (List.forall_mem_cons.mpr ⟨tw608, (List.forall_mem_cons.mpr ⟨tw610, (List.forall_mem_cons.mpr ⟨tw612, (List.forall_mem_cons.mpr ⟨tw614, (List.forall_mem_cons.mpr ⟨tw616, (List.forall_mem_cons.mpr ⟨tw618, (List.forall_mem_cons.mpr ⟨tw620, (List.forall_mem_cons.mpr ⟨tw622, (List.forall_mem_cons.mpr ⟨tw624, (fun _ h => absurd h List.not_mem_nil)⟩)⟩)⟩)⟩)⟩)⟩)⟩)⟩)⟩)⟩)⟩)⟩)
end
