section
-- ===== PART A: goes FIRST, ahead of the names: the tables' words, and 'selects' of the private methods out of them =====
/-- a private method of a class that the tables say can be made, by its rows of tables_1 -/
def lw_okq (q : MethodName × Nat) : Prop := (q.1.cls ≠ "java/lang/invoke/MethodHandle" ∧ q.1.cls ≠ "java/lang/invoke/VarHandle") ∧ Cond.instantiable q.1.cls q.2 ∈ tables_1 ∧ Cond.privateMethod q.1 ∈ tables_1 ∧ Cond.instanceMethod q.1 ∈ tables_1
theorem lw_p0 : lw_okq (⟨"LogFs", "countInMemory", "(I)I"⟩, 4) := ⟨⟨by decide +kernel, by decide +kernel⟩, List.mem_of_getElem? (i := 16) (by decide +kernel), List.mem_of_getElem? (i := 139) (by decide +kernel), List.mem_of_getElem? (i := 140) (by decide +kernel)⟩
theorem lw_p1 : lw_okq (⟨"LogFs$Volume", "inodeByte", "(II)I"⟩, 2) := ⟨⟨by decide +kernel, by decide +kernel⟩, List.mem_of_getElem? (i := 90) (by decide +kernel), List.mem_of_getElem? (i := 162) (by decide +kernel), List.mem_of_getElem? (i := 163) (by decide +kernel)⟩
theorem lw_p2 : lw_okq (⟨"LogFs", "requirePower", "()V"⟩, 4) := ⟨⟨by decide +kernel, by decide +kernel⟩, List.mem_of_getElem? (i := 16) (by decide +kernel), List.mem_of_getElem? (i := 182) (by decide +kernel), List.mem_of_getElem? (i := 183) (by decide +kernel)⟩
theorem lw_p3 : lw_okq (⟨"java/lang/Throwable", "fillInStackTrace", "(I)Ljava/lang/Throwable;"⟩, 6) := ⟨⟨by decide +kernel, by decide +kernel⟩, List.mem_of_getElem? (i := 224) (by decide +kernel), List.mem_of_getElem? (i := 222) (by decide +kernel), List.mem_of_getElem? (i := 223) (by decide +kernel)⟩
theorem lw_p4 : lw_okq (⟨"LogFs$Volume", "entryAt", "(II)J"⟩, 2) := ⟨⟨by decide +kernel, by decide +kernel⟩, List.mem_of_getElem? (i := 90) (by decide +kernel), List.mem_of_getElem? (i := 279) (by decide +kernel), List.mem_of_getElem? (i := 280) (by decide +kernel)⟩
theorem lw_p5 : lw_okq (⟨"LogFs$Volume", "contentBlock", "(II)I"⟩, 2) := ⟨⟨by decide +kernel, by decide +kernel⟩, List.mem_of_getElem? (i := 90) (by decide +kernel), List.mem_of_getElem? (i := 283) (by decide +kernel), List.mem_of_getElem? (i := 284) (by decide +kernel)⟩
theorem lw_p6 : lw_okq (⟨"LogFs$Volume", "fits", "(II)Z"⟩, 2) := ⟨⟨by decide +kernel, by decide +kernel⟩, List.mem_of_getElem? (i := 90) (by decide +kernel), List.mem_of_getElem? (i := 291) (by decide +kernel), List.mem_of_getElem? (i := 292) (by decide +kernel)⟩
theorem lw_p7 : lw_okq (⟨"LogFs$Volume", "blocksToTake", "(II)I"⟩, 2) := ⟨⟨by decide +kernel, by decide +kernel⟩, List.mem_of_getElem? (i := 90) (by decide +kernel), List.mem_of_getElem? (i := 295) (by decide +kernel), List.mem_of_getElem? (i := 296) (by decide +kernel)⟩
theorem lw_p8 : lw_okq (⟨"LogFs", "commitIfMany", "()V"⟩, 4) := ⟨⟨by decide +kernel, by decide +kernel⟩, List.mem_of_getElem? (i := 16) (by decide +kernel), List.mem_of_getElem? (i := 303) (by decide +kernel), List.mem_of_getElem? (i := 304) (by decide +kernel)⟩
theorem lw_p9 : lw_okq (⟨"LogFs", "commit", "()V"⟩, 4) := ⟨⟨by decide +kernel, by decide +kernel⟩, List.mem_of_getElem? (i := 16) (by decide +kernel), List.mem_of_getElem? (i := 307) (by decide +kernel), List.mem_of_getElem? (i := 308) (by decide +kernel)⟩
theorem lw_p10 : lw_okq (⟨"LogFs$Disk", "storeInLog", "(LLogFs$Memory;)Z"⟩, 4) := ⟨⟨by decide +kernel, by decide +kernel⟩, List.mem_of_getElem? (i := 24) (by decide +kernel), List.mem_of_getElem? (i := 315) (by decide +kernel), List.mem_of_getElem? (i := 316) (by decide +kernel)⟩
theorem lw_p11 : lw_okq (⟨"LogFs$Disk", "storeBlock", "(LLogFs$Blocks;II)Z"⟩, 4) := ⟨⟨by decide +kernel, by decide +kernel⟩, List.mem_of_getElem? (i := 24) (by decide +kernel), List.mem_of_getElem? (i := 320) (by decide +kernel), List.mem_of_getElem? (i := 321) (by decide +kernel)⟩
theorem lw_p12 : lw_okq (⟨"LogFs$Disk", "spendWrite", "()Z"⟩, 4) := ⟨⟨by decide +kernel, by decide +kernel⟩, List.mem_of_getElem? (i := 24) (by decide +kernel), List.mem_of_getElem? (i := 324) (by decide +kernel), List.mem_of_getElem? (i := 325) (by decide +kernel)⟩
theorem lw_p13 : lw_okq (⟨"LogFs$Disk", "storeHead", "(LLogFs$Memory;)Z"⟩, 4) := ⟨⟨by decide +kernel, by decide +kernel⟩, List.mem_of_getElem? (i := 24) (by decide +kernel), List.mem_of_getElem? (i := 332) (by decide +kernel), List.mem_of_getElem? (i := 333) (by decide +kernel)⟩
theorem lw_p14 : lw_okq (⟨"LogFs$Disk", "storeInPlace", "(LLogFs$Memory;)Z"⟩, 4) := ⟨⟨by decide +kernel, by decide +kernel⟩, List.mem_of_getElem? (i := 24) (by decide +kernel), List.mem_of_getElem? (i := 341) (by decide +kernel), List.mem_of_getElem? (i := 342) (by decide +kernel)⟩
theorem lw_p15 : lw_okq (⟨"LogFs$Disk", "clearHead", "()Z"⟩, 4) := ⟨⟨by decide +kernel, by decide +kernel⟩, List.mem_of_getElem? (i := 24) (by decide +kernel), List.mem_of_getElem? (i := 345) (by decide +kernel), List.mem_of_getElem? (i := 346) (by decide +kernel)⟩
def lw_privs_1 : List (MethodName × Nat) := [(⟨"LogFs", "countInMemory", "(I)I"⟩, 4), (⟨"LogFs$Volume", "inodeByte", "(II)I"⟩, 2), (⟨"LogFs", "requirePower", "()V"⟩, 4), (⟨"java/lang/Throwable", "fillInStackTrace", "(I)Ljava/lang/Throwable;"⟩, 6), (⟨"LogFs$Volume", "entryAt", "(II)J"⟩, 2), (⟨"LogFs$Volume", "contentBlock", "(II)I"⟩, 2), (⟨"LogFs$Volume", "fits", "(II)Z"⟩, 2), (⟨"LogFs$Volume", "blocksToTake", "(II)I"⟩, 2), (⟨"LogFs", "commitIfMany", "()V"⟩, 4), (⟨"LogFs", "commit", "()V"⟩, 4), (⟨"LogFs$Disk", "storeInLog", "(LLogFs$Memory;)Z"⟩, 4), (⟨"LogFs$Disk", "storeBlock", "(LLogFs$Blocks;II)Z"⟩, 4), (⟨"LogFs$Disk", "spendWrite", "()Z"⟩, 4), (⟨"LogFs$Disk", "storeHead", "(LLogFs$Memory;)Z"⟩, 4), (⟨"LogFs$Disk", "storeInPlace", "(LLogFs$Memory;)Z"⟩, 4), (⟨"LogFs$Disk", "clearHead", "()Z"⟩, 4)]
theorem lw_r1 : ∀ q ∈ lw_privs_1, lw_okq q := List.forall_mem_cons.mpr ⟨lw_p0, List.forall_mem_cons.mpr ⟨lw_p1, List.forall_mem_cons.mpr ⟨lw_p2, List.forall_mem_cons.mpr ⟨lw_p3, List.forall_mem_cons.mpr ⟨lw_p4, List.forall_mem_cons.mpr ⟨lw_p5, List.forall_mem_cons.mpr ⟨lw_p6, List.forall_mem_cons.mpr ⟨lw_p7, List.forall_mem_cons.mpr ⟨lw_p8, List.forall_mem_cons.mpr ⟨lw_p9, List.forall_mem_cons.mpr ⟨lw_p10, List.forall_mem_cons.mpr ⟨lw_p11, List.forall_mem_cons.mpr ⟨lw_p12, List.forall_mem_cons.mpr ⟨lw_p13, List.forall_mem_cons.mpr ⟨lw_p14, List.forall_mem_cons.mpr ⟨lw_p15, fun _ h => absurd h List.not_mem_nil⟩⟩⟩⟩⟩⟩⟩⟩⟩⟩⟩⟩⟩⟩⟩⟩
theorem lw_p16 : lw_okq (⟨"LogFs$Volume", "setInodeByte", "(III)V"⟩, 2) := ⟨⟨by decide +kernel, by decide +kernel⟩, List.mem_of_getElem? (i := 90) (by decide +kernel), List.mem_of_getElem? (i := 370) (by decide +kernel), List.mem_of_getElem? (i := 371) (by decide +kernel)⟩
theorem lw_p17 : lw_okq (⟨"LogFs$Memory", "markPending", "(I)V"⟩, 3) := ⟨⟨by decide +kernel, by decide +kernel⟩, List.mem_of_getElem? (i := 66) (by decide +kernel), List.mem_of_getElem? (i := 378) (by decide +kernel), List.mem_of_getElem? (i := 379) (by decide +kernel)⟩
theorem lw_p18 : lw_okq (⟨"LogFs$Volume", "putByte", "(III)V"⟩, 2) := ⟨⟨by decide +kernel, by decide +kernel⟩, List.mem_of_getElem? (i := 90) (by decide +kernel), List.mem_of_getElem? (i := 392) (by decide +kernel), List.mem_of_getElem? (i := 393) (by decide +kernel)⟩
theorem lw_p19 : lw_okq (⟨"LogFs$Volume", "addContentBlock", "(II)V"⟩, 2) := ⟨⟨by decide +kernel, by decide +kernel⟩, List.mem_of_getElem? (i := 90) (by decide +kernel), List.mem_of_getElem? (i := 396) (by decide +kernel), List.mem_of_getElem? (i := 397) (by decide +kernel)⟩
theorem lw_p20 : lw_okq (⟨"LogFs$Volume", "takeBlock", "()I"⟩, 2) := ⟨⟨by decide +kernel, by decide +kernel⟩, List.mem_of_getElem? (i := 90) (by decide +kernel), List.mem_of_getElem? (i := 400) (by decide +kernel), List.mem_of_getElem? (i := 401) (by decide +kernel)⟩
theorem lw_p21 : lw_okq (⟨"LogFs$Volume", "leastFreeBlock", "()I"⟩, 2) := ⟨⟨by decide +kernel, by decide +kernel⟩, List.mem_of_getElem? (i := 90) (by decide +kernel), List.mem_of_getElem? (i := 404) (by decide +kernel), List.mem_of_getElem? (i := 405) (by decide +kernel)⟩
theorem lw_p22 : lw_okq (⟨"LogFs$Volume", "growTo", "(II)V"⟩, 2) := ⟨⟨by decide +kernel, by decide +kernel⟩, List.mem_of_getElem? (i := 90) (by decide +kernel), List.mem_of_getElem? (i := 413) (by decide +kernel), List.mem_of_getElem? (i := 414) (by decide +kernel)⟩
theorem lw_p23 : lw_okq (⟨"LogFs$Volume", "giveBack", "(I)V"⟩, 2) := ⟨⟨by decide +kernel, by decide +kernel⟩, List.mem_of_getElem? (i := 90) (by decide +kernel), List.mem_of_getElem? (i := 461) (by decide +kernel), List.mem_of_getElem? (i := 462) (by decide +kernel)⟩
theorem lw_p24 : lw_okq (⟨"LogFsModel", "load", "()V"⟩, 12) := ⟨⟨by decide +kernel, by decide +kernel⟩, List.mem_of_getElem? (i := 581) (by decide +kernel), List.mem_of_getElem? (i := 587) (by decide +kernel), List.mem_of_getElem? (i := 588) (by decide +kernel)⟩
theorem lw_p25 : lw_okq (⟨"LogFsModel", "dead", "()Z"⟩, 12) := ⟨⟨by decide +kernel, by decide +kernel⟩, List.mem_of_getElem? (i := 581) (by decide +kernel), List.mem_of_getElem? (i := 636) (by decide +kernel), List.mem_of_getElem? (i := 637) (by decide +kernel)⟩
theorem lw_p26 : lw_okq (⟨"LogFsModel", "commit", "()Z"⟩, 12) := ⟨⟨by decide +kernel, by decide +kernel⟩, List.mem_of_getElem? (i := 581) (by decide +kernel), List.mem_of_getElem? (i := 640) (by decide +kernel), List.mem_of_getElem? (i := 641) (by decide +kernel)⟩
theorem lw_p27 : lw_okq (⟨"LogFsModel", "fetch", "(I)V"⟩, 12) := ⟨⟨by decide +kernel, by decide +kernel⟩, List.mem_of_getElem? (i := 581) (by decide +kernel), List.mem_of_getElem? (i := 644) (by decide +kernel), List.mem_of_getElem? (i := 645) (by decide +kernel)⟩
theorem lw_p28 : lw_okq (⟨"LogFsModel", "put", "(I)V"⟩, 12) := ⟨⟨by decide +kernel, by decide +kernel⟩, List.mem_of_getElem? (i := 581) (by decide +kernel), List.mem_of_getElem? (i := 648) (by decide +kernel), List.mem_of_getElem? (i := 649) (by decide +kernel)⟩
theorem lw_p29 : lw_okq (⟨"LogFsModel", "head", "(I)V"⟩, 12) := ⟨⟨by decide +kernel, by decide +kernel⟩, List.mem_of_getElem? (i := 581) (by decide +kernel), List.mem_of_getElem? (i := 652) (by decide +kernel), List.mem_of_getElem? (i := 653) (by decide +kernel)⟩
theorem lw_p30 : lw_okq (⟨"LogFsModel", "isName", "(J)Z"⟩, 12) := ⟨⟨by decide +kernel, by decide +kernel⟩, List.mem_of_getElem? (i := 581) (by decide +kernel), List.mem_of_getElem? (i := 668) (by decide +kernel), List.mem_of_getElem? (i := 669) (by decide +kernel)⟩
theorem lw_p31 : lw_okq (⟨"LogFsModel", "is", "(II)Z"⟩, 12) := ⟨⟨by decide +kernel, by decide +kernel⟩, List.mem_of_getElem? (i := 581) (by decide +kernel), List.mem_of_getElem? (i := 673) (by decide +kernel), List.mem_of_getElem? (i := 674) (by decide +kernel)⟩
def lw_privs_2 : List (MethodName × Nat) := [(⟨"LogFs$Volume", "setInodeByte", "(III)V"⟩, 2), (⟨"LogFs$Memory", "markPending", "(I)V"⟩, 3), (⟨"LogFs$Volume", "putByte", "(III)V"⟩, 2), (⟨"LogFs$Volume", "addContentBlock", "(II)V"⟩, 2), (⟨"LogFs$Volume", "takeBlock", "()I"⟩, 2), (⟨"LogFs$Volume", "leastFreeBlock", "()I"⟩, 2), (⟨"LogFs$Volume", "growTo", "(II)V"⟩, 2), (⟨"LogFs$Volume", "giveBack", "(I)V"⟩, 2), (⟨"LogFsModel", "load", "()V"⟩, 12), (⟨"LogFsModel", "dead", "()Z"⟩, 12), (⟨"LogFsModel", "commit", "()Z"⟩, 12), (⟨"LogFsModel", "fetch", "(I)V"⟩, 12), (⟨"LogFsModel", "put", "(I)V"⟩, 12), (⟨"LogFsModel", "head", "(I)V"⟩, 12), (⟨"LogFsModel", "isName", "(J)Z"⟩, 12), (⟨"LogFsModel", "is", "(II)Z"⟩, 12)]
theorem lw_r2 : ∀ q ∈ lw_privs_2, lw_okq q := List.forall_mem_cons.mpr ⟨lw_p16, List.forall_mem_cons.mpr ⟨lw_p17, List.forall_mem_cons.mpr ⟨lw_p18, List.forall_mem_cons.mpr ⟨lw_p19, List.forall_mem_cons.mpr ⟨lw_p20, List.forall_mem_cons.mpr ⟨lw_p21, List.forall_mem_cons.mpr ⟨lw_p22, List.forall_mem_cons.mpr ⟨lw_p23, List.forall_mem_cons.mpr ⟨lw_p24, List.forall_mem_cons.mpr ⟨lw_p25, List.forall_mem_cons.mpr ⟨lw_p26, List.forall_mem_cons.mpr ⟨lw_p27, List.forall_mem_cons.mpr ⟨lw_p28, List.forall_mem_cons.mpr ⟨lw_p29, List.forall_mem_cons.mpr ⟨lw_p30, List.forall_mem_cons.mpr ⟨lw_p31, fun _ h => absurd h List.not_mem_nil⟩⟩⟩⟩⟩⟩⟩⟩⟩⟩⟩⟩⟩⟩⟩⟩
theorem lw_p32 : lw_okq (⟨"LogFsModel", "inodeAt", "(II)I"⟩, 12) := ⟨⟨by decide +kernel, by decide +kernel⟩, List.mem_of_getElem? (i := 581) (by decide +kernel), List.mem_of_getElem? (i := 680) (by decide +kernel), List.mem_of_getElem? (i := 681) (by decide +kernel)⟩
theorem lw_p33 : lw_okq (⟨"LogFsModel", "at", "(II)I"⟩, 12) := ⟨⟨by decide +kernel, by decide +kernel⟩, List.mem_of_getElem? (i := 581) (by decide +kernel), List.mem_of_getElem? (i := 690) (by decide +kernel), List.mem_of_getElem? (i := 691) (by decide +kernel)⟩
theorem lw_p34 : lw_okq (⟨"LogFsModel", "mayEnter", "(I)Z"⟩, 12) := ⟨⟨by decide +kernel, by decide +kernel⟩, List.mem_of_getElem? (i := 581) (by decide +kernel), List.mem_of_getElem? (i := 694) (by decide +kernel), List.mem_of_getElem? (i := 695) (by decide +kernel)⟩
theorem lw_p35 : lw_okq (⟨"LogFsModel", "placeForEntry", "(I)I"⟩, 12) := ⟨⟨by decide +kernel, by decide +kernel⟩, List.mem_of_getElem? (i := 581) (by decide +kernel), List.mem_of_getElem? (i := 698) (by decide +kernel), List.mem_of_getElem? (i := 699) (by decide +kernel)⟩
theorem lw_p36 : lw_okq (⟨"LogFsModel", "sizeOf", "(I)I"⟩, 12) := ⟨⟨by decide +kernel, by decide +kernel⟩, List.mem_of_getElem? (i := 581) (by decide +kernel), List.mem_of_getElem? (i := 702) (by decide +kernel), List.mem_of_getElem? (i := 703) (by decide +kernel)⟩
theorem lw_p37 : lw_okq (⟨"LogFsModel", "contentAt", "(II)I"⟩, 12) := ⟨⟨by decide +kernel, by decide +kernel⟩, List.mem_of_getElem? (i := 581) (by decide +kernel), List.mem_of_getElem? (i := 706) (by decide +kernel), List.mem_of_getElem? (i := 707) (by decide +kernel)⟩
theorem lw_p38 : lw_okq (⟨"LogFsModel", "contentBlock", "(II)I"⟩, 12) := ⟨⟨by decide +kernel, by decide +kernel⟩, List.mem_of_getElem? (i := 581) (by decide +kernel), List.mem_of_getElem? (i := 710) (by decide +kernel), List.mem_of_getElem? (i := 711) (by decide +kernel)⟩
theorem lw_p39 : lw_okq (⟨"LogFsModel", "findEntry", "(I)I"⟩, 12) := ⟨⟨by decide +kernel, by decide +kernel⟩, List.mem_of_getElem? (i := 581) (by decide +kernel), List.mem_of_getElem? (i := 714) (by decide +kernel), List.mem_of_getElem? (i := 715) (by decide +kernel)⟩
theorem lw_p40 : lw_okq (⟨"LogFsModel", "needs", "(II)I"⟩, 12) := ⟨⟨by decide +kernel, by decide +kernel⟩, List.mem_of_getElem? (i := 581) (by decide +kernel), List.mem_of_getElem? (i := 718) (by decide +kernel), List.mem_of_getElem? (i := 719) (by decide +kernel)⟩
theorem lw_p41 : lw_okq (⟨"LogFsModel", "freeBlocks", "()I"⟩, 12) := ⟨⟨by decide +kernel, by decide +kernel⟩, List.mem_of_getElem? (i := 581) (by decide +kernel), List.mem_of_getElem? (i := 725) (by decide +kernel), List.mem_of_getElem? (i := 726) (by decide +kernel)⟩
theorem lw_p42 : lw_okq (⟨"LogFsModel", "isUsed", "(I)Z"⟩, 12) := ⟨⟨by decide +kernel, by decide +kernel⟩, List.mem_of_getElem? (i := 581) (by decide +kernel), List.mem_of_getElem? (i := 729) (by decide +kernel), List.mem_of_getElem? (i := 730) (by decide +kernel)⟩
theorem lw_p43 : lw_okq (⟨"LogFsModel", "freeInode", "()I"⟩, 12) := ⟨⟨by decide +kernel, by decide +kernel⟩, List.mem_of_getElem? (i := 581) (by decide +kernel), List.mem_of_getElem? (i := 733) (by decide +kernel), List.mem_of_getElem? (i := 734) (by decide +kernel)⟩
theorem lw_p44 : lw_okq (⟨"LogFsModel", "ready", "()Z"⟩, 12) := ⟨⟨by decide +kernel, by decide +kernel⟩, List.mem_of_getElem? (i := 581) (by decide +kernel), List.mem_of_getElem? (i := 737) (by decide +kernel), List.mem_of_getElem? (i := 738) (by decide +kernel)⟩
theorem lw_p45 : lw_okq (⟨"LogFsModel", "setInode", "(III)V"⟩, 12) := ⟨⟨by decide +kernel, by decide +kernel⟩, List.mem_of_getElem? (i := 581) (by decide +kernel), List.mem_of_getElem? (i := 741) (by decide +kernel), List.mem_of_getElem? (i := 742) (by decide +kernel)⟩
theorem lw_p46 : lw_okq (⟨"LogFsModel", "set", "(III)V"⟩, 12) := ⟨⟨by decide +kernel, by decide +kernel⟩, List.mem_of_getElem? (i := 581) (by decide +kernel), List.mem_of_getElem? (i := 745) (by decide +kernel), List.mem_of_getElem? (i := 746) (by decide +kernel)⟩
theorem lw_p47 : lw_okq (⟨"LogFsModel", "pend", "(I)V"⟩, 12) := ⟨⟨by decide +kernel, by decide +kernel⟩, List.mem_of_getElem? (i := 581) (by decide +kernel), List.mem_of_getElem? (i := 749) (by decide +kernel), List.mem_of_getElem? (i := 750) (by decide +kernel)⟩
def lw_privs_3 : List (MethodName × Nat) := [(⟨"LogFsModel", "inodeAt", "(II)I"⟩, 12), (⟨"LogFsModel", "at", "(II)I"⟩, 12), (⟨"LogFsModel", "mayEnter", "(I)Z"⟩, 12), (⟨"LogFsModel", "placeForEntry", "(I)I"⟩, 12), (⟨"LogFsModel", "sizeOf", "(I)I"⟩, 12), (⟨"LogFsModel", "contentAt", "(II)I"⟩, 12), (⟨"LogFsModel", "contentBlock", "(II)I"⟩, 12), (⟨"LogFsModel", "findEntry", "(I)I"⟩, 12), (⟨"LogFsModel", "needs", "(II)I"⟩, 12), (⟨"LogFsModel", "freeBlocks", "()I"⟩, 12), (⟨"LogFsModel", "isUsed", "(I)Z"⟩, 12), (⟨"LogFsModel", "freeInode", "()I"⟩, 12), (⟨"LogFsModel", "ready", "()Z"⟩, 12), (⟨"LogFsModel", "setInode", "(III)V"⟩, 12), (⟨"LogFsModel", "set", "(III)V"⟩, 12), (⟨"LogFsModel", "pend", "(I)V"⟩, 12)]
theorem lw_r3 : ∀ q ∈ lw_privs_3, lw_okq q := List.forall_mem_cons.mpr ⟨lw_p32, List.forall_mem_cons.mpr ⟨lw_p33, List.forall_mem_cons.mpr ⟨lw_p34, List.forall_mem_cons.mpr ⟨lw_p35, List.forall_mem_cons.mpr ⟨lw_p36, List.forall_mem_cons.mpr ⟨lw_p37, List.forall_mem_cons.mpr ⟨lw_p38, List.forall_mem_cons.mpr ⟨lw_p39, List.forall_mem_cons.mpr ⟨lw_p40, List.forall_mem_cons.mpr ⟨lw_p41, List.forall_mem_cons.mpr ⟨lw_p42, List.forall_mem_cons.mpr ⟨lw_p43, List.forall_mem_cons.mpr ⟨lw_p44, List.forall_mem_cons.mpr ⟨lw_p45, List.forall_mem_cons.mpr ⟨lw_p46, List.forall_mem_cons.mpr ⟨lw_p47, fun _ h => absurd h List.not_mem_nil⟩⟩⟩⟩⟩⟩⟩⟩⟩⟩⟩⟩⟩⟩⟩⟩
theorem lw_p48 : lw_okq (⟨"LogFsModel", "enter", "(II)V"⟩, 12) := ⟨⟨by decide +kernel, by decide +kernel⟩, List.mem_of_getElem? (i := 581) (by decide +kernel), List.mem_of_getElem? (i := 753) (by decide +kernel), List.mem_of_getElem? (i := 754) (by decide +kernel)⟩
theorem lw_p49 : lw_okq (⟨"LogFsModel", "blockFor", "(II)V"⟩, 12) := ⟨⟨by decide +kernel, by decide +kernel⟩, List.mem_of_getElem? (i := 581) (by decide +kernel), List.mem_of_getElem? (i := 757) (by decide +kernel), List.mem_of_getElem? (i := 758) (by decide +kernel)⟩
theorem lw_p50 : lw_okq (⟨"LogFsModel", "takeBlock", "()I"⟩, 12) := ⟨⟨by decide +kernel, by decide +kernel⟩, List.mem_of_getElem? (i := 581) (by decide +kernel), List.mem_of_getElem? (i := 761) (by decide +kernel), List.mem_of_getElem? (i := 762) (by decide +kernel)⟩
theorem lw_p51 : lw_okq (⟨"LogFsModel", "setSize", "(II)V"⟩, 12) := ⟨⟨by decide +kernel, by decide +kernel⟩, List.mem_of_getElem? (i := 581) (by decide +kernel), List.mem_of_getElem? (i := 765) (by decide +kernel), List.mem_of_getElem? (i := 766) (by decide +kernel)⟩
theorem lw_p52 : lw_okq (⟨"LogFsModel", "entries", "(I)I"⟩, 12) := ⟨⟨by decide +kernel, by decide +kernel⟩, List.mem_of_getElem? (i := 581) (by decide +kernel), List.mem_of_getElem? (i := 777) (by decide +kernel), List.mem_of_getElem? (i := 778) (by decide +kernel)⟩
theorem lw_p53 : lw_okq (⟨"LogFsModel", "release", "(I)V"⟩, 12) := ⟨⟨by decide +kernel, by decide +kernel⟩, List.mem_of_getElem? (i := 581) (by decide +kernel), List.mem_of_getElem? (i := 781) (by decide +kernel), List.mem_of_getElem? (i := 782) (by decide +kernel)⟩
theorem lw_p54 : lw_okq (⟨"LogFsModel", "free", "(I)V"⟩, 12) := ⟨⟨by decide +kernel, by decide +kernel⟩, List.mem_of_getElem? (i := 581) (by decide +kernel), List.mem_of_getElem? (i := 785) (by decide +kernel), List.mem_of_getElem? (i := 786) (by decide +kernel)⟩
theorem lw_p55 : lw_okq (⟨"LogFsModel", "clear", "(II)V"⟩, 12) := ⟨⟨by decide +kernel, by decide +kernel⟩, List.mem_of_getElem? (i := 581) (by decide +kernel), List.mem_of_getElem? (i := 789) (by decide +kernel), List.mem_of_getElem? (i := 790) (by decide +kernel)⟩
theorem lw_p56 : lw_okq (⟨"LogFsModel", "mayWrite", "(III)Z"⟩, 12) := ⟨⟨by decide +kernel, by decide +kernel⟩, List.mem_of_getElem? (i := 581) (by decide +kernel), List.mem_of_getElem? (i := 797) (by decide +kernel), List.mem_of_getElem? (i := 798) (by decide +kernel)⟩
theorem lw_p57 : lw_okq (⟨"LogFsModel", "writes", "(III)I"⟩, 12) := ⟨⟨by decide +kernel, by decide +kernel⟩, List.mem_of_getElem? (i := 581) (by decide +kernel), List.mem_of_getElem? (i := 801) (by decide +kernel), List.mem_of_getElem? (i := 802) (by decide +kernel)⟩
def lw_privs_4 : List (MethodName × Nat) := [(⟨"LogFsModel", "enter", "(II)V"⟩, 12), (⟨"LogFsModel", "blockFor", "(II)V"⟩, 12), (⟨"LogFsModel", "takeBlock", "()I"⟩, 12), (⟨"LogFsModel", "setSize", "(II)V"⟩, 12), (⟨"LogFsModel", "entries", "(I)I"⟩, 12), (⟨"LogFsModel", "release", "(I)V"⟩, 12), (⟨"LogFsModel", "free", "(I)V"⟩, 12), (⟨"LogFsModel", "clear", "(II)V"⟩, 12), (⟨"LogFsModel", "mayWrite", "(III)Z"⟩, 12), (⟨"LogFsModel", "writes", "(III)I"⟩, 12)]
theorem lw_r4 : ∀ q ∈ lw_privs_4, lw_okq q := List.forall_mem_cons.mpr ⟨lw_p48, List.forall_mem_cons.mpr ⟨lw_p49, List.forall_mem_cons.mpr ⟨lw_p50, List.forall_mem_cons.mpr ⟨lw_p51, List.forall_mem_cons.mpr ⟨lw_p52, List.forall_mem_cons.mpr ⟨lw_p53, List.forall_mem_cons.mpr ⟨lw_p54, List.forall_mem_cons.mpr ⟨lw_p55, List.forall_mem_cons.mpr ⟨lw_p56, List.forall_mem_cons.mpr ⟨lw_p57, fun _ h => absurd h List.not_mem_nil⟩⟩⟩⟩⟩⟩⟩⟩⟩⟩
def lw_privs : List (MethodName × Nat) := lw_privs_1 ++ (lw_privs_2 ++ (lw_privs_3 ++ (lw_privs_4)))
def lw_tbl : List Cond := k2_sels lw_privs ++ tables_1
theorem lw_privs_ok : ∀ q ∈ lw_privs, lw_okq q := by
  show ∀ q ∈ lw_privs_1 ++ (lw_privs_2 ++ (lw_privs_3 ++ (lw_privs_4))), lw_okq q
  exact List.forall_mem_append.mpr ⟨lw_r1, List.forall_mem_append.mpr ⟨lw_r2, List.forall_mem_append.mpr ⟨lw_r3, lw_r4⟩⟩⟩
end
section
/-! Methods that may throw, over the machine: a contract with a code (0: it returned; else: an object of the class xN code was thrown), calls of such methods, throwing, catching. Own rows. -/
def xN (k : Nat) : String := if k = 1 then "java/lang/IllegalStateException" else if k = 2 then "java/lang/UnsupportedOperationException" else "java/lang/IndexOutOfBoundsException"
/-- how an invocation ended -/
def xE (k : Nat) (v : Option Value) (st : State) (o : Outcome) (t : State) : Prop :=
  (k = 0 ∧ o = .returned v) ∨ (k ≠ 0 ∧ ∃ (q : Addr) (ce : Cell), o = .threw q ∧ t.heap[q]? = some ce ∧ ce.vm = .none ∧ st.vm.findClass (xN k) = some ce.cls)
def xQ (k : Nat) (v : Option Value) (B : State → Prop) (A : Nat → Prop) (mc ms : Nat) (st : State) (o : Outcome) (t : State) : Prop :=
  xE k v st o t ∧ B t ∧ va_F A st t ∧ st.WarmedH t.vm ∧ ∃ L, st.sameButNew ({ t with vm := st.vm } : State) L mc ms ∧ ∀ z ∈ L, A z.base
def xMet (l : Launch) (y : MethodName) (ws : List Cond) (rm : Room) (Pc : Array Value → State → Prop) (k : Nat) (v : Option Value) (B : State → Prop) (A : Nat → Prop) (mc ms : Nat) : Prop :=
  MetFree l y (headSpec ws rm) Pc (fun _ _ _ _ _ => True) (fun _ st o t => xQ k v B A mc ms st o t)
def xMQ (below : List Frame) (k : Nat) (v : Option Value) (B : State → Prop) (A : Nat → Prop) (s : State) (mc ms : Nat) : State → Prop := fun t =>
  ∃ o, t.status = .running ∧ Ended t below o ∧ xQ k v B A mc ms s o t
/-- a walk on which the note 'q is thrown' lies over the frame g -/
def xW (p : Program) (l : Launch) (e : Env) (R : Room) (s : State) (m : MethodId) (args : Array Value) (below : List Frame) (meth : Method) (c : Code) (H : Heap) (locs : List Loc) (cells slots : Nat) (Q : State → Prop) (g : JFrame) (q : Addr) : Prop :=
  ∀ T : State, T.heap = H → Stand p l e R s m args below meth c T locs cells slots → ∃ t, Steps p.tables e below ((T.setTop g).pushFrame (.throwing q)) t ∧ Q t
/-- what a call of a method comes to: the point behind it, or the note over the frame -/
def xBack (l : Launch) (R : Room) (p : Program) (e : Env) (below : List Frame) (s : State) (sargs : Array Value) (y : MethodName) (W9 : Nat) (Pc : Array Value → State → Prop) (k : Nat) (v : Option Value) (B : State → Prop) (A : Nat → Prop) (mc ms : Nat) : Prop :=
  ∀ (m : MethodId) (meth : Method) (c : Code) (U : State) (Ls : List Loc) (c0 s0 : Nat) (g : JFrame) (ig : Instr) (mk : MethodId) (a : Array Value),
    Stand p l e R s m sargs below meth c U Ls c0 s0 → g.method = m → g.locals.size = c.maxLocals → decode c.code g.pc = .ok (ig, 3) →
    2 * g.monitorRoom + (g.stack.map fun v => v.category).sum ≤ W9 → U.methodNamed? y = some mk → c0 + mc ≤ R.cells → s0 + ms ≤ R.slots → Pc a (U.calling g mk a) →
    ∃ (t T' : State) (L : List Loc), Stand p l e R s m sargs below meth c T' (Ls ++ L) (c0 + mc) (s0 + ms) ∧ (∀ z ∈ L, A z.base) ∧ T'.heap = t.heap ∧ T'.vm = t.vm ∧ B t ∧ va_F A (U.calling g mk a) t ∧
      ((k = 0 ∧ Steps p.tables e below (doInvoke e (U.setTop g) [] mk a).1 (T'.setTop { g with pc := g.pc + 3, stack := v.toList ++ g.stack })) ∨
       (k ≠ 0 ∧ ∃ (q : Addr) (ce : Cell), t.heap[q]? = some ce ∧ ce.vm = .none ∧ U.vm.findClass (xN k) = some ce.cls ∧ Steps p.tables e below (doInvoke e (U.setTop g) [] mk a).1 ((T'.setTop g).pushFrame (.throwing q))))
section XPay
variable {l : Launch} {R : Room} {p : Program} {e : Env} {below : List Frame} {s : State} {sargs : Array Value} {y : MethodName} {W9 : Nat}
/-- out of the contract: what a call comes to -/
theorem x_back {ws : List Cond} {rm : Room} {Pc : Array Value → State → Prop} {k : Nat} {v : Option Value} {B : State → Prop} {A : Nat → Prop} {mc ms : Nat} {bytes : ByteArray} {maxL : Nat} {ret : Option FieldType}
    (hM : xMet l y ws rm Pc k v B A mc ms) (hrc : rm.cells = mc) (hrs : rm.slots = ms) (hframes : rm.frames + 1 ≤ R.frames) (hlocals : W9 + (maxL + 11) + rm.locals ≤ R.locals)
    (hws : ∀ w ∈ ws, ∀ a' U, s.WarmedH U.vm → w.before a' U = true) (hcode : Cond.code y bytes maxL ret ∈ ws) (hinit : ∀ a' U, s.WarmedH U.vm → (Cond.initialized y.cls).before a' U = true) :
    xBack l R p e below s sargs y W9 Pc k v B A mc ms := by
  intro m meth c U Ls c0 s0 g ig mk a X hg hsize hdg hW hn hcc hss hPc
  have hpre : (headSpec ws rm).pre.before a U = true := atoms_intro fun w hw => hws w hw _ _ X.warmed
  obtain ⟨methY, cY, hmY, hcY, -, hlY, -, -, -, -⟩ := Cond.code_spec hn (hws _ hcode a U X.warmed)
  obtain ⟨kY, hkY, -⟩ := className_of_methodNamed hn
  have hiniY : kY.init = .initialized := Cond.initialized_spec (findClass_of_methodNamed hn) hkY (hinit a U X.warmed)
  have hat : At U g.method c below := by rw [hg]; exact X.here
  have hlo : W9 + (maxL + 11) + (headSpec ws rm).room.locals ≤ R.locals := hlocals
  have happ : (headSpec ws rm).appliesLoose y e.platform (U.calling g mk a) = true :=
    Spec.appliesLoose_calling (g := g) hat hdg hn hkY hiniY
      (X.room_calling (g := g) (R' := (headSpec ws rm).room) hsize hmY hcY hframes (by rw [hlY]; omega) (by rw [show (headSpec ws rm).room.cells = mc from hrc]; exact hcc) (by rw [show (headSpec ws rm).room.slots = ms from hrs]; exact hss)) hpre
  obtain ⟨mid, hmid⟩ := hat.above
  have hfr : (U.setTop g).frames = (.java g :: mid) ++ below := by rw [State.frames_setTop' g hat.top, hmid]; rfl
  obtain ⟨o, s₂, hsteps, -, hend, hq⟩ := Steps.callFree hM p X.admits X.cas X.clock (acts := []) hfr happ hPc trivial
  have hq : xQ k v B A mc ms (U.calling g mk a) o s₂ := hq
  rw [State.frames_setTop' g hat.top] at hend
  obtain ⟨hE, hB, hF, hW₂, L, hsm, hL⟩ := hq
  obtain ⟨g₀, hg0⟩ := Option.isSome_iff_exists.mp hat.top
  obtain ⟨r, hr⟩ := State.topJava?_eq_some.mp hg0
  have hW' : U.WarmedH s₂.vm := hW₂
  obtain ⟨e2, q2, q3, q4, q5, q6⟩ := id hsm
  have e3 : s₂ = ({ (U.calling g mk a).setFrames s₂.frames with heap := s₂.heap, slotsUsed := s₂.slotsUsed } : State).setVm s₂.vm := by
    have : s₂ = ({ s₂ with vm := (U.calling g mk a).vm } : State).setVm s₂.vm := rfl
    rw [e2] at this
    exact this
  obtain ⟨V, hV⟩ : ∃ z, z = (({ U with heap := s₂.heap, slotsUsed := s₂.slotsUsed } : State).setVm s₂.vm) := ⟨_, rfl⟩
  have hr' : V.frames = .java g₀ :: r := by rw [hV]; exact hr
  have hsame : U.sameButNew ({ U with heap := s₂.heap, slotsUsed := s₂.slotsUsed } : State) L mc ms := by
    refine ⟨?_, q2, q3, q4, q5, q6⟩
    obtain ⟨t, ht, -⟩ := State.frames_cons hr
    show ({ U with heap := s₂.heap, slotsUsed := s₂.slotsUsed } : State) = { U.setFrames U.frames with heap := s₂.heap, slotsUsed := s₂.slotsUsed }
    rw [State.setFrames_self ht]
  subst hg
  have XV : Stand p l e R s g.method sargs below meth c V (Ls ++ L) (c0 + mc) (s0 + ms) := by
    rw [hV]
    exact ⟨X.admits, X.cas, X.clock, X.frames, X.room, X.hears, X.method, X.code, (X.here.setHeapUsed s₂.heap s₂.slotsUsed).setVm hW'.alike, X.tail, State.WarmedH.trans X.warmed hW', X.limits, X.bytes, X.same.trans (hsame.setVm s.vm)⟩
  refine ⟨s₂, V, L, XV, hL, by rw [hV]; rfl, by rw [hV]; rfl, hB, hF, ?_⟩
  rcases hE with ⟨hk, rfl⟩ | ⟨hk, q, ce, rfl, hce, hcv, hcl⟩
  · refine Or.inl ⟨hk, ?_⟩
    obtain ⟨c₂, i₂, len₂, hc₂, hd₂, hf₂⟩ := hend
    have hcc2 : c₂ = c := by
      have h1 : s₂.code? g.method = U.code? g.method := by
        rw [State.code?_eq, State.code?_eq, hW'.alike.method?]
      exact Option.some.inj (hc₂.symm.trans (h1.trans hat.code))
    subst hcc2
    have hlen : len₂ = 3 := by rw [hdg] at hd₂; cases hd₂; rfl
    subst hlen
    have hs₂ : s₂ = V.setTop { g with pc := g.pc + 3, stack := v.toList ++ g.stack } := by
      refine e3.trans ?_
      rw [State.setTop_of_frames _ hr', hV, hf₂, State.calling_eq hat.top, State.setFrames_setFrames, hr]
      rfl
    rw [← hs₂]
    exact hsteps
  · refine Or.inr ⟨hk, q, ce, hce, hcv, hcl, ?_⟩
    have hf₂ : s₂.frames = .throwing q :: .java g :: U.frames.tail := hend
    have hs₂ : s₂ = (V.setTop g).pushFrame (.throwing q) := by
      refine e3.trans ?_
      rw [State.pushFrame, State.frames_setTop _ hr', State.setTop_of_frames _ hr', State.setFrames_setFrames, hV, hf₂, State.calling_eq hat.top, State.setFrames_setFrames, hr]
      rfl
    rw [← hs₂]
    exact hsteps
end XPay
def xRun (p : Program) (l : Launch) (e : Env) (R : Room) (s : State) (m : MethodId) (args : Array Value) (below : List Frame) (meth : Method) (c : Code) (H : Heap) (locs : List Loc) (cells slots mc ms : Nat) (g : JFrame) (rest : List Value) (k : Nat) (v : Option Value) (B : State → Prop) (A : Nat → Prop) : Prop :=
  ∀ T : State, T.heap = H → Stand p l e R s m args below meth c T locs cells slots → ∃ (st₀ t T' : State) (L : List Loc), st₀.heap = H ∧ Stand p l e R s m args below meth c T' (locs ++ L) (cells + mc) (slots + ms) ∧ (∀ z ∈ L, A z.base) ∧ T'.heap = t.heap ∧ T'.vm = t.vm ∧ B t ∧ va_F A st₀ t ∧
    ((k = 0 ∧ Goes p e below T g T' { g with pc := g.pc + 3, stack := v.toList ++ rest }) ∨
     (k ≠ 0 ∧ ∃ (q : Addr) (ce : Cell), t.heap[q]? = some ce ∧ ce.vm = .none ∧ s.vm.findClass (xN k) = some ce.cls ∧ ∀ tg, Steps p.tables e below ((T'.setTop { g with stack := rest }).pushFrame (.throwing q)) tg → Steps p.tables e below (T.setTop g) tg))
section XCall
variable {p : Program} {l : Launch} {e : Env} {R : Room} {s : State} {m : MethodId} {args : Array Value} {below : List Frame} {meth : Method} {c : Code} {H : Heap} {locs : List Loc} {cells slots : Nat} {Q : State → Prop}
variable {y : MethodName} {bytes cc : ByteArray} {maxL nL mc ms n index : Nat} {ret : Option FieldType} {ws : List Cond} {rm : Room} {Pc : Array Value → State → Prop} {Ts : List Cond} {own C host : String} {b : Addr} {As rest : List Value} {g : JFrame} {k : Nat} {v : Option Value} {B : State → Prop} {A : Nat → Prop} {a : Array Value}
/-- a call, its first step at hand -/
theorem x_run (hK : xBack l R p e below s args y 8 Pc k v B A mc ms) (hg : g.method = m) (hsize : g.locals.size = c.maxLocals) (hW : 2 * g.monitorRoom + (rest.map fun v => v.category).sum ≤ 8) (hf : cells + mc ≤ R.cells ∧ slots + ms ≤ R.slots)
    (hPc : FrameBlind Pc ∧ ∀ U : State, U.heap = H → s.WarmedH U.vm → Pc a U)
    (hst : ∀ T : State, T.heap = H → Stand p l e R s m args below meth c T locs cells slots → ∃ (vm₁ : Vm) (mk : MethodId) (ig : Instr), Stand p l e R s m args below meth c (T.setVm vm₁) locs cells slots ∧ decode c.code g.pc = .ok (ig, 3) ∧ (T.setVm vm₁).methodNamed? y = some mk ∧
      ∀ tg, (∀ acts, Steps p.tables e below (doInvoke e ((T.setVm vm₁).setTop { g with stack := rest }) acts mk a).1 tg) → Steps p.tables e below (T.setTop g) tg) :
    xRun p l e R s m args below meth c H locs cells slots mc ms g rest k v B A := by
  intro T hT X
  obtain ⟨vm₁, mk, ig, X₁, hd, hn, hs1⟩ := hst T hT X
  obtain ⟨t, T', L, X', hL, e1, e2, hB, hF, hend⟩ := hK m meth c (T.setVm vm₁) locs cells slots { g with stack := rest } ig mk a X₁ hg hsize hd hW hn hf.1 hf.2 (hPc.1 _ _ _ _ (hPc.2 (T.setVm vm₁) hT X₁.warmed))
  refine ⟨(T.setVm vm₁).calling { g with stack := rest } mk a, t, T', L, hT, X', hL, e1, e2, hB, hF, ?_⟩
  rcases hend with ⟨hk, h⟩ | ⟨hk, q, ce, h1, h2, h3, h⟩
  · exact Or.inl ⟨hk, fun tg htg => hs1 tg fun acts => by rw [doInvoke_state]; exact h.trans htg⟩
  · refine Or.inr ⟨hk, q, ce, h1, h2, ?_, fun tg htg => hs1 tg fun acts => by rw [doInvoke_state]; exact h.trans htg⟩
    have h4 : (T.setVm vm₁).vm.findClass (xN k) = some ce.cls := h3
    rwa [X₁.warmed.alike.findClass] at h4
/-- invokevirtual, the class's own name -/
theorem x_runV (S : CallFix p m c cc nL s args Ts own) (hM : xMet l y ws rm Pc k v B A mc ms) (cw : CallW R s args own C index y bytes maxL ret ws rm mc ms n) (hp : PreV s H C b Pc As)
    (hg : g.method = m) (hn : As.length = n) (hsize : g.locals.size = nL) (hstack : g.stack = As.reverse ++ .ref b :: rest) (hW : 2 * g.monitorRoom + (rest.map fun v => v.category).sum ≤ 8) (hdg : decode cc g.pc = .ok (.invokevirtual index, 3)) (hf : cells + mc ≤ R.cells ∧ slots + ms ≤ R.slots) :
    xRun p l e R s m args below meth c H locs cells slots mc ms g rest k v B A := by
  obtain ⟨⟨hrc, hrs, hfr, hlo, hws, hcw, hcode, hini, hy, hlen, hl⟩, hin, hse⟩ := cw
  obtain ⟨hx, hb, hml, ho, -⟩ := S
  obtain ⟨hbl, ⟨cellB, hcB, hoB, hclB⟩, hPc⟩ := hp
  refine x_run (x_back (bytes := bytes) (maxL := maxL) (ret := ret) hM hrc hrs hfr hlo hws hcw (fun a' U hW => word_at hW (Or.inl (by first | rfl | simp [Cond.onTables, Cond.keeps, Cond.steady])) hini)) hg (hsize.trans hml.symm) hW hf ⟨hbl, hPc⟩ ?_
  intro T hT X
  obtain ⟨mk, methM, hnamed, hmethM, hstM, habM⟩ := Cond.instanceMethod_spec hin
  obtain ⟨methM', cM, hmethM', -, -, -, -, -, -, hsigM⟩ := Cond.code_spec hnamed hcode
  cases hmethM.symm.trans hmethM'
  obtain ⟨c2, r2, m2, q1, q2, q3, q4, kP, hkP, hkPi⟩ := Cond.selects_spec hse
  cases hclB.symm.trans q1
  cases (State.methodFound?_of_named hnamed hy).symm.trans q2
  cases hnamed.symm.trans q3
  have hselP : selectMethod e.platform s.vm cellB.cls mk = .method mk := by rw [Launch.admits_selectMethod X.admits]; exact q4
  obtain ⟨vm₁, X₁, hstep₁⟩ := X.invokevirtual hx ho hl hnamed hmethM hstM hkP hkPi hy (a := b) (cell := cellB) (by rw [hT]; exact hcB)
    (fun z h => by rw [h] at hoB; cases hoB) hselP hmethM habM hkP hkPi (g := g) hg (argsL := As) (rest := rest) (hn.trans (hlen _ hsigM)) hstack (by rw [hb]; exact hdg)
  exact ⟨vm₁, mk, .invokevirtual index, X₁, by rw [hb]; exact hdg, X₁.named hnamed, hstep₁⟩
/-- invokevirtual of a nest mate's -/
theorem x_runVN (S : CallFix p m c cc nL s args Ts own) (hM : xMet l y ws rm Pc k v B A mc ms) (cw : va_CN R s args own index y host bytes maxL ret ws rm mc ms n ∧ (Cond.instanceMethod y).before args s = true ∧ (Cond.selects C y y).before args s = true) (hp : PreV s H C b Pc As)
    (hg : g.method = m) (hn : As.length = n) (hsize : g.locals.size = nL) (hstack : g.stack = As.reverse ++ .ref b :: rest) (hW : 2 * g.monitorRoom + (rest.map fun v => v.category).sum ≤ 8) (hdg : decode cc g.pc = .ok (.invokevirtual index, 3)) (hf : cells + mc ≤ R.cells ∧ slots + ms ≤ R.slots) :
    xRun p l e R s m args below meth c H locs cells slots mc ms g rest k v B A := by
  obtain ⟨⟨⟨hrc, hrs, hfr, hlo, hws, hcw⟩, hcode, hini, hy, hlen, hl⟩, hin, hse⟩ := cw
  obtain ⟨hx, hb, hml, ho, -⟩ := S
  obtain ⟨hbl, ⟨cellB, hcB, hoB, hclB⟩, hPc⟩ := hp
  refine x_run (x_back (bytes := bytes) (maxL := maxL) (ret := ret) hM hrc hrs hfr hlo hws hcw (fun a' U hW => word_at hW (Or.inl (by first | rfl | simp [Cond.onTables, Cond.keeps, Cond.steady])) hini)) hg (hsize.trans hml.symm) hW hf ⟨hbl, hPc⟩ ?_
  intro T hT X
  obtain ⟨mk, methM, hnamed, hmethM, hstM, habM⟩ := Cond.instanceMethod_spec hin
  obtain ⟨methM', cM, hmethM', -, -, -, -, -, -, hsigM⟩ := Cond.code_spec hnamed hcode
  cases hmethM.symm.trans hmethM'
  obtain ⟨c2, r2, m2, q1, q2, q3, q4, kP, hkP, hkPi⟩ := Cond.selects_spec hse
  cases hclB.symm.trans q1
  cases (State.methodFound?_of_named hnamed hy).symm.trans q2
  cases hnamed.symm.trans q3
  have hselP : selectMethod e.platform s.vm cellB.cls mk = .method mk := by rw [Launch.admits_selectMethod X.admits]; exact q4
  obtain ⟨vm₁, X₁, hstep₁⟩ := X.invokevirtualNest hx ho hl hnamed hmethM hstM hkP hkPi hy (a := b) (cell := cellB) (by rw [hT]; exact hcB)
    (fun z h => by rw [h] at hoB; cases hoB) hselP hmethM habM hkP hkPi (g := g) hg (argsL := As) (rest := rest) (hn.trans (hlen _ hsigM)) hstack (by rw [hb]; exact hdg)
  exact ⟨vm₁, mk, .invokevirtual index, X₁, by rw [hb]; exact hdg, X₁.named hnamed, hstep₁⟩
/-- invokestatic -/
theorem x_runS (S : CallFix p m c cc nL s args Ts own) (hM : xMet l y ws rm Pc k v B A mc ms) (cw : CallB R s args own index y bytes maxL ret ws rm mc ms n ∧ (Cond.static y).before args s = true) (hp : PreS s H Pc As)
    (hg : g.method = m) (hn : As.length = n) (hsize : g.locals.size = nL) (hstack : g.stack = As.reverse ++ rest) (hW : 2 * g.monitorRoom + (rest.map fun v => v.category).sum ≤ 8) (hdg : decode cc g.pc = .ok (.invokestatic index, 3)) (hf : cells + mc ≤ R.cells ∧ slots + ms ≤ R.slots) :
    xRun p l e R s m args below meth c H locs cells slots mc ms g rest k v B A := by
  obtain ⟨⟨hrc, hrs, hfr, hlo, hws, hcw, hcode, hini, hy, hlen, hl⟩, hstt⟩ := cw
  obtain ⟨hx, hb, hml, ho, -⟩ := S
  refine x_run (x_back (bytes := bytes) (maxL := maxL) (ret := ret) hM hrc hrs hfr hlo hws hcw (fun a' U hW => word_at hW (Or.inl (by first | rfl | simp [Cond.onTables, Cond.keeps, Cond.steady])) hini)) hg (hsize.trans hml.symm) hW hf hp ?_
  intro T hT X
  obtain ⟨mk, hnamed⟩ := Cond.code_named hcode
  obtain ⟨methM, cM, hmethM, -, -, -, -, -, -, hsigM⟩ := Cond.code_spec hnamed hcode
  have hstatic : methM.isStatic = true := Cond.static_spec hnamed hmethM hstt
  obtain ⟨kP, hkP, -⟩ := className_of_methodNamed hnamed
  have hinitP : kP.init = .initialized := Cond.initialized_spec (findClass_of_methodNamed hnamed) hkP hini
  obtain ⟨vm₁, X₁, hstep₁⟩ := X.invokestatic hx ho hl hnamed hmethM hstatic hkP hinitP hy (g := g) hg (argsL := As) (rest := rest) (hn.trans (hlen _ hsigM)) hstack (by rw [hb]; exact hdg)
  exact ⟨vm₁, mk, .invokestatic index, X₁, by rw [hb]; exact hdg, X₁.named hnamed, hstep₁⟩
/-- behind the call: it goes on, or the note lies over the frame -/
theorem x_call {pc : Nat} {ls : Array Slot} {st0 : List Value} {H0 : Heap} (hr : xRun p l e R s m args below meth c H locs cells slots mc ms (F0 m pc ls st0) rest k v B A) (hS : va_S A H0 H locs)
    (kn : k = 0 → ∀ (t : State) (H1 : Heap) (locs1 : List Loc), t.heap = H1 → s.WarmedH t.vm → B t → H.size ≤ H1.size → va_S A H0 H1 locs1 → W p l e R s m args below meth c H1 locs1 (cells + mc) (slots + ms) Q (F0 m (pc + 3) ls (v.toList ++ rest)))
    (kx : k ≠ 0 → ∀ (q : Addr) (ce : Cell) (t : State) (H1 : Heap) (locs1 : List Loc), t.heap = H1 → s.WarmedH t.vm → B t → H.size ≤ H1.size → va_S A H0 H1 locs1 → H1[q]? = some ce → ce.vm = .none → s.vm.findClass (xN k) = some ce.cls →
      xW p l e R s m args below meth c H1 locs1 (cells + mc) (slots + ms) Q (F0 m pc ls rest) q) : W p l e R s m args below meth c H locs cells slots Q (F0 m pc ls st0) := by
  intro T hT X
  obtain ⟨st₀, t, T', L, h0, X', hL, e1, e2, hB, ⟨hz, hk⟩, hend⟩ := hr T hT X
  rw [h0] at hz hk
  have hS' : va_S A H0 T'.heap (locs ++ L) := ⟨Nat.le_trans hS.1 (by rw [e1]; exact hz), fun q h1 h2 => by rw [e1, hk q (Nat.lt_of_lt_of_le h1 hS.1) h2]; exact hS.2.1 q h1 h2, fun q hq => by
    rcases List.mem_append.mp hq with h | h
    · exact hS.2.2 q h
    · exact hL q h⟩
  have hWt : s.WarmedH t.vm := by rw [← e2]; exact X'.warmed
  rcases hend with ⟨hk0, hgo⟩ | ⟨hk0, q, ce, h1, h2, h3, hgo⟩
  · obtain ⟨t2, a1, b1⟩ := kn hk0 t T'.heap (locs ++ L) e1.symm hWt hB (by rw [e1]; exact hz) hS' T' rfl X'
    exact ⟨t2, hgo t2 a1, b1⟩
  · obtain ⟨t2, a1, b1⟩ := kx hk0 q ce t T'.heap (locs ++ L) e1.symm hWt hB (by rw [e1]; exact hz) hS' (by rw [e1]; exact h1) h2 h3 T' rfl X'
    exact ⟨t2, hgo t2 a1, b1⟩
/-- no handler here: the method throws it on -/
theorem x_out {pc : Nat} {ls : Array Slot} {q : Addr} {ce : Cell} (hout : ∀ x ∈ c.exceptionTable.toList, covers x pc = false) (hlocks : meth.locks = false) (hk : k ≠ 0) (hcell : H[q]? = some ce) (hv : ce.vm = .none) (hcl : s.vm.findClass (xN k) = some ce.cls)
    (hB : ∀ t : State, t.heap = H → s.WarmedH t.vm → B t) (hS : va_S A s.heap H locs) (hc : cells ≤ mc) (hs : slots ≤ ms) :
    xW p l e R s m args below meth c H locs cells slots (xMQ below k v B A s mc ms) (F0 m pc ls rest) q := by
  intro T hT X
  obtain ⟨st1, hrun, hend, hW, hsm⟩ := X.leaveThrown q (g := F0 m pc ls rest) rfl rfl rfl hout hlocks
  have hcell9 : (T.setFrames (.throwing q :: below)).heap[q]? = some ce := by
    show T.heap[q]? = some ce
    rw [hT]; exact hcell
  exact ⟨_, st1, .threw q, hrun, hend, Or.inr ⟨hk, q, ce, rfl, hcell9, hv, hcl⟩, hB _ hT hW, hS.F hT, hW, locs, hsm.mono hc hs, hS.2.2⟩
/-- it returned -/
theorem x_ret (w : W p l e R s m args below meth c H locs cells slots (MQ below (fun _ st o t => (o = .returned v ∧ B t) ∧ va_F A st t) args s mc ms A) g) : W p l e R s m args below meth c H locs cells slots (xMQ below 0 v B A s mc ms) g := by
  intro T hT X
  obtain ⟨t, a1, o, b1, b2, ⟨⟨rfl, b3⟩, b4⟩, L, ⟨-, f2, f3⟩, hL⟩ := w T hT X
  exact ⟨t, a1, .returned v, b1, b2, Or.inl ⟨rfl, rfl⟩, b3, b4, f2, L, f3, hL⟩
end XCall
/-- the contract out of the walk of the body -/
theorem x_ofW {l : Launch} {y : MethodName} {ws ws' : List Cond} {rm : Room} {Pc : Array Value → State → Prop} {k : Nat} {v : Option Value} {B : State → Prop} {A : Nat → Prop} {mc ms : Nat} {cc : ByteArray} {maxL : Nat} {ret : Option FieldType}
    (hy : plainName y.cls = true) (hw : ws = Cond.code y cc maxL ret :: ws')
    (body : ∀ p e s m args below meth c s₁, BodyLoose p l y (headSpec ws rm) cc maxL ret e s m args below meth c s₁ → c.maxLocals = maxL → (∀ x ∈ c.exceptionTable.toList, False) → Pc args s →
      W p l e (headSpec ws rm).room s m args below meth c s.heap [] 0 0 (xMQ below k v B A s mc ms) (entryFrame m args maxL)) : xMet l y ws rm Pc k v B A mc ms := by
  refine MetFree.of_bodyS (code := cc) (maxLocals := maxL) (ret := ret) hy ?_ ?_
  · intro args s m h hn
    obtain ⟨meth, c, h1, h2, h3, h4, h5, h6, -, -⟩ := Cond.code_spec hn (atoms_spec (ws := ws) h _ (by rw [hw]; exact List.mem_cons_self))
    exact ⟨meth, c, h1, h2, h3, h4, h5, h6⟩
  · intro p e s m args below meth c s₁ B9 hml hP _
    have hh0 : s₁.heap = s.heap := by rw [B9.state]; rfl
    have ht : ∀ x ∈ c.exceptionTable.toList, False := by
      obtain ⟨meth9, c9, h1, h2, -, -, -, -, h7, -⟩ := Cond.code_spec B9.named (atoms_spec (ws := ws) B9.pre _ (by rw [hw]; exact List.mem_cons_self))
      cases Option.some.inj (h1.symm.trans B9.method)
      cases Option.some.inj (h2.symm.trans (Stand.of_body B9).code)
      intro x hx
      rw [Array.isEmpty_iff.mp h7] at hx
      cases hx
    obtain ⟨t, a1, o, b1, b2, b3⟩ := body p e s m args below meth c s₁ B9 hml ht hP s₁ hh0 (Stand.of_body B9)
    exact ⟨t, o, a1, b1, b2, b3⟩
/-- a static field that holds a reference or null; its cell lies outside A -/
def xS (C n d : String) (A : Nat → Prop) (U : State) (H : Heap) : Prop := ∃ (cf : ClassId) (kf : Class) (i : Nat) (f : Field) (a : Nat) (cell : Cell), U.vm.findClass C = some cf ∧ U.fieldFound? C n d = some (cf, kf, i, f) ∧ f.isStatic = true ∧ kf.statics = some a ∧ H[a]? = some cell ∧ cell.vm.isStatics = true ∧ cell.cls = cf ∧ f.slot < cell.slots.size ∧ kf.staticTypes[f.slot]? = some f.type ∧ (∃ v : Value, cell.slots[f.slot]? = some v ∧ v.isRef = true) ∧ ¬ A a
theorem xS.moved {C n d : String} {A : Nat → Prop} {u U : State} {H : Heap} (hvm : u.vm.Alike U.vm) (h : xS C n d A u H) : xS C n d A U H := by
  obtain ⟨cf, kf, i, f, a, cell, h1, h2, h3, h4, h5, h6, h7, h8, h9, h10⟩ := h
  obtain ⟨k', hi', he⟩ := State.fieldFound?_setVm hvm h2
  exact ⟨cf, k', i, f, a, cell, by rw [hvm.findClass]; exact h1, hi', h3, by rw [he]; exact h4, h5, h6, h7, h8, by rw [he]; exact h9, h10⟩
theorem xS.kept {C n d : String} {A : Nat → Prop} {U : State} {H H1 : Heap} (h : xS C n d A U H) (hq : ∀ a : Nat, a < H.size → ¬ A a → H1[a]? = H[a]?) : xS C n d A U H1 := by
  obtain ⟨cf, kf, i, f, a, cell, h1, h2, h3, h4, h5, h6⟩ := h
  exact ⟨cf, kf, i, f, a, cell, h1, h2, h3, h4, by rw [hq a (Array.getElem?_eq_some_iff.mp h5).1 h6.2.2.2.2.2]; exact h5, h6⟩
theorem xS.lays {C n d : String} {A : Nat → Prop} {s : State} {args : Array Value} (h : xS C n d A s s.heap) : (Cond.laysStatic C n d).before args s = true := by
  obtain ⟨cf, kf, i, f, a, cell, h1, h2, h3, h4, h5, h6, h7, h8, h9, -⟩ := h
  show (Cond.laysStatic C n d).holds args s none s [] = true
  exact Cond.laysStatic_of h1 h2 h3 h4 h5 h6 h7 h8 h9
theorem xS.isRef {C n d : String} {A : Nat → Prop} {s : State} {args : Array Value} (h : xS C n d A s s.heap) : (Cond.isRef (.static C n d)).before args s = true := by
  obtain ⟨cf, kf, i, f, a, cell, h1, h2, h3, h4, h5, h6, h7, h8, h9, ⟨v, hv, hr⟩, -⟩ := h
  have he : (Term.static C n d).eval args s none [] s = some v := by
    simp [Term.eval, State.fieldNamed?, h2, h3, h4, h5, h6, hv]
  simp only [Cond.before, Cond.holds, Cond.value, he]
  cases v <;> simp_all [Value.isRef]
theorem xS.of {C n d : String} {A : Nat → Prop} {s : State} {args : Array Value} (hl : (Cond.laysStatic C n d).before args s = true) (hr : (Cond.isRef (.static C n d)).before args s = true) (hA : ∀ a : Nat, a < s.heap.size → ¬ A a) : xS C n d A s s.heap := by
  obtain ⟨cf, kf, i, f, a, cell, h1, h2, h3, h4, h5, h6, h7, h8, h9⟩ := Cond.laysStatic_spec hl
  refine ⟨cf, kf, i, f, a, cell, h1, h2, h3, h4, h5, h6, h7, h8, h9, ?_, hA a (Array.getElem?_eq_some_iff.mp h5).1⟩
  obtain ⟨v, hv⟩ : ∃ v, cell.slots[f.slot]? = some v := ⟨_, Array.getElem?_eq_getElem h8⟩
  refine ⟨v, hv, ?_⟩
  have he : (Term.static C n d).eval args s none [] s = some v := by
    simp [Term.eval, State.fieldNamed?, h2, h3, h4, h5, h6, hv]
  simp only [Cond.before, Cond.holds, Cond.value, he] at hr
  cases v <;> simp_all [Value.isRef]
section XThrow
variable {p : Program} {l : Launch} {e : Env} {R : Room} {s : State} {m : MethodId} {args : Array Value} {below : List Frame} {meth : Method} {c : Code} {H : Heap} {locs : List Loc} {cells slots : Nat}
/-- the state in which this very method would be called now, in this heap: what it was called in, but for the heap -/
def xNow (s T : State) (m : MethodId) (args : Array Value) (below : List Frame) : State := (T.setVm s.vm).setFrames (.invoking m args :: below)
theorem x_nowF {T : State} (X : Stand p l e R s m args below meth c T locs cells slots) : (xNow s T m args below).frames = .invoking m args :: below :=
  State.frames_setFrames _ (State.cur_lt_of_top (show (T.setVm s.vm).topJava?.isSome from X.here.top))
theorem x_nowSame {T : State} (X : Stand p l e R s m args below meth c T locs cells slots) : (xNow s T m args below).sameButNew (T.setVm (xNow s T m args below).vm) [] 0 0 := by
  obtain ⟨g₀, hfr⟩ := X.frames_eq
  have hfr' : (T.setVm s.vm).frames = .java g₀ :: below := hfr
  obtain ⟨t, ht, -⟩ := State.frames_cons hfr'
  obtain ⟨t', ht', -⟩ := State.frames_cons (x_nowF X)
  have h := (State.sameButNew.refl (xNow s T m args below) ht').setFrames (T.setVm s.vm).frames (State.cur_lt_of_frames (x_nowF X))
  unfold xNow at h
  rw [State.setFrames_setFrames, State.setFrames_self ht] at h
  exact h
theorem x_nowRoom {T : State} (X : Stand p l e R s m args below meth c T locs cells slots) {R' : Room} (hf : R'.frames ≤ R.frames) (hl : R'.locals ≤ R.locals) (hc : cells + R'.cells ≤ R.cells) (hs : slots + R'.slots ≤ R.slots) :
    (xNow s T m args below).hasRoom e.platform R' = true := by
  have h := X.room
  have hU : (xNow s T m args below).localsInUse = s.localsInUse := by
    rw [State.localsInUse_invoking (x_nowF X) (meth := meth) (c := c) X.method X.code, State.localsInUse_invoking X.frames X.method X.code]
  have h1 : e.platform.stackLimits (xNow s T m args below).me = e.platform.stackLimits s.me := by
    unfold xNow; rw [State.stackLimits_setFrames]; exact X.limits
  have h2 : (xNow s T m args below).me.stackBytes = s.me.stackBytes := by
    unfold xNow; rw [State.stackBytes_setFrames]; exact X.bytes
  have z1 := X.heapSize
  have z2 := X.used
  have z3 : (xNow s T m args below).heap = T.heap := rfl
  have z4 : (xNow s T m args below).slotsUsed = T.slotsUsed := rfl
  have z5 : (xNow s T m args below).slotsTrue = true := X.book
  simp only [State.hasRoom, Bool.and_eq_true, decide_eq_true_eq] at h ⊢
  rw [X.frames] at h
  rw [x_nowF X, hU, h1, h2, z3, z4]
  simp only [List.length_cons] at h ⊢
  obtain ⟨⟨⟨⟨q1, q2, q3, q4, q5, q6⟩, q7⟩, q8⟩, -⟩ := h
  exact ⟨⟨⟨⟨by omega, by omega, by omega, by omega, by omega, q6⟩, by omega⟩, by omega⟩, z5⟩
/-- the walk goes on as one of that call -/
theorem x_now {T : State} (X : Stand p l e R s m args below meth c T locs cells slots) {R' : Room} (hf : R'.frames ≤ R.frames) (hl : R'.locals ≤ R.locals) (hc : cells + R'.cells ≤ R.cells) (hs : slots + R'.slots ≤ R.slots) :
    Stand p l e R' (xNow s T m args below) m args below meth c T [] 0 0 :=
  ⟨X.admits, X.cas, X.clock, x_nowF X, x_nowRoom X hf hl hc hs, X.hears, X.method, X.code, X.here, X.tail, X.warmed,
    by unfold xNow; rw [State.stackLimits_setFrames]; rfl, by unfold xNow; rw [State.stackBytes_setFrames]; rfl, x_nowSame X⟩
end XThrow
/-- words that stay true of warmer tables, and speak of the tables alone -/
def xGood : Cond → Bool
  | .fieldLinkNest .. | .methodLinkNest .. | .castable .. | .declares _ => true
  | .not (.castable ..) => true
  | .arrayClass _ => true
  | w => w.onTables && w.keeps
theorem x_wordAt {args a' : Array Value} {s U : State} (hW : s.WarmedH U.vm) {w : Cond} (hg : xGood w = true) (h : w.before args s = true) : w.before a' U = true := by
  have hcast : ∀ w : Cond, w.castAtom = true → w.before args s = true → w.before args (s.setVm U.vm) = true := fun w hc hh => Cond.castAtom_setVm hW.alike w hc hh
  unfold xGood at hg
  split at hg
  · exact va_tabs rfl (rfl : (s.setVm U.vm).vm = U.vm) (Cond.fieldLinkNest_warmed (args := args) hW h)
  · exact va_tabs rfl (rfl : (s.setVm U.vm).vm = U.vm) (Cond.methodLinkNest_warmed (args := args) hW h)
  · exact va_tabs rfl (rfl : (s.setVm U.vm).vm = U.vm) (by rw [Cond.castable_setVm hW.alike]; exact h)
  · exact va_tabs rfl (rfl : (s.setVm U.vm).vm = U.vm) (by rw [Cond.declares_setVm hW.alike]; exact h)
  · have h1 := hcast _ rfl h
    simp only [Cond.before, Cond.holds, Cond.value] at h1 ⊢
    exact h1
  · exact word_at hW (Or.inr ⟨_, rfl⟩) h
  · exact word_at hW (Or.inl hg) h
section XThrow2
variable {p : Program} {l : Launch} {e : Env} {R : Room} {s : State} {m : MethodId} {args : Array Value} {below : List Frame} {meth : Method} {c : Code} {H : Heap} {locs : List Loc} {cells slots : Nat}
/-- not one of the four words of a throw that speak of the heap -/
def xTab (w : Cond) : Bool := match w with
  | .isRef _ => false
  | .laysStatic .. => false
  | _ => true
theorem x_ownW {own : String} {ic : Nat} {E : String} {names : List String} {A : Nat → Prop} {s : State} (h : ∀ w ∈ (Bundle.ownAtoms own ic E names).filter xTab, w.before args s = true)
    (hU : xS Bundle.tN "UNASSIGNED_STACK" Bundle.steD A s s.heap) (hN : xS Bundle.tN "SUPPRESSED_SENTINEL" Bundle.listD A s s.heap) : ∀ w ∈ Bundle.ownAtoms own ic E names, w.before args s = true := by
  intro w hw
  by_cases ht : xTab w = true
  · exact h w (List.mem_filter.mpr ⟨hw, ht⟩)
  · simp only [Bundle.ownAtoms, Bundle.throwableAtoms, Bundle.throwableSAtoms, List.mem_append, List.mem_cons, List.not_mem_nil, or_false] at hw
    have hch : ∀ (ns : List String) (Y : String), w ∈ Bundle.chainSAtoms Y ns → xTab w = true := by
      intro ns
      induction ns with
      | nil =>
        intro Y hY
        simp only [Bundle.chainSAtoms, Bundle.passSAtoms, List.mem_cons, List.not_mem_nil, or_false] at hY
        rcases hY with rfl | rfl | rfl | rfl | rfl <;> rfl
      | cons n ns ih =>
        intro Y hY
        simp only [Bundle.chainSAtoms, List.mem_append] at hY
        rcases hY with hY | hY
        · simp only [Bundle.passSAtoms, List.mem_cons, List.not_mem_nil, or_false] at hY
          rcases hY with rfl | rfl | rfl | rfl | rfl <;> rfl
        · exact ih n hY
    rcases hw with ((hw | hw) | hw) | hw
    · rcases hw with rfl | rfl | rfl | rfl | rfl | rfl | rfl | rfl | rfl | rfl | rfl | rfl | rfl | rfl | rfl | rfl | rfl | rfl | rfl | rfl | rfl | rfl | rfl | rfl <;> first | exact hU.lays | exact hN.lays | exact absurd rfl ht
    · rcases hw with rfl | rfl | rfl | rfl <;> exact absurd rfl ht
    · exact absurd (hch names E hw) ht
    · rcases hw with rfl | rfl | rfl | rfl | rfl | rfl | rfl | rfl | rfl | rfl | rfl | rfl | rfl | rfl <;> first | exact hU.isRef | exact hN.isRef | exact absurd rfl ht
theorem x_sameHeap {U : State} {n r : Nat} (h : s.sameButNew ({ U with vm := s.vm } : State) [] n r) : s.heap.size ≤ U.heap.size ∧ ∀ q : Nat, q < s.heap.size → U.heap[q]? = s.heap[q]? := by
  obtain ⟨-, h2, -, -, -, h6⟩ := h
  refine ⟨h2, fun q hq => ?_⟩
  obtain ⟨c9, e1, e2, -, e4⟩ := h6 q _ (Array.getElem?_eq_getElem hq)
  have hs : c9.slots = (s.heap[q]).slots := Array.ext_getElem? fun i => e4 i (fun hm => nomatch hm)
  rw [hs] at e2
  have e5 : U.heap[q]? = some c9 := e1
  rw [e5, Array.getElem?_eq_getElem hq]
  exact congrArg some e2
/-- throw new E("text") -/
theorem x_throw {cc : ByteArray} {pc : Nat} {ls : Array Slot} {rest : List Value} (hexec : p.tables.exec = Jvm.exec) (hb : c.code = cc) (hl : l.stackTraces = false) {own text : String} {names : List String} {ik is ic mc ms sa k : Nat} {v : Option Value} {B : State → Prop} {A : Nat → Prop}
    (hown : s.vm.findClass own = some m.cls) (hfit : Bundle.fit (xN k) = true) (hnames : ∀ n ∈ names, Bundle.fit n = true) (hk0 : k ≠ 0)
    (hw : ∀ w ∈ Cond.classLink own ik (xN k) :: Cond.initialized (xN k) :: (Bundle.ownAtoms own ic (xN k) names).filter xTab, w.before args s = true ∧ w.onTables = true) (hstr : vk_R own is text sa s)
    (hU : xS Bundle.tN "UNASSIGNED_STACK" Bundle.steD A s s.heap) (hN : xS Bundle.tN "SUPPRESSED_SENTINEL" Bundle.listD A s s.heap) (hS : va_S A s.heap H locs) (hsize : ls.size = c.maxLocals)
    (d0 : decode cc pc = .ok (.new ik, 3)) (d3 : decode cc (pc + 3) = .ok (.dup, 1)) (d4 : decode cc (pc + 4) = .ok (.ldc is, 2)) (d6 : decode cc (pc + 6) = .ok (.invokespecial ic, 3)) (d9 : decode cc (pc + 9) = .ok (.athrow, 1))
    (hout : ∀ x ∈ c.exceptionTable.toList, covers x (pc + 9) = false) (hRf : names.length + 3 < R.frames) (hRl : (rest.map fun v => v.category).sum + (13 * (names.length + 1) + 43) ≤ R.locals) (hRc : cells + 1 ≤ R.cells) (hRs : slots + 6 ≤ R.slots) (hlocks : meth.locks = false)
    (hB : ∀ t : State, s.WarmedH t.vm → H.size ≤ t.heap.size → (∀ q : Nat, q < H.size → t.heap[q]? = H[q]?) → B t) (hc : cells + 1 ≤ mc) (hs : slots + 6 ≤ ms) :
    W p l e R s m args below meth c H locs cells slots (xMQ below k v B A s mc ms) (F0 m pc ls rest) := by
  intro T hT X
  have htr : e.platform.stackTraces = false := (show e.platform.stackTraces = l.stackTraces by rw [X.admits.platform]).trans hl
  have Y := x_now X (R' := { frames := R.frames, locals := R.locals, cells := 1, slots := 6 }) (Nat.le_refl _) (Nat.le_refl _) hRc hRs
  obtain ⟨z, hz⟩ : ∃ z, z = xNow s T m args below := ⟨_, rfl⟩
  rw [← hz] at Y
  have zv : z.vm = s.vm := by rw [hz]; rfl
  have zh : z.heap = H := by rw [hz]; exact hT
  have zW : s.WarmedH z.vm := by rw [zv]; exact State.WarmedH.refl s
  have zw : ∀ w ∈ Cond.classLink own ik (xN k) :: Cond.initialized (xN k) :: (Bundle.ownAtoms own ic (xN k) names).filter xTab, w.before args z = true := fun w h => va_tabs (hw w h).2 zv.symm (hw w h).1
  have zU : xS Bundle.tN "UNASSIGNED_STACK" Bundle.steD A z z.heap := by rw [zh]; exact (hU.kept hS.2.1).moved zW.alike
  have zN : xS Bundle.tN "SUPPRESSED_SENTINEL" Bundle.listD A z z.heap := by rw [zh]; exact (hN.kept hS.2.1).moved zW.alike
  have zo : ∀ w ∈ Bundle.ownAtoms own ic (xN k) names, w.before args z = true := x_ownW (fun w h => zw w (List.mem_cons_of_mem _ (List.mem_cons_of_mem _ h))) zU zN
  have zown : z.vm.findClass own = some m.cls := by rw [zv]; exact hown
  obtain ⟨vm₁, cX, kX, hfX, hkX, -, -, X₁, st1⟩ := Y.newCold hexec (own := own) (C := xN k) (index := ik) (n := 6) zown (zw _ List.mem_cons_self) (zo _ (by simp [Bundle.ownAtoms])) (zw _ (List.mem_cons_of_mem _ List.mem_cons_self))
    (g := F0 m pc ls rest) rfl (by rw [hb]; exact d0) (Nat.le_refl _) (Nat.le_refl _)
  generalize hT1 : (T.setVm vm₁).pushCell { cls := cX, slots := kX.instanceTypes.map defaultValue, vm := .none } = T1 at X₁ st1
  have hcellA : T1.heap[T.heap.size]? = some (freshCell cX kX) := by rw [← hT1]; exact State.heap_pushCell_size _ _
  have hcat : (Value.ref T.heap.size).category = 1 := rfl
  have d3' : decode c.code (pc + 3) = .ok (.dup, 1) := by rw [hb]; exact d3
  have zstr : vk_R own is text sa z := vk_R.warm zW hstr
  obtain ⟨U, hsteps, hrun, hend, hWU, hsame, ce, hce, hO⟩ := X₁.ctorThrowS hexec htr (own := own) (cls := xN k) (names := names) (ic := ic) zown hfit hnames zo (fun x hx => nomatch hx) hfX hkX hcellA (by rw [zh, hT]; exact Nat.le_refl _) (msg := .ref sa) rfl
    (g := { method := m, pc := pc + 6, locals := ls, stack := .ref sa :: .ref T.heap.size :: .ref T.heap.size :: rest, locked := none }) rfl hsize rfl rfl (rest := rest) rfl
    (by rw [hb]; exact d6) (by rw [hb]; exact d9) hout hRf (by simp only [List.map_cons, List.sum_cons, hcat]; omega) hlocks
  obtain ⟨f1, f2⟩ := x_sameHeap hsame
  rw [zh] at f1 f2
  have hWs : s.WarmedH U.vm := State.WarmedH.trans zW hWU
  have hcl : s.vm.findClass (xN k) = some ce.cls := by rw [← zv]; exact hO.cls
  have hall : s.sameButNew ({ U with vm := s.vm } : State) locs mc ms := by
    subst hz
    obtain ⟨e1, e2⟩ := hsame
    unfold xNow at e1 e2
    rw [State.setFrames_setFrames] at e1
    have h2 : (T.setVm s.vm).sameButNew ({ U with vm := s.vm } : State) [] (0 + 1) (0 + 6) := ⟨e1, e2⟩
    have h3 := X.same.trans h2
    rw [List.append_nil] at h3
    exact h3.mono hc hs
  have hF : va_F A s U := ⟨Nat.le_trans hS.1 f1, fun q h1 h2 => (f2 q (Nat.lt_of_lt_of_le h1 hS.1)).trans (hS.2.1 q h1 h2)⟩
  refine ⟨U, ?_, .threw T.heap.size, hrun, hend, Or.inr ⟨hk0, T.heap.size, ce, rfl, hce, hO.vm, hcl⟩, hB U hWs f1 f2, hF, hWs, locs, hall, hS.2.2⟩
  refine st1 _ ?_
  show Steps p.tables e below (T1.setTop { method := m, pc := pc + 3, locals := ls, stack := .ref T.heap.size :: rest, locked := none }) _
  jvm_step X₁.here [X₁.here.top, hexec, d3', Value.category]
  exact X₁.ldcString hexec (own := own) (text := text) (index := is) (a := sa) zown zstr.1 zstr.2
    (g := { method := m, pc := pc + 4, locals := ls, stack := .ref T.heap.size :: .ref T.heap.size :: rest, locked := none }) rfl (by rw [hb]; exact d4) _ hsteps
end XThrow2
section XCatch
/-- one row of a table, its class linked or not yet: it catches, or the search goes on; the tables know the link from then on -/
theorem x_row {Q : Handler → Pre} {E : CtlPost} {e : Env} {d : Bool} {acts : List Action} {S : State} {f : JFrame} {a : Addr} {x : ExceptionTableEntry} {t : List ExceptionTableEntry} {k : ClassId} {cell : Cell} (hx : covers x f.pc = true) (h0 : x.catchType ≠ 0)
    (hl : S.vm.ClassLinks e.platform f.method.cls x.catchType k) (hcell : S.heap[a]? = some cell) (hobj : ∀ z, cell.vm ≠ .statics z) (hc : ∃ z, S.vm.classes[cell.cls]? = some z) (hk : ∃ z, S.vm.classes[k]? = some z) :
    wp (findHandler.go f a (x :: t)) Q E e d acts S ↔ if S.vm.assignable cell.cls k = true then Q (.found x.handlerPc) d acts (S.setVm (S.vm.noted f.method.cls x.catchType (.cls k))) else wp (findHandler.go f a t) Q E e d acts (S.setVm (S.vm.noted f.method.cls x.catchType (.cls k))) := by
  simp only [covers] at hx
  obtain ⟨ha, ht⟩ := (resolveClass_links e.toSetting hl).op (op := VmOp.resolveClass f.method.cls x.catchType) rfl
  have hal : S.vm.Alike (S.vm.noted f.method.cls x.catchType (.cls k)) := (Vm.Alike.refl S.vm).noted _ _ _
  obtain ⟨z1, hz1⟩ := hc
  obtain ⟨z2, hz2⟩ := hk
  obtain ⟨y1, hy1, -⟩ := hal.2.2 _ _ hz1
  obtain ⟨y2, hy2, -⟩ := hal.2.2 _ _ hz2
  have hsame : (S.vm.noted f.method.cls x.catchType (.cls k)).assignable cell.cls k = S.vm.assignable cell.cls k := hal.assignable ..
  cases hq : S.vm.assignable cell.cls k <;> rw [hq] at hsame <;>
    simp [findHandler.go, hx, h0, ha, ht, hcell, hobj, hy1, hy2, hsame, VmOp.dirties, VmOp.acts]
/-- a row that names the class nm -/
def xRow (s : State) (args : Array Value) (own : String) (pc : Nat) (x : ExceptionTableEntry) (nm : String) : Prop := covers x pc = true ∧ x.catchType ≠ 0 ∧ (Cond.classLink own x.catchType nm).before args s = true
/-- the search: rows of other classes, then one that takes the object -/
theorem x_search {e : Env} (hpl : e.platform.magicAccessors = ({} : Platform).magicAccessors) {s : State} {args : Array Value} {own : String} {f : JFrame} {a : Addr} {cell : Cell} {E9 : String} (hown : s.vm.findClass own = some f.method.cls) (hobj : ∀ z, cell.vm ≠ .statics z) (hcl : s.vm.findClass E9 = some cell.cls)
    (x : ExceptionTableEntry) (rest : List ExceptionTableEntry) (nm : String) (hx : xRow s args own f.pc x nm) (hfit : (Cond.castable E9 nm).before args s = true) :
    ∀ (pre : List (ExceptionTableEntry × String)) (S : State), s.WarmedH S.vm → S.heap[a]? = some cell → (∀ y ∈ pre, xRow s args own f.pc y.1 y.2 ∧ (Cond.not (.castable E9 y.2)).before args s = true) →
      ∃ vm', s.WarmedH vm' ∧ ∀ (Q : Handler → Pre) (E : CtlPost) (d : Bool) (acts : List Action), wp (findHandler.go f a (pre.map (·.1) ++ x :: rest)) Q E e d acts S ↔ Q (.found x.handlerPc) d acts (S.setVm vm') := by
  obtain ⟨k9, hk9, -⟩ := Vm.findClass_spec hcl
  intro pre
  induction pre with
  | nil =>
    intro S hW hcell _
    obtain ⟨hcov, h0, hlink⟩ := hx
    obtain ⟨c', hc', hl⟩ := Cond.classLink_spec hown hlink e.platform hpl
    obtain ⟨c3, c4, h3, h4, hasg⟩ := Cond.castable_spec hfit
    cases Option.some.inj (h3.symm.trans hcl)
    cases Option.some.inj (h4.symm.trans hc')
    obtain ⟨dk, _, _, kt, hd, _, _, _, _, hkt, _, hopen⟩ := hl.here
    obtain ⟨k9', hk9', -⟩ := hW.alike.2.2 _ _ hk9
    obtain ⟨kt', hkt', -⟩ := hW.alike.2.2 _ _ hkt
    refine ⟨_, hW.noted hd hopen (State.rightAt_cls hl), fun Q E d acts => ?_⟩
    rw [List.map_nil, List.nil_append, x_row hcov h0 (hW.classLinks hl) hcell hobj ⟨k9', hk9'⟩ ⟨kt', hkt'⟩, if_pos (by rw [hW.alike.assignable]; exact hasg)]
  | cons y ys ih =>
    intro S hW hcell hpre
    obtain ⟨⟨hcov, h0, hlink⟩, hno⟩ := hpre y List.mem_cons_self
    obtain ⟨c', hc', hl⟩ := Cond.classLink_spec hown hlink e.platform hpl
    have hv := Cond.holds_not_iff.mp hno
    simp only [Cond.value, hcl, hc'] at hv
    have hv := Option.some.inj hv
    obtain ⟨dk, _, _, kt, hd, _, _, _, _, hkt, _, hopen⟩ := hl.here
    obtain ⟨k9', hk9', -⟩ := hW.alike.2.2 _ _ hk9
    obtain ⟨kt', hkt', -⟩ := hW.alike.2.2 _ _ hkt
    obtain ⟨vm', hW', hq⟩ := ih (S.setVm (S.vm.noted f.method.cls y.1.catchType (.cls c'))) (hW.noted hd hopen (State.rightAt_cls hl)) hcell (fun z hz => hpre z (List.mem_cons_of_mem _ hz))
    refine ⟨vm', hW', fun Q E d acts => ?_⟩
    rw [List.map_cons, List.cons_append, x_row hcov h0 (hW.classLinks hl) hcell hobj ⟨k9', hk9'⟩ ⟨kt', hkt'⟩, if_neg (by rw [hW.alike.assignable, hv]; decide)]
    exact hq Q E d acts
/-- a step of the throwing thread into the handler -/
theorem x_into {tb : Tables} {e : Env} {s target : State} {g : JFrame} {c : Code} {below : List Frame} {a : Addr} (h : At s g.method c below) {pc : Nat} {vm' : Vm}
    (hfind : ∀ (Q : Handler → Pre) (E : CtlPost) (d : Bool) (acts : List Action), wp (findHandler g a) Q E e d acts ((s.setTop g).pushFrame (.throwing a)) ↔ Q (.found pc) d acts (((s.setTop g).pushFrame (.throwing a)).setVm vm'))
    (hrest : Steps tb e below ((s.setVm vm').setTop { g with pc := pc, stack := [.ref a] }) target) : Steps tb e below ((s.setTop g).pushFrame (.throwing a)) target := by
  obtain ⟨hgo, hw⟩ := h.throwing a
  refine Steps.head hgo hw ?_
  rw [stepThread_throwing (frames_entered h.top _)]
  obtain ⟨g₀, hg⟩ := Option.isSome_iff_exists.mp h.top
  obtain ⟨r, hr⟩ := State.topJava?_eq_some.mp hg
  have hstep : (stepThrowing e ((s.setTop g).pushFrame (.throwing a)) a (.java g :: s.frames.tail)).Is ((((s.setTop g).pushFrame (.throwing a)).setVm vm').setFrames (.java { g with pc := pc, stack := [.ref a] } :: s.frames.tail)) [] := by
    simp only [stepThrowing, searchFrame, vmDo]
    generalize hres : Sem.go _ e false [] ((s.setTop g).pushFrame (.throwing a)) = res
    obtain ⟨as, rfl, ha⟩ := Sem.eq_ok_of hres (a := Handler.found pc) (s' := ((s.setTop g).pushFrame (.throwing a)).setVm vm') (acts' := []) (by simp [hfind _ _ _ _])
    exact ⟨rfl, ha⟩
  rw [hstep.1]
  have hr' : (s.setVm vm').frames = .java g₀ :: r := hr
  rw [State.setTop_of_frames _ hr'] at hrest
  have hfs : ∀ (u : State) (F G : List Frame), ((u.setFrames F).setVm vm').setFrames G = (u.setVm vm').setFrames G := fun u F G => by
    have h1 : (u.setFrames F).setVm vm' = (u.setVm vm').setFrames F := rfl
    rw [h1, State.setFrames_setFrames]
  rw [hr, List.tail_cons, State.pushFrame, hfs, State.setTop_of_frames _ hr, hfs]
  exact hrest
variable {p : Program} {l : Launch} {e : Env} {R : Room} {s : State} {m : MethodId} {args : Array Value} {below : List Frame} {meth : Method} {c : Code} {H : Heap} {locs : List Loc} {cells slots : Nat} {Q : State → Prop} {ls : Array Slot} {rest : List Value} {pc : Nat}
/-- caught: the walk goes on at the handler -/
theorem x_catch {own nm : String} {k : Nat} {ce : Cell} {q : Addr} (hown : s.vm.findClass own = some m.cls) (pre : List (ExceptionTableEntry × String)) (x : ExceptionTableEntry) (suf : List ExceptionTableEntry) (hsplit : c.exceptionTable.toList = pre.map (·.1) ++ x :: suf)
    (hpre : ∀ y ∈ pre, xRow s args own pc y.1 y.2 ∧ (Cond.not (.castable (xN k) y.2)).before args s = true) (hx : xRow s args own pc x nm) (hfit : (Cond.castable (xN k) nm).before args s = true) (hcell : H[q]? = some ce) (hv : ce.vm = .none) (hcl : s.vm.findClass (xN k) = some ce.cls)
    (kk : W p l e R s m args below meth c H locs cells slots Q (F0 m x.handlerPc ls [.ref q])) : xW p l e R s m args below meth c H locs cells slots Q (F0 m pc ls rest) q := by
  intro T hT X
  have hpl : e.platform.magicAccessors = ({} : Platform).magicAccessors := by rw [X.admits.platform]
  obtain ⟨vm', hW', hq⟩ := x_search hpl (f := F0 m pc ls rest) (a := q) hown (VmData.ne_statics_of (by rw [hv]; rfl)) hcl x suf nm hx hfit pre (((T.setTop (F0 m pc ls rest)).pushFrame (.throwing q))) X.warmed (by show T.heap[q]? = some ce; rw [hT]; exact hcell) hpre
  obtain ⟨t, a1, b1⟩ := kk (T.setVm vm') hT (X.noted hW')
  refine ⟨t, x_into (g := F0 m pc ls rest) (pc := x.handlerPc) (vm' := vm') X.here (fun Q9 E9 d acts => ?_) a1, b1⟩
  rw [W.findHandler_eq (meth := meth) (code := c) X.method' X.code, hsplit]
  exact hq Q9 E9 d acts
end XCatch
end
section
/-! Small rows: how a pure function's value is followed along a walk. Own rows. -/
theorem j_t {c : Prop} [Decidable c] {α : Type} {a b r : α} (hJ : (if c then a else b) = r) (h : c) : a = r := by rw [if_pos h] at hJ; exact hJ
theorem j_f {c : Prop} [Decidable c] {α : Type} {a b r : α} (hJ : (if c then a else b) = r) (h : ¬ c) : b = r := by rw [if_neg h] at hJ; exact hJ
theorem j_g {c : Bool} {α : Type} {a : Option α} {r : α} (hJ : (if c = true then a else none) = some r) : c = true ∧ a = some r := by
  by_cases h : c = true
  · rw [if_pos h] at hJ; exact ⟨h, hJ⟩
  · rw [if_neg h] at hJ; cases hJ
theorem j_bind {α β : Type} {o : Option α} {f : α → Option β} {r : β} (hJ : o.bind f = some r) : ∃ a, o = some a ∧ f a = some r := by
  cases o with
  | none => cases hJ
  | some a => exact ⟨a, rfl, hJ⟩
theorem j_none {α : Type} {r : α} {P : Prop} (h : (none : Option α) = some r) : P := nomatch h
def jin (i : Int32) (n : Nat) : Bool := decide (0 ≤ i.toInt ∧ i.toInt < n)
theorem j_in {i : Int32} {n : Nat} (h : jin i n = true) : vp_in i n := vp_in_iff.mpr (of_decide_eq_true h)
theorem jin_nI {n N : Nat} (h : n < N) (hN : N < 2 ^ 31) : jin (nI n) N = true := decide_eq_true (by rw [nI_toInt (by omega)]; omega)
def jbl (x : Int32) : Bool := decide (x = 0 ∨ x = 1)
theorem j_bl {x : Int32} (h : jbl x = true) : narrow .boolean (.int x) = .int x ∧ fits .boolean (.int x) = true := by
  rcases of_decide_eq_true h with rfl | rfl
  · exact ⟨by decide +kernel, by decide +kernel⟩
  · exact ⟨by decide +kernel, by decide +kernel⟩
abbrev By : Type := Nat → Int8
theorem by_upd (f : By) (k : Nat) (x : Int32) : upd (fun j => (f j).toInt32) k (vp_nar .byte x) = fun j => (va_up f k x.toInt8 j).toInt32 := by
  funext j
  unfold upd va_up
  by_cases h : j = k
  · rw [if_pos h, if_pos h]; rfl
  · rw [if_neg h, if_neg h]
theorem by_cpy (f g : By) (sp dp n : Nat) : va_cpy (fun j => (f j).toInt32) (fun j => (g j).toInt32) sp dp n = fun j => (va_cpy f g sp dp n j).toInt32 := by
  funext j
  unfold va_cpy
  by_cases h : dp ≤ j ∧ j < dp + n
  · rw [if_pos h, if_pos h]
  · rw [if_neg h, if_neg h]
theorem by_fit (x : Int8) : fits .byte (.int x.toInt32) = true := by
  have h := pk_fb (x.toInt32)
  have e : x.toInt32.toInt8.toInt32 = x.toInt32 := by simp
  rw [e] at h
  exact h
end
section
/-! Names: classes, their fields, methods; the words of the tables that stay true (tb). Written by wip/gen/names.py. -/
def R_Blocks : String := "LogFs$Blocks"
def T_Blocks : u_T := fun k => match k with
  | _ => ("LogFs$Blocks", "bytes", "[B", true)
def t_Blocks : Nat → FieldType := fun k => match k with
  | _ => .array .byte
theorem n_Blocks : ∀ a, a < 1 → ∀ b, b < 1 → a ≠ b → (T_Blocks a).2.1 ≠ (T_Blocks b).2.1 := by decide +kernel
theorem t_Blocks_ok : ∀ k, k < 1 → parseFieldDescriptor (T_Blocks k).2.2.1 = some (t_Blocks k) := by decide +kernel
def R_Disk : String := "LogFs$Disk"
def T_Disk : u_T := fun k => match k with
  | 0 => ("LogFs$Disk", "blocks", "LLogFs$Blocks;", true)
  | 1 => ("LogFs$Disk", "writes", "I", false)
  | 2 => ("LogFs$Disk", "writesToFailure", "I", false)
  | _ => ("LogFs$Disk", "isOff", "Z", false)
def t_Disk : Nat → FieldType := fun k => match k with
  | 0 => .object "LogFs$Blocks"
  | 1 => .int
  | 2 => .int
  | _ => .boolean
theorem n_Disk : ∀ a, a < 4 → ∀ b, b < 4 → a ≠ b → (T_Disk a).2.1 ≠ (T_Disk b).2.1 := by decide +kernel
theorem t_Disk_ok : ∀ k, k < 4 → parseFieldDescriptor (T_Disk k).2.2.1 = some (t_Disk k) := by decide +kernel
def R_Memory : String := "LogFs$Memory"
def T_Memory : u_T := fun k => match k with
  | 0 => ("LogFs$Memory", "blocks", "LLogFs$Blocks;", true)
  | 1 => ("LogFs$Memory", "pending", "[I", true)
  | _ => ("LogFs$Memory", "pendingCount", "I", false)
def t_Memory : Nat → FieldType := fun k => match k with
  | 0 => .object "LogFs$Blocks"
  | 1 => .array .int
  | _ => .int
theorem n_Memory : ∀ a, a < 3 → ∀ b, b < 3 → a ≠ b → (T_Memory a).2.1 ≠ (T_Memory b).2.1 := by decide +kernel
theorem t_Memory_ok : ∀ k, k < 3 → parseFieldDescriptor (T_Memory k).2.2.1 = some (t_Memory k) := by decide +kernel
def R_Volume : String := "LogFs$Volume"
def T_Volume : u_T := fun k => match k with
  | 0 => ("LogFs$Volume", "memory", "LLogFs$Memory;", true)
  | _ => ("LogFs$Volume", "blocks", "LLogFs$Blocks;", true)
def t_Volume : Nat → FieldType := fun k => match k with
  | 0 => .object "LogFs$Memory"
  | _ => .object "LogFs$Blocks"
theorem n_Volume : ∀ a, a < 2 → ∀ b, b < 2 → a ≠ b → (T_Volume a).2.1 ≠ (T_Volume b).2.1 := by decide +kernel
theorem t_Volume_ok : ∀ k, k < 2 → parseFieldDescriptor (T_Volume k).2.2.1 = some (t_Volume k) := by decide +kernel
def R_LogFs : String := "LogFs"
def T_LogFs : u_T := fun k => match k with
  | 0 => ("LogFs", "onDisk", "LLogFs$Disk;", true)
  | 1 => ("LogFs", "inMemory", "LLogFs$Memory;", true)
  | 2 => ("LogFs", "volume", "LLogFs$Volume;", true)
  | _ => ("LogFs", "commits", "I", false)
def t_LogFs : Nat → FieldType := fun k => match k with
  | 0 => .object "LogFs$Disk"
  | 1 => .object "LogFs$Memory"
  | 2 => .object "LogFs$Volume"
  | _ => .int
theorem n_LogFs : ∀ a, a < 4 → ∀ b, b < 4 → a ≠ b → (T_LogFs a).2.1 ≠ (T_LogFs b).2.1 := by decide +kernel
theorem t_LogFs_ok : ∀ k, k < 4 → parseFieldDescriptor (T_LogFs k).2.2.1 = some (t_LogFs k) := by decide +kernel
def R_Model : String := "LogFsModel"
def T_Model : u_T := fun k => match k with
  | 0 => ("LogFsModel", "thrown", "I", false)
  | 1 => ("LogFsModel", "disk", "[B", true)
  | 2 => ("LogFsModel", "memory", "[B", true)
  | 3 => ("LogFsModel", "pending", "[I", true)
  | 4 => ("LogFsModel", "pendings", "I", false)
  | 5 => ("LogFsModel", "writes", "I", false)
  | 6 => ("LogFsModel", "commits", "I", false)
  | 7 => ("LogFsModel", "left", "I", false)
  | 8 => ("LogFsModel", "off", "Z", false)
  | 9 => ("LogFsModel", "failed", "Z", false)
  | 10 => ("LogFsModel", "name", "[B", true)
  | _ => ("LogFsModel", "page", "[B", true)
def t_Model : Nat → FieldType := fun k => match k with
  | 0 => .int
  | 1 => .array .byte
  | 2 => .array .byte
  | 3 => .array .int
  | 4 => .int
  | 5 => .int
  | 6 => .int
  | 7 => .int
  | 8 => .boolean
  | 9 => .boolean
  | 10 => .array .byte
  | _ => .array .byte
theorem n_Model : ∀ a, a < 12 → ∀ b, b < 12 → a ≠ b → (T_Model a).2.1 ≠ (T_Model b).2.1 := by decide +kernel
theorem t_Model_ok : ∀ k, k < 12 → parseFieldDescriptor (T_Model k).2.2.1 = some (t_Model k) := by decide +kernel
abbrev cls : List vw_C := [(R_Blocks, T_Blocks, 1), (R_Disk, T_Disk, 4), (R_Memory, T_Memory, 3), (R_Volume, T_Volume, 2), (R_LogFs, T_LogFs, 4), (R_Model, T_Model, 12)]
abbrev b_LogFs_init : ByteArray := prog_1_method_1_code
abbrev y_LogFs_init : MethodName := ⟨"LogFs", "<init>", "()V"⟩
abbrev b_Disk_init : ByteArray := prog_3_method_1_code
abbrev y_Disk_init : MethodName := ⟨"LogFs$Disk", "<init>", "()V"⟩
abbrev b_Blocks_init : ByteArray := prog_2_method_1_code
abbrev y_Blocks_init : MethodName := ⟨"LogFs$Blocks", "<init>", "()V"⟩
abbrev b_Blocks_set : ByteArray := prog_2_method_3_code
abbrev y_Blocks_set : MethodName := ⟨"LogFs$Blocks", "set", "(III)V"⟩
abbrev b_Blocks_get : ByteArray := prog_2_method_2_code
abbrev y_Blocks_get : MethodName := ⟨"LogFs$Blocks", "get", "(II)I"⟩
abbrev b_Memory_init : ByteArray := prog_4_method_1_code
abbrev y_Memory_init : MethodName := ⟨"LogFs$Memory", "<init>", "()V"⟩
abbrev b_Volume_init : ByteArray := prog_5_method_1_code
abbrev y_Volume_init : MethodName := ⟨"LogFs$Volume", "<init>", "(LLogFs$Memory;)V"⟩
abbrev b_Memory_load : ByteArray := prog_4_method_2_code
abbrev y_Memory_load : MethodName := ⟨"LogFs$Memory", "load", "(LLogFs$Blocks;)V"⟩
abbrev b_Blocks_copyAll : ByteArray := prog_2_method_6_code
abbrev y_Blocks_copyAll : MethodName := ⟨"LogFs$Blocks", "copyAll", "(LLogFs$Blocks;)V"⟩
abbrev b_Memory_forgetPending : ByteArray := prog_4_method_6_code
abbrev y_Memory_forgetPending : MethodName := ⟨"LogFs$Memory", "forgetPending", "()V"⟩
abbrev b_LogFs_failAfter : ByteArray := prog_1_method_9_code
abbrev y_LogFs_failAfter : MethodName := ⟨"LogFs", "failAfter", "(I)Z"⟩
abbrev b_LogFs_count : ByteArray := prog_1_method_16_code
abbrev y_LogFs_count : MethodName := ⟨"LogFs", "count", "(I)I"⟩
abbrev b_LogFs_countInMemory : ByteArray := prog_1_method_17_code
abbrev y_LogFs_countInMemory : MethodName := ⟨"LogFs", "countInMemory", "(I)I"⟩
abbrev b_Volume_freeBlocks : ByteArray := prog_5_method_9_code
abbrev y_Volume_freeBlocks : MethodName := ⟨"LogFs$Volume", "freeBlocks", "()I"⟩
abbrev b_Integer_bitCount : ByteArray := prog_11_method_49_code
abbrev y_Integer_bitCount : MethodName := ⟨"java/lang/Integer", "bitCount", "(I)I"⟩
abbrev b_Volume_freeInodes : ByteArray := prog_5_method_8_code
abbrev y_Volume_freeInodes : MethodName := ⟨"LogFs$Volume", "freeInodes", "()I"⟩
abbrev b_Volume_type : ByteArray := prog_5_method_2_code
abbrev y_Volume_type : MethodName := ⟨"LogFs$Volume", "type", "(I)I"⟩
abbrev b_Volume_inodeByte : ByteArray := prog_5_method_23_code
abbrev y_Volume_inodeByte : MethodName := ⟨"LogFs$Volume", "inodeByte", "(II)I"⟩
abbrev b_LogFs_isInode : ByteArray := prog_1_method_22_code
abbrev y_LogFs_isInode : MethodName := ⟨"LogFs", "isInode", "(I)Z"⟩
abbrev b_Memory_pendingAt : ByteArray := prog_4_method_5_code
abbrev y_Memory_pendingAt : MethodName := ⟨"LogFs$Memory", "pendingAt", "(I)I"⟩
abbrev b_LogFs_make : ByteArray := prog_1_method_2_code
abbrev y_LogFs_make : MethodName := ⟨"LogFs", "make", "(IJZ)I"⟩
abbrev b_LogFs_requirePower : ByteArray := prog_1_method_18_code
abbrev y_LogFs_requirePower : MethodName := ⟨"LogFs", "requirePower", "()V"⟩
abbrev b_Volume_leastFreeInode : ByteArray := prog_5_method_7_code
abbrev y_Volume_leastFreeInode : MethodName := ⟨"LogFs$Volume", "leastFreeInode", "()I"⟩
abbrev b_Volume_canEnter : ByteArray := prog_5_method_15_code
abbrev y_Volume_canEnter : MethodName := ⟨"LogFs$Volume", "canEnter", "(IJ)Z"⟩
abbrev b_Volume_isDirectory : ByteArray := prog_5_method_6_code
abbrev y_Volume_isDirectory : MethodName := ⟨"LogFs$Volume", "isDirectory", "(I)Z"⟩
abbrev b_LogFs_isName : ByteArray := prog_1_method_26_code
abbrev y_LogFs_isName : MethodName := ⟨"LogFs", "isName", "(J)Z"⟩
abbrev b_LogFs_byteOf : ByteArray := prog_1_method_24_code
abbrev y_LogFs_byteOf : MethodName := ⟨"LogFs", "byteOf", "(JI)I"⟩
abbrev b_Volume_placeOf : ByteArray := prog_5_method_11_code
abbrev y_Volume_placeOf : MethodName := ⟨"LogFs$Volume", "placeOf", "(IJ)I"⟩
abbrev b_Volume_size : ByteArray := prog_5_method_4_code
abbrev y_Volume_size : MethodName := ⟨"LogFs$Volume", "size", "(I)I"⟩
abbrev b_Volume_entryAt : ByteArray := prog_5_method_26_code
abbrev y_Volume_entryAt : MethodName := ⟨"LogFs$Volume", "entryAt", "(II)J"⟩
abbrev b_Volume_contentBlock : ByteArray := prog_5_method_25_code
abbrev y_Volume_contentBlock : MethodName := ⟨"LogFs$Volume", "contentBlock", "(II)I"⟩
abbrev b_Volume_placeForEntry : ByteArray := prog_5_method_12_code
abbrev y_Volume_placeForEntry : MethodName := ⟨"LogFs$Volume", "placeForEntry", "(I)I"⟩
abbrev b_Volume_fits : ByteArray := prog_5_method_27_code
abbrev y_Volume_fits : MethodName := ⟨"LogFs$Volume", "fits", "(II)Z"⟩
abbrev b_Volume_blocksToTake : ByteArray := prog_5_method_28_code
abbrev y_Volume_blocksToTake : MethodName := ⟨"LogFs$Volume", "blocksToTake", "(II)I"⟩
abbrev b_LogFs_blocksFor : ByteArray := prog_1_method_23_code
abbrev y_LogFs_blocksFor : MethodName := ⟨"LogFs", "blocksFor", "(I)I"⟩
abbrev b_LogFs_commitIfMany : ByteArray := prog_1_method_20_code
abbrev y_LogFs_commitIfMany : MethodName := ⟨"LogFs", "commitIfMany", "()V"⟩
abbrev b_LogFs_commit : ByteArray := prog_1_method_21_code
abbrev y_LogFs_commit : MethodName := ⟨"LogFs", "commit", "()V"⟩
abbrev b_Disk_storePending : ByteArray := prog_3_method_2_code
abbrev y_Disk_storePending : MethodName := ⟨"LogFs$Disk", "storePending", "(LLogFs$Memory;)Z"⟩
abbrev b_Disk_storeInLog : ByteArray := prog_3_method_4_code
abbrev y_Disk_storeInLog : MethodName := ⟨"LogFs$Disk", "storeInLog", "(LLogFs$Memory;)Z"⟩
abbrev b_Disk_storeBlock : ByteArray := prog_3_method_8_code
abbrev y_Disk_storeBlock : MethodName := ⟨"LogFs$Disk", "storeBlock", "(LLogFs$Blocks;II)Z"⟩
abbrev b_Disk_spendWrite : ByteArray := prog_3_method_9_code
abbrev y_Disk_spendWrite : MethodName := ⟨"LogFs$Disk", "spendWrite", "()Z"⟩
abbrev b_Blocks_copyBlock : ByteArray := prog_2_method_5_code
abbrev y_Blocks_copyBlock : MethodName := ⟨"LogFs$Blocks", "copyBlock", "(LLogFs$Blocks;II)V"⟩
abbrev b_Disk_storeHead : ByteArray := prog_3_method_6_code
abbrev y_Disk_storeHead : MethodName := ⟨"LogFs$Disk", "storeHead", "(LLogFs$Memory;)Z"⟩
abbrev b_Blocks_clear : ByteArray := prog_2_method_4_code
abbrev y_Blocks_clear : MethodName := ⟨"LogFs$Blocks", "clear", "(I)V"⟩
abbrev b_Disk_storeInPlace : ByteArray := prog_3_method_5_code
abbrev y_Disk_storeInPlace : MethodName := ⟨"LogFs$Disk", "storeInPlace", "(LLogFs$Memory;)Z"⟩
abbrev b_Disk_clearHead : ByteArray := prog_3_method_7_code
abbrev y_Disk_clearHead : MethodName := ⟨"LogFs$Disk", "clearHead", "()Z"⟩
abbrev b_Volume_begin : ByteArray := prog_5_method_17_code
abbrev y_Volume_begin : MethodName := ⟨"LogFs$Volume", "begin", "(II)V"⟩
abbrev b_Volume_setInodeByte : ByteArray := prog_5_method_24_code
abbrev y_Volume_setInodeByte : MethodName := ⟨"LogFs$Volume", "setInodeByte", "(III)V"⟩
abbrev b_Memory_change : ByteArray := prog_4_method_3_code
abbrev y_Memory_change : MethodName := ⟨"LogFs$Memory", "change", "(III)V"⟩
abbrev b_Memory_markPending : ByteArray := prog_4_method_7_code
abbrev y_Memory_markPending : MethodName := ⟨"LogFs$Memory", "markPending", "(I)V"⟩
abbrev b_LogFs_entryOf : ByteArray := prog_1_method_25_code
abbrev y_LogFs_entryOf : MethodName := ⟨"LogFs", "entryOf", "(IJ)J"⟩
abbrev b_Volume_putLong : ByteArray := prog_5_method_20_code
abbrev y_Volume_putLong : MethodName := ⟨"LogFs$Volume", "putLong", "(IIJI)V"⟩
abbrev b_Volume_putByte : ByteArray := prog_5_method_29_code
abbrev y_Volume_putByte : MethodName := ⟨"LogFs$Volume", "putByte", "(III)V"⟩
abbrev b_Volume_addContentBlock : ByteArray := prog_5_method_31_code
abbrev y_Volume_addContentBlock : MethodName := ⟨"LogFs$Volume", "addContentBlock", "(II)V"⟩
abbrev b_Volume_takeBlock : ByteArray := prog_5_method_32_code
abbrev y_Volume_takeBlock : MethodName := ⟨"LogFs$Volume", "takeBlock", "()I"⟩
abbrev b_Volume_leastFreeBlock : ByteArray := prog_5_method_34_code
abbrev y_Volume_leastFreeBlock : MethodName := ⟨"LogFs$Volume", "leastFreeBlock", "()I"⟩
abbrev b_Memory_clear : ByteArray := prog_4_method_4_code
abbrev y_Memory_clear : MethodName := ⟨"LogFs$Memory", "clear", "(I)V"⟩
abbrev b_Volume_growTo : ByteArray := prog_5_method_30_code
abbrev y_Volume_growTo : MethodName := ⟨"LogFs$Volume", "growTo", "(II)V"⟩
abbrev b_LogFs_link : ByteArray := prog_1_method_3_code
abbrev y_LogFs_link : MethodName := ⟨"LogFs", "link", "(IJI)Z"⟩
abbrev b_Volume_isFile : ByteArray := prog_5_method_5_code
abbrev y_Volume_isFile : MethodName := ⟨"LogFs$Volume", "isFile", "(I)Z"⟩
abbrev b_Volume_links : ByteArray := prog_5_method_3_code
abbrev y_Volume_links : MethodName := ⟨"LogFs$Volume", "links", "(I)I"⟩
abbrev b_Volume_addLink : ByteArray := prog_5_method_18_code
abbrev y_Volume_addLink : MethodName := ⟨"LogFs$Volume", "addLink", "(I)V"⟩
abbrev b_LogFs_unlink : ByteArray := prog_1_method_4_code
abbrev y_LogFs_unlink : MethodName := ⟨"LogFs", "unlink", "(IJ)Z"⟩
abbrev b_Volume_inodeAt : ByteArray := prog_5_method_13_code
abbrev y_Volume_inodeAt : MethodName := ⟨"LogFs$Volume", "inodeAt", "(II)I"⟩
abbrev b_Volume_entries : ByteArray := prog_5_method_14_code
abbrev y_Volume_entries : MethodName := ⟨"LogFs$Volume", "entries", "(I)I"⟩
abbrev b_Volume_dropLink : ByteArray := prog_5_method_19_code
abbrev y_Volume_dropLink : MethodName := ⟨"LogFs$Volume", "dropLink", "(I)V"⟩
abbrev b_Volume_empty : ByteArray := prog_5_method_22_code
abbrev y_Volume_empty : MethodName := ⟨"LogFs$Volume", "empty", "(I)V"⟩
abbrev b_Volume_giveBack : ByteArray := prog_5_method_33_code
abbrev y_Volume_giveBack : MethodName := ⟨"LogFs$Volume", "giveBack", "(I)V"⟩
abbrev b_LogFs_write : ByteArray := prog_1_method_5_code
abbrev y_LogFs_write : MethodName := ⟨"LogFs", "write", "(IIJI)I"⟩
abbrev b_Volume_canPut : ByteArray := prog_5_method_16_code
abbrev y_Volume_canPut : MethodName := ⟨"LogFs$Volume", "canPut", "(III)Z"⟩
abbrev b_LogFs_fill : ByteArray := prog_1_method_6_code
abbrev y_LogFs_fill : MethodName := ⟨"LogFs", "fill", "(IIII)I"⟩
abbrev b_Volume_putSame : ByteArray := prog_5_method_21_code
abbrev y_Volume_putSame : MethodName := ⟨"LogFs$Volume", "putSame", "(IIII)V"⟩
abbrev b_LogFs_truncate : ByteArray := prog_1_method_7_code
abbrev y_LogFs_truncate : MethodName := ⟨"LogFs", "truncate", "(I)Z"⟩
abbrev b_LogFs_sync : ByteArray := prog_1_method_8_code
abbrev y_LogFs_sync : MethodName := ⟨"LogFs", "sync", "()I"⟩
abbrev b_LogFs_mount : ByteArray := prog_1_method_10_code
abbrev y_LogFs_mount : MethodName := ⟨"LogFs", "mount", "()I"⟩
abbrev b_Disk_replayLog : ByteArray := prog_3_method_3_code
abbrev y_Disk_replayLog : MethodName := ⟨"LogFs$Disk", "replayLog", "(I)Z"⟩
abbrev b_LogFs_find : ByteArray := prog_1_method_11_code
abbrev y_LogFs_find : MethodName := ⟨"LogFs", "find", "(IJ)I"⟩
abbrev b_LogFs_read : ByteArray := prog_1_method_12_code
abbrev y_LogFs_read : MethodName := ⟨"LogFs", "read", "(II)I"⟩
abbrev b_Volume_contentByte : ByteArray := prog_5_method_10_code
abbrev y_Volume_contentByte : MethodName := ⟨"LogFs$Volume", "contentByte", "(II)I"⟩
abbrev b_LogFs_look : ByteArray := prog_1_method_13_code
abbrev y_LogFs_look : MethodName := ⟨"LogFs", "look", "(II)I"⟩
abbrev b_LogFs_disk : ByteArray := prog_1_method_14_code
abbrev y_LogFs_disk : MethodName := ⟨"LogFs", "disk", "(II)I"⟩
abbrev b_LogFs_requireByte : ByteArray := prog_1_method_19_code
abbrev y_LogFs_requireByte : MethodName := ⟨"LogFs", "requireByte", "(II)V"⟩
abbrev b_LogFs_memory : ByteArray := prog_1_method_15_code
abbrev y_LogFs_memory : MethodName := ⟨"LogFs", "memory", "(II)I"⟩
abbrev b_Model_init : ByteArray := prog_7_method_1_code
abbrev y_Model_init : MethodName := ⟨"LogFsModel", "<init>", "()V"⟩
abbrev b_Model_load : ByteArray := prog_7_method_3_code
abbrev y_Model_load : MethodName := ⟨"LogFsModel", "load", "()V"⟩
abbrev b_Model_thrown : ByteArray := prog_7_method_2_code
abbrev y_Model_thrown : MethodName := ⟨"LogFsModel", "thrown", "()I"⟩
abbrev b_Model_sync : ByteArray := prog_7_method_27_code
abbrev y_Model_sync : MethodName := ⟨"LogFsModel", "sync", "()I"⟩
abbrev b_Model_dead : ByteArray := prog_7_method_26_code
abbrev y_Model_dead : MethodName := ⟨"LogFsModel", "dead", "()Z"⟩
abbrev b_Model_commit : ByteArray := prog_7_method_24_code
abbrev y_Model_commit : MethodName := ⟨"LogFsModel", "commit", "()Z"⟩
abbrev b_Model_fetch : ByteArray := prog_7_method_22_code
abbrev y_Model_fetch : MethodName := ⟨"LogFsModel", "fetch", "(I)V"⟩
abbrev b_Model_put : ByteArray := prog_7_method_21_code
abbrev y_Model_put : MethodName := ⟨"LogFsModel", "put", "(I)V"⟩
abbrev b_Model_head : ByteArray := prog_7_method_23_code
abbrev y_Model_head : MethodName := ⟨"LogFsModel", "head", "(I)V"⟩
abbrev b_Model_failAfter : ByteArray := prog_7_method_28_code
abbrev y_Model_failAfter : MethodName := ⟨"LogFsModel", "failAfter", "(I)Z"⟩
abbrev b_Model_mount : ByteArray := prog_7_method_29_code
abbrev y_Model_mount : MethodName := ⟨"LogFsModel", "mount", "()I"⟩
abbrev b_Model_make : ByteArray := prog_7_method_39_code
abbrev y_Model_make : MethodName := ⟨"LogFsModel", "make", "(IJZ)I"⟩
abbrev b_Model_isName : ByteArray := prog_7_method_30_code
abbrev y_Model_isName : MethodName := ⟨"LogFsModel", "isName", "(J)Z"⟩
abbrev b_Model_is : ByteArray := prog_7_method_12_code
abbrev y_Model_is : MethodName := ⟨"LogFsModel", "is", "(II)Z"⟩
abbrev b_Model_isInode : ByteArray := prog_7_method_11_code
abbrev y_Model_isInode : MethodName := ⟨"LogFsModel", "isInode", "(I)Z"⟩
abbrev b_Model_inodeAt : ByteArray := prog_7_method_9_code
abbrev y_Model_inodeAt : MethodName := ⟨"LogFsModel", "inodeAt", "(II)I"⟩
abbrev b_Model_blockOf : ByteArray := prog_7_method_7_code
abbrev y_Model_blockOf : MethodName := ⟨"LogFsModel", "blockOf", "(I)I"⟩
abbrev b_Model_placeOf : ByteArray := prog_7_method_8_code
abbrev y_Model_placeOf : MethodName := ⟨"LogFsModel", "placeOf", "(I)I"⟩
abbrev b_Model_at : ByteArray := prog_7_method_4_code
abbrev y_Model_at : MethodName := ⟨"LogFsModel", "at", "(II)I"⟩
abbrev b_Model_mayEnter : ByteArray := prog_7_method_38_code
abbrev y_Model_mayEnter : MethodName := ⟨"LogFsModel", "mayEnter", "(I)Z"⟩
abbrev b_Model_placeForEntry : ByteArray := prog_7_method_32_code
abbrev y_Model_placeForEntry : MethodName := ⟨"LogFsModel", "placeForEntry", "(I)I"⟩
abbrev b_Model_sizeOf : ByteArray := prog_7_method_13_code
abbrev y_Model_sizeOf : MethodName := ⟨"LogFsModel", "sizeOf", "(I)I"⟩
abbrev b_Model_contentAt : ByteArray := prog_7_method_17_code
abbrev y_Model_contentAt : MethodName := ⟨"LogFsModel", "contentAt", "(II)I"⟩
abbrev b_Model_contentBlock : ByteArray := prog_7_method_16_code
abbrev y_Model_contentBlock : MethodName := ⟨"LogFsModel", "contentBlock", "(II)I"⟩
abbrev b_Model_findEntry : ByteArray := prog_7_method_31_code
abbrev y_Model_findEntry : MethodName := ⟨"LogFsModel", "findEntry", "(I)I"⟩
abbrev b_Model_needs : ByteArray := prog_7_method_34_code
abbrev y_Model_needs : MethodName := ⟨"LogFsModel", "needs", "(II)I"⟩
abbrev b_Model_blocksFor : ByteArray := prog_7_method_15_code
abbrev y_Model_blocksFor : MethodName := ⟨"LogFsModel", "blocksFor", "(I)I"⟩
abbrev b_Model_freeBlocks : ByteArray := prog_7_method_19_code
abbrev y_Model_freeBlocks : MethodName := ⟨"LogFsModel", "freeBlocks", "()I"⟩
abbrev b_Model_isUsed : ByteArray := prog_7_method_18_code
abbrev y_Model_isUsed : MethodName := ⟨"LogFsModel", "isUsed", "(I)Z"⟩
abbrev b_Model_freeInode : ByteArray := prog_7_method_20_code
abbrev y_Model_freeInode : MethodName := ⟨"LogFsModel", "freeInode", "()I"⟩
abbrev b_Model_ready : ByteArray := prog_7_method_25_code
abbrev y_Model_ready : MethodName := ⟨"LogFsModel", "ready", "()Z"⟩
abbrev b_Model_setInode : ByteArray := prog_7_method_10_code
abbrev y_Model_setInode : MethodName := ⟨"LogFsModel", "setInode", "(III)V"⟩
abbrev b_Model_set : ByteArray := prog_7_method_6_code
abbrev y_Model_set : MethodName := ⟨"LogFsModel", "set", "(III)V"⟩
abbrev b_Model_pend : ByteArray := prog_7_method_5_code
abbrev y_Model_pend : MethodName := ⟨"LogFsModel", "pend", "(I)V"⟩
abbrev b_Model_enter : ByteArray := prog_7_method_37_code
abbrev y_Model_enter : MethodName := ⟨"LogFsModel", "enter", "(II)V"⟩
abbrev b_Model_blockFor : ByteArray := prog_7_method_36_code
abbrev y_Model_blockFor : MethodName := ⟨"LogFsModel", "blockFor", "(II)V"⟩
abbrev b_Model_takeBlock : ByteArray := prog_7_method_35_code
abbrev y_Model_takeBlock : MethodName := ⟨"LogFsModel", "takeBlock", "()I"⟩
abbrev b_Model_setSize : ByteArray := prog_7_method_14_code
abbrev y_Model_setSize : MethodName := ⟨"LogFsModel", "setSize", "(II)V"⟩
abbrev b_Model_link : ByteArray := prog_7_method_40_code
abbrev y_Model_link : MethodName := ⟨"LogFsModel", "link", "(IJI)Z"⟩
abbrev b_Model_unlink : ByteArray := prog_7_method_44_code
abbrev y_Model_unlink : MethodName := ⟨"LogFsModel", "unlink", "(IJ)Z"⟩
abbrev b_Model_entries : ByteArray := prog_7_method_33_code
abbrev y_Model_entries : MethodName := ⟨"LogFsModel", "entries", "(I)I"⟩
abbrev b_Model_release : ByteArray := prog_7_method_41_code
abbrev y_Model_release : MethodName := ⟨"LogFsModel", "release", "(I)V"⟩
abbrev b_Model_free : ByteArray := prog_7_method_42_code
abbrev y_Model_free : MethodName := ⟨"LogFsModel", "free", "(I)V"⟩
abbrev b_Model_clear : ByteArray := prog_7_method_43_code
abbrev y_Model_clear : MethodName := ⟨"LogFsModel", "clear", "(II)V"⟩
abbrev b_Model_write : ByteArray := prog_7_method_47_code
abbrev y_Model_write : MethodName := ⟨"LogFsModel", "write", "(IIJI)I"⟩
abbrev b_Model_mayWrite : ByteArray := prog_7_method_45_code
abbrev y_Model_mayWrite : MethodName := ⟨"LogFsModel", "mayWrite", "(III)Z"⟩
abbrev b_Model_writes : ByteArray := prog_7_method_46_code
abbrev y_Model_writes : MethodName := ⟨"LogFsModel", "writes", "(III)I"⟩
abbrev b_Model_fill : ByteArray := prog_7_method_48_code
abbrev y_Model_fill : MethodName := ⟨"LogFsModel", "fill", "(IIII)I"⟩
abbrev b_Model_truncate : ByteArray := prog_7_method_49_code
abbrev y_Model_truncate : MethodName := ⟨"LogFsModel", "truncate", "(I)Z"⟩
abbrev b_Model_find : ByteArray := prog_7_method_50_code
abbrev y_Model_find : MethodName := ⟨"LogFsModel", "find", "(IJ)I"⟩
abbrev b_Model_read : ByteArray := prog_7_method_51_code
abbrev y_Model_read : MethodName := ⟨"LogFsModel", "read", "(II)I"⟩
abbrev b_Model_look : ByteArray := prog_7_method_52_code
abbrev y_Model_look : MethodName := ⟨"LogFsModel", "look", "(II)I"⟩
abbrev b_Model_disk : ByteArray := prog_7_method_54_code
abbrev y_Model_disk : MethodName := ⟨"LogFsModel", "disk", "(II)I"⟩
abbrev b_Model_isByte : ByteArray := prog_7_method_53_code
abbrev y_Model_isByte : MethodName := ⟨"LogFsModel", "isByte", "(II)Z"⟩
abbrev b_Model_memory : ByteArray := prog_7_method_55_code
abbrev y_Model_memory : MethodName := ⟨"LogFsModel", "memory", "(II)I"⟩
abbrev b_Model_count : ByteArray := prog_7_method_56_code
abbrev y_Model_count : MethodName := ⟨"LogFsModel", "count", "(I)I"⟩
abbrev b_Law_make : ByteArray := method_3_code
abbrev y_Law_make : MethodName := ⟨"LogFsLaw", "make", "(LLogFs;IJZ[J)I"⟩
abbrev b_Law_link : ByteArray := method_4_code
abbrev y_Law_link : MethodName := ⟨"LogFsLaw", "link", "(LLogFs;IJI[J)I"⟩
abbrev b_Law_unlink : ByteArray := method_5_code
abbrev y_Law_unlink : MethodName := ⟨"LogFsLaw", "unlink", "(LLogFs;IJ[J)I"⟩
abbrev b_Law_write : ByteArray := method_6_code
abbrev y_Law_write : MethodName := ⟨"LogFsLaw", "write", "(LLogFs;IIJI[J)I"⟩
abbrev b_Law_fill : ByteArray := method_7_code
abbrev y_Law_fill : MethodName := ⟨"LogFsLaw", "fill", "(LLogFs;IIII[J)I"⟩
abbrev b_Law_truncate : ByteArray := method_8_code
abbrev y_Law_truncate : MethodName := ⟨"LogFsLaw", "truncate", "(LLogFs;I[J)I"⟩
abbrev b_Law_sync : ByteArray := method_9_code
abbrev y_Law_sync : MethodName := ⟨"LogFsLaw", "sync", "(LLogFs;[J)I"⟩
abbrev b_Law_mount : ByteArray := method_10_code
abbrev y_Law_mount : MethodName := ⟨"LogFsLaw", "mount", "(LLogFs;[J)I"⟩
abbrev b_Law_find : ByteArray := method_11_code
abbrev y_Law_find : MethodName := ⟨"LogFsLaw", "find", "(LLogFs;IJ[J)I"⟩
abbrev b_Law_read : ByteArray := method_12_code
abbrev y_Law_read : MethodName := ⟨"LogFsLaw", "read", "(LLogFs;II[J)I"⟩
abbrev b_Law_look : ByteArray := method_13_code
abbrev y_Law_look : MethodName := ⟨"LogFsLaw", "look", "(LLogFs;II[J)I"⟩
abbrev b_Law_disk : ByteArray := method_14_code
abbrev y_Law_disk : MethodName := ⟨"LogFsLaw", "disk", "(LLogFs;II[J)I"⟩
abbrev b_Law_memory : ByteArray := method_15_code
abbrev y_Law_memory : MethodName := ⟨"LogFsLaw", "memory", "(LLogFs;II[J)I"⟩
def tb : List Cond := lw_tbl.filter xGood
theorem tb_in {w : Cond} (n : Nat) (h : tables_1[n]? = some w) (hg : xGood w = true) : w ∈ tb := List.mem_filter.mpr ⟨List.mem_append_right _ (List.mem_of_getElem? h), hg⟩
theorem tb_sel {q : MethodName × Nat} (h : q ∈ lw_privs) : Cond.selects q.1.cls q.1 q.1 ∈ tb := List.mem_filter.mpr ⟨List.mem_append_left _ (List.mem_map.mpr ⟨q, h, rfl⟩), rfl⟩
end
section
/-! The words of the tables, one by one, in tb. Written by wip/gen/names.py. -/
theorem tw0 : (Cond.initialized "LogFsLaw") ∈ tb := tb_in 0 (by decide +kernel) (by decide +kernel)
theorem tw1 : (Cond.initialized "LogFs") ∈ tb := tb_in 1 (by decide +kernel) (by decide +kernel)
theorem tw2 : (Cond.initialized "LogFs$Disk") ∈ tb := tb_in 2 (by decide +kernel) (by decide +kernel)
theorem tw3 : (Cond.initialized "LogFs$Blocks") ∈ tb := tb_in 3 (by decide +kernel) (by decide +kernel)
theorem tw4 : (Cond.initialized "LogFs$Memory") ∈ tb := tb_in 4 (by decide +kernel) (by decide +kernel)
theorem tw5 : (Cond.initialized "LogFs$Volume") ∈ tb := tb_in 5 (by decide +kernel) (by decide +kernel)
theorem tw6 : (Cond.initialized "java/lang/System") ∈ tb := tb_in 6 (by decide +kernel) (by decide +kernel)
theorem tw7 : (Cond.initialized "LogFsModel") ∈ tb := tb_in 7 (by decide +kernel) (by decide +kernel)
theorem tw8 : (Cond.initialized "java/lang/Throwable") ∈ tb := tb_in 8 (by decide +kernel) (by decide +kernel)
theorem tw9 : (Cond.initialized "java/lang/Exception") ∈ tb := tb_in 9 (by decide +kernel) (by decide +kernel)
theorem tw10 : (Cond.initialized "java/lang/RuntimeException") ∈ tb := tb_in 10 (by decide +kernel) (by decide +kernel)
theorem tw11 : (Cond.initialized "java/lang/IllegalStateException") ∈ tb := tb_in 11 (by decide +kernel) (by decide +kernel)
theorem tw12 : (Cond.initialized "java/lang/Integer") ∈ tb := tb_in 12 (by decide +kernel) (by decide +kernel)
theorem tw13 : (Cond.initialized "java/lang/UnsupportedOperationException") ∈ tb := tb_in 13 (by decide +kernel) (by decide +kernel)
theorem tw14 : (Cond.initialized "java/lang/IndexOutOfBoundsException") ∈ tb := tb_in 14 (by decide +kernel) (by decide +kernel)
theorem tw15 : (Cond.classLink "LogFsLaw" 8 "LogFs") ∈ tb := tb_in 15 (by decide +kernel) (by decide +kernel)
theorem tw16 : (Cond.instantiable "LogFs" 4) ∈ tb := tb_in 16 (by decide +kernel) (by decide +kernel)
theorem tw17 : (Cond.methodLink "LogFsLaw" 63 ⟨"LogFs", "<init>", "()V"⟩) ∈ tb := tb_in 17 (by decide +kernel) (by decide +kernel)
theorem tw18 : (Cond.instanceMethod ⟨"LogFs", "<init>", "()V"⟩) ∈ tb := tb_in 18 (by decide +kernel) (by decide +kernel)
theorem tw19 : (Cond.code ⟨"LogFs", "<init>", "()V"⟩ prog_1_method_1_code 1 none) ∈ tb := tb_in 19 (by decide +kernel) (by decide +kernel)
theorem tw20 : (Cond.methodLink "LogFs" 1 ⟨"java/lang/Object", "<init>", "()V"⟩) ∈ tb := tb_in 20 (by decide +kernel) (by decide +kernel)
theorem tw21 : (Cond.instanceMethod ⟨"java/lang/Object", "<init>", "()V"⟩) ∈ tb := tb_in 21 (by decide +kernel) (by decide +kernel)
theorem tw22 : (Cond.code ⟨"java/lang/Object", "<init>", "()V"⟩ object_method_1_code 1 none) ∈ tb := tb_in 22 (by decide +kernel) (by decide +kernel)
theorem tw23 : (Cond.classLink "LogFs" 7 "LogFs$Disk") ∈ tb := tb_in 23 (by decide +kernel) (by decide +kernel)
theorem tw24 : (Cond.instantiable "LogFs$Disk" 4) ∈ tb := tb_in 24 (by decide +kernel) (by decide +kernel)
theorem tw25 : (Cond.methodLink "LogFs" 9 ⟨"LogFs$Disk", "<init>", "()V"⟩) ∈ tb := tb_in 25 (by decide +kernel) (by decide +kernel)
theorem tw26 : (Cond.instanceMethod ⟨"LogFs$Disk", "<init>", "()V"⟩) ∈ tb := tb_in 26 (by decide +kernel) (by decide +kernel)
theorem tw27 : (Cond.code ⟨"LogFs$Disk", "<init>", "()V"⟩ prog_3_method_1_code 2 none) ∈ tb := tb_in 27 (by decide +kernel) (by decide +kernel)
theorem tw28 : (Cond.methodLink "LogFs$Disk" 3 ⟨"java/lang/Object", "<init>", "()V"⟩) ∈ tb := tb_in 28 (by decide +kernel) (by decide +kernel)
theorem tw29 : (Cond.classLink "LogFs$Disk" 9 "LogFs$Blocks") ∈ tb := tb_in 29 (by decide +kernel) (by decide +kernel)
theorem tw30 : (Cond.instantiable "LogFs$Blocks" 1) ∈ tb := tb_in 30 (by decide +kernel) (by decide +kernel)
theorem tw31 : (Cond.methodLink "LogFs$Disk" 11 ⟨"LogFs$Blocks", "<init>", "()V"⟩) ∈ tb := tb_in 31 (by decide +kernel) (by decide +kernel)
theorem tw32 : (Cond.instanceMethod ⟨"LogFs$Blocks", "<init>", "()V"⟩) ∈ tb := tb_in 32 (by decide +kernel) (by decide +kernel)
theorem tw33 : (Cond.code ⟨"LogFs$Blocks", "<init>", "()V"⟩ prog_2_method_1_code 1 none) ∈ tb := tb_in 33 (by decide +kernel) (by decide +kernel)
theorem tw34 : (Cond.methodLink "LogFs$Blocks" 3 ⟨"java/lang/Object", "<init>", "()V"⟩) ∈ tb := tb_in 34 (by decide +kernel) (by decide +kernel)
theorem tw35 : (Cond.fieldLink "LogFs$Blocks" 9 "LogFs$Blocks" "bytes" "[B") ∈ tb := tb_in 35 (by decide +kernel) (by decide +kernel)
theorem tw36 : (Cond.laysFinal "LogFs$Blocks" "LogFs$Blocks" "bytes" "[B") ∈ tb := tb_in 36 (by decide +kernel) (by decide +kernel)
theorem tw38 : (Cond.superclass "LogFs$Blocks" "java/lang/Object") ∈ tb := tb_in 38 (by decide +kernel) (by decide +kernel)
theorem tw39 : (Cond.arrayClass .byte) ∈ tb := tb_in 39 (by decide +kernel) (by decide +kernel)
theorem tw40 : (Cond.methodLink "LogFs$Disk" 29 ⟨"LogFs$Blocks", "set", "(III)V"⟩) ∈ tb := tb_in 40 (by decide +kernel) (by decide +kernel)
theorem tw41 : (Cond.instanceMethod ⟨"LogFs$Blocks", "set", "(III)V"⟩) ∈ tb := tb_in 41 (by decide +kernel) (by decide +kernel)
theorem tw42 : (Cond.selects "LogFs$Blocks" ⟨"LogFs$Blocks", "set", "(III)V"⟩ ⟨"LogFs$Blocks", "set", "(III)V"⟩) ∈ tb := tb_in 42 (by decide +kernel) (by decide +kernel)
theorem tw43 : (Cond.code ⟨"LogFs$Blocks", "set", "(III)V"⟩ prog_2_method_3_code 4 none) ∈ tb := tb_in 43 (by decide +kernel) (by decide +kernel)
theorem tw44 : (Cond.methodLink "LogFs$Disk" 33 ⟨"LogFs$Blocks", "get", "(II)I"⟩) ∈ tb := tb_in 44 (by decide +kernel) (by decide +kernel)
theorem tw45 : (Cond.instanceMethod ⟨"LogFs$Blocks", "get", "(II)I"⟩) ∈ tb := tb_in 45 (by decide +kernel) (by decide +kernel)
theorem tw46 : (Cond.selects "LogFs$Blocks" ⟨"LogFs$Blocks", "get", "(II)I"⟩ ⟨"LogFs$Blocks", "get", "(II)I"⟩) ∈ tb := tb_in 46 (by decide +kernel) (by decide +kernel)
theorem tw47 : (Cond.code ⟨"LogFs$Blocks", "get", "(II)I"⟩ prog_2_method_2_code 3 (some .int)) ∈ tb := tb_in 47 (by decide +kernel) (by decide +kernel)
theorem tw48 : (Cond.fieldLink "LogFs$Disk" 12 "LogFs$Disk" "blocks" "LLogFs$Blocks;") ∈ tb := tb_in 48 (by decide +kernel) (by decide +kernel)
theorem tw49 : (Cond.fieldLinkNest "LogFs" 36 "LogFs$Disk" "blocks" "LLogFs$Blocks;" "LogFs") ∈ tb := tb_in 49 (by decide +kernel) (by decide +kernel)
theorem tw50 : (Cond.fieldLink "LogFs$Disk" 18 "LogFs$Disk" "writes" "I") ∈ tb := tb_in 50 (by decide +kernel) (by decide +kernel)
theorem tw51 : (Cond.fieldLinkNest "LogFs" 113 "LogFs$Disk" "writes" "I" "LogFs") ∈ tb := tb_in 51 (by decide +kernel) (by decide +kernel)
theorem tw52 : (Cond.fieldLink "LogFs$Disk" 22 "LogFs$Disk" "writesToFailure" "I") ∈ tb := tb_in 52 (by decide +kernel) (by decide +kernel)
theorem tw53 : (Cond.fieldLinkNest "LogFs" 119 "LogFs$Disk" "writesToFailure" "I" "LogFs") ∈ tb := tb_in 53 (by decide +kernel) (by decide +kernel)
theorem tw54 : (Cond.fieldLink "LogFs$Disk" 25 "LogFs$Disk" "isOff" "Z") ∈ tb := tb_in 54 (by decide +kernel) (by decide +kernel)
theorem tw55 : (Cond.fieldLinkNest "LogFs" 122 "LogFs$Disk" "isOff" "Z" "LogFs") ∈ tb := tb_in 55 (by decide +kernel) (by decide +kernel)
theorem tw56 : (Cond.laysFinal "LogFs$Disk" "LogFs$Disk" "blocks" "LLogFs$Blocks;") ∈ tb := tb_in 56 (by decide +kernel) (by decide +kernel)
theorem tw58 : (Cond.lays "LogFs$Disk" "LogFs$Disk" "writes" "I") ∈ tb := tb_in 58 (by decide +kernel) (by decide +kernel)
theorem tw60 : (Cond.lays "LogFs$Disk" "LogFs$Disk" "writesToFailure" "I") ∈ tb := tb_in 60 (by decide +kernel) (by decide +kernel)
theorem tw62 : (Cond.lays "LogFs$Disk" "LogFs$Disk" "isOff" "Z") ∈ tb := tb_in 62 (by decide +kernel) (by decide +kernel)
theorem tw64 : (Cond.superclass "LogFs$Disk" "java/lang/Object") ∈ tb := tb_in 64 (by decide +kernel) (by decide +kernel)
theorem tw65 : (Cond.classLink "LogFs" 16 "LogFs$Memory") ∈ tb := tb_in 65 (by decide +kernel) (by decide +kernel)
theorem tw66 : (Cond.instantiable "LogFs$Memory" 3) ∈ tb := tb_in 66 (by decide +kernel) (by decide +kernel)
theorem tw67 : (Cond.methodLink "LogFs" 18 ⟨"LogFs$Memory", "<init>", "()V"⟩) ∈ tb := tb_in 67 (by decide +kernel) (by decide +kernel)
theorem tw68 : (Cond.instanceMethod ⟨"LogFs$Memory", "<init>", "()V"⟩) ∈ tb := tb_in 68 (by decide +kernel) (by decide +kernel)
theorem tw69 : (Cond.code ⟨"LogFs$Memory", "<init>", "()V"⟩ prog_4_method_1_code 1 none) ∈ tb := tb_in 69 (by decide +kernel) (by decide +kernel)
theorem tw70 : (Cond.methodLink "LogFs$Memory" 3 ⟨"java/lang/Object", "<init>", "()V"⟩) ∈ tb := tb_in 70 (by decide +kernel) (by decide +kernel)
theorem tw71 : (Cond.classLink "LogFs$Memory" 9 "LogFs$Blocks") ∈ tb := tb_in 71 (by decide +kernel) (by decide +kernel)
theorem tw72 : (Cond.methodLink "LogFs$Memory" 11 ⟨"LogFs$Blocks", "<init>", "()V"⟩) ∈ tb := tb_in 72 (by decide +kernel) (by decide +kernel)
theorem tw73 : (Cond.fieldLinkNest "LogFs$Volume" 15 "LogFs$Memory" "blocks" "LLogFs$Blocks;" "LogFs") ∈ tb := tb_in 73 (by decide +kernel) (by decide +kernel)
theorem tw74 : (Cond.fieldLink "LogFs$Memory" 12 "LogFs$Memory" "blocks" "LLogFs$Blocks;") ∈ tb := tb_in 74 (by decide +kernel) (by decide +kernel)
theorem tw75 : (Cond.fieldLinkNest "LogFs$Disk" 60 "LogFs$Memory" "blocks" "LLogFs$Blocks;" "LogFs") ∈ tb := tb_in 75 (by decide +kernel) (by decide +kernel)
theorem tw76 : (Cond.fieldLinkNest "LogFs" 165 "LogFs$Memory" "blocks" "LLogFs$Blocks;" "LogFs") ∈ tb := tb_in 76 (by decide +kernel) (by decide +kernel)
theorem tw77 : (Cond.fieldLink "LogFs$Memory" 18 "LogFs$Memory" "pending" "[I") ∈ tb := tb_in 77 (by decide +kernel) (by decide +kernel)
theorem tw78 : (Cond.fieldLink "LogFs$Memory" 22 "LogFs$Memory" "pendingCount" "I") ∈ tb := tb_in 78 (by decide +kernel) (by decide +kernel)
theorem tw79 : (Cond.fieldLinkNest "LogFs$Disk" 55 "LogFs$Memory" "pendingCount" "I" "LogFs") ∈ tb := tb_in 79 (by decide +kernel) (by decide +kernel)
theorem tw80 : (Cond.fieldLinkNest "LogFs" 169 "LogFs$Memory" "pendingCount" "I" "LogFs") ∈ tb := tb_in 80 (by decide +kernel) (by decide +kernel)
theorem tw81 : (Cond.laysFinal "LogFs$Memory" "LogFs$Memory" "blocks" "LLogFs$Blocks;") ∈ tb := tb_in 81 (by decide +kernel) (by decide +kernel)
theorem tw83 : (Cond.laysFinal "LogFs$Memory" "LogFs$Memory" "pending" "[I") ∈ tb := tb_in 83 (by decide +kernel) (by decide +kernel)
theorem tw85 : (Cond.lays "LogFs$Memory" "LogFs$Memory" "pendingCount" "I") ∈ tb := tb_in 85 (by decide +kernel) (by decide +kernel)
theorem tw87 : (Cond.superclass "LogFs$Memory" "java/lang/Object") ∈ tb := tb_in 87 (by decide +kernel) (by decide +kernel)
theorem tw88 : (Cond.arrayClass .int) ∈ tb := tb_in 88 (by decide +kernel) (by decide +kernel)
theorem tw89 : (Cond.classLink "LogFs" 23 "LogFs$Volume") ∈ tb := tb_in 89 (by decide +kernel) (by decide +kernel)
theorem tw90 : (Cond.instantiable "LogFs$Volume" 2) ∈ tb := tb_in 90 (by decide +kernel) (by decide +kernel)
theorem tw91 : (Cond.methodLink "LogFs" 25 ⟨"LogFs$Volume", "<init>", "(LLogFs$Memory;)V"⟩) ∈ tb := tb_in 91 (by decide +kernel) (by decide +kernel)
theorem tw92 : (Cond.instanceMethod ⟨"LogFs$Volume", "<init>", "(LLogFs$Memory;)V"⟩) ∈ tb := tb_in 92 (by decide +kernel) (by decide +kernel)
theorem tw93 : (Cond.code ⟨"LogFs$Volume", "<init>", "(LLogFs$Memory;)V"⟩ prog_5_method_1_code 2 none) ∈ tb := tb_in 93 (by decide +kernel) (by decide +kernel)
theorem tw94 : (Cond.methodLink "LogFs$Volume" 3 ⟨"java/lang/Object", "<init>", "()V"⟩) ∈ tb := tb_in 94 (by decide +kernel) (by decide +kernel)
theorem tw95 : (Cond.fieldLink "LogFs$Volume" 9 "LogFs$Volume" "memory" "LLogFs$Memory;") ∈ tb := tb_in 95 (by decide +kernel) (by decide +kernel)
theorem tw96 : (Cond.fieldLink "LogFs$Volume" 21 "LogFs$Volume" "blocks" "LLogFs$Blocks;") ∈ tb := tb_in 96 (by decide +kernel) (by decide +kernel)
theorem tw97 : (Cond.laysFinal "LogFs$Volume" "LogFs$Volume" "memory" "LLogFs$Memory;") ∈ tb := tb_in 97 (by decide +kernel) (by decide +kernel)
theorem tw99 : (Cond.laysFinal "LogFs$Volume" "LogFs$Volume" "blocks" "LLogFs$Blocks;") ∈ tb := tb_in 99 (by decide +kernel) (by decide +kernel)
theorem tw101 : (Cond.superclass "LogFs$Volume" "java/lang/Object") ∈ tb := tb_in 101 (by decide +kernel) (by decide +kernel)
theorem tw102 : (Cond.methodLink "LogFs" 40 ⟨"LogFs$Memory", "load", "(LLogFs$Blocks;)V"⟩) ∈ tb := tb_in 102 (by decide +kernel) (by decide +kernel)
theorem tw103 : (Cond.instanceMethod ⟨"LogFs$Memory", "load", "(LLogFs$Blocks;)V"⟩) ∈ tb := tb_in 103 (by decide +kernel) (by decide +kernel)
theorem tw104 : (Cond.selects "LogFs$Memory" ⟨"LogFs$Memory", "load", "(LLogFs$Blocks;)V"⟩ ⟨"LogFs$Memory", "load", "(LLogFs$Blocks;)V"⟩) ∈ tb := tb_in 104 (by decide +kernel) (by decide +kernel)
theorem tw105 : (Cond.code ⟨"LogFs$Memory", "load", "(LLogFs$Blocks;)V"⟩ prog_4_method_2_code 2 none) ∈ tb := tb_in 105 (by decide +kernel) (by decide +kernel)
theorem tw106 : (Cond.methodLink "LogFs$Memory" 26 ⟨"LogFs$Blocks", "copyAll", "(LLogFs$Blocks;)V"⟩) ∈ tb := tb_in 106 (by decide +kernel) (by decide +kernel)
theorem tw107 : (Cond.instanceMethod ⟨"LogFs$Blocks", "copyAll", "(LLogFs$Blocks;)V"⟩) ∈ tb := tb_in 107 (by decide +kernel) (by decide +kernel)
theorem tw108 : (Cond.selects "LogFs$Blocks" ⟨"LogFs$Blocks", "copyAll", "(LLogFs$Blocks;)V"⟩ ⟨"LogFs$Blocks", "copyAll", "(LLogFs$Blocks;)V"⟩) ∈ tb := tb_in 108 (by decide +kernel) (by decide +kernel)
theorem tw109 : (Cond.code ⟨"LogFs$Blocks", "copyAll", "(LLogFs$Blocks;)V"⟩ prog_2_method_6_code 2 none) ∈ tb := tb_in 109 (by decide +kernel) (by decide +kernel)
theorem tw110 : (Cond.methodLink "LogFs$Blocks" 19 ⟨"java/lang/System", "arraycopy", "(Ljava/lang/Object;ILjava/lang/Object;II)V"⟩) ∈ tb := tb_in 110 (by decide +kernel) (by decide +kernel)
theorem tw111 : (Cond.static ⟨"java/lang/System", "arraycopy", "(Ljava/lang/Object;ILjava/lang/Object;II)V"⟩) ∈ tb := tb_in 111 (by decide +kernel) (by decide +kernel)
theorem tw112 : (Cond.native ⟨"java/lang/System", "arraycopy", "(Ljava/lang/Object;ILjava/lang/Object;II)V"⟩) ∈ tb := tb_in 112 (by decide +kernel) (by decide +kernel)
theorem tw113 : (Cond.methodLink "LogFs$Memory" 30 ⟨"LogFs$Memory", "forgetPending", "()V"⟩) ∈ tb := tb_in 113 (by decide +kernel) (by decide +kernel)
theorem tw114 : (Cond.instanceMethod ⟨"LogFs$Memory", "forgetPending", "()V"⟩) ∈ tb := tb_in 114 (by decide +kernel) (by decide +kernel)
theorem tw115 : (Cond.selects "LogFs$Memory" ⟨"LogFs$Memory", "forgetPending", "()V"⟩ ⟨"LogFs$Memory", "forgetPending", "()V"⟩) ∈ tb := tb_in 115 (by decide +kernel) (by decide +kernel)
theorem tw116 : (Cond.code ⟨"LogFs$Memory", "forgetPending", "()V"⟩ prog_4_method_6_code 1 none) ∈ tb := tb_in 116 (by decide +kernel) (by decide +kernel)
theorem tw117 : (Cond.fieldLink "LogFs" 10 "LogFs" "onDisk" "LLogFs$Disk;") ∈ tb := tb_in 117 (by decide +kernel) (by decide +kernel)
theorem tw118 : (Cond.fieldLink "LogFs" 19 "LogFs" "inMemory" "LLogFs$Memory;") ∈ tb := tb_in 118 (by decide +kernel) (by decide +kernel)
theorem tw119 : (Cond.fieldLink "LogFs" 28 "LogFs" "volume" "LLogFs$Volume;") ∈ tb := tb_in 119 (by decide +kernel) (by decide +kernel)
theorem tw120 : (Cond.fieldLink "LogFs" 32 "LogFs" "commits" "I") ∈ tb := tb_in 120 (by decide +kernel) (by decide +kernel)
theorem tw121 : (Cond.laysFinal "LogFs" "LogFs" "onDisk" "LLogFs$Disk;") ∈ tb := tb_in 121 (by decide +kernel) (by decide +kernel)
theorem tw123 : (Cond.laysFinal "LogFs" "LogFs" "inMemory" "LLogFs$Memory;") ∈ tb := tb_in 123 (by decide +kernel) (by decide +kernel)
theorem tw125 : (Cond.laysFinal "LogFs" "LogFs" "volume" "LLogFs$Volume;") ∈ tb := tb_in 125 (by decide +kernel) (by decide +kernel)
theorem tw127 : (Cond.lays "LogFs" "LogFs" "commits" "I") ∈ tb := tb_in 127 (by decide +kernel) (by decide +kernel)
theorem tw129 : (Cond.superclass "LogFs" "java/lang/Object") ∈ tb := tb_in 129 (by decide +kernel) (by decide +kernel)
theorem tw130 : (Cond.methodLink "LogFsLaw" 102 ⟨"LogFs", "failAfter", "(I)Z"⟩) ∈ tb := tb_in 130 (by decide +kernel) (by decide +kernel)
theorem tw131 : (Cond.instanceMethod ⟨"LogFs", "failAfter", "(I)Z"⟩) ∈ tb := tb_in 131 (by decide +kernel) (by decide +kernel)
theorem tw132 : (Cond.selects "LogFs" ⟨"LogFs", "failAfter", "(I)Z"⟩ ⟨"LogFs", "failAfter", "(I)Z"⟩) ∈ tb := tb_in 132 (by decide +kernel) (by decide +kernel)
theorem tw133 : (Cond.code ⟨"LogFs", "failAfter", "(I)Z"⟩ prog_1_method_9_code 2 (some .boolean)) ∈ tb := tb_in 133 (by decide +kernel) (by decide +kernel)
theorem tw134 : (Cond.methodLink "LogFsLaw" 125 ⟨"LogFs", "count", "(I)I"⟩) ∈ tb := tb_in 134 (by decide +kernel) (by decide +kernel)
theorem tw135 : (Cond.instanceMethod ⟨"LogFs", "count", "(I)I"⟩) ∈ tb := tb_in 135 (by decide +kernel) (by decide +kernel)
theorem tw136 : (Cond.selects "LogFs" ⟨"LogFs", "count", "(I)I"⟩ ⟨"LogFs", "count", "(I)I"⟩) ∈ tb := tb_in 136 (by decide +kernel) (by decide +kernel)
theorem tw137 : (Cond.code ⟨"LogFs", "count", "(I)I"⟩ prog_1_method_16_code 2 (some .int)) ∈ tb := tb_in 137 (by decide +kernel) (by decide +kernel)
theorem tw138 : (Cond.methodLink "LogFs" 166 ⟨"LogFs", "countInMemory", "(I)I"⟩) ∈ tb := tb_in 138 (by decide +kernel) (by decide +kernel)
theorem tw140 : (Cond.instanceMethod ⟨"LogFs", "countInMemory", "(I)I"⟩) ∈ tb := tb_in 140 (by decide +kernel) (by decide +kernel)
theorem tw141 : (Cond.code ⟨"LogFs", "countInMemory", "(I)I"⟩ prog_1_method_17_code 2 (some .int)) ∈ tb := tb_in 141 (by decide +kernel) (by decide +kernel)
theorem tw142 : (Cond.methodLink "LogFs" 172 ⟨"LogFs$Volume", "freeBlocks", "()I"⟩) ∈ tb := tb_in 142 (by decide +kernel) (by decide +kernel)
theorem tw143 : (Cond.instanceMethod ⟨"LogFs$Volume", "freeBlocks", "()I"⟩) ∈ tb := tb_in 143 (by decide +kernel) (by decide +kernel)
theorem tw144 : (Cond.selects "LogFs$Volume" ⟨"LogFs$Volume", "freeBlocks", "()I"⟩ ⟨"LogFs$Volume", "freeBlocks", "()I"⟩) ∈ tb := tb_in 144 (by decide +kernel) (by decide +kernel)
theorem tw145 : (Cond.code ⟨"LogFs$Volume", "freeBlocks", "()I"⟩ prog_5_method_9_code 3 (some .int)) ∈ tb := tb_in 145 (by decide +kernel) (by decide +kernel)
theorem tw146 : (Cond.methodLink "LogFs$Volume" 30 ⟨"LogFs$Blocks", "get", "(II)I"⟩) ∈ tb := tb_in 146 (by decide +kernel) (by decide +kernel)
theorem tw147 : (Cond.methodLink "LogFs$Volume" 35 ⟨"java/lang/Integer", "bitCount", "(I)I"⟩) ∈ tb := tb_in 147 (by decide +kernel) (by decide +kernel)
theorem tw148 : (Cond.static ⟨"java/lang/Integer", "bitCount", "(I)I"⟩) ∈ tb := tb_in 148 (by decide +kernel) (by decide +kernel)
theorem tw149 : (Cond.code ⟨"java/lang/Integer", "bitCount", "(I)I"⟩ prog_11_method_49_code 1 (some .int)) ∈ tb := tb_in 149 (by decide +kernel) (by decide +kernel)
theorem tw150 : (Cond.constant "java/lang/Integer" 265 (1431655765 : Int32)) ∈ tb := tb_in 150 (by decide +kernel) (by decide +kernel)
theorem tw151 : (Cond.constant "java/lang/Integer" 266 (858993459 : Int32)) ∈ tb := tb_in 151 (by decide +kernel) (by decide +kernel)
theorem tw152 : (Cond.constant "java/lang/Integer" 267 (252645135 : Int32)) ∈ tb := tb_in 152 (by decide +kernel) (by decide +kernel)
theorem tw153 : (Cond.methodLink "LogFs" 175 ⟨"LogFs$Volume", "freeInodes", "()I"⟩) ∈ tb := tb_in 153 (by decide +kernel) (by decide +kernel)
theorem tw154 : (Cond.instanceMethod ⟨"LogFs$Volume", "freeInodes", "()I"⟩) ∈ tb := tb_in 154 (by decide +kernel) (by decide +kernel)
theorem tw155 : (Cond.selects "LogFs$Volume" ⟨"LogFs$Volume", "freeInodes", "()I"⟩ ⟨"LogFs$Volume", "freeInodes", "()I"⟩) ∈ tb := tb_in 155 (by decide +kernel) (by decide +kernel)
theorem tw156 : (Cond.code ⟨"LogFs$Volume", "freeInodes", "()I"⟩ prog_5_method_8_code 3 (some .int)) ∈ tb := tb_in 156 (by decide +kernel) (by decide +kernel)
theorem tw157 : (Cond.methodLink "LogFs$Volume" 26 ⟨"LogFs$Volume", "type", "(I)I"⟩) ∈ tb := tb_in 157 (by decide +kernel) (by decide +kernel)
theorem tw158 : (Cond.instanceMethod ⟨"LogFs$Volume", "type", "(I)I"⟩) ∈ tb := tb_in 158 (by decide +kernel) (by decide +kernel)
theorem tw159 : (Cond.selects "LogFs$Volume" ⟨"LogFs$Volume", "type", "(I)I"⟩ ⟨"LogFs$Volume", "type", "(I)I"⟩) ∈ tb := tb_in 159 (by decide +kernel) (by decide +kernel)
theorem tw160 : (Cond.code ⟨"LogFs$Volume", "type", "(I)I"⟩ prog_5_method_2_code 2 (some .int)) ∈ tb := tb_in 160 (by decide +kernel) (by decide +kernel)
theorem tw161 : (Cond.methodLink "LogFs$Volume" 22 ⟨"LogFs$Volume", "inodeByte", "(II)I"⟩) ∈ tb := tb_in 161 (by decide +kernel) (by decide +kernel)
theorem tw163 : (Cond.instanceMethod ⟨"LogFs$Volume", "inodeByte", "(II)I"⟩) ∈ tb := tb_in 163 (by decide +kernel) (by decide +kernel)
theorem tw164 : (Cond.code ⟨"LogFs$Volume", "inodeByte", "(II)I"⟩ prog_5_method_23_code 3 (some .int)) ∈ tb := tb_in 164 (by decide +kernel) (by decide +kernel)
theorem tw165 : (Cond.methodLinkNest "LogFs$Volume" 100 ⟨"LogFs", "isInode", "(I)Z"⟩ "LogFs") ∈ tb := tb_in 165 (by decide +kernel) (by decide +kernel)
theorem tw166 : (Cond.static ⟨"LogFs", "isInode", "(I)Z"⟩) ∈ tb := tb_in 166 (by decide +kernel) (by decide +kernel)
theorem tw167 : (Cond.code ⟨"LogFs", "isInode", "(I)Z"⟩ prog_1_method_22_code 1 (some .boolean)) ∈ tb := tb_in 167 (by decide +kernel) (by decide +kernel)
theorem tw168 : (Cond.methodLink "LogFs" 178 ⟨"LogFs$Memory", "pendingAt", "(I)I"⟩) ∈ tb := tb_in 168 (by decide +kernel) (by decide +kernel)
theorem tw169 : (Cond.instanceMethod ⟨"LogFs$Memory", "pendingAt", "(I)I"⟩) ∈ tb := tb_in 169 (by decide +kernel) (by decide +kernel)
theorem tw170 : (Cond.selects "LogFs$Memory" ⟨"LogFs$Memory", "pendingAt", "(I)I"⟩ ⟨"LogFs$Memory", "pendingAt", "(I)I"⟩) ∈ tb := tb_in 170 (by decide +kernel) (by decide +kernel)
theorem tw171 : (Cond.code ⟨"LogFs$Memory", "pendingAt", "(I)I"⟩ prog_4_method_5_code 2 (some .int)) ∈ tb := tb_in 171 (by decide +kernel) (by decide +kernel)
theorem tw172 : (Cond.methodLink "LogFsLaw" 69 ⟨"LogFsLaw", "make", "(LLogFs;IJZ[J)I"⟩) ∈ tb := tb_in 172 (by decide +kernel) (by decide +kernel)
theorem tw173 : (Cond.static ⟨"LogFsLaw", "make", "(LLogFs;IJZ[J)I"⟩) ∈ tb := tb_in 173 (by decide +kernel) (by decide +kernel)
theorem tw174 : (Cond.codeWith ⟨"LogFsLaw", "make", "(LLogFs;IJZ[J)I"⟩ method_3_code 7 (some .int) [(0, 13, 16, 13), (0, 13, 20, 15)]) ∈ tb := tb_in 174 (by decide +kernel) (by decide +kernel)
theorem tw175 : (Cond.classLink "LogFsLaw" 13 "java/lang/IllegalStateException") ∈ tb := tb_in 175 (by decide +kernel) (by decide +kernel)
theorem tw176 : (Cond.classLink "LogFsLaw" 15 "java/lang/UnsupportedOperationException") ∈ tb := tb_in 176 (by decide +kernel) (by decide +kernel)
theorem tw177 : (Cond.methodLink "LogFsLaw" 7 ⟨"LogFs", "make", "(IJZ)I"⟩) ∈ tb := tb_in 177 (by decide +kernel) (by decide +kernel)
theorem tw178 : (Cond.instanceMethod ⟨"LogFs", "make", "(IJZ)I"⟩) ∈ tb := tb_in 178 (by decide +kernel) (by decide +kernel)
theorem tw179 : (Cond.selects "LogFs" ⟨"LogFs", "make", "(IJZ)I"⟩ ⟨"LogFs", "make", "(IJZ)I"⟩) ∈ tb := tb_in 179 (by decide +kernel) (by decide +kernel)
theorem tw180 : (Cond.code ⟨"LogFs", "make", "(IJZ)I"⟩ prog_1_method_2_code 6 (some .int)) ∈ tb := tb_in 180 (by decide +kernel) (by decide +kernel)
theorem tw181 : (Cond.methodLink "LogFs" 44 ⟨"LogFs", "requirePower", "()V"⟩) ∈ tb := tb_in 181 (by decide +kernel) (by decide +kernel)
theorem tw183 : (Cond.instanceMethod ⟨"LogFs", "requirePower", "()V"⟩) ∈ tb := tb_in 183 (by decide +kernel) (by decide +kernel)
theorem tw184 : (Cond.code ⟨"LogFs", "requirePower", "()V"⟩ prog_1_method_18_code 1 none) ∈ tb := tb_in 184 (by decide +kernel) (by decide +kernel)
theorem tw185 : (Cond.classLink "LogFs" 181 "java/lang/IllegalStateException") ∈ tb := tb_in 185 (by decide +kernel) (by decide +kernel)
theorem tw186 : (Cond.instantiable "java/lang/IllegalStateException" 6) ∈ tb := tb_in 186 (by decide +kernel) (by decide +kernel)
theorem tw187 : (Cond.castable "java/lang/IllegalStateException" "java/lang/IllegalStateException") ∈ tb := tb_in 187 (by decide +kernel) (by decide +kernel)
theorem tw188 : (Cond.declares ⟨"java/lang/RuntimeException", "<init>", "()V"⟩) ∈ tb := tb_in 188 (by decide +kernel) (by decide +kernel)
theorem tw189 : (Cond.declares ⟨"java/lang/RuntimeException", "<init>", "(Ljava/lang/String;)V"⟩) ∈ tb := tb_in 189 (by decide +kernel) (by decide +kernel)
theorem tw190 : (Cond.declares ⟨"java/lang/Exception", "<init>", "()V"⟩) ∈ tb := tb_in 190 (by decide +kernel) (by decide +kernel)
theorem tw191 : (Cond.declares ⟨"java/lang/Exception", "<init>", "(Ljava/lang/String;)V"⟩) ∈ tb := tb_in 191 (by decide +kernel) (by decide +kernel)
theorem tw192 : (Cond.declares ⟨"java/lang/Throwable", "<init>", "()V"⟩) ∈ tb := tb_in 192 (by decide +kernel) (by decide +kernel)
theorem tw193 : (Cond.declares ⟨"java/lang/Throwable", "<init>", "(Ljava/lang/String;)V"⟩) ∈ tb := tb_in 193 (by decide +kernel) (by decide +kernel)
theorem tw194 : (Cond.selects "java/lang/IllegalStateException" ⟨"java/lang/Throwable", "fillInStackTrace", "(I)Ljava/lang/Throwable;"⟩ ⟨"java/lang/Throwable", "fillInStackTrace", "(I)Ljava/lang/Throwable;"⟩) ∈ tb := tb_in 194 (by decide +kernel) (by decide +kernel)
theorem tw195 : (Cond.selects "java/lang/IllegalStateException" ⟨"java/lang/Throwable", "fillInStackTrace", "()Ljava/lang/Throwable;"⟩ ⟨"java/lang/Throwable", "fillInStackTrace", "()Ljava/lang/Throwable;"⟩) ∈ tb := tb_in 195 (by decide +kernel) (by decide +kernel)
theorem tw196 : (Cond.lays "java/lang/IllegalStateException" "java/lang/Throwable" "cause" "Ljava/lang/Throwable;") ∈ tb := tb_in 196 (by decide +kernel) (by decide +kernel)
theorem tw197 : (Cond.lays "java/lang/Throwable" "java/lang/Throwable" "cause" "Ljava/lang/Throwable;") ∈ tb := tb_in 197 (by decide +kernel) (by decide +kernel)
theorem tw198 : (Cond.lays "java/lang/IllegalStateException" "java/lang/Throwable" "stackTrace" "[Ljava/lang/StackTraceElement;") ∈ tb := tb_in 198 (by decide +kernel) (by decide +kernel)
theorem tw199 : (Cond.lays "java/lang/Throwable" "java/lang/Throwable" "stackTrace" "[Ljava/lang/StackTraceElement;") ∈ tb := tb_in 199 (by decide +kernel) (by decide +kernel)
theorem tw200 : (Cond.lays "java/lang/IllegalStateException" "java/lang/Throwable" "suppressedExceptions" "Ljava/util/List;") ∈ tb := tb_in 200 (by decide +kernel) (by decide +kernel)
theorem tw201 : (Cond.lays "java/lang/Throwable" "java/lang/Throwable" "suppressedExceptions" "Ljava/util/List;") ∈ tb := tb_in 201 (by decide +kernel) (by decide +kernel)
theorem tw202 : (Cond.lays "java/lang/IllegalStateException" "java/lang/Throwable" "detailMessage" "Ljava/lang/String;") ∈ tb := tb_in 202 (by decide +kernel) (by decide +kernel)
theorem tw203 : (Cond.lays "java/lang/Throwable" "java/lang/Throwable" "detailMessage" "Ljava/lang/String;") ∈ tb := tb_in 203 (by decide +kernel) (by decide +kernel)
theorem tw204 : (Cond.lays "java/lang/IllegalStateException" "java/lang/Throwable" "backtrace" "Ljava/lang/Object;") ∈ tb := tb_in 204 (by decide +kernel) (by decide +kernel)
theorem tw205 : (Cond.lays "java/lang/Throwable" "java/lang/Throwable" "backtrace" "Ljava/lang/Object;") ∈ tb := tb_in 205 (by decide +kernel) (by decide +kernel)
theorem tw206 : (Cond.fieldLink "java/lang/Throwable" 198 "java/lang/Throwable" "backtrace" "Ljava/lang/Object;") ∈ tb := tb_in 206 (by decide +kernel) (by decide +kernel)
theorem tw207 : (Cond.superclass "java/lang/Throwable" "java/lang/Object") ∈ tb := tb_in 207 (by decide +kernel) (by decide +kernel)
theorem tw208 : (Cond.instanceMethod ⟨"java/lang/Throwable", "<init>", "()V"⟩) ∈ tb := tb_in 208 (by decide +kernel) (by decide +kernel)
theorem tw209 : (Cond.code ⟨"java/lang/Throwable", "<init>", "()V"⟩ prog_15_method_1_code 1 none) ∈ tb := tb_in 209 (by decide +kernel) (by decide +kernel)
theorem tw210 : (Cond.methodLink "java/lang/Throwable" 1 ⟨"java/lang/Object", "<init>", "()V"⟩) ∈ tb := tb_in 210 (by decide +kernel) (by decide +kernel)
theorem tw211 : (Cond.fieldLink "java/lang/Throwable" 13 "java/lang/Throwable" "UNASSIGNED_STACK" "[Ljava/lang/StackTraceElement;") ∈ tb := tb_in 211 (by decide +kernel) (by decide +kernel)
theorem tw213 : (Cond.fieldLink "java/lang/Throwable" 20 "java/lang/Throwable" "SUPPRESSED_SENTINEL" "Ljava/util/List;") ∈ tb := tb_in 213 (by decide +kernel) (by decide +kernel)
theorem tw215 : (Cond.methodLink "java/lang/Throwable" 27 ⟨"java/lang/Throwable", "fillInStackTrace", "()Ljava/lang/Throwable;"⟩) ∈ tb := tb_in 215 (by decide +kernel) (by decide +kernel)
theorem tw216 : (Cond.instanceMethod ⟨"java/lang/Throwable", "fillInStackTrace", "()Ljava/lang/Throwable;"⟩) ∈ tb := tb_in 216 (by decide +kernel) (by decide +kernel)
theorem tw217 : (Cond.sameMethod "java/lang/Throwable" "java/lang/Throwable" "fillInStackTrace" "()Ljava/lang/Throwable;") ∈ tb := tb_in 217 (by decide +kernel) (by decide +kernel)
theorem tw218 : (Cond.selects "java/lang/IndexOutOfBoundsException" ⟨"java/lang/Throwable", "fillInStackTrace", "()Ljava/lang/Throwable;"⟩ ⟨"java/lang/Throwable", "fillInStackTrace", "()Ljava/lang/Throwable;"⟩) ∈ tb := tb_in 218 (by decide +kernel) (by decide +kernel)
theorem tw219 : (Cond.selects "java/lang/UnsupportedOperationException" ⟨"java/lang/Throwable", "fillInStackTrace", "()Ljava/lang/Throwable;"⟩ ⟨"java/lang/Throwable", "fillInStackTrace", "()Ljava/lang/Throwable;"⟩) ∈ tb := tb_in 219 (by decide +kernel) (by decide +kernel)
theorem tw220 : (Cond.codeSync ⟨"java/lang/Throwable", "fillInStackTrace", "()Ljava/lang/Throwable;"⟩ prog_15_method_18_code 1 (some (.object "java/lang/Throwable"))) ∈ tb := tb_in 220 (by decide +kernel) (by decide +kernel)
theorem tw221 : (Cond.methodLink "java/lang/Throwable" 202 ⟨"java/lang/Throwable", "fillInStackTrace", "(I)Ljava/lang/Throwable;"⟩) ∈ tb := tb_in 221 (by decide +kernel) (by decide +kernel)
theorem tw223 : (Cond.instanceMethod ⟨"java/lang/Throwable", "fillInStackTrace", "(I)Ljava/lang/Throwable;"⟩) ∈ tb := tb_in 223 (by decide +kernel) (by decide +kernel)
theorem tw224 : (Cond.instantiable "java/lang/Throwable" 6) ∈ tb := tb_in 224 (by decide +kernel) (by decide +kernel)
theorem tw225 : (Cond.native ⟨"java/lang/Throwable", "fillInStackTrace", "(I)Ljava/lang/Throwable;"⟩) ∈ tb := tb_in 225 (by decide +kernel) (by decide +kernel)
theorem tw227 : (Cond.methodLink "LogFs" 185 ⟨"java/lang/IllegalStateException", "<init>", "(Ljava/lang/String;)V"⟩) ∈ tb := tb_in 227 (by decide +kernel) (by decide +kernel)
theorem tw228 : (Cond.instanceMethod ⟨"java/lang/IllegalStateException", "<init>", "(Ljava/lang/String;)V"⟩) ∈ tb := tb_in 228 (by decide +kernel) (by decide +kernel)
theorem tw229 : (Cond.code ⟨"java/lang/IllegalStateException", "<init>", "(Ljava/lang/String;)V"⟩ prog_9_method_2_code 2 none) ∈ tb := tb_in 229 (by decide +kernel) (by decide +kernel)
theorem tw230 : (Cond.methodLink "java/lang/IllegalStateException" 7 ⟨"java/lang/RuntimeException", "<init>", "(Ljava/lang/String;)V"⟩) ∈ tb := tb_in 230 (by decide +kernel) (by decide +kernel)
theorem tw231 : (Cond.instanceMethod ⟨"java/lang/RuntimeException", "<init>", "(Ljava/lang/String;)V"⟩) ∈ tb := tb_in 231 (by decide +kernel) (by decide +kernel)
theorem tw232 : (Cond.code ⟨"java/lang/RuntimeException", "<init>", "(Ljava/lang/String;)V"⟩ prog_12_method_2_code 2 none) ∈ tb := tb_in 232 (by decide +kernel) (by decide +kernel)
theorem tw233 : (Cond.methodLink "java/lang/RuntimeException" 7 ⟨"java/lang/Exception", "<init>", "(Ljava/lang/String;)V"⟩) ∈ tb := tb_in 233 (by decide +kernel) (by decide +kernel)
theorem tw234 : (Cond.instanceMethod ⟨"java/lang/Exception", "<init>", "(Ljava/lang/String;)V"⟩) ∈ tb := tb_in 234 (by decide +kernel) (by decide +kernel)
theorem tw235 : (Cond.code ⟨"java/lang/Exception", "<init>", "(Ljava/lang/String;)V"⟩ prog_8_method_2_code 2 none) ∈ tb := tb_in 235 (by decide +kernel) (by decide +kernel)
theorem tw236 : (Cond.methodLink "java/lang/Exception" 7 ⟨"java/lang/Throwable", "<init>", "(Ljava/lang/String;)V"⟩) ∈ tb := tb_in 236 (by decide +kernel) (by decide +kernel)
theorem tw237 : (Cond.instanceMethod ⟨"java/lang/Throwable", "<init>", "(Ljava/lang/String;)V"⟩) ∈ tb := tb_in 237 (by decide +kernel) (by decide +kernel)
theorem tw238 : (Cond.code ⟨"java/lang/Throwable", "<init>", "(Ljava/lang/String;)V"⟩ prog_15_method_2_code 2 none) ∈ tb := tb_in 238 (by decide +kernel) (by decide +kernel)
theorem tw239 : (Cond.fieldLink "java/lang/Throwable" 198 "java/lang/Throwable" "backtrace" "Ljava/lang/Object;") ∈ tb := tb_in 239 (by decide +kernel) (by decide +kernel)
theorem tw240 : (Cond.fieldLink "java/lang/Throwable" 31 "java/lang/Throwable" "detailMessage" "Ljava/lang/String;") ∈ tb := tb_in 240 (by decide +kernel) (by decide +kernel)
theorem tw241 : (Cond.fieldLink "java/lang/Throwable" 7 "java/lang/Throwable" "cause" "Ljava/lang/Throwable;") ∈ tb := tb_in 241 (by decide +kernel) (by decide +kernel)
theorem tw242 : (Cond.fieldLink "java/lang/Throwable" 17 "java/lang/Throwable" "stackTrace" "[Ljava/lang/StackTraceElement;") ∈ tb := tb_in 242 (by decide +kernel) (by decide +kernel)
theorem tw243 : (Cond.fieldLink "java/lang/Throwable" 24 "java/lang/Throwable" "suppressedExceptions" "Ljava/util/List;") ∈ tb := tb_in 243 (by decide +kernel) (by decide +kernel)
theorem tw248 : (Cond.lays "java/lang/IllegalStateException" "java/lang/Throwable" "depth" "I") ∈ tb := tb_in 248 (by decide +kernel) (by decide +kernel)
theorem tw251 : (Cond.superclass "java/lang/IllegalStateException" "java/lang/RuntimeException") ∈ tb := tb_in 251 (by decide +kernel) (by decide +kernel)
theorem tw252 : (Cond.methodLink "LogFs" 47 ⟨"LogFs$Volume", "leastFreeInode", "()I"⟩) ∈ tb := tb_in 252 (by decide +kernel) (by decide +kernel)
theorem tw253 : (Cond.instanceMethod ⟨"LogFs$Volume", "leastFreeInode", "()I"⟩) ∈ tb := tb_in 253 (by decide +kernel) (by decide +kernel)
theorem tw254 : (Cond.selects "LogFs$Volume" ⟨"LogFs$Volume", "leastFreeInode", "()I"⟩ ⟨"LogFs$Volume", "leastFreeInode", "()I"⟩) ∈ tb := tb_in 254 (by decide +kernel) (by decide +kernel)
theorem tw255 : (Cond.code ⟨"LogFs$Volume", "leastFreeInode", "()I"⟩ prog_5_method_7_code 2 (some .int)) ∈ tb := tb_in 255 (by decide +kernel) (by decide +kernel)
theorem tw256 : (Cond.methodLink "LogFs" 51 ⟨"LogFs$Volume", "canEnter", "(IJ)Z"⟩) ∈ tb := tb_in 256 (by decide +kernel) (by decide +kernel)
theorem tw257 : (Cond.instanceMethod ⟨"LogFs$Volume", "canEnter", "(IJ)Z"⟩) ∈ tb := tb_in 257 (by decide +kernel) (by decide +kernel)
theorem tw258 : (Cond.selects "LogFs$Volume" ⟨"LogFs$Volume", "canEnter", "(IJ)Z"⟩ ⟨"LogFs$Volume", "canEnter", "(IJ)Z"⟩) ∈ tb := tb_in 258 (by decide +kernel) (by decide +kernel)
theorem tw259 : (Cond.code ⟨"LogFs$Volume", "canEnter", "(IJ)Z"⟩ prog_5_method_15_code 4 (some .boolean)) ∈ tb := tb_in 259 (by decide +kernel) (by decide +kernel)
theorem tw260 : (Cond.methodLink "LogFs$Volume" 43 ⟨"LogFs$Volume", "isDirectory", "(I)Z"⟩) ∈ tb := tb_in 260 (by decide +kernel) (by decide +kernel)
theorem tw261 : (Cond.instanceMethod ⟨"LogFs$Volume", "isDirectory", "(I)Z"⟩) ∈ tb := tb_in 261 (by decide +kernel) (by decide +kernel)
theorem tw262 : (Cond.selects "LogFs$Volume" ⟨"LogFs$Volume", "isDirectory", "(I)Z"⟩ ⟨"LogFs$Volume", "isDirectory", "(I)Z"⟩) ∈ tb := tb_in 262 (by decide +kernel) (by decide +kernel)
theorem tw263 : (Cond.code ⟨"LogFs$Volume", "isDirectory", "(I)Z"⟩ prog_5_method_6_code 2 (some .boolean)) ∈ tb := tb_in 263 (by decide +kernel) (by decide +kernel)
theorem tw264 : (Cond.methodLinkNest "LogFs$Volume" 47 ⟨"LogFs", "isName", "(J)Z"⟩ "LogFs") ∈ tb := tb_in 264 (by decide +kernel) (by decide +kernel)
theorem tw265 : (Cond.static ⟨"LogFs", "isName", "(J)Z"⟩) ∈ tb := tb_in 265 (by decide +kernel) (by decide +kernel)
theorem tw266 : (Cond.code ⟨"LogFs", "isName", "(J)Z"⟩ prog_1_method_26_code 4 (some .boolean)) ∈ tb := tb_in 266 (by decide +kernel) (by decide +kernel)
theorem tw267 : (Cond.methodLink "LogFs" 195 ⟨"LogFs", "byteOf", "(JI)I"⟩) ∈ tb := tb_in 267 (by decide +kernel) (by decide +kernel)
theorem tw268 : (Cond.static ⟨"LogFs", "byteOf", "(JI)I"⟩) ∈ tb := tb_in 268 (by decide +kernel) (by decide +kernel)
theorem tw269 : (Cond.code ⟨"LogFs", "byteOf", "(JI)I"⟩ prog_1_method_24_code 3 (some .int)) ∈ tb := tb_in 269 (by decide +kernel) (by decide +kernel)
theorem tw270 : (Cond.methodLink "LogFs$Volume" 62 ⟨"LogFs$Volume", "placeOf", "(IJ)I"⟩) ∈ tb := tb_in 270 (by decide +kernel) (by decide +kernel)
theorem tw271 : (Cond.instanceMethod ⟨"LogFs$Volume", "placeOf", "(IJ)I"⟩) ∈ tb := tb_in 271 (by decide +kernel) (by decide +kernel)
theorem tw272 : (Cond.selects "LogFs$Volume" ⟨"LogFs$Volume", "placeOf", "(IJ)I"⟩ ⟨"LogFs$Volume", "placeOf", "(IJ)I"⟩) ∈ tb := tb_in 272 (by decide +kernel) (by decide +kernel)
theorem tw273 : (Cond.code ⟨"LogFs$Volume", "placeOf", "(IJ)I"⟩ prog_5_method_11_code 6 (some .int)) ∈ tb := tb_in 273 (by decide +kernel) (by decide +kernel)
theorem tw274 : (Cond.methodLink "LogFs$Volume" 51 ⟨"LogFs$Volume", "size", "(I)I"⟩) ∈ tb := tb_in 274 (by decide +kernel) (by decide +kernel)
theorem tw275 : (Cond.instanceMethod ⟨"LogFs$Volume", "size", "(I)I"⟩) ∈ tb := tb_in 275 (by decide +kernel) (by decide +kernel)
theorem tw276 : (Cond.selects "LogFs$Volume" ⟨"LogFs$Volume", "size", "(I)I"⟩ ⟨"LogFs$Volume", "size", "(I)I"⟩) ∈ tb := tb_in 276 (by decide +kernel) (by decide +kernel)
theorem tw277 : (Cond.code ⟨"LogFs$Volume", "size", "(I)I"⟩ prog_5_method_4_code 2 (some .int)) ∈ tb := tb_in 277 (by decide +kernel) (by decide +kernel)
theorem tw278 : (Cond.methodLink "LogFs$Volume" 54 ⟨"LogFs$Volume", "entryAt", "(II)J"⟩) ∈ tb := tb_in 278 (by decide +kernel) (by decide +kernel)
theorem tw280 : (Cond.instanceMethod ⟨"LogFs$Volume", "entryAt", "(II)J"⟩) ∈ tb := tb_in 280 (by decide +kernel) (by decide +kernel)
theorem tw281 : (Cond.code ⟨"LogFs$Volume", "entryAt", "(II)J"⟩ prog_5_method_26_code 7 (some .long)) ∈ tb := tb_in 281 (by decide +kernel) (by decide +kernel)
theorem tw282 : (Cond.methodLink "LogFs$Volume" 40 ⟨"LogFs$Volume", "contentBlock", "(II)I"⟩) ∈ tb := tb_in 282 (by decide +kernel) (by decide +kernel)
theorem tw284 : (Cond.instanceMethod ⟨"LogFs$Volume", "contentBlock", "(II)I"⟩) ∈ tb := tb_in 284 (by decide +kernel) (by decide +kernel)
theorem tw285 : (Cond.code ⟨"LogFs$Volume", "contentBlock", "(II)I"⟩ prog_5_method_25_code 4 (some .int)) ∈ tb := tb_in 285 (by decide +kernel) (by decide +kernel)
theorem tw286 : (Cond.methodLink "LogFs$Volume" 66 ⟨"LogFs$Volume", "placeForEntry", "(I)I"⟩) ∈ tb := tb_in 286 (by decide +kernel) (by decide +kernel)
theorem tw287 : (Cond.instanceMethod ⟨"LogFs$Volume", "placeForEntry", "(I)I"⟩) ∈ tb := tb_in 287 (by decide +kernel) (by decide +kernel)
theorem tw288 : (Cond.selects "LogFs$Volume" ⟨"LogFs$Volume", "placeForEntry", "(I)I"⟩ ⟨"LogFs$Volume", "placeForEntry", "(I)I"⟩) ∈ tb := tb_in 288 (by decide +kernel) (by decide +kernel)
theorem tw289 : (Cond.code ⟨"LogFs$Volume", "placeForEntry", "(I)I"⟩ prog_5_method_12_code 4 (some .int)) ∈ tb := tb_in 289 (by decide +kernel) (by decide +kernel)
theorem tw290 : (Cond.methodLink "LogFs$Volume" 69 ⟨"LogFs$Volume", "fits", "(II)Z"⟩) ∈ tb := tb_in 290 (by decide +kernel) (by decide +kernel)
theorem tw292 : (Cond.instanceMethod ⟨"LogFs$Volume", "fits", "(II)Z"⟩) ∈ tb := tb_in 292 (by decide +kernel) (by decide +kernel)
theorem tw293 : (Cond.code ⟨"LogFs$Volume", "fits", "(II)Z"⟩ prog_5_method_27_code 3 (some .boolean)) ∈ tb := tb_in 293 (by decide +kernel) (by decide +kernel)
theorem tw294 : (Cond.methodLink "LogFs$Volume" 106 ⟨"LogFs$Volume", "blocksToTake", "(II)I"⟩) ∈ tb := tb_in 294 (by decide +kernel) (by decide +kernel)
theorem tw296 : (Cond.instanceMethod ⟨"LogFs$Volume", "blocksToTake", "(II)I"⟩) ∈ tb := tb_in 296 (by decide +kernel) (by decide +kernel)
theorem tw297 : (Cond.code ⟨"LogFs$Volume", "blocksToTake", "(II)I"⟩ prog_5_method_28_code 6 (some .int)) ∈ tb := tb_in 297 (by decide +kernel) (by decide +kernel)
theorem tw298 : (Cond.methodLinkNest "LogFs$Volume" 94 ⟨"LogFs", "blocksFor", "(I)I"⟩ "LogFs") ∈ tb := tb_in 298 (by decide +kernel) (by decide +kernel)
theorem tw299 : (Cond.static ⟨"LogFs", "blocksFor", "(I)I"⟩) ∈ tb := tb_in 299 (by decide +kernel) (by decide +kernel)
theorem tw300 : (Cond.code ⟨"LogFs", "blocksFor", "(I)I"⟩ prog_1_method_23_code 1 (some .int)) ∈ tb := tb_in 300 (by decide +kernel) (by decide +kernel)
theorem tw301 : (Cond.methodLink "LogFs$Volume" 109 ⟨"LogFs$Volume", "freeBlocks", "()I"⟩) ∈ tb := tb_in 301 (by decide +kernel) (by decide +kernel)
theorem tw302 : (Cond.methodLink "LogFs" 55 ⟨"LogFs", "commitIfMany", "()V"⟩) ∈ tb := tb_in 302 (by decide +kernel) (by decide +kernel)
theorem tw304 : (Cond.instanceMethod ⟨"LogFs", "commitIfMany", "()V"⟩) ∈ tb := tb_in 304 (by decide +kernel) (by decide +kernel)
theorem tw305 : (Cond.code ⟨"LogFs", "commitIfMany", "()V"⟩ prog_1_method_20_code 1 none) ∈ tb := tb_in 305 (by decide +kernel) (by decide +kernel)
theorem tw306 : (Cond.methodLink "LogFs" 116 ⟨"LogFs", "commit", "()V"⟩) ∈ tb := tb_in 306 (by decide +kernel) (by decide +kernel)
theorem tw308 : (Cond.instanceMethod ⟨"LogFs", "commit", "()V"⟩) ∈ tb := tb_in 308 (by decide +kernel) (by decide +kernel)
theorem tw309 : (Cond.code ⟨"LogFs", "commit", "()V"⟩ prog_1_method_21_code 1 none) ∈ tb := tb_in 309 (by decide +kernel) (by decide +kernel)
theorem tw310 : (Cond.methodLink "LogFs" 188 ⟨"LogFs$Disk", "storePending", "(LLogFs$Memory;)Z"⟩) ∈ tb := tb_in 310 (by decide +kernel) (by decide +kernel)
theorem tw311 : (Cond.instanceMethod ⟨"LogFs$Disk", "storePending", "(LLogFs$Memory;)Z"⟩) ∈ tb := tb_in 311 (by decide +kernel) (by decide +kernel)
theorem tw312 : (Cond.selects "LogFs$Disk" ⟨"LogFs$Disk", "storePending", "(LLogFs$Memory;)Z"⟩ ⟨"LogFs$Disk", "storePending", "(LLogFs$Memory;)Z"⟩) ∈ tb := tb_in 312 (by decide +kernel) (by decide +kernel)
theorem tw313 : (Cond.code ⟨"LogFs$Disk", "storePending", "(LLogFs$Memory;)Z"⟩ prog_3_method_2_code 2 (some .boolean)) ∈ tb := tb_in 313 (by decide +kernel) (by decide +kernel)
theorem tw314 : (Cond.methodLink "LogFs$Disk" 37 ⟨"LogFs$Disk", "storeInLog", "(LLogFs$Memory;)Z"⟩) ∈ tb := tb_in 314 (by decide +kernel) (by decide +kernel)
theorem tw316 : (Cond.instanceMethod ⟨"LogFs$Disk", "storeInLog", "(LLogFs$Memory;)Z"⟩) ∈ tb := tb_in 316 (by decide +kernel) (by decide +kernel)
theorem tw317 : (Cond.code ⟨"LogFs$Disk", "storeInLog", "(LLogFs$Memory;)Z"⟩ prog_3_method_4_code 3 (some .boolean)) ∈ tb := tb_in 317 (by decide +kernel) (by decide +kernel)
theorem tw318 : (Cond.methodLink "LogFs$Disk" 61 ⟨"LogFs$Memory", "pendingAt", "(I)I"⟩) ∈ tb := tb_in 318 (by decide +kernel) (by decide +kernel)
theorem tw319 : (Cond.methodLink "LogFs$Disk" 51 ⟨"LogFs$Disk", "storeBlock", "(LLogFs$Blocks;II)Z"⟩) ∈ tb := tb_in 319 (by decide +kernel) (by decide +kernel)
theorem tw321 : (Cond.instanceMethod ⟨"LogFs$Disk", "storeBlock", "(LLogFs$Blocks;II)Z"⟩) ∈ tb := tb_in 321 (by decide +kernel) (by decide +kernel)
theorem tw322 : (Cond.code ⟨"LogFs$Disk", "storeBlock", "(LLogFs$Blocks;II)Z"⟩ prog_3_method_8_code 4 (some .boolean)) ∈ tb := tb_in 322 (by decide +kernel) (by decide +kernel)
theorem tw323 : (Cond.methodLink "LogFs$Disk" 65 ⟨"LogFs$Disk", "spendWrite", "()Z"⟩) ∈ tb := tb_in 323 (by decide +kernel) (by decide +kernel)
theorem tw325 : (Cond.instanceMethod ⟨"LogFs$Disk", "spendWrite", "()Z"⟩) ∈ tb := tb_in 325 (by decide +kernel) (by decide +kernel)
theorem tw326 : (Cond.code ⟨"LogFs$Disk", "spendWrite", "()Z"⟩ prog_3_method_9_code 1 (some .boolean)) ∈ tb := tb_in 326 (by decide +kernel) (by decide +kernel)
theorem tw327 : (Cond.methodLink "LogFs$Disk" 72 ⟨"LogFs$Blocks", "copyBlock", "(LLogFs$Blocks;II)V"⟩) ∈ tb := tb_in 327 (by decide +kernel) (by decide +kernel)
theorem tw328 : (Cond.instanceMethod ⟨"LogFs$Blocks", "copyBlock", "(LLogFs$Blocks;II)V"⟩) ∈ tb := tb_in 328 (by decide +kernel) (by decide +kernel)
theorem tw329 : (Cond.selects "LogFs$Blocks" ⟨"LogFs$Blocks", "copyBlock", "(LLogFs$Blocks;II)V"⟩ ⟨"LogFs$Blocks", "copyBlock", "(LLogFs$Blocks;II)V"⟩) ∈ tb := tb_in 329 (by decide +kernel) (by decide +kernel)
theorem tw330 : (Cond.code ⟨"LogFs$Blocks", "copyBlock", "(LLogFs$Blocks;II)V"⟩ prog_2_method_5_code 4 none) ∈ tb := tb_in 330 (by decide +kernel) (by decide +kernel)
theorem tw331 : (Cond.methodLink "LogFs$Disk" 41 ⟨"LogFs$Disk", "storeHead", "(LLogFs$Memory;)Z"⟩) ∈ tb := tb_in 331 (by decide +kernel) (by decide +kernel)
theorem tw333 : (Cond.instanceMethod ⟨"LogFs$Disk", "storeHead", "(LLogFs$Memory;)Z"⟩) ∈ tb := tb_in 333 (by decide +kernel) (by decide +kernel)
theorem tw334 : (Cond.code ⟨"LogFs$Disk", "storeHead", "(LLogFs$Memory;)Z"⟩ prog_3_method_6_code 3 (some .boolean)) ∈ tb := tb_in 334 (by decide +kernel) (by decide +kernel)
theorem tw335 : (Cond.methodLink "LogFs$Disk" 68 ⟨"LogFs$Blocks", "clear", "(I)V"⟩) ∈ tb := tb_in 335 (by decide +kernel) (by decide +kernel)
theorem tw336 : (Cond.instanceMethod ⟨"LogFs$Blocks", "clear", "(I)V"⟩) ∈ tb := tb_in 336 (by decide +kernel) (by decide +kernel)
theorem tw337 : (Cond.selects "LogFs$Blocks" ⟨"LogFs$Blocks", "clear", "(I)V"⟩ ⟨"LogFs$Blocks", "clear", "(I)V"⟩) ∈ tb := tb_in 337 (by decide +kernel) (by decide +kernel)
theorem tw338 : (Cond.code ⟨"LogFs$Blocks", "clear", "(I)V"⟩ prog_2_method_4_code 3 none) ∈ tb := tb_in 338 (by decide +kernel) (by decide +kernel)
theorem tw339 : (Cond.methodLink "LogFs$Blocks" 15 ⟨"LogFs$Blocks", "set", "(III)V"⟩) ∈ tb := tb_in 339 (by decide +kernel) (by decide +kernel)
theorem tw340 : (Cond.methodLink "LogFs$Disk" 44 ⟨"LogFs$Disk", "storeInPlace", "(LLogFs$Memory;)Z"⟩) ∈ tb := tb_in 340 (by decide +kernel) (by decide +kernel)
theorem tw342 : (Cond.instanceMethod ⟨"LogFs$Disk", "storeInPlace", "(LLogFs$Memory;)Z"⟩) ∈ tb := tb_in 342 (by decide +kernel) (by decide +kernel)
theorem tw343 : (Cond.code ⟨"LogFs$Disk", "storeInPlace", "(LLogFs$Memory;)Z"⟩ prog_3_method_5_code 3 (some .boolean)) ∈ tb := tb_in 343 (by decide +kernel) (by decide +kernel)
theorem tw344 : (Cond.methodLink "LogFs$Disk" 47 ⟨"LogFs$Disk", "clearHead", "()Z"⟩) ∈ tb := tb_in 344 (by decide +kernel) (by decide +kernel)
theorem tw346 : (Cond.instanceMethod ⟨"LogFs$Disk", "clearHead", "()Z"⟩) ∈ tb := tb_in 346 (by decide +kernel) (by decide +kernel)
theorem tw347 : (Cond.code ⟨"LogFs$Disk", "clearHead", "()Z"⟩ prog_3_method_7_code 1 (some .boolean)) ∈ tb := tb_in 347 (by decide +kernel) (by decide +kernel)
theorem tw348 : (Cond.classLink "LogFs" 134 "java/lang/UnsupportedOperationException") ∈ tb := tb_in 348 (by decide +kernel) (by decide +kernel)
theorem tw349 : (Cond.instantiable "java/lang/UnsupportedOperationException" 6) ∈ tb := tb_in 349 (by decide +kernel) (by decide +kernel)
theorem tw350 : (Cond.castable "java/lang/UnsupportedOperationException" "java/lang/UnsupportedOperationException") ∈ tb := tb_in 350 (by decide +kernel) (by decide +kernel)
theorem tw351 : (Cond.selects "java/lang/UnsupportedOperationException" ⟨"java/lang/Throwable", "fillInStackTrace", "(I)Ljava/lang/Throwable;"⟩ ⟨"java/lang/Throwable", "fillInStackTrace", "(I)Ljava/lang/Throwable;"⟩) ∈ tb := tb_in 351 (by decide +kernel) (by decide +kernel)
theorem tw352 : (Cond.lays "java/lang/UnsupportedOperationException" "java/lang/Throwable" "cause" "Ljava/lang/Throwable;") ∈ tb := tb_in 352 (by decide +kernel) (by decide +kernel)
theorem tw353 : (Cond.lays "java/lang/UnsupportedOperationException" "java/lang/Throwable" "stackTrace" "[Ljava/lang/StackTraceElement;") ∈ tb := tb_in 353 (by decide +kernel) (by decide +kernel)
theorem tw354 : (Cond.lays "java/lang/UnsupportedOperationException" "java/lang/Throwable" "suppressedExceptions" "Ljava/util/List;") ∈ tb := tb_in 354 (by decide +kernel) (by decide +kernel)
theorem tw355 : (Cond.lays "java/lang/UnsupportedOperationException" "java/lang/Throwable" "detailMessage" "Ljava/lang/String;") ∈ tb := tb_in 355 (by decide +kernel) (by decide +kernel)
theorem tw356 : (Cond.lays "java/lang/UnsupportedOperationException" "java/lang/Throwable" "backtrace" "Ljava/lang/Object;") ∈ tb := tb_in 356 (by decide +kernel) (by decide +kernel)
theorem tw358 : (Cond.methodLink "LogFs" 138 ⟨"java/lang/UnsupportedOperationException", "<init>", "(Ljava/lang/String;)V"⟩) ∈ tb := tb_in 358 (by decide +kernel) (by decide +kernel)
theorem tw359 : (Cond.instanceMethod ⟨"java/lang/UnsupportedOperationException", "<init>", "(Ljava/lang/String;)V"⟩) ∈ tb := tb_in 359 (by decide +kernel) (by decide +kernel)
theorem tw360 : (Cond.code ⟨"java/lang/UnsupportedOperationException", "<init>", "(Ljava/lang/String;)V"⟩ prog_16_method_2_code 2 none) ∈ tb := tb_in 360 (by decide +kernel) (by decide +kernel)
theorem tw361 : (Cond.methodLink "java/lang/UnsupportedOperationException" 7 ⟨"java/lang/RuntimeException", "<init>", "(Ljava/lang/String;)V"⟩) ∈ tb := tb_in 361 (by decide +kernel) (by decide +kernel)
theorem tw362 : (Cond.lays "java/lang/UnsupportedOperationException" "java/lang/Throwable" "depth" "I") ∈ tb := tb_in 362 (by decide +kernel) (by decide +kernel)
theorem tw363 : (Cond.superclass "java/lang/UnsupportedOperationException" "java/lang/RuntimeException") ∈ tb := tb_in 363 (by decide +kernel) (by decide +kernel)
theorem tw364 : (Cond.methodLink "LogFs" 192 ⟨"LogFs$Memory", "forgetPending", "()V"⟩) ∈ tb := tb_in 364 (by decide +kernel) (by decide +kernel)
theorem tw365 : (Cond.methodLink "LogFs" 58 ⟨"LogFs$Volume", "begin", "(II)V"⟩) ∈ tb := tb_in 365 (by decide +kernel) (by decide +kernel)
theorem tw366 : (Cond.instanceMethod ⟨"LogFs$Volume", "begin", "(II)V"⟩) ∈ tb := tb_in 366 (by decide +kernel) (by decide +kernel)
theorem tw367 : (Cond.selects "LogFs$Volume" ⟨"LogFs$Volume", "begin", "(II)V"⟩ ⟨"LogFs$Volume", "begin", "(II)V"⟩) ∈ tb := tb_in 367 (by decide +kernel) (by decide +kernel)
theorem tw368 : (Cond.code ⟨"LogFs$Volume", "begin", "(II)V"⟩ prog_5_method_17_code 3 none) ∈ tb := tb_in 368 (by decide +kernel) (by decide +kernel)
theorem tw369 : (Cond.methodLink "LogFs$Volume" 76 ⟨"LogFs$Volume", "setInodeByte", "(III)V"⟩) ∈ tb := tb_in 369 (by decide +kernel) (by decide +kernel)
theorem tw371 : (Cond.instanceMethod ⟨"LogFs$Volume", "setInodeByte", "(III)V"⟩) ∈ tb := tb_in 371 (by decide +kernel) (by decide +kernel)
theorem tw372 : (Cond.code ⟨"LogFs$Volume", "setInodeByte", "(III)V"⟩ prog_5_method_24_code 4 none) ∈ tb := tb_in 372 (by decide +kernel) (by decide +kernel)
theorem tw373 : (Cond.methodLink "LogFs$Volume" 103 ⟨"LogFs$Memory", "change", "(III)V"⟩) ∈ tb := tb_in 373 (by decide +kernel) (by decide +kernel)
theorem tw374 : (Cond.instanceMethod ⟨"LogFs$Memory", "change", "(III)V"⟩) ∈ tb := tb_in 374 (by decide +kernel) (by decide +kernel)
theorem tw375 : (Cond.selects "LogFs$Memory" ⟨"LogFs$Memory", "change", "(III)V"⟩ ⟨"LogFs$Memory", "change", "(III)V"⟩) ∈ tb := tb_in 375 (by decide +kernel) (by decide +kernel)
theorem tw376 : (Cond.code ⟨"LogFs$Memory", "change", "(III)V"⟩ prog_4_method_3_code 4 none) ∈ tb := tb_in 376 (by decide +kernel) (by decide +kernel)
theorem tw377 : (Cond.methodLink "LogFs$Memory" 33 ⟨"LogFs$Memory", "markPending", "(I)V"⟩) ∈ tb := tb_in 377 (by decide +kernel) (by decide +kernel)
theorem tw379 : (Cond.instanceMethod ⟨"LogFs$Memory", "markPending", "(I)V"⟩) ∈ tb := tb_in 379 (by decide +kernel) (by decide +kernel)
theorem tw380 : (Cond.code ⟨"LogFs$Memory", "markPending", "(I)V"⟩ prog_4_method_7_code 3 none) ∈ tb := tb_in 380 (by decide +kernel) (by decide +kernel)
theorem tw381 : (Cond.methodLink "LogFs$Memory" 37 ⟨"LogFs$Blocks", "set", "(III)V"⟩) ∈ tb := tb_in 381 (by decide +kernel) (by decide +kernel)
theorem tw382 : (Cond.methodLink "LogFs" 62 ⟨"LogFs$Volume", "placeForEntry", "(I)I"⟩) ∈ tb := tb_in 382 (by decide +kernel) (by decide +kernel)
theorem tw383 : (Cond.methodLink "LogFs" 66 ⟨"LogFs", "entryOf", "(IJ)J"⟩) ∈ tb := tb_in 383 (by decide +kernel) (by decide +kernel)
theorem tw384 : (Cond.static ⟨"LogFs", "entryOf", "(IJ)J"⟩) ∈ tb := tb_in 384 (by decide +kernel) (by decide +kernel)
theorem tw385 : (Cond.code ⟨"LogFs", "entryOf", "(IJ)J"⟩ prog_1_method_25_code 3 (some .long)) ∈ tb := tb_in 385 (by decide +kernel) (by decide +kernel)
theorem tw386 : (Cond.methodLink "LogFs" 70 ⟨"LogFs$Volume", "putLong", "(IIJI)V"⟩) ∈ tb := tb_in 386 (by decide +kernel) (by decide +kernel)
theorem tw387 : (Cond.instanceMethod ⟨"LogFs$Volume", "putLong", "(IIJI)V"⟩) ∈ tb := tb_in 387 (by decide +kernel) (by decide +kernel)
theorem tw388 : (Cond.selects "LogFs$Volume" ⟨"LogFs$Volume", "putLong", "(IIJI)V"⟩ ⟨"LogFs$Volume", "putLong", "(IIJI)V"⟩) ∈ tb := tb_in 388 (by decide +kernel) (by decide +kernel)
theorem tw389 : (Cond.code ⟨"LogFs$Volume", "putLong", "(IIJI)V"⟩ prog_5_method_20_code 7 none) ∈ tb := tb_in 389 (by decide +kernel) (by decide +kernel)
theorem tw390 : (Cond.methodLinkNest "LogFs$Volume" 58 ⟨"LogFs", "byteOf", "(JI)I"⟩ "LogFs") ∈ tb := tb_in 390 (by decide +kernel) (by decide +kernel)
theorem tw391 : (Cond.methodLink "LogFs$Volume" 87 ⟨"LogFs$Volume", "putByte", "(III)V"⟩) ∈ tb := tb_in 391 (by decide +kernel) (by decide +kernel)
theorem tw393 : (Cond.instanceMethod ⟨"LogFs$Volume", "putByte", "(III)V"⟩) ∈ tb := tb_in 393 (by decide +kernel) (by decide +kernel)
theorem tw394 : (Cond.code ⟨"LogFs$Volume", "putByte", "(III)V"⟩ prog_5_method_29_code 5 none) ∈ tb := tb_in 394 (by decide +kernel) (by decide +kernel)
theorem tw395 : (Cond.methodLink "LogFs$Volume" 113 ⟨"LogFs$Volume", "addContentBlock", "(II)V"⟩) ∈ tb := tb_in 395 (by decide +kernel) (by decide +kernel)
theorem tw397 : (Cond.instanceMethod ⟨"LogFs$Volume", "addContentBlock", "(II)V"⟩) ∈ tb := tb_in 397 (by decide +kernel) (by decide +kernel)
theorem tw398 : (Cond.code ⟨"LogFs$Volume", "addContentBlock", "(II)V"⟩ prog_5_method_31_code 4 none) ∈ tb := tb_in 398 (by decide +kernel) (by decide +kernel)
theorem tw399 : (Cond.methodLink "LogFs$Volume" 116 ⟨"LogFs$Volume", "takeBlock", "()I"⟩) ∈ tb := tb_in 399 (by decide +kernel) (by decide +kernel)
theorem tw401 : (Cond.instanceMethod ⟨"LogFs$Volume", "takeBlock", "()I"⟩) ∈ tb := tb_in 401 (by decide +kernel) (by decide +kernel)
theorem tw402 : (Cond.code ⟨"LogFs$Volume", "takeBlock", "()I"⟩ prog_5_method_32_code 2 (some .int)) ∈ tb := tb_in 402 (by decide +kernel) (by decide +kernel)
theorem tw403 : (Cond.methodLink "LogFs$Volume" 119 ⟨"LogFs$Volume", "leastFreeBlock", "()I"⟩) ∈ tb := tb_in 403 (by decide +kernel) (by decide +kernel)
theorem tw405 : (Cond.instanceMethod ⟨"LogFs$Volume", "leastFreeBlock", "()I"⟩) ∈ tb := tb_in 405 (by decide +kernel) (by decide +kernel)
theorem tw406 : (Cond.code ⟨"LogFs$Volume", "leastFreeBlock", "()I"⟩ prog_5_method_34_code 2 (some .int)) ∈ tb := tb_in 406 (by decide +kernel) (by decide +kernel)
theorem tw407 : (Cond.methodLink "LogFs$Volume" 122 ⟨"LogFs$Memory", "clear", "(I)V"⟩) ∈ tb := tb_in 407 (by decide +kernel) (by decide +kernel)
theorem tw408 : (Cond.instanceMethod ⟨"LogFs$Memory", "clear", "(I)V"⟩) ∈ tb := tb_in 408 (by decide +kernel) (by decide +kernel)
theorem tw409 : (Cond.selects "LogFs$Memory" ⟨"LogFs$Memory", "clear", "(I)V"⟩ ⟨"LogFs$Memory", "clear", "(I)V"⟩) ∈ tb := tb_in 409 (by decide +kernel) (by decide +kernel)
theorem tw410 : (Cond.code ⟨"LogFs$Memory", "clear", "(I)V"⟩ prog_4_method_4_code 2 none) ∈ tb := tb_in 410 (by decide +kernel) (by decide +kernel)
theorem tw411 : (Cond.methodLink "LogFs$Memory" 41 ⟨"LogFs$Blocks", "clear", "(I)V"⟩) ∈ tb := tb_in 411 (by decide +kernel) (by decide +kernel)
theorem tw412 : (Cond.methodLink "LogFs$Volume" 90 ⟨"LogFs$Volume", "growTo", "(II)V"⟩) ∈ tb := tb_in 412 (by decide +kernel) (by decide +kernel)
theorem tw414 : (Cond.instanceMethod ⟨"LogFs$Volume", "growTo", "(II)V"⟩) ∈ tb := tb_in 414 (by decide +kernel) (by decide +kernel)
theorem tw415 : (Cond.code ⟨"LogFs$Volume", "growTo", "(II)V"⟩ prog_5_method_30_code 3 none) ∈ tb := tb_in 415 (by decide +kernel) (by decide +kernel)
theorem tw416 : (Cond.methodLink "LogFsLaw" 78 ⟨"LogFsLaw", "link", "(LLogFs;IJI[J)I"⟩) ∈ tb := tb_in 416 (by decide +kernel) (by decide +kernel)
theorem tw417 : (Cond.static ⟨"LogFsLaw", "link", "(LLogFs;IJI[J)I"⟩) ∈ tb := tb_in 417 (by decide +kernel) (by decide +kernel)
theorem tw418 : (Cond.codeWith ⟨"LogFsLaw", "link", "(LLogFs;IJI[J)I"⟩ method_4_code 7 (some .int) [(0, 20, 23, 13), (0, 20, 27, 15)]) ∈ tb := tb_in 418 (by decide +kernel) (by decide +kernel)
theorem tw419 : (Cond.methodLink "LogFsLaw" 17 ⟨"LogFs", "link", "(IJI)Z"⟩) ∈ tb := tb_in 419 (by decide +kernel) (by decide +kernel)
theorem tw420 : (Cond.instanceMethod ⟨"LogFs", "link", "(IJI)Z"⟩) ∈ tb := tb_in 420 (by decide +kernel) (by decide +kernel)
theorem tw421 : (Cond.selects "LogFs" ⟨"LogFs", "link", "(IJI)Z"⟩ ⟨"LogFs", "link", "(IJI)Z"⟩) ∈ tb := tb_in 421 (by decide +kernel) (by decide +kernel)
theorem tw422 : (Cond.code ⟨"LogFs", "link", "(IJI)Z"⟩ prog_1_method_3_code 5 (some .boolean)) ∈ tb := tb_in 422 (by decide +kernel) (by decide +kernel)
theorem tw423 : (Cond.methodLink "LogFs" 74 ⟨"LogFs$Volume", "isFile", "(I)Z"⟩) ∈ tb := tb_in 423 (by decide +kernel) (by decide +kernel)
theorem tw424 : (Cond.instanceMethod ⟨"LogFs$Volume", "isFile", "(I)Z"⟩) ∈ tb := tb_in 424 (by decide +kernel) (by decide +kernel)
theorem tw425 : (Cond.selects "LogFs$Volume" ⟨"LogFs$Volume", "isFile", "(I)Z"⟩ ⟨"LogFs$Volume", "isFile", "(I)Z"⟩) ∈ tb := tb_in 425 (by decide +kernel) (by decide +kernel)
theorem tw426 : (Cond.code ⟨"LogFs$Volume", "isFile", "(I)Z"⟩ prog_5_method_5_code 2 (some .boolean)) ∈ tb := tb_in 426 (by decide +kernel) (by decide +kernel)
theorem tw427 : (Cond.methodLink "LogFs" 78 ⟨"LogFs$Volume", "links", "(I)I"⟩) ∈ tb := tb_in 427 (by decide +kernel) (by decide +kernel)
theorem tw428 : (Cond.instanceMethod ⟨"LogFs$Volume", "links", "(I)I"⟩) ∈ tb := tb_in 428 (by decide +kernel) (by decide +kernel)
theorem tw429 : (Cond.selects "LogFs$Volume" ⟨"LogFs$Volume", "links", "(I)I"⟩ ⟨"LogFs$Volume", "links", "(I)I"⟩) ∈ tb := tb_in 429 (by decide +kernel) (by decide +kernel)
theorem tw430 : (Cond.code ⟨"LogFs$Volume", "links", "(I)I"⟩ prog_5_method_3_code 2 (some .int)) ∈ tb := tb_in 430 (by decide +kernel) (by decide +kernel)
theorem tw431 : (Cond.methodLink "LogFs" 81 ⟨"LogFs$Volume", "addLink", "(I)V"⟩) ∈ tb := tb_in 431 (by decide +kernel) (by decide +kernel)
theorem tw432 : (Cond.instanceMethod ⟨"LogFs$Volume", "addLink", "(I)V"⟩) ∈ tb := tb_in 432 (by decide +kernel) (by decide +kernel)
theorem tw433 : (Cond.selects "LogFs$Volume" ⟨"LogFs$Volume", "addLink", "(I)V"⟩ ⟨"LogFs$Volume", "addLink", "(I)V"⟩) ∈ tb := tb_in 433 (by decide +kernel) (by decide +kernel)
theorem tw434 : (Cond.code ⟨"LogFs$Volume", "addLink", "(I)V"⟩ prog_5_method_18_code 2 none) ∈ tb := tb_in 434 (by decide +kernel) (by decide +kernel)
theorem tw435 : (Cond.methodLink "LogFs$Volume" 80 ⟨"LogFs$Volume", "links", "(I)I"⟩) ∈ tb := tb_in 435 (by decide +kernel) (by decide +kernel)
theorem tw436 : (Cond.methodLink "LogFsLaw" 82 ⟨"LogFsLaw", "unlink", "(LLogFs;IJ[J)I"⟩) ∈ tb := tb_in 436 (by decide +kernel) (by decide +kernel)
theorem tw437 : (Cond.static ⟨"LogFsLaw", "unlink", "(LLogFs;IJ[J)I"⟩) ∈ tb := tb_in 437 (by decide +kernel) (by decide +kernel)
theorem tw438 : (Cond.codeWith ⟨"LogFsLaw", "unlink", "(LLogFs;IJ[J)I"⟩ method_5_code 6 (some .int) [(0, 18, 21, 13), (0, 18, 25, 15)]) ∈ tb := tb_in 438 (by decide +kernel) (by decide +kernel)
theorem tw439 : (Cond.methodLink "LogFsLaw" 21 ⟨"LogFs", "unlink", "(IJ)Z"⟩) ∈ tb := tb_in 439 (by decide +kernel) (by decide +kernel)
theorem tw440 : (Cond.instanceMethod ⟨"LogFs", "unlink", "(IJ)Z"⟩) ∈ tb := tb_in 440 (by decide +kernel) (by decide +kernel)
theorem tw441 : (Cond.selects "LogFs" ⟨"LogFs", "unlink", "(IJ)Z"⟩ ⟨"LogFs", "unlink", "(IJ)Z"⟩) ∈ tb := tb_in 441 (by decide +kernel) (by decide +kernel)
theorem tw442 : (Cond.code ⟨"LogFs", "unlink", "(IJ)Z"⟩ prog_1_method_4_code 6 (some .boolean)) ∈ tb := tb_in 442 (by decide +kernel) (by decide +kernel)
theorem tw443 : (Cond.methodLink "LogFs" 85 ⟨"LogFs$Volume", "placeOf", "(IJ)I"⟩) ∈ tb := tb_in 443 (by decide +kernel) (by decide +kernel)
theorem tw444 : (Cond.methodLink "LogFs" 89 ⟨"LogFs$Volume", "inodeAt", "(II)I"⟩) ∈ tb := tb_in 444 (by decide +kernel) (by decide +kernel)
theorem tw445 : (Cond.instanceMethod ⟨"LogFs$Volume", "inodeAt", "(II)I"⟩) ∈ tb := tb_in 445 (by decide +kernel) (by decide +kernel)
theorem tw446 : (Cond.selects "LogFs$Volume" ⟨"LogFs$Volume", "inodeAt", "(II)I"⟩ ⟨"LogFs$Volume", "inodeAt", "(II)I"⟩) ∈ tb := tb_in 446 (by decide +kernel) (by decide +kernel)
theorem tw447 : (Cond.code ⟨"LogFs$Volume", "inodeAt", "(II)I"⟩ prog_5_method_13_code 3 (some .int)) ∈ tb := tb_in 447 (by decide +kernel) (by decide +kernel)
theorem tw448 : (Cond.methodLink "LogFs" 93 ⟨"LogFs$Volume", "entries", "(I)I"⟩) ∈ tb := tb_in 448 (by decide +kernel) (by decide +kernel)
theorem tw449 : (Cond.instanceMethod ⟨"LogFs$Volume", "entries", "(I)I"⟩) ∈ tb := tb_in 449 (by decide +kernel) (by decide +kernel)
theorem tw450 : (Cond.selects "LogFs$Volume" ⟨"LogFs$Volume", "entries", "(I)I"⟩ ⟨"LogFs$Volume", "entries", "(I)I"⟩) ∈ tb := tb_in 450 (by decide +kernel) (by decide +kernel)
theorem tw451 : (Cond.code ⟨"LogFs$Volume", "entries", "(I)I"⟩ prog_5_method_14_code 5 (some .int)) ∈ tb := tb_in 451 (by decide +kernel) (by decide +kernel)
theorem tw452 : (Cond.methodLink "LogFs" 96 ⟨"LogFs$Volume", "dropLink", "(I)V"⟩) ∈ tb := tb_in 452 (by decide +kernel) (by decide +kernel)
theorem tw453 : (Cond.instanceMethod ⟨"LogFs$Volume", "dropLink", "(I)V"⟩) ∈ tb := tb_in 453 (by decide +kernel) (by decide +kernel)
theorem tw454 : (Cond.selects "LogFs$Volume" ⟨"LogFs$Volume", "dropLink", "(I)V"⟩ ⟨"LogFs$Volume", "dropLink", "(I)V"⟩) ∈ tb := tb_in 454 (by decide +kernel) (by decide +kernel)
theorem tw455 : (Cond.code ⟨"LogFs$Volume", "dropLink", "(I)V"⟩ prog_5_method_19_code 2 none) ∈ tb := tb_in 455 (by decide +kernel) (by decide +kernel)
theorem tw456 : (Cond.methodLink "LogFs$Volume" 83 ⟨"LogFs$Volume", "empty", "(I)V"⟩) ∈ tb := tb_in 456 (by decide +kernel) (by decide +kernel)
theorem tw457 : (Cond.instanceMethod ⟨"LogFs$Volume", "empty", "(I)V"⟩) ∈ tb := tb_in 457 (by decide +kernel) (by decide +kernel)
theorem tw458 : (Cond.selects "LogFs$Volume" ⟨"LogFs$Volume", "empty", "(I)V"⟩ ⟨"LogFs$Volume", "empty", "(I)V"⟩) ∈ tb := tb_in 458 (by decide +kernel) (by decide +kernel)
theorem tw459 : (Cond.code ⟨"LogFs$Volume", "empty", "(I)V"⟩ prog_5_method_22_code 5 none) ∈ tb := tb_in 459 (by decide +kernel) (by decide +kernel)
theorem tw460 : (Cond.methodLink "LogFs$Volume" 97 ⟨"LogFs$Volume", "giveBack", "(I)V"⟩) ∈ tb := tb_in 460 (by decide +kernel) (by decide +kernel)
theorem tw462 : (Cond.instanceMethod ⟨"LogFs$Volume", "giveBack", "(I)V"⟩) ∈ tb := tb_in 462 (by decide +kernel) (by decide +kernel)
theorem tw463 : (Cond.code ⟨"LogFs$Volume", "giveBack", "(I)V"⟩ prog_5_method_33_code 2 none) ∈ tb := tb_in 463 (by decide +kernel) (by decide +kernel)
theorem tw464 : (Cond.methodLink "LogFsLaw" 86 ⟨"LogFsLaw", "write", "(LLogFs;IIJI[J)I"⟩) ∈ tb := tb_in 464 (by decide +kernel) (by decide +kernel)
theorem tw465 : (Cond.static ⟨"LogFsLaw", "write", "(LLogFs;IIJI[J)I"⟩) ∈ tb := tb_in 465 (by decide +kernel) (by decide +kernel)
theorem tw466 : (Cond.codeWith ⟨"LogFsLaw", "write", "(LLogFs;IIJI[J)I"⟩ method_6_code 8 (some .int) [(0, 14, 17, 13), (0, 14, 21, 15)]) ∈ tb := tb_in 466 (by decide +kernel) (by decide +kernel)
theorem tw467 : (Cond.methodLink "LogFsLaw" 25 ⟨"LogFs", "write", "(IIJI)I"⟩) ∈ tb := tb_in 467 (by decide +kernel) (by decide +kernel)
theorem tw468 : (Cond.instanceMethod ⟨"LogFs", "write", "(IIJI)I"⟩) ∈ tb := tb_in 468 (by decide +kernel) (by decide +kernel)
theorem tw469 : (Cond.selects "LogFs" ⟨"LogFs", "write", "(IIJI)I"⟩ ⟨"LogFs", "write", "(IIJI)I"⟩) ∈ tb := tb_in 469 (by decide +kernel) (by decide +kernel)
theorem tw470 : (Cond.code ⟨"LogFs", "write", "(IIJI)I"⟩ prog_1_method_5_code 6 (some .int)) ∈ tb := tb_in 470 (by decide +kernel) (by decide +kernel)
theorem tw471 : (Cond.methodLink "LogFs" 99 ⟨"LogFs$Volume", "canPut", "(III)Z"⟩) ∈ tb := tb_in 471 (by decide +kernel) (by decide +kernel)
theorem tw472 : (Cond.instanceMethod ⟨"LogFs$Volume", "canPut", "(III)Z"⟩) ∈ tb := tb_in 472 (by decide +kernel) (by decide +kernel)
theorem tw473 : (Cond.selects "LogFs$Volume" ⟨"LogFs$Volume", "canPut", "(III)Z"⟩ ⟨"LogFs$Volume", "canPut", "(III)Z"⟩) ∈ tb := tb_in 473 (by decide +kernel) (by decide +kernel)
theorem tw474 : (Cond.code ⟨"LogFs$Volume", "canPut", "(III)Z"⟩ prog_5_method_16_code 4 (some .boolean)) ∈ tb := tb_in 474 (by decide +kernel) (by decide +kernel)
theorem tw475 : (Cond.methodLink "LogFs$Volume" 73 ⟨"LogFs$Volume", "isFile", "(I)Z"⟩) ∈ tb := tb_in 475 (by decide +kernel) (by decide +kernel)
theorem tw476 : (Cond.methodLink "LogFs" 103 ⟨"LogFs$Volume", "size", "(I)I"⟩) ∈ tb := tb_in 476 (by decide +kernel) (by decide +kernel)
theorem tw477 : (Cond.methodLink "LogFsLaw" 90 ⟨"LogFsLaw", "fill", "(LLogFs;IIII[J)I"⟩) ∈ tb := tb_in 477 (by decide +kernel) (by decide +kernel)
theorem tw478 : (Cond.static ⟨"LogFsLaw", "fill", "(LLogFs;IIII[J)I"⟩) ∈ tb := tb_in 478 (by decide +kernel) (by decide +kernel)
theorem tw479 : (Cond.codeWith ⟨"LogFsLaw", "fill", "(LLogFs;IIII[J)I"⟩ method_7_code 7 (some .int) [(0, 14, 17, 13), (0, 14, 21, 15)]) ∈ tb := tb_in 479 (by decide +kernel) (by decide +kernel)
theorem tw480 : (Cond.methodLink "LogFsLaw" 29 ⟨"LogFs", "fill", "(IIII)I"⟩) ∈ tb := tb_in 480 (by decide +kernel) (by decide +kernel)
theorem tw481 : (Cond.instanceMethod ⟨"LogFs", "fill", "(IIII)I"⟩) ∈ tb := tb_in 481 (by decide +kernel) (by decide +kernel)
theorem tw482 : (Cond.selects "LogFs" ⟨"LogFs", "fill", "(IIII)I"⟩ ⟨"LogFs", "fill", "(IIII)I"⟩) ∈ tb := tb_in 482 (by decide +kernel) (by decide +kernel)
theorem tw483 : (Cond.code ⟨"LogFs", "fill", "(IIII)I"⟩ prog_1_method_6_code 5 (some .int)) ∈ tb := tb_in 483 (by decide +kernel) (by decide +kernel)
theorem tw484 : (Cond.methodLink "LogFs" 106 ⟨"LogFs$Volume", "putSame", "(IIII)V"⟩) ∈ tb := tb_in 484 (by decide +kernel) (by decide +kernel)
theorem tw485 : (Cond.instanceMethod ⟨"LogFs$Volume", "putSame", "(IIII)V"⟩) ∈ tb := tb_in 485 (by decide +kernel) (by decide +kernel)
theorem tw486 : (Cond.selects "LogFs$Volume" ⟨"LogFs$Volume", "putSame", "(IIII)V"⟩ ⟨"LogFs$Volume", "putSame", "(IIII)V"⟩) ∈ tb := tb_in 486 (by decide +kernel) (by decide +kernel)
theorem tw487 : (Cond.code ⟨"LogFs$Volume", "putSame", "(IIII)V"⟩ prog_5_method_21_code 6 none) ∈ tb := tb_in 487 (by decide +kernel) (by decide +kernel)
theorem tw488 : (Cond.methodLink "LogFsLaw" 94 ⟨"LogFsLaw", "truncate", "(LLogFs;I[J)I"⟩) ∈ tb := tb_in 488 (by decide +kernel) (by decide +kernel)
theorem tw489 : (Cond.static ⟨"LogFsLaw", "truncate", "(LLogFs;I[J)I"⟩) ∈ tb := tb_in 489 (by decide +kernel) (by decide +kernel)
theorem tw490 : (Cond.codeWith ⟨"LogFsLaw", "truncate", "(LLogFs;I[J)I"⟩ method_8_code 4 (some .int) [(0, 16, 19, 13), (0, 16, 22, 15)]) ∈ tb := tb_in 490 (by decide +kernel) (by decide +kernel)
theorem tw491 : (Cond.methodLink "LogFsLaw" 33 ⟨"LogFs", "truncate", "(I)Z"⟩) ∈ tb := tb_in 491 (by decide +kernel) (by decide +kernel)
theorem tw492 : (Cond.instanceMethod ⟨"LogFs", "truncate", "(I)Z"⟩) ∈ tb := tb_in 492 (by decide +kernel) (by decide +kernel)
theorem tw493 : (Cond.selects "LogFs" ⟨"LogFs", "truncate", "(I)Z"⟩ ⟨"LogFs", "truncate", "(I)Z"⟩) ∈ tb := tb_in 493 (by decide +kernel) (by decide +kernel)
theorem tw494 : (Cond.code ⟨"LogFs", "truncate", "(I)Z"⟩ prog_1_method_7_code 2 (some .boolean)) ∈ tb := tb_in 494 (by decide +kernel) (by decide +kernel)
theorem tw495 : (Cond.methodLink "LogFs" 110 ⟨"LogFs$Volume", "empty", "(I)V"⟩) ∈ tb := tb_in 495 (by decide +kernel) (by decide +kernel)
theorem tw496 : (Cond.methodLink "LogFsLaw" 98 ⟨"LogFsLaw", "sync", "(LLogFs;[J)I"⟩) ∈ tb := tb_in 496 (by decide +kernel) (by decide +kernel)
theorem tw497 : (Cond.static ⟨"LogFsLaw", "sync", "(LLogFs;[J)I"⟩) ∈ tb := tb_in 497 (by decide +kernel) (by decide +kernel)
theorem tw498 : (Cond.codeWith ⟨"LogFsLaw", "sync", "(LLogFs;[J)I"⟩ method_9_code 3 (some .int) [(0, 8, 11, 13), (0, 8, 14, 15)]) ∈ tb := tb_in 498 (by decide +kernel) (by decide +kernel)
theorem tw499 : (Cond.methodLink "LogFsLaw" 37 ⟨"LogFs", "sync", "()I"⟩) ∈ tb := tb_in 499 (by decide +kernel) (by decide +kernel)
theorem tw500 : (Cond.instanceMethod ⟨"LogFs", "sync", "()I"⟩) ∈ tb := tb_in 500 (by decide +kernel) (by decide +kernel)
theorem tw501 : (Cond.selects "LogFs" ⟨"LogFs", "sync", "()I"⟩ ⟨"LogFs", "sync", "()I"⟩) ∈ tb := tb_in 501 (by decide +kernel) (by decide +kernel)
theorem tw502 : (Cond.code ⟨"LogFs", "sync", "()I"⟩ prog_1_method_8_code 2 (some .int)) ∈ tb := tb_in 502 (by decide +kernel) (by decide +kernel)
theorem tw503 : (Cond.methodLink "LogFsLaw" 106 ⟨"LogFsLaw", "mount", "(LLogFs;[J)I"⟩) ∈ tb := tb_in 503 (by decide +kernel) (by decide +kernel)
theorem tw504 : (Cond.static ⟨"LogFsLaw", "mount", "(LLogFs;[J)I"⟩) ∈ tb := tb_in 504 (by decide +kernel) (by decide +kernel)
theorem tw505 : (Cond.codeWith ⟨"LogFsLaw", "mount", "(LLogFs;[J)I"⟩ method_10_code 3 (some .int) [(0, 8, 11, 15)]) ∈ tb := tb_in 505 (by decide +kernel) (by decide +kernel)
theorem tw506 : (Cond.methodLink "LogFsLaw" 41 ⟨"LogFs", "mount", "()I"⟩) ∈ tb := tb_in 506 (by decide +kernel) (by decide +kernel)
theorem tw507 : (Cond.instanceMethod ⟨"LogFs", "mount", "()I"⟩) ∈ tb := tb_in 507 (by decide +kernel) (by decide +kernel)
theorem tw508 : (Cond.selects "LogFs" ⟨"LogFs", "mount", "()I"⟩ ⟨"LogFs", "mount", "()I"⟩) ∈ tb := tb_in 508 (by decide +kernel) (by decide +kernel)
theorem tw509 : (Cond.code ⟨"LogFs", "mount", "()I"⟩ prog_1_method_10_code 2 (some .int)) ∈ tb := tb_in 509 (by decide +kernel) (by decide +kernel)
theorem tw510 : (Cond.methodLink "LogFs" 126 ⟨"LogFs$Blocks", "get", "(II)I"⟩) ∈ tb := tb_in 510 (by decide +kernel) (by decide +kernel)
theorem tw511 : (Cond.methodLink "LogFs" 131 ⟨"LogFs$Disk", "replayLog", "(I)Z"⟩) ∈ tb := tb_in 511 (by decide +kernel) (by decide +kernel)
theorem tw512 : (Cond.instanceMethod ⟨"LogFs$Disk", "replayLog", "(I)Z"⟩) ∈ tb := tb_in 512 (by decide +kernel) (by decide +kernel)
theorem tw513 : (Cond.selects "LogFs$Disk" ⟨"LogFs$Disk", "replayLog", "(I)Z"⟩ ⟨"LogFs$Disk", "replayLog", "(I)Z"⟩) ∈ tb := tb_in 513 (by decide +kernel) (by decide +kernel)
theorem tw514 : (Cond.code ⟨"LogFs$Disk", "replayLog", "(I)Z"⟩ prog_3_method_3_code 3 (some .boolean)) ∈ tb := tb_in 514 (by decide +kernel) (by decide +kernel)
theorem tw515 : (Cond.methodLink "LogFsLaw" 109 ⟨"LogFsLaw", "find", "(LLogFs;IJ[J)I"⟩) ∈ tb := tb_in 515 (by decide +kernel) (by decide +kernel)
theorem tw516 : (Cond.static ⟨"LogFsLaw", "find", "(LLogFs;IJ[J)I"⟩) ∈ tb := tb_in 516 (by decide +kernel) (by decide +kernel)
theorem tw517 : (Cond.codeWith ⟨"LogFsLaw", "find", "(LLogFs;IJ[J)I"⟩ method_11_code 6 (some .int) [(0, 11, 14, 13)]) ∈ tb := tb_in 517 (by decide +kernel) (by decide +kernel)
theorem tw518 : (Cond.methodLink "LogFsLaw" 44 ⟨"LogFs", "find", "(IJ)I"⟩) ∈ tb := tb_in 518 (by decide +kernel) (by decide +kernel)
theorem tw519 : (Cond.instanceMethod ⟨"LogFs", "find", "(IJ)I"⟩) ∈ tb := tb_in 519 (by decide +kernel) (by decide +kernel)
theorem tw520 : (Cond.selects "LogFs" ⟨"LogFs", "find", "(IJ)I"⟩ ⟨"LogFs", "find", "(IJ)I"⟩) ∈ tb := tb_in 520 (by decide +kernel) (by decide +kernel)
theorem tw521 : (Cond.code ⟨"LogFs", "find", "(IJ)I"⟩ prog_1_method_11_code 5 (some .int)) ∈ tb := tb_in 521 (by decide +kernel) (by decide +kernel)
theorem tw522 : (Cond.methodLink "LogFsLaw" 112 ⟨"LogFsLaw", "read", "(LLogFs;II[J)I"⟩) ∈ tb := tb_in 522 (by decide +kernel) (by decide +kernel)
theorem tw523 : (Cond.static ⟨"LogFsLaw", "read", "(LLogFs;II[J)I"⟩) ∈ tb := tb_in 523 (by decide +kernel) (by decide +kernel)
theorem tw524 : (Cond.codeWith ⟨"LogFsLaw", "read", "(LLogFs;II[J)I"⟩ method_12_code 5 (some .int) [(0, 10, 13, 13), (0, 10, 17, 52)]) ∈ tb := tb_in 524 (by decide +kernel) (by decide +kernel)
theorem tw525 : (Cond.classLink "LogFsLaw" 52 "java/lang/IndexOutOfBoundsException") ∈ tb := tb_in 525 (by decide +kernel) (by decide +kernel)
theorem tw526 : (Cond.methodLink "LogFsLaw" 48 ⟨"LogFs", "read", "(II)I"⟩) ∈ tb := tb_in 526 (by decide +kernel) (by decide +kernel)
theorem tw527 : (Cond.instanceMethod ⟨"LogFs", "read", "(II)I"⟩) ∈ tb := tb_in 527 (by decide +kernel) (by decide +kernel)
theorem tw528 : (Cond.selects "LogFs" ⟨"LogFs", "read", "(II)I"⟩ ⟨"LogFs", "read", "(II)I"⟩) ∈ tb := tb_in 528 (by decide +kernel) (by decide +kernel)
theorem tw529 : (Cond.code ⟨"LogFs", "read", "(II)I"⟩ prog_1_method_12_code 3 (some .int)) ∈ tb := tb_in 529 (by decide +kernel) (by decide +kernel)
theorem tw530 : (Cond.classLink "LogFs" 141 "java/lang/IndexOutOfBoundsException") ∈ tb := tb_in 530 (by decide +kernel) (by decide +kernel)
theorem tw531 : (Cond.instantiable "java/lang/IndexOutOfBoundsException" 6) ∈ tb := tb_in 531 (by decide +kernel) (by decide +kernel)
theorem tw532 : (Cond.castable "java/lang/IndexOutOfBoundsException" "java/lang/IndexOutOfBoundsException") ∈ tb := tb_in 532 (by decide +kernel) (by decide +kernel)
theorem tw533 : (Cond.selects "java/lang/IndexOutOfBoundsException" ⟨"java/lang/Throwable", "fillInStackTrace", "(I)Ljava/lang/Throwable;"⟩ ⟨"java/lang/Throwable", "fillInStackTrace", "(I)Ljava/lang/Throwable;"⟩) ∈ tb := tb_in 533 (by decide +kernel) (by decide +kernel)
theorem tw534 : (Cond.lays "java/lang/IndexOutOfBoundsException" "java/lang/Throwable" "cause" "Ljava/lang/Throwable;") ∈ tb := tb_in 534 (by decide +kernel) (by decide +kernel)
theorem tw535 : (Cond.lays "java/lang/IndexOutOfBoundsException" "java/lang/Throwable" "stackTrace" "[Ljava/lang/StackTraceElement;") ∈ tb := tb_in 535 (by decide +kernel) (by decide +kernel)
theorem tw536 : (Cond.lays "java/lang/IndexOutOfBoundsException" "java/lang/Throwable" "suppressedExceptions" "Ljava/util/List;") ∈ tb := tb_in 536 (by decide +kernel) (by decide +kernel)
theorem tw537 : (Cond.lays "java/lang/IndexOutOfBoundsException" "java/lang/Throwable" "detailMessage" "Ljava/lang/String;") ∈ tb := tb_in 537 (by decide +kernel) (by decide +kernel)
theorem tw538 : (Cond.lays "java/lang/IndexOutOfBoundsException" "java/lang/Throwable" "backtrace" "Ljava/lang/Object;") ∈ tb := tb_in 538 (by decide +kernel) (by decide +kernel)
theorem tw540 : (Cond.methodLink "LogFs" 145 ⟨"java/lang/IndexOutOfBoundsException", "<init>", "(Ljava/lang/String;)V"⟩) ∈ tb := tb_in 540 (by decide +kernel) (by decide +kernel)
theorem tw541 : (Cond.instanceMethod ⟨"java/lang/IndexOutOfBoundsException", "<init>", "(Ljava/lang/String;)V"⟩) ∈ tb := tb_in 541 (by decide +kernel) (by decide +kernel)
theorem tw542 : (Cond.code ⟨"java/lang/IndexOutOfBoundsException", "<init>", "(Ljava/lang/String;)V"⟩ prog_10_method_2_code 2 none) ∈ tb := tb_in 542 (by decide +kernel) (by decide +kernel)
theorem tw543 : (Cond.methodLink "java/lang/IndexOutOfBoundsException" 7 ⟨"java/lang/RuntimeException", "<init>", "(Ljava/lang/String;)V"⟩) ∈ tb := tb_in 543 (by decide +kernel) (by decide +kernel)
theorem tw544 : (Cond.lays "java/lang/IndexOutOfBoundsException" "java/lang/Throwable" "depth" "I") ∈ tb := tb_in 544 (by decide +kernel) (by decide +kernel)
theorem tw545 : (Cond.superclass "java/lang/IndexOutOfBoundsException" "java/lang/RuntimeException") ∈ tb := tb_in 545 (by decide +kernel) (by decide +kernel)
theorem tw546 : (Cond.methodLink "LogFs" 146 ⟨"LogFs$Volume", "contentByte", "(II)I"⟩) ∈ tb := tb_in 546 (by decide +kernel) (by decide +kernel)
theorem tw547 : (Cond.instanceMethod ⟨"LogFs$Volume", "contentByte", "(II)I"⟩) ∈ tb := tb_in 547 (by decide +kernel) (by decide +kernel)
theorem tw548 : (Cond.selects "LogFs$Volume" ⟨"LogFs$Volume", "contentByte", "(II)I"⟩ ⟨"LogFs$Volume", "contentByte", "(II)I"⟩) ∈ tb := tb_in 548 (by decide +kernel) (by decide +kernel)
theorem tw549 : (Cond.code ⟨"LogFs$Volume", "contentByte", "(II)I"⟩ prog_5_method_10_code 3 (some .int)) ∈ tb := tb_in 549 (by decide +kernel) (by decide +kernel)
theorem tw550 : (Cond.methodLink "LogFsLaw" 116 ⟨"LogFsLaw", "look", "(LLogFs;II[J)I"⟩) ∈ tb := tb_in 550 (by decide +kernel) (by decide +kernel)
theorem tw551 : (Cond.static ⟨"LogFsLaw", "look", "(LLogFs;II[J)I"⟩) ∈ tb := tb_in 551 (by decide +kernel) (by decide +kernel)
theorem tw552 : (Cond.codeWith ⟨"LogFsLaw", "look", "(LLogFs;II[J)I"⟩ method_13_code 5 (some .int) [(0, 10, 13, 13), (0, 10, 17, 52)]) ∈ tb := tb_in 552 (by decide +kernel) (by decide +kernel)
theorem tw553 : (Cond.methodLink "LogFsLaw" 54 ⟨"LogFs", "look", "(II)I"⟩) ∈ tb := tb_in 553 (by decide +kernel) (by decide +kernel)
theorem tw554 : (Cond.instanceMethod ⟨"LogFs", "look", "(II)I"⟩) ∈ tb := tb_in 554 (by decide +kernel) (by decide +kernel)
theorem tw555 : (Cond.selects "LogFs" ⟨"LogFs", "look", "(II)I"⟩ ⟨"LogFs", "look", "(II)I"⟩) ∈ tb := tb_in 555 (by decide +kernel) (by decide +kernel)
theorem tw556 : (Cond.code ⟨"LogFs", "look", "(II)I"⟩ prog_1_method_13_code 3 (some .int)) ∈ tb := tb_in 556 (by decide +kernel) (by decide +kernel)
theorem tw557 : (Cond.methodLink "LogFs" 149 ⟨"LogFs", "isInode", "(I)Z"⟩) ∈ tb := tb_in 557 (by decide +kernel) (by decide +kernel)
theorem tw559 : (Cond.methodLink "LogFs" 154 ⟨"LogFs$Volume", "type", "(I)I"⟩) ∈ tb := tb_in 559 (by decide +kernel) (by decide +kernel)
theorem tw560 : (Cond.methodLink "LogFs" 157 ⟨"LogFs", "blocksFor", "(I)I"⟩) ∈ tb := tb_in 560 (by decide +kernel) (by decide +kernel)
theorem tw562 : (Cond.methodLink "LogFsLaw" 119 ⟨"LogFsLaw", "disk", "(LLogFs;II[J)I"⟩) ∈ tb := tb_in 562 (by decide +kernel) (by decide +kernel)
theorem tw563 : (Cond.static ⟨"LogFsLaw", "disk", "(LLogFs;II[J)I"⟩) ∈ tb := tb_in 563 (by decide +kernel) (by decide +kernel)
theorem tw564 : (Cond.codeWith ⟨"LogFsLaw", "disk", "(LLogFs;II[J)I"⟩ method_14_code 5 (some .int) [(0, 10, 13, 52)]) ∈ tb := tb_in 564 (by decide +kernel) (by decide +kernel)
theorem tw565 : (Cond.methodLink "LogFsLaw" 57 ⟨"LogFs", "disk", "(II)I"⟩) ∈ tb := tb_in 565 (by decide +kernel) (by decide +kernel)
theorem tw566 : (Cond.instanceMethod ⟨"LogFs", "disk", "(II)I"⟩) ∈ tb := tb_in 566 (by decide +kernel) (by decide +kernel)
theorem tw567 : (Cond.selects "LogFs" ⟨"LogFs", "disk", "(II)I"⟩ ⟨"LogFs", "disk", "(II)I"⟩) ∈ tb := tb_in 567 (by decide +kernel) (by decide +kernel)
theorem tw568 : (Cond.code ⟨"LogFs", "disk", "(II)I"⟩ prog_1_method_14_code 3 (some .int)) ∈ tb := tb_in 568 (by decide +kernel) (by decide +kernel)
theorem tw569 : (Cond.methodLink "LogFs" 162 ⟨"LogFs", "requireByte", "(II)V"⟩) ∈ tb := tb_in 569 (by decide +kernel) (by decide +kernel)
theorem tw570 : (Cond.static ⟨"LogFs", "requireByte", "(II)V"⟩) ∈ tb := tb_in 570 (by decide +kernel) (by decide +kernel)
theorem tw571 : (Cond.code ⟨"LogFs", "requireByte", "(II)V"⟩ prog_1_method_19_code 2 none) ∈ tb := tb_in 571 (by decide +kernel) (by decide +kernel)
theorem tw573 : (Cond.methodLink "LogFsLaw" 122 ⟨"LogFsLaw", "memory", "(LLogFs;II[J)I"⟩) ∈ tb := tb_in 573 (by decide +kernel) (by decide +kernel)
theorem tw574 : (Cond.static ⟨"LogFsLaw", "memory", "(LLogFs;II[J)I"⟩) ∈ tb := tb_in 574 (by decide +kernel) (by decide +kernel)
theorem tw575 : (Cond.codeWith ⟨"LogFsLaw", "memory", "(LLogFs;II[J)I"⟩ method_15_code 5 (some .int) [(0, 10, 13, 13), (0, 10, 17, 52)]) ∈ tb := tb_in 575 (by decide +kernel) (by decide +kernel)
theorem tw576 : (Cond.methodLink "LogFsLaw" 60 ⟨"LogFs", "memory", "(II)I"⟩) ∈ tb := tb_in 576 (by decide +kernel) (by decide +kernel)
theorem tw577 : (Cond.instanceMethod ⟨"LogFs", "memory", "(II)I"⟩) ∈ tb := tb_in 577 (by decide +kernel) (by decide +kernel)
theorem tw578 : (Cond.selects "LogFs" ⟨"LogFs", "memory", "(II)I"⟩ ⟨"LogFs", "memory", "(II)I"⟩) ∈ tb := tb_in 578 (by decide +kernel) (by decide +kernel)
theorem tw579 : (Cond.code ⟨"LogFs", "memory", "(II)I"⟩ prog_1_method_15_code 3 (some .int)) ∈ tb := tb_in 579 (by decide +kernel) (by decide +kernel)
theorem tw580 : (Cond.classLink "LogFsLaw" 64 "LogFsModel") ∈ tb := tb_in 580 (by decide +kernel) (by decide +kernel)
theorem tw581 : (Cond.instantiable "LogFsModel" 12) ∈ tb := tb_in 581 (by decide +kernel) (by decide +kernel)
theorem tw582 : (Cond.methodLink "LogFsLaw" 66 ⟨"LogFsModel", "<init>", "()V"⟩) ∈ tb := tb_in 582 (by decide +kernel) (by decide +kernel)
theorem tw583 : (Cond.instanceMethod ⟨"LogFsModel", "<init>", "()V"⟩) ∈ tb := tb_in 583 (by decide +kernel) (by decide +kernel)
theorem tw584 : (Cond.code ⟨"LogFsModel", "<init>", "()V"⟩ prog_7_method_1_code 2 none) ∈ tb := tb_in 584 (by decide +kernel) (by decide +kernel)
theorem tw585 : (Cond.methodLink "LogFsModel" 1 ⟨"java/lang/Object", "<init>", "()V"⟩) ∈ tb := tb_in 585 (by decide +kernel) (by decide +kernel)
theorem tw586 : (Cond.methodLink "LogFsModel" 30 ⟨"LogFsModel", "load", "()V"⟩) ∈ tb := tb_in 586 (by decide +kernel) (by decide +kernel)
theorem tw588 : (Cond.instanceMethod ⟨"LogFsModel", "load", "()V"⟩) ∈ tb := tb_in 588 (by decide +kernel) (by decide +kernel)
theorem tw589 : (Cond.code ⟨"LogFsModel", "load", "()V"⟩ prog_7_method_3_code 2 none) ∈ tb := tb_in 589 (by decide +kernel) (by decide +kernel)
theorem tw590 : (Cond.fieldLink "LogFsModel" 33 "LogFsModel" "thrown" "I") ∈ tb := tb_in 590 (by decide +kernel) (by decide +kernel)
theorem tw591 : (Cond.fieldLink "LogFsModel" 7 "LogFsModel" "disk" "[B") ∈ tb := tb_in 591 (by decide +kernel) (by decide +kernel)
theorem tw592 : (Cond.fieldLink "LogFsModel" 13 "LogFsModel" "memory" "[B") ∈ tb := tb_in 592 (by decide +kernel) (by decide +kernel)
theorem tw593 : (Cond.fieldLink "LogFsModel" 16 "LogFsModel" "pending" "[I") ∈ tb := tb_in 593 (by decide +kernel) (by decide +kernel)
theorem tw594 : (Cond.fieldLink "LogFsModel" 36 "LogFsModel" "pendings" "I") ∈ tb := tb_in 594 (by decide +kernel) (by decide +kernel)
theorem tw595 : (Cond.fieldLink "LogFsModel" 81 "LogFsModel" "writes" "I") ∈ tb := tb_in 595 (by decide +kernel) (by decide +kernel)
theorem tw596 : (Cond.fieldLink "LogFsModel" 84 "LogFsModel" "commits" "I") ∈ tb := tb_in 596 (by decide +kernel) (by decide +kernel)
theorem tw597 : (Cond.fieldLink "LogFsModel" 20 "LogFsModel" "left" "I") ∈ tb := tb_in 597 (by decide +kernel) (by decide +kernel)
theorem tw598 : (Cond.fieldLink "LogFsModel" 78 "LogFsModel" "off" "Z") ∈ tb := tb_in 598 (by decide +kernel) (by decide +kernel)
theorem tw599 : (Cond.fieldLink "LogFsModel" 74 "LogFsModel" "failed" "Z") ∈ tb := tb_in 599 (by decide +kernel) (by decide +kernel)
theorem tw600 : (Cond.fieldLink "LogFsModel" 24 "LogFsModel" "name" "[B") ∈ tb := tb_in 600 (by decide +kernel) (by decide +kernel)
theorem tw601 : (Cond.fieldLink "LogFsModel" 27 "LogFsModel" "page" "[B") ∈ tb := tb_in 601 (by decide +kernel) (by decide +kernel)
theorem tw602 : (Cond.lays "LogFsModel" "LogFsModel" "thrown" "I") ∈ tb := tb_in 602 (by decide +kernel) (by decide +kernel)
theorem tw604 : (Cond.laysFinal "LogFsModel" "LogFsModel" "disk" "[B") ∈ tb := tb_in 604 (by decide +kernel) (by decide +kernel)
theorem tw606 : (Cond.laysFinal "LogFsModel" "LogFsModel" "memory" "[B") ∈ tb := tb_in 606 (by decide +kernel) (by decide +kernel)
theorem tw608 : (Cond.laysFinal "LogFsModel" "LogFsModel" "pending" "[I") ∈ tb := tb_in 608 (by decide +kernel) (by decide +kernel)
theorem tw610 : (Cond.lays "LogFsModel" "LogFsModel" "pendings" "I") ∈ tb := tb_in 610 (by decide +kernel) (by decide +kernel)
theorem tw612 : (Cond.lays "LogFsModel" "LogFsModel" "writes" "I") ∈ tb := tb_in 612 (by decide +kernel) (by decide +kernel)
theorem tw614 : (Cond.lays "LogFsModel" "LogFsModel" "commits" "I") ∈ tb := tb_in 614 (by decide +kernel) (by decide +kernel)
theorem tw616 : (Cond.lays "LogFsModel" "LogFsModel" "left" "I") ∈ tb := tb_in 616 (by decide +kernel) (by decide +kernel)
theorem tw618 : (Cond.lays "LogFsModel" "LogFsModel" "off" "Z") ∈ tb := tb_in 618 (by decide +kernel) (by decide +kernel)
theorem tw620 : (Cond.lays "LogFsModel" "LogFsModel" "failed" "Z") ∈ tb := tb_in 620 (by decide +kernel) (by decide +kernel)
theorem tw622 : (Cond.laysFinal "LogFsModel" "LogFsModel" "name" "[B") ∈ tb := tb_in 622 (by decide +kernel) (by decide +kernel)
theorem tw624 : (Cond.laysFinal "LogFsModel" "LogFsModel" "page" "[B") ∈ tb := tb_in 624 (by decide +kernel) (by decide +kernel)
theorem tw626 : (Cond.superclass "LogFsModel" "java/lang/Object") ∈ tb := tb_in 626 (by decide +kernel) (by decide +kernel)
theorem tw627 : (Cond.methodLink "LogFsLaw" 75 ⟨"LogFsModel", "thrown", "()I"⟩) ∈ tb := tb_in 627 (by decide +kernel) (by decide +kernel)
theorem tw628 : (Cond.instanceMethod ⟨"LogFsModel", "thrown", "()I"⟩) ∈ tb := tb_in 628 (by decide +kernel) (by decide +kernel)
theorem tw629 : (Cond.selects "LogFsModel" ⟨"LogFsModel", "thrown", "()I"⟩ ⟨"LogFsModel", "thrown", "()I"⟩) ∈ tb := tb_in 629 (by decide +kernel) (by decide +kernel)
theorem tw630 : (Cond.code ⟨"LogFsModel", "thrown", "()I"⟩ prog_7_method_2_code 1 (some .int)) ∈ tb := tb_in 630 (by decide +kernel) (by decide +kernel)
theorem tw631 : (Cond.methodLink "LogFsLaw" 101 ⟨"LogFsModel", "sync", "()I"⟩) ∈ tb := tb_in 631 (by decide +kernel) (by decide +kernel)
theorem tw632 : (Cond.instanceMethod ⟨"LogFsModel", "sync", "()I"⟩) ∈ tb := tb_in 632 (by decide +kernel) (by decide +kernel)
theorem tw633 : (Cond.selects "LogFsModel" ⟨"LogFsModel", "sync", "()I"⟩ ⟨"LogFsModel", "sync", "()I"⟩) ∈ tb := tb_in 633 (by decide +kernel) (by decide +kernel)
theorem tw634 : (Cond.code ⟨"LogFsModel", "sync", "()I"⟩ prog_7_method_27_code 2 (some .int)) ∈ tb := tb_in 634 (by decide +kernel) (by decide +kernel)
theorem tw635 : (Cond.methodLink "LogFsModel" 100 ⟨"LogFsModel", "dead", "()Z"⟩) ∈ tb := tb_in 635 (by decide +kernel) (by decide +kernel)
theorem tw637 : (Cond.instanceMethod ⟨"LogFsModel", "dead", "()Z"⟩) ∈ tb := tb_in 637 (by decide +kernel) (by decide +kernel)
theorem tw638 : (Cond.code ⟨"LogFsModel", "dead", "()Z"⟩ prog_7_method_26_code 1 (some .boolean)) ∈ tb := tb_in 638 (by decide +kernel) (by decide +kernel)
theorem tw639 : (Cond.methodLink "LogFsModel" 96 ⟨"LogFsModel", "commit", "()Z"⟩) ∈ tb := tb_in 639 (by decide +kernel) (by decide +kernel)
theorem tw641 : (Cond.instanceMethod ⟨"LogFsModel", "commit", "()Z"⟩) ∈ tb := tb_in 641 (by decide +kernel) (by decide +kernel)
theorem tw642 : (Cond.code ⟨"LogFsModel", "commit", "()Z"⟩ prog_7_method_24_code 3 (some .boolean)) ∈ tb := tb_in 642 (by decide +kernel) (by decide +kernel)
theorem tw643 : (Cond.methodLink "LogFsModel" 87 ⟨"LogFsModel", "fetch", "(I)V"⟩) ∈ tb := tb_in 643 (by decide +kernel) (by decide +kernel)
theorem tw645 : (Cond.instanceMethod ⟨"LogFsModel", "fetch", "(I)V"⟩) ∈ tb := tb_in 645 (by decide +kernel) (by decide +kernel)
theorem tw646 : (Cond.code ⟨"LogFsModel", "fetch", "(I)V"⟩ prog_7_method_22_code 3 none) ∈ tb := tb_in 646 (by decide +kernel) (by decide +kernel)
theorem tw647 : (Cond.methodLink "LogFsModel" 90 ⟨"LogFsModel", "put", "(I)V"⟩) ∈ tb := tb_in 647 (by decide +kernel) (by decide +kernel)
theorem tw649 : (Cond.instanceMethod ⟨"LogFsModel", "put", "(I)V"⟩) ∈ tb := tb_in 649 (by decide +kernel) (by decide +kernel)
theorem tw650 : (Cond.code ⟨"LogFsModel", "put", "(I)V"⟩ prog_7_method_21_code 3 none) ∈ tb := tb_in 650 (by decide +kernel) (by decide +kernel)
theorem tw651 : (Cond.methodLink "LogFsModel" 93 ⟨"LogFsModel", "head", "(I)V"⟩) ∈ tb := tb_in 651 (by decide +kernel) (by decide +kernel)
theorem tw653 : (Cond.instanceMethod ⟨"LogFsModel", "head", "(I)V"⟩) ∈ tb := tb_in 653 (by decide +kernel) (by decide +kernel)
theorem tw654 : (Cond.code ⟨"LogFsModel", "head", "(I)V"⟩ prog_7_method_23_code 3 none) ∈ tb := tb_in 654 (by decide +kernel) (by decide +kernel)
theorem tw655 : (Cond.methodLink "LogFsLaw" 105 ⟨"LogFsModel", "failAfter", "(I)Z"⟩) ∈ tb := tb_in 655 (by decide +kernel) (by decide +kernel)
theorem tw656 : (Cond.instanceMethod ⟨"LogFsModel", "failAfter", "(I)Z"⟩) ∈ tb := tb_in 656 (by decide +kernel) (by decide +kernel)
theorem tw657 : (Cond.selects "LogFsModel" ⟨"LogFsModel", "failAfter", "(I)Z"⟩ ⟨"LogFsModel", "failAfter", "(I)Z"⟩) ∈ tb := tb_in 657 (by decide +kernel) (by decide +kernel)
theorem tw658 : (Cond.code ⟨"LogFsModel", "failAfter", "(I)Z"⟩ prog_7_method_28_code 2 (some .boolean)) ∈ tb := tb_in 658 (by decide +kernel) (by decide +kernel)
theorem tw659 : (Cond.methodLink "LogFsLaw" 108 ⟨"LogFsModel", "mount", "()I"⟩) ∈ tb := tb_in 659 (by decide +kernel) (by decide +kernel)
theorem tw660 : (Cond.instanceMethod ⟨"LogFsModel", "mount", "()I"⟩) ∈ tb := tb_in 660 (by decide +kernel) (by decide +kernel)
theorem tw661 : (Cond.selects "LogFsModel" ⟨"LogFsModel", "mount", "()I"⟩ ⟨"LogFsModel", "mount", "()I"⟩) ∈ tb := tb_in 661 (by decide +kernel) (by decide +kernel)
theorem tw662 : (Cond.code ⟨"LogFsModel", "mount", "()I"⟩ prog_7_method_29_code 4 (some .int)) ∈ tb := tb_in 662 (by decide +kernel) (by decide +kernel)
theorem tw663 : (Cond.methodLink "LogFsLaw" 74 ⟨"LogFsModel", "make", "(IJZ)I"⟩) ∈ tb := tb_in 663 (by decide +kernel) (by decide +kernel)
theorem tw664 : (Cond.instanceMethod ⟨"LogFsModel", "make", "(IJZ)I"⟩) ∈ tb := tb_in 664 (by decide +kernel) (by decide +kernel)
theorem tw665 : (Cond.selects "LogFsModel" ⟨"LogFsModel", "make", "(IJZ)I"⟩ ⟨"LogFsModel", "make", "(IJZ)I"⟩) ∈ tb := tb_in 665 (by decide +kernel) (by decide +kernel)
theorem tw666 : (Cond.code ⟨"LogFsModel", "make", "(IJZ)I"⟩ prog_7_method_39_code 6 (some .int)) ∈ tb := tb_in 666 (by decide +kernel) (by decide +kernel)
theorem tw667 : (Cond.methodLink "LogFsModel" 137 ⟨"LogFsModel", "isName", "(J)Z"⟩) ∈ tb := tb_in 667 (by decide +kernel) (by decide +kernel)
theorem tw669 : (Cond.instanceMethod ⟨"LogFsModel", "isName", "(J)Z"⟩) ∈ tb := tb_in 669 (by decide +kernel) (by decide +kernel)
theorem tw670 : (Cond.code ⟨"LogFsModel", "isName", "(J)Z"⟩ prog_7_method_30_code 7 (some .boolean)) ∈ tb := tb_in 670 (by decide +kernel) (by decide +kernel)
theorem tw671 : (Cond.constantLong "LogFsModel" 103 (255 : Int64)) ∈ tb := tb_in 671 (by decide +kernel) (by decide +kernel)
theorem tw672 : (Cond.methodLink "LogFsModel" 141 ⟨"LogFsModel", "is", "(II)Z"⟩) ∈ tb := tb_in 672 (by decide +kernel) (by decide +kernel)
theorem tw674 : (Cond.instanceMethod ⟨"LogFsModel", "is", "(II)Z"⟩) ∈ tb := tb_in 674 (by decide +kernel) (by decide +kernel)
theorem tw675 : (Cond.code ⟨"LogFsModel", "is", "(II)Z"⟩ prog_7_method_12_code 3 (some .boolean)) ∈ tb := tb_in 675 (by decide +kernel) (by decide +kernel)
theorem tw676 : (Cond.methodLink "LogFsModel" 58 ⟨"LogFsModel", "isInode", "(I)Z"⟩) ∈ tb := tb_in 676 (by decide +kernel) (by decide +kernel)
theorem tw677 : (Cond.static ⟨"LogFsModel", "isInode", "(I)Z"⟩) ∈ tb := tb_in 677 (by decide +kernel) (by decide +kernel)
theorem tw678 : (Cond.code ⟨"LogFsModel", "isInode", "(I)Z"⟩ prog_7_method_11_code 1 (some .boolean)) ∈ tb := tb_in 678 (by decide +kernel) (by decide +kernel)
theorem tw679 : (Cond.methodLink "LogFsModel" 62 ⟨"LogFsModel", "inodeAt", "(II)I"⟩) ∈ tb := tb_in 679 (by decide +kernel) (by decide +kernel)
theorem tw681 : (Cond.instanceMethod ⟨"LogFsModel", "inodeAt", "(II)I"⟩) ∈ tb := tb_in 681 (by decide +kernel) (by decide +kernel)
theorem tw682 : (Cond.code ⟨"LogFsModel", "inodeAt", "(II)I"⟩ prog_7_method_9_code 3 (some .int)) ∈ tb := tb_in 682 (by decide +kernel) (by decide +kernel)
theorem tw683 : (Cond.methodLink "LogFsModel" 43 ⟨"LogFsModel", "blockOf", "(I)I"⟩) ∈ tb := tb_in 683 (by decide +kernel) (by decide +kernel)
theorem tw684 : (Cond.static ⟨"LogFsModel", "blockOf", "(I)I"⟩) ∈ tb := tb_in 684 (by decide +kernel) (by decide +kernel)
theorem tw685 : (Cond.code ⟨"LogFsModel", "blockOf", "(I)I"⟩ prog_7_method_7_code 1 (some .int)) ∈ tb := tb_in 685 (by decide +kernel) (by decide +kernel)
theorem tw686 : (Cond.methodLink "LogFsModel" 47 ⟨"LogFsModel", "placeOf", "(I)I"⟩) ∈ tb := tb_in 686 (by decide +kernel) (by decide +kernel)
theorem tw687 : (Cond.static ⟨"LogFsModel", "placeOf", "(I)I"⟩) ∈ tb := tb_in 687 (by decide +kernel) (by decide +kernel)
theorem tw688 : (Cond.code ⟨"LogFsModel", "placeOf", "(I)I"⟩ prog_7_method_8_code 1 (some .int)) ∈ tb := tb_in 688 (by decide +kernel) (by decide +kernel)
theorem tw689 : (Cond.methodLink "LogFsModel" 50 ⟨"LogFsModel", "at", "(II)I"⟩) ∈ tb := tb_in 689 (by decide +kernel) (by decide +kernel)
theorem tw691 : (Cond.instanceMethod ⟨"LogFsModel", "at", "(II)I"⟩) ∈ tb := tb_in 691 (by decide +kernel) (by decide +kernel)
theorem tw692 : (Cond.code ⟨"LogFsModel", "at", "(II)I"⟩ prog_7_method_4_code 3 (some .int)) ∈ tb := tb_in 692 (by decide +kernel) (by decide +kernel)
theorem tw693 : (Cond.methodLink "LogFsModel" 145 ⟨"LogFsModel", "mayEnter", "(I)Z"⟩) ∈ tb := tb_in 693 (by decide +kernel) (by decide +kernel)
theorem tw695 : (Cond.instanceMethod ⟨"LogFsModel", "mayEnter", "(I)Z"⟩) ∈ tb := tb_in 695 (by decide +kernel) (by decide +kernel)
theorem tw696 : (Cond.code ⟨"LogFsModel", "mayEnter", "(I)Z"⟩ prog_7_method_38_code 4 (some .boolean)) ∈ tb := tb_in 696 (by decide +kernel) (by decide +kernel)
theorem tw697 : (Cond.methodLink "LogFsModel" 118 ⟨"LogFsModel", "placeForEntry", "(I)I"⟩) ∈ tb := tb_in 697 (by decide +kernel) (by decide +kernel)
theorem tw699 : (Cond.instanceMethod ⟨"LogFsModel", "placeForEntry", "(I)I"⟩) ∈ tb := tb_in 699 (by decide +kernel) (by decide +kernel)
theorem tw700 : (Cond.code ⟨"LogFsModel", "placeForEntry", "(I)I"⟩ prog_7_method_32_code 3 (some .int)) ∈ tb := tb_in 700 (by decide +kernel) (by decide +kernel)
theorem tw701 : (Cond.methodLink "LogFsModel" 105 ⟨"LogFsModel", "sizeOf", "(I)I"⟩) ∈ tb := tb_in 701 (by decide +kernel) (by decide +kernel)
theorem tw703 : (Cond.instanceMethod ⟨"LogFsModel", "sizeOf", "(I)I"⟩) ∈ tb := tb_in 703 (by decide +kernel) (by decide +kernel)
theorem tw704 : (Cond.code ⟨"LogFsModel", "sizeOf", "(I)I"⟩ prog_7_method_13_code 2 (some .int)) ∈ tb := tb_in 704 (by decide +kernel) (by decide +kernel)
theorem tw705 : (Cond.methodLink "LogFsModel" 108 ⟨"LogFsModel", "contentAt", "(II)I"⟩) ∈ tb := tb_in 705 (by decide +kernel) (by decide +kernel)
theorem tw707 : (Cond.instanceMethod ⟨"LogFsModel", "contentAt", "(II)I"⟩) ∈ tb := tb_in 707 (by decide +kernel) (by decide +kernel)
theorem tw708 : (Cond.code ⟨"LogFsModel", "contentAt", "(II)I"⟩ prog_7_method_17_code 3 (some .int)) ∈ tb := tb_in 708 (by decide +kernel) (by decide +kernel)
theorem tw709 : (Cond.methodLink "LogFsModel" 68 ⟨"LogFsModel", "contentBlock", "(II)I"⟩) ∈ tb := tb_in 709 (by decide +kernel) (by decide +kernel)
theorem tw711 : (Cond.instanceMethod ⟨"LogFsModel", "contentBlock", "(II)I"⟩) ∈ tb := tb_in 711 (by decide +kernel) (by decide +kernel)
theorem tw712 : (Cond.code ⟨"LogFsModel", "contentBlock", "(II)I"⟩ prog_7_method_16_code 3 (some .int)) ∈ tb := tb_in 712 (by decide +kernel) (by decide +kernel)
theorem tw713 : (Cond.methodLink "LogFsModel" 128 ⟨"LogFsModel", "findEntry", "(I)I"⟩) ∈ tb := tb_in 713 (by decide +kernel) (by decide +kernel)
theorem tw715 : (Cond.instanceMethod ⟨"LogFsModel", "findEntry", "(I)I"⟩) ∈ tb := tb_in 715 (by decide +kernel) (by decide +kernel)
theorem tw716 : (Cond.code ⟨"LogFsModel", "findEntry", "(I)I"⟩ prog_7_method_31_code 6 (some .int)) ∈ tb := tb_in 716 (by decide +kernel) (by decide +kernel)
theorem tw717 : (Cond.methodLink "LogFsModel" 131 ⟨"LogFsModel", "needs", "(II)I"⟩) ∈ tb := tb_in 717 (by decide +kernel) (by decide +kernel)
theorem tw719 : (Cond.instanceMethod ⟨"LogFsModel", "needs", "(II)I"⟩) ∈ tb := tb_in 719 (by decide +kernel) (by decide +kernel)
theorem tw720 : (Cond.code ⟨"LogFsModel", "needs", "(II)I"⟩ prog_7_method_34_code 5 (some .int)) ∈ tb := tb_in 720 (by decide +kernel) (by decide +kernel)
theorem tw721 : (Cond.methodLink "LogFsModel" 111 ⟨"LogFsModel", "blocksFor", "(I)I"⟩) ∈ tb := tb_in 721 (by decide +kernel) (by decide +kernel)
theorem tw722 : (Cond.static ⟨"LogFsModel", "blocksFor", "(I)I"⟩) ∈ tb := tb_in 722 (by decide +kernel) (by decide +kernel)
theorem tw723 : (Cond.code ⟨"LogFsModel", "blocksFor", "(I)I"⟩ prog_7_method_15_code 1 (some .int)) ∈ tb := tb_in 723 (by decide +kernel) (by decide +kernel)
theorem tw724 : (Cond.methodLink "LogFsModel" 134 ⟨"LogFsModel", "freeBlocks", "()I"⟩) ∈ tb := tb_in 724 (by decide +kernel) (by decide +kernel)
theorem tw726 : (Cond.instanceMethod ⟨"LogFsModel", "freeBlocks", "()I"⟩) ∈ tb := tb_in 726 (by decide +kernel) (by decide +kernel)
theorem tw727 : (Cond.code ⟨"LogFsModel", "freeBlocks", "()I"⟩ prog_7_method_19_code 3 (some .int)) ∈ tb := tb_in 727 (by decide +kernel) (by decide +kernel)
theorem tw728 : (Cond.methodLink "LogFsModel" 71 ⟨"LogFsModel", "isUsed", "(I)Z"⟩) ∈ tb := tb_in 728 (by decide +kernel) (by decide +kernel)
theorem tw730 : (Cond.instanceMethod ⟨"LogFsModel", "isUsed", "(I)Z"⟩) ∈ tb := tb_in 730 (by decide +kernel) (by decide +kernel)
theorem tw731 : (Cond.code ⟨"LogFsModel", "isUsed", "(I)Z"⟩ prog_7_method_18_code 2 (some .boolean)) ∈ tb := tb_in 731 (by decide +kernel) (by decide +kernel)
theorem tw732 : (Cond.methodLink "LogFsModel" 148 ⟨"LogFsModel", "freeInode", "()I"⟩) ∈ tb := tb_in 732 (by decide +kernel) (by decide +kernel)
theorem tw734 : (Cond.instanceMethod ⟨"LogFsModel", "freeInode", "()I"⟩) ∈ tb := tb_in 734 (by decide +kernel) (by decide +kernel)
theorem tw735 : (Cond.code ⟨"LogFsModel", "freeInode", "()I"⟩ prog_7_method_20_code 2 (some .int)) ∈ tb := tb_in 735 (by decide +kernel) (by decide +kernel)
theorem tw736 : (Cond.methodLink "LogFsModel" 151 ⟨"LogFsModel", "ready", "()Z"⟩) ∈ tb := tb_in 736 (by decide +kernel) (by decide +kernel)
theorem tw738 : (Cond.instanceMethod ⟨"LogFsModel", "ready", "()Z"⟩) ∈ tb := tb_in 738 (by decide +kernel) (by decide +kernel)
theorem tw739 : (Cond.code ⟨"LogFsModel", "ready", "()Z"⟩ prog_7_method_25_code 2 (some .boolean)) ∈ tb := tb_in 739 (by decide +kernel) (by decide +kernel)
theorem tw740 : (Cond.methodLink "LogFsModel" 65 ⟨"LogFsModel", "setInode", "(III)V"⟩) ∈ tb := tb_in 740 (by decide +kernel) (by decide +kernel)
theorem tw742 : (Cond.instanceMethod ⟨"LogFsModel", "setInode", "(III)V"⟩) ∈ tb := tb_in 742 (by decide +kernel) (by decide +kernel)
theorem tw743 : (Cond.code ⟨"LogFsModel", "setInode", "(III)V"⟩ prog_7_method_10_code 4 none) ∈ tb := tb_in 743 (by decide +kernel) (by decide +kernel)
theorem tw744 : (Cond.methodLink "LogFsModel" 54 ⟨"LogFsModel", "set", "(III)V"⟩) ∈ tb := tb_in 744 (by decide +kernel) (by decide +kernel)
theorem tw746 : (Cond.instanceMethod ⟨"LogFsModel", "set", "(III)V"⟩) ∈ tb := tb_in 746 (by decide +kernel) (by decide +kernel)
theorem tw747 : (Cond.code ⟨"LogFsModel", "set", "(III)V"⟩ prog_7_method_6_code 4 none) ∈ tb := tb_in 747 (by decide +kernel) (by decide +kernel)
theorem tw748 : (Cond.methodLink "LogFsModel" 39 ⟨"LogFsModel", "pend", "(I)V"⟩) ∈ tb := tb_in 748 (by decide +kernel) (by decide +kernel)
theorem tw750 : (Cond.instanceMethod ⟨"LogFsModel", "pend", "(I)V"⟩) ∈ tb := tb_in 750 (by decide +kernel) (by decide +kernel)
theorem tw751 : (Cond.code ⟨"LogFsModel", "pend", "(I)V"⟩ prog_7_method_5_code 4 none) ∈ tb := tb_in 751 (by decide +kernel) (by decide +kernel)
theorem tw752 : (Cond.methodLink "LogFsModel" 154 ⟨"LogFsModel", "enter", "(II)V"⟩) ∈ tb := tb_in 752 (by decide +kernel) (by decide +kernel)
theorem tw754 : (Cond.instanceMethod ⟨"LogFsModel", "enter", "(II)V"⟩) ∈ tb := tb_in 754 (by decide +kernel) (by decide +kernel)
theorem tw755 : (Cond.code ⟨"LogFsModel", "enter", "(II)V"⟩ prog_7_method_37_code 7 none) ∈ tb := tb_in 755 (by decide +kernel) (by decide +kernel)
theorem tw756 : (Cond.methodLink "LogFsModel" 121 ⟨"LogFsModel", "blockFor", "(II)V"⟩) ∈ tb := tb_in 756 (by decide +kernel) (by decide +kernel)
theorem tw758 : (Cond.instanceMethod ⟨"LogFsModel", "blockFor", "(II)V"⟩) ∈ tb := tb_in 758 (by decide +kernel) (by decide +kernel)
theorem tw759 : (Cond.code ⟨"LogFsModel", "blockFor", "(II)V"⟩ prog_7_method_36_code 4 none) ∈ tb := tb_in 759 (by decide +kernel) (by decide +kernel)
theorem tw760 : (Cond.methodLink "LogFsModel" 114 ⟨"LogFsModel", "takeBlock", "()I"⟩) ∈ tb := tb_in 760 (by decide +kernel) (by decide +kernel)
theorem tw762 : (Cond.instanceMethod ⟨"LogFsModel", "takeBlock", "()I"⟩) ∈ tb := tb_in 762 (by decide +kernel) (by decide +kernel)
theorem tw763 : (Cond.code ⟨"LogFsModel", "takeBlock", "()I"⟩ prog_7_method_35_code 3 (some .int)) ∈ tb := tb_in 763 (by decide +kernel) (by decide +kernel)
theorem tw764 : (Cond.methodLink "LogFsModel" 125 ⟨"LogFsModel", "setSize", "(II)V"⟩) ∈ tb := tb_in 764 (by decide +kernel) (by decide +kernel)
theorem tw766 : (Cond.instanceMethod ⟨"LogFsModel", "setSize", "(II)V"⟩) ∈ tb := tb_in 766 (by decide +kernel) (by decide +kernel)
theorem tw767 : (Cond.code ⟨"LogFsModel", "setSize", "(II)V"⟩ prog_7_method_14_code 3 none) ∈ tb := tb_in 767 (by decide +kernel) (by decide +kernel)
theorem tw768 : (Cond.methodLink "LogFsLaw" 81 ⟨"LogFsModel", "link", "(IJI)Z"⟩) ∈ tb := tb_in 768 (by decide +kernel) (by decide +kernel)
theorem tw769 : (Cond.instanceMethod ⟨"LogFsModel", "link", "(IJI)Z"⟩) ∈ tb := tb_in 769 (by decide +kernel) (by decide +kernel)
theorem tw770 : (Cond.selects "LogFsModel" ⟨"LogFsModel", "link", "(IJI)Z"⟩ ⟨"LogFsModel", "link", "(IJI)Z"⟩) ∈ tb := tb_in 770 (by decide +kernel) (by decide +kernel)
theorem tw771 : (Cond.code ⟨"LogFsModel", "link", "(IJI)Z"⟩ prog_7_method_40_code 5 (some .boolean)) ∈ tb := tb_in 771 (by decide +kernel) (by decide +kernel)
theorem tw772 : (Cond.methodLink "LogFsLaw" 85 ⟨"LogFsModel", "unlink", "(IJ)Z"⟩) ∈ tb := tb_in 772 (by decide +kernel) (by decide +kernel)
theorem tw773 : (Cond.instanceMethod ⟨"LogFsModel", "unlink", "(IJ)Z"⟩) ∈ tb := tb_in 773 (by decide +kernel) (by decide +kernel)
theorem tw774 : (Cond.selects "LogFsModel" ⟨"LogFsModel", "unlink", "(IJ)Z"⟩ ⟨"LogFsModel", "unlink", "(IJ)Z"⟩) ∈ tb := tb_in 774 (by decide +kernel) (by decide +kernel)
theorem tw775 : (Cond.code ⟨"LogFsModel", "unlink", "(IJ)Z"⟩ prog_7_method_44_code 8 (some .boolean)) ∈ tb := tb_in 775 (by decide +kernel) (by decide +kernel)
theorem tw776 : (Cond.methodLink "LogFsModel" 160 ⟨"LogFsModel", "entries", "(I)I"⟩) ∈ tb := tb_in 776 (by decide +kernel) (by decide +kernel)
theorem tw778 : (Cond.instanceMethod ⟨"LogFsModel", "entries", "(I)I"⟩) ∈ tb := tb_in 778 (by decide +kernel) (by decide +kernel)
theorem tw779 : (Cond.code ⟨"LogFsModel", "entries", "(I)I"⟩ prog_7_method_33_code 4 (some .int)) ∈ tb := tb_in 779 (by decide +kernel) (by decide +kernel)
theorem tw780 : (Cond.methodLink "LogFsModel" 163 ⟨"LogFsModel", "release", "(I)V"⟩) ∈ tb := tb_in 780 (by decide +kernel) (by decide +kernel)
theorem tw782 : (Cond.instanceMethod ⟨"LogFsModel", "release", "(I)V"⟩) ∈ tb := tb_in 782 (by decide +kernel) (by decide +kernel)
theorem tw783 : (Cond.code ⟨"LogFsModel", "release", "(I)V"⟩ prog_7_method_41_code 4 none) ∈ tb := tb_in 783 (by decide +kernel) (by decide +kernel)
theorem tw784 : (Cond.methodLink "LogFsModel" 157 ⟨"LogFsModel", "free", "(I)V"⟩) ∈ tb := tb_in 784 (by decide +kernel) (by decide +kernel)
theorem tw786 : (Cond.instanceMethod ⟨"LogFsModel", "free", "(I)V"⟩) ∈ tb := tb_in 786 (by decide +kernel) (by decide +kernel)
theorem tw787 : (Cond.code ⟨"LogFsModel", "free", "(I)V"⟩ prog_7_method_42_code 2 none) ∈ tb := tb_in 787 (by decide +kernel) (by decide +kernel)
theorem tw788 : (Cond.methodLink "LogFsModel" 166 ⟨"LogFsModel", "clear", "(II)V"⟩) ∈ tb := tb_in 788 (by decide +kernel) (by decide +kernel)
theorem tw790 : (Cond.instanceMethod ⟨"LogFsModel", "clear", "(II)V"⟩) ∈ tb := tb_in 790 (by decide +kernel) (by decide +kernel)
theorem tw791 : (Cond.code ⟨"LogFsModel", "clear", "(II)V"⟩ prog_7_method_43_code 4 none) ∈ tb := tb_in 791 (by decide +kernel) (by decide +kernel)
theorem tw792 : (Cond.methodLink "LogFsLaw" 89 ⟨"LogFsModel", "write", "(IIJI)I"⟩) ∈ tb := tb_in 792 (by decide +kernel) (by decide +kernel)
theorem tw793 : (Cond.instanceMethod ⟨"LogFsModel", "write", "(IIJI)I"⟩) ∈ tb := tb_in 793 (by decide +kernel) (by decide +kernel)
theorem tw794 : (Cond.selects "LogFsModel" ⟨"LogFsModel", "write", "(IIJI)I"⟩ ⟨"LogFsModel", "write", "(IIJI)I"⟩) ∈ tb := tb_in 794 (by decide +kernel) (by decide +kernel)
theorem tw795 : (Cond.code ⟨"LogFsModel", "write", "(IIJI)I"⟩ prog_7_method_47_code 7 (some .int)) ∈ tb := tb_in 795 (by decide +kernel) (by decide +kernel)
theorem tw796 : (Cond.methodLink "LogFsModel" 169 ⟨"LogFsModel", "mayWrite", "(III)Z"⟩) ∈ tb := tb_in 796 (by decide +kernel) (by decide +kernel)
theorem tw798 : (Cond.instanceMethod ⟨"LogFsModel", "mayWrite", "(III)Z"⟩) ∈ tb := tb_in 798 (by decide +kernel) (by decide +kernel)
theorem tw799 : (Cond.code ⟨"LogFsModel", "mayWrite", "(III)Z"⟩ prog_7_method_45_code 4 (some .boolean)) ∈ tb := tb_in 799 (by decide +kernel) (by decide +kernel)
theorem tw800 : (Cond.methodLink "LogFsModel" 173 ⟨"LogFsModel", "writes", "(III)I"⟩) ∈ tb := tb_in 800 (by decide +kernel) (by decide +kernel)
theorem tw802 : (Cond.instanceMethod ⟨"LogFsModel", "writes", "(III)I"⟩) ∈ tb := tb_in 802 (by decide +kernel) (by decide +kernel)
theorem tw803 : (Cond.code ⟨"LogFsModel", "writes", "(III)I"⟩ prog_7_method_46_code 6 (some .int)) ∈ tb := tb_in 803 (by decide +kernel) (by decide +kernel)
theorem tw804 : (Cond.methodLink "LogFsLaw" 93 ⟨"LogFsModel", "fill", "(IIII)I"⟩) ∈ tb := tb_in 804 (by decide +kernel) (by decide +kernel)
theorem tw805 : (Cond.instanceMethod ⟨"LogFsModel", "fill", "(IIII)I"⟩) ∈ tb := tb_in 805 (by decide +kernel) (by decide +kernel)
theorem tw806 : (Cond.selects "LogFsModel" ⟨"LogFsModel", "fill", "(IIII)I"⟩ ⟨"LogFsModel", "fill", "(IIII)I"⟩) ∈ tb := tb_in 806 (by decide +kernel) (by decide +kernel)
theorem tw807 : (Cond.code ⟨"LogFsModel", "fill", "(IIII)I"⟩ prog_7_method_48_code 6 (some .int)) ∈ tb := tb_in 807 (by decide +kernel) (by decide +kernel)
theorem tw808 : (Cond.methodLink "LogFsLaw" 97 ⟨"LogFsModel", "truncate", "(I)Z"⟩) ∈ tb := tb_in 808 (by decide +kernel) (by decide +kernel)
theorem tw809 : (Cond.instanceMethod ⟨"LogFsModel", "truncate", "(I)Z"⟩) ∈ tb := tb_in 809 (by decide +kernel) (by decide +kernel)
theorem tw810 : (Cond.selects "LogFsModel" ⟨"LogFsModel", "truncate", "(I)Z"⟩ ⟨"LogFsModel", "truncate", "(I)Z"⟩) ∈ tb := tb_in 810 (by decide +kernel) (by decide +kernel)
theorem tw811 : (Cond.code ⟨"LogFsModel", "truncate", "(I)Z"⟩ prog_7_method_49_code 2 (some .boolean)) ∈ tb := tb_in 811 (by decide +kernel) (by decide +kernel)
theorem tw812 : (Cond.methodLink "LogFsLaw" 111 ⟨"LogFsModel", "find", "(IJ)I"⟩) ∈ tb := tb_in 812 (by decide +kernel) (by decide +kernel)
theorem tw813 : (Cond.instanceMethod ⟨"LogFsModel", "find", "(IJ)I"⟩) ∈ tb := tb_in 813 (by decide +kernel) (by decide +kernel)
theorem tw814 : (Cond.selects "LogFsModel" ⟨"LogFsModel", "find", "(IJ)I"⟩ ⟨"LogFsModel", "find", "(IJ)I"⟩) ∈ tb := tb_in 814 (by decide +kernel) (by decide +kernel)
theorem tw815 : (Cond.code ⟨"LogFsModel", "find", "(IJ)I"⟩ prog_7_method_50_code 5 (some .int)) ∈ tb := tb_in 815 (by decide +kernel) (by decide +kernel)
theorem tw816 : (Cond.methodLink "LogFsLaw" 115 ⟨"LogFsModel", "read", "(II)I"⟩) ∈ tb := tb_in 816 (by decide +kernel) (by decide +kernel)
theorem tw817 : (Cond.instanceMethod ⟨"LogFsModel", "read", "(II)I"⟩) ∈ tb := tb_in 817 (by decide +kernel) (by decide +kernel)
theorem tw818 : (Cond.selects "LogFsModel" ⟨"LogFsModel", "read", "(II)I"⟩ ⟨"LogFsModel", "read", "(II)I"⟩) ∈ tb := tb_in 818 (by decide +kernel) (by decide +kernel)
theorem tw819 : (Cond.code ⟨"LogFsModel", "read", "(II)I"⟩ prog_7_method_51_code 3 (some .int)) ∈ tb := tb_in 819 (by decide +kernel) (by decide +kernel)
theorem tw820 : (Cond.methodLink "LogFsLaw" 118 ⟨"LogFsModel", "look", "(II)I"⟩) ∈ tb := tb_in 820 (by decide +kernel) (by decide +kernel)
theorem tw821 : (Cond.instanceMethod ⟨"LogFsModel", "look", "(II)I"⟩) ∈ tb := tb_in 821 (by decide +kernel) (by decide +kernel)
theorem tw822 : (Cond.selects "LogFsModel" ⟨"LogFsModel", "look", "(II)I"⟩ ⟨"LogFsModel", "look", "(II)I"⟩) ∈ tb := tb_in 822 (by decide +kernel) (by decide +kernel)
theorem tw823 : (Cond.code ⟨"LogFsModel", "look", "(II)I"⟩ prog_7_method_52_code 3 (some .int)) ∈ tb := tb_in 823 (by decide +kernel) (by decide +kernel)
theorem tw824 : (Cond.methodLink "LogFsLaw" 121 ⟨"LogFsModel", "disk", "(II)I"⟩) ∈ tb := tb_in 824 (by decide +kernel) (by decide +kernel)
theorem tw825 : (Cond.instanceMethod ⟨"LogFsModel", "disk", "(II)I"⟩) ∈ tb := tb_in 825 (by decide +kernel) (by decide +kernel)
theorem tw826 : (Cond.selects "LogFsModel" ⟨"LogFsModel", "disk", "(II)I"⟩ ⟨"LogFsModel", "disk", "(II)I"⟩) ∈ tb := tb_in 826 (by decide +kernel) (by decide +kernel)
theorem tw827 : (Cond.code ⟨"LogFsModel", "disk", "(II)I"⟩ prog_7_method_54_code 3 (some .int)) ∈ tb := tb_in 827 (by decide +kernel) (by decide +kernel)
theorem tw828 : (Cond.methodLink "LogFsModel" 176 ⟨"LogFsModel", "isByte", "(II)Z"⟩) ∈ tb := tb_in 828 (by decide +kernel) (by decide +kernel)
theorem tw829 : (Cond.static ⟨"LogFsModel", "isByte", "(II)Z"⟩) ∈ tb := tb_in 829 (by decide +kernel) (by decide +kernel)
theorem tw830 : (Cond.code ⟨"LogFsModel", "isByte", "(II)Z"⟩ prog_7_method_53_code 2 (some .boolean)) ∈ tb := tb_in 830 (by decide +kernel) (by decide +kernel)
theorem tw831 : (Cond.methodLink "LogFsLaw" 124 ⟨"LogFsModel", "memory", "(II)I"⟩) ∈ tb := tb_in 831 (by decide +kernel) (by decide +kernel)
theorem tw832 : (Cond.instanceMethod ⟨"LogFsModel", "memory", "(II)I"⟩) ∈ tb := tb_in 832 (by decide +kernel) (by decide +kernel)
theorem tw833 : (Cond.selects "LogFsModel" ⟨"LogFsModel", "memory", "(II)I"⟩ ⟨"LogFsModel", "memory", "(II)I"⟩) ∈ tb := tb_in 833 (by decide +kernel) (by decide +kernel)
theorem tw834 : (Cond.code ⟨"LogFsModel", "memory", "(II)I"⟩ prog_7_method_55_code 3 (some .int)) ∈ tb := tb_in 834 (by decide +kernel) (by decide +kernel)
theorem tw835 : (Cond.methodLink "LogFsLaw" 129 ⟨"LogFsModel", "count", "(I)I"⟩) ∈ tb := tb_in 835 (by decide +kernel) (by decide +kernel)
theorem tw836 : (Cond.instanceMethod ⟨"LogFsModel", "count", "(I)I"⟩) ∈ tb := tb_in 836 (by decide +kernel) (by decide +kernel)
theorem tw837 : (Cond.selects "LogFsModel" ⟨"LogFsModel", "count", "(I)I"⟩ ⟨"LogFsModel", "count", "(I)I"⟩) ∈ tb := tb_in 837 (by decide +kernel) (by decide +kernel)
theorem tw838 : (Cond.code ⟨"LogFsModel", "count", "(I)I"⟩ prog_7_method_56_code 4 (some .int)) ∈ tb := tb_in 838 (by decide +kernel) (by decide +kernel)
theorem tw839 : (Cond.constantLong "LogFsLaw" 67 (4294967295 : Int64)) ∈ tb := tb_in 839 (by decide +kernel) (by decide +kernel)
theorem tw840 : (Cond.arrayClass .long) ∈ tb := tb_in 840 (by decide +kernel) (by decide +kernel)
theorem tw841 : (Cond.sameMethod "java/lang/Throwable" "java/lang/Throwable" "fillInStackTrace" "(I)Ljava/lang/Throwable;") ∈ tb := tb_in 841 (by decide +kernel) (by decide +kernel)
theorem uin_Blocks : ∀ w ∈ u_ws R_Blocks T_Blocks 1, w ∈ tb := by
  exact (List.forall_mem_cons.mpr ⟨tw36, (fun _ h => absurd h List.not_mem_nil)⟩)
theorem uin_Disk : ∀ w ∈ u_ws R_Disk T_Disk 4, w ∈ tb := by
  exact (List.forall_mem_cons.mpr ⟨tw56, (List.forall_mem_cons.mpr ⟨tw58, (List.forall_mem_cons.mpr ⟨tw60, (List.forall_mem_cons.mpr ⟨tw62, (fun _ h => absurd h List.not_mem_nil)⟩)⟩)⟩)⟩)
theorem uin_Memory : ∀ w ∈ u_ws R_Memory T_Memory 3, w ∈ tb := by
  exact (List.forall_mem_cons.mpr ⟨tw81, (List.forall_mem_cons.mpr ⟨tw83, (List.forall_mem_cons.mpr ⟨tw85, (fun _ h => absurd h List.not_mem_nil)⟩)⟩)⟩)
theorem uin_Volume : ∀ w ∈ u_ws R_Volume T_Volume 2, w ∈ tb := by
  exact (List.forall_mem_cons.mpr ⟨tw97, (List.forall_mem_cons.mpr ⟨tw99, (fun _ h => absurd h List.not_mem_nil)⟩)⟩)
theorem uin_LogFs : ∀ w ∈ u_ws R_LogFs T_LogFs 4, w ∈ tb := by
  exact (List.forall_mem_cons.mpr ⟨tw121, (List.forall_mem_cons.mpr ⟨tw123, (List.forall_mem_cons.mpr ⟨tw125, (List.forall_mem_cons.mpr ⟨tw127, (fun _ h => absurd h List.not_mem_nil)⟩)⟩)⟩)⟩)
theorem uin_Model : ∀ w ∈ u_ws R_Model T_Model 12, w ∈ tb := by
  exact (List.forall_mem_cons.mpr ⟨tw602, (List.forall_mem_cons.mpr ⟨tw604, (List.forall_mem_cons.mpr ⟨tw606, (List.forall_mem_cons.mpr ⟨tw608, (List.forall_mem_cons.mpr ⟨tw610, (List.forall_mem_cons.mpr ⟨tw612, (List.forall_mem_cons.mpr ⟨tw614, (List.forall_mem_cons.mpr ⟨tw616, (List.forall_mem_cons.mpr ⟨tw618, (List.forall_mem_cons.mpr ⟨tw620, (List.forall_mem_cons.mpr ⟨tw622, (List.forall_mem_cons.mpr ⟨tw624, (fun _ h => absurd h List.not_mem_nil)⟩)⟩)⟩)⟩)⟩)⟩)⟩)⟩)⟩)⟩)⟩)⟩)
end
section
/-! Decode rows of the class. Written by wip/gen/names.py. -/
theorem d_Blocks_init_0 : decode b_Blocks_init 0 = .ok (.aload_n 0, 1) := by decide +kernel
theorem d_Blocks_init_1 : decode b_Blocks_init 1 = .ok (.invokespecial 3, 3) := by decide +kernel
theorem d_Blocks_init_4 : decode b_Blocks_init 4 = .ok (.aload_n 0, 1) := by decide +kernel
theorem d_Blocks_init_5 : decode b_Blocks_init 5 = .ok (.sipush 8192, 3) := by decide +kernel
theorem d_Blocks_init_8 : decode b_Blocks_init 8 = .ok (.newarray .byte, 2) := by decide +kernel
theorem d_Blocks_init_10 : decode b_Blocks_init 10 = .ok (.putfield 9, 3) := by decide +kernel
theorem d_Blocks_init_13 : decode b_Blocks_init 13 = .ok (.return_, 1) := by decide +kernel
theorem d_Blocks_set_0 : decode b_Blocks_set 0 = .ok (.iload_n 1, 1) := by decide +kernel
theorem d_Blocks_set_1 : decode b_Blocks_set 1 = .ok (.ifCond .lt 33, 3) := by decide +kernel
theorem d_Blocks_set_4 : decode b_Blocks_set 4 = .ok (.iload_n 1, 1) := by decide +kernel
theorem d_Blocks_set_5 : decode b_Blocks_set 5 = .ok (.sipush 128, 3) := by decide +kernel
theorem d_Blocks_set_8 : decode b_Blocks_set 8 = .ok (.if_icmp .ge 26, 3) := by decide +kernel
theorem d_Blocks_set_11 : decode b_Blocks_set 11 = .ok (.iload_n 2, 1) := by decide +kernel
theorem d_Blocks_set_12 : decode b_Blocks_set 12 = .ok (.ifCond .lt 22, 3) := by decide +kernel
theorem d_Blocks_set_15 : decode b_Blocks_set 15 = .ok (.iload_n 2, 1) := by decide +kernel
theorem d_Blocks_set_16 : decode b_Blocks_set 16 = .ok (.bipush 64, 2) := by decide +kernel
theorem d_Blocks_set_18 : decode b_Blocks_set 18 = .ok (.if_icmp .ge 16, 3) := by decide +kernel
theorem d_Blocks_set_21 : decode b_Blocks_set 21 = .ok (.aload_n 0, 1) := by decide +kernel
theorem d_Blocks_set_22 : decode b_Blocks_set 22 = .ok (.getfield 9, 3) := by decide +kernel
theorem d_Blocks_set_25 : decode b_Blocks_set 25 = .ok (.iload_n 1, 1) := by decide +kernel
theorem d_Blocks_set_26 : decode b_Blocks_set 26 = .ok (.bipush 64, 2) := by decide +kernel
theorem d_Blocks_set_28 : decode b_Blocks_set 28 = .ok (.imul, 1) := by decide +kernel
theorem d_Blocks_set_29 : decode b_Blocks_set 29 = .ok (.iload_n 2, 1) := by decide +kernel
theorem d_Blocks_set_30 : decode b_Blocks_set 30 = .ok (.iadd, 1) := by decide +kernel
theorem d_Blocks_set_31 : decode b_Blocks_set 31 = .ok (.iload_n 3, 1) := by decide +kernel
theorem d_Blocks_set_32 : decode b_Blocks_set 32 = .ok (.i2b, 1) := by decide +kernel
theorem d_Blocks_set_33 : decode b_Blocks_set 33 = .ok (.bastore, 1) := by decide +kernel
theorem d_Blocks_set_34 : decode b_Blocks_set 34 = .ok (.return_, 1) := by decide +kernel
theorem d_Blocks_get_0 : decode b_Blocks_get 0 = .ok (.iload_n 1, 1) := by decide +kernel
theorem d_Blocks_get_1 : decode b_Blocks_get 1 = .ok (.ifCond .lt 20, 3) := by decide +kernel
theorem d_Blocks_get_4 : decode b_Blocks_get 4 = .ok (.iload_n 1, 1) := by decide +kernel
theorem d_Blocks_get_5 : decode b_Blocks_get 5 = .ok (.sipush 128, 3) := by decide +kernel
theorem d_Blocks_get_8 : decode b_Blocks_get 8 = .ok (.if_icmp .ge 13, 3) := by decide +kernel
theorem d_Blocks_get_11 : decode b_Blocks_get 11 = .ok (.iload_n 2, 1) := by decide +kernel
theorem d_Blocks_get_12 : decode b_Blocks_get 12 = .ok (.ifCond .lt 9, 3) := by decide +kernel
theorem d_Blocks_get_15 : decode b_Blocks_get 15 = .ok (.iload_n 2, 1) := by decide +kernel
theorem d_Blocks_get_16 : decode b_Blocks_get 16 = .ok (.bipush 64, 2) := by decide +kernel
theorem d_Blocks_get_18 : decode b_Blocks_get 18 = .ok (.if_icmp .lt 5, 3) := by decide +kernel
theorem d_Blocks_get_21 : decode b_Blocks_get 21 = .ok (.iconst 0, 1) := by decide +kernel
theorem d_Blocks_get_22 : decode b_Blocks_get 22 = .ok (.ireturn, 1) := by decide +kernel
theorem d_Blocks_get_23 : decode b_Blocks_get 23 = .ok (.aload_n 0, 1) := by decide +kernel
theorem d_Blocks_get_24 : decode b_Blocks_get 24 = .ok (.getfield 9, 3) := by decide +kernel
theorem d_Blocks_get_27 : decode b_Blocks_get 27 = .ok (.iload_n 1, 1) := by decide +kernel
theorem d_Blocks_get_28 : decode b_Blocks_get 28 = .ok (.bipush 64, 2) := by decide +kernel
theorem d_Blocks_get_30 : decode b_Blocks_get 30 = .ok (.imul, 1) := by decide +kernel
theorem d_Blocks_get_31 : decode b_Blocks_get 31 = .ok (.iload_n 2, 1) := by decide +kernel
theorem d_Blocks_get_32 : decode b_Blocks_get 32 = .ok (.iadd, 1) := by decide +kernel
theorem d_Blocks_get_33 : decode b_Blocks_get 33 = .ok (.baload, 1) := by decide +kernel
theorem d_Blocks_get_34 : decode b_Blocks_get 34 = .ok (.sipush 255, 3) := by decide +kernel
theorem d_Blocks_get_37 : decode b_Blocks_get 37 = .ok (.iand, 1) := by decide +kernel
theorem d_Blocks_get_38 : decode b_Blocks_get 38 = .ok (.ireturn, 1) := by decide +kernel
theorem d_Blocks_copyAll_0 : decode b_Blocks_copyAll 0 = .ok (.aload_n 1, 1) := by decide +kernel
theorem d_Blocks_copyAll_1 : decode b_Blocks_copyAll 1 = .ok (.getfield 9, 3) := by decide +kernel
theorem d_Blocks_copyAll_4 : decode b_Blocks_copyAll 4 = .ok (.iconst 0, 1) := by decide +kernel
theorem d_Blocks_copyAll_5 : decode b_Blocks_copyAll 5 = .ok (.aload_n 0, 1) := by decide +kernel
theorem d_Blocks_copyAll_6 : decode b_Blocks_copyAll 6 = .ok (.getfield 9, 3) := by decide +kernel
theorem d_Blocks_copyAll_9 : decode b_Blocks_copyAll 9 = .ok (.iconst 0, 1) := by decide +kernel
theorem d_Blocks_copyAll_10 : decode b_Blocks_copyAll 10 = .ok (.sipush 8192, 3) := by decide +kernel
theorem d_Blocks_copyAll_13 : decode b_Blocks_copyAll 13 = .ok (.invokestatic 19, 3) := by decide +kernel
theorem d_Blocks_copyAll_16 : decode b_Blocks_copyAll 16 = .ok (.return_, 1) := by decide +kernel
theorem d_Blocks_copyBlock_0 : decode b_Blocks_copyBlock 0 = .ok (.iload_n 2, 1) := by decide +kernel
theorem d_Blocks_copyBlock_1 : decode b_Blocks_copyBlock 1 = .ok (.ifCond .lt 42, 3) := by decide +kernel
theorem d_Blocks_copyBlock_4 : decode b_Blocks_copyBlock 4 = .ok (.iload_n 2, 1) := by decide +kernel
theorem d_Blocks_copyBlock_5 : decode b_Blocks_copyBlock 5 = .ok (.sipush 128, 3) := by decide +kernel
theorem d_Blocks_copyBlock_8 : decode b_Blocks_copyBlock 8 = .ok (.if_icmp .ge 35, 3) := by decide +kernel
theorem d_Blocks_copyBlock_11 : decode b_Blocks_copyBlock 11 = .ok (.iload_n 3, 1) := by decide +kernel
theorem d_Blocks_copyBlock_12 : decode b_Blocks_copyBlock 12 = .ok (.ifCond .lt 31, 3) := by decide +kernel
theorem d_Blocks_copyBlock_15 : decode b_Blocks_copyBlock 15 = .ok (.iload_n 3, 1) := by decide +kernel
theorem d_Blocks_copyBlock_16 : decode b_Blocks_copyBlock 16 = .ok (.sipush 128, 3) := by decide +kernel
theorem d_Blocks_copyBlock_19 : decode b_Blocks_copyBlock 19 = .ok (.if_icmp .ge 24, 3) := by decide +kernel
theorem d_Blocks_copyBlock_22 : decode b_Blocks_copyBlock 22 = .ok (.aload_n 1, 1) := by decide +kernel
theorem d_Blocks_copyBlock_23 : decode b_Blocks_copyBlock 23 = .ok (.getfield 9, 3) := by decide +kernel
theorem d_Blocks_copyBlock_26 : decode b_Blocks_copyBlock 26 = .ok (.iload_n 2, 1) := by decide +kernel
theorem d_Blocks_copyBlock_27 : decode b_Blocks_copyBlock 27 = .ok (.bipush 64, 2) := by decide +kernel
theorem d_Blocks_copyBlock_29 : decode b_Blocks_copyBlock 29 = .ok (.imul, 1) := by decide +kernel
theorem d_Blocks_copyBlock_30 : decode b_Blocks_copyBlock 30 = .ok (.aload_n 0, 1) := by decide +kernel
theorem d_Blocks_copyBlock_31 : decode b_Blocks_copyBlock 31 = .ok (.getfield 9, 3) := by decide +kernel
theorem d_Blocks_copyBlock_34 : decode b_Blocks_copyBlock 34 = .ok (.iload_n 3, 1) := by decide +kernel
theorem d_Blocks_copyBlock_35 : decode b_Blocks_copyBlock 35 = .ok (.bipush 64, 2) := by decide +kernel
theorem d_Blocks_copyBlock_37 : decode b_Blocks_copyBlock 37 = .ok (.imul, 1) := by decide +kernel
theorem d_Blocks_copyBlock_38 : decode b_Blocks_copyBlock 38 = .ok (.bipush 64, 2) := by decide +kernel
theorem d_Blocks_copyBlock_40 : decode b_Blocks_copyBlock 40 = .ok (.invokestatic 19, 3) := by decide +kernel
theorem d_Blocks_copyBlock_43 : decode b_Blocks_copyBlock 43 = .ok (.return_, 1) := by decide +kernel
theorem d_Blocks_clear_0 : decode b_Blocks_clear 0 = .ok (.iconst 0, 1) := by decide +kernel
theorem d_Blocks_clear_1 : decode b_Blocks_clear 1 = .ok (.istore_n 2, 1) := by decide +kernel
theorem d_Blocks_clear_2 : decode b_Blocks_clear 2 = .ok (.iload_n 2, 1) := by decide +kernel
theorem d_Blocks_clear_3 : decode b_Blocks_clear 3 = .ok (.bipush 64, 2) := by decide +kernel
theorem d_Blocks_clear_5 : decode b_Blocks_clear 5 = .ok (.if_icmp .ge 16, 3) := by decide +kernel
theorem d_Blocks_clear_8 : decode b_Blocks_clear 8 = .ok (.aload_n 0, 1) := by decide +kernel
theorem d_Blocks_clear_9 : decode b_Blocks_clear 9 = .ok (.iload_n 1, 1) := by decide +kernel
theorem d_Blocks_clear_10 : decode b_Blocks_clear 10 = .ok (.iload_n 2, 1) := by decide +kernel
theorem d_Blocks_clear_11 : decode b_Blocks_clear 11 = .ok (.iconst 0, 1) := by decide +kernel
theorem d_Blocks_clear_12 : decode b_Blocks_clear 12 = .ok (.invokevirtual 15, 3) := by decide +kernel
theorem d_Blocks_clear_15 : decode b_Blocks_clear 15 = .ok (.iinc 2 1, 3) := by decide +kernel
theorem d_Blocks_clear_18 : decode b_Blocks_clear 18 = .ok (.goto (-16), 3) := by decide +kernel
theorem d_Blocks_clear_21 : decode b_Blocks_clear 21 = .ok (.return_, 1) := by decide +kernel
theorem d_Disk_init_0 : decode b_Disk_init 0 = .ok (.aload_n 0, 1) := by decide +kernel
theorem d_Disk_init_1 : decode b_Disk_init 1 = .ok (.invokespecial 3, 3) := by decide +kernel
theorem d_Disk_init_4 : decode b_Disk_init 4 = .ok (.aload_n 0, 1) := by decide +kernel
theorem d_Disk_init_5 : decode b_Disk_init 5 = .ok (.new 9, 3) := by decide +kernel
theorem d_Disk_init_8 : decode b_Disk_init 8 = .ok (.dup, 1) := by decide +kernel
theorem d_Disk_init_9 : decode b_Disk_init 9 = .ok (.invokespecial 11, 3) := by decide +kernel
theorem d_Disk_init_12 : decode b_Disk_init 12 = .ok (.putfield 12, 3) := by decide +kernel
theorem d_Disk_init_15 : decode b_Disk_init 15 = .ok (.aload_n 0, 1) := by decide +kernel
theorem d_Disk_init_16 : decode b_Disk_init 16 = .ok (.iconst 0, 1) := by decide +kernel
theorem d_Disk_init_17 : decode b_Disk_init 17 = .ok (.putfield 18, 3) := by decide +kernel
theorem d_Disk_init_20 : decode b_Disk_init 20 = .ok (.aload_n 0, 1) := by decide +kernel
theorem d_Disk_init_21 : decode b_Disk_init 21 = .ok (.iconst (-1), 1) := by decide +kernel
theorem d_Disk_init_22 : decode b_Disk_init 22 = .ok (.putfield 22, 3) := by decide +kernel
theorem d_Disk_init_25 : decode b_Disk_init 25 = .ok (.aload_n 0, 1) := by decide +kernel
theorem d_Disk_init_26 : decode b_Disk_init 26 = .ok (.iconst 0, 1) := by decide +kernel
theorem d_Disk_init_27 : decode b_Disk_init 27 = .ok (.putfield 25, 3) := by decide +kernel
theorem d_Disk_init_30 : decode b_Disk_init 30 = .ok (.aload_n 0, 1) := by decide +kernel
theorem d_Disk_init_31 : decode b_Disk_init 31 = .ok (.getfield 12, 3) := by decide +kernel
theorem d_Disk_init_34 : decode b_Disk_init 34 = .ok (.bipush 17, 2) := by decide +kernel
theorem d_Disk_init_36 : decode b_Disk_init 36 = .ok (.iconst 0, 1) := by decide +kernel
theorem d_Disk_init_37 : decode b_Disk_init 37 = .ok (.iconst 2, 1) := by decide +kernel
theorem d_Disk_init_38 : decode b_Disk_init 38 = .ok (.invokevirtual 29, 3) := by decide +kernel
theorem d_Disk_init_41 : decode b_Disk_init 41 = .ok (.aload_n 0, 1) := by decide +kernel
theorem d_Disk_init_42 : decode b_Disk_init 42 = .ok (.getfield 12, 3) := by decide +kernel
theorem d_Disk_init_45 : decode b_Disk_init 45 = .ok (.bipush 17, 2) := by decide +kernel
theorem d_Disk_init_47 : decode b_Disk_init 47 = .ok (.iconst 1, 1) := by decide +kernel
theorem d_Disk_init_48 : decode b_Disk_init 48 = .ok (.iconst 1, 1) := by decide +kernel
theorem d_Disk_init_49 : decode b_Disk_init 49 = .ok (.invokevirtual 29, 3) := by decide +kernel
theorem d_Disk_init_52 : decode b_Disk_init 52 = .ok (.iconst 0, 1) := by decide +kernel
theorem d_Disk_init_53 : decode b_Disk_init 53 = .ok (.istore_n 1, 1) := by decide +kernel
theorem d_Disk_init_54 : decode b_Disk_init 54 = .ok (.iload_n 1, 1) := by decide +kernel
theorem d_Disk_init_55 : decode b_Disk_init 55 = .ok (.bipush 26, 2) := by decide +kernel
theorem d_Disk_init_57 : decode b_Disk_init 57 = .ok (.if_icmp .ge 42, 3) := by decide +kernel
theorem d_Disk_init_60 : decode b_Disk_init 60 = .ok (.aload_n 0, 1) := by decide +kernel
theorem d_Disk_init_61 : decode b_Disk_init 61 = .ok (.getfield 12, 3) := by decide +kernel
theorem d_Disk_init_64 : decode b_Disk_init 64 = .ok (.bipush 25, 2) := by decide +kernel
theorem d_Disk_init_66 : decode b_Disk_init 66 = .ok (.iload_n 1, 1) := by decide +kernel
theorem d_Disk_init_67 : decode b_Disk_init 67 = .ok (.bipush 8, 2) := by decide +kernel
theorem d_Disk_init_69 : decode b_Disk_init 69 = .ok (.idiv, 1) := by decide +kernel
theorem d_Disk_init_70 : decode b_Disk_init 70 = .ok (.aload_n 0, 1) := by decide +kernel
theorem d_Disk_init_71 : decode b_Disk_init 71 = .ok (.getfield 12, 3) := by decide +kernel
theorem d_Disk_init_74 : decode b_Disk_init 74 = .ok (.bipush 25, 2) := by decide +kernel
theorem d_Disk_init_76 : decode b_Disk_init 76 = .ok (.iload_n 1, 1) := by decide +kernel
theorem d_Disk_init_77 : decode b_Disk_init 77 = .ok (.bipush 8, 2) := by decide +kernel
theorem d_Disk_init_79 : decode b_Disk_init 79 = .ok (.idiv, 1) := by decide +kernel
theorem d_Disk_init_80 : decode b_Disk_init 80 = .ok (.invokevirtual 33, 3) := by decide +kernel
theorem d_Disk_init_83 : decode b_Disk_init 83 = .ok (.iconst 1, 1) := by decide +kernel
theorem d_Disk_init_84 : decode b_Disk_init 84 = .ok (.iload_n 1, 1) := by decide +kernel
theorem d_Disk_init_85 : decode b_Disk_init 85 = .ok (.bipush 8, 2) := by decide +kernel
theorem d_Disk_init_87 : decode b_Disk_init 87 = .ok (.irem, 1) := by decide +kernel
theorem d_Disk_init_88 : decode b_Disk_init 88 = .ok (.ishl, 1) := by decide +kernel
theorem d_Disk_init_89 : decode b_Disk_init 89 = .ok (.ior, 1) := by decide +kernel
theorem d_Disk_init_90 : decode b_Disk_init 90 = .ok (.invokevirtual 29, 3) := by decide +kernel
theorem d_Disk_init_93 : decode b_Disk_init 93 = .ok (.iinc 1 1, 3) := by decide +kernel
theorem d_Disk_init_96 : decode b_Disk_init 96 = .ok (.goto (-42), 3) := by decide +kernel
theorem d_Disk_init_99 : decode b_Disk_init 99 = .ok (.return_, 1) := by decide +kernel
theorem d_Disk_storePending_0 : decode b_Disk_storePending 0 = .ok (.aload_n 0, 1) := by decide +kernel
theorem d_Disk_storePending_1 : decode b_Disk_storePending 1 = .ok (.aload_n 1, 1) := by decide +kernel
theorem d_Disk_storePending_2 : decode b_Disk_storePending 2 = .ok (.invokevirtual 37, 3) := by decide +kernel
theorem d_Disk_storePending_5 : decode b_Disk_storePending 5 = .ok (.ifCond .eq 30, 3) := by decide +kernel
theorem d_Disk_storePending_8 : decode b_Disk_storePending 8 = .ok (.aload_n 0, 1) := by decide +kernel
theorem d_Disk_storePending_9 : decode b_Disk_storePending 9 = .ok (.aload_n 1, 1) := by decide +kernel
theorem d_Disk_storePending_10 : decode b_Disk_storePending 10 = .ok (.invokevirtual 41, 3) := by decide +kernel
theorem d_Disk_storePending_13 : decode b_Disk_storePending 13 = .ok (.ifCond .eq 22, 3) := by decide +kernel
theorem d_Disk_storePending_16 : decode b_Disk_storePending 16 = .ok (.aload_n 0, 1) := by decide +kernel
theorem d_Disk_storePending_17 : decode b_Disk_storePending 17 = .ok (.aload_n 1, 1) := by decide +kernel
theorem d_Disk_storePending_18 : decode b_Disk_storePending 18 = .ok (.invokevirtual 44, 3) := by decide +kernel
theorem d_Disk_storePending_21 : decode b_Disk_storePending 21 = .ok (.ifCond .eq 14, 3) := by decide +kernel
theorem d_Disk_storePending_24 : decode b_Disk_storePending 24 = .ok (.aload_n 0, 1) := by decide +kernel
theorem d_Disk_storePending_25 : decode b_Disk_storePending 25 = .ok (.invokevirtual 47, 3) := by decide +kernel
theorem d_Disk_storePending_28 : decode b_Disk_storePending 28 = .ok (.ifCond .eq 7, 3) := by decide +kernel
theorem d_Disk_storePending_31 : decode b_Disk_storePending 31 = .ok (.iconst 1, 1) := by decide +kernel
theorem d_Disk_storePending_32 : decode b_Disk_storePending 32 = .ok (.goto 4, 3) := by decide +kernel
theorem d_Disk_storePending_35 : decode b_Disk_storePending 35 = .ok (.iconst 0, 1) := by decide +kernel
theorem d_Disk_storePending_36 : decode b_Disk_storePending 36 = .ok (.ireturn, 1) := by decide +kernel
theorem d_Disk_storeInLog_0 : decode b_Disk_storeInLog 0 = .ok (.iconst 0, 1) := by decide +kernel
theorem d_Disk_storeInLog_1 : decode b_Disk_storeInLog 1 = .ok (.istore_n 2, 1) := by decide +kernel
theorem d_Disk_storeInLog_2 : decode b_Disk_storeInLog 2 = .ok (.iload_n 2, 1) := by decide +kernel
theorem d_Disk_storeInLog_3 : decode b_Disk_storeInLog 3 = .ok (.aload_n 1, 1) := by decide +kernel
theorem d_Disk_storeInLog_4 : decode b_Disk_storeInLog 4 = .ok (.getfield 55, 3) := by decide +kernel
theorem d_Disk_storeInLog_7 : decode b_Disk_storeInLog 7 = .ok (.if_icmp .ge 30, 3) := by decide +kernel
theorem d_Disk_storeInLog_10 : decode b_Disk_storeInLog 10 = .ok (.aload_n 0, 1) := by decide +kernel
theorem d_Disk_storeInLog_11 : decode b_Disk_storeInLog 11 = .ok (.aload_n 1, 1) := by decide +kernel
theorem d_Disk_storeInLog_12 : decode b_Disk_storeInLog 12 = .ok (.getfield 60, 3) := by decide +kernel
theorem d_Disk_storeInLog_15 : decode b_Disk_storeInLog 15 = .ok (.aload_n 1, 1) := by decide +kernel
theorem d_Disk_storeInLog_16 : decode b_Disk_storeInLog 16 = .ok (.iload_n 2, 1) := by decide +kernel
theorem d_Disk_storeInLog_17 : decode b_Disk_storeInLog 17 = .ok (.invokevirtual 61, 3) := by decide +kernel
theorem d_Disk_storeInLog_20 : decode b_Disk_storeInLog 20 = .ok (.iconst 2, 1) := by decide +kernel
theorem d_Disk_storeInLog_21 : decode b_Disk_storeInLog 21 = .ok (.iload_n 2, 1) := by decide +kernel
theorem d_Disk_storeInLog_22 : decode b_Disk_storeInLog 22 = .ok (.iadd, 1) := by decide +kernel
theorem d_Disk_storeInLog_23 : decode b_Disk_storeInLog 23 = .ok (.invokevirtual 51, 3) := by decide +kernel
theorem d_Disk_storeInLog_26 : decode b_Disk_storeInLog 26 = .ok (.ifCond .ne 5, 3) := by decide +kernel
theorem d_Disk_storeInLog_29 : decode b_Disk_storeInLog 29 = .ok (.iconst 0, 1) := by decide +kernel
theorem d_Disk_storeInLog_30 : decode b_Disk_storeInLog 30 = .ok (.ireturn, 1) := by decide +kernel
theorem d_Disk_storeInLog_31 : decode b_Disk_storeInLog 31 = .ok (.iinc 2 1, 3) := by decide +kernel
theorem d_Disk_storeInLog_34 : decode b_Disk_storeInLog 34 = .ok (.goto (-32), 3) := by decide +kernel
theorem d_Disk_storeInLog_37 : decode b_Disk_storeInLog 37 = .ok (.iconst 1, 1) := by decide +kernel
theorem d_Disk_storeInLog_38 : decode b_Disk_storeInLog 38 = .ok (.ireturn, 1) := by decide +kernel
theorem d_Disk_storeBlock_0 : decode b_Disk_storeBlock 0 = .ok (.aload_n 0, 1) := by decide +kernel
theorem d_Disk_storeBlock_1 : decode b_Disk_storeBlock 1 = .ok (.invokevirtual 65, 3) := by decide +kernel
theorem d_Disk_storeBlock_4 : decode b_Disk_storeBlock 4 = .ok (.ifCond .ne 5, 3) := by decide +kernel
theorem d_Disk_storeBlock_7 : decode b_Disk_storeBlock 7 = .ok (.iconst 0, 1) := by decide +kernel
theorem d_Disk_storeBlock_8 : decode b_Disk_storeBlock 8 = .ok (.ireturn, 1) := by decide +kernel
theorem d_Disk_storeBlock_9 : decode b_Disk_storeBlock 9 = .ok (.aload_n 0, 1) := by decide +kernel
theorem d_Disk_storeBlock_10 : decode b_Disk_storeBlock 10 = .ok (.getfield 12, 3) := by decide +kernel
theorem d_Disk_storeBlock_13 : decode b_Disk_storeBlock 13 = .ok (.aload_n 1, 1) := by decide +kernel
theorem d_Disk_storeBlock_14 : decode b_Disk_storeBlock 14 = .ok (.iload_n 2, 1) := by decide +kernel
theorem d_Disk_storeBlock_15 : decode b_Disk_storeBlock 15 = .ok (.iload_n 3, 1) := by decide +kernel
theorem d_Disk_storeBlock_16 : decode b_Disk_storeBlock 16 = .ok (.invokevirtual 72, 3) := by decide +kernel
theorem d_Disk_storeBlock_19 : decode b_Disk_storeBlock 19 = .ok (.iconst 1, 1) := by decide +kernel
theorem d_Disk_storeBlock_20 : decode b_Disk_storeBlock 20 = .ok (.ireturn, 1) := by decide +kernel
theorem d_Disk_spendWrite_0 : decode b_Disk_spendWrite 0 = .ok (.aload_n 0, 1) := by decide +kernel
theorem d_Disk_spendWrite_1 : decode b_Disk_spendWrite 1 = .ok (.getfield 22, 3) := by decide +kernel
theorem d_Disk_spendWrite_4 : decode b_Disk_spendWrite 4 = .ok (.ifCond .ne 15, 3) := by decide +kernel
theorem d_Disk_spendWrite_7 : decode b_Disk_spendWrite 7 = .ok (.aload_n 0, 1) := by decide +kernel
theorem d_Disk_spendWrite_8 : decode b_Disk_spendWrite 8 = .ok (.iconst (-1), 1) := by decide +kernel
theorem d_Disk_spendWrite_9 : decode b_Disk_spendWrite 9 = .ok (.putfield 22, 3) := by decide +kernel
theorem d_Disk_spendWrite_12 : decode b_Disk_spendWrite 12 = .ok (.aload_n 0, 1) := by decide +kernel
theorem d_Disk_spendWrite_13 : decode b_Disk_spendWrite 13 = .ok (.iconst 1, 1) := by decide +kernel
theorem d_Disk_spendWrite_14 : decode b_Disk_spendWrite 14 = .ok (.putfield 25, 3) := by decide +kernel
theorem d_Disk_spendWrite_17 : decode b_Disk_spendWrite 17 = .ok (.iconst 0, 1) := by decide +kernel
theorem d_Disk_spendWrite_18 : decode b_Disk_spendWrite 18 = .ok (.ireturn, 1) := by decide +kernel
theorem d_Disk_spendWrite_19 : decode b_Disk_spendWrite 19 = .ok (.aload_n 0, 1) := by decide +kernel
theorem d_Disk_spendWrite_20 : decode b_Disk_spendWrite 20 = .ok (.getfield 22, 3) := by decide +kernel
theorem d_Disk_spendWrite_23 : decode b_Disk_spendWrite 23 = .ok (.ifCond .le 13, 3) := by decide +kernel
theorem d_Disk_spendWrite_26 : decode b_Disk_spendWrite 26 = .ok (.aload_n 0, 1) := by decide +kernel
theorem d_Disk_spendWrite_27 : decode b_Disk_spendWrite 27 = .ok (.dup, 1) := by decide +kernel
theorem d_Disk_spendWrite_28 : decode b_Disk_spendWrite 28 = .ok (.getfield 22, 3) := by decide +kernel
theorem d_Disk_spendWrite_31 : decode b_Disk_spendWrite 31 = .ok (.iconst 1, 1) := by decide +kernel
theorem d_Disk_spendWrite_32 : decode b_Disk_spendWrite 32 = .ok (.isub, 1) := by decide +kernel
theorem d_Disk_spendWrite_33 : decode b_Disk_spendWrite 33 = .ok (.putfield 22, 3) := by decide +kernel
theorem d_Disk_spendWrite_36 : decode b_Disk_spendWrite 36 = .ok (.aload_n 0, 1) := by decide +kernel
theorem d_Disk_spendWrite_37 : decode b_Disk_spendWrite 37 = .ok (.dup, 1) := by decide +kernel
theorem d_Disk_spendWrite_38 : decode b_Disk_spendWrite 38 = .ok (.getfield 18, 3) := by decide +kernel
theorem d_Disk_spendWrite_41 : decode b_Disk_spendWrite 41 = .ok (.iconst 1, 1) := by decide +kernel
theorem d_Disk_spendWrite_42 : decode b_Disk_spendWrite 42 = .ok (.iadd, 1) := by decide +kernel
theorem d_Disk_spendWrite_43 : decode b_Disk_spendWrite 43 = .ok (.putfield 18, 3) := by decide +kernel
theorem d_Disk_spendWrite_46 : decode b_Disk_spendWrite 46 = .ok (.iconst 1, 1) := by decide +kernel
theorem d_Disk_spendWrite_47 : decode b_Disk_spendWrite 47 = .ok (.ireturn, 1) := by decide +kernel
theorem d_Disk_storeHead_0 : decode b_Disk_storeHead 0 = .ok (.aload_n 0, 1) := by decide +kernel
theorem d_Disk_storeHead_1 : decode b_Disk_storeHead 1 = .ok (.invokevirtual 65, 3) := by decide +kernel
theorem d_Disk_storeHead_4 : decode b_Disk_storeHead 4 = .ok (.ifCond .ne 5, 3) := by decide +kernel
theorem d_Disk_storeHead_7 : decode b_Disk_storeHead 7 = .ok (.iconst 0, 1) := by decide +kernel
theorem d_Disk_storeHead_8 : decode b_Disk_storeHead 8 = .ok (.ireturn, 1) := by decide +kernel
theorem d_Disk_storeHead_9 : decode b_Disk_storeHead 9 = .ok (.aload_n 0, 1) := by decide +kernel
theorem d_Disk_storeHead_10 : decode b_Disk_storeHead 10 = .ok (.getfield 12, 3) := by decide +kernel
theorem d_Disk_storeHead_13 : decode b_Disk_storeHead 13 = .ok (.iconst 1, 1) := by decide +kernel
theorem d_Disk_storeHead_14 : decode b_Disk_storeHead 14 = .ok (.invokevirtual 68, 3) := by decide +kernel
theorem d_Disk_storeHead_17 : decode b_Disk_storeHead 17 = .ok (.aload_n 0, 1) := by decide +kernel
theorem d_Disk_storeHead_18 : decode b_Disk_storeHead 18 = .ok (.getfield 12, 3) := by decide +kernel
theorem d_Disk_storeHead_21 : decode b_Disk_storeHead 21 = .ok (.iconst 1, 1) := by decide +kernel
theorem d_Disk_storeHead_22 : decode b_Disk_storeHead 22 = .ok (.iconst 0, 1) := by decide +kernel
theorem d_Disk_storeHead_23 : decode b_Disk_storeHead 23 = .ok (.aload_n 1, 1) := by decide +kernel
theorem d_Disk_storeHead_24 : decode b_Disk_storeHead 24 = .ok (.getfield 55, 3) := by decide +kernel
theorem d_Disk_storeHead_27 : decode b_Disk_storeHead 27 = .ok (.invokevirtual 29, 3) := by decide +kernel
theorem d_Disk_storeHead_30 : decode b_Disk_storeHead 30 = .ok (.iconst 0, 1) := by decide +kernel
theorem d_Disk_storeHead_31 : decode b_Disk_storeHead 31 = .ok (.istore_n 2, 1) := by decide +kernel
theorem d_Disk_storeHead_32 : decode b_Disk_storeHead 32 = .ok (.iload_n 2, 1) := by decide +kernel
theorem d_Disk_storeHead_33 : decode b_Disk_storeHead 33 = .ok (.aload_n 1, 1) := by decide +kernel
theorem d_Disk_storeHead_34 : decode b_Disk_storeHead 34 = .ok (.getfield 55, 3) := by decide +kernel
theorem d_Disk_storeHead_37 : decode b_Disk_storeHead 37 = .ok (.if_icmp .ge 25, 3) := by decide +kernel
theorem d_Disk_storeHead_40 : decode b_Disk_storeHead 40 = .ok (.aload_n 0, 1) := by decide +kernel
theorem d_Disk_storeHead_41 : decode b_Disk_storeHead 41 = .ok (.getfield 12, 3) := by decide +kernel
theorem d_Disk_storeHead_44 : decode b_Disk_storeHead 44 = .ok (.iconst 1, 1) := by decide +kernel
theorem d_Disk_storeHead_45 : decode b_Disk_storeHead 45 = .ok (.iconst 1, 1) := by decide +kernel
theorem d_Disk_storeHead_46 : decode b_Disk_storeHead 46 = .ok (.iload_n 2, 1) := by decide +kernel
theorem d_Disk_storeHead_47 : decode b_Disk_storeHead 47 = .ok (.iadd, 1) := by decide +kernel
theorem d_Disk_storeHead_48 : decode b_Disk_storeHead 48 = .ok (.aload_n 1, 1) := by decide +kernel
theorem d_Disk_storeHead_49 : decode b_Disk_storeHead 49 = .ok (.iload_n 2, 1) := by decide +kernel
theorem d_Disk_storeHead_50 : decode b_Disk_storeHead 50 = .ok (.invokevirtual 61, 3) := by decide +kernel
theorem d_Disk_storeHead_53 : decode b_Disk_storeHead 53 = .ok (.invokevirtual 29, 3) := by decide +kernel
theorem d_Disk_storeHead_56 : decode b_Disk_storeHead 56 = .ok (.iinc 2 1, 3) := by decide +kernel
theorem d_Disk_storeHead_59 : decode b_Disk_storeHead 59 = .ok (.goto (-27), 3) := by decide +kernel
theorem d_Disk_storeHead_62 : decode b_Disk_storeHead 62 = .ok (.iconst 1, 1) := by decide +kernel
theorem d_Disk_storeHead_63 : decode b_Disk_storeHead 63 = .ok (.ireturn, 1) := by decide +kernel
theorem d_Disk_storeInPlace_0 : decode b_Disk_storeInPlace 0 = .ok (.iconst 0, 1) := by decide +kernel
theorem d_Disk_storeInPlace_1 : decode b_Disk_storeInPlace 1 = .ok (.istore_n 2, 1) := by decide +kernel
theorem d_Disk_storeInPlace_2 : decode b_Disk_storeInPlace 2 = .ok (.iload_n 2, 1) := by decide +kernel
theorem d_Disk_storeInPlace_3 : decode b_Disk_storeInPlace 3 = .ok (.aload_n 1, 1) := by decide +kernel
theorem d_Disk_storeInPlace_4 : decode b_Disk_storeInPlace 4 = .ok (.getfield 55, 3) := by decide +kernel
theorem d_Disk_storeInPlace_7 : decode b_Disk_storeInPlace 7 = .ok (.if_icmp .ge 32, 3) := by decide +kernel
theorem d_Disk_storeInPlace_10 : decode b_Disk_storeInPlace 10 = .ok (.aload_n 0, 1) := by decide +kernel
theorem d_Disk_storeInPlace_11 : decode b_Disk_storeInPlace 11 = .ok (.aload_n 1, 1) := by decide +kernel
theorem d_Disk_storeInPlace_12 : decode b_Disk_storeInPlace 12 = .ok (.getfield 60, 3) := by decide +kernel
theorem d_Disk_storeInPlace_15 : decode b_Disk_storeInPlace 15 = .ok (.aload_n 1, 1) := by decide +kernel
theorem d_Disk_storeInPlace_16 : decode b_Disk_storeInPlace 16 = .ok (.iload_n 2, 1) := by decide +kernel
theorem d_Disk_storeInPlace_17 : decode b_Disk_storeInPlace 17 = .ok (.invokevirtual 61, 3) := by decide +kernel
theorem d_Disk_storeInPlace_20 : decode b_Disk_storeInPlace 20 = .ok (.aload_n 1, 1) := by decide +kernel
theorem d_Disk_storeInPlace_21 : decode b_Disk_storeInPlace 21 = .ok (.iload_n 2, 1) := by decide +kernel
theorem d_Disk_storeInPlace_22 : decode b_Disk_storeInPlace 22 = .ok (.invokevirtual 61, 3) := by decide +kernel
theorem d_Disk_storeInPlace_25 : decode b_Disk_storeInPlace 25 = .ok (.invokevirtual 51, 3) := by decide +kernel
theorem d_Disk_storeInPlace_28 : decode b_Disk_storeInPlace 28 = .ok (.ifCond .ne 5, 3) := by decide +kernel
theorem d_Disk_storeInPlace_31 : decode b_Disk_storeInPlace 31 = .ok (.iconst 0, 1) := by decide +kernel
theorem d_Disk_storeInPlace_32 : decode b_Disk_storeInPlace 32 = .ok (.ireturn, 1) := by decide +kernel
theorem d_Disk_storeInPlace_33 : decode b_Disk_storeInPlace 33 = .ok (.iinc 2 1, 3) := by decide +kernel
theorem d_Disk_storeInPlace_36 : decode b_Disk_storeInPlace 36 = .ok (.goto (-34), 3) := by decide +kernel
theorem d_Disk_storeInPlace_39 : decode b_Disk_storeInPlace 39 = .ok (.iconst 1, 1) := by decide +kernel
theorem d_Disk_storeInPlace_40 : decode b_Disk_storeInPlace 40 = .ok (.ireturn, 1) := by decide +kernel
theorem d_Disk_clearHead_0 : decode b_Disk_clearHead 0 = .ok (.aload_n 0, 1) := by decide +kernel
theorem d_Disk_clearHead_1 : decode b_Disk_clearHead 1 = .ok (.invokevirtual 65, 3) := by decide +kernel
theorem d_Disk_clearHead_4 : decode b_Disk_clearHead 4 = .ok (.ifCond .ne 5, 3) := by decide +kernel
theorem d_Disk_clearHead_7 : decode b_Disk_clearHead 7 = .ok (.iconst 0, 1) := by decide +kernel
theorem d_Disk_clearHead_8 : decode b_Disk_clearHead 8 = .ok (.ireturn, 1) := by decide +kernel
theorem d_Disk_clearHead_9 : decode b_Disk_clearHead 9 = .ok (.aload_n 0, 1) := by decide +kernel
theorem d_Disk_clearHead_10 : decode b_Disk_clearHead 10 = .ok (.getfield 12, 3) := by decide +kernel
theorem d_Disk_clearHead_13 : decode b_Disk_clearHead 13 = .ok (.iconst 1, 1) := by decide +kernel
theorem d_Disk_clearHead_14 : decode b_Disk_clearHead 14 = .ok (.invokevirtual 68, 3) := by decide +kernel
theorem d_Disk_clearHead_17 : decode b_Disk_clearHead 17 = .ok (.iconst 1, 1) := by decide +kernel
theorem d_Disk_clearHead_18 : decode b_Disk_clearHead 18 = .ok (.ireturn, 1) := by decide +kernel
theorem d_Disk_replayLog_0 : decode b_Disk_replayLog 0 = .ok (.iconst 0, 1) := by decide +kernel
theorem d_Disk_replayLog_1 : decode b_Disk_replayLog 1 = .ok (.istore_n 2, 1) := by decide +kernel
theorem d_Disk_replayLog_2 : decode b_Disk_replayLog 2 = .ok (.iload_n 2, 1) := by decide +kernel
theorem d_Disk_replayLog_3 : decode b_Disk_replayLog 3 = .ok (.iload_n 1, 1) := by decide +kernel
theorem d_Disk_replayLog_4 : decode b_Disk_replayLog 4 = .ok (.if_icmp .ge 36, 3) := by decide +kernel
theorem d_Disk_replayLog_7 : decode b_Disk_replayLog 7 = .ok (.aload_n 0, 1) := by decide +kernel
theorem d_Disk_replayLog_8 : decode b_Disk_replayLog 8 = .ok (.aload_n 0, 1) := by decide +kernel
theorem d_Disk_replayLog_9 : decode b_Disk_replayLog 9 = .ok (.getfield 12, 3) := by decide +kernel
theorem d_Disk_replayLog_12 : decode b_Disk_replayLog 12 = .ok (.iconst 2, 1) := by decide +kernel
theorem d_Disk_replayLog_13 : decode b_Disk_replayLog 13 = .ok (.iload_n 2, 1) := by decide +kernel
theorem d_Disk_replayLog_14 : decode b_Disk_replayLog 14 = .ok (.iadd, 1) := by decide +kernel
theorem d_Disk_replayLog_15 : decode b_Disk_replayLog 15 = .ok (.aload_n 0, 1) := by decide +kernel
theorem d_Disk_replayLog_16 : decode b_Disk_replayLog 16 = .ok (.getfield 12, 3) := by decide +kernel
theorem d_Disk_replayLog_19 : decode b_Disk_replayLog 19 = .ok (.iconst 1, 1) := by decide +kernel
theorem d_Disk_replayLog_20 : decode b_Disk_replayLog 20 = .ok (.iconst 1, 1) := by decide +kernel
theorem d_Disk_replayLog_21 : decode b_Disk_replayLog 21 = .ok (.iload_n 2, 1) := by decide +kernel
theorem d_Disk_replayLog_22 : decode b_Disk_replayLog 22 = .ok (.iadd, 1) := by decide +kernel
theorem d_Disk_replayLog_23 : decode b_Disk_replayLog 23 = .ok (.invokevirtual 33, 3) := by decide +kernel
theorem d_Disk_replayLog_26 : decode b_Disk_replayLog 26 = .ok (.invokevirtual 51, 3) := by decide +kernel
theorem d_Disk_replayLog_29 : decode b_Disk_replayLog 29 = .ok (.ifCond .ne 5, 3) := by decide +kernel
theorem d_Disk_replayLog_32 : decode b_Disk_replayLog 32 = .ok (.iconst 0, 1) := by decide +kernel
theorem d_Disk_replayLog_33 : decode b_Disk_replayLog 33 = .ok (.ireturn, 1) := by decide +kernel
theorem d_Disk_replayLog_34 : decode b_Disk_replayLog 34 = .ok (.iinc 2 1, 3) := by decide +kernel
theorem d_Disk_replayLog_37 : decode b_Disk_replayLog 37 = .ok (.goto (-35), 3) := by decide +kernel
theorem d_Disk_replayLog_40 : decode b_Disk_replayLog 40 = .ok (.aload_n 0, 1) := by decide +kernel
theorem d_Disk_replayLog_41 : decode b_Disk_replayLog 41 = .ok (.invokevirtual 47, 3) := by decide +kernel
theorem d_Disk_replayLog_44 : decode b_Disk_replayLog 44 = .ok (.ireturn, 1) := by decide +kernel
theorem d_Memory_init_0 : decode b_Memory_init 0 = .ok (.aload_n 0, 1) := by decide +kernel
theorem d_Memory_init_1 : decode b_Memory_init 1 = .ok (.invokespecial 3, 3) := by decide +kernel
theorem d_Memory_init_4 : decode b_Memory_init 4 = .ok (.aload_n 0, 1) := by decide +kernel
theorem d_Memory_init_5 : decode b_Memory_init 5 = .ok (.new 9, 3) := by decide +kernel
theorem d_Memory_init_8 : decode b_Memory_init 8 = .ok (.dup, 1) := by decide +kernel
theorem d_Memory_init_9 : decode b_Memory_init 9 = .ok (.invokespecial 11, 3) := by decide +kernel
theorem d_Memory_init_12 : decode b_Memory_init 12 = .ok (.putfield 12, 3) := by decide +kernel
theorem d_Memory_init_15 : decode b_Memory_init 15 = .ok (.aload_n 0, 1) := by decide +kernel
theorem d_Memory_init_16 : decode b_Memory_init 16 = .ok (.bipush 15, 2) := by decide +kernel
theorem d_Memory_init_18 : decode b_Memory_init 18 = .ok (.newarray .int, 2) := by decide +kernel
theorem d_Memory_init_20 : decode b_Memory_init 20 = .ok (.putfield 18, 3) := by decide +kernel
theorem d_Memory_init_23 : decode b_Memory_init 23 = .ok (.aload_n 0, 1) := by decide +kernel
theorem d_Memory_init_24 : decode b_Memory_init 24 = .ok (.iconst 0, 1) := by decide +kernel
theorem d_Memory_init_25 : decode b_Memory_init 25 = .ok (.putfield 22, 3) := by decide +kernel
theorem d_Memory_init_28 : decode b_Memory_init 28 = .ok (.return_, 1) := by decide +kernel
theorem d_Memory_load_0 : decode b_Memory_load 0 = .ok (.aload_n 0, 1) := by decide +kernel
theorem d_Memory_load_1 : decode b_Memory_load 1 = .ok (.getfield 12, 3) := by decide +kernel
theorem d_Memory_load_4 : decode b_Memory_load 4 = .ok (.aload_n 1, 1) := by decide +kernel
theorem d_Memory_load_5 : decode b_Memory_load 5 = .ok (.invokevirtual 26, 3) := by decide +kernel
theorem d_Memory_load_8 : decode b_Memory_load 8 = .ok (.aload_n 0, 1) := by decide +kernel
theorem d_Memory_load_9 : decode b_Memory_load 9 = .ok (.invokevirtual 30, 3) := by decide +kernel
theorem d_Memory_load_12 : decode b_Memory_load 12 = .ok (.return_, 1) := by decide +kernel
theorem d_Memory_forgetPending_0 : decode b_Memory_forgetPending 0 = .ok (.aload_n 0, 1) := by decide +kernel
theorem d_Memory_forgetPending_1 : decode b_Memory_forgetPending 1 = .ok (.iconst 0, 1) := by decide +kernel
theorem d_Memory_forgetPending_2 : decode b_Memory_forgetPending 2 = .ok (.putfield 22, 3) := by decide +kernel
theorem d_Memory_forgetPending_5 : decode b_Memory_forgetPending 5 = .ok (.return_, 1) := by decide +kernel
theorem d_Memory_pendingAt_0 : decode b_Memory_pendingAt 0 = .ok (.iload_n 1, 1) := by decide +kernel
theorem d_Memory_pendingAt_1 : decode b_Memory_pendingAt 1 = .ok (.ifCond .lt 20, 3) := by decide +kernel
theorem d_Memory_pendingAt_4 : decode b_Memory_pendingAt 4 = .ok (.iload_n 1, 1) := by decide +kernel
theorem d_Memory_pendingAt_5 : decode b_Memory_pendingAt 5 = .ok (.aload_n 0, 1) := by decide +kernel
theorem d_Memory_pendingAt_6 : decode b_Memory_pendingAt 6 = .ok (.getfield 22, 3) := by decide +kernel
theorem d_Memory_pendingAt_9 : decode b_Memory_pendingAt 9 = .ok (.if_icmp .ge 12, 3) := by decide +kernel
theorem d_Memory_pendingAt_12 : decode b_Memory_pendingAt 12 = .ok (.aload_n 0, 1) := by decide +kernel
theorem d_Memory_pendingAt_13 : decode b_Memory_pendingAt 13 = .ok (.getfield 18, 3) := by decide +kernel
theorem d_Memory_pendingAt_16 : decode b_Memory_pendingAt 16 = .ok (.iload_n 1, 1) := by decide +kernel
theorem d_Memory_pendingAt_17 : decode b_Memory_pendingAt 17 = .ok (.iaload, 1) := by decide +kernel
theorem d_Memory_pendingAt_18 : decode b_Memory_pendingAt 18 = .ok (.goto 4, 3) := by decide +kernel
theorem d_Memory_pendingAt_21 : decode b_Memory_pendingAt 21 = .ok (.iconst (-1), 1) := by decide +kernel
theorem d_Memory_pendingAt_22 : decode b_Memory_pendingAt 22 = .ok (.ireturn, 1) := by decide +kernel
theorem d_Memory_change_0 : decode b_Memory_change 0 = .ok (.aload_n 0, 1) := by decide +kernel
theorem d_Memory_change_1 : decode b_Memory_change 1 = .ok (.iload_n 1, 1) := by decide +kernel
theorem d_Memory_change_2 : decode b_Memory_change 2 = .ok (.invokevirtual 33, 3) := by decide +kernel
theorem d_Memory_change_5 : decode b_Memory_change 5 = .ok (.aload_n 0, 1) := by decide +kernel
theorem d_Memory_change_6 : decode b_Memory_change 6 = .ok (.getfield 12, 3) := by decide +kernel
theorem d_Memory_change_9 : decode b_Memory_change 9 = .ok (.iload_n 1, 1) := by decide +kernel
theorem d_Memory_change_10 : decode b_Memory_change 10 = .ok (.iload_n 2, 1) := by decide +kernel
theorem d_Memory_change_11 : decode b_Memory_change 11 = .ok (.iload_n 3, 1) := by decide +kernel
theorem d_Memory_change_12 : decode b_Memory_change 12 = .ok (.invokevirtual 37, 3) := by decide +kernel
theorem d_Memory_change_15 : decode b_Memory_change 15 = .ok (.return_, 1) := by decide +kernel
theorem d_Memory_markPending_0 : decode b_Memory_markPending 0 = .ok (.iconst 0, 1) := by decide +kernel
theorem d_Memory_markPending_1 : decode b_Memory_markPending 1 = .ok (.istore_n 2, 1) := by decide +kernel
theorem d_Memory_markPending_2 : decode b_Memory_markPending 2 = .ok (.iload_n 2, 1) := by decide +kernel
theorem d_Memory_markPending_3 : decode b_Memory_markPending 3 = .ok (.aload_n 0, 1) := by decide +kernel
theorem d_Memory_markPending_4 : decode b_Memory_markPending 4 = .ok (.getfield 22, 3) := by decide +kernel
theorem d_Memory_markPending_7 : decode b_Memory_markPending 7 = .ok (.if_icmp .ge 20, 3) := by decide +kernel
theorem d_Memory_markPending_10 : decode b_Memory_markPending 10 = .ok (.aload_n 0, 1) := by decide +kernel
theorem d_Memory_markPending_11 : decode b_Memory_markPending 11 = .ok (.getfield 18, 3) := by decide +kernel
theorem d_Memory_markPending_14 : decode b_Memory_markPending 14 = .ok (.iload_n 2, 1) := by decide +kernel
theorem d_Memory_markPending_15 : decode b_Memory_markPending 15 = .ok (.iaload, 1) := by decide +kernel
theorem d_Memory_markPending_16 : decode b_Memory_markPending 16 = .ok (.iload_n 1, 1) := by decide +kernel
theorem d_Memory_markPending_17 : decode b_Memory_markPending 17 = .ok (.if_icmp .ne 4, 3) := by decide +kernel
theorem d_Memory_markPending_20 : decode b_Memory_markPending 20 = .ok (.return_, 1) := by decide +kernel
theorem d_Memory_markPending_21 : decode b_Memory_markPending 21 = .ok (.iinc 2 1, 3) := by decide +kernel
theorem d_Memory_markPending_24 : decode b_Memory_markPending 24 = .ok (.goto (-22), 3) := by decide +kernel
theorem d_Memory_markPending_27 : decode b_Memory_markPending 27 = .ok (.aload_n 0, 1) := by decide +kernel
theorem d_Memory_markPending_28 : decode b_Memory_markPending 28 = .ok (.getfield 22, 3) := by decide +kernel
theorem d_Memory_markPending_31 : decode b_Memory_markPending 31 = .ok (.bipush 15, 2) := by decide +kernel
theorem d_Memory_markPending_33 : decode b_Memory_markPending 33 = .ok (.if_icmp .ge 23, 3) := by decide +kernel
theorem d_Memory_markPending_36 : decode b_Memory_markPending 36 = .ok (.aload_n 0, 1) := by decide +kernel
theorem d_Memory_markPending_37 : decode b_Memory_markPending 37 = .ok (.getfield 18, 3) := by decide +kernel
theorem d_Memory_markPending_40 : decode b_Memory_markPending 40 = .ok (.aload_n 0, 1) := by decide +kernel
theorem d_Memory_markPending_41 : decode b_Memory_markPending 41 = .ok (.getfield 22, 3) := by decide +kernel
theorem d_Memory_markPending_44 : decode b_Memory_markPending 44 = .ok (.iload_n 1, 1) := by decide +kernel
theorem d_Memory_markPending_45 : decode b_Memory_markPending 45 = .ok (.iastore, 1) := by decide +kernel
theorem d_Memory_markPending_46 : decode b_Memory_markPending 46 = .ok (.aload_n 0, 1) := by decide +kernel
theorem d_Memory_markPending_47 : decode b_Memory_markPending 47 = .ok (.dup, 1) := by decide +kernel
theorem d_Memory_markPending_48 : decode b_Memory_markPending 48 = .ok (.getfield 22, 3) := by decide +kernel
theorem d_Memory_markPending_51 : decode b_Memory_markPending 51 = .ok (.iconst 1, 1) := by decide +kernel
theorem d_Memory_markPending_52 : decode b_Memory_markPending 52 = .ok (.iadd, 1) := by decide +kernel
theorem d_Memory_markPending_53 : decode b_Memory_markPending 53 = .ok (.putfield 22, 3) := by decide +kernel
theorem d_Memory_markPending_56 : decode b_Memory_markPending 56 = .ok (.return_, 1) := by decide +kernel
theorem d_Memory_clear_0 : decode b_Memory_clear 0 = .ok (.aload_n 0, 1) := by decide +kernel
theorem d_Memory_clear_1 : decode b_Memory_clear 1 = .ok (.iload_n 1, 1) := by decide +kernel
theorem d_Memory_clear_2 : decode b_Memory_clear 2 = .ok (.invokevirtual 33, 3) := by decide +kernel
theorem d_Memory_clear_5 : decode b_Memory_clear 5 = .ok (.aload_n 0, 1) := by decide +kernel
theorem d_Memory_clear_6 : decode b_Memory_clear 6 = .ok (.getfield 12, 3) := by decide +kernel
theorem d_Memory_clear_9 : decode b_Memory_clear 9 = .ok (.iload_n 1, 1) := by decide +kernel
theorem d_Memory_clear_10 : decode b_Memory_clear 10 = .ok (.invokevirtual 41, 3) := by decide +kernel
theorem d_Memory_clear_13 : decode b_Memory_clear 13 = .ok (.return_, 1) := by decide +kernel
theorem d_Integer_bitCount_0 : decode b_Integer_bitCount 0 = .ok (.iload_n 0, 1) := by decide +kernel
theorem d_Integer_bitCount_1 : decode b_Integer_bitCount 1 = .ok (.iload_n 0, 1) := by decide +kernel
theorem d_Integer_bitCount_2 : decode b_Integer_bitCount 2 = .ok (.iconst 1, 1) := by decide +kernel
theorem d_Integer_bitCount_3 : decode b_Integer_bitCount 3 = .ok (.iushr, 1) := by decide +kernel
theorem d_Integer_bitCount_4 : decode b_Integer_bitCount 4 = .ok (.ldc_w 265, 3) := by decide +kernel
theorem d_Integer_bitCount_7 : decode b_Integer_bitCount 7 = .ok (.iand, 1) := by decide +kernel
theorem d_Integer_bitCount_8 : decode b_Integer_bitCount 8 = .ok (.isub, 1) := by decide +kernel
theorem d_Integer_bitCount_9 : decode b_Integer_bitCount 9 = .ok (.istore_n 0, 1) := by decide +kernel
theorem d_Integer_bitCount_10 : decode b_Integer_bitCount 10 = .ok (.iload_n 0, 1) := by decide +kernel
theorem d_Integer_bitCount_11 : decode b_Integer_bitCount 11 = .ok (.ldc_w 266, 3) := by decide +kernel
theorem d_Integer_bitCount_14 : decode b_Integer_bitCount 14 = .ok (.iand, 1) := by decide +kernel
theorem d_Integer_bitCount_15 : decode b_Integer_bitCount 15 = .ok (.iload_n 0, 1) := by decide +kernel
theorem d_Integer_bitCount_16 : decode b_Integer_bitCount 16 = .ok (.iconst 2, 1) := by decide +kernel
theorem d_Integer_bitCount_17 : decode b_Integer_bitCount 17 = .ok (.iushr, 1) := by decide +kernel
theorem d_Integer_bitCount_18 : decode b_Integer_bitCount 18 = .ok (.ldc_w 266, 3) := by decide +kernel
theorem d_Integer_bitCount_21 : decode b_Integer_bitCount 21 = .ok (.iand, 1) := by decide +kernel
theorem d_Integer_bitCount_22 : decode b_Integer_bitCount 22 = .ok (.iadd, 1) := by decide +kernel
theorem d_Integer_bitCount_23 : decode b_Integer_bitCount 23 = .ok (.istore_n 0, 1) := by decide +kernel
theorem d_Integer_bitCount_24 : decode b_Integer_bitCount 24 = .ok (.iload_n 0, 1) := by decide +kernel
theorem d_Integer_bitCount_25 : decode b_Integer_bitCount 25 = .ok (.iload_n 0, 1) := by decide +kernel
theorem d_Integer_bitCount_26 : decode b_Integer_bitCount 26 = .ok (.iconst 4, 1) := by decide +kernel
theorem d_Integer_bitCount_27 : decode b_Integer_bitCount 27 = .ok (.iushr, 1) := by decide +kernel
theorem d_Integer_bitCount_28 : decode b_Integer_bitCount 28 = .ok (.iadd, 1) := by decide +kernel
theorem d_Integer_bitCount_29 : decode b_Integer_bitCount 29 = .ok (.ldc_w 267, 3) := by decide +kernel
theorem d_Integer_bitCount_32 : decode b_Integer_bitCount 32 = .ok (.iand, 1) := by decide +kernel
theorem d_Integer_bitCount_33 : decode b_Integer_bitCount 33 = .ok (.istore_n 0, 1) := by decide +kernel
theorem d_Integer_bitCount_34 : decode b_Integer_bitCount 34 = .ok (.iload_n 0, 1) := by decide +kernel
theorem d_Integer_bitCount_35 : decode b_Integer_bitCount 35 = .ok (.iload_n 0, 1) := by decide +kernel
theorem d_Integer_bitCount_36 : decode b_Integer_bitCount 36 = .ok (.bipush 8, 2) := by decide +kernel
theorem d_Integer_bitCount_38 : decode b_Integer_bitCount 38 = .ok (.iushr, 1) := by decide +kernel
theorem d_Integer_bitCount_39 : decode b_Integer_bitCount 39 = .ok (.iadd, 1) := by decide +kernel
theorem d_Integer_bitCount_40 : decode b_Integer_bitCount 40 = .ok (.istore_n 0, 1) := by decide +kernel
theorem d_Integer_bitCount_41 : decode b_Integer_bitCount 41 = .ok (.iload_n 0, 1) := by decide +kernel
theorem d_Integer_bitCount_42 : decode b_Integer_bitCount 42 = .ok (.iload_n 0, 1) := by decide +kernel
theorem d_Integer_bitCount_43 : decode b_Integer_bitCount 43 = .ok (.bipush 16, 2) := by decide +kernel
theorem d_Integer_bitCount_45 : decode b_Integer_bitCount 45 = .ok (.iushr, 1) := by decide +kernel
theorem d_Integer_bitCount_46 : decode b_Integer_bitCount 46 = .ok (.iadd, 1) := by decide +kernel
theorem d_Integer_bitCount_47 : decode b_Integer_bitCount 47 = .ok (.istore_n 0, 1) := by decide +kernel
theorem d_Integer_bitCount_48 : decode b_Integer_bitCount 48 = .ok (.iload_n 0, 1) := by decide +kernel
theorem d_Integer_bitCount_49 : decode b_Integer_bitCount 49 = .ok (.bipush 63, 2) := by decide +kernel
theorem d_Integer_bitCount_51 : decode b_Integer_bitCount 51 = .ok (.iand, 1) := by decide +kernel
theorem d_Integer_bitCount_52 : decode b_Integer_bitCount 52 = .ok (.ireturn, 1) := by decide +kernel
theorem d_LogFs_init_0 : decode b_LogFs_init 0 = .ok (.aload_n 0, 1) := by decide +kernel
theorem d_LogFs_init_1 : decode b_LogFs_init 1 = .ok (.invokespecial 1, 3) := by decide +kernel
theorem d_LogFs_init_4 : decode b_LogFs_init 4 = .ok (.aload_n 0, 1) := by decide +kernel
theorem d_LogFs_init_5 : decode b_LogFs_init 5 = .ok (.new 7, 3) := by decide +kernel
theorem d_LogFs_init_8 : decode b_LogFs_init 8 = .ok (.dup, 1) := by decide +kernel
theorem d_LogFs_init_9 : decode b_LogFs_init 9 = .ok (.invokespecial 9, 3) := by decide +kernel
theorem d_LogFs_init_12 : decode b_LogFs_init 12 = .ok (.putfield 10, 3) := by decide +kernel
theorem d_LogFs_init_15 : decode b_LogFs_init 15 = .ok (.aload_n 0, 1) := by decide +kernel
theorem d_LogFs_init_16 : decode b_LogFs_init 16 = .ok (.new 16, 3) := by decide +kernel
theorem d_LogFs_init_19 : decode b_LogFs_init 19 = .ok (.dup, 1) := by decide +kernel
theorem d_LogFs_init_20 : decode b_LogFs_init 20 = .ok (.invokespecial 18, 3) := by decide +kernel
theorem d_LogFs_init_23 : decode b_LogFs_init 23 = .ok (.putfield 19, 3) := by decide +kernel
theorem d_LogFs_init_26 : decode b_LogFs_init 26 = .ok (.aload_n 0, 1) := by decide +kernel
theorem d_LogFs_init_27 : decode b_LogFs_init 27 = .ok (.new 23, 3) := by decide +kernel
theorem d_LogFs_init_30 : decode b_LogFs_init 30 = .ok (.dup, 1) := by decide +kernel
theorem d_LogFs_init_31 : decode b_LogFs_init 31 = .ok (.aload_n 0, 1) := by decide +kernel
theorem d_LogFs_init_32 : decode b_LogFs_init 32 = .ok (.getfield 19, 3) := by decide +kernel
theorem d_LogFs_init_35 : decode b_LogFs_init 35 = .ok (.invokespecial 25, 3) := by decide +kernel
theorem d_LogFs_init_38 : decode b_LogFs_init 38 = .ok (.putfield 28, 3) := by decide +kernel
theorem d_LogFs_init_41 : decode b_LogFs_init 41 = .ok (.aload_n 0, 1) := by decide +kernel
theorem d_LogFs_init_42 : decode b_LogFs_init 42 = .ok (.iconst 0, 1) := by decide +kernel
theorem d_LogFs_init_43 : decode b_LogFs_init 43 = .ok (.putfield 32, 3) := by decide +kernel
theorem d_LogFs_init_46 : decode b_LogFs_init 46 = .ok (.aload_n 0, 1) := by decide +kernel
theorem d_LogFs_init_47 : decode b_LogFs_init 47 = .ok (.getfield 19, 3) := by decide +kernel
theorem d_LogFs_init_50 : decode b_LogFs_init 50 = .ok (.aload_n 0, 1) := by decide +kernel
theorem d_LogFs_init_51 : decode b_LogFs_init 51 = .ok (.getfield 10, 3) := by decide +kernel
theorem d_LogFs_init_54 : decode b_LogFs_init 54 = .ok (.getfield 36, 3) := by decide +kernel
theorem d_LogFs_init_57 : decode b_LogFs_init 57 = .ok (.invokevirtual 40, 3) := by decide +kernel
theorem d_LogFs_init_60 : decode b_LogFs_init 60 = .ok (.return_, 1) := by decide +kernel
theorem d_LogFs_failAfter_0 : decode b_LogFs_failAfter 0 = .ok (.iload_n 1, 1) := by decide +kernel
theorem d_LogFs_failAfter_1 : decode b_LogFs_failAfter 1 = .ok (.ifCond .ge 5, 3) := by decide +kernel
theorem d_LogFs_failAfter_4 : decode b_LogFs_failAfter 4 = .ok (.iconst 0, 1) := by decide +kernel
theorem d_LogFs_failAfter_5 : decode b_LogFs_failAfter 5 = .ok (.ireturn, 1) := by decide +kernel
theorem d_LogFs_failAfter_6 : decode b_LogFs_failAfter 6 = .ok (.aload_n 0, 1) := by decide +kernel
theorem d_LogFs_failAfter_7 : decode b_LogFs_failAfter 7 = .ok (.getfield 10, 3) := by decide +kernel
theorem d_LogFs_failAfter_10 : decode b_LogFs_failAfter 10 = .ok (.iload_n 1, 1) := by decide +kernel
theorem d_LogFs_failAfter_11 : decode b_LogFs_failAfter 11 = .ok (.putfield 119, 3) := by decide +kernel
theorem d_LogFs_failAfter_14 : decode b_LogFs_failAfter 14 = .ok (.iconst 1, 1) := by decide +kernel
theorem d_LogFs_failAfter_15 : decode b_LogFs_failAfter 15 = .ok (.ireturn, 1) := by decide +kernel
theorem d_LogFs_count_0 : decode b_LogFs_count 0 = .ok (.iload_n 1, 1) := by decide +kernel
theorem d_LogFs_count_1 : decode b_LogFs_count 1 = .ok (.tableswitch 56 3 5 #[27, 35, 40], 27) := by decide +kernel
theorem d_LogFs_count_28 : decode b_LogFs_count 28 = .ok (.aload_n 0, 1) := by decide +kernel
theorem d_LogFs_count_29 : decode b_LogFs_count 29 = .ok (.getfield 10, 3) := by decide +kernel
theorem d_LogFs_count_32 : decode b_LogFs_count 32 = .ok (.getfield 113, 3) := by decide +kernel
theorem d_LogFs_count_35 : decode b_LogFs_count 35 = .ok (.ireturn, 1) := by decide +kernel
theorem d_LogFs_count_36 : decode b_LogFs_count 36 = .ok (.aload_n 0, 1) := by decide +kernel
theorem d_LogFs_count_37 : decode b_LogFs_count 37 = .ok (.getfield 32, 3) := by decide +kernel
theorem d_LogFs_count_40 : decode b_LogFs_count 40 = .ok (.ireturn, 1) := by decide +kernel
theorem d_LogFs_count_41 : decode b_LogFs_count 41 = .ok (.aload_n 0, 1) := by decide +kernel
theorem d_LogFs_count_42 : decode b_LogFs_count 42 = .ok (.getfield 10, 3) := by decide +kernel
theorem d_LogFs_count_45 : decode b_LogFs_count 45 = .ok (.getfield 122, 3) := by decide +kernel
theorem d_LogFs_count_48 : decode b_LogFs_count 48 = .ok (.ifCond .eq 7, 3) := by decide +kernel
theorem d_LogFs_count_51 : decode b_LogFs_count 51 = .ok (.iconst 1, 1) := by decide +kernel
theorem d_LogFs_count_52 : decode b_LogFs_count 52 = .ok (.goto 4, 3) := by decide +kernel
theorem d_LogFs_count_55 : decode b_LogFs_count 55 = .ok (.iconst 0, 1) := by decide +kernel
theorem d_LogFs_count_56 : decode b_LogFs_count 56 = .ok (.ireturn, 1) := by decide +kernel
theorem d_LogFs_count_57 : decode b_LogFs_count 57 = .ok (.aload_n 0, 1) := by decide +kernel
theorem d_LogFs_count_58 : decode b_LogFs_count 58 = .ok (.getfield 10, 3) := by decide +kernel
theorem d_LogFs_count_61 : decode b_LogFs_count 61 = .ok (.getfield 122, 3) := by decide +kernel
theorem d_LogFs_count_64 : decode b_LogFs_count 64 = .ok (.ifCond .eq 7, 3) := by decide +kernel
theorem d_LogFs_count_67 : decode b_LogFs_count 67 = .ok (.iconst (-1), 1) := by decide +kernel
theorem d_LogFs_count_68 : decode b_LogFs_count 68 = .ok (.goto 8, 3) := by decide +kernel
theorem d_LogFs_count_71 : decode b_LogFs_count 71 = .ok (.aload_n 0, 1) := by decide +kernel
theorem d_LogFs_count_72 : decode b_LogFs_count 72 = .ok (.iload_n 1, 1) := by decide +kernel
theorem d_LogFs_count_73 : decode b_LogFs_count 73 = .ok (.invokevirtual 166, 3) := by decide +kernel
theorem d_LogFs_count_76 : decode b_LogFs_count 76 = .ok (.ireturn, 1) := by decide +kernel
theorem d_LogFs_countInMemory_0 : decode b_LogFs_countInMemory 0 = .ok (.iload_n 1, 1) := by decide +kernel
theorem d_LogFs_countInMemory_1 : decode b_LogFs_countInMemory 1 = .ok (.tableswitch 51 0 2 #[27, 35, 43], 27) := by decide +kernel
theorem d_LogFs_countInMemory_28 : decode b_LogFs_countInMemory 28 = .ok (.aload_n 0, 1) := by decide +kernel
theorem d_LogFs_countInMemory_29 : decode b_LogFs_countInMemory 29 = .ok (.getfield 19, 3) := by decide +kernel
theorem d_LogFs_countInMemory_32 : decode b_LogFs_countInMemory 32 = .ok (.getfield 169, 3) := by decide +kernel
theorem d_LogFs_countInMemory_35 : decode b_LogFs_countInMemory 35 = .ok (.ireturn, 1) := by decide +kernel
theorem d_LogFs_countInMemory_36 : decode b_LogFs_countInMemory 36 = .ok (.aload_n 0, 1) := by decide +kernel
theorem d_LogFs_countInMemory_37 : decode b_LogFs_countInMemory 37 = .ok (.getfield 28, 3) := by decide +kernel
theorem d_LogFs_countInMemory_40 : decode b_LogFs_countInMemory 40 = .ok (.invokevirtual 172, 3) := by decide +kernel
theorem d_LogFs_countInMemory_43 : decode b_LogFs_countInMemory 43 = .ok (.ireturn, 1) := by decide +kernel
theorem d_LogFs_countInMemory_44 : decode b_LogFs_countInMemory 44 = .ok (.aload_n 0, 1) := by decide +kernel
theorem d_LogFs_countInMemory_45 : decode b_LogFs_countInMemory 45 = .ok (.getfield 28, 3) := by decide +kernel
theorem d_LogFs_countInMemory_48 : decode b_LogFs_countInMemory 48 = .ok (.invokevirtual 175, 3) := by decide +kernel
theorem d_LogFs_countInMemory_51 : decode b_LogFs_countInMemory 51 = .ok (.ireturn, 1) := by decide +kernel
theorem d_LogFs_countInMemory_52 : decode b_LogFs_countInMemory 52 = .ok (.iload_n 1, 1) := by decide +kernel
theorem d_LogFs_countInMemory_53 : decode b_LogFs_countInMemory 53 = .ok (.bipush 8, 2) := by decide +kernel
theorem d_LogFs_countInMemory_55 : decode b_LogFs_countInMemory 55 = .ok (.if_icmp .ge 7, 3) := by decide +kernel
theorem d_LogFs_countInMemory_58 : decode b_LogFs_countInMemory 58 = .ok (.iconst (-1), 1) := by decide +kernel
theorem d_LogFs_countInMemory_59 : decode b_LogFs_countInMemory 59 = .ok (.goto 14, 3) := by decide +kernel
theorem d_LogFs_countInMemory_62 : decode b_LogFs_countInMemory 62 = .ok (.aload_n 0, 1) := by decide +kernel
theorem d_LogFs_countInMemory_63 : decode b_LogFs_countInMemory 63 = .ok (.getfield 19, 3) := by decide +kernel
theorem d_LogFs_countInMemory_66 : decode b_LogFs_countInMemory 66 = .ok (.iload_n 1, 1) := by decide +kernel
theorem d_LogFs_countInMemory_67 : decode b_LogFs_countInMemory 67 = .ok (.bipush 8, 2) := by decide +kernel
theorem d_LogFs_countInMemory_69 : decode b_LogFs_countInMemory 69 = .ok (.isub, 1) := by decide +kernel
theorem d_LogFs_countInMemory_70 : decode b_LogFs_countInMemory 70 = .ok (.invokevirtual 178, 3) := by decide +kernel
theorem d_LogFs_countInMemory_73 : decode b_LogFs_countInMemory 73 = .ok (.ireturn, 1) := by decide +kernel
theorem d_LogFs_isInode_0 : decode b_LogFs_isInode 0 = .ok (.iload_n 0, 1) := by decide +kernel
theorem d_LogFs_isInode_1 : decode b_LogFs_isInode 1 = .ok (.ifCond .lt 13, 3) := by decide +kernel
theorem d_LogFs_isInode_4 : decode b_LogFs_isInode 4 = .ok (.iload_n 0, 1) := by decide +kernel
theorem d_LogFs_isInode_5 : decode b_LogFs_isInode 5 = .ok (.bipush 32, 2) := by decide +kernel
theorem d_LogFs_isInode_7 : decode b_LogFs_isInode 7 = .ok (.if_icmp .ge 7, 3) := by decide +kernel
theorem d_LogFs_isInode_10 : decode b_LogFs_isInode 10 = .ok (.iconst 1, 1) := by decide +kernel
theorem d_LogFs_isInode_11 : decode b_LogFs_isInode 11 = .ok (.goto 4, 3) := by decide +kernel
theorem d_LogFs_isInode_14 : decode b_LogFs_isInode 14 = .ok (.iconst 0, 1) := by decide +kernel
theorem d_LogFs_isInode_15 : decode b_LogFs_isInode 15 = .ok (.ireturn, 1) := by decide +kernel
theorem d_LogFs_make_0 : decode b_LogFs_make 0 = .ok (.aload_n 0, 1) := by decide +kernel
theorem d_LogFs_make_1 : decode b_LogFs_make 1 = .ok (.invokevirtual 44, 3) := by decide +kernel
theorem d_LogFs_make_4 : decode b_LogFs_make 4 = .ok (.aload_n 0, 1) := by decide +kernel
theorem d_LogFs_make_5 : decode b_LogFs_make 5 = .ok (.getfield 28, 3) := by decide +kernel
theorem d_LogFs_make_8 : decode b_LogFs_make 8 = .ok (.invokevirtual 47, 3) := by decide +kernel
theorem d_LogFs_make_11 : decode b_LogFs_make 11 = .ok (.istore 5, 2) := by decide +kernel
theorem d_LogFs_make_13 : decode b_LogFs_make 13 = .ok (.iload 5, 2) := by decide +kernel
theorem d_LogFs_make_15 : decode b_LogFs_make 15 = .ok (.iconst (-1), 1) := by decide +kernel
theorem d_LogFs_make_16 : decode b_LogFs_make 16 = .ok (.if_icmp .eq 15, 3) := by decide +kernel
theorem d_LogFs_make_19 : decode b_LogFs_make 19 = .ok (.aload_n 0, 1) := by decide +kernel
theorem d_LogFs_make_20 : decode b_LogFs_make 20 = .ok (.getfield 28, 3) := by decide +kernel
theorem d_LogFs_make_23 : decode b_LogFs_make 23 = .ok (.iload_n 1, 1) := by decide +kernel
theorem d_LogFs_make_24 : decode b_LogFs_make 24 = .ok (.lload_n 2, 1) := by decide +kernel
theorem d_LogFs_make_25 : decode b_LogFs_make 25 = .ok (.invokevirtual 51, 3) := by decide +kernel
theorem d_LogFs_make_28 : decode b_LogFs_make 28 = .ok (.ifCond .ne 5, 3) := by decide +kernel
theorem d_LogFs_make_31 : decode b_LogFs_make 31 = .ok (.iconst (-1), 1) := by decide +kernel
theorem d_LogFs_make_32 : decode b_LogFs_make 32 = .ok (.ireturn, 1) := by decide +kernel
theorem d_LogFs_make_33 : decode b_LogFs_make 33 = .ok (.aload_n 0, 1) := by decide +kernel
theorem d_LogFs_make_34 : decode b_LogFs_make 34 = .ok (.invokevirtual 55, 3) := by decide +kernel
theorem d_LogFs_make_37 : decode b_LogFs_make 37 = .ok (.aload_n 0, 1) := by decide +kernel
theorem d_LogFs_make_38 : decode b_LogFs_make 38 = .ok (.getfield 28, 3) := by decide +kernel
theorem d_LogFs_make_41 : decode b_LogFs_make 41 = .ok (.iload 5, 2) := by decide +kernel
theorem d_LogFs_make_43 : decode b_LogFs_make 43 = .ok (.iload 4, 2) := by decide +kernel
theorem d_LogFs_make_45 : decode b_LogFs_make 45 = .ok (.ifCond .eq 7, 3) := by decide +kernel
theorem d_LogFs_make_48 : decode b_LogFs_make 48 = .ok (.iconst 2, 1) := by decide +kernel
theorem d_LogFs_make_49 : decode b_LogFs_make 49 = .ok (.goto 4, 3) := by decide +kernel
theorem d_LogFs_make_52 : decode b_LogFs_make 52 = .ok (.iconst 1, 1) := by decide +kernel
theorem d_LogFs_make_53 : decode b_LogFs_make 53 = .ok (.invokevirtual 58, 3) := by decide +kernel
theorem d_LogFs_make_56 : decode b_LogFs_make 56 = .ok (.aload_n 0, 1) := by decide +kernel
theorem d_LogFs_make_57 : decode b_LogFs_make 57 = .ok (.getfield 28, 3) := by decide +kernel
theorem d_LogFs_make_60 : decode b_LogFs_make 60 = .ok (.iload_n 1, 1) := by decide +kernel
theorem d_LogFs_make_61 : decode b_LogFs_make 61 = .ok (.aload_n 0, 1) := by decide +kernel
theorem d_LogFs_make_62 : decode b_LogFs_make 62 = .ok (.getfield 28, 3) := by decide +kernel
theorem d_LogFs_make_65 : decode b_LogFs_make 65 = .ok (.iload_n 1, 1) := by decide +kernel
theorem d_LogFs_make_66 : decode b_LogFs_make 66 = .ok (.invokevirtual 62, 3) := by decide +kernel
theorem d_LogFs_make_69 : decode b_LogFs_make 69 = .ok (.iload 5, 2) := by decide +kernel
theorem d_LogFs_make_71 : decode b_LogFs_make 71 = .ok (.lload_n 2, 1) := by decide +kernel
theorem d_LogFs_make_72 : decode b_LogFs_make 72 = .ok (.invokestatic 66, 3) := by decide +kernel
theorem d_LogFs_make_75 : decode b_LogFs_make 75 = .ok (.bipush 8, 2) := by decide +kernel
theorem d_LogFs_make_77 : decode b_LogFs_make 77 = .ok (.invokevirtual 70, 3) := by decide +kernel
theorem d_LogFs_make_80 : decode b_LogFs_make 80 = .ok (.iload 5, 2) := by decide +kernel
theorem d_LogFs_make_82 : decode b_LogFs_make 82 = .ok (.ireturn, 1) := by decide +kernel
theorem d_LogFs_requirePower_0 : decode b_LogFs_requirePower 0 = .ok (.aload_n 0, 1) := by decide +kernel
theorem d_LogFs_requirePower_1 : decode b_LogFs_requirePower 1 = .ok (.getfield 10, 3) := by decide +kernel
theorem d_LogFs_requirePower_4 : decode b_LogFs_requirePower 4 = .ok (.getfield 122, 3) := by decide +kernel
theorem d_LogFs_requirePower_7 : decode b_LogFs_requirePower 7 = .ok (.ifCond .eq 13, 3) := by decide +kernel
theorem d_LogFs_requirePower_10 : decode b_LogFs_requirePower 10 = .ok (.new 181, 3) := by decide +kernel
theorem d_LogFs_requirePower_13 : decode b_LogFs_requirePower 13 = .ok (.dup, 1) := by decide +kernel
theorem d_LogFs_requirePower_14 : decode b_LogFs_requirePower 14 = .ok (.ldc 183, 2) := by decide +kernel
theorem d_LogFs_requirePower_16 : decode b_LogFs_requirePower 16 = .ok (.invokespecial 185, 3) := by decide +kernel
theorem d_LogFs_requirePower_19 : decode b_LogFs_requirePower 19 = .ok (.athrow, 1) := by decide +kernel
theorem d_LogFs_requirePower_20 : decode b_LogFs_requirePower 20 = .ok (.return_, 1) := by decide +kernel
theorem d_LogFs_isName_0 : decode b_LogFs_isName 0 = .ok (.iconst 0, 1) := by decide +kernel
theorem d_LogFs_isName_1 : decode b_LogFs_isName 1 = .ok (.istore_n 2, 1) := by decide +kernel
theorem d_LogFs_isName_2 : decode b_LogFs_isName 2 = .ok (.iload_n 2, 1) := by decide +kernel
theorem d_LogFs_isName_3 : decode b_LogFs_isName 3 = .ok (.bipush 8, 2) := by decide +kernel
theorem d_LogFs_isName_5 : decode b_LogFs_isName 5 = .ok (.if_icmp .ge 37, 3) := by decide +kernel
theorem d_LogFs_isName_8 : decode b_LogFs_isName 8 = .ok (.lload_n 0, 1) := by decide +kernel
theorem d_LogFs_isName_9 : decode b_LogFs_isName 9 = .ok (.iload_n 2, 1) := by decide +kernel
theorem d_LogFs_isName_10 : decode b_LogFs_isName 10 = .ok (.invokestatic 195, 3) := by decide +kernel
theorem d_LogFs_isName_13 : decode b_LogFs_isName 13 = .ok (.ifCond .eq 29, 3) := by decide +kernel
theorem d_LogFs_isName_16 : decode b_LogFs_isName 16 = .ok (.lload_n 0, 1) := by decide +kernel
theorem d_LogFs_isName_17 : decode b_LogFs_isName 17 = .ok (.iload_n 2, 1) := by decide +kernel
theorem d_LogFs_isName_18 : decode b_LogFs_isName 18 = .ok (.invokestatic 195, 3) := by decide +kernel
theorem d_LogFs_isName_21 : decode b_LogFs_isName 21 = .ok (.istore_n 3, 1) := by decide +kernel
theorem d_LogFs_isName_22 : decode b_LogFs_isName 22 = .ok (.iload_n 3, 1) := by decide +kernel
theorem d_LogFs_isName_23 : decode b_LogFs_isName 23 = .ok (.bipush 33, 2) := by decide +kernel
theorem d_LogFs_isName_25 : decode b_LogFs_isName 25 = .ok (.if_icmp .lt 9, 3) := by decide +kernel
theorem d_LogFs_isName_28 : decode b_LogFs_isName 28 = .ok (.iload_n 3, 1) := by decide +kernel
theorem d_LogFs_isName_29 : decode b_LogFs_isName 29 = .ok (.bipush 126, 2) := by decide +kernel
theorem d_LogFs_isName_31 : decode b_LogFs_isName 31 = .ok (.if_icmp .le 5, 3) := by decide +kernel
theorem d_LogFs_isName_34 : decode b_LogFs_isName 34 = .ok (.iconst 0, 1) := by decide +kernel
theorem d_LogFs_isName_35 : decode b_LogFs_isName 35 = .ok (.ireturn, 1) := by decide +kernel
theorem d_LogFs_isName_36 : decode b_LogFs_isName 36 = .ok (.iinc 2 1, 3) := by decide +kernel
theorem d_LogFs_isName_39 : decode b_LogFs_isName 39 = .ok (.goto (-37), 3) := by decide +kernel
theorem d_LogFs_isName_42 : decode b_LogFs_isName 42 = .ok (.iload_n 2, 1) := by decide +kernel
theorem d_LogFs_isName_43 : decode b_LogFs_isName 43 = .ok (.ifCond .le 24, 3) := by decide +kernel
theorem d_LogFs_isName_46 : decode b_LogFs_isName 46 = .ok (.iload_n 2, 1) := by decide +kernel
theorem d_LogFs_isName_47 : decode b_LogFs_isName 47 = .ok (.bipush 7, 2) := by decide +kernel
theorem d_LogFs_isName_49 : decode b_LogFs_isName 49 = .ok (.if_icmp .gt 18, 3) := by decide +kernel
theorem d_LogFs_isName_52 : decode b_LogFs_isName 52 = .ok (.lload_n 0, 1) := by decide +kernel
theorem d_LogFs_isName_53 : decode b_LogFs_isName 53 = .ok (.bipush 8, 2) := by decide +kernel
theorem d_LogFs_isName_55 : decode b_LogFs_isName 55 = .ok (.iload_n 2, 1) := by decide +kernel
theorem d_LogFs_isName_56 : decode b_LogFs_isName 56 = .ok (.imul, 1) := by decide +kernel
theorem d_LogFs_isName_57 : decode b_LogFs_isName 57 = .ok (.lshl, 1) := by decide +kernel
theorem d_LogFs_isName_58 : decode b_LogFs_isName 58 = .ok (.lconst 0, 1) := by decide +kernel
theorem d_LogFs_isName_59 : decode b_LogFs_isName 59 = .ok (.lcmp, 1) := by decide +kernel
theorem d_LogFs_isName_60 : decode b_LogFs_isName 60 = .ok (.ifCond .ne 7, 3) := by decide +kernel
theorem d_LogFs_isName_63 : decode b_LogFs_isName 63 = .ok (.iconst 1, 1) := by decide +kernel
theorem d_LogFs_isName_64 : decode b_LogFs_isName 64 = .ok (.goto 4, 3) := by decide +kernel
theorem d_LogFs_isName_67 : decode b_LogFs_isName 67 = .ok (.iconst 0, 1) := by decide +kernel
theorem d_LogFs_isName_68 : decode b_LogFs_isName 68 = .ok (.ireturn, 1) := by decide +kernel
theorem d_LogFs_byteOf_0 : decode b_LogFs_byteOf 0 = .ok (.lload_n 0, 1) := by decide +kernel
theorem d_LogFs_byteOf_1 : decode b_LogFs_byteOf 1 = .ok (.bipush 8, 2) := by decide +kernel
theorem d_LogFs_byteOf_3 : decode b_LogFs_byteOf 3 = .ok (.bipush 7, 2) := by decide +kernel
theorem d_LogFs_byteOf_5 : decode b_LogFs_byteOf 5 = .ok (.iload_n 2, 1) := by decide +kernel
theorem d_LogFs_byteOf_6 : decode b_LogFs_byteOf 6 = .ok (.isub, 1) := by decide +kernel
theorem d_LogFs_byteOf_7 : decode b_LogFs_byteOf 7 = .ok (.imul, 1) := by decide +kernel
theorem d_LogFs_byteOf_8 : decode b_LogFs_byteOf 8 = .ok (.lushr, 1) := by decide +kernel
theorem d_LogFs_byteOf_9 : decode b_LogFs_byteOf 9 = .ok (.l2i, 1) := by decide +kernel
theorem d_LogFs_byteOf_10 : decode b_LogFs_byteOf 10 = .ok (.sipush 255, 3) := by decide +kernel
theorem d_LogFs_byteOf_13 : decode b_LogFs_byteOf 13 = .ok (.iand, 1) := by decide +kernel
theorem d_LogFs_byteOf_14 : decode b_LogFs_byteOf 14 = .ok (.ireturn, 1) := by decide +kernel
theorem d_LogFs_blocksFor_0 : decode b_LogFs_blocksFor 0 = .ok (.iload_n 0, 1) := by decide +kernel
theorem d_LogFs_blocksFor_1 : decode b_LogFs_blocksFor 1 = .ok (.bipush 64, 2) := by decide +kernel
theorem d_LogFs_blocksFor_3 : decode b_LogFs_blocksFor 3 = .ok (.iadd, 1) := by decide +kernel
theorem d_LogFs_blocksFor_4 : decode b_LogFs_blocksFor 4 = .ok (.iconst 1, 1) := by decide +kernel
theorem d_LogFs_blocksFor_5 : decode b_LogFs_blocksFor 5 = .ok (.isub, 1) := by decide +kernel
theorem d_LogFs_blocksFor_6 : decode b_LogFs_blocksFor 6 = .ok (.bipush 64, 2) := by decide +kernel
theorem d_LogFs_blocksFor_8 : decode b_LogFs_blocksFor 8 = .ok (.idiv, 1) := by decide +kernel
theorem d_LogFs_blocksFor_9 : decode b_LogFs_blocksFor 9 = .ok (.ireturn, 1) := by decide +kernel
theorem d_LogFs_commitIfMany_0 : decode b_LogFs_commitIfMany 0 = .ok (.aload_n 0, 1) := by decide +kernel
theorem d_LogFs_commitIfMany_1 : decode b_LogFs_commitIfMany 1 = .ok (.getfield 19, 3) := by decide +kernel
theorem d_LogFs_commitIfMany_4 : decode b_LogFs_commitIfMany 4 = .ok (.getfield 169, 3) := by decide +kernel
theorem d_LogFs_commitIfMany_7 : decode b_LogFs_commitIfMany 7 = .ok (.bipush 10, 2) := by decide +kernel
theorem d_LogFs_commitIfMany_9 : decode b_LogFs_commitIfMany 9 = .ok (.if_icmp .le 7, 3) := by decide +kernel
theorem d_LogFs_commitIfMany_12 : decode b_LogFs_commitIfMany 12 = .ok (.aload_n 0, 1) := by decide +kernel
theorem d_LogFs_commitIfMany_13 : decode b_LogFs_commitIfMany 13 = .ok (.invokevirtual 116, 3) := by decide +kernel
theorem d_LogFs_commitIfMany_16 : decode b_LogFs_commitIfMany 16 = .ok (.return_, 1) := by decide +kernel
theorem d_LogFs_commit_0 : decode b_LogFs_commit 0 = .ok (.aload_n 0, 1) := by decide +kernel
theorem d_LogFs_commit_1 : decode b_LogFs_commit 1 = .ok (.getfield 19, 3) := by decide +kernel
theorem d_LogFs_commit_4 : decode b_LogFs_commit 4 = .ok (.getfield 169, 3) := by decide +kernel
theorem d_LogFs_commit_7 : decode b_LogFs_commit 7 = .ok (.ifCond .ne 4, 3) := by decide +kernel
theorem d_LogFs_commit_10 : decode b_LogFs_commit 10 = .ok (.return_, 1) := by decide +kernel
theorem d_LogFs_commit_11 : decode b_LogFs_commit 11 = .ok (.aload_n 0, 1) := by decide +kernel
theorem d_LogFs_commit_12 : decode b_LogFs_commit 12 = .ok (.dup, 1) := by decide +kernel
theorem d_LogFs_commit_13 : decode b_LogFs_commit 13 = .ok (.getfield 32, 3) := by decide +kernel
theorem d_LogFs_commit_16 : decode b_LogFs_commit 16 = .ok (.iconst 1, 1) := by decide +kernel
theorem d_LogFs_commit_17 : decode b_LogFs_commit 17 = .ok (.iadd, 1) := by decide +kernel
theorem d_LogFs_commit_18 : decode b_LogFs_commit 18 = .ok (.putfield 32, 3) := by decide +kernel
theorem d_LogFs_commit_21 : decode b_LogFs_commit 21 = .ok (.aload_n 0, 1) := by decide +kernel
theorem d_LogFs_commit_22 : decode b_LogFs_commit 22 = .ok (.getfield 10, 3) := by decide +kernel
theorem d_LogFs_commit_25 : decode b_LogFs_commit 25 = .ok (.aload_n 0, 1) := by decide +kernel
theorem d_LogFs_commit_26 : decode b_LogFs_commit 26 = .ok (.getfield 19, 3) := by decide +kernel
theorem d_LogFs_commit_29 : decode b_LogFs_commit 29 = .ok (.invokevirtual 188, 3) := by decide +kernel
theorem d_LogFs_commit_32 : decode b_LogFs_commit 32 = .ok (.ifCond .ne 13, 3) := by decide +kernel
theorem d_LogFs_commit_35 : decode b_LogFs_commit 35 = .ok (.new 134, 3) := by decide +kernel
theorem d_LogFs_commit_38 : decode b_LogFs_commit 38 = .ok (.dup, 1) := by decide +kernel
theorem d_LogFs_commit_39 : decode b_LogFs_commit 39 = .ok (.ldc 136, 2) := by decide +kernel
theorem d_LogFs_commit_41 : decode b_LogFs_commit 41 = .ok (.invokespecial 138, 3) := by decide +kernel
theorem d_LogFs_commit_44 : decode b_LogFs_commit 44 = .ok (.athrow, 1) := by decide +kernel
theorem d_LogFs_commit_45 : decode b_LogFs_commit 45 = .ok (.aload_n 0, 1) := by decide +kernel
theorem d_LogFs_commit_46 : decode b_LogFs_commit 46 = .ok (.getfield 19, 3) := by decide +kernel
theorem d_LogFs_commit_49 : decode b_LogFs_commit 49 = .ok (.invokevirtual 192, 3) := by decide +kernel
theorem d_LogFs_commit_52 : decode b_LogFs_commit 52 = .ok (.return_, 1) := by decide +kernel
theorem d_LogFs_entryOf_0 : decode b_LogFs_entryOf 0 = .ok (.iload_n 0, 1) := by decide +kernel
theorem d_LogFs_entryOf_1 : decode b_LogFs_entryOf 1 = .ok (.iconst 1, 1) := by decide +kernel
theorem d_LogFs_entryOf_2 : decode b_LogFs_entryOf 2 = .ok (.iadd, 1) := by decide +kernel
theorem d_LogFs_entryOf_3 : decode b_LogFs_entryOf 3 = .ok (.i2l, 1) := by decide +kernel
theorem d_LogFs_entryOf_4 : decode b_LogFs_entryOf 4 = .ok (.bipush 56, 2) := by decide +kernel
theorem d_LogFs_entryOf_6 : decode b_LogFs_entryOf 6 = .ok (.lshl, 1) := by decide +kernel
theorem d_LogFs_entryOf_7 : decode b_LogFs_entryOf 7 = .ok (.lload_n 1, 1) := by decide +kernel
theorem d_LogFs_entryOf_8 : decode b_LogFs_entryOf 8 = .ok (.bipush 8, 2) := by decide +kernel
theorem d_LogFs_entryOf_10 : decode b_LogFs_entryOf 10 = .ok (.lushr, 1) := by decide +kernel
theorem d_LogFs_entryOf_11 : decode b_LogFs_entryOf 11 = .ok (.lor, 1) := by decide +kernel
theorem d_LogFs_entryOf_12 : decode b_LogFs_entryOf 12 = .ok (.lreturn, 1) := by decide +kernel
theorem d_LogFs_link_0 : decode b_LogFs_link 0 = .ok (.aload_n 0, 1) := by decide +kernel
theorem d_LogFs_link_1 : decode b_LogFs_link 1 = .ok (.invokevirtual 44, 3) := by decide +kernel
theorem d_LogFs_link_4 : decode b_LogFs_link 4 = .ok (.aload_n 0, 1) := by decide +kernel
theorem d_LogFs_link_5 : decode b_LogFs_link 5 = .ok (.getfield 28, 3) := by decide +kernel
theorem d_LogFs_link_8 : decode b_LogFs_link 8 = .ok (.iload 4, 2) := by decide +kernel
theorem d_LogFs_link_10 : decode b_LogFs_link 10 = .ok (.invokevirtual 74, 3) := by decide +kernel
theorem d_LogFs_link_13 : decode b_LogFs_link 13 = .ok (.ifCond .eq 30, 3) := by decide +kernel
theorem d_LogFs_link_16 : decode b_LogFs_link 16 = .ok (.aload_n 0, 1) := by decide +kernel
theorem d_LogFs_link_17 : decode b_LogFs_link 17 = .ok (.getfield 28, 3) := by decide +kernel
theorem d_LogFs_link_20 : decode b_LogFs_link 20 = .ok (.iload 4, 2) := by decide +kernel
theorem d_LogFs_link_22 : decode b_LogFs_link 22 = .ok (.invokevirtual 78, 3) := by decide +kernel
theorem d_LogFs_link_25 : decode b_LogFs_link 25 = .ok (.sipush 200, 3) := by decide +kernel
theorem d_LogFs_link_28 : decode b_LogFs_link 28 = .ok (.if_icmp .ge 15, 3) := by decide +kernel
theorem d_LogFs_link_31 : decode b_LogFs_link 31 = .ok (.aload_n 0, 1) := by decide +kernel
theorem d_LogFs_link_32 : decode b_LogFs_link 32 = .ok (.getfield 28, 3) := by decide +kernel
theorem d_LogFs_link_35 : decode b_LogFs_link 35 = .ok (.iload_n 1, 1) := by decide +kernel
theorem d_LogFs_link_36 : decode b_LogFs_link 36 = .ok (.lload_n 2, 1) := by decide +kernel
theorem d_LogFs_link_37 : decode b_LogFs_link 37 = .ok (.invokevirtual 51, 3) := by decide +kernel
theorem d_LogFs_link_40 : decode b_LogFs_link 40 = .ok (.ifCond .ne 5, 3) := by decide +kernel
theorem d_LogFs_link_43 : decode b_LogFs_link 43 = .ok (.iconst 0, 1) := by decide +kernel
theorem d_LogFs_link_44 : decode b_LogFs_link 44 = .ok (.ireturn, 1) := by decide +kernel
theorem d_LogFs_link_45 : decode b_LogFs_link 45 = .ok (.aload_n 0, 1) := by decide +kernel
theorem d_LogFs_link_46 : decode b_LogFs_link 46 = .ok (.invokevirtual 55, 3) := by decide +kernel
theorem d_LogFs_link_49 : decode b_LogFs_link 49 = .ok (.aload_n 0, 1) := by decide +kernel
theorem d_LogFs_link_50 : decode b_LogFs_link 50 = .ok (.getfield 28, 3) := by decide +kernel
theorem d_LogFs_link_53 : decode b_LogFs_link 53 = .ok (.iload 4, 2) := by decide +kernel
theorem d_LogFs_link_55 : decode b_LogFs_link 55 = .ok (.invokevirtual 81, 3) := by decide +kernel
theorem d_LogFs_link_58 : decode b_LogFs_link 58 = .ok (.aload_n 0, 1) := by decide +kernel
theorem d_LogFs_link_59 : decode b_LogFs_link 59 = .ok (.getfield 28, 3) := by decide +kernel
theorem d_LogFs_link_62 : decode b_LogFs_link 62 = .ok (.iload_n 1, 1) := by decide +kernel
theorem d_LogFs_link_63 : decode b_LogFs_link 63 = .ok (.aload_n 0, 1) := by decide +kernel
theorem d_LogFs_link_64 : decode b_LogFs_link 64 = .ok (.getfield 28, 3) := by decide +kernel
theorem d_LogFs_link_67 : decode b_LogFs_link 67 = .ok (.iload_n 1, 1) := by decide +kernel
theorem d_LogFs_link_68 : decode b_LogFs_link 68 = .ok (.invokevirtual 62, 3) := by decide +kernel
theorem d_LogFs_link_71 : decode b_LogFs_link 71 = .ok (.iload 4, 2) := by decide +kernel
theorem d_LogFs_link_73 : decode b_LogFs_link 73 = .ok (.lload_n 2, 1) := by decide +kernel
theorem d_LogFs_link_74 : decode b_LogFs_link 74 = .ok (.invokestatic 66, 3) := by decide +kernel
theorem d_LogFs_link_77 : decode b_LogFs_link 77 = .ok (.bipush 8, 2) := by decide +kernel
theorem d_LogFs_link_79 : decode b_LogFs_link 79 = .ok (.invokevirtual 70, 3) := by decide +kernel
theorem d_LogFs_link_82 : decode b_LogFs_link 82 = .ok (.iconst 1, 1) := by decide +kernel
theorem d_LogFs_link_83 : decode b_LogFs_link 83 = .ok (.ireturn, 1) := by decide +kernel
theorem d_LogFs_unlink_0 : decode b_LogFs_unlink 0 = .ok (.aload_n 0, 1) := by decide +kernel
theorem d_LogFs_unlink_1 : decode b_LogFs_unlink 1 = .ok (.invokevirtual 44, 3) := by decide +kernel
theorem d_LogFs_unlink_4 : decode b_LogFs_unlink 4 = .ok (.aload_n 0, 1) := by decide +kernel
theorem d_LogFs_unlink_5 : decode b_LogFs_unlink 5 = .ok (.getfield 28, 3) := by decide +kernel
theorem d_LogFs_unlink_8 : decode b_LogFs_unlink 8 = .ok (.iload_n 1, 1) := by decide +kernel
theorem d_LogFs_unlink_9 : decode b_LogFs_unlink 9 = .ok (.lload_n 2, 1) := by decide +kernel
theorem d_LogFs_unlink_10 : decode b_LogFs_unlink 10 = .ok (.invokevirtual 85, 3) := by decide +kernel
theorem d_LogFs_unlink_13 : decode b_LogFs_unlink 13 = .ok (.istore 4, 2) := by decide +kernel
theorem d_LogFs_unlink_15 : decode b_LogFs_unlink 15 = .ok (.iload 4, 2) := by decide +kernel
theorem d_LogFs_unlink_17 : decode b_LogFs_unlink 17 = .ok (.iconst (-1), 1) := by decide +kernel
theorem d_LogFs_unlink_18 : decode b_LogFs_unlink 18 = .ok (.if_icmp .ne 5, 3) := by decide +kernel
theorem d_LogFs_unlink_21 : decode b_LogFs_unlink 21 = .ok (.iconst 0, 1) := by decide +kernel
theorem d_LogFs_unlink_22 : decode b_LogFs_unlink 22 = .ok (.ireturn, 1) := by decide +kernel
theorem d_LogFs_unlink_23 : decode b_LogFs_unlink 23 = .ok (.aload_n 0, 1) := by decide +kernel
theorem d_LogFs_unlink_24 : decode b_LogFs_unlink 24 = .ok (.getfield 28, 3) := by decide +kernel
theorem d_LogFs_unlink_27 : decode b_LogFs_unlink 27 = .ok (.iload_n 1, 1) := by decide +kernel
theorem d_LogFs_unlink_28 : decode b_LogFs_unlink 28 = .ok (.iload 4, 2) := by decide +kernel
theorem d_LogFs_unlink_30 : decode b_LogFs_unlink 30 = .ok (.invokevirtual 89, 3) := by decide +kernel
theorem d_LogFs_unlink_33 : decode b_LogFs_unlink 33 = .ok (.istore 5, 2) := by decide +kernel
theorem d_LogFs_unlink_35 : decode b_LogFs_unlink 35 = .ok (.aload_n 0, 1) := by decide +kernel
theorem d_LogFs_unlink_36 : decode b_LogFs_unlink 36 = .ok (.getfield 28, 3) := by decide +kernel
theorem d_LogFs_unlink_39 : decode b_LogFs_unlink 39 = .ok (.iload 5, 2) := by decide +kernel
theorem d_LogFs_unlink_41 : decode b_LogFs_unlink 41 = .ok (.invokevirtual 93, 3) := by decide +kernel
theorem d_LogFs_unlink_44 : decode b_LogFs_unlink 44 = .ok (.ifCond .le 5, 3) := by decide +kernel
theorem d_LogFs_unlink_47 : decode b_LogFs_unlink 47 = .ok (.iconst 0, 1) := by decide +kernel
theorem d_LogFs_unlink_48 : decode b_LogFs_unlink 48 = .ok (.ireturn, 1) := by decide +kernel
theorem d_LogFs_unlink_49 : decode b_LogFs_unlink 49 = .ok (.aload_n 0, 1) := by decide +kernel
theorem d_LogFs_unlink_50 : decode b_LogFs_unlink 50 = .ok (.invokevirtual 55, 3) := by decide +kernel
theorem d_LogFs_unlink_53 : decode b_LogFs_unlink 53 = .ok (.aload_n 0, 1) := by decide +kernel
theorem d_LogFs_unlink_54 : decode b_LogFs_unlink 54 = .ok (.getfield 28, 3) := by decide +kernel
theorem d_LogFs_unlink_57 : decode b_LogFs_unlink 57 = .ok (.iload_n 1, 1) := by decide +kernel
theorem d_LogFs_unlink_58 : decode b_LogFs_unlink 58 = .ok (.iload 4, 2) := by decide +kernel
theorem d_LogFs_unlink_60 : decode b_LogFs_unlink 60 = .ok (.lconst 0, 1) := by decide +kernel
theorem d_LogFs_unlink_61 : decode b_LogFs_unlink 61 = .ok (.bipush 8, 2) := by decide +kernel
theorem d_LogFs_unlink_63 : decode b_LogFs_unlink 63 = .ok (.invokevirtual 70, 3) := by decide +kernel
theorem d_LogFs_unlink_66 : decode b_LogFs_unlink 66 = .ok (.aload_n 0, 1) := by decide +kernel
theorem d_LogFs_unlink_67 : decode b_LogFs_unlink 67 = .ok (.getfield 28, 3) := by decide +kernel
theorem d_LogFs_unlink_70 : decode b_LogFs_unlink 70 = .ok (.iload 5, 2) := by decide +kernel
theorem d_LogFs_unlink_72 : decode b_LogFs_unlink 72 = .ok (.invokevirtual 96, 3) := by decide +kernel
theorem d_LogFs_unlink_75 : decode b_LogFs_unlink 75 = .ok (.iconst 1, 1) := by decide +kernel
theorem d_LogFs_unlink_76 : decode b_LogFs_unlink 76 = .ok (.ireturn, 1) := by decide +kernel
theorem d_LogFs_write_0 : decode b_LogFs_write 0 = .ok (.aload_n 0, 1) := by decide +kernel
theorem d_LogFs_write_1 : decode b_LogFs_write 1 = .ok (.invokevirtual 44, 3) := by decide +kernel
theorem d_LogFs_write_4 : decode b_LogFs_write 4 = .ok (.iload 5, 2) := by decide +kernel
theorem d_LogFs_write_6 : decode b_LogFs_write 6 = .ok (.iconst 1, 1) := by decide +kernel
theorem d_LogFs_write_7 : decode b_LogFs_write 7 = .ok (.if_icmp .lt 24, 3) := by decide +kernel
theorem d_LogFs_write_10 : decode b_LogFs_write 10 = .ok (.iload 5, 2) := by decide +kernel
theorem d_LogFs_write_12 : decode b_LogFs_write 12 = .ok (.bipush 8, 2) := by decide +kernel
theorem d_LogFs_write_14 : decode b_LogFs_write 14 = .ok (.if_icmp .gt 17, 3) := by decide +kernel
theorem d_LogFs_write_17 : decode b_LogFs_write 17 = .ok (.aload_n 0, 1) := by decide +kernel
theorem d_LogFs_write_18 : decode b_LogFs_write 18 = .ok (.getfield 28, 3) := by decide +kernel
theorem d_LogFs_write_21 : decode b_LogFs_write 21 = .ok (.iload_n 1, 1) := by decide +kernel
theorem d_LogFs_write_22 : decode b_LogFs_write 22 = .ok (.iload_n 2, 1) := by decide +kernel
theorem d_LogFs_write_23 : decode b_LogFs_write 23 = .ok (.iload 5, 2) := by decide +kernel
theorem d_LogFs_write_25 : decode b_LogFs_write 25 = .ok (.invokevirtual 99, 3) := by decide +kernel
theorem d_LogFs_write_28 : decode b_LogFs_write 28 = .ok (.ifCond .ne 5, 3) := by decide +kernel
theorem d_LogFs_write_31 : decode b_LogFs_write 31 = .ok (.iconst (-1), 1) := by decide +kernel
theorem d_LogFs_write_32 : decode b_LogFs_write 32 = .ok (.ireturn, 1) := by decide +kernel
theorem d_LogFs_write_33 : decode b_LogFs_write 33 = .ok (.aload_n 0, 1) := by decide +kernel
theorem d_LogFs_write_34 : decode b_LogFs_write 34 = .ok (.invokevirtual 55, 3) := by decide +kernel
theorem d_LogFs_write_37 : decode b_LogFs_write 37 = .ok (.aload_n 0, 1) := by decide +kernel
theorem d_LogFs_write_38 : decode b_LogFs_write 38 = .ok (.getfield 28, 3) := by decide +kernel
theorem d_LogFs_write_41 : decode b_LogFs_write 41 = .ok (.iload_n 1, 1) := by decide +kernel
theorem d_LogFs_write_42 : decode b_LogFs_write 42 = .ok (.iload_n 2, 1) := by decide +kernel
theorem d_LogFs_write_43 : decode b_LogFs_write 43 = .ok (.lload_n 3, 1) := by decide +kernel
theorem d_LogFs_write_44 : decode b_LogFs_write 44 = .ok (.iload 5, 2) := by decide +kernel
theorem d_LogFs_write_46 : decode b_LogFs_write 46 = .ok (.invokevirtual 70, 3) := by decide +kernel
theorem d_LogFs_write_49 : decode b_LogFs_write 49 = .ok (.aload_n 0, 1) := by decide +kernel
theorem d_LogFs_write_50 : decode b_LogFs_write 50 = .ok (.getfield 28, 3) := by decide +kernel
theorem d_LogFs_write_53 : decode b_LogFs_write 53 = .ok (.iload_n 1, 1) := by decide +kernel
theorem d_LogFs_write_54 : decode b_LogFs_write 54 = .ok (.invokevirtual 103, 3) := by decide +kernel
theorem d_LogFs_write_57 : decode b_LogFs_write 57 = .ok (.ireturn, 1) := by decide +kernel
theorem d_LogFs_fill_0 : decode b_LogFs_fill 0 = .ok (.aload_n 0, 1) := by decide +kernel
theorem d_LogFs_fill_1 : decode b_LogFs_fill 1 = .ok (.invokevirtual 44, 3) := by decide +kernel
theorem d_LogFs_fill_4 : decode b_LogFs_fill 4 = .ok (.iload_n 3, 1) := by decide +kernel
theorem d_LogFs_fill_5 : decode b_LogFs_fill 5 = .ok (.ifCond .lt 37, 3) := by decide +kernel
theorem d_LogFs_fill_8 : decode b_LogFs_fill 8 = .ok (.iload_n 3, 1) := by decide +kernel
theorem d_LogFs_fill_9 : decode b_LogFs_fill 9 = .ok (.sipush 255, 3) := by decide +kernel
theorem d_LogFs_fill_12 : decode b_LogFs_fill 12 = .ok (.if_icmp .gt 30, 3) := by decide +kernel
theorem d_LogFs_fill_15 : decode b_LogFs_fill 15 = .ok (.iload 4, 2) := by decide +kernel
theorem d_LogFs_fill_17 : decode b_LogFs_fill 17 = .ok (.iconst 1, 1) := by decide +kernel
theorem d_LogFs_fill_18 : decode b_LogFs_fill 18 = .ok (.if_icmp .lt 24, 3) := by decide +kernel
theorem d_LogFs_fill_21 : decode b_LogFs_fill 21 = .ok (.iload 4, 2) := by decide +kernel
theorem d_LogFs_fill_23 : decode b_LogFs_fill 23 = .ok (.bipush 64, 2) := by decide +kernel
theorem d_LogFs_fill_25 : decode b_LogFs_fill 25 = .ok (.if_icmp .gt 17, 3) := by decide +kernel
theorem d_LogFs_fill_28 : decode b_LogFs_fill 28 = .ok (.aload_n 0, 1) := by decide +kernel
theorem d_LogFs_fill_29 : decode b_LogFs_fill 29 = .ok (.getfield 28, 3) := by decide +kernel
theorem d_LogFs_fill_32 : decode b_LogFs_fill 32 = .ok (.iload_n 1, 1) := by decide +kernel
theorem d_LogFs_fill_33 : decode b_LogFs_fill 33 = .ok (.iload_n 2, 1) := by decide +kernel
theorem d_LogFs_fill_34 : decode b_LogFs_fill 34 = .ok (.iload 4, 2) := by decide +kernel
theorem d_LogFs_fill_36 : decode b_LogFs_fill 36 = .ok (.invokevirtual 99, 3) := by decide +kernel
theorem d_LogFs_fill_39 : decode b_LogFs_fill 39 = .ok (.ifCond .ne 5, 3) := by decide +kernel
theorem d_LogFs_fill_42 : decode b_LogFs_fill 42 = .ok (.iconst (-1), 1) := by decide +kernel
theorem d_LogFs_fill_43 : decode b_LogFs_fill 43 = .ok (.ireturn, 1) := by decide +kernel
theorem d_LogFs_fill_44 : decode b_LogFs_fill 44 = .ok (.aload_n 0, 1) := by decide +kernel
theorem d_LogFs_fill_45 : decode b_LogFs_fill 45 = .ok (.invokevirtual 55, 3) := by decide +kernel
theorem d_LogFs_fill_48 : decode b_LogFs_fill 48 = .ok (.aload_n 0, 1) := by decide +kernel
theorem d_LogFs_fill_49 : decode b_LogFs_fill 49 = .ok (.getfield 28, 3) := by decide +kernel
theorem d_LogFs_fill_52 : decode b_LogFs_fill 52 = .ok (.iload_n 1, 1) := by decide +kernel
theorem d_LogFs_fill_53 : decode b_LogFs_fill 53 = .ok (.iload_n 2, 1) := by decide +kernel
theorem d_LogFs_fill_54 : decode b_LogFs_fill 54 = .ok (.iload_n 3, 1) := by decide +kernel
theorem d_LogFs_fill_55 : decode b_LogFs_fill 55 = .ok (.iload 4, 2) := by decide +kernel
theorem d_LogFs_fill_57 : decode b_LogFs_fill 57 = .ok (.invokevirtual 106, 3) := by decide +kernel
theorem d_LogFs_fill_60 : decode b_LogFs_fill 60 = .ok (.aload_n 0, 1) := by decide +kernel
theorem d_LogFs_fill_61 : decode b_LogFs_fill 61 = .ok (.getfield 28, 3) := by decide +kernel
theorem d_LogFs_fill_64 : decode b_LogFs_fill 64 = .ok (.iload_n 1, 1) := by decide +kernel
theorem d_LogFs_fill_65 : decode b_LogFs_fill 65 = .ok (.invokevirtual 103, 3) := by decide +kernel
theorem d_LogFs_fill_68 : decode b_LogFs_fill 68 = .ok (.ireturn, 1) := by decide +kernel
theorem d_LogFs_truncate_0 : decode b_LogFs_truncate 0 = .ok (.aload_n 0, 1) := by decide +kernel
theorem d_LogFs_truncate_1 : decode b_LogFs_truncate 1 = .ok (.invokevirtual 44, 3) := by decide +kernel
theorem d_LogFs_truncate_4 : decode b_LogFs_truncate 4 = .ok (.aload_n 0, 1) := by decide +kernel
theorem d_LogFs_truncate_5 : decode b_LogFs_truncate 5 = .ok (.getfield 28, 3) := by decide +kernel
theorem d_LogFs_truncate_8 : decode b_LogFs_truncate 8 = .ok (.iload_n 1, 1) := by decide +kernel
theorem d_LogFs_truncate_9 : decode b_LogFs_truncate 9 = .ok (.invokevirtual 74, 3) := by decide +kernel
theorem d_LogFs_truncate_12 : decode b_LogFs_truncate 12 = .ok (.ifCond .eq 14, 3) := by decide +kernel
theorem d_LogFs_truncate_15 : decode b_LogFs_truncate 15 = .ok (.aload_n 0, 1) := by decide +kernel
theorem d_LogFs_truncate_16 : decode b_LogFs_truncate 16 = .ok (.getfield 28, 3) := by decide +kernel
theorem d_LogFs_truncate_19 : decode b_LogFs_truncate 19 = .ok (.iload_n 1, 1) := by decide +kernel
theorem d_LogFs_truncate_20 : decode b_LogFs_truncate 20 = .ok (.invokevirtual 103, 3) := by decide +kernel
theorem d_LogFs_truncate_23 : decode b_LogFs_truncate 23 = .ok (.ifCond .ne 5, 3) := by decide +kernel
theorem d_LogFs_truncate_26 : decode b_LogFs_truncate 26 = .ok (.iconst 0, 1) := by decide +kernel
theorem d_LogFs_truncate_27 : decode b_LogFs_truncate 27 = .ok (.ireturn, 1) := by decide +kernel
theorem d_LogFs_truncate_28 : decode b_LogFs_truncate 28 = .ok (.aload_n 0, 1) := by decide +kernel
theorem d_LogFs_truncate_29 : decode b_LogFs_truncate 29 = .ok (.invokevirtual 55, 3) := by decide +kernel
theorem d_LogFs_truncate_32 : decode b_LogFs_truncate 32 = .ok (.aload_n 0, 1) := by decide +kernel
theorem d_LogFs_truncate_33 : decode b_LogFs_truncate 33 = .ok (.getfield 28, 3) := by decide +kernel
theorem d_LogFs_truncate_36 : decode b_LogFs_truncate 36 = .ok (.iload_n 1, 1) := by decide +kernel
theorem d_LogFs_truncate_37 : decode b_LogFs_truncate 37 = .ok (.invokevirtual 110, 3) := by decide +kernel
theorem d_LogFs_truncate_40 : decode b_LogFs_truncate 40 = .ok (.iconst 1, 1) := by decide +kernel
theorem d_LogFs_truncate_41 : decode b_LogFs_truncate 41 = .ok (.ireturn, 1) := by decide +kernel
theorem d_LogFs_sync_0 : decode b_LogFs_sync 0 = .ok (.aload_n 0, 1) := by decide +kernel
theorem d_LogFs_sync_1 : decode b_LogFs_sync 1 = .ok (.invokevirtual 44, 3) := by decide +kernel
theorem d_LogFs_sync_4 : decode b_LogFs_sync 4 = .ok (.aload_n 0, 1) := by decide +kernel
theorem d_LogFs_sync_5 : decode b_LogFs_sync 5 = .ok (.getfield 10, 3) := by decide +kernel
theorem d_LogFs_sync_8 : decode b_LogFs_sync 8 = .ok (.getfield 113, 3) := by decide +kernel
theorem d_LogFs_sync_11 : decode b_LogFs_sync 11 = .ok (.istore_n 1, 1) := by decide +kernel
theorem d_LogFs_sync_12 : decode b_LogFs_sync 12 = .ok (.aload_n 0, 1) := by decide +kernel
theorem d_LogFs_sync_13 : decode b_LogFs_sync 13 = .ok (.invokevirtual 116, 3) := by decide +kernel
theorem d_LogFs_sync_16 : decode b_LogFs_sync 16 = .ok (.aload_n 0, 1) := by decide +kernel
theorem d_LogFs_sync_17 : decode b_LogFs_sync 17 = .ok (.getfield 10, 3) := by decide +kernel
theorem d_LogFs_sync_20 : decode b_LogFs_sync 20 = .ok (.getfield 113, 3) := by decide +kernel
theorem d_LogFs_sync_23 : decode b_LogFs_sync 23 = .ok (.iload_n 1, 1) := by decide +kernel
theorem d_LogFs_sync_24 : decode b_LogFs_sync 24 = .ok (.isub, 1) := by decide +kernel
theorem d_LogFs_sync_25 : decode b_LogFs_sync 25 = .ok (.ireturn, 1) := by decide +kernel
theorem d_LogFs_mount_0 : decode b_LogFs_mount 0 = .ok (.aload_n 0, 1) := by decide +kernel
theorem d_LogFs_mount_1 : decode b_LogFs_mount 1 = .ok (.getfield 10, 3) := by decide +kernel
theorem d_LogFs_mount_4 : decode b_LogFs_mount 4 = .ok (.iconst 0, 1) := by decide +kernel
theorem d_LogFs_mount_5 : decode b_LogFs_mount 5 = .ok (.putfield 122, 3) := by decide +kernel
theorem d_LogFs_mount_8 : decode b_LogFs_mount 8 = .ok (.aload_n 0, 1) := by decide +kernel
theorem d_LogFs_mount_9 : decode b_LogFs_mount 9 = .ok (.getfield 10, 3) := by decide +kernel
theorem d_LogFs_mount_12 : decode b_LogFs_mount 12 = .ok (.getfield 36, 3) := by decide +kernel
theorem d_LogFs_mount_15 : decode b_LogFs_mount 15 = .ok (.iconst 1, 1) := by decide +kernel
theorem d_LogFs_mount_16 : decode b_LogFs_mount 16 = .ok (.iconst 0, 1) := by decide +kernel
theorem d_LogFs_mount_17 : decode b_LogFs_mount 17 = .ok (.invokevirtual 126, 3) := by decide +kernel
theorem d_LogFs_mount_20 : decode b_LogFs_mount 20 = .ok (.istore_n 1, 1) := by decide +kernel
theorem d_LogFs_mount_21 : decode b_LogFs_mount 21 = .ok (.iload_n 1, 1) := by decide +kernel
theorem d_LogFs_mount_22 : decode b_LogFs_mount 22 = .ok (.ifCond .le 24, 3) := by decide +kernel
theorem d_LogFs_mount_25 : decode b_LogFs_mount 25 = .ok (.aload_n 0, 1) := by decide +kernel
theorem d_LogFs_mount_26 : decode b_LogFs_mount 26 = .ok (.getfield 10, 3) := by decide +kernel
theorem d_LogFs_mount_29 : decode b_LogFs_mount 29 = .ok (.iload_n 1, 1) := by decide +kernel
theorem d_LogFs_mount_30 : decode b_LogFs_mount 30 = .ok (.invokevirtual 131, 3) := by decide +kernel
theorem d_LogFs_mount_33 : decode b_LogFs_mount 33 = .ok (.ifCond .ne 13, 3) := by decide +kernel
theorem d_LogFs_mount_36 : decode b_LogFs_mount 36 = .ok (.new 134, 3) := by decide +kernel
theorem d_LogFs_mount_39 : decode b_LogFs_mount 39 = .ok (.dup, 1) := by decide +kernel
theorem d_LogFs_mount_40 : decode b_LogFs_mount 40 = .ok (.ldc 136, 2) := by decide +kernel
theorem d_LogFs_mount_42 : decode b_LogFs_mount 42 = .ok (.invokespecial 138, 3) := by decide +kernel
theorem d_LogFs_mount_45 : decode b_LogFs_mount 45 = .ok (.athrow, 1) := by decide +kernel
theorem d_LogFs_mount_46 : decode b_LogFs_mount 46 = .ok (.aload_n 0, 1) := by decide +kernel
theorem d_LogFs_mount_47 : decode b_LogFs_mount 47 = .ok (.getfield 19, 3) := by decide +kernel
theorem d_LogFs_mount_50 : decode b_LogFs_mount 50 = .ok (.aload_n 0, 1) := by decide +kernel
theorem d_LogFs_mount_51 : decode b_LogFs_mount 51 = .ok (.getfield 10, 3) := by decide +kernel
theorem d_LogFs_mount_54 : decode b_LogFs_mount 54 = .ok (.getfield 36, 3) := by decide +kernel
theorem d_LogFs_mount_57 : decode b_LogFs_mount 57 = .ok (.invokevirtual 40, 3) := by decide +kernel
theorem d_LogFs_mount_60 : decode b_LogFs_mount 60 = .ok (.iload_n 1, 1) := by decide +kernel
theorem d_LogFs_mount_61 : decode b_LogFs_mount 61 = .ok (.ireturn, 1) := by decide +kernel
theorem d_LogFs_find_0 : decode b_LogFs_find 0 = .ok (.aload_n 0, 1) := by decide +kernel
theorem d_LogFs_find_1 : decode b_LogFs_find 1 = .ok (.invokevirtual 44, 3) := by decide +kernel
theorem d_LogFs_find_4 : decode b_LogFs_find 4 = .ok (.aload_n 0, 1) := by decide +kernel
theorem d_LogFs_find_5 : decode b_LogFs_find 5 = .ok (.getfield 28, 3) := by decide +kernel
theorem d_LogFs_find_8 : decode b_LogFs_find 8 = .ok (.iload_n 1, 1) := by decide +kernel
theorem d_LogFs_find_9 : decode b_LogFs_find 9 = .ok (.lload_n 2, 1) := by decide +kernel
theorem d_LogFs_find_10 : decode b_LogFs_find 10 = .ok (.invokevirtual 85, 3) := by decide +kernel
theorem d_LogFs_find_13 : decode b_LogFs_find 13 = .ok (.istore 4, 2) := by decide +kernel
theorem d_LogFs_find_15 : decode b_LogFs_find 15 = .ok (.iload 4, 2) := by decide +kernel
theorem d_LogFs_find_17 : decode b_LogFs_find 17 = .ok (.iconst (-1), 1) := by decide +kernel
theorem d_LogFs_find_18 : decode b_LogFs_find 18 = .ok (.if_icmp .ne 7, 3) := by decide +kernel
theorem d_LogFs_find_21 : decode b_LogFs_find 21 = .ok (.iconst (-1), 1) := by decide +kernel
theorem d_LogFs_find_22 : decode b_LogFs_find 22 = .ok (.goto 13, 3) := by decide +kernel
theorem d_LogFs_find_25 : decode b_LogFs_find 25 = .ok (.aload_n 0, 1) := by decide +kernel
theorem d_LogFs_find_26 : decode b_LogFs_find 26 = .ok (.getfield 28, 3) := by decide +kernel
theorem d_LogFs_find_29 : decode b_LogFs_find 29 = .ok (.iload_n 1, 1) := by decide +kernel
theorem d_LogFs_find_30 : decode b_LogFs_find 30 = .ok (.iload 4, 2) := by decide +kernel
theorem d_LogFs_find_32 : decode b_LogFs_find 32 = .ok (.invokevirtual 89, 3) := by decide +kernel
theorem d_LogFs_find_35 : decode b_LogFs_find 35 = .ok (.ireturn, 1) := by decide +kernel
theorem d_LogFs_read_0 : decode b_LogFs_read 0 = .ok (.aload_n 0, 1) := by decide +kernel
theorem d_LogFs_read_1 : decode b_LogFs_read 1 = .ok (.invokevirtual 44, 3) := by decide +kernel
theorem d_LogFs_read_4 : decode b_LogFs_read 4 = .ok (.iload_n 2, 1) := by decide +kernel
theorem d_LogFs_read_5 : decode b_LogFs_read 5 = .ok (.ifCond .lt 15, 3) := by decide +kernel
theorem d_LogFs_read_8 : decode b_LogFs_read 8 = .ok (.iload_n 2, 1) := by decide +kernel
theorem d_LogFs_read_9 : decode b_LogFs_read 9 = .ok (.aload_n 0, 1) := by decide +kernel
theorem d_LogFs_read_10 : decode b_LogFs_read 10 = .ok (.getfield 28, 3) := by decide +kernel
theorem d_LogFs_read_13 : decode b_LogFs_read 13 = .ok (.iload_n 1, 1) := by decide +kernel
theorem d_LogFs_read_14 : decode b_LogFs_read 14 = .ok (.invokevirtual 103, 3) := by decide +kernel
theorem d_LogFs_read_17 : decode b_LogFs_read 17 = .ok (.if_icmp .lt 13, 3) := by decide +kernel
theorem d_LogFs_read_20 : decode b_LogFs_read 20 = .ok (.new 141, 3) := by decide +kernel
theorem d_LogFs_read_23 : decode b_LogFs_read 23 = .ok (.dup, 1) := by decide +kernel
theorem d_LogFs_read_24 : decode b_LogFs_read 24 = .ok (.ldc 143, 2) := by decide +kernel
theorem d_LogFs_read_26 : decode b_LogFs_read 26 = .ok (.invokespecial 145, 3) := by decide +kernel
theorem d_LogFs_read_29 : decode b_LogFs_read 29 = .ok (.athrow, 1) := by decide +kernel
theorem d_LogFs_read_30 : decode b_LogFs_read 30 = .ok (.aload_n 0, 1) := by decide +kernel
theorem d_LogFs_read_31 : decode b_LogFs_read 31 = .ok (.getfield 28, 3) := by decide +kernel
theorem d_LogFs_read_34 : decode b_LogFs_read 34 = .ok (.iload_n 1, 1) := by decide +kernel
theorem d_LogFs_read_35 : decode b_LogFs_read 35 = .ok (.iload_n 2, 1) := by decide +kernel
theorem d_LogFs_read_36 : decode b_LogFs_read 36 = .ok (.invokevirtual 146, 3) := by decide +kernel
theorem d_LogFs_read_39 : decode b_LogFs_read 39 = .ok (.ireturn, 1) := by decide +kernel
theorem d_LogFs_look_0 : decode b_LogFs_look 0 = .ok (.aload_n 0, 1) := by decide +kernel
theorem d_LogFs_look_1 : decode b_LogFs_look 1 = .ok (.invokevirtual 44, 3) := by decide +kernel
theorem d_LogFs_look_4 : decode b_LogFs_look 4 = .ok (.iload_n 1, 1) := by decide +kernel
theorem d_LogFs_look_5 : decode b_LogFs_look 5 = .ok (.invokestatic 149, 3) := by decide +kernel
theorem d_LogFs_look_8 : decode b_LogFs_look 8 = .ok (.ifCond .ne 13, 3) := by decide +kernel
theorem d_LogFs_look_11 : decode b_LogFs_look 11 = .ok (.new 141, 3) := by decide +kernel
theorem d_LogFs_look_14 : decode b_LogFs_look 14 = .ok (.dup, 1) := by decide +kernel
theorem d_LogFs_look_15 : decode b_LogFs_look 15 = .ok (.ldc 152, 2) := by decide +kernel
theorem d_LogFs_look_17 : decode b_LogFs_look 17 = .ok (.invokespecial 145, 3) := by decide +kernel
theorem d_LogFs_look_20 : decode b_LogFs_look 20 = .ok (.athrow, 1) := by decide +kernel
theorem d_LogFs_look_21 : decode b_LogFs_look 21 = .ok (.iload_n 2, 1) := by decide +kernel
theorem d_LogFs_look_22 : decode b_LogFs_look 22 = .ok (.tableswitch 82 0 4 #[34, 43, 52, 61, 73], 34) := by decide +kernel
theorem d_LogFs_look_56 : decode b_LogFs_look 56 = .ok (.aload_n 0, 1) := by decide +kernel
theorem d_LogFs_look_57 : decode b_LogFs_look 57 = .ok (.getfield 28, 3) := by decide +kernel
theorem d_LogFs_look_60 : decode b_LogFs_look 60 = .ok (.iload_n 1, 1) := by decide +kernel
theorem d_LogFs_look_61 : decode b_LogFs_look 61 = .ok (.invokevirtual 154, 3) := by decide +kernel
theorem d_LogFs_look_64 : decode b_LogFs_look 64 = .ok (.ireturn, 1) := by decide +kernel
theorem d_LogFs_look_65 : decode b_LogFs_look 65 = .ok (.aload_n 0, 1) := by decide +kernel
theorem d_LogFs_look_66 : decode b_LogFs_look 66 = .ok (.getfield 28, 3) := by decide +kernel
theorem d_LogFs_look_69 : decode b_LogFs_look 69 = .ok (.iload_n 1, 1) := by decide +kernel
theorem d_LogFs_look_70 : decode b_LogFs_look 70 = .ok (.invokevirtual 78, 3) := by decide +kernel
theorem d_LogFs_look_73 : decode b_LogFs_look 73 = .ok (.ireturn, 1) := by decide +kernel
theorem d_LogFs_look_74 : decode b_LogFs_look 74 = .ok (.aload_n 0, 1) := by decide +kernel
theorem d_LogFs_look_75 : decode b_LogFs_look 75 = .ok (.getfield 28, 3) := by decide +kernel
theorem d_LogFs_look_78 : decode b_LogFs_look 78 = .ok (.iload_n 1, 1) := by decide +kernel
theorem d_LogFs_look_79 : decode b_LogFs_look 79 = .ok (.invokevirtual 103, 3) := by decide +kernel
theorem d_LogFs_look_82 : decode b_LogFs_look 82 = .ok (.ireturn, 1) := by decide +kernel
theorem d_LogFs_look_83 : decode b_LogFs_look 83 = .ok (.aload_n 0, 1) := by decide +kernel
theorem d_LogFs_look_84 : decode b_LogFs_look 84 = .ok (.getfield 28, 3) := by decide +kernel
theorem d_LogFs_look_87 : decode b_LogFs_look 87 = .ok (.iload_n 1, 1) := by decide +kernel
theorem d_LogFs_look_88 : decode b_LogFs_look 88 = .ok (.invokevirtual 103, 3) := by decide +kernel
theorem d_LogFs_look_91 : decode b_LogFs_look 91 = .ok (.invokestatic 157, 3) := by decide +kernel
theorem d_LogFs_look_94 : decode b_LogFs_look 94 = .ok (.ireturn, 1) := by decide +kernel
theorem d_LogFs_look_95 : decode b_LogFs_look 95 = .ok (.aload_n 0, 1) := by decide +kernel
theorem d_LogFs_look_96 : decode b_LogFs_look 96 = .ok (.getfield 28, 3) := by decide +kernel
theorem d_LogFs_look_99 : decode b_LogFs_look 99 = .ok (.iload_n 1, 1) := by decide +kernel
theorem d_LogFs_look_100 : decode b_LogFs_look 100 = .ok (.invokevirtual 93, 3) := by decide +kernel
theorem d_LogFs_look_103 : decode b_LogFs_look 103 = .ok (.ireturn, 1) := by decide +kernel
theorem d_LogFs_look_104 : decode b_LogFs_look 104 = .ok (.new 141, 3) := by decide +kernel
theorem d_LogFs_look_107 : decode b_LogFs_look 107 = .ok (.dup, 1) := by decide +kernel
theorem d_LogFs_look_108 : decode b_LogFs_look 108 = .ok (.ldc 160, 2) := by decide +kernel
theorem d_LogFs_look_110 : decode b_LogFs_look 110 = .ok (.invokespecial 145, 3) := by decide +kernel
theorem d_LogFs_look_113 : decode b_LogFs_look 113 = .ok (.athrow, 1) := by decide +kernel
theorem d_LogFs_disk_0 : decode b_LogFs_disk 0 = .ok (.iload_n 1, 1) := by decide +kernel
theorem d_LogFs_disk_1 : decode b_LogFs_disk 1 = .ok (.iload_n 2, 1) := by decide +kernel
theorem d_LogFs_disk_2 : decode b_LogFs_disk 2 = .ok (.invokestatic 162, 3) := by decide +kernel
theorem d_LogFs_disk_5 : decode b_LogFs_disk 5 = .ok (.aload_n 0, 1) := by decide +kernel
theorem d_LogFs_disk_6 : decode b_LogFs_disk 6 = .ok (.getfield 10, 3) := by decide +kernel
theorem d_LogFs_disk_9 : decode b_LogFs_disk 9 = .ok (.getfield 36, 3) := by decide +kernel
theorem d_LogFs_disk_12 : decode b_LogFs_disk 12 = .ok (.iload_n 1, 1) := by decide +kernel
theorem d_LogFs_disk_13 : decode b_LogFs_disk 13 = .ok (.iload_n 2, 1) := by decide +kernel
theorem d_LogFs_disk_14 : decode b_LogFs_disk 14 = .ok (.invokevirtual 126, 3) := by decide +kernel
theorem d_LogFs_disk_17 : decode b_LogFs_disk 17 = .ok (.ireturn, 1) := by decide +kernel
theorem d_LogFs_requireByte_0 : decode b_LogFs_requireByte 0 = .ok (.iload_n 0, 1) := by decide +kernel
theorem d_LogFs_requireByte_1 : decode b_LogFs_requireByte 1 = .ok (.ifCond .lt 20, 3) := by decide +kernel
theorem d_LogFs_requireByte_4 : decode b_LogFs_requireByte 4 = .ok (.iload_n 0, 1) := by decide +kernel
theorem d_LogFs_requireByte_5 : decode b_LogFs_requireByte 5 = .ok (.sipush 128, 3) := by decide +kernel
theorem d_LogFs_requireByte_8 : decode b_LogFs_requireByte 8 = .ok (.if_icmp .ge 13, 3) := by decide +kernel
theorem d_LogFs_requireByte_11 : decode b_LogFs_requireByte 11 = .ok (.iload_n 1, 1) := by decide +kernel
theorem d_LogFs_requireByte_12 : decode b_LogFs_requireByte 12 = .ok (.ifCond .lt 9, 3) := by decide +kernel
theorem d_LogFs_requireByte_15 : decode b_LogFs_requireByte 15 = .ok (.iload_n 1, 1) := by decide +kernel
theorem d_LogFs_requireByte_16 : decode b_LogFs_requireByte 16 = .ok (.bipush 64, 2) := by decide +kernel
theorem d_LogFs_requireByte_18 : decode b_LogFs_requireByte 18 = .ok (.if_icmp .lt 13, 3) := by decide +kernel
theorem d_LogFs_requireByte_21 : decode b_LogFs_requireByte 21 = .ok (.new 141, 3) := by decide +kernel
theorem d_LogFs_requireByte_24 : decode b_LogFs_requireByte 24 = .ok (.dup, 1) := by decide +kernel
theorem d_LogFs_requireByte_25 : decode b_LogFs_requireByte 25 = .ok (.ldc 186, 2) := by decide +kernel
theorem d_LogFs_requireByte_27 : decode b_LogFs_requireByte 27 = .ok (.invokespecial 145, 3) := by decide +kernel
theorem d_LogFs_requireByte_30 : decode b_LogFs_requireByte 30 = .ok (.athrow, 1) := by decide +kernel
theorem d_LogFs_requireByte_31 : decode b_LogFs_requireByte 31 = .ok (.return_, 1) := by decide +kernel
theorem d_LogFs_memory_0 : decode b_LogFs_memory 0 = .ok (.aload_n 0, 1) := by decide +kernel
theorem d_LogFs_memory_1 : decode b_LogFs_memory 1 = .ok (.invokevirtual 44, 3) := by decide +kernel
theorem d_LogFs_memory_4 : decode b_LogFs_memory 4 = .ok (.iload_n 1, 1) := by decide +kernel
theorem d_LogFs_memory_5 : decode b_LogFs_memory 5 = .ok (.iload_n 2, 1) := by decide +kernel
theorem d_LogFs_memory_6 : decode b_LogFs_memory 6 = .ok (.invokestatic 162, 3) := by decide +kernel
theorem d_LogFs_memory_9 : decode b_LogFs_memory 9 = .ok (.aload_n 0, 1) := by decide +kernel
theorem d_LogFs_memory_10 : decode b_LogFs_memory 10 = .ok (.getfield 19, 3) := by decide +kernel
theorem d_LogFs_memory_13 : decode b_LogFs_memory 13 = .ok (.getfield 165, 3) := by decide +kernel
theorem d_LogFs_memory_16 : decode b_LogFs_memory 16 = .ok (.iload_n 1, 1) := by decide +kernel
theorem d_LogFs_memory_17 : decode b_LogFs_memory 17 = .ok (.iload_n 2, 1) := by decide +kernel
theorem d_LogFs_memory_18 : decode b_LogFs_memory 18 = .ok (.invokevirtual 126, 3) := by decide +kernel
theorem d_LogFs_memory_21 : decode b_LogFs_memory 21 = .ok (.ireturn, 1) := by decide +kernel
theorem d_Volume_init_0 : decode b_Volume_init 0 = .ok (.aload_n 0, 1) := by decide +kernel
theorem d_Volume_init_1 : decode b_Volume_init 1 = .ok (.invokespecial 3, 3) := by decide +kernel
theorem d_Volume_init_4 : decode b_Volume_init 4 = .ok (.aload_n 0, 1) := by decide +kernel
theorem d_Volume_init_5 : decode b_Volume_init 5 = .ok (.aload_n 1, 1) := by decide +kernel
theorem d_Volume_init_6 : decode b_Volume_init 6 = .ok (.putfield 9, 3) := by decide +kernel
theorem d_Volume_init_9 : decode b_Volume_init 9 = .ok (.aload_n 0, 1) := by decide +kernel
theorem d_Volume_init_10 : decode b_Volume_init 10 = .ok (.aload_n 1, 1) := by decide +kernel
theorem d_Volume_init_11 : decode b_Volume_init 11 = .ok (.getfield 15, 3) := by decide +kernel
theorem d_Volume_init_14 : decode b_Volume_init 14 = .ok (.putfield 21, 3) := by decide +kernel
theorem d_Volume_init_17 : decode b_Volume_init 17 = .ok (.return_, 1) := by decide +kernel
theorem d_Volume_freeBlocks_0 : decode b_Volume_freeBlocks 0 = .ok (.sipush 128, 3) := by decide +kernel
theorem d_Volume_freeBlocks_3 : decode b_Volume_freeBlocks 3 = .ok (.istore_n 1, 1) := by decide +kernel
theorem d_Volume_freeBlocks_4 : decode b_Volume_freeBlocks 4 = .ok (.iconst 0, 1) := by decide +kernel
theorem d_Volume_freeBlocks_5 : decode b_Volume_freeBlocks 5 = .ok (.istore_n 2, 1) := by decide +kernel
theorem d_Volume_freeBlocks_6 : decode b_Volume_freeBlocks 6 = .ok (.iload_n 2, 1) := by decide +kernel
theorem d_Volume_freeBlocks_7 : decode b_Volume_freeBlocks 7 = .ok (.bipush 16, 2) := by decide +kernel
theorem d_Volume_freeBlocks_9 : decode b_Volume_freeBlocks 9 = .ok (.if_icmp .ge 25, 3) := by decide +kernel
theorem d_Volume_freeBlocks_12 : decode b_Volume_freeBlocks 12 = .ok (.iload_n 1, 1) := by decide +kernel
theorem d_Volume_freeBlocks_13 : decode b_Volume_freeBlocks 13 = .ok (.aload_n 0, 1) := by decide +kernel
theorem d_Volume_freeBlocks_14 : decode b_Volume_freeBlocks 14 = .ok (.getfield 21, 3) := by decide +kernel
theorem d_Volume_freeBlocks_17 : decode b_Volume_freeBlocks 17 = .ok (.bipush 25, 2) := by decide +kernel
theorem d_Volume_freeBlocks_19 : decode b_Volume_freeBlocks 19 = .ok (.iload_n 2, 1) := by decide +kernel
theorem d_Volume_freeBlocks_20 : decode b_Volume_freeBlocks 20 = .ok (.invokevirtual 30, 3) := by decide +kernel
theorem d_Volume_freeBlocks_23 : decode b_Volume_freeBlocks 23 = .ok (.invokestatic 35, 3) := by decide +kernel
theorem d_Volume_freeBlocks_26 : decode b_Volume_freeBlocks 26 = .ok (.isub, 1) := by decide +kernel
theorem d_Volume_freeBlocks_27 : decode b_Volume_freeBlocks 27 = .ok (.istore_n 1, 1) := by decide +kernel
theorem d_Volume_freeBlocks_28 : decode b_Volume_freeBlocks 28 = .ok (.iinc 2 1, 3) := by decide +kernel
theorem d_Volume_freeBlocks_31 : decode b_Volume_freeBlocks 31 = .ok (.goto (-25), 3) := by decide +kernel
theorem d_Volume_freeBlocks_34 : decode b_Volume_freeBlocks 34 = .ok (.iload_n 1, 1) := by decide +kernel
theorem d_Volume_freeBlocks_35 : decode b_Volume_freeBlocks 35 = .ok (.ireturn, 1) := by decide +kernel
theorem d_Volume_freeInodes_0 : decode b_Volume_freeInodes 0 = .ok (.iconst 0, 1) := by decide +kernel
theorem d_Volume_freeInodes_1 : decode b_Volume_freeInodes 1 = .ok (.istore_n 1, 1) := by decide +kernel
theorem d_Volume_freeInodes_2 : decode b_Volume_freeInodes 2 = .ok (.iconst 0, 1) := by decide +kernel
theorem d_Volume_freeInodes_3 : decode b_Volume_freeInodes 3 = .ok (.istore_n 2, 1) := by decide +kernel
theorem d_Volume_freeInodes_4 : decode b_Volume_freeInodes 4 = .ok (.iload_n 2, 1) := by decide +kernel
theorem d_Volume_freeInodes_5 : decode b_Volume_freeInodes 5 = .ok (.bipush 32, 2) := by decide +kernel
theorem d_Volume_freeInodes_7 : decode b_Volume_freeInodes 7 = .ok (.if_icmp .ge 20, 3) := by decide +kernel
theorem d_Volume_freeInodes_10 : decode b_Volume_freeInodes 10 = .ok (.aload_n 0, 1) := by decide +kernel
theorem d_Volume_freeInodes_11 : decode b_Volume_freeInodes 11 = .ok (.iload_n 2, 1) := by decide +kernel
theorem d_Volume_freeInodes_12 : decode b_Volume_freeInodes 12 = .ok (.invokevirtual 26, 3) := by decide +kernel
theorem d_Volume_freeInodes_15 : decode b_Volume_freeInodes 15 = .ok (.ifCond .ne 6, 3) := by decide +kernel
theorem d_Volume_freeInodes_18 : decode b_Volume_freeInodes 18 = .ok (.iinc 1 1, 3) := by decide +kernel
theorem d_Volume_freeInodes_21 : decode b_Volume_freeInodes 21 = .ok (.iinc 2 1, 3) := by decide +kernel
theorem d_Volume_freeInodes_24 : decode b_Volume_freeInodes 24 = .ok (.goto (-20), 3) := by decide +kernel
theorem d_Volume_freeInodes_27 : decode b_Volume_freeInodes 27 = .ok (.iload_n 1, 1) := by decide +kernel
theorem d_Volume_freeInodes_28 : decode b_Volume_freeInodes 28 = .ok (.ireturn, 1) := by decide +kernel
theorem d_Volume_type_0 : decode b_Volume_type 0 = .ok (.aload_n 0, 1) := by decide +kernel
theorem d_Volume_type_1 : decode b_Volume_type 1 = .ok (.iload_n 1, 1) := by decide +kernel
theorem d_Volume_type_2 : decode b_Volume_type 2 = .ok (.iconst 0, 1) := by decide +kernel
theorem d_Volume_type_3 : decode b_Volume_type 3 = .ok (.invokevirtual 22, 3) := by decide +kernel
theorem d_Volume_type_6 : decode b_Volume_type 6 = .ok (.ireturn, 1) := by decide +kernel
theorem d_Volume_inodeByte_0 : decode b_Volume_inodeByte 0 = .ok (.iload_n 1, 1) := by decide +kernel
theorem d_Volume_inodeByte_1 : decode b_Volume_inodeByte 1 = .ok (.invokestatic 100, 3) := by decide +kernel
theorem d_Volume_inodeByte_4 : decode b_Volume_inodeByte 4 = .ok (.ifCond .ne 5, 3) := by decide +kernel
theorem d_Volume_inodeByte_7 : decode b_Volume_inodeByte 7 = .ok (.iconst 0, 1) := by decide +kernel
theorem d_Volume_inodeByte_8 : decode b_Volume_inodeByte 8 = .ok (.ireturn, 1) := by decide +kernel
theorem d_Volume_inodeByte_9 : decode b_Volume_inodeByte 9 = .ok (.aload_n 0, 1) := by decide +kernel
theorem d_Volume_inodeByte_10 : decode b_Volume_inodeByte 10 = .ok (.getfield 21, 3) := by decide +kernel
theorem d_Volume_inodeByte_13 : decode b_Volume_inodeByte 13 = .ok (.bipush 17, 2) := by decide +kernel
theorem d_Volume_inodeByte_15 : decode b_Volume_inodeByte 15 = .ok (.iload_n 1, 1) := by decide +kernel
theorem d_Volume_inodeByte_16 : decode b_Volume_inodeByte 16 = .ok (.iconst 4, 1) := by decide +kernel
theorem d_Volume_inodeByte_17 : decode b_Volume_inodeByte 17 = .ok (.idiv, 1) := by decide +kernel
theorem d_Volume_inodeByte_18 : decode b_Volume_inodeByte 18 = .ok (.iadd, 1) := by decide +kernel
theorem d_Volume_inodeByte_19 : decode b_Volume_inodeByte 19 = .ok (.iload_n 1, 1) := by decide +kernel
theorem d_Volume_inodeByte_20 : decode b_Volume_inodeByte 20 = .ok (.iconst 4, 1) := by decide +kernel
theorem d_Volume_inodeByte_21 : decode b_Volume_inodeByte 21 = .ok (.irem, 1) := by decide +kernel
theorem d_Volume_inodeByte_22 : decode b_Volume_inodeByte 22 = .ok (.bipush 16, 2) := by decide +kernel
theorem d_Volume_inodeByte_24 : decode b_Volume_inodeByte 24 = .ok (.imul, 1) := by decide +kernel
theorem d_Volume_inodeByte_25 : decode b_Volume_inodeByte 25 = .ok (.iload_n 2, 1) := by decide +kernel
theorem d_Volume_inodeByte_26 : decode b_Volume_inodeByte 26 = .ok (.iadd, 1) := by decide +kernel
theorem d_Volume_inodeByte_27 : decode b_Volume_inodeByte 27 = .ok (.invokevirtual 30, 3) := by decide +kernel
theorem d_Volume_inodeByte_30 : decode b_Volume_inodeByte 30 = .ok (.ireturn, 1) := by decide +kernel
theorem d_Volume_leastFreeInode_0 : decode b_Volume_leastFreeInode 0 = .ok (.iconst 0, 1) := by decide +kernel
theorem d_Volume_leastFreeInode_1 : decode b_Volume_leastFreeInode 1 = .ok (.istore_n 1, 1) := by decide +kernel
theorem d_Volume_leastFreeInode_2 : decode b_Volume_leastFreeInode 2 = .ok (.iload_n 1, 1) := by decide +kernel
theorem d_Volume_leastFreeInode_3 : decode b_Volume_leastFreeInode 3 = .ok (.bipush 32, 2) := by decide +kernel
theorem d_Volume_leastFreeInode_5 : decode b_Volume_leastFreeInode 5 = .ok (.if_icmp .ge 19, 3) := by decide +kernel
theorem d_Volume_leastFreeInode_8 : decode b_Volume_leastFreeInode 8 = .ok (.aload_n 0, 1) := by decide +kernel
theorem d_Volume_leastFreeInode_9 : decode b_Volume_leastFreeInode 9 = .ok (.iload_n 1, 1) := by decide +kernel
theorem d_Volume_leastFreeInode_10 : decode b_Volume_leastFreeInode 10 = .ok (.invokevirtual 26, 3) := by decide +kernel
theorem d_Volume_leastFreeInode_13 : decode b_Volume_leastFreeInode 13 = .ok (.ifCond .ne 5, 3) := by decide +kernel
theorem d_Volume_leastFreeInode_16 : decode b_Volume_leastFreeInode 16 = .ok (.iload_n 1, 1) := by decide +kernel
theorem d_Volume_leastFreeInode_17 : decode b_Volume_leastFreeInode 17 = .ok (.ireturn, 1) := by decide +kernel
theorem d_Volume_leastFreeInode_18 : decode b_Volume_leastFreeInode 18 = .ok (.iinc 1 1, 3) := by decide +kernel
theorem d_Volume_leastFreeInode_21 : decode b_Volume_leastFreeInode 21 = .ok (.goto (-19), 3) := by decide +kernel
theorem d_Volume_leastFreeInode_24 : decode b_Volume_leastFreeInode 24 = .ok (.iconst (-1), 1) := by decide +kernel
theorem d_Volume_leastFreeInode_25 : decode b_Volume_leastFreeInode 25 = .ok (.ireturn, 1) := by decide +kernel
theorem d_Volume_canEnter_0 : decode b_Volume_canEnter 0 = .ok (.aload_n 0, 1) := by decide +kernel
theorem d_Volume_canEnter_1 : decode b_Volume_canEnter 1 = .ok (.iload_n 1, 1) := by decide +kernel
theorem d_Volume_canEnter_2 : decode b_Volume_canEnter 2 = .ok (.invokevirtual 43, 3) := by decide +kernel
theorem d_Volume_canEnter_5 : decode b_Volume_canEnter 5 = .ok (.ifCond .eq 40, 3) := by decide +kernel
theorem d_Volume_canEnter_8 : decode b_Volume_canEnter 8 = .ok (.lload_n 2, 1) := by decide +kernel
theorem d_Volume_canEnter_9 : decode b_Volume_canEnter 9 = .ok (.invokestatic 47, 3) := by decide +kernel
theorem d_Volume_canEnter_12 : decode b_Volume_canEnter 12 = .ok (.ifCond .eq 33, 3) := by decide +kernel
theorem d_Volume_canEnter_15 : decode b_Volume_canEnter 15 = .ok (.aload_n 0, 1) := by decide +kernel
theorem d_Volume_canEnter_16 : decode b_Volume_canEnter 16 = .ok (.iload_n 1, 1) := by decide +kernel
theorem d_Volume_canEnter_17 : decode b_Volume_canEnter 17 = .ok (.lload_n 2, 1) := by decide +kernel
theorem d_Volume_canEnter_18 : decode b_Volume_canEnter 18 = .ok (.invokevirtual 62, 3) := by decide +kernel
theorem d_Volume_canEnter_21 : decode b_Volume_canEnter 21 = .ok (.iconst (-1), 1) := by decide +kernel
theorem d_Volume_canEnter_22 : decode b_Volume_canEnter 22 = .ok (.if_icmp .ne 23, 3) := by decide +kernel
theorem d_Volume_canEnter_25 : decode b_Volume_canEnter 25 = .ok (.aload_n 0, 1) := by decide +kernel
theorem d_Volume_canEnter_26 : decode b_Volume_canEnter 26 = .ok (.iload_n 1, 1) := by decide +kernel
theorem d_Volume_canEnter_27 : decode b_Volume_canEnter 27 = .ok (.aload_n 0, 1) := by decide +kernel
theorem d_Volume_canEnter_28 : decode b_Volume_canEnter 28 = .ok (.iload_n 1, 1) := by decide +kernel
theorem d_Volume_canEnter_29 : decode b_Volume_canEnter 29 = .ok (.invokevirtual 66, 3) := by decide +kernel
theorem d_Volume_canEnter_32 : decode b_Volume_canEnter 32 = .ok (.bipush 8, 2) := by decide +kernel
theorem d_Volume_canEnter_34 : decode b_Volume_canEnter 34 = .ok (.iadd, 1) := by decide +kernel
theorem d_Volume_canEnter_35 : decode b_Volume_canEnter 35 = .ok (.invokevirtual 69, 3) := by decide +kernel
theorem d_Volume_canEnter_38 : decode b_Volume_canEnter 38 = .ok (.ifCond .eq 7, 3) := by decide +kernel
theorem d_Volume_canEnter_41 : decode b_Volume_canEnter 41 = .ok (.iconst 1, 1) := by decide +kernel
theorem d_Volume_canEnter_42 : decode b_Volume_canEnter 42 = .ok (.goto 4, 3) := by decide +kernel
theorem d_Volume_canEnter_45 : decode b_Volume_canEnter 45 = .ok (.iconst 0, 1) := by decide +kernel
theorem d_Volume_canEnter_46 : decode b_Volume_canEnter 46 = .ok (.ireturn, 1) := by decide +kernel
theorem d_Volume_isDirectory_0 : decode b_Volume_isDirectory 0 = .ok (.aload_n 0, 1) := by decide +kernel
theorem d_Volume_isDirectory_1 : decode b_Volume_isDirectory 1 = .ok (.iload_n 1, 1) := by decide +kernel
theorem d_Volume_isDirectory_2 : decode b_Volume_isDirectory 2 = .ok (.invokevirtual 26, 3) := by decide +kernel
theorem d_Volume_isDirectory_5 : decode b_Volume_isDirectory 5 = .ok (.iconst 2, 1) := by decide +kernel
theorem d_Volume_isDirectory_6 : decode b_Volume_isDirectory 6 = .ok (.if_icmp .ne 7, 3) := by decide +kernel
theorem d_Volume_isDirectory_9 : decode b_Volume_isDirectory 9 = .ok (.iconst 1, 1) := by decide +kernel
theorem d_Volume_isDirectory_10 : decode b_Volume_isDirectory 10 = .ok (.goto 4, 3) := by decide +kernel
theorem d_Volume_isDirectory_13 : decode b_Volume_isDirectory 13 = .ok (.iconst 0, 1) := by decide +kernel
theorem d_Volume_isDirectory_14 : decode b_Volume_isDirectory 14 = .ok (.ireturn, 1) := by decide +kernel
theorem d_Volume_placeOf_0 : decode b_Volume_placeOf 0 = .ok (.aload_n 0, 1) := by decide +kernel
theorem d_Volume_placeOf_1 : decode b_Volume_placeOf 1 = .ok (.iload_n 1, 1) := by decide +kernel
theorem d_Volume_placeOf_2 : decode b_Volume_placeOf 2 = .ok (.invokevirtual 43, 3) := by decide +kernel
theorem d_Volume_placeOf_5 : decode b_Volume_placeOf 5 = .ok (.ifCond .eq 10, 3) := by decide +kernel
theorem d_Volume_placeOf_8 : decode b_Volume_placeOf 8 = .ok (.lload_n 2, 1) := by decide +kernel
theorem d_Volume_placeOf_9 : decode b_Volume_placeOf 9 = .ok (.invokestatic 47, 3) := by decide +kernel
theorem d_Volume_placeOf_12 : decode b_Volume_placeOf 12 = .ok (.ifCond .ne 5, 3) := by decide +kernel
theorem d_Volume_placeOf_15 : decode b_Volume_placeOf 15 = .ok (.iconst (-1), 1) := by decide +kernel
theorem d_Volume_placeOf_16 : decode b_Volume_placeOf 16 = .ok (.ireturn, 1) := by decide +kernel
theorem d_Volume_placeOf_17 : decode b_Volume_placeOf 17 = .ok (.aload_n 0, 1) := by decide +kernel
theorem d_Volume_placeOf_18 : decode b_Volume_placeOf 18 = .ok (.iload_n 1, 1) := by decide +kernel
theorem d_Volume_placeOf_19 : decode b_Volume_placeOf 19 = .ok (.invokevirtual 51, 3) := by decide +kernel
theorem d_Volume_placeOf_22 : decode b_Volume_placeOf 22 = .ok (.istore 4, 2) := by decide +kernel
theorem d_Volume_placeOf_24 : decode b_Volume_placeOf 24 = .ok (.iconst 0, 1) := by decide +kernel
theorem d_Volume_placeOf_25 : decode b_Volume_placeOf 25 = .ok (.istore 5, 2) := by decide +kernel
theorem d_Volume_placeOf_27 : decode b_Volume_placeOf 27 = .ok (.iload 5, 2) := by decide +kernel
theorem d_Volume_placeOf_29 : decode b_Volume_placeOf 29 = .ok (.iload 4, 2) := by decide +kernel
theorem d_Volume_placeOf_31 : decode b_Volume_placeOf 31 = .ok (.if_icmp .ge 27, 3) := by decide +kernel
theorem d_Volume_placeOf_34 : decode b_Volume_placeOf 34 = .ok (.aload_n 0, 1) := by decide +kernel
theorem d_Volume_placeOf_35 : decode b_Volume_placeOf 35 = .ok (.iload_n 1, 1) := by decide +kernel
theorem d_Volume_placeOf_36 : decode b_Volume_placeOf 36 = .ok (.iload 5, 2) := by decide +kernel
theorem d_Volume_placeOf_38 : decode b_Volume_placeOf 38 = .ok (.invokevirtual 54, 3) := by decide +kernel
theorem d_Volume_placeOf_41 : decode b_Volume_placeOf 41 = .ok (.bipush 8, 2) := by decide +kernel
theorem d_Volume_placeOf_43 : decode b_Volume_placeOf 43 = .ok (.lshl, 1) := by decide +kernel
theorem d_Volume_placeOf_44 : decode b_Volume_placeOf 44 = .ok (.lload_n 2, 1) := by decide +kernel
theorem d_Volume_placeOf_45 : decode b_Volume_placeOf 45 = .ok (.lcmp, 1) := by decide +kernel
theorem d_Volume_placeOf_46 : decode b_Volume_placeOf 46 = .ok (.ifCond .ne 6, 3) := by decide +kernel
theorem d_Volume_placeOf_49 : decode b_Volume_placeOf 49 = .ok (.iload 5, 2) := by decide +kernel
theorem d_Volume_placeOf_51 : decode b_Volume_placeOf 51 = .ok (.ireturn, 1) := by decide +kernel
theorem d_Volume_placeOf_52 : decode b_Volume_placeOf 52 = .ok (.iinc 5 8, 3) := by decide +kernel
theorem d_Volume_placeOf_55 : decode b_Volume_placeOf 55 = .ok (.goto (-28), 3) := by decide +kernel
theorem d_Volume_placeOf_58 : decode b_Volume_placeOf 58 = .ok (.iconst (-1), 1) := by decide +kernel
theorem d_Volume_placeOf_59 : decode b_Volume_placeOf 59 = .ok (.ireturn, 1) := by decide +kernel
theorem d_Volume_size_0 : decode b_Volume_size 0 = .ok (.aload_n 0, 1) := by decide +kernel
theorem d_Volume_size_1 : decode b_Volume_size 1 = .ok (.iload_n 1, 1) := by decide +kernel
theorem d_Volume_size_2 : decode b_Volume_size 2 = .ok (.iconst 2, 1) := by decide +kernel
theorem d_Volume_size_3 : decode b_Volume_size 3 = .ok (.invokevirtual 22, 3) := by decide +kernel
theorem d_Volume_size_6 : decode b_Volume_size 6 = .ok (.bipush 8, 2) := by decide +kernel
theorem d_Volume_size_8 : decode b_Volume_size 8 = .ok (.ishl, 1) := by decide +kernel
theorem d_Volume_size_9 : decode b_Volume_size 9 = .ok (.aload_n 0, 1) := by decide +kernel
theorem d_Volume_size_10 : decode b_Volume_size 10 = .ok (.iload_n 1, 1) := by decide +kernel
theorem d_Volume_size_11 : decode b_Volume_size 11 = .ok (.iconst 3, 1) := by decide +kernel
theorem d_Volume_size_12 : decode b_Volume_size 12 = .ok (.invokevirtual 22, 3) := by decide +kernel
theorem d_Volume_size_15 : decode b_Volume_size 15 = .ok (.ior, 1) := by decide +kernel
theorem d_Volume_size_16 : decode b_Volume_size 16 = .ok (.ireturn, 1) := by decide +kernel
theorem d_Volume_entryAt_0 : decode b_Volume_entryAt 0 = .ok (.aload_n 0, 1) := by decide +kernel
theorem d_Volume_entryAt_1 : decode b_Volume_entryAt 1 = .ok (.iload_n 1, 1) := by decide +kernel
theorem d_Volume_entryAt_2 : decode b_Volume_entryAt 2 = .ok (.iload_n 2, 1) := by decide +kernel
theorem d_Volume_entryAt_3 : decode b_Volume_entryAt 3 = .ok (.bipush 64, 2) := by decide +kernel
theorem d_Volume_entryAt_5 : decode b_Volume_entryAt 5 = .ok (.idiv, 1) := by decide +kernel
theorem d_Volume_entryAt_6 : decode b_Volume_entryAt 6 = .ok (.invokevirtual 40, 3) := by decide +kernel
theorem d_Volume_entryAt_9 : decode b_Volume_entryAt 9 = .ok (.istore_n 3, 1) := by decide +kernel
theorem d_Volume_entryAt_10 : decode b_Volume_entryAt 10 = .ok (.lconst 0, 1) := by decide +kernel
theorem d_Volume_entryAt_11 : decode b_Volume_entryAt 11 = .ok (.lstore 4, 2) := by decide +kernel
theorem d_Volume_entryAt_13 : decode b_Volume_entryAt 13 = .ok (.iconst 0, 1) := by decide +kernel
theorem d_Volume_entryAt_14 : decode b_Volume_entryAt 14 = .ok (.istore 6, 2) := by decide +kernel
theorem d_Volume_entryAt_16 : decode b_Volume_entryAt 16 = .ok (.iload 6, 2) := by decide +kernel
theorem d_Volume_entryAt_18 : decode b_Volume_entryAt 18 = .ok (.bipush 8, 2) := by decide +kernel
theorem d_Volume_entryAt_20 : decode b_Volume_entryAt 20 = .ok (.if_icmp .ge 33, 3) := by decide +kernel
theorem d_Volume_entryAt_23 : decode b_Volume_entryAt 23 = .ok (.lload 4, 2) := by decide +kernel
theorem d_Volume_entryAt_25 : decode b_Volume_entryAt 25 = .ok (.bipush 8, 2) := by decide +kernel
theorem d_Volume_entryAt_27 : decode b_Volume_entryAt 27 = .ok (.lshl, 1) := by decide +kernel
theorem d_Volume_entryAt_28 : decode b_Volume_entryAt 28 = .ok (.aload_n 0, 1) := by decide +kernel
theorem d_Volume_entryAt_29 : decode b_Volume_entryAt 29 = .ok (.getfield 21, 3) := by decide +kernel
theorem d_Volume_entryAt_32 : decode b_Volume_entryAt 32 = .ok (.iload_n 3, 1) := by decide +kernel
theorem d_Volume_entryAt_33 : decode b_Volume_entryAt 33 = .ok (.iload_n 2, 1) := by decide +kernel
theorem d_Volume_entryAt_34 : decode b_Volume_entryAt 34 = .ok (.bipush 64, 2) := by decide +kernel
theorem d_Volume_entryAt_36 : decode b_Volume_entryAt 36 = .ok (.irem, 1) := by decide +kernel
theorem d_Volume_entryAt_37 : decode b_Volume_entryAt 37 = .ok (.iload 6, 2) := by decide +kernel
theorem d_Volume_entryAt_39 : decode b_Volume_entryAt 39 = .ok (.iadd, 1) := by decide +kernel
theorem d_Volume_entryAt_40 : decode b_Volume_entryAt 40 = .ok (.invokevirtual 30, 3) := by decide +kernel
theorem d_Volume_entryAt_43 : decode b_Volume_entryAt 43 = .ok (.i2l, 1) := by decide +kernel
theorem d_Volume_entryAt_44 : decode b_Volume_entryAt 44 = .ok (.lor, 1) := by decide +kernel
theorem d_Volume_entryAt_45 : decode b_Volume_entryAt 45 = .ok (.lstore 4, 2) := by decide +kernel
theorem d_Volume_entryAt_47 : decode b_Volume_entryAt 47 = .ok (.iinc 6 1, 3) := by decide +kernel
theorem d_Volume_entryAt_50 : decode b_Volume_entryAt 50 = .ok (.goto (-34), 3) := by decide +kernel
theorem d_Volume_entryAt_53 : decode b_Volume_entryAt 53 = .ok (.lload 4, 2) := by decide +kernel
theorem d_Volume_entryAt_55 : decode b_Volume_entryAt 55 = .ok (.lreturn, 1) := by decide +kernel
theorem d_Volume_contentBlock_0 : decode b_Volume_contentBlock 0 = .ok (.iload_n 2, 1) := by decide +kernel
theorem d_Volume_contentBlock_1 : decode b_Volume_contentBlock 1 = .ok (.bipush 10, 2) := by decide +kernel
theorem d_Volume_contentBlock_3 : decode b_Volume_contentBlock 3 = .ok (.if_icmp .ge 12, 3) := by decide +kernel
theorem d_Volume_contentBlock_6 : decode b_Volume_contentBlock 6 = .ok (.aload_n 0, 1) := by decide +kernel
theorem d_Volume_contentBlock_7 : decode b_Volume_contentBlock 7 = .ok (.iload_n 1, 1) := by decide +kernel
theorem d_Volume_contentBlock_8 : decode b_Volume_contentBlock 8 = .ok (.iconst 4, 1) := by decide +kernel
theorem d_Volume_contentBlock_9 : decode b_Volume_contentBlock 9 = .ok (.iload_n 2, 1) := by decide +kernel
theorem d_Volume_contentBlock_10 : decode b_Volume_contentBlock 10 = .ok (.iadd, 1) := by decide +kernel
theorem d_Volume_contentBlock_11 : decode b_Volume_contentBlock 11 = .ok (.invokevirtual 22, 3) := by decide +kernel
theorem d_Volume_contentBlock_14 : decode b_Volume_contentBlock 14 = .ok (.ireturn, 1) := by decide +kernel
theorem d_Volume_contentBlock_15 : decode b_Volume_contentBlock 15 = .ok (.aload_n 0, 1) := by decide +kernel
theorem d_Volume_contentBlock_16 : decode b_Volume_contentBlock 16 = .ok (.iload_n 1, 1) := by decide +kernel
theorem d_Volume_contentBlock_17 : decode b_Volume_contentBlock 17 = .ok (.bipush 14, 2) := by decide +kernel
theorem d_Volume_contentBlock_19 : decode b_Volume_contentBlock 19 = .ok (.invokevirtual 22, 3) := by decide +kernel
theorem d_Volume_contentBlock_22 : decode b_Volume_contentBlock 22 = .ok (.istore_n 3, 1) := by decide +kernel
theorem d_Volume_contentBlock_23 : decode b_Volume_contentBlock 23 = .ok (.iload_n 3, 1) := by decide +kernel
theorem d_Volume_contentBlock_24 : decode b_Volume_contentBlock 24 = .ok (.ifCond .ne 7, 3) := by decide +kernel
theorem d_Volume_contentBlock_27 : decode b_Volume_contentBlock 27 = .ok (.iconst 0, 1) := by decide +kernel
theorem d_Volume_contentBlock_28 : decode b_Volume_contentBlock 28 = .ok (.goto 15, 3) := by decide +kernel
theorem d_Volume_contentBlock_31 : decode b_Volume_contentBlock 31 = .ok (.aload_n 0, 1) := by decide +kernel
theorem d_Volume_contentBlock_32 : decode b_Volume_contentBlock 32 = .ok (.getfield 21, 3) := by decide +kernel
theorem d_Volume_contentBlock_35 : decode b_Volume_contentBlock 35 = .ok (.iload_n 3, 1) := by decide +kernel
theorem d_Volume_contentBlock_36 : decode b_Volume_contentBlock 36 = .ok (.iload_n 2, 1) := by decide +kernel
theorem d_Volume_contentBlock_37 : decode b_Volume_contentBlock 37 = .ok (.bipush 10, 2) := by decide +kernel
theorem d_Volume_contentBlock_39 : decode b_Volume_contentBlock 39 = .ok (.isub, 1) := by decide +kernel
theorem d_Volume_contentBlock_40 : decode b_Volume_contentBlock 40 = .ok (.invokevirtual 30, 3) := by decide +kernel
theorem d_Volume_contentBlock_43 : decode b_Volume_contentBlock 43 = .ok (.ireturn, 1) := by decide +kernel
theorem d_Volume_placeForEntry_0 : decode b_Volume_placeForEntry 0 = .ok (.aload_n 0, 1) := by decide +kernel
theorem d_Volume_placeForEntry_1 : decode b_Volume_placeForEntry 1 = .ok (.iload_n 1, 1) := by decide +kernel
theorem d_Volume_placeForEntry_2 : decode b_Volume_placeForEntry 2 = .ok (.invokevirtual 51, 3) := by decide +kernel
theorem d_Volume_placeForEntry_5 : decode b_Volume_placeForEntry 5 = .ok (.istore_n 2, 1) := by decide +kernel
theorem d_Volume_placeForEntry_6 : decode b_Volume_placeForEntry 6 = .ok (.iconst 0, 1) := by decide +kernel
theorem d_Volume_placeForEntry_7 : decode b_Volume_placeForEntry 7 = .ok (.istore_n 3, 1) := by decide +kernel
theorem d_Volume_placeForEntry_8 : decode b_Volume_placeForEntry 8 = .ok (.iload_n 3, 1) := by decide +kernel
theorem d_Volume_placeForEntry_9 : decode b_Volume_placeForEntry 9 = .ok (.iload_n 2, 1) := by decide +kernel
theorem d_Volume_placeForEntry_10 : decode b_Volume_placeForEntry 10 = .ok (.if_icmp .ge 22, 3) := by decide +kernel
theorem d_Volume_placeForEntry_13 : decode b_Volume_placeForEntry 13 = .ok (.aload_n 0, 1) := by decide +kernel
theorem d_Volume_placeForEntry_14 : decode b_Volume_placeForEntry 14 = .ok (.iload_n 1, 1) := by decide +kernel
theorem d_Volume_placeForEntry_15 : decode b_Volume_placeForEntry 15 = .ok (.iload_n 3, 1) := by decide +kernel
theorem d_Volume_placeForEntry_16 : decode b_Volume_placeForEntry 16 = .ok (.invokevirtual 54, 3) := by decide +kernel
theorem d_Volume_placeForEntry_19 : decode b_Volume_placeForEntry 19 = .ok (.lconst 0, 1) := by decide +kernel
theorem d_Volume_placeForEntry_20 : decode b_Volume_placeForEntry 20 = .ok (.lcmp, 1) := by decide +kernel
theorem d_Volume_placeForEntry_21 : decode b_Volume_placeForEntry 21 = .ok (.ifCond .ne 5, 3) := by decide +kernel
theorem d_Volume_placeForEntry_24 : decode b_Volume_placeForEntry 24 = .ok (.iload_n 3, 1) := by decide +kernel
theorem d_Volume_placeForEntry_25 : decode b_Volume_placeForEntry 25 = .ok (.ireturn, 1) := by decide +kernel
theorem d_Volume_placeForEntry_26 : decode b_Volume_placeForEntry 26 = .ok (.iinc 3 8, 3) := by decide +kernel
theorem d_Volume_placeForEntry_29 : decode b_Volume_placeForEntry 29 = .ok (.goto (-21), 3) := by decide +kernel
theorem d_Volume_placeForEntry_32 : decode b_Volume_placeForEntry 32 = .ok (.iload_n 2, 1) := by decide +kernel
theorem d_Volume_placeForEntry_33 : decode b_Volume_placeForEntry 33 = .ok (.ireturn, 1) := by decide +kernel
theorem d_Volume_fits_0 : decode b_Volume_fits 0 = .ok (.iload_n 2, 1) := by decide +kernel
theorem d_Volume_fits_1 : decode b_Volume_fits 1 = .ok (.sipush 1000, 3) := by decide +kernel
theorem d_Volume_fits_4 : decode b_Volume_fits 4 = .ok (.if_icmp .gt 20, 3) := by decide +kernel
theorem d_Volume_fits_7 : decode b_Volume_fits 7 = .ok (.aload_n 0, 1) := by decide +kernel
theorem d_Volume_fits_8 : decode b_Volume_fits 8 = .ok (.iload_n 1, 1) := by decide +kernel
theorem d_Volume_fits_9 : decode b_Volume_fits 9 = .ok (.iload_n 2, 1) := by decide +kernel
theorem d_Volume_fits_10 : decode b_Volume_fits 10 = .ok (.invokevirtual 106, 3) := by decide +kernel
theorem d_Volume_fits_13 : decode b_Volume_fits 13 = .ok (.aload_n 0, 1) := by decide +kernel
theorem d_Volume_fits_14 : decode b_Volume_fits 14 = .ok (.invokevirtual 109, 3) := by decide +kernel
theorem d_Volume_fits_17 : decode b_Volume_fits 17 = .ok (.if_icmp .gt 7, 3) := by decide +kernel
theorem d_Volume_fits_20 : decode b_Volume_fits 20 = .ok (.iconst 1, 1) := by decide +kernel
theorem d_Volume_fits_21 : decode b_Volume_fits 21 = .ok (.goto 4, 3) := by decide +kernel
theorem d_Volume_fits_24 : decode b_Volume_fits 24 = .ok (.iconst 0, 1) := by decide +kernel
theorem d_Volume_fits_25 : decode b_Volume_fits 25 = .ok (.ireturn, 1) := by decide +kernel
theorem d_Volume_blocksToTake_0 : decode b_Volume_blocksToTake 0 = .ok (.aload_n 0, 1) := by decide +kernel
theorem d_Volume_blocksToTake_1 : decode b_Volume_blocksToTake 1 = .ok (.iload_n 1, 1) := by decide +kernel
theorem d_Volume_blocksToTake_2 : decode b_Volume_blocksToTake 2 = .ok (.invokevirtual 51, 3) := by decide +kernel
theorem d_Volume_blocksToTake_5 : decode b_Volume_blocksToTake 5 = .ok (.invokestatic 94, 3) := by decide +kernel
theorem d_Volume_blocksToTake_8 : decode b_Volume_blocksToTake 8 = .ok (.istore_n 3, 1) := by decide +kernel
theorem d_Volume_blocksToTake_9 : decode b_Volume_blocksToTake 9 = .ok (.iload_n 2, 1) := by decide +kernel
theorem d_Volume_blocksToTake_10 : decode b_Volume_blocksToTake 10 = .ok (.invokestatic 94, 3) := by decide +kernel
theorem d_Volume_blocksToTake_13 : decode b_Volume_blocksToTake 13 = .ok (.istore 4, 2) := by decide +kernel
theorem d_Volume_blocksToTake_15 : decode b_Volume_blocksToTake 15 = .ok (.iload 4, 2) := by decide +kernel
theorem d_Volume_blocksToTake_17 : decode b_Volume_blocksToTake 17 = .ok (.iload_n 3, 1) := by decide +kernel
theorem d_Volume_blocksToTake_18 : decode b_Volume_blocksToTake 18 = .ok (.if_icmp .gt 5, 3) := by decide +kernel
theorem d_Volume_blocksToTake_21 : decode b_Volume_blocksToTake 21 = .ok (.iconst 0, 1) := by decide +kernel
theorem d_Volume_blocksToTake_22 : decode b_Volume_blocksToTake 22 = .ok (.ireturn, 1) := by decide +kernel
theorem d_Volume_blocksToTake_23 : decode b_Volume_blocksToTake 23 = .ok (.iload 4, 2) := by decide +kernel
theorem d_Volume_blocksToTake_25 : decode b_Volume_blocksToTake 25 = .ok (.bipush 10, 2) := by decide +kernel
theorem d_Volume_blocksToTake_27 : decode b_Volume_blocksToTake 27 = .ok (.if_icmp .le 13, 3) := by decide +kernel
theorem d_Volume_blocksToTake_30 : decode b_Volume_blocksToTake 30 = .ok (.iload_n 3, 1) := by decide +kernel
theorem d_Volume_blocksToTake_31 : decode b_Volume_blocksToTake 31 = .ok (.bipush 10, 2) := by decide +kernel
theorem d_Volume_blocksToTake_33 : decode b_Volume_blocksToTake 33 = .ok (.if_icmp .gt 7, 3) := by decide +kernel
theorem d_Volume_blocksToTake_36 : decode b_Volume_blocksToTake 36 = .ok (.iconst 1, 1) := by decide +kernel
theorem d_Volume_blocksToTake_37 : decode b_Volume_blocksToTake 37 = .ok (.goto 4, 3) := by decide +kernel
theorem d_Volume_blocksToTake_40 : decode b_Volume_blocksToTake 40 = .ok (.iconst 0, 1) := by decide +kernel
theorem d_Volume_blocksToTake_41 : decode b_Volume_blocksToTake 41 = .ok (.istore 5, 2) := by decide +kernel
theorem d_Volume_blocksToTake_43 : decode b_Volume_blocksToTake 43 = .ok (.iload 4, 2) := by decide +kernel
theorem d_Volume_blocksToTake_45 : decode b_Volume_blocksToTake 45 = .ok (.iload_n 3, 1) := by decide +kernel
theorem d_Volume_blocksToTake_46 : decode b_Volume_blocksToTake 46 = .ok (.isub, 1) := by decide +kernel
theorem d_Volume_blocksToTake_47 : decode b_Volume_blocksToTake 47 = .ok (.iload 5, 2) := by decide +kernel
theorem d_Volume_blocksToTake_49 : decode b_Volume_blocksToTake 49 = .ok (.ifCond .eq 7, 3) := by decide +kernel
theorem d_Volume_blocksToTake_52 : decode b_Volume_blocksToTake 52 = .ok (.iconst 1, 1) := by decide +kernel
theorem d_Volume_blocksToTake_53 : decode b_Volume_blocksToTake 53 = .ok (.goto 4, 3) := by decide +kernel
theorem d_Volume_blocksToTake_56 : decode b_Volume_blocksToTake 56 = .ok (.iconst 0, 1) := by decide +kernel
theorem d_Volume_blocksToTake_57 : decode b_Volume_blocksToTake 57 = .ok (.iadd, 1) := by decide +kernel
theorem d_Volume_blocksToTake_58 : decode b_Volume_blocksToTake 58 = .ok (.ireturn, 1) := by decide +kernel
theorem d_Volume_begin_0 : decode b_Volume_begin 0 = .ok (.aload_n 0, 1) := by decide +kernel
theorem d_Volume_begin_1 : decode b_Volume_begin 1 = .ok (.iload_n 1, 1) := by decide +kernel
theorem d_Volume_begin_2 : decode b_Volume_begin 2 = .ok (.iconst 0, 1) := by decide +kernel
theorem d_Volume_begin_3 : decode b_Volume_begin 3 = .ok (.iload_n 2, 1) := by decide +kernel
theorem d_Volume_begin_4 : decode b_Volume_begin 4 = .ok (.invokevirtual 76, 3) := by decide +kernel
theorem d_Volume_begin_7 : decode b_Volume_begin 7 = .ok (.aload_n 0, 1) := by decide +kernel
theorem d_Volume_begin_8 : decode b_Volume_begin 8 = .ok (.iload_n 1, 1) := by decide +kernel
theorem d_Volume_begin_9 : decode b_Volume_begin 9 = .ok (.iconst 1, 1) := by decide +kernel
theorem d_Volume_begin_10 : decode b_Volume_begin 10 = .ok (.iconst 1, 1) := by decide +kernel
theorem d_Volume_begin_11 : decode b_Volume_begin 11 = .ok (.invokevirtual 76, 3) := by decide +kernel
theorem d_Volume_begin_14 : decode b_Volume_begin 14 = .ok (.return_, 1) := by decide +kernel
theorem d_Volume_setInodeByte_0 : decode b_Volume_setInodeByte 0 = .ok (.iload_n 1, 1) := by decide +kernel
theorem d_Volume_setInodeByte_1 : decode b_Volume_setInodeByte 1 = .ok (.invokestatic 100, 3) := by decide +kernel
theorem d_Volume_setInodeByte_4 : decode b_Volume_setInodeByte 4 = .ok (.ifCond .eq 25, 3) := by decide +kernel
theorem d_Volume_setInodeByte_7 : decode b_Volume_setInodeByte 7 = .ok (.aload_n 0, 1) := by decide +kernel
theorem d_Volume_setInodeByte_8 : decode b_Volume_setInodeByte 8 = .ok (.getfield 9, 3) := by decide +kernel
theorem d_Volume_setInodeByte_11 : decode b_Volume_setInodeByte 11 = .ok (.bipush 17, 2) := by decide +kernel
theorem d_Volume_setInodeByte_13 : decode b_Volume_setInodeByte 13 = .ok (.iload_n 1, 1) := by decide +kernel
theorem d_Volume_setInodeByte_14 : decode b_Volume_setInodeByte 14 = .ok (.iconst 4, 1) := by decide +kernel
theorem d_Volume_setInodeByte_15 : decode b_Volume_setInodeByte 15 = .ok (.idiv, 1) := by decide +kernel
theorem d_Volume_setInodeByte_16 : decode b_Volume_setInodeByte 16 = .ok (.iadd, 1) := by decide +kernel
theorem d_Volume_setInodeByte_17 : decode b_Volume_setInodeByte 17 = .ok (.iload_n 1, 1) := by decide +kernel
theorem d_Volume_setInodeByte_18 : decode b_Volume_setInodeByte 18 = .ok (.iconst 4, 1) := by decide +kernel
theorem d_Volume_setInodeByte_19 : decode b_Volume_setInodeByte 19 = .ok (.irem, 1) := by decide +kernel
theorem d_Volume_setInodeByte_20 : decode b_Volume_setInodeByte 20 = .ok (.bipush 16, 2) := by decide +kernel
theorem d_Volume_setInodeByte_22 : decode b_Volume_setInodeByte 22 = .ok (.imul, 1) := by decide +kernel
theorem d_Volume_setInodeByte_23 : decode b_Volume_setInodeByte 23 = .ok (.iload_n 2, 1) := by decide +kernel
theorem d_Volume_setInodeByte_24 : decode b_Volume_setInodeByte 24 = .ok (.iadd, 1) := by decide +kernel
theorem d_Volume_setInodeByte_25 : decode b_Volume_setInodeByte 25 = .ok (.iload_n 3, 1) := by decide +kernel
theorem d_Volume_setInodeByte_26 : decode b_Volume_setInodeByte 26 = .ok (.invokevirtual 103, 3) := by decide +kernel
theorem d_Volume_setInodeByte_29 : decode b_Volume_setInodeByte 29 = .ok (.return_, 1) := by decide +kernel
theorem d_Volume_putLong_0 : decode b_Volume_putLong 0 = .ok (.iconst 0, 1) := by decide +kernel
theorem d_Volume_putLong_1 : decode b_Volume_putLong 1 = .ok (.istore 6, 2) := by decide +kernel
theorem d_Volume_putLong_3 : decode b_Volume_putLong 3 = .ok (.iload 6, 2) := by decide +kernel
theorem d_Volume_putLong_5 : decode b_Volume_putLong 5 = .ok (.iload 5, 2) := by decide +kernel
theorem d_Volume_putLong_7 : decode b_Volume_putLong 7 = .ok (.if_icmp .ge 24, 3) := by decide +kernel
theorem d_Volume_putLong_10 : decode b_Volume_putLong 10 = .ok (.aload_n 0, 1) := by decide +kernel
theorem d_Volume_putLong_11 : decode b_Volume_putLong 11 = .ok (.iload_n 1, 1) := by decide +kernel
theorem d_Volume_putLong_12 : decode b_Volume_putLong 12 = .ok (.iload_n 2, 1) := by decide +kernel
theorem d_Volume_putLong_13 : decode b_Volume_putLong 13 = .ok (.iload 6, 2) := by decide +kernel
theorem d_Volume_putLong_15 : decode b_Volume_putLong 15 = .ok (.iadd, 1) := by decide +kernel
theorem d_Volume_putLong_16 : decode b_Volume_putLong 16 = .ok (.lload_n 3, 1) := by decide +kernel
theorem d_Volume_putLong_17 : decode b_Volume_putLong 17 = .ok (.iload 6, 2) := by decide +kernel
theorem d_Volume_putLong_19 : decode b_Volume_putLong 19 = .ok (.invokestatic 58, 3) := by decide +kernel
theorem d_Volume_putLong_22 : decode b_Volume_putLong 22 = .ok (.invokevirtual 87, 3) := by decide +kernel
theorem d_Volume_putLong_25 : decode b_Volume_putLong 25 = .ok (.iinc 6 1, 3) := by decide +kernel
theorem d_Volume_putLong_28 : decode b_Volume_putLong 28 = .ok (.goto (-25), 3) := by decide +kernel
theorem d_Volume_putLong_31 : decode b_Volume_putLong 31 = .ok (.aload_n 0, 1) := by decide +kernel
theorem d_Volume_putLong_32 : decode b_Volume_putLong 32 = .ok (.iload_n 1, 1) := by decide +kernel
theorem d_Volume_putLong_33 : decode b_Volume_putLong 33 = .ok (.iload_n 2, 1) := by decide +kernel
theorem d_Volume_putLong_34 : decode b_Volume_putLong 34 = .ok (.iload 5, 2) := by decide +kernel
theorem d_Volume_putLong_36 : decode b_Volume_putLong 36 = .ok (.iadd, 1) := by decide +kernel
theorem d_Volume_putLong_37 : decode b_Volume_putLong 37 = .ok (.invokevirtual 90, 3) := by decide +kernel
theorem d_Volume_putLong_40 : decode b_Volume_putLong 40 = .ok (.return_, 1) := by decide +kernel
theorem d_Volume_putByte_0 : decode b_Volume_putByte 0 = .ok (.iload_n 2, 1) := by decide +kernel
theorem d_Volume_putByte_1 : decode b_Volume_putByte 1 = .ok (.bipush 64, 2) := by decide +kernel
theorem d_Volume_putByte_3 : decode b_Volume_putByte 3 = .ok (.idiv, 1) := by decide +kernel
theorem d_Volume_putByte_4 : decode b_Volume_putByte 4 = .ok (.istore 4, 2) := by decide +kernel
theorem d_Volume_putByte_6 : decode b_Volume_putByte 6 = .ok (.aload_n 0, 1) := by decide +kernel
theorem d_Volume_putByte_7 : decode b_Volume_putByte 7 = .ok (.iload_n 1, 1) := by decide +kernel
theorem d_Volume_putByte_8 : decode b_Volume_putByte 8 = .ok (.iload 4, 2) := by decide +kernel
theorem d_Volume_putByte_10 : decode b_Volume_putByte 10 = .ok (.invokevirtual 40, 3) := by decide +kernel
theorem d_Volume_putByte_13 : decode b_Volume_putByte 13 = .ok (.ifCond .ne 10, 3) := by decide +kernel
theorem d_Volume_putByte_16 : decode b_Volume_putByte 16 = .ok (.aload_n 0, 1) := by decide +kernel
theorem d_Volume_putByte_17 : decode b_Volume_putByte 17 = .ok (.iload_n 1, 1) := by decide +kernel
theorem d_Volume_putByte_18 : decode b_Volume_putByte 18 = .ok (.iload 4, 2) := by decide +kernel
theorem d_Volume_putByte_20 : decode b_Volume_putByte 20 = .ok (.invokevirtual 113, 3) := by decide +kernel
theorem d_Volume_putByte_23 : decode b_Volume_putByte 23 = .ok (.aload_n 0, 1) := by decide +kernel
theorem d_Volume_putByte_24 : decode b_Volume_putByte 24 = .ok (.getfield 9, 3) := by decide +kernel
theorem d_Volume_putByte_27 : decode b_Volume_putByte 27 = .ok (.aload_n 0, 1) := by decide +kernel
theorem d_Volume_putByte_28 : decode b_Volume_putByte 28 = .ok (.iload_n 1, 1) := by decide +kernel
theorem d_Volume_putByte_29 : decode b_Volume_putByte 29 = .ok (.iload 4, 2) := by decide +kernel
theorem d_Volume_putByte_31 : decode b_Volume_putByte 31 = .ok (.invokevirtual 40, 3) := by decide +kernel
theorem d_Volume_putByte_34 : decode b_Volume_putByte 34 = .ok (.iload_n 2, 1) := by decide +kernel
theorem d_Volume_putByte_35 : decode b_Volume_putByte 35 = .ok (.bipush 64, 2) := by decide +kernel
theorem d_Volume_putByte_37 : decode b_Volume_putByte 37 = .ok (.irem, 1) := by decide +kernel
theorem d_Volume_putByte_38 : decode b_Volume_putByte 38 = .ok (.iload_n 3, 1) := by decide +kernel
theorem d_Volume_putByte_39 : decode b_Volume_putByte 39 = .ok (.invokevirtual 103, 3) := by decide +kernel
theorem d_Volume_putByte_42 : decode b_Volume_putByte 42 = .ok (.return_, 1) := by decide +kernel
theorem d_Volume_addContentBlock_0 : decode b_Volume_addContentBlock 0 = .ok (.iload_n 2, 1) := by decide +kernel
theorem d_Volume_addContentBlock_1 : decode b_Volume_addContentBlock 1 = .ok (.bipush 10, 2) := by decide +kernel
theorem d_Volume_addContentBlock_3 : decode b_Volume_addContentBlock 3 = .ok (.if_icmp .ge 18, 3) := by decide +kernel
theorem d_Volume_addContentBlock_6 : decode b_Volume_addContentBlock 6 = .ok (.aload_n 0, 1) := by decide +kernel
theorem d_Volume_addContentBlock_7 : decode b_Volume_addContentBlock 7 = .ok (.invokevirtual 116, 3) := by decide +kernel
theorem d_Volume_addContentBlock_10 : decode b_Volume_addContentBlock 10 = .ok (.istore_n 3, 1) := by decide +kernel
theorem d_Volume_addContentBlock_11 : decode b_Volume_addContentBlock 11 = .ok (.aload_n 0, 1) := by decide +kernel
theorem d_Volume_addContentBlock_12 : decode b_Volume_addContentBlock 12 = .ok (.iload_n 1, 1) := by decide +kernel
theorem d_Volume_addContentBlock_13 : decode b_Volume_addContentBlock 13 = .ok (.iconst 4, 1) := by decide +kernel
theorem d_Volume_addContentBlock_14 : decode b_Volume_addContentBlock 14 = .ok (.iload_n 2, 1) := by decide +kernel
theorem d_Volume_addContentBlock_15 : decode b_Volume_addContentBlock 15 = .ok (.iadd, 1) := by decide +kernel
theorem d_Volume_addContentBlock_16 : decode b_Volume_addContentBlock 16 = .ok (.iload_n 3, 1) := by decide +kernel
theorem d_Volume_addContentBlock_17 : decode b_Volume_addContentBlock 17 = .ok (.invokevirtual 76, 3) := by decide +kernel
theorem d_Volume_addContentBlock_20 : decode b_Volume_addContentBlock 20 = .ok (.return_, 1) := by decide +kernel
theorem d_Volume_addContentBlock_21 : decode b_Volume_addContentBlock 21 = .ok (.aload_n 0, 1) := by decide +kernel
theorem d_Volume_addContentBlock_22 : decode b_Volume_addContentBlock 22 = .ok (.iload_n 1, 1) := by decide +kernel
theorem d_Volume_addContentBlock_23 : decode b_Volume_addContentBlock 23 = .ok (.bipush 14, 2) := by decide +kernel
theorem d_Volume_addContentBlock_25 : decode b_Volume_addContentBlock 25 = .ok (.invokevirtual 22, 3) := by decide +kernel
theorem d_Volume_addContentBlock_28 : decode b_Volume_addContentBlock 28 = .ok (.ifCond .ne 16, 3) := by decide +kernel
theorem d_Volume_addContentBlock_31 : decode b_Volume_addContentBlock 31 = .ok (.aload_n 0, 1) := by decide +kernel
theorem d_Volume_addContentBlock_32 : decode b_Volume_addContentBlock 32 = .ok (.invokevirtual 116, 3) := by decide +kernel
theorem d_Volume_addContentBlock_35 : decode b_Volume_addContentBlock 35 = .ok (.istore_n 3, 1) := by decide +kernel
theorem d_Volume_addContentBlock_36 : decode b_Volume_addContentBlock 36 = .ok (.aload_n 0, 1) := by decide +kernel
theorem d_Volume_addContentBlock_37 : decode b_Volume_addContentBlock 37 = .ok (.iload_n 1, 1) := by decide +kernel
theorem d_Volume_addContentBlock_38 : decode b_Volume_addContentBlock 38 = .ok (.bipush 14, 2) := by decide +kernel
theorem d_Volume_addContentBlock_40 : decode b_Volume_addContentBlock 40 = .ok (.iload_n 3, 1) := by decide +kernel
theorem d_Volume_addContentBlock_41 : decode b_Volume_addContentBlock 41 = .ok (.invokevirtual 76, 3) := by decide +kernel
theorem d_Volume_addContentBlock_44 : decode b_Volume_addContentBlock 44 = .ok (.aload_n 0, 1) := by decide +kernel
theorem d_Volume_addContentBlock_45 : decode b_Volume_addContentBlock 45 = .ok (.invokevirtual 116, 3) := by decide +kernel
theorem d_Volume_addContentBlock_48 : decode b_Volume_addContentBlock 48 = .ok (.istore_n 3, 1) := by decide +kernel
theorem d_Volume_addContentBlock_49 : decode b_Volume_addContentBlock 49 = .ok (.aload_n 0, 1) := by decide +kernel
theorem d_Volume_addContentBlock_50 : decode b_Volume_addContentBlock 50 = .ok (.getfield 9, 3) := by decide +kernel
theorem d_Volume_addContentBlock_53 : decode b_Volume_addContentBlock 53 = .ok (.aload_n 0, 1) := by decide +kernel
theorem d_Volume_addContentBlock_54 : decode b_Volume_addContentBlock 54 = .ok (.iload_n 1, 1) := by decide +kernel
theorem d_Volume_addContentBlock_55 : decode b_Volume_addContentBlock 55 = .ok (.bipush 14, 2) := by decide +kernel
theorem d_Volume_addContentBlock_57 : decode b_Volume_addContentBlock 57 = .ok (.invokevirtual 22, 3) := by decide +kernel
theorem d_Volume_addContentBlock_60 : decode b_Volume_addContentBlock 60 = .ok (.iload_n 2, 1) := by decide +kernel
theorem d_Volume_addContentBlock_61 : decode b_Volume_addContentBlock 61 = .ok (.bipush 10, 2) := by decide +kernel
theorem d_Volume_addContentBlock_63 : decode b_Volume_addContentBlock 63 = .ok (.isub, 1) := by decide +kernel
theorem d_Volume_addContentBlock_64 : decode b_Volume_addContentBlock 64 = .ok (.iload_n 3, 1) := by decide +kernel
theorem d_Volume_addContentBlock_65 : decode b_Volume_addContentBlock 65 = .ok (.invokevirtual 103, 3) := by decide +kernel
theorem d_Volume_addContentBlock_68 : decode b_Volume_addContentBlock 68 = .ok (.return_, 1) := by decide +kernel
theorem d_Volume_takeBlock_0 : decode b_Volume_takeBlock 0 = .ok (.aload_n 0, 1) := by decide +kernel
theorem d_Volume_takeBlock_1 : decode b_Volume_takeBlock 1 = .ok (.invokevirtual 119, 3) := by decide +kernel
theorem d_Volume_takeBlock_4 : decode b_Volume_takeBlock 4 = .ok (.istore_n 1, 1) := by decide +kernel
theorem d_Volume_takeBlock_5 : decode b_Volume_takeBlock 5 = .ok (.aload_n 0, 1) := by decide +kernel
theorem d_Volume_takeBlock_6 : decode b_Volume_takeBlock 6 = .ok (.getfield 9, 3) := by decide +kernel
theorem d_Volume_takeBlock_9 : decode b_Volume_takeBlock 9 = .ok (.bipush 25, 2) := by decide +kernel
theorem d_Volume_takeBlock_11 : decode b_Volume_takeBlock 11 = .ok (.iload_n 1, 1) := by decide +kernel
theorem d_Volume_takeBlock_12 : decode b_Volume_takeBlock 12 = .ok (.bipush 8, 2) := by decide +kernel
theorem d_Volume_takeBlock_14 : decode b_Volume_takeBlock 14 = .ok (.idiv, 1) := by decide +kernel
theorem d_Volume_takeBlock_15 : decode b_Volume_takeBlock 15 = .ok (.aload_n 0, 1) := by decide +kernel
theorem d_Volume_takeBlock_16 : decode b_Volume_takeBlock 16 = .ok (.getfield 21, 3) := by decide +kernel
theorem d_Volume_takeBlock_19 : decode b_Volume_takeBlock 19 = .ok (.bipush 25, 2) := by decide +kernel
theorem d_Volume_takeBlock_21 : decode b_Volume_takeBlock 21 = .ok (.iload_n 1, 1) := by decide +kernel
theorem d_Volume_takeBlock_22 : decode b_Volume_takeBlock 22 = .ok (.bipush 8, 2) := by decide +kernel
theorem d_Volume_takeBlock_24 : decode b_Volume_takeBlock 24 = .ok (.idiv, 1) := by decide +kernel
theorem d_Volume_takeBlock_25 : decode b_Volume_takeBlock 25 = .ok (.invokevirtual 30, 3) := by decide +kernel
theorem d_Volume_takeBlock_28 : decode b_Volume_takeBlock 28 = .ok (.iconst 1, 1) := by decide +kernel
theorem d_Volume_takeBlock_29 : decode b_Volume_takeBlock 29 = .ok (.iload_n 1, 1) := by decide +kernel
theorem d_Volume_takeBlock_30 : decode b_Volume_takeBlock 30 = .ok (.bipush 8, 2) := by decide +kernel
theorem d_Volume_takeBlock_32 : decode b_Volume_takeBlock 32 = .ok (.irem, 1) := by decide +kernel
theorem d_Volume_takeBlock_33 : decode b_Volume_takeBlock 33 = .ok (.ishl, 1) := by decide +kernel
theorem d_Volume_takeBlock_34 : decode b_Volume_takeBlock 34 = .ok (.ior, 1) := by decide +kernel
theorem d_Volume_takeBlock_35 : decode b_Volume_takeBlock 35 = .ok (.invokevirtual 103, 3) := by decide +kernel
theorem d_Volume_takeBlock_38 : decode b_Volume_takeBlock 38 = .ok (.aload_n 0, 1) := by decide +kernel
theorem d_Volume_takeBlock_39 : decode b_Volume_takeBlock 39 = .ok (.getfield 9, 3) := by decide +kernel
theorem d_Volume_takeBlock_42 : decode b_Volume_takeBlock 42 = .ok (.iload_n 1, 1) := by decide +kernel
theorem d_Volume_takeBlock_43 : decode b_Volume_takeBlock 43 = .ok (.invokevirtual 122, 3) := by decide +kernel
theorem d_Volume_takeBlock_46 : decode b_Volume_takeBlock 46 = .ok (.iload_n 1, 1) := by decide +kernel
theorem d_Volume_takeBlock_47 : decode b_Volume_takeBlock 47 = .ok (.ireturn, 1) := by decide +kernel
theorem d_Volume_leastFreeBlock_0 : decode b_Volume_leastFreeBlock 0 = .ok (.bipush 26, 2) := by decide +kernel
theorem d_Volume_leastFreeBlock_2 : decode b_Volume_leastFreeBlock 2 = .ok (.istore_n 1, 1) := by decide +kernel
theorem d_Volume_leastFreeBlock_3 : decode b_Volume_leastFreeBlock 3 = .ok (.iload_n 1, 1) := by decide +kernel
theorem d_Volume_leastFreeBlock_4 : decode b_Volume_leastFreeBlock 4 = .ok (.sipush 128, 3) := by decide +kernel
theorem d_Volume_leastFreeBlock_7 : decode b_Volume_leastFreeBlock 7 = .ok (.if_icmp .ge 34, 3) := by decide +kernel
theorem d_Volume_leastFreeBlock_10 : decode b_Volume_leastFreeBlock 10 = .ok (.aload_n 0, 1) := by decide +kernel
theorem d_Volume_leastFreeBlock_11 : decode b_Volume_leastFreeBlock 11 = .ok (.getfield 21, 3) := by decide +kernel
theorem d_Volume_leastFreeBlock_14 : decode b_Volume_leastFreeBlock 14 = .ok (.bipush 25, 2) := by decide +kernel
theorem d_Volume_leastFreeBlock_16 : decode b_Volume_leastFreeBlock 16 = .ok (.iload_n 1, 1) := by decide +kernel
theorem d_Volume_leastFreeBlock_17 : decode b_Volume_leastFreeBlock 17 = .ok (.bipush 8, 2) := by decide +kernel
theorem d_Volume_leastFreeBlock_19 : decode b_Volume_leastFreeBlock 19 = .ok (.idiv, 1) := by decide +kernel
theorem d_Volume_leastFreeBlock_20 : decode b_Volume_leastFreeBlock 20 = .ok (.invokevirtual 30, 3) := by decide +kernel
theorem d_Volume_leastFreeBlock_23 : decode b_Volume_leastFreeBlock 23 = .ok (.iload_n 1, 1) := by decide +kernel
theorem d_Volume_leastFreeBlock_24 : decode b_Volume_leastFreeBlock 24 = .ok (.bipush 8, 2) := by decide +kernel
theorem d_Volume_leastFreeBlock_26 : decode b_Volume_leastFreeBlock 26 = .ok (.irem, 1) := by decide +kernel
theorem d_Volume_leastFreeBlock_27 : decode b_Volume_leastFreeBlock 27 = .ok (.ishr, 1) := by decide +kernel
theorem d_Volume_leastFreeBlock_28 : decode b_Volume_leastFreeBlock 28 = .ok (.iconst 1, 1) := by decide +kernel
theorem d_Volume_leastFreeBlock_29 : decode b_Volume_leastFreeBlock 29 = .ok (.iand, 1) := by decide +kernel
theorem d_Volume_leastFreeBlock_30 : decode b_Volume_leastFreeBlock 30 = .ok (.ifCond .ne 5, 3) := by decide +kernel
theorem d_Volume_leastFreeBlock_33 : decode b_Volume_leastFreeBlock 33 = .ok (.iload_n 1, 1) := by decide +kernel
theorem d_Volume_leastFreeBlock_34 : decode b_Volume_leastFreeBlock 34 = .ok (.ireturn, 1) := by decide +kernel
theorem d_Volume_leastFreeBlock_35 : decode b_Volume_leastFreeBlock 35 = .ok (.iinc 1 1, 3) := by decide +kernel
theorem d_Volume_leastFreeBlock_38 : decode b_Volume_leastFreeBlock 38 = .ok (.goto (-35), 3) := by decide +kernel
theorem d_Volume_leastFreeBlock_41 : decode b_Volume_leastFreeBlock 41 = .ok (.iconst 0, 1) := by decide +kernel
theorem d_Volume_leastFreeBlock_42 : decode b_Volume_leastFreeBlock 42 = .ok (.ireturn, 1) := by decide +kernel
theorem d_Volume_growTo_0 : decode b_Volume_growTo 0 = .ok (.iload_n 2, 1) := by decide +kernel
theorem d_Volume_growTo_1 : decode b_Volume_growTo 1 = .ok (.aload_n 0, 1) := by decide +kernel
theorem d_Volume_growTo_2 : decode b_Volume_growTo 2 = .ok (.iload_n 1, 1) := by decide +kernel
theorem d_Volume_growTo_3 : decode b_Volume_growTo 3 = .ok (.invokevirtual 51, 3) := by decide +kernel
theorem d_Volume_growTo_6 : decode b_Volume_growTo 6 = .ok (.if_icmp .le 20, 3) := by decide +kernel
theorem d_Volume_growTo_9 : decode b_Volume_growTo 9 = .ok (.aload_n 0, 1) := by decide +kernel
theorem d_Volume_growTo_10 : decode b_Volume_growTo 10 = .ok (.iload_n 1, 1) := by decide +kernel
theorem d_Volume_growTo_11 : decode b_Volume_growTo 11 = .ok (.iconst 2, 1) := by decide +kernel
theorem d_Volume_growTo_12 : decode b_Volume_growTo 12 = .ok (.iload_n 2, 1) := by decide +kernel
theorem d_Volume_growTo_13 : decode b_Volume_growTo 13 = .ok (.bipush 8, 2) := by decide +kernel
theorem d_Volume_growTo_15 : decode b_Volume_growTo 15 = .ok (.ishr, 1) := by decide +kernel
theorem d_Volume_growTo_16 : decode b_Volume_growTo 16 = .ok (.invokevirtual 76, 3) := by decide +kernel
theorem d_Volume_growTo_19 : decode b_Volume_growTo 19 = .ok (.aload_n 0, 1) := by decide +kernel
theorem d_Volume_growTo_20 : decode b_Volume_growTo 20 = .ok (.iload_n 1, 1) := by decide +kernel
theorem d_Volume_growTo_21 : decode b_Volume_growTo 21 = .ok (.iconst 3, 1) := by decide +kernel
theorem d_Volume_growTo_22 : decode b_Volume_growTo 22 = .ok (.iload_n 2, 1) := by decide +kernel
theorem d_Volume_growTo_23 : decode b_Volume_growTo 23 = .ok (.invokevirtual 76, 3) := by decide +kernel
theorem d_Volume_growTo_26 : decode b_Volume_growTo 26 = .ok (.return_, 1) := by decide +kernel
theorem d_Volume_isFile_0 : decode b_Volume_isFile 0 = .ok (.aload_n 0, 1) := by decide +kernel
theorem d_Volume_isFile_1 : decode b_Volume_isFile 1 = .ok (.iload_n 1, 1) := by decide +kernel
theorem d_Volume_isFile_2 : decode b_Volume_isFile 2 = .ok (.invokevirtual 26, 3) := by decide +kernel
theorem d_Volume_isFile_5 : decode b_Volume_isFile 5 = .ok (.iconst 1, 1) := by decide +kernel
theorem d_Volume_isFile_6 : decode b_Volume_isFile 6 = .ok (.if_icmp .ne 7, 3) := by decide +kernel
theorem d_Volume_isFile_9 : decode b_Volume_isFile 9 = .ok (.iconst 1, 1) := by decide +kernel
theorem d_Volume_isFile_10 : decode b_Volume_isFile 10 = .ok (.goto 4, 3) := by decide +kernel
theorem d_Volume_isFile_13 : decode b_Volume_isFile 13 = .ok (.iconst 0, 1) := by decide +kernel
theorem d_Volume_isFile_14 : decode b_Volume_isFile 14 = .ok (.ireturn, 1) := by decide +kernel
theorem d_Volume_links_0 : decode b_Volume_links 0 = .ok (.aload_n 0, 1) := by decide +kernel
theorem d_Volume_links_1 : decode b_Volume_links 1 = .ok (.iload_n 1, 1) := by decide +kernel
theorem d_Volume_links_2 : decode b_Volume_links 2 = .ok (.iconst 1, 1) := by decide +kernel
theorem d_Volume_links_3 : decode b_Volume_links 3 = .ok (.invokevirtual 22, 3) := by decide +kernel
theorem d_Volume_links_6 : decode b_Volume_links 6 = .ok (.ireturn, 1) := by decide +kernel
theorem d_Volume_addLink_0 : decode b_Volume_addLink 0 = .ok (.aload_n 0, 1) := by decide +kernel
theorem d_Volume_addLink_1 : decode b_Volume_addLink 1 = .ok (.iload_n 1, 1) := by decide +kernel
theorem d_Volume_addLink_2 : decode b_Volume_addLink 2 = .ok (.iconst 1, 1) := by decide +kernel
theorem d_Volume_addLink_3 : decode b_Volume_addLink 3 = .ok (.aload_n 0, 1) := by decide +kernel
theorem d_Volume_addLink_4 : decode b_Volume_addLink 4 = .ok (.iload_n 1, 1) := by decide +kernel
theorem d_Volume_addLink_5 : decode b_Volume_addLink 5 = .ok (.invokevirtual 80, 3) := by decide +kernel
theorem d_Volume_addLink_8 : decode b_Volume_addLink 8 = .ok (.iconst 1, 1) := by decide +kernel
theorem d_Volume_addLink_9 : decode b_Volume_addLink 9 = .ok (.iadd, 1) := by decide +kernel
theorem d_Volume_addLink_10 : decode b_Volume_addLink 10 = .ok (.invokevirtual 76, 3) := by decide +kernel
theorem d_Volume_addLink_13 : decode b_Volume_addLink 13 = .ok (.return_, 1) := by decide +kernel
theorem d_Volume_inodeAt_0 : decode b_Volume_inodeAt 0 = .ok (.aload_n 0, 1) := by decide +kernel
theorem d_Volume_inodeAt_1 : decode b_Volume_inodeAt 1 = .ok (.iload_n 1, 1) := by decide +kernel
theorem d_Volume_inodeAt_2 : decode b_Volume_inodeAt 2 = .ok (.iload_n 2, 1) := by decide +kernel
theorem d_Volume_inodeAt_3 : decode b_Volume_inodeAt 3 = .ok (.invokevirtual 54, 3) := by decide +kernel
theorem d_Volume_inodeAt_6 : decode b_Volume_inodeAt 6 = .ok (.iconst 0, 1) := by decide +kernel
theorem d_Volume_inodeAt_7 : decode b_Volume_inodeAt 7 = .ok (.invokestatic 58, 3) := by decide +kernel
theorem d_Volume_inodeAt_10 : decode b_Volume_inodeAt 10 = .ok (.iconst 1, 1) := by decide +kernel
theorem d_Volume_inodeAt_11 : decode b_Volume_inodeAt 11 = .ok (.isub, 1) := by decide +kernel
theorem d_Volume_inodeAt_12 : decode b_Volume_inodeAt 12 = .ok (.ireturn, 1) := by decide +kernel
theorem d_Volume_entries_0 : decode b_Volume_entries 0 = .ok (.iconst 0, 1) := by decide +kernel
theorem d_Volume_entries_1 : decode b_Volume_entries 1 = .ok (.istore_n 2, 1) := by decide +kernel
theorem d_Volume_entries_2 : decode b_Volume_entries 2 = .ok (.aload_n 0, 1) := by decide +kernel
theorem d_Volume_entries_3 : decode b_Volume_entries 3 = .ok (.iload_n 1, 1) := by decide +kernel
theorem d_Volume_entries_4 : decode b_Volume_entries 4 = .ok (.invokevirtual 43, 3) := by decide +kernel
theorem d_Volume_entries_7 : decode b_Volume_entries 7 = .ok (.ifCond .eq 11, 3) := by decide +kernel
theorem d_Volume_entries_10 : decode b_Volume_entries 10 = .ok (.aload_n 0, 1) := by decide +kernel
theorem d_Volume_entries_11 : decode b_Volume_entries 11 = .ok (.iload_n 1, 1) := by decide +kernel
theorem d_Volume_entries_12 : decode b_Volume_entries 12 = .ok (.invokevirtual 51, 3) := by decide +kernel
theorem d_Volume_entries_15 : decode b_Volume_entries 15 = .ok (.goto 4, 3) := by decide +kernel
theorem d_Volume_entries_18 : decode b_Volume_entries 18 = .ok (.iconst 0, 1) := by decide +kernel
theorem d_Volume_entries_19 : decode b_Volume_entries 19 = .ok (.istore_n 3, 1) := by decide +kernel
theorem d_Volume_entries_20 : decode b_Volume_entries 20 = .ok (.iconst 0, 1) := by decide +kernel
theorem d_Volume_entries_21 : decode b_Volume_entries 21 = .ok (.istore 4, 2) := by decide +kernel
theorem d_Volume_entries_23 : decode b_Volume_entries 23 = .ok (.iload 4, 2) := by decide +kernel
theorem d_Volume_entries_25 : decode b_Volume_entries 25 = .ok (.iload_n 3, 1) := by decide +kernel
theorem d_Volume_entries_26 : decode b_Volume_entries 26 = .ok (.if_icmp .ge 24, 3) := by decide +kernel
theorem d_Volume_entries_29 : decode b_Volume_entries 29 = .ok (.aload_n 0, 1) := by decide +kernel
theorem d_Volume_entries_30 : decode b_Volume_entries 30 = .ok (.iload_n 1, 1) := by decide +kernel
theorem d_Volume_entries_31 : decode b_Volume_entries 31 = .ok (.iload 4, 2) := by decide +kernel
theorem d_Volume_entries_33 : decode b_Volume_entries 33 = .ok (.invokevirtual 54, 3) := by decide +kernel
theorem d_Volume_entries_36 : decode b_Volume_entries 36 = .ok (.lconst 0, 1) := by decide +kernel
theorem d_Volume_entries_37 : decode b_Volume_entries 37 = .ok (.lcmp, 1) := by decide +kernel
theorem d_Volume_entries_38 : decode b_Volume_entries 38 = .ok (.ifCond .eq 6, 3) := by decide +kernel
theorem d_Volume_entries_41 : decode b_Volume_entries 41 = .ok (.iinc 2 1, 3) := by decide +kernel
theorem d_Volume_entries_44 : decode b_Volume_entries 44 = .ok (.iinc 4 8, 3) := by decide +kernel
theorem d_Volume_entries_47 : decode b_Volume_entries 47 = .ok (.goto (-24), 3) := by decide +kernel
theorem d_Volume_entries_50 : decode b_Volume_entries 50 = .ok (.iload_n 2, 1) := by decide +kernel
theorem d_Volume_entries_51 : decode b_Volume_entries 51 = .ok (.ireturn, 1) := by decide +kernel
theorem d_Volume_dropLink_0 : decode b_Volume_dropLink 0 = .ok (.aload_n 0, 1) := by decide +kernel
theorem d_Volume_dropLink_1 : decode b_Volume_dropLink 1 = .ok (.iload_n 1, 1) := by decide +kernel
theorem d_Volume_dropLink_2 : decode b_Volume_dropLink 2 = .ok (.invokevirtual 80, 3) := by decide +kernel
theorem d_Volume_dropLink_5 : decode b_Volume_dropLink 5 = .ok (.iconst 1, 1) := by decide +kernel
theorem d_Volume_dropLink_6 : decode b_Volume_dropLink 6 = .ok (.if_icmp .le 17, 3) := by decide +kernel
theorem d_Volume_dropLink_9 : decode b_Volume_dropLink 9 = .ok (.aload_n 0, 1) := by decide +kernel
theorem d_Volume_dropLink_10 : decode b_Volume_dropLink 10 = .ok (.iload_n 1, 1) := by decide +kernel
theorem d_Volume_dropLink_11 : decode b_Volume_dropLink 11 = .ok (.iconst 1, 1) := by decide +kernel
theorem d_Volume_dropLink_12 : decode b_Volume_dropLink 12 = .ok (.aload_n 0, 1) := by decide +kernel
theorem d_Volume_dropLink_13 : decode b_Volume_dropLink 13 = .ok (.iload_n 1, 1) := by decide +kernel
theorem d_Volume_dropLink_14 : decode b_Volume_dropLink 14 = .ok (.invokevirtual 80, 3) := by decide +kernel
theorem d_Volume_dropLink_17 : decode b_Volume_dropLink 17 = .ok (.iconst 1, 1) := by decide +kernel
theorem d_Volume_dropLink_18 : decode b_Volume_dropLink 18 = .ok (.isub, 1) := by decide +kernel
theorem d_Volume_dropLink_19 : decode b_Volume_dropLink 19 = .ok (.invokevirtual 76, 3) := by decide +kernel
theorem d_Volume_dropLink_22 : decode b_Volume_dropLink 22 = .ok (.return_, 1) := by decide +kernel
theorem d_Volume_dropLink_23 : decode b_Volume_dropLink 23 = .ok (.aload_n 0, 1) := by decide +kernel
theorem d_Volume_dropLink_24 : decode b_Volume_dropLink 24 = .ok (.iload_n 1, 1) := by decide +kernel
theorem d_Volume_dropLink_25 : decode b_Volume_dropLink 25 = .ok (.invokevirtual 83, 3) := by decide +kernel
theorem d_Volume_dropLink_28 : decode b_Volume_dropLink 28 = .ok (.aload_n 0, 1) := by decide +kernel
theorem d_Volume_dropLink_29 : decode b_Volume_dropLink 29 = .ok (.iload_n 1, 1) := by decide +kernel
theorem d_Volume_dropLink_30 : decode b_Volume_dropLink 30 = .ok (.iconst 0, 1) := by decide +kernel
theorem d_Volume_dropLink_31 : decode b_Volume_dropLink 31 = .ok (.iconst 0, 1) := by decide +kernel
theorem d_Volume_dropLink_32 : decode b_Volume_dropLink 32 = .ok (.invokevirtual 76, 3) := by decide +kernel
theorem d_Volume_dropLink_35 : decode b_Volume_dropLink 35 = .ok (.aload_n 0, 1) := by decide +kernel
theorem d_Volume_dropLink_36 : decode b_Volume_dropLink 36 = .ok (.iload_n 1, 1) := by decide +kernel
theorem d_Volume_dropLink_37 : decode b_Volume_dropLink 37 = .ok (.iconst 1, 1) := by decide +kernel
theorem d_Volume_dropLink_38 : decode b_Volume_dropLink 38 = .ok (.iconst 0, 1) := by decide +kernel
theorem d_Volume_dropLink_39 : decode b_Volume_dropLink 39 = .ok (.invokevirtual 76, 3) := by decide +kernel
theorem d_Volume_dropLink_42 : decode b_Volume_dropLink 42 = .ok (.return_, 1) := by decide +kernel
theorem d_Volume_empty_0 : decode b_Volume_empty 0 = .ok (.aload_n 0, 1) := by decide +kernel
theorem d_Volume_empty_1 : decode b_Volume_empty 1 = .ok (.iload_n 1, 1) := by decide +kernel
theorem d_Volume_empty_2 : decode b_Volume_empty 2 = .ok (.invokevirtual 51, 3) := by decide +kernel
theorem d_Volume_empty_5 : decode b_Volume_empty 5 = .ok (.invokestatic 94, 3) := by decide +kernel
theorem d_Volume_empty_8 : decode b_Volume_empty 8 = .ok (.istore_n 2, 1) := by decide +kernel
theorem d_Volume_empty_9 : decode b_Volume_empty 9 = .ok (.iconst 0, 1) := by decide +kernel
theorem d_Volume_empty_10 : decode b_Volume_empty 10 = .ok (.istore_n 3, 1) := by decide +kernel
theorem d_Volume_empty_11 : decode b_Volume_empty 11 = .ok (.iload_n 3, 1) := by decide +kernel
theorem d_Volume_empty_12 : decode b_Volume_empty 12 = .ok (.iload_n 2, 1) := by decide +kernel
theorem d_Volume_empty_13 : decode b_Volume_empty 13 = .ok (.if_icmp .ge 19, 3) := by decide +kernel
theorem d_Volume_empty_16 : decode b_Volume_empty 16 = .ok (.aload_n 0, 1) := by decide +kernel
theorem d_Volume_empty_17 : decode b_Volume_empty 17 = .ok (.aload_n 0, 1) := by decide +kernel
theorem d_Volume_empty_18 : decode b_Volume_empty 18 = .ok (.iload_n 1, 1) := by decide +kernel
theorem d_Volume_empty_19 : decode b_Volume_empty 19 = .ok (.iload_n 3, 1) := by decide +kernel
theorem d_Volume_empty_20 : decode b_Volume_empty 20 = .ok (.invokevirtual 40, 3) := by decide +kernel
theorem d_Volume_empty_23 : decode b_Volume_empty 23 = .ok (.invokevirtual 97, 3) := by decide +kernel
theorem d_Volume_empty_26 : decode b_Volume_empty 26 = .ok (.iinc 3 1, 3) := by decide +kernel
theorem d_Volume_empty_29 : decode b_Volume_empty 29 = .ok (.goto (-18), 3) := by decide +kernel
theorem d_Volume_empty_32 : decode b_Volume_empty 32 = .ok (.aload_n 0, 1) := by decide +kernel
theorem d_Volume_empty_33 : decode b_Volume_empty 33 = .ok (.iload_n 1, 1) := by decide +kernel
theorem d_Volume_empty_34 : decode b_Volume_empty 34 = .ok (.bipush 14, 2) := by decide +kernel
theorem d_Volume_empty_36 : decode b_Volume_empty 36 = .ok (.invokevirtual 22, 3) := by decide +kernel
theorem d_Volume_empty_39 : decode b_Volume_empty 39 = .ok (.istore_n 3, 1) := by decide +kernel
theorem d_Volume_empty_40 : decode b_Volume_empty 40 = .ok (.iload_n 3, 1) := by decide +kernel
theorem d_Volume_empty_41 : decode b_Volume_empty 41 = .ok (.ifCond .eq 8, 3) := by decide +kernel
theorem d_Volume_empty_44 : decode b_Volume_empty 44 = .ok (.aload_n 0, 1) := by decide +kernel
theorem d_Volume_empty_45 : decode b_Volume_empty 45 = .ok (.iload_n 3, 1) := by decide +kernel
theorem d_Volume_empty_46 : decode b_Volume_empty 46 = .ok (.invokevirtual 97, 3) := by decide +kernel
theorem d_Volume_empty_49 : decode b_Volume_empty 49 = .ok (.iconst 2, 1) := by decide +kernel
theorem d_Volume_empty_50 : decode b_Volume_empty 50 = .ok (.istore 4, 2) := by decide +kernel
theorem d_Volume_empty_52 : decode b_Volume_empty 52 = .ok (.iload 4, 2) := by decide +kernel
theorem d_Volume_empty_54 : decode b_Volume_empty 54 = .ok (.bipush 16, 2) := by decide +kernel
theorem d_Volume_empty_56 : decode b_Volume_empty 56 = .ok (.if_icmp .ge 17, 3) := by decide +kernel
theorem d_Volume_empty_59 : decode b_Volume_empty 59 = .ok (.aload_n 0, 1) := by decide +kernel
theorem d_Volume_empty_60 : decode b_Volume_empty 60 = .ok (.iload_n 1, 1) := by decide +kernel
theorem d_Volume_empty_61 : decode b_Volume_empty 61 = .ok (.iload 4, 2) := by decide +kernel
theorem d_Volume_empty_63 : decode b_Volume_empty 63 = .ok (.iconst 0, 1) := by decide +kernel
theorem d_Volume_empty_64 : decode b_Volume_empty 64 = .ok (.invokevirtual 76, 3) := by decide +kernel
theorem d_Volume_empty_67 : decode b_Volume_empty 67 = .ok (.iinc 4 1, 3) := by decide +kernel
theorem d_Volume_empty_70 : decode b_Volume_empty 70 = .ok (.goto (-18), 3) := by decide +kernel
theorem d_Volume_empty_73 : decode b_Volume_empty 73 = .ok (.return_, 1) := by decide +kernel
theorem d_Volume_giveBack_0 : decode b_Volume_giveBack 0 = .ok (.aload_n 0, 1) := by decide +kernel
theorem d_Volume_giveBack_1 : decode b_Volume_giveBack 1 = .ok (.getfield 9, 3) := by decide +kernel
theorem d_Volume_giveBack_4 : decode b_Volume_giveBack 4 = .ok (.bipush 25, 2) := by decide +kernel
theorem d_Volume_giveBack_6 : decode b_Volume_giveBack 6 = .ok (.iload_n 1, 1) := by decide +kernel
theorem d_Volume_giveBack_7 : decode b_Volume_giveBack 7 = .ok (.bipush 8, 2) := by decide +kernel
theorem d_Volume_giveBack_9 : decode b_Volume_giveBack 9 = .ok (.idiv, 1) := by decide +kernel
theorem d_Volume_giveBack_10 : decode b_Volume_giveBack 10 = .ok (.aload_n 0, 1) := by decide +kernel
theorem d_Volume_giveBack_11 : decode b_Volume_giveBack 11 = .ok (.getfield 21, 3) := by decide +kernel
theorem d_Volume_giveBack_14 : decode b_Volume_giveBack 14 = .ok (.bipush 25, 2) := by decide +kernel
theorem d_Volume_giveBack_16 : decode b_Volume_giveBack 16 = .ok (.iload_n 1, 1) := by decide +kernel
theorem d_Volume_giveBack_17 : decode b_Volume_giveBack 17 = .ok (.bipush 8, 2) := by decide +kernel
theorem d_Volume_giveBack_19 : decode b_Volume_giveBack 19 = .ok (.idiv, 1) := by decide +kernel
theorem d_Volume_giveBack_20 : decode b_Volume_giveBack 20 = .ok (.invokevirtual 30, 3) := by decide +kernel
theorem d_Volume_giveBack_23 : decode b_Volume_giveBack 23 = .ok (.iconst 1, 1) := by decide +kernel
theorem d_Volume_giveBack_24 : decode b_Volume_giveBack 24 = .ok (.iload_n 1, 1) := by decide +kernel
theorem d_Volume_giveBack_25 : decode b_Volume_giveBack 25 = .ok (.bipush 8, 2) := by decide +kernel
theorem d_Volume_giveBack_27 : decode b_Volume_giveBack 27 = .ok (.irem, 1) := by decide +kernel
theorem d_Volume_giveBack_28 : decode b_Volume_giveBack 28 = .ok (.ishl, 1) := by decide +kernel
theorem d_Volume_giveBack_29 : decode b_Volume_giveBack 29 = .ok (.iconst (-1), 1) := by decide +kernel
theorem d_Volume_giveBack_30 : decode b_Volume_giveBack 30 = .ok (.ixor, 1) := by decide +kernel
theorem d_Volume_giveBack_31 : decode b_Volume_giveBack 31 = .ok (.iand, 1) := by decide +kernel
theorem d_Volume_giveBack_32 : decode b_Volume_giveBack 32 = .ok (.invokevirtual 103, 3) := by decide +kernel
theorem d_Volume_giveBack_35 : decode b_Volume_giveBack 35 = .ok (.return_, 1) := by decide +kernel
theorem d_Volume_canPut_0 : decode b_Volume_canPut 0 = .ok (.aload_n 0, 1) := by decide +kernel
theorem d_Volume_canPut_1 : decode b_Volume_canPut 1 = .ok (.iload_n 1, 1) := by decide +kernel
theorem d_Volume_canPut_2 : decode b_Volume_canPut 2 = .ok (.invokevirtual 73, 3) := by decide +kernel
theorem d_Volume_canPut_5 : decode b_Volume_canPut 5 = .ok (.ifCond .eq 31, 3) := by decide +kernel
theorem d_Volume_canPut_8 : decode b_Volume_canPut 8 = .ok (.iload_n 2, 1) := by decide +kernel
theorem d_Volume_canPut_9 : decode b_Volume_canPut 9 = .ok (.ifCond .lt 27, 3) := by decide +kernel
theorem d_Volume_canPut_12 : decode b_Volume_canPut 12 = .ok (.iload_n 2, 1) := by decide +kernel
theorem d_Volume_canPut_13 : decode b_Volume_canPut 13 = .ok (.aload_n 0, 1) := by decide +kernel
theorem d_Volume_canPut_14 : decode b_Volume_canPut 14 = .ok (.iload_n 1, 1) := by decide +kernel
theorem d_Volume_canPut_15 : decode b_Volume_canPut 15 = .ok (.invokevirtual 51, 3) := by decide +kernel
theorem d_Volume_canPut_18 : decode b_Volume_canPut 18 = .ok (.if_icmp .gt 18, 3) := by decide +kernel
theorem d_Volume_canPut_21 : decode b_Volume_canPut 21 = .ok (.aload_n 0, 1) := by decide +kernel
theorem d_Volume_canPut_22 : decode b_Volume_canPut 22 = .ok (.iload_n 1, 1) := by decide +kernel
theorem d_Volume_canPut_23 : decode b_Volume_canPut 23 = .ok (.iload_n 2, 1) := by decide +kernel
theorem d_Volume_canPut_24 : decode b_Volume_canPut 24 = .ok (.iload_n 3, 1) := by decide +kernel
theorem d_Volume_canPut_25 : decode b_Volume_canPut 25 = .ok (.iadd, 1) := by decide +kernel
theorem d_Volume_canPut_26 : decode b_Volume_canPut 26 = .ok (.invokevirtual 69, 3) := by decide +kernel
theorem d_Volume_canPut_29 : decode b_Volume_canPut 29 = .ok (.ifCond .eq 7, 3) := by decide +kernel
theorem d_Volume_canPut_32 : decode b_Volume_canPut 32 = .ok (.iconst 1, 1) := by decide +kernel
theorem d_Volume_canPut_33 : decode b_Volume_canPut 33 = .ok (.goto 4, 3) := by decide +kernel
theorem d_Volume_canPut_36 : decode b_Volume_canPut 36 = .ok (.iconst 0, 1) := by decide +kernel
theorem d_Volume_canPut_37 : decode b_Volume_canPut 37 = .ok (.ireturn, 1) := by decide +kernel
theorem d_Volume_putSame_0 : decode b_Volume_putSame 0 = .ok (.iconst 0, 1) := by decide +kernel
theorem d_Volume_putSame_1 : decode b_Volume_putSame 1 = .ok (.istore 5, 2) := by decide +kernel
theorem d_Volume_putSame_3 : decode b_Volume_putSame 3 = .ok (.iload 5, 2) := by decide +kernel
theorem d_Volume_putSame_5 : decode b_Volume_putSame 5 = .ok (.iload 4, 2) := by decide +kernel
theorem d_Volume_putSame_7 : decode b_Volume_putSame 7 = .ok (.if_icmp .ge 19, 3) := by decide +kernel
theorem d_Volume_putSame_10 : decode b_Volume_putSame 10 = .ok (.aload_n 0, 1) := by decide +kernel
theorem d_Volume_putSame_11 : decode b_Volume_putSame 11 = .ok (.iload_n 1, 1) := by decide +kernel
theorem d_Volume_putSame_12 : decode b_Volume_putSame 12 = .ok (.iload_n 2, 1) := by decide +kernel
theorem d_Volume_putSame_13 : decode b_Volume_putSame 13 = .ok (.iload 5, 2) := by decide +kernel
theorem d_Volume_putSame_15 : decode b_Volume_putSame 15 = .ok (.iadd, 1) := by decide +kernel
theorem d_Volume_putSame_16 : decode b_Volume_putSame 16 = .ok (.iload_n 3, 1) := by decide +kernel
theorem d_Volume_putSame_17 : decode b_Volume_putSame 17 = .ok (.invokevirtual 87, 3) := by decide +kernel
theorem d_Volume_putSame_20 : decode b_Volume_putSame 20 = .ok (.iinc 5 1, 3) := by decide +kernel
theorem d_Volume_putSame_23 : decode b_Volume_putSame 23 = .ok (.goto (-20), 3) := by decide +kernel
theorem d_Volume_putSame_26 : decode b_Volume_putSame 26 = .ok (.aload_n 0, 1) := by decide +kernel
theorem d_Volume_putSame_27 : decode b_Volume_putSame 27 = .ok (.iload_n 1, 1) := by decide +kernel
theorem d_Volume_putSame_28 : decode b_Volume_putSame 28 = .ok (.iload_n 2, 1) := by decide +kernel
theorem d_Volume_putSame_29 : decode b_Volume_putSame 29 = .ok (.iload 4, 2) := by decide +kernel
theorem d_Volume_putSame_31 : decode b_Volume_putSame 31 = .ok (.iadd, 1) := by decide +kernel
theorem d_Volume_putSame_32 : decode b_Volume_putSame 32 = .ok (.invokevirtual 90, 3) := by decide +kernel
theorem d_Volume_putSame_35 : decode b_Volume_putSame 35 = .ok (.return_, 1) := by decide +kernel
theorem d_Volume_contentByte_0 : decode b_Volume_contentByte 0 = .ok (.aload_n 0, 1) := by decide +kernel
theorem d_Volume_contentByte_1 : decode b_Volume_contentByte 1 = .ok (.getfield 21, 3) := by decide +kernel
theorem d_Volume_contentByte_4 : decode b_Volume_contentByte 4 = .ok (.aload_n 0, 1) := by decide +kernel
theorem d_Volume_contentByte_5 : decode b_Volume_contentByte 5 = .ok (.iload_n 1, 1) := by decide +kernel
theorem d_Volume_contentByte_6 : decode b_Volume_contentByte 6 = .ok (.iload_n 2, 1) := by decide +kernel
theorem d_Volume_contentByte_7 : decode b_Volume_contentByte 7 = .ok (.bipush 64, 2) := by decide +kernel
theorem d_Volume_contentByte_9 : decode b_Volume_contentByte 9 = .ok (.idiv, 1) := by decide +kernel
theorem d_Volume_contentByte_10 : decode b_Volume_contentByte 10 = .ok (.invokevirtual 40, 3) := by decide +kernel
theorem d_Volume_contentByte_13 : decode b_Volume_contentByte 13 = .ok (.iload_n 2, 1) := by decide +kernel
theorem d_Volume_contentByte_14 : decode b_Volume_contentByte 14 = .ok (.bipush 64, 2) := by decide +kernel
theorem d_Volume_contentByte_16 : decode b_Volume_contentByte 16 = .ok (.irem, 1) := by decide +kernel
theorem d_Volume_contentByte_17 : decode b_Volume_contentByte 17 = .ok (.invokevirtual 30, 3) := by decide +kernel
theorem d_Volume_contentByte_20 : decode b_Volume_contentByte 20 = .ok (.ireturn, 1) := by decide +kernel
end
section
/-! What a state of the class is: its cells, and the mathematical value behind them; calls in a world. Own rows. -/
theorem j_p1 {α β : Type} {a : α} {b : β} {r : α × β} (h : (a, b) = r) : a = r.1 := by rw [← h]
theorem j_p2 {α β : Type} {a : α} {b : β} {r : α × β} (h : (a, b) = r) : b = r.2 := by rw [← h]
def jcp (sp dp n : Int32) (n0 n1 : Nat) : Bool := decide (¬ sp < 0 ∧ ¬ dp < 0 ∧ ¬ n < 0 ∧ sp.toNatClampNeg + n.toNatClampNeg ≤ n0 ∧ dp.toNatClampNeg + n.toNatClampNeg ≤ n1)
theorem j_cp {sp dp n : Int32} {n0 n1 : Nat} (h : jcp sp dp n n0 n1 = true) : ¬ sp < 0 ∧ ¬ dp < 0 ∧ ¬ n < 0 ∧ sp.toNatClampNeg + n.toNatClampNeg ≤ n0 ∧ dp.toNatClampNeg + n.toNatClampNeg ≤ n1 := of_decide_eq_true h
/-- disk's bytes, memory's bytes, the pending blocks, pendingCount, writes, writesToFailure, isOff, commits -/
abbrev CS : Type := By × By × (Nat → Int32) × Int32 × Int32 × Int32 × Int32 × Int32
def c_D (σ : CS) : By := σ.1
def c_M (σ : CS) : By := σ.2.1
def c_P (σ : CS) : Nat → Int32 := σ.2.2.1
def c_n (σ : CS) : Int32 := σ.2.2.2.1
def c_w (σ : CS) : Int32 := σ.2.2.2.2.1
def c_f (σ : CS) : Int32 := σ.2.2.2.2.2.1
def c_o (σ : CS) : Int32 := σ.2.2.2.2.2.2.1
def c_c (σ : CS) : Int32 := σ.2.2.2.2.2.2.2
def s_D (σ : CS) (x : By) : CS := (x, σ.2)
def s_M (σ : CS) (x : By) : CS := (σ.1, x, σ.2.2)
def s_P (σ : CS) (x : Nat → Int32) : CS := (σ.1, σ.2.1, x, σ.2.2.2)
def s_n (σ : CS) (x : Int32) : CS := (σ.1, σ.2.1, σ.2.2.1, x, σ.2.2.2.2)
def s_w (σ : CS) (x : Int32) : CS := (σ.1, σ.2.1, σ.2.2.1, σ.2.2.2.1, x, σ.2.2.2.2.2)
def s_f (σ : CS) (x : Int32) : CS := (σ.1, σ.2.1, σ.2.2.1, σ.2.2.2.1, σ.2.2.2.2.1, x, σ.2.2.2.2.2.2)
def s_o (σ : CS) (x : Int32) : CS := (σ.1, σ.2.1, σ.2.2.1, σ.2.2.2.1, σ.2.2.2.2.1, σ.2.2.2.2.2.1, x, σ.2.2.2.2.2.2.2)
def s_c (σ : CS) (x : Int32) : CS := (σ.1, σ.2.1, σ.2.2.1, σ.2.2.2.1, σ.2.2.2.2.1, σ.2.2.2.2.2.1, σ.2.2.2.2.2.2.1, x)
/-- the class's cells: LogFs, Disk, Memory, Volume, the disk's Blocks, the memory's, their bytes, pending -/
abbrev wC (ga : Nat → Nat) (cB cI : ClassId) (σ : CS) : va_W := [
  (ga 0, .inr (4, [.ref (ga 1), .ref (ga 2), .ref (ga 3), .int (c_c σ)])),
  (ga 1, .inr (1, [.ref (ga 4), .int (c_w σ), .int (c_f σ), .int (c_o σ)])),
  (ga 2, .inr (2, [.ref (ga 5), .ref (ga 8), .int (c_n σ)])),
  (ga 3, .inr (3, [.ref (ga 2), .ref (ga 5)])),
  (ga 4, .inr (0, [.ref (ga 6)])),
  (ga 5, .inr (0, [.ref (ga 7)])),
  (ga 6, .inl (cB, 8192, .inl (fun j => (c_D σ j).toInt32))),
  (ga 7, .inl (cB, 8192, .inl (fun j => (c_M σ j).toInt32))),
  (ga 8, .inl (cI, 15, .inl (c_P σ)))]
/-- the disk's cells while it is made: Disk, Blocks, bytes -/
abbrev ZS : Type := By × Int32 × Int32 × Int32
def z_D (σ : ZS) : By := σ.1
def z_w (σ : ZS) : Int32 := σ.2.1
def z_f (σ : ZS) : Int32 := σ.2.2.1
def z_o (σ : ZS) : Int32 := σ.2.2.2
def sz_D (σ : ZS) (x : By) : ZS := (x, σ.2)
def sz_w (σ : ZS) (x : Int32) : ZS := (σ.1, x, σ.2.2)
def sz_f (σ : ZS) (x : Int32) : ZS := (σ.1, σ.2.1, x, σ.2.2.2)
def sz_o (σ : ZS) (x : Int32) : ZS := (σ.1, σ.2.1, σ.2.2.1, x)
abbrev wZ (ga : Nat → Nat) (cB cI : ClassId) (σ : ZS) : va_W := [
  (ga 1, .inr (1, [.ref (ga 4), .int (z_w σ), .int (z_f σ), .int (z_o σ)])),
  (ga 4, .inr (0, [.ref (ga 6)])),
  (ga 6, .inl (cB, 8192, .inl (fun j => (z_D σ j).toInt32)))]
/-- the reference's: thrown, disk, memory, pending, pendings, writes, commits, left, off, failed, name, page -/
abbrev RS : Type := Int32 × By × By × (Nat → Int32) × Int32 × Int32 × Int32 × Int32 × Int32 × Int32 × By × By
def r_t (σ : RS) : Int32 := σ.1
def r_D (σ : RS) : By := σ.2.1
def r_M (σ : RS) : By := σ.2.2.1
def r_P (σ : RS) : Nat → Int32 := σ.2.2.2.1
def r_n (σ : RS) : Int32 := σ.2.2.2.2.1
def r_w (σ : RS) : Int32 := σ.2.2.2.2.2.1
def r_c (σ : RS) : Int32 := σ.2.2.2.2.2.2.1
def r_l (σ : RS) : Int32 := σ.2.2.2.2.2.2.2.1
def r_o (σ : RS) : Int32 := σ.2.2.2.2.2.2.2.2.1
def r_f (σ : RS) : Int32 := σ.2.2.2.2.2.2.2.2.2.1
def r_N (σ : RS) : By := σ.2.2.2.2.2.2.2.2.2.2.1
def r_G (σ : RS) : By := σ.2.2.2.2.2.2.2.2.2.2.2
def q_t (σ : RS) (x : Int32) : RS := (x, σ.2)
def q_D (σ : RS) (x : By) : RS := (σ.1, x, σ.2.2)
def q_M (σ : RS) (x : By) : RS := (σ.1, σ.2.1, x, σ.2.2.2)
def q_P (σ : RS) (x : Nat → Int32) : RS := (σ.1, σ.2.1, σ.2.2.1, x, σ.2.2.2.2)
def q_n (σ : RS) (x : Int32) : RS := (σ.1, σ.2.1, σ.2.2.1, σ.2.2.2.1, x, σ.2.2.2.2.2)
def q_w (σ : RS) (x : Int32) : RS := (σ.1, σ.2.1, σ.2.2.1, σ.2.2.2.1, σ.2.2.2.2.1, x, σ.2.2.2.2.2.2)
def q_c (σ : RS) (x : Int32) : RS := (σ.1, σ.2.1, σ.2.2.1, σ.2.2.2.1, σ.2.2.2.2.1, σ.2.2.2.2.2.1, x, σ.2.2.2.2.2.2.2)
def q_l (σ : RS) (x : Int32) : RS := (σ.1, σ.2.1, σ.2.2.1, σ.2.2.2.1, σ.2.2.2.2.1, σ.2.2.2.2.2.1, σ.2.2.2.2.2.2.1, x, σ.2.2.2.2.2.2.2.2)
def q_o (σ : RS) (x : Int32) : RS := (σ.1, σ.2.1, σ.2.2.1, σ.2.2.2.1, σ.2.2.2.2.1, σ.2.2.2.2.2.1, σ.2.2.2.2.2.2.1, σ.2.2.2.2.2.2.2.1, x, σ.2.2.2.2.2.2.2.2.2)
def q_f (σ : RS) (x : Int32) : RS := (σ.1, σ.2.1, σ.2.2.1, σ.2.2.2.1, σ.2.2.2.2.1, σ.2.2.2.2.2.1, σ.2.2.2.2.2.2.1, σ.2.2.2.2.2.2.2.1, σ.2.2.2.2.2.2.2.2.1, x, σ.2.2.2.2.2.2.2.2.2.2)
def q_N (σ : RS) (x : By) : RS := (σ.1, σ.2.1, σ.2.2.1, σ.2.2.2.1, σ.2.2.2.2.1, σ.2.2.2.2.2.1, σ.2.2.2.2.2.2.1, σ.2.2.2.2.2.2.2.1, σ.2.2.2.2.2.2.2.2.1, σ.2.2.2.2.2.2.2.2.2.1, x, σ.2.2.2.2.2.2.2.2.2.2.2)
def q_G (σ : RS) (x : By) : RS := (σ.1, σ.2.1, σ.2.2.1, σ.2.2.2.1, σ.2.2.2.2.1, σ.2.2.2.2.2.1, σ.2.2.2.2.2.2.1, σ.2.2.2.2.2.2.2.1, σ.2.2.2.2.2.2.2.2.1, σ.2.2.2.2.2.2.2.2.2.1, σ.2.2.2.2.2.2.2.2.2.2.1, x)
/-- the reference's cells: the object, disk, memory, pending, name, page -/
abbrev wR (gr : Nat → Nat) (cB cI : ClassId) (σ : RS) : va_W := [
  (gr 0, .inr (5, [.int (r_t σ), .ref (gr 1), .ref (gr 2), .ref (gr 3), .int (r_n σ), .int (r_w σ), .int (r_c σ), .int (r_l σ), .int (r_o σ), .int (r_f σ), .ref (gr 4), .ref (gr 5)])),
  (gr 1, .inl (cB, 8192, .inl (fun j => (r_D σ j).toInt32))),
  (gr 2, .inl (cB, 8192, .inl (fun j => (r_M σ j).toInt32))),
  (gr 3, .inl (cI, 128, .inl (r_P σ))),
  (gr 4, .inl (cB, 8, .inl (fun j => (r_N σ j).toInt32))),
  (gr 5, .inl (cB, 64, .inl (fun j => (r_G σ j).toInt32)))]
abbrev tC (cB cI : ClassId) : List (ClassId × FieldType) := [(cB, .byte), (cI, .int)]
/-- a world, and the tables beside it -/
def kW (D : va_G) (tys : List (ClassId × FieldType)) (ws : va_W) (U : State) : Prop := va_P D cls ws U.heap ∧ va_K D cls tys U
theorem kW_blind {D : va_G} {tys : List (ClassId × FieldType)} {ws : va_W} {av : List Value} : FrameBlind (va_Pc av (kW D tys ws)) := fun a U g mk q => ⟨q.1, q.2.1, va_K.moved (u := U) (U := U.calling g mk a) (Vm.Alike.refl U.vm) q.2.2⟩
theorem kW_S {D : va_G} {tys : List (ClassId × FieldType)} {ws : va_W} {s : State} {H : Heap} {As : List Value} (hP : va_P D cls ws H) (hK : va_K D cls tys s) : PreS s H (va_Pc As (kW D tys ws)) As :=
  ⟨kW_blind, fun U hU hW => ⟨rfl, by rw [hU]; exact hP, va_K.moved hW.alike hK⟩⟩
theorem kW_V {D : va_G} {tys : List (ClassId × FieldType)} {ws : va_W} {s : State} {H : Heap} {C : String} {b : Nat} {As : List Value} (hP : va_P D cls ws H) (hK : va_K D cls tys s) (hr : ∃ cell : Cell, H[b]? = some cell ∧ cell.vm.isStatics = false ∧ s.vm.findClass C = some cell.cls) : PreV s H C b (va_Pc (.ref b :: As) (kW D tys ws)) As :=
  ⟨kW_blind, hr, fun U hU hW => ⟨rfl, by rw [hU]; exact hP, va_K.moved hW.alike hK⟩⟩
theorem kW_end {D : va_G} {tys : List (ClassId × FieldType)} {ws ws' : va_W} {s t : State} {H : Heap} (hP : va_P D cls ws H) (hK : va_K D cls tys s) (ht : t.heap = H) (hW : s.WarmedH t.vm) (e : ws = ws') : kW D tys ws' t := by
  subst e
  exact ⟨by rw [ht]; exact hP, va_K.moved hW.alike hK⟩
theorem kW_P {D : va_G} {tys : List (ClassId × FieldType)} {ws : va_W} {t : State} {H : Heap} (h : kW D tys ws t) (ht : t.heap = H) : va_P D cls ws H := by rw [← ht]; exact h.1
/-- every method's words: its own code, and tb -/
abbrev mw (y : MethodName) (bytes : ByteArray) (maxL : Nat) (ret : Option FieldType) : List Cond := Cond.code y bytes maxL ret :: tb
section XCW
variable {R : Room} {s : State} {args : Array Value} {own C host : String} {index maxL mc ms : Nat} {y : MethodName} {bytes : ByteArray} {ret : Option FieldType} {rm : Room}
theorem tb_at (htb : ∀ w ∈ tb, w.before args s = true) {w : Cond} (h : w ∈ tb) (a' : Array Value) (U : State) (hW : s.WarmedH U.vm) : w.before a' U = true := x_wordAt hW (List.mem_filter.mp h).2 (htb w h)
theorem mw_at (htb : ∀ w ∈ tb, w.before args s = true) (hc : Cond.code y bytes maxL ret ∈ tb) : ∀ w ∈ mw y bytes maxL ret, ∀ (a' : Array Value) (U : State), s.WarmedH U.vm → w.before a' U = true := fun w hw a' U hW =>
  tb_at htb (by rcases List.mem_cons.mp hw with h | h; · rw [h]; exact hc
                exact h) a' U hW
theorem xcB (n : Nat) (htb : ∀ w ∈ tb, w.before args s = true) (hc : Cond.code y bytes maxL ret ∈ tb) (hini : Cond.initialized y.cls ∈ tb) (hl : Cond.methodLink own index y ∈ tb) (hrc : rm.cells = mc) (hrs : rm.slots = ms)
    (hd : y.cls ≠ "java/lang/invoke/MethodHandle" ∧ y.cls ≠ "java/lang/invoke/VarHandle" ∧ (parseMethodDescriptor y.desc).map (fun d => d.parameters.length) = some n) (hR : rm.frames + 1 ≤ R.frames ∧ 8 + (maxL + 11) + rm.locals ≤ R.locals) :
    CallB R s args own index y bytes maxL ret (mw y bytes maxL ret) rm mc ms n := by
  refine ⟨hrc, hrs, hR.1, hR.2, mw_at htb hc, List.mem_cons_self, htb _ hc, htb _ hini, ⟨hd.1, hd.2.1⟩, fun sig h => ?_, htb _ hl⟩
  have h2 := hd.2.2
  rw [h] at h2
  exact (Option.some.inj h2).symm
theorem xcV (n : Nat) (htb : ∀ w ∈ tb, w.before args s = true) (hc : Cond.code y bytes maxL ret ∈ tb) (hini : Cond.initialized y.cls ∈ tb) (hl : Cond.methodLink own index y ∈ tb) (hin : Cond.instanceMethod y ∈ tb) (hse : Cond.selects C y y ∈ tb) (hrc : rm.cells = mc) (hrs : rm.slots = ms)
    (hd : y.cls ≠ "java/lang/invoke/MethodHandle" ∧ y.cls ≠ "java/lang/invoke/VarHandle" ∧ (parseMethodDescriptor y.desc).map (fun d => d.parameters.length) = some n) (hR : rm.frames + 1 ≤ R.frames ∧ 8 + (maxL + 11) + rm.locals ≤ R.locals) :
    CallW R s args own C index y bytes maxL ret (mw y bytes maxL ret) rm mc ms n := ⟨xcB n htb hc hini hl hrc hrs hd hR, htb _ hin, htb _ hse⟩
theorem xcS (n : Nat) (htb : ∀ w ∈ tb, w.before args s = true) (hc : Cond.code y bytes maxL ret ∈ tb) (hini : Cond.initialized y.cls ∈ tb) (hl : Cond.methodLink own index y ∈ tb) (hst : Cond.static y ∈ tb) (hrc : rm.cells = mc) (hrs : rm.slots = ms)
    (hd : y.cls ≠ "java/lang/invoke/MethodHandle" ∧ y.cls ≠ "java/lang/invoke/VarHandle" ∧ (parseMethodDescriptor y.desc).map (fun d => d.parameters.length) = some n) (hR : rm.frames + 1 ≤ R.frames ∧ 8 + (maxL + 11) + rm.locals ≤ R.locals) :
    CallB R s args own index y bytes maxL ret (mw y bytes maxL ret) rm mc ms n ∧ (Cond.static y).before args s = true := ⟨xcB n htb hc hini hl hrc hrs hd hR, htb _ hst⟩
theorem xcI (n : Nat) (htb : ∀ w ∈ tb, w.before args s = true) (hc : Cond.code y bytes maxL none ∈ tb) (hini : Cond.initialized y.cls ∈ tb) (hl : Cond.methodLink own index y ∈ tb) (hin : Cond.instanceMethod y ∈ tb) (hy : y.name = "<init>") (hrc : rm.cells = mc) (hrs : rm.slots = ms)
    (hd : y.cls ≠ "java/lang/invoke/MethodHandle" ∧ y.cls ≠ "java/lang/invoke/VarHandle" ∧ (parseMethodDescriptor y.desc).map (fun d => d.parameters.length) = some n) (hR : rm.frames + 1 ≤ R.frames ∧ 8 + (maxL + 11) + rm.locals ≤ R.locals) :
    CallB R s args own index y bytes maxL none (mw y bytes maxL none) rm mc ms n ∧ y.name = "<init>" ∧ (Cond.instanceMethod y).before args s = true := ⟨xcB n htb hc hini hl hrc hrs hd hR, hy, htb _ hin⟩
theorem xcSN (n : Nat) (htb : ∀ w ∈ tb, w.before args s = true) (hc : Cond.code y bytes maxL ret ∈ tb) (hini : Cond.initialized y.cls ∈ tb) (hl : Cond.methodLinkNest own index y host ∈ tb) (hst : Cond.static y ∈ tb) (hrc : rm.cells = mc) (hrs : rm.slots = ms)
    (hd : y.cls ≠ "java/lang/invoke/MethodHandle" ∧ y.cls ≠ "java/lang/invoke/VarHandle" ∧ (parseMethodDescriptor y.desc).map (fun d => d.parameters.length) = some n) (hR : rm.frames + 1 ≤ R.frames ∧ 8 + (maxL + 11) + rm.locals ≤ R.locals) :
    va_CN R s args own index y host bytes maxL ret (mw y bytes maxL ret) rm mc ms n ∧ (Cond.static y).before args s = true ∧ True := by
  refine ⟨⟨⟨hrc, hrs, hR.1, hR.2, mw_at htb hc, List.mem_cons_self⟩, htb _ hc, htb _ hini, ⟨hd.1, hd.2.1⟩, fun sig h => ?_, htb _ hl⟩, htb _ hst, trivial⟩
  have h2 := hd.2.2
  rw [h] at h2
  exact (Option.some.inj h2).symm
end XCW
theorem mwIn {w : Cond} {y : MethodName} {bytes : ByteArray} {maxL : Nat} {ret : Option FieldType} (h : w ∈ tb) : w ∈ mw y bytes maxL ret := List.mem_cons_of_mem _ h
end
section
/-! Facts of the methods' descriptors, and the selection of private methods. Written by wip/gen/classes.py. -/
theorem hd_LogFs_init : (y_LogFs_init).cls ≠ "java/lang/invoke/MethodHandle" ∧ (y_LogFs_init).cls ≠ "java/lang/invoke/VarHandle" ∧ (parseMethodDescriptor (y_LogFs_init).desc).map (fun d => d.parameters.length) = some 0 := by decide +kernel
theorem hd_Disk_init : (y_Disk_init).cls ≠ "java/lang/invoke/MethodHandle" ∧ (y_Disk_init).cls ≠ "java/lang/invoke/VarHandle" ∧ (parseMethodDescriptor (y_Disk_init).desc).map (fun d => d.parameters.length) = some 0 := by decide +kernel
theorem hd_Blocks_init : (y_Blocks_init).cls ≠ "java/lang/invoke/MethodHandle" ∧ (y_Blocks_init).cls ≠ "java/lang/invoke/VarHandle" ∧ (parseMethodDescriptor (y_Blocks_init).desc).map (fun d => d.parameters.length) = some 0 := by decide +kernel
theorem hd_Blocks_set : (y_Blocks_set).cls ≠ "java/lang/invoke/MethodHandle" ∧ (y_Blocks_set).cls ≠ "java/lang/invoke/VarHandle" ∧ (parseMethodDescriptor (y_Blocks_set).desc).map (fun d => d.parameters.length) = some 3 := by decide +kernel
theorem hd_Blocks_get : (y_Blocks_get).cls ≠ "java/lang/invoke/MethodHandle" ∧ (y_Blocks_get).cls ≠ "java/lang/invoke/VarHandle" ∧ (parseMethodDescriptor (y_Blocks_get).desc).map (fun d => d.parameters.length) = some 2 := by decide +kernel
theorem hd_Memory_init : (y_Memory_init).cls ≠ "java/lang/invoke/MethodHandle" ∧ (y_Memory_init).cls ≠ "java/lang/invoke/VarHandle" ∧ (parseMethodDescriptor (y_Memory_init).desc).map (fun d => d.parameters.length) = some 0 := by decide +kernel
theorem hd_Volume_init : (y_Volume_init).cls ≠ "java/lang/invoke/MethodHandle" ∧ (y_Volume_init).cls ≠ "java/lang/invoke/VarHandle" ∧ (parseMethodDescriptor (y_Volume_init).desc).map (fun d => d.parameters.length) = some 1 := by decide +kernel
theorem hd_Memory_load : (y_Memory_load).cls ≠ "java/lang/invoke/MethodHandle" ∧ (y_Memory_load).cls ≠ "java/lang/invoke/VarHandle" ∧ (parseMethodDescriptor (y_Memory_load).desc).map (fun d => d.parameters.length) = some 1 := by decide +kernel
theorem hd_Blocks_copyAll : (y_Blocks_copyAll).cls ≠ "java/lang/invoke/MethodHandle" ∧ (y_Blocks_copyAll).cls ≠ "java/lang/invoke/VarHandle" ∧ (parseMethodDescriptor (y_Blocks_copyAll).desc).map (fun d => d.parameters.length) = some 1 := by decide +kernel
theorem hd_Memory_forgetPending : (y_Memory_forgetPending).cls ≠ "java/lang/invoke/MethodHandle" ∧ (y_Memory_forgetPending).cls ≠ "java/lang/invoke/VarHandle" ∧ (parseMethodDescriptor (y_Memory_forgetPending).desc).map (fun d => d.parameters.length) = some 0 := by decide +kernel
theorem hd_LogFs_failAfter : (y_LogFs_failAfter).cls ≠ "java/lang/invoke/MethodHandle" ∧ (y_LogFs_failAfter).cls ≠ "java/lang/invoke/VarHandle" ∧ (parseMethodDescriptor (y_LogFs_failAfter).desc).map (fun d => d.parameters.length) = some 1 := by decide +kernel
theorem hd_LogFs_count : (y_LogFs_count).cls ≠ "java/lang/invoke/MethodHandle" ∧ (y_LogFs_count).cls ≠ "java/lang/invoke/VarHandle" ∧ (parseMethodDescriptor (y_LogFs_count).desc).map (fun d => d.parameters.length) = some 1 := by decide +kernel
theorem hd_LogFs_countInMemory : (y_LogFs_countInMemory).cls ≠ "java/lang/invoke/MethodHandle" ∧ (y_LogFs_countInMemory).cls ≠ "java/lang/invoke/VarHandle" ∧ (parseMethodDescriptor (y_LogFs_countInMemory).desc).map (fun d => d.parameters.length) = some 1 := by decide +kernel
theorem ts_LogFs_countInMemory : Cond.selects "LogFs" y_LogFs_countInMemory y_LogFs_countInMemory ∈ tb := tb_sel (q := (y_LogFs_countInMemory, 4)) (by decide +kernel)
theorem hd_Volume_freeBlocks : (y_Volume_freeBlocks).cls ≠ "java/lang/invoke/MethodHandle" ∧ (y_Volume_freeBlocks).cls ≠ "java/lang/invoke/VarHandle" ∧ (parseMethodDescriptor (y_Volume_freeBlocks).desc).map (fun d => d.parameters.length) = some 0 := by decide +kernel
theorem hd_Integer_bitCount : (y_Integer_bitCount).cls ≠ "java/lang/invoke/MethodHandle" ∧ (y_Integer_bitCount).cls ≠ "java/lang/invoke/VarHandle" ∧ (parseMethodDescriptor (y_Integer_bitCount).desc).map (fun d => d.parameters.length) = some 1 := by decide +kernel
theorem hd_Volume_freeInodes : (y_Volume_freeInodes).cls ≠ "java/lang/invoke/MethodHandle" ∧ (y_Volume_freeInodes).cls ≠ "java/lang/invoke/VarHandle" ∧ (parseMethodDescriptor (y_Volume_freeInodes).desc).map (fun d => d.parameters.length) = some 0 := by decide +kernel
theorem hd_Volume_type : (y_Volume_type).cls ≠ "java/lang/invoke/MethodHandle" ∧ (y_Volume_type).cls ≠ "java/lang/invoke/VarHandle" ∧ (parseMethodDescriptor (y_Volume_type).desc).map (fun d => d.parameters.length) = some 1 := by decide +kernel
theorem hd_Volume_inodeByte : (y_Volume_inodeByte).cls ≠ "java/lang/invoke/MethodHandle" ∧ (y_Volume_inodeByte).cls ≠ "java/lang/invoke/VarHandle" ∧ (parseMethodDescriptor (y_Volume_inodeByte).desc).map (fun d => d.parameters.length) = some 2 := by decide +kernel
theorem ts_Volume_inodeByte : Cond.selects "LogFs$Volume" y_Volume_inodeByte y_Volume_inodeByte ∈ tb := tb_sel (q := (y_Volume_inodeByte, 2)) (by decide +kernel)
theorem hd_LogFs_isInode : (y_LogFs_isInode).cls ≠ "java/lang/invoke/MethodHandle" ∧ (y_LogFs_isInode).cls ≠ "java/lang/invoke/VarHandle" ∧ (parseMethodDescriptor (y_LogFs_isInode).desc).map (fun d => d.parameters.length) = some 1 := by decide +kernel
theorem hd_Memory_pendingAt : (y_Memory_pendingAt).cls ≠ "java/lang/invoke/MethodHandle" ∧ (y_Memory_pendingAt).cls ≠ "java/lang/invoke/VarHandle" ∧ (parseMethodDescriptor (y_Memory_pendingAt).desc).map (fun d => d.parameters.length) = some 1 := by decide +kernel
theorem hd_LogFs_make : (y_LogFs_make).cls ≠ "java/lang/invoke/MethodHandle" ∧ (y_LogFs_make).cls ≠ "java/lang/invoke/VarHandle" ∧ (parseMethodDescriptor (y_LogFs_make).desc).map (fun d => d.parameters.length) = some 3 := by decide +kernel
theorem hd_LogFs_requirePower : (y_LogFs_requirePower).cls ≠ "java/lang/invoke/MethodHandle" ∧ (y_LogFs_requirePower).cls ≠ "java/lang/invoke/VarHandle" ∧ (parseMethodDescriptor (y_LogFs_requirePower).desc).map (fun d => d.parameters.length) = some 0 := by decide +kernel
theorem ts_LogFs_requirePower : Cond.selects "LogFs" y_LogFs_requirePower y_LogFs_requirePower ∈ tb := tb_sel (q := (y_LogFs_requirePower, 4)) (by decide +kernel)
theorem hd_Volume_leastFreeInode : (y_Volume_leastFreeInode).cls ≠ "java/lang/invoke/MethodHandle" ∧ (y_Volume_leastFreeInode).cls ≠ "java/lang/invoke/VarHandle" ∧ (parseMethodDescriptor (y_Volume_leastFreeInode).desc).map (fun d => d.parameters.length) = some 0 := by decide +kernel
theorem hd_Volume_canEnter : (y_Volume_canEnter).cls ≠ "java/lang/invoke/MethodHandle" ∧ (y_Volume_canEnter).cls ≠ "java/lang/invoke/VarHandle" ∧ (parseMethodDescriptor (y_Volume_canEnter).desc).map (fun d => d.parameters.length) = some 2 := by decide +kernel
theorem hd_Volume_isDirectory : (y_Volume_isDirectory).cls ≠ "java/lang/invoke/MethodHandle" ∧ (y_Volume_isDirectory).cls ≠ "java/lang/invoke/VarHandle" ∧ (parseMethodDescriptor (y_Volume_isDirectory).desc).map (fun d => d.parameters.length) = some 1 := by decide +kernel
theorem hd_LogFs_isName : (y_LogFs_isName).cls ≠ "java/lang/invoke/MethodHandle" ∧ (y_LogFs_isName).cls ≠ "java/lang/invoke/VarHandle" ∧ (parseMethodDescriptor (y_LogFs_isName).desc).map (fun d => d.parameters.length) = some 1 := by decide +kernel
theorem hd_LogFs_byteOf : (y_LogFs_byteOf).cls ≠ "java/lang/invoke/MethodHandle" ∧ (y_LogFs_byteOf).cls ≠ "java/lang/invoke/VarHandle" ∧ (parseMethodDescriptor (y_LogFs_byteOf).desc).map (fun d => d.parameters.length) = some 2 := by decide +kernel
theorem hd_Volume_placeOf : (y_Volume_placeOf).cls ≠ "java/lang/invoke/MethodHandle" ∧ (y_Volume_placeOf).cls ≠ "java/lang/invoke/VarHandle" ∧ (parseMethodDescriptor (y_Volume_placeOf).desc).map (fun d => d.parameters.length) = some 2 := by decide +kernel
theorem hd_Volume_size : (y_Volume_size).cls ≠ "java/lang/invoke/MethodHandle" ∧ (y_Volume_size).cls ≠ "java/lang/invoke/VarHandle" ∧ (parseMethodDescriptor (y_Volume_size).desc).map (fun d => d.parameters.length) = some 1 := by decide +kernel
theorem hd_Volume_entryAt : (y_Volume_entryAt).cls ≠ "java/lang/invoke/MethodHandle" ∧ (y_Volume_entryAt).cls ≠ "java/lang/invoke/VarHandle" ∧ (parseMethodDescriptor (y_Volume_entryAt).desc).map (fun d => d.parameters.length) = some 2 := by decide +kernel
theorem ts_Volume_entryAt : Cond.selects "LogFs$Volume" y_Volume_entryAt y_Volume_entryAt ∈ tb := tb_sel (q := (y_Volume_entryAt, 2)) (by decide +kernel)
theorem hd_Volume_contentBlock : (y_Volume_contentBlock).cls ≠ "java/lang/invoke/MethodHandle" ∧ (y_Volume_contentBlock).cls ≠ "java/lang/invoke/VarHandle" ∧ (parseMethodDescriptor (y_Volume_contentBlock).desc).map (fun d => d.parameters.length) = some 2 := by decide +kernel
theorem ts_Volume_contentBlock : Cond.selects "LogFs$Volume" y_Volume_contentBlock y_Volume_contentBlock ∈ tb := tb_sel (q := (y_Volume_contentBlock, 2)) (by decide +kernel)
theorem hd_Volume_placeForEntry : (y_Volume_placeForEntry).cls ≠ "java/lang/invoke/MethodHandle" ∧ (y_Volume_placeForEntry).cls ≠ "java/lang/invoke/VarHandle" ∧ (parseMethodDescriptor (y_Volume_placeForEntry).desc).map (fun d => d.parameters.length) = some 1 := by decide +kernel
theorem hd_Volume_fits : (y_Volume_fits).cls ≠ "java/lang/invoke/MethodHandle" ∧ (y_Volume_fits).cls ≠ "java/lang/invoke/VarHandle" ∧ (parseMethodDescriptor (y_Volume_fits).desc).map (fun d => d.parameters.length) = some 2 := by decide +kernel
theorem ts_Volume_fits : Cond.selects "LogFs$Volume" y_Volume_fits y_Volume_fits ∈ tb := tb_sel (q := (y_Volume_fits, 2)) (by decide +kernel)
theorem hd_Volume_blocksToTake : (y_Volume_blocksToTake).cls ≠ "java/lang/invoke/MethodHandle" ∧ (y_Volume_blocksToTake).cls ≠ "java/lang/invoke/VarHandle" ∧ (parseMethodDescriptor (y_Volume_blocksToTake).desc).map (fun d => d.parameters.length) = some 2 := by decide +kernel
theorem ts_Volume_blocksToTake : Cond.selects "LogFs$Volume" y_Volume_blocksToTake y_Volume_blocksToTake ∈ tb := tb_sel (q := (y_Volume_blocksToTake, 2)) (by decide +kernel)
theorem hd_LogFs_blocksFor : (y_LogFs_blocksFor).cls ≠ "java/lang/invoke/MethodHandle" ∧ (y_LogFs_blocksFor).cls ≠ "java/lang/invoke/VarHandle" ∧ (parseMethodDescriptor (y_LogFs_blocksFor).desc).map (fun d => d.parameters.length) = some 1 := by decide +kernel
theorem hd_LogFs_commitIfMany : (y_LogFs_commitIfMany).cls ≠ "java/lang/invoke/MethodHandle" ∧ (y_LogFs_commitIfMany).cls ≠ "java/lang/invoke/VarHandle" ∧ (parseMethodDescriptor (y_LogFs_commitIfMany).desc).map (fun d => d.parameters.length) = some 0 := by decide +kernel
theorem ts_LogFs_commitIfMany : Cond.selects "LogFs" y_LogFs_commitIfMany y_LogFs_commitIfMany ∈ tb := tb_sel (q := (y_LogFs_commitIfMany, 4)) (by decide +kernel)
theorem hd_LogFs_commit : (y_LogFs_commit).cls ≠ "java/lang/invoke/MethodHandle" ∧ (y_LogFs_commit).cls ≠ "java/lang/invoke/VarHandle" ∧ (parseMethodDescriptor (y_LogFs_commit).desc).map (fun d => d.parameters.length) = some 0 := by decide +kernel
theorem ts_LogFs_commit : Cond.selects "LogFs" y_LogFs_commit y_LogFs_commit ∈ tb := tb_sel (q := (y_LogFs_commit, 4)) (by decide +kernel)
theorem hd_Disk_storePending : (y_Disk_storePending).cls ≠ "java/lang/invoke/MethodHandle" ∧ (y_Disk_storePending).cls ≠ "java/lang/invoke/VarHandle" ∧ (parseMethodDescriptor (y_Disk_storePending).desc).map (fun d => d.parameters.length) = some 1 := by decide +kernel
theorem hd_Disk_storeInLog : (y_Disk_storeInLog).cls ≠ "java/lang/invoke/MethodHandle" ∧ (y_Disk_storeInLog).cls ≠ "java/lang/invoke/VarHandle" ∧ (parseMethodDescriptor (y_Disk_storeInLog).desc).map (fun d => d.parameters.length) = some 1 := by decide +kernel
theorem ts_Disk_storeInLog : Cond.selects "LogFs$Disk" y_Disk_storeInLog y_Disk_storeInLog ∈ tb := tb_sel (q := (y_Disk_storeInLog, 4)) (by decide +kernel)
theorem hd_Disk_storeBlock : (y_Disk_storeBlock).cls ≠ "java/lang/invoke/MethodHandle" ∧ (y_Disk_storeBlock).cls ≠ "java/lang/invoke/VarHandle" ∧ (parseMethodDescriptor (y_Disk_storeBlock).desc).map (fun d => d.parameters.length) = some 3 := by decide +kernel
theorem ts_Disk_storeBlock : Cond.selects "LogFs$Disk" y_Disk_storeBlock y_Disk_storeBlock ∈ tb := tb_sel (q := (y_Disk_storeBlock, 4)) (by decide +kernel)
theorem hd_Disk_spendWrite : (y_Disk_spendWrite).cls ≠ "java/lang/invoke/MethodHandle" ∧ (y_Disk_spendWrite).cls ≠ "java/lang/invoke/VarHandle" ∧ (parseMethodDescriptor (y_Disk_spendWrite).desc).map (fun d => d.parameters.length) = some 0 := by decide +kernel
theorem ts_Disk_spendWrite : Cond.selects "LogFs$Disk" y_Disk_spendWrite y_Disk_spendWrite ∈ tb := tb_sel (q := (y_Disk_spendWrite, 4)) (by decide +kernel)
theorem hd_Blocks_copyBlock : (y_Blocks_copyBlock).cls ≠ "java/lang/invoke/MethodHandle" ∧ (y_Blocks_copyBlock).cls ≠ "java/lang/invoke/VarHandle" ∧ (parseMethodDescriptor (y_Blocks_copyBlock).desc).map (fun d => d.parameters.length) = some 3 := by decide +kernel
theorem hd_Disk_storeHead : (y_Disk_storeHead).cls ≠ "java/lang/invoke/MethodHandle" ∧ (y_Disk_storeHead).cls ≠ "java/lang/invoke/VarHandle" ∧ (parseMethodDescriptor (y_Disk_storeHead).desc).map (fun d => d.parameters.length) = some 1 := by decide +kernel
theorem ts_Disk_storeHead : Cond.selects "LogFs$Disk" y_Disk_storeHead y_Disk_storeHead ∈ tb := tb_sel (q := (y_Disk_storeHead, 4)) (by decide +kernel)
theorem hd_Blocks_clear : (y_Blocks_clear).cls ≠ "java/lang/invoke/MethodHandle" ∧ (y_Blocks_clear).cls ≠ "java/lang/invoke/VarHandle" ∧ (parseMethodDescriptor (y_Blocks_clear).desc).map (fun d => d.parameters.length) = some 1 := by decide +kernel
theorem hd_Disk_storeInPlace : (y_Disk_storeInPlace).cls ≠ "java/lang/invoke/MethodHandle" ∧ (y_Disk_storeInPlace).cls ≠ "java/lang/invoke/VarHandle" ∧ (parseMethodDescriptor (y_Disk_storeInPlace).desc).map (fun d => d.parameters.length) = some 1 := by decide +kernel
theorem ts_Disk_storeInPlace : Cond.selects "LogFs$Disk" y_Disk_storeInPlace y_Disk_storeInPlace ∈ tb := tb_sel (q := (y_Disk_storeInPlace, 4)) (by decide +kernel)
theorem hd_Disk_clearHead : (y_Disk_clearHead).cls ≠ "java/lang/invoke/MethodHandle" ∧ (y_Disk_clearHead).cls ≠ "java/lang/invoke/VarHandle" ∧ (parseMethodDescriptor (y_Disk_clearHead).desc).map (fun d => d.parameters.length) = some 0 := by decide +kernel
theorem ts_Disk_clearHead : Cond.selects "LogFs$Disk" y_Disk_clearHead y_Disk_clearHead ∈ tb := tb_sel (q := (y_Disk_clearHead, 4)) (by decide +kernel)
theorem hd_Volume_begin : (y_Volume_begin).cls ≠ "java/lang/invoke/MethodHandle" ∧ (y_Volume_begin).cls ≠ "java/lang/invoke/VarHandle" ∧ (parseMethodDescriptor (y_Volume_begin).desc).map (fun d => d.parameters.length) = some 2 := by decide +kernel
theorem hd_Volume_setInodeByte : (y_Volume_setInodeByte).cls ≠ "java/lang/invoke/MethodHandle" ∧ (y_Volume_setInodeByte).cls ≠ "java/lang/invoke/VarHandle" ∧ (parseMethodDescriptor (y_Volume_setInodeByte).desc).map (fun d => d.parameters.length) = some 3 := by decide +kernel
theorem ts_Volume_setInodeByte : Cond.selects "LogFs$Volume" y_Volume_setInodeByte y_Volume_setInodeByte ∈ tb := tb_sel (q := (y_Volume_setInodeByte, 2)) (by decide +kernel)
theorem hd_Memory_change : (y_Memory_change).cls ≠ "java/lang/invoke/MethodHandle" ∧ (y_Memory_change).cls ≠ "java/lang/invoke/VarHandle" ∧ (parseMethodDescriptor (y_Memory_change).desc).map (fun d => d.parameters.length) = some 3 := by decide +kernel
theorem hd_Memory_markPending : (y_Memory_markPending).cls ≠ "java/lang/invoke/MethodHandle" ∧ (y_Memory_markPending).cls ≠ "java/lang/invoke/VarHandle" ∧ (parseMethodDescriptor (y_Memory_markPending).desc).map (fun d => d.parameters.length) = some 1 := by decide +kernel
theorem ts_Memory_markPending : Cond.selects "LogFs$Memory" y_Memory_markPending y_Memory_markPending ∈ tb := tb_sel (q := (y_Memory_markPending, 3)) (by decide +kernel)
theorem hd_LogFs_entryOf : (y_LogFs_entryOf).cls ≠ "java/lang/invoke/MethodHandle" ∧ (y_LogFs_entryOf).cls ≠ "java/lang/invoke/VarHandle" ∧ (parseMethodDescriptor (y_LogFs_entryOf).desc).map (fun d => d.parameters.length) = some 2 := by decide +kernel
theorem hd_Volume_putLong : (y_Volume_putLong).cls ≠ "java/lang/invoke/MethodHandle" ∧ (y_Volume_putLong).cls ≠ "java/lang/invoke/VarHandle" ∧ (parseMethodDescriptor (y_Volume_putLong).desc).map (fun d => d.parameters.length) = some 4 := by decide +kernel
theorem hd_Volume_putByte : (y_Volume_putByte).cls ≠ "java/lang/invoke/MethodHandle" ∧ (y_Volume_putByte).cls ≠ "java/lang/invoke/VarHandle" ∧ (parseMethodDescriptor (y_Volume_putByte).desc).map (fun d => d.parameters.length) = some 3 := by decide +kernel
theorem ts_Volume_putByte : Cond.selects "LogFs$Volume" y_Volume_putByte y_Volume_putByte ∈ tb := tb_sel (q := (y_Volume_putByte, 2)) (by decide +kernel)
theorem hd_Volume_addContentBlock : (y_Volume_addContentBlock).cls ≠ "java/lang/invoke/MethodHandle" ∧ (y_Volume_addContentBlock).cls ≠ "java/lang/invoke/VarHandle" ∧ (parseMethodDescriptor (y_Volume_addContentBlock).desc).map (fun d => d.parameters.length) = some 2 := by decide +kernel
theorem ts_Volume_addContentBlock : Cond.selects "LogFs$Volume" y_Volume_addContentBlock y_Volume_addContentBlock ∈ tb := tb_sel (q := (y_Volume_addContentBlock, 2)) (by decide +kernel)
theorem hd_Volume_takeBlock : (y_Volume_takeBlock).cls ≠ "java/lang/invoke/MethodHandle" ∧ (y_Volume_takeBlock).cls ≠ "java/lang/invoke/VarHandle" ∧ (parseMethodDescriptor (y_Volume_takeBlock).desc).map (fun d => d.parameters.length) = some 0 := by decide +kernel
theorem ts_Volume_takeBlock : Cond.selects "LogFs$Volume" y_Volume_takeBlock y_Volume_takeBlock ∈ tb := tb_sel (q := (y_Volume_takeBlock, 2)) (by decide +kernel)
theorem hd_Volume_leastFreeBlock : (y_Volume_leastFreeBlock).cls ≠ "java/lang/invoke/MethodHandle" ∧ (y_Volume_leastFreeBlock).cls ≠ "java/lang/invoke/VarHandle" ∧ (parseMethodDescriptor (y_Volume_leastFreeBlock).desc).map (fun d => d.parameters.length) = some 0 := by decide +kernel
theorem ts_Volume_leastFreeBlock : Cond.selects "LogFs$Volume" y_Volume_leastFreeBlock y_Volume_leastFreeBlock ∈ tb := tb_sel (q := (y_Volume_leastFreeBlock, 2)) (by decide +kernel)
theorem hd_Memory_clear : (y_Memory_clear).cls ≠ "java/lang/invoke/MethodHandle" ∧ (y_Memory_clear).cls ≠ "java/lang/invoke/VarHandle" ∧ (parseMethodDescriptor (y_Memory_clear).desc).map (fun d => d.parameters.length) = some 1 := by decide +kernel
theorem hd_Volume_growTo : (y_Volume_growTo).cls ≠ "java/lang/invoke/MethodHandle" ∧ (y_Volume_growTo).cls ≠ "java/lang/invoke/VarHandle" ∧ (parseMethodDescriptor (y_Volume_growTo).desc).map (fun d => d.parameters.length) = some 2 := by decide +kernel
theorem ts_Volume_growTo : Cond.selects "LogFs$Volume" y_Volume_growTo y_Volume_growTo ∈ tb := tb_sel (q := (y_Volume_growTo, 2)) (by decide +kernel)
theorem hd_LogFs_link : (y_LogFs_link).cls ≠ "java/lang/invoke/MethodHandle" ∧ (y_LogFs_link).cls ≠ "java/lang/invoke/VarHandle" ∧ (parseMethodDescriptor (y_LogFs_link).desc).map (fun d => d.parameters.length) = some 3 := by decide +kernel
theorem hd_Volume_isFile : (y_Volume_isFile).cls ≠ "java/lang/invoke/MethodHandle" ∧ (y_Volume_isFile).cls ≠ "java/lang/invoke/VarHandle" ∧ (parseMethodDescriptor (y_Volume_isFile).desc).map (fun d => d.parameters.length) = some 1 := by decide +kernel
theorem hd_Volume_links : (y_Volume_links).cls ≠ "java/lang/invoke/MethodHandle" ∧ (y_Volume_links).cls ≠ "java/lang/invoke/VarHandle" ∧ (parseMethodDescriptor (y_Volume_links).desc).map (fun d => d.parameters.length) = some 1 := by decide +kernel
theorem hd_Volume_addLink : (y_Volume_addLink).cls ≠ "java/lang/invoke/MethodHandle" ∧ (y_Volume_addLink).cls ≠ "java/lang/invoke/VarHandle" ∧ (parseMethodDescriptor (y_Volume_addLink).desc).map (fun d => d.parameters.length) = some 1 := by decide +kernel
theorem hd_LogFs_unlink : (y_LogFs_unlink).cls ≠ "java/lang/invoke/MethodHandle" ∧ (y_LogFs_unlink).cls ≠ "java/lang/invoke/VarHandle" ∧ (parseMethodDescriptor (y_LogFs_unlink).desc).map (fun d => d.parameters.length) = some 2 := by decide +kernel
theorem hd_Volume_inodeAt : (y_Volume_inodeAt).cls ≠ "java/lang/invoke/MethodHandle" ∧ (y_Volume_inodeAt).cls ≠ "java/lang/invoke/VarHandle" ∧ (parseMethodDescriptor (y_Volume_inodeAt).desc).map (fun d => d.parameters.length) = some 2 := by decide +kernel
theorem hd_Volume_entries : (y_Volume_entries).cls ≠ "java/lang/invoke/MethodHandle" ∧ (y_Volume_entries).cls ≠ "java/lang/invoke/VarHandle" ∧ (parseMethodDescriptor (y_Volume_entries).desc).map (fun d => d.parameters.length) = some 1 := by decide +kernel
theorem hd_Volume_dropLink : (y_Volume_dropLink).cls ≠ "java/lang/invoke/MethodHandle" ∧ (y_Volume_dropLink).cls ≠ "java/lang/invoke/VarHandle" ∧ (parseMethodDescriptor (y_Volume_dropLink).desc).map (fun d => d.parameters.length) = some 1 := by decide +kernel
theorem hd_Volume_empty : (y_Volume_empty).cls ≠ "java/lang/invoke/MethodHandle" ∧ (y_Volume_empty).cls ≠ "java/lang/invoke/VarHandle" ∧ (parseMethodDescriptor (y_Volume_empty).desc).map (fun d => d.parameters.length) = some 1 := by decide +kernel
theorem hd_Volume_giveBack : (y_Volume_giveBack).cls ≠ "java/lang/invoke/MethodHandle" ∧ (y_Volume_giveBack).cls ≠ "java/lang/invoke/VarHandle" ∧ (parseMethodDescriptor (y_Volume_giveBack).desc).map (fun d => d.parameters.length) = some 1 := by decide +kernel
theorem ts_Volume_giveBack : Cond.selects "LogFs$Volume" y_Volume_giveBack y_Volume_giveBack ∈ tb := tb_sel (q := (y_Volume_giveBack, 2)) (by decide +kernel)
theorem hd_LogFs_write : (y_LogFs_write).cls ≠ "java/lang/invoke/MethodHandle" ∧ (y_LogFs_write).cls ≠ "java/lang/invoke/VarHandle" ∧ (parseMethodDescriptor (y_LogFs_write).desc).map (fun d => d.parameters.length) = some 4 := by decide +kernel
theorem hd_Volume_canPut : (y_Volume_canPut).cls ≠ "java/lang/invoke/MethodHandle" ∧ (y_Volume_canPut).cls ≠ "java/lang/invoke/VarHandle" ∧ (parseMethodDescriptor (y_Volume_canPut).desc).map (fun d => d.parameters.length) = some 3 := by decide +kernel
theorem hd_LogFs_fill : (y_LogFs_fill).cls ≠ "java/lang/invoke/MethodHandle" ∧ (y_LogFs_fill).cls ≠ "java/lang/invoke/VarHandle" ∧ (parseMethodDescriptor (y_LogFs_fill).desc).map (fun d => d.parameters.length) = some 4 := by decide +kernel
theorem hd_Volume_putSame : (y_Volume_putSame).cls ≠ "java/lang/invoke/MethodHandle" ∧ (y_Volume_putSame).cls ≠ "java/lang/invoke/VarHandle" ∧ (parseMethodDescriptor (y_Volume_putSame).desc).map (fun d => d.parameters.length) = some 4 := by decide +kernel
theorem hd_LogFs_truncate : (y_LogFs_truncate).cls ≠ "java/lang/invoke/MethodHandle" ∧ (y_LogFs_truncate).cls ≠ "java/lang/invoke/VarHandle" ∧ (parseMethodDescriptor (y_LogFs_truncate).desc).map (fun d => d.parameters.length) = some 1 := by decide +kernel
theorem hd_LogFs_sync : (y_LogFs_sync).cls ≠ "java/lang/invoke/MethodHandle" ∧ (y_LogFs_sync).cls ≠ "java/lang/invoke/VarHandle" ∧ (parseMethodDescriptor (y_LogFs_sync).desc).map (fun d => d.parameters.length) = some 0 := by decide +kernel
theorem hd_LogFs_mount : (y_LogFs_mount).cls ≠ "java/lang/invoke/MethodHandle" ∧ (y_LogFs_mount).cls ≠ "java/lang/invoke/VarHandle" ∧ (parseMethodDescriptor (y_LogFs_mount).desc).map (fun d => d.parameters.length) = some 0 := by decide +kernel
theorem hd_Disk_replayLog : (y_Disk_replayLog).cls ≠ "java/lang/invoke/MethodHandle" ∧ (y_Disk_replayLog).cls ≠ "java/lang/invoke/VarHandle" ∧ (parseMethodDescriptor (y_Disk_replayLog).desc).map (fun d => d.parameters.length) = some 1 := by decide +kernel
theorem hd_LogFs_find : (y_LogFs_find).cls ≠ "java/lang/invoke/MethodHandle" ∧ (y_LogFs_find).cls ≠ "java/lang/invoke/VarHandle" ∧ (parseMethodDescriptor (y_LogFs_find).desc).map (fun d => d.parameters.length) = some 2 := by decide +kernel
theorem hd_LogFs_read : (y_LogFs_read).cls ≠ "java/lang/invoke/MethodHandle" ∧ (y_LogFs_read).cls ≠ "java/lang/invoke/VarHandle" ∧ (parseMethodDescriptor (y_LogFs_read).desc).map (fun d => d.parameters.length) = some 2 := by decide +kernel
theorem hd_Volume_contentByte : (y_Volume_contentByte).cls ≠ "java/lang/invoke/MethodHandle" ∧ (y_Volume_contentByte).cls ≠ "java/lang/invoke/VarHandle" ∧ (parseMethodDescriptor (y_Volume_contentByte).desc).map (fun d => d.parameters.length) = some 2 := by decide +kernel
theorem hd_LogFs_look : (y_LogFs_look).cls ≠ "java/lang/invoke/MethodHandle" ∧ (y_LogFs_look).cls ≠ "java/lang/invoke/VarHandle" ∧ (parseMethodDescriptor (y_LogFs_look).desc).map (fun d => d.parameters.length) = some 2 := by decide +kernel
theorem hd_LogFs_disk : (y_LogFs_disk).cls ≠ "java/lang/invoke/MethodHandle" ∧ (y_LogFs_disk).cls ≠ "java/lang/invoke/VarHandle" ∧ (parseMethodDescriptor (y_LogFs_disk).desc).map (fun d => d.parameters.length) = some 2 := by decide +kernel
theorem hd_LogFs_requireByte : (y_LogFs_requireByte).cls ≠ "java/lang/invoke/MethodHandle" ∧ (y_LogFs_requireByte).cls ≠ "java/lang/invoke/VarHandle" ∧ (parseMethodDescriptor (y_LogFs_requireByte).desc).map (fun d => d.parameters.length) = some 2 := by decide +kernel
theorem hd_LogFs_memory : (y_LogFs_memory).cls ≠ "java/lang/invoke/MethodHandle" ∧ (y_LogFs_memory).cls ≠ "java/lang/invoke/VarHandle" ∧ (parseMethodDescriptor (y_LogFs_memory).desc).map (fun d => d.parameters.length) = some 2 := by decide +kernel
theorem hd_Model_init : (y_Model_init).cls ≠ "java/lang/invoke/MethodHandle" ∧ (y_Model_init).cls ≠ "java/lang/invoke/VarHandle" ∧ (parseMethodDescriptor (y_Model_init).desc).map (fun d => d.parameters.length) = some 0 := by decide +kernel
theorem hd_Model_load : (y_Model_load).cls ≠ "java/lang/invoke/MethodHandle" ∧ (y_Model_load).cls ≠ "java/lang/invoke/VarHandle" ∧ (parseMethodDescriptor (y_Model_load).desc).map (fun d => d.parameters.length) = some 0 := by decide +kernel
theorem ts_Model_load : Cond.selects "LogFsModel" y_Model_load y_Model_load ∈ tb := tb_sel (q := (y_Model_load, 12)) (by decide +kernel)
theorem hd_Model_thrown : (y_Model_thrown).cls ≠ "java/lang/invoke/MethodHandle" ∧ (y_Model_thrown).cls ≠ "java/lang/invoke/VarHandle" ∧ (parseMethodDescriptor (y_Model_thrown).desc).map (fun d => d.parameters.length) = some 0 := by decide +kernel
theorem hd_Model_sync : (y_Model_sync).cls ≠ "java/lang/invoke/MethodHandle" ∧ (y_Model_sync).cls ≠ "java/lang/invoke/VarHandle" ∧ (parseMethodDescriptor (y_Model_sync).desc).map (fun d => d.parameters.length) = some 0 := by decide +kernel
theorem hd_Model_dead : (y_Model_dead).cls ≠ "java/lang/invoke/MethodHandle" ∧ (y_Model_dead).cls ≠ "java/lang/invoke/VarHandle" ∧ (parseMethodDescriptor (y_Model_dead).desc).map (fun d => d.parameters.length) = some 0 := by decide +kernel
theorem ts_Model_dead : Cond.selects "LogFsModel" y_Model_dead y_Model_dead ∈ tb := tb_sel (q := (y_Model_dead, 12)) (by decide +kernel)
theorem hd_Model_commit : (y_Model_commit).cls ≠ "java/lang/invoke/MethodHandle" ∧ (y_Model_commit).cls ≠ "java/lang/invoke/VarHandle" ∧ (parseMethodDescriptor (y_Model_commit).desc).map (fun d => d.parameters.length) = some 0 := by decide +kernel
theorem ts_Model_commit : Cond.selects "LogFsModel" y_Model_commit y_Model_commit ∈ tb := tb_sel (q := (y_Model_commit, 12)) (by decide +kernel)
theorem hd_Model_fetch : (y_Model_fetch).cls ≠ "java/lang/invoke/MethodHandle" ∧ (y_Model_fetch).cls ≠ "java/lang/invoke/VarHandle" ∧ (parseMethodDescriptor (y_Model_fetch).desc).map (fun d => d.parameters.length) = some 1 := by decide +kernel
theorem ts_Model_fetch : Cond.selects "LogFsModel" y_Model_fetch y_Model_fetch ∈ tb := tb_sel (q := (y_Model_fetch, 12)) (by decide +kernel)
theorem hd_Model_put : (y_Model_put).cls ≠ "java/lang/invoke/MethodHandle" ∧ (y_Model_put).cls ≠ "java/lang/invoke/VarHandle" ∧ (parseMethodDescriptor (y_Model_put).desc).map (fun d => d.parameters.length) = some 1 := by decide +kernel
theorem ts_Model_put : Cond.selects "LogFsModel" y_Model_put y_Model_put ∈ tb := tb_sel (q := (y_Model_put, 12)) (by decide +kernel)
theorem hd_Model_head : (y_Model_head).cls ≠ "java/lang/invoke/MethodHandle" ∧ (y_Model_head).cls ≠ "java/lang/invoke/VarHandle" ∧ (parseMethodDescriptor (y_Model_head).desc).map (fun d => d.parameters.length) = some 1 := by decide +kernel
theorem ts_Model_head : Cond.selects "LogFsModel" y_Model_head y_Model_head ∈ tb := tb_sel (q := (y_Model_head, 12)) (by decide +kernel)
theorem hd_Model_failAfter : (y_Model_failAfter).cls ≠ "java/lang/invoke/MethodHandle" ∧ (y_Model_failAfter).cls ≠ "java/lang/invoke/VarHandle" ∧ (parseMethodDescriptor (y_Model_failAfter).desc).map (fun d => d.parameters.length) = some 1 := by decide +kernel
theorem hd_Model_mount : (y_Model_mount).cls ≠ "java/lang/invoke/MethodHandle" ∧ (y_Model_mount).cls ≠ "java/lang/invoke/VarHandle" ∧ (parseMethodDescriptor (y_Model_mount).desc).map (fun d => d.parameters.length) = some 0 := by decide +kernel
theorem hd_Model_make : (y_Model_make).cls ≠ "java/lang/invoke/MethodHandle" ∧ (y_Model_make).cls ≠ "java/lang/invoke/VarHandle" ∧ (parseMethodDescriptor (y_Model_make).desc).map (fun d => d.parameters.length) = some 3 := by decide +kernel
theorem hd_Model_isName : (y_Model_isName).cls ≠ "java/lang/invoke/MethodHandle" ∧ (y_Model_isName).cls ≠ "java/lang/invoke/VarHandle" ∧ (parseMethodDescriptor (y_Model_isName).desc).map (fun d => d.parameters.length) = some 1 := by decide +kernel
theorem ts_Model_isName : Cond.selects "LogFsModel" y_Model_isName y_Model_isName ∈ tb := tb_sel (q := (y_Model_isName, 12)) (by decide +kernel)
theorem hd_Model_is : (y_Model_is).cls ≠ "java/lang/invoke/MethodHandle" ∧ (y_Model_is).cls ≠ "java/lang/invoke/VarHandle" ∧ (parseMethodDescriptor (y_Model_is).desc).map (fun d => d.parameters.length) = some 2 := by decide +kernel
theorem ts_Model_is : Cond.selects "LogFsModel" y_Model_is y_Model_is ∈ tb := tb_sel (q := (y_Model_is, 12)) (by decide +kernel)
theorem hd_Model_isInode : (y_Model_isInode).cls ≠ "java/lang/invoke/MethodHandle" ∧ (y_Model_isInode).cls ≠ "java/lang/invoke/VarHandle" ∧ (parseMethodDescriptor (y_Model_isInode).desc).map (fun d => d.parameters.length) = some 1 := by decide +kernel
theorem hd_Model_inodeAt : (y_Model_inodeAt).cls ≠ "java/lang/invoke/MethodHandle" ∧ (y_Model_inodeAt).cls ≠ "java/lang/invoke/VarHandle" ∧ (parseMethodDescriptor (y_Model_inodeAt).desc).map (fun d => d.parameters.length) = some 2 := by decide +kernel
theorem ts_Model_inodeAt : Cond.selects "LogFsModel" y_Model_inodeAt y_Model_inodeAt ∈ tb := tb_sel (q := (y_Model_inodeAt, 12)) (by decide +kernel)
theorem hd_Model_blockOf : (y_Model_blockOf).cls ≠ "java/lang/invoke/MethodHandle" ∧ (y_Model_blockOf).cls ≠ "java/lang/invoke/VarHandle" ∧ (parseMethodDescriptor (y_Model_blockOf).desc).map (fun d => d.parameters.length) = some 1 := by decide +kernel
theorem hd_Model_placeOf : (y_Model_placeOf).cls ≠ "java/lang/invoke/MethodHandle" ∧ (y_Model_placeOf).cls ≠ "java/lang/invoke/VarHandle" ∧ (parseMethodDescriptor (y_Model_placeOf).desc).map (fun d => d.parameters.length) = some 1 := by decide +kernel
theorem hd_Model_at : (y_Model_at).cls ≠ "java/lang/invoke/MethodHandle" ∧ (y_Model_at).cls ≠ "java/lang/invoke/VarHandle" ∧ (parseMethodDescriptor (y_Model_at).desc).map (fun d => d.parameters.length) = some 2 := by decide +kernel
theorem ts_Model_at : Cond.selects "LogFsModel" y_Model_at y_Model_at ∈ tb := tb_sel (q := (y_Model_at, 12)) (by decide +kernel)
theorem hd_Model_mayEnter : (y_Model_mayEnter).cls ≠ "java/lang/invoke/MethodHandle" ∧ (y_Model_mayEnter).cls ≠ "java/lang/invoke/VarHandle" ∧ (parseMethodDescriptor (y_Model_mayEnter).desc).map (fun d => d.parameters.length) = some 1 := by decide +kernel
theorem ts_Model_mayEnter : Cond.selects "LogFsModel" y_Model_mayEnter y_Model_mayEnter ∈ tb := tb_sel (q := (y_Model_mayEnter, 12)) (by decide +kernel)
theorem hd_Model_placeForEntry : (y_Model_placeForEntry).cls ≠ "java/lang/invoke/MethodHandle" ∧ (y_Model_placeForEntry).cls ≠ "java/lang/invoke/VarHandle" ∧ (parseMethodDescriptor (y_Model_placeForEntry).desc).map (fun d => d.parameters.length) = some 1 := by decide +kernel
theorem ts_Model_placeForEntry : Cond.selects "LogFsModel" y_Model_placeForEntry y_Model_placeForEntry ∈ tb := tb_sel (q := (y_Model_placeForEntry, 12)) (by decide +kernel)
theorem hd_Model_sizeOf : (y_Model_sizeOf).cls ≠ "java/lang/invoke/MethodHandle" ∧ (y_Model_sizeOf).cls ≠ "java/lang/invoke/VarHandle" ∧ (parseMethodDescriptor (y_Model_sizeOf).desc).map (fun d => d.parameters.length) = some 1 := by decide +kernel
theorem ts_Model_sizeOf : Cond.selects "LogFsModel" y_Model_sizeOf y_Model_sizeOf ∈ tb := tb_sel (q := (y_Model_sizeOf, 12)) (by decide +kernel)
theorem hd_Model_contentAt : (y_Model_contentAt).cls ≠ "java/lang/invoke/MethodHandle" ∧ (y_Model_contentAt).cls ≠ "java/lang/invoke/VarHandle" ∧ (parseMethodDescriptor (y_Model_contentAt).desc).map (fun d => d.parameters.length) = some 2 := by decide +kernel
theorem ts_Model_contentAt : Cond.selects "LogFsModel" y_Model_contentAt y_Model_contentAt ∈ tb := tb_sel (q := (y_Model_contentAt, 12)) (by decide +kernel)
theorem hd_Model_contentBlock : (y_Model_contentBlock).cls ≠ "java/lang/invoke/MethodHandle" ∧ (y_Model_contentBlock).cls ≠ "java/lang/invoke/VarHandle" ∧ (parseMethodDescriptor (y_Model_contentBlock).desc).map (fun d => d.parameters.length) = some 2 := by decide +kernel
theorem ts_Model_contentBlock : Cond.selects "LogFsModel" y_Model_contentBlock y_Model_contentBlock ∈ tb := tb_sel (q := (y_Model_contentBlock, 12)) (by decide +kernel)
theorem hd_Model_findEntry : (y_Model_findEntry).cls ≠ "java/lang/invoke/MethodHandle" ∧ (y_Model_findEntry).cls ≠ "java/lang/invoke/VarHandle" ∧ (parseMethodDescriptor (y_Model_findEntry).desc).map (fun d => d.parameters.length) = some 1 := by decide +kernel
theorem ts_Model_findEntry : Cond.selects "LogFsModel" y_Model_findEntry y_Model_findEntry ∈ tb := tb_sel (q := (y_Model_findEntry, 12)) (by decide +kernel)
theorem hd_Model_needs : (y_Model_needs).cls ≠ "java/lang/invoke/MethodHandle" ∧ (y_Model_needs).cls ≠ "java/lang/invoke/VarHandle" ∧ (parseMethodDescriptor (y_Model_needs).desc).map (fun d => d.parameters.length) = some 2 := by decide +kernel
theorem ts_Model_needs : Cond.selects "LogFsModel" y_Model_needs y_Model_needs ∈ tb := tb_sel (q := (y_Model_needs, 12)) (by decide +kernel)
theorem hd_Model_blocksFor : (y_Model_blocksFor).cls ≠ "java/lang/invoke/MethodHandle" ∧ (y_Model_blocksFor).cls ≠ "java/lang/invoke/VarHandle" ∧ (parseMethodDescriptor (y_Model_blocksFor).desc).map (fun d => d.parameters.length) = some 1 := by decide +kernel
theorem hd_Model_freeBlocks : (y_Model_freeBlocks).cls ≠ "java/lang/invoke/MethodHandle" ∧ (y_Model_freeBlocks).cls ≠ "java/lang/invoke/VarHandle" ∧ (parseMethodDescriptor (y_Model_freeBlocks).desc).map (fun d => d.parameters.length) = some 0 := by decide +kernel
theorem ts_Model_freeBlocks : Cond.selects "LogFsModel" y_Model_freeBlocks y_Model_freeBlocks ∈ tb := tb_sel (q := (y_Model_freeBlocks, 12)) (by decide +kernel)
theorem hd_Model_isUsed : (y_Model_isUsed).cls ≠ "java/lang/invoke/MethodHandle" ∧ (y_Model_isUsed).cls ≠ "java/lang/invoke/VarHandle" ∧ (parseMethodDescriptor (y_Model_isUsed).desc).map (fun d => d.parameters.length) = some 1 := by decide +kernel
theorem ts_Model_isUsed : Cond.selects "LogFsModel" y_Model_isUsed y_Model_isUsed ∈ tb := tb_sel (q := (y_Model_isUsed, 12)) (by decide +kernel)
theorem hd_Model_freeInode : (y_Model_freeInode).cls ≠ "java/lang/invoke/MethodHandle" ∧ (y_Model_freeInode).cls ≠ "java/lang/invoke/VarHandle" ∧ (parseMethodDescriptor (y_Model_freeInode).desc).map (fun d => d.parameters.length) = some 0 := by decide +kernel
theorem ts_Model_freeInode : Cond.selects "LogFsModel" y_Model_freeInode y_Model_freeInode ∈ tb := tb_sel (q := (y_Model_freeInode, 12)) (by decide +kernel)
theorem hd_Model_ready : (y_Model_ready).cls ≠ "java/lang/invoke/MethodHandle" ∧ (y_Model_ready).cls ≠ "java/lang/invoke/VarHandle" ∧ (parseMethodDescriptor (y_Model_ready).desc).map (fun d => d.parameters.length) = some 0 := by decide +kernel
theorem ts_Model_ready : Cond.selects "LogFsModel" y_Model_ready y_Model_ready ∈ tb := tb_sel (q := (y_Model_ready, 12)) (by decide +kernel)
theorem hd_Model_setInode : (y_Model_setInode).cls ≠ "java/lang/invoke/MethodHandle" ∧ (y_Model_setInode).cls ≠ "java/lang/invoke/VarHandle" ∧ (parseMethodDescriptor (y_Model_setInode).desc).map (fun d => d.parameters.length) = some 3 := by decide +kernel
theorem ts_Model_setInode : Cond.selects "LogFsModel" y_Model_setInode y_Model_setInode ∈ tb := tb_sel (q := (y_Model_setInode, 12)) (by decide +kernel)
theorem hd_Model_set : (y_Model_set).cls ≠ "java/lang/invoke/MethodHandle" ∧ (y_Model_set).cls ≠ "java/lang/invoke/VarHandle" ∧ (parseMethodDescriptor (y_Model_set).desc).map (fun d => d.parameters.length) = some 3 := by decide +kernel
theorem ts_Model_set : Cond.selects "LogFsModel" y_Model_set y_Model_set ∈ tb := tb_sel (q := (y_Model_set, 12)) (by decide +kernel)
theorem hd_Model_pend : (y_Model_pend).cls ≠ "java/lang/invoke/MethodHandle" ∧ (y_Model_pend).cls ≠ "java/lang/invoke/VarHandle" ∧ (parseMethodDescriptor (y_Model_pend).desc).map (fun d => d.parameters.length) = some 1 := by decide +kernel
theorem ts_Model_pend : Cond.selects "LogFsModel" y_Model_pend y_Model_pend ∈ tb := tb_sel (q := (y_Model_pend, 12)) (by decide +kernel)
theorem hd_Model_enter : (y_Model_enter).cls ≠ "java/lang/invoke/MethodHandle" ∧ (y_Model_enter).cls ≠ "java/lang/invoke/VarHandle" ∧ (parseMethodDescriptor (y_Model_enter).desc).map (fun d => d.parameters.length) = some 2 := by decide +kernel
theorem ts_Model_enter : Cond.selects "LogFsModel" y_Model_enter y_Model_enter ∈ tb := tb_sel (q := (y_Model_enter, 12)) (by decide +kernel)
theorem hd_Model_blockFor : (y_Model_blockFor).cls ≠ "java/lang/invoke/MethodHandle" ∧ (y_Model_blockFor).cls ≠ "java/lang/invoke/VarHandle" ∧ (parseMethodDescriptor (y_Model_blockFor).desc).map (fun d => d.parameters.length) = some 2 := by decide +kernel
theorem ts_Model_blockFor : Cond.selects "LogFsModel" y_Model_blockFor y_Model_blockFor ∈ tb := tb_sel (q := (y_Model_blockFor, 12)) (by decide +kernel)
theorem hd_Model_takeBlock : (y_Model_takeBlock).cls ≠ "java/lang/invoke/MethodHandle" ∧ (y_Model_takeBlock).cls ≠ "java/lang/invoke/VarHandle" ∧ (parseMethodDescriptor (y_Model_takeBlock).desc).map (fun d => d.parameters.length) = some 0 := by decide +kernel
theorem ts_Model_takeBlock : Cond.selects "LogFsModel" y_Model_takeBlock y_Model_takeBlock ∈ tb := tb_sel (q := (y_Model_takeBlock, 12)) (by decide +kernel)
theorem hd_Model_setSize : (y_Model_setSize).cls ≠ "java/lang/invoke/MethodHandle" ∧ (y_Model_setSize).cls ≠ "java/lang/invoke/VarHandle" ∧ (parseMethodDescriptor (y_Model_setSize).desc).map (fun d => d.parameters.length) = some 2 := by decide +kernel
theorem ts_Model_setSize : Cond.selects "LogFsModel" y_Model_setSize y_Model_setSize ∈ tb := tb_sel (q := (y_Model_setSize, 12)) (by decide +kernel)
theorem hd_Model_link : (y_Model_link).cls ≠ "java/lang/invoke/MethodHandle" ∧ (y_Model_link).cls ≠ "java/lang/invoke/VarHandle" ∧ (parseMethodDescriptor (y_Model_link).desc).map (fun d => d.parameters.length) = some 3 := by decide +kernel
theorem hd_Model_unlink : (y_Model_unlink).cls ≠ "java/lang/invoke/MethodHandle" ∧ (y_Model_unlink).cls ≠ "java/lang/invoke/VarHandle" ∧ (parseMethodDescriptor (y_Model_unlink).desc).map (fun d => d.parameters.length) = some 2 := by decide +kernel
theorem hd_Model_entries : (y_Model_entries).cls ≠ "java/lang/invoke/MethodHandle" ∧ (y_Model_entries).cls ≠ "java/lang/invoke/VarHandle" ∧ (parseMethodDescriptor (y_Model_entries).desc).map (fun d => d.parameters.length) = some 1 := by decide +kernel
theorem ts_Model_entries : Cond.selects "LogFsModel" y_Model_entries y_Model_entries ∈ tb := tb_sel (q := (y_Model_entries, 12)) (by decide +kernel)
theorem hd_Model_release : (y_Model_release).cls ≠ "java/lang/invoke/MethodHandle" ∧ (y_Model_release).cls ≠ "java/lang/invoke/VarHandle" ∧ (parseMethodDescriptor (y_Model_release).desc).map (fun d => d.parameters.length) = some 1 := by decide +kernel
theorem ts_Model_release : Cond.selects "LogFsModel" y_Model_release y_Model_release ∈ tb := tb_sel (q := (y_Model_release, 12)) (by decide +kernel)
theorem hd_Model_free : (y_Model_free).cls ≠ "java/lang/invoke/MethodHandle" ∧ (y_Model_free).cls ≠ "java/lang/invoke/VarHandle" ∧ (parseMethodDescriptor (y_Model_free).desc).map (fun d => d.parameters.length) = some 1 := by decide +kernel
theorem ts_Model_free : Cond.selects "LogFsModel" y_Model_free y_Model_free ∈ tb := tb_sel (q := (y_Model_free, 12)) (by decide +kernel)
theorem hd_Model_clear : (y_Model_clear).cls ≠ "java/lang/invoke/MethodHandle" ∧ (y_Model_clear).cls ≠ "java/lang/invoke/VarHandle" ∧ (parseMethodDescriptor (y_Model_clear).desc).map (fun d => d.parameters.length) = some 2 := by decide +kernel
theorem ts_Model_clear : Cond.selects "LogFsModel" y_Model_clear y_Model_clear ∈ tb := tb_sel (q := (y_Model_clear, 12)) (by decide +kernel)
theorem hd_Model_write : (y_Model_write).cls ≠ "java/lang/invoke/MethodHandle" ∧ (y_Model_write).cls ≠ "java/lang/invoke/VarHandle" ∧ (parseMethodDescriptor (y_Model_write).desc).map (fun d => d.parameters.length) = some 4 := by decide +kernel
theorem hd_Model_mayWrite : (y_Model_mayWrite).cls ≠ "java/lang/invoke/MethodHandle" ∧ (y_Model_mayWrite).cls ≠ "java/lang/invoke/VarHandle" ∧ (parseMethodDescriptor (y_Model_mayWrite).desc).map (fun d => d.parameters.length) = some 3 := by decide +kernel
theorem ts_Model_mayWrite : Cond.selects "LogFsModel" y_Model_mayWrite y_Model_mayWrite ∈ tb := tb_sel (q := (y_Model_mayWrite, 12)) (by decide +kernel)
theorem hd_Model_writes : (y_Model_writes).cls ≠ "java/lang/invoke/MethodHandle" ∧ (y_Model_writes).cls ≠ "java/lang/invoke/VarHandle" ∧ (parseMethodDescriptor (y_Model_writes).desc).map (fun d => d.parameters.length) = some 3 := by decide +kernel
theorem ts_Model_writes : Cond.selects "LogFsModel" y_Model_writes y_Model_writes ∈ tb := tb_sel (q := (y_Model_writes, 12)) (by decide +kernel)
theorem hd_Model_fill : (y_Model_fill).cls ≠ "java/lang/invoke/MethodHandle" ∧ (y_Model_fill).cls ≠ "java/lang/invoke/VarHandle" ∧ (parseMethodDescriptor (y_Model_fill).desc).map (fun d => d.parameters.length) = some 4 := by decide +kernel
theorem hd_Model_truncate : (y_Model_truncate).cls ≠ "java/lang/invoke/MethodHandle" ∧ (y_Model_truncate).cls ≠ "java/lang/invoke/VarHandle" ∧ (parseMethodDescriptor (y_Model_truncate).desc).map (fun d => d.parameters.length) = some 1 := by decide +kernel
theorem hd_Model_find : (y_Model_find).cls ≠ "java/lang/invoke/MethodHandle" ∧ (y_Model_find).cls ≠ "java/lang/invoke/VarHandle" ∧ (parseMethodDescriptor (y_Model_find).desc).map (fun d => d.parameters.length) = some 2 := by decide +kernel
theorem hd_Model_read : (y_Model_read).cls ≠ "java/lang/invoke/MethodHandle" ∧ (y_Model_read).cls ≠ "java/lang/invoke/VarHandle" ∧ (parseMethodDescriptor (y_Model_read).desc).map (fun d => d.parameters.length) = some 2 := by decide +kernel
theorem hd_Model_look : (y_Model_look).cls ≠ "java/lang/invoke/MethodHandle" ∧ (y_Model_look).cls ≠ "java/lang/invoke/VarHandle" ∧ (parseMethodDescriptor (y_Model_look).desc).map (fun d => d.parameters.length) = some 2 := by decide +kernel
theorem hd_Model_disk : (y_Model_disk).cls ≠ "java/lang/invoke/MethodHandle" ∧ (y_Model_disk).cls ≠ "java/lang/invoke/VarHandle" ∧ (parseMethodDescriptor (y_Model_disk).desc).map (fun d => d.parameters.length) = some 2 := by decide +kernel
theorem hd_Model_isByte : (y_Model_isByte).cls ≠ "java/lang/invoke/MethodHandle" ∧ (y_Model_isByte).cls ≠ "java/lang/invoke/VarHandle" ∧ (parseMethodDescriptor (y_Model_isByte).desc).map (fun d => d.parameters.length) = some 2 := by decide +kernel
theorem hd_Model_memory : (y_Model_memory).cls ≠ "java/lang/invoke/MethodHandle" ∧ (y_Model_memory).cls ≠ "java/lang/invoke/VarHandle" ∧ (parseMethodDescriptor (y_Model_memory).desc).map (fun d => d.parameters.length) = some 2 := by decide +kernel
theorem hd_Model_count : (y_Model_count).cls ≠ "java/lang/invoke/MethodHandle" ∧ (y_Model_count).cls ≠ "java/lang/invoke/VarHandle" ∧ (parseMethodDescriptor (y_Model_count).desc).map (fun d => d.parameters.length) = some 1 := by decide +kernel
theorem hd_Law_make : (y_Law_make).cls ≠ "java/lang/invoke/MethodHandle" ∧ (y_Law_make).cls ≠ "java/lang/invoke/VarHandle" ∧ (parseMethodDescriptor (y_Law_make).desc).map (fun d => d.parameters.length) = some 5 := by decide +kernel
theorem hd_Law_link : (y_Law_link).cls ≠ "java/lang/invoke/MethodHandle" ∧ (y_Law_link).cls ≠ "java/lang/invoke/VarHandle" ∧ (parseMethodDescriptor (y_Law_link).desc).map (fun d => d.parameters.length) = some 5 := by decide +kernel
theorem hd_Law_unlink : (y_Law_unlink).cls ≠ "java/lang/invoke/MethodHandle" ∧ (y_Law_unlink).cls ≠ "java/lang/invoke/VarHandle" ∧ (parseMethodDescriptor (y_Law_unlink).desc).map (fun d => d.parameters.length) = some 4 := by decide +kernel
theorem hd_Law_write : (y_Law_write).cls ≠ "java/lang/invoke/MethodHandle" ∧ (y_Law_write).cls ≠ "java/lang/invoke/VarHandle" ∧ (parseMethodDescriptor (y_Law_write).desc).map (fun d => d.parameters.length) = some 6 := by decide +kernel
theorem hd_Law_fill : (y_Law_fill).cls ≠ "java/lang/invoke/MethodHandle" ∧ (y_Law_fill).cls ≠ "java/lang/invoke/VarHandle" ∧ (parseMethodDescriptor (y_Law_fill).desc).map (fun d => d.parameters.length) = some 6 := by decide +kernel
theorem hd_Law_truncate : (y_Law_truncate).cls ≠ "java/lang/invoke/MethodHandle" ∧ (y_Law_truncate).cls ≠ "java/lang/invoke/VarHandle" ∧ (parseMethodDescriptor (y_Law_truncate).desc).map (fun d => d.parameters.length) = some 3 := by decide +kernel
theorem hd_Law_sync : (y_Law_sync).cls ≠ "java/lang/invoke/MethodHandle" ∧ (y_Law_sync).cls ≠ "java/lang/invoke/VarHandle" ∧ (parseMethodDescriptor (y_Law_sync).desc).map (fun d => d.parameters.length) = some 2 := by decide +kernel
theorem hd_Law_mount : (y_Law_mount).cls ≠ "java/lang/invoke/MethodHandle" ∧ (y_Law_mount).cls ≠ "java/lang/invoke/VarHandle" ∧ (parseMethodDescriptor (y_Law_mount).desc).map (fun d => d.parameters.length) = some 2 := by decide +kernel
theorem hd_Law_find : (y_Law_find).cls ≠ "java/lang/invoke/MethodHandle" ∧ (y_Law_find).cls ≠ "java/lang/invoke/VarHandle" ∧ (parseMethodDescriptor (y_Law_find).desc).map (fun d => d.parameters.length) = some 4 := by decide +kernel
theorem hd_Law_read : (y_Law_read).cls ≠ "java/lang/invoke/MethodHandle" ∧ (y_Law_read).cls ≠ "java/lang/invoke/VarHandle" ∧ (parseMethodDescriptor (y_Law_read).desc).map (fun d => d.parameters.length) = some 4 := by decide +kernel
theorem hd_Law_look : (y_Law_look).cls ≠ "java/lang/invoke/MethodHandle" ∧ (y_Law_look).cls ≠ "java/lang/invoke/VarHandle" ∧ (parseMethodDescriptor (y_Law_look).desc).map (fun d => d.parameters.length) = some 4 := by decide +kernel
theorem hd_Law_disk : (y_Law_disk).cls ≠ "java/lang/invoke/MethodHandle" ∧ (y_Law_disk).cls ≠ "java/lang/invoke/VarHandle" ∧ (parseMethodDescriptor (y_Law_disk).desc).map (fun d => d.parameters.length) = some 4 := by decide +kernel
theorem hd_Law_memory : (y_Law_memory).cls ≠ "java/lang/invoke/MethodHandle" ∧ (y_Law_memory).cls ≠ "java/lang/invoke/VarHandle" ∧ (parseMethodDescriptor (y_Law_memory).desc).map (fun d => d.parameters.length) = some 4 := by decide +kernel
end
section
/-! Blocks: its methods as pure functions J_.., and the machine follows them. Written by wip/gen/classes.py. -/
def J_Blocks_get_z (σ : ZS) (a1 : Int32) (a2 : Int32) : Option (Int32) :=
  (if a1 < (0 : Int32) then some (0 : Int32) else (if (128 : Int32) ≤ a1 then some (0 : Int32) else (if a2 < (0 : Int32) then some (0 : Int32) else (if a2 < (64 : Int32) then (if jin ((a1 * (64 : Int32)) + a2) 8192 = true then some (((z_D σ) ((a1 * (64 : Int32)) + a2).toNatClampNeg).toInt32 &&& (255 : Int32)) else none) else some (0 : Int32)))))
abbrev rm_Blocks_get_z : Room := { frames := 0, cells := 0, slots := 0, locals := 0 }
set_option maxHeartbeats 4000000 in
set_option maxRecDepth 100000 in
theorem c_Blocks_get_z {l : Launch} {dC : Nat → ClassId} {dI : Nat → Nat → Nat} {ga : Nat → Nat} {cB cI : ClassId} {A : Nat → Prop} (hDa : ∀ σ, va_D A (wZ ga cB cI σ)) {σ : ZS} {a1 : Int32} {a2 : Int32} {res : Int32} (hJ : J_Blocks_get_z σ a1 a2 = some res) :
    Met l y_Blocks_get (mw y_Blocks_get b_Blocks_get 3 (some .int)) rm_Blocks_get_z (va_Pc [.ref (ga 4), .int a1, .int a2] (kW (dC, dI) (tC cB cI) (wZ ga cB cI σ))) (va_Qi (fun (x : Int32) (_ : Unit) => x = res) (fun _ t => kW (dC, dI) (tC cB cI) (wZ ga cB cI σ) t) A) 0 0 A := by
  refine Met.ofW (cc := b_Blocks_get) (maxL := 3) (ret := (some .int)) (by decide) rfl ?_
  intro p e s m args below meth c s₁ B hml hv
  obtain ⟨rfl, hP, hK⟩ := hv
  have hx := B.exec
  have hb := B.bytes
  have hr := B.returns
  have hts := atoms_spec (ws := (mw y_Blocks_get b_Blocks_get 3 (some .int))) B.pre
  have htb : ∀ w ∈ tb, w.before [.ref (ga 4), .int a1, .int a2].toArray s = true := fun w h => hts w (mwIn h)
  have hown : s.vm.findClass "LogFs$Blocks" = some m.cls := findClass_of_methodNamed B.named
  have hlocks := B.notSynchronized
  have hS : va_S A s.heap s.heap [] := va_S.rf
  have hl := lv_entry ([.ref (ga 4), .int a1, .int a2]) (n := 3) (Nat.le_of_ble_eq_true rfl)
  rw [lg_entry_eq]
  generalize (lg_sl ([.ref (ga 4), .int a1, .int a2]) ++ List.replicate (3 - (lg_sl ([.ref (ga 4), .int a1, .int a2])).length) Slot.unset).toArray = ls at hl ⊢
  have hl : lv_has ls 3 [(0, .ref (ga 4)), (1, .int a1), (2, .int a2)] := hl
  unfold J_Blocks_get_z at hJ
  refine lv_iload_n hx hb d_Blocks_get_0 rfl (lv_at hl 1 rfl) ?_
  refine lv_if_lt (tgt := 21) hx hb d_Blocks_get_1 (by decide) (fun h1 => ?_) (fun h1 => ?_)
  · have hJ := j_t hJ h1
    refine lv_iconst (v := (0 : Int32)) hx hb d_Blocks_get_21 (by decide) ?_
    have hJ := Option.some.inj hJ
    exact W.iret (v := (0 : Int32)) hx hb hr (fun t ht hW => ⟨⟨_, (), rfl, hJ, kW_end hP hK ht hW rfl⟩, hS.F ht⟩) hS.2.2 d_Blocks_get_22
  · have hJ := j_f hJ h1
    refine lv_iload_n hx hb d_Blocks_get_4 rfl (lv_at hl 1 rfl) ?_
    refine lv_sipush (v := (128 : Int32)) hx hb d_Blocks_get_5 (by decide) ?_
    refine lv_icmp_ge (tgt := 21) hx hb d_Blocks_get_8 (by decide) (fun h2 => ?_) (fun h2 => ?_)
    · have hJ := j_t hJ h2
      refine lv_iconst (v := (0 : Int32)) hx hb d_Blocks_get_21 (by decide) ?_
      have hJ := Option.some.inj hJ
      exact W.iret (v := (0 : Int32)) hx hb hr (fun t ht hW => ⟨⟨_, (), rfl, hJ, kW_end hP hK ht hW rfl⟩, hS.F ht⟩) hS.2.2 d_Blocks_get_22
    · have hJ := j_f hJ h2
      refine lv_iload_n hx hb d_Blocks_get_11 rfl (lv_at hl 2 rfl) ?_
      refine lv_if_lt (tgt := 21) hx hb d_Blocks_get_12 (by decide) (fun h3 => ?_) (fun h3 => ?_)
      · have hJ := j_t hJ h3
        refine lv_iconst (v := (0 : Int32)) hx hb d_Blocks_get_21 (by decide) ?_
        have hJ := Option.some.inj hJ
        exact W.iret (v := (0 : Int32)) hx hb hr (fun t ht hW => ⟨⟨_, (), rfl, hJ, kW_end hP hK ht hW rfl⟩, hS.F ht⟩) hS.2.2 d_Blocks_get_22
      · have hJ := j_f hJ h3
        refine lv_iload_n hx hb d_Blocks_get_15 rfl (lv_at hl 2 rfl) ?_
        refine lv_bipush (v := (64 : Int32)) hx hb d_Blocks_get_16 (by decide) ?_
        refine lv_icmp_lt (tgt := 23) hx hb d_Blocks_get_18 (by decide) (fun h4 => ?_) (fun h4 => ?_)
        · have hJ := j_t hJ h4
          refine lv_aload_n hx hb d_Blocks_get_23 rfl (lv_at hl 0 rfl) ?_
          refine va_get (D := (dC, dI)) (ci := 0) (v := .ref (ga 6)) (C := R_Blocks) (T := T_Blocks) (N := 1) hx hb htb uin_Blocks hown hK hP 1 rfl rfl 0 (by decide) (htb _ tw35) (fun _ h9 => h9) rfl d_Blocks_get_24 ?_
          refine lv_iload_n hx hb d_Blocks_get_27 rfl (lv_at hl 1 rfl) ?_
          refine lv_bipush (v := (64 : Int32)) hx hb d_Blocks_get_28 (by decide) ?_
          refine lv_imul hx hb d_Blocks_get_30 ?_
          refine lv_iload_n hx hb d_Blocks_get_31 rfl (lv_at hl 2 rfl) ?_
          refine lv_iadd hx hb d_Blocks_get_32 ?_
          obtain ⟨h5, hJ⟩ := j_g hJ
          refine va_bald hx hb hK hP 2 0 rfl rfl (j_in h5) d_Blocks_get_33 ?_
          refine lv_sipush (v := (255 : Int32)) hx hb d_Blocks_get_34 (by decide) ?_
          refine lv_iand hx hb d_Blocks_get_37 ?_
          have hJ := Option.some.inj hJ
          exact W.iret (v := (((z_D σ) ((a1 * (64 : Int32)) + a2).toNatClampNeg).toInt32 &&& (255 : Int32))) hx hb hr (fun t ht hW => ⟨⟨_, (), rfl, hJ, kW_end hP hK ht hW rfl⟩, hS.F ht⟩) hS.2.2 d_Blocks_get_38
        · have hJ := j_f hJ h4
          refine lv_iconst (v := (0 : Int32)) hx hb d_Blocks_get_21 (by decide) ?_
          have hJ := Option.some.inj hJ
          exact W.iret (v := (0 : Int32)) hx hb hr (fun t ht hW => ⟨⟨_, (), rfl, hJ, kW_end hP hK ht hW rfl⟩, hS.F ht⟩) hS.2.2 d_Blocks_get_22
def J_Blocks_set_z (σ : ZS) (a1 : Int32) (a2 : Int32) (a3 : Int32) : Option (ZS) :=
  (if a1 < (0 : Int32) then some σ else (if (128 : Int32) ≤ a1 then some σ else (if a2 < (0 : Int32) then some σ else (if (64 : Int32) ≤ a2 then some σ else (if jin ((a1 * (64 : Int32)) + a2) 8192 = true then some (sz_D σ (va_up (z_D σ) ((a1 * (64 : Int32)) + a2).toNatClampNeg a3.toInt8.toInt32.toInt8)) else none)))))
abbrev rm_Blocks_set_z : Room := { frames := 0, cells := 0, slots := 0, locals := 0 }
set_option maxHeartbeats 4000000 in
set_option maxRecDepth 100000 in
theorem c_Blocks_set_z {l : Launch} {dC : Nat → ClassId} {dI : Nat → Nat → Nat} {ga : Nat → Nat} {cB cI : ClassId} {A : Nat → Prop} (hDa : ∀ σ, va_D A (wZ ga cB cI σ)) {σ : ZS} {a1 : Int32} {a2 : Int32} {a3 : Int32} {res : ZS} (hJ : J_Blocks_set_z σ a1 a2 a3 = some res) :
    Met l y_Blocks_set (mw y_Blocks_set b_Blocks_set 4 none) rm_Blocks_set_z (va_Pc [.ref (ga 4), .int a1, .int a2, .int a3] (kW (dC, dI) (tC cB cI) (wZ ga cB cI σ))) (va_Qv (fun (_ : Unit) => True) (fun _ t => kW (dC, dI) (tC cB cI) (wZ ga cB cI res) t) A) 0 0 A := by
  refine Met.ofW (cc := b_Blocks_set) (maxL := 4) (ret := none) (by decide) rfl ?_
  intro p e s m args below meth c s₁ B hml hv
  obtain ⟨rfl, hP, hK⟩ := hv
  have hx := B.exec
  have hb := B.bytes
  have hr := B.returns
  have hts := atoms_spec (ws := (mw y_Blocks_set b_Blocks_set 4 none)) B.pre
  have htb : ∀ w ∈ tb, w.before [.ref (ga 4), .int a1, .int a2, .int a3].toArray s = true := fun w h => hts w (mwIn h)
  have hown : s.vm.findClass "LogFs$Blocks" = some m.cls := findClass_of_methodNamed B.named
  have hlocks := B.notSynchronized
  have hS : va_S A s.heap s.heap [] := va_S.rf
  have hl := lv_entry ([.ref (ga 4), .int a1, .int a2, .int a3]) (n := 4) (Nat.le_of_ble_eq_true rfl)
  rw [lg_entry_eq]
  generalize (lg_sl ([.ref (ga 4), .int a1, .int a2, .int a3]) ++ List.replicate (4 - (lg_sl ([.ref (ga 4), .int a1, .int a2, .int a3])).length) Slot.unset).toArray = ls at hl ⊢
  have hl : lv_has ls 4 [(0, .ref (ga 4)), (1, .int a1), (2, .int a2), (3, .int a3)] := hl
  unfold J_Blocks_set_z at hJ
  refine lv_iload_n hx hb d_Blocks_set_0 rfl (lv_at hl 1 rfl) ?_
  refine lv_if_lt (tgt := 34) hx hb d_Blocks_set_1 (by decide) (fun h1 => ?_) (fun h1 => ?_)
  · have hJ := j_t hJ h1
    have hJ := Option.some.inj hJ
    exact W.vret hx hb hr (fun t ht hW => ⟨⟨(), rfl, trivial, kW_end hP hK ht hW (congrArg (fun z => wZ ga cB cI z) hJ)⟩, hS.F ht⟩) hS.2.2 d_Blocks_set_34
  · have hJ := j_f hJ h1
    refine lv_iload_n hx hb d_Blocks_set_4 rfl (lv_at hl 1 rfl) ?_
    refine lv_sipush (v := (128 : Int32)) hx hb d_Blocks_set_5 (by decide) ?_
    refine lv_icmp_ge (tgt := 34) hx hb d_Blocks_set_8 (by decide) (fun h2 => ?_) (fun h2 => ?_)
    · have hJ := j_t hJ h2
      have hJ := Option.some.inj hJ
      exact W.vret hx hb hr (fun t ht hW => ⟨⟨(), rfl, trivial, kW_end hP hK ht hW (congrArg (fun z => wZ ga cB cI z) hJ)⟩, hS.F ht⟩) hS.2.2 d_Blocks_set_34
    · have hJ := j_f hJ h2
      refine lv_iload_n hx hb d_Blocks_set_11 rfl (lv_at hl 2 rfl) ?_
      refine lv_if_lt (tgt := 34) hx hb d_Blocks_set_12 (by decide) (fun h3 => ?_) (fun h3 => ?_)
      · have hJ := j_t hJ h3
        have hJ := Option.some.inj hJ
        exact W.vret hx hb hr (fun t ht hW => ⟨⟨(), rfl, trivial, kW_end hP hK ht hW (congrArg (fun z => wZ ga cB cI z) hJ)⟩, hS.F ht⟩) hS.2.2 d_Blocks_set_34
      · have hJ := j_f hJ h3
        refine lv_iload_n hx hb d_Blocks_set_15 rfl (lv_at hl 2 rfl) ?_
        refine lv_bipush (v := (64 : Int32)) hx hb d_Blocks_set_16 (by decide) ?_
        refine lv_icmp_ge (tgt := 34) hx hb d_Blocks_set_18 (by decide) (fun h4 => ?_) (fun h4 => ?_)
        · have hJ := j_t hJ h4
          have hJ := Option.some.inj hJ
          exact W.vret hx hb hr (fun t ht hW => ⟨⟨(), rfl, trivial, kW_end hP hK ht hW (congrArg (fun z => wZ ga cB cI z) hJ)⟩, hS.F ht⟩) hS.2.2 d_Blocks_set_34
        · have hJ := j_f hJ h4
          refine lv_aload_n hx hb d_Blocks_set_21 rfl (lv_at hl 0 rfl) ?_
          refine va_get (D := (dC, dI)) (ci := 0) (v := .ref (ga 6)) (C := R_Blocks) (T := T_Blocks) (N := 1) hx hb htb uin_Blocks hown hK hP 1 rfl rfl 0 (by decide) (htb _ tw35) (fun _ h9 => h9) rfl d_Blocks_set_22 ?_
          refine lv_iload_n hx hb d_Blocks_set_25 rfl (lv_at hl 1 rfl) ?_
          refine lv_bipush (v := (64 : Int32)) hx hb d_Blocks_set_26 (by decide) ?_
          refine lv_imul hx hb d_Blocks_set_28 ?_
          refine lv_iload_n hx hb d_Blocks_set_29 rfl (lv_at hl 2 rfl) ?_
          refine lv_iadd hx hb d_Blocks_set_30 ?_
          refine lv_iload_n hx hb d_Blocks_set_31 rfl (lv_at hl 3 rfl) ?_
          refine lv_i2b hx hb d_Blocks_set_32 rfl ?_
          obtain ⟨h5, hJ⟩ := j_g hJ
          refine va_bast hx hb hK hP (hDa _) hS 2 0 rfl rfl (j_in h5) d_Blocks_set_33 (fun H locs hP _ hS => ?_)
          rw [by_upd] at hP
          have hP : va_P (dC, dI) cls (wZ ga cB cI (sz_D σ (va_up (z_D σ) ((a1 * (64 : Int32)) + a2).toNatClampNeg a3.toInt8.toInt32.toInt8))) H := hP
          have hJ := Option.some.inj hJ
          exact W.vret hx hb hr (fun t ht hW => ⟨⟨(), rfl, trivial, kW_end hP hK ht hW (congrArg (fun z => wZ ga cB cI z) hJ)⟩, hS.F ht⟩) hS.2.2 d_Blocks_set_34
def J_Blocks_get_d (σ : CS) (a1 : Int32) (a2 : Int32) : Option (Int32) :=
  (if a1 < (0 : Int32) then some (0 : Int32) else (if (128 : Int32) ≤ a1 then some (0 : Int32) else (if a2 < (0 : Int32) then some (0 : Int32) else (if a2 < (64 : Int32) then (if jin ((a1 * (64 : Int32)) + a2) 8192 = true then some (((c_D σ) ((a1 * (64 : Int32)) + a2).toNatClampNeg).toInt32 &&& (255 : Int32)) else none) else some (0 : Int32)))))
abbrev rm_Blocks_get_d : Room := { frames := 0, cells := 0, slots := 0, locals := 0 }
set_option maxHeartbeats 4000000 in
set_option maxRecDepth 100000 in
theorem c_Blocks_get_d {l : Launch} {dC : Nat → ClassId} {dI : Nat → Nat → Nat} {ga : Nat → Nat} {cB cI : ClassId} {A : Nat → Prop} (hDa : ∀ σ, va_D A (wC ga cB cI σ)) {σ : CS} {a1 : Int32} {a2 : Int32} {res : Int32} (hJ : J_Blocks_get_d σ a1 a2 = some res) :
    Met l y_Blocks_get (mw y_Blocks_get b_Blocks_get 3 (some .int)) rm_Blocks_get_d (va_Pc [.ref (ga 4), .int a1, .int a2] (kW (dC, dI) (tC cB cI) (wC ga cB cI σ))) (va_Qi (fun (x : Int32) (_ : Unit) => x = res) (fun _ t => kW (dC, dI) (tC cB cI) (wC ga cB cI σ) t) A) 0 0 A := by
  refine Met.ofW (cc := b_Blocks_get) (maxL := 3) (ret := (some .int)) (by decide) rfl ?_
  intro p e s m args below meth c s₁ B hml hv
  obtain ⟨rfl, hP, hK⟩ := hv
  have hx := B.exec
  have hb := B.bytes
  have hr := B.returns
  have hts := atoms_spec (ws := (mw y_Blocks_get b_Blocks_get 3 (some .int))) B.pre
  have htb : ∀ w ∈ tb, w.before [.ref (ga 4), .int a1, .int a2].toArray s = true := fun w h => hts w (mwIn h)
  have hown : s.vm.findClass "LogFs$Blocks" = some m.cls := findClass_of_methodNamed B.named
  have hlocks := B.notSynchronized
  have hS : va_S A s.heap s.heap [] := va_S.rf
  have hl := lv_entry ([.ref (ga 4), .int a1, .int a2]) (n := 3) (Nat.le_of_ble_eq_true rfl)
  rw [lg_entry_eq]
  generalize (lg_sl ([.ref (ga 4), .int a1, .int a2]) ++ List.replicate (3 - (lg_sl ([.ref (ga 4), .int a1, .int a2])).length) Slot.unset).toArray = ls at hl ⊢
  have hl : lv_has ls 3 [(0, .ref (ga 4)), (1, .int a1), (2, .int a2)] := hl
  unfold J_Blocks_get_d at hJ
  refine lv_iload_n hx hb d_Blocks_get_0 rfl (lv_at hl 1 rfl) ?_
  refine lv_if_lt (tgt := 21) hx hb d_Blocks_get_1 (by decide) (fun h1 => ?_) (fun h1 => ?_)
  · have hJ := j_t hJ h1
    refine lv_iconst (v := (0 : Int32)) hx hb d_Blocks_get_21 (by decide) ?_
    have hJ := Option.some.inj hJ
    exact W.iret (v := (0 : Int32)) hx hb hr (fun t ht hW => ⟨⟨_, (), rfl, hJ, kW_end hP hK ht hW rfl⟩, hS.F ht⟩) hS.2.2 d_Blocks_get_22
  · have hJ := j_f hJ h1
    refine lv_iload_n hx hb d_Blocks_get_4 rfl (lv_at hl 1 rfl) ?_
    refine lv_sipush (v := (128 : Int32)) hx hb d_Blocks_get_5 (by decide) ?_
    refine lv_icmp_ge (tgt := 21) hx hb d_Blocks_get_8 (by decide) (fun h2 => ?_) (fun h2 => ?_)
    · have hJ := j_t hJ h2
      refine lv_iconst (v := (0 : Int32)) hx hb d_Blocks_get_21 (by decide) ?_
      have hJ := Option.some.inj hJ
      exact W.iret (v := (0 : Int32)) hx hb hr (fun t ht hW => ⟨⟨_, (), rfl, hJ, kW_end hP hK ht hW rfl⟩, hS.F ht⟩) hS.2.2 d_Blocks_get_22
    · have hJ := j_f hJ h2
      refine lv_iload_n hx hb d_Blocks_get_11 rfl (lv_at hl 2 rfl) ?_
      refine lv_if_lt (tgt := 21) hx hb d_Blocks_get_12 (by decide) (fun h3 => ?_) (fun h3 => ?_)
      · have hJ := j_t hJ h3
        refine lv_iconst (v := (0 : Int32)) hx hb d_Blocks_get_21 (by decide) ?_
        have hJ := Option.some.inj hJ
        exact W.iret (v := (0 : Int32)) hx hb hr (fun t ht hW => ⟨⟨_, (), rfl, hJ, kW_end hP hK ht hW rfl⟩, hS.F ht⟩) hS.2.2 d_Blocks_get_22
      · have hJ := j_f hJ h3
        refine lv_iload_n hx hb d_Blocks_get_15 rfl (lv_at hl 2 rfl) ?_
        refine lv_bipush (v := (64 : Int32)) hx hb d_Blocks_get_16 (by decide) ?_
        refine lv_icmp_lt (tgt := 23) hx hb d_Blocks_get_18 (by decide) (fun h4 => ?_) (fun h4 => ?_)
        · have hJ := j_t hJ h4
          refine lv_aload_n hx hb d_Blocks_get_23 rfl (lv_at hl 0 rfl) ?_
          refine va_get (D := (dC, dI)) (ci := 0) (v := .ref (ga 6)) (C := R_Blocks) (T := T_Blocks) (N := 1) hx hb htb uin_Blocks hown hK hP 4 rfl rfl 0 (by decide) (htb _ tw35) (fun _ h9 => h9) rfl d_Blocks_get_24 ?_
          refine lv_iload_n hx hb d_Blocks_get_27 rfl (lv_at hl 1 rfl) ?_
          refine lv_bipush (v := (64 : Int32)) hx hb d_Blocks_get_28 (by decide) ?_
          refine lv_imul hx hb d_Blocks_get_30 ?_
          refine lv_iload_n hx hb d_Blocks_get_31 rfl (lv_at hl 2 rfl) ?_
          refine lv_iadd hx hb d_Blocks_get_32 ?_
          obtain ⟨h5, hJ⟩ := j_g hJ
          refine va_bald hx hb hK hP 6 0 rfl rfl (j_in h5) d_Blocks_get_33 ?_
          refine lv_sipush (v := (255 : Int32)) hx hb d_Blocks_get_34 (by decide) ?_
          refine lv_iand hx hb d_Blocks_get_37 ?_
          have hJ := Option.some.inj hJ
          exact W.iret (v := (((c_D σ) ((a1 * (64 : Int32)) + a2).toNatClampNeg).toInt32 &&& (255 : Int32))) hx hb hr (fun t ht hW => ⟨⟨_, (), rfl, hJ, kW_end hP hK ht hW rfl⟩, hS.F ht⟩) hS.2.2 d_Blocks_get_38
        · have hJ := j_f hJ h4
          refine lv_iconst (v := (0 : Int32)) hx hb d_Blocks_get_21 (by decide) ?_
          have hJ := Option.some.inj hJ
          exact W.iret (v := (0 : Int32)) hx hb hr (fun t ht hW => ⟨⟨_, (), rfl, hJ, kW_end hP hK ht hW rfl⟩, hS.F ht⟩) hS.2.2 d_Blocks_get_22
def J_Blocks_set_d (σ : CS) (a1 : Int32) (a2 : Int32) (a3 : Int32) : Option (CS) :=
  (if a1 < (0 : Int32) then some σ else (if (128 : Int32) ≤ a1 then some σ else (if a2 < (0 : Int32) then some σ else (if (64 : Int32) ≤ a2 then some σ else (if jin ((a1 * (64 : Int32)) + a2) 8192 = true then some (s_D σ (va_up (c_D σ) ((a1 * (64 : Int32)) + a2).toNatClampNeg a3.toInt8.toInt32.toInt8)) else none)))))
abbrev rm_Blocks_set_d : Room := { frames := 0, cells := 0, slots := 0, locals := 0 }
set_option maxHeartbeats 4000000 in
set_option maxRecDepth 100000 in
theorem c_Blocks_set_d {l : Launch} {dC : Nat → ClassId} {dI : Nat → Nat → Nat} {ga : Nat → Nat} {cB cI : ClassId} {A : Nat → Prop} (hDa : ∀ σ, va_D A (wC ga cB cI σ)) {σ : CS} {a1 : Int32} {a2 : Int32} {a3 : Int32} {res : CS} (hJ : J_Blocks_set_d σ a1 a2 a3 = some res) :
    Met l y_Blocks_set (mw y_Blocks_set b_Blocks_set 4 none) rm_Blocks_set_d (va_Pc [.ref (ga 4), .int a1, .int a2, .int a3] (kW (dC, dI) (tC cB cI) (wC ga cB cI σ))) (va_Qv (fun (_ : Unit) => True) (fun _ t => kW (dC, dI) (tC cB cI) (wC ga cB cI res) t) A) 0 0 A := by
  refine Met.ofW (cc := b_Blocks_set) (maxL := 4) (ret := none) (by decide) rfl ?_
  intro p e s m args below meth c s₁ B hml hv
  obtain ⟨rfl, hP, hK⟩ := hv
  have hx := B.exec
  have hb := B.bytes
  have hr := B.returns
  have hts := atoms_spec (ws := (mw y_Blocks_set b_Blocks_set 4 none)) B.pre
  have htb : ∀ w ∈ tb, w.before [.ref (ga 4), .int a1, .int a2, .int a3].toArray s = true := fun w h => hts w (mwIn h)
  have hown : s.vm.findClass "LogFs$Blocks" = some m.cls := findClass_of_methodNamed B.named
  have hlocks := B.notSynchronized
  have hS : va_S A s.heap s.heap [] := va_S.rf
  have hl := lv_entry ([.ref (ga 4), .int a1, .int a2, .int a3]) (n := 4) (Nat.le_of_ble_eq_true rfl)
  rw [lg_entry_eq]
  generalize (lg_sl ([.ref (ga 4), .int a1, .int a2, .int a3]) ++ List.replicate (4 - (lg_sl ([.ref (ga 4), .int a1, .int a2, .int a3])).length) Slot.unset).toArray = ls at hl ⊢
  have hl : lv_has ls 4 [(0, .ref (ga 4)), (1, .int a1), (2, .int a2), (3, .int a3)] := hl
  unfold J_Blocks_set_d at hJ
  refine lv_iload_n hx hb d_Blocks_set_0 rfl (lv_at hl 1 rfl) ?_
  refine lv_if_lt (tgt := 34) hx hb d_Blocks_set_1 (by decide) (fun h1 => ?_) (fun h1 => ?_)
  · have hJ := j_t hJ h1
    have hJ := Option.some.inj hJ
    exact W.vret hx hb hr (fun t ht hW => ⟨⟨(), rfl, trivial, kW_end hP hK ht hW (congrArg (fun z => wC ga cB cI z) hJ)⟩, hS.F ht⟩) hS.2.2 d_Blocks_set_34
  · have hJ := j_f hJ h1
    refine lv_iload_n hx hb d_Blocks_set_4 rfl (lv_at hl 1 rfl) ?_
    refine lv_sipush (v := (128 : Int32)) hx hb d_Blocks_set_5 (by decide) ?_
    refine lv_icmp_ge (tgt := 34) hx hb d_Blocks_set_8 (by decide) (fun h2 => ?_) (fun h2 => ?_)
    · have hJ := j_t hJ h2
      have hJ := Option.some.inj hJ
      exact W.vret hx hb hr (fun t ht hW => ⟨⟨(), rfl, trivial, kW_end hP hK ht hW (congrArg (fun z => wC ga cB cI z) hJ)⟩, hS.F ht⟩) hS.2.2 d_Blocks_set_34
    · have hJ := j_f hJ h2
      refine lv_iload_n hx hb d_Blocks_set_11 rfl (lv_at hl 2 rfl) ?_
      refine lv_if_lt (tgt := 34) hx hb d_Blocks_set_12 (by decide) (fun h3 => ?_) (fun h3 => ?_)
      · have hJ := j_t hJ h3
        have hJ := Option.some.inj hJ
        exact W.vret hx hb hr (fun t ht hW => ⟨⟨(), rfl, trivial, kW_end hP hK ht hW (congrArg (fun z => wC ga cB cI z) hJ)⟩, hS.F ht⟩) hS.2.2 d_Blocks_set_34
      · have hJ := j_f hJ h3
        refine lv_iload_n hx hb d_Blocks_set_15 rfl (lv_at hl 2 rfl) ?_
        refine lv_bipush (v := (64 : Int32)) hx hb d_Blocks_set_16 (by decide) ?_
        refine lv_icmp_ge (tgt := 34) hx hb d_Blocks_set_18 (by decide) (fun h4 => ?_) (fun h4 => ?_)
        · have hJ := j_t hJ h4
          have hJ := Option.some.inj hJ
          exact W.vret hx hb hr (fun t ht hW => ⟨⟨(), rfl, trivial, kW_end hP hK ht hW (congrArg (fun z => wC ga cB cI z) hJ)⟩, hS.F ht⟩) hS.2.2 d_Blocks_set_34
        · have hJ := j_f hJ h4
          refine lv_aload_n hx hb d_Blocks_set_21 rfl (lv_at hl 0 rfl) ?_
          refine va_get (D := (dC, dI)) (ci := 0) (v := .ref (ga 6)) (C := R_Blocks) (T := T_Blocks) (N := 1) hx hb htb uin_Blocks hown hK hP 4 rfl rfl 0 (by decide) (htb _ tw35) (fun _ h9 => h9) rfl d_Blocks_set_22 ?_
          refine lv_iload_n hx hb d_Blocks_set_25 rfl (lv_at hl 1 rfl) ?_
          refine lv_bipush (v := (64 : Int32)) hx hb d_Blocks_set_26 (by decide) ?_
          refine lv_imul hx hb d_Blocks_set_28 ?_
          refine lv_iload_n hx hb d_Blocks_set_29 rfl (lv_at hl 2 rfl) ?_
          refine lv_iadd hx hb d_Blocks_set_30 ?_
          refine lv_iload_n hx hb d_Blocks_set_31 rfl (lv_at hl 3 rfl) ?_
          refine lv_i2b hx hb d_Blocks_set_32 rfl ?_
          obtain ⟨h5, hJ⟩ := j_g hJ
          refine va_bast hx hb hK hP (hDa _) hS 6 0 rfl rfl (j_in h5) d_Blocks_set_33 (fun H locs hP _ hS => ?_)
          rw [by_upd] at hP
          have hP : va_P (dC, dI) cls (wC ga cB cI (s_D σ (va_up (c_D σ) ((a1 * (64 : Int32)) + a2).toNatClampNeg a3.toInt8.toInt32.toInt8))) H := hP
          have hJ := Option.some.inj hJ
          exact W.vret hx hb hr (fun t ht hW => ⟨⟨(), rfl, trivial, kW_end hP hK ht hW (congrArg (fun z => wC ga cB cI z) hJ)⟩, hS.F ht⟩) hS.2.2 d_Blocks_set_34
def J_Blocks_get_m (σ : CS) (a1 : Int32) (a2 : Int32) : Option (Int32) :=
  (if a1 < (0 : Int32) then some (0 : Int32) else (if (128 : Int32) ≤ a1 then some (0 : Int32) else (if a2 < (0 : Int32) then some (0 : Int32) else (if a2 < (64 : Int32) then (if jin ((a1 * (64 : Int32)) + a2) 8192 = true then some (((c_M σ) ((a1 * (64 : Int32)) + a2).toNatClampNeg).toInt32 &&& (255 : Int32)) else none) else some (0 : Int32)))))
abbrev rm_Blocks_get_m : Room := { frames := 0, cells := 0, slots := 0, locals := 0 }
set_option maxHeartbeats 4000000 in
set_option maxRecDepth 100000 in
theorem c_Blocks_get_m {l : Launch} {dC : Nat → ClassId} {dI : Nat → Nat → Nat} {ga : Nat → Nat} {cB cI : ClassId} {A : Nat → Prop} (hDa : ∀ σ, va_D A (wC ga cB cI σ)) {σ : CS} {a1 : Int32} {a2 : Int32} {res : Int32} (hJ : J_Blocks_get_m σ a1 a2 = some res) :
    Met l y_Blocks_get (mw y_Blocks_get b_Blocks_get 3 (some .int)) rm_Blocks_get_m (va_Pc [.ref (ga 5), .int a1, .int a2] (kW (dC, dI) (tC cB cI) (wC ga cB cI σ))) (va_Qi (fun (x : Int32) (_ : Unit) => x = res) (fun _ t => kW (dC, dI) (tC cB cI) (wC ga cB cI σ) t) A) 0 0 A := by
  refine Met.ofW (cc := b_Blocks_get) (maxL := 3) (ret := (some .int)) (by decide) rfl ?_
  intro p e s m args below meth c s₁ B hml hv
  obtain ⟨rfl, hP, hK⟩ := hv
  have hx := B.exec
  have hb := B.bytes
  have hr := B.returns
  have hts := atoms_spec (ws := (mw y_Blocks_get b_Blocks_get 3 (some .int))) B.pre
  have htb : ∀ w ∈ tb, w.before [.ref (ga 5), .int a1, .int a2].toArray s = true := fun w h => hts w (mwIn h)
  have hown : s.vm.findClass "LogFs$Blocks" = some m.cls := findClass_of_methodNamed B.named
  have hlocks := B.notSynchronized
  have hS : va_S A s.heap s.heap [] := va_S.rf
  have hl := lv_entry ([.ref (ga 5), .int a1, .int a2]) (n := 3) (Nat.le_of_ble_eq_true rfl)
  rw [lg_entry_eq]
  generalize (lg_sl ([.ref (ga 5), .int a1, .int a2]) ++ List.replicate (3 - (lg_sl ([.ref (ga 5), .int a1, .int a2])).length) Slot.unset).toArray = ls at hl ⊢
  have hl : lv_has ls 3 [(0, .ref (ga 5)), (1, .int a1), (2, .int a2)] := hl
  unfold J_Blocks_get_m at hJ
  refine lv_iload_n hx hb d_Blocks_get_0 rfl (lv_at hl 1 rfl) ?_
  refine lv_if_lt (tgt := 21) hx hb d_Blocks_get_1 (by decide) (fun h1 => ?_) (fun h1 => ?_)
  · have hJ := j_t hJ h1
    refine lv_iconst (v := (0 : Int32)) hx hb d_Blocks_get_21 (by decide) ?_
    have hJ := Option.some.inj hJ
    exact W.iret (v := (0 : Int32)) hx hb hr (fun t ht hW => ⟨⟨_, (), rfl, hJ, kW_end hP hK ht hW rfl⟩, hS.F ht⟩) hS.2.2 d_Blocks_get_22
  · have hJ := j_f hJ h1
    refine lv_iload_n hx hb d_Blocks_get_4 rfl (lv_at hl 1 rfl) ?_
    refine lv_sipush (v := (128 : Int32)) hx hb d_Blocks_get_5 (by decide) ?_
    refine lv_icmp_ge (tgt := 21) hx hb d_Blocks_get_8 (by decide) (fun h2 => ?_) (fun h2 => ?_)
    · have hJ := j_t hJ h2
      refine lv_iconst (v := (0 : Int32)) hx hb d_Blocks_get_21 (by decide) ?_
      have hJ := Option.some.inj hJ
      exact W.iret (v := (0 : Int32)) hx hb hr (fun t ht hW => ⟨⟨_, (), rfl, hJ, kW_end hP hK ht hW rfl⟩, hS.F ht⟩) hS.2.2 d_Blocks_get_22
    · have hJ := j_f hJ h2
      refine lv_iload_n hx hb d_Blocks_get_11 rfl (lv_at hl 2 rfl) ?_
      refine lv_if_lt (tgt := 21) hx hb d_Blocks_get_12 (by decide) (fun h3 => ?_) (fun h3 => ?_)
      · have hJ := j_t hJ h3
        refine lv_iconst (v := (0 : Int32)) hx hb d_Blocks_get_21 (by decide) ?_
        have hJ := Option.some.inj hJ
        exact W.iret (v := (0 : Int32)) hx hb hr (fun t ht hW => ⟨⟨_, (), rfl, hJ, kW_end hP hK ht hW rfl⟩, hS.F ht⟩) hS.2.2 d_Blocks_get_22
      · have hJ := j_f hJ h3
        refine lv_iload_n hx hb d_Blocks_get_15 rfl (lv_at hl 2 rfl) ?_
        refine lv_bipush (v := (64 : Int32)) hx hb d_Blocks_get_16 (by decide) ?_
        refine lv_icmp_lt (tgt := 23) hx hb d_Blocks_get_18 (by decide) (fun h4 => ?_) (fun h4 => ?_)
        · have hJ := j_t hJ h4
          refine lv_aload_n hx hb d_Blocks_get_23 rfl (lv_at hl 0 rfl) ?_
          refine va_get (D := (dC, dI)) (ci := 0) (v := .ref (ga 7)) (C := R_Blocks) (T := T_Blocks) (N := 1) hx hb htb uin_Blocks hown hK hP 5 rfl rfl 0 (by decide) (htb _ tw35) (fun _ h9 => h9) rfl d_Blocks_get_24 ?_
          refine lv_iload_n hx hb d_Blocks_get_27 rfl (lv_at hl 1 rfl) ?_
          refine lv_bipush (v := (64 : Int32)) hx hb d_Blocks_get_28 (by decide) ?_
          refine lv_imul hx hb d_Blocks_get_30 ?_
          refine lv_iload_n hx hb d_Blocks_get_31 rfl (lv_at hl 2 rfl) ?_
          refine lv_iadd hx hb d_Blocks_get_32 ?_
          obtain ⟨h5, hJ⟩ := j_g hJ
          refine va_bald hx hb hK hP 7 0 rfl rfl (j_in h5) d_Blocks_get_33 ?_
          refine lv_sipush (v := (255 : Int32)) hx hb d_Blocks_get_34 (by decide) ?_
          refine lv_iand hx hb d_Blocks_get_37 ?_
          have hJ := Option.some.inj hJ
          exact W.iret (v := (((c_M σ) ((a1 * (64 : Int32)) + a2).toNatClampNeg).toInt32 &&& (255 : Int32))) hx hb hr (fun t ht hW => ⟨⟨_, (), rfl, hJ, kW_end hP hK ht hW rfl⟩, hS.F ht⟩) hS.2.2 d_Blocks_get_38
        · have hJ := j_f hJ h4
          refine lv_iconst (v := (0 : Int32)) hx hb d_Blocks_get_21 (by decide) ?_
          have hJ := Option.some.inj hJ
          exact W.iret (v := (0 : Int32)) hx hb hr (fun t ht hW => ⟨⟨_, (), rfl, hJ, kW_end hP hK ht hW rfl⟩, hS.F ht⟩) hS.2.2 d_Blocks_get_22
def J_Blocks_set_m (σ : CS) (a1 : Int32) (a2 : Int32) (a3 : Int32) : Option (CS) :=
  (if a1 < (0 : Int32) then some σ else (if (128 : Int32) ≤ a1 then some σ else (if a2 < (0 : Int32) then some σ else (if (64 : Int32) ≤ a2 then some σ else (if jin ((a1 * (64 : Int32)) + a2) 8192 = true then some (s_M σ (va_up (c_M σ) ((a1 * (64 : Int32)) + a2).toNatClampNeg a3.toInt8.toInt32.toInt8)) else none)))))
abbrev rm_Blocks_set_m : Room := { frames := 0, cells := 0, slots := 0, locals := 0 }
set_option maxHeartbeats 4000000 in
set_option maxRecDepth 100000 in
theorem c_Blocks_set_m {l : Launch} {dC : Nat → ClassId} {dI : Nat → Nat → Nat} {ga : Nat → Nat} {cB cI : ClassId} {A : Nat → Prop} (hDa : ∀ σ, va_D A (wC ga cB cI σ)) {σ : CS} {a1 : Int32} {a2 : Int32} {a3 : Int32} {res : CS} (hJ : J_Blocks_set_m σ a1 a2 a3 = some res) :
    Met l y_Blocks_set (mw y_Blocks_set b_Blocks_set 4 none) rm_Blocks_set_m (va_Pc [.ref (ga 5), .int a1, .int a2, .int a3] (kW (dC, dI) (tC cB cI) (wC ga cB cI σ))) (va_Qv (fun (_ : Unit) => True) (fun _ t => kW (dC, dI) (tC cB cI) (wC ga cB cI res) t) A) 0 0 A := by
  refine Met.ofW (cc := b_Blocks_set) (maxL := 4) (ret := none) (by decide) rfl ?_
  intro p e s m args below meth c s₁ B hml hv
  obtain ⟨rfl, hP, hK⟩ := hv
  have hx := B.exec
  have hb := B.bytes
  have hr := B.returns
  have hts := atoms_spec (ws := (mw y_Blocks_set b_Blocks_set 4 none)) B.pre
  have htb : ∀ w ∈ tb, w.before [.ref (ga 5), .int a1, .int a2, .int a3].toArray s = true := fun w h => hts w (mwIn h)
  have hown : s.vm.findClass "LogFs$Blocks" = some m.cls := findClass_of_methodNamed B.named
  have hlocks := B.notSynchronized
  have hS : va_S A s.heap s.heap [] := va_S.rf
  have hl := lv_entry ([.ref (ga 5), .int a1, .int a2, .int a3]) (n := 4) (Nat.le_of_ble_eq_true rfl)
  rw [lg_entry_eq]
  generalize (lg_sl ([.ref (ga 5), .int a1, .int a2, .int a3]) ++ List.replicate (4 - (lg_sl ([.ref (ga 5), .int a1, .int a2, .int a3])).length) Slot.unset).toArray = ls at hl ⊢
  have hl : lv_has ls 4 [(0, .ref (ga 5)), (1, .int a1), (2, .int a2), (3, .int a3)] := hl
  unfold J_Blocks_set_m at hJ
  refine lv_iload_n hx hb d_Blocks_set_0 rfl (lv_at hl 1 rfl) ?_
  refine lv_if_lt (tgt := 34) hx hb d_Blocks_set_1 (by decide) (fun h1 => ?_) (fun h1 => ?_)
  · have hJ := j_t hJ h1
    have hJ := Option.some.inj hJ
    exact W.vret hx hb hr (fun t ht hW => ⟨⟨(), rfl, trivial, kW_end hP hK ht hW (congrArg (fun z => wC ga cB cI z) hJ)⟩, hS.F ht⟩) hS.2.2 d_Blocks_set_34
  · have hJ := j_f hJ h1
    refine lv_iload_n hx hb d_Blocks_set_4 rfl (lv_at hl 1 rfl) ?_
    refine lv_sipush (v := (128 : Int32)) hx hb d_Blocks_set_5 (by decide) ?_
    refine lv_icmp_ge (tgt := 34) hx hb d_Blocks_set_8 (by decide) (fun h2 => ?_) (fun h2 => ?_)
    · have hJ := j_t hJ h2
      have hJ := Option.some.inj hJ
      exact W.vret hx hb hr (fun t ht hW => ⟨⟨(), rfl, trivial, kW_end hP hK ht hW (congrArg (fun z => wC ga cB cI z) hJ)⟩, hS.F ht⟩) hS.2.2 d_Blocks_set_34
    · have hJ := j_f hJ h2
      refine lv_iload_n hx hb d_Blocks_set_11 rfl (lv_at hl 2 rfl) ?_
      refine lv_if_lt (tgt := 34) hx hb d_Blocks_set_12 (by decide) (fun h3 => ?_) (fun h3 => ?_)
      · have hJ := j_t hJ h3
        have hJ := Option.some.inj hJ
        exact W.vret hx hb hr (fun t ht hW => ⟨⟨(), rfl, trivial, kW_end hP hK ht hW (congrArg (fun z => wC ga cB cI z) hJ)⟩, hS.F ht⟩) hS.2.2 d_Blocks_set_34
      · have hJ := j_f hJ h3
        refine lv_iload_n hx hb d_Blocks_set_15 rfl (lv_at hl 2 rfl) ?_
        refine lv_bipush (v := (64 : Int32)) hx hb d_Blocks_set_16 (by decide) ?_
        refine lv_icmp_ge (tgt := 34) hx hb d_Blocks_set_18 (by decide) (fun h4 => ?_) (fun h4 => ?_)
        · have hJ := j_t hJ h4
          have hJ := Option.some.inj hJ
          exact W.vret hx hb hr (fun t ht hW => ⟨⟨(), rfl, trivial, kW_end hP hK ht hW (congrArg (fun z => wC ga cB cI z) hJ)⟩, hS.F ht⟩) hS.2.2 d_Blocks_set_34
        · have hJ := j_f hJ h4
          refine lv_aload_n hx hb d_Blocks_set_21 rfl (lv_at hl 0 rfl) ?_
          refine va_get (D := (dC, dI)) (ci := 0) (v := .ref (ga 7)) (C := R_Blocks) (T := T_Blocks) (N := 1) hx hb htb uin_Blocks hown hK hP 5 rfl rfl 0 (by decide) (htb _ tw35) (fun _ h9 => h9) rfl d_Blocks_set_22 ?_
          refine lv_iload_n hx hb d_Blocks_set_25 rfl (lv_at hl 1 rfl) ?_
          refine lv_bipush (v := (64 : Int32)) hx hb d_Blocks_set_26 (by decide) ?_
          refine lv_imul hx hb d_Blocks_set_28 ?_
          refine lv_iload_n hx hb d_Blocks_set_29 rfl (lv_at hl 2 rfl) ?_
          refine lv_iadd hx hb d_Blocks_set_30 ?_
          refine lv_iload_n hx hb d_Blocks_set_31 rfl (lv_at hl 3 rfl) ?_
          refine lv_i2b hx hb d_Blocks_set_32 rfl ?_
          obtain ⟨h5, hJ⟩ := j_g hJ
          refine va_bast hx hb hK hP (hDa _) hS 7 0 rfl rfl (j_in h5) d_Blocks_set_33 (fun H locs hP _ hS => ?_)
          rw [by_upd] at hP
          have hP : va_P (dC, dI) cls (wC ga cB cI (s_M σ (va_up (c_M σ) ((a1 * (64 : Int32)) + a2).toNatClampNeg a3.toInt8.toInt32.toInt8))) H := hP
          have hJ := Option.some.inj hJ
          exact W.vret hx hb hr (fun t ht hW => ⟨⟨(), rfl, trivial, kW_end hP hK ht hW (congrArg (fun z => wC ga cB cI z) hJ)⟩, hS.F ht⟩) hS.2.2 d_Blocks_set_34
def J_Blocks_clear_d_2_b (k : CS → Int32 → Int32 → Option (CS)) (σ : CS) (v1 : Int32) (v2 : Int32) : Option (CS) :=
  (if (64 : Int32) ≤ v2 then some σ else (J_Blocks_set_d σ v1 v2 (0 : Int32)).bind fun x2 => k x2 v1 (v2 + (1 : Int32)))
def J_Blocks_clear_d_2 : Nat → CS → Int32 → Int32 → Option (CS)
  | 0, _, _, _ => none
  | n + 1, σ, v1, v2 => J_Blocks_clear_d_2_b (J_Blocks_clear_d_2 n) σ v1 v2
def J_Blocks_clear_d (σ : CS) (a1 : Int32) : Option (CS) :=
  J_Blocks_clear_d_2 9000 σ a1 (0 : Int32)
abbrev rm_Blocks_clear_d : Room := { frames := 1, cells := 0, slots := 0, locals := 23 }
set_option maxHeartbeats 4000000 in
set_option maxRecDepth 100000 in
theorem c_Blocks_clear_d {l : Launch} {dC : Nat → ClassId} {dI : Nat → Nat → Nat} {ga : Nat → Nat} {cB cI : ClassId} {A : Nat → Prop} (hDa : ∀ σ, va_D A (wC ga cB cI σ)) {σ : CS} {a1 : Int32} {res : CS} (hJ : J_Blocks_clear_d σ a1 = some res) :
    Met l y_Blocks_clear (mw y_Blocks_clear b_Blocks_clear 3 none) rm_Blocks_clear_d (va_Pc [.ref (ga 4), .int a1] (kW (dC, dI) (tC cB cI) (wC ga cB cI σ))) (va_Qv (fun (_ : Unit) => True) (fun _ t => kW (dC, dI) (tC cB cI) (wC ga cB cI res) t) A) 0 0 A := by
  refine Met.ofW (cc := b_Blocks_clear) (maxL := 3) (ret := none) (by decide) rfl ?_
  intro p e s m args below meth c s₁ B hml hv
  obtain ⟨rfl, hP, hK⟩ := hv
  have hx := B.exec
  have hb := B.bytes
  have hr := B.returns
  have hts := atoms_spec (ws := (mw y_Blocks_clear b_Blocks_clear 3 none)) B.pre
  have htb : ∀ w ∈ tb, w.before [.ref (ga 4), .int a1].toArray s = true := fun w h => hts w (mwIn h)
  have hown : s.vm.findClass "LogFs$Blocks" = some m.cls := findClass_of_methodNamed B.named
  have hlocks := B.notSynchronized
  have hS : va_S A s.heap s.heap [] := va_S.rf
  have hl := lv_entry ([.ref (ga 4), .int a1]) (n := 3) (Nat.le_of_ble_eq_true rfl)
  rw [lg_entry_eq]
  generalize (lg_sl ([.ref (ga 4), .int a1]) ++ List.replicate (3 - (lg_sl ([.ref (ga 4), .int a1])).length) Slot.unset).toArray = ls at hl ⊢
  have hl : lv_has ls 3 [(0, .ref (ga 4)), (1, .int a1)] := hl
  have blk2 : ∀ (n : Nat) (σ : CS) (v1 : Int32) (v2 : Int32) (ls : Array Slot) (H : Heap) (locs : List Loc), J_Blocks_clear_d_2 n σ v1 v2 = some res → lv_has ls 3 [(0, .ref (ga 4)), (1, .int v1), (2, .int v2)] → va_P (dC, dI) cls (wC ga cB cI σ) H → va_S A s.heap H locs → W p l e (headSpec (mw y_Blocks_clear b_Blocks_clear 3 none) rm_Blocks_clear_d).room s m [.ref (ga 4), .int a1].toArray below meth c H locs 0 0 (MQ below (va_Qv (fun (_ : Unit) => True) (fun _ t => kW (dC, dI) (tC cB cI) (wC ga cB cI res) t) A) [.ref (ga 4), .int a1].toArray s 0 0 A) (F0 m 2 ls []) := by
    intro n
    induction n with
    | zero => intro σ v1 v2 ls H locs hJ; exact j_none hJ
    | succ n hk =>
      intro σ v1 v2 ls H locs hJ hl hP hS
      have hJ : J_Blocks_clear_d_2_b (J_Blocks_clear_d_2 n) σ v1 v2 = some res := hJ
      unfold J_Blocks_clear_d_2_b at hJ
      refine lv_iload_n hx hb d_Blocks_clear_2 rfl (lv_at hl 2 rfl) ?_
      refine lv_bipush (v := (64 : Int32)) hx hb d_Blocks_clear_3 (by decide) ?_
      refine lv_icmp_ge (tgt := 21) hx hb d_Blocks_clear_5 (by decide) (fun h1 => ?_) (fun h1 => ?_)
      · have hJ := j_t hJ h1
        have hJ := Option.some.inj hJ
        exact W.vret hx hb hr (fun t ht hW => ⟨⟨(), rfl, trivial, kW_end hP hK ht hW (congrArg (fun z => wC ga cB cI z) hJ)⟩, hS.F ht⟩) hS.2.2 d_Blocks_clear_21
      · have hJ := j_f hJ h1
        refine lv_aload_n hx hb d_Blocks_clear_8 rfl (lv_at hl 0 rfl) ?_
        refine lv_iload_n hx hb d_Blocks_clear_9 rfl (lv_at hl 1 rfl) ?_
        refine lv_iload_n hx hb d_Blocks_clear_10 rfl (lv_at hl 2 rfl) ?_
        refine lv_iconst (v := (0 : Int32)) hx hb d_Blocks_clear_11 (by decide) ?_
        obtain ⟨x2, e2, hJ⟩ := j_bind hJ
        refine va_callv (va_runV (As := [.int v1, .int v2, .int (0 : Int32)]) (rest := []) ⟨hx, hb, hml, hown, htb⟩ (c_Blocks_set_d (l := l) (dC := dC) (dI := dI) hDa e2) (xcV 3 htb tw43 tw3 tw339 tw41 tw42 rfl rfl hd_Blocks_set ⟨Nat.le_of_ble_eq_true rfl, Nat.le_of_ble_eq_true rfl⟩) (kW_V hP hK (va_recv (q0 := 4) (ci := 0) hK hP rfl rfl)) rfl rfl hl.1 rfl (lv_room (Nat.le_of_ble_eq_true rfl)) d_Blocks_clear_12 ⟨Nat.le_of_ble_eq_true rfl, Nat.le_of_ble_eq_true rfl⟩) hS (fun q _ h => h) (fun q h => h) (fun u t H locs ht hvm hw hB _ _ hS => ?_)
        have hP := kW_P hB ht
        refine lv_iinc (k := 2) (v := (v2 + (1 : Int32))) hx hb d_Blocks_clear_15 hl rfl rfl (Nat.le_of_ble_eq_true rfl) rfl (fun ls hl => ?_)
        have hl : lv_has ls 3 [(2, .int (v2 + (1 : Int32))), (0, .ref (ga 4)), (1, .int v1)] := hl
        refine lv_goto (tgt := 2) hx hb d_Blocks_clear_18 (by decide) ?_
        exact hk _ _ _ _ _ _ hJ (lv_sub hl [1, 2, 0] rfl) hP hS
  unfold J_Blocks_clear_d at hJ
  refine lv_iconst (v := (0 : Int32)) hx hb d_Blocks_clear_0 (by decide) ?_
  refine lv_istore_n hx hb d_Blocks_clear_1 rfl hl (Nat.le_of_ble_eq_true rfl) rfl (fun ls hl => ?_)
  have hl : lv_has ls 3 [(2, .int (0 : Int32)), (0, .ref (ga 4)), (1, .int a1)] := hl
  exact blk2 9000 _ _ _ _ _ _ hJ (lv_sub hl [1, 2, 0] rfl) hP hS
def J_Blocks_clear_m_2_b (k : CS → Int32 → Int32 → Option (CS)) (σ : CS) (v1 : Int32) (v2 : Int32) : Option (CS) :=
  (if (64 : Int32) ≤ v2 then some σ else (J_Blocks_set_m σ v1 v2 (0 : Int32)).bind fun x2 => k x2 v1 (v2 + (1 : Int32)))
def J_Blocks_clear_m_2 : Nat → CS → Int32 → Int32 → Option (CS)
  | 0, _, _, _ => none
  | n + 1, σ, v1, v2 => J_Blocks_clear_m_2_b (J_Blocks_clear_m_2 n) σ v1 v2
def J_Blocks_clear_m (σ : CS) (a1 : Int32) : Option (CS) :=
  J_Blocks_clear_m_2 9000 σ a1 (0 : Int32)
abbrev rm_Blocks_clear_m : Room := { frames := 1, cells := 0, slots := 0, locals := 23 }
set_option maxHeartbeats 4000000 in
set_option maxRecDepth 100000 in
theorem c_Blocks_clear_m {l : Launch} {dC : Nat → ClassId} {dI : Nat → Nat → Nat} {ga : Nat → Nat} {cB cI : ClassId} {A : Nat → Prop} (hDa : ∀ σ, va_D A (wC ga cB cI σ)) {σ : CS} {a1 : Int32} {res : CS} (hJ : J_Blocks_clear_m σ a1 = some res) :
    Met l y_Blocks_clear (mw y_Blocks_clear b_Blocks_clear 3 none) rm_Blocks_clear_m (va_Pc [.ref (ga 5), .int a1] (kW (dC, dI) (tC cB cI) (wC ga cB cI σ))) (va_Qv (fun (_ : Unit) => True) (fun _ t => kW (dC, dI) (tC cB cI) (wC ga cB cI res) t) A) 0 0 A := by
  refine Met.ofW (cc := b_Blocks_clear) (maxL := 3) (ret := none) (by decide) rfl ?_
  intro p e s m args below meth c s₁ B hml hv
  obtain ⟨rfl, hP, hK⟩ := hv
  have hx := B.exec
  have hb := B.bytes
  have hr := B.returns
  have hts := atoms_spec (ws := (mw y_Blocks_clear b_Blocks_clear 3 none)) B.pre
  have htb : ∀ w ∈ tb, w.before [.ref (ga 5), .int a1].toArray s = true := fun w h => hts w (mwIn h)
  have hown : s.vm.findClass "LogFs$Blocks" = some m.cls := findClass_of_methodNamed B.named
  have hlocks := B.notSynchronized
  have hS : va_S A s.heap s.heap [] := va_S.rf
  have hl := lv_entry ([.ref (ga 5), .int a1]) (n := 3) (Nat.le_of_ble_eq_true rfl)
  rw [lg_entry_eq]
  generalize (lg_sl ([.ref (ga 5), .int a1]) ++ List.replicate (3 - (lg_sl ([.ref (ga 5), .int a1])).length) Slot.unset).toArray = ls at hl ⊢
  have hl : lv_has ls 3 [(0, .ref (ga 5)), (1, .int a1)] := hl
  have blk2 : ∀ (n : Nat) (σ : CS) (v1 : Int32) (v2 : Int32) (ls : Array Slot) (H : Heap) (locs : List Loc), J_Blocks_clear_m_2 n σ v1 v2 = some res → lv_has ls 3 [(0, .ref (ga 5)), (1, .int v1), (2, .int v2)] → va_P (dC, dI) cls (wC ga cB cI σ) H → va_S A s.heap H locs → W p l e (headSpec (mw y_Blocks_clear b_Blocks_clear 3 none) rm_Blocks_clear_m).room s m [.ref (ga 5), .int a1].toArray below meth c H locs 0 0 (MQ below (va_Qv (fun (_ : Unit) => True) (fun _ t => kW (dC, dI) (tC cB cI) (wC ga cB cI res) t) A) [.ref (ga 5), .int a1].toArray s 0 0 A) (F0 m 2 ls []) := by
    intro n
    induction n with
    | zero => intro σ v1 v2 ls H locs hJ; exact j_none hJ
    | succ n hk =>
      intro σ v1 v2 ls H locs hJ hl hP hS
      have hJ : J_Blocks_clear_m_2_b (J_Blocks_clear_m_2 n) σ v1 v2 = some res := hJ
      unfold J_Blocks_clear_m_2_b at hJ
      refine lv_iload_n hx hb d_Blocks_clear_2 rfl (lv_at hl 2 rfl) ?_
      refine lv_bipush (v := (64 : Int32)) hx hb d_Blocks_clear_3 (by decide) ?_
      refine lv_icmp_ge (tgt := 21) hx hb d_Blocks_clear_5 (by decide) (fun h1 => ?_) (fun h1 => ?_)
      · have hJ := j_t hJ h1
        have hJ := Option.some.inj hJ
        exact W.vret hx hb hr (fun t ht hW => ⟨⟨(), rfl, trivial, kW_end hP hK ht hW (congrArg (fun z => wC ga cB cI z) hJ)⟩, hS.F ht⟩) hS.2.2 d_Blocks_clear_21
      · have hJ := j_f hJ h1
        refine lv_aload_n hx hb d_Blocks_clear_8 rfl (lv_at hl 0 rfl) ?_
        refine lv_iload_n hx hb d_Blocks_clear_9 rfl (lv_at hl 1 rfl) ?_
        refine lv_iload_n hx hb d_Blocks_clear_10 rfl (lv_at hl 2 rfl) ?_
        refine lv_iconst (v := (0 : Int32)) hx hb d_Blocks_clear_11 (by decide) ?_
        obtain ⟨x2, e2, hJ⟩ := j_bind hJ
        refine va_callv (va_runV (As := [.int v1, .int v2, .int (0 : Int32)]) (rest := []) ⟨hx, hb, hml, hown, htb⟩ (c_Blocks_set_m (l := l) (dC := dC) (dI := dI) hDa e2) (xcV 3 htb tw43 tw3 tw339 tw41 tw42 rfl rfl hd_Blocks_set ⟨Nat.le_of_ble_eq_true rfl, Nat.le_of_ble_eq_true rfl⟩) (kW_V hP hK (va_recv (q0 := 5) (ci := 0) hK hP rfl rfl)) rfl rfl hl.1 rfl (lv_room (Nat.le_of_ble_eq_true rfl)) d_Blocks_clear_12 ⟨Nat.le_of_ble_eq_true rfl, Nat.le_of_ble_eq_true rfl⟩) hS (fun q _ h => h) (fun q h => h) (fun u t H locs ht hvm hw hB _ _ hS => ?_)
        have hP := kW_P hB ht
        refine lv_iinc (k := 2) (v := (v2 + (1 : Int32))) hx hb d_Blocks_clear_15 hl rfl rfl (Nat.le_of_ble_eq_true rfl) rfl (fun ls hl => ?_)
        have hl : lv_has ls 3 [(2, .int (v2 + (1 : Int32))), (0, .ref (ga 5)), (1, .int v1)] := hl
        refine lv_goto (tgt := 2) hx hb d_Blocks_clear_18 (by decide) ?_
        exact hk _ _ _ _ _ _ hJ (lv_sub hl [1, 2, 0] rfl) hP hS
  unfold J_Blocks_clear_m at hJ
  refine lv_iconst (v := (0 : Int32)) hx hb d_Blocks_clear_0 (by decide) ?_
  refine lv_istore_n hx hb d_Blocks_clear_1 rfl hl (Nat.le_of_ble_eq_true rfl) rfl (fun ls hl => ?_)
  have hl : lv_has ls 3 [(2, .int (0 : Int32)), (0, .ref (ga 5)), (1, .int a1)] := hl
  exact blk2 9000 _ _ _ _ _ _ hJ (lv_sub hl [1, 2, 0] rfl) hP hS
def J_Blocks_copyBlock_md (σ : CS) (a1 : Int32) (a2 : Int32) : Option (CS) :=
  (if a1 < (0 : Int32) then some σ else (if (128 : Int32) ≤ a1 then some σ else (if a2 < (0 : Int32) then some σ else (if (128 : Int32) ≤ a2 then some σ else (if jcp (a1 * (64 : Int32)) (a2 * (64 : Int32)) (64 : Int32) 8192 8192 = true then some (s_D σ (va_cpy (c_M σ) (c_D σ) (a1 * (64 : Int32)).toNatClampNeg (a2 * (64 : Int32)).toNatClampNeg (64 : Int32).toNatClampNeg)) else none)))))
abbrev rm_Blocks_copyBlock_md : Room := { frames := 1, cells := 0, slots := 0, locals := 26 }
set_option maxHeartbeats 4000000 in
set_option maxRecDepth 100000 in
theorem c_Blocks_copyBlock_md {l : Launch} {dC : Nat → ClassId} {dI : Nat → Nat → Nat} {ga : Nat → Nat} {cB cI : ClassId} {A : Nat → Prop} (hDa : ∀ σ, va_D A (wC ga cB cI σ)) {σ : CS} {a1 : Int32} {a2 : Int32} {res : CS} (hJ : J_Blocks_copyBlock_md σ a1 a2 = some res) :
    Met l y_Blocks_copyBlock (mw y_Blocks_copyBlock b_Blocks_copyBlock 4 none) rm_Blocks_copyBlock_md (va_Pc [.ref (ga 4), .ref (ga 5), .int a1, .int a2] (kW (dC, dI) (tC cB cI) (wC ga cB cI σ))) (va_Qv (fun (_ : Unit) => True) (fun _ t => kW (dC, dI) (tC cB cI) (wC ga cB cI res) t) A) 0 0 A := by
  refine Met.ofW (cc := b_Blocks_copyBlock) (maxL := 4) (ret := none) (by decide) rfl ?_
  intro p e s m args below meth c s₁ B hml hv
  obtain ⟨rfl, hP, hK⟩ := hv
  have hx := B.exec
  have hb := B.bytes
  have hr := B.returns
  have hts := atoms_spec (ws := (mw y_Blocks_copyBlock b_Blocks_copyBlock 4 none)) B.pre
  have htb : ∀ w ∈ tb, w.before [.ref (ga 4), .ref (ga 5), .int a1, .int a2].toArray s = true := fun w h => hts w (mwIn h)
  have hown : s.vm.findClass "LogFs$Blocks" = some m.cls := findClass_of_methodNamed B.named
  have hlocks := B.notSynchronized
  have hS : va_S A s.heap s.heap [] := va_S.rf
  have hl := lv_entry ([.ref (ga 4), .ref (ga 5), .int a1, .int a2]) (n := 4) (Nat.le_of_ble_eq_true rfl)
  rw [lg_entry_eq]
  generalize (lg_sl ([.ref (ga 4), .ref (ga 5), .int a1, .int a2]) ++ List.replicate (4 - (lg_sl ([.ref (ga 4), .ref (ga 5), .int a1, .int a2])).length) Slot.unset).toArray = ls at hl ⊢
  have hl : lv_has ls 4 [(0, .ref (ga 4)), (1, .ref (ga 5)), (2, .int a1), (3, .int a2)] := hl
  unfold J_Blocks_copyBlock_md at hJ
  refine lv_iload_n hx hb d_Blocks_copyBlock_0 rfl (lv_at hl 2 rfl) ?_
  refine lv_if_lt (tgt := 43) hx hb d_Blocks_copyBlock_1 (by decide) (fun h1 => ?_) (fun h1 => ?_)
  · have hJ := j_t hJ h1
    have hJ := Option.some.inj hJ
    exact W.vret hx hb hr (fun t ht hW => ⟨⟨(), rfl, trivial, kW_end hP hK ht hW (congrArg (fun z => wC ga cB cI z) hJ)⟩, hS.F ht⟩) hS.2.2 d_Blocks_copyBlock_43
  · have hJ := j_f hJ h1
    refine lv_iload_n hx hb d_Blocks_copyBlock_4 rfl (lv_at hl 2 rfl) ?_
    refine lv_sipush (v := (128 : Int32)) hx hb d_Blocks_copyBlock_5 (by decide) ?_
    refine lv_icmp_ge (tgt := 43) hx hb d_Blocks_copyBlock_8 (by decide) (fun h2 => ?_) (fun h2 => ?_)
    · have hJ := j_t hJ h2
      have hJ := Option.some.inj hJ
      exact W.vret hx hb hr (fun t ht hW => ⟨⟨(), rfl, trivial, kW_end hP hK ht hW (congrArg (fun z => wC ga cB cI z) hJ)⟩, hS.F ht⟩) hS.2.2 d_Blocks_copyBlock_43
    · have hJ := j_f hJ h2
      refine lv_iload_n hx hb d_Blocks_copyBlock_11 rfl (lv_at hl 3 rfl) ?_
      refine lv_if_lt (tgt := 43) hx hb d_Blocks_copyBlock_12 (by decide) (fun h3 => ?_) (fun h3 => ?_)
      · have hJ := j_t hJ h3
        have hJ := Option.some.inj hJ
        exact W.vret hx hb hr (fun t ht hW => ⟨⟨(), rfl, trivial, kW_end hP hK ht hW (congrArg (fun z => wC ga cB cI z) hJ)⟩, hS.F ht⟩) hS.2.2 d_Blocks_copyBlock_43
      · have hJ := j_f hJ h3
        refine lv_iload_n hx hb d_Blocks_copyBlock_15 rfl (lv_at hl 3 rfl) ?_
        refine lv_sipush (v := (128 : Int32)) hx hb d_Blocks_copyBlock_16 (by decide) ?_
        refine lv_icmp_ge (tgt := 43) hx hb d_Blocks_copyBlock_19 (by decide) (fun h4 => ?_) (fun h4 => ?_)
        · have hJ := j_t hJ h4
          have hJ := Option.some.inj hJ
          exact W.vret hx hb hr (fun t ht hW => ⟨⟨(), rfl, trivial, kW_end hP hK ht hW (congrArg (fun z => wC ga cB cI z) hJ)⟩, hS.F ht⟩) hS.2.2 d_Blocks_copyBlock_43
        · have hJ := j_f hJ h4
          refine lv_aload_n hx hb d_Blocks_copyBlock_22 rfl (lv_at hl 1 rfl) ?_
          refine va_get (D := (dC, dI)) (ci := 0) (v := .ref (ga 7)) (C := R_Blocks) (T := T_Blocks) (N := 1) hx hb htb uin_Blocks hown hK hP 5 rfl rfl 0 (by decide) (htb _ tw35) (fun _ h9 => h9) rfl d_Blocks_copyBlock_23 ?_
          refine lv_iload_n hx hb d_Blocks_copyBlock_26 rfl (lv_at hl 2 rfl) ?_
          refine lv_bipush (v := (64 : Int32)) hx hb d_Blocks_copyBlock_27 (by decide) ?_
          refine lv_imul hx hb d_Blocks_copyBlock_29 ?_
          refine lv_aload_n hx hb d_Blocks_copyBlock_30 rfl (lv_at hl 0 rfl) ?_
          refine va_get (D := (dC, dI)) (ci := 0) (v := .ref (ga 6)) (C := R_Blocks) (T := T_Blocks) (N := 1) hx hb htb uin_Blocks hown hK hP 4 rfl rfl 0 (by decide) (htb _ tw35) (fun _ h9 => h9) rfl d_Blocks_copyBlock_31 ?_
          refine lv_iload_n hx hb d_Blocks_copyBlock_34 rfl (lv_at hl 3 rfl) ?_
          refine lv_bipush (v := (64 : Int32)) hx hb d_Blocks_copyBlock_35 (by decide) ?_
          refine lv_imul hx hb d_Blocks_copyBlock_37 ?_
          refine lv_bipush (v := (64 : Int32)) hx hb d_Blocks_copyBlock_38 (by decide) ?_
          obtain ⟨h5, hJ⟩ := j_g hJ
          obtain ⟨k1, k2, k3, k4, k5⟩ := j_cp h5
          refine va_copyi hx hb (hml.trans hl.1.symm) hown (htb _ tw110) (htb _ tw112) (htb _ tw111) (htb _ tw6) hK hP (hDa _) hS 7 6 0 0 rfl rfl rfl rfl rfl k1 k2 k3 k4 k5 (fun i _ => by_fit _) (Nat.le_of_ble_eq_true rfl) (by decide) d_Blocks_copyBlock_40 (fun H locs hP _ hS => ?_)
          rw [by_cpy] at hP
          have hP : va_P (dC, dI) cls (wC ga cB cI (s_D σ (va_cpy (c_M σ) (c_D σ) (a1 * (64 : Int32)).toNatClampNeg (a2 * (64 : Int32)).toNatClampNeg (64 : Int32).toNatClampNeg))) H := hP
          have hJ := Option.some.inj hJ
          exact W.vret hx hb hr (fun t ht hW => ⟨⟨(), rfl, trivial, kW_end hP hK ht hW (congrArg (fun z => wC ga cB cI z) hJ)⟩, hS.F ht⟩) hS.2.2 d_Blocks_copyBlock_43
def J_Blocks_copyBlock_dd (σ : CS) (a1 : Int32) (a2 : Int32) : Option (CS) :=
  (if a1 < (0 : Int32) then some σ else (if (128 : Int32) ≤ a1 then some σ else (if a2 < (0 : Int32) then some σ else (if (128 : Int32) ≤ a2 then some σ else (if jcp (a1 * (64 : Int32)) (a2 * (64 : Int32)) (64 : Int32) 8192 8192 = true then some (s_D σ (va_cpy (c_D σ) (c_D σ) (a1 * (64 : Int32)).toNatClampNeg (a2 * (64 : Int32)).toNatClampNeg (64 : Int32).toNatClampNeg)) else none)))))
abbrev rm_Blocks_copyBlock_dd : Room := { frames := 1, cells := 0, slots := 0, locals := 26 }
set_option maxHeartbeats 4000000 in
set_option maxRecDepth 100000 in
theorem c_Blocks_copyBlock_dd {l : Launch} {dC : Nat → ClassId} {dI : Nat → Nat → Nat} {ga : Nat → Nat} {cB cI : ClassId} {A : Nat → Prop} (hDa : ∀ σ, va_D A (wC ga cB cI σ)) {σ : CS} {a1 : Int32} {a2 : Int32} {res : CS} (hJ : J_Blocks_copyBlock_dd σ a1 a2 = some res) :
    Met l y_Blocks_copyBlock (mw y_Blocks_copyBlock b_Blocks_copyBlock 4 none) rm_Blocks_copyBlock_dd (va_Pc [.ref (ga 4), .ref (ga 4), .int a1, .int a2] (kW (dC, dI) (tC cB cI) (wC ga cB cI σ))) (va_Qv (fun (_ : Unit) => True) (fun _ t => kW (dC, dI) (tC cB cI) (wC ga cB cI res) t) A) 0 0 A := by
  refine Met.ofW (cc := b_Blocks_copyBlock) (maxL := 4) (ret := none) (by decide) rfl ?_
  intro p e s m args below meth c s₁ B hml hv
  obtain ⟨rfl, hP, hK⟩ := hv
  have hx := B.exec
  have hb := B.bytes
  have hr := B.returns
  have hts := atoms_spec (ws := (mw y_Blocks_copyBlock b_Blocks_copyBlock 4 none)) B.pre
  have htb : ∀ w ∈ tb, w.before [.ref (ga 4), .ref (ga 4), .int a1, .int a2].toArray s = true := fun w h => hts w (mwIn h)
  have hown : s.vm.findClass "LogFs$Blocks" = some m.cls := findClass_of_methodNamed B.named
  have hlocks := B.notSynchronized
  have hS : va_S A s.heap s.heap [] := va_S.rf
  have hl := lv_entry ([.ref (ga 4), .ref (ga 4), .int a1, .int a2]) (n := 4) (Nat.le_of_ble_eq_true rfl)
  rw [lg_entry_eq]
  generalize (lg_sl ([.ref (ga 4), .ref (ga 4), .int a1, .int a2]) ++ List.replicate (4 - (lg_sl ([.ref (ga 4), .ref (ga 4), .int a1, .int a2])).length) Slot.unset).toArray = ls at hl ⊢
  have hl : lv_has ls 4 [(0, .ref (ga 4)), (1, .ref (ga 4)), (2, .int a1), (3, .int a2)] := hl
  unfold J_Blocks_copyBlock_dd at hJ
  refine lv_iload_n hx hb d_Blocks_copyBlock_0 rfl (lv_at hl 2 rfl) ?_
  refine lv_if_lt (tgt := 43) hx hb d_Blocks_copyBlock_1 (by decide) (fun h1 => ?_) (fun h1 => ?_)
  · have hJ := j_t hJ h1
    have hJ := Option.some.inj hJ
    exact W.vret hx hb hr (fun t ht hW => ⟨⟨(), rfl, trivial, kW_end hP hK ht hW (congrArg (fun z => wC ga cB cI z) hJ)⟩, hS.F ht⟩) hS.2.2 d_Blocks_copyBlock_43
  · have hJ := j_f hJ h1
    refine lv_iload_n hx hb d_Blocks_copyBlock_4 rfl (lv_at hl 2 rfl) ?_
    refine lv_sipush (v := (128 : Int32)) hx hb d_Blocks_copyBlock_5 (by decide) ?_
    refine lv_icmp_ge (tgt := 43) hx hb d_Blocks_copyBlock_8 (by decide) (fun h2 => ?_) (fun h2 => ?_)
    · have hJ := j_t hJ h2
      have hJ := Option.some.inj hJ
      exact W.vret hx hb hr (fun t ht hW => ⟨⟨(), rfl, trivial, kW_end hP hK ht hW (congrArg (fun z => wC ga cB cI z) hJ)⟩, hS.F ht⟩) hS.2.2 d_Blocks_copyBlock_43
    · have hJ := j_f hJ h2
      refine lv_iload_n hx hb d_Blocks_copyBlock_11 rfl (lv_at hl 3 rfl) ?_
      refine lv_if_lt (tgt := 43) hx hb d_Blocks_copyBlock_12 (by decide) (fun h3 => ?_) (fun h3 => ?_)
      · have hJ := j_t hJ h3
        have hJ := Option.some.inj hJ
        exact W.vret hx hb hr (fun t ht hW => ⟨⟨(), rfl, trivial, kW_end hP hK ht hW (congrArg (fun z => wC ga cB cI z) hJ)⟩, hS.F ht⟩) hS.2.2 d_Blocks_copyBlock_43
      · have hJ := j_f hJ h3
        refine lv_iload_n hx hb d_Blocks_copyBlock_15 rfl (lv_at hl 3 rfl) ?_
        refine lv_sipush (v := (128 : Int32)) hx hb d_Blocks_copyBlock_16 (by decide) ?_
        refine lv_icmp_ge (tgt := 43) hx hb d_Blocks_copyBlock_19 (by decide) (fun h4 => ?_) (fun h4 => ?_)
        · have hJ := j_t hJ h4
          have hJ := Option.some.inj hJ
          exact W.vret hx hb hr (fun t ht hW => ⟨⟨(), rfl, trivial, kW_end hP hK ht hW (congrArg (fun z => wC ga cB cI z) hJ)⟩, hS.F ht⟩) hS.2.2 d_Blocks_copyBlock_43
        · have hJ := j_f hJ h4
          refine lv_aload_n hx hb d_Blocks_copyBlock_22 rfl (lv_at hl 1 rfl) ?_
          refine va_get (D := (dC, dI)) (ci := 0) (v := .ref (ga 6)) (C := R_Blocks) (T := T_Blocks) (N := 1) hx hb htb uin_Blocks hown hK hP 4 rfl rfl 0 (by decide) (htb _ tw35) (fun _ h9 => h9) rfl d_Blocks_copyBlock_23 ?_
          refine lv_iload_n hx hb d_Blocks_copyBlock_26 rfl (lv_at hl 2 rfl) ?_
          refine lv_bipush (v := (64 : Int32)) hx hb d_Blocks_copyBlock_27 (by decide) ?_
          refine lv_imul hx hb d_Blocks_copyBlock_29 ?_
          refine lv_aload_n hx hb d_Blocks_copyBlock_30 rfl (lv_at hl 0 rfl) ?_
          refine va_get (D := (dC, dI)) (ci := 0) (v := .ref (ga 6)) (C := R_Blocks) (T := T_Blocks) (N := 1) hx hb htb uin_Blocks hown hK hP 4 rfl rfl 0 (by decide) (htb _ tw35) (fun _ h9 => h9) rfl d_Blocks_copyBlock_31 ?_
          refine lv_iload_n hx hb d_Blocks_copyBlock_34 rfl (lv_at hl 3 rfl) ?_
          refine lv_bipush (v := (64 : Int32)) hx hb d_Blocks_copyBlock_35 (by decide) ?_
          refine lv_imul hx hb d_Blocks_copyBlock_37 ?_
          refine lv_bipush (v := (64 : Int32)) hx hb d_Blocks_copyBlock_38 (by decide) ?_
          obtain ⟨h5, hJ⟩ := j_g hJ
          obtain ⟨k1, k2, k3, k4, k5⟩ := j_cp h5
          refine va_copyi hx hb (hml.trans hl.1.symm) hown (htb _ tw110) (htb _ tw112) (htb _ tw111) (htb _ tw6) hK hP (hDa _) hS 6 6 0 0 rfl rfl rfl rfl rfl k1 k2 k3 k4 k5 (fun i _ => by_fit _) (Nat.le_of_ble_eq_true rfl) (by decide) d_Blocks_copyBlock_40 (fun H locs hP _ hS => ?_)
          rw [by_cpy] at hP
          have hP : va_P (dC, dI) cls (wC ga cB cI (s_D σ (va_cpy (c_D σ) (c_D σ) (a1 * (64 : Int32)).toNatClampNeg (a2 * (64 : Int32)).toNatClampNeg (64 : Int32).toNatClampNeg))) H := hP
          have hJ := Option.some.inj hJ
          exact W.vret hx hb hr (fun t ht hW => ⟨⟨(), rfl, trivial, kW_end hP hK ht hW (congrArg (fun z => wC ga cB cI z) hJ)⟩, hS.F ht⟩) hS.2.2 d_Blocks_copyBlock_43
def J_Blocks_copyAll (σ : CS)  : Option (CS) :=
  (if jcp (0 : Int32) (0 : Int32) (8192 : Int32) 8192 8192 = true then some (s_M σ (va_cpy (c_D σ) (c_M σ) (0 : Int32).toNatClampNeg (0 : Int32).toNatClampNeg (8192 : Int32).toNatClampNeg)) else none)
abbrev rm_Blocks_copyAll : Room := { frames := 1, cells := 0, slots := 0, locals := 26 }
set_option maxHeartbeats 4000000 in
set_option maxRecDepth 100000 in
theorem c_Blocks_copyAll {l : Launch} {dC : Nat → ClassId} {dI : Nat → Nat → Nat} {ga : Nat → Nat} {cB cI : ClassId} {A : Nat → Prop} (hDa : ∀ σ, va_D A (wC ga cB cI σ)) {σ : CS} {res : CS} (hJ : J_Blocks_copyAll σ = some res) :
    Met l y_Blocks_copyAll (mw y_Blocks_copyAll b_Blocks_copyAll 2 none) rm_Blocks_copyAll (va_Pc [.ref (ga 5), .ref (ga 4)] (kW (dC, dI) (tC cB cI) (wC ga cB cI σ))) (va_Qv (fun (_ : Unit) => True) (fun _ t => kW (dC, dI) (tC cB cI) (wC ga cB cI res) t) A) 0 0 A := by
  refine Met.ofW (cc := b_Blocks_copyAll) (maxL := 2) (ret := none) (by decide) rfl ?_
  intro p e s m args below meth c s₁ B hml hv
  obtain ⟨rfl, hP, hK⟩ := hv
  have hx := B.exec
  have hb := B.bytes
  have hr := B.returns
  have hts := atoms_spec (ws := (mw y_Blocks_copyAll b_Blocks_copyAll 2 none)) B.pre
  have htb : ∀ w ∈ tb, w.before [.ref (ga 5), .ref (ga 4)].toArray s = true := fun w h => hts w (mwIn h)
  have hown : s.vm.findClass "LogFs$Blocks" = some m.cls := findClass_of_methodNamed B.named
  have hlocks := B.notSynchronized
  have hS : va_S A s.heap s.heap [] := va_S.rf
  have hl := lv_entry ([.ref (ga 5), .ref (ga 4)]) (n := 2) (Nat.le_of_ble_eq_true rfl)
  rw [lg_entry_eq]
  generalize (lg_sl ([.ref (ga 5), .ref (ga 4)]) ++ List.replicate (2 - (lg_sl ([.ref (ga 5), .ref (ga 4)])).length) Slot.unset).toArray = ls at hl ⊢
  have hl : lv_has ls 2 [(0, .ref (ga 5)), (1, .ref (ga 4))] := hl
  unfold J_Blocks_copyAll at hJ
  refine lv_aload_n hx hb d_Blocks_copyAll_0 rfl (lv_at hl 1 rfl) ?_
  refine va_get (D := (dC, dI)) (ci := 0) (v := .ref (ga 6)) (C := R_Blocks) (T := T_Blocks) (N := 1) hx hb htb uin_Blocks hown hK hP 4 rfl rfl 0 (by decide) (htb _ tw35) (fun _ h9 => h9) rfl d_Blocks_copyAll_1 ?_
  refine lv_iconst (v := (0 : Int32)) hx hb d_Blocks_copyAll_4 (by decide) ?_
  refine lv_aload_n hx hb d_Blocks_copyAll_5 rfl (lv_at hl 0 rfl) ?_
  refine va_get (D := (dC, dI)) (ci := 0) (v := .ref (ga 7)) (C := R_Blocks) (T := T_Blocks) (N := 1) hx hb htb uin_Blocks hown hK hP 5 rfl rfl 0 (by decide) (htb _ tw35) (fun _ h9 => h9) rfl d_Blocks_copyAll_6 ?_
  refine lv_iconst (v := (0 : Int32)) hx hb d_Blocks_copyAll_9 (by decide) ?_
  refine lv_sipush (v := (8192 : Int32)) hx hb d_Blocks_copyAll_10 (by decide) ?_
  obtain ⟨h1, hJ⟩ := j_g hJ
  obtain ⟨k1, k2, k3, k4, k5⟩ := j_cp h1
  refine va_copyi hx hb (hml.trans hl.1.symm) hown (htb _ tw110) (htb _ tw112) (htb _ tw111) (htb _ tw6) hK hP (hDa _) hS 6 7 0 0 rfl rfl rfl rfl rfl k1 k2 k3 k4 k5 (fun i _ => by_fit _) (Nat.le_of_ble_eq_true rfl) (by decide) d_Blocks_copyAll_13 (fun H locs hP _ hS => ?_)
  rw [by_cpy] at hP
  have hP : va_P (dC, dI) cls (wC ga cB cI (s_M σ (va_cpy (c_D σ) (c_M σ) (0 : Int32).toNatClampNeg (0 : Int32).toNatClampNeg (8192 : Int32).toNatClampNeg))) H := hP
  have hJ := Option.some.inj hJ
  exact W.vret hx hb hr (fun t ht hW => ⟨⟨(), rfl, trivial, kW_end hP hK ht hW (congrArg (fun z => wC ga cB cI z) hJ)⟩, hS.F ht⟩) hS.2.2 d_Blocks_copyAll_16
end
section
/-! Memory and Disk. Written by wip/gen/classes.py. -/
def J_Memory_forgetPending (σ : CS)  : Option (CS) :=
  some (s_n σ (0 : Int32))
abbrev rm_Memory_forgetPending : Room := { frames := 0, cells := 0, slots := 0, locals := 0 }
set_option maxHeartbeats 4000000 in
set_option maxRecDepth 100000 in
theorem c_Memory_forgetPending {l : Launch} {dC : Nat → ClassId} {dI : Nat → Nat → Nat} {ga : Nat → Nat} {cB cI : ClassId} {A : Nat → Prop} (hDa : ∀ σ, va_D A (wC ga cB cI σ)) {σ : CS} {res : CS} (hJ : J_Memory_forgetPending σ = some res) :
    Met l y_Memory_forgetPending (mw y_Memory_forgetPending b_Memory_forgetPending 1 none) rm_Memory_forgetPending (va_Pc [.ref (ga 2)] (kW (dC, dI) (tC cB cI) (wC ga cB cI σ))) (va_Qv (fun (_ : Unit) => True) (fun _ t => kW (dC, dI) (tC cB cI) (wC ga cB cI res) t) A) 0 0 A := by
  refine Met.ofW (cc := b_Memory_forgetPending) (maxL := 1) (ret := none) (by decide) rfl ?_
  intro p e s m args below meth c s₁ B hml hv
  obtain ⟨rfl, hP, hK⟩ := hv
  have hx := B.exec
  have hb := B.bytes
  have hr := B.returns
  have hts := atoms_spec (ws := (mw y_Memory_forgetPending b_Memory_forgetPending 1 none)) B.pre
  have htb : ∀ w ∈ tb, w.before [.ref (ga 2)].toArray s = true := fun w h => hts w (mwIn h)
  have hown : s.vm.findClass "LogFs$Memory" = some m.cls := findClass_of_methodNamed B.named
  have hlocks := B.notSynchronized
  have hS : va_S A s.heap s.heap [] := va_S.rf
  have hl := lv_entry ([.ref (ga 2)]) (n := 1) (Nat.le_of_ble_eq_true rfl)
  rw [lg_entry_eq]
  generalize (lg_sl ([.ref (ga 2)]) ++ List.replicate (1 - (lg_sl ([.ref (ga 2)])).length) Slot.unset).toArray = ls at hl ⊢
  have hl : lv_has ls 1 [(0, .ref (ga 2))] := hl
  unfold J_Memory_forgetPending at hJ
  refine lv_aload_n hx hb d_Memory_forgetPending_0 rfl (lv_at hl 0 rfl) ?_
  refine lv_iconst (v := (0 : Int32)) hx hb d_Memory_forgetPending_1 (by decide) ?_
  refine va_put (D := (dC, dI)) (ci := 2) (v := .int (0 : Int32)) (ty := .int) (C := R_Memory) (T := T_Memory) (N := 3) hx hb htb uin_Memory t_Memory t_Memory_ok n_Memory hown hK hP (hDa _) hS 2 rfl rfl 2 (by decide) (htb _ tw78) (fun _ h9 => h9) rfl (by decide +kernel) rfl rfl (Nat.le_of_ble_eq_true rfl) d_Memory_forgetPending_2 (fun H locs hP _ hS => ?_)
  have hP : va_P (dC, dI) cls (wC ga cB cI (s_n σ (0 : Int32))) H := hP
  have hJ := Option.some.inj hJ
  exact W.vret hx hb hr (fun t ht hW => ⟨⟨(), rfl, trivial, kW_end hP hK ht hW (congrArg (fun z => wC ga cB cI z) hJ)⟩, hS.F ht⟩) hS.2.2 d_Memory_forgetPending_5
def J_Memory_load (σ : CS)  : Option (CS) :=
  (J_Blocks_copyAll σ).bind fun x1 => (J_Memory_forgetPending x1).bind fun x2 => some x2
abbrev rm_Memory_load : Room := { frames := 2, cells := 0, slots := 0, locals := 47 }
set_option maxHeartbeats 4000000 in
set_option maxRecDepth 100000 in
theorem c_Memory_load {l : Launch} {dC : Nat → ClassId} {dI : Nat → Nat → Nat} {ga : Nat → Nat} {cB cI : ClassId} {A : Nat → Prop} (hDa : ∀ σ, va_D A (wC ga cB cI σ)) {σ : CS} {res : CS} (hJ : J_Memory_load σ = some res) :
    Met l y_Memory_load (mw y_Memory_load b_Memory_load 2 none) rm_Memory_load (va_Pc [.ref (ga 2), .ref (ga 4)] (kW (dC, dI) (tC cB cI) (wC ga cB cI σ))) (va_Qv (fun (_ : Unit) => True) (fun _ t => kW (dC, dI) (tC cB cI) (wC ga cB cI res) t) A) 0 0 A := by
  refine Met.ofW (cc := b_Memory_load) (maxL := 2) (ret := none) (by decide) rfl ?_
  intro p e s m args below meth c s₁ B hml hv
  obtain ⟨rfl, hP, hK⟩ := hv
  have hx := B.exec
  have hb := B.bytes
  have hr := B.returns
  have hts := atoms_spec (ws := (mw y_Memory_load b_Memory_load 2 none)) B.pre
  have htb : ∀ w ∈ tb, w.before [.ref (ga 2), .ref (ga 4)].toArray s = true := fun w h => hts w (mwIn h)
  have hown : s.vm.findClass "LogFs$Memory" = some m.cls := findClass_of_methodNamed B.named
  have hlocks := B.notSynchronized
  have hS : va_S A s.heap s.heap [] := va_S.rf
  have hl := lv_entry ([.ref (ga 2), .ref (ga 4)]) (n := 2) (Nat.le_of_ble_eq_true rfl)
  rw [lg_entry_eq]
  generalize (lg_sl ([.ref (ga 2), .ref (ga 4)]) ++ List.replicate (2 - (lg_sl ([.ref (ga 2), .ref (ga 4)])).length) Slot.unset).toArray = ls at hl ⊢
  have hl : lv_has ls 2 [(0, .ref (ga 2)), (1, .ref (ga 4))] := hl
  unfold J_Memory_load at hJ
  refine lv_aload_n hx hb d_Memory_load_0 rfl (lv_at hl 0 rfl) ?_
  refine va_get (D := (dC, dI)) (ci := 2) (v := .ref (ga 5)) (C := R_Memory) (T := T_Memory) (N := 3) hx hb htb uin_Memory hown hK hP 2 rfl rfl 0 (by decide) (htb _ tw74) (fun _ h9 => h9) rfl d_Memory_load_1 ?_
  refine lv_aload_n hx hb d_Memory_load_4 rfl (lv_at hl 1 rfl) ?_
  obtain ⟨x1, e1, hJ⟩ := j_bind hJ
  refine va_callv (va_runV (As := [.ref (ga 4)]) (rest := []) ⟨hx, hb, hml, hown, htb⟩ (c_Blocks_copyAll (l := l) (dC := dC) (dI := dI) hDa e1) (xcV 1 htb tw109 tw3 tw106 tw107 tw108 rfl rfl hd_Blocks_copyAll ⟨Nat.le_of_ble_eq_true rfl, Nat.le_of_ble_eq_true rfl⟩) (kW_V hP hK (va_recv (q0 := 5) (ci := 0) hK hP rfl rfl)) rfl rfl hl.1 rfl (lv_room (Nat.le_of_ble_eq_true rfl)) d_Memory_load_5 ⟨Nat.le_of_ble_eq_true rfl, Nat.le_of_ble_eq_true rfl⟩) hS (fun q _ h => h) (fun q h => h) (fun u t H locs ht hvm hw hB _ _ hS => ?_)
  have hP := kW_P hB ht
  refine lv_aload_n hx hb d_Memory_load_8 rfl (lv_at hl 0 rfl) ?_
  obtain ⟨x2, e2, hJ⟩ := j_bind hJ
  refine va_callv (va_runV (As := []) (rest := []) ⟨hx, hb, hml, hown, htb⟩ (c_Memory_forgetPending (l := l) (dC := dC) (dI := dI) hDa e2) (xcV 0 htb tw116 tw4 tw113 tw114 tw115 rfl rfl hd_Memory_forgetPending ⟨Nat.le_of_ble_eq_true rfl, Nat.le_of_ble_eq_true rfl⟩) (kW_V hP hK (va_recv (q0 := 2) (ci := 2) hK hP rfl rfl)) rfl rfl hl.1 rfl (lv_room (Nat.le_of_ble_eq_true rfl)) d_Memory_load_9 ⟨Nat.le_of_ble_eq_true rfl, Nat.le_of_ble_eq_true rfl⟩) hS (fun q _ h => h) (fun q h => h) (fun u t H locs ht hvm hw hB _ _ hS => ?_)
  have hP := kW_P hB ht
  have hJ := Option.some.inj hJ
  exact W.vret hx hb hr (fun t ht hW => ⟨⟨(), rfl, trivial, kW_end hP hK ht hW (congrArg (fun z => wC ga cB cI z) hJ)⟩, hS.F ht⟩) hS.2.2 d_Memory_load_12
def J_Memory_pendingAt (σ : CS) (a1 : Int32) : Option (Int32) :=
  (if a1 < (0 : Int32) then some ((-1) : Int32) else (if (c_n σ) ≤ a1 then some ((-1) : Int32) else (if jin a1 15 = true then some ((c_P σ) a1.toNatClampNeg) else none)))
abbrev rm_Memory_pendingAt : Room := { frames := 0, cells := 0, slots := 0, locals := 0 }
set_option maxHeartbeats 4000000 in
set_option maxRecDepth 100000 in
theorem c_Memory_pendingAt {l : Launch} {dC : Nat → ClassId} {dI : Nat → Nat → Nat} {ga : Nat → Nat} {cB cI : ClassId} {A : Nat → Prop} (hDa : ∀ σ, va_D A (wC ga cB cI σ)) {σ : CS} {a1 : Int32} {res : Int32} (hJ : J_Memory_pendingAt σ a1 = some res) :
    Met l y_Memory_pendingAt (mw y_Memory_pendingAt b_Memory_pendingAt 2 (some .int)) rm_Memory_pendingAt (va_Pc [.ref (ga 2), .int a1] (kW (dC, dI) (tC cB cI) (wC ga cB cI σ))) (va_Qi (fun (x : Int32) (_ : Unit) => x = res) (fun _ t => kW (dC, dI) (tC cB cI) (wC ga cB cI σ) t) A) 0 0 A := by
  refine Met.ofW (cc := b_Memory_pendingAt) (maxL := 2) (ret := (some .int)) (by decide) rfl ?_
  intro p e s m args below meth c s₁ B hml hv
  obtain ⟨rfl, hP, hK⟩ := hv
  have hx := B.exec
  have hb := B.bytes
  have hr := B.returns
  have hts := atoms_spec (ws := (mw y_Memory_pendingAt b_Memory_pendingAt 2 (some .int))) B.pre
  have htb : ∀ w ∈ tb, w.before [.ref (ga 2), .int a1].toArray s = true := fun w h => hts w (mwIn h)
  have hown : s.vm.findClass "LogFs$Memory" = some m.cls := findClass_of_methodNamed B.named
  have hlocks := B.notSynchronized
  have hS : va_S A s.heap s.heap [] := va_S.rf
  have hl := lv_entry ([.ref (ga 2), .int a1]) (n := 2) (Nat.le_of_ble_eq_true rfl)
  rw [lg_entry_eq]
  generalize (lg_sl ([.ref (ga 2), .int a1]) ++ List.replicate (2 - (lg_sl ([.ref (ga 2), .int a1])).length) Slot.unset).toArray = ls at hl ⊢
  have hl : lv_has ls 2 [(0, .ref (ga 2)), (1, .int a1)] := hl
  unfold J_Memory_pendingAt at hJ
  refine lv_iload_n hx hb d_Memory_pendingAt_0 rfl (lv_at hl 1 rfl) ?_
  refine lv_if_lt (tgt := 21) hx hb d_Memory_pendingAt_1 (by decide) (fun h1 => ?_) (fun h1 => ?_)
  · have hJ := j_t hJ h1
    refine lv_iconst (v := ((-1) : Int32)) hx hb d_Memory_pendingAt_21 (by decide) ?_
    have hJ := Option.some.inj hJ
    exact W.iret (v := ((-1) : Int32)) hx hb hr (fun t ht hW => ⟨⟨_, (), rfl, hJ, kW_end hP hK ht hW rfl⟩, hS.F ht⟩) hS.2.2 d_Memory_pendingAt_22
  · have hJ := j_f hJ h1
    refine lv_iload_n hx hb d_Memory_pendingAt_4 rfl (lv_at hl 1 rfl) ?_
    refine lv_aload_n hx hb d_Memory_pendingAt_5 rfl (lv_at hl 0 rfl) ?_
    refine va_get (D := (dC, dI)) (ci := 2) (v := .int (c_n σ)) (C := R_Memory) (T := T_Memory) (N := 3) hx hb htb uin_Memory hown hK hP 2 rfl rfl 2 (by decide) (htb _ tw78) (fun _ h9 => h9) rfl d_Memory_pendingAt_6 ?_
    refine lv_icmp_ge (tgt := 21) hx hb d_Memory_pendingAt_9 (by decide) (fun h2 => ?_) (fun h2 => ?_)
    · have hJ := j_t hJ h2
      refine lv_iconst (v := ((-1) : Int32)) hx hb d_Memory_pendingAt_21 (by decide) ?_
      have hJ := Option.some.inj hJ
      exact W.iret (v := ((-1) : Int32)) hx hb hr (fun t ht hW => ⟨⟨_, (), rfl, hJ, kW_end hP hK ht hW rfl⟩, hS.F ht⟩) hS.2.2 d_Memory_pendingAt_22
    · have hJ := j_f hJ h2
      refine lv_aload_n hx hb d_Memory_pendingAt_12 rfl (lv_at hl 0 rfl) ?_
      refine va_get (D := (dC, dI)) (ci := 2) (v := .ref (ga 8)) (C := R_Memory) (T := T_Memory) (N := 3) hx hb htb uin_Memory hown hK hP 2 rfl rfl 1 (by decide) (htb _ tw77) (fun _ h9 => h9) rfl d_Memory_pendingAt_13 ?_
      refine lv_iload_n hx hb d_Memory_pendingAt_16 rfl (lv_at hl 1 rfl) ?_
      obtain ⟨h3, hJ⟩ := j_g hJ
      refine va_iald hx hb hK hP 8 1 rfl rfl (j_in h3) d_Memory_pendingAt_17 ?_
      refine lv_goto (tgt := 22) hx hb d_Memory_pendingAt_18 (by decide) ?_
      have hJ := Option.some.inj hJ
      exact W.iret (v := ((c_P σ) a1.toNatClampNeg)) hx hb hr (fun t ht hW => ⟨⟨_, (), rfl, hJ, kW_end hP hK ht hW rfl⟩, hS.F ht⟩) hS.2.2 d_Memory_pendingAt_22
def J_Memory_markPending_2_b (k : CS → Int32 → Int32 → Option (CS)) (σ : CS) (v1 : Int32) (v2 : Int32) : Option (CS) :=
  (if (c_n σ) ≤ v2 then (if (15 : Int32) ≤ (c_n σ) then some σ else (if jin (c_n σ) 15 = true then some (s_n (s_P σ (upd (c_P σ) (c_n σ).toNatClampNeg v1)) ((c_n (s_P σ (upd (c_P σ) (c_n σ).toNatClampNeg v1))) + (1 : Int32))) else none)) else (if jin v2 15 = true then (if ((c_P σ) v2.toNatClampNeg) = v1 then some σ else k σ v1 (v2 + (1 : Int32))) else none))
def J_Memory_markPending_2 : Nat → CS → Int32 → Int32 → Option (CS)
  | 0, _, _, _ => none
  | n + 1, σ, v1, v2 => J_Memory_markPending_2_b (J_Memory_markPending_2 n) σ v1 v2
def J_Memory_markPending (σ : CS) (a1 : Int32) : Option (CS) :=
  J_Memory_markPending_2 9000 σ a1 (0 : Int32)
abbrev rm_Memory_markPending : Room := { frames := 0, cells := 0, slots := 0, locals := 0 }
set_option maxHeartbeats 4000000 in
set_option maxRecDepth 100000 in
theorem c_Memory_markPending {l : Launch} {dC : Nat → ClassId} {dI : Nat → Nat → Nat} {ga : Nat → Nat} {cB cI : ClassId} {A : Nat → Prop} (hDa : ∀ σ, va_D A (wC ga cB cI σ)) {σ : CS} {a1 : Int32} {res : CS} (hJ : J_Memory_markPending σ a1 = some res) :
    Met l y_Memory_markPending (mw y_Memory_markPending b_Memory_markPending 3 none) rm_Memory_markPending (va_Pc [.ref (ga 2), .int a1] (kW (dC, dI) (tC cB cI) (wC ga cB cI σ))) (va_Qv (fun (_ : Unit) => True) (fun _ t => kW (dC, dI) (tC cB cI) (wC ga cB cI res) t) A) 0 0 A := by
  refine Met.ofW (cc := b_Memory_markPending) (maxL := 3) (ret := none) (by decide) rfl ?_
  intro p e s m args below meth c s₁ B hml hv
  obtain ⟨rfl, hP, hK⟩ := hv
  have hx := B.exec
  have hb := B.bytes
  have hr := B.returns
  have hts := atoms_spec (ws := (mw y_Memory_markPending b_Memory_markPending 3 none)) B.pre
  have htb : ∀ w ∈ tb, w.before [.ref (ga 2), .int a1].toArray s = true := fun w h => hts w (mwIn h)
  have hown : s.vm.findClass "LogFs$Memory" = some m.cls := findClass_of_methodNamed B.named
  have hlocks := B.notSynchronized
  have hS : va_S A s.heap s.heap [] := va_S.rf
  have hl := lv_entry ([.ref (ga 2), .int a1]) (n := 3) (Nat.le_of_ble_eq_true rfl)
  rw [lg_entry_eq]
  generalize (lg_sl ([.ref (ga 2), .int a1]) ++ List.replicate (3 - (lg_sl ([.ref (ga 2), .int a1])).length) Slot.unset).toArray = ls at hl ⊢
  have hl : lv_has ls 3 [(0, .ref (ga 2)), (1, .int a1)] := hl
  have blk2 : ∀ (n : Nat) (σ : CS) (v1 : Int32) (v2 : Int32) (ls : Array Slot) (H : Heap) (locs : List Loc), J_Memory_markPending_2 n σ v1 v2 = some res → lv_has ls 3 [(0, .ref (ga 2)), (1, .int v1), (2, .int v2)] → va_P (dC, dI) cls (wC ga cB cI σ) H → va_S A s.heap H locs → W p l e (headSpec (mw y_Memory_markPending b_Memory_markPending 3 none) rm_Memory_markPending).room s m [.ref (ga 2), .int a1].toArray below meth c H locs 0 0 (MQ below (va_Qv (fun (_ : Unit) => True) (fun _ t => kW (dC, dI) (tC cB cI) (wC ga cB cI res) t) A) [.ref (ga 2), .int a1].toArray s 0 0 A) (F0 m 2 ls []) := by
    intro n
    induction n with
    | zero => intro σ v1 v2 ls H locs hJ; exact j_none hJ
    | succ n hk =>
      intro σ v1 v2 ls H locs hJ hl hP hS
      have hJ : J_Memory_markPending_2_b (J_Memory_markPending_2 n) σ v1 v2 = some res := hJ
      unfold J_Memory_markPending_2_b at hJ
      refine lv_iload_n hx hb d_Memory_markPending_2 rfl (lv_at hl 2 rfl) ?_
      refine lv_aload_n hx hb d_Memory_markPending_3 rfl (lv_at hl 0 rfl) ?_
      refine va_get (D := (dC, dI)) (ci := 2) (v := .int (c_n σ)) (C := R_Memory) (T := T_Memory) (N := 3) hx hb htb uin_Memory hown hK hP 2 rfl rfl 2 (by decide) (htb _ tw78) (fun _ h9 => h9) rfl d_Memory_markPending_4 ?_
      refine lv_icmp_ge (tgt := 27) hx hb d_Memory_markPending_7 (by decide) (fun h1 => ?_) (fun h1 => ?_)
      · have hJ := j_t hJ h1
        refine lv_aload_n hx hb d_Memory_markPending_27 rfl (lv_at hl 0 rfl) ?_
        refine va_get (D := (dC, dI)) (ci := 2) (v := .int (c_n σ)) (C := R_Memory) (T := T_Memory) (N := 3) hx hb htb uin_Memory hown hK hP 2 rfl rfl 2 (by decide) (htb _ tw78) (fun _ h9 => h9) rfl d_Memory_markPending_28 ?_
        refine lv_bipush (v := (15 : Int32)) hx hb d_Memory_markPending_31 (by decide) ?_
        refine lv_icmp_ge (tgt := 56) hx hb d_Memory_markPending_33 (by decide) (fun h2 => ?_) (fun h2 => ?_)
        · have hJ := j_t hJ h2
          have hJ := Option.some.inj hJ
          exact W.vret hx hb hr (fun t ht hW => ⟨⟨(), rfl, trivial, kW_end hP hK ht hW (congrArg (fun z => wC ga cB cI z) hJ)⟩, hS.F ht⟩) hS.2.2 d_Memory_markPending_56
        · have hJ := j_f hJ h2
          refine lv_aload_n hx hb d_Memory_markPending_36 rfl (lv_at hl 0 rfl) ?_
          refine va_get (D := (dC, dI)) (ci := 2) (v := .ref (ga 8)) (C := R_Memory) (T := T_Memory) (N := 3) hx hb htb uin_Memory hown hK hP 2 rfl rfl 1 (by decide) (htb _ tw77) (fun _ h9 => h9) rfl d_Memory_markPending_37 ?_
          refine lv_aload_n hx hb d_Memory_markPending_40 rfl (lv_at hl 0 rfl) ?_
          refine va_get (D := (dC, dI)) (ci := 2) (v := .int (c_n σ)) (C := R_Memory) (T := T_Memory) (N := 3) hx hb htb uin_Memory hown hK hP 2 rfl rfl 2 (by decide) (htb _ tw78) (fun _ h9 => h9) rfl d_Memory_markPending_41 ?_
          refine lv_iload_n hx hb d_Memory_markPending_44 rfl (lv_at hl 1 rfl) ?_
          obtain ⟨h3, hJ⟩ := j_g hJ
          refine va_iast hx hb hK hP (hDa _) hS 8 1 rfl rfl (j_in h3) d_Memory_markPending_45 (fun H locs hP _ hS => ?_)
          have hP : va_P (dC, dI) cls (wC ga cB cI (s_P σ (upd (c_P σ) (c_n σ).toNatClampNeg v1))) H := hP
          refine lv_aload_n hx hb d_Memory_markPending_46 rfl (lv_at hl 0 rfl) ?_
          refine lv_dup hx hb d_Memory_markPending_47 rfl ?_
          refine va_get (D := (dC, dI)) (ci := 2) (v := .int (c_n (s_P σ (upd (c_P σ) (c_n σ).toNatClampNeg v1)))) (C := R_Memory) (T := T_Memory) (N := 3) hx hb htb uin_Memory hown hK hP 2 rfl rfl 2 (by decide) (htb _ tw78) (fun _ h9 => h9) rfl d_Memory_markPending_48 ?_
          refine lv_iconst (v := (1 : Int32)) hx hb d_Memory_markPending_51 (by decide) ?_
          refine lv_iadd hx hb d_Memory_markPending_52 ?_
          refine va_put (D := (dC, dI)) (ci := 2) (v := .int ((c_n (s_P σ (upd (c_P σ) (c_n σ).toNatClampNeg v1))) + (1 : Int32))) (ty := .int) (C := R_Memory) (T := T_Memory) (N := 3) hx hb htb uin_Memory t_Memory t_Memory_ok n_Memory hown hK hP (hDa _) hS 2 rfl rfl 2 (by decide) (htb _ tw78) (fun _ h9 => h9) rfl (by decide +kernel) rfl rfl (Nat.le_of_ble_eq_true rfl) d_Memory_markPending_53 (fun H locs hP _ hS => ?_)
          have hP : va_P (dC, dI) cls (wC ga cB cI (s_n (s_P σ (upd (c_P σ) (c_n σ).toNatClampNeg v1)) ((c_n (s_P σ (upd (c_P σ) (c_n σ).toNatClampNeg v1))) + (1 : Int32)))) H := hP
          have hJ := Option.some.inj hJ
          exact W.vret hx hb hr (fun t ht hW => ⟨⟨(), rfl, trivial, kW_end hP hK ht hW (congrArg (fun z => wC ga cB cI z) hJ)⟩, hS.F ht⟩) hS.2.2 d_Memory_markPending_56
      · have hJ := j_f hJ h1
        refine lv_aload_n hx hb d_Memory_markPending_10 rfl (lv_at hl 0 rfl) ?_
        refine va_get (D := (dC, dI)) (ci := 2) (v := .ref (ga 8)) (C := R_Memory) (T := T_Memory) (N := 3) hx hb htb uin_Memory hown hK hP 2 rfl rfl 1 (by decide) (htb _ tw77) (fun _ h9 => h9) rfl d_Memory_markPending_11 ?_
        refine lv_iload_n hx hb d_Memory_markPending_14 rfl (lv_at hl 2 rfl) ?_
        obtain ⟨h4, hJ⟩ := j_g hJ
        refine va_iald hx hb hK hP 8 1 rfl rfl (j_in h4) d_Memory_markPending_15 ?_
        refine lv_iload_n hx hb d_Memory_markPending_16 rfl (lv_at hl 1 rfl) ?_
        refine lv_icmp_ne (tgt := 21) hx hb d_Memory_markPending_17 (by decide) (fun h5 => ?_) (fun h5 => ?_)
        · have hJ := j_f hJ h5
          refine lv_iinc (k := 2) (v := (v2 + (1 : Int32))) hx hb d_Memory_markPending_21 hl rfl rfl (Nat.le_of_ble_eq_true rfl) rfl (fun ls hl => ?_)
          have hl : lv_has ls 3 [(2, .int (v2 + (1 : Int32))), (0, .ref (ga 2)), (1, .int v1)] := hl
          refine lv_goto (tgt := 2) hx hb d_Memory_markPending_24 (by decide) ?_
          exact hk _ _ _ _ _ _ hJ (lv_sub hl [1, 2, 0] rfl) hP hS
        · have hJ := j_t hJ h5
          have hJ := Option.some.inj hJ
          exact W.vret hx hb hr (fun t ht hW => ⟨⟨(), rfl, trivial, kW_end hP hK ht hW (congrArg (fun z => wC ga cB cI z) hJ)⟩, hS.F ht⟩) hS.2.2 d_Memory_markPending_20
  unfold J_Memory_markPending at hJ
  refine lv_iconst (v := (0 : Int32)) hx hb d_Memory_markPending_0 (by decide) ?_
  refine lv_istore_n hx hb d_Memory_markPending_1 rfl hl (Nat.le_of_ble_eq_true rfl) rfl (fun ls hl => ?_)
  have hl : lv_has ls 3 [(2, .int (0 : Int32)), (0, .ref (ga 2)), (1, .int a1)] := hl
  exact blk2 9000 _ _ _ _ _ _ hJ (lv_sub hl [1, 2, 0] rfl) hP hS
def J_Memory_change (σ : CS) (a1 : Int32) (a2 : Int32) (a3 : Int32) : Option (CS) :=
  (J_Memory_markPending σ a1).bind fun x1 => (J_Blocks_set_m x1 a1 a2 a3).bind fun x2 => some x2
abbrev rm_Memory_change : Room := { frames := 1, cells := 0, slots := 0, locals := 23 }
set_option maxHeartbeats 4000000 in
set_option maxRecDepth 100000 in
theorem c_Memory_change {l : Launch} {dC : Nat → ClassId} {dI : Nat → Nat → Nat} {ga : Nat → Nat} {cB cI : ClassId} {A : Nat → Prop} (hDa : ∀ σ, va_D A (wC ga cB cI σ)) {σ : CS} {a1 : Int32} {a2 : Int32} {a3 : Int32} {res : CS} (hJ : J_Memory_change σ a1 a2 a3 = some res) :
    Met l y_Memory_change (mw y_Memory_change b_Memory_change 4 none) rm_Memory_change (va_Pc [.ref (ga 2), .int a1, .int a2, .int a3] (kW (dC, dI) (tC cB cI) (wC ga cB cI σ))) (va_Qv (fun (_ : Unit) => True) (fun _ t => kW (dC, dI) (tC cB cI) (wC ga cB cI res) t) A) 0 0 A := by
  refine Met.ofW (cc := b_Memory_change) (maxL := 4) (ret := none) (by decide) rfl ?_
  intro p e s m args below meth c s₁ B hml hv
  obtain ⟨rfl, hP, hK⟩ := hv
  have hx := B.exec
  have hb := B.bytes
  have hr := B.returns
  have hts := atoms_spec (ws := (mw y_Memory_change b_Memory_change 4 none)) B.pre
  have htb : ∀ w ∈ tb, w.before [.ref (ga 2), .int a1, .int a2, .int a3].toArray s = true := fun w h => hts w (mwIn h)
  have hown : s.vm.findClass "LogFs$Memory" = some m.cls := findClass_of_methodNamed B.named
  have hlocks := B.notSynchronized
  have hS : va_S A s.heap s.heap [] := va_S.rf
  have hl := lv_entry ([.ref (ga 2), .int a1, .int a2, .int a3]) (n := 4) (Nat.le_of_ble_eq_true rfl)
  rw [lg_entry_eq]
  generalize (lg_sl ([.ref (ga 2), .int a1, .int a2, .int a3]) ++ List.replicate (4 - (lg_sl ([.ref (ga 2), .int a1, .int a2, .int a3])).length) Slot.unset).toArray = ls at hl ⊢
  have hl : lv_has ls 4 [(0, .ref (ga 2)), (1, .int a1), (2, .int a2), (3, .int a3)] := hl
  unfold J_Memory_change at hJ
  refine lv_aload_n hx hb d_Memory_change_0 rfl (lv_at hl 0 rfl) ?_
  refine lv_iload_n hx hb d_Memory_change_1 rfl (lv_at hl 1 rfl) ?_
  obtain ⟨x1, e1, hJ⟩ := j_bind hJ
  refine va_callv (va_runV (As := [.int a1]) (rest := []) ⟨hx, hb, hml, hown, htb⟩ (c_Memory_markPending (l := l) (dC := dC) (dI := dI) hDa e1) (xcV 1 htb tw380 tw4 tw377 tw379 ts_Memory_markPending rfl rfl hd_Memory_markPending ⟨Nat.le_of_ble_eq_true rfl, Nat.le_of_ble_eq_true rfl⟩) (kW_V hP hK (va_recv (q0 := 2) (ci := 2) hK hP rfl rfl)) rfl rfl hl.1 rfl (lv_room (Nat.le_of_ble_eq_true rfl)) d_Memory_change_2 ⟨Nat.le_of_ble_eq_true rfl, Nat.le_of_ble_eq_true rfl⟩) hS (fun q _ h => h) (fun q h => h) (fun u t H locs ht hvm hw hB _ _ hS => ?_)
  have hP := kW_P hB ht
  refine lv_aload_n hx hb d_Memory_change_5 rfl (lv_at hl 0 rfl) ?_
  refine va_get (D := (dC, dI)) (ci := 2) (v := .ref (ga 5)) (C := R_Memory) (T := T_Memory) (N := 3) hx hb htb uin_Memory hown hK hP 2 rfl rfl 0 (by decide) (htb _ tw74) (fun _ h9 => h9) rfl d_Memory_change_6 ?_
  refine lv_iload_n hx hb d_Memory_change_9 rfl (lv_at hl 1 rfl) ?_
  refine lv_iload_n hx hb d_Memory_change_10 rfl (lv_at hl 2 rfl) ?_
  refine lv_iload_n hx hb d_Memory_change_11 rfl (lv_at hl 3 rfl) ?_
  obtain ⟨x2, e2, hJ⟩ := j_bind hJ
  refine va_callv (va_runV (As := [.int a1, .int a2, .int a3]) (rest := []) ⟨hx, hb, hml, hown, htb⟩ (c_Blocks_set_m (l := l) (dC := dC) (dI := dI) hDa e2) (xcV 3 htb tw43 tw3 tw381 tw41 tw42 rfl rfl hd_Blocks_set ⟨Nat.le_of_ble_eq_true rfl, Nat.le_of_ble_eq_true rfl⟩) (kW_V hP hK (va_recv (q0 := 5) (ci := 0) hK hP rfl rfl)) rfl rfl hl.1 rfl (lv_room (Nat.le_of_ble_eq_true rfl)) d_Memory_change_12 ⟨Nat.le_of_ble_eq_true rfl, Nat.le_of_ble_eq_true rfl⟩) hS (fun q _ h => h) (fun q h => h) (fun u t H locs ht hvm hw hB _ _ hS => ?_)
  have hP := kW_P hB ht
  have hJ := Option.some.inj hJ
  exact W.vret hx hb hr (fun t ht hW => ⟨⟨(), rfl, trivial, kW_end hP hK ht hW (congrArg (fun z => wC ga cB cI z) hJ)⟩, hS.F ht⟩) hS.2.2 d_Memory_change_15
def J_Memory_clear (σ : CS) (a1 : Int32) : Option (CS) :=
  (J_Memory_markPending σ a1).bind fun x1 => (J_Blocks_clear_m x1 a1).bind fun x2 => some x2
abbrev rm_Memory_clear : Room := { frames := 2, cells := 0, slots := 0, locals := 45 }
set_option maxHeartbeats 4000000 in
set_option maxRecDepth 100000 in
theorem c_Memory_clear {l : Launch} {dC : Nat → ClassId} {dI : Nat → Nat → Nat} {ga : Nat → Nat} {cB cI : ClassId} {A : Nat → Prop} (hDa : ∀ σ, va_D A (wC ga cB cI σ)) {σ : CS} {a1 : Int32} {res : CS} (hJ : J_Memory_clear σ a1 = some res) :
    Met l y_Memory_clear (mw y_Memory_clear b_Memory_clear 2 none) rm_Memory_clear (va_Pc [.ref (ga 2), .int a1] (kW (dC, dI) (tC cB cI) (wC ga cB cI σ))) (va_Qv (fun (_ : Unit) => True) (fun _ t => kW (dC, dI) (tC cB cI) (wC ga cB cI res) t) A) 0 0 A := by
  refine Met.ofW (cc := b_Memory_clear) (maxL := 2) (ret := none) (by decide) rfl ?_
  intro p e s m args below meth c s₁ B hml hv
  obtain ⟨rfl, hP, hK⟩ := hv
  have hx := B.exec
  have hb := B.bytes
  have hr := B.returns
  have hts := atoms_spec (ws := (mw y_Memory_clear b_Memory_clear 2 none)) B.pre
  have htb : ∀ w ∈ tb, w.before [.ref (ga 2), .int a1].toArray s = true := fun w h => hts w (mwIn h)
  have hown : s.vm.findClass "LogFs$Memory" = some m.cls := findClass_of_methodNamed B.named
  have hlocks := B.notSynchronized
  have hS : va_S A s.heap s.heap [] := va_S.rf
  have hl := lv_entry ([.ref (ga 2), .int a1]) (n := 2) (Nat.le_of_ble_eq_true rfl)
  rw [lg_entry_eq]
  generalize (lg_sl ([.ref (ga 2), .int a1]) ++ List.replicate (2 - (lg_sl ([.ref (ga 2), .int a1])).length) Slot.unset).toArray = ls at hl ⊢
  have hl : lv_has ls 2 [(0, .ref (ga 2)), (1, .int a1)] := hl
  unfold J_Memory_clear at hJ
  refine lv_aload_n hx hb d_Memory_clear_0 rfl (lv_at hl 0 rfl) ?_
  refine lv_iload_n hx hb d_Memory_clear_1 rfl (lv_at hl 1 rfl) ?_
  obtain ⟨x1, e1, hJ⟩ := j_bind hJ
  refine va_callv (va_runV (As := [.int a1]) (rest := []) ⟨hx, hb, hml, hown, htb⟩ (c_Memory_markPending (l := l) (dC := dC) (dI := dI) hDa e1) (xcV 1 htb tw380 tw4 tw377 tw379 ts_Memory_markPending rfl rfl hd_Memory_markPending ⟨Nat.le_of_ble_eq_true rfl, Nat.le_of_ble_eq_true rfl⟩) (kW_V hP hK (va_recv (q0 := 2) (ci := 2) hK hP rfl rfl)) rfl rfl hl.1 rfl (lv_room (Nat.le_of_ble_eq_true rfl)) d_Memory_clear_2 ⟨Nat.le_of_ble_eq_true rfl, Nat.le_of_ble_eq_true rfl⟩) hS (fun q _ h => h) (fun q h => h) (fun u t H locs ht hvm hw hB _ _ hS => ?_)
  have hP := kW_P hB ht
  refine lv_aload_n hx hb d_Memory_clear_5 rfl (lv_at hl 0 rfl) ?_
  refine va_get (D := (dC, dI)) (ci := 2) (v := .ref (ga 5)) (C := R_Memory) (T := T_Memory) (N := 3) hx hb htb uin_Memory hown hK hP 2 rfl rfl 0 (by decide) (htb _ tw74) (fun _ h9 => h9) rfl d_Memory_clear_6 ?_
  refine lv_iload_n hx hb d_Memory_clear_9 rfl (lv_at hl 1 rfl) ?_
  obtain ⟨x2, e2, hJ⟩ := j_bind hJ
  refine va_callv (va_runV (As := [.int a1]) (rest := []) ⟨hx, hb, hml, hown, htb⟩ (c_Blocks_clear_m (l := l) (dC := dC) (dI := dI) hDa e2) (xcV 1 htb tw338 tw3 tw411 tw336 tw337 rfl rfl hd_Blocks_clear ⟨Nat.le_of_ble_eq_true rfl, Nat.le_of_ble_eq_true rfl⟩) (kW_V hP hK (va_recv (q0 := 5) (ci := 0) hK hP rfl rfl)) rfl rfl hl.1 rfl (lv_room (Nat.le_of_ble_eq_true rfl)) d_Memory_clear_10 ⟨Nat.le_of_ble_eq_true rfl, Nat.le_of_ble_eq_true rfl⟩) hS (fun q _ h => h) (fun q h => h) (fun u t H locs ht hvm hw hB _ _ hS => ?_)
  have hP := kW_P hB ht
  have hJ := Option.some.inj hJ
  exact W.vret hx hb hr (fun t ht hW => ⟨⟨(), rfl, trivial, kW_end hP hK ht hW (congrArg (fun z => wC ga cB cI z) hJ)⟩, hS.F ht⟩) hS.2.2 d_Memory_clear_13
def J_Disk_spendWrite (σ : CS)  : Option (Int32 × CS) :=
  (if (c_f σ) = (0 : Int32) then some ((0 : Int32), (s_o (s_f σ ((-1) : Int32)) (1 : Int32))) else (if (c_f σ) ≤ (0 : Int32) then some ((1 : Int32), (s_w σ ((c_w σ) + (1 : Int32)))) else some ((1 : Int32), (s_w (s_f σ ((c_f σ) - (1 : Int32))) ((c_w (s_f σ ((c_f σ) - (1 : Int32)))) + (1 : Int32))))))
abbrev rm_Disk_spendWrite : Room := { frames := 0, cells := 0, slots := 0, locals := 0 }
set_option maxHeartbeats 4000000 in
set_option maxRecDepth 100000 in
theorem c_Disk_spendWrite {l : Launch} {dC : Nat → ClassId} {dI : Nat → Nat → Nat} {ga : Nat → Nat} {cB cI : ClassId} {A : Nat → Prop} (hDa : ∀ σ, va_D A (wC ga cB cI σ)) {σ : CS} {res : Int32 × CS} (hJ : J_Disk_spendWrite σ = some res) :
    Met l y_Disk_spendWrite (mw y_Disk_spendWrite b_Disk_spendWrite 1 (some .boolean)) rm_Disk_spendWrite (va_Pc [.ref (ga 1)] (kW (dC, dI) (tC cB cI) (wC ga cB cI σ))) (va_Qi (fun (x : Int32) (_ : Unit) => x = res.1) (fun _ t => kW (dC, dI) (tC cB cI) (wC ga cB cI res.2) t) A) 0 0 A := by
  refine Met.ofW (cc := b_Disk_spendWrite) (maxL := 1) (ret := (some .boolean)) (by decide) rfl ?_
  intro p e s m args below meth c s₁ B hml hv
  obtain ⟨rfl, hP, hK⟩ := hv
  have hx := B.exec
  have hb := B.bytes
  have hr := B.returns
  have hts := atoms_spec (ws := (mw y_Disk_spendWrite b_Disk_spendWrite 1 (some .boolean))) B.pre
  have htb : ∀ w ∈ tb, w.before [.ref (ga 1)].toArray s = true := fun w h => hts w (mwIn h)
  have hown : s.vm.findClass "LogFs$Disk" = some m.cls := findClass_of_methodNamed B.named
  have hlocks := B.notSynchronized
  have hS : va_S A s.heap s.heap [] := va_S.rf
  have hl := lv_entry ([.ref (ga 1)]) (n := 1) (Nat.le_of_ble_eq_true rfl)
  rw [lg_entry_eq]
  generalize (lg_sl ([.ref (ga 1)]) ++ List.replicate (1 - (lg_sl ([.ref (ga 1)])).length) Slot.unset).toArray = ls at hl ⊢
  have hl : lv_has ls 1 [(0, .ref (ga 1))] := hl
  unfold J_Disk_spendWrite at hJ
  refine lv_aload_n hx hb d_Disk_spendWrite_0 rfl (lv_at hl 0 rfl) ?_
  refine va_get (D := (dC, dI)) (ci := 1) (v := .int (c_f σ)) (C := R_Disk) (T := T_Disk) (N := 4) hx hb htb uin_Disk hown hK hP 1 rfl rfl 2 (by decide) (htb _ tw52) (fun _ h9 => h9) rfl d_Disk_spendWrite_1 ?_
  refine lv_if_ne (tgt := 19) hx hb d_Disk_spendWrite_4 (by decide) (fun h1 => ?_) (fun h1 => ?_)
  · have hJ := j_f hJ h1
    refine lv_aload_n hx hb d_Disk_spendWrite_19 rfl (lv_at hl 0 rfl) ?_
    refine va_get (D := (dC, dI)) (ci := 1) (v := .int (c_f σ)) (C := R_Disk) (T := T_Disk) (N := 4) hx hb htb uin_Disk hown hK hP 1 rfl rfl 2 (by decide) (htb _ tw52) (fun _ h9 => h9) rfl d_Disk_spendWrite_20 ?_
    refine lv_if_le (tgt := 36) hx hb d_Disk_spendWrite_23 (by decide) (fun h2 => ?_) (fun h2 => ?_)
    · have hJ := j_t hJ h2
      refine lv_aload_n hx hb d_Disk_spendWrite_36 rfl (lv_at hl 0 rfl) ?_
      refine lv_dup hx hb d_Disk_spendWrite_37 rfl ?_
      refine va_get (D := (dC, dI)) (ci := 1) (v := .int (c_w σ)) (C := R_Disk) (T := T_Disk) (N := 4) hx hb htb uin_Disk hown hK hP 1 rfl rfl 1 (by decide) (htb _ tw50) (fun _ h9 => h9) rfl d_Disk_spendWrite_38 ?_
      refine lv_iconst (v := (1 : Int32)) hx hb d_Disk_spendWrite_41 (by decide) ?_
      refine lv_iadd hx hb d_Disk_spendWrite_42 ?_
      refine va_put (D := (dC, dI)) (ci := 1) (v := .int ((c_w σ) + (1 : Int32))) (ty := .int) (C := R_Disk) (T := T_Disk) (N := 4) hx hb htb uin_Disk t_Disk t_Disk_ok n_Disk hown hK hP (hDa _) hS 1 rfl rfl 1 (by decide) (htb _ tw50) (fun _ h9 => h9) rfl (by decide +kernel) rfl rfl (Nat.le_of_ble_eq_true rfl) d_Disk_spendWrite_43 (fun H locs hP _ hS => ?_)
      have hP : va_P (dC, dI) cls (wC ga cB cI (s_w σ ((c_w σ) + (1 : Int32)))) H := hP
      refine lv_iconst (v := (1 : Int32)) hx hb d_Disk_spendWrite_46 (by decide) ?_
      have hJ := Option.some.inj hJ
      exact W.zret (v := (1 : Int32)) (ty := .boolean) hx hb hr (by decide +kernel) (fun t ht hW => ⟨⟨_, (), rfl, (j_p1 hJ), kW_end hP hK ht hW (congrArg (fun z => wC ga cB cI z) (j_p2 hJ))⟩, hS.F ht⟩) hS.2.2 d_Disk_spendWrite_47
    · have hJ := j_f hJ h2
      refine lv_aload_n hx hb d_Disk_spendWrite_26 rfl (lv_at hl 0 rfl) ?_
      refine lv_dup hx hb d_Disk_spendWrite_27 rfl ?_
      refine va_get (D := (dC, dI)) (ci := 1) (v := .int (c_f σ)) (C := R_Disk) (T := T_Disk) (N := 4) hx hb htb uin_Disk hown hK hP 1 rfl rfl 2 (by decide) (htb _ tw52) (fun _ h9 => h9) rfl d_Disk_spendWrite_28 ?_
      refine lv_iconst (v := (1 : Int32)) hx hb d_Disk_spendWrite_31 (by decide) ?_
      refine lv_isub hx hb d_Disk_spendWrite_32 ?_
      refine va_put (D := (dC, dI)) (ci := 1) (v := .int ((c_f σ) - (1 : Int32))) (ty := .int) (C := R_Disk) (T := T_Disk) (N := 4) hx hb htb uin_Disk t_Disk t_Disk_ok n_Disk hown hK hP (hDa _) hS 1 rfl rfl 2 (by decide) (htb _ tw52) (fun _ h9 => h9) rfl (by decide +kernel) rfl rfl (Nat.le_of_ble_eq_true rfl) d_Disk_spendWrite_33 (fun H locs hP _ hS => ?_)
      have hP : va_P (dC, dI) cls (wC ga cB cI (s_f σ ((c_f σ) - (1 : Int32)))) H := hP
      refine lv_aload_n hx hb d_Disk_spendWrite_36 rfl (lv_at hl 0 rfl) ?_
      refine lv_dup hx hb d_Disk_spendWrite_37 rfl ?_
      refine va_get (D := (dC, dI)) (ci := 1) (v := .int (c_w (s_f σ ((c_f σ) - (1 : Int32))))) (C := R_Disk) (T := T_Disk) (N := 4) hx hb htb uin_Disk hown hK hP 1 rfl rfl 1 (by decide) (htb _ tw50) (fun _ h9 => h9) rfl d_Disk_spendWrite_38 ?_
      refine lv_iconst (v := (1 : Int32)) hx hb d_Disk_spendWrite_41 (by decide) ?_
      refine lv_iadd hx hb d_Disk_spendWrite_42 ?_
      refine va_put (D := (dC, dI)) (ci := 1) (v := .int ((c_w (s_f σ ((c_f σ) - (1 : Int32)))) + (1 : Int32))) (ty := .int) (C := R_Disk) (T := T_Disk) (N := 4) hx hb htb uin_Disk t_Disk t_Disk_ok n_Disk hown hK hP (hDa _) hS 1 rfl rfl 1 (by decide) (htb _ tw50) (fun _ h9 => h9) rfl (by decide +kernel) rfl rfl (Nat.le_of_ble_eq_true rfl) d_Disk_spendWrite_43 (fun H locs hP _ hS => ?_)
      have hP : va_P (dC, dI) cls (wC ga cB cI (s_w (s_f σ ((c_f σ) - (1 : Int32))) ((c_w (s_f σ ((c_f σ) - (1 : Int32)))) + (1 : Int32)))) H := hP
      refine lv_iconst (v := (1 : Int32)) hx hb d_Disk_spendWrite_46 (by decide) ?_
      have hJ := Option.some.inj hJ
      exact W.zret (v := (1 : Int32)) (ty := .boolean) hx hb hr (by decide +kernel) (fun t ht hW => ⟨⟨_, (), rfl, (j_p1 hJ), kW_end hP hK ht hW (congrArg (fun z => wC ga cB cI z) (j_p2 hJ))⟩, hS.F ht⟩) hS.2.2 d_Disk_spendWrite_47
  · have hJ := j_t hJ h1
    refine lv_aload_n hx hb d_Disk_spendWrite_7 rfl (lv_at hl 0 rfl) ?_
    refine lv_iconst (v := ((-1) : Int32)) hx hb d_Disk_spendWrite_8 (by decide) ?_
    refine va_put (D := (dC, dI)) (ci := 1) (v := .int ((-1) : Int32)) (ty := .int) (C := R_Disk) (T := T_Disk) (N := 4) hx hb htb uin_Disk t_Disk t_Disk_ok n_Disk hown hK hP (hDa _) hS 1 rfl rfl 2 (by decide) (htb _ tw52) (fun _ h9 => h9) rfl (by decide +kernel) rfl rfl (Nat.le_of_ble_eq_true rfl) d_Disk_spendWrite_9 (fun H locs hP _ hS => ?_)
    have hP : va_P (dC, dI) cls (wC ga cB cI (s_f σ ((-1) : Int32))) H := hP
    refine lv_aload_n hx hb d_Disk_spendWrite_12 rfl (lv_at hl 0 rfl) ?_
    refine lv_iconst (v := (1 : Int32)) hx hb d_Disk_spendWrite_13 (by decide) ?_
    refine va_put (D := (dC, dI)) (ci := 1) (v := .int (1 : Int32)) (ty := .boolean) (C := R_Disk) (T := T_Disk) (N := 4) hx hb htb uin_Disk t_Disk t_Disk_ok n_Disk hown hK hP (hDa _) hS 1 rfl rfl 3 (by decide) (htb _ tw54) (fun _ h9 => h9) rfl (by decide +kernel) (by decide +kernel) (by decide +kernel) (Nat.le_of_ble_eq_true rfl) d_Disk_spendWrite_14 (fun H locs hP _ hS => ?_)
    have hP : va_P (dC, dI) cls (wC ga cB cI (s_o (s_f σ ((-1) : Int32)) (1 : Int32))) H := hP
    refine lv_iconst (v := (0 : Int32)) hx hb d_Disk_spendWrite_17 (by decide) ?_
    have hJ := Option.some.inj hJ
    exact W.zret (v := (0 : Int32)) (ty := .boolean) hx hb hr (by decide +kernel) (fun t ht hW => ⟨⟨_, (), rfl, (j_p1 hJ), kW_end hP hK ht hW (congrArg (fun z => wC ga cB cI z) (j_p2 hJ))⟩, hS.F ht⟩) hS.2.2 d_Disk_spendWrite_18
def J_Disk_storeBlock_m (σ : CS) (a1 : Int32) (a2 : Int32) : Option (Int32 × CS) :=
  (J_Disk_spendWrite σ).bind fun x1 => (if x1.1 = (0 : Int32) then some ((0 : Int32), x1.2) else (J_Blocks_copyBlock_md x1.2 a1 a2).bind fun x3 => some ((1 : Int32), x3))
abbrev rm_Disk_storeBlock_m : Room := { frames := 2, cells := 0, slots := 0, locals := 49 }
set_option maxHeartbeats 4000000 in
set_option maxRecDepth 100000 in
theorem c_Disk_storeBlock_m {l : Launch} {dC : Nat → ClassId} {dI : Nat → Nat → Nat} {ga : Nat → Nat} {cB cI : ClassId} {A : Nat → Prop} (hDa : ∀ σ, va_D A (wC ga cB cI σ)) {σ : CS} {a1 : Int32} {a2 : Int32} {res : Int32 × CS} (hJ : J_Disk_storeBlock_m σ a1 a2 = some res) :
    Met l y_Disk_storeBlock (mw y_Disk_storeBlock b_Disk_storeBlock 4 (some .boolean)) rm_Disk_storeBlock_m (va_Pc [.ref (ga 1), .ref (ga 5), .int a1, .int a2] (kW (dC, dI) (tC cB cI) (wC ga cB cI σ))) (va_Qi (fun (x : Int32) (_ : Unit) => x = res.1) (fun _ t => kW (dC, dI) (tC cB cI) (wC ga cB cI res.2) t) A) 0 0 A := by
  refine Met.ofW (cc := b_Disk_storeBlock) (maxL := 4) (ret := (some .boolean)) (by decide) rfl ?_
  intro p e s m args below meth c s₁ B hml hv
  obtain ⟨rfl, hP, hK⟩ := hv
  have hx := B.exec
  have hb := B.bytes
  have hr := B.returns
  have hts := atoms_spec (ws := (mw y_Disk_storeBlock b_Disk_storeBlock 4 (some .boolean))) B.pre
  have htb : ∀ w ∈ tb, w.before [.ref (ga 1), .ref (ga 5), .int a1, .int a2].toArray s = true := fun w h => hts w (mwIn h)
  have hown : s.vm.findClass "LogFs$Disk" = some m.cls := findClass_of_methodNamed B.named
  have hlocks := B.notSynchronized
  have hS : va_S A s.heap s.heap [] := va_S.rf
  have hl := lv_entry ([.ref (ga 1), .ref (ga 5), .int a1, .int a2]) (n := 4) (Nat.le_of_ble_eq_true rfl)
  rw [lg_entry_eq]
  generalize (lg_sl ([.ref (ga 1), .ref (ga 5), .int a1, .int a2]) ++ List.replicate (4 - (lg_sl ([.ref (ga 1), .ref (ga 5), .int a1, .int a2])).length) Slot.unset).toArray = ls at hl ⊢
  have hl : lv_has ls 4 [(0, .ref (ga 1)), (1, .ref (ga 5)), (2, .int a1), (3, .int a2)] := hl
  unfold J_Disk_storeBlock_m at hJ
  refine lv_aload_n hx hb d_Disk_storeBlock_0 rfl (lv_at hl 0 rfl) ?_
  obtain ⟨x1, e1, hJ⟩ := j_bind hJ
  refine va_calli (va_runV (As := []) (rest := []) ⟨hx, hb, hml, hown, htb⟩ (c_Disk_spendWrite (l := l) (dC := dC) (dI := dI) hDa e1) (xcV 0 htb tw326 tw2 tw323 tw325 ts_Disk_spendWrite rfl rfl hd_Disk_spendWrite ⟨Nat.le_of_ble_eq_true rfl, Nat.le_of_ble_eq_true rfl⟩) (kW_V hP hK (va_recv (q0 := 1) (ci := 1) hK hP rfl rfl)) rfl rfl hl.1 rfl (lv_room (Nat.le_of_ble_eq_true rfl)) d_Disk_storeBlock_1 ⟨Nat.le_of_ble_eq_true rfl, Nat.le_of_ble_eq_true rfl⟩) hS (fun q _ h => h) (fun q h => h) (fun r0 u t H locs ht hvm hw hB _ _ hS => ?_)
  subst r0
  have hP := kW_P hB ht
  refine lv_if_ne (tgt := 9) hx hb d_Disk_storeBlock_4 (by decide) (fun h2 => ?_) (fun h2 => ?_)
  · have hJ := j_f hJ h2
    refine lv_aload_n hx hb d_Disk_storeBlock_9 rfl (lv_at hl 0 rfl) ?_
    refine va_get (D := (dC, dI)) (ci := 1) (v := .ref (ga 4)) (C := R_Disk) (T := T_Disk) (N := 4) hx hb htb uin_Disk hown hK hP 1 rfl rfl 0 (by decide) (htb _ tw48) (fun _ h9 => h9) rfl d_Disk_storeBlock_10 ?_
    refine lv_aload_n hx hb d_Disk_storeBlock_13 rfl (lv_at hl 1 rfl) ?_
    refine lv_iload_n hx hb d_Disk_storeBlock_14 rfl (lv_at hl 2 rfl) ?_
    refine lv_iload_n hx hb d_Disk_storeBlock_15 rfl (lv_at hl 3 rfl) ?_
    obtain ⟨x3, e3, hJ⟩ := j_bind hJ
    refine va_callv (va_runV (As := [.ref (ga 5), .int a1, .int a2]) (rest := []) ⟨hx, hb, hml, hown, htb⟩ (c_Blocks_copyBlock_md (l := l) (dC := dC) (dI := dI) hDa e3) (xcV 3 htb tw330 tw3 tw327 tw328 tw329 rfl rfl hd_Blocks_copyBlock ⟨Nat.le_of_ble_eq_true rfl, Nat.le_of_ble_eq_true rfl⟩) (kW_V hP hK (va_recv (q0 := 4) (ci := 0) hK hP rfl rfl)) rfl rfl hl.1 rfl (lv_room (Nat.le_of_ble_eq_true rfl)) d_Disk_storeBlock_16 ⟨Nat.le_of_ble_eq_true rfl, Nat.le_of_ble_eq_true rfl⟩) hS (fun q _ h => h) (fun q h => h) (fun u t H locs ht hvm hw hB _ _ hS => ?_)
    have hP := kW_P hB ht
    refine lv_iconst (v := (1 : Int32)) hx hb d_Disk_storeBlock_19 (by decide) ?_
    have hJ := Option.some.inj hJ
    exact W.zret (v := (1 : Int32)) (ty := .boolean) hx hb hr (by decide +kernel) (fun t ht hW => ⟨⟨_, (), rfl, (j_p1 hJ), kW_end hP hK ht hW (congrArg (fun z => wC ga cB cI z) (j_p2 hJ))⟩, hS.F ht⟩) hS.2.2 d_Disk_storeBlock_20
  · have hJ := j_t hJ h2
    refine lv_iconst (v := (0 : Int32)) hx hb d_Disk_storeBlock_7 (by decide) ?_
    have hJ := Option.some.inj hJ
    exact W.zret (v := (0 : Int32)) (ty := .boolean) hx hb hr (by decide +kernel) (fun t ht hW => ⟨⟨_, (), rfl, (j_p1 hJ), kW_end hP hK ht hW (congrArg (fun z => wC ga cB cI z) (j_p2 hJ))⟩, hS.F ht⟩) hS.2.2 d_Disk_storeBlock_8
def J_Disk_storeBlock_d (σ : CS) (a1 : Int32) (a2 : Int32) : Option (Int32 × CS) :=
  (J_Disk_spendWrite σ).bind fun x1 => (if x1.1 = (0 : Int32) then some ((0 : Int32), x1.2) else (J_Blocks_copyBlock_dd x1.2 a1 a2).bind fun x3 => some ((1 : Int32), x3))
abbrev rm_Disk_storeBlock_d : Room := { frames := 2, cells := 0, slots := 0, locals := 49 }
set_option maxHeartbeats 4000000 in
set_option maxRecDepth 100000 in
theorem c_Disk_storeBlock_d {l : Launch} {dC : Nat → ClassId} {dI : Nat → Nat → Nat} {ga : Nat → Nat} {cB cI : ClassId} {A : Nat → Prop} (hDa : ∀ σ, va_D A (wC ga cB cI σ)) {σ : CS} {a1 : Int32} {a2 : Int32} {res : Int32 × CS} (hJ : J_Disk_storeBlock_d σ a1 a2 = some res) :
    Met l y_Disk_storeBlock (mw y_Disk_storeBlock b_Disk_storeBlock 4 (some .boolean)) rm_Disk_storeBlock_d (va_Pc [.ref (ga 1), .ref (ga 4), .int a1, .int a2] (kW (dC, dI) (tC cB cI) (wC ga cB cI σ))) (va_Qi (fun (x : Int32) (_ : Unit) => x = res.1) (fun _ t => kW (dC, dI) (tC cB cI) (wC ga cB cI res.2) t) A) 0 0 A := by
  refine Met.ofW (cc := b_Disk_storeBlock) (maxL := 4) (ret := (some .boolean)) (by decide) rfl ?_
  intro p e s m args below meth c s₁ B hml hv
  obtain ⟨rfl, hP, hK⟩ := hv
  have hx := B.exec
  have hb := B.bytes
  have hr := B.returns
  have hts := atoms_spec (ws := (mw y_Disk_storeBlock b_Disk_storeBlock 4 (some .boolean))) B.pre
  have htb : ∀ w ∈ tb, w.before [.ref (ga 1), .ref (ga 4), .int a1, .int a2].toArray s = true := fun w h => hts w (mwIn h)
  have hown : s.vm.findClass "LogFs$Disk" = some m.cls := findClass_of_methodNamed B.named
  have hlocks := B.notSynchronized
  have hS : va_S A s.heap s.heap [] := va_S.rf
  have hl := lv_entry ([.ref (ga 1), .ref (ga 4), .int a1, .int a2]) (n := 4) (Nat.le_of_ble_eq_true rfl)
  rw [lg_entry_eq]
  generalize (lg_sl ([.ref (ga 1), .ref (ga 4), .int a1, .int a2]) ++ List.replicate (4 - (lg_sl ([.ref (ga 1), .ref (ga 4), .int a1, .int a2])).length) Slot.unset).toArray = ls at hl ⊢
  have hl : lv_has ls 4 [(0, .ref (ga 1)), (1, .ref (ga 4)), (2, .int a1), (3, .int a2)] := hl
  unfold J_Disk_storeBlock_d at hJ
  refine lv_aload_n hx hb d_Disk_storeBlock_0 rfl (lv_at hl 0 rfl) ?_
  obtain ⟨x1, e1, hJ⟩ := j_bind hJ
  refine va_calli (va_runV (As := []) (rest := []) ⟨hx, hb, hml, hown, htb⟩ (c_Disk_spendWrite (l := l) (dC := dC) (dI := dI) hDa e1) (xcV 0 htb tw326 tw2 tw323 tw325 ts_Disk_spendWrite rfl rfl hd_Disk_spendWrite ⟨Nat.le_of_ble_eq_true rfl, Nat.le_of_ble_eq_true rfl⟩) (kW_V hP hK (va_recv (q0 := 1) (ci := 1) hK hP rfl rfl)) rfl rfl hl.1 rfl (lv_room (Nat.le_of_ble_eq_true rfl)) d_Disk_storeBlock_1 ⟨Nat.le_of_ble_eq_true rfl, Nat.le_of_ble_eq_true rfl⟩) hS (fun q _ h => h) (fun q h => h) (fun r0 u t H locs ht hvm hw hB _ _ hS => ?_)
  subst r0
  have hP := kW_P hB ht
  refine lv_if_ne (tgt := 9) hx hb d_Disk_storeBlock_4 (by decide) (fun h2 => ?_) (fun h2 => ?_)
  · have hJ := j_f hJ h2
    refine lv_aload_n hx hb d_Disk_storeBlock_9 rfl (lv_at hl 0 rfl) ?_
    refine va_get (D := (dC, dI)) (ci := 1) (v := .ref (ga 4)) (C := R_Disk) (T := T_Disk) (N := 4) hx hb htb uin_Disk hown hK hP 1 rfl rfl 0 (by decide) (htb _ tw48) (fun _ h9 => h9) rfl d_Disk_storeBlock_10 ?_
    refine lv_aload_n hx hb d_Disk_storeBlock_13 rfl (lv_at hl 1 rfl) ?_
    refine lv_iload_n hx hb d_Disk_storeBlock_14 rfl (lv_at hl 2 rfl) ?_
    refine lv_iload_n hx hb d_Disk_storeBlock_15 rfl (lv_at hl 3 rfl) ?_
    obtain ⟨x3, e3, hJ⟩ := j_bind hJ
    refine va_callv (va_runV (As := [.ref (ga 4), .int a1, .int a2]) (rest := []) ⟨hx, hb, hml, hown, htb⟩ (c_Blocks_copyBlock_dd (l := l) (dC := dC) (dI := dI) hDa e3) (xcV 3 htb tw330 tw3 tw327 tw328 tw329 rfl rfl hd_Blocks_copyBlock ⟨Nat.le_of_ble_eq_true rfl, Nat.le_of_ble_eq_true rfl⟩) (kW_V hP hK (va_recv (q0 := 4) (ci := 0) hK hP rfl rfl)) rfl rfl hl.1 rfl (lv_room (Nat.le_of_ble_eq_true rfl)) d_Disk_storeBlock_16 ⟨Nat.le_of_ble_eq_true rfl, Nat.le_of_ble_eq_true rfl⟩) hS (fun q _ h => h) (fun q h => h) (fun u t H locs ht hvm hw hB _ _ hS => ?_)
    have hP := kW_P hB ht
    refine lv_iconst (v := (1 : Int32)) hx hb d_Disk_storeBlock_19 (by decide) ?_
    have hJ := Option.some.inj hJ
    exact W.zret (v := (1 : Int32)) (ty := .boolean) hx hb hr (by decide +kernel) (fun t ht hW => ⟨⟨_, (), rfl, (j_p1 hJ), kW_end hP hK ht hW (congrArg (fun z => wC ga cB cI z) (j_p2 hJ))⟩, hS.F ht⟩) hS.2.2 d_Disk_storeBlock_20
  · have hJ := j_t hJ h2
    refine lv_iconst (v := (0 : Int32)) hx hb d_Disk_storeBlock_7 (by decide) ?_
    have hJ := Option.some.inj hJ
    exact W.zret (v := (0 : Int32)) (ty := .boolean) hx hb hr (by decide +kernel) (fun t ht hW => ⟨⟨_, (), rfl, (j_p1 hJ), kW_end hP hK ht hW (congrArg (fun z => wC ga cB cI z) (j_p2 hJ))⟩, hS.F ht⟩) hS.2.2 d_Disk_storeBlock_8
def J_Disk_clearHead (σ : CS)  : Option (Int32 × CS) :=
  (J_Disk_spendWrite σ).bind fun x1 => (if x1.1 = (0 : Int32) then some ((0 : Int32), x1.2) else (J_Blocks_clear_d x1.2 (1 : Int32)).bind fun x3 => some ((1 : Int32), x3))
abbrev rm_Disk_clearHead : Room := { frames := 2, cells := 0, slots := 0, locals := 45 }
set_option maxHeartbeats 4000000 in
set_option maxRecDepth 100000 in
theorem c_Disk_clearHead {l : Launch} {dC : Nat → ClassId} {dI : Nat → Nat → Nat} {ga : Nat → Nat} {cB cI : ClassId} {A : Nat → Prop} (hDa : ∀ σ, va_D A (wC ga cB cI σ)) {σ : CS} {res : Int32 × CS} (hJ : J_Disk_clearHead σ = some res) :
    Met l y_Disk_clearHead (mw y_Disk_clearHead b_Disk_clearHead 1 (some .boolean)) rm_Disk_clearHead (va_Pc [.ref (ga 1)] (kW (dC, dI) (tC cB cI) (wC ga cB cI σ))) (va_Qi (fun (x : Int32) (_ : Unit) => x = res.1) (fun _ t => kW (dC, dI) (tC cB cI) (wC ga cB cI res.2) t) A) 0 0 A := by
  refine Met.ofW (cc := b_Disk_clearHead) (maxL := 1) (ret := (some .boolean)) (by decide) rfl ?_
  intro p e s m args below meth c s₁ B hml hv
  obtain ⟨rfl, hP, hK⟩ := hv
  have hx := B.exec
  have hb := B.bytes
  have hr := B.returns
  have hts := atoms_spec (ws := (mw y_Disk_clearHead b_Disk_clearHead 1 (some .boolean))) B.pre
  have htb : ∀ w ∈ tb, w.before [.ref (ga 1)].toArray s = true := fun w h => hts w (mwIn h)
  have hown : s.vm.findClass "LogFs$Disk" = some m.cls := findClass_of_methodNamed B.named
  have hlocks := B.notSynchronized
  have hS : va_S A s.heap s.heap [] := va_S.rf
  have hl := lv_entry ([.ref (ga 1)]) (n := 1) (Nat.le_of_ble_eq_true rfl)
  rw [lg_entry_eq]
  generalize (lg_sl ([.ref (ga 1)]) ++ List.replicate (1 - (lg_sl ([.ref (ga 1)])).length) Slot.unset).toArray = ls at hl ⊢
  have hl : lv_has ls 1 [(0, .ref (ga 1))] := hl
  unfold J_Disk_clearHead at hJ
  refine lv_aload_n hx hb d_Disk_clearHead_0 rfl (lv_at hl 0 rfl) ?_
  obtain ⟨x1, e1, hJ⟩ := j_bind hJ
  refine va_calli (va_runV (As := []) (rest := []) ⟨hx, hb, hml, hown, htb⟩ (c_Disk_spendWrite (l := l) (dC := dC) (dI := dI) hDa e1) (xcV 0 htb tw326 tw2 tw323 tw325 ts_Disk_spendWrite rfl rfl hd_Disk_spendWrite ⟨Nat.le_of_ble_eq_true rfl, Nat.le_of_ble_eq_true rfl⟩) (kW_V hP hK (va_recv (q0 := 1) (ci := 1) hK hP rfl rfl)) rfl rfl hl.1 rfl (lv_room (Nat.le_of_ble_eq_true rfl)) d_Disk_clearHead_1 ⟨Nat.le_of_ble_eq_true rfl, Nat.le_of_ble_eq_true rfl⟩) hS (fun q _ h => h) (fun q h => h) (fun r0 u t H locs ht hvm hw hB _ _ hS => ?_)
  subst r0
  have hP := kW_P hB ht
  refine lv_if_ne (tgt := 9) hx hb d_Disk_clearHead_4 (by decide) (fun h2 => ?_) (fun h2 => ?_)
  · have hJ := j_f hJ h2
    refine lv_aload_n hx hb d_Disk_clearHead_9 rfl (lv_at hl 0 rfl) ?_
    refine va_get (D := (dC, dI)) (ci := 1) (v := .ref (ga 4)) (C := R_Disk) (T := T_Disk) (N := 4) hx hb htb uin_Disk hown hK hP 1 rfl rfl 0 (by decide) (htb _ tw48) (fun _ h9 => h9) rfl d_Disk_clearHead_10 ?_
    refine lv_iconst (v := (1 : Int32)) hx hb d_Disk_clearHead_13 (by decide) ?_
    obtain ⟨x3, e3, hJ⟩ := j_bind hJ
    refine va_callv (va_runV (As := [.int (1 : Int32)]) (rest := []) ⟨hx, hb, hml, hown, htb⟩ (c_Blocks_clear_d (l := l) (dC := dC) (dI := dI) hDa e3) (xcV 1 htb tw338 tw3 tw335 tw336 tw337 rfl rfl hd_Blocks_clear ⟨Nat.le_of_ble_eq_true rfl, Nat.le_of_ble_eq_true rfl⟩) (kW_V hP hK (va_recv (q0 := 4) (ci := 0) hK hP rfl rfl)) rfl rfl hl.1 rfl (lv_room (Nat.le_of_ble_eq_true rfl)) d_Disk_clearHead_14 ⟨Nat.le_of_ble_eq_true rfl, Nat.le_of_ble_eq_true rfl⟩) hS (fun q _ h => h) (fun q h => h) (fun u t H locs ht hvm hw hB _ _ hS => ?_)
    have hP := kW_P hB ht
    refine lv_iconst (v := (1 : Int32)) hx hb d_Disk_clearHead_17 (by decide) ?_
    have hJ := Option.some.inj hJ
    exact W.zret (v := (1 : Int32)) (ty := .boolean) hx hb hr (by decide +kernel) (fun t ht hW => ⟨⟨_, (), rfl, (j_p1 hJ), kW_end hP hK ht hW (congrArg (fun z => wC ga cB cI z) (j_p2 hJ))⟩, hS.F ht⟩) hS.2.2 d_Disk_clearHead_18
  · have hJ := j_t hJ h2
    refine lv_iconst (v := (0 : Int32)) hx hb d_Disk_clearHead_7 (by decide) ?_
    have hJ := Option.some.inj hJ
    exact W.zret (v := (0 : Int32)) (ty := .boolean) hx hb hr (by decide +kernel) (fun t ht hW => ⟨⟨_, (), rfl, (j_p1 hJ), kW_end hP hK ht hW (congrArg (fun z => wC ga cB cI z) (j_p2 hJ))⟩, hS.F ht⟩) hS.2.2 d_Disk_clearHead_8
def J_Disk_storeHead_32_b (k : CS → Int32 → Option (Int32 × CS)) (σ : CS) (v2 : Int32) : Option (Int32 × CS) :=
  (if (c_n σ) ≤ v2 then some ((1 : Int32), σ) else (J_Memory_pendingAt σ v2).bind fun x6 => (J_Blocks_set_d σ (1 : Int32) ((1 : Int32) + v2) x6).bind fun x7 => k x7 (v2 + (1 : Int32)))
def J_Disk_storeHead_32 : Nat → CS → Int32 → Option (Int32 × CS)
  | 0, _, _ => none
  | n + 1, σ, v2 => J_Disk_storeHead_32_b (J_Disk_storeHead_32 n) σ v2
def J_Disk_storeHead (σ : CS)  : Option (Int32 × CS) :=
  (J_Disk_spendWrite σ).bind fun x1 => (if x1.1 = (0 : Int32) then some ((0 : Int32), x1.2) else (J_Blocks_clear_d x1.2 (1 : Int32)).bind fun x3 => (J_Blocks_set_d x3 (1 : Int32) (0 : Int32) (c_n x3)).bind fun x4 => J_Disk_storeHead_32 9000 x4 (0 : Int32))
abbrev rm_Disk_storeHead : Room := { frames := 2, cells := 0, slots := 0, locals := 45 }
set_option maxHeartbeats 4000000 in
set_option maxRecDepth 100000 in
theorem c_Disk_storeHead {l : Launch} {dC : Nat → ClassId} {dI : Nat → Nat → Nat} {ga : Nat → Nat} {cB cI : ClassId} {A : Nat → Prop} (hDa : ∀ σ, va_D A (wC ga cB cI σ)) {σ : CS} {res : Int32 × CS} (hJ : J_Disk_storeHead σ = some res) :
    Met l y_Disk_storeHead (mw y_Disk_storeHead b_Disk_storeHead 3 (some .boolean)) rm_Disk_storeHead (va_Pc [.ref (ga 1), .ref (ga 2)] (kW (dC, dI) (tC cB cI) (wC ga cB cI σ))) (va_Qi (fun (x : Int32) (_ : Unit) => x = res.1) (fun _ t => kW (dC, dI) (tC cB cI) (wC ga cB cI res.2) t) A) 0 0 A := by
  refine Met.ofW (cc := b_Disk_storeHead) (maxL := 3) (ret := (some .boolean)) (by decide) rfl ?_
  intro p e s m args below meth c s₁ B hml hv
  obtain ⟨rfl, hP, hK⟩ := hv
  have hx := B.exec
  have hb := B.bytes
  have hr := B.returns
  have hts := atoms_spec (ws := (mw y_Disk_storeHead b_Disk_storeHead 3 (some .boolean))) B.pre
  have htb : ∀ w ∈ tb, w.before [.ref (ga 1), .ref (ga 2)].toArray s = true := fun w h => hts w (mwIn h)
  have hown : s.vm.findClass "LogFs$Disk" = some m.cls := findClass_of_methodNamed B.named
  have hlocks := B.notSynchronized
  have hS : va_S A s.heap s.heap [] := va_S.rf
  have hl := lv_entry ([.ref (ga 1), .ref (ga 2)]) (n := 3) (Nat.le_of_ble_eq_true rfl)
  rw [lg_entry_eq]
  generalize (lg_sl ([.ref (ga 1), .ref (ga 2)]) ++ List.replicate (3 - (lg_sl ([.ref (ga 1), .ref (ga 2)])).length) Slot.unset).toArray = ls at hl ⊢
  have hl : lv_has ls 3 [(0, .ref (ga 1)), (1, .ref (ga 2))] := hl
  have blk32 : ∀ (n : Nat) (σ : CS) (v2 : Int32) (ls : Array Slot) (H : Heap) (locs : List Loc), J_Disk_storeHead_32 n σ v2 = some res → lv_has ls 3 [(0, .ref (ga 1)), (1, .ref (ga 2)), (2, .int v2)] → va_P (dC, dI) cls (wC ga cB cI σ) H → va_S A s.heap H locs → W p l e (headSpec (mw y_Disk_storeHead b_Disk_storeHead 3 (some .boolean)) rm_Disk_storeHead).room s m [.ref (ga 1), .ref (ga 2)].toArray below meth c H locs 0 0 (MQ below (va_Qi (fun (x : Int32) (_ : Unit) => x = res.1) (fun _ t => kW (dC, dI) (tC cB cI) (wC ga cB cI res.2) t) A) [.ref (ga 1), .ref (ga 2)].toArray s 0 0 A) (F0 m 32 ls []) := by
    intro n
    induction n with
    | zero => intro σ v2 ls H locs hJ; exact j_none hJ
    | succ n hk =>
      intro σ v2 ls H locs hJ hl hP hS
      have hJ : J_Disk_storeHead_32_b (J_Disk_storeHead_32 n) σ v2 = some res := hJ
      unfold J_Disk_storeHead_32_b at hJ
      refine lv_iload_n hx hb d_Disk_storeHead_32 rfl (lv_at hl 2 rfl) ?_
      refine lv_aload_n hx hb d_Disk_storeHead_33 rfl (lv_at hl 1 rfl) ?_
      refine va_getN (D := (dC, dI)) (ci := 2) (v := .int (c_n σ)) (C := R_Memory) (T := T_Memory) (N := 3) hx hb htb uin_Memory hown hK hP 2 rfl rfl 2 (by decide) (htb _ tw79) (fun _ h9 => h9) rfl d_Disk_storeHead_34 ?_
      refine lv_icmp_ge (tgt := 62) hx hb d_Disk_storeHead_37 (by decide) (fun h5 => ?_) (fun h5 => ?_)
      · have hJ := j_t hJ h5
        refine lv_iconst (v := (1 : Int32)) hx hb d_Disk_storeHead_62 (by decide) ?_
        have hJ := Option.some.inj hJ
        exact W.zret (v := (1 : Int32)) (ty := .boolean) hx hb hr (by decide +kernel) (fun t ht hW => ⟨⟨_, (), rfl, (j_p1 hJ), kW_end hP hK ht hW (congrArg (fun z => wC ga cB cI z) (j_p2 hJ))⟩, hS.F ht⟩) hS.2.2 d_Disk_storeHead_63
      · have hJ := j_f hJ h5
        refine lv_aload_n hx hb d_Disk_storeHead_40 rfl (lv_at hl 0 rfl) ?_
        refine va_get (D := (dC, dI)) (ci := 1) (v := .ref (ga 4)) (C := R_Disk) (T := T_Disk) (N := 4) hx hb htb uin_Disk hown hK hP 1 rfl rfl 0 (by decide) (htb _ tw48) (fun _ h9 => h9) rfl d_Disk_storeHead_41 ?_
        refine lv_iconst (v := (1 : Int32)) hx hb d_Disk_storeHead_44 (by decide) ?_
        refine lv_iconst (v := (1 : Int32)) hx hb d_Disk_storeHead_45 (by decide) ?_
        refine lv_iload_n hx hb d_Disk_storeHead_46 rfl (lv_at hl 2 rfl) ?_
        refine lv_iadd hx hb d_Disk_storeHead_47 ?_
        refine lv_aload_n hx hb d_Disk_storeHead_48 rfl (lv_at hl 1 rfl) ?_
        refine lv_iload_n hx hb d_Disk_storeHead_49 rfl (lv_at hl 2 rfl) ?_
        obtain ⟨x6, e6, hJ⟩ := j_bind hJ
        refine va_calli (va_runV (As := [.int v2]) (rest := [.int ((1 : Int32) + v2), .int (1 : Int32), .ref (ga 4)]) ⟨hx, hb, hml, hown, htb⟩ (c_Memory_pendingAt (l := l) (dC := dC) (dI := dI) hDa e6) (xcV 1 htb tw171 tw4 tw318 tw169 tw170 rfl rfl hd_Memory_pendingAt ⟨Nat.le_of_ble_eq_true rfl, Nat.le_of_ble_eq_true rfl⟩) (kW_V hP hK (va_recv (q0 := 2) (ci := 2) hK hP rfl rfl)) rfl rfl hl.1 rfl (lv_room (Nat.le_of_ble_eq_true rfl)) d_Disk_storeHead_50 ⟨Nat.le_of_ble_eq_true rfl, Nat.le_of_ble_eq_true rfl⟩) hS (fun q _ h => h) (fun q h => h) (fun r0 u t H locs ht hvm hw hB _ _ hS => ?_)
        subst r0
        have hP := kW_P hB ht
        obtain ⟨x7, e7, hJ⟩ := j_bind hJ
        refine va_callv (va_runV (As := [.int (1 : Int32), .int ((1 : Int32) + v2), .int x6]) (rest := []) ⟨hx, hb, hml, hown, htb⟩ (c_Blocks_set_d (l := l) (dC := dC) (dI := dI) hDa e7) (xcV 3 htb tw43 tw3 tw40 tw41 tw42 rfl rfl hd_Blocks_set ⟨Nat.le_of_ble_eq_true rfl, Nat.le_of_ble_eq_true rfl⟩) (kW_V hP hK (va_recv (q0 := 4) (ci := 0) hK hP rfl rfl)) rfl rfl hl.1 rfl (lv_room (Nat.le_of_ble_eq_true rfl)) d_Disk_storeHead_53 ⟨Nat.le_of_ble_eq_true rfl, Nat.le_of_ble_eq_true rfl⟩) hS (fun q _ h => h) (fun q h => h) (fun u t H locs ht hvm hw hB _ _ hS => ?_)
        have hP := kW_P hB ht
        refine lv_iinc (k := 2) (v := (v2 + (1 : Int32))) hx hb d_Disk_storeHead_56 hl rfl rfl (Nat.le_of_ble_eq_true rfl) rfl (fun ls hl => ?_)
        have hl : lv_has ls 3 [(2, .int (v2 + (1 : Int32))), (0, .ref (ga 1)), (1, .ref (ga 2))] := hl
        refine lv_goto (tgt := 32) hx hb d_Disk_storeHead_59 (by decide) ?_
        exact hk _ _ _ _ _ hJ (lv_sub hl [1, 2, 0] rfl) hP hS
  unfold J_Disk_storeHead at hJ
  refine lv_aload_n hx hb d_Disk_storeHead_0 rfl (lv_at hl 0 rfl) ?_
  obtain ⟨x1, e1, hJ⟩ := j_bind hJ
  refine va_calli (va_runV (As := []) (rest := []) ⟨hx, hb, hml, hown, htb⟩ (c_Disk_spendWrite (l := l) (dC := dC) (dI := dI) hDa e1) (xcV 0 htb tw326 tw2 tw323 tw325 ts_Disk_spendWrite rfl rfl hd_Disk_spendWrite ⟨Nat.le_of_ble_eq_true rfl, Nat.le_of_ble_eq_true rfl⟩) (kW_V hP hK (va_recv (q0 := 1) (ci := 1) hK hP rfl rfl)) rfl rfl hl.1 rfl (lv_room (Nat.le_of_ble_eq_true rfl)) d_Disk_storeHead_1 ⟨Nat.le_of_ble_eq_true rfl, Nat.le_of_ble_eq_true rfl⟩) hS (fun q _ h => h) (fun q h => h) (fun r0 u t H locs ht hvm hw hB _ _ hS => ?_)
  subst r0
  have hP := kW_P hB ht
  refine lv_if_ne (tgt := 9) hx hb d_Disk_storeHead_4 (by decide) (fun h2 => ?_) (fun h2 => ?_)
  · have hJ := j_f hJ h2
    refine lv_aload_n hx hb d_Disk_storeHead_9 rfl (lv_at hl 0 rfl) ?_
    refine va_get (D := (dC, dI)) (ci := 1) (v := .ref (ga 4)) (C := R_Disk) (T := T_Disk) (N := 4) hx hb htb uin_Disk hown hK hP 1 rfl rfl 0 (by decide) (htb _ tw48) (fun _ h9 => h9) rfl d_Disk_storeHead_10 ?_
    refine lv_iconst (v := (1 : Int32)) hx hb d_Disk_storeHead_13 (by decide) ?_
    obtain ⟨x3, e3, hJ⟩ := j_bind hJ
    refine va_callv (va_runV (As := [.int (1 : Int32)]) (rest := []) ⟨hx, hb, hml, hown, htb⟩ (c_Blocks_clear_d (l := l) (dC := dC) (dI := dI) hDa e3) (xcV 1 htb tw338 tw3 tw335 tw336 tw337 rfl rfl hd_Blocks_clear ⟨Nat.le_of_ble_eq_true rfl, Nat.le_of_ble_eq_true rfl⟩) (kW_V hP hK (va_recv (q0 := 4) (ci := 0) hK hP rfl rfl)) rfl rfl hl.1 rfl (lv_room (Nat.le_of_ble_eq_true rfl)) d_Disk_storeHead_14 ⟨Nat.le_of_ble_eq_true rfl, Nat.le_of_ble_eq_true rfl⟩) hS (fun q _ h => h) (fun q h => h) (fun u t H locs ht hvm hw hB _ _ hS => ?_)
    have hP := kW_P hB ht
    refine lv_aload_n hx hb d_Disk_storeHead_17 rfl (lv_at hl 0 rfl) ?_
    refine va_get (D := (dC, dI)) (ci := 1) (v := .ref (ga 4)) (C := R_Disk) (T := T_Disk) (N := 4) hx hb htb uin_Disk hown hK hP 1 rfl rfl 0 (by decide) (htb _ tw48) (fun _ h9 => h9) rfl d_Disk_storeHead_18 ?_
    refine lv_iconst (v := (1 : Int32)) hx hb d_Disk_storeHead_21 (by decide) ?_
    refine lv_iconst (v := (0 : Int32)) hx hb d_Disk_storeHead_22 (by decide) ?_
    refine lv_aload_n hx hb d_Disk_storeHead_23 rfl (lv_at hl 1 rfl) ?_
    refine va_getN (D := (dC, dI)) (ci := 2) (v := .int (c_n x3)) (C := R_Memory) (T := T_Memory) (N := 3) hx hb htb uin_Memory hown hK hP 2 rfl rfl 2 (by decide) (htb _ tw79) (fun _ h9 => h9) rfl d_Disk_storeHead_24 ?_
    obtain ⟨x4, e4, hJ⟩ := j_bind hJ
    refine va_callv (va_runV (As := [.int (1 : Int32), .int (0 : Int32), .int (c_n x3)]) (rest := []) ⟨hx, hb, hml, hown, htb⟩ (c_Blocks_set_d (l := l) (dC := dC) (dI := dI) hDa e4) (xcV 3 htb tw43 tw3 tw40 tw41 tw42 rfl rfl hd_Blocks_set ⟨Nat.le_of_ble_eq_true rfl, Nat.le_of_ble_eq_true rfl⟩) (kW_V hP hK (va_recv (q0 := 4) (ci := 0) hK hP rfl rfl)) rfl rfl hl.1 rfl (lv_room (Nat.le_of_ble_eq_true rfl)) d_Disk_storeHead_27 ⟨Nat.le_of_ble_eq_true rfl, Nat.le_of_ble_eq_true rfl⟩) hS (fun q _ h => h) (fun q h => h) (fun u t H locs ht hvm hw hB _ _ hS => ?_)
    have hP := kW_P hB ht
    refine lv_iconst (v := (0 : Int32)) hx hb d_Disk_storeHead_30 (by decide) ?_
    refine lv_istore_n hx hb d_Disk_storeHead_31 rfl hl (Nat.le_of_ble_eq_true rfl) rfl (fun ls hl => ?_)
    have hl : lv_has ls 3 [(2, .int (0 : Int32)), (0, .ref (ga 1)), (1, .ref (ga 2))] := hl
    exact blk32 9000 _ _ _ _ _ hJ (lv_sub hl [1, 2, 0] rfl) hP hS
  · have hJ := j_t hJ h2
    refine lv_iconst (v := (0 : Int32)) hx hb d_Disk_storeHead_7 (by decide) ?_
    have hJ := Option.some.inj hJ
    exact W.zret (v := (0 : Int32)) (ty := .boolean) hx hb hr (by decide +kernel) (fun t ht hW => ⟨⟨_, (), rfl, (j_p1 hJ), kW_end hP hK ht hW (congrArg (fun z => wC ga cB cI z) (j_p2 hJ))⟩, hS.F ht⟩) hS.2.2 d_Disk_storeHead_8
def J_Disk_storeInLog_2_b (k : CS → Int32 → Option (Int32 × CS)) (σ : CS) (v2 : Int32) : Option (Int32 × CS) :=
  (if (c_n σ) ≤ v2 then some ((1 : Int32), σ) else (J_Memory_pendingAt σ v2).bind fun x2 => (J_Disk_storeBlock_m σ x2 ((2 : Int32) + v2)).bind fun x3 => (if x3.1 = (0 : Int32) then some ((0 : Int32), x3.2) else k x3.2 (v2 + (1 : Int32))))
def J_Disk_storeInLog_2 : Nat → CS → Int32 → Option (Int32 × CS)
  | 0, _, _ => none
  | n + 1, σ, v2 => J_Disk_storeInLog_2_b (J_Disk_storeInLog_2 n) σ v2
def J_Disk_storeInLog (σ : CS)  : Option (Int32 × CS) :=
  J_Disk_storeInLog_2 9000 σ (0 : Int32)
abbrev rm_Disk_storeInLog : Room := { frames := 3, cells := 0, slots := 0, locals := 72 }
set_option maxHeartbeats 4000000 in
set_option maxRecDepth 100000 in
theorem c_Disk_storeInLog {l : Launch} {dC : Nat → ClassId} {dI : Nat → Nat → Nat} {ga : Nat → Nat} {cB cI : ClassId} {A : Nat → Prop} (hDa : ∀ σ, va_D A (wC ga cB cI σ)) {σ : CS} {res : Int32 × CS} (hJ : J_Disk_storeInLog σ = some res) :
    Met l y_Disk_storeInLog (mw y_Disk_storeInLog b_Disk_storeInLog 3 (some .boolean)) rm_Disk_storeInLog (va_Pc [.ref (ga 1), .ref (ga 2)] (kW (dC, dI) (tC cB cI) (wC ga cB cI σ))) (va_Qi (fun (x : Int32) (_ : Unit) => x = res.1) (fun _ t => kW (dC, dI) (tC cB cI) (wC ga cB cI res.2) t) A) 0 0 A := by
  refine Met.ofW (cc := b_Disk_storeInLog) (maxL := 3) (ret := (some .boolean)) (by decide) rfl ?_
  intro p e s m args below meth c s₁ B hml hv
  obtain ⟨rfl, hP, hK⟩ := hv
  have hx := B.exec
  have hb := B.bytes
  have hr := B.returns
  have hts := atoms_spec (ws := (mw y_Disk_storeInLog b_Disk_storeInLog 3 (some .boolean))) B.pre
  have htb : ∀ w ∈ tb, w.before [.ref (ga 1), .ref (ga 2)].toArray s = true := fun w h => hts w (mwIn h)
  have hown : s.vm.findClass "LogFs$Disk" = some m.cls := findClass_of_methodNamed B.named
  have hlocks := B.notSynchronized
  have hS : va_S A s.heap s.heap [] := va_S.rf
  have hl := lv_entry ([.ref (ga 1), .ref (ga 2)]) (n := 3) (Nat.le_of_ble_eq_true rfl)
  rw [lg_entry_eq]
  generalize (lg_sl ([.ref (ga 1), .ref (ga 2)]) ++ List.replicate (3 - (lg_sl ([.ref (ga 1), .ref (ga 2)])).length) Slot.unset).toArray = ls at hl ⊢
  have hl : lv_has ls 3 [(0, .ref (ga 1)), (1, .ref (ga 2))] := hl
  have blk2 : ∀ (n : Nat) (σ : CS) (v2 : Int32) (ls : Array Slot) (H : Heap) (locs : List Loc), J_Disk_storeInLog_2 n σ v2 = some res → lv_has ls 3 [(0, .ref (ga 1)), (1, .ref (ga 2)), (2, .int v2)] → va_P (dC, dI) cls (wC ga cB cI σ) H → va_S A s.heap H locs → W p l e (headSpec (mw y_Disk_storeInLog b_Disk_storeInLog 3 (some .boolean)) rm_Disk_storeInLog).room s m [.ref (ga 1), .ref (ga 2)].toArray below meth c H locs 0 0 (MQ below (va_Qi (fun (x : Int32) (_ : Unit) => x = res.1) (fun _ t => kW (dC, dI) (tC cB cI) (wC ga cB cI res.2) t) A) [.ref (ga 1), .ref (ga 2)].toArray s 0 0 A) (F0 m 2 ls []) := by
    intro n
    induction n with
    | zero => intro σ v2 ls H locs hJ; exact j_none hJ
    | succ n hk =>
      intro σ v2 ls H locs hJ hl hP hS
      have hJ : J_Disk_storeInLog_2_b (J_Disk_storeInLog_2 n) σ v2 = some res := hJ
      unfold J_Disk_storeInLog_2_b at hJ
      refine lv_iload_n hx hb d_Disk_storeInLog_2 rfl (lv_at hl 2 rfl) ?_
      refine lv_aload_n hx hb d_Disk_storeInLog_3 rfl (lv_at hl 1 rfl) ?_
      refine va_getN (D := (dC, dI)) (ci := 2) (v := .int (c_n σ)) (C := R_Memory) (T := T_Memory) (N := 3) hx hb htb uin_Memory hown hK hP 2 rfl rfl 2 (by decide) (htb _ tw79) (fun _ h9 => h9) rfl d_Disk_storeInLog_4 ?_
      refine lv_icmp_ge (tgt := 37) hx hb d_Disk_storeInLog_7 (by decide) (fun h1 => ?_) (fun h1 => ?_)
      · have hJ := j_t hJ h1
        refine lv_iconst (v := (1 : Int32)) hx hb d_Disk_storeInLog_37 (by decide) ?_
        have hJ := Option.some.inj hJ
        exact W.zret (v := (1 : Int32)) (ty := .boolean) hx hb hr (by decide +kernel) (fun t ht hW => ⟨⟨_, (), rfl, (j_p1 hJ), kW_end hP hK ht hW (congrArg (fun z => wC ga cB cI z) (j_p2 hJ))⟩, hS.F ht⟩) hS.2.2 d_Disk_storeInLog_38
      · have hJ := j_f hJ h1
        refine lv_aload_n hx hb d_Disk_storeInLog_10 rfl (lv_at hl 0 rfl) ?_
        refine lv_aload_n hx hb d_Disk_storeInLog_11 rfl (lv_at hl 1 rfl) ?_
        refine va_getN (D := (dC, dI)) (ci := 2) (v := .ref (ga 5)) (C := R_Memory) (T := T_Memory) (N := 3) hx hb htb uin_Memory hown hK hP 2 rfl rfl 0 (by decide) (htb _ tw75) (fun _ h9 => h9) rfl d_Disk_storeInLog_12 ?_
        refine lv_aload_n hx hb d_Disk_storeInLog_15 rfl (lv_at hl 1 rfl) ?_
        refine lv_iload_n hx hb d_Disk_storeInLog_16 rfl (lv_at hl 2 rfl) ?_
        obtain ⟨x2, e2, hJ⟩ := j_bind hJ
        refine va_calli (va_runV (As := [.int v2]) (rest := [.ref (ga 5), .ref (ga 1)]) ⟨hx, hb, hml, hown, htb⟩ (c_Memory_pendingAt (l := l) (dC := dC) (dI := dI) hDa e2) (xcV 1 htb tw171 tw4 tw318 tw169 tw170 rfl rfl hd_Memory_pendingAt ⟨Nat.le_of_ble_eq_true rfl, Nat.le_of_ble_eq_true rfl⟩) (kW_V hP hK (va_recv (q0 := 2) (ci := 2) hK hP rfl rfl)) rfl rfl hl.1 rfl (lv_room (Nat.le_of_ble_eq_true rfl)) d_Disk_storeInLog_17 ⟨Nat.le_of_ble_eq_true rfl, Nat.le_of_ble_eq_true rfl⟩) hS (fun q _ h => h) (fun q h => h) (fun r0 u t H locs ht hvm hw hB _ _ hS => ?_)
        subst r0
        have hP := kW_P hB ht
        refine lv_iconst (v := (2 : Int32)) hx hb d_Disk_storeInLog_20 (by decide) ?_
        refine lv_iload_n hx hb d_Disk_storeInLog_21 rfl (lv_at hl 2 rfl) ?_
        refine lv_iadd hx hb d_Disk_storeInLog_22 ?_
        obtain ⟨x3, e3, hJ⟩ := j_bind hJ
        refine va_calli (va_runV (As := [.ref (ga 5), .int x2, .int ((2 : Int32) + v2)]) (rest := []) ⟨hx, hb, hml, hown, htb⟩ (c_Disk_storeBlock_m (l := l) (dC := dC) (dI := dI) hDa e3) (xcV 3 htb tw322 tw2 tw319 tw321 ts_Disk_storeBlock rfl rfl hd_Disk_storeBlock ⟨Nat.le_of_ble_eq_true rfl, Nat.le_of_ble_eq_true rfl⟩) (kW_V hP hK (va_recv (q0 := 1) (ci := 1) hK hP rfl rfl)) rfl rfl hl.1 rfl (lv_room (Nat.le_of_ble_eq_true rfl)) d_Disk_storeInLog_23 ⟨Nat.le_of_ble_eq_true rfl, Nat.le_of_ble_eq_true rfl⟩) hS (fun q _ h => h) (fun q h => h) (fun r0 u t H locs ht hvm hw hB _ _ hS => ?_)
        subst r0
        have hP := kW_P hB ht
        refine lv_if_ne (tgt := 31) hx hb d_Disk_storeInLog_26 (by decide) (fun h4 => ?_) (fun h4 => ?_)
        · have hJ := j_f hJ h4
          refine lv_iinc (k := 2) (v := (v2 + (1 : Int32))) hx hb d_Disk_storeInLog_31 hl rfl rfl (Nat.le_of_ble_eq_true rfl) rfl (fun ls hl => ?_)
          have hl : lv_has ls 3 [(2, .int (v2 + (1 : Int32))), (0, .ref (ga 1)), (1, .ref (ga 2))] := hl
          refine lv_goto (tgt := 2) hx hb d_Disk_storeInLog_34 (by decide) ?_
          exact hk _ _ _ _ _ hJ (lv_sub hl [1, 2, 0] rfl) hP hS
        · have hJ := j_t hJ h4
          refine lv_iconst (v := (0 : Int32)) hx hb d_Disk_storeInLog_29 (by decide) ?_
          have hJ := Option.some.inj hJ
          exact W.zret (v := (0 : Int32)) (ty := .boolean) hx hb hr (by decide +kernel) (fun t ht hW => ⟨⟨_, (), rfl, (j_p1 hJ), kW_end hP hK ht hW (congrArg (fun z => wC ga cB cI z) (j_p2 hJ))⟩, hS.F ht⟩) hS.2.2 d_Disk_storeInLog_30
  unfold J_Disk_storeInLog at hJ
  refine lv_iconst (v := (0 : Int32)) hx hb d_Disk_storeInLog_0 (by decide) ?_
  refine lv_istore_n hx hb d_Disk_storeInLog_1 rfl hl (Nat.le_of_ble_eq_true rfl) rfl (fun ls hl => ?_)
  have hl : lv_has ls 3 [(2, .int (0 : Int32)), (0, .ref (ga 1)), (1, .ref (ga 2))] := hl
  exact blk2 9000 _ _ _ _ _ hJ (lv_sub hl [1, 2, 0] rfl) hP hS
def J_Disk_storeInPlace_2_b (k : CS → Int32 → Option (Int32 × CS)) (σ : CS) (v2 : Int32) : Option (Int32 × CS) :=
  (if (c_n σ) ≤ v2 then some ((1 : Int32), σ) else (J_Memory_pendingAt σ v2).bind fun x2 => (J_Memory_pendingAt σ v2).bind fun x3 => (J_Disk_storeBlock_m σ x2 x3).bind fun x4 => (if x4.1 = (0 : Int32) then some ((0 : Int32), x4.2) else k x4.2 (v2 + (1 : Int32))))
def J_Disk_storeInPlace_2 : Nat → CS → Int32 → Option (Int32 × CS)
  | 0, _, _ => none
  | n + 1, σ, v2 => J_Disk_storeInPlace_2_b (J_Disk_storeInPlace_2 n) σ v2
def J_Disk_storeInPlace (σ : CS)  : Option (Int32 × CS) :=
  J_Disk_storeInPlace_2 9000 σ (0 : Int32)
abbrev rm_Disk_storeInPlace : Room := { frames := 3, cells := 0, slots := 0, locals := 72 }
set_option maxHeartbeats 4000000 in
set_option maxRecDepth 100000 in
theorem c_Disk_storeInPlace {l : Launch} {dC : Nat → ClassId} {dI : Nat → Nat → Nat} {ga : Nat → Nat} {cB cI : ClassId} {A : Nat → Prop} (hDa : ∀ σ, va_D A (wC ga cB cI σ)) {σ : CS} {res : Int32 × CS} (hJ : J_Disk_storeInPlace σ = some res) :
    Met l y_Disk_storeInPlace (mw y_Disk_storeInPlace b_Disk_storeInPlace 3 (some .boolean)) rm_Disk_storeInPlace (va_Pc [.ref (ga 1), .ref (ga 2)] (kW (dC, dI) (tC cB cI) (wC ga cB cI σ))) (va_Qi (fun (x : Int32) (_ : Unit) => x = res.1) (fun _ t => kW (dC, dI) (tC cB cI) (wC ga cB cI res.2) t) A) 0 0 A := by
  refine Met.ofW (cc := b_Disk_storeInPlace) (maxL := 3) (ret := (some .boolean)) (by decide) rfl ?_
  intro p e s m args below meth c s₁ B hml hv
  obtain ⟨rfl, hP, hK⟩ := hv
  have hx := B.exec
  have hb := B.bytes
  have hr := B.returns
  have hts := atoms_spec (ws := (mw y_Disk_storeInPlace b_Disk_storeInPlace 3 (some .boolean))) B.pre
  have htb : ∀ w ∈ tb, w.before [.ref (ga 1), .ref (ga 2)].toArray s = true := fun w h => hts w (mwIn h)
  have hown : s.vm.findClass "LogFs$Disk" = some m.cls := findClass_of_methodNamed B.named
  have hlocks := B.notSynchronized
  have hS : va_S A s.heap s.heap [] := va_S.rf
  have hl := lv_entry ([.ref (ga 1), .ref (ga 2)]) (n := 3) (Nat.le_of_ble_eq_true rfl)
  rw [lg_entry_eq]
  generalize (lg_sl ([.ref (ga 1), .ref (ga 2)]) ++ List.replicate (3 - (lg_sl ([.ref (ga 1), .ref (ga 2)])).length) Slot.unset).toArray = ls at hl ⊢
  have hl : lv_has ls 3 [(0, .ref (ga 1)), (1, .ref (ga 2))] := hl
  have blk2 : ∀ (n : Nat) (σ : CS) (v2 : Int32) (ls : Array Slot) (H : Heap) (locs : List Loc), J_Disk_storeInPlace_2 n σ v2 = some res → lv_has ls 3 [(0, .ref (ga 1)), (1, .ref (ga 2)), (2, .int v2)] → va_P (dC, dI) cls (wC ga cB cI σ) H → va_S A s.heap H locs → W p l e (headSpec (mw y_Disk_storeInPlace b_Disk_storeInPlace 3 (some .boolean)) rm_Disk_storeInPlace).room s m [.ref (ga 1), .ref (ga 2)].toArray below meth c H locs 0 0 (MQ below (va_Qi (fun (x : Int32) (_ : Unit) => x = res.1) (fun _ t => kW (dC, dI) (tC cB cI) (wC ga cB cI res.2) t) A) [.ref (ga 1), .ref (ga 2)].toArray s 0 0 A) (F0 m 2 ls []) := by
    intro n
    induction n with
    | zero => intro σ v2 ls H locs hJ; exact j_none hJ
    | succ n hk =>
      intro σ v2 ls H locs hJ hl hP hS
      have hJ : J_Disk_storeInPlace_2_b (J_Disk_storeInPlace_2 n) σ v2 = some res := hJ
      unfold J_Disk_storeInPlace_2_b at hJ
      refine lv_iload_n hx hb d_Disk_storeInPlace_2 rfl (lv_at hl 2 rfl) ?_
      refine lv_aload_n hx hb d_Disk_storeInPlace_3 rfl (lv_at hl 1 rfl) ?_
      refine va_getN (D := (dC, dI)) (ci := 2) (v := .int (c_n σ)) (C := R_Memory) (T := T_Memory) (N := 3) hx hb htb uin_Memory hown hK hP 2 rfl rfl 2 (by decide) (htb _ tw79) (fun _ h9 => h9) rfl d_Disk_storeInPlace_4 ?_
      refine lv_icmp_ge (tgt := 39) hx hb d_Disk_storeInPlace_7 (by decide) (fun h1 => ?_) (fun h1 => ?_)
      · have hJ := j_t hJ h1
        refine lv_iconst (v := (1 : Int32)) hx hb d_Disk_storeInPlace_39 (by decide) ?_
        have hJ := Option.some.inj hJ
        exact W.zret (v := (1 : Int32)) (ty := .boolean) hx hb hr (by decide +kernel) (fun t ht hW => ⟨⟨_, (), rfl, (j_p1 hJ), kW_end hP hK ht hW (congrArg (fun z => wC ga cB cI z) (j_p2 hJ))⟩, hS.F ht⟩) hS.2.2 d_Disk_storeInPlace_40
      · have hJ := j_f hJ h1
        refine lv_aload_n hx hb d_Disk_storeInPlace_10 rfl (lv_at hl 0 rfl) ?_
        refine lv_aload_n hx hb d_Disk_storeInPlace_11 rfl (lv_at hl 1 rfl) ?_
        refine va_getN (D := (dC, dI)) (ci := 2) (v := .ref (ga 5)) (C := R_Memory) (T := T_Memory) (N := 3) hx hb htb uin_Memory hown hK hP 2 rfl rfl 0 (by decide) (htb _ tw75) (fun _ h9 => h9) rfl d_Disk_storeInPlace_12 ?_
        refine lv_aload_n hx hb d_Disk_storeInPlace_15 rfl (lv_at hl 1 rfl) ?_
        refine lv_iload_n hx hb d_Disk_storeInPlace_16 rfl (lv_at hl 2 rfl) ?_
        obtain ⟨x2, e2, hJ⟩ := j_bind hJ
        refine va_calli (va_runV (As := [.int v2]) (rest := [.ref (ga 5), .ref (ga 1)]) ⟨hx, hb, hml, hown, htb⟩ (c_Memory_pendingAt (l := l) (dC := dC) (dI := dI) hDa e2) (xcV 1 htb tw171 tw4 tw318 tw169 tw170 rfl rfl hd_Memory_pendingAt ⟨Nat.le_of_ble_eq_true rfl, Nat.le_of_ble_eq_true rfl⟩) (kW_V hP hK (va_recv (q0 := 2) (ci := 2) hK hP rfl rfl)) rfl rfl hl.1 rfl (lv_room (Nat.le_of_ble_eq_true rfl)) d_Disk_storeInPlace_17 ⟨Nat.le_of_ble_eq_true rfl, Nat.le_of_ble_eq_true rfl⟩) hS (fun q _ h => h) (fun q h => h) (fun r0 u t H locs ht hvm hw hB _ _ hS => ?_)
        subst r0
        have hP := kW_P hB ht
        refine lv_aload_n hx hb d_Disk_storeInPlace_20 rfl (lv_at hl 1 rfl) ?_
        refine lv_iload_n hx hb d_Disk_storeInPlace_21 rfl (lv_at hl 2 rfl) ?_
        obtain ⟨x3, e3, hJ⟩ := j_bind hJ
        refine va_calli (va_runV (As := [.int v2]) (rest := [.int x2, .ref (ga 5), .ref (ga 1)]) ⟨hx, hb, hml, hown, htb⟩ (c_Memory_pendingAt (l := l) (dC := dC) (dI := dI) hDa e3) (xcV 1 htb tw171 tw4 tw318 tw169 tw170 rfl rfl hd_Memory_pendingAt ⟨Nat.le_of_ble_eq_true rfl, Nat.le_of_ble_eq_true rfl⟩) (kW_V hP hK (va_recv (q0 := 2) (ci := 2) hK hP rfl rfl)) rfl rfl hl.1 rfl (lv_room (Nat.le_of_ble_eq_true rfl)) d_Disk_storeInPlace_22 ⟨Nat.le_of_ble_eq_true rfl, Nat.le_of_ble_eq_true rfl⟩) hS (fun q _ h => h) (fun q h => h) (fun r0 u t H locs ht hvm hw hB _ _ hS => ?_)
        subst r0
        have hP := kW_P hB ht
        obtain ⟨x4, e4, hJ⟩ := j_bind hJ
        refine va_calli (va_runV (As := [.ref (ga 5), .int x2, .int x3]) (rest := []) ⟨hx, hb, hml, hown, htb⟩ (c_Disk_storeBlock_m (l := l) (dC := dC) (dI := dI) hDa e4) (xcV 3 htb tw322 tw2 tw319 tw321 ts_Disk_storeBlock rfl rfl hd_Disk_storeBlock ⟨Nat.le_of_ble_eq_true rfl, Nat.le_of_ble_eq_true rfl⟩) (kW_V hP hK (va_recv (q0 := 1) (ci := 1) hK hP rfl rfl)) rfl rfl hl.1 rfl (lv_room (Nat.le_of_ble_eq_true rfl)) d_Disk_storeInPlace_25 ⟨Nat.le_of_ble_eq_true rfl, Nat.le_of_ble_eq_true rfl⟩) hS (fun q _ h => h) (fun q h => h) (fun r0 u t H locs ht hvm hw hB _ _ hS => ?_)
        subst r0
        have hP := kW_P hB ht
        refine lv_if_ne (tgt := 33) hx hb d_Disk_storeInPlace_28 (by decide) (fun h5 => ?_) (fun h5 => ?_)
        · have hJ := j_f hJ h5
          refine lv_iinc (k := 2) (v := (v2 + (1 : Int32))) hx hb d_Disk_storeInPlace_33 hl rfl rfl (Nat.le_of_ble_eq_true rfl) rfl (fun ls hl => ?_)
          have hl : lv_has ls 3 [(2, .int (v2 + (1 : Int32))), (0, .ref (ga 1)), (1, .ref (ga 2))] := hl
          refine lv_goto (tgt := 2) hx hb d_Disk_storeInPlace_36 (by decide) ?_
          exact hk _ _ _ _ _ hJ (lv_sub hl [1, 2, 0] rfl) hP hS
        · have hJ := j_t hJ h5
          refine lv_iconst (v := (0 : Int32)) hx hb d_Disk_storeInPlace_31 (by decide) ?_
          have hJ := Option.some.inj hJ
          exact W.zret (v := (0 : Int32)) (ty := .boolean) hx hb hr (by decide +kernel) (fun t ht hW => ⟨⟨_, (), rfl, (j_p1 hJ), kW_end hP hK ht hW (congrArg (fun z => wC ga cB cI z) (j_p2 hJ))⟩, hS.F ht⟩) hS.2.2 d_Disk_storeInPlace_32
  unfold J_Disk_storeInPlace at hJ
  refine lv_iconst (v := (0 : Int32)) hx hb d_Disk_storeInPlace_0 (by decide) ?_
  refine lv_istore_n hx hb d_Disk_storeInPlace_1 rfl hl (Nat.le_of_ble_eq_true rfl) rfl (fun ls hl => ?_)
  have hl : lv_has ls 3 [(2, .int (0 : Int32)), (0, .ref (ga 1)), (1, .ref (ga 2))] := hl
  exact blk2 9000 _ _ _ _ _ hJ (lv_sub hl [1, 2, 0] rfl) hP hS
def J_Disk_storePending (σ : CS)  : Option (Int32 × CS) :=
  (J_Disk_storeInLog σ).bind fun x1 => (if x1.1 = (0 : Int32) then some ((0 : Int32), x1.2) else (J_Disk_storeHead x1.2).bind fun x3 => (if x3.1 = (0 : Int32) then some ((0 : Int32), x3.2) else (J_Disk_storeInPlace x3.2).bind fun x5 => (if x5.1 = (0 : Int32) then some ((0 : Int32), x5.2) else (J_Disk_clearHead x5.2).bind fun x7 => (if x7.1 = (0 : Int32) then some ((0 : Int32), x7.2) else some ((1 : Int32), x7.2)))))
abbrev rm_Disk_storePending : Room := { frames := 4, cells := 0, slots := 0, locals := 94 }
set_option maxHeartbeats 4000000 in
set_option maxRecDepth 100000 in
theorem c_Disk_storePending {l : Launch} {dC : Nat → ClassId} {dI : Nat → Nat → Nat} {ga : Nat → Nat} {cB cI : ClassId} {A : Nat → Prop} (hDa : ∀ σ, va_D A (wC ga cB cI σ)) {σ : CS} {res : Int32 × CS} (hJ : J_Disk_storePending σ = some res) :
    Met l y_Disk_storePending (mw y_Disk_storePending b_Disk_storePending 2 (some .boolean)) rm_Disk_storePending (va_Pc [.ref (ga 1), .ref (ga 2)] (kW (dC, dI) (tC cB cI) (wC ga cB cI σ))) (va_Qi (fun (x : Int32) (_ : Unit) => x = res.1) (fun _ t => kW (dC, dI) (tC cB cI) (wC ga cB cI res.2) t) A) 0 0 A := by
  refine Met.ofW (cc := b_Disk_storePending) (maxL := 2) (ret := (some .boolean)) (by decide) rfl ?_
  intro p e s m args below meth c s₁ B hml hv
  obtain ⟨rfl, hP, hK⟩ := hv
  have hx := B.exec
  have hb := B.bytes
  have hr := B.returns
  have hts := atoms_spec (ws := (mw y_Disk_storePending b_Disk_storePending 2 (some .boolean))) B.pre
  have htb : ∀ w ∈ tb, w.before [.ref (ga 1), .ref (ga 2)].toArray s = true := fun w h => hts w (mwIn h)
  have hown : s.vm.findClass "LogFs$Disk" = some m.cls := findClass_of_methodNamed B.named
  have hlocks := B.notSynchronized
  have hS : va_S A s.heap s.heap [] := va_S.rf
  have hl := lv_entry ([.ref (ga 1), .ref (ga 2)]) (n := 2) (Nat.le_of_ble_eq_true rfl)
  rw [lg_entry_eq]
  generalize (lg_sl ([.ref (ga 1), .ref (ga 2)]) ++ List.replicate (2 - (lg_sl ([.ref (ga 1), .ref (ga 2)])).length) Slot.unset).toArray = ls at hl ⊢
  have hl : lv_has ls 2 [(0, .ref (ga 1)), (1, .ref (ga 2))] := hl
  unfold J_Disk_storePending at hJ
  refine lv_aload_n hx hb d_Disk_storePending_0 rfl (lv_at hl 0 rfl) ?_
  refine lv_aload_n hx hb d_Disk_storePending_1 rfl (lv_at hl 1 rfl) ?_
  obtain ⟨x1, e1, hJ⟩ := j_bind hJ
  refine va_calli (va_runV (As := [.ref (ga 2)]) (rest := []) ⟨hx, hb, hml, hown, htb⟩ (c_Disk_storeInLog (l := l) (dC := dC) (dI := dI) hDa e1) (xcV 1 htb tw317 tw2 tw314 tw316 ts_Disk_storeInLog rfl rfl hd_Disk_storeInLog ⟨Nat.le_of_ble_eq_true rfl, Nat.le_of_ble_eq_true rfl⟩) (kW_V hP hK (va_recv (q0 := 1) (ci := 1) hK hP rfl rfl)) rfl rfl hl.1 rfl (lv_room (Nat.le_of_ble_eq_true rfl)) d_Disk_storePending_2 ⟨Nat.le_of_ble_eq_true rfl, Nat.le_of_ble_eq_true rfl⟩) hS (fun q _ h => h) (fun q h => h) (fun r0 u t H locs ht hvm hw hB _ _ hS => ?_)
  subst r0
  have hP := kW_P hB ht
  refine lv_if_eq (tgt := 35) hx hb d_Disk_storePending_5 (by decide) (fun h2 => ?_) (fun h2 => ?_)
  · have hJ := j_t hJ h2
    refine lv_iconst (v := (0 : Int32)) hx hb d_Disk_storePending_35 (by decide) ?_
    have hJ := Option.some.inj hJ
    exact W.zret (v := (0 : Int32)) (ty := .boolean) hx hb hr (by decide +kernel) (fun t ht hW => ⟨⟨_, (), rfl, (j_p1 hJ), kW_end hP hK ht hW (congrArg (fun z => wC ga cB cI z) (j_p2 hJ))⟩, hS.F ht⟩) hS.2.2 d_Disk_storePending_36
  · have hJ := j_f hJ h2
    refine lv_aload_n hx hb d_Disk_storePending_8 rfl (lv_at hl 0 rfl) ?_
    refine lv_aload_n hx hb d_Disk_storePending_9 rfl (lv_at hl 1 rfl) ?_
    obtain ⟨x3, e3, hJ⟩ := j_bind hJ
    refine va_calli (va_runV (As := [.ref (ga 2)]) (rest := []) ⟨hx, hb, hml, hown, htb⟩ (c_Disk_storeHead (l := l) (dC := dC) (dI := dI) hDa e3) (xcV 1 htb tw334 tw2 tw331 tw333 ts_Disk_storeHead rfl rfl hd_Disk_storeHead ⟨Nat.le_of_ble_eq_true rfl, Nat.le_of_ble_eq_true rfl⟩) (kW_V hP hK (va_recv (q0 := 1) (ci := 1) hK hP rfl rfl)) rfl rfl hl.1 rfl (lv_room (Nat.le_of_ble_eq_true rfl)) d_Disk_storePending_10 ⟨Nat.le_of_ble_eq_true rfl, Nat.le_of_ble_eq_true rfl⟩) hS (fun q _ h => h) (fun q h => h) (fun r0 u t H locs ht hvm hw hB _ _ hS => ?_)
    subst r0
    have hP := kW_P hB ht
    refine lv_if_eq (tgt := 35) hx hb d_Disk_storePending_13 (by decide) (fun h4 => ?_) (fun h4 => ?_)
    · have hJ := j_t hJ h4
      refine lv_iconst (v := (0 : Int32)) hx hb d_Disk_storePending_35 (by decide) ?_
      have hJ := Option.some.inj hJ
      exact W.zret (v := (0 : Int32)) (ty := .boolean) hx hb hr (by decide +kernel) (fun t ht hW => ⟨⟨_, (), rfl, (j_p1 hJ), kW_end hP hK ht hW (congrArg (fun z => wC ga cB cI z) (j_p2 hJ))⟩, hS.F ht⟩) hS.2.2 d_Disk_storePending_36
    · have hJ := j_f hJ h4
      refine lv_aload_n hx hb d_Disk_storePending_16 rfl (lv_at hl 0 rfl) ?_
      refine lv_aload_n hx hb d_Disk_storePending_17 rfl (lv_at hl 1 rfl) ?_
      obtain ⟨x5, e5, hJ⟩ := j_bind hJ
      refine va_calli (va_runV (As := [.ref (ga 2)]) (rest := []) ⟨hx, hb, hml, hown, htb⟩ (c_Disk_storeInPlace (l := l) (dC := dC) (dI := dI) hDa e5) (xcV 1 htb tw343 tw2 tw340 tw342 ts_Disk_storeInPlace rfl rfl hd_Disk_storeInPlace ⟨Nat.le_of_ble_eq_true rfl, Nat.le_of_ble_eq_true rfl⟩) (kW_V hP hK (va_recv (q0 := 1) (ci := 1) hK hP rfl rfl)) rfl rfl hl.1 rfl (lv_room (Nat.le_of_ble_eq_true rfl)) d_Disk_storePending_18 ⟨Nat.le_of_ble_eq_true rfl, Nat.le_of_ble_eq_true rfl⟩) hS (fun q _ h => h) (fun q h => h) (fun r0 u t H locs ht hvm hw hB _ _ hS => ?_)
      subst r0
      have hP := kW_P hB ht
      refine lv_if_eq (tgt := 35) hx hb d_Disk_storePending_21 (by decide) (fun h6 => ?_) (fun h6 => ?_)
      · have hJ := j_t hJ h6
        refine lv_iconst (v := (0 : Int32)) hx hb d_Disk_storePending_35 (by decide) ?_
        have hJ := Option.some.inj hJ
        exact W.zret (v := (0 : Int32)) (ty := .boolean) hx hb hr (by decide +kernel) (fun t ht hW => ⟨⟨_, (), rfl, (j_p1 hJ), kW_end hP hK ht hW (congrArg (fun z => wC ga cB cI z) (j_p2 hJ))⟩, hS.F ht⟩) hS.2.2 d_Disk_storePending_36
      · have hJ := j_f hJ h6
        refine lv_aload_n hx hb d_Disk_storePending_24 rfl (lv_at hl 0 rfl) ?_
        obtain ⟨x7, e7, hJ⟩ := j_bind hJ
        refine va_calli (va_runV (As := []) (rest := []) ⟨hx, hb, hml, hown, htb⟩ (c_Disk_clearHead (l := l) (dC := dC) (dI := dI) hDa e7) (xcV 0 htb tw347 tw2 tw344 tw346 ts_Disk_clearHead rfl rfl hd_Disk_clearHead ⟨Nat.le_of_ble_eq_true rfl, Nat.le_of_ble_eq_true rfl⟩) (kW_V hP hK (va_recv (q0 := 1) (ci := 1) hK hP rfl rfl)) rfl rfl hl.1 rfl (lv_room (Nat.le_of_ble_eq_true rfl)) d_Disk_storePending_25 ⟨Nat.le_of_ble_eq_true rfl, Nat.le_of_ble_eq_true rfl⟩) hS (fun q _ h => h) (fun q h => h) (fun r0 u t H locs ht hvm hw hB _ _ hS => ?_)
        subst r0
        have hP := kW_P hB ht
        refine lv_if_eq (tgt := 35) hx hb d_Disk_storePending_28 (by decide) (fun h8 => ?_) (fun h8 => ?_)
        · have hJ := j_t hJ h8
          refine lv_iconst (v := (0 : Int32)) hx hb d_Disk_storePending_35 (by decide) ?_
          have hJ := Option.some.inj hJ
          exact W.zret (v := (0 : Int32)) (ty := .boolean) hx hb hr (by decide +kernel) (fun t ht hW => ⟨⟨_, (), rfl, (j_p1 hJ), kW_end hP hK ht hW (congrArg (fun z => wC ga cB cI z) (j_p2 hJ))⟩, hS.F ht⟩) hS.2.2 d_Disk_storePending_36
        · have hJ := j_f hJ h8
          refine lv_iconst (v := (1 : Int32)) hx hb d_Disk_storePending_31 (by decide) ?_
          refine lv_goto (tgt := 36) hx hb d_Disk_storePending_32 (by decide) ?_
          have hJ := Option.some.inj hJ
          exact W.zret (v := (1 : Int32)) (ty := .boolean) hx hb hr (by decide +kernel) (fun t ht hW => ⟨⟨_, (), rfl, (j_p1 hJ), kW_end hP hK ht hW (congrArg (fun z => wC ga cB cI z) (j_p2 hJ))⟩, hS.F ht⟩) hS.2.2 d_Disk_storePending_36
def J_Disk_replayLog_2_b (k : CS → Int32 → Int32 → Option (Int32 × CS)) (σ : CS) (v1 : Int32) (v2 : Int32) : Option (Int32 × CS) :=
  (if v1 ≤ v2 then (J_Disk_clearHead σ).bind fun x2 => (if jbl x2.1 = true then some (x2.1, x2.2) else none) else (J_Blocks_get_d σ (1 : Int32) ((1 : Int32) + v2)).bind fun x4 => (J_Disk_storeBlock_d σ ((2 : Int32) + v2) x4).bind fun x5 => (if x5.1 = (0 : Int32) then some ((0 : Int32), x5.2) else k x5.2 v1 (v2 + (1 : Int32))))
def J_Disk_replayLog_2 : Nat → CS → Int32 → Int32 → Option (Int32 × CS)
  | 0, _, _, _ => none
  | n + 1, σ, v1, v2 => J_Disk_replayLog_2_b (J_Disk_replayLog_2 n) σ v1 v2
def J_Disk_replayLog (σ : CS) (a1 : Int32) : Option (Int32 × CS) :=
  J_Disk_replayLog_2 9000 σ a1 (0 : Int32)
abbrev rm_Disk_replayLog : Room := { frames := 3, cells := 0, slots := 0, locals := 72 }
set_option maxHeartbeats 4000000 in
set_option maxRecDepth 100000 in
theorem c_Disk_replayLog {l : Launch} {dC : Nat → ClassId} {dI : Nat → Nat → Nat} {ga : Nat → Nat} {cB cI : ClassId} {A : Nat → Prop} (hDa : ∀ σ, va_D A (wC ga cB cI σ)) {σ : CS} {a1 : Int32} {res : Int32 × CS} (hJ : J_Disk_replayLog σ a1 = some res) :
    Met l y_Disk_replayLog (mw y_Disk_replayLog b_Disk_replayLog 3 (some .boolean)) rm_Disk_replayLog (va_Pc [.ref (ga 1), .int a1] (kW (dC, dI) (tC cB cI) (wC ga cB cI σ))) (va_Qi (fun (x : Int32) (_ : Unit) => x = res.1) (fun _ t => kW (dC, dI) (tC cB cI) (wC ga cB cI res.2) t) A) 0 0 A := by
  refine Met.ofW (cc := b_Disk_replayLog) (maxL := 3) (ret := (some .boolean)) (by decide) rfl ?_
  intro p e s m args below meth c s₁ B hml hv
  obtain ⟨rfl, hP, hK⟩ := hv
  have hx := B.exec
  have hb := B.bytes
  have hr := B.returns
  have hts := atoms_spec (ws := (mw y_Disk_replayLog b_Disk_replayLog 3 (some .boolean))) B.pre
  have htb : ∀ w ∈ tb, w.before [.ref (ga 1), .int a1].toArray s = true := fun w h => hts w (mwIn h)
  have hown : s.vm.findClass "LogFs$Disk" = some m.cls := findClass_of_methodNamed B.named
  have hlocks := B.notSynchronized
  have hS : va_S A s.heap s.heap [] := va_S.rf
  have hl := lv_entry ([.ref (ga 1), .int a1]) (n := 3) (Nat.le_of_ble_eq_true rfl)
  rw [lg_entry_eq]
  generalize (lg_sl ([.ref (ga 1), .int a1]) ++ List.replicate (3 - (lg_sl ([.ref (ga 1), .int a1])).length) Slot.unset).toArray = ls at hl ⊢
  have hl : lv_has ls 3 [(0, .ref (ga 1)), (1, .int a1)] := hl
  have blk2 : ∀ (n : Nat) (σ : CS) (v1 : Int32) (v2 : Int32) (ls : Array Slot) (H : Heap) (locs : List Loc), J_Disk_replayLog_2 n σ v1 v2 = some res → lv_has ls 3 [(0, .ref (ga 1)), (1, .int v1), (2, .int v2)] → va_P (dC, dI) cls (wC ga cB cI σ) H → va_S A s.heap H locs → W p l e (headSpec (mw y_Disk_replayLog b_Disk_replayLog 3 (some .boolean)) rm_Disk_replayLog).room s m [.ref (ga 1), .int a1].toArray below meth c H locs 0 0 (MQ below (va_Qi (fun (x : Int32) (_ : Unit) => x = res.1) (fun _ t => kW (dC, dI) (tC cB cI) (wC ga cB cI res.2) t) A) [.ref (ga 1), .int a1].toArray s 0 0 A) (F0 m 2 ls []) := by
    intro n
    induction n with
    | zero => intro σ v1 v2 ls H locs hJ; exact j_none hJ
    | succ n hk =>
      intro σ v1 v2 ls H locs hJ hl hP hS
      have hJ : J_Disk_replayLog_2_b (J_Disk_replayLog_2 n) σ v1 v2 = some res := hJ
      unfold J_Disk_replayLog_2_b at hJ
      refine lv_iload_n hx hb d_Disk_replayLog_2 rfl (lv_at hl 2 rfl) ?_
      refine lv_iload_n hx hb d_Disk_replayLog_3 rfl (lv_at hl 1 rfl) ?_
      refine lv_icmp_ge (tgt := 40) hx hb d_Disk_replayLog_4 (by decide) (fun h1 => ?_) (fun h1 => ?_)
      · have hJ := j_t hJ h1
        refine lv_aload_n hx hb d_Disk_replayLog_40 rfl (lv_at hl 0 rfl) ?_
        obtain ⟨x2, e2, hJ⟩ := j_bind hJ
        refine va_calli (va_runV (As := []) (rest := []) ⟨hx, hb, hml, hown, htb⟩ (c_Disk_clearHead (l := l) (dC := dC) (dI := dI) hDa e2) (xcV 0 htb tw347 tw2 tw344 tw346 ts_Disk_clearHead rfl rfl hd_Disk_clearHead ⟨Nat.le_of_ble_eq_true rfl, Nat.le_of_ble_eq_true rfl⟩) (kW_V hP hK (va_recv (q0 := 1) (ci := 1) hK hP rfl rfl)) rfl rfl hl.1 rfl (lv_room (Nat.le_of_ble_eq_true rfl)) d_Disk_replayLog_41 ⟨Nat.le_of_ble_eq_true rfl, Nat.le_of_ble_eq_true rfl⟩) hS (fun q _ h => h) (fun q h => h) (fun r0 u t H locs ht hvm hw hB _ _ hS => ?_)
        subst r0
        have hP := kW_P hB ht
        obtain ⟨h3, hJ⟩ := j_g hJ
        have hJ := Option.some.inj hJ
        exact W.zret (v := x2.1) (ty := .boolean) hx hb hr (j_bl h3).1 (fun t ht hW => ⟨⟨_, (), rfl, (j_p1 hJ), kW_end hP hK ht hW (congrArg (fun z => wC ga cB cI z) (j_p2 hJ))⟩, hS.F ht⟩) hS.2.2 d_Disk_replayLog_44
      · have hJ := j_f hJ h1
        refine lv_aload_n hx hb d_Disk_replayLog_7 rfl (lv_at hl 0 rfl) ?_
        refine lv_aload_n hx hb d_Disk_replayLog_8 rfl (lv_at hl 0 rfl) ?_
        refine va_get (D := (dC, dI)) (ci := 1) (v := .ref (ga 4)) (C := R_Disk) (T := T_Disk) (N := 4) hx hb htb uin_Disk hown hK hP 1 rfl rfl 0 (by decide) (htb _ tw48) (fun _ h9 => h9) rfl d_Disk_replayLog_9 ?_
        refine lv_iconst (v := (2 : Int32)) hx hb d_Disk_replayLog_12 (by decide) ?_
        refine lv_iload_n hx hb d_Disk_replayLog_13 rfl (lv_at hl 2 rfl) ?_
        refine lv_iadd hx hb d_Disk_replayLog_14 ?_
        refine lv_aload_n hx hb d_Disk_replayLog_15 rfl (lv_at hl 0 rfl) ?_
        refine va_get (D := (dC, dI)) (ci := 1) (v := .ref (ga 4)) (C := R_Disk) (T := T_Disk) (N := 4) hx hb htb uin_Disk hown hK hP 1 rfl rfl 0 (by decide) (htb _ tw48) (fun _ h9 => h9) rfl d_Disk_replayLog_16 ?_
        refine lv_iconst (v := (1 : Int32)) hx hb d_Disk_replayLog_19 (by decide) ?_
        refine lv_iconst (v := (1 : Int32)) hx hb d_Disk_replayLog_20 (by decide) ?_
        refine lv_iload_n hx hb d_Disk_replayLog_21 rfl (lv_at hl 2 rfl) ?_
        refine lv_iadd hx hb d_Disk_replayLog_22 ?_
        obtain ⟨x4, e4, hJ⟩ := j_bind hJ
        refine va_calli (va_runV (As := [.int (1 : Int32), .int ((1 : Int32) + v2)]) (rest := [.int ((2 : Int32) + v2), .ref (ga 4), .ref (ga 1)]) ⟨hx, hb, hml, hown, htb⟩ (c_Blocks_get_d (l := l) (dC := dC) (dI := dI) hDa e4) (xcV 2 htb tw47 tw3 tw44 tw45 tw46 rfl rfl hd_Blocks_get ⟨Nat.le_of_ble_eq_true rfl, Nat.le_of_ble_eq_true rfl⟩) (kW_V hP hK (va_recv (q0 := 4) (ci := 0) hK hP rfl rfl)) rfl rfl hl.1 rfl (lv_room (Nat.le_of_ble_eq_true rfl)) d_Disk_replayLog_23 ⟨Nat.le_of_ble_eq_true rfl, Nat.le_of_ble_eq_true rfl⟩) hS (fun q _ h => h) (fun q h => h) (fun r0 u t H locs ht hvm hw hB _ _ hS => ?_)
        subst r0
        have hP := kW_P hB ht
        obtain ⟨x5, e5, hJ⟩ := j_bind hJ
        refine va_calli (va_runV (As := [.ref (ga 4), .int ((2 : Int32) + v2), .int x4]) (rest := []) ⟨hx, hb, hml, hown, htb⟩ (c_Disk_storeBlock_d (l := l) (dC := dC) (dI := dI) hDa e5) (xcV 3 htb tw322 tw2 tw319 tw321 ts_Disk_storeBlock rfl rfl hd_Disk_storeBlock ⟨Nat.le_of_ble_eq_true rfl, Nat.le_of_ble_eq_true rfl⟩) (kW_V hP hK (va_recv (q0 := 1) (ci := 1) hK hP rfl rfl)) rfl rfl hl.1 rfl (lv_room (Nat.le_of_ble_eq_true rfl)) d_Disk_replayLog_26 ⟨Nat.le_of_ble_eq_true rfl, Nat.le_of_ble_eq_true rfl⟩) hS (fun q _ h => h) (fun q h => h) (fun r0 u t H locs ht hvm hw hB _ _ hS => ?_)
        subst r0
        have hP := kW_P hB ht
        refine lv_if_ne (tgt := 34) hx hb d_Disk_replayLog_29 (by decide) (fun h6 => ?_) (fun h6 => ?_)
        · have hJ := j_f hJ h6
          refine lv_iinc (k := 2) (v := (v2 + (1 : Int32))) hx hb d_Disk_replayLog_34 hl rfl rfl (Nat.le_of_ble_eq_true rfl) rfl (fun ls hl => ?_)
          have hl : lv_has ls 3 [(2, .int (v2 + (1 : Int32))), (0, .ref (ga 1)), (1, .int v1)] := hl
          refine lv_goto (tgt := 2) hx hb d_Disk_replayLog_37 (by decide) ?_
          exact hk _ _ _ _ _ _ hJ (lv_sub hl [1, 2, 0] rfl) hP hS
        · have hJ := j_t hJ h6
          refine lv_iconst (v := (0 : Int32)) hx hb d_Disk_replayLog_32 (by decide) ?_
          have hJ := Option.some.inj hJ
          exact W.zret (v := (0 : Int32)) (ty := .boolean) hx hb hr (by decide +kernel) (fun t ht hW => ⟨⟨_, (), rfl, (j_p1 hJ), kW_end hP hK ht hW (congrArg (fun z => wC ga cB cI z) (j_p2 hJ))⟩, hS.F ht⟩) hS.2.2 d_Disk_replayLog_33
  unfold J_Disk_replayLog at hJ
  refine lv_iconst (v := (0 : Int32)) hx hb d_Disk_replayLog_0 (by decide) ?_
  refine lv_istore_n hx hb d_Disk_replayLog_1 rfl hl (Nat.le_of_ble_eq_true rfl) rfl (fun ls hl => ?_)
  have hl : lv_has ls 3 [(2, .int (0 : Int32)), (0, .ref (ga 1)), (1, .int a1)] := hl
  exact blk2 9000 _ _ _ _ _ _ hJ (lv_sub hl [1, 2, 0] rfl) hP hS
end
section
/-! LogFs's helpers and what Volume reads. Written by wip/gen/classes.py. -/
def J_LogFs_isInode (a1 : Int32) : Option (Int32) :=
  (if a1 < (0 : Int32) then some (0 : Int32) else (if (32 : Int32) ≤ a1 then some (0 : Int32) else some (1 : Int32)))
abbrev rm_LogFs_isInode : Room := { frames := 0, cells := 0, slots := 0, locals := 0 }
set_option maxHeartbeats 4000000 in
set_option maxRecDepth 100000 in
theorem c_LogFs_isInode {l : Launch} {dC : Nat → ClassId} {dI : Nat → Nat → Nat} {ga : Nat → Nat} {cB cI : ClassId} {A : Nat → Prop} (hDa : ∀ σ, va_D A (wC ga cB cI σ)) {σ : CS} {a1 : Int32} {res : Int32} (hJ : J_LogFs_isInode a1 = some res) :
    Met l y_LogFs_isInode (mw y_LogFs_isInode b_LogFs_isInode 1 (some .boolean)) rm_LogFs_isInode (va_Pc [.int a1] (kW (dC, dI) (tC cB cI) (wC ga cB cI σ))) (va_Qi (fun (x : Int32) (_ : Unit) => x = res) (fun _ t => kW (dC, dI) (tC cB cI) (wC ga cB cI σ) t) A) 0 0 A := by
  refine Met.ofW (cc := b_LogFs_isInode) (maxL := 1) (ret := (some .boolean)) (by decide) rfl ?_
  intro p e s m args below meth c s₁ B hml hv
  obtain ⟨rfl, hP, hK⟩ := hv
  have hx := B.exec
  have hb := B.bytes
  have hr := B.returns
  have hts := atoms_spec (ws := (mw y_LogFs_isInode b_LogFs_isInode 1 (some .boolean))) B.pre
  have htb : ∀ w ∈ tb, w.before [.int a1].toArray s = true := fun w h => hts w (mwIn h)
  have hown : s.vm.findClass "LogFs" = some m.cls := findClass_of_methodNamed B.named
  have hlocks := B.notSynchronized
  have hS : va_S A s.heap s.heap [] := va_S.rf
  have hl := lv_entry ([.int a1]) (n := 1) (Nat.le_of_ble_eq_true rfl)
  rw [lg_entry_eq]
  generalize (lg_sl ([.int a1]) ++ List.replicate (1 - (lg_sl ([.int a1])).length) Slot.unset).toArray = ls at hl ⊢
  have hl : lv_has ls 1 [(0, .int a1)] := hl
  unfold J_LogFs_isInode at hJ
  refine lv_iload_n hx hb d_LogFs_isInode_0 rfl (lv_at hl 0 rfl) ?_
  refine lv_if_lt (tgt := 14) hx hb d_LogFs_isInode_1 (by decide) (fun h1 => ?_) (fun h1 => ?_)
  · have hJ := j_t hJ h1
    refine lv_iconst (v := (0 : Int32)) hx hb d_LogFs_isInode_14 (by decide) ?_
    have hJ := Option.some.inj hJ
    exact W.zret (v := (0 : Int32)) (ty := .boolean) hx hb hr (by decide +kernel) (fun t ht hW => ⟨⟨_, (), rfl, hJ, kW_end hP hK ht hW rfl⟩, hS.F ht⟩) hS.2.2 d_LogFs_isInode_15
  · have hJ := j_f hJ h1
    refine lv_iload_n hx hb d_LogFs_isInode_4 rfl (lv_at hl 0 rfl) ?_
    refine lv_bipush (v := (32 : Int32)) hx hb d_LogFs_isInode_5 (by decide) ?_
    refine lv_icmp_ge (tgt := 14) hx hb d_LogFs_isInode_7 (by decide) (fun h2 => ?_) (fun h2 => ?_)
    · have hJ := j_t hJ h2
      refine lv_iconst (v := (0 : Int32)) hx hb d_LogFs_isInode_14 (by decide) ?_
      have hJ := Option.some.inj hJ
      exact W.zret (v := (0 : Int32)) (ty := .boolean) hx hb hr (by decide +kernel) (fun t ht hW => ⟨⟨_, (), rfl, hJ, kW_end hP hK ht hW rfl⟩, hS.F ht⟩) hS.2.2 d_LogFs_isInode_15
    · have hJ := j_f hJ h2
      refine lv_iconst (v := (1 : Int32)) hx hb d_LogFs_isInode_10 (by decide) ?_
      refine lv_goto (tgt := 15) hx hb d_LogFs_isInode_11 (by decide) ?_
      have hJ := Option.some.inj hJ
      exact W.zret (v := (1 : Int32)) (ty := .boolean) hx hb hr (by decide +kernel) (fun t ht hW => ⟨⟨_, (), rfl, hJ, kW_end hP hK ht hW rfl⟩, hS.F ht⟩) hS.2.2 d_LogFs_isInode_15
def J_LogFs_blocksFor (a1 : Int32) : Option (Int32) :=
  some (((a1 + (64 : Int32)) - (1 : Int32)) / (64 : Int32))
abbrev rm_LogFs_blocksFor : Room := { frames := 0, cells := 0, slots := 0, locals := 0 }
set_option maxHeartbeats 4000000 in
set_option maxRecDepth 100000 in
theorem c_LogFs_blocksFor {l : Launch} {dC : Nat → ClassId} {dI : Nat → Nat → Nat} {ga : Nat → Nat} {cB cI : ClassId} {A : Nat → Prop} (hDa : ∀ σ, va_D A (wC ga cB cI σ)) {σ : CS} {a1 : Int32} {res : Int32} (hJ : J_LogFs_blocksFor a1 = some res) :
    Met l y_LogFs_blocksFor (mw y_LogFs_blocksFor b_LogFs_blocksFor 1 (some .int)) rm_LogFs_blocksFor (va_Pc [.int a1] (kW (dC, dI) (tC cB cI) (wC ga cB cI σ))) (va_Qi (fun (x : Int32) (_ : Unit) => x = res) (fun _ t => kW (dC, dI) (tC cB cI) (wC ga cB cI σ) t) A) 0 0 A := by
  refine Met.ofW (cc := b_LogFs_blocksFor) (maxL := 1) (ret := (some .int)) (by decide) rfl ?_
  intro p e s m args below meth c s₁ B hml hv
  obtain ⟨rfl, hP, hK⟩ := hv
  have hx := B.exec
  have hb := B.bytes
  have hr := B.returns
  have hts := atoms_spec (ws := (mw y_LogFs_blocksFor b_LogFs_blocksFor 1 (some .int))) B.pre
  have htb : ∀ w ∈ tb, w.before [.int a1].toArray s = true := fun w h => hts w (mwIn h)
  have hown : s.vm.findClass "LogFs" = some m.cls := findClass_of_methodNamed B.named
  have hlocks := B.notSynchronized
  have hS : va_S A s.heap s.heap [] := va_S.rf
  have hl := lv_entry ([.int a1]) (n := 1) (Nat.le_of_ble_eq_true rfl)
  rw [lg_entry_eq]
  generalize (lg_sl ([.int a1]) ++ List.replicate (1 - (lg_sl ([.int a1])).length) Slot.unset).toArray = ls at hl ⊢
  have hl : lv_has ls 1 [(0, .int a1)] := hl
  unfold J_LogFs_blocksFor at hJ
  refine lv_iload_n hx hb d_LogFs_blocksFor_0 rfl (lv_at hl 0 rfl) ?_
  refine lv_bipush (v := (64 : Int32)) hx hb d_LogFs_blocksFor_1 (by decide) ?_
  refine lv_iadd hx hb d_LogFs_blocksFor_3 ?_
  refine lv_iconst (v := (1 : Int32)) hx hb d_LogFs_blocksFor_4 (by decide) ?_
  refine lv_isub hx hb d_LogFs_blocksFor_5 ?_
  refine lv_bipush (v := (64 : Int32)) hx hb d_LogFs_blocksFor_6 (by decide) ?_
  refine lv_idiv hx hb d_LogFs_blocksFor_8 (by decide) ?_
  have hJ := Option.some.inj hJ
  exact W.iret (v := (((a1 + (64 : Int32)) - (1 : Int32)) / (64 : Int32))) hx hb hr (fun t ht hW => ⟨⟨_, (), rfl, hJ, kW_end hP hK ht hW rfl⟩, hS.F ht⟩) hS.2.2 d_LogFs_blocksFor_9
def J_LogFs_byteOf (a1 : Int64) (a2 : Int32) : Option (Int32) :=
  some ((a1.toUInt64 >>> (((8 : Int32) * ((7 : Int32) - a2)).toInt64.toUInt64 &&& Int64.toUInt64 63)).toInt64.toInt32 &&& (255 : Int32))
abbrev rm_LogFs_byteOf : Room := { frames := 0, cells := 0, slots := 0, locals := 0 }
set_option maxHeartbeats 4000000 in
set_option maxRecDepth 100000 in
theorem c_LogFs_byteOf {l : Launch} {dC : Nat → ClassId} {dI : Nat → Nat → Nat} {ga : Nat → Nat} {cB cI : ClassId} {A : Nat → Prop} (hDa : ∀ σ, va_D A (wC ga cB cI σ)) {σ : CS} {a1 : Int64} {a2 : Int32} {res : Int32} (hJ : J_LogFs_byteOf a1 a2 = some res) :
    Met l y_LogFs_byteOf (mw y_LogFs_byteOf b_LogFs_byteOf 3 (some .int)) rm_LogFs_byteOf (va_Pc [.long a1, .int a2] (kW (dC, dI) (tC cB cI) (wC ga cB cI σ))) (va_Qi (fun (x : Int32) (_ : Unit) => x = res) (fun _ t => kW (dC, dI) (tC cB cI) (wC ga cB cI σ) t) A) 0 0 A := by
  refine Met.ofW (cc := b_LogFs_byteOf) (maxL := 3) (ret := (some .int)) (by decide) rfl ?_
  intro p e s m args below meth c s₁ B hml hv
  obtain ⟨rfl, hP, hK⟩ := hv
  have hx := B.exec
  have hb := B.bytes
  have hr := B.returns
  have hts := atoms_spec (ws := (mw y_LogFs_byteOf b_LogFs_byteOf 3 (some .int))) B.pre
  have htb : ∀ w ∈ tb, w.before [.long a1, .int a2].toArray s = true := fun w h => hts w (mwIn h)
  have hown : s.vm.findClass "LogFs" = some m.cls := findClass_of_methodNamed B.named
  have hlocks := B.notSynchronized
  have hS : va_S A s.heap s.heap [] := va_S.rf
  have hl := lv_entry ([.long a1, .int a2]) (n := 3) (Nat.le_of_ble_eq_true rfl)
  rw [lg_entry_eq]
  generalize (lg_sl ([.long a1, .int a2]) ++ List.replicate (3 - (lg_sl ([.long a1, .int a2])).length) Slot.unset).toArray = ls at hl ⊢
  have hl : lv_has ls 3 [(0, .long a1), (2, .int a2)] := hl
  unfold J_LogFs_byteOf at hJ
  refine lv_lload_n hx hb d_LogFs_byteOf_0 rfl (lv_at hl 0 rfl) ?_
  refine lv_bipush (v := (8 : Int32)) hx hb d_LogFs_byteOf_1 (by decide) ?_
  refine lv_bipush (v := (7 : Int32)) hx hb d_LogFs_byteOf_3 (by decide) ?_
  refine lv_iload_n hx hb d_LogFs_byteOf_5 rfl (lv_at hl 1 rfl) ?_
  refine lv_isub hx hb d_LogFs_byteOf_6 ?_
  refine lv_imul hx hb d_LogFs_byteOf_7 ?_
  refine lv_lushr hx hb d_LogFs_byteOf_8 rfl ?_
  refine lv_l2i hx hb d_LogFs_byteOf_9 rfl ?_
  refine lv_sipush (v := (255 : Int32)) hx hb d_LogFs_byteOf_10 (by decide) ?_
  refine lv_iand hx hb d_LogFs_byteOf_13 ?_
  have hJ := Option.some.inj hJ
  exact W.iret (v := ((a1.toUInt64 >>> (((8 : Int32) * ((7 : Int32) - a2)).toInt64.toUInt64 &&& Int64.toUInt64 63)).toInt64.toInt32 &&& (255 : Int32))) hx hb hr (fun t ht hW => ⟨⟨_, (), rfl, hJ, kW_end hP hK ht hW rfl⟩, hS.F ht⟩) hS.2.2 d_LogFs_byteOf_14
def J_LogFs_entryOf (a1 : Int32) (a2 : Int64) : Option (Int64) :=
  some (((a1 + (1 : Int32)).toInt64 <<< ((56 : Int32).toInt64 &&& 63)) ||| (a2.toUInt64 >>> ((8 : Int32).toInt64.toUInt64 &&& Int64.toUInt64 63)).toInt64)
abbrev rm_LogFs_entryOf : Room := { frames := 0, cells := 0, slots := 0, locals := 0 }
set_option maxHeartbeats 4000000 in
set_option maxRecDepth 100000 in
theorem c_LogFs_entryOf {l : Launch} {dC : Nat → ClassId} {dI : Nat → Nat → Nat} {ga : Nat → Nat} {cB cI : ClassId} {A : Nat → Prop} (hDa : ∀ σ, va_D A (wC ga cB cI σ)) {σ : CS} {a1 : Int32} {a2 : Int64} {res : Int64} (hJ : J_LogFs_entryOf a1 a2 = some res) :
    Met l y_LogFs_entryOf (mw y_LogFs_entryOf b_LogFs_entryOf 3 (some .long)) rm_LogFs_entryOf (va_Pc [.int a1, .long a2] (kW (dC, dI) (tC cB cI) (wC ga cB cI σ))) (va_Ql (fun (x : Int64) (_ : Unit) => x = res) (fun _ t => kW (dC, dI) (tC cB cI) (wC ga cB cI σ) t) A) 0 0 A := by
  refine Met.ofW (cc := b_LogFs_entryOf) (maxL := 3) (ret := (some .long)) (by decide) rfl ?_
  intro p e s m args below meth c s₁ B hml hv
  obtain ⟨rfl, hP, hK⟩ := hv
  have hx := B.exec
  have hb := B.bytes
  have hr := B.returns
  have hts := atoms_spec (ws := (mw y_LogFs_entryOf b_LogFs_entryOf 3 (some .long))) B.pre
  have htb : ∀ w ∈ tb, w.before [.int a1, .long a2].toArray s = true := fun w h => hts w (mwIn h)
  have hown : s.vm.findClass "LogFs" = some m.cls := findClass_of_methodNamed B.named
  have hlocks := B.notSynchronized
  have hS : va_S A s.heap s.heap [] := va_S.rf
  have hl := lv_entry ([.int a1, .long a2]) (n := 3) (Nat.le_of_ble_eq_true rfl)
  rw [lg_entry_eq]
  generalize (lg_sl ([.int a1, .long a2]) ++ List.replicate (3 - (lg_sl ([.int a1, .long a2])).length) Slot.unset).toArray = ls at hl ⊢
  have hl : lv_has ls 3 [(0, .int a1), (1, .long a2)] := hl
  unfold J_LogFs_entryOf at hJ
  refine lv_iload_n hx hb d_LogFs_entryOf_0 rfl (lv_at hl 0 rfl) ?_
  refine lv_iconst (v := (1 : Int32)) hx hb d_LogFs_entryOf_1 (by decide) ?_
  refine lv_iadd hx hb d_LogFs_entryOf_2 ?_
  refine lv_i2l hx hb d_LogFs_entryOf_3 rfl ?_
  refine lv_bipush (v := (56 : Int32)) hx hb d_LogFs_entryOf_4 (by decide) ?_
  refine lv_lshl hx hb d_LogFs_entryOf_6 rfl ?_
  refine lv_lload_n hx hb d_LogFs_entryOf_7 rfl (lv_at hl 1 rfl) ?_
  refine lv_bipush (v := (8 : Int32)) hx hb d_LogFs_entryOf_8 (by decide) ?_
  refine lv_lushr hx hb d_LogFs_entryOf_10 rfl ?_
  refine lv_lor hx hb d_LogFs_entryOf_11 ?_
  have hJ := Option.some.inj hJ
  exact W.lret (v := (((a1 + (1 : Int32)).toInt64 <<< ((56 : Int32).toInt64 &&& 63)) ||| (a2.toUInt64 >>> ((8 : Int32).toInt64.toUInt64 &&& Int64.toUInt64 63)).toInt64)) hx hb hr (fun t ht hW => ⟨⟨_, (), rfl, hJ, kW_end hP hK ht hW rfl⟩, hS.F ht⟩) hS.2.2 d_LogFs_entryOf_12
def J_LogFs_isName_42 (v0 : Int64) (v2 : Int32) : Option (Int32) :=
  (if v2 ≤ (0 : Int32) then some (0 : Int32) else (if (7 : Int32) < v2 then some (0 : Int32) else (if (lg_cmp (v0 <<< (((8 : Int32) * v2).toInt64 &&& 63)) (0 : Int64)) = (0 : Int32) then some (1 : Int32) else some (0 : Int32))))
def J_LogFs_isName_2_b (k : Int64 → Int32 → Option (Int32)) (v0 : Int64) (v2 : Int32) : Option (Int32) :=
  (if (8 : Int32) ≤ v2 then J_LogFs_isName_42 v0 v2 else (J_LogFs_byteOf v0 v2).bind fun x5 => (if x5 = (0 : Int32) then J_LogFs_isName_42 v0 v2 else (J_LogFs_byteOf v0 v2).bind fun x7 => (if x7 < (33 : Int32) then some (0 : Int32) else (if x7 ≤ (126 : Int32) then k v0 (v2 + (1 : Int32)) else some (0 : Int32)))))
def J_LogFs_isName_2 : Nat → Int64 → Int32 → Option (Int32)
  | 0, _, _ => none
  | n + 1, v0, v2 => J_LogFs_isName_2_b (J_LogFs_isName_2 n) v0 v2
def J_LogFs_isName (a1 : Int64) : Option (Int32) :=
  J_LogFs_isName_2 9000 a1 (0 : Int32)
abbrev rm_LogFs_isName : Room := { frames := 1, cells := 0, slots := 0, locals := 22 }
set_option maxHeartbeats 4000000 in
set_option maxRecDepth 100000 in
theorem c_LogFs_isName {l : Launch} {dC : Nat → ClassId} {dI : Nat → Nat → Nat} {ga : Nat → Nat} {cB cI : ClassId} {A : Nat → Prop} (hDa : ∀ σ, va_D A (wC ga cB cI σ)) {σ : CS} {a1 : Int64} {res : Int32} (hJ : J_LogFs_isName a1 = some res) :
    Met l y_LogFs_isName (mw y_LogFs_isName b_LogFs_isName 4 (some .boolean)) rm_LogFs_isName (va_Pc [.long a1] (kW (dC, dI) (tC cB cI) (wC ga cB cI σ))) (va_Qi (fun (x : Int32) (_ : Unit) => x = res) (fun _ t => kW (dC, dI) (tC cB cI) (wC ga cB cI σ) t) A) 0 0 A := by
  refine Met.ofW (cc := b_LogFs_isName) (maxL := 4) (ret := (some .boolean)) (by decide) rfl ?_
  intro p e s m args below meth c s₁ B hml hv
  obtain ⟨rfl, hP, hK⟩ := hv
  have hx := B.exec
  have hb := B.bytes
  have hr := B.returns
  have hts := atoms_spec (ws := (mw y_LogFs_isName b_LogFs_isName 4 (some .boolean))) B.pre
  have htb : ∀ w ∈ tb, w.before [.long a1].toArray s = true := fun w h => hts w (mwIn h)
  have hown : s.vm.findClass "LogFs" = some m.cls := findClass_of_methodNamed B.named
  have hlocks := B.notSynchronized
  have hS : va_S A s.heap s.heap [] := va_S.rf
  have hl := lv_entry ([.long a1]) (n := 4) (Nat.le_of_ble_eq_true rfl)
  rw [lg_entry_eq]
  generalize (lg_sl ([.long a1]) ++ List.replicate (4 - (lg_sl ([.long a1])).length) Slot.unset).toArray = ls at hl ⊢
  have hl : lv_has ls 4 [(0, .long a1)] := hl
  have blk42 : ∀ (v0 : Int64) (v2 : Int32) (ls : Array Slot) (H : Heap) (locs : List Loc), J_LogFs_isName_42 v0 v2 = some res → lv_has ls 4 [(0, .long v0), (2, .int v2)] → va_P (dC, dI) cls (wC ga cB cI σ) H → va_S A s.heap H locs → W p l e (headSpec (mw y_LogFs_isName b_LogFs_isName 4 (some .boolean)) rm_LogFs_isName).room s m [.long a1].toArray below meth c H locs 0 0 (MQ below (va_Qi (fun (x : Int32) (_ : Unit) => x = res) (fun _ t => kW (dC, dI) (tC cB cI) (wC ga cB cI σ) t) A) [.long a1].toArray s 0 0 A) (F0 m 42 ls []) := by
    intro v0 v2 ls H locs hJ hl hP hS
    unfold J_LogFs_isName_42 at hJ
    refine lv_iload_n hx hb d_LogFs_isName_42 rfl (lv_at hl 1 rfl) ?_
    refine lv_if_le (tgt := 67) hx hb d_LogFs_isName_43 (by decide) (fun h2 => ?_) (fun h2 => ?_)
    · have hJ := j_t hJ h2
      refine lv_iconst (v := (0 : Int32)) hx hb d_LogFs_isName_67 (by decide) ?_
      have hJ := Option.some.inj hJ
      exact W.zret (v := (0 : Int32)) (ty := .boolean) hx hb hr (by decide +kernel) (fun t ht hW => ⟨⟨_, (), rfl, hJ, kW_end hP hK ht hW rfl⟩, hS.F ht⟩) hS.2.2 d_LogFs_isName_68
    · have hJ := j_f hJ h2
      refine lv_iload_n hx hb d_LogFs_isName_46 rfl (lv_at hl 1 rfl) ?_
      refine lv_bipush (v := (7 : Int32)) hx hb d_LogFs_isName_47 (by decide) ?_
      refine lv_icmp_gt (tgt := 67) hx hb d_LogFs_isName_49 (by decide) (fun h3 => ?_) (fun h3 => ?_)
      · have hJ := j_t hJ h3
        refine lv_iconst (v := (0 : Int32)) hx hb d_LogFs_isName_67 (by decide) ?_
        have hJ := Option.some.inj hJ
        exact W.zret (v := (0 : Int32)) (ty := .boolean) hx hb hr (by decide +kernel) (fun t ht hW => ⟨⟨_, (), rfl, hJ, kW_end hP hK ht hW rfl⟩, hS.F ht⟩) hS.2.2 d_LogFs_isName_68
      · have hJ := j_f hJ h3
        refine lv_lload_n hx hb d_LogFs_isName_52 rfl (lv_at hl 0 rfl) ?_
        refine lv_bipush (v := (8 : Int32)) hx hb d_LogFs_isName_53 (by decide) ?_
        refine lv_iload_n hx hb d_LogFs_isName_55 rfl (lv_at hl 1 rfl) ?_
        refine lv_imul hx hb d_LogFs_isName_56 ?_
        refine lv_lshl hx hb d_LogFs_isName_57 rfl ?_
        refine lv_lconst (v := (0 : Int64)) hx hb d_LogFs_isName_58 (by decide) ?_
        refine W.lcmp hx hb d_LogFs_isName_59 ?_
        refine lv_if_ne (tgt := 67) hx hb d_LogFs_isName_60 (by decide) (fun h4 => ?_) (fun h4 => ?_)
        · have hJ := j_f hJ h4
          refine lv_iconst (v := (0 : Int32)) hx hb d_LogFs_isName_67 (by decide) ?_
          have hJ := Option.some.inj hJ
          exact W.zret (v := (0 : Int32)) (ty := .boolean) hx hb hr (by decide +kernel) (fun t ht hW => ⟨⟨_, (), rfl, hJ, kW_end hP hK ht hW rfl⟩, hS.F ht⟩) hS.2.2 d_LogFs_isName_68
        · have hJ := j_t hJ h4
          refine lv_iconst (v := (1 : Int32)) hx hb d_LogFs_isName_63 (by decide) ?_
          refine lv_goto (tgt := 68) hx hb d_LogFs_isName_64 (by decide) ?_
          have hJ := Option.some.inj hJ
          exact W.zret (v := (1 : Int32)) (ty := .boolean) hx hb hr (by decide +kernel) (fun t ht hW => ⟨⟨_, (), rfl, hJ, kW_end hP hK ht hW rfl⟩, hS.F ht⟩) hS.2.2 d_LogFs_isName_68
  have blk2 : ∀ (n : Nat) (v0 : Int64) (v2 : Int32) (ls : Array Slot) (H : Heap) (locs : List Loc), J_LogFs_isName_2 n v0 v2 = some res → lv_has ls 4 [(0, .long v0), (2, .int v2)] → va_P (dC, dI) cls (wC ga cB cI σ) H → va_S A s.heap H locs → W p l e (headSpec (mw y_LogFs_isName b_LogFs_isName 4 (some .boolean)) rm_LogFs_isName).room s m [.long a1].toArray below meth c H locs 0 0 (MQ below (va_Qi (fun (x : Int32) (_ : Unit) => x = res) (fun _ t => kW (dC, dI) (tC cB cI) (wC ga cB cI σ) t) A) [.long a1].toArray s 0 0 A) (F0 m 2 ls []) := by
    intro n
    induction n with
    | zero => intro v0 v2 ls H locs hJ; exact j_none hJ
    | succ n hk =>
      intro v0 v2 ls H locs hJ hl hP hS
      have hJ : J_LogFs_isName_2_b (J_LogFs_isName_2 n) v0 v2 = some res := hJ
      unfold J_LogFs_isName_2_b at hJ
      refine lv_iload_n hx hb d_LogFs_isName_2 rfl (lv_at hl 1 rfl) ?_
      refine lv_bipush (v := (8 : Int32)) hx hb d_LogFs_isName_3 (by decide) ?_
      refine lv_icmp_ge (tgt := 42) hx hb d_LogFs_isName_5 (by decide) (fun h1 => ?_) (fun h1 => ?_)
      · have hJ := j_t hJ h1
        exact blk42 _ _ _ _ _ hJ (lv_sub hl [0, 1] rfl) hP hS
      · have hJ := j_f hJ h1
        refine lv_lload_n hx hb d_LogFs_isName_8 rfl (lv_at hl 0 rfl) ?_
        refine lv_iload_n hx hb d_LogFs_isName_9 rfl (lv_at hl 1 rfl) ?_
        obtain ⟨x5, e5, hJ⟩ := j_bind hJ
        refine va_calli (va_runS (As := [.long v0, .int v2]) (rest := []) ⟨hx, hb, hml, hown, htb⟩ (c_LogFs_byteOf (l := l) (dC := dC) (dI := dI) (σ := σ) hDa e5) (xcS 2 htb tw269 tw1 tw267 tw268 rfl rfl hd_LogFs_byteOf ⟨Nat.le_of_ble_eq_true rfl, Nat.le_of_ble_eq_true rfl⟩) (kW_S hP hK) rfl rfl hl.1 rfl (lv_room (Nat.le_of_ble_eq_true rfl)) d_LogFs_isName_10 ⟨Nat.le_of_ble_eq_true rfl, Nat.le_of_ble_eq_true rfl⟩) hS (fun q _ h => h) (fun q h => h) (fun r0 u t H locs ht hvm hw hB _ _ hS => ?_)
        subst r0
        have hP := kW_P hB ht
        refine lv_if_eq (tgt := 42) hx hb d_LogFs_isName_13 (by decide) (fun h6 => ?_) (fun h6 => ?_)
        · have hJ := j_t hJ h6
          exact blk42 _ _ _ _ _ hJ (lv_sub hl [0, 1] rfl) hP hS
        · have hJ := j_f hJ h6
          refine lv_lload_n hx hb d_LogFs_isName_16 rfl (lv_at hl 0 rfl) ?_
          refine lv_iload_n hx hb d_LogFs_isName_17 rfl (lv_at hl 1 rfl) ?_
          obtain ⟨x7, e7, hJ⟩ := j_bind hJ
          refine va_calli (va_runS (As := [.long v0, .int v2]) (rest := []) ⟨hx, hb, hml, hown, htb⟩ (c_LogFs_byteOf (l := l) (dC := dC) (dI := dI) (σ := σ) hDa e7) (xcS 2 htb tw269 tw1 tw267 tw268 rfl rfl hd_LogFs_byteOf ⟨Nat.le_of_ble_eq_true rfl, Nat.le_of_ble_eq_true rfl⟩) (kW_S hP hK) rfl rfl hl.1 rfl (lv_room (Nat.le_of_ble_eq_true rfl)) d_LogFs_isName_18 ⟨Nat.le_of_ble_eq_true rfl, Nat.le_of_ble_eq_true rfl⟩) hS (fun q _ h => h) (fun q h => h) (fun r0 u t H locs ht hvm hw hB _ _ hS => ?_)
          subst r0
          have hP := kW_P hB ht
          refine lv_istore_n hx hb d_LogFs_isName_21 rfl hl (Nat.le_of_ble_eq_true rfl) rfl (fun ls hl => ?_)
          have hl : lv_has ls 4 [(3, .int x7), (0, .long v0), (2, .int v2)] := hl
          refine lv_iload_n hx hb d_LogFs_isName_22 rfl (lv_at hl 0 rfl) ?_
          refine lv_bipush (v := (33 : Int32)) hx hb d_LogFs_isName_23 (by decide) ?_
          refine lv_icmp_lt (tgt := 34) hx hb d_LogFs_isName_25 (by decide) (fun h8 => ?_) (fun h8 => ?_)
          · have hJ := j_t hJ h8
            refine lv_iconst (v := (0 : Int32)) hx hb d_LogFs_isName_34 (by decide) ?_
            have hJ := Option.some.inj hJ
            exact W.zret (v := (0 : Int32)) (ty := .boolean) hx hb hr (by decide +kernel) (fun t ht hW => ⟨⟨_, (), rfl, hJ, kW_end hP hK ht hW rfl⟩, hS.F ht⟩) hS.2.2 d_LogFs_isName_35
          · have hJ := j_f hJ h8
            refine lv_iload_n hx hb d_LogFs_isName_28 rfl (lv_at hl 0 rfl) ?_
            refine lv_bipush (v := (126 : Int32)) hx hb d_LogFs_isName_29 (by decide) ?_
            refine lv_icmp_le (tgt := 36) hx hb d_LogFs_isName_31 (by decide) (fun h9 => ?_) (fun h9 => ?_)
            · have hJ := j_t hJ h9
              refine lv_iinc (k := 2) (v := (v2 + (1 : Int32))) hx hb d_LogFs_isName_36 hl rfl rfl (Nat.le_of_ble_eq_true rfl) rfl (fun ls hl => ?_)
              have hl : lv_has ls 4 [(2, .int (v2 + (1 : Int32))), (3, .int x7), (0, .long v0)] := hl
              refine lv_goto (tgt := 2) hx hb d_LogFs_isName_39 (by decide) ?_
              exact hk _ _ _ _ _ hJ (lv_sub hl [2, 0] rfl) hP hS
            · have hJ := j_f hJ h9
              refine lv_iconst (v := (0 : Int32)) hx hb d_LogFs_isName_34 (by decide) ?_
              have hJ := Option.some.inj hJ
              exact W.zret (v := (0 : Int32)) (ty := .boolean) hx hb hr (by decide +kernel) (fun t ht hW => ⟨⟨_, (), rfl, hJ, kW_end hP hK ht hW rfl⟩, hS.F ht⟩) hS.2.2 d_LogFs_isName_35
  unfold J_LogFs_isName at hJ
  refine lv_iconst (v := (0 : Int32)) hx hb d_LogFs_isName_0 (by decide) ?_
  refine lv_istore_n hx hb d_LogFs_isName_1 rfl hl (Nat.le_of_ble_eq_true rfl) rfl (fun ls hl => ?_)
  have hl : lv_has ls 4 [(2, .int (0 : Int32)), (0, .long a1)] := hl
  exact blk2 9000 _ _ _ _ _ hJ (lv_sub hl [1, 0] rfl) hP hS
def J_Integer_bitCount (a1 : Int32) : Option (Int32) :=
  some ((((((((a1 - ((a1.toUInt32 >>> ((1 : Int32).toUInt32 &&& Int32.toUInt32 31)).toInt32 &&& (1431655765 : Int32))) &&& (858993459 : Int32)) + (((a1 - ((a1.toUInt32 >>> ((1 : Int32).toUInt32 &&& Int32.toUInt32 31)).toInt32 &&& (1431655765 : Int32))).toUInt32 >>> ((2 : Int32).toUInt32 &&& Int32.toUInt32 31)).toInt32 &&& (858993459 : Int32))) + ((((a1 - ((a1.toUInt32 >>> ((1 : Int32).toUInt32 &&& Int32.toUInt32 31)).toInt32 &&& (1431655765 : Int32))) &&& (858993459 : Int32)) + (((a1 - ((a1.toUInt32 >>> ((1 : Int32).toUInt32 &&& Int32.toUInt32 31)).toInt32 &&& (1431655765 : Int32))).toUInt32 >>> ((2 : Int32).toUInt32 &&& Int32.toUInt32 31)).toInt32 &&& (858993459 : Int32))).toUInt32 >>> ((4 : Int32).toUInt32 &&& Int32.toUInt32 31)).toInt32) &&& (252645135 : Int32)) + ((((((a1 - ((a1.toUInt32 >>> ((1 : Int32).toUInt32 &&& Int32.toUInt32 31)).toInt32 &&& (1431655765 : Int32))) &&& (858993459 : Int32)) + (((a1 - ((a1.toUInt32 >>> ((1 : Int32).toUInt32 &&& Int32.toUInt32 31)).toInt32 &&& (1431655765 : Int32))).toUInt32 >>> ((2 : Int32).toUInt32 &&& Int32.toUInt32 31)).toInt32 &&& (858993459 : Int32))) + ((((a1 - ((a1.toUInt32 >>> ((1 : Int32).toUInt32 &&& Int32.toUInt32 31)).toInt32 &&& (1431655765 : Int32))) &&& (858993459 : Int32)) + (((a1 - ((a1.toUInt32 >>> ((1 : Int32).toUInt32 &&& Int32.toUInt32 31)).toInt32 &&& (1431655765 : Int32))).toUInt32 >>> ((2 : Int32).toUInt32 &&& Int32.toUInt32 31)).toInt32 &&& (858993459 : Int32))).toUInt32 >>> ((4 : Int32).toUInt32 &&& Int32.toUInt32 31)).toInt32) &&& (252645135 : Int32)).toUInt32 >>> ((8 : Int32).toUInt32 &&& Int32.toUInt32 31)).toInt32) + (((((((a1 - ((a1.toUInt32 >>> ((1 : Int32).toUInt32 &&& Int32.toUInt32 31)).toInt32 &&& (1431655765 : Int32))) &&& (858993459 : Int32)) + (((a1 - ((a1.toUInt32 >>> ((1 : Int32).toUInt32 &&& Int32.toUInt32 31)).toInt32 &&& (1431655765 : Int32))).toUInt32 >>> ((2 : Int32).toUInt32 &&& Int32.toUInt32 31)).toInt32 &&& (858993459 : Int32))) + ((((a1 - ((a1.toUInt32 >>> ((1 : Int32).toUInt32 &&& Int32.toUInt32 31)).toInt32 &&& (1431655765 : Int32))) &&& (858993459 : Int32)) + (((a1 - ((a1.toUInt32 >>> ((1 : Int32).toUInt32 &&& Int32.toUInt32 31)).toInt32 &&& (1431655765 : Int32))).toUInt32 >>> ((2 : Int32).toUInt32 &&& Int32.toUInt32 31)).toInt32 &&& (858993459 : Int32))).toUInt32 >>> ((4 : Int32).toUInt32 &&& Int32.toUInt32 31)).toInt32) &&& (252645135 : Int32)) + ((((((a1 - ((a1.toUInt32 >>> ((1 : Int32).toUInt32 &&& Int32.toUInt32 31)).toInt32 &&& (1431655765 : Int32))) &&& (858993459 : Int32)) + (((a1 - ((a1.toUInt32 >>> ((1 : Int32).toUInt32 &&& Int32.toUInt32 31)).toInt32 &&& (1431655765 : Int32))).toUInt32 >>> ((2 : Int32).toUInt32 &&& Int32.toUInt32 31)).toInt32 &&& (858993459 : Int32))) + ((((a1 - ((a1.toUInt32 >>> ((1 : Int32).toUInt32 &&& Int32.toUInt32 31)).toInt32 &&& (1431655765 : Int32))) &&& (858993459 : Int32)) + (((a1 - ((a1.toUInt32 >>> ((1 : Int32).toUInt32 &&& Int32.toUInt32 31)).toInt32 &&& (1431655765 : Int32))).toUInt32 >>> ((2 : Int32).toUInt32 &&& Int32.toUInt32 31)).toInt32 &&& (858993459 : Int32))).toUInt32 >>> ((4 : Int32).toUInt32 &&& Int32.toUInt32 31)).toInt32) &&& (252645135 : Int32)).toUInt32 >>> ((8 : Int32).toUInt32 &&& Int32.toUInt32 31)).toInt32).toUInt32 >>> ((16 : Int32).toUInt32 &&& Int32.toUInt32 31)).toInt32) &&& (63 : Int32))
abbrev rm_Integer_bitCount : Room := { frames := 0, cells := 0, slots := 0, locals := 0 }
set_option maxHeartbeats 4000000 in
set_option maxRecDepth 100000 in
theorem c_Integer_bitCount {l : Launch} {dC : Nat → ClassId} {dI : Nat → Nat → Nat} {ga : Nat → Nat} {cB cI : ClassId} {A : Nat → Prop} (hDa : ∀ σ, va_D A (wC ga cB cI σ)) {σ : CS} {a1 : Int32} {res : Int32} (hJ : J_Integer_bitCount a1 = some res) :
    Met l y_Integer_bitCount (mw y_Integer_bitCount b_Integer_bitCount 1 (some .int)) rm_Integer_bitCount (va_Pc [.int a1] (kW (dC, dI) (tC cB cI) (wC ga cB cI σ))) (va_Qi (fun (x : Int32) (_ : Unit) => x = res) (fun _ t => kW (dC, dI) (tC cB cI) (wC ga cB cI σ) t) A) 0 0 A := by
  refine Met.ofW (cc := b_Integer_bitCount) (maxL := 1) (ret := (some .int)) (by decide) rfl ?_
  intro p e s m args below meth c s₁ B hml hv
  obtain ⟨rfl, hP, hK⟩ := hv
  have hx := B.exec
  have hb := B.bytes
  have hr := B.returns
  have hts := atoms_spec (ws := (mw y_Integer_bitCount b_Integer_bitCount 1 (some .int))) B.pre
  have htb : ∀ w ∈ tb, w.before [.int a1].toArray s = true := fun w h => hts w (mwIn h)
  have hown : s.vm.findClass "java/lang/Integer" = some m.cls := findClass_of_methodNamed B.named
  have hlocks := B.notSynchronized
  have hS : va_S A s.heap s.heap [] := va_S.rf
  have hl := lv_entry ([.int a1]) (n := 1) (Nat.le_of_ble_eq_true rfl)
  rw [lg_entry_eq]
  generalize (lg_sl ([.int a1]) ++ List.replicate (1 - (lg_sl ([.int a1])).length) Slot.unset).toArray = ls at hl ⊢
  have hl : lv_has ls 1 [(0, .int a1)] := hl
  unfold J_Integer_bitCount at hJ
  refine lv_iload_n hx hb d_Integer_bitCount_0 rfl (lv_at hl 0 rfl) ?_
  refine lv_iload_n hx hb d_Integer_bitCount_1 rfl (lv_at hl 0 rfl) ?_
  refine lv_iconst (v := (1 : Int32)) hx hb d_Integer_bitCount_2 (by decide) ?_
  refine lv_iushr hx hb d_Integer_bitCount_3 rfl ?_
  refine lv_ldcw (v := (1431655765 : Int32)) hx hb hown (htb _ tw150) d_Integer_bitCount_4 ?_
  refine lv_iand hx hb d_Integer_bitCount_7 ?_
  refine lv_isub hx hb d_Integer_bitCount_8 ?_
  refine lv_istore_n hx hb d_Integer_bitCount_9 rfl hl (Nat.le_of_ble_eq_true rfl) rfl (fun ls hl => ?_)
  have hl : lv_has ls 1 [(0, .int (a1 - ((a1.toUInt32 >>> ((1 : Int32).toUInt32 &&& Int32.toUInt32 31)).toInt32 &&& (1431655765 : Int32))))] := hl
  refine lv_iload_n hx hb d_Integer_bitCount_10 rfl (lv_at hl 0 rfl) ?_
  refine lv_ldcw (v := (858993459 : Int32)) hx hb hown (htb _ tw151) d_Integer_bitCount_11 ?_
  refine lv_iand hx hb d_Integer_bitCount_14 ?_
  refine lv_iload_n hx hb d_Integer_bitCount_15 rfl (lv_at hl 0 rfl) ?_
  refine lv_iconst (v := (2 : Int32)) hx hb d_Integer_bitCount_16 (by decide) ?_
  refine lv_iushr hx hb d_Integer_bitCount_17 rfl ?_
  refine lv_ldcw (v := (858993459 : Int32)) hx hb hown (htb _ tw151) d_Integer_bitCount_18 ?_
  refine lv_iand hx hb d_Integer_bitCount_21 ?_
  refine lv_iadd hx hb d_Integer_bitCount_22 ?_
  refine lv_istore_n hx hb d_Integer_bitCount_23 rfl hl (Nat.le_of_ble_eq_true rfl) rfl (fun ls hl => ?_)
  have hl : lv_has ls 1 [(0, .int (((a1 - ((a1.toUInt32 >>> ((1 : Int32).toUInt32 &&& Int32.toUInt32 31)).toInt32 &&& (1431655765 : Int32))) &&& (858993459 : Int32)) + (((a1 - ((a1.toUInt32 >>> ((1 : Int32).toUInt32 &&& Int32.toUInt32 31)).toInt32 &&& (1431655765 : Int32))).toUInt32 >>> ((2 : Int32).toUInt32 &&& Int32.toUInt32 31)).toInt32 &&& (858993459 : Int32))))] := hl
  refine lv_iload_n hx hb d_Integer_bitCount_24 rfl (lv_at hl 0 rfl) ?_
  refine lv_iload_n hx hb d_Integer_bitCount_25 rfl (lv_at hl 0 rfl) ?_
  refine lv_iconst (v := (4 : Int32)) hx hb d_Integer_bitCount_26 (by decide) ?_
  refine lv_iushr hx hb d_Integer_bitCount_27 rfl ?_
  refine lv_iadd hx hb d_Integer_bitCount_28 ?_
  refine lv_ldcw (v := (252645135 : Int32)) hx hb hown (htb _ tw152) d_Integer_bitCount_29 ?_
  refine lv_iand hx hb d_Integer_bitCount_32 ?_
  refine lv_istore_n hx hb d_Integer_bitCount_33 rfl hl (Nat.le_of_ble_eq_true rfl) rfl (fun ls hl => ?_)
  have hl : lv_has ls 1 [(0, .int (((((a1 - ((a1.toUInt32 >>> ((1 : Int32).toUInt32 &&& Int32.toUInt32 31)).toInt32 &&& (1431655765 : Int32))) &&& (858993459 : Int32)) + (((a1 - ((a1.toUInt32 >>> ((1 : Int32).toUInt32 &&& Int32.toUInt32 31)).toInt32 &&& (1431655765 : Int32))).toUInt32 >>> ((2 : Int32).toUInt32 &&& Int32.toUInt32 31)).toInt32 &&& (858993459 : Int32))) + ((((a1 - ((a1.toUInt32 >>> ((1 : Int32).toUInt32 &&& Int32.toUInt32 31)).toInt32 &&& (1431655765 : Int32))) &&& (858993459 : Int32)) + (((a1 - ((a1.toUInt32 >>> ((1 : Int32).toUInt32 &&& Int32.toUInt32 31)).toInt32 &&& (1431655765 : Int32))).toUInt32 >>> ((2 : Int32).toUInt32 &&& Int32.toUInt32 31)).toInt32 &&& (858993459 : Int32))).toUInt32 >>> ((4 : Int32).toUInt32 &&& Int32.toUInt32 31)).toInt32) &&& (252645135 : Int32)))] := hl
  refine lv_iload_n hx hb d_Integer_bitCount_34 rfl (lv_at hl 0 rfl) ?_
  refine lv_iload_n hx hb d_Integer_bitCount_35 rfl (lv_at hl 0 rfl) ?_
  refine lv_bipush (v := (8 : Int32)) hx hb d_Integer_bitCount_36 (by decide) ?_
  refine lv_iushr hx hb d_Integer_bitCount_38 rfl ?_
  refine lv_iadd hx hb d_Integer_bitCount_39 ?_
  refine lv_istore_n hx hb d_Integer_bitCount_40 rfl hl (Nat.le_of_ble_eq_true rfl) rfl (fun ls hl => ?_)
  have hl : lv_has ls 1 [(0, .int ((((((a1 - ((a1.toUInt32 >>> ((1 : Int32).toUInt32 &&& Int32.toUInt32 31)).toInt32 &&& (1431655765 : Int32))) &&& (858993459 : Int32)) + (((a1 - ((a1.toUInt32 >>> ((1 : Int32).toUInt32 &&& Int32.toUInt32 31)).toInt32 &&& (1431655765 : Int32))).toUInt32 >>> ((2 : Int32).toUInt32 &&& Int32.toUInt32 31)).toInt32 &&& (858993459 : Int32))) + ((((a1 - ((a1.toUInt32 >>> ((1 : Int32).toUInt32 &&& Int32.toUInt32 31)).toInt32 &&& (1431655765 : Int32))) &&& (858993459 : Int32)) + (((a1 - ((a1.toUInt32 >>> ((1 : Int32).toUInt32 &&& Int32.toUInt32 31)).toInt32 &&& (1431655765 : Int32))).toUInt32 >>> ((2 : Int32).toUInt32 &&& Int32.toUInt32 31)).toInt32 &&& (858993459 : Int32))).toUInt32 >>> ((4 : Int32).toUInt32 &&& Int32.toUInt32 31)).toInt32) &&& (252645135 : Int32)) + ((((((a1 - ((a1.toUInt32 >>> ((1 : Int32).toUInt32 &&& Int32.toUInt32 31)).toInt32 &&& (1431655765 : Int32))) &&& (858993459 : Int32)) + (((a1 - ((a1.toUInt32 >>> ((1 : Int32).toUInt32 &&& Int32.toUInt32 31)).toInt32 &&& (1431655765 : Int32))).toUInt32 >>> ((2 : Int32).toUInt32 &&& Int32.toUInt32 31)).toInt32 &&& (858993459 : Int32))) + ((((a1 - ((a1.toUInt32 >>> ((1 : Int32).toUInt32 &&& Int32.toUInt32 31)).toInt32 &&& (1431655765 : Int32))) &&& (858993459 : Int32)) + (((a1 - ((a1.toUInt32 >>> ((1 : Int32).toUInt32 &&& Int32.toUInt32 31)).toInt32 &&& (1431655765 : Int32))).toUInt32 >>> ((2 : Int32).toUInt32 &&& Int32.toUInt32 31)).toInt32 &&& (858993459 : Int32))).toUInt32 >>> ((4 : Int32).toUInt32 &&& Int32.toUInt32 31)).toInt32) &&& (252645135 : Int32)).toUInt32 >>> ((8 : Int32).toUInt32 &&& Int32.toUInt32 31)).toInt32))] := hl
  refine lv_iload_n hx hb d_Integer_bitCount_41 rfl (lv_at hl 0 rfl) ?_
  refine lv_iload_n hx hb d_Integer_bitCount_42 rfl (lv_at hl 0 rfl) ?_
  refine lv_bipush (v := (16 : Int32)) hx hb d_Integer_bitCount_43 (by decide) ?_
  refine lv_iushr hx hb d_Integer_bitCount_45 rfl ?_
  refine lv_iadd hx hb d_Integer_bitCount_46 ?_
  refine lv_istore_n hx hb d_Integer_bitCount_47 rfl hl (Nat.le_of_ble_eq_true rfl) rfl (fun ls hl => ?_)
  have hl : lv_has ls 1 [(0, .int (((((((a1 - ((a1.toUInt32 >>> ((1 : Int32).toUInt32 &&& Int32.toUInt32 31)).toInt32 &&& (1431655765 : Int32))) &&& (858993459 : Int32)) + (((a1 - ((a1.toUInt32 >>> ((1 : Int32).toUInt32 &&& Int32.toUInt32 31)).toInt32 &&& (1431655765 : Int32))).toUInt32 >>> ((2 : Int32).toUInt32 &&& Int32.toUInt32 31)).toInt32 &&& (858993459 : Int32))) + ((((a1 - ((a1.toUInt32 >>> ((1 : Int32).toUInt32 &&& Int32.toUInt32 31)).toInt32 &&& (1431655765 : Int32))) &&& (858993459 : Int32)) + (((a1 - ((a1.toUInt32 >>> ((1 : Int32).toUInt32 &&& Int32.toUInt32 31)).toInt32 &&& (1431655765 : Int32))).toUInt32 >>> ((2 : Int32).toUInt32 &&& Int32.toUInt32 31)).toInt32 &&& (858993459 : Int32))).toUInt32 >>> ((4 : Int32).toUInt32 &&& Int32.toUInt32 31)).toInt32) &&& (252645135 : Int32)) + ((((((a1 - ((a1.toUInt32 >>> ((1 : Int32).toUInt32 &&& Int32.toUInt32 31)).toInt32 &&& (1431655765 : Int32))) &&& (858993459 : Int32)) + (((a1 - ((a1.toUInt32 >>> ((1 : Int32).toUInt32 &&& Int32.toUInt32 31)).toInt32 &&& (1431655765 : Int32))).toUInt32 >>> ((2 : Int32).toUInt32 &&& Int32.toUInt32 31)).toInt32 &&& (858993459 : Int32))) + ((((a1 - ((a1.toUInt32 >>> ((1 : Int32).toUInt32 &&& Int32.toUInt32 31)).toInt32 &&& (1431655765 : Int32))) &&& (858993459 : Int32)) + (((a1 - ((a1.toUInt32 >>> ((1 : Int32).toUInt32 &&& Int32.toUInt32 31)).toInt32 &&& (1431655765 : Int32))).toUInt32 >>> ((2 : Int32).toUInt32 &&& Int32.toUInt32 31)).toInt32 &&& (858993459 : Int32))).toUInt32 >>> ((4 : Int32).toUInt32 &&& Int32.toUInt32 31)).toInt32) &&& (252645135 : Int32)).toUInt32 >>> ((8 : Int32).toUInt32 &&& Int32.toUInt32 31)).toInt32) + (((((((a1 - ((a1.toUInt32 >>> ((1 : Int32).toUInt32 &&& Int32.toUInt32 31)).toInt32 &&& (1431655765 : Int32))) &&& (858993459 : Int32)) + (((a1 - ((a1.toUInt32 >>> ((1 : Int32).toUInt32 &&& Int32.toUInt32 31)).toInt32 &&& (1431655765 : Int32))).toUInt32 >>> ((2 : Int32).toUInt32 &&& Int32.toUInt32 31)).toInt32 &&& (858993459 : Int32))) + ((((a1 - ((a1.toUInt32 >>> ((1 : Int32).toUInt32 &&& Int32.toUInt32 31)).toInt32 &&& (1431655765 : Int32))) &&& (858993459 : Int32)) + (((a1 - ((a1.toUInt32 >>> ((1 : Int32).toUInt32 &&& Int32.toUInt32 31)).toInt32 &&& (1431655765 : Int32))).toUInt32 >>> ((2 : Int32).toUInt32 &&& Int32.toUInt32 31)).toInt32 &&& (858993459 : Int32))).toUInt32 >>> ((4 : Int32).toUInt32 &&& Int32.toUInt32 31)).toInt32) &&& (252645135 : Int32)) + ((((((a1 - ((a1.toUInt32 >>> ((1 : Int32).toUInt32 &&& Int32.toUInt32 31)).toInt32 &&& (1431655765 : Int32))) &&& (858993459 : Int32)) + (((a1 - ((a1.toUInt32 >>> ((1 : Int32).toUInt32 &&& Int32.toUInt32 31)).toInt32 &&& (1431655765 : Int32))).toUInt32 >>> ((2 : Int32).toUInt32 &&& Int32.toUInt32 31)).toInt32 &&& (858993459 : Int32))) + ((((a1 - ((a1.toUInt32 >>> ((1 : Int32).toUInt32 &&& Int32.toUInt32 31)).toInt32 &&& (1431655765 : Int32))) &&& (858993459 : Int32)) + (((a1 - ((a1.toUInt32 >>> ((1 : Int32).toUInt32 &&& Int32.toUInt32 31)).toInt32 &&& (1431655765 : Int32))).toUInt32 >>> ((2 : Int32).toUInt32 &&& Int32.toUInt32 31)).toInt32 &&& (858993459 : Int32))).toUInt32 >>> ((4 : Int32).toUInt32 &&& Int32.toUInt32 31)).toInt32) &&& (252645135 : Int32)).toUInt32 >>> ((8 : Int32).toUInt32 &&& Int32.toUInt32 31)).toInt32).toUInt32 >>> ((16 : Int32).toUInt32 &&& Int32.toUInt32 31)).toInt32))] := hl
  refine lv_iload_n hx hb d_Integer_bitCount_48 rfl (lv_at hl 0 rfl) ?_
  refine lv_bipush (v := (63 : Int32)) hx hb d_Integer_bitCount_49 (by decide) ?_
  refine lv_iand hx hb d_Integer_bitCount_51 ?_
  have hJ := Option.some.inj hJ
  exact W.iret (v := ((((((((a1 - ((a1.toUInt32 >>> ((1 : Int32).toUInt32 &&& Int32.toUInt32 31)).toInt32 &&& (1431655765 : Int32))) &&& (858993459 : Int32)) + (((a1 - ((a1.toUInt32 >>> ((1 : Int32).toUInt32 &&& Int32.toUInt32 31)).toInt32 &&& (1431655765 : Int32))).toUInt32 >>> ((2 : Int32).toUInt32 &&& Int32.toUInt32 31)).toInt32 &&& (858993459 : Int32))) + ((((a1 - ((a1.toUInt32 >>> ((1 : Int32).toUInt32 &&& Int32.toUInt32 31)).toInt32 &&& (1431655765 : Int32))) &&& (858993459 : Int32)) + (((a1 - ((a1.toUInt32 >>> ((1 : Int32).toUInt32 &&& Int32.toUInt32 31)).toInt32 &&& (1431655765 : Int32))).toUInt32 >>> ((2 : Int32).toUInt32 &&& Int32.toUInt32 31)).toInt32 &&& (858993459 : Int32))).toUInt32 >>> ((4 : Int32).toUInt32 &&& Int32.toUInt32 31)).toInt32) &&& (252645135 : Int32)) + ((((((a1 - ((a1.toUInt32 >>> ((1 : Int32).toUInt32 &&& Int32.toUInt32 31)).toInt32 &&& (1431655765 : Int32))) &&& (858993459 : Int32)) + (((a1 - ((a1.toUInt32 >>> ((1 : Int32).toUInt32 &&& Int32.toUInt32 31)).toInt32 &&& (1431655765 : Int32))).toUInt32 >>> ((2 : Int32).toUInt32 &&& Int32.toUInt32 31)).toInt32 &&& (858993459 : Int32))) + ((((a1 - ((a1.toUInt32 >>> ((1 : Int32).toUInt32 &&& Int32.toUInt32 31)).toInt32 &&& (1431655765 : Int32))) &&& (858993459 : Int32)) + (((a1 - ((a1.toUInt32 >>> ((1 : Int32).toUInt32 &&& Int32.toUInt32 31)).toInt32 &&& (1431655765 : Int32))).toUInt32 >>> ((2 : Int32).toUInt32 &&& Int32.toUInt32 31)).toInt32 &&& (858993459 : Int32))).toUInt32 >>> ((4 : Int32).toUInt32 &&& Int32.toUInt32 31)).toInt32) &&& (252645135 : Int32)).toUInt32 >>> ((8 : Int32).toUInt32 &&& Int32.toUInt32 31)).toInt32) + (((((((a1 - ((a1.toUInt32 >>> ((1 : Int32).toUInt32 &&& Int32.toUInt32 31)).toInt32 &&& (1431655765 : Int32))) &&& (858993459 : Int32)) + (((a1 - ((a1.toUInt32 >>> ((1 : Int32).toUInt32 &&& Int32.toUInt32 31)).toInt32 &&& (1431655765 : Int32))).toUInt32 >>> ((2 : Int32).toUInt32 &&& Int32.toUInt32 31)).toInt32 &&& (858993459 : Int32))) + ((((a1 - ((a1.toUInt32 >>> ((1 : Int32).toUInt32 &&& Int32.toUInt32 31)).toInt32 &&& (1431655765 : Int32))) &&& (858993459 : Int32)) + (((a1 - ((a1.toUInt32 >>> ((1 : Int32).toUInt32 &&& Int32.toUInt32 31)).toInt32 &&& (1431655765 : Int32))).toUInt32 >>> ((2 : Int32).toUInt32 &&& Int32.toUInt32 31)).toInt32 &&& (858993459 : Int32))).toUInt32 >>> ((4 : Int32).toUInt32 &&& Int32.toUInt32 31)).toInt32) &&& (252645135 : Int32)) + ((((((a1 - ((a1.toUInt32 >>> ((1 : Int32).toUInt32 &&& Int32.toUInt32 31)).toInt32 &&& (1431655765 : Int32))) &&& (858993459 : Int32)) + (((a1 - ((a1.toUInt32 >>> ((1 : Int32).toUInt32 &&& Int32.toUInt32 31)).toInt32 &&& (1431655765 : Int32))).toUInt32 >>> ((2 : Int32).toUInt32 &&& Int32.toUInt32 31)).toInt32 &&& (858993459 : Int32))) + ((((a1 - ((a1.toUInt32 >>> ((1 : Int32).toUInt32 &&& Int32.toUInt32 31)).toInt32 &&& (1431655765 : Int32))) &&& (858993459 : Int32)) + (((a1 - ((a1.toUInt32 >>> ((1 : Int32).toUInt32 &&& Int32.toUInt32 31)).toInt32 &&& (1431655765 : Int32))).toUInt32 >>> ((2 : Int32).toUInt32 &&& Int32.toUInt32 31)).toInt32 &&& (858993459 : Int32))).toUInt32 >>> ((4 : Int32).toUInt32 &&& Int32.toUInt32 31)).toInt32) &&& (252645135 : Int32)).toUInt32 >>> ((8 : Int32).toUInt32 &&& Int32.toUInt32 31)).toInt32).toUInt32 >>> ((16 : Int32).toUInt32 &&& Int32.toUInt32 31)).toInt32) &&& (63 : Int32))) hx hb hr (fun t ht hW => ⟨⟨_, (), rfl, hJ, kW_end hP hK ht hW rfl⟩, hS.F ht⟩) hS.2.2 d_Integer_bitCount_52
def J_Volume_inodeByte (σ : CS) (a1 : Int32) (a2 : Int32) : Option (Int32) :=
  (J_LogFs_isInode a1).bind fun x1 => (if x1 = (0 : Int32) then some (0 : Int32) else (J_Blocks_get_m σ ((17 : Int32) + (a1 / (4 : Int32))) (((a1 - a1 / (4 : Int32) * (4 : Int32)) * (16 : Int32)) + a2)).bind fun x3 => some x3)
abbrev rm_Volume_inodeByte : Room := { frames := 1, cells := 0, slots := 0, locals := 22 }
set_option maxHeartbeats 4000000 in
set_option maxRecDepth 100000 in
theorem c_Volume_inodeByte {l : Launch} {dC : Nat → ClassId} {dI : Nat → Nat → Nat} {ga : Nat → Nat} {cB cI : ClassId} {A : Nat → Prop} (hDa : ∀ σ, va_D A (wC ga cB cI σ)) {σ : CS} {a1 : Int32} {a2 : Int32} {res : Int32} (hJ : J_Volume_inodeByte σ a1 a2 = some res) :
    Met l y_Volume_inodeByte (mw y_Volume_inodeByte b_Volume_inodeByte 3 (some .int)) rm_Volume_inodeByte (va_Pc [.ref (ga 3), .int a1, .int a2] (kW (dC, dI) (tC cB cI) (wC ga cB cI σ))) (va_Qi (fun (x : Int32) (_ : Unit) => x = res) (fun _ t => kW (dC, dI) (tC cB cI) (wC ga cB cI σ) t) A) 0 0 A := by
  refine Met.ofW (cc := b_Volume_inodeByte) (maxL := 3) (ret := (some .int)) (by decide) rfl ?_
  intro p e s m args below meth c s₁ B hml hv
  obtain ⟨rfl, hP, hK⟩ := hv
  have hx := B.exec
  have hb := B.bytes
  have hr := B.returns
  have hts := atoms_spec (ws := (mw y_Volume_inodeByte b_Volume_inodeByte 3 (some .int))) B.pre
  have htb : ∀ w ∈ tb, w.before [.ref (ga 3), .int a1, .int a2].toArray s = true := fun w h => hts w (mwIn h)
  have hown : s.vm.findClass "LogFs$Volume" = some m.cls := findClass_of_methodNamed B.named
  have hlocks := B.notSynchronized
  have hS : va_S A s.heap s.heap [] := va_S.rf
  have hl := lv_entry ([.ref (ga 3), .int a1, .int a2]) (n := 3) (Nat.le_of_ble_eq_true rfl)
  rw [lg_entry_eq]
  generalize (lg_sl ([.ref (ga 3), .int a1, .int a2]) ++ List.replicate (3 - (lg_sl ([.ref (ga 3), .int a1, .int a2])).length) Slot.unset).toArray = ls at hl ⊢
  have hl : lv_has ls 3 [(0, .ref (ga 3)), (1, .int a1), (2, .int a2)] := hl
  unfold J_Volume_inodeByte at hJ
  refine lv_iload_n hx hb d_Volume_inodeByte_0 rfl (lv_at hl 1 rfl) ?_
  obtain ⟨x1, e1, hJ⟩ := j_bind hJ
  refine va_calli (va_runSN (As := [.int a1]) (rest := []) ⟨hx, hb, hml, hown, htb⟩ (c_LogFs_isInode (l := l) (dC := dC) (dI := dI) (σ := σ) hDa e1) (xcSN 1 htb tw167 tw1 tw165 tw166 rfl rfl hd_LogFs_isInode ⟨Nat.le_of_ble_eq_true rfl, Nat.le_of_ble_eq_true rfl⟩) (kW_S hP hK) rfl rfl hl.1 rfl (lv_room (Nat.le_of_ble_eq_true rfl)) d_Volume_inodeByte_1 ⟨Nat.le_of_ble_eq_true rfl, Nat.le_of_ble_eq_true rfl⟩) hS (fun q _ h => h) (fun q h => h) (fun r0 u t H locs ht hvm hw hB _ _ hS => ?_)
  subst r0
  have hP := kW_P hB ht
  refine lv_if_ne (tgt := 9) hx hb d_Volume_inodeByte_4 (by decide) (fun h2 => ?_) (fun h2 => ?_)
  · have hJ := j_f hJ h2
    refine lv_aload_n hx hb d_Volume_inodeByte_9 rfl (lv_at hl 0 rfl) ?_
    refine va_get (D := (dC, dI)) (ci := 3) (v := .ref (ga 5)) (C := R_Volume) (T := T_Volume) (N := 2) hx hb htb uin_Volume hown hK hP 3 rfl rfl 1 (by decide) (htb _ tw96) (fun _ h9 => h9) rfl d_Volume_inodeByte_10 ?_
    refine lv_bipush (v := (17 : Int32)) hx hb d_Volume_inodeByte_13 (by decide) ?_
    refine lv_iload_n hx hb d_Volume_inodeByte_15 rfl (lv_at hl 1 rfl) ?_
    refine lv_iconst (v := (4 : Int32)) hx hb d_Volume_inodeByte_16 (by decide) ?_
    refine lv_idiv hx hb d_Volume_inodeByte_17 (by decide) ?_
    refine lv_iadd hx hb d_Volume_inodeByte_18 ?_
    refine lv_iload_n hx hb d_Volume_inodeByte_19 rfl (lv_at hl 1 rfl) ?_
    refine lv_iconst (v := (4 : Int32)) hx hb d_Volume_inodeByte_20 (by decide) ?_
    refine lv_irem hx hb d_Volume_inodeByte_21 (by decide) ?_
    refine lv_bipush (v := (16 : Int32)) hx hb d_Volume_inodeByte_22 (by decide) ?_
    refine lv_imul hx hb d_Volume_inodeByte_24 ?_
    refine lv_iload_n hx hb d_Volume_inodeByte_25 rfl (lv_at hl 2 rfl) ?_
    refine lv_iadd hx hb d_Volume_inodeByte_26 ?_
    obtain ⟨x3, e3, hJ⟩ := j_bind hJ
    refine va_calli (va_runV (As := [.int ((17 : Int32) + (a1 / (4 : Int32))), .int (((a1 - a1 / (4 : Int32) * (4 : Int32)) * (16 : Int32)) + a2)]) (rest := []) ⟨hx, hb, hml, hown, htb⟩ (c_Blocks_get_m (l := l) (dC := dC) (dI := dI) hDa e3) (xcV 2 htb tw47 tw3 tw146 tw45 tw46 rfl rfl hd_Blocks_get ⟨Nat.le_of_ble_eq_true rfl, Nat.le_of_ble_eq_true rfl⟩) (kW_V hP hK (va_recv (q0 := 5) (ci := 0) hK hP rfl rfl)) rfl rfl hl.1 rfl (lv_room (Nat.le_of_ble_eq_true rfl)) d_Volume_inodeByte_27 ⟨Nat.le_of_ble_eq_true rfl, Nat.le_of_ble_eq_true rfl⟩) hS (fun q _ h => h) (fun q h => h) (fun r0 u t H locs ht hvm hw hB _ _ hS => ?_)
    subst r0
    have hP := kW_P hB ht
    have hJ := Option.some.inj hJ
    exact W.iret (v := x3) hx hb hr (fun t ht hW => ⟨⟨_, (), rfl, hJ, kW_end hP hK ht hW rfl⟩, hS.F ht⟩) hS.2.2 d_Volume_inodeByte_30
  · have hJ := j_t hJ h2
    refine lv_iconst (v := (0 : Int32)) hx hb d_Volume_inodeByte_7 (by decide) ?_
    have hJ := Option.some.inj hJ
    exact W.iret (v := (0 : Int32)) hx hb hr (fun t ht hW => ⟨⟨_, (), rfl, hJ, kW_end hP hK ht hW rfl⟩, hS.F ht⟩) hS.2.2 d_Volume_inodeByte_8
def J_Volume_setInodeByte (σ : CS) (a1 : Int32) (a2 : Int32) (a3 : Int32) : Option (CS) :=
  (J_LogFs_isInode a1).bind fun x1 => (if x1 = (0 : Int32) then some σ else (J_Memory_change σ ((17 : Int32) + (a1 / (4 : Int32))) (((a1 - a1 / (4 : Int32) * (4 : Int32)) * (16 : Int32)) + a2) a3).bind fun x3 => some x3)
abbrev rm_Volume_setInodeByte : Room := { frames := 2, cells := 0, slots := 0, locals := 46 }
set_option maxHeartbeats 4000000 in
set_option maxRecDepth 100000 in
theorem c_Volume_setInodeByte {l : Launch} {dC : Nat → ClassId} {dI : Nat → Nat → Nat} {ga : Nat → Nat} {cB cI : ClassId} {A : Nat → Prop} (hDa : ∀ σ, va_D A (wC ga cB cI σ)) {σ : CS} {a1 : Int32} {a2 : Int32} {a3 : Int32} {res : CS} (hJ : J_Volume_setInodeByte σ a1 a2 a3 = some res) :
    Met l y_Volume_setInodeByte (mw y_Volume_setInodeByte b_Volume_setInodeByte 4 none) rm_Volume_setInodeByte (va_Pc [.ref (ga 3), .int a1, .int a2, .int a3] (kW (dC, dI) (tC cB cI) (wC ga cB cI σ))) (va_Qv (fun (_ : Unit) => True) (fun _ t => kW (dC, dI) (tC cB cI) (wC ga cB cI res) t) A) 0 0 A := by
  refine Met.ofW (cc := b_Volume_setInodeByte) (maxL := 4) (ret := none) (by decide) rfl ?_
  intro p e s m args below meth c s₁ B hml hv
  obtain ⟨rfl, hP, hK⟩ := hv
  have hx := B.exec
  have hb := B.bytes
  have hr := B.returns
  have hts := atoms_spec (ws := (mw y_Volume_setInodeByte b_Volume_setInodeByte 4 none)) B.pre
  have htb : ∀ w ∈ tb, w.before [.ref (ga 3), .int a1, .int a2, .int a3].toArray s = true := fun w h => hts w (mwIn h)
  have hown : s.vm.findClass "LogFs$Volume" = some m.cls := findClass_of_methodNamed B.named
  have hlocks := B.notSynchronized
  have hS : va_S A s.heap s.heap [] := va_S.rf
  have hl := lv_entry ([.ref (ga 3), .int a1, .int a2, .int a3]) (n := 4) (Nat.le_of_ble_eq_true rfl)
  rw [lg_entry_eq]
  generalize (lg_sl ([.ref (ga 3), .int a1, .int a2, .int a3]) ++ List.replicate (4 - (lg_sl ([.ref (ga 3), .int a1, .int a2, .int a3])).length) Slot.unset).toArray = ls at hl ⊢
  have hl : lv_has ls 4 [(0, .ref (ga 3)), (1, .int a1), (2, .int a2), (3, .int a3)] := hl
  unfold J_Volume_setInodeByte at hJ
  refine lv_iload_n hx hb d_Volume_setInodeByte_0 rfl (lv_at hl 1 rfl) ?_
  obtain ⟨x1, e1, hJ⟩ := j_bind hJ
  refine va_calli (va_runSN (As := [.int a1]) (rest := []) ⟨hx, hb, hml, hown, htb⟩ (c_LogFs_isInode (l := l) (dC := dC) (dI := dI) (σ := σ) hDa e1) (xcSN 1 htb tw167 tw1 tw165 tw166 rfl rfl hd_LogFs_isInode ⟨Nat.le_of_ble_eq_true rfl, Nat.le_of_ble_eq_true rfl⟩) (kW_S hP hK) rfl rfl hl.1 rfl (lv_room (Nat.le_of_ble_eq_true rfl)) d_Volume_setInodeByte_1 ⟨Nat.le_of_ble_eq_true rfl, Nat.le_of_ble_eq_true rfl⟩) hS (fun q _ h => h) (fun q h => h) (fun r0 u t H locs ht hvm hw hB _ _ hS => ?_)
  subst r0
  have hP := kW_P hB ht
  refine lv_if_eq (tgt := 29) hx hb d_Volume_setInodeByte_4 (by decide) (fun h2 => ?_) (fun h2 => ?_)
  · have hJ := j_t hJ h2
    have hJ := Option.some.inj hJ
    exact W.vret hx hb hr (fun t ht hW => ⟨⟨(), rfl, trivial, kW_end hP hK ht hW (congrArg (fun z => wC ga cB cI z) hJ)⟩, hS.F ht⟩) hS.2.2 d_Volume_setInodeByte_29
  · have hJ := j_f hJ h2
    refine lv_aload_n hx hb d_Volume_setInodeByte_7 rfl (lv_at hl 0 rfl) ?_
    refine va_get (D := (dC, dI)) (ci := 3) (v := .ref (ga 2)) (C := R_Volume) (T := T_Volume) (N := 2) hx hb htb uin_Volume hown hK hP 3 rfl rfl 0 (by decide) (htb _ tw95) (fun _ h9 => h9) rfl d_Volume_setInodeByte_8 ?_
    refine lv_bipush (v := (17 : Int32)) hx hb d_Volume_setInodeByte_11 (by decide) ?_
    refine lv_iload_n hx hb d_Volume_setInodeByte_13 rfl (lv_at hl 1 rfl) ?_
    refine lv_iconst (v := (4 : Int32)) hx hb d_Volume_setInodeByte_14 (by decide) ?_
    refine lv_idiv hx hb d_Volume_setInodeByte_15 (by decide) ?_
    refine lv_iadd hx hb d_Volume_setInodeByte_16 ?_
    refine lv_iload_n hx hb d_Volume_setInodeByte_17 rfl (lv_at hl 1 rfl) ?_
    refine lv_iconst (v := (4 : Int32)) hx hb d_Volume_setInodeByte_18 (by decide) ?_
    refine lv_irem hx hb d_Volume_setInodeByte_19 (by decide) ?_
    refine lv_bipush (v := (16 : Int32)) hx hb d_Volume_setInodeByte_20 (by decide) ?_
    refine lv_imul hx hb d_Volume_setInodeByte_22 ?_
    refine lv_iload_n hx hb d_Volume_setInodeByte_23 rfl (lv_at hl 2 rfl) ?_
    refine lv_iadd hx hb d_Volume_setInodeByte_24 ?_
    refine lv_iload_n hx hb d_Volume_setInodeByte_25 rfl (lv_at hl 3 rfl) ?_
    obtain ⟨x3, e3, hJ⟩ := j_bind hJ
    refine va_callv (va_runV (As := [.int ((17 : Int32) + (a1 / (4 : Int32))), .int (((a1 - a1 / (4 : Int32) * (4 : Int32)) * (16 : Int32)) + a2), .int a3]) (rest := []) ⟨hx, hb, hml, hown, htb⟩ (c_Memory_change (l := l) (dC := dC) (dI := dI) hDa e3) (xcV 3 htb tw376 tw4 tw373 tw374 tw375 rfl rfl hd_Memory_change ⟨Nat.le_of_ble_eq_true rfl, Nat.le_of_ble_eq_true rfl⟩) (kW_V hP hK (va_recv (q0 := 2) (ci := 2) hK hP rfl rfl)) rfl rfl hl.1 rfl (lv_room (Nat.le_of_ble_eq_true rfl)) d_Volume_setInodeByte_26 ⟨Nat.le_of_ble_eq_true rfl, Nat.le_of_ble_eq_true rfl⟩) hS (fun q _ h => h) (fun q h => h) (fun u t H locs ht hvm hw hB _ _ hS => ?_)
    have hP := kW_P hB ht
    have hJ := Option.some.inj hJ
    exact W.vret hx hb hr (fun t ht hW => ⟨⟨(), rfl, trivial, kW_end hP hK ht hW (congrArg (fun z => wC ga cB cI z) hJ)⟩, hS.F ht⟩) hS.2.2 d_Volume_setInodeByte_29
def J_Volume_type (σ : CS) (a1 : Int32) : Option (Int32) :=
  (J_Volume_inodeByte σ a1 (0 : Int32)).bind fun x1 => some x1
abbrev rm_Volume_type : Room := { frames := 2, cells := 0, slots := 0, locals := 44 }
set_option maxHeartbeats 4000000 in
set_option maxRecDepth 100000 in
theorem c_Volume_type {l : Launch} {dC : Nat → ClassId} {dI : Nat → Nat → Nat} {ga : Nat → Nat} {cB cI : ClassId} {A : Nat → Prop} (hDa : ∀ σ, va_D A (wC ga cB cI σ)) {σ : CS} {a1 : Int32} {res : Int32} (hJ : J_Volume_type σ a1 = some res) :
    Met l y_Volume_type (mw y_Volume_type b_Volume_type 2 (some .int)) rm_Volume_type (va_Pc [.ref (ga 3), .int a1] (kW (dC, dI) (tC cB cI) (wC ga cB cI σ))) (va_Qi (fun (x : Int32) (_ : Unit) => x = res) (fun _ t => kW (dC, dI) (tC cB cI) (wC ga cB cI σ) t) A) 0 0 A := by
  refine Met.ofW (cc := b_Volume_type) (maxL := 2) (ret := (some .int)) (by decide) rfl ?_
  intro p e s m args below meth c s₁ B hml hv
  obtain ⟨rfl, hP, hK⟩ := hv
  have hx := B.exec
  have hb := B.bytes
  have hr := B.returns
  have hts := atoms_spec (ws := (mw y_Volume_type b_Volume_type 2 (some .int))) B.pre
  have htb : ∀ w ∈ tb, w.before [.ref (ga 3), .int a1].toArray s = true := fun w h => hts w (mwIn h)
  have hown : s.vm.findClass "LogFs$Volume" = some m.cls := findClass_of_methodNamed B.named
  have hlocks := B.notSynchronized
  have hS : va_S A s.heap s.heap [] := va_S.rf
  have hl := lv_entry ([.ref (ga 3), .int a1]) (n := 2) (Nat.le_of_ble_eq_true rfl)
  rw [lg_entry_eq]
  generalize (lg_sl ([.ref (ga 3), .int a1]) ++ List.replicate (2 - (lg_sl ([.ref (ga 3), .int a1])).length) Slot.unset).toArray = ls at hl ⊢
  have hl : lv_has ls 2 [(0, .ref (ga 3)), (1, .int a1)] := hl
  unfold J_Volume_type at hJ
  refine lv_aload_n hx hb d_Volume_type_0 rfl (lv_at hl 0 rfl) ?_
  refine lv_iload_n hx hb d_Volume_type_1 rfl (lv_at hl 1 rfl) ?_
  refine lv_iconst (v := (0 : Int32)) hx hb d_Volume_type_2 (by decide) ?_
  obtain ⟨x1, e1, hJ⟩ := j_bind hJ
  refine va_calli (va_runV (As := [.int a1, .int (0 : Int32)]) (rest := []) ⟨hx, hb, hml, hown, htb⟩ (c_Volume_inodeByte (l := l) (dC := dC) (dI := dI) hDa e1) (xcV 2 htb tw164 tw5 tw161 tw163 ts_Volume_inodeByte rfl rfl hd_Volume_inodeByte ⟨Nat.le_of_ble_eq_true rfl, Nat.le_of_ble_eq_true rfl⟩) (kW_V hP hK (va_recv (q0 := 3) (ci := 3) hK hP rfl rfl)) rfl rfl hl.1 rfl (lv_room (Nat.le_of_ble_eq_true rfl)) d_Volume_type_3 ⟨Nat.le_of_ble_eq_true rfl, Nat.le_of_ble_eq_true rfl⟩) hS (fun q _ h => h) (fun q h => h) (fun r0 u t H locs ht hvm hw hB _ _ hS => ?_)
  subst r0
  have hP := kW_P hB ht
  have hJ := Option.some.inj hJ
  exact W.iret (v := x1) hx hb hr (fun t ht hW => ⟨⟨_, (), rfl, hJ, kW_end hP hK ht hW rfl⟩, hS.F ht⟩) hS.2.2 d_Volume_type_6
def J_Volume_links (σ : CS) (a1 : Int32) : Option (Int32) :=
  (J_Volume_inodeByte σ a1 (1 : Int32)).bind fun x1 => some x1
abbrev rm_Volume_links : Room := { frames := 2, cells := 0, slots := 0, locals := 44 }
set_option maxHeartbeats 4000000 in
set_option maxRecDepth 100000 in
theorem c_Volume_links {l : Launch} {dC : Nat → ClassId} {dI : Nat → Nat → Nat} {ga : Nat → Nat} {cB cI : ClassId} {A : Nat → Prop} (hDa : ∀ σ, va_D A (wC ga cB cI σ)) {σ : CS} {a1 : Int32} {res : Int32} (hJ : J_Volume_links σ a1 = some res) :
    Met l y_Volume_links (mw y_Volume_links b_Volume_links 2 (some .int)) rm_Volume_links (va_Pc [.ref (ga 3), .int a1] (kW (dC, dI) (tC cB cI) (wC ga cB cI σ))) (va_Qi (fun (x : Int32) (_ : Unit) => x = res) (fun _ t => kW (dC, dI) (tC cB cI) (wC ga cB cI σ) t) A) 0 0 A := by
  refine Met.ofW (cc := b_Volume_links) (maxL := 2) (ret := (some .int)) (by decide) rfl ?_
  intro p e s m args below meth c s₁ B hml hv
  obtain ⟨rfl, hP, hK⟩ := hv
  have hx := B.exec
  have hb := B.bytes
  have hr := B.returns
  have hts := atoms_spec (ws := (mw y_Volume_links b_Volume_links 2 (some .int))) B.pre
  have htb : ∀ w ∈ tb, w.before [.ref (ga 3), .int a1].toArray s = true := fun w h => hts w (mwIn h)
  have hown : s.vm.findClass "LogFs$Volume" = some m.cls := findClass_of_methodNamed B.named
  have hlocks := B.notSynchronized
  have hS : va_S A s.heap s.heap [] := va_S.rf
  have hl := lv_entry ([.ref (ga 3), .int a1]) (n := 2) (Nat.le_of_ble_eq_true rfl)
  rw [lg_entry_eq]
  generalize (lg_sl ([.ref (ga 3), .int a1]) ++ List.replicate (2 - (lg_sl ([.ref (ga 3), .int a1])).length) Slot.unset).toArray = ls at hl ⊢
  have hl : lv_has ls 2 [(0, .ref (ga 3)), (1, .int a1)] := hl
  unfold J_Volume_links at hJ
  refine lv_aload_n hx hb d_Volume_links_0 rfl (lv_at hl 0 rfl) ?_
  refine lv_iload_n hx hb d_Volume_links_1 rfl (lv_at hl 1 rfl) ?_
  refine lv_iconst (v := (1 : Int32)) hx hb d_Volume_links_2 (by decide) ?_
  obtain ⟨x1, e1, hJ⟩ := j_bind hJ
  refine va_calli (va_runV (As := [.int a1, .int (1 : Int32)]) (rest := []) ⟨hx, hb, hml, hown, htb⟩ (c_Volume_inodeByte (l := l) (dC := dC) (dI := dI) hDa e1) (xcV 2 htb tw164 tw5 tw161 tw163 ts_Volume_inodeByte rfl rfl hd_Volume_inodeByte ⟨Nat.le_of_ble_eq_true rfl, Nat.le_of_ble_eq_true rfl⟩) (kW_V hP hK (va_recv (q0 := 3) (ci := 3) hK hP rfl rfl)) rfl rfl hl.1 rfl (lv_room (Nat.le_of_ble_eq_true rfl)) d_Volume_links_3 ⟨Nat.le_of_ble_eq_true rfl, Nat.le_of_ble_eq_true rfl⟩) hS (fun q _ h => h) (fun q h => h) (fun r0 u t H locs ht hvm hw hB _ _ hS => ?_)
  subst r0
  have hP := kW_P hB ht
  have hJ := Option.some.inj hJ
  exact W.iret (v := x1) hx hb hr (fun t ht hW => ⟨⟨_, (), rfl, hJ, kW_end hP hK ht hW rfl⟩, hS.F ht⟩) hS.2.2 d_Volume_links_6
def J_Volume_size (σ : CS) (a1 : Int32) : Option (Int32) :=
  (J_Volume_inodeByte σ a1 (2 : Int32)).bind fun x1 => (J_Volume_inodeByte σ a1 (3 : Int32)).bind fun x2 => some ((x1 <<< ((8 : Int32) &&& 31)) ||| x2)
abbrev rm_Volume_size : Room := { frames := 2, cells := 0, slots := 0, locals := 44 }
set_option maxHeartbeats 4000000 in
set_option maxRecDepth 100000 in
theorem c_Volume_size {l : Launch} {dC : Nat → ClassId} {dI : Nat → Nat → Nat} {ga : Nat → Nat} {cB cI : ClassId} {A : Nat → Prop} (hDa : ∀ σ, va_D A (wC ga cB cI σ)) {σ : CS} {a1 : Int32} {res : Int32} (hJ : J_Volume_size σ a1 = some res) :
    Met l y_Volume_size (mw y_Volume_size b_Volume_size 2 (some .int)) rm_Volume_size (va_Pc [.ref (ga 3), .int a1] (kW (dC, dI) (tC cB cI) (wC ga cB cI σ))) (va_Qi (fun (x : Int32) (_ : Unit) => x = res) (fun _ t => kW (dC, dI) (tC cB cI) (wC ga cB cI σ) t) A) 0 0 A := by
  refine Met.ofW (cc := b_Volume_size) (maxL := 2) (ret := (some .int)) (by decide) rfl ?_
  intro p e s m args below meth c s₁ B hml hv
  obtain ⟨rfl, hP, hK⟩ := hv
  have hx := B.exec
  have hb := B.bytes
  have hr := B.returns
  have hts := atoms_spec (ws := (mw y_Volume_size b_Volume_size 2 (some .int))) B.pre
  have htb : ∀ w ∈ tb, w.before [.ref (ga 3), .int a1].toArray s = true := fun w h => hts w (mwIn h)
  have hown : s.vm.findClass "LogFs$Volume" = some m.cls := findClass_of_methodNamed B.named
  have hlocks := B.notSynchronized
  have hS : va_S A s.heap s.heap [] := va_S.rf
  have hl := lv_entry ([.ref (ga 3), .int a1]) (n := 2) (Nat.le_of_ble_eq_true rfl)
  rw [lg_entry_eq]
  generalize (lg_sl ([.ref (ga 3), .int a1]) ++ List.replicate (2 - (lg_sl ([.ref (ga 3), .int a1])).length) Slot.unset).toArray = ls at hl ⊢
  have hl : lv_has ls 2 [(0, .ref (ga 3)), (1, .int a1)] := hl
  unfold J_Volume_size at hJ
  refine lv_aload_n hx hb d_Volume_size_0 rfl (lv_at hl 0 rfl) ?_
  refine lv_iload_n hx hb d_Volume_size_1 rfl (lv_at hl 1 rfl) ?_
  refine lv_iconst (v := (2 : Int32)) hx hb d_Volume_size_2 (by decide) ?_
  obtain ⟨x1, e1, hJ⟩ := j_bind hJ
  refine va_calli (va_runV (As := [.int a1, .int (2 : Int32)]) (rest := []) ⟨hx, hb, hml, hown, htb⟩ (c_Volume_inodeByte (l := l) (dC := dC) (dI := dI) hDa e1) (xcV 2 htb tw164 tw5 tw161 tw163 ts_Volume_inodeByte rfl rfl hd_Volume_inodeByte ⟨Nat.le_of_ble_eq_true rfl, Nat.le_of_ble_eq_true rfl⟩) (kW_V hP hK (va_recv (q0 := 3) (ci := 3) hK hP rfl rfl)) rfl rfl hl.1 rfl (lv_room (Nat.le_of_ble_eq_true rfl)) d_Volume_size_3 ⟨Nat.le_of_ble_eq_true rfl, Nat.le_of_ble_eq_true rfl⟩) hS (fun q _ h => h) (fun q h => h) (fun r0 u t H locs ht hvm hw hB _ _ hS => ?_)
  subst r0
  have hP := kW_P hB ht
  refine lv_bipush (v := (8 : Int32)) hx hb d_Volume_size_6 (by decide) ?_
  refine lv_ishl hx hb d_Volume_size_8 ?_
  refine lv_aload_n hx hb d_Volume_size_9 rfl (lv_at hl 0 rfl) ?_
  refine lv_iload_n hx hb d_Volume_size_10 rfl (lv_at hl 1 rfl) ?_
  refine lv_iconst (v := (3 : Int32)) hx hb d_Volume_size_11 (by decide) ?_
  obtain ⟨x2, e2, hJ⟩ := j_bind hJ
  refine va_calli (va_runV (As := [.int a1, .int (3 : Int32)]) (rest := [.int (x1 <<< ((8 : Int32) &&& 31))]) ⟨hx, hb, hml, hown, htb⟩ (c_Volume_inodeByte (l := l) (dC := dC) (dI := dI) hDa e2) (xcV 2 htb tw164 tw5 tw161 tw163 ts_Volume_inodeByte rfl rfl hd_Volume_inodeByte ⟨Nat.le_of_ble_eq_true rfl, Nat.le_of_ble_eq_true rfl⟩) (kW_V hP hK (va_recv (q0 := 3) (ci := 3) hK hP rfl rfl)) rfl rfl hl.1 rfl (lv_room (Nat.le_of_ble_eq_true rfl)) d_Volume_size_12 ⟨Nat.le_of_ble_eq_true rfl, Nat.le_of_ble_eq_true rfl⟩) hS (fun q _ h => h) (fun q h => h) (fun r0 u t H locs ht hvm hw hB _ _ hS => ?_)
  subst r0
  have hP := kW_P hB ht
  refine lv_ior hx hb d_Volume_size_15 ?_
  have hJ := Option.some.inj hJ
  exact W.iret (v := ((x1 <<< ((8 : Int32) &&& 31)) ||| x2)) hx hb hr (fun t ht hW => ⟨⟨_, (), rfl, hJ, kW_end hP hK ht hW rfl⟩, hS.F ht⟩) hS.2.2 d_Volume_size_16
def J_Volume_isFile (σ : CS) (a1 : Int32) : Option (Int32) :=
  (J_Volume_type σ a1).bind fun x1 => (if x1 = (1 : Int32) then some (1 : Int32) else some (0 : Int32))
abbrev rm_Volume_isFile : Room := { frames := 3, cells := 0, slots := 0, locals := 65 }
set_option maxHeartbeats 4000000 in
set_option maxRecDepth 100000 in
theorem c_Volume_isFile {l : Launch} {dC : Nat → ClassId} {dI : Nat → Nat → Nat} {ga : Nat → Nat} {cB cI : ClassId} {A : Nat → Prop} (hDa : ∀ σ, va_D A (wC ga cB cI σ)) {σ : CS} {a1 : Int32} {res : Int32} (hJ : J_Volume_isFile σ a1 = some res) :
    Met l y_Volume_isFile (mw y_Volume_isFile b_Volume_isFile 2 (some .boolean)) rm_Volume_isFile (va_Pc [.ref (ga 3), .int a1] (kW (dC, dI) (tC cB cI) (wC ga cB cI σ))) (va_Qi (fun (x : Int32) (_ : Unit) => x = res) (fun _ t => kW (dC, dI) (tC cB cI) (wC ga cB cI σ) t) A) 0 0 A := by
  refine Met.ofW (cc := b_Volume_isFile) (maxL := 2) (ret := (some .boolean)) (by decide) rfl ?_
  intro p e s m args below meth c s₁ B hml hv
  obtain ⟨rfl, hP, hK⟩ := hv
  have hx := B.exec
  have hb := B.bytes
  have hr := B.returns
  have hts := atoms_spec (ws := (mw y_Volume_isFile b_Volume_isFile 2 (some .boolean))) B.pre
  have htb : ∀ w ∈ tb, w.before [.ref (ga 3), .int a1].toArray s = true := fun w h => hts w (mwIn h)
  have hown : s.vm.findClass "LogFs$Volume" = some m.cls := findClass_of_methodNamed B.named
  have hlocks := B.notSynchronized
  have hS : va_S A s.heap s.heap [] := va_S.rf
  have hl := lv_entry ([.ref (ga 3), .int a1]) (n := 2) (Nat.le_of_ble_eq_true rfl)
  rw [lg_entry_eq]
  generalize (lg_sl ([.ref (ga 3), .int a1]) ++ List.replicate (2 - (lg_sl ([.ref (ga 3), .int a1])).length) Slot.unset).toArray = ls at hl ⊢
  have hl : lv_has ls 2 [(0, .ref (ga 3)), (1, .int a1)] := hl
  unfold J_Volume_isFile at hJ
  refine lv_aload_n hx hb d_Volume_isFile_0 rfl (lv_at hl 0 rfl) ?_
  refine lv_iload_n hx hb d_Volume_isFile_1 rfl (lv_at hl 1 rfl) ?_
  obtain ⟨x1, e1, hJ⟩ := j_bind hJ
  refine va_calli (va_runV (As := [.int a1]) (rest := []) ⟨hx, hb, hml, hown, htb⟩ (c_Volume_type (l := l) (dC := dC) (dI := dI) hDa e1) (xcV 1 htb tw160 tw5 tw157 tw158 tw159 rfl rfl hd_Volume_type ⟨Nat.le_of_ble_eq_true rfl, Nat.le_of_ble_eq_true rfl⟩) (kW_V hP hK (va_recv (q0 := 3) (ci := 3) hK hP rfl rfl)) rfl rfl hl.1 rfl (lv_room (Nat.le_of_ble_eq_true rfl)) d_Volume_isFile_2 ⟨Nat.le_of_ble_eq_true rfl, Nat.le_of_ble_eq_true rfl⟩) hS (fun q _ h => h) (fun q h => h) (fun r0 u t H locs ht hvm hw hB _ _ hS => ?_)
  subst r0
  have hP := kW_P hB ht
  refine lv_iconst (v := (1 : Int32)) hx hb d_Volume_isFile_5 (by decide) ?_
  refine lv_icmp_ne (tgt := 13) hx hb d_Volume_isFile_6 (by decide) (fun h2 => ?_) (fun h2 => ?_)
  · have hJ := j_f hJ h2
    refine lv_iconst (v := (0 : Int32)) hx hb d_Volume_isFile_13 (by decide) ?_
    have hJ := Option.some.inj hJ
    exact W.zret (v := (0 : Int32)) (ty := .boolean) hx hb hr (by decide +kernel) (fun t ht hW => ⟨⟨_, (), rfl, hJ, kW_end hP hK ht hW rfl⟩, hS.F ht⟩) hS.2.2 d_Volume_isFile_14
  · have hJ := j_t hJ h2
    refine lv_iconst (v := (1 : Int32)) hx hb d_Volume_isFile_9 (by decide) ?_
    refine lv_goto (tgt := 14) hx hb d_Volume_isFile_10 (by decide) ?_
    have hJ := Option.some.inj hJ
    exact W.zret (v := (1 : Int32)) (ty := .boolean) hx hb hr (by decide +kernel) (fun t ht hW => ⟨⟨_, (), rfl, hJ, kW_end hP hK ht hW rfl⟩, hS.F ht⟩) hS.2.2 d_Volume_isFile_14
def J_Volume_isDirectory (σ : CS) (a1 : Int32) : Option (Int32) :=
  (J_Volume_type σ a1).bind fun x1 => (if x1 = (2 : Int32) then some (1 : Int32) else some (0 : Int32))
abbrev rm_Volume_isDirectory : Room := { frames := 3, cells := 0, slots := 0, locals := 65 }
set_option maxHeartbeats 4000000 in
set_option maxRecDepth 100000 in
theorem c_Volume_isDirectory {l : Launch} {dC : Nat → ClassId} {dI : Nat → Nat → Nat} {ga : Nat → Nat} {cB cI : ClassId} {A : Nat → Prop} (hDa : ∀ σ, va_D A (wC ga cB cI σ)) {σ : CS} {a1 : Int32} {res : Int32} (hJ : J_Volume_isDirectory σ a1 = some res) :
    Met l y_Volume_isDirectory (mw y_Volume_isDirectory b_Volume_isDirectory 2 (some .boolean)) rm_Volume_isDirectory (va_Pc [.ref (ga 3), .int a1] (kW (dC, dI) (tC cB cI) (wC ga cB cI σ))) (va_Qi (fun (x : Int32) (_ : Unit) => x = res) (fun _ t => kW (dC, dI) (tC cB cI) (wC ga cB cI σ) t) A) 0 0 A := by
  refine Met.ofW (cc := b_Volume_isDirectory) (maxL := 2) (ret := (some .boolean)) (by decide) rfl ?_
  intro p e s m args below meth c s₁ B hml hv
  obtain ⟨rfl, hP, hK⟩ := hv
  have hx := B.exec
  have hb := B.bytes
  have hr := B.returns
  have hts := atoms_spec (ws := (mw y_Volume_isDirectory b_Volume_isDirectory 2 (some .boolean))) B.pre
  have htb : ∀ w ∈ tb, w.before [.ref (ga 3), .int a1].toArray s = true := fun w h => hts w (mwIn h)
  have hown : s.vm.findClass "LogFs$Volume" = some m.cls := findClass_of_methodNamed B.named
  have hlocks := B.notSynchronized
  have hS : va_S A s.heap s.heap [] := va_S.rf
  have hl := lv_entry ([.ref (ga 3), .int a1]) (n := 2) (Nat.le_of_ble_eq_true rfl)
  rw [lg_entry_eq]
  generalize (lg_sl ([.ref (ga 3), .int a1]) ++ List.replicate (2 - (lg_sl ([.ref (ga 3), .int a1])).length) Slot.unset).toArray = ls at hl ⊢
  have hl : lv_has ls 2 [(0, .ref (ga 3)), (1, .int a1)] := hl
  unfold J_Volume_isDirectory at hJ
  refine lv_aload_n hx hb d_Volume_isDirectory_0 rfl (lv_at hl 0 rfl) ?_
  refine lv_iload_n hx hb d_Volume_isDirectory_1 rfl (lv_at hl 1 rfl) ?_
  obtain ⟨x1, e1, hJ⟩ := j_bind hJ
  refine va_calli (va_runV (As := [.int a1]) (rest := []) ⟨hx, hb, hml, hown, htb⟩ (c_Volume_type (l := l) (dC := dC) (dI := dI) hDa e1) (xcV 1 htb tw160 tw5 tw157 tw158 tw159 rfl rfl hd_Volume_type ⟨Nat.le_of_ble_eq_true rfl, Nat.le_of_ble_eq_true rfl⟩) (kW_V hP hK (va_recv (q0 := 3) (ci := 3) hK hP rfl rfl)) rfl rfl hl.1 rfl (lv_room (Nat.le_of_ble_eq_true rfl)) d_Volume_isDirectory_2 ⟨Nat.le_of_ble_eq_true rfl, Nat.le_of_ble_eq_true rfl⟩) hS (fun q _ h => h) (fun q h => h) (fun r0 u t H locs ht hvm hw hB _ _ hS => ?_)
  subst r0
  have hP := kW_P hB ht
  refine lv_iconst (v := (2 : Int32)) hx hb d_Volume_isDirectory_5 (by decide) ?_
  refine lv_icmp_ne (tgt := 13) hx hb d_Volume_isDirectory_6 (by decide) (fun h2 => ?_) (fun h2 => ?_)
  · have hJ := j_f hJ h2
    refine lv_iconst (v := (0 : Int32)) hx hb d_Volume_isDirectory_13 (by decide) ?_
    have hJ := Option.some.inj hJ
    exact W.zret (v := (0 : Int32)) (ty := .boolean) hx hb hr (by decide +kernel) (fun t ht hW => ⟨⟨_, (), rfl, hJ, kW_end hP hK ht hW rfl⟩, hS.F ht⟩) hS.2.2 d_Volume_isDirectory_14
  · have hJ := j_t hJ h2
    refine lv_iconst (v := (1 : Int32)) hx hb d_Volume_isDirectory_9 (by decide) ?_
    refine lv_goto (tgt := 14) hx hb d_Volume_isDirectory_10 (by decide) ?_
    have hJ := Option.some.inj hJ
    exact W.zret (v := (1 : Int32)) (ty := .boolean) hx hb hr (by decide +kernel) (fun t ht hW => ⟨⟨_, (), rfl, hJ, kW_end hP hK ht hW rfl⟩, hS.F ht⟩) hS.2.2 d_Volume_isDirectory_14
def J_Volume_leastFreeInode_2_b (k : Int32 → Option (Int32)) (σ : CS) (v1 : Int32) : Option (Int32) :=
  (if (32 : Int32) ≤ v1 then some ((-1) : Int32) else (J_Volume_type σ v1).bind fun x2 => (if x2 = (0 : Int32) then some v1 else k (v1 + (1 : Int32))))
def J_Volume_leastFreeInode_2 : Nat → CS → Int32 → Option (Int32)
  | 0, _, _ => none
  | n + 1, σ, v1 => J_Volume_leastFreeInode_2_b (J_Volume_leastFreeInode_2 n σ) σ v1
def J_Volume_leastFreeInode (σ : CS)  : Option (Int32) :=
  J_Volume_leastFreeInode_2 9000 σ (0 : Int32)
abbrev rm_Volume_leastFreeInode : Room := { frames := 3, cells := 0, slots := 0, locals := 65 }
set_option maxHeartbeats 4000000 in
set_option maxRecDepth 100000 in
theorem c_Volume_leastFreeInode {l : Launch} {dC : Nat → ClassId} {dI : Nat → Nat → Nat} {ga : Nat → Nat} {cB cI : ClassId} {A : Nat → Prop} (hDa : ∀ σ, va_D A (wC ga cB cI σ)) {σ : CS} {res : Int32} (hJ : J_Volume_leastFreeInode σ = some res) :
    Met l y_Volume_leastFreeInode (mw y_Volume_leastFreeInode b_Volume_leastFreeInode 2 (some .int)) rm_Volume_leastFreeInode (va_Pc [.ref (ga 3)] (kW (dC, dI) (tC cB cI) (wC ga cB cI σ))) (va_Qi (fun (x : Int32) (_ : Unit) => x = res) (fun _ t => kW (dC, dI) (tC cB cI) (wC ga cB cI σ) t) A) 0 0 A := by
  refine Met.ofW (cc := b_Volume_leastFreeInode) (maxL := 2) (ret := (some .int)) (by decide) rfl ?_
  intro p e s m args below meth c s₁ B hml hv
  obtain ⟨rfl, hP, hK⟩ := hv
  have hx := B.exec
  have hb := B.bytes
  have hr := B.returns
  have hts := atoms_spec (ws := (mw y_Volume_leastFreeInode b_Volume_leastFreeInode 2 (some .int))) B.pre
  have htb : ∀ w ∈ tb, w.before [.ref (ga 3)].toArray s = true := fun w h => hts w (mwIn h)
  have hown : s.vm.findClass "LogFs$Volume" = some m.cls := findClass_of_methodNamed B.named
  have hlocks := B.notSynchronized
  have hS : va_S A s.heap s.heap [] := va_S.rf
  have hl := lv_entry ([.ref (ga 3)]) (n := 2) (Nat.le_of_ble_eq_true rfl)
  rw [lg_entry_eq]
  generalize (lg_sl ([.ref (ga 3)]) ++ List.replicate (2 - (lg_sl ([.ref (ga 3)])).length) Slot.unset).toArray = ls at hl ⊢
  have hl : lv_has ls 2 [(0, .ref (ga 3))] := hl
  have blk2 : ∀ (n : Nat) (v1 : Int32) (ls : Array Slot) (H : Heap) (locs : List Loc), J_Volume_leastFreeInode_2 n σ v1 = some res → lv_has ls 2 [(0, .ref (ga 3)), (1, .int v1)] → va_P (dC, dI) cls (wC ga cB cI σ) H → va_S A s.heap H locs → W p l e (headSpec (mw y_Volume_leastFreeInode b_Volume_leastFreeInode 2 (some .int)) rm_Volume_leastFreeInode).room s m [.ref (ga 3)].toArray below meth c H locs 0 0 (MQ below (va_Qi (fun (x : Int32) (_ : Unit) => x = res) (fun _ t => kW (dC, dI) (tC cB cI) (wC ga cB cI σ) t) A) [.ref (ga 3)].toArray s 0 0 A) (F0 m 2 ls []) := by
    intro n
    induction n with
    | zero => intro v1 ls H locs hJ; exact j_none hJ
    | succ n hk =>
      intro v1 ls H locs hJ hl hP hS
      have hJ : J_Volume_leastFreeInode_2_b (J_Volume_leastFreeInode_2 n σ) σ v1 = some res := hJ
      unfold J_Volume_leastFreeInode_2_b at hJ
      refine lv_iload_n hx hb d_Volume_leastFreeInode_2 rfl (lv_at hl 1 rfl) ?_
      refine lv_bipush (v := (32 : Int32)) hx hb d_Volume_leastFreeInode_3 (by decide) ?_
      refine lv_icmp_ge (tgt := 24) hx hb d_Volume_leastFreeInode_5 (by decide) (fun h1 => ?_) (fun h1 => ?_)
      · have hJ := j_t hJ h1
        refine lv_iconst (v := ((-1) : Int32)) hx hb d_Volume_leastFreeInode_24 (by decide) ?_
        have hJ := Option.some.inj hJ
        exact W.iret (v := ((-1) : Int32)) hx hb hr (fun t ht hW => ⟨⟨_, (), rfl, hJ, kW_end hP hK ht hW rfl⟩, hS.F ht⟩) hS.2.2 d_Volume_leastFreeInode_25
      · have hJ := j_f hJ h1
        refine lv_aload_n hx hb d_Volume_leastFreeInode_8 rfl (lv_at hl 0 rfl) ?_
        refine lv_iload_n hx hb d_Volume_leastFreeInode_9 rfl (lv_at hl 1 rfl) ?_
        obtain ⟨x2, e2, hJ⟩ := j_bind hJ
        refine va_calli (va_runV (As := [.int v1]) (rest := []) ⟨hx, hb, hml, hown, htb⟩ (c_Volume_type (l := l) (dC := dC) (dI := dI) hDa e2) (xcV 1 htb tw160 tw5 tw157 tw158 tw159 rfl rfl hd_Volume_type ⟨Nat.le_of_ble_eq_true rfl, Nat.le_of_ble_eq_true rfl⟩) (kW_V hP hK (va_recv (q0 := 3) (ci := 3) hK hP rfl rfl)) rfl rfl hl.1 rfl (lv_room (Nat.le_of_ble_eq_true rfl)) d_Volume_leastFreeInode_10 ⟨Nat.le_of_ble_eq_true rfl, Nat.le_of_ble_eq_true rfl⟩) hS (fun q _ h => h) (fun q h => h) (fun r0 u t H locs ht hvm hw hB _ _ hS => ?_)
        subst r0
        have hP := kW_P hB ht
        refine lv_if_ne (tgt := 18) hx hb d_Volume_leastFreeInode_13 (by decide) (fun h3 => ?_) (fun h3 => ?_)
        · have hJ := j_f hJ h3
          refine lv_iinc (k := 1) (v := (v1 + (1 : Int32))) hx hb d_Volume_leastFreeInode_18 hl rfl rfl (Nat.le_of_ble_eq_true rfl) rfl (fun ls hl => ?_)
          have hl : lv_has ls 2 [(1, .int (v1 + (1 : Int32))), (0, .ref (ga 3))] := hl
          refine lv_goto (tgt := 2) hx hb d_Volume_leastFreeInode_21 (by decide) ?_
          exact hk _ _ _ _ hJ (lv_sub hl [1, 0] rfl) hP hS
        · have hJ := j_t hJ h3
          refine lv_iload_n hx hb d_Volume_leastFreeInode_16 rfl (lv_at hl 1 rfl) ?_
          have hJ := Option.some.inj hJ
          exact W.iret (v := v1) hx hb hr (fun t ht hW => ⟨⟨_, (), rfl, hJ, kW_end hP hK ht hW rfl⟩, hS.F ht⟩) hS.2.2 d_Volume_leastFreeInode_17
  unfold J_Volume_leastFreeInode at hJ
  refine lv_iconst (v := (0 : Int32)) hx hb d_Volume_leastFreeInode_0 (by decide) ?_
  refine lv_istore_n hx hb d_Volume_leastFreeInode_1 rfl hl (Nat.le_of_ble_eq_true rfl) rfl (fun ls hl => ?_)
  have hl : lv_has ls 2 [(1, .int (0 : Int32)), (0, .ref (ga 3))] := hl
  exact blk2 9000 _ _ _ _ hJ (lv_sub hl [1, 0] rfl) hP hS
def J_Volume_freeInodes_4_b (k : Int32 → Int32 → Option (Int32)) (σ : CS) (v1 : Int32) (v2 : Int32) : Option (Int32) :=
  (if (32 : Int32) ≤ v2 then some v1 else (J_Volume_type σ v2).bind fun x2 => (if x2 = (0 : Int32) then k (v1 + (1 : Int32)) (v2 + (1 : Int32)) else k v1 (v2 + (1 : Int32))))
def J_Volume_freeInodes_4 : Nat → CS → Int32 → Int32 → Option (Int32)
  | 0, _, _, _ => none
  | n + 1, σ, v1, v2 => J_Volume_freeInodes_4_b (J_Volume_freeInodes_4 n σ) σ v1 v2
def J_Volume_freeInodes (σ : CS)  : Option (Int32) :=
  J_Volume_freeInodes_4 9000 σ (0 : Int32) (0 : Int32)
abbrev rm_Volume_freeInodes : Room := { frames := 3, cells := 0, slots := 0, locals := 65 }
set_option maxHeartbeats 4000000 in
set_option maxRecDepth 100000 in
theorem c_Volume_freeInodes {l : Launch} {dC : Nat → ClassId} {dI : Nat → Nat → Nat} {ga : Nat → Nat} {cB cI : ClassId} {A : Nat → Prop} (hDa : ∀ σ, va_D A (wC ga cB cI σ)) {σ : CS} {res : Int32} (hJ : J_Volume_freeInodes σ = some res) :
    Met l y_Volume_freeInodes (mw y_Volume_freeInodes b_Volume_freeInodes 3 (some .int)) rm_Volume_freeInodes (va_Pc [.ref (ga 3)] (kW (dC, dI) (tC cB cI) (wC ga cB cI σ))) (va_Qi (fun (x : Int32) (_ : Unit) => x = res) (fun _ t => kW (dC, dI) (tC cB cI) (wC ga cB cI σ) t) A) 0 0 A := by
  refine Met.ofW (cc := b_Volume_freeInodes) (maxL := 3) (ret := (some .int)) (by decide) rfl ?_
  intro p e s m args below meth c s₁ B hml hv
  obtain ⟨rfl, hP, hK⟩ := hv
  have hx := B.exec
  have hb := B.bytes
  have hr := B.returns
  have hts := atoms_spec (ws := (mw y_Volume_freeInodes b_Volume_freeInodes 3 (some .int))) B.pre
  have htb : ∀ w ∈ tb, w.before [.ref (ga 3)].toArray s = true := fun w h => hts w (mwIn h)
  have hown : s.vm.findClass "LogFs$Volume" = some m.cls := findClass_of_methodNamed B.named
  have hlocks := B.notSynchronized
  have hS : va_S A s.heap s.heap [] := va_S.rf
  have hl := lv_entry ([.ref (ga 3)]) (n := 3) (Nat.le_of_ble_eq_true rfl)
  rw [lg_entry_eq]
  generalize (lg_sl ([.ref (ga 3)]) ++ List.replicate (3 - (lg_sl ([.ref (ga 3)])).length) Slot.unset).toArray = ls at hl ⊢
  have hl : lv_has ls 3 [(0, .ref (ga 3))] := hl
  have blk4 : ∀ (n : Nat) (v1 : Int32) (v2 : Int32) (ls : Array Slot) (H : Heap) (locs : List Loc), J_Volume_freeInodes_4 n σ v1 v2 = some res → lv_has ls 3 [(0, .ref (ga 3)), (1, .int v1), (2, .int v2)] → va_P (dC, dI) cls (wC ga cB cI σ) H → va_S A s.heap H locs → W p l e (headSpec (mw y_Volume_freeInodes b_Volume_freeInodes 3 (some .int)) rm_Volume_freeInodes).room s m [.ref (ga 3)].toArray below meth c H locs 0 0 (MQ below (va_Qi (fun (x : Int32) (_ : Unit) => x = res) (fun _ t => kW (dC, dI) (tC cB cI) (wC ga cB cI σ) t) A) [.ref (ga 3)].toArray s 0 0 A) (F0 m 4 ls []) := by
    intro n
    induction n with
    | zero => intro v1 v2 ls H locs hJ; exact j_none hJ
    | succ n hk =>
      intro v1 v2 ls H locs hJ hl hP hS
      have hJ : J_Volume_freeInodes_4_b (J_Volume_freeInodes_4 n σ) σ v1 v2 = some res := hJ
      unfold J_Volume_freeInodes_4_b at hJ
      refine lv_iload_n hx hb d_Volume_freeInodes_4 rfl (lv_at hl 2 rfl) ?_
      refine lv_bipush (v := (32 : Int32)) hx hb d_Volume_freeInodes_5 (by decide) ?_
      refine lv_icmp_ge (tgt := 27) hx hb d_Volume_freeInodes_7 (by decide) (fun h1 => ?_) (fun h1 => ?_)
      · have hJ := j_t hJ h1
        refine lv_iload_n hx hb d_Volume_freeInodes_27 rfl (lv_at hl 1 rfl) ?_
        have hJ := Option.some.inj hJ
        exact W.iret (v := v1) hx hb hr (fun t ht hW => ⟨⟨_, (), rfl, hJ, kW_end hP hK ht hW rfl⟩, hS.F ht⟩) hS.2.2 d_Volume_freeInodes_28
      · have hJ := j_f hJ h1
        refine lv_aload_n hx hb d_Volume_freeInodes_10 rfl (lv_at hl 0 rfl) ?_
        refine lv_iload_n hx hb d_Volume_freeInodes_11 rfl (lv_at hl 2 rfl) ?_
        obtain ⟨x2, e2, hJ⟩ := j_bind hJ
        refine va_calli (va_runV (As := [.int v2]) (rest := []) ⟨hx, hb, hml, hown, htb⟩ (c_Volume_type (l := l) (dC := dC) (dI := dI) hDa e2) (xcV 1 htb tw160 tw5 tw157 tw158 tw159 rfl rfl hd_Volume_type ⟨Nat.le_of_ble_eq_true rfl, Nat.le_of_ble_eq_true rfl⟩) (kW_V hP hK (va_recv (q0 := 3) (ci := 3) hK hP rfl rfl)) rfl rfl hl.1 rfl (lv_room (Nat.le_of_ble_eq_true rfl)) d_Volume_freeInodes_12 ⟨Nat.le_of_ble_eq_true rfl, Nat.le_of_ble_eq_true rfl⟩) hS (fun q _ h => h) (fun q h => h) (fun r0 u t H locs ht hvm hw hB _ _ hS => ?_)
        subst r0
        have hP := kW_P hB ht
        refine lv_if_ne (tgt := 21) hx hb d_Volume_freeInodes_15 (by decide) (fun h3 => ?_) (fun h3 => ?_)
        · have hJ := j_f hJ h3
          refine lv_iinc (k := 2) (v := (v2 + (1 : Int32))) hx hb d_Volume_freeInodes_21 hl rfl rfl (Nat.le_of_ble_eq_true rfl) rfl (fun ls hl => ?_)
          have hl : lv_has ls 3 [(2, .int (v2 + (1 : Int32))), (0, .ref (ga 3)), (1, .int v1)] := hl
          refine lv_goto (tgt := 4) hx hb d_Volume_freeInodes_24 (by decide) ?_
          exact hk _ _ _ _ _ hJ (lv_sub hl [1, 2, 0] rfl) hP hS
        · have hJ := j_t hJ h3
          refine lv_iinc (k := 1) (v := (v1 + (1 : Int32))) hx hb d_Volume_freeInodes_18 hl rfl rfl (Nat.le_of_ble_eq_true rfl) rfl (fun ls hl => ?_)
          have hl : lv_has ls 3 [(1, .int (v1 + (1 : Int32))), (0, .ref (ga 3)), (2, .int v2)] := hl
          refine lv_iinc (k := 2) (v := (v2 + (1 : Int32))) hx hb d_Volume_freeInodes_21 hl rfl rfl (Nat.le_of_ble_eq_true rfl) rfl (fun ls hl => ?_)
          have hl : lv_has ls 3 [(2, .int (v2 + (1 : Int32))), (1, .int (v1 + (1 : Int32))), (0, .ref (ga 3))] := hl
          refine lv_goto (tgt := 4) hx hb d_Volume_freeInodes_24 (by decide) ?_
          exact hk _ _ _ _ _ hJ (lv_sub hl [2, 1, 0] rfl) hP hS
  unfold J_Volume_freeInodes at hJ
  refine lv_iconst (v := (0 : Int32)) hx hb d_Volume_freeInodes_0 (by decide) ?_
  refine lv_istore_n hx hb d_Volume_freeInodes_1 rfl hl (Nat.le_of_ble_eq_true rfl) rfl (fun ls hl => ?_)
  have hl : lv_has ls 3 [(1, .int (0 : Int32)), (0, .ref (ga 3))] := hl
  refine lv_iconst (v := (0 : Int32)) hx hb d_Volume_freeInodes_2 (by decide) ?_
  refine lv_istore_n hx hb d_Volume_freeInodes_3 rfl hl (Nat.le_of_ble_eq_true rfl) rfl (fun ls hl => ?_)
  have hl : lv_has ls 3 [(2, .int (0 : Int32)), (1, .int (0 : Int32)), (0, .ref (ga 3))] := hl
  exact blk4 9000 _ _ _ _ _ hJ (lv_sub hl [2, 1, 0] rfl) hP hS
def J_Volume_freeBlocks_6_b (k : Int32 → Int32 → Option (Int32)) (σ : CS) (v1 : Int32) (v2 : Int32) : Option (Int32) :=
  (if (16 : Int32) ≤ v2 then some v1 else (J_Blocks_get_m σ (25 : Int32) v2).bind fun x2 => (J_Integer_bitCount x2).bind fun x3 => k (v1 - x3) (v2 + (1 : Int32)))
def J_Volume_freeBlocks_6 : Nat → CS → Int32 → Int32 → Option (Int32)
  | 0, _, _, _ => none
  | n + 1, σ, v1, v2 => J_Volume_freeBlocks_6_b (J_Volume_freeBlocks_6 n σ) σ v1 v2
def J_Volume_freeBlocks (σ : CS)  : Option (Int32) :=
  J_Volume_freeBlocks_6 9000 σ (128 : Int32) (0 : Int32)
abbrev rm_Volume_freeBlocks : Room := { frames := 1, cells := 0, slots := 0, locals := 22 }
set_option maxHeartbeats 4000000 in
set_option maxRecDepth 100000 in
theorem c_Volume_freeBlocks {l : Launch} {dC : Nat → ClassId} {dI : Nat → Nat → Nat} {ga : Nat → Nat} {cB cI : ClassId} {A : Nat → Prop} (hDa : ∀ σ, va_D A (wC ga cB cI σ)) {σ : CS} {res : Int32} (hJ : J_Volume_freeBlocks σ = some res) :
    Met l y_Volume_freeBlocks (mw y_Volume_freeBlocks b_Volume_freeBlocks 3 (some .int)) rm_Volume_freeBlocks (va_Pc [.ref (ga 3)] (kW (dC, dI) (tC cB cI) (wC ga cB cI σ))) (va_Qi (fun (x : Int32) (_ : Unit) => x = res) (fun _ t => kW (dC, dI) (tC cB cI) (wC ga cB cI σ) t) A) 0 0 A := by
  refine Met.ofW (cc := b_Volume_freeBlocks) (maxL := 3) (ret := (some .int)) (by decide) rfl ?_
  intro p e s m args below meth c s₁ B hml hv
  obtain ⟨rfl, hP, hK⟩ := hv
  have hx := B.exec
  have hb := B.bytes
  have hr := B.returns
  have hts := atoms_spec (ws := (mw y_Volume_freeBlocks b_Volume_freeBlocks 3 (some .int))) B.pre
  have htb : ∀ w ∈ tb, w.before [.ref (ga 3)].toArray s = true := fun w h => hts w (mwIn h)
  have hown : s.vm.findClass "LogFs$Volume" = some m.cls := findClass_of_methodNamed B.named
  have hlocks := B.notSynchronized
  have hS : va_S A s.heap s.heap [] := va_S.rf
  have hl := lv_entry ([.ref (ga 3)]) (n := 3) (Nat.le_of_ble_eq_true rfl)
  rw [lg_entry_eq]
  generalize (lg_sl ([.ref (ga 3)]) ++ List.replicate (3 - (lg_sl ([.ref (ga 3)])).length) Slot.unset).toArray = ls at hl ⊢
  have hl : lv_has ls 3 [(0, .ref (ga 3))] := hl
  have blk6 : ∀ (n : Nat) (v1 : Int32) (v2 : Int32) (ls : Array Slot) (H : Heap) (locs : List Loc), J_Volume_freeBlocks_6 n σ v1 v2 = some res → lv_has ls 3 [(0, .ref (ga 3)), (1, .int v1), (2, .int v2)] → va_P (dC, dI) cls (wC ga cB cI σ) H → va_S A s.heap H locs → W p l e (headSpec (mw y_Volume_freeBlocks b_Volume_freeBlocks 3 (some .int)) rm_Volume_freeBlocks).room s m [.ref (ga 3)].toArray below meth c H locs 0 0 (MQ below (va_Qi (fun (x : Int32) (_ : Unit) => x = res) (fun _ t => kW (dC, dI) (tC cB cI) (wC ga cB cI σ) t) A) [.ref (ga 3)].toArray s 0 0 A) (F0 m 6 ls []) := by
    intro n
    induction n with
    | zero => intro v1 v2 ls H locs hJ; exact j_none hJ
    | succ n hk =>
      intro v1 v2 ls H locs hJ hl hP hS
      have hJ : J_Volume_freeBlocks_6_b (J_Volume_freeBlocks_6 n σ) σ v1 v2 = some res := hJ
      unfold J_Volume_freeBlocks_6_b at hJ
      refine lv_iload_n hx hb d_Volume_freeBlocks_6 rfl (lv_at hl 2 rfl) ?_
      refine lv_bipush (v := (16 : Int32)) hx hb d_Volume_freeBlocks_7 (by decide) ?_
      refine lv_icmp_ge (tgt := 34) hx hb d_Volume_freeBlocks_9 (by decide) (fun h1 => ?_) (fun h1 => ?_)
      · have hJ := j_t hJ h1
        refine lv_iload_n hx hb d_Volume_freeBlocks_34 rfl (lv_at hl 1 rfl) ?_
        have hJ := Option.some.inj hJ
        exact W.iret (v := v1) hx hb hr (fun t ht hW => ⟨⟨_, (), rfl, hJ, kW_end hP hK ht hW rfl⟩, hS.F ht⟩) hS.2.2 d_Volume_freeBlocks_35
      · have hJ := j_f hJ h1
        refine lv_iload_n hx hb d_Volume_freeBlocks_12 rfl (lv_at hl 1 rfl) ?_
        refine lv_aload_n hx hb d_Volume_freeBlocks_13 rfl (lv_at hl 0 rfl) ?_
        refine va_get (D := (dC, dI)) (ci := 3) (v := .ref (ga 5)) (C := R_Volume) (T := T_Volume) (N := 2) hx hb htb uin_Volume hown hK hP 3 rfl rfl 1 (by decide) (htb _ tw96) (fun _ h9 => h9) rfl d_Volume_freeBlocks_14 ?_
        refine lv_bipush (v := (25 : Int32)) hx hb d_Volume_freeBlocks_17 (by decide) ?_
        refine lv_iload_n hx hb d_Volume_freeBlocks_19 rfl (lv_at hl 2 rfl) ?_
        obtain ⟨x2, e2, hJ⟩ := j_bind hJ
        refine va_calli (va_runV (As := [.int (25 : Int32), .int v2]) (rest := [.int v1]) ⟨hx, hb, hml, hown, htb⟩ (c_Blocks_get_m (l := l) (dC := dC) (dI := dI) hDa e2) (xcV 2 htb tw47 tw3 tw146 tw45 tw46 rfl rfl hd_Blocks_get ⟨Nat.le_of_ble_eq_true rfl, Nat.le_of_ble_eq_true rfl⟩) (kW_V hP hK (va_recv (q0 := 5) (ci := 0) hK hP rfl rfl)) rfl rfl hl.1 rfl (lv_room (Nat.le_of_ble_eq_true rfl)) d_Volume_freeBlocks_20 ⟨Nat.le_of_ble_eq_true rfl, Nat.le_of_ble_eq_true rfl⟩) hS (fun q _ h => h) (fun q h => h) (fun r0 u t H locs ht hvm hw hB _ _ hS => ?_)
        subst r0
        have hP := kW_P hB ht
        obtain ⟨x3, e3, hJ⟩ := j_bind hJ
        refine va_calli (va_runS (As := [.int x2]) (rest := [.int v1]) ⟨hx, hb, hml, hown, htb⟩ (c_Integer_bitCount (l := l) (dC := dC) (dI := dI) (σ := σ) hDa e3) (xcS 1 htb tw149 tw12 tw147 tw148 rfl rfl hd_Integer_bitCount ⟨Nat.le_of_ble_eq_true rfl, Nat.le_of_ble_eq_true rfl⟩) (kW_S hP hK) rfl rfl hl.1 rfl (lv_room (Nat.le_of_ble_eq_true rfl)) d_Volume_freeBlocks_23 ⟨Nat.le_of_ble_eq_true rfl, Nat.le_of_ble_eq_true rfl⟩) hS (fun q _ h => h) (fun q h => h) (fun r0 u t H locs ht hvm hw hB _ _ hS => ?_)
        subst r0
        have hP := kW_P hB ht
        refine lv_isub hx hb d_Volume_freeBlocks_26 ?_
        refine lv_istore_n hx hb d_Volume_freeBlocks_27 rfl hl (Nat.le_of_ble_eq_true rfl) rfl (fun ls hl => ?_)
        have hl : lv_has ls 3 [(1, .int (v1 - x3)), (0, .ref (ga 3)), (2, .int v2)] := hl
        refine lv_iinc (k := 2) (v := (v2 + (1 : Int32))) hx hb d_Volume_freeBlocks_28 hl rfl rfl (Nat.le_of_ble_eq_true rfl) rfl (fun ls hl => ?_)
        have hl : lv_has ls 3 [(2, .int (v2 + (1 : Int32))), (1, .int (v1 - x3)), (0, .ref (ga 3))] := hl
        refine lv_goto (tgt := 6) hx hb d_Volume_freeBlocks_31 (by decide) ?_
        exact hk _ _ _ _ _ hJ (lv_sub hl [2, 1, 0] rfl) hP hS
  unfold J_Volume_freeBlocks at hJ
  refine lv_sipush (v := (128 : Int32)) hx hb d_Volume_freeBlocks_0 (by decide) ?_
  refine lv_istore_n hx hb d_Volume_freeBlocks_3 rfl hl (Nat.le_of_ble_eq_true rfl) rfl (fun ls hl => ?_)
  have hl : lv_has ls 3 [(1, .int (128 : Int32)), (0, .ref (ga 3))] := hl
  refine lv_iconst (v := (0 : Int32)) hx hb d_Volume_freeBlocks_4 (by decide) ?_
  refine lv_istore_n hx hb d_Volume_freeBlocks_5 rfl hl (Nat.le_of_ble_eq_true rfl) rfl (fun ls hl => ?_)
  have hl : lv_has ls 3 [(2, .int (0 : Int32)), (1, .int (128 : Int32)), (0, .ref (ga 3))] := hl
  exact blk6 9000 _ _ _ _ _ hJ (lv_sub hl [2, 1, 0] rfl) hP hS
def J_Volume_contentBlock (σ : CS) (a1 : Int32) (a2 : Int32) : Option (Int32) :=
  (if (10 : Int32) ≤ a2 then (J_Volume_inodeByte σ a1 (14 : Int32)).bind fun x2 => (if x2 = (0 : Int32) then some (0 : Int32) else (J_Blocks_get_m σ x2 (a2 - (10 : Int32))).bind fun x4 => some x4) else (J_Volume_inodeByte σ a1 ((4 : Int32) + a2)).bind fun x5 => some x5)
abbrev rm_Volume_contentBlock : Room := { frames := 2, cells := 0, slots := 0, locals := 44 }
set_option maxHeartbeats 4000000 in
set_option maxRecDepth 100000 in
theorem c_Volume_contentBlock {l : Launch} {dC : Nat → ClassId} {dI : Nat → Nat → Nat} {ga : Nat → Nat} {cB cI : ClassId} {A : Nat → Prop} (hDa : ∀ σ, va_D A (wC ga cB cI σ)) {σ : CS} {a1 : Int32} {a2 : Int32} {res : Int32} (hJ : J_Volume_contentBlock σ a1 a2 = some res) :
    Met l y_Volume_contentBlock (mw y_Volume_contentBlock b_Volume_contentBlock 4 (some .int)) rm_Volume_contentBlock (va_Pc [.ref (ga 3), .int a1, .int a2] (kW (dC, dI) (tC cB cI) (wC ga cB cI σ))) (va_Qi (fun (x : Int32) (_ : Unit) => x = res) (fun _ t => kW (dC, dI) (tC cB cI) (wC ga cB cI σ) t) A) 0 0 A := by
  refine Met.ofW (cc := b_Volume_contentBlock) (maxL := 4) (ret := (some .int)) (by decide) rfl ?_
  intro p e s m args below meth c s₁ B hml hv
  obtain ⟨rfl, hP, hK⟩ := hv
  have hx := B.exec
  have hb := B.bytes
  have hr := B.returns
  have hts := atoms_spec (ws := (mw y_Volume_contentBlock b_Volume_contentBlock 4 (some .int))) B.pre
  have htb : ∀ w ∈ tb, w.before [.ref (ga 3), .int a1, .int a2].toArray s = true := fun w h => hts w (mwIn h)
  have hown : s.vm.findClass "LogFs$Volume" = some m.cls := findClass_of_methodNamed B.named
  have hlocks := B.notSynchronized
  have hS : va_S A s.heap s.heap [] := va_S.rf
  have hl := lv_entry ([.ref (ga 3), .int a1, .int a2]) (n := 4) (Nat.le_of_ble_eq_true rfl)
  rw [lg_entry_eq]
  generalize (lg_sl ([.ref (ga 3), .int a1, .int a2]) ++ List.replicate (4 - (lg_sl ([.ref (ga 3), .int a1, .int a2])).length) Slot.unset).toArray = ls at hl ⊢
  have hl : lv_has ls 4 [(0, .ref (ga 3)), (1, .int a1), (2, .int a2)] := hl
  unfold J_Volume_contentBlock at hJ
  refine lv_iload_n hx hb d_Volume_contentBlock_0 rfl (lv_at hl 2 rfl) ?_
  refine lv_bipush (v := (10 : Int32)) hx hb d_Volume_contentBlock_1 (by decide) ?_
  refine lv_icmp_ge (tgt := 15) hx hb d_Volume_contentBlock_3 (by decide) (fun h1 => ?_) (fun h1 => ?_)
  · have hJ := j_t hJ h1
    refine lv_aload_n hx hb d_Volume_contentBlock_15 rfl (lv_at hl 0 rfl) ?_
    refine lv_iload_n hx hb d_Volume_contentBlock_16 rfl (lv_at hl 1 rfl) ?_
    refine lv_bipush (v := (14 : Int32)) hx hb d_Volume_contentBlock_17 (by decide) ?_
    obtain ⟨x2, e2, hJ⟩ := j_bind hJ
    refine va_calli (va_runV (As := [.int a1, .int (14 : Int32)]) (rest := []) ⟨hx, hb, hml, hown, htb⟩ (c_Volume_inodeByte (l := l) (dC := dC) (dI := dI) hDa e2) (xcV 2 htb tw164 tw5 tw161 tw163 ts_Volume_inodeByte rfl rfl hd_Volume_inodeByte ⟨Nat.le_of_ble_eq_true rfl, Nat.le_of_ble_eq_true rfl⟩) (kW_V hP hK (va_recv (q0 := 3) (ci := 3) hK hP rfl rfl)) rfl rfl hl.1 rfl (lv_room (Nat.le_of_ble_eq_true rfl)) d_Volume_contentBlock_19 ⟨Nat.le_of_ble_eq_true rfl, Nat.le_of_ble_eq_true rfl⟩) hS (fun q _ h => h) (fun q h => h) (fun r0 u t H locs ht hvm hw hB _ _ hS => ?_)
    subst r0
    have hP := kW_P hB ht
    refine lv_istore_n hx hb d_Volume_contentBlock_22 rfl hl (Nat.le_of_ble_eq_true rfl) rfl (fun ls hl => ?_)
    have hl : lv_has ls 4 [(3, .int x2), (0, .ref (ga 3)), (1, .int a1), (2, .int a2)] := hl
    refine lv_iload_n hx hb d_Volume_contentBlock_23 rfl (lv_at hl 0 rfl) ?_
    refine lv_if_ne (tgt := 31) hx hb d_Volume_contentBlock_24 (by decide) (fun h3 => ?_) (fun h3 => ?_)
    · have hJ := j_f hJ h3
      refine lv_aload_n hx hb d_Volume_contentBlock_31 rfl (lv_at hl 1 rfl) ?_
      refine va_get (D := (dC, dI)) (ci := 3) (v := .ref (ga 5)) (C := R_Volume) (T := T_Volume) (N := 2) hx hb htb uin_Volume hown hK hP 3 rfl rfl 1 (by decide) (htb _ tw96) (fun _ h9 => h9) rfl d_Volume_contentBlock_32 ?_
      refine lv_iload_n hx hb d_Volume_contentBlock_35 rfl (lv_at hl 0 rfl) ?_
      refine lv_iload_n hx hb d_Volume_contentBlock_36 rfl (lv_at hl 3 rfl) ?_
      refine lv_bipush (v := (10 : Int32)) hx hb d_Volume_contentBlock_37 (by decide) ?_
      refine lv_isub hx hb d_Volume_contentBlock_39 ?_
      obtain ⟨x4, e4, hJ⟩ := j_bind hJ
      refine va_calli (va_runV (As := [.int x2, .int (a2 - (10 : Int32))]) (rest := []) ⟨hx, hb, hml, hown, htb⟩ (c_Blocks_get_m (l := l) (dC := dC) (dI := dI) hDa e4) (xcV 2 htb tw47 tw3 tw146 tw45 tw46 rfl rfl hd_Blocks_get ⟨Nat.le_of_ble_eq_true rfl, Nat.le_of_ble_eq_true rfl⟩) (kW_V hP hK (va_recv (q0 := 5) (ci := 0) hK hP rfl rfl)) rfl rfl hl.1 rfl (lv_room (Nat.le_of_ble_eq_true rfl)) d_Volume_contentBlock_40 ⟨Nat.le_of_ble_eq_true rfl, Nat.le_of_ble_eq_true rfl⟩) hS (fun q _ h => h) (fun q h => h) (fun r0 u t H locs ht hvm hw hB _ _ hS => ?_)
      subst r0
      have hP := kW_P hB ht
      have hJ := Option.some.inj hJ
      exact W.iret (v := x4) hx hb hr (fun t ht hW => ⟨⟨_, (), rfl, hJ, kW_end hP hK ht hW rfl⟩, hS.F ht⟩) hS.2.2 d_Volume_contentBlock_43
    · have hJ := j_t hJ h3
      refine lv_iconst (v := (0 : Int32)) hx hb d_Volume_contentBlock_27 (by decide) ?_
      refine lv_goto (tgt := 43) hx hb d_Volume_contentBlock_28 (by decide) ?_
      have hJ := Option.some.inj hJ
      exact W.iret (v := (0 : Int32)) hx hb hr (fun t ht hW => ⟨⟨_, (), rfl, hJ, kW_end hP hK ht hW rfl⟩, hS.F ht⟩) hS.2.2 d_Volume_contentBlock_43
  · have hJ := j_f hJ h1
    refine lv_aload_n hx hb d_Volume_contentBlock_6 rfl (lv_at hl 0 rfl) ?_
    refine lv_iload_n hx hb d_Volume_contentBlock_7 rfl (lv_at hl 1 rfl) ?_
    refine lv_iconst (v := (4 : Int32)) hx hb d_Volume_contentBlock_8 (by decide) ?_
    refine lv_iload_n hx hb d_Volume_contentBlock_9 rfl (lv_at hl 2 rfl) ?_
    refine lv_iadd hx hb d_Volume_contentBlock_10 ?_
    obtain ⟨x5, e5, hJ⟩ := j_bind hJ
    refine va_calli (va_runV (As := [.int a1, .int ((4 : Int32) + a2)]) (rest := []) ⟨hx, hb, hml, hown, htb⟩ (c_Volume_inodeByte (l := l) (dC := dC) (dI := dI) hDa e5) (xcV 2 htb tw164 tw5 tw161 tw163 ts_Volume_inodeByte rfl rfl hd_Volume_inodeByte ⟨Nat.le_of_ble_eq_true rfl, Nat.le_of_ble_eq_true rfl⟩) (kW_V hP hK (va_recv (q0 := 3) (ci := 3) hK hP rfl rfl)) rfl rfl hl.1 rfl (lv_room (Nat.le_of_ble_eq_true rfl)) d_Volume_contentBlock_11 ⟨Nat.le_of_ble_eq_true rfl, Nat.le_of_ble_eq_true rfl⟩) hS (fun q _ h => h) (fun q h => h) (fun r0 u t H locs ht hvm hw hB _ _ hS => ?_)
    subst r0
    have hP := kW_P hB ht
    have hJ := Option.some.inj hJ
    exact W.iret (v := x5) hx hb hr (fun t ht hW => ⟨⟨_, (), rfl, hJ, kW_end hP hK ht hW rfl⟩, hS.F ht⟩) hS.2.2 d_Volume_contentBlock_14
def J_Volume_contentByte (σ : CS) (a1 : Int32) (a2 : Int32) : Option (Int32) :=
  (J_Volume_contentBlock σ a1 (a2 / (64 : Int32))).bind fun x1 => (J_Blocks_get_m σ x1 (a2 - a2 / (64 : Int32) * (64 : Int32))).bind fun x2 => some x2
abbrev rm_Volume_contentByte : Room := { frames := 3, cells := 0, slots := 0, locals := 67 }
set_option maxHeartbeats 4000000 in
set_option maxRecDepth 100000 in
theorem c_Volume_contentByte {l : Launch} {dC : Nat → ClassId} {dI : Nat → Nat → Nat} {ga : Nat → Nat} {cB cI : ClassId} {A : Nat → Prop} (hDa : ∀ σ, va_D A (wC ga cB cI σ)) {σ : CS} {a1 : Int32} {a2 : Int32} {res : Int32} (hJ : J_Volume_contentByte σ a1 a2 = some res) :
    Met l y_Volume_contentByte (mw y_Volume_contentByte b_Volume_contentByte 3 (some .int)) rm_Volume_contentByte (va_Pc [.ref (ga 3), .int a1, .int a2] (kW (dC, dI) (tC cB cI) (wC ga cB cI σ))) (va_Qi (fun (x : Int32) (_ : Unit) => x = res) (fun _ t => kW (dC, dI) (tC cB cI) (wC ga cB cI σ) t) A) 0 0 A := by
  refine Met.ofW (cc := b_Volume_contentByte) (maxL := 3) (ret := (some .int)) (by decide) rfl ?_
  intro p e s m args below meth c s₁ B hml hv
  obtain ⟨rfl, hP, hK⟩ := hv
  have hx := B.exec
  have hb := B.bytes
  have hr := B.returns
  have hts := atoms_spec (ws := (mw y_Volume_contentByte b_Volume_contentByte 3 (some .int))) B.pre
  have htb : ∀ w ∈ tb, w.before [.ref (ga 3), .int a1, .int a2].toArray s = true := fun w h => hts w (mwIn h)
  have hown : s.vm.findClass "LogFs$Volume" = some m.cls := findClass_of_methodNamed B.named
  have hlocks := B.notSynchronized
  have hS : va_S A s.heap s.heap [] := va_S.rf
  have hl := lv_entry ([.ref (ga 3), .int a1, .int a2]) (n := 3) (Nat.le_of_ble_eq_true rfl)
  rw [lg_entry_eq]
  generalize (lg_sl ([.ref (ga 3), .int a1, .int a2]) ++ List.replicate (3 - (lg_sl ([.ref (ga 3), .int a1, .int a2])).length) Slot.unset).toArray = ls at hl ⊢
  have hl : lv_has ls 3 [(0, .ref (ga 3)), (1, .int a1), (2, .int a2)] := hl
  unfold J_Volume_contentByte at hJ
  refine lv_aload_n hx hb d_Volume_contentByte_0 rfl (lv_at hl 0 rfl) ?_
  refine va_get (D := (dC, dI)) (ci := 3) (v := .ref (ga 5)) (C := R_Volume) (T := T_Volume) (N := 2) hx hb htb uin_Volume hown hK hP 3 rfl rfl 1 (by decide) (htb _ tw96) (fun _ h9 => h9) rfl d_Volume_contentByte_1 ?_
  refine lv_aload_n hx hb d_Volume_contentByte_4 rfl (lv_at hl 0 rfl) ?_
  refine lv_iload_n hx hb d_Volume_contentByte_5 rfl (lv_at hl 1 rfl) ?_
  refine lv_iload_n hx hb d_Volume_contentByte_6 rfl (lv_at hl 2 rfl) ?_
  refine lv_bipush (v := (64 : Int32)) hx hb d_Volume_contentByte_7 (by decide) ?_
  refine lv_idiv hx hb d_Volume_contentByte_9 (by decide) ?_
  obtain ⟨x1, e1, hJ⟩ := j_bind hJ
  refine va_calli (va_runV (As := [.int a1, .int (a2 / (64 : Int32))]) (rest := [.ref (ga 5)]) ⟨hx, hb, hml, hown, htb⟩ (c_Volume_contentBlock (l := l) (dC := dC) (dI := dI) hDa e1) (xcV 2 htb tw285 tw5 tw282 tw284 ts_Volume_contentBlock rfl rfl hd_Volume_contentBlock ⟨Nat.le_of_ble_eq_true rfl, Nat.le_of_ble_eq_true rfl⟩) (kW_V hP hK (va_recv (q0 := 3) (ci := 3) hK hP rfl rfl)) rfl rfl hl.1 rfl (lv_room (Nat.le_of_ble_eq_true rfl)) d_Volume_contentByte_10 ⟨Nat.le_of_ble_eq_true rfl, Nat.le_of_ble_eq_true rfl⟩) hS (fun q _ h => h) (fun q h => h) (fun r0 u t H locs ht hvm hw hB _ _ hS => ?_)
  subst r0
  have hP := kW_P hB ht
  refine lv_iload_n hx hb d_Volume_contentByte_13 rfl (lv_at hl 2 rfl) ?_
  refine lv_bipush (v := (64 : Int32)) hx hb d_Volume_contentByte_14 (by decide) ?_
  refine lv_irem hx hb d_Volume_contentByte_16 (by decide) ?_
  obtain ⟨x2, e2, hJ⟩ := j_bind hJ
  refine va_calli (va_runV (As := [.int x1, .int (a2 - a2 / (64 : Int32) * (64 : Int32))]) (rest := []) ⟨hx, hb, hml, hown, htb⟩ (c_Blocks_get_m (l := l) (dC := dC) (dI := dI) hDa e2) (xcV 2 htb tw47 tw3 tw146 tw45 tw46 rfl rfl hd_Blocks_get ⟨Nat.le_of_ble_eq_true rfl, Nat.le_of_ble_eq_true rfl⟩) (kW_V hP hK (va_recv (q0 := 5) (ci := 0) hK hP rfl rfl)) rfl rfl hl.1 rfl (lv_room (Nat.le_of_ble_eq_true rfl)) d_Volume_contentByte_17 ⟨Nat.le_of_ble_eq_true rfl, Nat.le_of_ble_eq_true rfl⟩) hS (fun q _ h => h) (fun q h => h) (fun r0 u t H locs ht hvm hw hB _ _ hS => ?_)
  subst r0
  have hP := kW_P hB ht
  have hJ := Option.some.inj hJ
  exact W.iret (v := x2) hx hb hr (fun t ht hW => ⟨⟨_, (), rfl, hJ, kW_end hP hK ht hW rfl⟩, hS.F ht⟩) hS.2.2 d_Volume_contentByte_20
def J_Volume_entryAt_16_b (k : Int32 → Int32 → Int64 → Int32 → Option (Int64)) (σ : CS) (v2 : Int32) (v3 : Int32) (v4 : Int64) (v6 : Int32) : Option (Int64) :=
  (if (8 : Int32) ≤ v6 then some v4 else (J_Blocks_get_m σ v3 ((v2 - v2 / (64 : Int32) * (64 : Int32)) + v6)).bind fun x3 => k v2 v3 ((v4 <<< ((8 : Int32).toInt64 &&& 63)) ||| x3.toInt64) (v6 + (1 : Int32)))
def J_Volume_entryAt_16 : Nat → CS → Int32 → Int32 → Int64 → Int32 → Option (Int64)
  | 0, _, _, _, _, _ => none
  | n + 1, σ, v2, v3, v4, v6 => J_Volume_entryAt_16_b (J_Volume_entryAt_16 n σ) σ v2 v3 v4 v6
def J_Volume_entryAt (σ : CS) (a1 : Int32) (a2 : Int32) : Option (Int64) :=
  (J_Volume_contentBlock σ a1 (a2 / (64 : Int32))).bind fun x1 => J_Volume_entryAt_16 9000 σ a2 x1 (0 : Int64) (0 : Int32)
abbrev rm_Volume_entryAt : Room := { frames := 3, cells := 0, slots := 0, locals := 67 }
set_option maxHeartbeats 4000000 in
set_option maxRecDepth 100000 in
theorem c_Volume_entryAt {l : Launch} {dC : Nat → ClassId} {dI : Nat → Nat → Nat} {ga : Nat → Nat} {cB cI : ClassId} {A : Nat → Prop} (hDa : ∀ σ, va_D A (wC ga cB cI σ)) {σ : CS} {a1 : Int32} {a2 : Int32} {res : Int64} (hJ : J_Volume_entryAt σ a1 a2 = some res) :
    Met l y_Volume_entryAt (mw y_Volume_entryAt b_Volume_entryAt 7 (some .long)) rm_Volume_entryAt (va_Pc [.ref (ga 3), .int a1, .int a2] (kW (dC, dI) (tC cB cI) (wC ga cB cI σ))) (va_Ql (fun (x : Int64) (_ : Unit) => x = res) (fun _ t => kW (dC, dI) (tC cB cI) (wC ga cB cI σ) t) A) 0 0 A := by
  refine Met.ofW (cc := b_Volume_entryAt) (maxL := 7) (ret := (some .long)) (by decide) rfl ?_
  intro p e s m args below meth c s₁ B hml hv
  obtain ⟨rfl, hP, hK⟩ := hv
  have hx := B.exec
  have hb := B.bytes
  have hr := B.returns
  have hts := atoms_spec (ws := (mw y_Volume_entryAt b_Volume_entryAt 7 (some .long))) B.pre
  have htb : ∀ w ∈ tb, w.before [.ref (ga 3), .int a1, .int a2].toArray s = true := fun w h => hts w (mwIn h)
  have hown : s.vm.findClass "LogFs$Volume" = some m.cls := findClass_of_methodNamed B.named
  have hlocks := B.notSynchronized
  have hS : va_S A s.heap s.heap [] := va_S.rf
  have hl := lv_entry ([.ref (ga 3), .int a1, .int a2]) (n := 7) (Nat.le_of_ble_eq_true rfl)
  rw [lg_entry_eq]
  generalize (lg_sl ([.ref (ga 3), .int a1, .int a2]) ++ List.replicate (7 - (lg_sl ([.ref (ga 3), .int a1, .int a2])).length) Slot.unset).toArray = ls at hl ⊢
  have hl : lv_has ls 7 [(0, .ref (ga 3)), (1, .int a1), (2, .int a2)] := hl
  have blk16 : ∀ (n : Nat) (v2 : Int32) (v3 : Int32) (v4 : Int64) (v6 : Int32) (ls : Array Slot) (H : Heap) (locs : List Loc), J_Volume_entryAt_16 n σ v2 v3 v4 v6 = some res → lv_has ls 7 [(0, .ref (ga 3)), (2, .int v2), (3, .int v3), (4, .long v4), (6, .int v6)] → va_P (dC, dI) cls (wC ga cB cI σ) H → va_S A s.heap H locs → W p l e (headSpec (mw y_Volume_entryAt b_Volume_entryAt 7 (some .long)) rm_Volume_entryAt).room s m [.ref (ga 3), .int a1, .int a2].toArray below meth c H locs 0 0 (MQ below (va_Ql (fun (x : Int64) (_ : Unit) => x = res) (fun _ t => kW (dC, dI) (tC cB cI) (wC ga cB cI σ) t) A) [.ref (ga 3), .int a1, .int a2].toArray s 0 0 A) (F0 m 16 ls []) := by
    intro n
    induction n with
    | zero => intro v2 v3 v4 v6 ls H locs hJ; exact j_none hJ
    | succ n hk =>
      intro v2 v3 v4 v6 ls H locs hJ hl hP hS
      have hJ : J_Volume_entryAt_16_b (J_Volume_entryAt_16 n σ) σ v2 v3 v4 v6 = some res := hJ
      unfold J_Volume_entryAt_16_b at hJ
      refine lv_iload hx hb d_Volume_entryAt_16 (lv_at hl 4 rfl) ?_
      refine lv_bipush (v := (8 : Int32)) hx hb d_Volume_entryAt_18 (by decide) ?_
      refine lv_icmp_ge (tgt := 53) hx hb d_Volume_entryAt_20 (by decide) (fun h2 => ?_) (fun h2 => ?_)
      · have hJ := j_t hJ h2
        refine lv_lload hx hb d_Volume_entryAt_53 (lv_at hl 3 rfl) ?_
        have hJ := Option.some.inj hJ
        exact W.lret (v := v4) hx hb hr (fun t ht hW => ⟨⟨_, (), rfl, hJ, kW_end hP hK ht hW rfl⟩, hS.F ht⟩) hS.2.2 d_Volume_entryAt_55
      · have hJ := j_f hJ h2
        refine lv_lload hx hb d_Volume_entryAt_23 (lv_at hl 3 rfl) ?_
        refine lv_bipush (v := (8 : Int32)) hx hb d_Volume_entryAt_25 (by decide) ?_
        refine lv_lshl hx hb d_Volume_entryAt_27 rfl ?_
        refine lv_aload_n hx hb d_Volume_entryAt_28 rfl (lv_at hl 0 rfl) ?_
        refine va_get (D := (dC, dI)) (ci := 3) (v := .ref (ga 5)) (C := R_Volume) (T := T_Volume) (N := 2) hx hb htb uin_Volume hown hK hP 3 rfl rfl 1 (by decide) (htb _ tw96) (fun _ h9 => h9) rfl d_Volume_entryAt_29 ?_
        refine lv_iload_n hx hb d_Volume_entryAt_32 rfl (lv_at hl 2 rfl) ?_
        refine lv_iload_n hx hb d_Volume_entryAt_33 rfl (lv_at hl 1 rfl) ?_
        refine lv_bipush (v := (64 : Int32)) hx hb d_Volume_entryAt_34 (by decide) ?_
        refine lv_irem hx hb d_Volume_entryAt_36 (by decide) ?_
        refine lv_iload hx hb d_Volume_entryAt_37 (lv_at hl 4 rfl) ?_
        refine lv_iadd hx hb d_Volume_entryAt_39 ?_
        obtain ⟨x3, e3, hJ⟩ := j_bind hJ
        refine va_calli (va_runV (As := [.int v3, .int ((v2 - v2 / (64 : Int32) * (64 : Int32)) + v6)]) (rest := [.long (v4 <<< ((8 : Int32).toInt64 &&& 63))]) ⟨hx, hb, hml, hown, htb⟩ (c_Blocks_get_m (l := l) (dC := dC) (dI := dI) hDa e3) (xcV 2 htb tw47 tw3 tw146 tw45 tw46 rfl rfl hd_Blocks_get ⟨Nat.le_of_ble_eq_true rfl, Nat.le_of_ble_eq_true rfl⟩) (kW_V hP hK (va_recv (q0 := 5) (ci := 0) hK hP rfl rfl)) rfl rfl hl.1 rfl (lv_room (Nat.le_of_ble_eq_true rfl)) d_Volume_entryAt_40 ⟨Nat.le_of_ble_eq_true rfl, Nat.le_of_ble_eq_true rfl⟩) hS (fun q _ h => h) (fun q h => h) (fun r0 u t H locs ht hvm hw hB _ _ hS => ?_)
        subst r0
        have hP := kW_P hB ht
        refine lv_i2l hx hb d_Volume_entryAt_43 rfl ?_
        refine lv_lor hx hb d_Volume_entryAt_44 ?_
        refine lv_lstore hx hb d_Volume_entryAt_45 hl (Nat.le_of_ble_eq_true rfl) rfl (fun ls hl => ?_)
        have hl : lv_has ls 7 [(4, .long ((v4 <<< ((8 : Int32).toInt64 &&& 63)) ||| x3.toInt64)), (0, .ref (ga 3)), (2, .int v2), (3, .int v3), (6, .int v6)] := hl
        refine lv_iinc (k := 4) (v := (v6 + (1 : Int32))) hx hb d_Volume_entryAt_47 hl rfl rfl (Nat.le_of_ble_eq_true rfl) rfl (fun ls hl => ?_)
        have hl : lv_has ls 7 [(6, .int (v6 + (1 : Int32))), (4, .long ((v4 <<< ((8 : Int32).toInt64 &&& 63)) ||| x3.toInt64)), (0, .ref (ga 3)), (2, .int v2), (3, .int v3)] := hl
        refine lv_goto (tgt := 16) hx hb d_Volume_entryAt_50 (by decide) ?_
        exact hk _ _ _ _ _ _ _ hJ (lv_sub hl [2, 3, 4, 1, 0] rfl) hP hS
  unfold J_Volume_entryAt at hJ
  refine lv_aload_n hx hb d_Volume_entryAt_0 rfl (lv_at hl 0 rfl) ?_
  refine lv_iload_n hx hb d_Volume_entryAt_1 rfl (lv_at hl 1 rfl) ?_
  refine lv_iload_n hx hb d_Volume_entryAt_2 rfl (lv_at hl 2 rfl) ?_
  refine lv_bipush (v := (64 : Int32)) hx hb d_Volume_entryAt_3 (by decide) ?_
  refine lv_idiv hx hb d_Volume_entryAt_5 (by decide) ?_
  obtain ⟨x1, e1, hJ⟩ := j_bind hJ
  refine va_calli (va_runV (As := [.int a1, .int (a2 / (64 : Int32))]) (rest := []) ⟨hx, hb, hml, hown, htb⟩ (c_Volume_contentBlock (l := l) (dC := dC) (dI := dI) hDa e1) (xcV 2 htb tw285 tw5 tw282 tw284 ts_Volume_contentBlock rfl rfl hd_Volume_contentBlock ⟨Nat.le_of_ble_eq_true rfl, Nat.le_of_ble_eq_true rfl⟩) (kW_V hP hK (va_recv (q0 := 3) (ci := 3) hK hP rfl rfl)) rfl rfl hl.1 rfl (lv_room (Nat.le_of_ble_eq_true rfl)) d_Volume_entryAt_6 ⟨Nat.le_of_ble_eq_true rfl, Nat.le_of_ble_eq_true rfl⟩) hS (fun q _ h => h) (fun q h => h) (fun r0 u t H locs ht hvm hw hB _ _ hS => ?_)
  subst r0
  have hP := kW_P hB ht
  refine lv_istore_n hx hb d_Volume_entryAt_9 rfl hl (Nat.le_of_ble_eq_true rfl) rfl (fun ls hl => ?_)
  have hl : lv_has ls 7 [(3, .int x1), (0, .ref (ga 3)), (1, .int a1), (2, .int a2)] := hl
  refine lv_lconst (v := (0 : Int64)) hx hb d_Volume_entryAt_10 (by decide) ?_
  refine lv_lstore hx hb d_Volume_entryAt_11 hl (Nat.le_of_ble_eq_true rfl) rfl (fun ls hl => ?_)
  have hl : lv_has ls 7 [(4, .long (0 : Int64)), (3, .int x1), (0, .ref (ga 3)), (1, .int a1), (2, .int a2)] := hl
  refine lv_iconst (v := (0 : Int32)) hx hb d_Volume_entryAt_13 (by decide) ?_
  refine lv_istore hx hb d_Volume_entryAt_14 hl (Nat.le_of_ble_eq_true rfl) rfl (fun ls hl => ?_)
  have hl : lv_has ls 7 [(6, .int (0 : Int32)), (4, .long (0 : Int64)), (3, .int x1), (0, .ref (ga 3)), (1, .int a1), (2, .int a2)] := hl
  exact blk16 9000 _ _ _ _ _ _ _ hJ (lv_sub hl [3, 5, 2, 1, 0] rfl) hP hS
def J_Volume_placeOf_27_b (k : Int32 → Int64 → Int32 → Int32 → Option (Int32)) (σ : CS) (v1 : Int32) (v2 : Int64) (v4 : Int32) (v5 : Int32) : Option (Int32) :=
  (if v4 ≤ v5 then some ((-1) : Int32) else (J_Volume_entryAt σ v1 v5).bind fun x7 => (if (lg_cmp (x7 <<< ((8 : Int32).toInt64 &&& 63)) v2) = (0 : Int32) then some v5 else k v1 v2 v4 (v5 + (8 : Int32))))
def J_Volume_placeOf_27 : Nat → CS → Int32 → Int64 → Int32 → Int32 → Option (Int32)
  | 0, _, _, _, _, _ => none
  | n + 1, σ, v1, v2, v4, v5 => J_Volume_placeOf_27_b (J_Volume_placeOf_27 n σ) σ v1 v2 v4 v5
def J_Volume_placeOf (σ : CS) (a1 : Int32) (a2 : Int64) : Option (Int32) :=
  (J_Volume_isDirectory σ a1).bind fun x1 => (if x1 = (0 : Int32) then some ((-1) : Int32) else (J_LogFs_isName a2).bind fun x3 => (if x3 = (0 : Int32) then some ((-1) : Int32) else (J_Volume_size σ a1).bind fun x5 => J_Volume_placeOf_27 9000 σ a1 a2 x5 (0 : Int32)))
abbrev rm_Volume_placeOf : Room := { frames := 4, cells := 0, slots := 0, locals := 93 }
set_option maxHeartbeats 4000000 in
set_option maxRecDepth 100000 in
theorem c_Volume_placeOf {l : Launch} {dC : Nat → ClassId} {dI : Nat → Nat → Nat} {ga : Nat → Nat} {cB cI : ClassId} {A : Nat → Prop} (hDa : ∀ σ, va_D A (wC ga cB cI σ)) {σ : CS} {a1 : Int32} {a2 : Int64} {res : Int32} (hJ : J_Volume_placeOf σ a1 a2 = some res) :
    Met l y_Volume_placeOf (mw y_Volume_placeOf b_Volume_placeOf 6 (some .int)) rm_Volume_placeOf (va_Pc [.ref (ga 3), .int a1, .long a2] (kW (dC, dI) (tC cB cI) (wC ga cB cI σ))) (va_Qi (fun (x : Int32) (_ : Unit) => x = res) (fun _ t => kW (dC, dI) (tC cB cI) (wC ga cB cI σ) t) A) 0 0 A := by
  refine Met.ofW (cc := b_Volume_placeOf) (maxL := 6) (ret := (some .int)) (by decide) rfl ?_
  intro p e s m args below meth c s₁ B hml hv
  obtain ⟨rfl, hP, hK⟩ := hv
  have hx := B.exec
  have hb := B.bytes
  have hr := B.returns
  have hts := atoms_spec (ws := (mw y_Volume_placeOf b_Volume_placeOf 6 (some .int))) B.pre
  have htb : ∀ w ∈ tb, w.before [.ref (ga 3), .int a1, .long a2].toArray s = true := fun w h => hts w (mwIn h)
  have hown : s.vm.findClass "LogFs$Volume" = some m.cls := findClass_of_methodNamed B.named
  have hlocks := B.notSynchronized
  have hS : va_S A s.heap s.heap [] := va_S.rf
  have hl := lv_entry ([.ref (ga 3), .int a1, .long a2]) (n := 6) (Nat.le_of_ble_eq_true rfl)
  rw [lg_entry_eq]
  generalize (lg_sl ([.ref (ga 3), .int a1, .long a2]) ++ List.replicate (6 - (lg_sl ([.ref (ga 3), .int a1, .long a2])).length) Slot.unset).toArray = ls at hl ⊢
  have hl : lv_has ls 6 [(0, .ref (ga 3)), (1, .int a1), (2, .long a2)] := hl
  have blk27 : ∀ (n : Nat) (v1 : Int32) (v2 : Int64) (v4 : Int32) (v5 : Int32) (ls : Array Slot) (H : Heap) (locs : List Loc), J_Volume_placeOf_27 n σ v1 v2 v4 v5 = some res → lv_has ls 6 [(0, .ref (ga 3)), (1, .int v1), (2, .long v2), (4, .int v4), (5, .int v5)] → va_P (dC, dI) cls (wC ga cB cI σ) H → va_S A s.heap H locs → W p l e (headSpec (mw y_Volume_placeOf b_Volume_placeOf 6 (some .int)) rm_Volume_placeOf).room s m [.ref (ga 3), .int a1, .long a2].toArray below meth c H locs 0 0 (MQ below (va_Qi (fun (x : Int32) (_ : Unit) => x = res) (fun _ t => kW (dC, dI) (tC cB cI) (wC ga cB cI σ) t) A) [.ref (ga 3), .int a1, .long a2].toArray s 0 0 A) (F0 m 27 ls []) := by
    intro n
    induction n with
    | zero => intro v1 v2 v4 v5 ls H locs hJ; exact j_none hJ
    | succ n hk =>
      intro v1 v2 v4 v5 ls H locs hJ hl hP hS
      have hJ : J_Volume_placeOf_27_b (J_Volume_placeOf_27 n σ) σ v1 v2 v4 v5 = some res := hJ
      unfold J_Volume_placeOf_27_b at hJ
      refine lv_iload hx hb d_Volume_placeOf_27 (lv_at hl 4 rfl) ?_
      refine lv_iload hx hb d_Volume_placeOf_29 (lv_at hl 3 rfl) ?_
      refine lv_icmp_ge (tgt := 58) hx hb d_Volume_placeOf_31 (by decide) (fun h6 => ?_) (fun h6 => ?_)
      · have hJ := j_t hJ h6
        refine lv_iconst (v := ((-1) : Int32)) hx hb d_Volume_placeOf_58 (by decide) ?_
        have hJ := Option.some.inj hJ
        exact W.iret (v := ((-1) : Int32)) hx hb hr (fun t ht hW => ⟨⟨_, (), rfl, hJ, kW_end hP hK ht hW rfl⟩, hS.F ht⟩) hS.2.2 d_Volume_placeOf_59
      · have hJ := j_f hJ h6
        refine lv_aload_n hx hb d_Volume_placeOf_34 rfl (lv_at hl 0 rfl) ?_
        refine lv_iload_n hx hb d_Volume_placeOf_35 rfl (lv_at hl 1 rfl) ?_
        refine lv_iload hx hb d_Volume_placeOf_36 (lv_at hl 4 rfl) ?_
        obtain ⟨x7, e7, hJ⟩ := j_bind hJ
        refine va_calll (va_runV (As := [.int v1, .int v5]) (rest := []) ⟨hx, hb, hml, hown, htb⟩ (c_Volume_entryAt (l := l) (dC := dC) (dI := dI) hDa e7) (xcV 2 htb tw281 tw5 tw278 tw280 ts_Volume_entryAt rfl rfl hd_Volume_entryAt ⟨Nat.le_of_ble_eq_true rfl, Nat.le_of_ble_eq_true rfl⟩) (kW_V hP hK (va_recv (q0 := 3) (ci := 3) hK hP rfl rfl)) rfl rfl hl.1 rfl (lv_room (Nat.le_of_ble_eq_true rfl)) d_Volume_placeOf_38 ⟨Nat.le_of_ble_eq_true rfl, Nat.le_of_ble_eq_true rfl⟩) hS (fun q _ h => h) (fun q h => h) (fun r0 u t H locs ht hvm hw hB _ _ hS => ?_)
        subst r0
        have hP := kW_P hB ht
        refine lv_bipush (v := (8 : Int32)) hx hb d_Volume_placeOf_41 (by decide) ?_
        refine lv_lshl hx hb d_Volume_placeOf_43 rfl ?_
        refine lv_lload_n hx hb d_Volume_placeOf_44 rfl (lv_at hl 2 rfl) ?_
        refine W.lcmp hx hb d_Volume_placeOf_45 ?_
        refine lv_if_ne (tgt := 52) hx hb d_Volume_placeOf_46 (by decide) (fun h8 => ?_) (fun h8 => ?_)
        · have hJ := j_f hJ h8
          refine lv_iinc (k := 4) (v := (v5 + (8 : Int32))) hx hb d_Volume_placeOf_52 hl rfl rfl (Nat.le_of_ble_eq_true rfl) rfl (fun ls hl => ?_)
          have hl : lv_has ls 6 [(5, .int (v5 + (8 : Int32))), (0, .ref (ga 3)), (1, .int v1), (2, .long v2), (4, .int v4)] := hl
          refine lv_goto (tgt := 27) hx hb d_Volume_placeOf_55 (by decide) ?_
          exact hk _ _ _ _ _ _ _ hJ (lv_sub hl [1, 2, 3, 4, 0] rfl) hP hS
        · have hJ := j_t hJ h8
          refine lv_iload hx hb d_Volume_placeOf_49 (lv_at hl 4 rfl) ?_
          have hJ := Option.some.inj hJ
          exact W.iret (v := v5) hx hb hr (fun t ht hW => ⟨⟨_, (), rfl, hJ, kW_end hP hK ht hW rfl⟩, hS.F ht⟩) hS.2.2 d_Volume_placeOf_51
  unfold J_Volume_placeOf at hJ
  refine lv_aload_n hx hb d_Volume_placeOf_0 rfl (lv_at hl 0 rfl) ?_
  refine lv_iload_n hx hb d_Volume_placeOf_1 rfl (lv_at hl 1 rfl) ?_
  obtain ⟨x1, e1, hJ⟩ := j_bind hJ
  refine va_calli (va_runV (As := [.int a1]) (rest := []) ⟨hx, hb, hml, hown, htb⟩ (c_Volume_isDirectory (l := l) (dC := dC) (dI := dI) hDa e1) (xcV 1 htb tw263 tw5 tw260 tw261 tw262 rfl rfl hd_Volume_isDirectory ⟨Nat.le_of_ble_eq_true rfl, Nat.le_of_ble_eq_true rfl⟩) (kW_V hP hK (va_recv (q0 := 3) (ci := 3) hK hP rfl rfl)) rfl rfl hl.1 rfl (lv_room (Nat.le_of_ble_eq_true rfl)) d_Volume_placeOf_2 ⟨Nat.le_of_ble_eq_true rfl, Nat.le_of_ble_eq_true rfl⟩) hS (fun q _ h => h) (fun q h => h) (fun r0 u t H locs ht hvm hw hB _ _ hS => ?_)
  subst r0
  have hP := kW_P hB ht
  refine lv_if_eq (tgt := 15) hx hb d_Volume_placeOf_5 (by decide) (fun h2 => ?_) (fun h2 => ?_)
  · have hJ := j_t hJ h2
    refine lv_iconst (v := ((-1) : Int32)) hx hb d_Volume_placeOf_15 (by decide) ?_
    have hJ := Option.some.inj hJ
    exact W.iret (v := ((-1) : Int32)) hx hb hr (fun t ht hW => ⟨⟨_, (), rfl, hJ, kW_end hP hK ht hW rfl⟩, hS.F ht⟩) hS.2.2 d_Volume_placeOf_16
  · have hJ := j_f hJ h2
    refine lv_lload_n hx hb d_Volume_placeOf_8 rfl (lv_at hl 2 rfl) ?_
    obtain ⟨x3, e3, hJ⟩ := j_bind hJ
    refine va_calli (va_runSN (As := [.long a2]) (rest := []) ⟨hx, hb, hml, hown, htb⟩ (c_LogFs_isName (l := l) (dC := dC) (dI := dI) (σ := σ) hDa e3) (xcSN 1 htb tw266 tw1 tw264 tw265 rfl rfl hd_LogFs_isName ⟨Nat.le_of_ble_eq_true rfl, Nat.le_of_ble_eq_true rfl⟩) (kW_S hP hK) rfl rfl hl.1 rfl (lv_room (Nat.le_of_ble_eq_true rfl)) d_Volume_placeOf_9 ⟨Nat.le_of_ble_eq_true rfl, Nat.le_of_ble_eq_true rfl⟩) hS (fun q _ h => h) (fun q h => h) (fun r0 u t H locs ht hvm hw hB _ _ hS => ?_)
    subst r0
    have hP := kW_P hB ht
    refine lv_if_ne (tgt := 17) hx hb d_Volume_placeOf_12 (by decide) (fun h4 => ?_) (fun h4 => ?_)
    · have hJ := j_f hJ h4
      refine lv_aload_n hx hb d_Volume_placeOf_17 rfl (lv_at hl 0 rfl) ?_
      refine lv_iload_n hx hb d_Volume_placeOf_18 rfl (lv_at hl 1 rfl) ?_
      obtain ⟨x5, e5, hJ⟩ := j_bind hJ
      refine va_calli (va_runV (As := [.int a1]) (rest := []) ⟨hx, hb, hml, hown, htb⟩ (c_Volume_size (l := l) (dC := dC) (dI := dI) hDa e5) (xcV 1 htb tw277 tw5 tw274 tw275 tw276 rfl rfl hd_Volume_size ⟨Nat.le_of_ble_eq_true rfl, Nat.le_of_ble_eq_true rfl⟩) (kW_V hP hK (va_recv (q0 := 3) (ci := 3) hK hP rfl rfl)) rfl rfl hl.1 rfl (lv_room (Nat.le_of_ble_eq_true rfl)) d_Volume_placeOf_19 ⟨Nat.le_of_ble_eq_true rfl, Nat.le_of_ble_eq_true rfl⟩) hS (fun q _ h => h) (fun q h => h) (fun r0 u t H locs ht hvm hw hB _ _ hS => ?_)
      subst r0
      have hP := kW_P hB ht
      refine lv_istore hx hb d_Volume_placeOf_22 hl (Nat.le_of_ble_eq_true rfl) rfl (fun ls hl => ?_)
      have hl : lv_has ls 6 [(4, .int x5), (0, .ref (ga 3)), (1, .int a1), (2, .long a2)] := hl
      refine lv_iconst (v := (0 : Int32)) hx hb d_Volume_placeOf_24 (by decide) ?_
      refine lv_istore hx hb d_Volume_placeOf_25 hl (Nat.le_of_ble_eq_true rfl) rfl (fun ls hl => ?_)
      have hl : lv_has ls 6 [(5, .int (0 : Int32)), (4, .int x5), (0, .ref (ga 3)), (1, .int a1), (2, .long a2)] := hl
      exact blk27 9000 _ _ _ _ _ _ _ hJ (lv_sub hl [2, 3, 4, 1, 0] rfl) hP hS
    · have hJ := j_t hJ h4
      refine lv_iconst (v := ((-1) : Int32)) hx hb d_Volume_placeOf_15 (by decide) ?_
      have hJ := Option.some.inj hJ
      exact W.iret (v := ((-1) : Int32)) hx hb hr (fun t ht hW => ⟨⟨_, (), rfl, hJ, kW_end hP hK ht hW rfl⟩, hS.F ht⟩) hS.2.2 d_Volume_placeOf_16
def J_Volume_placeForEntry_8_b (k : Int32 → Int32 → Int32 → Option (Int32)) (σ : CS) (v1 : Int32) (v2 : Int32) (v3 : Int32) : Option (Int32) :=
  (if v2 ≤ v3 then some v2 else (J_Volume_entryAt σ v1 v3).bind fun x3 => (if (lg_cmp x3 (0 : Int64)) = (0 : Int32) then some v3 else k v1 v2 (v3 + (8 : Int32))))
def J_Volume_placeForEntry_8 : Nat → CS → Int32 → Int32 → Int32 → Option (Int32)
  | 0, _, _, _, _ => none
  | n + 1, σ, v1, v2, v3 => J_Volume_placeForEntry_8_b (J_Volume_placeForEntry_8 n σ) σ v1 v2 v3
def J_Volume_placeForEntry (σ : CS) (a1 : Int32) : Option (Int32) :=
  (J_Volume_size σ a1).bind fun x1 => J_Volume_placeForEntry_8 9000 σ a1 x1 (0 : Int32)
abbrev rm_Volume_placeForEntry : Room := { frames := 4, cells := 0, slots := 0, locals := 93 }
set_option maxHeartbeats 4000000 in
set_option maxRecDepth 100000 in
theorem c_Volume_placeForEntry {l : Launch} {dC : Nat → ClassId} {dI : Nat → Nat → Nat} {ga : Nat → Nat} {cB cI : ClassId} {A : Nat → Prop} (hDa : ∀ σ, va_D A (wC ga cB cI σ)) {σ : CS} {a1 : Int32} {res : Int32} (hJ : J_Volume_placeForEntry σ a1 = some res) :
    Met l y_Volume_placeForEntry (mw y_Volume_placeForEntry b_Volume_placeForEntry 4 (some .int)) rm_Volume_placeForEntry (va_Pc [.ref (ga 3), .int a1] (kW (dC, dI) (tC cB cI) (wC ga cB cI σ))) (va_Qi (fun (x : Int32) (_ : Unit) => x = res) (fun _ t => kW (dC, dI) (tC cB cI) (wC ga cB cI σ) t) A) 0 0 A := by
  refine Met.ofW (cc := b_Volume_placeForEntry) (maxL := 4) (ret := (some .int)) (by decide) rfl ?_
  intro p e s m args below meth c s₁ B hml hv
  obtain ⟨rfl, hP, hK⟩ := hv
  have hx := B.exec
  have hb := B.bytes
  have hr := B.returns
  have hts := atoms_spec (ws := (mw y_Volume_placeForEntry b_Volume_placeForEntry 4 (some .int))) B.pre
  have htb : ∀ w ∈ tb, w.before [.ref (ga 3), .int a1].toArray s = true := fun w h => hts w (mwIn h)
  have hown : s.vm.findClass "LogFs$Volume" = some m.cls := findClass_of_methodNamed B.named
  have hlocks := B.notSynchronized
  have hS : va_S A s.heap s.heap [] := va_S.rf
  have hl := lv_entry ([.ref (ga 3), .int a1]) (n := 4) (Nat.le_of_ble_eq_true rfl)
  rw [lg_entry_eq]
  generalize (lg_sl ([.ref (ga 3), .int a1]) ++ List.replicate (4 - (lg_sl ([.ref (ga 3), .int a1])).length) Slot.unset).toArray = ls at hl ⊢
  have hl : lv_has ls 4 [(0, .ref (ga 3)), (1, .int a1)] := hl
  have blk8 : ∀ (n : Nat) (v1 : Int32) (v2 : Int32) (v3 : Int32) (ls : Array Slot) (H : Heap) (locs : List Loc), J_Volume_placeForEntry_8 n σ v1 v2 v3 = some res → lv_has ls 4 [(0, .ref (ga 3)), (1, .int v1), (2, .int v2), (3, .int v3)] → va_P (dC, dI) cls (wC ga cB cI σ) H → va_S A s.heap H locs → W p l e (headSpec (mw y_Volume_placeForEntry b_Volume_placeForEntry 4 (some .int)) rm_Volume_placeForEntry).room s m [.ref (ga 3), .int a1].toArray below meth c H locs 0 0 (MQ below (va_Qi (fun (x : Int32) (_ : Unit) => x = res) (fun _ t => kW (dC, dI) (tC cB cI) (wC ga cB cI σ) t) A) [.ref (ga 3), .int a1].toArray s 0 0 A) (F0 m 8 ls []) := by
    intro n
    induction n with
    | zero => intro v1 v2 v3 ls H locs hJ; exact j_none hJ
    | succ n hk =>
      intro v1 v2 v3 ls H locs hJ hl hP hS
      have hJ : J_Volume_placeForEntry_8_b (J_Volume_placeForEntry_8 n σ) σ v1 v2 v3 = some res := hJ
      unfold J_Volume_placeForEntry_8_b at hJ
      refine lv_iload_n hx hb d_Volume_placeForEntry_8 rfl (lv_at hl 3 rfl) ?_
      refine lv_iload_n hx hb d_Volume_placeForEntry_9 rfl (lv_at hl 2 rfl) ?_
      refine lv_icmp_ge (tgt := 32) hx hb d_Volume_placeForEntry_10 (by decide) (fun h2 => ?_) (fun h2 => ?_)
      · have hJ := j_t hJ h2
        refine lv_iload_n hx hb d_Volume_placeForEntry_32 rfl (lv_at hl 2 rfl) ?_
        have hJ := Option.some.inj hJ
        exact W.iret (v := v2) hx hb hr (fun t ht hW => ⟨⟨_, (), rfl, hJ, kW_end hP hK ht hW rfl⟩, hS.F ht⟩) hS.2.2 d_Volume_placeForEntry_33
      · have hJ := j_f hJ h2
        refine lv_aload_n hx hb d_Volume_placeForEntry_13 rfl (lv_at hl 0 rfl) ?_
        refine lv_iload_n hx hb d_Volume_placeForEntry_14 rfl (lv_at hl 1 rfl) ?_
        refine lv_iload_n hx hb d_Volume_placeForEntry_15 rfl (lv_at hl 3 rfl) ?_
        obtain ⟨x3, e3, hJ⟩ := j_bind hJ
        refine va_calll (va_runV (As := [.int v1, .int v3]) (rest := []) ⟨hx, hb, hml, hown, htb⟩ (c_Volume_entryAt (l := l) (dC := dC) (dI := dI) hDa e3) (xcV 2 htb tw281 tw5 tw278 tw280 ts_Volume_entryAt rfl rfl hd_Volume_entryAt ⟨Nat.le_of_ble_eq_true rfl, Nat.le_of_ble_eq_true rfl⟩) (kW_V hP hK (va_recv (q0 := 3) (ci := 3) hK hP rfl rfl)) rfl rfl hl.1 rfl (lv_room (Nat.le_of_ble_eq_true rfl)) d_Volume_placeForEntry_16 ⟨Nat.le_of_ble_eq_true rfl, Nat.le_of_ble_eq_true rfl⟩) hS (fun q _ h => h) (fun q h => h) (fun r0 u t H locs ht hvm hw hB _ _ hS => ?_)
        subst r0
        have hP := kW_P hB ht
        refine lv_lconst (v := (0 : Int64)) hx hb d_Volume_placeForEntry_19 (by decide) ?_
        refine W.lcmp hx hb d_Volume_placeForEntry_20 ?_
        refine lv_if_ne (tgt := 26) hx hb d_Volume_placeForEntry_21 (by decide) (fun h4 => ?_) (fun h4 => ?_)
        · have hJ := j_f hJ h4
          refine lv_iinc (k := 3) (v := (v3 + (8 : Int32))) hx hb d_Volume_placeForEntry_26 hl rfl rfl (Nat.le_of_ble_eq_true rfl) rfl (fun ls hl => ?_)
          have hl : lv_has ls 4 [(3, .int (v3 + (8 : Int32))), (0, .ref (ga 3)), (1, .int v1), (2, .int v2)] := hl
          refine lv_goto (tgt := 8) hx hb d_Volume_placeForEntry_29 (by decide) ?_
          exact hk _ _ _ _ _ _ hJ (lv_sub hl [1, 2, 3, 0] rfl) hP hS
        · have hJ := j_t hJ h4
          refine lv_iload_n hx hb d_Volume_placeForEntry_24 rfl (lv_at hl 3 rfl) ?_
          have hJ := Option.some.inj hJ
          exact W.iret (v := v3) hx hb hr (fun t ht hW => ⟨⟨_, (), rfl, hJ, kW_end hP hK ht hW rfl⟩, hS.F ht⟩) hS.2.2 d_Volume_placeForEntry_25
  unfold J_Volume_placeForEntry at hJ
  refine lv_aload_n hx hb d_Volume_placeForEntry_0 rfl (lv_at hl 0 rfl) ?_
  refine lv_iload_n hx hb d_Volume_placeForEntry_1 rfl (lv_at hl 1 rfl) ?_
  obtain ⟨x1, e1, hJ⟩ := j_bind hJ
  refine va_calli (va_runV (As := [.int a1]) (rest := []) ⟨hx, hb, hml, hown, htb⟩ (c_Volume_size (l := l) (dC := dC) (dI := dI) hDa e1) (xcV 1 htb tw277 tw5 tw274 tw275 tw276 rfl rfl hd_Volume_size ⟨Nat.le_of_ble_eq_true rfl, Nat.le_of_ble_eq_true rfl⟩) (kW_V hP hK (va_recv (q0 := 3) (ci := 3) hK hP rfl rfl)) rfl rfl hl.1 rfl (lv_room (Nat.le_of_ble_eq_true rfl)) d_Volume_placeForEntry_2 ⟨Nat.le_of_ble_eq_true rfl, Nat.le_of_ble_eq_true rfl⟩) hS (fun q _ h => h) (fun q h => h) (fun r0 u t H locs ht hvm hw hB _ _ hS => ?_)
  subst r0
  have hP := kW_P hB ht
  refine lv_istore_n hx hb d_Volume_placeForEntry_5 rfl hl (Nat.le_of_ble_eq_true rfl) rfl (fun ls hl => ?_)
  have hl : lv_has ls 4 [(2, .int x1), (0, .ref (ga 3)), (1, .int a1)] := hl
  refine lv_iconst (v := (0 : Int32)) hx hb d_Volume_placeForEntry_6 (by decide) ?_
  refine lv_istore_n hx hb d_Volume_placeForEntry_7 rfl hl (Nat.le_of_ble_eq_true rfl) rfl (fun ls hl => ?_)
  have hl : lv_has ls 4 [(3, .int (0 : Int32)), (2, .int x1), (0, .ref (ga 3)), (1, .int a1)] := hl
  exact blk8 9000 _ _ _ _ _ _ hJ (lv_sub hl [2, 3, 1, 0] rfl) hP hS
def J_Volume_inodeAt (σ : CS) (a1 : Int32) (a2 : Int32) : Option (Int32) :=
  (J_Volume_entryAt σ a1 a2).bind fun x1 => (J_LogFs_byteOf x1 (0 : Int32)).bind fun x2 => some (x2 - (1 : Int32))
abbrev rm_Volume_inodeAt : Room := { frames := 4, cells := 0, slots := 0, locals := 93 }
set_option maxHeartbeats 4000000 in
set_option maxRecDepth 100000 in
theorem c_Volume_inodeAt {l : Launch} {dC : Nat → ClassId} {dI : Nat → Nat → Nat} {ga : Nat → Nat} {cB cI : ClassId} {A : Nat → Prop} (hDa : ∀ σ, va_D A (wC ga cB cI σ)) {σ : CS} {a1 : Int32} {a2 : Int32} {res : Int32} (hJ : J_Volume_inodeAt σ a1 a2 = some res) :
    Met l y_Volume_inodeAt (mw y_Volume_inodeAt b_Volume_inodeAt 3 (some .int)) rm_Volume_inodeAt (va_Pc [.ref (ga 3), .int a1, .int a2] (kW (dC, dI) (tC cB cI) (wC ga cB cI σ))) (va_Qi (fun (x : Int32) (_ : Unit) => x = res) (fun _ t => kW (dC, dI) (tC cB cI) (wC ga cB cI σ) t) A) 0 0 A := by
  refine Met.ofW (cc := b_Volume_inodeAt) (maxL := 3) (ret := (some .int)) (by decide) rfl ?_
  intro p e s m args below meth c s₁ B hml hv
  obtain ⟨rfl, hP, hK⟩ := hv
  have hx := B.exec
  have hb := B.bytes
  have hr := B.returns
  have hts := atoms_spec (ws := (mw y_Volume_inodeAt b_Volume_inodeAt 3 (some .int))) B.pre
  have htb : ∀ w ∈ tb, w.before [.ref (ga 3), .int a1, .int a2].toArray s = true := fun w h => hts w (mwIn h)
  have hown : s.vm.findClass "LogFs$Volume" = some m.cls := findClass_of_methodNamed B.named
  have hlocks := B.notSynchronized
  have hS : va_S A s.heap s.heap [] := va_S.rf
  have hl := lv_entry ([.ref (ga 3), .int a1, .int a2]) (n := 3) (Nat.le_of_ble_eq_true rfl)
  rw [lg_entry_eq]
  generalize (lg_sl ([.ref (ga 3), .int a1, .int a2]) ++ List.replicate (3 - (lg_sl ([.ref (ga 3), .int a1, .int a2])).length) Slot.unset).toArray = ls at hl ⊢
  have hl : lv_has ls 3 [(0, .ref (ga 3)), (1, .int a1), (2, .int a2)] := hl
  unfold J_Volume_inodeAt at hJ
  refine lv_aload_n hx hb d_Volume_inodeAt_0 rfl (lv_at hl 0 rfl) ?_
  refine lv_iload_n hx hb d_Volume_inodeAt_1 rfl (lv_at hl 1 rfl) ?_
  refine lv_iload_n hx hb d_Volume_inodeAt_2 rfl (lv_at hl 2 rfl) ?_
  obtain ⟨x1, e1, hJ⟩ := j_bind hJ
  refine va_calll (va_runV (As := [.int a1, .int a2]) (rest := []) ⟨hx, hb, hml, hown, htb⟩ (c_Volume_entryAt (l := l) (dC := dC) (dI := dI) hDa e1) (xcV 2 htb tw281 tw5 tw278 tw280 ts_Volume_entryAt rfl rfl hd_Volume_entryAt ⟨Nat.le_of_ble_eq_true rfl, Nat.le_of_ble_eq_true rfl⟩) (kW_V hP hK (va_recv (q0 := 3) (ci := 3) hK hP rfl rfl)) rfl rfl hl.1 rfl (lv_room (Nat.le_of_ble_eq_true rfl)) d_Volume_inodeAt_3 ⟨Nat.le_of_ble_eq_true rfl, Nat.le_of_ble_eq_true rfl⟩) hS (fun q _ h => h) (fun q h => h) (fun r0 u t H locs ht hvm hw hB _ _ hS => ?_)
  subst r0
  have hP := kW_P hB ht
  refine lv_iconst (v := (0 : Int32)) hx hb d_Volume_inodeAt_6 (by decide) ?_
  obtain ⟨x2, e2, hJ⟩ := j_bind hJ
  refine va_calli (va_runSN (As := [.long x1, .int (0 : Int32)]) (rest := []) ⟨hx, hb, hml, hown, htb⟩ (c_LogFs_byteOf (l := l) (dC := dC) (dI := dI) (σ := σ) hDa e2) (xcSN 2 htb tw269 tw1 tw390 tw268 rfl rfl hd_LogFs_byteOf ⟨Nat.le_of_ble_eq_true rfl, Nat.le_of_ble_eq_true rfl⟩) (kW_S hP hK) rfl rfl hl.1 rfl (lv_room (Nat.le_of_ble_eq_true rfl)) d_Volume_inodeAt_7 ⟨Nat.le_of_ble_eq_true rfl, Nat.le_of_ble_eq_true rfl⟩) hS (fun q _ h => h) (fun q h => h) (fun r0 u t H locs ht hvm hw hB _ _ hS => ?_)
  subst r0
  have hP := kW_P hB ht
  refine lv_iconst (v := (1 : Int32)) hx hb d_Volume_inodeAt_10 (by decide) ?_
  refine lv_isub hx hb d_Volume_inodeAt_11 ?_
  have hJ := Option.some.inj hJ
  exact W.iret (v := (x2 - (1 : Int32))) hx hb hr (fun t ht hW => ⟨⟨_, (), rfl, hJ, kW_end hP hK ht hW rfl⟩, hS.F ht⟩) hS.2.2 d_Volume_inodeAt_12
def J_Volume_entries_23_b (k : Int32 → Int32 → Int32 → Int32 → Option (Int32)) (σ : CS) (v1 : Int32) (v2 : Int32) (v3 : Int32) (v4 : Int32) : Option (Int32) :=
  (if v3 ≤ v4 then some v2 else (J_Volume_entryAt σ v1 v4).bind fun x4 => (if (lg_cmp x4 (0 : Int64)) = (0 : Int32) then k v1 v2 v3 (v4 + (8 : Int32)) else k v1 (v2 + (1 : Int32)) v3 (v4 + (8 : Int32))))
def J_Volume_entries_23 : Nat → CS → Int32 → Int32 → Int32 → Int32 → Option (Int32)
  | 0, _, _, _, _, _ => none
  | n + 1, σ, v1, v2, v3, v4 => J_Volume_entries_23_b (J_Volume_entries_23 n σ) σ v1 v2 v3 v4
def J_Volume_entries (σ : CS) (a1 : Int32) : Option (Int32) :=
  (J_Volume_isDirectory σ a1).bind fun x1 => (if x1 = (0 : Int32) then J_Volume_entries_23 9000 σ a1 (0 : Int32) (0 : Int32) (0 : Int32) else (J_Volume_size σ a1).bind fun x6 => J_Volume_entries_23 9000 σ a1 (0 : Int32) x6 (0 : Int32))
abbrev rm_Volume_entries : Room := { frames := 4, cells := 0, slots := 0, locals := 93 }
set_option maxHeartbeats 4000000 in
set_option maxRecDepth 100000 in
theorem c_Volume_entries {l : Launch} {dC : Nat → ClassId} {dI : Nat → Nat → Nat} {ga : Nat → Nat} {cB cI : ClassId} {A : Nat → Prop} (hDa : ∀ σ, va_D A (wC ga cB cI σ)) {σ : CS} {a1 : Int32} {res : Int32} (hJ : J_Volume_entries σ a1 = some res) :
    Met l y_Volume_entries (mw y_Volume_entries b_Volume_entries 5 (some .int)) rm_Volume_entries (va_Pc [.ref (ga 3), .int a1] (kW (dC, dI) (tC cB cI) (wC ga cB cI σ))) (va_Qi (fun (x : Int32) (_ : Unit) => x = res) (fun _ t => kW (dC, dI) (tC cB cI) (wC ga cB cI σ) t) A) 0 0 A := by
  refine Met.ofW (cc := b_Volume_entries) (maxL := 5) (ret := (some .int)) (by decide) rfl ?_
  intro p e s m args below meth c s₁ B hml hv
  obtain ⟨rfl, hP, hK⟩ := hv
  have hx := B.exec
  have hb := B.bytes
  have hr := B.returns
  have hts := atoms_spec (ws := (mw y_Volume_entries b_Volume_entries 5 (some .int))) B.pre
  have htb : ∀ w ∈ tb, w.before [.ref (ga 3), .int a1].toArray s = true := fun w h => hts w (mwIn h)
  have hown : s.vm.findClass "LogFs$Volume" = some m.cls := findClass_of_methodNamed B.named
  have hlocks := B.notSynchronized
  have hS : va_S A s.heap s.heap [] := va_S.rf
  have hl := lv_entry ([.ref (ga 3), .int a1]) (n := 5) (Nat.le_of_ble_eq_true rfl)
  rw [lg_entry_eq]
  generalize (lg_sl ([.ref (ga 3), .int a1]) ++ List.replicate (5 - (lg_sl ([.ref (ga 3), .int a1])).length) Slot.unset).toArray = ls at hl ⊢
  have hl : lv_has ls 5 [(0, .ref (ga 3)), (1, .int a1)] := hl
  have blk23 : ∀ (n : Nat) (v1 : Int32) (v2 : Int32) (v3 : Int32) (v4 : Int32) (ls : Array Slot) (H : Heap) (locs : List Loc), J_Volume_entries_23 n σ v1 v2 v3 v4 = some res → lv_has ls 5 [(0, .ref (ga 3)), (1, .int v1), (2, .int v2), (3, .int v3), (4, .int v4)] → va_P (dC, dI) cls (wC ga cB cI σ) H → va_S A s.heap H locs → W p l e (headSpec (mw y_Volume_entries b_Volume_entries 5 (some .int)) rm_Volume_entries).room s m [.ref (ga 3), .int a1].toArray below meth c H locs 0 0 (MQ below (va_Qi (fun (x : Int32) (_ : Unit) => x = res) (fun _ t => kW (dC, dI) (tC cB cI) (wC ga cB cI σ) t) A) [.ref (ga 3), .int a1].toArray s 0 0 A) (F0 m 23 ls []) := by
    intro n
    induction n with
    | zero => intro v1 v2 v3 v4 ls H locs hJ; exact j_none hJ
    | succ n hk =>
      intro v1 v2 v3 v4 ls H locs hJ hl hP hS
      have hJ : J_Volume_entries_23_b (J_Volume_entries_23 n σ) σ v1 v2 v3 v4 = some res := hJ
      unfold J_Volume_entries_23_b at hJ
      refine lv_iload hx hb d_Volume_entries_23 (lv_at hl 4 rfl) ?_
      refine lv_iload_n hx hb d_Volume_entries_25 rfl (lv_at hl 3 rfl) ?_
      refine lv_icmp_ge (tgt := 50) hx hb d_Volume_entries_26 (by decide) (fun h3 => ?_) (fun h3 => ?_)
      · have hJ := j_t hJ h3
        refine lv_iload_n hx hb d_Volume_entries_50 rfl (lv_at hl 2 rfl) ?_
        have hJ := Option.some.inj hJ
        exact W.iret (v := v2) hx hb hr (fun t ht hW => ⟨⟨_, (), rfl, hJ, kW_end hP hK ht hW rfl⟩, hS.F ht⟩) hS.2.2 d_Volume_entries_51
      · have hJ := j_f hJ h3
        refine lv_aload_n hx hb d_Volume_entries_29 rfl (lv_at hl 0 rfl) ?_
        refine lv_iload_n hx hb d_Volume_entries_30 rfl (lv_at hl 1 rfl) ?_
        refine lv_iload hx hb d_Volume_entries_31 (lv_at hl 4 rfl) ?_
        obtain ⟨x4, e4, hJ⟩ := j_bind hJ
        refine va_calll (va_runV (As := [.int v1, .int v4]) (rest := []) ⟨hx, hb, hml, hown, htb⟩ (c_Volume_entryAt (l := l) (dC := dC) (dI := dI) hDa e4) (xcV 2 htb tw281 tw5 tw278 tw280 ts_Volume_entryAt rfl rfl hd_Volume_entryAt ⟨Nat.le_of_ble_eq_true rfl, Nat.le_of_ble_eq_true rfl⟩) (kW_V hP hK (va_recv (q0 := 3) (ci := 3) hK hP rfl rfl)) rfl rfl hl.1 rfl (lv_room (Nat.le_of_ble_eq_true rfl)) d_Volume_entries_33 ⟨Nat.le_of_ble_eq_true rfl, Nat.le_of_ble_eq_true rfl⟩) hS (fun q _ h => h) (fun q h => h) (fun r0 u t H locs ht hvm hw hB _ _ hS => ?_)
        subst r0
        have hP := kW_P hB ht
        refine lv_lconst (v := (0 : Int64)) hx hb d_Volume_entries_36 (by decide) ?_
        refine W.lcmp hx hb d_Volume_entries_37 ?_
        refine lv_if_eq (tgt := 44) hx hb d_Volume_entries_38 (by decide) (fun h5 => ?_) (fun h5 => ?_)
        · have hJ := j_t hJ h5
          refine lv_iinc (k := 4) (v := (v4 + (8 : Int32))) hx hb d_Volume_entries_44 hl rfl rfl (Nat.le_of_ble_eq_true rfl) rfl (fun ls hl => ?_)
          have hl : lv_has ls 5 [(4, .int (v4 + (8 : Int32))), (0, .ref (ga 3)), (1, .int v1), (2, .int v2), (3, .int v3)] := hl
          refine lv_goto (tgt := 23) hx hb d_Volume_entries_47 (by decide) ?_
          exact hk _ _ _ _ _ _ _ hJ (lv_sub hl [1, 2, 3, 4, 0] rfl) hP hS
        · have hJ := j_f hJ h5
          refine lv_iinc (k := 2) (v := (v2 + (1 : Int32))) hx hb d_Volume_entries_41 hl rfl rfl (Nat.le_of_ble_eq_true rfl) rfl (fun ls hl => ?_)
          have hl : lv_has ls 5 [(2, .int (v2 + (1 : Int32))), (0, .ref (ga 3)), (1, .int v1), (3, .int v3), (4, .int v4)] := hl
          refine lv_iinc (k := 4) (v := (v4 + (8 : Int32))) hx hb d_Volume_entries_44 hl rfl rfl (Nat.le_of_ble_eq_true rfl) rfl (fun ls hl => ?_)
          have hl : lv_has ls 5 [(4, .int (v4 + (8 : Int32))), (2, .int (v2 + (1 : Int32))), (0, .ref (ga 3)), (1, .int v1), (3, .int v3)] := hl
          refine lv_goto (tgt := 23) hx hb d_Volume_entries_47 (by decide) ?_
          exact hk _ _ _ _ _ _ _ hJ (lv_sub hl [2, 3, 1, 4, 0] rfl) hP hS
  unfold J_Volume_entries at hJ
  refine lv_iconst (v := (0 : Int32)) hx hb d_Volume_entries_0 (by decide) ?_
  refine lv_istore_n hx hb d_Volume_entries_1 rfl hl (Nat.le_of_ble_eq_true rfl) rfl (fun ls hl => ?_)
  have hl : lv_has ls 5 [(2, .int (0 : Int32)), (0, .ref (ga 3)), (1, .int a1)] := hl
  refine lv_aload_n hx hb d_Volume_entries_2 rfl (lv_at hl 1 rfl) ?_
  refine lv_iload_n hx hb d_Volume_entries_3 rfl (lv_at hl 2 rfl) ?_
  obtain ⟨x1, e1, hJ⟩ := j_bind hJ
  refine va_calli (va_runV (As := [.int a1]) (rest := []) ⟨hx, hb, hml, hown, htb⟩ (c_Volume_isDirectory (l := l) (dC := dC) (dI := dI) hDa e1) (xcV 1 htb tw263 tw5 tw260 tw261 tw262 rfl rfl hd_Volume_isDirectory ⟨Nat.le_of_ble_eq_true rfl, Nat.le_of_ble_eq_true rfl⟩) (kW_V hP hK (va_recv (q0 := 3) (ci := 3) hK hP rfl rfl)) rfl rfl hl.1 rfl (lv_room (Nat.le_of_ble_eq_true rfl)) d_Volume_entries_4 ⟨Nat.le_of_ble_eq_true rfl, Nat.le_of_ble_eq_true rfl⟩) hS (fun q _ h => h) (fun q h => h) (fun r0 u t H locs ht hvm hw hB _ _ hS => ?_)
  subst r0
  have hP := kW_P hB ht
  refine lv_if_eq (tgt := 18) hx hb d_Volume_entries_7 (by decide) (fun h2 => ?_) (fun h2 => ?_)
  · have hJ := j_t hJ h2
    refine lv_iconst (v := (0 : Int32)) hx hb d_Volume_entries_18 (by decide) ?_
    refine lv_istore_n hx hb d_Volume_entries_19 rfl hl (Nat.le_of_ble_eq_true rfl) rfl (fun ls hl => ?_)
    have hl : lv_has ls 5 [(3, .int (0 : Int32)), (2, .int (0 : Int32)), (0, .ref (ga 3)), (1, .int a1)] := hl
    refine lv_iconst (v := (0 : Int32)) hx hb d_Volume_entries_20 (by decide) ?_
    refine lv_istore hx hb d_Volume_entries_21 hl (Nat.le_of_ble_eq_true rfl) rfl (fun ls hl => ?_)
    have hl : lv_has ls 5 [(4, .int (0 : Int32)), (3, .int (0 : Int32)), (2, .int (0 : Int32)), (0, .ref (ga 3)), (1, .int a1)] := hl
    exact blk23 9000 _ _ _ _ _ _ _ hJ (lv_sub hl [3, 4, 2, 1, 0] rfl) hP hS
  · have hJ := j_f hJ h2
    refine lv_aload_n hx hb d_Volume_entries_10 rfl (lv_at hl 1 rfl) ?_
    refine lv_iload_n hx hb d_Volume_entries_11 rfl (lv_at hl 2 rfl) ?_
    obtain ⟨x6, e6, hJ⟩ := j_bind hJ
    refine va_calli (va_runV (As := [.int a1]) (rest := []) ⟨hx, hb, hml, hown, htb⟩ (c_Volume_size (l := l) (dC := dC) (dI := dI) hDa e6) (xcV 1 htb tw277 tw5 tw274 tw275 tw276 rfl rfl hd_Volume_size ⟨Nat.le_of_ble_eq_true rfl, Nat.le_of_ble_eq_true rfl⟩) (kW_V hP hK (va_recv (q0 := 3) (ci := 3) hK hP rfl rfl)) rfl rfl hl.1 rfl (lv_room (Nat.le_of_ble_eq_true rfl)) d_Volume_entries_12 ⟨Nat.le_of_ble_eq_true rfl, Nat.le_of_ble_eq_true rfl⟩) hS (fun q _ h => h) (fun q h => h) (fun r0 u t H locs ht hvm hw hB _ _ hS => ?_)
    subst r0
    have hP := kW_P hB ht
    refine lv_goto (tgt := 19) hx hb d_Volume_entries_15 (by decide) ?_
    refine lv_istore_n hx hb d_Volume_entries_19 rfl hl (Nat.le_of_ble_eq_true rfl) rfl (fun ls hl => ?_)
    have hl : lv_has ls 5 [(3, .int x6), (2, .int (0 : Int32)), (0, .ref (ga 3)), (1, .int a1)] := hl
    refine lv_iconst (v := (0 : Int32)) hx hb d_Volume_entries_20 (by decide) ?_
    refine lv_istore hx hb d_Volume_entries_21 hl (Nat.le_of_ble_eq_true rfl) rfl (fun ls hl => ?_)
    have hl : lv_has ls 5 [(4, .int (0 : Int32)), (3, .int x6), (2, .int (0 : Int32)), (0, .ref (ga 3)), (1, .int a1)] := hl
    exact blk23 9000 _ _ _ _ _ _ _ hJ (lv_sub hl [3, 4, 2, 1, 0] rfl) hP hS
def J_Volume_blocksToTake_41 (σ : CS) (v3 : Int32) (v4 : Int32) (t0 : Int32) : Option (Int32) :=
  (if t0 = (0 : Int32) then some ((v4 - v3) + (0 : Int32)) else some ((v4 - v3) + (1 : Int32)))
def J_Volume_blocksToTake_40 (σ : CS) (v3 : Int32) (v4 : Int32) : Option (Int32) :=
  J_Volume_blocksToTake_41 σ v3 v4 (0 : Int32)
def J_Volume_blocksToTake (σ : CS) (a1 : Int32) (a2 : Int32) : Option (Int32) :=
  (J_Volume_size σ a1).bind fun x1 => (J_LogFs_blocksFor x1).bind fun x2 => (J_LogFs_blocksFor a2).bind fun x3 => (if x2 < x3 then (if x3 ≤ (10 : Int32) then J_Volume_blocksToTake_40 σ x2 x3 else (if (10 : Int32) < x2 then J_Volume_blocksToTake_40 σ x2 x3 else J_Volume_blocksToTake_41 σ x2 x3 (1 : Int32))) else some (0 : Int32))
abbrev rm_Volume_blocksToTake : Room := { frames := 3, cells := 0, slots := 0, locals := 65 }
set_option maxHeartbeats 4000000 in
set_option maxRecDepth 100000 in
theorem c_Volume_blocksToTake {l : Launch} {dC : Nat → ClassId} {dI : Nat → Nat → Nat} {ga : Nat → Nat} {cB cI : ClassId} {A : Nat → Prop} (hDa : ∀ σ, va_D A (wC ga cB cI σ)) {σ : CS} {a1 : Int32} {a2 : Int32} {res : Int32} (hJ : J_Volume_blocksToTake σ a1 a2 = some res) :
    Met l y_Volume_blocksToTake (mw y_Volume_blocksToTake b_Volume_blocksToTake 6 (some .int)) rm_Volume_blocksToTake (va_Pc [.ref (ga 3), .int a1, .int a2] (kW (dC, dI) (tC cB cI) (wC ga cB cI σ))) (va_Qi (fun (x : Int32) (_ : Unit) => x = res) (fun _ t => kW (dC, dI) (tC cB cI) (wC ga cB cI σ) t) A) 0 0 A := by
  refine Met.ofW (cc := b_Volume_blocksToTake) (maxL := 6) (ret := (some .int)) (by decide) rfl ?_
  intro p e s m args below meth c s₁ B hml hv
  obtain ⟨rfl, hP, hK⟩ := hv
  have hx := B.exec
  have hb := B.bytes
  have hr := B.returns
  have hts := atoms_spec (ws := (mw y_Volume_blocksToTake b_Volume_blocksToTake 6 (some .int))) B.pre
  have htb : ∀ w ∈ tb, w.before [.ref (ga 3), .int a1, .int a2].toArray s = true := fun w h => hts w (mwIn h)
  have hown : s.vm.findClass "LogFs$Volume" = some m.cls := findClass_of_methodNamed B.named
  have hlocks := B.notSynchronized
  have hS : va_S A s.heap s.heap [] := va_S.rf
  have hl := lv_entry ([.ref (ga 3), .int a1, .int a2]) (n := 6) (Nat.le_of_ble_eq_true rfl)
  rw [lg_entry_eq]
  generalize (lg_sl ([.ref (ga 3), .int a1, .int a2]) ++ List.replicate (6 - (lg_sl ([.ref (ga 3), .int a1, .int a2])).length) Slot.unset).toArray = ls at hl ⊢
  have hl : lv_has ls 6 [(0, .ref (ga 3)), (1, .int a1), (2, .int a2)] := hl
  have blk41 : ∀ (v3 : Int32) (v4 : Int32) (t0 : Int32) (ls : Array Slot) (H : Heap) (locs : List Loc), J_Volume_blocksToTake_41 σ v3 v4 t0 = some res → lv_has ls 6 [(3, .int v3), (4, .int v4)] → va_P (dC, dI) cls (wC ga cB cI σ) H → va_S A s.heap H locs → W p l e (headSpec (mw y_Volume_blocksToTake b_Volume_blocksToTake 6 (some .int)) rm_Volume_blocksToTake).room s m [.ref (ga 3), .int a1, .int a2].toArray below meth c H locs 0 0 (MQ below (va_Qi (fun (x : Int32) (_ : Unit) => x = res) (fun _ t => kW (dC, dI) (tC cB cI) (wC ga cB cI σ) t) A) [.ref (ga 3), .int a1, .int a2].toArray s 0 0 A) (F0 m 41 ls [.int t0]) := by
    intro v3 v4 t0 ls H locs hJ hl hP hS
    unfold J_Volume_blocksToTake_41 at hJ
    refine lv_istore hx hb d_Volume_blocksToTake_41 hl (Nat.le_of_ble_eq_true rfl) rfl (fun ls hl => ?_)
    have hl : lv_has ls 6 [(5, .int t0), (3, .int v3), (4, .int v4)] := hl
    refine lv_iload hx hb d_Volume_blocksToTake_43 (lv_at hl 2 rfl) ?_
    refine lv_iload_n hx hb d_Volume_blocksToTake_45 rfl (lv_at hl 1 rfl) ?_
    refine lv_isub hx hb d_Volume_blocksToTake_46 ?_
    refine lv_iload hx hb d_Volume_blocksToTake_47 (lv_at hl 0 rfl) ?_
    refine lv_if_eq (tgt := 56) hx hb d_Volume_blocksToTake_49 (by decide) (fun h6 => ?_) (fun h6 => ?_)
    · have hJ := j_t hJ h6
      refine lv_iconst (v := (0 : Int32)) hx hb d_Volume_blocksToTake_56 (by decide) ?_
      refine lv_iadd hx hb d_Volume_blocksToTake_57 ?_
      have hJ := Option.some.inj hJ
      exact W.iret (v := ((v4 - v3) + (0 : Int32))) hx hb hr (fun t ht hW => ⟨⟨_, (), rfl, hJ, kW_end hP hK ht hW rfl⟩, hS.F ht⟩) hS.2.2 d_Volume_blocksToTake_58
    · have hJ := j_f hJ h6
      refine lv_iconst (v := (1 : Int32)) hx hb d_Volume_blocksToTake_52 (by decide) ?_
      refine lv_goto (tgt := 57) hx hb d_Volume_blocksToTake_53 (by decide) ?_
      refine lv_iadd hx hb d_Volume_blocksToTake_57 ?_
      have hJ := Option.some.inj hJ
      exact W.iret (v := ((v4 - v3) + (1 : Int32))) hx hb hr (fun t ht hW => ⟨⟨_, (), rfl, hJ, kW_end hP hK ht hW rfl⟩, hS.F ht⟩) hS.2.2 d_Volume_blocksToTake_58
  have blk40 : ∀ (v3 : Int32) (v4 : Int32) (ls : Array Slot) (H : Heap) (locs : List Loc), J_Volume_blocksToTake_40 σ v3 v4 = some res → lv_has ls 6 [(3, .int v3), (4, .int v4)] → va_P (dC, dI) cls (wC ga cB cI σ) H → va_S A s.heap H locs → W p l e (headSpec (mw y_Volume_blocksToTake b_Volume_blocksToTake 6 (some .int)) rm_Volume_blocksToTake).room s m [.ref (ga 3), .int a1, .int a2].toArray below meth c H locs 0 0 (MQ below (va_Qi (fun (x : Int32) (_ : Unit) => x = res) (fun _ t => kW (dC, dI) (tC cB cI) (wC ga cB cI σ) t) A) [.ref (ga 3), .int a1, .int a2].toArray s 0 0 A) (F0 m 40 ls []) := by
    intro v3 v4 ls H locs hJ hl hP hS
    unfold J_Volume_blocksToTake_40 at hJ
    refine lv_iconst (v := (0 : Int32)) hx hb d_Volume_blocksToTake_40 (by decide) ?_
    exact blk41 _ _ _ _ _ _ hJ (lv_sub hl [0, 1] rfl) hP hS
  unfold J_Volume_blocksToTake at hJ
  refine lv_aload_n hx hb d_Volume_blocksToTake_0 rfl (lv_at hl 0 rfl) ?_
  refine lv_iload_n hx hb d_Volume_blocksToTake_1 rfl (lv_at hl 1 rfl) ?_
  obtain ⟨x1, e1, hJ⟩ := j_bind hJ
  refine va_calli (va_runV (As := [.int a1]) (rest := []) ⟨hx, hb, hml, hown, htb⟩ (c_Volume_size (l := l) (dC := dC) (dI := dI) hDa e1) (xcV 1 htb tw277 tw5 tw274 tw275 tw276 rfl rfl hd_Volume_size ⟨Nat.le_of_ble_eq_true rfl, Nat.le_of_ble_eq_true rfl⟩) (kW_V hP hK (va_recv (q0 := 3) (ci := 3) hK hP rfl rfl)) rfl rfl hl.1 rfl (lv_room (Nat.le_of_ble_eq_true rfl)) d_Volume_blocksToTake_2 ⟨Nat.le_of_ble_eq_true rfl, Nat.le_of_ble_eq_true rfl⟩) hS (fun q _ h => h) (fun q h => h) (fun r0 u t H locs ht hvm hw hB _ _ hS => ?_)
  subst r0
  have hP := kW_P hB ht
  obtain ⟨x2, e2, hJ⟩ := j_bind hJ
  refine va_calli (va_runSN (As := [.int x1]) (rest := []) ⟨hx, hb, hml, hown, htb⟩ (c_LogFs_blocksFor (l := l) (dC := dC) (dI := dI) (σ := σ) hDa e2) (xcSN 1 htb tw300 tw1 tw298 tw299 rfl rfl hd_LogFs_blocksFor ⟨Nat.le_of_ble_eq_true rfl, Nat.le_of_ble_eq_true rfl⟩) (kW_S hP hK) rfl rfl hl.1 rfl (lv_room (Nat.le_of_ble_eq_true rfl)) d_Volume_blocksToTake_5 ⟨Nat.le_of_ble_eq_true rfl, Nat.le_of_ble_eq_true rfl⟩) hS (fun q _ h => h) (fun q h => h) (fun r0 u t H locs ht hvm hw hB _ _ hS => ?_)
  subst r0
  have hP := kW_P hB ht
  refine lv_istore_n hx hb d_Volume_blocksToTake_8 rfl hl (Nat.le_of_ble_eq_true rfl) rfl (fun ls hl => ?_)
  have hl : lv_has ls 6 [(3, .int x2), (0, .ref (ga 3)), (1, .int a1), (2, .int a2)] := hl
  refine lv_iload_n hx hb d_Volume_blocksToTake_9 rfl (lv_at hl 3 rfl) ?_
  obtain ⟨x3, e3, hJ⟩ := j_bind hJ
  refine va_calli (va_runSN (As := [.int a2]) (rest := []) ⟨hx, hb, hml, hown, htb⟩ (c_LogFs_blocksFor (l := l) (dC := dC) (dI := dI) (σ := σ) hDa e3) (xcSN 1 htb tw300 tw1 tw298 tw299 rfl rfl hd_LogFs_blocksFor ⟨Nat.le_of_ble_eq_true rfl, Nat.le_of_ble_eq_true rfl⟩) (kW_S hP hK) rfl rfl hl.1 rfl (lv_room (Nat.le_of_ble_eq_true rfl)) d_Volume_blocksToTake_10 ⟨Nat.le_of_ble_eq_true rfl, Nat.le_of_ble_eq_true rfl⟩) hS (fun q _ h => h) (fun q h => h) (fun r0 u t H locs ht hvm hw hB _ _ hS => ?_)
  subst r0
  have hP := kW_P hB ht
  refine lv_istore hx hb d_Volume_blocksToTake_13 hl (Nat.le_of_ble_eq_true rfl) rfl (fun ls hl => ?_)
  have hl : lv_has ls 6 [(4, .int x3), (3, .int x2), (0, .ref (ga 3)), (1, .int a1), (2, .int a2)] := hl
  refine lv_iload hx hb d_Volume_blocksToTake_15 (lv_at hl 0 rfl) ?_
  refine lv_iload_n hx hb d_Volume_blocksToTake_17 rfl (lv_at hl 1 rfl) ?_
  refine lv_icmp_gt (tgt := 23) hx hb d_Volume_blocksToTake_18 (by decide) (fun h4 => ?_) (fun h4 => ?_)
  · have hJ := j_t hJ h4
    refine lv_iload hx hb d_Volume_blocksToTake_23 (lv_at hl 0 rfl) ?_
    refine lv_bipush (v := (10 : Int32)) hx hb d_Volume_blocksToTake_25 (by decide) ?_
    refine lv_icmp_le (tgt := 40) hx hb d_Volume_blocksToTake_27 (by decide) (fun h5 => ?_) (fun h5 => ?_)
    · have hJ := j_t hJ h5
      exact blk40 _ _ _ _ _ hJ (lv_sub hl [1, 0] rfl) hP hS
    · have hJ := j_f hJ h5
      refine lv_iload_n hx hb d_Volume_blocksToTake_30 rfl (lv_at hl 1 rfl) ?_
      refine lv_bipush (v := (10 : Int32)) hx hb d_Volume_blocksToTake_31 (by decide) ?_
      refine lv_icmp_gt (tgt := 40) hx hb d_Volume_blocksToTake_33 (by decide) (fun h7 => ?_) (fun h7 => ?_)
      · have hJ := j_t hJ h7
        exact blk40 _ _ _ _ _ hJ (lv_sub hl [1, 0] rfl) hP hS
      · have hJ := j_f hJ h7
        refine lv_iconst (v := (1 : Int32)) hx hb d_Volume_blocksToTake_36 (by decide) ?_
        refine lv_goto (tgt := 41) hx hb d_Volume_blocksToTake_37 (by decide) ?_
        exact blk41 _ _ _ _ _ _ hJ (lv_sub hl [1, 0] rfl) hP hS
  · have hJ := j_f hJ h4
    refine lv_iconst (v := (0 : Int32)) hx hb d_Volume_blocksToTake_21 (by decide) ?_
    have hJ := Option.some.inj hJ
    exact W.iret (v := (0 : Int32)) hx hb hr (fun t ht hW => ⟨⟨_, (), rfl, hJ, kW_end hP hK ht hW rfl⟩, hS.F ht⟩) hS.2.2 d_Volume_blocksToTake_22
def J_Volume_fits (σ : CS) (a1 : Int32) (a2 : Int32) : Option (Int32) :=
  (if (1000 : Int32) < a2 then some (0 : Int32) else (J_Volume_blocksToTake σ a1 a2).bind fun x2 => (J_Volume_freeBlocks σ).bind fun x3 => (if x3 < x2 then some (0 : Int32) else some (1 : Int32)))
abbrev rm_Volume_fits : Room := { frames := 4, cells := 0, slots := 0, locals := 90 }
set_option maxHeartbeats 4000000 in
set_option maxRecDepth 100000 in
theorem c_Volume_fits {l : Launch} {dC : Nat → ClassId} {dI : Nat → Nat → Nat} {ga : Nat → Nat} {cB cI : ClassId} {A : Nat → Prop} (hDa : ∀ σ, va_D A (wC ga cB cI σ)) {σ : CS} {a1 : Int32} {a2 : Int32} {res : Int32} (hJ : J_Volume_fits σ a1 a2 = some res) :
    Met l y_Volume_fits (mw y_Volume_fits b_Volume_fits 3 (some .boolean)) rm_Volume_fits (va_Pc [.ref (ga 3), .int a1, .int a2] (kW (dC, dI) (tC cB cI) (wC ga cB cI σ))) (va_Qi (fun (x : Int32) (_ : Unit) => x = res) (fun _ t => kW (dC, dI) (tC cB cI) (wC ga cB cI σ) t) A) 0 0 A := by
  refine Met.ofW (cc := b_Volume_fits) (maxL := 3) (ret := (some .boolean)) (by decide) rfl ?_
  intro p e s m args below meth c s₁ B hml hv
  obtain ⟨rfl, hP, hK⟩ := hv
  have hx := B.exec
  have hb := B.bytes
  have hr := B.returns
  have hts := atoms_spec (ws := (mw y_Volume_fits b_Volume_fits 3 (some .boolean))) B.pre
  have htb : ∀ w ∈ tb, w.before [.ref (ga 3), .int a1, .int a2].toArray s = true := fun w h => hts w (mwIn h)
  have hown : s.vm.findClass "LogFs$Volume" = some m.cls := findClass_of_methodNamed B.named
  have hlocks := B.notSynchronized
  have hS : va_S A s.heap s.heap [] := va_S.rf
  have hl := lv_entry ([.ref (ga 3), .int a1, .int a2]) (n := 3) (Nat.le_of_ble_eq_true rfl)
  rw [lg_entry_eq]
  generalize (lg_sl ([.ref (ga 3), .int a1, .int a2]) ++ List.replicate (3 - (lg_sl ([.ref (ga 3), .int a1, .int a2])).length) Slot.unset).toArray = ls at hl ⊢
  have hl : lv_has ls 3 [(0, .ref (ga 3)), (1, .int a1), (2, .int a2)] := hl
  unfold J_Volume_fits at hJ
  refine lv_iload_n hx hb d_Volume_fits_0 rfl (lv_at hl 2 rfl) ?_
  refine lv_sipush (v := (1000 : Int32)) hx hb d_Volume_fits_1 (by decide) ?_
  refine lv_icmp_gt (tgt := 24) hx hb d_Volume_fits_4 (by decide) (fun h1 => ?_) (fun h1 => ?_)
  · have hJ := j_t hJ h1
    refine lv_iconst (v := (0 : Int32)) hx hb d_Volume_fits_24 (by decide) ?_
    have hJ := Option.some.inj hJ
    exact W.zret (v := (0 : Int32)) (ty := .boolean) hx hb hr (by decide +kernel) (fun t ht hW => ⟨⟨_, (), rfl, hJ, kW_end hP hK ht hW rfl⟩, hS.F ht⟩) hS.2.2 d_Volume_fits_25
  · have hJ := j_f hJ h1
    refine lv_aload_n hx hb d_Volume_fits_7 rfl (lv_at hl 0 rfl) ?_
    refine lv_iload_n hx hb d_Volume_fits_8 rfl (lv_at hl 1 rfl) ?_
    refine lv_iload_n hx hb d_Volume_fits_9 rfl (lv_at hl 2 rfl) ?_
    obtain ⟨x2, e2, hJ⟩ := j_bind hJ
    refine va_calli (va_runV (As := [.int a1, .int a2]) (rest := []) ⟨hx, hb, hml, hown, htb⟩ (c_Volume_blocksToTake (l := l) (dC := dC) (dI := dI) hDa e2) (xcV 2 htb tw297 tw5 tw294 tw296 ts_Volume_blocksToTake rfl rfl hd_Volume_blocksToTake ⟨Nat.le_of_ble_eq_true rfl, Nat.le_of_ble_eq_true rfl⟩) (kW_V hP hK (va_recv (q0 := 3) (ci := 3) hK hP rfl rfl)) rfl rfl hl.1 rfl (lv_room (Nat.le_of_ble_eq_true rfl)) d_Volume_fits_10 ⟨Nat.le_of_ble_eq_true rfl, Nat.le_of_ble_eq_true rfl⟩) hS (fun q _ h => h) (fun q h => h) (fun r0 u t H locs ht hvm hw hB _ _ hS => ?_)
    subst r0
    have hP := kW_P hB ht
    refine lv_aload_n hx hb d_Volume_fits_13 rfl (lv_at hl 0 rfl) ?_
    obtain ⟨x3, e3, hJ⟩ := j_bind hJ
    refine va_calli (va_runV (As := []) (rest := [.int x2]) ⟨hx, hb, hml, hown, htb⟩ (c_Volume_freeBlocks (l := l) (dC := dC) (dI := dI) hDa e3) (xcV 0 htb tw145 tw5 tw301 tw143 tw144 rfl rfl hd_Volume_freeBlocks ⟨Nat.le_of_ble_eq_true rfl, Nat.le_of_ble_eq_true rfl⟩) (kW_V hP hK (va_recv (q0 := 3) (ci := 3) hK hP rfl rfl)) rfl rfl hl.1 rfl (lv_room (Nat.le_of_ble_eq_true rfl)) d_Volume_fits_14 ⟨Nat.le_of_ble_eq_true rfl, Nat.le_of_ble_eq_true rfl⟩) hS (fun q _ h => h) (fun q h => h) (fun r0 u t H locs ht hvm hw hB _ _ hS => ?_)
    subst r0
    have hP := kW_P hB ht
    refine lv_icmp_gt (tgt := 24) hx hb d_Volume_fits_17 (by decide) (fun h4 => ?_) (fun h4 => ?_)
    · have hJ := j_t hJ h4
      refine lv_iconst (v := (0 : Int32)) hx hb d_Volume_fits_24 (by decide) ?_
      have hJ := Option.some.inj hJ
      exact W.zret (v := (0 : Int32)) (ty := .boolean) hx hb hr (by decide +kernel) (fun t ht hW => ⟨⟨_, (), rfl, hJ, kW_end hP hK ht hW rfl⟩, hS.F ht⟩) hS.2.2 d_Volume_fits_25
    · have hJ := j_f hJ h4
      refine lv_iconst (v := (1 : Int32)) hx hb d_Volume_fits_20 (by decide) ?_
      refine lv_goto (tgt := 25) hx hb d_Volume_fits_21 (by decide) ?_
      have hJ := Option.some.inj hJ
      exact W.zret (v := (1 : Int32)) (ty := .boolean) hx hb hr (by decide +kernel) (fun t ht hW => ⟨⟨_, (), rfl, hJ, kW_end hP hK ht hW rfl⟩, hS.F ht⟩) hS.2.2 d_Volume_fits_25
def J_Volume_canEnter (σ : CS) (a1 : Int32) (a2 : Int64) : Option (Int32) :=
  (J_Volume_isDirectory σ a1).bind fun x1 => (if x1 = (0 : Int32) then some (0 : Int32) else (J_LogFs_isName a2).bind fun x3 => (if x3 = (0 : Int32) then some (0 : Int32) else (J_Volume_placeOf σ a1 a2).bind fun x5 => (if x5 = ((-1) : Int32) then (J_Volume_placeForEntry σ a1).bind fun x7 => (J_Volume_fits σ a1 (x7 + (8 : Int32))).bind fun x8 => (if x8 = (0 : Int32) then some (0 : Int32) else some (1 : Int32)) else some (0 : Int32))))
abbrev rm_Volume_canEnter : Room := { frames := 5, cells := 0, slots := 0, locals := 118 }
set_option maxHeartbeats 4000000 in
set_option maxRecDepth 100000 in
theorem c_Volume_canEnter {l : Launch} {dC : Nat → ClassId} {dI : Nat → Nat → Nat} {ga : Nat → Nat} {cB cI : ClassId} {A : Nat → Prop} (hDa : ∀ σ, va_D A (wC ga cB cI σ)) {σ : CS} {a1 : Int32} {a2 : Int64} {res : Int32} (hJ : J_Volume_canEnter σ a1 a2 = some res) :
    Met l y_Volume_canEnter (mw y_Volume_canEnter b_Volume_canEnter 4 (some .boolean)) rm_Volume_canEnter (va_Pc [.ref (ga 3), .int a1, .long a2] (kW (dC, dI) (tC cB cI) (wC ga cB cI σ))) (va_Qi (fun (x : Int32) (_ : Unit) => x = res) (fun _ t => kW (dC, dI) (tC cB cI) (wC ga cB cI σ) t) A) 0 0 A := by
  refine Met.ofW (cc := b_Volume_canEnter) (maxL := 4) (ret := (some .boolean)) (by decide) rfl ?_
  intro p e s m args below meth c s₁ B hml hv
  obtain ⟨rfl, hP, hK⟩ := hv
  have hx := B.exec
  have hb := B.bytes
  have hr := B.returns
  have hts := atoms_spec (ws := (mw y_Volume_canEnter b_Volume_canEnter 4 (some .boolean))) B.pre
  have htb : ∀ w ∈ tb, w.before [.ref (ga 3), .int a1, .long a2].toArray s = true := fun w h => hts w (mwIn h)
  have hown : s.vm.findClass "LogFs$Volume" = some m.cls := findClass_of_methodNamed B.named
  have hlocks := B.notSynchronized
  have hS : va_S A s.heap s.heap [] := va_S.rf
  have hl := lv_entry ([.ref (ga 3), .int a1, .long a2]) (n := 4) (Nat.le_of_ble_eq_true rfl)
  rw [lg_entry_eq]
  generalize (lg_sl ([.ref (ga 3), .int a1, .long a2]) ++ List.replicate (4 - (lg_sl ([.ref (ga 3), .int a1, .long a2])).length) Slot.unset).toArray = ls at hl ⊢
  have hl : lv_has ls 4 [(0, .ref (ga 3)), (1, .int a1), (2, .long a2)] := hl
  unfold J_Volume_canEnter at hJ
  refine lv_aload_n hx hb d_Volume_canEnter_0 rfl (lv_at hl 0 rfl) ?_
  refine lv_iload_n hx hb d_Volume_canEnter_1 rfl (lv_at hl 1 rfl) ?_
  obtain ⟨x1, e1, hJ⟩ := j_bind hJ
  refine va_calli (va_runV (As := [.int a1]) (rest := []) ⟨hx, hb, hml, hown, htb⟩ (c_Volume_isDirectory (l := l) (dC := dC) (dI := dI) hDa e1) (xcV 1 htb tw263 tw5 tw260 tw261 tw262 rfl rfl hd_Volume_isDirectory ⟨Nat.le_of_ble_eq_true rfl, Nat.le_of_ble_eq_true rfl⟩) (kW_V hP hK (va_recv (q0 := 3) (ci := 3) hK hP rfl rfl)) rfl rfl hl.1 rfl (lv_room (Nat.le_of_ble_eq_true rfl)) d_Volume_canEnter_2 ⟨Nat.le_of_ble_eq_true rfl, Nat.le_of_ble_eq_true rfl⟩) hS (fun q _ h => h) (fun q h => h) (fun r0 u t H locs ht hvm hw hB _ _ hS => ?_)
  subst r0
  have hP := kW_P hB ht
  refine lv_if_eq (tgt := 45) hx hb d_Volume_canEnter_5 (by decide) (fun h2 => ?_) (fun h2 => ?_)
  · have hJ := j_t hJ h2
    refine lv_iconst (v := (0 : Int32)) hx hb d_Volume_canEnter_45 (by decide) ?_
    have hJ := Option.some.inj hJ
    exact W.zret (v := (0 : Int32)) (ty := .boolean) hx hb hr (by decide +kernel) (fun t ht hW => ⟨⟨_, (), rfl, hJ, kW_end hP hK ht hW rfl⟩, hS.F ht⟩) hS.2.2 d_Volume_canEnter_46
  · have hJ := j_f hJ h2
    refine lv_lload_n hx hb d_Volume_canEnter_8 rfl (lv_at hl 2 rfl) ?_
    obtain ⟨x3, e3, hJ⟩ := j_bind hJ
    refine va_calli (va_runSN (As := [.long a2]) (rest := []) ⟨hx, hb, hml, hown, htb⟩ (c_LogFs_isName (l := l) (dC := dC) (dI := dI) (σ := σ) hDa e3) (xcSN 1 htb tw266 tw1 tw264 tw265 rfl rfl hd_LogFs_isName ⟨Nat.le_of_ble_eq_true rfl, Nat.le_of_ble_eq_true rfl⟩) (kW_S hP hK) rfl rfl hl.1 rfl (lv_room (Nat.le_of_ble_eq_true rfl)) d_Volume_canEnter_9 ⟨Nat.le_of_ble_eq_true rfl, Nat.le_of_ble_eq_true rfl⟩) hS (fun q _ h => h) (fun q h => h) (fun r0 u t H locs ht hvm hw hB _ _ hS => ?_)
    subst r0
    have hP := kW_P hB ht
    refine lv_if_eq (tgt := 45) hx hb d_Volume_canEnter_12 (by decide) (fun h4 => ?_) (fun h4 => ?_)
    · have hJ := j_t hJ h4
      refine lv_iconst (v := (0 : Int32)) hx hb d_Volume_canEnter_45 (by decide) ?_
      have hJ := Option.some.inj hJ
      exact W.zret (v := (0 : Int32)) (ty := .boolean) hx hb hr (by decide +kernel) (fun t ht hW => ⟨⟨_, (), rfl, hJ, kW_end hP hK ht hW rfl⟩, hS.F ht⟩) hS.2.2 d_Volume_canEnter_46
    · have hJ := j_f hJ h4
      refine lv_aload_n hx hb d_Volume_canEnter_15 rfl (lv_at hl 0 rfl) ?_
      refine lv_iload_n hx hb d_Volume_canEnter_16 rfl (lv_at hl 1 rfl) ?_
      refine lv_lload_n hx hb d_Volume_canEnter_17 rfl (lv_at hl 2 rfl) ?_
      obtain ⟨x5, e5, hJ⟩ := j_bind hJ
      refine va_calli (va_runV (As := [.int a1, .long a2]) (rest := []) ⟨hx, hb, hml, hown, htb⟩ (c_Volume_placeOf (l := l) (dC := dC) (dI := dI) hDa e5) (xcV 2 htb tw273 tw5 tw270 tw271 tw272 rfl rfl hd_Volume_placeOf ⟨Nat.le_of_ble_eq_true rfl, Nat.le_of_ble_eq_true rfl⟩) (kW_V hP hK (va_recv (q0 := 3) (ci := 3) hK hP rfl rfl)) rfl rfl hl.1 rfl (lv_room (Nat.le_of_ble_eq_true rfl)) d_Volume_canEnter_18 ⟨Nat.le_of_ble_eq_true rfl, Nat.le_of_ble_eq_true rfl⟩) hS (fun q _ h => h) (fun q h => h) (fun r0 u t H locs ht hvm hw hB _ _ hS => ?_)
      subst r0
      have hP := kW_P hB ht
      refine lv_iconst (v := ((-1) : Int32)) hx hb d_Volume_canEnter_21 (by decide) ?_
      refine lv_icmp_ne (tgt := 45) hx hb d_Volume_canEnter_22 (by decide) (fun h6 => ?_) (fun h6 => ?_)
      · have hJ := j_f hJ h6
        refine lv_iconst (v := (0 : Int32)) hx hb d_Volume_canEnter_45 (by decide) ?_
        have hJ := Option.some.inj hJ
        exact W.zret (v := (0 : Int32)) (ty := .boolean) hx hb hr (by decide +kernel) (fun t ht hW => ⟨⟨_, (), rfl, hJ, kW_end hP hK ht hW rfl⟩, hS.F ht⟩) hS.2.2 d_Volume_canEnter_46
      · have hJ := j_t hJ h6
        refine lv_aload_n hx hb d_Volume_canEnter_25 rfl (lv_at hl 0 rfl) ?_
        refine lv_iload_n hx hb d_Volume_canEnter_26 rfl (lv_at hl 1 rfl) ?_
        refine lv_aload_n hx hb d_Volume_canEnter_27 rfl (lv_at hl 0 rfl) ?_
        refine lv_iload_n hx hb d_Volume_canEnter_28 rfl (lv_at hl 1 rfl) ?_
        obtain ⟨x7, e7, hJ⟩ := j_bind hJ
        refine va_calli (va_runV (As := [.int a1]) (rest := [.int a1, .ref (ga 3)]) ⟨hx, hb, hml, hown, htb⟩ (c_Volume_placeForEntry (l := l) (dC := dC) (dI := dI) hDa e7) (xcV 1 htb tw289 tw5 tw286 tw287 tw288 rfl rfl hd_Volume_placeForEntry ⟨Nat.le_of_ble_eq_true rfl, Nat.le_of_ble_eq_true rfl⟩) (kW_V hP hK (va_recv (q0 := 3) (ci := 3) hK hP rfl rfl)) rfl rfl hl.1 rfl (lv_room (Nat.le_of_ble_eq_true rfl)) d_Volume_canEnter_29 ⟨Nat.le_of_ble_eq_true rfl, Nat.le_of_ble_eq_true rfl⟩) hS (fun q _ h => h) (fun q h => h) (fun r0 u t H locs ht hvm hw hB _ _ hS => ?_)
        subst r0
        have hP := kW_P hB ht
        refine lv_bipush (v := (8 : Int32)) hx hb d_Volume_canEnter_32 (by decide) ?_
        refine lv_iadd hx hb d_Volume_canEnter_34 ?_
        obtain ⟨x8, e8, hJ⟩ := j_bind hJ
        refine va_calli (va_runV (As := [.int a1, .int (x7 + (8 : Int32))]) (rest := []) ⟨hx, hb, hml, hown, htb⟩ (c_Volume_fits (l := l) (dC := dC) (dI := dI) hDa e8) (xcV 2 htb tw293 tw5 tw290 tw292 ts_Volume_fits rfl rfl hd_Volume_fits ⟨Nat.le_of_ble_eq_true rfl, Nat.le_of_ble_eq_true rfl⟩) (kW_V hP hK (va_recv (q0 := 3) (ci := 3) hK hP rfl rfl)) rfl rfl hl.1 rfl (lv_room (Nat.le_of_ble_eq_true rfl)) d_Volume_canEnter_35 ⟨Nat.le_of_ble_eq_true rfl, Nat.le_of_ble_eq_true rfl⟩) hS (fun q _ h => h) (fun q h => h) (fun r0 u t H locs ht hvm hw hB _ _ hS => ?_)
        subst r0
        have hP := kW_P hB ht
        refine lv_if_eq (tgt := 45) hx hb d_Volume_canEnter_38 (by decide) (fun h9 => ?_) (fun h9 => ?_)
        · have hJ := j_t hJ h9
          refine lv_iconst (v := (0 : Int32)) hx hb d_Volume_canEnter_45 (by decide) ?_
          have hJ := Option.some.inj hJ
          exact W.zret (v := (0 : Int32)) (ty := .boolean) hx hb hr (by decide +kernel) (fun t ht hW => ⟨⟨_, (), rfl, hJ, kW_end hP hK ht hW rfl⟩, hS.F ht⟩) hS.2.2 d_Volume_canEnter_46
        · have hJ := j_f hJ h9
          refine lv_iconst (v := (1 : Int32)) hx hb d_Volume_canEnter_41 (by decide) ?_
          refine lv_goto (tgt := 46) hx hb d_Volume_canEnter_42 (by decide) ?_
          have hJ := Option.some.inj hJ
          exact W.zret (v := (1 : Int32)) (ty := .boolean) hx hb hr (by decide +kernel) (fun t ht hW => ⟨⟨_, (), rfl, hJ, kW_end hP hK ht hW rfl⟩, hS.F ht⟩) hS.2.2 d_Volume_canEnter_46
def J_Volume_canPut (σ : CS) (a1 : Int32) (a2 : Int32) (a3 : Int32) : Option (Int32) :=
  (J_Volume_isFile σ a1).bind fun x1 => (if x1 = (0 : Int32) then some (0 : Int32) else (if a2 < (0 : Int32) then some (0 : Int32) else (J_Volume_size σ a1).bind fun x4 => (if x4 < a2 then some (0 : Int32) else (J_Volume_fits σ a1 (a2 + a3)).bind fun x6 => (if x6 = (0 : Int32) then some (0 : Int32) else some (1 : Int32)))))
abbrev rm_Volume_canPut : Room := { frames := 5, cells := 0, slots := 0, locals := 112 }
set_option maxHeartbeats 4000000 in
set_option maxRecDepth 100000 in
theorem c_Volume_canPut {l : Launch} {dC : Nat → ClassId} {dI : Nat → Nat → Nat} {ga : Nat → Nat} {cB cI : ClassId} {A : Nat → Prop} (hDa : ∀ σ, va_D A (wC ga cB cI σ)) {σ : CS} {a1 : Int32} {a2 : Int32} {a3 : Int32} {res : Int32} (hJ : J_Volume_canPut σ a1 a2 a3 = some res) :
    Met l y_Volume_canPut (mw y_Volume_canPut b_Volume_canPut 4 (some .boolean)) rm_Volume_canPut (va_Pc [.ref (ga 3), .int a1, .int a2, .int a3] (kW (dC, dI) (tC cB cI) (wC ga cB cI σ))) (va_Qi (fun (x : Int32) (_ : Unit) => x = res) (fun _ t => kW (dC, dI) (tC cB cI) (wC ga cB cI σ) t) A) 0 0 A := by
  refine Met.ofW (cc := b_Volume_canPut) (maxL := 4) (ret := (some .boolean)) (by decide) rfl ?_
  intro p e s m args below meth c s₁ B hml hv
  obtain ⟨rfl, hP, hK⟩ := hv
  have hx := B.exec
  have hb := B.bytes
  have hr := B.returns
  have hts := atoms_spec (ws := (mw y_Volume_canPut b_Volume_canPut 4 (some .boolean))) B.pre
  have htb : ∀ w ∈ tb, w.before [.ref (ga 3), .int a1, .int a2, .int a3].toArray s = true := fun w h => hts w (mwIn h)
  have hown : s.vm.findClass "LogFs$Volume" = some m.cls := findClass_of_methodNamed B.named
  have hlocks := B.notSynchronized
  have hS : va_S A s.heap s.heap [] := va_S.rf
  have hl := lv_entry ([.ref (ga 3), .int a1, .int a2, .int a3]) (n := 4) (Nat.le_of_ble_eq_true rfl)
  rw [lg_entry_eq]
  generalize (lg_sl ([.ref (ga 3), .int a1, .int a2, .int a3]) ++ List.replicate (4 - (lg_sl ([.ref (ga 3), .int a1, .int a2, .int a3])).length) Slot.unset).toArray = ls at hl ⊢
  have hl : lv_has ls 4 [(0, .ref (ga 3)), (1, .int a1), (2, .int a2), (3, .int a3)] := hl
  unfold J_Volume_canPut at hJ
  refine lv_aload_n hx hb d_Volume_canPut_0 rfl (lv_at hl 0 rfl) ?_
  refine lv_iload_n hx hb d_Volume_canPut_1 rfl (lv_at hl 1 rfl) ?_
  obtain ⟨x1, e1, hJ⟩ := j_bind hJ
  refine va_calli (va_runV (As := [.int a1]) (rest := []) ⟨hx, hb, hml, hown, htb⟩ (c_Volume_isFile (l := l) (dC := dC) (dI := dI) hDa e1) (xcV 1 htb tw426 tw5 tw475 tw424 tw425 rfl rfl hd_Volume_isFile ⟨Nat.le_of_ble_eq_true rfl, Nat.le_of_ble_eq_true rfl⟩) (kW_V hP hK (va_recv (q0 := 3) (ci := 3) hK hP rfl rfl)) rfl rfl hl.1 rfl (lv_room (Nat.le_of_ble_eq_true rfl)) d_Volume_canPut_2 ⟨Nat.le_of_ble_eq_true rfl, Nat.le_of_ble_eq_true rfl⟩) hS (fun q _ h => h) (fun q h => h) (fun r0 u t H locs ht hvm hw hB _ _ hS => ?_)
  subst r0
  have hP := kW_P hB ht
  refine lv_if_eq (tgt := 36) hx hb d_Volume_canPut_5 (by decide) (fun h2 => ?_) (fun h2 => ?_)
  · have hJ := j_t hJ h2
    refine lv_iconst (v := (0 : Int32)) hx hb d_Volume_canPut_36 (by decide) ?_
    have hJ := Option.some.inj hJ
    exact W.zret (v := (0 : Int32)) (ty := .boolean) hx hb hr (by decide +kernel) (fun t ht hW => ⟨⟨_, (), rfl, hJ, kW_end hP hK ht hW rfl⟩, hS.F ht⟩) hS.2.2 d_Volume_canPut_37
  · have hJ := j_f hJ h2
    refine lv_iload_n hx hb d_Volume_canPut_8 rfl (lv_at hl 2 rfl) ?_
    refine lv_if_lt (tgt := 36) hx hb d_Volume_canPut_9 (by decide) (fun h3 => ?_) (fun h3 => ?_)
    · have hJ := j_t hJ h3
      refine lv_iconst (v := (0 : Int32)) hx hb d_Volume_canPut_36 (by decide) ?_
      have hJ := Option.some.inj hJ
      exact W.zret (v := (0 : Int32)) (ty := .boolean) hx hb hr (by decide +kernel) (fun t ht hW => ⟨⟨_, (), rfl, hJ, kW_end hP hK ht hW rfl⟩, hS.F ht⟩) hS.2.2 d_Volume_canPut_37
    · have hJ := j_f hJ h3
      refine lv_iload_n hx hb d_Volume_canPut_12 rfl (lv_at hl 2 rfl) ?_
      refine lv_aload_n hx hb d_Volume_canPut_13 rfl (lv_at hl 0 rfl) ?_
      refine lv_iload_n hx hb d_Volume_canPut_14 rfl (lv_at hl 1 rfl) ?_
      obtain ⟨x4, e4, hJ⟩ := j_bind hJ
      refine va_calli (va_runV (As := [.int a1]) (rest := [.int a2]) ⟨hx, hb, hml, hown, htb⟩ (c_Volume_size (l := l) (dC := dC) (dI := dI) hDa e4) (xcV 1 htb tw277 tw5 tw274 tw275 tw276 rfl rfl hd_Volume_size ⟨Nat.le_of_ble_eq_true rfl, Nat.le_of_ble_eq_true rfl⟩) (kW_V hP hK (va_recv (q0 := 3) (ci := 3) hK hP rfl rfl)) rfl rfl hl.1 rfl (lv_room (Nat.le_of_ble_eq_true rfl)) d_Volume_canPut_15 ⟨Nat.le_of_ble_eq_true rfl, Nat.le_of_ble_eq_true rfl⟩) hS (fun q _ h => h) (fun q h => h) (fun r0 u t H locs ht hvm hw hB _ _ hS => ?_)
      subst r0
      have hP := kW_P hB ht
      refine lv_icmp_gt (tgt := 36) hx hb d_Volume_canPut_18 (by decide) (fun h5 => ?_) (fun h5 => ?_)
      · have hJ := j_t hJ h5
        refine lv_iconst (v := (0 : Int32)) hx hb d_Volume_canPut_36 (by decide) ?_
        have hJ := Option.some.inj hJ
        exact W.zret (v := (0 : Int32)) (ty := .boolean) hx hb hr (by decide +kernel) (fun t ht hW => ⟨⟨_, (), rfl, hJ, kW_end hP hK ht hW rfl⟩, hS.F ht⟩) hS.2.2 d_Volume_canPut_37
      · have hJ := j_f hJ h5
        refine lv_aload_n hx hb d_Volume_canPut_21 rfl (lv_at hl 0 rfl) ?_
        refine lv_iload_n hx hb d_Volume_canPut_22 rfl (lv_at hl 1 rfl) ?_
        refine lv_iload_n hx hb d_Volume_canPut_23 rfl (lv_at hl 2 rfl) ?_
        refine lv_iload_n hx hb d_Volume_canPut_24 rfl (lv_at hl 3 rfl) ?_
        refine lv_iadd hx hb d_Volume_canPut_25 ?_
        obtain ⟨x6, e6, hJ⟩ := j_bind hJ
        refine va_calli (va_runV (As := [.int a1, .int (a2 + a3)]) (rest := []) ⟨hx, hb, hml, hown, htb⟩ (c_Volume_fits (l := l) (dC := dC) (dI := dI) hDa e6) (xcV 2 htb tw293 tw5 tw290 tw292 ts_Volume_fits rfl rfl hd_Volume_fits ⟨Nat.le_of_ble_eq_true rfl, Nat.le_of_ble_eq_true rfl⟩) (kW_V hP hK (va_recv (q0 := 3) (ci := 3) hK hP rfl rfl)) rfl rfl hl.1 rfl (lv_room (Nat.le_of_ble_eq_true rfl)) d_Volume_canPut_26 ⟨Nat.le_of_ble_eq_true rfl, Nat.le_of_ble_eq_true rfl⟩) hS (fun q _ h => h) (fun q h => h) (fun r0 u t H locs ht hvm hw hB _ _ hS => ?_)
        subst r0
        have hP := kW_P hB ht
        refine lv_if_eq (tgt := 36) hx hb d_Volume_canPut_29 (by decide) (fun h7 => ?_) (fun h7 => ?_)
        · have hJ := j_t hJ h7
          refine lv_iconst (v := (0 : Int32)) hx hb d_Volume_canPut_36 (by decide) ?_
          have hJ := Option.some.inj hJ
          exact W.zret (v := (0 : Int32)) (ty := .boolean) hx hb hr (by decide +kernel) (fun t ht hW => ⟨⟨_, (), rfl, hJ, kW_end hP hK ht hW rfl⟩, hS.F ht⟩) hS.2.2 d_Volume_canPut_37
        · have hJ := j_f hJ h7
          refine lv_iconst (v := (1 : Int32)) hx hb d_Volume_canPut_32 (by decide) ?_
          refine lv_goto (tgt := 37) hx hb d_Volume_canPut_33 (by decide) ?_
          have hJ := Option.some.inj hJ
          exact W.zret (v := (1 : Int32)) (ty := .boolean) hx hb hr (by decide +kernel) (fun t ht hW => ⟨⟨_, (), rfl, hJ, kW_end hP hK ht hW rfl⟩, hS.F ht⟩) hS.2.2 d_Volume_canPut_37
end
section
/-! What Volume changes. Written by wip/gen/classes.py. -/
def J_Volume_begin (σ : CS) (a1 : Int32) (a2 : Int32) : Option (CS) :=
  (J_Volume_setInodeByte σ a1 (0 : Int32) a2).bind fun x1 => (J_Volume_setInodeByte x1 a1 (1 : Int32) (1 : Int32)).bind fun x2 => some x2
abbrev rm_Volume_begin : Room := { frames := 3, cells := 0, slots := 0, locals := 69 }
set_option maxHeartbeats 4000000 in
set_option maxRecDepth 100000 in
theorem c_Volume_begin {l : Launch} {dC : Nat → ClassId} {dI : Nat → Nat → Nat} {ga : Nat → Nat} {cB cI : ClassId} {A : Nat → Prop} (hDa : ∀ σ, va_D A (wC ga cB cI σ)) {σ : CS} {a1 : Int32} {a2 : Int32} {res : CS} (hJ : J_Volume_begin σ a1 a2 = some res) :
    Met l y_Volume_begin (mw y_Volume_begin b_Volume_begin 3 none) rm_Volume_begin (va_Pc [.ref (ga 3), .int a1, .int a2] (kW (dC, dI) (tC cB cI) (wC ga cB cI σ))) (va_Qv (fun (_ : Unit) => True) (fun _ t => kW (dC, dI) (tC cB cI) (wC ga cB cI res) t) A) 0 0 A := by
  refine Met.ofW (cc := b_Volume_begin) (maxL := 3) (ret := none) (by decide) rfl ?_
  intro p e s m args below meth c s₁ B hml hv
  obtain ⟨rfl, hP, hK⟩ := hv
  have hx := B.exec
  have hb := B.bytes
  have hr := B.returns
  have hts := atoms_spec (ws := (mw y_Volume_begin b_Volume_begin 3 none)) B.pre
  have htb : ∀ w ∈ tb, w.before [.ref (ga 3), .int a1, .int a2].toArray s = true := fun w h => hts w (mwIn h)
  have hown : s.vm.findClass "LogFs$Volume" = some m.cls := findClass_of_methodNamed B.named
  have hlocks := B.notSynchronized
  have hS : va_S A s.heap s.heap [] := va_S.rf
  have hl := lv_entry ([.ref (ga 3), .int a1, .int a2]) (n := 3) (Nat.le_of_ble_eq_true rfl)
  rw [lg_entry_eq]
  generalize (lg_sl ([.ref (ga 3), .int a1, .int a2]) ++ List.replicate (3 - (lg_sl ([.ref (ga 3), .int a1, .int a2])).length) Slot.unset).toArray = ls at hl ⊢
  have hl : lv_has ls 3 [(0, .ref (ga 3)), (1, .int a1), (2, .int a2)] := hl
  unfold J_Volume_begin at hJ
  refine lv_aload_n hx hb d_Volume_begin_0 rfl (lv_at hl 0 rfl) ?_
  refine lv_iload_n hx hb d_Volume_begin_1 rfl (lv_at hl 1 rfl) ?_
  refine lv_iconst (v := (0 : Int32)) hx hb d_Volume_begin_2 (by decide) ?_
  refine lv_iload_n hx hb d_Volume_begin_3 rfl (lv_at hl 2 rfl) ?_
  obtain ⟨x1, e1, hJ⟩ := j_bind hJ
  refine va_callv (va_runV (As := [.int a1, .int (0 : Int32), .int a2]) (rest := []) ⟨hx, hb, hml, hown, htb⟩ (c_Volume_setInodeByte (l := l) (dC := dC) (dI := dI) hDa e1) (xcV 3 htb tw372 tw5 tw369 tw371 ts_Volume_setInodeByte rfl rfl hd_Volume_setInodeByte ⟨Nat.le_of_ble_eq_true rfl, Nat.le_of_ble_eq_true rfl⟩) (kW_V hP hK (va_recv (q0 := 3) (ci := 3) hK hP rfl rfl)) rfl rfl hl.1 rfl (lv_room (Nat.le_of_ble_eq_true rfl)) d_Volume_begin_4 ⟨Nat.le_of_ble_eq_true rfl, Nat.le_of_ble_eq_true rfl⟩) hS (fun q _ h => h) (fun q h => h) (fun u t H locs ht hvm hw hB _ _ hS => ?_)
  have hP := kW_P hB ht
  refine lv_aload_n hx hb d_Volume_begin_7 rfl (lv_at hl 0 rfl) ?_
  refine lv_iload_n hx hb d_Volume_begin_8 rfl (lv_at hl 1 rfl) ?_
  refine lv_iconst (v := (1 : Int32)) hx hb d_Volume_begin_9 (by decide) ?_
  refine lv_iconst (v := (1 : Int32)) hx hb d_Volume_begin_10 (by decide) ?_
  obtain ⟨x2, e2, hJ⟩ := j_bind hJ
  refine va_callv (va_runV (As := [.int a1, .int (1 : Int32), .int (1 : Int32)]) (rest := []) ⟨hx, hb, hml, hown, htb⟩ (c_Volume_setInodeByte (l := l) (dC := dC) (dI := dI) hDa e2) (xcV 3 htb tw372 tw5 tw369 tw371 ts_Volume_setInodeByte rfl rfl hd_Volume_setInodeByte ⟨Nat.le_of_ble_eq_true rfl, Nat.le_of_ble_eq_true rfl⟩) (kW_V hP hK (va_recv (q0 := 3) (ci := 3) hK hP rfl rfl)) rfl rfl hl.1 rfl (lv_room (Nat.le_of_ble_eq_true rfl)) d_Volume_begin_11 ⟨Nat.le_of_ble_eq_true rfl, Nat.le_of_ble_eq_true rfl⟩) hS (fun q _ h => h) (fun q h => h) (fun u t H locs ht hvm hw hB _ _ hS => ?_)
  have hP := kW_P hB ht
  have hJ := Option.some.inj hJ
  exact W.vret hx hb hr (fun t ht hW => ⟨⟨(), rfl, trivial, kW_end hP hK ht hW (congrArg (fun z => wC ga cB cI z) hJ)⟩, hS.F ht⟩) hS.2.2 d_Volume_begin_14
def J_Volume_addLink (σ : CS) (a1 : Int32) : Option (CS) :=
  (J_Volume_links σ a1).bind fun x1 => (J_Volume_setInodeByte σ a1 (1 : Int32) (x1 + (1 : Int32))).bind fun x2 => some x2
abbrev rm_Volume_addLink : Room := { frames := 3, cells := 0, slots := 0, locals := 69 }
set_option maxHeartbeats 4000000 in
set_option maxRecDepth 100000 in
theorem c_Volume_addLink {l : Launch} {dC : Nat → ClassId} {dI : Nat → Nat → Nat} {ga : Nat → Nat} {cB cI : ClassId} {A : Nat → Prop} (hDa : ∀ σ, va_D A (wC ga cB cI σ)) {σ : CS} {a1 : Int32} {res : CS} (hJ : J_Volume_addLink σ a1 = some res) :
    Met l y_Volume_addLink (mw y_Volume_addLink b_Volume_addLink 2 none) rm_Volume_addLink (va_Pc [.ref (ga 3), .int a1] (kW (dC, dI) (tC cB cI) (wC ga cB cI σ))) (va_Qv (fun (_ : Unit) => True) (fun _ t => kW (dC, dI) (tC cB cI) (wC ga cB cI res) t) A) 0 0 A := by
  refine Met.ofW (cc := b_Volume_addLink) (maxL := 2) (ret := none) (by decide) rfl ?_
  intro p e s m args below meth c s₁ B hml hv
  obtain ⟨rfl, hP, hK⟩ := hv
  have hx := B.exec
  have hb := B.bytes
  have hr := B.returns
  have hts := atoms_spec (ws := (mw y_Volume_addLink b_Volume_addLink 2 none)) B.pre
  have htb : ∀ w ∈ tb, w.before [.ref (ga 3), .int a1].toArray s = true := fun w h => hts w (mwIn h)
  have hown : s.vm.findClass "LogFs$Volume" = some m.cls := findClass_of_methodNamed B.named
  have hlocks := B.notSynchronized
  have hS : va_S A s.heap s.heap [] := va_S.rf
  have hl := lv_entry ([.ref (ga 3), .int a1]) (n := 2) (Nat.le_of_ble_eq_true rfl)
  rw [lg_entry_eq]
  generalize (lg_sl ([.ref (ga 3), .int a1]) ++ List.replicate (2 - (lg_sl ([.ref (ga 3), .int a1])).length) Slot.unset).toArray = ls at hl ⊢
  have hl : lv_has ls 2 [(0, .ref (ga 3)), (1, .int a1)] := hl
  unfold J_Volume_addLink at hJ
  refine lv_aload_n hx hb d_Volume_addLink_0 rfl (lv_at hl 0 rfl) ?_
  refine lv_iload_n hx hb d_Volume_addLink_1 rfl (lv_at hl 1 rfl) ?_
  refine lv_iconst (v := (1 : Int32)) hx hb d_Volume_addLink_2 (by decide) ?_
  refine lv_aload_n hx hb d_Volume_addLink_3 rfl (lv_at hl 0 rfl) ?_
  refine lv_iload_n hx hb d_Volume_addLink_4 rfl (lv_at hl 1 rfl) ?_
  obtain ⟨x1, e1, hJ⟩ := j_bind hJ
  refine va_calli (va_runV (As := [.int a1]) (rest := [.int (1 : Int32), .int a1, .ref (ga 3)]) ⟨hx, hb, hml, hown, htb⟩ (c_Volume_links (l := l) (dC := dC) (dI := dI) hDa e1) (xcV 1 htb tw430 tw5 tw435 tw428 tw429 rfl rfl hd_Volume_links ⟨Nat.le_of_ble_eq_true rfl, Nat.le_of_ble_eq_true rfl⟩) (kW_V hP hK (va_recv (q0 := 3) (ci := 3) hK hP rfl rfl)) rfl rfl hl.1 rfl (lv_room (Nat.le_of_ble_eq_true rfl)) d_Volume_addLink_5 ⟨Nat.le_of_ble_eq_true rfl, Nat.le_of_ble_eq_true rfl⟩) hS (fun q _ h => h) (fun q h => h) (fun r0 u t H locs ht hvm hw hB _ _ hS => ?_)
  subst r0
  have hP := kW_P hB ht
  refine lv_iconst (v := (1 : Int32)) hx hb d_Volume_addLink_8 (by decide) ?_
  refine lv_iadd hx hb d_Volume_addLink_9 ?_
  obtain ⟨x2, e2, hJ⟩ := j_bind hJ
  refine va_callv (va_runV (As := [.int a1, .int (1 : Int32), .int (x1 + (1 : Int32))]) (rest := []) ⟨hx, hb, hml, hown, htb⟩ (c_Volume_setInodeByte (l := l) (dC := dC) (dI := dI) hDa e2) (xcV 3 htb tw372 tw5 tw369 tw371 ts_Volume_setInodeByte rfl rfl hd_Volume_setInodeByte ⟨Nat.le_of_ble_eq_true rfl, Nat.le_of_ble_eq_true rfl⟩) (kW_V hP hK (va_recv (q0 := 3) (ci := 3) hK hP rfl rfl)) rfl rfl hl.1 rfl (lv_room (Nat.le_of_ble_eq_true rfl)) d_Volume_addLink_10 ⟨Nat.le_of_ble_eq_true rfl, Nat.le_of_ble_eq_true rfl⟩) hS (fun q _ h => h) (fun q h => h) (fun u t H locs ht hvm hw hB _ _ hS => ?_)
  have hP := kW_P hB ht
  have hJ := Option.some.inj hJ
  exact W.vret hx hb hr (fun t ht hW => ⟨⟨(), rfl, trivial, kW_end hP hK ht hW (congrArg (fun z => wC ga cB cI z) hJ)⟩, hS.F ht⟩) hS.2.2 d_Volume_addLink_13
def J_Volume_leastFreeBlock_3_b (k : Int32 → Option (Int32)) (σ : CS) (v1 : Int32) : Option (Int32) :=
  (if (128 : Int32) ≤ v1 then some (0 : Int32) else (J_Blocks_get_m σ (25 : Int32) (v1 / (8 : Int32))).bind fun x2 => (if ((x2 >>> ((v1 - v1 / (8 : Int32) * (8 : Int32)) &&& 31)) &&& (1 : Int32)) = (0 : Int32) then some v1 else k (v1 + (1 : Int32))))
def J_Volume_leastFreeBlock_3 : Nat → CS → Int32 → Option (Int32)
  | 0, _, _ => none
  | n + 1, σ, v1 => J_Volume_leastFreeBlock_3_b (J_Volume_leastFreeBlock_3 n σ) σ v1
def J_Volume_leastFreeBlock (σ : CS)  : Option (Int32) :=
  J_Volume_leastFreeBlock_3 9000 σ (26 : Int32)
abbrev rm_Volume_leastFreeBlock : Room := { frames := 1, cells := 0, slots := 0, locals := 22 }
set_option maxHeartbeats 4000000 in
set_option maxRecDepth 100000 in
theorem c_Volume_leastFreeBlock {l : Launch} {dC : Nat → ClassId} {dI : Nat → Nat → Nat} {ga : Nat → Nat} {cB cI : ClassId} {A : Nat → Prop} (hDa : ∀ σ, va_D A (wC ga cB cI σ)) {σ : CS} {res : Int32} (hJ : J_Volume_leastFreeBlock σ = some res) :
    Met l y_Volume_leastFreeBlock (mw y_Volume_leastFreeBlock b_Volume_leastFreeBlock 2 (some .int)) rm_Volume_leastFreeBlock (va_Pc [.ref (ga 3)] (kW (dC, dI) (tC cB cI) (wC ga cB cI σ))) (va_Qi (fun (x : Int32) (_ : Unit) => x = res) (fun _ t => kW (dC, dI) (tC cB cI) (wC ga cB cI σ) t) A) 0 0 A := by
  refine Met.ofW (cc := b_Volume_leastFreeBlock) (maxL := 2) (ret := (some .int)) (by decide) rfl ?_
  intro p e s m args below meth c s₁ B hml hv
  obtain ⟨rfl, hP, hK⟩ := hv
  have hx := B.exec
  have hb := B.bytes
  have hr := B.returns
  have hts := atoms_spec (ws := (mw y_Volume_leastFreeBlock b_Volume_leastFreeBlock 2 (some .int))) B.pre
  have htb : ∀ w ∈ tb, w.before [.ref (ga 3)].toArray s = true := fun w h => hts w (mwIn h)
  have hown : s.vm.findClass "LogFs$Volume" = some m.cls := findClass_of_methodNamed B.named
  have hlocks := B.notSynchronized
  have hS : va_S A s.heap s.heap [] := va_S.rf
  have hl := lv_entry ([.ref (ga 3)]) (n := 2) (Nat.le_of_ble_eq_true rfl)
  rw [lg_entry_eq]
  generalize (lg_sl ([.ref (ga 3)]) ++ List.replicate (2 - (lg_sl ([.ref (ga 3)])).length) Slot.unset).toArray = ls at hl ⊢
  have hl : lv_has ls 2 [(0, .ref (ga 3))] := hl
  have blk3 : ∀ (n : Nat) (v1 : Int32) (ls : Array Slot) (H : Heap) (locs : List Loc), J_Volume_leastFreeBlock_3 n σ v1 = some res → lv_has ls 2 [(0, .ref (ga 3)), (1, .int v1)] → va_P (dC, dI) cls (wC ga cB cI σ) H → va_S A s.heap H locs → W p l e (headSpec (mw y_Volume_leastFreeBlock b_Volume_leastFreeBlock 2 (some .int)) rm_Volume_leastFreeBlock).room s m [.ref (ga 3)].toArray below meth c H locs 0 0 (MQ below (va_Qi (fun (x : Int32) (_ : Unit) => x = res) (fun _ t => kW (dC, dI) (tC cB cI) (wC ga cB cI σ) t) A) [.ref (ga 3)].toArray s 0 0 A) (F0 m 3 ls []) := by
    intro n
    induction n with
    | zero => intro v1 ls H locs hJ; exact j_none hJ
    | succ n hk =>
      intro v1 ls H locs hJ hl hP hS
      have hJ : J_Volume_leastFreeBlock_3_b (J_Volume_leastFreeBlock_3 n σ) σ v1 = some res := hJ
      unfold J_Volume_leastFreeBlock_3_b at hJ
      refine lv_iload_n hx hb d_Volume_leastFreeBlock_3 rfl (lv_at hl 1 rfl) ?_
      refine lv_sipush (v := (128 : Int32)) hx hb d_Volume_leastFreeBlock_4 (by decide) ?_
      refine lv_icmp_ge (tgt := 41) hx hb d_Volume_leastFreeBlock_7 (by decide) (fun h1 => ?_) (fun h1 => ?_)
      · have hJ := j_t hJ h1
        refine lv_iconst (v := (0 : Int32)) hx hb d_Volume_leastFreeBlock_41 (by decide) ?_
        have hJ := Option.some.inj hJ
        exact W.iret (v := (0 : Int32)) hx hb hr (fun t ht hW => ⟨⟨_, (), rfl, hJ, kW_end hP hK ht hW rfl⟩, hS.F ht⟩) hS.2.2 d_Volume_leastFreeBlock_42
      · have hJ := j_f hJ h1
        refine lv_aload_n hx hb d_Volume_leastFreeBlock_10 rfl (lv_at hl 0 rfl) ?_
        refine va_get (D := (dC, dI)) (ci := 3) (v := .ref (ga 5)) (C := R_Volume) (T := T_Volume) (N := 2) hx hb htb uin_Volume hown hK hP 3 rfl rfl 1 (by decide) (htb _ tw96) (fun _ h9 => h9) rfl d_Volume_leastFreeBlock_11 ?_
        refine lv_bipush (v := (25 : Int32)) hx hb d_Volume_leastFreeBlock_14 (by decide) ?_
        refine lv_iload_n hx hb d_Volume_leastFreeBlock_16 rfl (lv_at hl 1 rfl) ?_
        refine lv_bipush (v := (8 : Int32)) hx hb d_Volume_leastFreeBlock_17 (by decide) ?_
        refine lv_idiv hx hb d_Volume_leastFreeBlock_19 (by decide) ?_
        obtain ⟨x2, e2, hJ⟩ := j_bind hJ
        refine va_calli (va_runV (As := [.int (25 : Int32), .int (v1 / (8 : Int32))]) (rest := []) ⟨hx, hb, hml, hown, htb⟩ (c_Blocks_get_m (l := l) (dC := dC) (dI := dI) hDa e2) (xcV 2 htb tw47 tw3 tw146 tw45 tw46 rfl rfl hd_Blocks_get ⟨Nat.le_of_ble_eq_true rfl, Nat.le_of_ble_eq_true rfl⟩) (kW_V hP hK (va_recv (q0 := 5) (ci := 0) hK hP rfl rfl)) rfl rfl hl.1 rfl (lv_room (Nat.le_of_ble_eq_true rfl)) d_Volume_leastFreeBlock_20 ⟨Nat.le_of_ble_eq_true rfl, Nat.le_of_ble_eq_true rfl⟩) hS (fun q _ h => h) (fun q h => h) (fun r0 u t H locs ht hvm hw hB _ _ hS => ?_)
        subst r0
        have hP := kW_P hB ht
        refine lv_iload_n hx hb d_Volume_leastFreeBlock_23 rfl (lv_at hl 1 rfl) ?_
        refine lv_bipush (v := (8 : Int32)) hx hb d_Volume_leastFreeBlock_24 (by decide) ?_
        refine lv_irem hx hb d_Volume_leastFreeBlock_26 (by decide) ?_
        refine lv_ishr hx hb d_Volume_leastFreeBlock_27 ?_
        refine lv_iconst (v := (1 : Int32)) hx hb d_Volume_leastFreeBlock_28 (by decide) ?_
        refine lv_iand hx hb d_Volume_leastFreeBlock_29 ?_
        refine lv_if_ne (tgt := 35) hx hb d_Volume_leastFreeBlock_30 (by decide) (fun h3 => ?_) (fun h3 => ?_)
        · have hJ := j_f hJ h3
          refine lv_iinc (k := 1) (v := (v1 + (1 : Int32))) hx hb d_Volume_leastFreeBlock_35 hl rfl rfl (Nat.le_of_ble_eq_true rfl) rfl (fun ls hl => ?_)
          have hl : lv_has ls 2 [(1, .int (v1 + (1 : Int32))), (0, .ref (ga 3))] := hl
          refine lv_goto (tgt := 3) hx hb d_Volume_leastFreeBlock_38 (by decide) ?_
          exact hk _ _ _ _ hJ (lv_sub hl [1, 0] rfl) hP hS
        · have hJ := j_t hJ h3
          refine lv_iload_n hx hb d_Volume_leastFreeBlock_33 rfl (lv_at hl 1 rfl) ?_
          have hJ := Option.some.inj hJ
          exact W.iret (v := v1) hx hb hr (fun t ht hW => ⟨⟨_, (), rfl, hJ, kW_end hP hK ht hW rfl⟩, hS.F ht⟩) hS.2.2 d_Volume_leastFreeBlock_34
  unfold J_Volume_leastFreeBlock at hJ
  refine lv_bipush (v := (26 : Int32)) hx hb d_Volume_leastFreeBlock_0 (by decide) ?_
  refine lv_istore_n hx hb d_Volume_leastFreeBlock_2 rfl hl (Nat.le_of_ble_eq_true rfl) rfl (fun ls hl => ?_)
  have hl : lv_has ls 2 [(1, .int (26 : Int32)), (0, .ref (ga 3))] := hl
  exact blk3 9000 _ _ _ _ hJ (lv_sub hl [1, 0] rfl) hP hS
def J_Volume_takeBlock (σ : CS)  : Option (Int32 × CS) :=
  (J_Volume_leastFreeBlock σ).bind fun x1 => (J_Blocks_get_m σ (25 : Int32) (x1 / (8 : Int32))).bind fun x2 => (J_Memory_change σ (25 : Int32) (x1 / (8 : Int32)) (x2 ||| ((1 : Int32) <<< ((x1 - x1 / (8 : Int32) * (8 : Int32)) &&& 31)))).bind fun x3 => (J_Memory_clear x3 x1).bind fun x4 => some (x1, x4)
abbrev rm_Volume_takeBlock : Room := { frames := 3, cells := 0, slots := 0, locals := 66 }
set_option maxHeartbeats 4000000 in
set_option maxRecDepth 100000 in
theorem c_Volume_takeBlock {l : Launch} {dC : Nat → ClassId} {dI : Nat → Nat → Nat} {ga : Nat → Nat} {cB cI : ClassId} {A : Nat → Prop} (hDa : ∀ σ, va_D A (wC ga cB cI σ)) {σ : CS} {res : Int32 × CS} (hJ : J_Volume_takeBlock σ = some res) :
    Met l y_Volume_takeBlock (mw y_Volume_takeBlock b_Volume_takeBlock 2 (some .int)) rm_Volume_takeBlock (va_Pc [.ref (ga 3)] (kW (dC, dI) (tC cB cI) (wC ga cB cI σ))) (va_Qi (fun (x : Int32) (_ : Unit) => x = res.1) (fun _ t => kW (dC, dI) (tC cB cI) (wC ga cB cI res.2) t) A) 0 0 A := by
  refine Met.ofW (cc := b_Volume_takeBlock) (maxL := 2) (ret := (some .int)) (by decide) rfl ?_
  intro p e s m args below meth c s₁ B hml hv
  obtain ⟨rfl, hP, hK⟩ := hv
  have hx := B.exec
  have hb := B.bytes
  have hr := B.returns
  have hts := atoms_spec (ws := (mw y_Volume_takeBlock b_Volume_takeBlock 2 (some .int))) B.pre
  have htb : ∀ w ∈ tb, w.before [.ref (ga 3)].toArray s = true := fun w h => hts w (mwIn h)
  have hown : s.vm.findClass "LogFs$Volume" = some m.cls := findClass_of_methodNamed B.named
  have hlocks := B.notSynchronized
  have hS : va_S A s.heap s.heap [] := va_S.rf
  have hl := lv_entry ([.ref (ga 3)]) (n := 2) (Nat.le_of_ble_eq_true rfl)
  rw [lg_entry_eq]
  generalize (lg_sl ([.ref (ga 3)]) ++ List.replicate (2 - (lg_sl ([.ref (ga 3)])).length) Slot.unset).toArray = ls at hl ⊢
  have hl : lv_has ls 2 [(0, .ref (ga 3))] := hl
  unfold J_Volume_takeBlock at hJ
  refine lv_aload_n hx hb d_Volume_takeBlock_0 rfl (lv_at hl 0 rfl) ?_
  obtain ⟨x1, e1, hJ⟩ := j_bind hJ
  refine va_calli (va_runV (As := []) (rest := []) ⟨hx, hb, hml, hown, htb⟩ (c_Volume_leastFreeBlock (l := l) (dC := dC) (dI := dI) hDa e1) (xcV 0 htb tw406 tw5 tw403 tw405 ts_Volume_leastFreeBlock rfl rfl hd_Volume_leastFreeBlock ⟨Nat.le_of_ble_eq_true rfl, Nat.le_of_ble_eq_true rfl⟩) (kW_V hP hK (va_recv (q0 := 3) (ci := 3) hK hP rfl rfl)) rfl rfl hl.1 rfl (lv_room (Nat.le_of_ble_eq_true rfl)) d_Volume_takeBlock_1 ⟨Nat.le_of_ble_eq_true rfl, Nat.le_of_ble_eq_true rfl⟩) hS (fun q _ h => h) (fun q h => h) (fun r0 u t H locs ht hvm hw hB _ _ hS => ?_)
  subst r0
  have hP := kW_P hB ht
  refine lv_istore_n hx hb d_Volume_takeBlock_4 rfl hl (Nat.le_of_ble_eq_true rfl) rfl (fun ls hl => ?_)
  have hl : lv_has ls 2 [(1, .int x1), (0, .ref (ga 3))] := hl
  refine lv_aload_n hx hb d_Volume_takeBlock_5 rfl (lv_at hl 1 rfl) ?_
  refine va_get (D := (dC, dI)) (ci := 3) (v := .ref (ga 2)) (C := R_Volume) (T := T_Volume) (N := 2) hx hb htb uin_Volume hown hK hP 3 rfl rfl 0 (by decide) (htb _ tw95) (fun _ h9 => h9) rfl d_Volume_takeBlock_6 ?_
  refine lv_bipush (v := (25 : Int32)) hx hb d_Volume_takeBlock_9 (by decide) ?_
  refine lv_iload_n hx hb d_Volume_takeBlock_11 rfl (lv_at hl 0 rfl) ?_
  refine lv_bipush (v := (8 : Int32)) hx hb d_Volume_takeBlock_12 (by decide) ?_
  refine lv_idiv hx hb d_Volume_takeBlock_14 (by decide) ?_
  refine lv_aload_n hx hb d_Volume_takeBlock_15 rfl (lv_at hl 1 rfl) ?_
  refine va_get (D := (dC, dI)) (ci := 3) (v := .ref (ga 5)) (C := R_Volume) (T := T_Volume) (N := 2) hx hb htb uin_Volume hown hK hP 3 rfl rfl 1 (by decide) (htb _ tw96) (fun _ h9 => h9) rfl d_Volume_takeBlock_16 ?_
  refine lv_bipush (v := (25 : Int32)) hx hb d_Volume_takeBlock_19 (by decide) ?_
  refine lv_iload_n hx hb d_Volume_takeBlock_21 rfl (lv_at hl 0 rfl) ?_
  refine lv_bipush (v := (8 : Int32)) hx hb d_Volume_takeBlock_22 (by decide) ?_
  refine lv_idiv hx hb d_Volume_takeBlock_24 (by decide) ?_
  obtain ⟨x2, e2, hJ⟩ := j_bind hJ
  refine va_calli (va_runV (As := [.int (25 : Int32), .int (x1 / (8 : Int32))]) (rest := [.int (x1 / (8 : Int32)), .int (25 : Int32), .ref (ga 2)]) ⟨hx, hb, hml, hown, htb⟩ (c_Blocks_get_m (l := l) (dC := dC) (dI := dI) hDa e2) (xcV 2 htb tw47 tw3 tw146 tw45 tw46 rfl rfl hd_Blocks_get ⟨Nat.le_of_ble_eq_true rfl, Nat.le_of_ble_eq_true rfl⟩) (kW_V hP hK (va_recv (q0 := 5) (ci := 0) hK hP rfl rfl)) rfl rfl hl.1 rfl (lv_room (Nat.le_of_ble_eq_true rfl)) d_Volume_takeBlock_25 ⟨Nat.le_of_ble_eq_true rfl, Nat.le_of_ble_eq_true rfl⟩) hS (fun q _ h => h) (fun q h => h) (fun r0 u t H locs ht hvm hw hB _ _ hS => ?_)
  subst r0
  have hP := kW_P hB ht
  refine lv_iconst (v := (1 : Int32)) hx hb d_Volume_takeBlock_28 (by decide) ?_
  refine lv_iload_n hx hb d_Volume_takeBlock_29 rfl (lv_at hl 0 rfl) ?_
  refine lv_bipush (v := (8 : Int32)) hx hb d_Volume_takeBlock_30 (by decide) ?_
  refine lv_irem hx hb d_Volume_takeBlock_32 (by decide) ?_
  refine lv_ishl hx hb d_Volume_takeBlock_33 ?_
  refine lv_ior hx hb d_Volume_takeBlock_34 ?_
  obtain ⟨x3, e3, hJ⟩ := j_bind hJ
  refine va_callv (va_runV (As := [.int (25 : Int32), .int (x1 / (8 : Int32)), .int (x2 ||| ((1 : Int32) <<< ((x1 - x1 / (8 : Int32) * (8 : Int32)) &&& 31)))]) (rest := []) ⟨hx, hb, hml, hown, htb⟩ (c_Memory_change (l := l) (dC := dC) (dI := dI) hDa e3) (xcV 3 htb tw376 tw4 tw373 tw374 tw375 rfl rfl hd_Memory_change ⟨Nat.le_of_ble_eq_true rfl, Nat.le_of_ble_eq_true rfl⟩) (kW_V hP hK (va_recv (q0 := 2) (ci := 2) hK hP rfl rfl)) rfl rfl hl.1 rfl (lv_room (Nat.le_of_ble_eq_true rfl)) d_Volume_takeBlock_35 ⟨Nat.le_of_ble_eq_true rfl, Nat.le_of_ble_eq_true rfl⟩) hS (fun q _ h => h) (fun q h => h) (fun u t H locs ht hvm hw hB _ _ hS => ?_)
  have hP := kW_P hB ht
  refine lv_aload_n hx hb d_Volume_takeBlock_38 rfl (lv_at hl 1 rfl) ?_
  refine va_get (D := (dC, dI)) (ci := 3) (v := .ref (ga 2)) (C := R_Volume) (T := T_Volume) (N := 2) hx hb htb uin_Volume hown hK hP 3 rfl rfl 0 (by decide) (htb _ tw95) (fun _ h9 => h9) rfl d_Volume_takeBlock_39 ?_
  refine lv_iload_n hx hb d_Volume_takeBlock_42 rfl (lv_at hl 0 rfl) ?_
  obtain ⟨x4, e4, hJ⟩ := j_bind hJ
  refine va_callv (va_runV (As := [.int x1]) (rest := []) ⟨hx, hb, hml, hown, htb⟩ (c_Memory_clear (l := l) (dC := dC) (dI := dI) hDa e4) (xcV 1 htb tw410 tw4 tw407 tw408 tw409 rfl rfl hd_Memory_clear ⟨Nat.le_of_ble_eq_true rfl, Nat.le_of_ble_eq_true rfl⟩) (kW_V hP hK (va_recv (q0 := 2) (ci := 2) hK hP rfl rfl)) rfl rfl hl.1 rfl (lv_room (Nat.le_of_ble_eq_true rfl)) d_Volume_takeBlock_43 ⟨Nat.le_of_ble_eq_true rfl, Nat.le_of_ble_eq_true rfl⟩) hS (fun q _ h => h) (fun q h => h) (fun u t H locs ht hvm hw hB _ _ hS => ?_)
  have hP := kW_P hB ht
  refine lv_iload_n hx hb d_Volume_takeBlock_46 rfl (lv_at hl 0 rfl) ?_
  have hJ := Option.some.inj hJ
  exact W.iret (v := x1) hx hb hr (fun t ht hW => ⟨⟨_, (), rfl, (j_p1 hJ), kW_end hP hK ht hW (congrArg (fun z => wC ga cB cI z) (j_p2 hJ))⟩, hS.F ht⟩) hS.2.2 d_Volume_takeBlock_47
def J_Volume_giveBack (σ : CS) (a1 : Int32) : Option (CS) :=
  (J_Blocks_get_m σ (25 : Int32) (a1 / (8 : Int32))).bind fun x1 => (J_Memory_change σ (25 : Int32) (a1 / (8 : Int32)) (x1 &&& (((1 : Int32) <<< ((a1 - a1 / (8 : Int32) * (8 : Int32)) &&& 31)) ^^^ ((-1) : Int32)))).bind fun x2 => some x2
abbrev rm_Volume_giveBack : Room := { frames := 2, cells := 0, slots := 0, locals := 46 }
set_option maxHeartbeats 4000000 in
set_option maxRecDepth 100000 in
theorem c_Volume_giveBack {l : Launch} {dC : Nat → ClassId} {dI : Nat → Nat → Nat} {ga : Nat → Nat} {cB cI : ClassId} {A : Nat → Prop} (hDa : ∀ σ, va_D A (wC ga cB cI σ)) {σ : CS} {a1 : Int32} {res : CS} (hJ : J_Volume_giveBack σ a1 = some res) :
    Met l y_Volume_giveBack (mw y_Volume_giveBack b_Volume_giveBack 2 none) rm_Volume_giveBack (va_Pc [.ref (ga 3), .int a1] (kW (dC, dI) (tC cB cI) (wC ga cB cI σ))) (va_Qv (fun (_ : Unit) => True) (fun _ t => kW (dC, dI) (tC cB cI) (wC ga cB cI res) t) A) 0 0 A := by
  refine Met.ofW (cc := b_Volume_giveBack) (maxL := 2) (ret := none) (by decide) rfl ?_
  intro p e s m args below meth c s₁ B hml hv
  obtain ⟨rfl, hP, hK⟩ := hv
  have hx := B.exec
  have hb := B.bytes
  have hr := B.returns
  have hts := atoms_spec (ws := (mw y_Volume_giveBack b_Volume_giveBack 2 none)) B.pre
  have htb : ∀ w ∈ tb, w.before [.ref (ga 3), .int a1].toArray s = true := fun w h => hts w (mwIn h)
  have hown : s.vm.findClass "LogFs$Volume" = some m.cls := findClass_of_methodNamed B.named
  have hlocks := B.notSynchronized
  have hS : va_S A s.heap s.heap [] := va_S.rf
  have hl := lv_entry ([.ref (ga 3), .int a1]) (n := 2) (Nat.le_of_ble_eq_true rfl)
  rw [lg_entry_eq]
  generalize (lg_sl ([.ref (ga 3), .int a1]) ++ List.replicate (2 - (lg_sl ([.ref (ga 3), .int a1])).length) Slot.unset).toArray = ls at hl ⊢
  have hl : lv_has ls 2 [(0, .ref (ga 3)), (1, .int a1)] := hl
  unfold J_Volume_giveBack at hJ
  refine lv_aload_n hx hb d_Volume_giveBack_0 rfl (lv_at hl 0 rfl) ?_
  refine va_get (D := (dC, dI)) (ci := 3) (v := .ref (ga 2)) (C := R_Volume) (T := T_Volume) (N := 2) hx hb htb uin_Volume hown hK hP 3 rfl rfl 0 (by decide) (htb _ tw95) (fun _ h9 => h9) rfl d_Volume_giveBack_1 ?_
  refine lv_bipush (v := (25 : Int32)) hx hb d_Volume_giveBack_4 (by decide) ?_
  refine lv_iload_n hx hb d_Volume_giveBack_6 rfl (lv_at hl 1 rfl) ?_
  refine lv_bipush (v := (8 : Int32)) hx hb d_Volume_giveBack_7 (by decide) ?_
  refine lv_idiv hx hb d_Volume_giveBack_9 (by decide) ?_
  refine lv_aload_n hx hb d_Volume_giveBack_10 rfl (lv_at hl 0 rfl) ?_
  refine va_get (D := (dC, dI)) (ci := 3) (v := .ref (ga 5)) (C := R_Volume) (T := T_Volume) (N := 2) hx hb htb uin_Volume hown hK hP 3 rfl rfl 1 (by decide) (htb _ tw96) (fun _ h9 => h9) rfl d_Volume_giveBack_11 ?_
  refine lv_bipush (v := (25 : Int32)) hx hb d_Volume_giveBack_14 (by decide) ?_
  refine lv_iload_n hx hb d_Volume_giveBack_16 rfl (lv_at hl 1 rfl) ?_
  refine lv_bipush (v := (8 : Int32)) hx hb d_Volume_giveBack_17 (by decide) ?_
  refine lv_idiv hx hb d_Volume_giveBack_19 (by decide) ?_
  obtain ⟨x1, e1, hJ⟩ := j_bind hJ
  refine va_calli (va_runV (As := [.int (25 : Int32), .int (a1 / (8 : Int32))]) (rest := [.int (a1 / (8 : Int32)), .int (25 : Int32), .ref (ga 2)]) ⟨hx, hb, hml, hown, htb⟩ (c_Blocks_get_m (l := l) (dC := dC) (dI := dI) hDa e1) (xcV 2 htb tw47 tw3 tw146 tw45 tw46 rfl rfl hd_Blocks_get ⟨Nat.le_of_ble_eq_true rfl, Nat.le_of_ble_eq_true rfl⟩) (kW_V hP hK (va_recv (q0 := 5) (ci := 0) hK hP rfl rfl)) rfl rfl hl.1 rfl (lv_room (Nat.le_of_ble_eq_true rfl)) d_Volume_giveBack_20 ⟨Nat.le_of_ble_eq_true rfl, Nat.le_of_ble_eq_true rfl⟩) hS (fun q _ h => h) (fun q h => h) (fun r0 u t H locs ht hvm hw hB _ _ hS => ?_)
  subst r0
  have hP := kW_P hB ht
  refine lv_iconst (v := (1 : Int32)) hx hb d_Volume_giveBack_23 (by decide) ?_
  refine lv_iload_n hx hb d_Volume_giveBack_24 rfl (lv_at hl 1 rfl) ?_
  refine lv_bipush (v := (8 : Int32)) hx hb d_Volume_giveBack_25 (by decide) ?_
  refine lv_irem hx hb d_Volume_giveBack_27 (by decide) ?_
  refine lv_ishl hx hb d_Volume_giveBack_28 ?_
  refine lv_iconst (v := ((-1) : Int32)) hx hb d_Volume_giveBack_29 (by decide) ?_
  refine lv_ixor hx hb d_Volume_giveBack_30 ?_
  refine lv_iand hx hb d_Volume_giveBack_31 ?_
  obtain ⟨x2, e2, hJ⟩ := j_bind hJ
  refine va_callv (va_runV (As := [.int (25 : Int32), .int (a1 / (8 : Int32)), .int (x1 &&& (((1 : Int32) <<< ((a1 - a1 / (8 : Int32) * (8 : Int32)) &&& 31)) ^^^ ((-1) : Int32)))]) (rest := []) ⟨hx, hb, hml, hown, htb⟩ (c_Memory_change (l := l) (dC := dC) (dI := dI) hDa e2) (xcV 3 htb tw376 tw4 tw373 tw374 tw375 rfl rfl hd_Memory_change ⟨Nat.le_of_ble_eq_true rfl, Nat.le_of_ble_eq_true rfl⟩) (kW_V hP hK (va_recv (q0 := 2) (ci := 2) hK hP rfl rfl)) rfl rfl hl.1 rfl (lv_room (Nat.le_of_ble_eq_true rfl)) d_Volume_giveBack_32 ⟨Nat.le_of_ble_eq_true rfl, Nat.le_of_ble_eq_true rfl⟩) hS (fun q _ h => h) (fun q h => h) (fun u t H locs ht hvm hw hB _ _ hS => ?_)
  have hP := kW_P hB ht
  have hJ := Option.some.inj hJ
  exact W.vret hx hb hr (fun t ht hW => ⟨⟨(), rfl, trivial, kW_end hP hK ht hW (congrArg (fun z => wC ga cB cI z) hJ)⟩, hS.F ht⟩) hS.2.2 d_Volume_giveBack_35
def J_Volume_addContentBlock_44 (σ : CS) (v1 : Int32) (v2 : Int32) : Option (CS) :=
  (J_Volume_takeBlock σ).bind fun x4 => (J_Volume_inodeByte x4.2 v1 (14 : Int32)).bind fun x5 => (J_Memory_change x4.2 x5 (v2 - (10 : Int32)) x4.1).bind fun x6 => some x6
def J_Volume_addContentBlock (σ : CS) (a1 : Int32) (a2 : Int32) : Option (CS) :=
  (if (10 : Int32) ≤ a2 then (J_Volume_inodeByte σ a1 (14 : Int32)).bind fun x2 => (if x2 = (0 : Int32) then (J_Volume_takeBlock σ).bind fun x7 => (J_Volume_setInodeByte x7.2 a1 (14 : Int32) x7.1).bind fun x8 => J_Volume_addContentBlock_44 x8 a1 a2 else J_Volume_addContentBlock_44 σ a1 a2) else (J_Volume_takeBlock σ).bind fun x9 => (J_Volume_setInodeByte x9.2 a1 ((4 : Int32) + a2) x9.1).bind fun x10 => some x10)
abbrev rm_Volume_addContentBlock : Room := { frames := 4, cells := 0, slots := 0, locals := 87 }
set_option maxHeartbeats 4000000 in
set_option maxRecDepth 100000 in
theorem c_Volume_addContentBlock {l : Launch} {dC : Nat → ClassId} {dI : Nat → Nat → Nat} {ga : Nat → Nat} {cB cI : ClassId} {A : Nat → Prop} (hDa : ∀ σ, va_D A (wC ga cB cI σ)) {σ : CS} {a1 : Int32} {a2 : Int32} {res : CS} (hJ : J_Volume_addContentBlock σ a1 a2 = some res) :
    Met l y_Volume_addContentBlock (mw y_Volume_addContentBlock b_Volume_addContentBlock 4 none) rm_Volume_addContentBlock (va_Pc [.ref (ga 3), .int a1, .int a2] (kW (dC, dI) (tC cB cI) (wC ga cB cI σ))) (va_Qv (fun (_ : Unit) => True) (fun _ t => kW (dC, dI) (tC cB cI) (wC ga cB cI res) t) A) 0 0 A := by
  refine Met.ofW (cc := b_Volume_addContentBlock) (maxL := 4) (ret := none) (by decide) rfl ?_
  intro p e s m args below meth c s₁ B hml hv
  obtain ⟨rfl, hP, hK⟩ := hv
  have hx := B.exec
  have hb := B.bytes
  have hr := B.returns
  have hts := atoms_spec (ws := (mw y_Volume_addContentBlock b_Volume_addContentBlock 4 none)) B.pre
  have htb : ∀ w ∈ tb, w.before [.ref (ga 3), .int a1, .int a2].toArray s = true := fun w h => hts w (mwIn h)
  have hown : s.vm.findClass "LogFs$Volume" = some m.cls := findClass_of_methodNamed B.named
  have hlocks := B.notSynchronized
  have hS : va_S A s.heap s.heap [] := va_S.rf
  have hl := lv_entry ([.ref (ga 3), .int a1, .int a2]) (n := 4) (Nat.le_of_ble_eq_true rfl)
  rw [lg_entry_eq]
  generalize (lg_sl ([.ref (ga 3), .int a1, .int a2]) ++ List.replicate (4 - (lg_sl ([.ref (ga 3), .int a1, .int a2])).length) Slot.unset).toArray = ls at hl ⊢
  have hl : lv_has ls 4 [(0, .ref (ga 3)), (1, .int a1), (2, .int a2)] := hl
  have blk44 : ∀ (σ : CS) (v1 : Int32) (v2 : Int32) (ls : Array Slot) (H : Heap) (locs : List Loc), J_Volume_addContentBlock_44 σ v1 v2 = some res → lv_has ls 4 [(0, .ref (ga 3)), (1, .int v1), (2, .int v2)] → va_P (dC, dI) cls (wC ga cB cI σ) H → va_S A s.heap H locs → W p l e (headSpec (mw y_Volume_addContentBlock b_Volume_addContentBlock 4 none) rm_Volume_addContentBlock).room s m [.ref (ga 3), .int a1, .int a2].toArray below meth c H locs 0 0 (MQ below (va_Qv (fun (_ : Unit) => True) (fun _ t => kW (dC, dI) (tC cB cI) (wC ga cB cI res) t) A) [.ref (ga 3), .int a1, .int a2].toArray s 0 0 A) (F0 m 44 ls []) := by
    intro σ v1 v2 ls H locs hJ hl hP hS
    unfold J_Volume_addContentBlock_44 at hJ
    refine lv_aload_n hx hb d_Volume_addContentBlock_44 rfl (lv_at hl 0 rfl) ?_
    obtain ⟨x4, e4, hJ⟩ := j_bind hJ
    refine va_calli (va_runV (As := []) (rest := []) ⟨hx, hb, hml, hown, htb⟩ (c_Volume_takeBlock (l := l) (dC := dC) (dI := dI) hDa e4) (xcV 0 htb tw402 tw5 tw399 tw401 ts_Volume_takeBlock rfl rfl hd_Volume_takeBlock ⟨Nat.le_of_ble_eq_true rfl, Nat.le_of_ble_eq_true rfl⟩) (kW_V hP hK (va_recv (q0 := 3) (ci := 3) hK hP rfl rfl)) rfl rfl hl.1 rfl (lv_room (Nat.le_of_ble_eq_true rfl)) d_Volume_addContentBlock_45 ⟨Nat.le_of_ble_eq_true rfl, Nat.le_of_ble_eq_true rfl⟩) hS (fun q _ h => h) (fun q h => h) (fun r0 u t H locs ht hvm hw hB _ _ hS => ?_)
    subst r0
    have hP := kW_P hB ht
    refine lv_istore_n hx hb d_Volume_addContentBlock_48 rfl hl (Nat.le_of_ble_eq_true rfl) rfl (fun ls hl => ?_)
    have hl : lv_has ls 4 [(3, .int x4.1), (0, .ref (ga 3)), (1, .int v1), (2, .int v2)] := hl
    refine lv_aload_n hx hb d_Volume_addContentBlock_49 rfl (lv_at hl 1 rfl) ?_
    refine va_get (D := (dC, dI)) (ci := 3) (v := .ref (ga 2)) (C := R_Volume) (T := T_Volume) (N := 2) hx hb htb uin_Volume hown hK hP 3 rfl rfl 0 (by decide) (htb _ tw95) (fun _ h9 => h9) rfl d_Volume_addContentBlock_50 ?_
    refine lv_aload_n hx hb d_Volume_addContentBlock_53 rfl (lv_at hl 1 rfl) ?_
    refine lv_iload_n hx hb d_Volume_addContentBlock_54 rfl (lv_at hl 2 rfl) ?_
    refine lv_bipush (v := (14 : Int32)) hx hb d_Volume_addContentBlock_55 (by decide) ?_
    obtain ⟨x5, e5, hJ⟩ := j_bind hJ
    refine va_calli (va_runV (As := [.int v1, .int (14 : Int32)]) (rest := [.ref (ga 2)]) ⟨hx, hb, hml, hown, htb⟩ (c_Volume_inodeByte (l := l) (dC := dC) (dI := dI) hDa e5) (xcV 2 htb tw164 tw5 tw161 tw163 ts_Volume_inodeByte rfl rfl hd_Volume_inodeByte ⟨Nat.le_of_ble_eq_true rfl, Nat.le_of_ble_eq_true rfl⟩) (kW_V hP hK (va_recv (q0 := 3) (ci := 3) hK hP rfl rfl)) rfl rfl hl.1 rfl (lv_room (Nat.le_of_ble_eq_true rfl)) d_Volume_addContentBlock_57 ⟨Nat.le_of_ble_eq_true rfl, Nat.le_of_ble_eq_true rfl⟩) hS (fun q _ h => h) (fun q h => h) (fun r0 u t H locs ht hvm hw hB _ _ hS => ?_)
    subst r0
    have hP := kW_P hB ht
    refine lv_iload_n hx hb d_Volume_addContentBlock_60 rfl (lv_at hl 3 rfl) ?_
    refine lv_bipush (v := (10 : Int32)) hx hb d_Volume_addContentBlock_61 (by decide) ?_
    refine lv_isub hx hb d_Volume_addContentBlock_63 ?_
    refine lv_iload_n hx hb d_Volume_addContentBlock_64 rfl (lv_at hl 0 rfl) ?_
    obtain ⟨x6, e6, hJ⟩ := j_bind hJ
    refine va_callv (va_runV (As := [.int x5, .int (v2 - (10 : Int32)), .int x4.1]) (rest := []) ⟨hx, hb, hml, hown, htb⟩ (c_Memory_change (l := l) (dC := dC) (dI := dI) hDa e6) (xcV 3 htb tw376 tw4 tw373 tw374 tw375 rfl rfl hd_Memory_change ⟨Nat.le_of_ble_eq_true rfl, Nat.le_of_ble_eq_true rfl⟩) (kW_V hP hK (va_recv (q0 := 2) (ci := 2) hK hP rfl rfl)) rfl rfl hl.1 rfl (lv_room (Nat.le_of_ble_eq_true rfl)) d_Volume_addContentBlock_65 ⟨Nat.le_of_ble_eq_true rfl, Nat.le_of_ble_eq_true rfl⟩) hS (fun q _ h => h) (fun q h => h) (fun u t H locs ht hvm hw hB _ _ hS => ?_)
    have hP := kW_P hB ht
    have hJ := Option.some.inj hJ
    exact W.vret hx hb hr (fun t ht hW => ⟨⟨(), rfl, trivial, kW_end hP hK ht hW (congrArg (fun z => wC ga cB cI z) hJ)⟩, hS.F ht⟩) hS.2.2 d_Volume_addContentBlock_68
  unfold J_Volume_addContentBlock at hJ
  refine lv_iload_n hx hb d_Volume_addContentBlock_0 rfl (lv_at hl 2 rfl) ?_
  refine lv_bipush (v := (10 : Int32)) hx hb d_Volume_addContentBlock_1 (by decide) ?_
  refine lv_icmp_ge (tgt := 21) hx hb d_Volume_addContentBlock_3 (by decide) (fun h1 => ?_) (fun h1 => ?_)
  · have hJ := j_t hJ h1
    refine lv_aload_n hx hb d_Volume_addContentBlock_21 rfl (lv_at hl 0 rfl) ?_
    refine lv_iload_n hx hb d_Volume_addContentBlock_22 rfl (lv_at hl 1 rfl) ?_
    refine lv_bipush (v := (14 : Int32)) hx hb d_Volume_addContentBlock_23 (by decide) ?_
    obtain ⟨x2, e2, hJ⟩ := j_bind hJ
    refine va_calli (va_runV (As := [.int a1, .int (14 : Int32)]) (rest := []) ⟨hx, hb, hml, hown, htb⟩ (c_Volume_inodeByte (l := l) (dC := dC) (dI := dI) hDa e2) (xcV 2 htb tw164 tw5 tw161 tw163 ts_Volume_inodeByte rfl rfl hd_Volume_inodeByte ⟨Nat.le_of_ble_eq_true rfl, Nat.le_of_ble_eq_true rfl⟩) (kW_V hP hK (va_recv (q0 := 3) (ci := 3) hK hP rfl rfl)) rfl rfl hl.1 rfl (lv_room (Nat.le_of_ble_eq_true rfl)) d_Volume_addContentBlock_25 ⟨Nat.le_of_ble_eq_true rfl, Nat.le_of_ble_eq_true rfl⟩) hS (fun q _ h => h) (fun q h => h) (fun r0 u t H locs ht hvm hw hB _ _ hS => ?_)
    subst r0
    have hP := kW_P hB ht
    refine lv_if_ne (tgt := 44) hx hb d_Volume_addContentBlock_28 (by decide) (fun h3 => ?_) (fun h3 => ?_)
    · have hJ := j_f hJ h3
      exact blk44 _ _ _ _ _ _ hJ (lv_sub hl [0, 1, 2] rfl) hP hS
    · have hJ := j_t hJ h3
      refine lv_aload_n hx hb d_Volume_addContentBlock_31 rfl (lv_at hl 0 rfl) ?_
      obtain ⟨x7, e7, hJ⟩ := j_bind hJ
      refine va_calli (va_runV (As := []) (rest := []) ⟨hx, hb, hml, hown, htb⟩ (c_Volume_takeBlock (l := l) (dC := dC) (dI := dI) hDa e7) (xcV 0 htb tw402 tw5 tw399 tw401 ts_Volume_takeBlock rfl rfl hd_Volume_takeBlock ⟨Nat.le_of_ble_eq_true rfl, Nat.le_of_ble_eq_true rfl⟩) (kW_V hP hK (va_recv (q0 := 3) (ci := 3) hK hP rfl rfl)) rfl rfl hl.1 rfl (lv_room (Nat.le_of_ble_eq_true rfl)) d_Volume_addContentBlock_32 ⟨Nat.le_of_ble_eq_true rfl, Nat.le_of_ble_eq_true rfl⟩) hS (fun q _ h => h) (fun q h => h) (fun r0 u t H locs ht hvm hw hB _ _ hS => ?_)
      subst r0
      have hP := kW_P hB ht
      refine lv_istore_n hx hb d_Volume_addContentBlock_35 rfl hl (Nat.le_of_ble_eq_true rfl) rfl (fun ls hl => ?_)
      have hl : lv_has ls 4 [(3, .int x7.1), (0, .ref (ga 3)), (1, .int a1), (2, .int a2)] := hl
      refine lv_aload_n hx hb d_Volume_addContentBlock_36 rfl (lv_at hl 1 rfl) ?_
      refine lv_iload_n hx hb d_Volume_addContentBlock_37 rfl (lv_at hl 2 rfl) ?_
      refine lv_bipush (v := (14 : Int32)) hx hb d_Volume_addContentBlock_38 (by decide) ?_
      refine lv_iload_n hx hb d_Volume_addContentBlock_40 rfl (lv_at hl 0 rfl) ?_
      obtain ⟨x8, e8, hJ⟩ := j_bind hJ
      refine va_callv (va_runV (As := [.int a1, .int (14 : Int32), .int x7.1]) (rest := []) ⟨hx, hb, hml, hown, htb⟩ (c_Volume_setInodeByte (l := l) (dC := dC) (dI := dI) hDa e8) (xcV 3 htb tw372 tw5 tw369 tw371 ts_Volume_setInodeByte rfl rfl hd_Volume_setInodeByte ⟨Nat.le_of_ble_eq_true rfl, Nat.le_of_ble_eq_true rfl⟩) (kW_V hP hK (va_recv (q0 := 3) (ci := 3) hK hP rfl rfl)) rfl rfl hl.1 rfl (lv_room (Nat.le_of_ble_eq_true rfl)) d_Volume_addContentBlock_41 ⟨Nat.le_of_ble_eq_true rfl, Nat.le_of_ble_eq_true rfl⟩) hS (fun q _ h => h) (fun q h => h) (fun u t H locs ht hvm hw hB _ _ hS => ?_)
      have hP := kW_P hB ht
      exact blk44 _ _ _ _ _ _ hJ (lv_sub hl [1, 2, 3] rfl) hP hS
  · have hJ := j_f hJ h1
    refine lv_aload_n hx hb d_Volume_addContentBlock_6 rfl (lv_at hl 0 rfl) ?_
    obtain ⟨x9, e9, hJ⟩ := j_bind hJ
    refine va_calli (va_runV (As := []) (rest := []) ⟨hx, hb, hml, hown, htb⟩ (c_Volume_takeBlock (l := l) (dC := dC) (dI := dI) hDa e9) (xcV 0 htb tw402 tw5 tw399 tw401 ts_Volume_takeBlock rfl rfl hd_Volume_takeBlock ⟨Nat.le_of_ble_eq_true rfl, Nat.le_of_ble_eq_true rfl⟩) (kW_V hP hK (va_recv (q0 := 3) (ci := 3) hK hP rfl rfl)) rfl rfl hl.1 rfl (lv_room (Nat.le_of_ble_eq_true rfl)) d_Volume_addContentBlock_7 ⟨Nat.le_of_ble_eq_true rfl, Nat.le_of_ble_eq_true rfl⟩) hS (fun q _ h => h) (fun q h => h) (fun r0 u t H locs ht hvm hw hB _ _ hS => ?_)
    subst r0
    have hP := kW_P hB ht
    refine lv_istore_n hx hb d_Volume_addContentBlock_10 rfl hl (Nat.le_of_ble_eq_true rfl) rfl (fun ls hl => ?_)
    have hl : lv_has ls 4 [(3, .int x9.1), (0, .ref (ga 3)), (1, .int a1), (2, .int a2)] := hl
    refine lv_aload_n hx hb d_Volume_addContentBlock_11 rfl (lv_at hl 1 rfl) ?_
    refine lv_iload_n hx hb d_Volume_addContentBlock_12 rfl (lv_at hl 2 rfl) ?_
    refine lv_iconst (v := (4 : Int32)) hx hb d_Volume_addContentBlock_13 (by decide) ?_
    refine lv_iload_n hx hb d_Volume_addContentBlock_14 rfl (lv_at hl 3 rfl) ?_
    refine lv_iadd hx hb d_Volume_addContentBlock_15 ?_
    refine lv_iload_n hx hb d_Volume_addContentBlock_16 rfl (lv_at hl 0 rfl) ?_
    obtain ⟨x10, e10, hJ⟩ := j_bind hJ
    refine va_callv (va_runV (As := [.int a1, .int ((4 : Int32) + a2), .int x9.1]) (rest := []) ⟨hx, hb, hml, hown, htb⟩ (c_Volume_setInodeByte (l := l) (dC := dC) (dI := dI) hDa e10) (xcV 3 htb tw372 tw5 tw369 tw371 ts_Volume_setInodeByte rfl rfl hd_Volume_setInodeByte ⟨Nat.le_of_ble_eq_true rfl, Nat.le_of_ble_eq_true rfl⟩) (kW_V hP hK (va_recv (q0 := 3) (ci := 3) hK hP rfl rfl)) rfl rfl hl.1 rfl (lv_room (Nat.le_of_ble_eq_true rfl)) d_Volume_addContentBlock_17 ⟨Nat.le_of_ble_eq_true rfl, Nat.le_of_ble_eq_true rfl⟩) hS (fun q _ h => h) (fun q h => h) (fun u t H locs ht hvm hw hB _ _ hS => ?_)
    have hP := kW_P hB ht
    have hJ := Option.some.inj hJ
    exact W.vret hx hb hr (fun t ht hW => ⟨⟨(), rfl, trivial, kW_end hP hK ht hW (congrArg (fun z => wC ga cB cI z) hJ)⟩, hS.F ht⟩) hS.2.2 d_Volume_addContentBlock_20
def J_Volume_putByte_23 (σ : CS) (v1 : Int32) (v2 : Int32) (v3 : Int32) (v4 : Int32) : Option (CS) :=
  (J_Volume_contentBlock σ v1 v4).bind fun x3 => (J_Memory_change σ x3 (v2 - v2 / (64 : Int32) * (64 : Int32)) v3).bind fun x4 => some x4
def J_Volume_putByte (σ : CS) (a1 : Int32) (a2 : Int32) (a3 : Int32) : Option (CS) :=
  (J_Volume_contentBlock σ a1 (a2 / (64 : Int32))).bind fun x1 => (if x1 = (0 : Int32) then (J_Volume_addContentBlock σ a1 (a2 / (64 : Int32))).bind fun x5 => J_Volume_putByte_23 x5 a1 a2 a3 (a2 / (64 : Int32)) else J_Volume_putByte_23 σ a1 a2 a3 (a2 / (64 : Int32)))
abbrev rm_Volume_putByte : Room := { frames := 5, cells := 0, slots := 0, locals := 110 }
set_option maxHeartbeats 4000000 in
set_option maxRecDepth 100000 in
theorem c_Volume_putByte {l : Launch} {dC : Nat → ClassId} {dI : Nat → Nat → Nat} {ga : Nat → Nat} {cB cI : ClassId} {A : Nat → Prop} (hDa : ∀ σ, va_D A (wC ga cB cI σ)) {σ : CS} {a1 : Int32} {a2 : Int32} {a3 : Int32} {res : CS} (hJ : J_Volume_putByte σ a1 a2 a3 = some res) :
    Met l y_Volume_putByte (mw y_Volume_putByte b_Volume_putByte 5 none) rm_Volume_putByte (va_Pc [.ref (ga 3), .int a1, .int a2, .int a3] (kW (dC, dI) (tC cB cI) (wC ga cB cI σ))) (va_Qv (fun (_ : Unit) => True) (fun _ t => kW (dC, dI) (tC cB cI) (wC ga cB cI res) t) A) 0 0 A := by
  refine Met.ofW (cc := b_Volume_putByte) (maxL := 5) (ret := none) (by decide) rfl ?_
  intro p e s m args below meth c s₁ B hml hv
  obtain ⟨rfl, hP, hK⟩ := hv
  have hx := B.exec
  have hb := B.bytes
  have hr := B.returns
  have hts := atoms_spec (ws := (mw y_Volume_putByte b_Volume_putByte 5 none)) B.pre
  have htb : ∀ w ∈ tb, w.before [.ref (ga 3), .int a1, .int a2, .int a3].toArray s = true := fun w h => hts w (mwIn h)
  have hown : s.vm.findClass "LogFs$Volume" = some m.cls := findClass_of_methodNamed B.named
  have hlocks := B.notSynchronized
  have hS : va_S A s.heap s.heap [] := va_S.rf
  have hl := lv_entry ([.ref (ga 3), .int a1, .int a2, .int a3]) (n := 5) (Nat.le_of_ble_eq_true rfl)
  rw [lg_entry_eq]
  generalize (lg_sl ([.ref (ga 3), .int a1, .int a2, .int a3]) ++ List.replicate (5 - (lg_sl ([.ref (ga 3), .int a1, .int a2, .int a3])).length) Slot.unset).toArray = ls at hl ⊢
  have hl : lv_has ls 5 [(0, .ref (ga 3)), (1, .int a1), (2, .int a2), (3, .int a3)] := hl
  have blk23 : ∀ (σ : CS) (v1 : Int32) (v2 : Int32) (v3 : Int32) (v4 : Int32) (ls : Array Slot) (H : Heap) (locs : List Loc), J_Volume_putByte_23 σ v1 v2 v3 v4 = some res → lv_has ls 5 [(0, .ref (ga 3)), (1, .int v1), (2, .int v2), (3, .int v3), (4, .int v4)] → va_P (dC, dI) cls (wC ga cB cI σ) H → va_S A s.heap H locs → W p l e (headSpec (mw y_Volume_putByte b_Volume_putByte 5 none) rm_Volume_putByte).room s m [.ref (ga 3), .int a1, .int a2, .int a3].toArray below meth c H locs 0 0 (MQ below (va_Qv (fun (_ : Unit) => True) (fun _ t => kW (dC, dI) (tC cB cI) (wC ga cB cI res) t) A) [.ref (ga 3), .int a1, .int a2, .int a3].toArray s 0 0 A) (F0 m 23 ls []) := by
    intro σ v1 v2 v3 v4 ls H locs hJ hl hP hS
    unfold J_Volume_putByte_23 at hJ
    refine lv_aload_n hx hb d_Volume_putByte_23 rfl (lv_at hl 0 rfl) ?_
    refine va_get (D := (dC, dI)) (ci := 3) (v := .ref (ga 2)) (C := R_Volume) (T := T_Volume) (N := 2) hx hb htb uin_Volume hown hK hP 3 rfl rfl 0 (by decide) (htb _ tw95) (fun _ h9 => h9) rfl d_Volume_putByte_24 ?_
    refine lv_aload_n hx hb d_Volume_putByte_27 rfl (lv_at hl 0 rfl) ?_
    refine lv_iload_n hx hb d_Volume_putByte_28 rfl (lv_at hl 1 rfl) ?_
    refine lv_iload hx hb d_Volume_putByte_29 (lv_at hl 4 rfl) ?_
    obtain ⟨x3, e3, hJ⟩ := j_bind hJ
    refine va_calli (va_runV (As := [.int v1, .int v4]) (rest := [.ref (ga 2)]) ⟨hx, hb, hml, hown, htb⟩ (c_Volume_contentBlock (l := l) (dC := dC) (dI := dI) hDa e3) (xcV 2 htb tw285 tw5 tw282 tw284 ts_Volume_contentBlock rfl rfl hd_Volume_contentBlock ⟨Nat.le_of_ble_eq_true rfl, Nat.le_of_ble_eq_true rfl⟩) (kW_V hP hK (va_recv (q0 := 3) (ci := 3) hK hP rfl rfl)) rfl rfl hl.1 rfl (lv_room (Nat.le_of_ble_eq_true rfl)) d_Volume_putByte_31 ⟨Nat.le_of_ble_eq_true rfl, Nat.le_of_ble_eq_true rfl⟩) hS (fun q _ h => h) (fun q h => h) (fun r0 u t H locs ht hvm hw hB _ _ hS => ?_)
    subst r0
    have hP := kW_P hB ht
    refine lv_iload_n hx hb d_Volume_putByte_34 rfl (lv_at hl 2 rfl) ?_
    refine lv_bipush (v := (64 : Int32)) hx hb d_Volume_putByte_35 (by decide) ?_
    refine lv_irem hx hb d_Volume_putByte_37 (by decide) ?_
    refine lv_iload_n hx hb d_Volume_putByte_38 rfl (lv_at hl 3 rfl) ?_
    obtain ⟨x4, e4, hJ⟩ := j_bind hJ
    refine va_callv (va_runV (As := [.int x3, .int (v2 - v2 / (64 : Int32) * (64 : Int32)), .int v3]) (rest := []) ⟨hx, hb, hml, hown, htb⟩ (c_Memory_change (l := l) (dC := dC) (dI := dI) hDa e4) (xcV 3 htb tw376 tw4 tw373 tw374 tw375 rfl rfl hd_Memory_change ⟨Nat.le_of_ble_eq_true rfl, Nat.le_of_ble_eq_true rfl⟩) (kW_V hP hK (va_recv (q0 := 2) (ci := 2) hK hP rfl rfl)) rfl rfl hl.1 rfl (lv_room (Nat.le_of_ble_eq_true rfl)) d_Volume_putByte_39 ⟨Nat.le_of_ble_eq_true rfl, Nat.le_of_ble_eq_true rfl⟩) hS (fun q _ h => h) (fun q h => h) (fun u t H locs ht hvm hw hB _ _ hS => ?_)
    have hP := kW_P hB ht
    have hJ := Option.some.inj hJ
    exact W.vret hx hb hr (fun t ht hW => ⟨⟨(), rfl, trivial, kW_end hP hK ht hW (congrArg (fun z => wC ga cB cI z) hJ)⟩, hS.F ht⟩) hS.2.2 d_Volume_putByte_42
  unfold J_Volume_putByte at hJ
  refine lv_iload_n hx hb d_Volume_putByte_0 rfl (lv_at hl 2 rfl) ?_
  refine lv_bipush (v := (64 : Int32)) hx hb d_Volume_putByte_1 (by decide) ?_
  refine lv_idiv hx hb d_Volume_putByte_3 (by decide) ?_
  refine lv_istore hx hb d_Volume_putByte_4 hl (Nat.le_of_ble_eq_true rfl) rfl (fun ls hl => ?_)
  have hl : lv_has ls 5 [(4, .int (a2 / (64 : Int32))), (0, .ref (ga 3)), (1, .int a1), (2, .int a2), (3, .int a3)] := hl
  refine lv_aload_n hx hb d_Volume_putByte_6 rfl (lv_at hl 1 rfl) ?_
  refine lv_iload_n hx hb d_Volume_putByte_7 rfl (lv_at hl 2 rfl) ?_
  refine lv_iload hx hb d_Volume_putByte_8 (lv_at hl 0 rfl) ?_
  obtain ⟨x1, e1, hJ⟩ := j_bind hJ
  refine va_calli (va_runV (As := [.int a1, .int (a2 / (64 : Int32))]) (rest := []) ⟨hx, hb, hml, hown, htb⟩ (c_Volume_contentBlock (l := l) (dC := dC) (dI := dI) hDa e1) (xcV 2 htb tw285 tw5 tw282 tw284 ts_Volume_contentBlock rfl rfl hd_Volume_contentBlock ⟨Nat.le_of_ble_eq_true rfl, Nat.le_of_ble_eq_true rfl⟩) (kW_V hP hK (va_recv (q0 := 3) (ci := 3) hK hP rfl rfl)) rfl rfl hl.1 rfl (lv_room (Nat.le_of_ble_eq_true rfl)) d_Volume_putByte_10 ⟨Nat.le_of_ble_eq_true rfl, Nat.le_of_ble_eq_true rfl⟩) hS (fun q _ h => h) (fun q h => h) (fun r0 u t H locs ht hvm hw hB _ _ hS => ?_)
  subst r0
  have hP := kW_P hB ht
  refine lv_if_ne (tgt := 23) hx hb d_Volume_putByte_13 (by decide) (fun h2 => ?_) (fun h2 => ?_)
  · have hJ := j_f hJ h2
    exact blk23 _ _ _ _ _ _ _ _ hJ (lv_sub hl [1, 2, 3, 4, 0] rfl) hP hS
  · have hJ := j_t hJ h2
    refine lv_aload_n hx hb d_Volume_putByte_16 rfl (lv_at hl 1 rfl) ?_
    refine lv_iload_n hx hb d_Volume_putByte_17 rfl (lv_at hl 2 rfl) ?_
    refine lv_iload hx hb d_Volume_putByte_18 (lv_at hl 0 rfl) ?_
    obtain ⟨x5, e5, hJ⟩ := j_bind hJ
    refine va_callv (va_runV (As := [.int a1, .int (a2 / (64 : Int32))]) (rest := []) ⟨hx, hb, hml, hown, htb⟩ (c_Volume_addContentBlock (l := l) (dC := dC) (dI := dI) hDa e5) (xcV 2 htb tw398 tw5 tw395 tw397 ts_Volume_addContentBlock rfl rfl hd_Volume_addContentBlock ⟨Nat.le_of_ble_eq_true rfl, Nat.le_of_ble_eq_true rfl⟩) (kW_V hP hK (va_recv (q0 := 3) (ci := 3) hK hP rfl rfl)) rfl rfl hl.1 rfl (lv_room (Nat.le_of_ble_eq_true rfl)) d_Volume_putByte_20 ⟨Nat.le_of_ble_eq_true rfl, Nat.le_of_ble_eq_true rfl⟩) hS (fun q _ h => h) (fun q h => h) (fun u t H locs ht hvm hw hB _ _ hS => ?_)
    have hP := kW_P hB ht
    exact blk23 _ _ _ _ _ _ _ _ hJ (lv_sub hl [1, 2, 3, 4, 0] rfl) hP hS
def J_Volume_growTo (σ : CS) (a1 : Int32) (a2 : Int32) : Option (CS) :=
  (J_Volume_size σ a1).bind fun x1 => (if a2 ≤ x1 then some σ else (J_Volume_setInodeByte σ a1 (2 : Int32) (a2 >>> ((8 : Int32) &&& 31))).bind fun x3 => (J_Volume_setInodeByte x3 a1 (3 : Int32) a2).bind fun x4 => some x4)
abbrev rm_Volume_growTo : Room := { frames := 3, cells := 0, slots := 0, locals := 69 }
set_option maxHeartbeats 4000000 in
set_option maxRecDepth 100000 in
theorem c_Volume_growTo {l : Launch} {dC : Nat → ClassId} {dI : Nat → Nat → Nat} {ga : Nat → Nat} {cB cI : ClassId} {A : Nat → Prop} (hDa : ∀ σ, va_D A (wC ga cB cI σ)) {σ : CS} {a1 : Int32} {a2 : Int32} {res : CS} (hJ : J_Volume_growTo σ a1 a2 = some res) :
    Met l y_Volume_growTo (mw y_Volume_growTo b_Volume_growTo 3 none) rm_Volume_growTo (va_Pc [.ref (ga 3), .int a1, .int a2] (kW (dC, dI) (tC cB cI) (wC ga cB cI σ))) (va_Qv (fun (_ : Unit) => True) (fun _ t => kW (dC, dI) (tC cB cI) (wC ga cB cI res) t) A) 0 0 A := by
  refine Met.ofW (cc := b_Volume_growTo) (maxL := 3) (ret := none) (by decide) rfl ?_
  intro p e s m args below meth c s₁ B hml hv
  obtain ⟨rfl, hP, hK⟩ := hv
  have hx := B.exec
  have hb := B.bytes
  have hr := B.returns
  have hts := atoms_spec (ws := (mw y_Volume_growTo b_Volume_growTo 3 none)) B.pre
  have htb : ∀ w ∈ tb, w.before [.ref (ga 3), .int a1, .int a2].toArray s = true := fun w h => hts w (mwIn h)
  have hown : s.vm.findClass "LogFs$Volume" = some m.cls := findClass_of_methodNamed B.named
  have hlocks := B.notSynchronized
  have hS : va_S A s.heap s.heap [] := va_S.rf
  have hl := lv_entry ([.ref (ga 3), .int a1, .int a2]) (n := 3) (Nat.le_of_ble_eq_true rfl)
  rw [lg_entry_eq]
  generalize (lg_sl ([.ref (ga 3), .int a1, .int a2]) ++ List.replicate (3 - (lg_sl ([.ref (ga 3), .int a1, .int a2])).length) Slot.unset).toArray = ls at hl ⊢
  have hl : lv_has ls 3 [(0, .ref (ga 3)), (1, .int a1), (2, .int a2)] := hl
  unfold J_Volume_growTo at hJ
  refine lv_iload_n hx hb d_Volume_growTo_0 rfl (lv_at hl 2 rfl) ?_
  refine lv_aload_n hx hb d_Volume_growTo_1 rfl (lv_at hl 0 rfl) ?_
  refine lv_iload_n hx hb d_Volume_growTo_2 rfl (lv_at hl 1 rfl) ?_
  obtain ⟨x1, e1, hJ⟩ := j_bind hJ
  refine va_calli (va_runV (As := [.int a1]) (rest := [.int a2]) ⟨hx, hb, hml, hown, htb⟩ (c_Volume_size (l := l) (dC := dC) (dI := dI) hDa e1) (xcV 1 htb tw277 tw5 tw274 tw275 tw276 rfl rfl hd_Volume_size ⟨Nat.le_of_ble_eq_true rfl, Nat.le_of_ble_eq_true rfl⟩) (kW_V hP hK (va_recv (q0 := 3) (ci := 3) hK hP rfl rfl)) rfl rfl hl.1 rfl (lv_room (Nat.le_of_ble_eq_true rfl)) d_Volume_growTo_3 ⟨Nat.le_of_ble_eq_true rfl, Nat.le_of_ble_eq_true rfl⟩) hS (fun q _ h => h) (fun q h => h) (fun r0 u t H locs ht hvm hw hB _ _ hS => ?_)
  subst r0
  have hP := kW_P hB ht
  refine lv_icmp_le (tgt := 26) hx hb d_Volume_growTo_6 (by decide) (fun h2 => ?_) (fun h2 => ?_)
  · have hJ := j_t hJ h2
    have hJ := Option.some.inj hJ
    exact W.vret hx hb hr (fun t ht hW => ⟨⟨(), rfl, trivial, kW_end hP hK ht hW (congrArg (fun z => wC ga cB cI z) hJ)⟩, hS.F ht⟩) hS.2.2 d_Volume_growTo_26
  · have hJ := j_f hJ h2
    refine lv_aload_n hx hb d_Volume_growTo_9 rfl (lv_at hl 0 rfl) ?_
    refine lv_iload_n hx hb d_Volume_growTo_10 rfl (lv_at hl 1 rfl) ?_
    refine lv_iconst (v := (2 : Int32)) hx hb d_Volume_growTo_11 (by decide) ?_
    refine lv_iload_n hx hb d_Volume_growTo_12 rfl (lv_at hl 2 rfl) ?_
    refine lv_bipush (v := (8 : Int32)) hx hb d_Volume_growTo_13 (by decide) ?_
    refine lv_ishr hx hb d_Volume_growTo_15 ?_
    obtain ⟨x3, e3, hJ⟩ := j_bind hJ
    refine va_callv (va_runV (As := [.int a1, .int (2 : Int32), .int (a2 >>> ((8 : Int32) &&& 31))]) (rest := []) ⟨hx, hb, hml, hown, htb⟩ (c_Volume_setInodeByte (l := l) (dC := dC) (dI := dI) hDa e3) (xcV 3 htb tw372 tw5 tw369 tw371 ts_Volume_setInodeByte rfl rfl hd_Volume_setInodeByte ⟨Nat.le_of_ble_eq_true rfl, Nat.le_of_ble_eq_true rfl⟩) (kW_V hP hK (va_recv (q0 := 3) (ci := 3) hK hP rfl rfl)) rfl rfl hl.1 rfl (lv_room (Nat.le_of_ble_eq_true rfl)) d_Volume_growTo_16 ⟨Nat.le_of_ble_eq_true rfl, Nat.le_of_ble_eq_true rfl⟩) hS (fun q _ h => h) (fun q h => h) (fun u t H locs ht hvm hw hB _ _ hS => ?_)
    have hP := kW_P hB ht
    refine lv_aload_n hx hb d_Volume_growTo_19 rfl (lv_at hl 0 rfl) ?_
    refine lv_iload_n hx hb d_Volume_growTo_20 rfl (lv_at hl 1 rfl) ?_
    refine lv_iconst (v := (3 : Int32)) hx hb d_Volume_growTo_21 (by decide) ?_
    refine lv_iload_n hx hb d_Volume_growTo_22 rfl (lv_at hl 2 rfl) ?_
    obtain ⟨x4, e4, hJ⟩ := j_bind hJ
    refine va_callv (va_runV (As := [.int a1, .int (3 : Int32), .int a2]) (rest := []) ⟨hx, hb, hml, hown, htb⟩ (c_Volume_setInodeByte (l := l) (dC := dC) (dI := dI) hDa e4) (xcV 3 htb tw372 tw5 tw369 tw371 ts_Volume_setInodeByte rfl rfl hd_Volume_setInodeByte ⟨Nat.le_of_ble_eq_true rfl, Nat.le_of_ble_eq_true rfl⟩) (kW_V hP hK (va_recv (q0 := 3) (ci := 3) hK hP rfl rfl)) rfl rfl hl.1 rfl (lv_room (Nat.le_of_ble_eq_true rfl)) d_Volume_growTo_23 ⟨Nat.le_of_ble_eq_true rfl, Nat.le_of_ble_eq_true rfl⟩) hS (fun q _ h => h) (fun q h => h) (fun u t H locs ht hvm hw hB _ _ hS => ?_)
    have hP := kW_P hB ht
    have hJ := Option.some.inj hJ
    exact W.vret hx hb hr (fun t ht hW => ⟨⟨(), rfl, trivial, kW_end hP hK ht hW (congrArg (fun z => wC ga cB cI z) hJ)⟩, hS.F ht⟩) hS.2.2 d_Volume_growTo_26
def J_Volume_putLong_3_b (k : CS → Int32 → Int32 → Int64 → Int32 → Int32 → Option (CS)) (σ : CS) (v1 : Int32) (v2 : Int32) (v3 : Int64) (v5 : Int32) (v6 : Int32) : Option (CS) :=
  (if v5 ≤ v6 then (J_Volume_growTo σ v1 (v2 + v5)).bind fun x2 => some x2 else (J_LogFs_byteOf v3 v6).bind fun x3 => (J_Volume_putByte σ v1 (v2 + v6) x3).bind fun x4 => k x4 v1 v2 v3 v5 (v6 + (1 : Int32)))
def J_Volume_putLong_3 : Nat → CS → Int32 → Int32 → Int64 → Int32 → Int32 → Option (CS)
  | 0, _, _, _, _, _, _ => none
  | n + 1, σ, v1, v2, v3, v5, v6 => J_Volume_putLong_3_b (J_Volume_putLong_3 n) σ v1 v2 v3 v5 v6
def J_Volume_putLong (σ : CS) (a1 : Int32) (a2 : Int32) (a3 : Int64) (a4 : Int32) : Option (CS) :=
  J_Volume_putLong_3 9000 σ a1 a2 a3 a4 (0 : Int32)
abbrev rm_Volume_putLong : Room := { frames := 6, cells := 0, slots := 0, locals := 134 }
set_option maxHeartbeats 4000000 in
set_option maxRecDepth 100000 in
theorem c_Volume_putLong {l : Launch} {dC : Nat → ClassId} {dI : Nat → Nat → Nat} {ga : Nat → Nat} {cB cI : ClassId} {A : Nat → Prop} (hDa : ∀ σ, va_D A (wC ga cB cI σ)) {σ : CS} {a1 : Int32} {a2 : Int32} {a3 : Int64} {a4 : Int32} {res : CS} (hJ : J_Volume_putLong σ a1 a2 a3 a4 = some res) :
    Met l y_Volume_putLong (mw y_Volume_putLong b_Volume_putLong 7 none) rm_Volume_putLong (va_Pc [.ref (ga 3), .int a1, .int a2, .long a3, .int a4] (kW (dC, dI) (tC cB cI) (wC ga cB cI σ))) (va_Qv (fun (_ : Unit) => True) (fun _ t => kW (dC, dI) (tC cB cI) (wC ga cB cI res) t) A) 0 0 A := by
  refine Met.ofW (cc := b_Volume_putLong) (maxL := 7) (ret := none) (by decide) rfl ?_
  intro p e s m args below meth c s₁ B hml hv
  obtain ⟨rfl, hP, hK⟩ := hv
  have hx := B.exec
  have hb := B.bytes
  have hr := B.returns
  have hts := atoms_spec (ws := (mw y_Volume_putLong b_Volume_putLong 7 none)) B.pre
  have htb : ∀ w ∈ tb, w.before [.ref (ga 3), .int a1, .int a2, .long a3, .int a4].toArray s = true := fun w h => hts w (mwIn h)
  have hown : s.vm.findClass "LogFs$Volume" = some m.cls := findClass_of_methodNamed B.named
  have hlocks := B.notSynchronized
  have hS : va_S A s.heap s.heap [] := va_S.rf
  have hl := lv_entry ([.ref (ga 3), .int a1, .int a2, .long a3, .int a4]) (n := 7) (Nat.le_of_ble_eq_true rfl)
  rw [lg_entry_eq]
  generalize (lg_sl ([.ref (ga 3), .int a1, .int a2, .long a3, .int a4]) ++ List.replicate (7 - (lg_sl ([.ref (ga 3), .int a1, .int a2, .long a3, .int a4])).length) Slot.unset).toArray = ls at hl ⊢
  have hl : lv_has ls 7 [(0, .ref (ga 3)), (1, .int a1), (2, .int a2), (3, .long a3), (5, .int a4)] := hl
  have blk3 : ∀ (n : Nat) (σ : CS) (v1 : Int32) (v2 : Int32) (v3 : Int64) (v5 : Int32) (v6 : Int32) (ls : Array Slot) (H : Heap) (locs : List Loc), J_Volume_putLong_3 n σ v1 v2 v3 v5 v6 = some res → lv_has ls 7 [(0, .ref (ga 3)), (1, .int v1), (2, .int v2), (3, .long v3), (5, .int v5), (6, .int v6)] → va_P (dC, dI) cls (wC ga cB cI σ) H → va_S A s.heap H locs → W p l e (headSpec (mw y_Volume_putLong b_Volume_putLong 7 none) rm_Volume_putLong).room s m [.ref (ga 3), .int a1, .int a2, .long a3, .int a4].toArray below meth c H locs 0 0 (MQ below (va_Qv (fun (_ : Unit) => True) (fun _ t => kW (dC, dI) (tC cB cI) (wC ga cB cI res) t) A) [.ref (ga 3), .int a1, .int a2, .long a3, .int a4].toArray s 0 0 A) (F0 m 3 ls []) := by
    intro n
    induction n with
    | zero => intro σ v1 v2 v3 v5 v6 ls H locs hJ; exact j_none hJ
    | succ n hk =>
      intro σ v1 v2 v3 v5 v6 ls H locs hJ hl hP hS
      have hJ : J_Volume_putLong_3_b (J_Volume_putLong_3 n) σ v1 v2 v3 v5 v6 = some res := hJ
      unfold J_Volume_putLong_3_b at hJ
      refine lv_iload hx hb d_Volume_putLong_3 (lv_at hl 5 rfl) ?_
      refine lv_iload hx hb d_Volume_putLong_5 (lv_at hl 4 rfl) ?_
      refine lv_icmp_ge (tgt := 31) hx hb d_Volume_putLong_7 (by decide) (fun h1 => ?_) (fun h1 => ?_)
      · have hJ := j_t hJ h1
        refine lv_aload_n hx hb d_Volume_putLong_31 rfl (lv_at hl 0 rfl) ?_
        refine lv_iload_n hx hb d_Volume_putLong_32 rfl (lv_at hl 1 rfl) ?_
        refine lv_iload_n hx hb d_Volume_putLong_33 rfl (lv_at hl 2 rfl) ?_
        refine lv_iload hx hb d_Volume_putLong_34 (lv_at hl 4 rfl) ?_
        refine lv_iadd hx hb d_Volume_putLong_36 ?_
        obtain ⟨x2, e2, hJ⟩ := j_bind hJ
        refine va_callv (va_runV (As := [.int v1, .int (v2 + v5)]) (rest := []) ⟨hx, hb, hml, hown, htb⟩ (c_Volume_growTo (l := l) (dC := dC) (dI := dI) hDa e2) (xcV 2 htb tw415 tw5 tw412 tw414 ts_Volume_growTo rfl rfl hd_Volume_growTo ⟨Nat.le_of_ble_eq_true rfl, Nat.le_of_ble_eq_true rfl⟩) (kW_V hP hK (va_recv (q0 := 3) (ci := 3) hK hP rfl rfl)) rfl rfl hl.1 rfl (lv_room (Nat.le_of_ble_eq_true rfl)) d_Volume_putLong_37 ⟨Nat.le_of_ble_eq_true rfl, Nat.le_of_ble_eq_true rfl⟩) hS (fun q _ h => h) (fun q h => h) (fun u t H locs ht hvm hw hB _ _ hS => ?_)
        have hP := kW_P hB ht
        have hJ := Option.some.inj hJ
        exact W.vret hx hb hr (fun t ht hW => ⟨⟨(), rfl, trivial, kW_end hP hK ht hW (congrArg (fun z => wC ga cB cI z) hJ)⟩, hS.F ht⟩) hS.2.2 d_Volume_putLong_40
      · have hJ := j_f hJ h1
        refine lv_aload_n hx hb d_Volume_putLong_10 rfl (lv_at hl 0 rfl) ?_
        refine lv_iload_n hx hb d_Volume_putLong_11 rfl (lv_at hl 1 rfl) ?_
        refine lv_iload_n hx hb d_Volume_putLong_12 rfl (lv_at hl 2 rfl) ?_
        refine lv_iload hx hb d_Volume_putLong_13 (lv_at hl 5 rfl) ?_
        refine lv_iadd hx hb d_Volume_putLong_15 ?_
        refine lv_lload_n hx hb d_Volume_putLong_16 rfl (lv_at hl 3 rfl) ?_
        refine lv_iload hx hb d_Volume_putLong_17 (lv_at hl 5 rfl) ?_
        obtain ⟨x3, e3, hJ⟩ := j_bind hJ
        refine va_calli (va_runSN (As := [.long v3, .int v6]) (rest := [.int (v2 + v6), .int v1, .ref (ga 3)]) ⟨hx, hb, hml, hown, htb⟩ (c_LogFs_byteOf (l := l) (dC := dC) (dI := dI) (σ := σ) hDa e3) (xcSN 2 htb tw269 tw1 tw390 tw268 rfl rfl hd_LogFs_byteOf ⟨Nat.le_of_ble_eq_true rfl, Nat.le_of_ble_eq_true rfl⟩) (kW_S hP hK) rfl rfl hl.1 rfl (lv_room (Nat.le_of_ble_eq_true rfl)) d_Volume_putLong_19 ⟨Nat.le_of_ble_eq_true rfl, Nat.le_of_ble_eq_true rfl⟩) hS (fun q _ h => h) (fun q h => h) (fun r0 u t H locs ht hvm hw hB _ _ hS => ?_)
        subst r0
        have hP := kW_P hB ht
        obtain ⟨x4, e4, hJ⟩ := j_bind hJ
        refine va_callv (va_runV (As := [.int v1, .int (v2 + v6), .int x3]) (rest := []) ⟨hx, hb, hml, hown, htb⟩ (c_Volume_putByte (l := l) (dC := dC) (dI := dI) hDa e4) (xcV 3 htb tw394 tw5 tw391 tw393 ts_Volume_putByte rfl rfl hd_Volume_putByte ⟨Nat.le_of_ble_eq_true rfl, Nat.le_of_ble_eq_true rfl⟩) (kW_V hP hK (va_recv (q0 := 3) (ci := 3) hK hP rfl rfl)) rfl rfl hl.1 rfl (lv_room (Nat.le_of_ble_eq_true rfl)) d_Volume_putLong_22 ⟨Nat.le_of_ble_eq_true rfl, Nat.le_of_ble_eq_true rfl⟩) hS (fun q _ h => h) (fun q h => h) (fun u t H locs ht hvm hw hB _ _ hS => ?_)
        have hP := kW_P hB ht
        refine lv_iinc (k := 5) (v := (v6 + (1 : Int32))) hx hb d_Volume_putLong_25 hl rfl rfl (Nat.le_of_ble_eq_true rfl) rfl (fun ls hl => ?_)
        have hl : lv_has ls 7 [(6, .int (v6 + (1 : Int32))), (0, .ref (ga 3)), (1, .int v1), (2, .int v2), (3, .long v3), (5, .int v5)] := hl
        refine lv_goto (tgt := 3) hx hb d_Volume_putLong_28 (by decide) ?_
        exact hk _ _ _ _ _ _ _ _ _ hJ (lv_sub hl [1, 2, 3, 4, 5, 0] rfl) hP hS
  unfold J_Volume_putLong at hJ
  refine lv_iconst (v := (0 : Int32)) hx hb d_Volume_putLong_0 (by decide) ?_
  refine lv_istore hx hb d_Volume_putLong_1 hl (Nat.le_of_ble_eq_true rfl) rfl (fun ls hl => ?_)
  have hl : lv_has ls 7 [(6, .int (0 : Int32)), (0, .ref (ga 3)), (1, .int a1), (2, .int a2), (3, .long a3), (5, .int a4)] := hl
  exact blk3 9000 _ _ _ _ _ _ _ _ _ hJ (lv_sub hl [1, 2, 3, 4, 5, 0] rfl) hP hS
def J_Volume_putSame_3_b (k : CS → Int32 → Int32 → Int32 → Int32 → Int32 → Option (CS)) (σ : CS) (v1 : Int32) (v2 : Int32) (v3 : Int32) (v4 : Int32) (v5 : Int32) : Option (CS) :=
  (if v4 ≤ v5 then (J_Volume_growTo σ v1 (v2 + v4)).bind fun x2 => some x2 else (J_Volume_putByte σ v1 (v2 + v5) v3).bind fun x3 => k x3 v1 v2 v3 v4 (v5 + (1 : Int32)))
def J_Volume_putSame_3 : Nat → CS → Int32 → Int32 → Int32 → Int32 → Int32 → Option (CS)
  | 0, _, _, _, _, _, _ => none
  | n + 1, σ, v1, v2, v3, v4, v5 => J_Volume_putSame_3_b (J_Volume_putSame_3 n) σ v1 v2 v3 v4 v5
def J_Volume_putSame (σ : CS) (a1 : Int32) (a2 : Int32) (a3 : Int32) (a4 : Int32) : Option (CS) :=
  J_Volume_putSame_3 9000 σ a1 a2 a3 a4 (0 : Int32)
abbrev rm_Volume_putSame : Room := { frames := 6, cells := 0, slots := 0, locals := 134 }
set_option maxHeartbeats 4000000 in
set_option maxRecDepth 100000 in
theorem c_Volume_putSame {l : Launch} {dC : Nat → ClassId} {dI : Nat → Nat → Nat} {ga : Nat → Nat} {cB cI : ClassId} {A : Nat → Prop} (hDa : ∀ σ, va_D A (wC ga cB cI σ)) {σ : CS} {a1 : Int32} {a2 : Int32} {a3 : Int32} {a4 : Int32} {res : CS} (hJ : J_Volume_putSame σ a1 a2 a3 a4 = some res) :
    Met l y_Volume_putSame (mw y_Volume_putSame b_Volume_putSame 6 none) rm_Volume_putSame (va_Pc [.ref (ga 3), .int a1, .int a2, .int a3, .int a4] (kW (dC, dI) (tC cB cI) (wC ga cB cI σ))) (va_Qv (fun (_ : Unit) => True) (fun _ t => kW (dC, dI) (tC cB cI) (wC ga cB cI res) t) A) 0 0 A := by
  refine Met.ofW (cc := b_Volume_putSame) (maxL := 6) (ret := none) (by decide) rfl ?_
  intro p e s m args below meth c s₁ B hml hv
  obtain ⟨rfl, hP, hK⟩ := hv
  have hx := B.exec
  have hb := B.bytes
  have hr := B.returns
  have hts := atoms_spec (ws := (mw y_Volume_putSame b_Volume_putSame 6 none)) B.pre
  have htb : ∀ w ∈ tb, w.before [.ref (ga 3), .int a1, .int a2, .int a3, .int a4].toArray s = true := fun w h => hts w (mwIn h)
  have hown : s.vm.findClass "LogFs$Volume" = some m.cls := findClass_of_methodNamed B.named
  have hlocks := B.notSynchronized
  have hS : va_S A s.heap s.heap [] := va_S.rf
  have hl := lv_entry ([.ref (ga 3), .int a1, .int a2, .int a3, .int a4]) (n := 6) (Nat.le_of_ble_eq_true rfl)
  rw [lg_entry_eq]
  generalize (lg_sl ([.ref (ga 3), .int a1, .int a2, .int a3, .int a4]) ++ List.replicate (6 - (lg_sl ([.ref (ga 3), .int a1, .int a2, .int a3, .int a4])).length) Slot.unset).toArray = ls at hl ⊢
  have hl : lv_has ls 6 [(0, .ref (ga 3)), (1, .int a1), (2, .int a2), (3, .int a3), (4, .int a4)] := hl
  have blk3 : ∀ (n : Nat) (σ : CS) (v1 : Int32) (v2 : Int32) (v3 : Int32) (v4 : Int32) (v5 : Int32) (ls : Array Slot) (H : Heap) (locs : List Loc), J_Volume_putSame_3 n σ v1 v2 v3 v4 v5 = some res → lv_has ls 6 [(0, .ref (ga 3)), (1, .int v1), (2, .int v2), (3, .int v3), (4, .int v4), (5, .int v5)] → va_P (dC, dI) cls (wC ga cB cI σ) H → va_S A s.heap H locs → W p l e (headSpec (mw y_Volume_putSame b_Volume_putSame 6 none) rm_Volume_putSame).room s m [.ref (ga 3), .int a1, .int a2, .int a3, .int a4].toArray below meth c H locs 0 0 (MQ below (va_Qv (fun (_ : Unit) => True) (fun _ t => kW (dC, dI) (tC cB cI) (wC ga cB cI res) t) A) [.ref (ga 3), .int a1, .int a2, .int a3, .int a4].toArray s 0 0 A) (F0 m 3 ls []) := by
    intro n
    induction n with
    | zero => intro σ v1 v2 v3 v4 v5 ls H locs hJ; exact j_none hJ
    | succ n hk =>
      intro σ v1 v2 v3 v4 v5 ls H locs hJ hl hP hS
      have hJ : J_Volume_putSame_3_b (J_Volume_putSame_3 n) σ v1 v2 v3 v4 v5 = some res := hJ
      unfold J_Volume_putSame_3_b at hJ
      refine lv_iload hx hb d_Volume_putSame_3 (lv_at hl 5 rfl) ?_
      refine lv_iload hx hb d_Volume_putSame_5 (lv_at hl 4 rfl) ?_
      refine lv_icmp_ge (tgt := 26) hx hb d_Volume_putSame_7 (by decide) (fun h1 => ?_) (fun h1 => ?_)
      · have hJ := j_t hJ h1
        refine lv_aload_n hx hb d_Volume_putSame_26 rfl (lv_at hl 0 rfl) ?_
        refine lv_iload_n hx hb d_Volume_putSame_27 rfl (lv_at hl 1 rfl) ?_
        refine lv_iload_n hx hb d_Volume_putSame_28 rfl (lv_at hl 2 rfl) ?_
        refine lv_iload hx hb d_Volume_putSame_29 (lv_at hl 4 rfl) ?_
        refine lv_iadd hx hb d_Volume_putSame_31 ?_
        obtain ⟨x2, e2, hJ⟩ := j_bind hJ
        refine va_callv (va_runV (As := [.int v1, .int (v2 + v4)]) (rest := []) ⟨hx, hb, hml, hown, htb⟩ (c_Volume_growTo (l := l) (dC := dC) (dI := dI) hDa e2) (xcV 2 htb tw415 tw5 tw412 tw414 ts_Volume_growTo rfl rfl hd_Volume_growTo ⟨Nat.le_of_ble_eq_true rfl, Nat.le_of_ble_eq_true rfl⟩) (kW_V hP hK (va_recv (q0 := 3) (ci := 3) hK hP rfl rfl)) rfl rfl hl.1 rfl (lv_room (Nat.le_of_ble_eq_true rfl)) d_Volume_putSame_32 ⟨Nat.le_of_ble_eq_true rfl, Nat.le_of_ble_eq_true rfl⟩) hS (fun q _ h => h) (fun q h => h) (fun u t H locs ht hvm hw hB _ _ hS => ?_)
        have hP := kW_P hB ht
        have hJ := Option.some.inj hJ
        exact W.vret hx hb hr (fun t ht hW => ⟨⟨(), rfl, trivial, kW_end hP hK ht hW (congrArg (fun z => wC ga cB cI z) hJ)⟩, hS.F ht⟩) hS.2.2 d_Volume_putSame_35
      · have hJ := j_f hJ h1
        refine lv_aload_n hx hb d_Volume_putSame_10 rfl (lv_at hl 0 rfl) ?_
        refine lv_iload_n hx hb d_Volume_putSame_11 rfl (lv_at hl 1 rfl) ?_
        refine lv_iload_n hx hb d_Volume_putSame_12 rfl (lv_at hl 2 rfl) ?_
        refine lv_iload hx hb d_Volume_putSame_13 (lv_at hl 5 rfl) ?_
        refine lv_iadd hx hb d_Volume_putSame_15 ?_
        refine lv_iload_n hx hb d_Volume_putSame_16 rfl (lv_at hl 3 rfl) ?_
        obtain ⟨x3, e3, hJ⟩ := j_bind hJ
        refine va_callv (va_runV (As := [.int v1, .int (v2 + v5), .int v3]) (rest := []) ⟨hx, hb, hml, hown, htb⟩ (c_Volume_putByte (l := l) (dC := dC) (dI := dI) hDa e3) (xcV 3 htb tw394 tw5 tw391 tw393 ts_Volume_putByte rfl rfl hd_Volume_putByte ⟨Nat.le_of_ble_eq_true rfl, Nat.le_of_ble_eq_true rfl⟩) (kW_V hP hK (va_recv (q0 := 3) (ci := 3) hK hP rfl rfl)) rfl rfl hl.1 rfl (lv_room (Nat.le_of_ble_eq_true rfl)) d_Volume_putSame_17 ⟨Nat.le_of_ble_eq_true rfl, Nat.le_of_ble_eq_true rfl⟩) hS (fun q _ h => h) (fun q h => h) (fun u t H locs ht hvm hw hB _ _ hS => ?_)
        have hP := kW_P hB ht
        refine lv_iinc (k := 5) (v := (v5 + (1 : Int32))) hx hb d_Volume_putSame_20 hl rfl rfl (Nat.le_of_ble_eq_true rfl) rfl (fun ls hl => ?_)
        have hl : lv_has ls 6 [(5, .int (v5 + (1 : Int32))), (0, .ref (ga 3)), (1, .int v1), (2, .int v2), (3, .int v3), (4, .int v4)] := hl
        refine lv_goto (tgt := 3) hx hb d_Volume_putSame_23 (by decide) ?_
        exact hk _ _ _ _ _ _ _ _ _ hJ (lv_sub hl [1, 2, 3, 4, 5, 0] rfl) hP hS
  unfold J_Volume_putSame at hJ
  refine lv_iconst (v := (0 : Int32)) hx hb d_Volume_putSame_0 (by decide) ?_
  refine lv_istore hx hb d_Volume_putSame_1 hl (Nat.le_of_ble_eq_true rfl) rfl (fun ls hl => ?_)
  have hl : lv_has ls 6 [(5, .int (0 : Int32)), (0, .ref (ga 3)), (1, .int a1), (2, .int a2), (3, .int a3), (4, .int a4)] := hl
  exact blk3 9000 _ _ _ _ _ _ _ _ _ hJ (lv_sub hl [1, 2, 3, 4, 5, 0] rfl) hP hS
def J_Volume_empty_52_b (k : CS → Int32 → Int32 → Option (CS)) (σ : CS) (v1 : Int32) (v4 : Int32) : Option (CS) :=
  (if (16 : Int32) ≤ v4 then some σ else (J_Volume_setInodeByte σ v1 v4 (0 : Int32)).bind fun x7 => k x7 v1 (v4 + (1 : Int32)))
def J_Volume_empty_52 : Nat → CS → Int32 → Int32 → Option (CS)
  | 0, _, _, _ => none
  | n + 1, σ, v1, v4 => J_Volume_empty_52_b (J_Volume_empty_52 n) σ v1 v4
def J_Volume_empty_11_b (k : CS → Int32 → Int32 → Int32 → Option (CS)) (σ : CS) (v1 : Int32) (v2 : Int32) (v3 : Int32) : Option (CS) :=
  (if v2 ≤ v3 then (J_Volume_inodeByte σ v1 (14 : Int32)).bind fun x4 => (if x4 = (0 : Int32) then J_Volume_empty_52 9000 σ v1 (2 : Int32) else (J_Volume_giveBack σ x4).bind fun x8 => J_Volume_empty_52 9000 x8 v1 (2 : Int32)) else (J_Volume_contentBlock σ v1 v3).bind fun x9 => (J_Volume_giveBack σ x9).bind fun x10 => k x10 v1 v2 (v3 + (1 : Int32)))
def J_Volume_empty_11 : Nat → CS → Int32 → Int32 → Int32 → Option (CS)
  | 0, _, _, _, _ => none
  | n + 1, σ, v1, v2, v3 => J_Volume_empty_11_b (J_Volume_empty_11 n) σ v1 v2 v3
def J_Volume_empty (σ : CS) (a1 : Int32) : Option (CS) :=
  (J_Volume_size σ a1).bind fun x1 => (J_LogFs_blocksFor x1).bind fun x2 => J_Volume_empty_11 9000 σ a1 x2 (0 : Int32)
abbrev rm_Volume_empty : Room := { frames := 3, cells := 0, slots := 0, locals := 69 }
set_option maxHeartbeats 4000000 in
set_option maxRecDepth 100000 in
theorem c_Volume_empty {l : Launch} {dC : Nat → ClassId} {dI : Nat → Nat → Nat} {ga : Nat → Nat} {cB cI : ClassId} {A : Nat → Prop} (hDa : ∀ σ, va_D A (wC ga cB cI σ)) {σ : CS} {a1 : Int32} {res : CS} (hJ : J_Volume_empty σ a1 = some res) :
    Met l y_Volume_empty (mw y_Volume_empty b_Volume_empty 5 none) rm_Volume_empty (va_Pc [.ref (ga 3), .int a1] (kW (dC, dI) (tC cB cI) (wC ga cB cI σ))) (va_Qv (fun (_ : Unit) => True) (fun _ t => kW (dC, dI) (tC cB cI) (wC ga cB cI res) t) A) 0 0 A := by
  refine Met.ofW (cc := b_Volume_empty) (maxL := 5) (ret := none) (by decide) rfl ?_
  intro p e s m args below meth c s₁ B hml hv
  obtain ⟨rfl, hP, hK⟩ := hv
  have hx := B.exec
  have hb := B.bytes
  have hr := B.returns
  have hts := atoms_spec (ws := (mw y_Volume_empty b_Volume_empty 5 none)) B.pre
  have htb : ∀ w ∈ tb, w.before [.ref (ga 3), .int a1].toArray s = true := fun w h => hts w (mwIn h)
  have hown : s.vm.findClass "LogFs$Volume" = some m.cls := findClass_of_methodNamed B.named
  have hlocks := B.notSynchronized
  have hS : va_S A s.heap s.heap [] := va_S.rf
  have hl := lv_entry ([.ref (ga 3), .int a1]) (n := 5) (Nat.le_of_ble_eq_true rfl)
  rw [lg_entry_eq]
  generalize (lg_sl ([.ref (ga 3), .int a1]) ++ List.replicate (5 - (lg_sl ([.ref (ga 3), .int a1])).length) Slot.unset).toArray = ls at hl ⊢
  have hl : lv_has ls 5 [(0, .ref (ga 3)), (1, .int a1)] := hl
  have blk52 : ∀ (n : Nat) (σ : CS) (v1 : Int32) (v4 : Int32) (ls : Array Slot) (H : Heap) (locs : List Loc), J_Volume_empty_52 n σ v1 v4 = some res → lv_has ls 5 [(0, .ref (ga 3)), (1, .int v1), (4, .int v4)] → va_P (dC, dI) cls (wC ga cB cI σ) H → va_S A s.heap H locs → W p l e (headSpec (mw y_Volume_empty b_Volume_empty 5 none) rm_Volume_empty).room s m [.ref (ga 3), .int a1].toArray below meth c H locs 0 0 (MQ below (va_Qv (fun (_ : Unit) => True) (fun _ t => kW (dC, dI) (tC cB cI) (wC ga cB cI res) t) A) [.ref (ga 3), .int a1].toArray s 0 0 A) (F0 m 52 ls []) := by
    intro n
    induction n with
    | zero => intro σ v1 v4 ls H locs hJ; exact j_none hJ
    | succ n hk =>
      intro σ v1 v4 ls H locs hJ hl hP hS
      have hJ : J_Volume_empty_52_b (J_Volume_empty_52 n) σ v1 v4 = some res := hJ
      unfold J_Volume_empty_52_b at hJ
      refine lv_iload hx hb d_Volume_empty_52 (lv_at hl 2 rfl) ?_
      refine lv_bipush (v := (16 : Int32)) hx hb d_Volume_empty_54 (by decide) ?_
      refine lv_icmp_ge (tgt := 73) hx hb d_Volume_empty_56 (by decide) (fun h6 => ?_) (fun h6 => ?_)
      · have hJ := j_t hJ h6
        have hJ := Option.some.inj hJ
        exact W.vret hx hb hr (fun t ht hW => ⟨⟨(), rfl, trivial, kW_end hP hK ht hW (congrArg (fun z => wC ga cB cI z) hJ)⟩, hS.F ht⟩) hS.2.2 d_Volume_empty_73
      · have hJ := j_f hJ h6
        refine lv_aload_n hx hb d_Volume_empty_59 rfl (lv_at hl 0 rfl) ?_
        refine lv_iload_n hx hb d_Volume_empty_60 rfl (lv_at hl 1 rfl) ?_
        refine lv_iload hx hb d_Volume_empty_61 (lv_at hl 2 rfl) ?_
        refine lv_iconst (v := (0 : Int32)) hx hb d_Volume_empty_63 (by decide) ?_
        obtain ⟨x7, e7, hJ⟩ := j_bind hJ
        refine va_callv (va_runV (As := [.int v1, .int v4, .int (0 : Int32)]) (rest := []) ⟨hx, hb, hml, hown, htb⟩ (c_Volume_setInodeByte (l := l) (dC := dC) (dI := dI) hDa e7) (xcV 3 htb tw372 tw5 tw369 tw371 ts_Volume_setInodeByte rfl rfl hd_Volume_setInodeByte ⟨Nat.le_of_ble_eq_true rfl, Nat.le_of_ble_eq_true rfl⟩) (kW_V hP hK (va_recv (q0 := 3) (ci := 3) hK hP rfl rfl)) rfl rfl hl.1 rfl (lv_room (Nat.le_of_ble_eq_true rfl)) d_Volume_empty_64 ⟨Nat.le_of_ble_eq_true rfl, Nat.le_of_ble_eq_true rfl⟩) hS (fun q _ h => h) (fun q h => h) (fun u t H locs ht hvm hw hB _ _ hS => ?_)
        have hP := kW_P hB ht
        refine lv_iinc (k := 2) (v := (v4 + (1 : Int32))) hx hb d_Volume_empty_67 hl rfl rfl (Nat.le_of_ble_eq_true rfl) rfl (fun ls hl => ?_)
        have hl : lv_has ls 5 [(4, .int (v4 + (1 : Int32))), (0, .ref (ga 3)), (1, .int v1)] := hl
        refine lv_goto (tgt := 52) hx hb d_Volume_empty_70 (by decide) ?_
        exact hk _ _ _ _ _ _ hJ (lv_sub hl [1, 2, 0] rfl) hP hS
  have blk11 : ∀ (n : Nat) (σ : CS) (v1 : Int32) (v2 : Int32) (v3 : Int32) (ls : Array Slot) (H : Heap) (locs : List Loc), J_Volume_empty_11 n σ v1 v2 v3 = some res → lv_has ls 5 [(0, .ref (ga 3)), (1, .int v1), (2, .int v2), (3, .int v3)] → va_P (dC, dI) cls (wC ga cB cI σ) H → va_S A s.heap H locs → W p l e (headSpec (mw y_Volume_empty b_Volume_empty 5 none) rm_Volume_empty).room s m [.ref (ga 3), .int a1].toArray below meth c H locs 0 0 (MQ below (va_Qv (fun (_ : Unit) => True) (fun _ t => kW (dC, dI) (tC cB cI) (wC ga cB cI res) t) A) [.ref (ga 3), .int a1].toArray s 0 0 A) (F0 m 11 ls []) := by
    intro n
    induction n with
    | zero => intro σ v1 v2 v3 ls H locs hJ; exact j_none hJ
    | succ n hk =>
      intro σ v1 v2 v3 ls H locs hJ hl hP hS
      have hJ : J_Volume_empty_11_b (J_Volume_empty_11 n) σ v1 v2 v3 = some res := hJ
      unfold J_Volume_empty_11_b at hJ
      refine lv_iload_n hx hb d_Volume_empty_11 rfl (lv_at hl 3 rfl) ?_
      refine lv_iload_n hx hb d_Volume_empty_12 rfl (lv_at hl 2 rfl) ?_
      refine lv_icmp_ge (tgt := 32) hx hb d_Volume_empty_13 (by decide) (fun h3 => ?_) (fun h3 => ?_)
      · have hJ := j_t hJ h3
        refine lv_aload_n hx hb d_Volume_empty_32 rfl (lv_at hl 0 rfl) ?_
        refine lv_iload_n hx hb d_Volume_empty_33 rfl (lv_at hl 1 rfl) ?_
        refine lv_bipush (v := (14 : Int32)) hx hb d_Volume_empty_34 (by decide) ?_
        obtain ⟨x4, e4, hJ⟩ := j_bind hJ
        refine va_calli (va_runV (As := [.int v1, .int (14 : Int32)]) (rest := []) ⟨hx, hb, hml, hown, htb⟩ (c_Volume_inodeByte (l := l) (dC := dC) (dI := dI) hDa e4) (xcV 2 htb tw164 tw5 tw161 tw163 ts_Volume_inodeByte rfl rfl hd_Volume_inodeByte ⟨Nat.le_of_ble_eq_true rfl, Nat.le_of_ble_eq_true rfl⟩) (kW_V hP hK (va_recv (q0 := 3) (ci := 3) hK hP rfl rfl)) rfl rfl hl.1 rfl (lv_room (Nat.le_of_ble_eq_true rfl)) d_Volume_empty_36 ⟨Nat.le_of_ble_eq_true rfl, Nat.le_of_ble_eq_true rfl⟩) hS (fun q _ h => h) (fun q h => h) (fun r0 u t H locs ht hvm hw hB _ _ hS => ?_)
        subst r0
        have hP := kW_P hB ht
        refine lv_istore_n hx hb d_Volume_empty_39 rfl hl (Nat.le_of_ble_eq_true rfl) rfl (fun ls hl => ?_)
        have hl : lv_has ls 5 [(3, .int x4), (0, .ref (ga 3)), (1, .int v1), (2, .int v2)] := hl
        refine lv_iload_n hx hb d_Volume_empty_40 rfl (lv_at hl 0 rfl) ?_
        refine lv_if_eq (tgt := 49) hx hb d_Volume_empty_41 (by decide) (fun h5 => ?_) (fun h5 => ?_)
        · have hJ := j_t hJ h5
          refine lv_iconst (v := (2 : Int32)) hx hb d_Volume_empty_49 (by decide) ?_
          refine lv_istore hx hb d_Volume_empty_50 hl (Nat.le_of_ble_eq_true rfl) rfl (fun ls hl => ?_)
          have hl : lv_has ls 5 [(4, .int (2 : Int32)), (3, .int x4), (0, .ref (ga 3)), (1, .int v1), (2, .int v2)] := hl
          exact blk52 9000 _ _ _ _ _ _ hJ (lv_sub hl [2, 3, 0] rfl) hP hS
        · have hJ := j_f hJ h5
          refine lv_aload_n hx hb d_Volume_empty_44 rfl (lv_at hl 1 rfl) ?_
          refine lv_iload_n hx hb d_Volume_empty_45 rfl (lv_at hl 0 rfl) ?_
          obtain ⟨x8, e8, hJ⟩ := j_bind hJ
          refine va_callv (va_runV (As := [.int x4]) (rest := []) ⟨hx, hb, hml, hown, htb⟩ (c_Volume_giveBack (l := l) (dC := dC) (dI := dI) hDa e8) (xcV 1 htb tw463 tw5 tw460 tw462 ts_Volume_giveBack rfl rfl hd_Volume_giveBack ⟨Nat.le_of_ble_eq_true rfl, Nat.le_of_ble_eq_true rfl⟩) (kW_V hP hK (va_recv (q0 := 3) (ci := 3) hK hP rfl rfl)) rfl rfl hl.1 rfl (lv_room (Nat.le_of_ble_eq_true rfl)) d_Volume_empty_46 ⟨Nat.le_of_ble_eq_true rfl, Nat.le_of_ble_eq_true rfl⟩) hS (fun q _ h => h) (fun q h => h) (fun u t H locs ht hvm hw hB _ _ hS => ?_)
          have hP := kW_P hB ht
          refine lv_iconst (v := (2 : Int32)) hx hb d_Volume_empty_49 (by decide) ?_
          refine lv_istore hx hb d_Volume_empty_50 hl (Nat.le_of_ble_eq_true rfl) rfl (fun ls hl => ?_)
          have hl : lv_has ls 5 [(4, .int (2 : Int32)), (3, .int x4), (0, .ref (ga 3)), (1, .int v1), (2, .int v2)] := hl
          exact blk52 9000 _ _ _ _ _ _ hJ (lv_sub hl [2, 3, 0] rfl) hP hS
      · have hJ := j_f hJ h3
        refine lv_aload_n hx hb d_Volume_empty_16 rfl (lv_at hl 0 rfl) ?_
        refine lv_aload_n hx hb d_Volume_empty_17 rfl (lv_at hl 0 rfl) ?_
        refine lv_iload_n hx hb d_Volume_empty_18 rfl (lv_at hl 1 rfl) ?_
        refine lv_iload_n hx hb d_Volume_empty_19 rfl (lv_at hl 3 rfl) ?_
        obtain ⟨x9, e9, hJ⟩ := j_bind hJ
        refine va_calli (va_runV (As := [.int v1, .int v3]) (rest := [.ref (ga 3)]) ⟨hx, hb, hml, hown, htb⟩ (c_Volume_contentBlock (l := l) (dC := dC) (dI := dI) hDa e9) (xcV 2 htb tw285 tw5 tw282 tw284 ts_Volume_contentBlock rfl rfl hd_Volume_contentBlock ⟨Nat.le_of_ble_eq_true rfl, Nat.le_of_ble_eq_true rfl⟩) (kW_V hP hK (va_recv (q0 := 3) (ci := 3) hK hP rfl rfl)) rfl rfl hl.1 rfl (lv_room (Nat.le_of_ble_eq_true rfl)) d_Volume_empty_20 ⟨Nat.le_of_ble_eq_true rfl, Nat.le_of_ble_eq_true rfl⟩) hS (fun q _ h => h) (fun q h => h) (fun r0 u t H locs ht hvm hw hB _ _ hS => ?_)
        subst r0
        have hP := kW_P hB ht
        obtain ⟨x10, e10, hJ⟩ := j_bind hJ
        refine va_callv (va_runV (As := [.int x9]) (rest := []) ⟨hx, hb, hml, hown, htb⟩ (c_Volume_giveBack (l := l) (dC := dC) (dI := dI) hDa e10) (xcV 1 htb tw463 tw5 tw460 tw462 ts_Volume_giveBack rfl rfl hd_Volume_giveBack ⟨Nat.le_of_ble_eq_true rfl, Nat.le_of_ble_eq_true rfl⟩) (kW_V hP hK (va_recv (q0 := 3) (ci := 3) hK hP rfl rfl)) rfl rfl hl.1 rfl (lv_room (Nat.le_of_ble_eq_true rfl)) d_Volume_empty_23 ⟨Nat.le_of_ble_eq_true rfl, Nat.le_of_ble_eq_true rfl⟩) hS (fun q _ h => h) (fun q h => h) (fun u t H locs ht hvm hw hB _ _ hS => ?_)
        have hP := kW_P hB ht
        refine lv_iinc (k := 3) (v := (v3 + (1 : Int32))) hx hb d_Volume_empty_26 hl rfl rfl (Nat.le_of_ble_eq_true rfl) rfl (fun ls hl => ?_)
        have hl : lv_has ls 5 [(3, .int (v3 + (1 : Int32))), (0, .ref (ga 3)), (1, .int v1), (2, .int v2)] := hl
        refine lv_goto (tgt := 11) hx hb d_Volume_empty_29 (by decide) ?_
        exact hk _ _ _ _ _ _ _ hJ (lv_sub hl [1, 2, 3, 0] rfl) hP hS
  unfold J_Volume_empty at hJ
  refine lv_aload_n hx hb d_Volume_empty_0 rfl (lv_at hl 0 rfl) ?_
  refine lv_iload_n hx hb d_Volume_empty_1 rfl (lv_at hl 1 rfl) ?_
  obtain ⟨x1, e1, hJ⟩ := j_bind hJ
  refine va_calli (va_runV (As := [.int a1]) (rest := []) ⟨hx, hb, hml, hown, htb⟩ (c_Volume_size (l := l) (dC := dC) (dI := dI) hDa e1) (xcV 1 htb tw277 tw5 tw274 tw275 tw276 rfl rfl hd_Volume_size ⟨Nat.le_of_ble_eq_true rfl, Nat.le_of_ble_eq_true rfl⟩) (kW_V hP hK (va_recv (q0 := 3) (ci := 3) hK hP rfl rfl)) rfl rfl hl.1 rfl (lv_room (Nat.le_of_ble_eq_true rfl)) d_Volume_empty_2 ⟨Nat.le_of_ble_eq_true rfl, Nat.le_of_ble_eq_true rfl⟩) hS (fun q _ h => h) (fun q h => h) (fun r0 u t H locs ht hvm hw hB _ _ hS => ?_)
  subst r0
  have hP := kW_P hB ht
  obtain ⟨x2, e2, hJ⟩ := j_bind hJ
  refine va_calli (va_runSN (As := [.int x1]) (rest := []) ⟨hx, hb, hml, hown, htb⟩ (c_LogFs_blocksFor (l := l) (dC := dC) (dI := dI) (σ := σ) hDa e2) (xcSN 1 htb tw300 tw1 tw298 tw299 rfl rfl hd_LogFs_blocksFor ⟨Nat.le_of_ble_eq_true rfl, Nat.le_of_ble_eq_true rfl⟩) (kW_S hP hK) rfl rfl hl.1 rfl (lv_room (Nat.le_of_ble_eq_true rfl)) d_Volume_empty_5 ⟨Nat.le_of_ble_eq_true rfl, Nat.le_of_ble_eq_true rfl⟩) hS (fun q _ h => h) (fun q h => h) (fun r0 u t H locs ht hvm hw hB _ _ hS => ?_)
  subst r0
  have hP := kW_P hB ht
  refine lv_istore_n hx hb d_Volume_empty_8 rfl hl (Nat.le_of_ble_eq_true rfl) rfl (fun ls hl => ?_)
  have hl : lv_has ls 5 [(2, .int x2), (0, .ref (ga 3)), (1, .int a1)] := hl
  refine lv_iconst (v := (0 : Int32)) hx hb d_Volume_empty_9 (by decide) ?_
  refine lv_istore_n hx hb d_Volume_empty_10 rfl hl (Nat.le_of_ble_eq_true rfl) rfl (fun ls hl => ?_)
  have hl : lv_has ls 5 [(3, .int (0 : Int32)), (2, .int x2), (0, .ref (ga 3)), (1, .int a1)] := hl
  exact blk11 9000 _ _ _ _ _ _ _ hJ (lv_sub hl [2, 3, 1, 0] rfl) hP hS
def J_Volume_dropLink (σ : CS) (a1 : Int32) : Option (CS) :=
  (J_Volume_links σ a1).bind fun x1 => (if x1 ≤ (1 : Int32) then (J_Volume_empty σ a1).bind fun x3 => (J_Volume_setInodeByte x3 a1 (0 : Int32) (0 : Int32)).bind fun x4 => (J_Volume_setInodeByte x4 a1 (1 : Int32) (0 : Int32)).bind fun x5 => some x5 else (J_Volume_links σ a1).bind fun x6 => (J_Volume_setInodeByte σ a1 (1 : Int32) (x6 - (1 : Int32))).bind fun x7 => some x7)
abbrev rm_Volume_dropLink : Room := { frames := 4, cells := 0, slots := 0, locals := 93 }
set_option maxHeartbeats 4000000 in
set_option maxRecDepth 100000 in
theorem c_Volume_dropLink {l : Launch} {dC : Nat → ClassId} {dI : Nat → Nat → Nat} {ga : Nat → Nat} {cB cI : ClassId} {A : Nat → Prop} (hDa : ∀ σ, va_D A (wC ga cB cI σ)) {σ : CS} {a1 : Int32} {res : CS} (hJ : J_Volume_dropLink σ a1 = some res) :
    Met l y_Volume_dropLink (mw y_Volume_dropLink b_Volume_dropLink 2 none) rm_Volume_dropLink (va_Pc [.ref (ga 3), .int a1] (kW (dC, dI) (tC cB cI) (wC ga cB cI σ))) (va_Qv (fun (_ : Unit) => True) (fun _ t => kW (dC, dI) (tC cB cI) (wC ga cB cI res) t) A) 0 0 A := by
  refine Met.ofW (cc := b_Volume_dropLink) (maxL := 2) (ret := none) (by decide) rfl ?_
  intro p e s m args below meth c s₁ B hml hv
  obtain ⟨rfl, hP, hK⟩ := hv
  have hx := B.exec
  have hb := B.bytes
  have hr := B.returns
  have hts := atoms_spec (ws := (mw y_Volume_dropLink b_Volume_dropLink 2 none)) B.pre
  have htb : ∀ w ∈ tb, w.before [.ref (ga 3), .int a1].toArray s = true := fun w h => hts w (mwIn h)
  have hown : s.vm.findClass "LogFs$Volume" = some m.cls := findClass_of_methodNamed B.named
  have hlocks := B.notSynchronized
  have hS : va_S A s.heap s.heap [] := va_S.rf
  have hl := lv_entry ([.ref (ga 3), .int a1]) (n := 2) (Nat.le_of_ble_eq_true rfl)
  rw [lg_entry_eq]
  generalize (lg_sl ([.ref (ga 3), .int a1]) ++ List.replicate (2 - (lg_sl ([.ref (ga 3), .int a1])).length) Slot.unset).toArray = ls at hl ⊢
  have hl : lv_has ls 2 [(0, .ref (ga 3)), (1, .int a1)] := hl
  unfold J_Volume_dropLink at hJ
  refine lv_aload_n hx hb d_Volume_dropLink_0 rfl (lv_at hl 0 rfl) ?_
  refine lv_iload_n hx hb d_Volume_dropLink_1 rfl (lv_at hl 1 rfl) ?_
  obtain ⟨x1, e1, hJ⟩ := j_bind hJ
  refine va_calli (va_runV (As := [.int a1]) (rest := []) ⟨hx, hb, hml, hown, htb⟩ (c_Volume_links (l := l) (dC := dC) (dI := dI) hDa e1) (xcV 1 htb tw430 tw5 tw435 tw428 tw429 rfl rfl hd_Volume_links ⟨Nat.le_of_ble_eq_true rfl, Nat.le_of_ble_eq_true rfl⟩) (kW_V hP hK (va_recv (q0 := 3) (ci := 3) hK hP rfl rfl)) rfl rfl hl.1 rfl (lv_room (Nat.le_of_ble_eq_true rfl)) d_Volume_dropLink_2 ⟨Nat.le_of_ble_eq_true rfl, Nat.le_of_ble_eq_true rfl⟩) hS (fun q _ h => h) (fun q h => h) (fun r0 u t H locs ht hvm hw hB _ _ hS => ?_)
  subst r0
  have hP := kW_P hB ht
  refine lv_iconst (v := (1 : Int32)) hx hb d_Volume_dropLink_5 (by decide) ?_
  refine lv_icmp_le (tgt := 23) hx hb d_Volume_dropLink_6 (by decide) (fun h2 => ?_) (fun h2 => ?_)
  · have hJ := j_t hJ h2
    refine lv_aload_n hx hb d_Volume_dropLink_23 rfl (lv_at hl 0 rfl) ?_
    refine lv_iload_n hx hb d_Volume_dropLink_24 rfl (lv_at hl 1 rfl) ?_
    obtain ⟨x3, e3, hJ⟩ := j_bind hJ
    refine va_callv (va_runV (As := [.int a1]) (rest := []) ⟨hx, hb, hml, hown, htb⟩ (c_Volume_empty (l := l) (dC := dC) (dI := dI) hDa e3) (xcV 1 htb tw459 tw5 tw456 tw457 tw458 rfl rfl hd_Volume_empty ⟨Nat.le_of_ble_eq_true rfl, Nat.le_of_ble_eq_true rfl⟩) (kW_V hP hK (va_recv (q0 := 3) (ci := 3) hK hP rfl rfl)) rfl rfl hl.1 rfl (lv_room (Nat.le_of_ble_eq_true rfl)) d_Volume_dropLink_25 ⟨Nat.le_of_ble_eq_true rfl, Nat.le_of_ble_eq_true rfl⟩) hS (fun q _ h => h) (fun q h => h) (fun u t H locs ht hvm hw hB _ _ hS => ?_)
    have hP := kW_P hB ht
    refine lv_aload_n hx hb d_Volume_dropLink_28 rfl (lv_at hl 0 rfl) ?_
    refine lv_iload_n hx hb d_Volume_dropLink_29 rfl (lv_at hl 1 rfl) ?_
    refine lv_iconst (v := (0 : Int32)) hx hb d_Volume_dropLink_30 (by decide) ?_
    refine lv_iconst (v := (0 : Int32)) hx hb d_Volume_dropLink_31 (by decide) ?_
    obtain ⟨x4, e4, hJ⟩ := j_bind hJ
    refine va_callv (va_runV (As := [.int a1, .int (0 : Int32), .int (0 : Int32)]) (rest := []) ⟨hx, hb, hml, hown, htb⟩ (c_Volume_setInodeByte (l := l) (dC := dC) (dI := dI) hDa e4) (xcV 3 htb tw372 tw5 tw369 tw371 ts_Volume_setInodeByte rfl rfl hd_Volume_setInodeByte ⟨Nat.le_of_ble_eq_true rfl, Nat.le_of_ble_eq_true rfl⟩) (kW_V hP hK (va_recv (q0 := 3) (ci := 3) hK hP rfl rfl)) rfl rfl hl.1 rfl (lv_room (Nat.le_of_ble_eq_true rfl)) d_Volume_dropLink_32 ⟨Nat.le_of_ble_eq_true rfl, Nat.le_of_ble_eq_true rfl⟩) hS (fun q _ h => h) (fun q h => h) (fun u t H locs ht hvm hw hB _ _ hS => ?_)
    have hP := kW_P hB ht
    refine lv_aload_n hx hb d_Volume_dropLink_35 rfl (lv_at hl 0 rfl) ?_
    refine lv_iload_n hx hb d_Volume_dropLink_36 rfl (lv_at hl 1 rfl) ?_
    refine lv_iconst (v := (1 : Int32)) hx hb d_Volume_dropLink_37 (by decide) ?_
    refine lv_iconst (v := (0 : Int32)) hx hb d_Volume_dropLink_38 (by decide) ?_
    obtain ⟨x5, e5, hJ⟩ := j_bind hJ
    refine va_callv (va_runV (As := [.int a1, .int (1 : Int32), .int (0 : Int32)]) (rest := []) ⟨hx, hb, hml, hown, htb⟩ (c_Volume_setInodeByte (l := l) (dC := dC) (dI := dI) hDa e5) (xcV 3 htb tw372 tw5 tw369 tw371 ts_Volume_setInodeByte rfl rfl hd_Volume_setInodeByte ⟨Nat.le_of_ble_eq_true rfl, Nat.le_of_ble_eq_true rfl⟩) (kW_V hP hK (va_recv (q0 := 3) (ci := 3) hK hP rfl rfl)) rfl rfl hl.1 rfl (lv_room (Nat.le_of_ble_eq_true rfl)) d_Volume_dropLink_39 ⟨Nat.le_of_ble_eq_true rfl, Nat.le_of_ble_eq_true rfl⟩) hS (fun q _ h => h) (fun q h => h) (fun u t H locs ht hvm hw hB _ _ hS => ?_)
    have hP := kW_P hB ht
    have hJ := Option.some.inj hJ
    exact W.vret hx hb hr (fun t ht hW => ⟨⟨(), rfl, trivial, kW_end hP hK ht hW (congrArg (fun z => wC ga cB cI z) hJ)⟩, hS.F ht⟩) hS.2.2 d_Volume_dropLink_42
  · have hJ := j_f hJ h2
    refine lv_aload_n hx hb d_Volume_dropLink_9 rfl (lv_at hl 0 rfl) ?_
    refine lv_iload_n hx hb d_Volume_dropLink_10 rfl (lv_at hl 1 rfl) ?_
    refine lv_iconst (v := (1 : Int32)) hx hb d_Volume_dropLink_11 (by decide) ?_
    refine lv_aload_n hx hb d_Volume_dropLink_12 rfl (lv_at hl 0 rfl) ?_
    refine lv_iload_n hx hb d_Volume_dropLink_13 rfl (lv_at hl 1 rfl) ?_
    obtain ⟨x6, e6, hJ⟩ := j_bind hJ
    refine va_calli (va_runV (As := [.int a1]) (rest := [.int (1 : Int32), .int a1, .ref (ga 3)]) ⟨hx, hb, hml, hown, htb⟩ (c_Volume_links (l := l) (dC := dC) (dI := dI) hDa e6) (xcV 1 htb tw430 tw5 tw435 tw428 tw429 rfl rfl hd_Volume_links ⟨Nat.le_of_ble_eq_true rfl, Nat.le_of_ble_eq_true rfl⟩) (kW_V hP hK (va_recv (q0 := 3) (ci := 3) hK hP rfl rfl)) rfl rfl hl.1 rfl (lv_room (Nat.le_of_ble_eq_true rfl)) d_Volume_dropLink_14 ⟨Nat.le_of_ble_eq_true rfl, Nat.le_of_ble_eq_true rfl⟩) hS (fun q _ h => h) (fun q h => h) (fun r0 u t H locs ht hvm hw hB _ _ hS => ?_)
    subst r0
    have hP := kW_P hB ht
    refine lv_iconst (v := (1 : Int32)) hx hb d_Volume_dropLink_17 (by decide) ?_
    refine lv_isub hx hb d_Volume_dropLink_18 ?_
    obtain ⟨x7, e7, hJ⟩ := j_bind hJ
    refine va_callv (va_runV (As := [.int a1, .int (1 : Int32), .int (x6 - (1 : Int32))]) (rest := []) ⟨hx, hb, hml, hown, htb⟩ (c_Volume_setInodeByte (l := l) (dC := dC) (dI := dI) hDa e7) (xcV 3 htb tw372 tw5 tw369 tw371 ts_Volume_setInodeByte rfl rfl hd_Volume_setInodeByte ⟨Nat.le_of_ble_eq_true rfl, Nat.le_of_ble_eq_true rfl⟩) (kW_V hP hK (va_recv (q0 := 3) (ci := 3) hK hP rfl rfl)) rfl rfl hl.1 rfl (lv_room (Nat.le_of_ble_eq_true rfl)) d_Volume_dropLink_19 ⟨Nat.le_of_ble_eq_true rfl, Nat.le_of_ble_eq_true rfl⟩) hS (fun q _ h => h) (fun q h => h) (fun u t H locs ht hvm hw hB _ _ hS => ?_)
    have hP := kW_P hB ht
    have hJ := Option.some.inj hJ
    exact W.vret hx hb hr (fun t ht hW => ⟨⟨(), rfl, trivial, kW_end hP hK ht hW (congrArg (fun z => wC ga cB cI z) hJ)⟩, hS.F ht⟩) hS.2.2 d_Volume_dropLink_22
end
