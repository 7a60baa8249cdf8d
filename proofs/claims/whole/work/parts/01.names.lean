-- ===== PART A: goes FIRST, ahead of the names: the tables' words, and 'selects' of the private methods out of them =====
/-- a private method of a class that the tables say can be made, by its rows of tables_1 -/
def lw_okq (q : MethodName × Nat) : Prop := (q.1.cls ≠ "java/lang/invoke/MethodHandle" ∧ q.1.cls ≠ "java/lang/invoke/VarHandle") ∧ Cond.instantiable q.1.cls q.2 ∈ tables_1 ∧ Cond.privateMethod q.1 ∈ tables_1 ∧ Cond.instanceMethod q.1 ∈ tables_1
theorem lw_p0 : lw_okq (⟨"WallReadings$Text", "readItem", "(LWallReadings$World;)Z"⟩, 3) := ⟨⟨by decide +kernel, by decide +kernel⟩, List.mem_of_getElem? (i := 38) (by decide +kernel), List.mem_of_getElem? (i := 236) (by decide +kernel), List.mem_of_getElem? (i := 237) (by decide +kernel)⟩
theorem lw_p1 : lw_okq (⟨"WallReadings$Text", "sign", "()C"⟩, 3) := ⟨⟨by decide +kernel, by decide +kernel⟩, List.mem_of_getElem? (i := 38) (by decide +kernel), List.mem_of_getElem? (i := 240) (by decide +kernel), List.mem_of_getElem? (i := 241) (by decide +kernel)⟩
theorem lw_p2 : lw_okq (⟨"WallReadings$Text", "readRoot", "(LWallReadings$World;)Z"⟩, 3) := ⟨⟨by decide +kernel, by decide +kernel⟩, List.mem_of_getElem? (i := 38) (by decide +kernel), List.mem_of_getElem? (i := 244) (by decide +kernel), List.mem_of_getElem? (i := 245) (by decide +kernel)⟩
theorem lw_p3 : lw_okq (⟨"WallReadings$Text", "readRow", "(IC)I"⟩, 3) := ⟨⟨by decide +kernel, by decide +kernel⟩, List.mem_of_getElem? (i := 38) (by decide +kernel), List.mem_of_getElem? (i := 248) (by decide +kernel), List.mem_of_getElem? (i := 249) (by decide +kernel)⟩
theorem lw_p4 : lw_okq (⟨"WallReadings$Text", "isNext", "(C)Z"⟩, 3) := ⟨⟨by decide +kernel, by decide +kernel⟩, List.mem_of_getElem? (i := 38) (by decide +kernel), List.mem_of_getElem? (i := 252) (by decide +kernel), List.mem_of_getElem? (i := 253) (by decide +kernel)⟩
theorem lw_p5 : lw_okq (⟨"WallReadings$Text", "readNumber", "(IIC)I"⟩, 3) := ⟨⟨by decide +kernel, by decide +kernel⟩, List.mem_of_getElem? (i := 38) (by decide +kernel), List.mem_of_getElem? (i := 256) (by decide +kernel), List.mem_of_getElem? (i := 257) (by decide +kernel)⟩
theorem lw_p6 : lw_okq (⟨"WallReadings$Text", "readReader", "(LWallReadings$World;)Z"⟩, 3) := ⟨⟨by decide +kernel, by decide +kernel⟩, List.mem_of_getElem? (i := 38) (by decide +kernel), List.mem_of_getElem? (i := 270) (by decide +kernel), List.mem_of_getElem? (i := 271) (by decide +kernel)⟩
theorem lw_p7 : lw_okq (⟨"WallReadings$Text", "readWriting", "(LWallReadings$World;)Z"⟩, 3) := ⟨⟨by decide +kernel, by decide +kernel⟩, List.mem_of_getElem? (i := 38) (by decide +kernel), List.mem_of_getElem? (i := 278) (by decide +kernel), List.mem_of_getElem? (i := 279) (by decide +kernel)⟩
theorem lw_p8 : lw_okq (⟨"WallReadings$Text", "readRiver", "(LWallReadings$World;)Z"⟩, 3) := ⟨⟨by decide +kernel, by decide +kernel⟩, List.mem_of_getElem? (i := 38) (by decide +kernel), List.mem_of_getElem? (i := 282) (by decide +kernel), List.mem_of_getElem? (i := 283) (by decide +kernel)⟩
theorem lw_p9 : lw_okq (⟨"WallReadings$Text", "readGold", "(LWallReadings$World;)Z"⟩, 3) := ⟨⟨by decide +kernel, by decide +kernel⟩, List.mem_of_getElem? (i := 38) (by decide +kernel), List.mem_of_getElem? (i := 287) (by decide +kernel), List.mem_of_getElem? (i := 288) (by decide +kernel)⟩
theorem lw_p10 : lw_okq (⟨"WallReadings", "begin", "()V"⟩, 11) := ⟨⟨by decide +kernel, by decide +kernel⟩, List.mem_of_getElem? (i := 15) (by decide +kernel), List.mem_of_getElem? (i := 295) (by decide +kernel), List.mem_of_getElem? (i := 296) (by decide +kernel)⟩
theorem lw_p11 : lw_okq (⟨"WallReadings", "isReader", "(I)Z"⟩, 11) := ⟨⟨by decide +kernel, by decide +kernel⟩, List.mem_of_getElem? (i := 15) (by decide +kernel), List.mem_of_getElem? (i := 358) (by decide +kernel), List.mem_of_getElem? (i := 359) (by decide +kernel)⟩
theorem lw_p12 : lw_okq (⟨"WallReadings", "readingsOf", "(II)I"⟩, 11) := ⟨⟨by decide +kernel, by decide +kernel⟩, List.mem_of_getElem? (i := 15) (by decide +kernel), List.mem_of_getElem? (i := 362) (by decide +kernel), List.mem_of_getElem? (i := 363) (by decide +kernel)⟩
theorem lw_p13 : lw_okq (⟨"WallReadings$Grammar", "fitWords", "(I)V"⟩, 12) := ⟨⟨by decide +kernel, by decide +kernel⟩, List.mem_of_getElem? (i := 124) (by decide +kernel), List.mem_of_getElem? (i := 371) (by decide +kernel), List.mem_of_getElem? (i := 372) (by decide +kernel)⟩
theorem lw_p14 : lw_okq (⟨"WallReadings$Grammar", "mayEndAt", "(I)Z"⟩, 12) := ⟨⟨by decide +kernel, by decide +kernel⟩, List.mem_of_getElem? (i := 124) (by decide +kernel), List.mem_of_getElem? (i := 380) (by decide +kernel), List.mem_of_getElem? (i := 381) (by decide +kernel)⟩
theorem lw_p15 : lw_okq (⟨"WallReadings$Grammar", "tallyFrom", "(I)V"⟩, 12) := ⟨⟨by decide +kernel, by decide +kernel⟩, List.mem_of_getElem? (i := 124) (by decide +kernel), List.mem_of_getElem? (i := 384) (by decide +kernel), List.mem_of_getElem? (i := 385) (by decide +kernel)⟩
def lw_privs_1 : List (MethodName × Nat) := [(⟨"WallReadings$Text", "readItem", "(LWallReadings$World;)Z"⟩, 3), (⟨"WallReadings$Text", "sign", "()C"⟩, 3), (⟨"WallReadings$Text", "readRoot", "(LWallReadings$World;)Z"⟩, 3), (⟨"WallReadings$Text", "readRow", "(IC)I"⟩, 3), (⟨"WallReadings$Text", "isNext", "(C)Z"⟩, 3), (⟨"WallReadings$Text", "readNumber", "(IIC)I"⟩, 3), (⟨"WallReadings$Text", "readReader", "(LWallReadings$World;)Z"⟩, 3), (⟨"WallReadings$Text", "readWriting", "(LWallReadings$World;)Z"⟩, 3), (⟨"WallReadings$Text", "readRiver", "(LWallReadings$World;)Z"⟩, 3), (⟨"WallReadings$Text", "readGold", "(LWallReadings$World;)Z"⟩, 3), (⟨"WallReadings", "begin", "()V"⟩, 11), (⟨"WallReadings", "isReader", "(I)Z"⟩, 11), (⟨"WallReadings", "readingsOf", "(II)I"⟩, 11), (⟨"WallReadings$Grammar", "fitWords", "(I)V"⟩, 12), (⟨"WallReadings$Grammar", "mayEndAt", "(I)Z"⟩, 12), (⟨"WallReadings$Grammar", "tallyFrom", "(I)V"⟩, 12)]
theorem lw_r1 : ∀ q ∈ lw_privs_1, lw_okq q := List.forall_mem_cons.mpr ⟨lw_p0, List.forall_mem_cons.mpr ⟨lw_p1, List.forall_mem_cons.mpr ⟨lw_p2, List.forall_mem_cons.mpr ⟨lw_p3, List.forall_mem_cons.mpr ⟨lw_p4, List.forall_mem_cons.mpr ⟨lw_p5, List.forall_mem_cons.mpr ⟨lw_p6, List.forall_mem_cons.mpr ⟨lw_p7, List.forall_mem_cons.mpr ⟨lw_p8, List.forall_mem_cons.mpr ⟨lw_p9, List.forall_mem_cons.mpr ⟨lw_p10, List.forall_mem_cons.mpr ⟨lw_p11, List.forall_mem_cons.mpr ⟨lw_p12, List.forall_mem_cons.mpr ⟨lw_p13, List.forall_mem_cons.mpr ⟨lw_p14, List.forall_mem_cons.mpr ⟨lw_p15, fun _ h => absurd h List.not_mem_nil⟩⟩⟩⟩⟩⟩⟩⟩⟩⟩⟩⟩⟩⟩⟩⟩
theorem lw_p16 : lw_okq (⟨"WallReadings", "isReading", "(II)Z"⟩, 11) := ⟨⟨by decide +kernel, by decide +kernel⟩, List.mem_of_getElem? (i := 15) (by decide +kernel), List.mem_of_getElem? (i := 392) (by decide +kernel), List.mem_of_getElem? (i := 393) (by decide +kernel)⟩
theorem lw_p17 : lw_okq (⟨"WallReadings$Grammar", "openAt", "(I)I"⟩, 12) := ⟨⟨by decide +kernel, by decide +kernel⟩, List.mem_of_getElem? (i := 124) (by decide +kernel), List.mem_of_getElem? (i := 400) (by decide +kernel), List.mem_of_getElem? (i := 401) (by decide +kernel)⟩
theorem lw_p18 : lw_okq (⟨"WallReadings$Grammar", "slotBehind", "(II)I"⟩, 12) := ⟨⟨by decide +kernel, by decide +kernel⟩, List.mem_of_getElem? (i := 124) (by decide +kernel), List.mem_of_getElem? (i := 407) (by decide +kernel), List.mem_of_getElem? (i := 408) (by decide +kernel)⟩
theorem lw_p19 : lw_okq (⟨"WallReadings$Grammar", "addWord", "(I)V"⟩, 12) := ⟨⟨by decide +kernel, by decide +kernel⟩, List.mem_of_getElem? (i := 124) (by decide +kernel), List.mem_of_getElem? (i := 411) (by decide +kernel), List.mem_of_getElem? (i := 412) (by decide +kernel)⟩
theorem lw_p20 : lw_okq (⟨"WallReadings", "toldBy", "(II)I"⟩, 11) := ⟨⟨by decide +kernel, by decide +kernel⟩, List.mem_of_getElem? (i := 15) (by decide +kernel), List.mem_of_getElem? (i := 423) (by decide +kernel), List.mem_of_getElem? (i := 424) (by decide +kernel)⟩
theorem lw_p21 : lw_okq (⟨"WallReadings$Grammar", "rank", "()V"⟩, 12) := ⟨⟨by decide +kernel, by decide +kernel⟩, List.mem_of_getElem? (i := 124) (by decide +kernel), List.mem_of_getElem? (i := 431) (by decide +kernel), List.mem_of_getElem? (i := 432) (by decide +kernel)⟩
theorem lw_p22 : lw_okq (⟨"WallReadings$Grammar", "bestFrom", "(I)I"⟩, 12) := ⟨⟨by decide +kernel, by decide +kernel⟩, List.mem_of_getElem? (i := 124) (by decide +kernel), List.mem_of_getElem? (i := 435) (by decide +kernel), List.mem_of_getElem? (i := 436) (by decide +kernel)⟩
theorem lw_p23 : lw_okq (⟨"WallReadings$Grammar", "gainOf", "(I)I"⟩, 12) := ⟨⟨by decide +kernel, by decide +kernel⟩, List.mem_of_getElem? (i := 124) (by decide +kernel), List.mem_of_getElem? (i := 439) (by decide +kernel), List.mem_of_getElem? (i := 440) (by decide +kernel)⟩
theorem lw_p24 : lw_okq (⟨"WallReadings$Grammar", "firstOfBest", "()I"⟩, 12) := ⟨⟨by decide +kernel, by decide +kernel⟩, List.mem_of_getElem? (i := 124) (by decide +kernel), List.mem_of_getElem? (i := 444) (by decide +kernel), List.mem_of_getElem? (i := 445) (by decide +kernel)⟩
theorem lw_p25 : lw_okq (⟨"WallReadings", "verbsToldBy", "(I)I"⟩, 11) := ⟨⟨by decide +kernel, by decide +kernel⟩, List.mem_of_getElem? (i := 15) (by decide +kernel), List.mem_of_getElem? (i := 459) (by decide +kernel), List.mem_of_getElem? (i := 460) (by decide +kernel)⟩
theorem lw_p26 : lw_okq (⟨"WallReadings", "hasFallen", "()Z"⟩, 11) := ⟨⟨by decide +kernel, by decide +kernel⟩, List.mem_of_getElem? (i := 15) (by decide +kernel), List.mem_of_getElem? (i := 468) (by decide +kernel), List.mem_of_getElem? (i := 469) (by decide +kernel)⟩
theorem lw_p27 : lw_okq (⟨"WallReadings", "isEnough", "(II)Z"⟩, 11) := ⟨⟨by decide +kernel, by decide +kernel⟩, List.mem_of_getElem? (i := 15) (by decide +kernel), List.mem_of_getElem? (i := 538) (by decide +kernel), List.mem_of_getElem? (i := 539) (by decide +kernel)⟩
theorem lw_p28 : lw_okq (⟨"WallReadings", "isCheaper", "(II)Z"⟩, 11) := ⟨⟨by decide +kernel, by decide +kernel⟩, List.mem_of_getElem? (i := 15) (by decide +kernel), List.mem_of_getElem? (i := 551) (by decide +kernel), List.mem_of_getElem? (i := 552) (by decide +kernel)⟩
theorem lw_p29 : lw_okq (⟨"WallReadings", "isAsSeen", "(I)Z"⟩, 11) := ⟨⟨by decide +kernel, by decide +kernel⟩, List.mem_of_getElem? (i := 15) (by decide +kernel), List.mem_of_getElem? (i := 567) (by decide +kernel), List.mem_of_getElem? (i := 568) (by decide +kernel)⟩
theorem lw_p30 : lw_okq (⟨"WallReadings", "wordsOfRoots", "(I)I"⟩, 11) := ⟨⟨by decide +kernel, by decide +kernel⟩, List.mem_of_getElem? (i := 15) (by decide +kernel), List.mem_of_getElem? (i := 575) (by decide +kernel), List.mem_of_getElem? (i := 576) (by decide +kernel)⟩
theorem lw_p31 : lw_okq (⟨"WallReadings", "oddsOf", "(II)J"⟩, 11) := ⟨⟨by decide +kernel, by decide +kernel⟩, List.mem_of_getElem? (i := 15) (by decide +kernel), List.mem_of_getElem? (i := 579) (by decide +kernel), List.mem_of_getElem? (i := 580) (by decide +kernel)⟩
def lw_privs_2 : List (MethodName × Nat) := [(⟨"WallReadings", "isReading", "(II)Z"⟩, 11), (⟨"WallReadings$Grammar", "openAt", "(I)I"⟩, 12), (⟨"WallReadings$Grammar", "slotBehind", "(II)I"⟩, 12), (⟨"WallReadings$Grammar", "addWord", "(I)V"⟩, 12), (⟨"WallReadings", "toldBy", "(II)I"⟩, 11), (⟨"WallReadings$Grammar", "rank", "()V"⟩, 12), (⟨"WallReadings$Grammar", "bestFrom", "(I)I"⟩, 12), (⟨"WallReadings$Grammar", "gainOf", "(I)I"⟩, 12), (⟨"WallReadings$Grammar", "firstOfBest", "()I"⟩, 12), (⟨"WallReadings", "verbsToldBy", "(I)I"⟩, 11), (⟨"WallReadings", "hasFallen", "()Z"⟩, 11), (⟨"WallReadings", "isEnough", "(II)Z"⟩, 11), (⟨"WallReadings", "isCheaper", "(II)Z"⟩, 11), (⟨"WallReadings", "isAsSeen", "(I)Z"⟩, 11), (⟨"WallReadings", "wordsOfRoots", "(I)I"⟩, 11), (⟨"WallReadings", "oddsOf", "(II)J"⟩, 11)]
theorem lw_r2 : ∀ q ∈ lw_privs_2, lw_okq q := List.forall_mem_cons.mpr ⟨lw_p16, List.forall_mem_cons.mpr ⟨lw_p17, List.forall_mem_cons.mpr ⟨lw_p18, List.forall_mem_cons.mpr ⟨lw_p19, List.forall_mem_cons.mpr ⟨lw_p20, List.forall_mem_cons.mpr ⟨lw_p21, List.forall_mem_cons.mpr ⟨lw_p22, List.forall_mem_cons.mpr ⟨lw_p23, List.forall_mem_cons.mpr ⟨lw_p24, List.forall_mem_cons.mpr ⟨lw_p25, List.forall_mem_cons.mpr ⟨lw_p26, List.forall_mem_cons.mpr ⟨lw_p27, List.forall_mem_cons.mpr ⟨lw_p28, List.forall_mem_cons.mpr ⟨lw_p29, List.forall_mem_cons.mpr ⟨lw_p30, List.forall_mem_cons.mpr ⟨lw_p31, fun _ h => absurd h List.not_mem_nil⟩⟩⟩⟩⟩⟩⟩⟩⟩⟩⟩⟩⟩⟩⟩⟩
theorem lw_p32 : lw_okq (⟨"WallReadingsModel", "clearTold", "()V"⟩, 40) := ⟨⟨by decide +kernel, by decide +kernel⟩, List.mem_of_getElem? (i := 614) (by decide +kernel), List.mem_of_getElem? (i := 620) (by decide +kernel), List.mem_of_getElem? (i := 621) (by decide +kernel)⟩
theorem lw_p33 : lw_okq (⟨"WallReadingsModel", "tellsAll", "()V"⟩, 40) := ⟨⟨by decide +kernel, by decide +kernel⟩, List.mem_of_getElem? (i := 614) (by decide +kernel), List.mem_of_getElem? (i := 624) (by decide +kernel), List.mem_of_getElem? (i := 625) (by decide +kernel)⟩
theorem lw_p34 : lw_okq (⟨"WallReadingsModel", "tellsRoot", "(IIII)V"⟩, 40) := ⟨⟨by decide +kernel, by decide +kernel⟩, List.mem_of_getElem? (i := 614) (by decide +kernel), List.mem_of_getElem? (i := 628) (by decide +kernel), List.mem_of_getElem? (i := 629) (by decide +kernel)⟩
theorem lw_p35 : lw_okq (⟨"WallReadingsModel", "tellsReader", "(III)V"⟩, 40) := ⟨⟨by decide +kernel, by decide +kernel⟩, List.mem_of_getElem? (i := 614) (by decide +kernel), List.mem_of_getElem? (i := 632) (by decide +kernel), List.mem_of_getElem? (i := 633) (by decide +kernel)⟩
theorem lw_p36 : lw_okq (⟨"WallReadingsModel", "settles", "()V"⟩, 40) := ⟨⟨by decide +kernel, by decide +kernel⟩, List.mem_of_getElem? (i := 614) (by decide +kernel), List.mem_of_getElem? (i := 636) (by decide +kernel), List.mem_of_getElem? (i := 637) (by decide +kernel)⟩
theorem lw_p37 : lw_okq (⟨"WallReadingsModel", "readItem", "()Z"⟩, 40) := ⟨⟨by decide +kernel, by decide +kernel⟩, List.mem_of_getElem? (i := 614) (by decide +kernel), List.mem_of_getElem? (i := 779) (by decide +kernel), List.mem_of_getElem? (i := 780) (by decide +kernel)⟩
theorem lw_p38 : lw_okq (⟨"WallReadingsModel", "letterAt", "(I)I"⟩, 40) := ⟨⟨by decide +kernel, by decide +kernel⟩, List.mem_of_getElem? (i := 614) (by decide +kernel), List.mem_of_getElem? (i := 783) (by decide +kernel), List.mem_of_getElem? (i := 784) (by decide +kernel)⟩
theorem lw_p39 : lw_okq (⟨"WallReadingsModel", "readRootOf", "()Z"⟩, 40) := ⟨⟨by decide +kernel, by decide +kernel⟩, List.mem_of_getElem? (i := 614) (by decide +kernel), List.mem_of_getElem? (i := 787) (by decide +kernel), List.mem_of_getElem? (i := 788) (by decide +kernel)⟩
theorem lw_p40 : lw_okq (⟨"WallReadingsModel", "readLetters", "([IIII)I"⟩, 40) := ⟨⟨by decide +kernel, by decide +kernel⟩, List.mem_of_getElem? (i := 614) (by decide +kernel), List.mem_of_getElem? (i := 791) (by decide +kernel), List.mem_of_getElem? (i := 792) (by decide +kernel)⟩
theorem lw_p41 : lw_okq (⟨"WallReadingsModel", "isNew", "(I)Z"⟩, 40) := ⟨⟨by decide +kernel, by decide +kernel⟩, List.mem_of_getElem? (i := 614) (by decide +kernel), List.mem_of_getElem? (i := 795) (by decide +kernel), List.mem_of_getElem? (i := 796) (by decide +kernel)⟩
theorem lw_p42 : lw_okq (⟨"WallReadingsModel", "readNumbers", "(I)Z"⟩, 40) := ⟨⟨by decide +kernel, by decide +kernel⟩, List.mem_of_getElem? (i := 614) (by decide +kernel), List.mem_of_getElem? (i := 799) (by decide +kernel), List.mem_of_getElem? (i := 800) (by decide +kernel)⟩
theorem lw_p43 : lw_okq (⟨"WallReadingsModel", "isTold", "(III)Z"⟩, 40) := ⟨⟨by decide +kernel, by decide +kernel⟩, List.mem_of_getElem? (i := 614) (by decide +kernel), List.mem_of_getElem? (i := 806) (by decide +kernel), List.mem_of_getElem? (i := 807) (by decide +kernel)⟩
theorem lw_p44 : lw_okq (⟨"WallReadingsModel", "readReaderOf", "()Z"⟩, 40) := ⟨⟨by decide +kernel, by decide +kernel⟩, List.mem_of_getElem? (i := 614) (by decide +kernel), List.mem_of_getElem? (i := 810) (by decide +kernel), List.mem_of_getElem? (i := 811) (by decide +kernel)⟩
theorem lw_p45 : lw_okq (⟨"WallReadingsModel", "readRiverOf", "()Z"⟩, 40) := ⟨⟨by decide +kernel, by decide +kernel⟩, List.mem_of_getElem? (i := 614) (by decide +kernel), List.mem_of_getElem? (i := 814) (by decide +kernel), List.mem_of_getElem? (i := 815) (by decide +kernel)⟩
theorem lw_p46 : lw_okq (⟨"WallReadingsModel", "isReader", "(I)Z"⟩, 40) := ⟨⟨by decide +kernel, by decide +kernel⟩, List.mem_of_getElem? (i := 614) (by decide +kernel), List.mem_of_getElem? (i := 831) (by decide +kernel), List.mem_of_getElem? (i := 832) (by decide +kernel)⟩
theorem lw_p47 : lw_okq (⟨"WallReadingsModel", "all", "()I"⟩, 40) := ⟨⟨by decide +kernel, by decide +kernel⟩, List.mem_of_getElem? (i := 614) (by decide +kernel), List.mem_of_getElem? (i := 835) (by decide +kernel), List.mem_of_getElem? (i := 836) (by decide +kernel)⟩
def lw_privs_3 : List (MethodName × Nat) := [(⟨"WallReadingsModel", "clearTold", "()V"⟩, 40), (⟨"WallReadingsModel", "tellsAll", "()V"⟩, 40), (⟨"WallReadingsModel", "tellsRoot", "(IIII)V"⟩, 40), (⟨"WallReadingsModel", "tellsReader", "(III)V"⟩, 40), (⟨"WallReadingsModel", "settles", "()V"⟩, 40), (⟨"WallReadingsModel", "readItem", "()Z"⟩, 40), (⟨"WallReadingsModel", "letterAt", "(I)I"⟩, 40), (⟨"WallReadingsModel", "readRootOf", "()Z"⟩, 40), (⟨"WallReadingsModel", "readLetters", "([IIII)I"⟩, 40), (⟨"WallReadingsModel", "isNew", "(I)Z"⟩, 40), (⟨"WallReadingsModel", "readNumbers", "(I)Z"⟩, 40), (⟨"WallReadingsModel", "isTold", "(III)Z"⟩, 40), (⟨"WallReadingsModel", "readReaderOf", "()Z"⟩, 40), (⟨"WallReadingsModel", "readRiverOf", "()Z"⟩, 40), (⟨"WallReadingsModel", "isReader", "(I)Z"⟩, 40), (⟨"WallReadingsModel", "all", "()I"⟩, 40)]
theorem lw_r3 : ∀ q ∈ lw_privs_3, lw_okq q := List.forall_mem_cons.mpr ⟨lw_p32, List.forall_mem_cons.mpr ⟨lw_p33, List.forall_mem_cons.mpr ⟨lw_p34, List.forall_mem_cons.mpr ⟨lw_p35, List.forall_mem_cons.mpr ⟨lw_p36, List.forall_mem_cons.mpr ⟨lw_p37, List.forall_mem_cons.mpr ⟨lw_p38, List.forall_mem_cons.mpr ⟨lw_p39, List.forall_mem_cons.mpr ⟨lw_p40, List.forall_mem_cons.mpr ⟨lw_p41, List.forall_mem_cons.mpr ⟨lw_p42, List.forall_mem_cons.mpr ⟨lw_p43, List.forall_mem_cons.mpr ⟨lw_p44, List.forall_mem_cons.mpr ⟨lw_p45, List.forall_mem_cons.mpr ⟨lw_p46, List.forall_mem_cons.mpr ⟨lw_p47, fun _ h => absurd h List.not_mem_nil⟩⟩⟩⟩⟩⟩⟩⟩⟩⟩⟩⟩⟩⟩⟩⟩
theorem lw_p48 : lw_okq (⟨"WallReadingsModel", "asWritten", "(II)V"⟩, 40) := ⟨⟨by decide +kernel, by decide +kernel⟩, List.mem_of_getElem? (i := 614) (by decide +kernel), List.mem_of_getElem? (i := 839) (by decide +kernel), List.mem_of_getElem? (i := 840) (by decide +kernel)⟩
theorem lw_p49 : lw_okq (⟨"WallReadingsModel", "begins", "(II)V"⟩, 40) := ⟨⟨by decide +kernel, by decide +kernel⟩, List.mem_of_getElem? (i := 614) (by decide +kernel), List.mem_of_getElem? (i := 843) (by decide +kernel), List.mem_of_getElem? (i := 844) (by decide +kernel)⟩
theorem lw_p50 : lw_okq (⟨"WallReadingsModel", "manyReadings", "()I"⟩, 40) := ⟨⟨by decide +kernel, by decide +kernel⟩, List.mem_of_getElem? (i := 614) (by decide +kernel), List.mem_of_getElem? (i := 847) (by decide +kernel), List.mem_of_getElem? (i := 848) (by decide +kernel)⟩
theorem lw_p51 : lw_okq (⟨"WallReadingsModel", "isNext", "()Z"⟩, 40) := ⟨⟨by decide +kernel, by decide +kernel⟩, List.mem_of_getElem? (i := 614) (by decide +kernel), List.mem_of_getElem? (i := 851) (by decide +kernel), List.mem_of_getElem? (i := 852) (by decide +kernel)⟩
theorem lw_p52 : lw_okq (⟨"WallReadingsModel", "fits", "()Z"⟩, 40) := ⟨⟨by decide +kernel, by decide +kernel⟩, List.mem_of_getElem? (i := 614) (by decide +kernel), List.mem_of_getElem? (i := 855) (by decide +kernel), List.mem_of_getElem? (i := 856) (by decide +kernel)⟩
theorem lw_p53 : lw_okq (⟨"WallReadingsModel", "isVerb", "(I)Z"⟩, 40) := ⟨⟨by decide +kernel, by decide +kernel⟩, List.mem_of_getElem? (i := 614) (by decide +kernel), List.mem_of_getElem? (i := 859) (by decide +kernel), List.mem_of_getElem? (i := 860) (by decide +kernel)⟩
theorem lw_p54 : lw_okq (⟨"WallReadingsModel", "verbsIn", "()I"⟩, 40) := ⟨⟨by decide +kernel, by decide +kernel⟩, List.mem_of_getElem? (i := 614) (by decide +kernel), List.mem_of_getElem? (i := 866) (by decide +kernel), List.mem_of_getElem? (i := 867) (by decide +kernel)⟩
theorem lw_p55 : lw_okq (⟨"WallReadingsModel", "isReading", "(II)Z"⟩, 40) := ⟨⟨by decide +kernel, by decide +kernel⟩, List.mem_of_getElem? (i := 614) (by decide +kernel), List.mem_of_getElem? (i := 874) (by decide +kernel), List.mem_of_getElem? (i := 875) (by decide +kernel)⟩
theorem lw_p56 : lw_okq (⟨"WallReadingsModel", "weighs", "()I"⟩, 40) := ⟨⟨by decide +kernel, by decide +kernel⟩, List.mem_of_getElem? (i := 614) (by decide +kernel), List.mem_of_getElem? (i := 878) (by decide +kernel), List.mem_of_getElem? (i := 879) (by decide +kernel)⟩
theorem lw_p57 : lw_okq (⟨"WallReadingsModel", "verbs", "()I"⟩, 40) := ⟨⟨by decide +kernel, by decide +kernel⟩, List.mem_of_getElem? (i := 614) (by decide +kernel), List.mem_of_getElem? (i := 882) (by decide +kernel), List.mem_of_getElem? (i := 883) (by decide +kernel)⟩
theorem lw_p58 : lw_okq (⟨"WallReadingsModel", "isTelling", "()Z"⟩, 40) := ⟨⟨by decide +kernel, by decide +kernel⟩, List.mem_of_getElem? (i := 614) (by decide +kernel), List.mem_of_getElem? (i := 894) (by decide +kernel), List.mem_of_getElem? (i := 895) (by decide +kernel)⟩
theorem lw_p59 : lw_okq (⟨"WallReadingsModel", "remembers", "()V"⟩, 40) := ⟨⟨by decide +kernel, by decide +kernel⟩, List.mem_of_getElem? (i := 614) (by decide +kernel), List.mem_of_getElem? (i := 902) (by decide +kernel), List.mem_of_getElem? (i := 903) (by decide +kernel)⟩
theorem lw_p60 : lw_okq (⟨"WallReadingsModel", "verbsBy", "(I)I"⟩, 40) := ⟨⟨by decide +kernel, by decide +kernel⟩, List.mem_of_getElem? (i := 614) (by decide +kernel), List.mem_of_getElem? (i := 906) (by decide +kernel), List.mem_of_getElem? (i := 907) (by decide +kernel)⟩
theorem lw_p61 : lw_okq (⟨"WallReadingsModel", "isFallen", "()Z"⟩, 40) := ⟨⟨by decide +kernel, by decide +kernel⟩, List.mem_of_getElem? (i := 614) (by decide +kernel), List.mem_of_getElem? (i := 914) (by decide +kernel), List.mem_of_getElem? (i := 915) (by decide +kernel)⟩
theorem lw_p62 : lw_okq (⟨"WallReadingsModel", "fall", "()I"⟩, 40) := ⟨⟨by decide +kernel, by decide +kernel⟩, List.mem_of_getElem? (i := 614) (by decide +kernel), List.mem_of_getElem? (i := 918) (by decide +kernel), List.mem_of_getElem? (i := 919) (by decide +kernel)⟩
theorem lw_p63 : lw_okq (⟨"WallReadingsModel", "deepIn", "(I)I"⟩, 40) := ⟨⟨by decide +kernel, by decide +kernel⟩, List.mem_of_getElem? (i := 614) (by decide +kernel), List.mem_of_getElem? (i := 922) (by decide +kernel), List.mem_of_getElem? (i := 923) (by decide +kernel)⟩
def lw_privs_4 : List (MethodName × Nat) := [(⟨"WallReadingsModel", "asWritten", "(II)V"⟩, 40), (⟨"WallReadingsModel", "begins", "(II)V"⟩, 40), (⟨"WallReadingsModel", "manyReadings", "()I"⟩, 40), (⟨"WallReadingsModel", "isNext", "()Z"⟩, 40), (⟨"WallReadingsModel", "fits", "()Z"⟩, 40), (⟨"WallReadingsModel", "isVerb", "(I)Z"⟩, 40), (⟨"WallReadingsModel", "verbsIn", "()I"⟩, 40), (⟨"WallReadingsModel", "isReading", "(II)Z"⟩, 40), (⟨"WallReadingsModel", "weighs", "()I"⟩, 40), (⟨"WallReadingsModel", "verbs", "()I"⟩, 40), (⟨"WallReadingsModel", "isTelling", "()Z"⟩, 40), (⟨"WallReadingsModel", "remembers", "()V"⟩, 40), (⟨"WallReadingsModel", "verbsBy", "(I)I"⟩, 40), (⟨"WallReadingsModel", "isFallen", "()Z"⟩, 40), (⟨"WallReadingsModel", "fall", "()I"⟩, 40), (⟨"WallReadingsModel", "deepIn", "(I)I"⟩, 40)]
theorem lw_r4 : ∀ q ∈ lw_privs_4, lw_okq q := List.forall_mem_cons.mpr ⟨lw_p48, List.forall_mem_cons.mpr ⟨lw_p49, List.forall_mem_cons.mpr ⟨lw_p50, List.forall_mem_cons.mpr ⟨lw_p51, List.forall_mem_cons.mpr ⟨lw_p52, List.forall_mem_cons.mpr ⟨lw_p53, List.forall_mem_cons.mpr ⟨lw_p54, List.forall_mem_cons.mpr ⟨lw_p55, List.forall_mem_cons.mpr ⟨lw_p56, List.forall_mem_cons.mpr ⟨lw_p57, List.forall_mem_cons.mpr ⟨lw_p58, List.forall_mem_cons.mpr ⟨lw_p59, List.forall_mem_cons.mpr ⟨lw_p60, List.forall_mem_cons.mpr ⟨lw_p61, List.forall_mem_cons.mpr ⟨lw_p62, List.forall_mem_cons.mpr ⟨lw_p63, fun _ h => absurd h List.not_mem_nil⟩⟩⟩⟩⟩⟩⟩⟩⟩⟩⟩⟩⟩⟩⟩⟩
theorem lw_p64 : lw_okq (⟨"WallReadingsModel", "isReadable", "(II)Z"⟩, 40) := ⟨⟨by decide +kernel, by decide +kernel⟩, List.mem_of_getElem? (i := 614) (by decide +kernel), List.mem_of_getElem? (i := 953) (by decide +kernel), List.mem_of_getElem? (i := 954) (by decide +kernel)⟩
theorem lw_p65 : lw_okq (⟨"WallReadingsModel", "isReadingOf", "(III)Z"⟩, 40) := ⟨⟨by decide +kernel, by decide +kernel⟩, List.mem_of_getElem? (i := 614) (by decide +kernel), List.mem_of_getElem? (i := 961) (by decide +kernel), List.mem_of_getElem? (i := 962) (by decide +kernel)⟩
theorem lw_p66 : lw_okq (⟨"WallReadingsModel", "isRow", "(II)V"⟩, 40) := ⟨⟨by decide +kernel, by decide +kernel⟩, List.mem_of_getElem? (i := 614) (by decide +kernel), List.mem_of_getElem? (i := 965) (by decide +kernel), List.mem_of_getElem? (i := 966) (by decide +kernel)⟩
theorem lw_p67 : lw_okq (⟨"WallReadingsModel", "numberOf", "(II)I"⟩, 40) := ⟨⟨by decide +kernel, by decide +kernel⟩, List.mem_of_getElem? (i := 614) (by decide +kernel), List.mem_of_getElem? (i := 969) (by decide +kernel), List.mem_of_getElem? (i := 970) (by decide +kernel)⟩
theorem lw_p68 : lw_okq (⟨"WallReadingsModel", "isSo", "(II)Z"⟩, 40) := ⟨⟨by decide +kernel, by decide +kernel⟩, List.mem_of_getElem? (i := 614) (by decide +kernel), List.mem_of_getElem? (i := 993) (by decide +kernel), List.mem_of_getElem? (i := 994) (by decide +kernel)⟩
def lw_privs_5 : List (MethodName × Nat) := [(⟨"WallReadingsModel", "isReadable", "(II)Z"⟩, 40), (⟨"WallReadingsModel", "isReadingOf", "(III)Z"⟩, 40), (⟨"WallReadingsModel", "isRow", "(II)V"⟩, 40), (⟨"WallReadingsModel", "numberOf", "(II)I"⟩, 40), (⟨"WallReadingsModel", "isSo", "(II)Z"⟩, 40)]
theorem lw_r5 : ∀ q ∈ lw_privs_5, lw_okq q := List.forall_mem_cons.mpr ⟨lw_p64, List.forall_mem_cons.mpr ⟨lw_p65, List.forall_mem_cons.mpr ⟨lw_p66, List.forall_mem_cons.mpr ⟨lw_p67, List.forall_mem_cons.mpr ⟨lw_p68, fun _ h => absurd h List.not_mem_nil⟩⟩⟩⟩⟩
def lw_privs : List (MethodName × Nat) := lw_privs_1 ++ (lw_privs_2 ++ (lw_privs_3 ++ (lw_privs_4 ++ (lw_privs_5))))
def lw_tbl : List Cond := k2_sels lw_privs ++ tables_1
theorem lw_privs_ok : ∀ q ∈ lw_privs, lw_okq q := by
  show ∀ q ∈ lw_privs_1 ++ (lw_privs_2 ++ (lw_privs_3 ++ (lw_privs_4 ++ (lw_privs_5)))), lw_okq q
  exact List.forall_mem_append.mpr ⟨lw_r1, List.forall_mem_append.mpr ⟨lw_r2, List.forall_mem_append.mpr ⟨lw_r3, List.forall_mem_append.mpr ⟨lw_r4, lw_r5⟩⟩⟩⟩
-- ===== end of PART A; then your names; then what follows =====
/-! ===== BEGIN words of one list among another's, by their places ===== -/
theorem goodIn_r {big : List Cond} (ws : List Cond) (ps : List Nat) (hp : ws = ps.filterMap (fun i => big[i]?)) (h : ws.all goodWord = true) : GoodIn big ws := by
  intro w hw
  have h1 := List.all_eq_true.mp h w hw
  rw [hp] at hw
  obtain ⟨i, -, hi⟩ := List.mem_filterMap.mp hw
  have hm : w ∈ big := by first | exact List.mem_of_getElem? hi | exact List.getElem?_mem hi
  exact ⟨hm, good_of_word h1⟩
theorem goodIn_app {big a b : List Cond} (ha : GoodIn big a) (hb : GoodIn big b) : GoodIn big (a ++ b) := fun w h => (List.mem_append.mp h).elim (ha w) (hb w)
theorem goodIn_ca {big a b : List Cond} {c : Cond} (ha : GoodIn big (c :: a)) (hb : GoodIn big b) : GoodIn big (c :: (a ++ b)) := fun w h => (List.mem_cons.mp h).elim (fun e => ha w (List.mem_cons.mpr (Or.inl e))) (fun h => (List.mem_append.mp h).elim (fun h => ha w (List.mem_cons.mpr (Or.inr h))) (hb w))
theorem goodIn_sub {big ws : List Cond} (hm : ∀ w ∈ ws, w ∈ big) (h : ws.all goodWord = true) : GoodIn big ws := fun w hw => ⟨hm w hw, good_of_word (List.all_eq_true.mp h w hw)⟩
/-! ===== END ===== -/

/-! ===== BEGIN printed: names, fields, word lists, decode rows ===== -/
def RX0 : String := "WallReadings$Grammar"
def TX0 : u_T := fun k => match k with
  | 0 => ("WallReadings$Grammar", "world", "LWallReadings$World;", true)
  | 1 => ("WallReadings$Grammar", "letters", "[I", true)
  | 2 => ("WallReadings$Grammar", "fits", "[I", true)
  | 3 => ("WallReadings$Grammar", "ways", "[I", true)
  | 4 => ("WallReadings$Grammar", "best", "[I", true)
  | 5 => ("WallReadings$Grammar", "kind", "I", false)
  | 6 => ("WallReadings$Grammar", "end", "I", false)
  | 7 => ("WallReadings$Grammar", "allowed", "I", false)
  | 8 => ("WallReadings$Grammar", "words", "[I", true)
  | 9 => ("WallReadings$Grammar", "size", "I", false)
  | 10 => ("WallReadings$Grammar", "weight", "I", false)
  | _ => ("WallReadings$Grammar", "verbs", "I", false)
def tyX0 : Nat → FieldType := fun k => match k with
  | 0 => .object "WallReadings$World"
  | 1 => .array .int
  | 2 => .array .int
  | 3 => .array .int
  | 4 => .array .int
  | 5 => .int
  | 6 => .int
  | 7 => .int
  | 8 => .array .int
  | 9 => .int
  | 10 => .int
  | _ => .int
abbrev wsX00 : List Cond := u_ws RX0 TX0 12
theorem nmX0 : ∀ a, a < 12 → ∀ b, b < 12 → a ≠ b → (TX0 a).2.1 ≠ (TX0 b).2.1 := by decide +kernel
theorem tyX0_ok : ∀ k, k < 12 → parseFieldDescriptor (TX0 k).2.2.1 = some (tyX0 k) := by decide +kernel
abbrev cX0_init : ByteArray := prog_2_method_1_code
def yX0_init : MethodName := ⟨RX0, "<init>", "(LWallReadings$World;)V"⟩
abbrev cX0_take : ByteArray := prog_2_method_2_code
def yX0_take : MethodName := ⟨RX0, "take", "(II)V"⟩
abbrev cX0_fitWords : ByteArray := prog_2_method_3_code
def yX0_fitWords : MethodName := ⟨RX0, "fitWords", "(I)V"⟩
abbrev cX0_tally : ByteArray := prog_2_method_4_code
def yX0_tally : MethodName := ⟨RX0, "tally", "(I)I"⟩
abbrev cX0_tallyFrom : ByteArray := prog_2_method_5_code
def yX0_tallyFrom : MethodName := ⟨RX0, "tallyFrom", "(I)V"⟩
abbrev cX0_mayEndAt : ByteArray := prog_2_method_6_code
def yX0_mayEndAt : MethodName := ⟨RX0, "mayEndAt", "(I)Z"⟩
abbrev cX0_openAt : ByteArray := prog_2_method_7_code
def yX0_openAt : MethodName := ⟨RX0, "openAt", "(I)I"⟩
abbrev cX0_slotBehind : ByteArray := prog_2_method_8_code
def yX0_slotBehind : MethodName := ⟨RX0, "slotBehind", "(II)I"⟩
abbrev cX0_pick : ByteArray := prog_2_method_9_code
def yX0_pick : MethodName := ⟨RX0, "pick", "(I)V"⟩
abbrev cX0_addWord : ByteArray := prog_2_method_10_code
def yX0_addWord : MethodName := ⟨RX0, "addWord", "(I)V"⟩
abbrev cX0_told : ByteArray := prog_2_method_11_code
def yX0_told : MethodName := ⟨RX0, "told", "()I"⟩
abbrev cX0_rank : ByteArray := prog_2_method_12_code
def yX0_rank : MethodName := ⟨RX0, "rank", "()V"⟩
abbrev cX0_bestFrom : ByteArray := prog_2_method_13_code
def yX0_bestFrom : MethodName := ⟨RX0, "bestFrom", "(I)I"⟩
abbrev cX0_gainOf : ByteArray := prog_2_method_14_code
def yX0_gainOf : MethodName := ⟨RX0, "gainOf", "(I)I"⟩
abbrev cX0_firstOfBest : ByteArray := prog_2_method_15_code
def yX0_firstOfBest : MethodName := ⟨RX0, "firstOfBest", "()I"⟩
def RX1 : String := "WallReadings$Shelf"
def TX1 : u_T := fun k => match k with
  | 0 => ("WallReadings$Shelf", "moments", "[I", true)
  | _ => ("WallReadings$Shelf", "held", "I", false)
def tyX1 : Nat → FieldType := fun k => match k with
  | 0 => .array .int
  | _ => .int
abbrev wsX10 : List Cond := u_ws RX1 TX1 2
theorem nmX1 : ∀ a, a < 2 → ∀ b, b < 2 → a ≠ b → (TX1 a).2.1 ≠ (TX1 b).2.1 := by decide +kernel
theorem tyX1_ok : ∀ k, k < 2 → parseFieldDescriptor (TX1 k).2.2.1 = some (tyX1 k) := by decide +kernel
abbrev cX1_init : ByteArray := prog_3_method_1_code
def yX1_init : MethodName := ⟨RX1, "<init>", "()V"⟩
abbrev cX1_put : ByteArray := prog_3_method_2_code
def yX1_put : MethodName := ⟨RX1, "put", "([I)V"⟩
abbrev cX1_takeInto : ByteArray := prog_3_method_3_code
def yX1_takeInto : MethodName := ⟨RX1, "takeInto", "([I)V"⟩
def RX2 : String := "WallReadings$Text"
def TX2 : u_T := fun k => match k with
  | 0 => ("WallReadings$Text", "signs", "[C", true)
  | 1 => ("WallReadings$Text", "length", "I", false)
  | _ => ("WallReadings$Text", "at", "I", false)
def tyX2 : Nat → FieldType := fun k => match k with
  | 0 => .array .char
  | 1 => .int
  | _ => .int
abbrev wsX20 : List Cond := u_ws RX2 TX2 3
theorem nmX2 : ∀ a, a < 3 → ∀ b, b < 3 → a ≠ b → (TX2 a).2.1 ≠ (TX2 b).2.1 := by decide +kernel
theorem tyX2_ok : ∀ k, k < 3 → parseFieldDescriptor (TX2 k).2.2.1 = some (tyX2 k) := by decide +kernel
abbrev cX2_init : ByteArray := prog_4_method_1_code
def yX2_init : MethodName := ⟨RX2, "<init>", "()V"⟩
abbrev cX2_add : ByteArray := prog_4_method_2_code
def yX2_add : MethodName := ⟨RX2, "add", "(C)Z"⟩
abbrev cX2_clear : ByteArray := prog_4_method_3_code
def yX2_clear : MethodName := ⟨RX2, "clear", "()V"⟩
abbrev cX2_firstFault : ByteArray := prog_4_method_4_code
def yX2_firstFault : MethodName := ⟨RX2, "firstFault", "(LWallReadings$World;)I"⟩
abbrev cX2_readItem : ByteArray := prog_4_method_5_code
def yX2_readItem : MethodName := ⟨RX2, "readItem", "(LWallReadings$World;)Z"⟩
abbrev cX2_readRoot : ByteArray := prog_4_method_6_code
def yX2_readRoot : MethodName := ⟨RX2, "readRoot", "(LWallReadings$World;)Z"⟩
abbrev cX2_readReader : ByteArray := prog_4_method_7_code
def yX2_readReader : MethodName := ⟨RX2, "readReader", "(LWallReadings$World;)Z"⟩
abbrev cX2_readWriting : ByteArray := prog_4_method_8_code
def yX2_readWriting : MethodName := ⟨RX2, "readWriting", "(LWallReadings$World;)Z"⟩
abbrev cX2_readRiver : ByteArray := prog_4_method_9_code
def yX2_readRiver : MethodName := ⟨RX2, "readRiver", "(LWallReadings$World;)Z"⟩
abbrev cX2_readGold : ByteArray := prog_4_method_10_code
def yX2_readGold : MethodName := ⟨RX2, "readGold", "(LWallReadings$World;)Z"⟩
abbrev cX2_readRow : ByteArray := prog_4_method_11_code
def yX2_readRow : MethodName := ⟨RX2, "readRow", "(IC)I"⟩
abbrev cX2_readNumber : ByteArray := prog_4_method_12_code
def yX2_readNumber : MethodName := ⟨RX2, "readNumber", "(IIC)I"⟩
abbrev cX2_isNext : ByteArray := prog_4_method_13_code
def yX2_isNext : MethodName := ⟨RX2, "isNext", "(C)Z"⟩
abbrev cX2_sign : ByteArray := prog_4_method_14_code
def yX2_sign : MethodName := ⟨RX2, "sign", "()C"⟩
def RX3 : String := "WallReadings$World"
def TX3 : u_T := fun k => match k with
  | 0 => ("WallReadings$World", "rootRow", "[I", true)
  | 1 => ("WallReadings$World", "rootSize", "[I", true)
  | 2 => ("WallReadings$World", "rootWeight", "[I", true)
  | 3 => ("WallReadings$World", "rootVerb", "[I", true)
  | 4 => ("WallReadings$World", "readerKind", "[I", true)
  | 5 => ("WallReadings$World", "readerHours", "[I", true)
  | 6 => ("WallReadings$World", "readerPrice", "[I", true)
  | 7 => ("WallReadings$World", "wordsOfRow", "[I", true)
  | 8 => ("WallReadings$World", "roots", "I", false)
  | 9 => ("WallReadings$World", "readers", "I", false)
  | 10 => ("WallReadings$World", "writing", "I", false)
  | 11 => ("WallReadings$World", "deep", "I", false)
  | 12 => ("WallReadings$World", "turned", "I", false)
  | 13 => ("WallReadings$World", "falls", "I", false)
  | _ => ("WallReadings$World", "gold", "I", false)
def tyX3 : Nat → FieldType := fun k => match k with
  | 0 => .array .int
  | 1 => .array .int
  | 2 => .array .int
  | 3 => .array .int
  | 4 => .array .int
  | 5 => .array .int
  | 6 => .array .int
  | 7 => .array .int
  | 8 => .int
  | 9 => .int
  | 10 => .int
  | 11 => .int
  | 12 => .int
  | 13 => .int
  | _ => .int
abbrev wsX30 : List Cond := u_ws RX3 TX3 15
theorem nmX3 : ∀ a, a < 15 → ∀ b, b < 15 → a ≠ b → (TX3 a).2.1 ≠ (TX3 b).2.1 := by decide +kernel
theorem tyX3_ok : ∀ k, k < 15 → parseFieldDescriptor (TX3 k).2.2.1 = some (tyX3 k) := by decide +kernel
abbrev cX3_init : ByteArray := prog_5_method_1_code
def yX3_init : MethodName := ⟨RX3, "<init>", "()V"⟩
abbrev cX3_clear : ByteArray := prog_5_method_2_code
def yX3_clear : MethodName := ⟨RX3, "clear", "()V"⟩
abbrev cX3_addRoot : ByteArray := prog_5_method_3_code
def yX3_addRoot : MethodName := ⟨RX3, "addRoot", "(III)Z"⟩
abbrev cX3_addReader : ByteArray := prog_5_method_4_code
def yX3_addReader : MethodName := ⟨RX3, "addReader", "(III)Z"⟩
abbrev cX3_setRiver : ByteArray := prog_5_method_5_code
def yX3_setRiver : MethodName := ⟨RX3, "setRiver", "(III)V"⟩
abbrev cX3_wordsSaying : ByteArray := prog_5_method_6_code
def yX3_wordsSaying : MethodName := ⟨RX3, "wordsSaying", "(I)I"⟩
abbrev cX3_depthIn : ByteArray := prog_5_method_7_code
def yX3_depthIn : MethodName := ⟨RX3, "depthIn", "(I)I"⟩
abbrev cX3_fall : ByteArray := prog_5_method_8_code
def yX3_fall : MethodName := ⟨RX3, "fall", "()I"⟩
abbrev cX3_priceOf : ByteArray := prog_5_method_9_code
def yX3_priceOf : MethodName := ⟨RX3, "priceOf", "(I)I"⟩
abbrev cX3_hoursOf : ByteArray := prog_5_method_10_code
def yX3_hoursOf : MethodName := ⟨RX3, "hoursOf", "(I)I"⟩
def RX4 : String := "WallReadings"
def TX4 : u_T := fun k => match k with
  | 0 => ("WallReadings", "text", "LWallReadings$Text;", true)
  | 1 => ("WallReadings", "laid", "LWallReadings$World;", true)
  | 2 => ("WallReadings", "draft", "LWallReadings$World;", true)
  | 3 => ("WallReadings", "grammar", "LWallReadings$Grammar;", true)
  | 4 => ("WallReadings", "now", "[I", true)
  | 5 => ("WallReadings", "past", "LWallReadings$Shelf;", true)
  | 6 => ("WallReadings", "kept", "LWallReadings$Shelf;", true)
  | 7 => ("WallReadings", "seenReader", "[I", true)
  | 8 => ("WallReadings", "seenWeight", "[I", true)
  | 9 => ("WallReadings", "toldVerbs", "[I", true)
  | _ => ("WallReadings", "seen", "I", false)
def tyX4 : Nat → FieldType := fun k => match k with
  | 0 => .object "WallReadings$Text"
  | 1 => .object "WallReadings$World"
  | 2 => .object "WallReadings$World"
  | 3 => .object "WallReadings$Grammar"
  | 4 => .array .int
  | 5 => .object "WallReadings$Shelf"
  | 6 => .object "WallReadings$Shelf"
  | 7 => .array .int
  | 8 => .array .int
  | 9 => .array .int
  | _ => .int
abbrev wsX40 : List Cond := u_ws RX4 TX4 11
theorem nmX4 : ∀ a, a < 11 → ∀ b, b < 11 → a ≠ b → (TX4 a).2.1 ≠ (TX4 b).2.1 := by decide +kernel
theorem tyX4_ok : ∀ k, k < 11 → parseFieldDescriptor (TX4 k).2.2.1 = some (tyX4 k) := by decide +kernel
abbrev cX4_init : ByteArray := prog_1_method_1_code
def yX4_init : MethodName := ⟨RX4, "<init>", "()V"⟩
abbrev cX4_write : ByteArray := prog_1_method_2_code
def yX4_write : MethodName := ⟨RX4, "write", "(I)I"⟩
abbrev cX4_wipe : ByteArray := prog_1_method_3_code
def yX4_wipe : MethodName := ⟨RX4, "wipe", "()I"⟩
abbrev cX4_fault : ByteArray := prog_1_method_4_code
def yX4_fault : MethodName := ⟨RX4, "fault", "()I"⟩
abbrev cX4_lay : ByteArray := prog_1_method_5_code
def yX4_lay : MethodName := ⟨RX4, "lay", "()I"⟩
abbrev cX4_root : ByteArray := prog_1_method_6_code
def yX4_root : MethodName := ⟨RX4, "root", "(II)I"⟩
abbrev cX4_reader : ByteArray := prog_1_method_7_code
def yX4_reader : MethodName := ⟨RX4, "reader", "(II)I"⟩
abbrev cX4_reading : ByteArray := prog_1_method_8_code
def yX4_reading : MethodName := ⟨RX4, "reading", "(III)I"⟩
abbrev cX4_word : ByteArray := prog_1_method_9_code
def yX4_word : MethodName := ⟨RX4, "word", "(III)I"⟩
abbrev cX4_tells : ByteArray := prog_1_method_10_code
def yX4_tells : MethodName := ⟨RX4, "tells", "(II)I"⟩
abbrev cX4_ask : ByteArray := prog_1_method_11_code
def yX4_ask : MethodName := ⟨RX4, "ask", "(I)I"⟩
abbrev cX4_shut : ByteArray := prog_1_method_12_code
def yX4_shut : MethodName := ⟨RX4, "shut", "()I"⟩
abbrev cX4_carve : ByteArray := prog_1_method_13_code
def yX4_carve : MethodName := ⟨RX4, "carve", "(I)I"⟩
abbrev cX4_rub : ByteArray := prog_1_method_14_code
def yX4_rub : MethodName := ⟨RX4, "rub", "()I"⟩
abbrev cX4_pass : ByteArray := prog_1_method_15_code
def yX4_pass : MethodName := ⟨RX4, "pass", "(I)I"⟩
abbrev cX4_undo : ByteArray := prog_1_method_16_code
def yX4_undo : MethodName := ⟨RX4, "undo", "()I"⟩
abbrev cX4_belief : ByteArray := prog_1_method_17_code
def yX4_belief : MethodName := ⟨RX4, "belief", "(III)I"⟩
abbrev cX4_without : ByteArray := prog_1_method_18_code
def yX4_without : MethodName := ⟨RX4, "without", "(I)I"⟩
abbrev cX4_shortest : ByteArray := prog_1_method_19_code
def yX4_shortest : MethodName := ⟨RX4, "shortest", "(II)I"⟩
abbrev cX4_until : ByteArray := prog_1_method_20_code
def yX4_until : MethodName := ⟨RX4, "until", "(I)I"⟩
abbrev cX4_enough : ByteArray := prog_1_method_21_code
def yX4_enough : MethodName := ⟨RX4, "enough", "(II)I"⟩
abbrev cX4_see : ByteArray := prog_1_method_22_code
def yX4_see : MethodName := ⟨RX4, "see", "(II)I"⟩
abbrev cX4_forget : ByteArray := prog_1_method_23_code
def yX4_forget : MethodName := ⟨RX4, "forget", "()I"⟩
abbrev cX4_wrote : ByteArray := prog_1_method_24_code
def yX4_wrote : MethodName := ⟨RX4, "wrote", "(I)I"⟩
abbrev cX4_forgotten : ByteArray := prog_1_method_25_code
def yX4_forgotten : MethodName := ⟨RX4, "forgotten", "(III)I"⟩
abbrev cX4_walls : ByteArray := prog_1_method_26_code
def yX4_walls : MethodName := ⟨RX4, "walls", "(IIII)I"⟩
abbrev cX4_keep : ByteArray := prog_1_method_27_code
def yX4_keep : MethodName := ⟨RX4, "keep", "()I"⟩
abbrev cX4_back : ByteArray := prog_1_method_28_code
def yX4_back : MethodName := ⟨RX4, "back", "()I"⟩
abbrev cX4_count : ByteArray := prog_1_method_29_code
def yX4_count : MethodName := ⟨RX4, "count", "(I)I"⟩
abbrev cX4_begin : ByteArray := prog_1_method_30_code
def yX4_begin : MethodName := ⟨RX4, "begin", "()V"⟩
abbrev cX4_hasFallen : ByteArray := prog_1_method_31_code
def yX4_hasFallen : MethodName := ⟨RX4, "hasFallen", "()Z"⟩
abbrev cX4_isReader : ByteArray := prog_1_method_32_code
def yX4_isReader : MethodName := ⟨RX4, "isReader", "(I)Z"⟩
abbrev cX4_isPart : ByteArray := prog_1_method_33_code
def yX4_isPart : MethodName := ⟨RX4, "isPart", "(I)Z"⟩
abbrev cX4_isReading : ByteArray := prog_1_method_34_code
def yX4_isReading : MethodName := ⟨RX4, "isReading", "(II)Z"⟩
abbrev cX4_readingsOf : ByteArray := prog_1_method_35_code
def yX4_readingsOf : MethodName := ⟨RX4, "readingsOf", "(II)I"⟩
abbrev cX4_toldBy : ByteArray := prog_1_method_36_code
def yX4_toldBy : MethodName := ⟨RX4, "toldBy", "(II)I"⟩
abbrev cX4_verbsToldBy : ByteArray := prog_1_method_37_code
def yX4_verbsToldBy : MethodName := ⟨RX4, "verbsToldBy", "(I)I"⟩
abbrev cX4_isEnough : ByteArray := prog_1_method_38_code
def yX4_isEnough : MethodName := ⟨RX4, "isEnough", "(II)Z"⟩
abbrev cX4_isCheaper : ByteArray := prog_1_method_39_code
def yX4_isCheaper : MethodName := ⟨RX4, "isCheaper", "(II)Z"⟩
abbrev cX4_isAsSeen : ByteArray := prog_1_method_40_code
def yX4_isAsSeen : MethodName := ⟨RX4, "isAsSeen", "(I)Z"⟩
abbrev cX4_lettersIn : ByteArray := prog_1_method_41_code
def yX4_lettersIn : MethodName := ⟨RX4, "lettersIn", "(I)I"⟩
abbrev cX4_isShortRow : ByteArray := prog_1_method_42_code
def yX4_isShortRow : MethodName := ⟨RX4, "isShortRow", "(I)Z"⟩
abbrev cX4_rowOfWall : ByteArray := prog_1_method_43_code
def yX4_rowOfWall : MethodName := ⟨RX4, "rowOfWall", "(II)I"⟩
abbrev cX4_holds : ByteArray := prog_1_method_44_code
def yX4_holds : MethodName := ⟨RX4, "holds", "(II)Z"⟩
abbrev cX4_wordsOfRoot : ByteArray := prog_1_method_45_code
def yX4_wordsOfRoot : MethodName := ⟨RX4, "wordsOfRoot", "(I)I"⟩
abbrev cX4_wordsOfRoots : ByteArray := prog_1_method_46_code
def yX4_wordsOfRoots : MethodName := ⟨RX4, "wordsOfRoots", "(I)I"⟩
abbrev cX4_oddsOf : ByteArray := prog_1_method_47_code
def yX4_oddsOf : MethodName := ⟨RX4, "oddsOf", "(II)J"⟩
abbrev cX4_power : ByteArray := prog_1_method_48_code
def yX4_power : MethodName := ⟨RX4, "power", "(II)J"⟩
abbrev cX4_inLowestTerms : ByteArray := prog_1_method_49_code
def yX4_inLowestTerms : MethodName := ⟨RX4, "inLowestTerms", "(JJI)I"⟩
def RX5 : String := "WallReadingsModel"
def TX5 : u_T := fun k => match k with
  | 0 => ("WallReadingsModel", "roots", "I", false)
  | 1 => ("WallReadingsModel", "rootMany", "[I", true)
  | 2 => ("WallReadingsModel", "rootLetter", "[I", true)
  | 3 => ("WallReadingsModel", "weight", "[I", true)
  | 4 => ("WallReadingsModel", "verb", "[I", true)
  | 5 => ("WallReadingsModel", "readers", "I", false)
  | 6 => ("WallReadingsModel", "reader", "[I", true)
  | 7 => ("WallReadingsModel", "river", "[I", true)
  | 8 => ("WallReadingsModel", "st", "[I", true)
  | 9 => ("WallReadingsModel", "acts", "I", false)
  | 10 => ("WallReadingsModel", "was", "[I", true)
  | 11 => ("WallReadingsModel", "keeps", "I", false)
  | 12 => ("WallReadingsModel", "kept", "[I", true)
  | 13 => ("WallReadingsModel", "sees", "I", false)
  | 14 => ("WallReadingsModel", "seen", "[I", true)
  | 15 => ("WallReadingsModel", "text", "[I", true)
  | 16 => ("WallReadingsModel", "texted", "I", false)
  | 17 => ("WallReadingsModel", "at", "I", false)
  | 18 => ("WallReadingsModel", "told", "[I", true)
  | 19 => ("WallReadingsModel", "readRoots", "I", false)
  | 20 => ("WallReadingsModel", "readRootMany", "[I", true)
  | 21 => ("WallReadingsModel", "readRootLetter", "[I", true)
  | 22 => ("WallReadingsModel", "readWeight", "[I", true)
  | 23 => ("WallReadingsModel", "readVerb", "[I", true)
  | 24 => ("WallReadingsModel", "readReaders", "I", false)
  | 25 => ("WallReadingsModel", "readReader", "[I", true)
  | 26 => ("WallReadingsModel", "readMany", "I", false)
  | 27 => ("WallReadingsModel", "readLetter", "[I", true)
  | 28 => ("WallReadingsModel", "readRiver", "[I", true)
  | 29 => ("WallReadingsModel", "readGold", "I", false)
  | 30 => ("WallReadingsModel", "row", "[I", true)
  | 31 => ("WallReadingsModel", "rowMany", "I", false)
  | 32 => ("WallReadingsModel", "knowing", "I", false)
  | 33 => ("WallReadingsModel", "kind", "I", false)
  | 34 => ("WallReadingsModel", "words", "[I", true)
  | 35 => ("WallReadingsModel", "from", "[I", true)
  | 36 => ("WallReadingsModel", "deep", "I", false)
  | 37 => ("WallReadingsModel", "tellsWhich", "I", false)
  | 38 => ("WallReadingsModel", "tellsWeight", "I", false)
  | _ => ("WallReadingsModel", "tellsVerbs", "I", false)
def tyX5 : Nat → FieldType := fun k => match k with
  | 0 => .int
  | 1 => .array .int
  | 2 => .array .int
  | 3 => .array .int
  | 4 => .array .int
  | 5 => .int
  | 6 => .array .int
  | 7 => .array .int
  | 8 => .array .int
  | 9 => .int
  | 10 => .array .int
  | 11 => .int
  | 12 => .array .int
  | 13 => .int
  | 14 => .array .int
  | 15 => .array .int
  | 16 => .int
  | 17 => .int
  | 18 => .array .int
  | 19 => .int
  | 20 => .array .int
  | 21 => .array .int
  | 22 => .array .int
  | 23 => .array .int
  | 24 => .int
  | 25 => .array .int
  | 26 => .int
  | 27 => .array .int
  | 28 => .array .int
  | 29 => .int
  | 30 => .array .int
  | 31 => .int
  | 32 => .int
  | 33 => .int
  | 34 => .array .int
  | 35 => .array .int
  | 36 => .int
  | 37 => .int
  | 38 => .int
  | _ => .int
abbrev wsX50 : List Cond := u_ws RX5 TX5 40
theorem nmX5 : ∀ a, a < 40 → ∀ b, b < 40 → a ≠ b → (TX5 a).2.1 ≠ (TX5 b).2.1 := by decide +kernel
theorem tyX5_ok : ∀ k, k < 40 → parseFieldDescriptor (TX5 k).2.2.1 = some (tyX5 k) := by decide +kernel
abbrev cX5_init : ByteArray := prog_7_method_1_code
def yX5_init : MethodName := ⟨RX5, "<init>", "()V"⟩
abbrev cX5_tellsRoot : ByteArray := prog_7_method_3_code
def yX5_tellsRoot : MethodName := ⟨RX5, "tellsRoot", "(IIII)V"⟩
abbrev cX5_tellsReader : ByteArray := prog_7_method_4_code
def yX5_tellsReader : MethodName := ⟨RX5, "tellsReader", "(III)V"⟩
abbrev cX5_tellsAll : ByteArray := prog_7_method_5_code
def yX5_tellsAll : MethodName := ⟨RX5, "tellsAll", "()V"⟩
abbrev cX5_in : ByteArray := prog_7_method_6_code
def yX5_in : MethodName := ⟨RX5, "in", "(III)Z"⟩
abbrev cX5_has : ByteArray := prog_7_method_7_code
def yX5_has : MethodName := ⟨RX5, "has", "(II)Z"⟩
abbrev cX5_isReader : ByteArray := prog_7_method_8_code
def yX5_isReader : MethodName := ⟨RX5, "isReader", "(I)Z"⟩
abbrev cX5_write : ByteArray := prog_7_method_9_code
def yX5_write : MethodName := ⟨RX5, "write", "(I)I"⟩
abbrev cX5_wipe : ByteArray := prog_7_method_10_code
def yX5_wipe : MethodName := ⟨RX5, "wipe", "()I"⟩
abbrev cX5_letterAt : ByteArray := prog_7_method_11_code
def yX5_letterAt : MethodName := ⟨RX5, "letterAt", "(I)I"⟩
abbrev cX5_isFigure : ByteArray := prog_7_method_12_code
def yX5_isFigure : MethodName := ⟨RX5, "isFigure", "(I)Z"⟩
abbrev cX5_readNumbers : ByteArray := prog_7_method_13_code
def yX5_readNumbers : MethodName := ⟨RX5, "readNumbers", "(I)Z"⟩
abbrev cX5_isTold : ByteArray := prog_7_method_14_code
def yX5_isTold : MethodName := ⟨RX5, "isTold", "(III)Z"⟩
abbrev cX5_clearTold : ByteArray := prog_7_method_15_code
def yX5_clearTold : MethodName := ⟨RX5, "clearTold", "()V"⟩
abbrev cX5_readLetters : ByteArray := prog_7_method_16_code
def yX5_readLetters : MethodName := ⟨RX5, "readLetters", "([IIII)I"⟩
abbrev cX5_isNew : ByteArray := prog_7_method_17_code
def yX5_isNew : MethodName := ⟨RX5, "isNew", "(I)Z"⟩
abbrev cX5_readRootOf : ByteArray := prog_7_method_18_code
def yX5_readRootOf : MethodName := ⟨RX5, "readRootOf", "()Z"⟩
abbrev cX5_readReaderOf : ByteArray := prog_7_method_19_code
def yX5_readReaderOf : MethodName := ⟨RX5, "readReaderOf", "()Z"⟩
abbrev cX5_readRiverOf : ByteArray := prog_7_method_20_code
def yX5_readRiverOf : MethodName := ⟨RX5, "readRiverOf", "()Z"⟩
abbrev cX5_readItem : ByteArray := prog_7_method_21_code
def yX5_readItem : MethodName := ⟨RX5, "readItem", "()Z"⟩
abbrev cX5_fault : ByteArray := prog_7_method_22_code
def yX5_fault : MethodName := ⟨RX5, "fault", "()I"⟩
abbrev cX5_lay : ByteArray := prog_7_method_23_code
def yX5_lay : MethodName := ⟨RX5, "lay", "()I"⟩
abbrev cX5_copies : ByteArray := prog_7_method_24_code
def yX5_copies : MethodName := ⟨RX5, "copies", "([II[III)V"⟩
abbrev cX5_settles : ByteArray := prog_7_method_25_code
def yX5_settles : MethodName := ⟨RX5, "settles", "()V"⟩
abbrev cX5_begins : ByteArray := prog_7_method_26_code
def yX5_begins : MethodName := ⟨RX5, "begins", "(II)V"⟩
abbrev cX5_asWritten : ByteArray := prog_7_method_27_code
def yX5_asWritten : MethodName := ⟨RX5, "asWritten", "(II)V"⟩
abbrev cX5_isVerb : ByteArray := prog_7_method_28_code
def yX5_isVerb : MethodName := ⟨RX5, "isVerb", "(I)Z"⟩
abbrev cX5_fits : ByteArray := prog_7_method_29_code
def yX5_fits : MethodName := ⟨RX5, "fits", "()Z"⟩
abbrev cX5_verbsIn : ByteArray := prog_7_method_30_code
def yX5_verbsIn : MethodName := ⟨RX5, "verbsIn", "()I"⟩
abbrev cX5_isNext : ByteArray := prog_7_method_31_code
def yX5_isNext : MethodName := ⟨RX5, "isNext", "()Z"⟩
abbrev cX5_weighs : ByteArray := prog_7_method_32_code
def yX5_weighs : MethodName := ⟨RX5, "weighs", "()I"⟩
abbrev cX5_verbs : ByteArray := prog_7_method_33_code
def yX5_verbs : MethodName := ⟨RX5, "verbs", "()I"⟩
abbrev cX5_all : ByteArray := prog_7_method_34_code
def yX5_all : MethodName := ⟨RX5, "all", "()I"⟩
abbrev cX5_manyReadings : ByteArray := prog_7_method_35_code
def yX5_manyReadings : MethodName := ⟨RX5, "manyReadings", "()I"⟩
abbrev cX5_isTelling : ByteArray := prog_7_method_36_code
def yX5_isTelling : MethodName := ⟨RX5, "isTelling", "()Z"⟩
abbrev cX5_root : ByteArray := prog_7_method_37_code
def yX5_root : MethodName := ⟨RX5, "root", "(II)I"⟩
abbrev cX5_reader : ByteArray := prog_7_method_38_code
def yX5_reader : MethodName := ⟨RX5, "reader", "(II)I"⟩
abbrev cX5_isReading : ByteArray := prog_7_method_39_code
def yX5_isReading : MethodName := ⟨RX5, "isReading", "(II)Z"⟩
abbrev cX5_reading : ByteArray := prog_7_method_40_code
def yX5_reading : MethodName := ⟨RX5, "reading", "(III)I"⟩
abbrev cX5_word : ByteArray := prog_7_method_41_code
def yX5_word : MethodName := ⟨RX5, "word", "(III)I"⟩
abbrev cX5_tells : ByteArray := prog_7_method_42_code
def yX5_tells : MethodName := ⟨RX5, "tells", "(II)I"⟩
abbrev cX5_remembers : ByteArray := prog_7_method_43_code
def yX5_remembers : MethodName := ⟨RX5, "remembers", "()V"⟩
abbrev cX5_deepIn : ByteArray := prog_7_method_44_code
def yX5_deepIn : MethodName := ⟨RX5, "deepIn", "(I)I"⟩
abbrev cX5_fall : ByteArray := prog_7_method_45_code
def yX5_fall : MethodName := ⟨RX5, "fall", "()I"⟩
abbrev cX5_isFallen : ByteArray := prog_7_method_46_code
def yX5_isFallen : MethodName := ⟨RX5, "isFallen", "()Z"⟩
abbrev cX5_verbsBy : ByteArray := prog_7_method_47_code
def yX5_verbsBy : MethodName := ⟨RX5, "verbsBy", "(I)I"⟩
abbrev cX5_ask : ByteArray := prog_7_method_48_code
def yX5_ask : MethodName := ⟨RX5, "ask", "(I)I"⟩
abbrev cX5_shut : ByteArray := prog_7_method_49_code
def yX5_shut : MethodName := ⟨RX5, "shut", "()I"⟩
abbrev cX5_carve : ByteArray := prog_7_method_50_code
def yX5_carve : MethodName := ⟨RX5, "carve", "(I)I"⟩
abbrev cX5_rub : ByteArray := prog_7_method_51_code
def yX5_rub : MethodName := ⟨RX5, "rub", "()I"⟩
abbrev cX5_pass : ByteArray := prog_7_method_52_code
def yX5_pass : MethodName := ⟨RX5, "pass", "(I)I"⟩
abbrev cX5_undo : ByteArray := prog_7_method_53_code
def yX5_undo : MethodName := ⟨RX5, "undo", "()I"⟩
abbrev cX5_lowest : ByteArray := prog_7_method_54_code
def yX5_lowest : MethodName := ⟨RX5, "lowest", "(III)I"⟩
abbrev cX5_belief : ByteArray := prog_7_method_55_code
def yX5_belief : MethodName := ⟨RX5, "belief", "(III)I"⟩
abbrev cX5_isReadable : ByteArray := prog_7_method_56_code
def yX5_isReadable : MethodName := ⟨RX5, "isReadable", "(II)Z"⟩
abbrev cX5_without : ByteArray := prog_7_method_57_code
def yX5_without : MethodName := ⟨RX5, "without", "(I)I"⟩
abbrev cX5_isRow : ByteArray := prog_7_method_58_code
def yX5_isRow : MethodName := ⟨RX5, "isRow", "(II)V"⟩
abbrev cX5_isReadingOf : ByteArray := prog_7_method_59_code
def yX5_isReadingOf : MethodName := ⟨RX5, "isReadingOf", "(III)Z"⟩
abbrev cX5_numberOf : ByteArray := prog_7_method_60_code
def yX5_numberOf : MethodName := ⟨RX5, "numberOf", "(II)I"⟩
abbrev cX5_shortest : ByteArray := prog_7_method_61_code
def yX5_shortest : MethodName := ⟨RX5, "shortest", "(II)I"⟩
abbrev cX5_until : ByteArray := prog_7_method_62_code
def yX5_until : MethodName := ⟨RX5, "until", "(I)I"⟩
abbrev cX5_enough : ByteArray := prog_7_method_63_code
def yX5_enough : MethodName := ⟨RX5, "enough", "(II)I"⟩
abbrev cX5_see : ByteArray := prog_7_method_64_code
def yX5_see : MethodName := ⟨RX5, "see", "(II)I"⟩
abbrev cX5_forget : ByteArray := prog_7_method_65_code
def yX5_forget : MethodName := ⟨RX5, "forget", "()I"⟩
abbrev cX5_isSo : ByteArray := prog_7_method_66_code
def yX5_isSo : MethodName := ⟨RX5, "isSo", "(II)Z"⟩
abbrev cX5_wrote : ByteArray := prog_7_method_67_code
def yX5_wrote : MethodName := ⟨RX5, "wrote", "(I)I"⟩
abbrev cX5_forgotten : ByteArray := prog_7_method_68_code
def yX5_forgotten : MethodName := ⟨RX5, "forgotten", "(III)I"⟩
abbrev cX5_walls : ByteArray := prog_7_method_69_code
def yX5_walls : MethodName := ⟨RX5, "walls", "(IIII)I"⟩
abbrev cX5_keep : ByteArray := prog_7_method_70_code
def yX5_keep : MethodName := ⟨RX5, "keep", "()I"⟩
abbrev cX5_back : ByteArray := prog_7_method_71_code
def yX5_back : MethodName := ⟨RX5, "back", "()I"⟩
abbrev cX5_count : ByteArray := prog_7_method_72_code
def yX5_count : MethodName := ⟨RX5, "count", "(I)I"⟩
def RJ6 : String := "java/lang/Integer"
def TJ6 : u_T := fun k => match k with
  | _ => ("", "", "", false)
def tyJ6 : Nat → FieldType := fun k => match k with
  | _ => .int
abbrev wsJ60 : List Cond := u_ws RJ6 TJ6 0
theorem nmJ6 : ∀ a, a < 0 → ∀ b, b < 0 → a ≠ b → (TJ6 a).2.1 ≠ (TJ6 b).2.1 := by decide +kernel
theorem tyJ6_ok : ∀ k, k < 0 → parseFieldDescriptor (TJ6 k).2.2.1 = some (tyJ6 k) := by decide +kernel
abbrev cJ6_bitCount_0f7a4 : ByteArray := prog_8_method_49_code
def yJ6_bitCount_0f7a4 : MethodName := ⟨RJ6, "bitCount", "(I)I"⟩
def RJ9 : String := "java/lang/Math"
def TJ9 : u_T := fun k => match k with
  | _ => ("", "", "", false)
def tyJ9 : Nat → FieldType := fun k => match k with
  | _ => .int
abbrev wsJ90 : List Cond := u_ws RJ9 TJ9 0
theorem nmJ9 : ∀ a, a < 0 → ∀ b, b < 0 → a ≠ b → (TJ9 a).2.1 ≠ (TJ9 b).2.1 := by decide +kernel
theorem tyJ9_ok : ∀ k, k < 0 → parseFieldDescriptor (TJ9 k).2.2.1 = some (tyJ9 k) := by decide +kernel
abbrev cJ9_max_7cf53 : ByteArray := prog_9_method_65_code
def yJ9_max_7cf53 : MethodName := ⟨RJ9, "max", "(II)I"⟩
def RJ0 : String := "java/lang/String"
def TJ0 : u_T := fun k => match k with
  | _ => ("", "", "", false)
def tyJ0 : Nat → FieldType := fun k => match k with
  | _ => .int
abbrev wsJ00 : List Cond := u_ws RJ0 TJ0 0
theorem nmJ0 : ∀ a, a < 0 → ∀ b, b < 0 → a ≠ b → (TJ0 a).2.1 ≠ (TJ0 b).2.1 := by decide +kernel
theorem tyJ0_ok : ∀ k, k < 0 → parseFieldDescriptor (TJ0 k).2.2.1 = some (tyJ0 k) := by decide +kernel
abbrev cJ0_length_8abf5 : ByteArray := prog_10_method_54_code
def yJ0_length_8abf5 : MethodName := ⟨RJ0, "length", "()I"⟩
abbrev cJ0_charAt_5068e : ByteArray := prog_10_method_56_code
def yJ0_charAt_5068e : MethodName := ⟨RJ0, "charAt", "(I)C"⟩
abbrev cJ0_coder_7d493 : ByteArray := prog_10_method_152_code
def yJ0_coder_7d493 : MethodName := ⟨RJ0, "coder", "()B"⟩
abbrev cJ0_isLatin1_aae02 : ByteArray := prog_10_method_154_code
def yJ0_isLatin1_aae02 : MethodName := ⟨RJ0, "isLatin1", "()Z"⟩
abbrev cJ0_checkIndex_df160 : ByteArray := prog_10_method_155_code
def yJ0_checkIndex_df160 : MethodName := ⟨RJ0, "checkIndex", "(II)V"⟩
def RJ1 : String := "java/lang/StringLatin1"
def TJ1 : u_T := fun k => match k with
  | _ => ("", "", "", false)
def tyJ1 : Nat → FieldType := fun k => match k with
  | _ => .int
abbrev wsJ10 : List Cond := u_ws RJ1 TJ1 0
theorem nmJ1 : ∀ a, a < 0 → ∀ b, b < 0 → a ≠ b → (TJ1 a).2.1 ≠ (TJ1 b).2.1 := by decide +kernel
theorem tyJ1_ok : ∀ k, k < 0 → parseFieldDescriptor (TJ1 k).2.2.1 = some (tyJ1 k) := by decide +kernel
abbrev cJ1_charAt_3b067 : ByteArray := prog_11_method_2_code
def yJ1_charAt_3b067 : MethodName := ⟨RJ1, "charAt", "([BI)C"⟩
def RJ2 : String := "java/lang/StringUTF16"
def TJ2 : u_T := fun k => match k with
  | _ => ("", "", "", false)
def tyJ2 : Nat → FieldType := fun k => match k with
  | _ => .int
abbrev wsJ20 : List Cond := u_ws RJ2 TJ2 0
theorem nmJ2 : ∀ a, a < 0 → ∀ b, b < 0 → a ≠ b → (TJ2 a).2.1 ≠ (TJ2 b).2.1 := by decide +kernel
theorem tyJ2_ok : ∀ k, k < 0 → parseFieldDescriptor (TJ2 k).2.2.1 = some (tyJ2 k) := by decide +kernel
abbrev cJ2_getChar_3b067 : ByteArray := prog_12_method_5_code
def yJ2_getChar_3b067 : MethodName := ⟨RJ2, "getChar", "([BI)C"⟩
abbrev cJ2_length_9d52b : ByteArray := prog_12_method_6_code
def yJ2_length_9d52b : MethodName := ⟨RJ2, "length", "([B)I"⟩
abbrev cJ2_charAt_3b067 : ByteArray := prog_12_method_83_code
def yJ2_charAt_3b067 : MethodName := ⟨RJ2, "charAt", "([BI)C"⟩
abbrev cJ2_checkIndex_2214a : ByteArray := prog_12_method_91_code
def yJ2_checkIndex_2214a : MethodName := ⟨RJ2, "checkIndex", "(I[B)V"⟩
def RJ10 : String := "java/lang/System"
def TJ10 : u_T := fun k => match k with
  | _ => ("", "", "", false)
def tyJ10 : Nat → FieldType := fun k => match k with
  | _ => .int
abbrev wsJ100 : List Cond := u_ws RJ10 TJ10 0
theorem nmJ10 : ∀ a, a < 0 → ∀ b, b < 0 → a ≠ b → (TJ10 a).2.1 ≠ (TJ10 b).2.1 := by decide +kernel
theorem tyJ10_ok : ∀ k, k < 0 → parseFieldDescriptor (TJ10 k).2.2.1 = some (tyJ10 k) := by decide +kernel
def RJ3 : String := "jdk/internal/util/Preconditions"
def TJ3 : u_T := fun k => match k with
  | _ => ("", "", "", false)
def tyJ3 : Nat → FieldType := fun k => match k with
  | _ => .int
abbrev wsJ30 : List Cond := u_ws RJ3 TJ3 0
theorem nmJ3 : ∀ a, a < 0 → ∀ b, b < 0 → a ≠ b → (TJ3 a).2.1 ≠ (TJ3 b).2.1 := by decide +kernel
theorem tyJ3_ok : ∀ k, k < 0 → parseFieldDescriptor (TJ3 k).2.2.1 = some (tyJ3 k) := by decide +kernel
abbrev cJ3_checkIndex_8e157 : ByteArray := prog_14_method_11_code
def yJ3_checkIndex_8e157 : MethodName := ⟨RJ3, "checkIndex", "(IILjava/util/function/BiFunction;)I"⟩
def RL : String := "WallReadingsLaw"
abbrev cL_law : ByteArray := code
def yL_law : MethodName := ⟨RL, "law", "([I)Z"⟩
abbrev vwCl : List vw_C := [(RX0, TX0, 12), (RX1, TX1, 2), (RX2, TX2, 3), (RX3, TX3, 15), (RX4, TX4, 11), (RX5, TX5, 40)]
