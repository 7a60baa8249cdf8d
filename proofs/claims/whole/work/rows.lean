section
-- ===== PART A: goes FIRST, ahead of the names: the tables' words, and 'selects' of the private methods out of them =====
/-- a private method of a class that the tables say can be made, by its rows of tables_1 -/
def lw_okq (q : MethodName × Nat) : Prop := (q.1.cls ≠ "java/lang/invoke/MethodHandle" ∧ q.1.cls ≠ "java/lang/invoke/VarHandle") ∧ Cond.instantiable q.1.cls q.2 ∈ tables_1 ∧ Cond.privateMethod q.1 ∈ tables_1 ∧ Cond.instanceMethod q.1 ∈ tables_1
theorem lw_p0 : lw_okq (⟨"WallReadings$Text", "readItem", "(LWallReadings$World;)Z"⟩, 3) := ⟨⟨by decide +kernel, by decide +kernel⟩, List.mem_of_getElem? (i := 38) (by decide +kernel), List.mem_of_getElem? (i := 236) (by decide +kernel), List.mem_of_getElem? (i := 237) (by decide +kernel)⟩
theorem lw_p1 : lw_okq (⟨"WallReadings$Text", "sign", "()C"⟩, 3) := ⟨⟨by decide +kernel, by decide +kernel⟩, List.mem_of_getElem? (i := 38) (by decide +kernel), List.mem_of_getElem? (i := 240) (by decide +kernel), List.mem_of_getElem? (i := 241) (by decide +kernel)⟩
theorem lw_p2 : lw_okq (⟨"WallReadings$Text", "readRoot", "(LWallReadings$World;)Z"⟩, 3) := ⟨⟨by decide +kernel, by decide +kernel⟩, List.mem_of_getElem? (i := 38) (by decide +kernel), List.mem_of_getElem? (i := 244) (by decide +kernel), List.mem_of_getElem? (i := 245) (by decide +kernel)⟩
theorem lw_p3 : lw_okq (⟨"WallReadings$Text", "readRow", "(IC)I"⟩, 3) := ⟨⟨by decide +kernel, by decide +kernel⟩, List.mem_of_getElem? (i := 38) (by decide +kernel), List.mem_of_getElem? (i := 248) (by decide +kernel), List.mem_of_getElem? (i := 249) (by decide +kernel)⟩
theorem lw_p4 : lw_okq (⟨"WallReadings$Text", "isNext", "(C)Z"⟩, 3) := ⟨⟨by decide +kernel, by decide +kernel⟩, List.mem_of_getElem? (i := 38) (by decide +kernel), List.mem_of_getElem? (i := 252) (by decide +kernel), List.mem_of_getElem? (i := 253) (by decide +kernel)⟩
theorem lw_p5 : lw_okq (⟨"WallReadings$Text", "readNumber", "(IIC)I"⟩, 3) := ⟨⟨by decide +kernel, by decide +kernel⟩, List.mem_of_getElem? (i := 38) (by decide +kernel), List.mem_of_getElem? (i := 256) (by decide +kernel), List.mem_of_getElem? (i := 257) (by decide +kernel)⟩
theorem lw_p6 : lw_okq (⟨"WallReadings$Text", "readReader", "(LWallReadings$World;)Z"⟩, 3) := ⟨⟨by decide +kernel, by decide +kernel⟩, List.mem_of_getElem? (i := 38) (by decide +kernel), List.mem_of_getElem? (i := 270) (by decide +kernel), List.mem_of_getElem? (i := 271) (by decide +kernel)⟩
theorem lw_p7 : lw_okq (⟨"WallReadings$Text", "readWriting", "(LWallReadings$World;)Z"⟩, 3) := ⟨⟨by decide +kernel, by decide +kernel⟩, List.mem_of_getElem? (i := 38) (by decide +kernel), List.mem_of_getElem? (i := 278) (by decide +kernel), List.mem_of_getElem? (i := 279) (by decide +kernel)⟩
theorem lw_p8 : lw_okq (⟨"WallReadings$Text", "readRiver", "(LWallReadings$World;)Z"⟩, 3) := ⟨⟨by decide +kernel, by decide +kernel⟩, List.mem_of_getElem? (i := 38) (by decide +kernel), List.mem_of_getElem? (i := 282) (by decide +kernel), List.mem_of_getElem? (i := 283) (by decide +kernel)⟩
theorem lw_p9 : lw_okq (⟨"WallReadings$Text", "readGold", "(LWallReadings$World;)Z"⟩, 3) := ⟨⟨by decide +kernel, by decide +kernel⟩, List.mem_of_getElem? (i := 38) (by decide +kernel), List.mem_of_getElem? (i := 287) (by decide +kernel), List.mem_of_getElem? (i := 288) (by decide +kernel)⟩
theorem lw_p10 : lw_okq (⟨"WallReadings", "begin", "()V"⟩, 11) := ⟨⟨by decide +kernel, by decide +kernel⟩, List.mem_of_getElem? (i := 15) (by decide +kernel), List.mem_of_getElem? (i := 295) (by decide +kernel), List.mem_of_getElem? (i := 296) (by decide +kernel)⟩
theorem lw_p11 : lw_okq (⟨"WallReadings", "isReader", "(I)Z"⟩, 11) := ⟨⟨by decide +kernel, by decide +kernel⟩, List.mem_of_getElem? (i := 15) (by decide +kernel), List.mem_of_getElem? (i := 358) (by decide +kernel), List.mem_of_getElem? (i := 359) (by decide +kernel)⟩
theorem lw_p12 : lw_okq (⟨"WallReadings", "readingsOf", "(II)I"⟩, 11) := ⟨⟨by decide +kernel, by decide +kernel⟩, List.mem_of_getElem? (i := 15) (by decide +kernel), List.mem_of_getElem? (i := 362) (by decide +kernel), List.mem_of_getElem? (i := 363) (by decide +kernel)⟩
theorem lw_p13 : lw_okq (⟨"WallReadings$Grammar", "fitWords", "(I)V"⟩, 12) := ⟨⟨by decide +kernel, by decide +kernel⟩, List.mem_of_getElem? (i := 124) (by decide +kernel), List.mem_of_getElem? (i := 371) (by decide +kernel), List.mem_of_getElem? (i := 372) (by decide +kernel)⟩
theorem lw_p14 : lw_okq (⟨"WallReadings$Grammar", "mayEndAt", "(I)Z"⟩, 12) := ⟨⟨by decide +kernel, by decide +kernel⟩, List.mem_of_getElem? (i := 124) (by decide +kernel), List.mem_of_getElem? (i := 380) (by decide +kernel), List.mem_of_getElem? (i := 381) (by decide +kernel)⟩
theorem lw_p15 : lw_okq (⟨"WallReadings$Grammar", "tallyFrom", "(I)V"⟩, 12) := ⟨⟨by decide +kernel, by decide +kernel⟩, List.mem_of_getElem? (i := 124) (by decide +kernel), List.mem_of_getElem? (i := 384) (by decide +kernel), List.mem_of_getElem? (i := 385) (by decide +kernel)⟩
def lw_privs_1 : List (MethodName × Nat) := [(⟨"WallReadings$Text", "readItem", "(LWallReadings$World;)Z"⟩, 3), (⟨"WallReadings$Text", "sign", "()C"⟩, 3), (⟨"WallReadings$Text", "readRoot", "(LWallReadings$World;)Z"⟩, 3), (⟨"WallReadings$Text", "readRow", "(IC)I"⟩, 3), (⟨"WallReadings$Text", "isNext", "(C)Z"⟩, 3), (⟨"WallReadings$Text", "readNumber", "(IIC)I"⟩, 3), (⟨"WallReadings$Text", "readReader", "(LWallReadings$World;)Z"⟩, 3), (⟨"WallReadings$Text", "readWriting", "(LWallReadings$World;)Z"⟩, 3), (⟨"WallReadings$Text", "readRiver", "(LWallReadings$World;)Z"⟩, 3), (⟨"WallReadings$Text", "readGold", "(LWallReadings$World;)Z"⟩, 3), (⟨"WallReadings", "begin", "()V"⟩, 11), (⟨"WallReadings", "isReader", "(I)Z"⟩, 11), (⟨"WallReadings", "readingsOf", "(II)I"⟩, 11), (⟨"WallReadings$Grammar", "fitWords", "(I)V"⟩, 12), (⟨"WallReadings$Grammar", "mayEndAt", "(I)Z"⟩, 12), (⟨"WallReadings$Grammar", "tallyFrom", "(I)V"⟩, 12)]
theorem lw_r1 : ∀ q ∈ lw_privs_1, lw_okq q := List.forall_mem_cons.mpr ⟨lw_p0, List.forall_mem_cons.mpr ⟨lw_p1, List.forall_mem_cons.mpr ⟨lw_p2, List.forall_mem_cons.mpr ⟨lw_p3, List.forall_mem_cons.mpr ⟨lw_p4, List.forall_mem_cons.mpr ⟨lw_p5, List.forall_mem_cons.mpr ⟨lw_p6, List.forall_mem_cons.mpr ⟨lw_p7, List.forall_mem_cons.mpr ⟨lw_p8, List.forall_mem_cons.mpr ⟨lw_p9, List.forall_mem_cons.mpr ⟨lw_p10, List.forall_mem_cons.mpr ⟨lw_p11, List.forall_mem_cons.mpr ⟨lw_p12, List.forall_mem_cons.mpr ⟨lw_p13, List.forall_mem_cons.mpr ⟨lw_p14, List.forall_mem_cons.mpr ⟨lw_p15, fun _ h => absurd h List.not_mem_nil⟩⟩⟩⟩⟩⟩⟩⟩⟩⟩⟩⟩⟩⟩⟩⟩
theorem lw_p16 : lw_okq (⟨"WallReadings", "isReading", "(II)Z"⟩, 11) := ⟨⟨by decide +kernel, by decide +kernel⟩, List.mem_of_getElem? (i := 15) (by decide +kernel), List.mem_of_getElem? (i := 392) (by decide +kernel), List.mem_of_getElem? (i := 393) (by decide +kernel)⟩
theorem lw_p17 : lw_okq (⟨"WallReadings$Grammar", "openAt", "(I)I"⟩, 12) := ⟨⟨by decide +kernel, by decide +kernel⟩, List.mem_of_getElem? (i := 124) (by decide +kernel), List.mem_of_getElem? (i := 400) (by decide +kernel), List.mem_of_getElem? (i := 401) (by decide +kernel)⟩
theorem lw_p18 : lw_okq (⟨"WallReadings$Grammar", "slotBehind", "(II)I"⟩, 12) := ⟨⟨by decide +kernel, by decide +kernel⟩, List.mem_of_getElem? (i := 124) (by decide +kernel), List.mem_of_getElem? (i := 407) (by decide +kernel), List.mem_of_getElem? (i := 408) (by decide +kernel)⟩
theorem lw_p19 : lw_okq (⟨"WallReadings$Grammar", "addWord", "(I)V"⟩, 12) := ⟨⟨by decide +kernel, by decide +kernel⟩, List.mem_of_getElem? (i := 124) (by decide +kernel), List.mem_of_getElem? (i := 411) (by decide +kernel), List.mem_of_getElem? (i := 412) (by decide +kernel)⟩
theorem lw_p20 : lw_okq (⟨"WallReadings", "toldBy", "(II)I"⟩, 11) := ⟨⟨by decide +kernel, by decide +kernel⟩, List.mem_of_getElem? (i := 15) (by decide +kernel), List.mem_of_getElem? (i := 423) (by decide +kernel), List.mem_of_getElem? (i := 424) (by decide +kernel)⟩
theorem lw_p21 : lw_okq (⟨"WallReadings$Grammar", "rank", "()V"⟩, 12) := ⟨⟨by decide +kernel, by decide +kernel⟩, List.mem_of_getElem? (i := 124) (by decide +kernel), List.mem_of_getElem? (i := 431) (by decide +kernel), List.mem_of_getElem? (i := 432) (by decide +kernel)⟩
theorem lw_p22 : lw_okq (⟨"WallReadings$Grammar", "bestFrom", "(I)I"⟩, 12) := ⟨⟨by decide +kernel, by decide +kernel⟩, List.mem_of_getElem? (i := 124) (by decide +kernel), List.mem_of_getElem? (i := 435) (by decide +kernel), List.mem_of_getElem? (i := 436) (by decide +kernel)⟩
theorem lw_p23 : lw_okq (⟨"WallReadings$Grammar", "gainOf", "(I)I"⟩, 12) := ⟨⟨by decide +kernel, by decide +kernel⟩, List.mem_of_getElem? (i := 124) (by decide +kernel), List.mem_of_getElem? (i := 439) (by decide +kernel), List.mem_of_getElem? (i := 440) (by decide +kernel)⟩
theorem lw_p24 : lw_okq (⟨"WallReadings$Grammar", "firstOfBest", "()I"⟩, 12) := ⟨⟨by decide +kernel, by decide +kernel⟩, List.mem_of_getElem? (i := 124) (by decide +kernel), List.mem_of_getElem? (i := 444) (by decide +kernel), List.mem_of_getElem? (i := 445) (by decide +kernel)⟩
theorem lw_p25 : lw_okq (⟨"WallReadings", "verbsToldBy", "(I)I"⟩, 11) := ⟨⟨by decide +kernel, by decide +kernel⟩, List.mem_of_getElem? (i := 15) (by decide +kernel), List.mem_of_getElem? (i := 459) (by decide +kernel), List.mem_of_getElem? (i := 460) (by decide +kernel)⟩
theorem lw_p26 : lw_okq (⟨"WallReadings", "hasFallen", "()Z"⟩, 11) := ⟨⟨by decide +kernel, by decide +kernel⟩, List.mem_of_getElem? (i := 15) (by decide +kernel), List.mem_of_getElem? (i := 468) (by decide +kernel), List.mem_of_getElem? (i := 469) (by decide +kernel)⟩
theorem lw_p27 : lw_okq (⟨"WallReadings", "isEnough", "(II)Z"⟩, 11) := ⟨⟨by decide +kernel, by decide +kernel⟩, List.mem_of_getElem? (i := 15) (by decide +kernel), List.mem_of_getElem? (i := 538) (by decide +kernel), List.mem_of_getElem? (i := 539) (by decide +kernel)⟩
theorem lw_p28 : lw_okq (⟨"WallReadings", "isCheaper", "(II)Z"⟩, 11) := ⟨⟨by decide +kernel, by decide +kernel⟩, List.mem_of_getElem? (i := 15) (by decide +kernel), List.mem_of_getElem? (i := 551) (by decide +kernel), List.mem_of_getElem? (i := 552) (by decide +kernel)⟩
theorem lw_p29 : lw_okq (⟨"WallReadings", "isAsSeen", "(I)Z"⟩, 11) := ⟨⟨by decide +kernel, by decide +kernel⟩, List.mem_of_getElem? (i := 15) (by decide +kernel), List.mem_of_getElem? (i := 567) (by decide +kernel), List.mem_of_getElem? (i := 568) (by decide +kernel)⟩
theorem lw_p30 : lw_okq (⟨"WallReadings", "wordsOfRoots", "(I)I"⟩, 11) := ⟨⟨by decide +kernel, by decide +kernel⟩, List.mem_of_getElem? (i := 15) (by decide +kernel), List.mem_of_getElem? (i := 575) (by decide +kernel), List.mem_of_getElem? (i := 576) (by decide +kernel)⟩
theorem lw_p31 : lw_okq (⟨"WallReadings", "oddsOf", "(II)J"⟩, 11) := ⟨⟨by decide +kernel, by decide +kernel⟩, List.mem_of_getElem? (i := 15) (by decide +kernel), List.mem_of_getElem? (i := 579) (by decide +kernel), List.mem_of_getElem? (i := 580) (by decide +kernel)⟩
def lw_privs_2 : List (MethodName × Nat) := [(⟨"WallReadings", "isReading", "(II)Z"⟩, 11), (⟨"WallReadings$Grammar", "openAt", "(I)I"⟩, 12), (⟨"WallReadings$Grammar", "slotBehind", "(II)I"⟩, 12), (⟨"WallReadings$Grammar", "addWord", "(I)V"⟩, 12), (⟨"WallReadings", "toldBy", "(II)I"⟩, 11), (⟨"WallReadings$Grammar", "rank", "()V"⟩, 12), (⟨"WallReadings$Grammar", "bestFrom", "(I)I"⟩, 12), (⟨"WallReadings$Grammar", "gainOf", "(I)I"⟩, 12), (⟨"WallReadings$Grammar", "firstOfBest", "()I"⟩, 12), (⟨"WallReadings", "verbsToldBy", "(I)I"⟩, 11), (⟨"WallReadings", "hasFallen", "()Z"⟩, 11), (⟨"WallReadings", "isEnough", "(II)Z"⟩, 11), (⟨"WallReadings", "isCheaper", "(II)Z"⟩, 11), (⟨"WallReadings", "isAsSeen", "(I)Z"⟩, 11), (⟨"WallReadings", "wordsOfRoots", "(I)I"⟩, 11), (⟨"WallReadings", "oddsOf", "(II)J"⟩, 11)]
theorem lw_r2 : ∀ q ∈ lw_privs_2, lw_okq q := List.forall_mem_cons.mpr ⟨lw_p16, List.forall_mem_cons.mpr ⟨lw_p17, List.forall_mem_cons.mpr ⟨lw_p18, List.forall_mem_cons.mpr ⟨lw_p19, List.forall_mem_cons.mpr ⟨lw_p20, List.forall_mem_cons.mpr ⟨lw_p21, List.forall_mem_cons.mpr ⟨lw_p22, List.forall_mem_cons.mpr ⟨lw_p23, List.forall_mem_cons.mpr ⟨lw_p24, List.forall_mem_cons.mpr ⟨lw_p25, List.forall_mem_cons.mpr ⟨lw_p26, List.forall_mem_cons.mpr ⟨lw_p27, List.forall_mem_cons.mpr ⟨lw_p28, List.forall_mem_cons.mpr ⟨lw_p29, List.forall_mem_cons.mpr ⟨lw_p30, List.forall_mem_cons.mpr ⟨lw_p31, fun _ h => absurd h List.not_mem_nil⟩⟩⟩⟩⟩⟩⟩⟩⟩⟩⟩⟩⟩⟩⟩⟩
theorem lw_p32 : lw_okq (⟨"WallReadingsModel", "clearTold", "()V"⟩, 40) := ⟨⟨by decide +kernel, by decide +kernel⟩, List.mem_of_getElem? (i := 614) (by decide +kernel), List.mem_of_getElem? (i := 620) (by decide +kernel), List.mem_of_getElem? (i := 621) (by decide +kernel)⟩
theorem lw_p33 : lw_okq (⟨"WallReadingsModel", "tellsAll", "()V"⟩, 40) := ⟨⟨by decide +kernel, by decide +kernel⟩, List.mem_of_getElem? (i := 614) (by decide +kernel), List.mem_of_getElem? (i := 624) (by decide +kernel), List.mem_of_getElem? (i := 625) (by decide +kernel)⟩
theorem lw_p34 : lw_okq (⟨"WallReadingsModel", "tellsRoot", "(IIII)V"⟩, 40) := ⟨⟨by decide +kernel, by decide +kernel⟩, List.mem_of_getElem? (i := 614) (by decide +kernel), List.mem_of_getElem? (i := 628) (by decide +kernel), List.mem_of_getElem? (i := 629) (by decide +kernel)⟩
theorem lw_p35 : lw_okq (⟨"WallReadingsModel", "tellsReader", "(III)V"⟩, 40) := ⟨⟨by decide +kernel, by decide +kernel⟩, List.mem_of_getElem? (i := 614) (by decide +kernel), List.mem_of_getElem? (i := 632) (by decide +kernel), List.mem_of_getElem? (i := 633) (by decide +kernel)⟩
theorem lw_p36 : lw_okq (⟨"WallReadingsModel", "settles", "()V"⟩, 40) := ⟨⟨by decide +kernel, by decide +kernel⟩, List.mem_of_getElem? (i := 614) (by decide +kernel), List.mem_of_getElem? (i := 636) (by decide +kernel), List.mem_of_getElem? (i := 637) (by decide +kernel)⟩
theorem lw_p37 : lw_okq (⟨"WallReadingsModel", "readItem", "()Z"⟩, 40) := ⟨⟨by decide +kernel, by decide +kernel⟩, List.mem_of_getElem? (i := 614) (by decide +kernel), List.mem_of_getElem? (i := 779) (by decide +kernel), List.mem_of_getElem? (i := 780) (by decide +kernel)⟩
theorem lw_p38 : lw_okq (⟨"WallReadingsModel", "letterAt", "(I)I"⟩, 40) := ⟨⟨by decide +kernel, by decide +kernel⟩, List.mem_of_getElem? (i := 614) (by decide +kernel), List.mem_of_getElem? (i := 783) (by decide +kernel), List.mem_of_getElem? (i := 784) (by decide +kernel)⟩
theorem lw_p39 : lw_okq (⟨"WallReadingsModel", "readRootOf", "()Z"⟩, 40) := ⟨⟨by decide +kernel, by decide +kernel⟩, List.mem_of_getElem? (i := 614) (by decide +kernel), List.mem_of_getElem? (i := 787) (by decide +kernel), List.mem_of_getElem? (i := 788) (by decide +kernel)⟩
theorem lw_p40 : lw_okq (⟨"WallReadingsModel", "readLetters", "([IIII)I"⟩, 40) := ⟨⟨by decide +kernel, by decide +kernel⟩, List.mem_of_getElem? (i := 614) (by decide +kernel), List.mem_of_getElem? (i := 791) (by decide +kernel), List.mem_of_getElem? (i := 792) (by decide +kernel)⟩
theorem lw_p41 : lw_okq (⟨"WallReadingsModel", "isNew", "(I)Z"⟩, 40) := ⟨⟨by decide +kernel, by decide +kernel⟩, List.mem_of_getElem? (i := 614) (by decide +kernel), List.mem_of_getElem? (i := 795) (by decide +kernel), List.mem_of_getElem? (i := 796) (by decide +kernel)⟩
theorem lw_p42 : lw_okq (⟨"WallReadingsModel", "readNumbers", "(I)Z"⟩, 40) := ⟨⟨by decide +kernel, by decide +kernel⟩, List.mem_of_getElem? (i := 614) (by decide +kernel), List.mem_of_getElem? (i := 799) (by decide +kernel), List.mem_of_getElem? (i := 800) (by decide +kernel)⟩
theorem lw_p43 : lw_okq (⟨"WallReadingsModel", "isTold", "(III)Z"⟩, 40) := ⟨⟨by decide +kernel, by decide +kernel⟩, List.mem_of_getElem? (i := 614) (by decide +kernel), List.mem_of_getElem? (i := 806) (by decide +kernel), List.mem_of_getElem? (i := 807) (by decide +kernel)⟩
theorem lw_p44 : lw_okq (⟨"WallReadingsModel", "readReaderOf", "()Z"⟩, 40) := ⟨⟨by decide +kernel, by decide +kernel⟩, List.mem_of_getElem? (i := 614) (by decide +kernel), List.mem_of_getElem? (i := 810) (by decide +kernel), List.mem_of_getElem? (i := 811) (by decide +kernel)⟩
theorem lw_p45 : lw_okq (⟨"WallReadingsModel", "readRiverOf", "()Z"⟩, 40) := ⟨⟨by decide +kernel, by decide +kernel⟩, List.mem_of_getElem? (i := 614) (by decide +kernel), List.mem_of_getElem? (i := 814) (by decide +kernel), List.mem_of_getElem? (i := 815) (by decide +kernel)⟩
theorem lw_p46 : lw_okq (⟨"WallReadingsModel", "isReader", "(I)Z"⟩, 40) := ⟨⟨by decide +kernel, by decide +kernel⟩, List.mem_of_getElem? (i := 614) (by decide +kernel), List.mem_of_getElem? (i := 831) (by decide +kernel), List.mem_of_getElem? (i := 832) (by decide +kernel)⟩
theorem lw_p47 : lw_okq (⟨"WallReadingsModel", "all", "()I"⟩, 40) := ⟨⟨by decide +kernel, by decide +kernel⟩, List.mem_of_getElem? (i := 614) (by decide +kernel), List.mem_of_getElem? (i := 835) (by decide +kernel), List.mem_of_getElem? (i := 836) (by decide +kernel)⟩
def lw_privs_3 : List (MethodName × Nat) := [(⟨"WallReadingsModel", "clearTold", "()V"⟩, 40), (⟨"WallReadingsModel", "tellsAll", "()V"⟩, 40), (⟨"WallReadingsModel", "tellsRoot", "(IIII)V"⟩, 40), (⟨"WallReadingsModel", "tellsReader", "(III)V"⟩, 40), (⟨"WallReadingsModel", "settles", "()V"⟩, 40), (⟨"WallReadingsModel", "readItem", "()Z"⟩, 40), (⟨"WallReadingsModel", "letterAt", "(I)I"⟩, 40), (⟨"WallReadingsModel", "readRootOf", "()Z"⟩, 40), (⟨"WallReadingsModel", "readLetters", "([IIII)I"⟩, 40), (⟨"WallReadingsModel", "isNew", "(I)Z"⟩, 40), (⟨"WallReadingsModel", "readNumbers", "(I)Z"⟩, 40), (⟨"WallReadingsModel", "isTold", "(III)Z"⟩, 40), (⟨"WallReadingsModel", "readReaderOf", "()Z"⟩, 40), (⟨"WallReadingsModel", "readRiverOf", "()Z"⟩, 40), (⟨"WallReadingsModel", "isReader", "(I)Z"⟩, 40), (⟨"WallReadingsModel", "all", "()I"⟩, 40)]
theorem lw_r3 : ∀ q ∈ lw_privs_3, lw_okq q := List.forall_mem_cons.mpr ⟨lw_p32, List.forall_mem_cons.mpr ⟨lw_p33, List.forall_mem_cons.mpr ⟨lw_p34, List.forall_mem_cons.mpr ⟨lw_p35, List.forall_mem_cons.mpr ⟨lw_p36, List.forall_mem_cons.mpr ⟨lw_p37, List.forall_mem_cons.mpr ⟨lw_p38, List.forall_mem_cons.mpr ⟨lw_p39, List.forall_mem_cons.mpr ⟨lw_p40, List.forall_mem_cons.mpr ⟨lw_p41, List.forall_mem_cons.mpr ⟨lw_p42, List.forall_mem_cons.mpr ⟨lw_p43, List.forall_mem_cons.mpr ⟨lw_p44, List.forall_mem_cons.mpr ⟨lw_p45, List.forall_mem_cons.mpr ⟨lw_p46, List.forall_mem_cons.mpr ⟨lw_p47, fun _ h => absurd h List.not_mem_nil⟩⟩⟩⟩⟩⟩⟩⟩⟩⟩⟩⟩⟩⟩⟩⟩
theorem lw_p48 : lw_okq (⟨"WallReadingsModel", "asWritten", "(II)V"⟩, 40) := ⟨⟨by decide +kernel, by decide +kernel⟩, List.mem_of_getElem? (i := 614) (by decide +kernel), List.mem_of_getElem? (i := 839) (by decide +kernel), List.mem_of_getElem? (i := 840) (by decide +kernel)⟩
theorem lw_p49 : lw_okq (⟨"WallReadingsModel", "begins", "(II)V"⟩, 40) := ⟨⟨by decide +kernel, by decide +kernel⟩, List.mem_of_getElem? (i := 614) (by decide +kernel), List.mem_of_getElem? (i := 843) (by decide +kernel), List.mem_of_getElem? (i := 844) (by decide +kernel)⟩
theorem lw_p50 : lw_okq (⟨"WallReadingsModel", "manyReadings", "()I"⟩, 40) := ⟨⟨by decide +kernel, by decide +kernel⟩, List.mem_of_getElem? (i := 614) (by decide +kernel), List.mem_of_getElem? (i := 847) (by decide +kernel), List.mem_of_getElem? (i := 848) (by decide +kernel)⟩
theorem lw_p51 : lw_okq (⟨"WallReadingsModel", "isNext", "()Z"⟩, 40) := ⟨⟨by decide +kernel, by decide +kernel⟩, List.mem_of_getElem? (i := 614) (by decide +kernel), List.mem_of_getElem? (i := 851) (by decide +kernel), List.mem_of_getElem? (i := 852) (by decide +kernel)⟩
theorem lw_p52 : lw_okq (⟨"WallReadingsModel", "fits", "()Z"⟩, 40) := ⟨⟨by decide +kernel, by decide +kernel⟩, List.mem_of_getElem? (i := 614) (by decide +kernel), List.mem_of_getElem? (i := 855) (by decide +kernel), List.mem_of_getElem? (i := 856) (by decide +kernel)⟩
theorem lw_p53 : lw_okq (⟨"WallReadingsModel", "isVerb", "(I)Z"⟩, 40) := ⟨⟨by decide +kernel, by decide +kernel⟩, List.mem_of_getElem? (i := 614) (by decide +kernel), List.mem_of_getElem? (i := 859) (by decide +kernel), List.mem_of_getElem? (i := 860) (by decide +kernel)⟩
theorem lw_p54 : lw_okq (⟨"WallReadingsModel", "verbsIn", "()I"⟩, 40) := ⟨⟨by decide +kernel, by decide +kernel⟩, List.mem_of_getElem? (i := 614) (by decide +kernel), List.mem_of_getElem? (i := 866) (by decide +kernel), List.mem_of_getElem? (i := 867) (by decide +kernel)⟩
theorem lw_p55 : lw_okq (⟨"WallReadingsModel", "isReading", "(II)Z"⟩, 40) := ⟨⟨by decide +kernel, by decide +kernel⟩, List.mem_of_getElem? (i := 614) (by decide +kernel), List.mem_of_getElem? (i := 874) (by decide +kernel), List.mem_of_getElem? (i := 875) (by decide +kernel)⟩
theorem lw_p56 : lw_okq (⟨"WallReadingsModel", "weighs", "()I"⟩, 40) := ⟨⟨by decide +kernel, by decide +kernel⟩, List.mem_of_getElem? (i := 614) (by decide +kernel), List.mem_of_getElem? (i := 878) (by decide +kernel), List.mem_of_getElem? (i := 879) (by decide +kernel)⟩
theorem lw_p57 : lw_okq (⟨"WallReadingsModel", "verbs", "()I"⟩, 40) := ⟨⟨by decide +kernel, by decide +kernel⟩, List.mem_of_getElem? (i := 614) (by decide +kernel), List.mem_of_getElem? (i := 882) (by decide +kernel), List.mem_of_getElem? (i := 883) (by decide +kernel)⟩
theorem lw_p58 : lw_okq (⟨"WallReadingsModel", "isTelling", "()Z"⟩, 40) := ⟨⟨by decide +kernel, by decide +kernel⟩, List.mem_of_getElem? (i := 614) (by decide +kernel), List.mem_of_getElem? (i := 894) (by decide +kernel), List.mem_of_getElem? (i := 895) (by decide +kernel)⟩
theorem lw_p59 : lw_okq (⟨"WallReadingsModel", "remembers", "()V"⟩, 40) := ⟨⟨by decide +kernel, by decide +kernel⟩, List.mem_of_getElem? (i := 614) (by decide +kernel), List.mem_of_getElem? (i := 902) (by decide +kernel), List.mem_of_getElem? (i := 903) (by decide +kernel)⟩
theorem lw_p60 : lw_okq (⟨"WallReadingsModel", "verbsBy", "(I)I"⟩, 40) := ⟨⟨by decide +kernel, by decide +kernel⟩, List.mem_of_getElem? (i := 614) (by decide +kernel), List.mem_of_getElem? (i := 906) (by decide +kernel), List.mem_of_getElem? (i := 907) (by decide +kernel)⟩
theorem lw_p61 : lw_okq (⟨"WallReadingsModel", "isFallen", "()Z"⟩, 40) := ⟨⟨by decide +kernel, by decide +kernel⟩, List.mem_of_getElem? (i := 614) (by decide +kernel), List.mem_of_getElem? (i := 914) (by decide +kernel), List.mem_of_getElem? (i := 915) (by decide +kernel)⟩
theorem lw_p62 : lw_okq (⟨"WallReadingsModel", "fall", "()I"⟩, 40) := ⟨⟨by decide +kernel, by decide +kernel⟩, List.mem_of_getElem? (i := 614) (by decide +kernel), List.mem_of_getElem? (i := 918) (by decide +kernel), List.mem_of_getElem? (i := 919) (by decide +kernel)⟩
theorem lw_p63 : lw_okq (⟨"WallReadingsModel", "deepIn", "(I)I"⟩, 40) := ⟨⟨by decide +kernel, by decide +kernel⟩, List.mem_of_getElem? (i := 614) (by decide +kernel), List.mem_of_getElem? (i := 922) (by decide +kernel), List.mem_of_getElem? (i := 923) (by decide +kernel)⟩
def lw_privs_4 : List (MethodName × Nat) := [(⟨"WallReadingsModel", "asWritten", "(II)V"⟩, 40), (⟨"WallReadingsModel", "begins", "(II)V"⟩, 40), (⟨"WallReadingsModel", "manyReadings", "()I"⟩, 40), (⟨"WallReadingsModel", "isNext", "()Z"⟩, 40), (⟨"WallReadingsModel", "fits", "()Z"⟩, 40), (⟨"WallReadingsModel", "isVerb", "(I)Z"⟩, 40), (⟨"WallReadingsModel", "verbsIn", "()I"⟩, 40), (⟨"WallReadingsModel", "isReading", "(II)Z"⟩, 40), (⟨"WallReadingsModel", "weighs", "()I"⟩, 40), (⟨"WallReadingsModel", "verbs", "()I"⟩, 40), (⟨"WallReadingsModel", "isTelling", "()Z"⟩, 40), (⟨"WallReadingsModel", "remembers", "()V"⟩, 40), (⟨"WallReadingsModel", "verbsBy", "(I)I"⟩, 40), (⟨"WallReadingsModel", "isFallen", "()Z"⟩, 40), (⟨"WallReadingsModel", "fall", "()I"⟩, 40), (⟨"WallReadingsModel", "deepIn", "(I)I"⟩, 40)]
theorem lw_r4 : ∀ q ∈ lw_privs_4, lw_okq q := List.forall_mem_cons.mpr ⟨lw_p48, List.forall_mem_cons.mpr ⟨lw_p49, List.forall_mem_cons.mpr ⟨lw_p50, List.forall_mem_cons.mpr ⟨lw_p51, List.forall_mem_cons.mpr ⟨lw_p52, List.forall_mem_cons.mpr ⟨lw_p53, List.forall_mem_cons.mpr ⟨lw_p54, List.forall_mem_cons.mpr ⟨lw_p55, List.forall_mem_cons.mpr ⟨lw_p56, List.forall_mem_cons.mpr ⟨lw_p57, List.forall_mem_cons.mpr ⟨lw_p58, List.forall_mem_cons.mpr ⟨lw_p59, List.forall_mem_cons.mpr ⟨lw_p60, List.forall_mem_cons.mpr ⟨lw_p61, List.forall_mem_cons.mpr ⟨lw_p62, List.forall_mem_cons.mpr ⟨lw_p63, fun _ h => absurd h List.not_mem_nil⟩⟩⟩⟩⟩⟩⟩⟩⟩⟩⟩⟩⟩⟩⟩⟩
theorem lw_p64 : lw_okq (⟨"WallReadingsModel", "isReadable", "(II)Z"⟩, 40) := ⟨⟨by decide +kernel, by decide +kernel⟩, List.mem_of_getElem? (i := 614) (by decide +kernel), List.mem_of_getElem? (i := 953) (by decide +kernel), List.mem_of_getElem? (i := 954) (by decide +kernel)⟩
theorem lw_p65 : lw_okq (⟨"WallReadingsModel", "isReadingOf", "(III)Z"⟩, 40) := ⟨⟨by decide +kernel, by decide +kernel⟩, List.mem_of_getElem? (i := 614) (by decide +kernel), List.mem_of_getElem? (i := 961) (by decide +kernel), List.mem_of_getElem? (i := 962) (by decide +kernel)⟩
theorem lw_p66 : lw_okq (⟨"WallReadingsModel", "isRow", "(II)V"⟩, 40) := ⟨⟨by decide +kernel, by decide +kernel⟩, List.mem_of_getElem? (i := 614) (by decide +kernel), List.mem_of_getElem? (i := 965) (by decide +kernel), List.mem_of_getElem? (i := 966) (by decide +kernel)⟩
theorem lw_p67 : lw_okq (⟨"WallReadingsModel", "numberOf", "(II)I"⟩, 40) := ⟨⟨by decide +kernel, by decide +kernel⟩, List.mem_of_getElem? (i := 614) (by decide +kernel), List.mem_of_getElem? (i := 969) (by decide +kernel), List.mem_of_getElem? (i := 970) (by decide +kernel)⟩
theorem lw_p68 : lw_okq (⟨"WallReadingsModel", "isSo", "(II)Z"⟩, 40) := ⟨⟨by decide +kernel, by decide +kernel⟩, List.mem_of_getElem? (i := 614) (by decide +kernel), List.mem_of_getElem? (i := 993) (by decide +kernel), List.mem_of_getElem? (i := 994) (by decide +kernel)⟩
def lw_privs_5 : List (MethodName × Nat) := [(⟨"WallReadingsModel", "isReadable", "(II)Z"⟩, 40), (⟨"WallReadingsModel", "isReadingOf", "(III)Z"⟩, 40), (⟨"WallReadingsModel", "isRow", "(II)V"⟩, 40), (⟨"WallReadingsModel", "numberOf", "(II)I"⟩, 40), (⟨"WallReadingsModel", "isSo", "(II)Z"⟩, 40)]
theorem lw_r5 : ∀ q ∈ lw_privs_5, lw_okq q := List.forall_mem_cons.mpr ⟨lw_p64, List.forall_mem_cons.mpr ⟨lw_p65, List.forall_mem_cons.mpr ⟨lw_p66, List.forall_mem_cons.mpr ⟨lw_p67, List.forall_mem_cons.mpr ⟨lw_p68, fun _ h => absurd h List.not_mem_nil⟩⟩⟩⟩⟩
def lw_privs : List (MethodName × Nat) := lw_privs_1 ++ (lw_privs_2 ++ (lw_privs_3 ++ (lw_privs_4 ++ (lw_privs_5))))
def lw_tbl : List Cond := k2_sels lw_privs ++ tables_1
theorem lw_privs_ok : ∀ q ∈ lw_privs, lw_okq q := by
  show ∀ q ∈ lw_privs_1 ++ (lw_privs_2 ++ (lw_privs_3 ++ (lw_privs_4 ++ (lw_privs_5)))), lw_okq q
  exact List.forall_mem_append.mpr ⟨lw_r1, List.forall_mem_append.mpr ⟨lw_r2, List.forall_mem_append.mpr ⟨lw_r3, List.forall_mem_append.mpr ⟨lw_r4, lw_r5⟩⟩⟩⟩
-- ===== end of PART A; then your names; then what follows =====
/-! ===== BEGIN words of one list among another's, by their places ===== -/
theorem goodIn_r {big : List Cond} (ws : List Cond) (ps : List Nat) (hp : ws = ps.filterMap (fun i => big[i]?)) (h : ws.all goodWord = true) : GoodIn big ws := by
  intro w hw
  have h1 := List.all_eq_true.mp h w hw
  rw [hp] at hw
  obtain ⟨i, -, hi⟩ := List.mem_filterMap.mp hw
  have hm : w ∈ big := by first | exact List.mem_of_getElem? hi | exact List.getElem?_mem hi
  exact ⟨hm, good_of_word h1⟩
theorem goodIn_app {big a b : List Cond} (ha : GoodIn big a) (hb : GoodIn big b) : GoodIn big (a ++ b) := fun w h => (List.mem_append.mp h).elim (ha w) (hb w)
theorem goodIn_ca {big a b : List Cond} {c : Cond} (ha : GoodIn big (c :: a)) (hb : GoodIn big b) : GoodIn big (c :: (a ++ b)) := fun w h => (List.mem_cons.mp h).elim (fun e => ha w (List.mem_cons.mpr (Or.inl e))) (fun h => (List.mem_append.mp h).elim (fun h => ha w (List.mem_cons.mpr (Or.inr h))) (hb w))
theorem goodIn_sub {big ws : List Cond} (hm : ∀ w ∈ ws, w ∈ big) (h : ws.all goodWord = true) : GoodIn big ws := fun w hw => ⟨hm w hw, good_of_word (List.all_eq_true.mp h w hw)⟩
/-! ===== END ===== -/

/-! ===== BEGIN printed: names, fields, word lists, decode rows ===== -/
def RX0 : String := "WallReadings$Grammar"
def TX0 : u_T := fun k => match k with
  | 0 => ("WallReadings$Grammar", "world", "LWallReadings$World;", true)
  | 1 => ("WallReadings$Grammar", "letters", "[I", true)
  | 2 => ("WallReadings$Grammar", "fits", "[I", true)
  | 3 => ("WallReadings$Grammar", "ways", "[I", true)
  | 4 => ("WallReadings$Grammar", "best", "[I", true)
  | 5 => ("WallReadings$Grammar", "kind", "I", false)
  | 6 => ("WallReadings$Grammar", "end", "I", false)
  | 7 => ("WallReadings$Grammar", "allowed", "I", false)
  | 8 => ("WallReadings$Grammar", "words", "[I", true)
  | 9 => ("WallReadings$Grammar", "size", "I", false)
  | 10 => ("WallReadings$Grammar", "weight", "I", false)
  | _ => ("WallReadings$Grammar", "verbs", "I", false)
def tyX0 : Nat → FieldType := fun k => match k with
  | 0 => .object "WallReadings$World"
  | 1 => .array .int
  | 2 => .array .int
  | 3 => .array .int
  | 4 => .array .int
  | 5 => .int
  | 6 => .int
  | 7 => .int
  | 8 => .array .int
  | 9 => .int
  | 10 => .int
  | _ => .int
abbrev wsX00 : List Cond := u_ws RX0 TX0 12
theorem nmX0 : ∀ a, a < 12 → ∀ b, b < 12 → a ≠ b → (TX0 a).2.1 ≠ (TX0 b).2.1 := by decide +kernel
theorem tyX0_ok : ∀ k, k < 12 → parseFieldDescriptor (TX0 k).2.2.1 = some (tyX0 k) := by decide +kernel
abbrev cX0_init : ByteArray := prog_2_method_1_code
def yX0_init : MethodName := ⟨RX0, "<init>", "(LWallReadings$World;)V"⟩
abbrev cX0_take : ByteArray := prog_2_method_2_code
def yX0_take : MethodName := ⟨RX0, "take", "(II)V"⟩
abbrev cX0_fitWords : ByteArray := prog_2_method_3_code
def yX0_fitWords : MethodName := ⟨RX0, "fitWords", "(I)V"⟩
abbrev cX0_tally : ByteArray := prog_2_method_4_code
def yX0_tally : MethodName := ⟨RX0, "tally", "(I)I"⟩
abbrev cX0_tallyFrom : ByteArray := prog_2_method_5_code
def yX0_tallyFrom : MethodName := ⟨RX0, "tallyFrom", "(I)V"⟩
abbrev cX0_mayEndAt : ByteArray := prog_2_method_6_code
def yX0_mayEndAt : MethodName := ⟨RX0, "mayEndAt", "(I)Z"⟩
abbrev cX0_openAt : ByteArray := prog_2_method_7_code
def yX0_openAt : MethodName := ⟨RX0, "openAt", "(I)I"⟩
abbrev cX0_slotBehind : ByteArray := prog_2_method_8_code
def yX0_slotBehind : MethodName := ⟨RX0, "slotBehind", "(II)I"⟩
abbrev cX0_pick : ByteArray := prog_2_method_9_code
def yX0_pick : MethodName := ⟨RX0, "pick", "(I)V"⟩
abbrev cX0_addWord : ByteArray := prog_2_method_10_code
def yX0_addWord : MethodName := ⟨RX0, "addWord", "(I)V"⟩
abbrev cX0_told : ByteArray := prog_2_method_11_code
def yX0_told : MethodName := ⟨RX0, "told", "()I"⟩
abbrev cX0_rank : ByteArray := prog_2_method_12_code
def yX0_rank : MethodName := ⟨RX0, "rank", "()V"⟩
abbrev cX0_bestFrom : ByteArray := prog_2_method_13_code
def yX0_bestFrom : MethodName := ⟨RX0, "bestFrom", "(I)I"⟩
abbrev cX0_gainOf : ByteArray := prog_2_method_14_code
def yX0_gainOf : MethodName := ⟨RX0, "gainOf", "(I)I"⟩
abbrev cX0_firstOfBest : ByteArray := prog_2_method_15_code
def yX0_firstOfBest : MethodName := ⟨RX0, "firstOfBest", "()I"⟩
def RX1 : String := "WallReadings$Shelf"
def TX1 : u_T := fun k => match k with
  | 0 => ("WallReadings$Shelf", "moments", "[I", true)
  | _ => ("WallReadings$Shelf", "held", "I", false)
def tyX1 : Nat → FieldType := fun k => match k with
  | 0 => .array .int
  | _ => .int
abbrev wsX10 : List Cond := u_ws RX1 TX1 2
theorem nmX1 : ∀ a, a < 2 → ∀ b, b < 2 → a ≠ b → (TX1 a).2.1 ≠ (TX1 b).2.1 := by decide +kernel
theorem tyX1_ok : ∀ k, k < 2 → parseFieldDescriptor (TX1 k).2.2.1 = some (tyX1 k) := by decide +kernel
abbrev cX1_init : ByteArray := prog_3_method_1_code
def yX1_init : MethodName := ⟨RX1, "<init>", "()V"⟩
abbrev cX1_put : ByteArray := prog_3_method_2_code
def yX1_put : MethodName := ⟨RX1, "put", "([I)V"⟩
abbrev cX1_takeInto : ByteArray := prog_3_method_3_code
def yX1_takeInto : MethodName := ⟨RX1, "takeInto", "([I)V"⟩
def RX2 : String := "WallReadings$Text"
def TX2 : u_T := fun k => match k with
  | 0 => ("WallReadings$Text", "signs", "[C", true)
  | 1 => ("WallReadings$Text", "length", "I", false)
  | _ => ("WallReadings$Text", "at", "I", false)
def tyX2 : Nat → FieldType := fun k => match k with
  | 0 => .array .char
  | 1 => .int
  | _ => .int
abbrev wsX20 : List Cond := u_ws RX2 TX2 3
theorem nmX2 : ∀ a, a < 3 → ∀ b, b < 3 → a ≠ b → (TX2 a).2.1 ≠ (TX2 b).2.1 := by decide +kernel
theorem tyX2_ok : ∀ k, k < 3 → parseFieldDescriptor (TX2 k).2.2.1 = some (tyX2 k) := by decide +kernel
abbrev cX2_init : ByteArray := prog_4_method_1_code
def yX2_init : MethodName := ⟨RX2, "<init>", "()V"⟩
abbrev cX2_add : ByteArray := prog_4_method_2_code
def yX2_add : MethodName := ⟨RX2, "add", "(C)Z"⟩
abbrev cX2_clear : ByteArray := prog_4_method_3_code
def yX2_clear : MethodName := ⟨RX2, "clear", "()V"⟩
abbrev cX2_firstFault : ByteArray := prog_4_method_4_code
def yX2_firstFault : MethodName := ⟨RX2, "firstFault", "(LWallReadings$World;)I"⟩
abbrev cX2_readItem : ByteArray := prog_4_method_5_code
def yX2_readItem : MethodName := ⟨RX2, "readItem", "(LWallReadings$World;)Z"⟩
abbrev cX2_readRoot : ByteArray := prog_4_method_6_code
def yX2_readRoot : MethodName := ⟨RX2, "readRoot", "(LWallReadings$World;)Z"⟩
abbrev cX2_readReader : ByteArray := prog_4_method_7_code
def yX2_readReader : MethodName := ⟨RX2, "readReader", "(LWallReadings$World;)Z"⟩
abbrev cX2_readWriting : ByteArray := prog_4_method_8_code
def yX2_readWriting : MethodName := ⟨RX2, "readWriting", "(LWallReadings$World;)Z"⟩
abbrev cX2_readRiver : ByteArray := prog_4_method_9_code
def yX2_readRiver : MethodName := ⟨RX2, "readRiver", "(LWallReadings$World;)Z"⟩
abbrev cX2_readGold : ByteArray := prog_4_method_10_code
def yX2_readGold : MethodName := ⟨RX2, "readGold", "(LWallReadings$World;)Z"⟩
abbrev cX2_readRow : ByteArray := prog_4_method_11_code
def yX2_readRow : MethodName := ⟨RX2, "readRow", "(IC)I"⟩
abbrev cX2_readNumber : ByteArray := prog_4_method_12_code
def yX2_readNumber : MethodName := ⟨RX2, "readNumber", "(IIC)I"⟩
abbrev cX2_isNext : ByteArray := prog_4_method_13_code
def yX2_isNext : MethodName := ⟨RX2, "isNext", "(C)Z"⟩
abbrev cX2_sign : ByteArray := prog_4_method_14_code
def yX2_sign : MethodName := ⟨RX2, "sign", "()C"⟩
def RX3 : String := "WallReadings$World"
def TX3 : u_T := fun k => match k with
  | 0 => ("WallReadings$World", "rootRow", "[I", true)
  | 1 => ("WallReadings$World", "rootSize", "[I", true)
  | 2 => ("WallReadings$World", "rootWeight", "[I", true)
  | 3 => ("WallReadings$World", "rootVerb", "[I", true)
  | 4 => ("WallReadings$World", "readerKind", "[I", true)
  | 5 => ("WallReadings$World", "readerHours", "[I", true)
  | 6 => ("WallReadings$World", "readerPrice", "[I", true)
  | 7 => ("WallReadings$World", "wordsOfRow", "[I", true)
  | 8 => ("WallReadings$World", "roots", "I", false)
  | 9 => ("WallReadings$World", "readers", "I", false)
  | 10 => ("WallReadings$World", "writing", "I", false)
  | 11 => ("WallReadings$World", "deep", "I", false)
  | 12 => ("WallReadings$World", "turned", "I", false)
  | 13 => ("WallReadings$World", "falls", "I", false)
  | _ => ("WallReadings$World", "gold", "I", false)
def tyX3 : Nat → FieldType := fun k => match k with
  | 0 => .array .int
  | 1 => .array .int
  | 2 => .array .int
  | 3 => .array .int
  | 4 => .array .int
  | 5 => .array .int
  | 6 => .array .int
  | 7 => .array .int
  | 8 => .int
  | 9 => .int
  | 10 => .int
  | 11 => .int
  | 12 => .int
  | 13 => .int
  | _ => .int
abbrev wsX30 : List Cond := u_ws RX3 TX3 15
theorem nmX3 : ∀ a, a < 15 → ∀ b, b < 15 → a ≠ b → (TX3 a).2.1 ≠ (TX3 b).2.1 := by decide +kernel
theorem tyX3_ok : ∀ k, k < 15 → parseFieldDescriptor (TX3 k).2.2.1 = some (tyX3 k) := by decide +kernel
abbrev cX3_init : ByteArray := prog_5_method_1_code
def yX3_init : MethodName := ⟨RX3, "<init>", "()V"⟩
abbrev cX3_clear : ByteArray := prog_5_method_2_code
def yX3_clear : MethodName := ⟨RX3, "clear", "()V"⟩
abbrev cX3_addRoot : ByteArray := prog_5_method_3_code
def yX3_addRoot : MethodName := ⟨RX3, "addRoot", "(III)Z"⟩
abbrev cX3_addReader : ByteArray := prog_5_method_4_code
def yX3_addReader : MethodName := ⟨RX3, "addReader", "(III)Z"⟩
abbrev cX3_setRiver : ByteArray := prog_5_method_5_code
def yX3_setRiver : MethodName := ⟨RX3, "setRiver", "(III)V"⟩
abbrev cX3_wordsSaying : ByteArray := prog_5_method_6_code
def yX3_wordsSaying : MethodName := ⟨RX3, "wordsSaying", "(I)I"⟩
abbrev cX3_depthIn : ByteArray := prog_5_method_7_code
def yX3_depthIn : MethodName := ⟨RX3, "depthIn", "(I)I"⟩
abbrev cX3_fall : ByteArray := prog_5_method_8_code
def yX3_fall : MethodName := ⟨RX3, "fall", "()I"⟩
abbrev cX3_priceOf : ByteArray := prog_5_method_9_code
def yX3_priceOf : MethodName := ⟨RX3, "priceOf", "(I)I"⟩
abbrev cX3_hoursOf : ByteArray := prog_5_method_10_code
def yX3_hoursOf : MethodName := ⟨RX3, "hoursOf", "(I)I"⟩
def RX4 : String := "WallReadings"
def TX4 : u_T := fun k => match k with
  | 0 => ("WallReadings", "text", "LWallReadings$Text;", true)
  | 1 => ("WallReadings", "laid", "LWallReadings$World;", true)
  | 2 => ("WallReadings", "draft", "LWallReadings$World;", true)
  | 3 => ("WallReadings", "grammar", "LWallReadings$Grammar;", true)
  | 4 => ("WallReadings", "now", "[I", true)
  | 5 => ("WallReadings", "past", "LWallReadings$Shelf;", true)
  | 6 => ("WallReadings", "kept", "LWallReadings$Shelf;", true)
  | 7 => ("WallReadings", "seenReader", "[I", true)
  | 8 => ("WallReadings", "seenWeight", "[I", true)
  | 9 => ("WallReadings", "toldVerbs", "[I", true)
  | _ => ("WallReadings", "seen", "I", false)
def tyX4 : Nat → FieldType := fun k => match k with
  | 0 => .object "WallReadings$Text"
  | 1 => .object "WallReadings$World"
  | 2 => .object "WallReadings$World"
  | 3 => .object "WallReadings$Grammar"
  | 4 => .array .int
  | 5 => .object "WallReadings$Shelf"
  | 6 => .object "WallReadings$Shelf"
  | 7 => .array .int
  | 8 => .array .int
  | 9 => .array .int
  | _ => .int
abbrev wsX40 : List Cond := u_ws RX4 TX4 11
theorem nmX4 : ∀ a, a < 11 → ∀ b, b < 11 → a ≠ b → (TX4 a).2.1 ≠ (TX4 b).2.1 := by decide +kernel
theorem tyX4_ok : ∀ k, k < 11 → parseFieldDescriptor (TX4 k).2.2.1 = some (tyX4 k) := by decide +kernel
abbrev cX4_init : ByteArray := prog_1_method_1_code
def yX4_init : MethodName := ⟨RX4, "<init>", "()V"⟩
abbrev cX4_write : ByteArray := prog_1_method_2_code
def yX4_write : MethodName := ⟨RX4, "write", "(I)I"⟩
abbrev cX4_wipe : ByteArray := prog_1_method_3_code
def yX4_wipe : MethodName := ⟨RX4, "wipe", "()I"⟩
abbrev cX4_fault : ByteArray := prog_1_method_4_code
def yX4_fault : MethodName := ⟨RX4, "fault", "()I"⟩
abbrev cX4_lay : ByteArray := prog_1_method_5_code
def yX4_lay : MethodName := ⟨RX4, "lay", "()I"⟩
abbrev cX4_root : ByteArray := prog_1_method_6_code
def yX4_root : MethodName := ⟨RX4, "root", "(II)I"⟩
abbrev cX4_reader : ByteArray := prog_1_method_7_code
def yX4_reader : MethodName := ⟨RX4, "reader", "(II)I"⟩
abbrev cX4_reading : ByteArray := prog_1_method_8_code
def yX4_reading : MethodName := ⟨RX4, "reading", "(III)I"⟩
abbrev cX4_word : ByteArray := prog_1_method_9_code
def yX4_word : MethodName := ⟨RX4, "word", "(III)I"⟩
abbrev cX4_tells : ByteArray := prog_1_method_10_code
def yX4_tells : MethodName := ⟨RX4, "tells", "(II)I"⟩
abbrev cX4_ask : ByteArray := prog_1_method_11_code
def yX4_ask : MethodName := ⟨RX4, "ask", "(I)I"⟩
abbrev cX4_shut : ByteArray := prog_1_method_12_code
def yX4_shut : MethodName := ⟨RX4, "shut", "()I"⟩
abbrev cX4_carve : ByteArray := prog_1_method_13_code
def yX4_carve : MethodName := ⟨RX4, "carve", "(I)I"⟩
abbrev cX4_rub : ByteArray := prog_1_method_14_code
def yX4_rub : MethodName := ⟨RX4, "rub", "()I"⟩
abbrev cX4_pass : ByteArray := prog_1_method_15_code
def yX4_pass : MethodName := ⟨RX4, "pass", "(I)I"⟩
abbrev cX4_undo : ByteArray := prog_1_method_16_code
def yX4_undo : MethodName := ⟨RX4, "undo", "()I"⟩
abbrev cX4_belief : ByteArray := prog_1_method_17_code
def yX4_belief : MethodName := ⟨RX4, "belief", "(III)I"⟩
abbrev cX4_without : ByteArray := prog_1_method_18_code
def yX4_without : MethodName := ⟨RX4, "without", "(I)I"⟩
abbrev cX4_shortest : ByteArray := prog_1_method_19_code
def yX4_shortest : MethodName := ⟨RX4, "shortest", "(II)I"⟩
abbrev cX4_until : ByteArray := prog_1_method_20_code
def yX4_until : MethodName := ⟨RX4, "until", "(I)I"⟩
abbrev cX4_enough : ByteArray := prog_1_method_21_code
def yX4_enough : MethodName := ⟨RX4, "enough", "(II)I"⟩
abbrev cX4_see : ByteArray := prog_1_method_22_code
def yX4_see : MethodName := ⟨RX4, "see", "(II)I"⟩
abbrev cX4_forget : ByteArray := prog_1_method_23_code
def yX4_forget : MethodName := ⟨RX4, "forget", "()I"⟩
abbrev cX4_wrote : ByteArray := prog_1_method_24_code
def yX4_wrote : MethodName := ⟨RX4, "wrote", "(I)I"⟩
abbrev cX4_forgotten : ByteArray := prog_1_method_25_code
def yX4_forgotten : MethodName := ⟨RX4, "forgotten", "(III)I"⟩
abbrev cX4_walls : ByteArray := prog_1_method_26_code
def yX4_walls : MethodName := ⟨RX4, "walls", "(IIII)I"⟩
abbrev cX4_keep : ByteArray := prog_1_method_27_code
def yX4_keep : MethodName := ⟨RX4, "keep", "()I"⟩
abbrev cX4_back : ByteArray := prog_1_method_28_code
def yX4_back : MethodName := ⟨RX4, "back", "()I"⟩
abbrev cX4_count : ByteArray := prog_1_method_29_code
def yX4_count : MethodName := ⟨RX4, "count", "(I)I"⟩
abbrev cX4_begin : ByteArray := prog_1_method_30_code
def yX4_begin : MethodName := ⟨RX4, "begin", "()V"⟩
abbrev cX4_hasFallen : ByteArray := prog_1_method_31_code
def yX4_hasFallen : MethodName := ⟨RX4, "hasFallen", "()Z"⟩
abbrev cX4_isReader : ByteArray := prog_1_method_32_code
def yX4_isReader : MethodName := ⟨RX4, "isReader", "(I)Z"⟩
abbrev cX4_isPart : ByteArray := prog_1_method_33_code
def yX4_isPart : MethodName := ⟨RX4, "isPart", "(I)Z"⟩
abbrev cX4_isReading : ByteArray := prog_1_method_34_code
def yX4_isReading : MethodName := ⟨RX4, "isReading", "(II)Z"⟩
abbrev cX4_readingsOf : ByteArray := prog_1_method_35_code
def yX4_readingsOf : MethodName := ⟨RX4, "readingsOf", "(II)I"⟩
abbrev cX4_toldBy : ByteArray := prog_1_method_36_code
def yX4_toldBy : MethodName := ⟨RX4, "toldBy", "(II)I"⟩
abbrev cX4_verbsToldBy : ByteArray := prog_1_method_37_code
def yX4_verbsToldBy : MethodName := ⟨RX4, "verbsToldBy", "(I)I"⟩
abbrev cX4_isEnough : ByteArray := prog_1_method_38_code
def yX4_isEnough : MethodName := ⟨RX4, "isEnough", "(II)Z"⟩
abbrev cX4_isCheaper : ByteArray := prog_1_method_39_code
def yX4_isCheaper : MethodName := ⟨RX4, "isCheaper", "(II)Z"⟩
abbrev cX4_isAsSeen : ByteArray := prog_1_method_40_code
def yX4_isAsSeen : MethodName := ⟨RX4, "isAsSeen", "(I)Z"⟩
abbrev cX4_lettersIn : ByteArray := prog_1_method_41_code
def yX4_lettersIn : MethodName := ⟨RX4, "lettersIn", "(I)I"⟩
abbrev cX4_isShortRow : ByteArray := prog_1_method_42_code
def yX4_isShortRow : MethodName := ⟨RX4, "isShortRow", "(I)Z"⟩
abbrev cX4_rowOfWall : ByteArray := prog_1_method_43_code
def yX4_rowOfWall : MethodName := ⟨RX4, "rowOfWall", "(II)I"⟩
abbrev cX4_holds : ByteArray := prog_1_method_44_code
def yX4_holds : MethodName := ⟨RX4, "holds", "(II)Z"⟩
abbrev cX4_wordsOfRoot : ByteArray := prog_1_method_45_code
def yX4_wordsOfRoot : MethodName := ⟨RX4, "wordsOfRoot", "(I)I"⟩
abbrev cX4_wordsOfRoots : ByteArray := prog_1_method_46_code
def yX4_wordsOfRoots : MethodName := ⟨RX4, "wordsOfRoots", "(I)I"⟩
abbrev cX4_oddsOf : ByteArray := prog_1_method_47_code
def yX4_oddsOf : MethodName := ⟨RX4, "oddsOf", "(II)J"⟩
abbrev cX4_power : ByteArray := prog_1_method_48_code
def yX4_power : MethodName := ⟨RX4, "power", "(II)J"⟩
abbrev cX4_inLowestTerms : ByteArray := prog_1_method_49_code
def yX4_inLowestTerms : MethodName := ⟨RX4, "inLowestTerms", "(JJI)I"⟩
def RX5 : String := "WallReadingsModel"
def TX5 : u_T := fun k => match k with
  | 0 => ("WallReadingsModel", "roots", "I", false)
  | 1 => ("WallReadingsModel", "rootMany", "[I", true)
  | 2 => ("WallReadingsModel", "rootLetter", "[I", true)
  | 3 => ("WallReadingsModel", "weight", "[I", true)
  | 4 => ("WallReadingsModel", "verb", "[I", true)
  | 5 => ("WallReadingsModel", "readers", "I", false)
  | 6 => ("WallReadingsModel", "reader", "[I", true)
  | 7 => ("WallReadingsModel", "river", "[I", true)
  | 8 => ("WallReadingsModel", "st", "[I", true)
  | 9 => ("WallReadingsModel", "acts", "I", false)
  | 10 => ("WallReadingsModel", "was", "[I", true)
  | 11 => ("WallReadingsModel", "keeps", "I", false)
  | 12 => ("WallReadingsModel", "kept", "[I", true)
  | 13 => ("WallReadingsModel", "sees", "I", false)
  | 14 => ("WallReadingsModel", "seen", "[I", true)
  | 15 => ("WallReadingsModel", "text", "[I", true)
  | 16 => ("WallReadingsModel", "texted", "I", false)
  | 17 => ("WallReadingsModel", "at", "I", false)
  | 18 => ("WallReadingsModel", "told", "[I", true)
  | 19 => ("WallReadingsModel", "readRoots", "I", false)
  | 20 => ("WallReadingsModel", "readRootMany", "[I", true)
  | 21 => ("WallReadingsModel", "readRootLetter", "[I", true)
  | 22 => ("WallReadingsModel", "readWeight", "[I", true)
  | 23 => ("WallReadingsModel", "readVerb", "[I", true)
  | 24 => ("WallReadingsModel", "readReaders", "I", false)
  | 25 => ("WallReadingsModel", "readReader", "[I", true)
  | 26 => ("WallReadingsModel", "readMany", "I", false)
  | 27 => ("WallReadingsModel", "readLetter", "[I", true)
  | 28 => ("WallReadingsModel", "readRiver", "[I", true)
  | 29 => ("WallReadingsModel", "readGold", "I", false)
  | 30 => ("WallReadingsModel", "row", "[I", true)
  | 31 => ("WallReadingsModel", "rowMany", "I", false)
  | 32 => ("WallReadingsModel", "knowing", "I", false)
  | 33 => ("WallReadingsModel", "kind", "I", false)
  | 34 => ("WallReadingsModel", "words", "[I", true)
  | 35 => ("WallReadingsModel", "from", "[I", true)
  | 36 => ("WallReadingsModel", "deep", "I", false)
  | 37 => ("WallReadingsModel", "tellsWhich", "I", false)
  | 38 => ("WallReadingsModel", "tellsWeight", "I", false)
  | _ => ("WallReadingsModel", "tellsVerbs", "I", false)
def tyX5 : Nat → FieldType := fun k => match k with
  | 0 => .int
  | 1 => .array .int
  | 2 => .array .int
  | 3 => .array .int
  | 4 => .array .int
  | 5 => .int
  | 6 => .array .int
  | 7 => .array .int
  | 8 => .array .int
  | 9 => .int
  | 10 => .array .int
  | 11 => .int
  | 12 => .array .int
  | 13 => .int
  | 14 => .array .int
  | 15 => .array .int
  | 16 => .int
  | 17 => .int
  | 18 => .array .int
  | 19 => .int
  | 20 => .array .int
  | 21 => .array .int
  | 22 => .array .int
  | 23 => .array .int
  | 24 => .int
  | 25 => .array .int
  | 26 => .int
  | 27 => .array .int
  | 28 => .array .int
  | 29 => .int
  | 30 => .array .int
  | 31 => .int
  | 32 => .int
  | 33 => .int
  | 34 => .array .int
  | 35 => .array .int
  | 36 => .int
  | 37 => .int
  | 38 => .int
  | _ => .int
abbrev wsX50 : List Cond := u_ws RX5 TX5 40
theorem nmX5 : ∀ a, a < 40 → ∀ b, b < 40 → a ≠ b → (TX5 a).2.1 ≠ (TX5 b).2.1 := by decide +kernel
theorem tyX5_ok : ∀ k, k < 40 → parseFieldDescriptor (TX5 k).2.2.1 = some (tyX5 k) := by decide +kernel
abbrev cX5_init : ByteArray := prog_7_method_1_code
def yX5_init : MethodName := ⟨RX5, "<init>", "()V"⟩
abbrev cX5_tellsRoot : ByteArray := prog_7_method_3_code
def yX5_tellsRoot : MethodName := ⟨RX5, "tellsRoot", "(IIII)V"⟩
abbrev cX5_tellsReader : ByteArray := prog_7_method_4_code
def yX5_tellsReader : MethodName := ⟨RX5, "tellsReader", "(III)V"⟩
abbrev cX5_tellsAll : ByteArray := prog_7_method_5_code
def yX5_tellsAll : MethodName := ⟨RX5, "tellsAll", "()V"⟩
abbrev cX5_in : ByteArray := prog_7_method_6_code
def yX5_in : MethodName := ⟨RX5, "in", "(III)Z"⟩
abbrev cX5_has : ByteArray := prog_7_method_7_code
def yX5_has : MethodName := ⟨RX5, "has", "(II)Z"⟩
abbrev cX5_isReader : ByteArray := prog_7_method_8_code
def yX5_isReader : MethodName := ⟨RX5, "isReader", "(I)Z"⟩
abbrev cX5_write : ByteArray := prog_7_method_9_code
def yX5_write : MethodName := ⟨RX5, "write", "(I)I"⟩
abbrev cX5_wipe : ByteArray := prog_7_method_10_code
def yX5_wipe : MethodName := ⟨RX5, "wipe", "()I"⟩
abbrev cX5_letterAt : ByteArray := prog_7_method_11_code
def yX5_letterAt : MethodName := ⟨RX5, "letterAt", "(I)I"⟩
abbrev cX5_isFigure : ByteArray := prog_7_method_12_code
def yX5_isFigure : MethodName := ⟨RX5, "isFigure", "(I)Z"⟩
abbrev cX5_readNumbers : ByteArray := prog_7_method_13_code
def yX5_readNumbers : MethodName := ⟨RX5, "readNumbers", "(I)Z"⟩
abbrev cX5_isTold : ByteArray := prog_7_method_14_code
def yX5_isTold : MethodName := ⟨RX5, "isTold", "(III)Z"⟩
abbrev cX5_clearTold : ByteArray := prog_7_method_15_code
def yX5_clearTold : MethodName := ⟨RX5, "clearTold", "()V"⟩
abbrev cX5_readLetters : ByteArray := prog_7_method_16_code
def yX5_readLetters : MethodName := ⟨RX5, "readLetters", "([IIII)I"⟩
abbrev cX5_isNew : ByteArray := prog_7_method_17_code
def yX5_isNew : MethodName := ⟨RX5, "isNew", "(I)Z"⟩
abbrev cX5_readRootOf : ByteArray := prog_7_method_18_code
def yX5_readRootOf : MethodName := ⟨RX5, "readRootOf", "()Z"⟩
abbrev cX5_readReaderOf : ByteArray := prog_7_method_19_code
def yX5_readReaderOf : MethodName := ⟨RX5, "readReaderOf", "()Z"⟩
abbrev cX5_readRiverOf : ByteArray := prog_7_method_20_code
def yX5_readRiverOf : MethodName := ⟨RX5, "readRiverOf", "()Z"⟩
abbrev cX5_readItem : ByteArray := prog_7_method_21_code
def yX5_readItem : MethodName := ⟨RX5, "readItem", "()Z"⟩
abbrev cX5_fault : ByteArray := prog_7_method_22_code
def yX5_fault : MethodName := ⟨RX5, "fault", "()I"⟩
abbrev cX5_lay : ByteArray := prog_7_method_23_code
def yX5_lay : MethodName := ⟨RX5, "lay", "()I"⟩
abbrev cX5_copies : ByteArray := prog_7_method_24_code
def yX5_copies : MethodName := ⟨RX5, "copies", "([II[III)V"⟩
abbrev cX5_settles : ByteArray := prog_7_method_25_code
def yX5_settles : MethodName := ⟨RX5, "settles", "()V"⟩
abbrev cX5_begins : ByteArray := prog_7_method_26_code
def yX5_begins : MethodName := ⟨RX5, "begins", "(II)V"⟩
abbrev cX5_asWritten : ByteArray := prog_7_method_27_code
def yX5_asWritten : MethodName := ⟨RX5, "asWritten", "(II)V"⟩
abbrev cX5_isVerb : ByteArray := prog_7_method_28_code
def yX5_isVerb : MethodName := ⟨RX5, "isVerb", "(I)Z"⟩
abbrev cX5_fits : ByteArray := prog_7_method_29_code
def yX5_fits : MethodName := ⟨RX5, "fits", "()Z"⟩
abbrev cX5_verbsIn : ByteArray := prog_7_method_30_code
def yX5_verbsIn : MethodName := ⟨RX5, "verbsIn", "()I"⟩
abbrev cX5_isNext : ByteArray := prog_7_method_31_code
def yX5_isNext : MethodName := ⟨RX5, "isNext", "()Z"⟩
abbrev cX5_weighs : ByteArray := prog_7_method_32_code
def yX5_weighs : MethodName := ⟨RX5, "weighs", "()I"⟩
abbrev cX5_verbs : ByteArray := prog_7_method_33_code
def yX5_verbs : MethodName := ⟨RX5, "verbs", "()I"⟩
abbrev cX5_all : ByteArray := prog_7_method_34_code
def yX5_all : MethodName := ⟨RX5, "all", "()I"⟩
abbrev cX5_manyReadings : ByteArray := prog_7_method_35_code
def yX5_manyReadings : MethodName := ⟨RX5, "manyReadings", "()I"⟩
abbrev cX5_isTelling : ByteArray := prog_7_method_36_code
def yX5_isTelling : MethodName := ⟨RX5, "isTelling", "()Z"⟩
abbrev cX5_root : ByteArray := prog_7_method_37_code
def yX5_root : MethodName := ⟨RX5, "root", "(II)I"⟩
abbrev cX5_reader : ByteArray := prog_7_method_38_code
def yX5_reader : MethodName := ⟨RX5, "reader", "(II)I"⟩
abbrev cX5_isReading : ByteArray := prog_7_method_39_code
def yX5_isReading : MethodName := ⟨RX5, "isReading", "(II)Z"⟩
abbrev cX5_reading : ByteArray := prog_7_method_40_code
def yX5_reading : MethodName := ⟨RX5, "reading", "(III)I"⟩
abbrev cX5_word : ByteArray := prog_7_method_41_code
def yX5_word : MethodName := ⟨RX5, "word", "(III)I"⟩
abbrev cX5_tells : ByteArray := prog_7_method_42_code
def yX5_tells : MethodName := ⟨RX5, "tells", "(II)I"⟩
abbrev cX5_remembers : ByteArray := prog_7_method_43_code
def yX5_remembers : MethodName := ⟨RX5, "remembers", "()V"⟩
abbrev cX5_deepIn : ByteArray := prog_7_method_44_code
def yX5_deepIn : MethodName := ⟨RX5, "deepIn", "(I)I"⟩
abbrev cX5_fall : ByteArray := prog_7_method_45_code
def yX5_fall : MethodName := ⟨RX5, "fall", "()I"⟩
abbrev cX5_isFallen : ByteArray := prog_7_method_46_code
def yX5_isFallen : MethodName := ⟨RX5, "isFallen", "()Z"⟩
abbrev cX5_verbsBy : ByteArray := prog_7_method_47_code
def yX5_verbsBy : MethodName := ⟨RX5, "verbsBy", "(I)I"⟩
abbrev cX5_ask : ByteArray := prog_7_method_48_code
def yX5_ask : MethodName := ⟨RX5, "ask", "(I)I"⟩
abbrev cX5_shut : ByteArray := prog_7_method_49_code
def yX5_shut : MethodName := ⟨RX5, "shut", "()I"⟩
abbrev cX5_carve : ByteArray := prog_7_method_50_code
def yX5_carve : MethodName := ⟨RX5, "carve", "(I)I"⟩
abbrev cX5_rub : ByteArray := prog_7_method_51_code
def yX5_rub : MethodName := ⟨RX5, "rub", "()I"⟩
abbrev cX5_pass : ByteArray := prog_7_method_52_code
def yX5_pass : MethodName := ⟨RX5, "pass", "(I)I"⟩
abbrev cX5_undo : ByteArray := prog_7_method_53_code
def yX5_undo : MethodName := ⟨RX5, "undo", "()I"⟩
abbrev cX5_lowest : ByteArray := prog_7_method_54_code
def yX5_lowest : MethodName := ⟨RX5, "lowest", "(III)I"⟩
abbrev cX5_belief : ByteArray := prog_7_method_55_code
def yX5_belief : MethodName := ⟨RX5, "belief", "(III)I"⟩
abbrev cX5_isReadable : ByteArray := prog_7_method_56_code
def yX5_isReadable : MethodName := ⟨RX5, "isReadable", "(II)Z"⟩
abbrev cX5_without : ByteArray := prog_7_method_57_code
def yX5_without : MethodName := ⟨RX5, "without", "(I)I"⟩
abbrev cX5_isRow : ByteArray := prog_7_method_58_code
def yX5_isRow : MethodName := ⟨RX5, "isRow", "(II)V"⟩
abbrev cX5_isReadingOf : ByteArray := prog_7_method_59_code
def yX5_isReadingOf : MethodName := ⟨RX5, "isReadingOf", "(III)Z"⟩
abbrev cX5_numberOf : ByteArray := prog_7_method_60_code
def yX5_numberOf : MethodName := ⟨RX5, "numberOf", "(II)I"⟩
abbrev cX5_shortest : ByteArray := prog_7_method_61_code
def yX5_shortest : MethodName := ⟨RX5, "shortest", "(II)I"⟩
abbrev cX5_until : ByteArray := prog_7_method_62_code
def yX5_until : MethodName := ⟨RX5, "until", "(I)I"⟩
abbrev cX5_enough : ByteArray := prog_7_method_63_code
def yX5_enough : MethodName := ⟨RX5, "enough", "(II)I"⟩
abbrev cX5_see : ByteArray := prog_7_method_64_code
def yX5_see : MethodName := ⟨RX5, "see", "(II)I"⟩
abbrev cX5_forget : ByteArray := prog_7_method_65_code
def yX5_forget : MethodName := ⟨RX5, "forget", "()I"⟩
abbrev cX5_isSo : ByteArray := prog_7_method_66_code
def yX5_isSo : MethodName := ⟨RX5, "isSo", "(II)Z"⟩
abbrev cX5_wrote : ByteArray := prog_7_method_67_code
def yX5_wrote : MethodName := ⟨RX5, "wrote", "(I)I"⟩
abbrev cX5_forgotten : ByteArray := prog_7_method_68_code
def yX5_forgotten : MethodName := ⟨RX5, "forgotten", "(III)I"⟩
abbrev cX5_walls : ByteArray := prog_7_method_69_code
def yX5_walls : MethodName := ⟨RX5, "walls", "(IIII)I"⟩
abbrev cX5_keep : ByteArray := prog_7_method_70_code
def yX5_keep : MethodName := ⟨RX5, "keep", "()I"⟩
abbrev cX5_back : ByteArray := prog_7_method_71_code
def yX5_back : MethodName := ⟨RX5, "back", "()I"⟩
abbrev cX5_count : ByteArray := prog_7_method_72_code
def yX5_count : MethodName := ⟨RX5, "count", "(I)I"⟩
def RJ6 : String := "java/lang/Integer"
def TJ6 : u_T := fun k => match k with
  | _ => ("", "", "", false)
def tyJ6 : Nat → FieldType := fun k => match k with
  | _ => .int
abbrev wsJ60 : List Cond := u_ws RJ6 TJ6 0
theorem nmJ6 : ∀ a, a < 0 → ∀ b, b < 0 → a ≠ b → (TJ6 a).2.1 ≠ (TJ6 b).2.1 := by decide +kernel
theorem tyJ6_ok : ∀ k, k < 0 → parseFieldDescriptor (TJ6 k).2.2.1 = some (tyJ6 k) := by decide +kernel
abbrev cJ6_bitCount_0f7a4 : ByteArray := prog_8_method_49_code
def yJ6_bitCount_0f7a4 : MethodName := ⟨RJ6, "bitCount", "(I)I"⟩
def RJ9 : String := "java/lang/Math"
def TJ9 : u_T := fun k => match k with
  | _ => ("", "", "", false)
def tyJ9 : Nat → FieldType := fun k => match k with
  | _ => .int
abbrev wsJ90 : List Cond := u_ws RJ9 TJ9 0
theorem nmJ9 : ∀ a, a < 0 → ∀ b, b < 0 → a ≠ b → (TJ9 a).2.1 ≠ (TJ9 b).2.1 := by decide +kernel
theorem tyJ9_ok : ∀ k, k < 0 → parseFieldDescriptor (TJ9 k).2.2.1 = some (tyJ9 k) := by decide +kernel
abbrev cJ9_max_7cf53 : ByteArray := prog_9_method_65_code
def yJ9_max_7cf53 : MethodName := ⟨RJ9, "max", "(II)I"⟩
def RJ0 : String := "java/lang/String"
def TJ0 : u_T := fun k => match k with
  | _ => ("", "", "", false)
def tyJ0 : Nat → FieldType := fun k => match k with
  | _ => .int
abbrev wsJ00 : List Cond := u_ws RJ0 TJ0 0
theorem nmJ0 : ∀ a, a < 0 → ∀ b, b < 0 → a ≠ b → (TJ0 a).2.1 ≠ (TJ0 b).2.1 := by decide +kernel
theorem tyJ0_ok : ∀ k, k < 0 → parseFieldDescriptor (TJ0 k).2.2.1 = some (tyJ0 k) := by decide +kernel
abbrev cJ0_length_8abf5 : ByteArray := prog_10_method_54_code
def yJ0_length_8abf5 : MethodName := ⟨RJ0, "length", "()I"⟩
abbrev cJ0_charAt_5068e : ByteArray := prog_10_method_56_code
def yJ0_charAt_5068e : MethodName := ⟨RJ0, "charAt", "(I)C"⟩
abbrev cJ0_coder_7d493 : ByteArray := prog_10_method_152_code
def yJ0_coder_7d493 : MethodName := ⟨RJ0, "coder", "()B"⟩
abbrev cJ0_isLatin1_aae02 : ByteArray := prog_10_method_154_code
def yJ0_isLatin1_aae02 : MethodName := ⟨RJ0, "isLatin1", "()Z"⟩
abbrev cJ0_checkIndex_df160 : ByteArray := prog_10_method_155_code
def yJ0_checkIndex_df160 : MethodName := ⟨RJ0, "checkIndex", "(II)V"⟩
def RJ1 : String := "java/lang/StringLatin1"
def TJ1 : u_T := fun k => match k with
  | _ => ("", "", "", false)
def tyJ1 : Nat → FieldType := fun k => match k with
  | _ => .int
abbrev wsJ10 : List Cond := u_ws RJ1 TJ1 0
theorem nmJ1 : ∀ a, a < 0 → ∀ b, b < 0 → a ≠ b → (TJ1 a).2.1 ≠ (TJ1 b).2.1 := by decide +kernel
theorem tyJ1_ok : ∀ k, k < 0 → parseFieldDescriptor (TJ1 k).2.2.1 = some (tyJ1 k) := by decide +kernel
abbrev cJ1_charAt_3b067 : ByteArray := prog_11_method_2_code
def yJ1_charAt_3b067 : MethodName := ⟨RJ1, "charAt", "([BI)C"⟩
def RJ2 : String := "java/lang/StringUTF16"
def TJ2 : u_T := fun k => match k with
  | _ => ("", "", "", false)
def tyJ2 : Nat → FieldType := fun k => match k with
  | _ => .int
abbrev wsJ20 : List Cond := u_ws RJ2 TJ2 0
theorem nmJ2 : ∀ a, a < 0 → ∀ b, b < 0 → a ≠ b → (TJ2 a).2.1 ≠ (TJ2 b).2.1 := by decide +kernel
theorem tyJ2_ok : ∀ k, k < 0 → parseFieldDescriptor (TJ2 k).2.2.1 = some (tyJ2 k) := by decide +kernel
abbrev cJ2_getChar_3b067 : ByteArray := prog_12_method_5_code
def yJ2_getChar_3b067 : MethodName := ⟨RJ2, "getChar", "([BI)C"⟩
abbrev cJ2_length_9d52b : ByteArray := prog_12_method_6_code
def yJ2_length_9d52b : MethodName := ⟨RJ2, "length", "([B)I"⟩
abbrev cJ2_charAt_3b067 : ByteArray := prog_12_method_83_code
def yJ2_charAt_3b067 : MethodName := ⟨RJ2, "charAt", "([BI)C"⟩
abbrev cJ2_checkIndex_2214a : ByteArray := prog_12_method_91_code
def yJ2_checkIndex_2214a : MethodName := ⟨RJ2, "checkIndex", "(I[B)V"⟩
def RJ10 : String := "java/lang/System"
def TJ10 : u_T := fun k => match k with
  | _ => ("", "", "", false)
def tyJ10 : Nat → FieldType := fun k => match k with
  | _ => .int
abbrev wsJ100 : List Cond := u_ws RJ10 TJ10 0
theorem nmJ10 : ∀ a, a < 0 → ∀ b, b < 0 → a ≠ b → (TJ10 a).2.1 ≠ (TJ10 b).2.1 := by decide +kernel
theorem tyJ10_ok : ∀ k, k < 0 → parseFieldDescriptor (TJ10 k).2.2.1 = some (tyJ10 k) := by decide +kernel
def RJ3 : String := "jdk/internal/util/Preconditions"
def TJ3 : u_T := fun k => match k with
  | _ => ("", "", "", false)
def tyJ3 : Nat → FieldType := fun k => match k with
  | _ => .int
abbrev wsJ30 : List Cond := u_ws RJ3 TJ3 0
theorem nmJ3 : ∀ a, a < 0 → ∀ b, b < 0 → a ≠ b → (TJ3 a).2.1 ≠ (TJ3 b).2.1 := by decide +kernel
theorem tyJ3_ok : ∀ k, k < 0 → parseFieldDescriptor (TJ3 k).2.2.1 = some (tyJ3 k) := by decide +kernel
abbrev cJ3_checkIndex_8e157 : ByteArray := prog_14_method_11_code
def yJ3_checkIndex_8e157 : MethodName := ⟨RJ3, "checkIndex", "(IILjava/util/function/BiFunction;)I"⟩
def RL : String := "WallReadingsLaw"
abbrev cL_law : ByteArray := code
def yL_law : MethodName := ⟨RL, "law", "([I)Z"⟩
abbrev vwCl : List vw_C := [(RX0, TX0, 12), (RX1, TX1, 2), (RX2, TX2, 3), (RX3, TX3, 15), (RX4, TX4, 11), (RX5, TX5, 40)]
end
section
/-- the good words of the tables: what every method's contract stands on -/
def av_T : List Cond := lw_tbl.filter goodWord
theorem av_t {w : Cond} (h : w ∈ lw_tbl) (g : goodWord w = true) : w ∈ av_T := List.mem_filter.mpr ⟨h, g⟩
theorem av_T_in {w : Cond} (h : w ∈ av_T) : w ∈ lw_tbl := (List.mem_filter.mp h).1
theorem av_T_good : GoodIn av_T av_T := fun w h => ⟨h, good_of_word (List.mem_filter.mp h).2⟩
theorem av_lw_good : GoodIn lw_tbl av_T := fun w h => ⟨av_T_in h, good_of_word (List.mem_filter.mp h).2⟩
theorem av_t1 {w : Cond} (h : w ∈ tables_1_1) (g : goodWord w = true) : w ∈ av_T := av_t (List.mem_append_right _ (List.mem_append_left _ h)) g
theorem av_t2 {w : Cond} (h : w ∈ tables_1_2) (g : goodWord w = true) : w ∈ av_T := av_t (List.mem_append_right _ (List.mem_append_right _ (List.mem_append_left _ h))) g
theorem av_t3 {w : Cond} (h : w ∈ tables_1_3) (g : goodWord w = true) : w ∈ av_T := av_t (List.mem_append_right _ (List.mem_append_right _ (List.mem_append_right _ (List.mem_append_left _ h)))) g
theorem av_t4 {w : Cond} (h : w ∈ tables_1_4) (g : goodWord w = true) : w ∈ av_T := av_t (List.mem_append_right _ (List.mem_append_right _ (List.mem_append_right _ (List.mem_append_right _ (List.mem_append_left _ h))))) g
theorem av_t5 {w : Cond} (h : w ∈ tables_1_5) (g : goodWord w = true) : w ∈ av_T := av_t (List.mem_append_right _ (List.mem_append_right _ (List.mem_append_right _ (List.mem_append_right _ (List.mem_append_right _ h))))) g
theorem av_tp {q : MethodName × Nat} (h : q ∈ lw_privs) : Cond.selects q.1.cls q.1 q.1 ∈ av_T := av_t (List.mem_append_left _ (List.mem_map.mpr ⟨q, h, rfl⟩)) rfl
theorem av_p1 {q : MethodName × Nat} (h : q ∈ lw_privs_1) : Cond.selects q.1.cls q.1 q.1 ∈ av_T := av_tp (List.mem_append_left _ h)
theorem av_p2 {q : MethodName × Nat} (h : q ∈ lw_privs_2) : Cond.selects q.1.cls q.1 q.1 ∈ av_T := av_tp (List.mem_append_right _ (List.mem_append_left _ h))
theorem av_p3 {q : MethodName × Nat} (h : q ∈ lw_privs_3) : Cond.selects q.1.cls q.1 q.1 ∈ av_T := av_tp (List.mem_append_right _ (List.mem_append_right _ (List.mem_append_left _ h)))
theorem av_p4 {q : MethodName × Nat} (h : q ∈ lw_privs_4) : Cond.selects q.1.cls q.1 q.1 ∈ av_T := av_tp (List.mem_append_right _ (List.mem_append_right _ (List.mem_append_right _ (List.mem_append_left _ h))))
theorem av_p5 {q : MethodName × Nat} (h : q ∈ lw_privs_5) : Cond.selects q.1.cls q.1 q.1 ∈ av_T := av_tp (List.mem_append_right _ (List.mem_append_right _ (List.mem_append_right _ (List.mem_append_right _ h))))
/-- a method: its name, bytes, locals, return type; how many frames and locals' words it may need below it -/
abbrev av_Y : Type := MethodName × ByteArray × Nat × Option FieldType × Nat × Nat
def av_mb (M : av_Y) (n : Nat) : Prop := M.1.cls ≠ "java/lang/invoke/MethodHandle" ∧ M.1.cls ≠ "java/lang/invoke/VarHandle" ∧ (parseMethodDescriptor M.1.desc).map (fun d => d.parameters.length) = some n ∧ Cond.initialized M.1.cls ∈ av_T ∧ Cond.code M.1 M.2.1 M.2.2.1 M.2.2.2.1 ∈ av_T
theorem iuX0 : ∀ w ∈ u_ws RX0 TX0 12, w ∈ av_T := fun w h => av_t ((goodIn_of (big := lw_tbl) (u_ws RX0 TX0 12) (by decide +kernel)) w h).1 (by revert w; exact List.all_eq_true.mp (by decide +kernel))
theorem iuX1 : ∀ w ∈ u_ws RX1 TX1 2, w ∈ av_T := fun w h => av_t ((goodIn_of (big := lw_tbl) (u_ws RX1 TX1 2) (by decide +kernel)) w h).1 (by revert w; exact List.all_eq_true.mp (by decide +kernel))
theorem iuX2 : ∀ w ∈ u_ws RX2 TX2 3, w ∈ av_T := fun w h => av_t ((goodIn_of (big := lw_tbl) (u_ws RX2 TX2 3) (by decide +kernel)) w h).1 (by revert w; exact List.all_eq_true.mp (by decide +kernel))
theorem iuX3 : ∀ w ∈ u_ws RX3 TX3 15, w ∈ av_T := fun w h => av_t ((goodIn_of (big := lw_tbl) (u_ws RX3 TX3 15) (by decide +kernel)) w h).1 (by revert w; exact List.all_eq_true.mp (by decide +kernel))
theorem iuX4 : ∀ w ∈ u_ws RX4 TX4 11, w ∈ av_T := fun w h => av_t ((goodIn_of (big := lw_tbl) (u_ws RX4 TX4 11) (by decide +kernel)) w h).1 (by revert w; exact List.all_eq_true.mp (by decide +kernel))
theorem iuX5 : ∀ w ∈ u_ws RX5 TX5 40, w ∈ av_T := fun w h => av_t ((goodIn_of (big := lw_tbl) (u_ws RX5 TX5 40) (by decide +kernel)) w h).1 (by revert w; exact List.all_eq_true.mp (by decide +kernel))
theorem wN_X0 : Cond.initialized RX0 ∈ av_T := av_t1 (List.mem_of_getElem? (i := 5) rfl) rfl
theorem wN_X1 : Cond.initialized RX1 ∈ av_T := av_t1 (List.mem_of_getElem? (i := 2) rfl) rfl
theorem wN_X2 : Cond.initialized RX2 ∈ av_T := av_t1 (List.mem_of_getElem? (i := 3) rfl) rfl
theorem wN_X3 : Cond.initialized RX3 ∈ av_T := av_t1 (List.mem_of_getElem? (i := 4) rfl) rfl
theorem wN_X4 : Cond.initialized RX4 ∈ av_T := av_t1 (List.mem_of_getElem? (i := 1) rfl) rfl
theorem wN_X5 : Cond.initialized RX5 ∈ av_T := av_t1 (List.mem_of_getElem? (i := 11) rfl) rfl
theorem wN_J6 : Cond.initialized RJ6 ∈ av_T := av_t1 (List.mem_of_getElem? (i := 13) rfl) rfl
theorem wN_J9 : Cond.initialized RJ9 ∈ av_T := av_t1 (List.mem_of_getElem? (i := 10) rfl) rfl
theorem wN_J10 : Cond.initialized RJ10 ∈ av_T := av_t1 (List.mem_of_getElem? (i := 12) rfl) rfl
theorem wN_J0 : Cond.initialized RJ0 ∈ av_T := av_t1 (List.mem_of_getElem? (i := 6) rfl) rfl
abbrev mX0_init : av_Y := (yX0_init, cX0_init, 2, none, 1, 20)
theorem mbX0_init : av_mb mX0_init 1 := ⟨by decide, by decide, by decide +kernel, wN_X0, av_t1 (List.mem_of_getElem? (i := 127) rfl) rfl⟩
theorem wI_X0_init : Cond.instanceMethod yX0_init ∈ av_T := av_t1 (List.mem_of_getElem? (i := 126) rfl) rfl
abbrev mX0_take : av_Y := (yX0_take, cX0_take, 5, none, 1, 24)
theorem mbX0_take : av_mb mX0_take 2 := ⟨by decide, by decide, by decide +kernel, wN_X0, av_t2 (List.mem_of_getElem? (i := 128) rfl) rfl⟩
theorem wI_X0_take : Cond.instanceMethod yX0_take ∈ av_T := av_t2 (List.mem_of_getElem? (i := 126) rfl) rfl
theorem wS_X0_take : Cond.selects RX0 yX0_take yX0_take ∈ av_T := av_t2 (List.mem_of_getElem? (i := 127) rfl) rfl
abbrev mX0_fitWords : av_Y := (yX0_fitWords, cX0_fitWords, 5, none, 0, 0)
theorem mbX0_fitWords : av_mb mX0_fitWords 1 := ⟨by decide, by decide, by decide +kernel, wN_X0, av_t2 (List.mem_of_getElem? (i := 133) rfl) rfl⟩
theorem wI_X0_fitWords : Cond.instanceMethod yX0_fitWords ∈ av_T := av_t2 (List.mem_of_getElem? (i := 132) rfl) rfl
theorem wS_X0_fitWords : Cond.selects RX0 yX0_fitWords yX0_fitWords ∈ av_T := av_p1 (q := (⟨"WallReadings$Grammar", "fitWords", "(I)V"⟩, 12)) (List.mem_of_getElem? (i := 13) rfl)
abbrev mX0_tally : av_Y := (yX0_tally, cX0_tally, 3, some .int, 1, 27)
theorem mbX0_tally : av_mb mX0_tally 1 := ⟨by decide, by decide, by decide +kernel, wN_X0, av_t2 (List.mem_of_getElem? (i := 138) rfl) rfl⟩
theorem wI_X0_tally : Cond.instanceMethod yX0_tally ∈ av_T := av_t2 (List.mem_of_getElem? (i := 136) rfl) rfl
theorem wS_X0_tally : Cond.selects RX0 yX0_tally yX0_tally ∈ av_T := av_t2 (List.mem_of_getElem? (i := 137) rfl) rfl
abbrev mX0_tallyFrom : av_Y := (yX0_tallyFrom, cX0_tallyFrom, 8, none, 0, 0)
theorem mbX0_tallyFrom : av_mb mX0_tallyFrom 1 := ⟨by decide, by decide, by decide +kernel, wN_X0, av_t2 (List.mem_of_getElem? (i := 146) rfl) rfl⟩
theorem wI_X0_tallyFrom : Cond.instanceMethod yX0_tallyFrom ∈ av_T := av_t2 (List.mem_of_getElem? (i := 145) rfl) rfl
theorem wS_X0_tallyFrom : Cond.selects RX0 yX0_tallyFrom yX0_tallyFrom ∈ av_T := av_p1 (q := (⟨"WallReadings$Grammar", "tallyFrom", "(I)V"⟩, 12)) (List.mem_of_getElem? (i := 15) rfl)
abbrev mX0_mayEndAt : av_Y := (yX0_mayEndAt, cX0_mayEndAt, 2, some .boolean, 0, 0)
theorem mbX0_mayEndAt : av_mb mX0_mayEndAt 1 := ⟨by decide, by decide, by decide +kernel, wN_X0, av_t2 (List.mem_of_getElem? (i := 142) rfl) rfl⟩
theorem wI_X0_mayEndAt : Cond.instanceMethod yX0_mayEndAt ∈ av_T := av_t2 (List.mem_of_getElem? (i := 141) rfl) rfl
theorem wS_X0_mayEndAt : Cond.selects RX0 yX0_mayEndAt yX0_mayEndAt ∈ av_T := av_p1 (q := (⟨"WallReadings$Grammar", "mayEndAt", "(I)Z"⟩, 12)) (List.mem_of_getElem? (i := 14) rfl)
abbrev mX0_openAt : av_Y := (yX0_openAt, cX0_openAt, 4, some .int, 0, 0)
theorem mbX0_openAt : av_mb mX0_openAt 1 := ⟨by decide, by decide, by decide +kernel, wN_X0, av_t2 (List.mem_of_getElem? (i := 162) rfl) rfl⟩
theorem wI_X0_openAt : Cond.instanceMethod yX0_openAt ∈ av_T := av_t2 (List.mem_of_getElem? (i := 161) rfl) rfl
theorem wS_X0_openAt : Cond.selects RX0 yX0_openAt yX0_openAt ∈ av_T := av_p2 (q := (⟨"WallReadings$Grammar", "openAt", "(I)I"⟩, 12)) (List.mem_of_getElem? (i := 1) rfl)
abbrev mX0_slotBehind : av_Y := (yX0_slotBehind, cX0_slotBehind, 4, some .int, 0, 0)
theorem mbX0_slotBehind : av_mb mX0_slotBehind 2 := ⟨by decide, by decide, by decide +kernel, wN_X0, av_t2 (List.mem_of_getElem? (i := 169) rfl) rfl⟩
theorem wI_X0_slotBehind : Cond.instanceMethod yX0_slotBehind ∈ av_T := av_t2 (List.mem_of_getElem? (i := 168) rfl) rfl
theorem wS_X0_slotBehind : Cond.selects RX0 yX0_slotBehind yX0_slotBehind ∈ av_T := av_p2 (q := (⟨"WallReadings$Grammar", "slotBehind", "(II)I"⟩, 12)) (List.mem_of_getElem? (i := 2) rfl)
abbrev mX0_pick : av_Y := (yX0_pick, cX0_pick, 8, none, 1, 23)
theorem mbX0_pick : av_mb mX0_pick 1 := ⟨by decide, by decide, by decide +kernel, wN_X0, av_t2 (List.mem_of_getElem? (i := 158) rfl) rfl⟩
theorem wI_X0_pick : Cond.instanceMethod yX0_pick ∈ av_T := av_t2 (List.mem_of_getElem? (i := 156) rfl) rfl
theorem wS_X0_pick : Cond.selects RX0 yX0_pick yX0_pick ∈ av_T := av_t2 (List.mem_of_getElem? (i := 157) rfl) rfl
abbrev mX0_addWord : av_Y := (yX0_addWord, cX0_addWord, 2, none, 0, 0)
theorem mbX0_addWord : av_mb mX0_addWord 1 := ⟨by decide, by decide, by decide +kernel, wN_X0, av_t2 (List.mem_of_getElem? (i := 173) rfl) rfl⟩
theorem wI_X0_addWord : Cond.instanceMethod yX0_addWord ∈ av_T := av_t2 (List.mem_of_getElem? (i := 172) rfl) rfl
theorem wS_X0_addWord : Cond.selects RX0 yX0_addWord yX0_addWord ∈ av_T := av_p2 (q := (⟨"WallReadings$Grammar", "addWord", "(I)V"⟩, 12)) (List.mem_of_getElem? (i := 3) rfl)
abbrev mX0_told : av_Y := (yX0_told, cX0_told, 1, some .int, 3, 69)
theorem mbX0_told : av_mb mX0_told 0 := ⟨by decide, by decide, by decide +kernel, wN_X0, av_t2 (List.mem_of_getElem? (i := 189) rfl) rfl⟩
theorem wI_X0_told : Cond.instanceMethod yX0_told ∈ av_T := av_t2 (List.mem_of_getElem? (i := 187) rfl) rfl
theorem wS_X0_told : Cond.selects RX0 yX0_told yX0_told ∈ av_T := av_t2 (List.mem_of_getElem? (i := 188) rfl) rfl
abbrev mX0_rank : av_Y := (yX0_rank, cX0_rank, 2, none, 2, 48)
theorem mbX0_rank : av_mb mX0_rank 0 := ⟨by decide, by decide, by decide +kernel, wN_X0, av_t2 (List.mem_of_getElem? (i := 193) rfl) rfl⟩
theorem wI_X0_rank : Cond.instanceMethod yX0_rank ∈ av_T := av_t2 (List.mem_of_getElem? (i := 192) rfl) rfl
theorem wS_X0_rank : Cond.selects RX0 yX0_rank yX0_rank ∈ av_T := av_p2 (q := (⟨"WallReadings$Grammar", "rank", "()V"⟩, 12)) (List.mem_of_getElem? (i := 5) rfl)
abbrev mX0_bestFrom : av_Y := (yX0_bestFrom, cX0_bestFrom, 6, some .int, 1, 23)
theorem mbX0_bestFrom : av_mb mX0_bestFrom 1 := ⟨by decide, by decide, by decide +kernel, wN_X0, av_t2 (List.mem_of_getElem? (i := 197) rfl) rfl⟩
theorem wI_X0_bestFrom : Cond.instanceMethod yX0_bestFrom ∈ av_T := av_t2 (List.mem_of_getElem? (i := 196) rfl) rfl
theorem wS_X0_bestFrom : Cond.selects RX0 yX0_bestFrom yX0_bestFrom ∈ av_T := av_p2 (q := (⟨"WallReadings$Grammar", "bestFrom", "(I)I"⟩, 12)) (List.mem_of_getElem? (i := 6) rfl)
abbrev mX0_gainOf : av_Y := (yX0_gainOf, cX0_gainOf, 2, some .int, 0, 0)
theorem mbX0_gainOf : av_mb mX0_gainOf 1 := ⟨by decide, by decide, by decide +kernel, wN_X0, av_t2 (List.mem_of_getElem? (i := 201) rfl) rfl⟩
theorem wI_X0_gainOf : Cond.instanceMethod yX0_gainOf ∈ av_T := av_t2 (List.mem_of_getElem? (i := 200) rfl) rfl
theorem wS_X0_gainOf : Cond.selects RX0 yX0_gainOf yX0_gainOf ∈ av_T := av_p2 (q := (⟨"WallReadings$Grammar", "gainOf", "(I)I"⟩, 12)) (List.mem_of_getElem? (i := 7) rfl)
abbrev mX0_firstOfBest : av_Y := (yX0_firstOfBest, cX0_firstOfBest, 7, some .int, 1, 23)
theorem mbX0_firstOfBest : av_mb mX0_firstOfBest 0 := ⟨by decide, by decide, by decide +kernel, wN_X0, av_t2 (List.mem_of_getElem? (i := 206) rfl) rfl⟩
theorem wI_X0_firstOfBest : Cond.instanceMethod yX0_firstOfBest ∈ av_T := av_t2 (List.mem_of_getElem? (i := 205) rfl) rfl
theorem wS_X0_firstOfBest : Cond.selects RX0 yX0_firstOfBest yX0_firstOfBest ∈ av_T := av_p2 (q := (⟨"WallReadings$Grammar", "firstOfBest", "()I"⟩, 12)) (List.mem_of_getElem? (i := 8) rfl)
abbrev mX1_init : av_Y := (yX1_init, cX1_init, 1, none, 1, 20)
theorem mbX1_init : av_mb mX1_init 0 := ⟨by decide, by decide, by decide +kernel, wN_X1, av_t1 (List.mem_of_getElem? (i := 26) rfl) rfl⟩
theorem wI_X1_init : Cond.instanceMethod yX1_init ∈ av_T := av_t1 (List.mem_of_getElem? (i := 25) rfl) rfl
abbrev mX1_put : av_Y := (yX1_put, cX1_put, 2, none, 1, 40)
theorem mbX1_put : av_mb mX1_put 1 := ⟨by decide, by decide, by decide +kernel, wN_X1, av_t2 (List.mem_of_getElem? (i := 214) rfl) rfl⟩
theorem wI_X1_put : Cond.instanceMethod yX1_put ∈ av_T := av_t2 (List.mem_of_getElem? (i := 212) rfl) rfl
theorem wS_X1_put : Cond.selects RX1 yX1_put yX1_put ∈ av_T := av_t2 (List.mem_of_getElem? (i := 213) rfl) rfl
abbrev mX1_takeInto : av_Y := (yX1_takeInto, cX1_takeInto, 2, none, 1, 40)
theorem mbX1_takeInto : av_mb mX1_takeInto 1 := ⟨by decide, by decide, by decide +kernel, wN_X1, av_t3 (List.mem_of_getElem? (i := 20) rfl) rfl⟩
theorem wI_X1_takeInto : Cond.instanceMethod yX1_takeInto ∈ av_T := av_t3 (List.mem_of_getElem? (i := 18) rfl) rfl
theorem wS_X1_takeInto : Cond.selects RX1 yX1_takeInto yX1_takeInto ∈ av_T := av_t3 (List.mem_of_getElem? (i := 19) rfl) rfl
abbrev mX2_init : av_Y := (yX2_init, cX2_init, 1, none, 1, 20)
theorem mbX2_init : av_mb mX2_init 0 := ⟨by decide, by decide, by decide +kernel, wN_X2, av_t1 (List.mem_of_getElem? (i := 41) rfl) rfl⟩
theorem wI_X2_init : Cond.instanceMethod yX2_init ∈ av_T := av_t1 (List.mem_of_getElem? (i := 40) rfl) rfl
abbrev mX2_add : av_Y := (yX2_add, cX2_add, 2, some .boolean, 0, 0)
theorem mbX2_add : av_mb mX2_add 1 := ⟨by decide, by decide, by decide +kernel, wN_X2, av_t1 (List.mem_of_getElem? (i := 222) rfl) rfl⟩
theorem wI_X2_add : Cond.instanceMethod yX2_add ∈ av_T := av_t1 (List.mem_of_getElem? (i := 220) rfl) rfl
theorem wS_X2_add : Cond.selects RX2 yX2_add yX2_add ∈ av_T := av_t1 (List.mem_of_getElem? (i := 221) rfl) rfl
abbrev mX2_clear : av_Y := (yX2_clear, cX2_clear, 1, none, 0, 0)
theorem mbX2_clear : av_mb mX2_clear 0 := ⟨by decide, by decide, by decide +kernel, wN_X2, av_t2 (List.mem_of_getElem? (i := 53) rfl) rfl⟩
theorem wI_X2_clear : Cond.instanceMethod yX2_clear ∈ av_T := av_t2 (List.mem_of_getElem? (i := 51) rfl) rfl
theorem wS_X2_clear : Cond.selects RX2 yX2_clear yX2_clear ∈ av_T := av_t2 (List.mem_of_getElem? (i := 52) rfl) rfl
abbrev mX2_firstFault : av_Y := (yX2_firstFault, cX2_firstFault, 4, some .int, 5, 113)
theorem mbX2_firstFault : av_mb mX2_firstFault 1 := ⟨by decide, by decide, by decide +kernel, wN_X2, av_t1 (List.mem_of_getElem? (i := 226) rfl) rfl⟩
theorem wI_X2_firstFault : Cond.instanceMethod yX2_firstFault ∈ av_T := av_t1 (List.mem_of_getElem? (i := 224) rfl) rfl
theorem wS_X2_firstFault : Cond.selects RX2 yX2_firstFault yX2_firstFault ∈ av_T := av_t1 (List.mem_of_getElem? (i := 225) rfl) rfl
abbrev mX2_readItem : av_Y := (yX2_readItem, cX2_readItem, 3, some .boolean, 4, 91)
theorem mbX2_readItem : av_mb mX2_readItem 1 := ⟨by decide, by decide, by decide +kernel, wN_X2, av_t1 (List.mem_of_getElem? (i := 238) rfl) rfl⟩
theorem wI_X2_readItem : Cond.instanceMethod yX2_readItem ∈ av_T := av_t1 (List.mem_of_getElem? (i := 237) rfl) rfl
theorem wS_X2_readItem : Cond.selects RX2 yX2_readItem yX2_readItem ∈ av_T := av_p1 (q := (⟨"WallReadings$Text", "readItem", "(LWallReadings$World;)Z"⟩, 3)) (List.mem_of_getElem? (i := 0) rfl)
abbrev mX2_readRoot : av_Y := (yX2_readRoot, cX2_readRoot, 5, some .boolean, 3, 67)
theorem mbX2_readRoot : av_mb mX2_readRoot 1 := ⟨by decide, by decide, by decide +kernel, wN_X2, av_t2 (List.mem_of_getElem? (i := 6) rfl) rfl⟩
theorem wI_X2_readRoot : Cond.instanceMethod yX2_readRoot ∈ av_T := av_t2 (List.mem_of_getElem? (i := 5) rfl) rfl
theorem wS_X2_readRoot : Cond.selects RX2 yX2_readRoot yX2_readRoot ∈ av_T := av_p1 (q := (⟨"WallReadings$Text", "readRoot", "(LWallReadings$World;)Z"⟩, 3)) (List.mem_of_getElem? (i := 2) rfl)
abbrev mX2_readReader : av_Y := (yX2_readReader, cX2_readReader, 5, some .boolean, 3, 67)
theorem mbX2_readReader : av_mb mX2_readReader 1 := ⟨by decide, by decide, by decide +kernel, wN_X2, av_t2 (List.mem_of_getElem? (i := 32) rfl) rfl⟩
theorem wI_X2_readReader : Cond.instanceMethod yX2_readReader ∈ av_T := av_t2 (List.mem_of_getElem? (i := 31) rfl) rfl
theorem wS_X2_readReader : Cond.selects RX2 yX2_readReader yX2_readReader ∈ av_T := av_p1 (q := (⟨"WallReadings$Text", "readReader", "(LWallReadings$World;)Z"⟩, 3)) (List.mem_of_getElem? (i := 6) rfl)
abbrev mX2_readWriting : av_Y := (yX2_readWriting, cX2_readWriting, 2, some .boolean, 3, 66)
theorem mbX2_readWriting : av_mb mX2_readWriting 1 := ⟨by decide, by decide, by decide +kernel, wN_X2, av_t2 (List.mem_of_getElem? (i := 40) rfl) rfl⟩
theorem wI_X2_readWriting : Cond.instanceMethod yX2_readWriting ∈ av_T := av_t2 (List.mem_of_getElem? (i := 39) rfl) rfl
theorem wS_X2_readWriting : Cond.selects RX2 yX2_readWriting yX2_readWriting ∈ av_T := av_p1 (q := (⟨"WallReadings$Text", "readWriting", "(LWallReadings$World;)Z"⟩, 3)) (List.mem_of_getElem? (i := 7) rfl)
abbrev mX2_readRiver : av_Y := (yX2_readRiver, cX2_readRiver, 5, some .boolean, 3, 67)
theorem mbX2_readRiver : av_mb mX2_readRiver 1 := ⟨by decide, by decide, by decide +kernel, wN_X2, av_t2 (List.mem_of_getElem? (i := 44) rfl) rfl⟩
theorem wI_X2_readRiver : Cond.instanceMethod yX2_readRiver ∈ av_T := av_t2 (List.mem_of_getElem? (i := 43) rfl) rfl
theorem wS_X2_readRiver : Cond.selects RX2 yX2_readRiver yX2_readRiver ∈ av_T := av_p1 (q := (⟨"WallReadings$Text", "readRiver", "(LWallReadings$World;)Z"⟩, 3)) (List.mem_of_getElem? (i := 8) rfl)
abbrev mX2_readGold : av_Y := (yX2_readGold, cX2_readGold, 2, some .boolean, 3, 67)
theorem mbX2_readGold : av_mb mX2_readGold 1 := ⟨by decide, by decide, by decide +kernel, wN_X2, av_t2 (List.mem_of_getElem? (i := 49) rfl) rfl⟩
theorem wI_X2_readGold : Cond.instanceMethod yX2_readGold ∈ av_T := av_t2 (List.mem_of_getElem? (i := 48) rfl) rfl
theorem wS_X2_readGold : Cond.selects RX2 yX2_readGold yX2_readGold ∈ av_T := av_p1 (q := (⟨"WallReadings$Text", "readGold", "(LWallReadings$World;)Z"⟩, 3)) (List.mem_of_getElem? (i := 9) rfl)
abbrev mX2_readRow : av_Y := (yX2_readRow, cX2_readRow, 5, some .int, 2, 42)
theorem mbX2_readRow : av_mb mX2_readRow 2 := ⟨by decide, by decide, by decide +kernel, wN_X2, av_t2 (List.mem_of_getElem? (i := 10) rfl) rfl⟩
theorem wI_X2_readRow : Cond.instanceMethod yX2_readRow ∈ av_T := av_t2 (List.mem_of_getElem? (i := 9) rfl) rfl
theorem wS_X2_readRow : Cond.selects RX2 yX2_readRow yX2_readRow ∈ av_T := av_p1 (q := (⟨"WallReadings$Text", "readRow", "(IC)I"⟩, 3)) (List.mem_of_getElem? (i := 3) rfl)
abbrev mX2_readNumber : av_Y := (yX2_readNumber, cX2_readNumber, 6, some .int, 2, 42)
theorem mbX2_readNumber : av_mb mX2_readNumber 3 := ⟨by decide, by decide, by decide +kernel, wN_X2, av_t2 (List.mem_of_getElem? (i := 18) rfl) rfl⟩
theorem wI_X2_readNumber : Cond.instanceMethod yX2_readNumber ∈ av_T := av_t2 (List.mem_of_getElem? (i := 17) rfl) rfl
theorem wS_X2_readNumber : Cond.selects RX2 yX2_readNumber yX2_readNumber ∈ av_T := av_p1 (q := (⟨"WallReadings$Text", "readNumber", "(IIC)I"⟩, 3)) (List.mem_of_getElem? (i := 5) rfl)
abbrev mX2_isNext : av_Y := (yX2_isNext, cX2_isNext, 3, some .boolean, 1, 20)
theorem mbX2_isNext : av_mb mX2_isNext 1 := ⟨by decide, by decide, by decide +kernel, wN_X2, av_t2 (List.mem_of_getElem? (i := 14) rfl) rfl⟩
theorem wI_X2_isNext : Cond.instanceMethod yX2_isNext ∈ av_T := av_t2 (List.mem_of_getElem? (i := 13) rfl) rfl
theorem wS_X2_isNext : Cond.selects RX2 yX2_isNext yX2_isNext ∈ av_T := av_p1 (q := (⟨"WallReadings$Text", "isNext", "(C)Z"⟩, 3)) (List.mem_of_getElem? (i := 4) rfl)
abbrev mX2_sign : av_Y := (yX2_sign, cX2_sign, 1, some .char, 0, 0)
theorem mbX2_sign : av_mb mX2_sign 0 := ⟨by decide, by decide, by decide +kernel, wN_X2, av_t2 (List.mem_of_getElem? (i := 2) rfl) rfl⟩
theorem wI_X2_sign : Cond.instanceMethod yX2_sign ∈ av_T := av_t2 (List.mem_of_getElem? (i := 1) rfl) rfl
theorem wS_X2_sign : Cond.selects RX2 yX2_sign yX2_sign ∈ av_T := av_p1 (q := (⟨"WallReadings$Text", "sign", "()C"⟩, 3)) (List.mem_of_getElem? (i := 1) rfl)
abbrev mX3_init : av_Y := (yX3_init, cX3_init, 1, none, 1, 20)
theorem mbX3_init : av_mb mX3_init 0 := ⟨by decide, by decide, by decide +kernel, wN_X3, av_t1 (List.mem_of_getElem? (i := 59) rfl) rfl⟩
theorem wI_X3_init : Cond.instanceMethod yX3_init ∈ av_T := av_t1 (List.mem_of_getElem? (i := 58) rfl) rfl
abbrev mX3_clear : av_Y := (yX3_clear, cX3_clear, 2, none, 1, 23)
theorem mbX3_clear : av_mb mX3_clear 0 := ⟨by decide, by decide, by decide +kernel, wN_X3, av_t1 (List.mem_of_getElem? (i := 230) rfl) rfl⟩
theorem wI_X3_clear : Cond.instanceMethod yX3_clear ∈ av_T := av_t1 (List.mem_of_getElem? (i := 228) rfl) rfl
theorem wS_X3_clear : Cond.selects RX3 yX3_clear yX3_clear ∈ av_T := av_t1 (List.mem_of_getElem? (i := 229) rfl) rfl
abbrev mX3_addRoot : av_Y := (yX3_addRoot, cX3_addRoot, 5, some .boolean, 1, 23)
theorem mbX3_addRoot : av_mb mX3_addRoot 3 := ⟨by decide, by decide, by decide +kernel, wN_X3, av_t2 (List.mem_of_getElem? (i := 25) rfl) rfl⟩
theorem wI_X3_addRoot : Cond.instanceMethod yX3_addRoot ∈ av_T := av_t2 (List.mem_of_getElem? (i := 23) rfl) rfl
theorem wS_X3_addRoot : Cond.selects RX3 yX3_addRoot yX3_addRoot ∈ av_T := av_t2 (List.mem_of_getElem? (i := 24) rfl) rfl
abbrev mX3_addReader : av_Y := (yX3_addReader, cX3_addReader, 4, some .boolean, 0, 0)
theorem mbX3_addReader : av_mb mX3_addReader 3 := ⟨by decide, by decide, by decide +kernel, wN_X3, av_t2 (List.mem_of_getElem? (i := 36) rfl) rfl⟩
theorem wI_X3_addReader : Cond.instanceMethod yX3_addReader ∈ av_T := av_t2 (List.mem_of_getElem? (i := 34) rfl) rfl
theorem wS_X3_addReader : Cond.selects RX3 yX3_addReader yX3_addReader ∈ av_T := av_t2 (List.mem_of_getElem? (i := 35) rfl) rfl
abbrev mX3_setRiver : av_Y := (yX3_setRiver, cX3_setRiver, 4, none, 0, 0)
theorem mbX3_setRiver : av_mb mX3_setRiver 3 := ⟨by decide, by decide, by decide +kernel, wN_X3, av_t1 (List.mem_of_getElem? (i := 234) rfl) rfl⟩
theorem wI_X3_setRiver : Cond.instanceMethod yX3_setRiver ∈ av_T := av_t1 (List.mem_of_getElem? (i := 232) rfl) rfl
theorem wS_X3_setRiver : Cond.selects RX3 yX3_setRiver yX3_setRiver ∈ av_T := av_t1 (List.mem_of_getElem? (i := 233) rfl) rfl
abbrev mX3_wordsSaying : av_Y := (yX3_wordsSaying, cX3_wordsSaying, 4, some .int, 0, 0)
theorem mbX3_wordsSaying : av_mb mX3_wordsSaying 1 := ⟨by decide, by decide, by decide +kernel, wN_X3, av_t3 (List.mem_of_getElem? (i := 31) rfl) rfl⟩
theorem wI_X3_wordsSaying : Cond.instanceMethod yX3_wordsSaying ∈ av_T := av_t3 (List.mem_of_getElem? (i := 29) rfl) rfl
theorem wS_X3_wordsSaying : Cond.selects RX3 yX3_wordsSaying yX3_wordsSaying ∈ av_T := av_t3 (List.mem_of_getElem? (i := 30) rfl) rfl
abbrev mX3_depthIn : av_Y := (yX3_depthIn, cX3_depthIn, 2, some .int, 1, 21)
theorem mbX3_depthIn : av_mb mX3_depthIn 1 := ⟨by decide, by decide, by decide +kernel, wN_X3, av_t3 (List.mem_of_getElem? (i := 11) rfl) rfl⟩
theorem wI_X3_depthIn : Cond.instanceMethod yX3_depthIn ∈ av_T := av_t3 (List.mem_of_getElem? (i := 9) rfl) rfl
theorem wS_X3_depthIn : Cond.selects RX3 yX3_depthIn yX3_depthIn ∈ av_T := av_t3 (List.mem_of_getElem? (i := 10) rfl) rfl
abbrev mX3_fall : av_Y := (yX3_fall, cX3_fall, 1, some .int, 0, 0)
theorem mbX3_fall : av_mb mX3_fall 0 := ⟨by decide, by decide, by decide +kernel, wN_X3, av_t2 (List.mem_of_getElem? (i := 234) rfl) rfl⟩
theorem wI_X3_fall : Cond.instanceMethod yX3_fall ∈ av_T := av_t2 (List.mem_of_getElem? (i := 232) rfl) rfl
theorem wS_X3_fall : Cond.selects RX3 yX3_fall yX3_fall ∈ av_T := av_t2 (List.mem_of_getElem? (i := 233) rfl) rfl
abbrev mX3_priceOf : av_Y := (yX3_priceOf, cX3_priceOf, 4, some .int, 1, 21)
theorem mbX3_priceOf : av_mb mX3_priceOf 1 := ⟨by decide, by decide, by decide +kernel, wN_X3, av_t3 (List.mem_of_getElem? (i := 69) rfl) rfl⟩
theorem wI_X3_priceOf : Cond.instanceMethod yX3_priceOf ∈ av_T := av_t3 (List.mem_of_getElem? (i := 67) rfl) rfl
theorem wS_X3_priceOf : Cond.selects RX3 yX3_priceOf yX3_priceOf ∈ av_T := av_t3 (List.mem_of_getElem? (i := 68) rfl) rfl
abbrev mX3_hoursOf : av_Y := (yX3_hoursOf, cX3_hoursOf, 4, some .int, 1, 21)
theorem mbX3_hoursOf : av_mb mX3_hoursOf 1 := ⟨by decide, by decide, by decide +kernel, wN_X3, av_t3 (List.mem_of_getElem? (i := 64) rfl) rfl⟩
theorem wI_X3_hoursOf : Cond.instanceMethod yX3_hoursOf ∈ av_T := av_t3 (List.mem_of_getElem? (i := 62) rfl) rfl
theorem wS_X3_hoursOf : Cond.selects RX3 yX3_hoursOf yX3_hoursOf ∈ av_T := av_t3 (List.mem_of_getElem? (i := 63) rfl) rfl
abbrev mX4_init : av_Y := (yX4_init, cX4_init, 2, none, 6, 136)
theorem mbX4_init : av_mb mX4_init 0 := ⟨by decide, by decide, by decide +kernel, wN_X4, av_t1 (List.mem_of_getElem? (i := 18) rfl) rfl⟩
theorem wI_X4_init : Cond.instanceMethod yX4_init ∈ av_T := av_t1 (List.mem_of_getElem? (i := 17) rfl) rfl
abbrev mX4_write : av_Y := (yX4_write, cX4_write, 2, some .int, 1, 21)
theorem mbX4_write : av_mb mX4_write 1 := ⟨by decide, by decide, by decide +kernel, wN_X4, av_t2 (List.mem_of_getElem? (i := 96) rfl) rfl⟩
theorem wI_X4_write : Cond.instanceMethod yX4_write ∈ av_T := av_t2 (List.mem_of_getElem? (i := 94) rfl) rfl
theorem wS_X4_write : Cond.selects RX4 yX4_write yX4_write ∈ av_T := av_t2 (List.mem_of_getElem? (i := 95) rfl) rfl
abbrev mX4_wipe : av_Y := (yX4_wipe, cX4_wipe, 2, some .int, 1, 20)
theorem mbX4_wipe : av_mb mX4_wipe 0 := ⟨by decide, by decide, by decide +kernel, wN_X4, av_t2 (List.mem_of_getElem? (i := 100) rfl) rfl⟩
theorem wI_X4_wipe : Cond.instanceMethod yX4_wipe ∈ av_T := av_t2 (List.mem_of_getElem? (i := 98) rfl) rfl
theorem wS_X4_wipe : Cond.selects RX4 yX4_wipe yX4_wipe ∈ av_T := av_t2 (List.mem_of_getElem? (i := 99) rfl) rfl
abbrev mX4_fault : av_Y := (yX4_fault, cX4_fault, 1, some .int, 6, 136)
theorem mbX4_fault : av_mb mX4_fault 0 := ⟨by decide, by decide, by decide +kernel, wN_X4, av_t2 (List.mem_of_getElem? (i := 104) rfl) rfl⟩
theorem wI_X4_fault : Cond.instanceMethod yX4_fault ∈ av_T := av_t2 (List.mem_of_getElem? (i := 102) rfl) rfl
theorem wS_X4_fault : Cond.selects RX4 yX4_fault yX4_fault ∈ av_T := av_t2 (List.mem_of_getElem? (i := 103) rfl) rfl
abbrev mX4_lay : av_Y := (yX4_lay, cX4_lay, 1, some .int, 6, 136)
theorem mbX4_lay : av_mb mX4_lay 0 := ⟨by decide, by decide, by decide +kernel, wN_X4, av_t2 (List.mem_of_getElem? (i := 108) rfl) rfl⟩
theorem wI_X4_lay : Cond.instanceMethod yX4_lay ∈ av_T := av_t2 (List.mem_of_getElem? (i := 106) rfl) rfl
theorem wS_X4_lay : Cond.selects RX4 yX4_lay yX4_lay ∈ av_T := av_t2 (List.mem_of_getElem? (i := 107) rfl) rfl
abbrev mX4_root : av_Y := (yX4_root, cX4_root, 3, some .int, 0, 0)
theorem mbX4_root : av_mb mX4_root 2 := ⟨by decide, by decide, by decide +kernel, wN_X4, av_t2 (List.mem_of_getElem? (i := 112) rfl) rfl⟩
theorem wI_X4_root : Cond.instanceMethod yX4_root ∈ av_T := av_t2 (List.mem_of_getElem? (i := 110) rfl) rfl
theorem wS_X4_root : Cond.selects RX4 yX4_root yX4_root ∈ av_T := av_t2 (List.mem_of_getElem? (i := 111) rfl) rfl
abbrev mX4_reader : av_Y := (yX4_reader, cX4_reader, 3, some .int, 3, 71)
theorem mbX4_reader : av_mb mX4_reader 2 := ⟨by decide, by decide, by decide +kernel, wN_X4, av_t2 (List.mem_of_getElem? (i := 116) rfl) rfl⟩
theorem wI_X4_reader : Cond.instanceMethod yX4_reader ∈ av_T := av_t2 (List.mem_of_getElem? (i := 114) rfl) rfl
theorem wS_X4_reader : Cond.selects RX4 yX4_reader yX4_reader ∈ av_T := av_t2 (List.mem_of_getElem? (i := 115) rfl) rfl
abbrev mX4_reading : av_Y := (yX4_reading, cX4_reading, 4, some .int, 4, 93)
theorem mbX4_reading : av_mb mX4_reading 3 := ⟨by decide, by decide, by decide +kernel, wN_X4, av_t2 (List.mem_of_getElem? (i := 150) rfl) rfl⟩
theorem wI_X4_reading : Cond.instanceMethod yX4_reading ∈ av_T := av_t2 (List.mem_of_getElem? (i := 148) rfl) rfl
theorem wS_X4_reading : Cond.selects RX4 yX4_reading yX4_reading ∈ av_T := av_t2 (List.mem_of_getElem? (i := 149) rfl) rfl
abbrev mX4_word : av_Y := (yX4_word, cX4_word, 4, some .int, 4, 93)
theorem mbX4_word : av_mb mX4_word 3 := ⟨by decide, by decide, by decide +kernel, wN_X4, av_t2 (List.mem_of_getElem? (i := 177) rfl) rfl⟩
theorem wI_X4_word : Cond.instanceMethod yX4_word ∈ av_T := av_t2 (List.mem_of_getElem? (i := 175) rfl) rfl
theorem wS_X4_word : Cond.selects RX4 yX4_word yX4_word ∈ av_T := av_t2 (List.mem_of_getElem? (i := 176) rfl) rfl
abbrev mX4_tells : av_Y := (yX4_tells, cX4_tells, 4, some .int, 5, 112)
theorem mbX4_tells : av_mb mX4_tells 2 := ⟨by decide, by decide, by decide +kernel, wN_X4, av_t2 (List.mem_of_getElem? (i := 181) rfl) rfl⟩
theorem wI_X4_tells : Cond.instanceMethod yX4_tells ∈ av_T := av_t2 (List.mem_of_getElem? (i := 179) rfl) rfl
theorem wS_X4_tells : Cond.selects RX4 yX4_tells yX4_tells ∈ av_T := av_t2 (List.mem_of_getElem? (i := 180) rfl) rfl
abbrev mX4_ask : av_Y := (yX4_ask, cX4_ask, 2, some .int, 6, 133)
theorem mbX4_ask : av_mb mX4_ask 1 := ⟨by decide, by decide, by decide +kernel, wN_X4, av_t2 (List.mem_of_getElem? (i := 210) rfl) rfl⟩
theorem wI_X4_ask : Cond.instanceMethod yX4_ask ∈ av_T := av_t2 (List.mem_of_getElem? (i := 208) rfl) rfl
theorem wS_X4_ask : Cond.selects RX4 yX4_ask yX4_ask ∈ av_T := av_t2 (List.mem_of_getElem? (i := 209) rfl) rfl
abbrev mX4_shut : av_Y := (yX4_shut, cX4_shut, 1, some .int, 2, 61)
theorem mbX4_shut : av_mb mX4_shut 0 := ⟨by decide, by decide, by decide +kernel, wN_X4, av_t2 (List.mem_of_getElem? (i := 225) rfl) rfl⟩
theorem wI_X4_shut : Cond.instanceMethod yX4_shut ∈ av_T := av_t2 (List.mem_of_getElem? (i := 223) rfl) rfl
theorem wS_X4_shut : Cond.selects RX4 yX4_shut yX4_shut ∈ av_T := av_t2 (List.mem_of_getElem? (i := 224) rfl) rfl
abbrev mX4_carve : av_Y := (yX4_carve, cX4_carve, 2, some .int, 2, 61)
theorem mbX4_carve : av_mb mX4_carve 1 := ⟨by decide, by decide, by decide +kernel, wN_X4, av_t2 (List.mem_of_getElem? (i := 238) rfl) rfl⟩
theorem wI_X4_carve : Cond.instanceMethod yX4_carve ∈ av_T := av_t2 (List.mem_of_getElem? (i := 236) rfl) rfl
theorem wS_X4_carve : Cond.selects RX4 yX4_carve yX4_carve ∈ av_T := av_t2 (List.mem_of_getElem? (i := 237) rfl) rfl
abbrev mX4_rub : av_Y := (yX4_rub, cX4_rub, 1, some .int, 2, 61)
theorem mbX4_rub : av_mb mX4_rub 0 := ⟨by decide, by decide, by decide +kernel, wN_X4, av_t3 (List.mem_of_getElem? (i := 3) rfl) rfl⟩
theorem wI_X4_rub : Cond.instanceMethod yX4_rub ∈ av_T := av_t3 (List.mem_of_getElem? (i := 1) rfl) rfl
theorem wS_X4_rub : Cond.selects RX4 yX4_rub yX4_rub ∈ av_T := av_t3 (List.mem_of_getElem? (i := 2) rfl) rfl
abbrev mX4_pass : av_Y := (yX4_pass, cX4_pass, 2, some .int, 2, 61)
theorem mbX4_pass : av_mb mX4_pass 1 := ⟨by decide, by decide, by decide +kernel, wN_X4, av_t3 (List.mem_of_getElem? (i := 7) rfl) rfl⟩
theorem wI_X4_pass : Cond.instanceMethod yX4_pass ∈ av_T := av_t3 (List.mem_of_getElem? (i := 5) rfl) rfl
theorem wS_X4_pass : Cond.selects RX4 yX4_pass yX4_pass ∈ av_T := av_t3 (List.mem_of_getElem? (i := 6) rfl) rfl
abbrev mX4_undo : av_Y := (yX4_undo, cX4_undo, 1, some .int, 2, 61)
theorem mbX4_undo : av_mb mX4_undo 0 := ⟨by decide, by decide, by decide +kernel, wN_X4, av_t3 (List.mem_of_getElem? (i := 16) rfl) rfl⟩
theorem wI_X4_undo : Cond.instanceMethod yX4_undo ∈ av_T := av_t3 (List.mem_of_getElem? (i := 14) rfl) rfl
theorem wS_X4_undo : Cond.selects RX4 yX4_undo yX4_undo ∈ av_T := av_t3 (List.mem_of_getElem? (i := 15) rfl) rfl
abbrev mX4_belief : av_Y := (yX4_belief, cX4_belief, 6, some .int, 3, 71)
theorem mbX4_belief : av_mb mX4_belief 3 := ⟨by decide, by decide, by decide +kernel, wN_X4, av_t3 (List.mem_of_getElem? (i := 24) rfl) rfl⟩
theorem wI_X4_belief : Cond.instanceMethod yX4_belief ∈ av_T := av_t3 (List.mem_of_getElem? (i := 22) rfl) rfl
theorem wS_X4_belief : Cond.selects RX4 yX4_belief yX4_belief ∈ av_T := av_t3 (List.mem_of_getElem? (i := 23) rfl) rfl
abbrev mX4_without : av_Y := (yX4_without, cX4_without, 4, some .int, 3, 71)
theorem mbX4_without : av_mb mX4_without 1 := ⟨by decide, by decide, by decide +kernel, wN_X4, av_t3 (List.mem_of_getElem? (i := 38) rfl) rfl⟩
theorem wI_X4_without : Cond.instanceMethod yX4_without ∈ av_T := av_t3 (List.mem_of_getElem? (i := 36) rfl) rfl
theorem wS_X4_without : Cond.selects RX4 yX4_without yX4_without ∈ av_T := av_t3 (List.mem_of_getElem? (i := 37) rfl) rfl
abbrev mX4_shortest : av_Y := (yX4_shortest, cX4_shortest, 4, some .int, 3, 71)
theorem mbX4_shortest : av_mb mX4_shortest 2 := ⟨by decide, by decide, by decide +kernel, wN_X4, av_t3 (List.mem_of_getElem? (i := 45) rfl) rfl⟩
theorem wI_X4_shortest : Cond.instanceMethod yX4_shortest ∈ av_T := av_t3 (List.mem_of_getElem? (i := 43) rfl) rfl
theorem wS_X4_shortest : Cond.selects RX4 yX4_shortest yX4_shortest ∈ av_T := av_t3 (List.mem_of_getElem? (i := 44) rfl) rfl
abbrev mX4_until : av_Y := (yX4_until, cX4_until, 3, some .int, 6, 133)
theorem mbX4_until : av_mb mX4_until 1 := ⟨by decide, by decide, by decide +kernel, wN_X4, av_t3 (List.mem_of_getElem? (i := 52) rfl) rfl⟩
theorem wI_X4_until : Cond.instanceMethod yX4_until ∈ av_T := av_t3 (List.mem_of_getElem? (i := 50) rfl) rfl
theorem wS_X4_until : Cond.selects RX4 yX4_until yX4_until ∈ av_T := av_t3 (List.mem_of_getElem? (i := 51) rfl) rfl
abbrev mX4_enough : av_Y := (yX4_enough, cX4_enough, 5, some .int, 6, 133)
theorem mbX4_enough : av_mb mX4_enough 2 := ⟨by decide, by decide, by decide +kernel, wN_X4, av_t3 (List.mem_of_getElem? (i := 56) rfl) rfl⟩
theorem wI_X4_enough : Cond.instanceMethod yX4_enough ∈ av_T := av_t3 (List.mem_of_getElem? (i := 54) rfl) rfl
theorem wS_X4_enough : Cond.selects RX4 yX4_enough yX4_enough ∈ av_T := av_t3 (List.mem_of_getElem? (i := 55) rfl) rfl
abbrev mX4_see : av_Y := (yX4_see, cX4_see, 3, some .int, 1, 21)
theorem mbX4_see : av_mb mX4_see 2 := ⟨by decide, by decide, by decide +kernel, wN_X4, av_t3 (List.mem_of_getElem? (i := 77) rfl) rfl⟩
theorem wI_X4_see : Cond.instanceMethod yX4_see ∈ av_T := av_t3 (List.mem_of_getElem? (i := 75) rfl) rfl
theorem wS_X4_see : Cond.selects RX4 yX4_see yX4_see ∈ av_T := av_t3 (List.mem_of_getElem? (i := 76) rfl) rfl
abbrev mX4_forget : av_Y := (yX4_forget, cX4_forget, 2, some .int, 0, 0)
theorem mbX4_forget : av_mb mX4_forget 0 := ⟨by decide, by decide, by decide +kernel, wN_X4, av_t3 (List.mem_of_getElem? (i := 81) rfl) rfl⟩
theorem wI_X4_forget : Cond.instanceMethod yX4_forget ∈ av_T := av_t3 (List.mem_of_getElem? (i := 79) rfl) rfl
theorem wS_X4_forget : Cond.selects RX4 yX4_forget yX4_forget ∈ av_T := av_t3 (List.mem_of_getElem? (i := 80) rfl) rfl
abbrev mX4_wrote : av_Y := (yX4_wrote, cX4_wrote, 4, some .int, 6, 134)
theorem mbX4_wrote : av_mb mX4_wrote 1 := ⟨by decide, by decide, by decide +kernel, wN_X4, av_t3 (List.mem_of_getElem? (i := 85) rfl) rfl⟩
theorem wI_X4_wrote : Cond.instanceMethod yX4_wrote ∈ av_T := av_t3 (List.mem_of_getElem? (i := 83) rfl) rfl
theorem wS_X4_wrote : Cond.selects RX4 yX4_wrote yX4_wrote ∈ av_T := av_t3 (List.mem_of_getElem? (i := 84) rfl) rfl
abbrev mX4_forgotten : av_Y := (yX4_forgotten, cX4_forgotten, 7, some .int, 2, 49)
theorem mbX4_forgotten : av_mb mX4_forgotten 3 := ⟨by decide, by decide, by decide +kernel, wN_X4, av_t3 (List.mem_of_getElem? (i := 93) rfl) rfl⟩
theorem wI_X4_forgotten : Cond.instanceMethod yX4_forgotten ∈ av_T := av_t3 (List.mem_of_getElem? (i := 91) rfl) rfl
theorem wS_X4_forgotten : Cond.selects RX4 yX4_forgotten yX4_forgotten ∈ av_T := av_t3 (List.mem_of_getElem? (i := 92) rfl) rfl
abbrev mX4_walls : av_Y := (yX4_walls, cX4_walls, 9, some .int, 3, 71)
theorem mbX4_walls : av_mb mX4_walls 4 := ⟨by decide, by decide, by decide +kernel, wN_X4, av_t3 (List.mem_of_getElem? (i := 114) rfl) rfl⟩
theorem wI_X4_walls : Cond.instanceMethod yX4_walls ∈ av_T := av_t3 (List.mem_of_getElem? (i := 112) rfl) rfl
theorem wS_X4_walls : Cond.selects RX4 yX4_walls yX4_walls ∈ av_T := av_t3 (List.mem_of_getElem? (i := 113) rfl) rfl
abbrev mX4_keep : av_Y := (yX4_keep, cX4_keep, 1, some .int, 2, 61)
theorem mbX4_keep : av_mb mX4_keep 0 := ⟨by decide, by decide, by decide +kernel, wN_X4, av_t3 (List.mem_of_getElem? (i := 124) rfl) rfl⟩
theorem wI_X4_keep : Cond.instanceMethod yX4_keep ∈ av_T := av_t3 (List.mem_of_getElem? (i := 122) rfl) rfl
theorem wS_X4_keep : Cond.selects RX4 yX4_keep yX4_keep ∈ av_T := av_t3 (List.mem_of_getElem? (i := 123) rfl) rfl
abbrev mX4_back : av_Y := (yX4_back, cX4_back, 1, some .int, 2, 61)
theorem mbX4_back : av_mb mX4_back 0 := ⟨by decide, by decide, by decide +kernel, wN_X4, av_t3 (List.mem_of_getElem? (i := 128) rfl) rfl⟩
theorem wI_X4_back : Cond.instanceMethod yX4_back ∈ av_T := av_t3 (List.mem_of_getElem? (i := 126) rfl) rfl
theorem wS_X4_back : Cond.selects RX4 yX4_back yX4_back ∈ av_T := av_t3 (List.mem_of_getElem? (i := 127) rfl) rfl
abbrev mX4_count : av_Y := (yX4_count, cX4_count, 2, some .int, 2, 42)
theorem mbX4_count : av_mb mX4_count 1 := ⟨by decide, by decide, by decide +kernel, wN_X4, av_t3 (List.mem_of_getElem? (i := 132) rfl) rfl⟩
theorem wI_X4_count : Cond.instanceMethod yX4_count ∈ av_T := av_t3 (List.mem_of_getElem? (i := 130) rfl) rfl
theorem wS_X4_count : Cond.selects RX4 yX4_count yX4_count ∈ av_T := av_t3 (List.mem_of_getElem? (i := 131) rfl) rfl
abbrev mX4_begin : av_Y := (yX4_begin, cX4_begin, 1, none, 0, 0)
theorem mbX4_begin : av_mb mX4_begin 0 := ⟨by decide, by decide, by decide +kernel, wN_X4, av_t2 (List.mem_of_getElem? (i := 57) rfl) rfl⟩
theorem wI_X4_begin : Cond.instanceMethod yX4_begin ∈ av_T := av_t2 (List.mem_of_getElem? (i := 56) rfl) rfl
theorem wS_X4_begin : Cond.selects RX4 yX4_begin yX4_begin ∈ av_T := av_p1 (q := (⟨"WallReadings", "begin", "()V"⟩, 11)) (List.mem_of_getElem? (i := 10) rfl)
abbrev mX4_hasFallen : av_Y := (yX4_hasFallen, cX4_hasFallen, 1, some .boolean, 1, 20)
theorem mbX4_hasFallen : av_mb mX4_hasFallen 0 := ⟨by decide, by decide, by decide +kernel, wN_X4, av_t2 (List.mem_of_getElem? (i := 230) rfl) rfl⟩
theorem wI_X4_hasFallen : Cond.instanceMethod yX4_hasFallen ∈ av_T := av_t2 (List.mem_of_getElem? (i := 229) rfl) rfl
theorem wS_X4_hasFallen : Cond.selects RX4 yX4_hasFallen yX4_hasFallen ∈ av_T := av_p2 (q := (⟨"WallReadings", "hasFallen", "()Z"⟩, 11)) (List.mem_of_getElem? (i := 10) rfl)
abbrev mX4_isReader : av_Y := (yX4_isReader, cX4_isReader, 2, some .boolean, 0, 0)
theorem mbX4_isReader : av_mb mX4_isReader 1 := ⟨by decide, by decide, by decide +kernel, wN_X4, av_t2 (List.mem_of_getElem? (i := 120) rfl) rfl⟩
theorem wI_X4_isReader : Cond.instanceMethod yX4_isReader ∈ av_T := av_t2 (List.mem_of_getElem? (i := 119) rfl) rfl
theorem wS_X4_isReader : Cond.selects RX4 yX4_isReader yX4_isReader ∈ av_T := av_p1 (q := (⟨"WallReadings", "isReader", "(I)Z"⟩, 11)) (List.mem_of_getElem? (i := 11) rfl)
abbrev mX4_isPart : av_Y := (yX4_isPart, cX4_isPart, 1, some .boolean, 0, 0)
theorem mbX4_isPart : av_mb mX4_isPart 1 := ⟨by decide, by decide, by decide +kernel, wN_X4, av_t3 (List.mem_of_getElem? (i := 27) rfl) rfl⟩
theorem wT_X4_isPart : Cond.static yX4_isPart ∈ av_T := av_t3 (List.mem_of_getElem? (i := 26) rfl) rfl
abbrev mX4_isReading : av_Y := (yX4_isReading, cX4_isReading, 3, some .boolean, 3, 71)
theorem mbX4_isReading : av_mb mX4_isReading 2 := ⟨by decide, by decide, by decide +kernel, wN_X4, av_t2 (List.mem_of_getElem? (i := 154) rfl) rfl⟩
theorem wI_X4_isReading : Cond.instanceMethod yX4_isReading ∈ av_T := av_t2 (List.mem_of_getElem? (i := 153) rfl) rfl
theorem wS_X4_isReading : Cond.selects RX4 yX4_isReading yX4_isReading ∈ av_T := av_p2 (q := (⟨"WallReadings", "isReading", "(II)Z"⟩, 11)) (List.mem_of_getElem? (i := 0) rfl)
abbrev mX4_readingsOf : av_Y := (yX4_readingsOf, cX4_readingsOf, 3, some .int, 2, 49)
theorem mbX4_readingsOf : av_mb mX4_readingsOf 2 := ⟨by decide, by decide, by decide +kernel, wN_X4, av_t2 (List.mem_of_getElem? (i := 124) rfl) rfl⟩
theorem wI_X4_readingsOf : Cond.instanceMethod yX4_readingsOf ∈ av_T := av_t2 (List.mem_of_getElem? (i := 123) rfl) rfl
theorem wS_X4_readingsOf : Cond.selects RX4 yX4_readingsOf yX4_readingsOf ∈ av_T := av_p1 (q := (⟨"WallReadings", "readingsOf", "(II)I"⟩, 11)) (List.mem_of_getElem? (i := 12) rfl)
abbrev mX4_toldBy : av_Y := (yX4_toldBy, cX4_toldBy, 4, some .int, 4, 89)
theorem mbX4_toldBy : av_mb mX4_toldBy 2 := ⟨by decide, by decide, by decide +kernel, wN_X4, av_t2 (List.mem_of_getElem? (i := 185) rfl) rfl⟩
theorem wI_X4_toldBy : Cond.instanceMethod yX4_toldBy ∈ av_T := av_t2 (List.mem_of_getElem? (i := 184) rfl) rfl
theorem wS_X4_toldBy : Cond.selects RX4 yX4_toldBy yX4_toldBy ∈ av_T := av_p2 (q := (⟨"WallReadings", "toldBy", "(II)I"⟩, 11)) (List.mem_of_getElem? (i := 4) rfl)
abbrev mX4_verbsToldBy : av_Y := (yX4_verbsToldBy, cX4_verbsToldBy, 2, some .int, 5, 112)
theorem mbX4_verbsToldBy : av_mb mX4_verbsToldBy 1 := ⟨by decide, by decide, by decide +kernel, wN_X4, av_t2 (List.mem_of_getElem? (i := 221) rfl) rfl⟩
theorem wI_X4_verbsToldBy : Cond.instanceMethod yX4_verbsToldBy ∈ av_T := av_t2 (List.mem_of_getElem? (i := 220) rfl) rfl
theorem wS_X4_verbsToldBy : Cond.selects RX4 yX4_verbsToldBy yX4_verbsToldBy ∈ av_T := av_p2 (q := (⟨"WallReadings", "verbsToldBy", "(I)I"⟩, 11)) (List.mem_of_getElem? (i := 9) rfl)
abbrev mX4_isEnough : av_Y := (yX4_isEnough, cX4_isEnough, 5, some .boolean, 2, 44)
theorem mbX4_isEnough : av_mb mX4_isEnough 2 := ⟨by decide, by decide, by decide +kernel, wN_X4, av_t3 (List.mem_of_getElem? (i := 60) rfl) rfl⟩
theorem wI_X4_isEnough : Cond.instanceMethod yX4_isEnough ∈ av_T := av_t3 (List.mem_of_getElem? (i := 59) rfl) rfl
theorem wS_X4_isEnough : Cond.selects RX4 yX4_isEnough yX4_isEnough ∈ av_T := av_p2 (q := (⟨"WallReadings", "isEnough", "(II)Z"⟩, 11)) (List.mem_of_getElem? (i := 11) rfl)
abbrev mX4_isCheaper : av_Y := (yX4_isCheaper, cX4_isCheaper, 4, some .boolean, 2, 44)
theorem mbX4_isCheaper : av_mb mX4_isCheaper 2 := ⟨by decide, by decide, by decide +kernel, wN_X4, av_t3 (List.mem_of_getElem? (i := 73) rfl) rfl⟩
theorem wI_X4_isCheaper : Cond.instanceMethod yX4_isCheaper ∈ av_T := av_t3 (List.mem_of_getElem? (i := 72) rfl) rfl
theorem wS_X4_isCheaper : Cond.selects RX4 yX4_isCheaper yX4_isCheaper ∈ av_T := av_p2 (q := (⟨"WallReadings", "isCheaper", "(II)Z"⟩, 11)) (List.mem_of_getElem? (i := 12) rfl)
abbrev mX4_isAsSeen : av_Y := (yX4_isAsSeen, cX4_isAsSeen, 3, some .boolean, 5, 112)
theorem mbX4_isAsSeen : av_mb mX4_isAsSeen 1 := ⟨by decide, by decide, by decide +kernel, wN_X4, av_t3 (List.mem_of_getElem? (i := 89) rfl) rfl⟩
theorem wI_X4_isAsSeen : Cond.instanceMethod yX4_isAsSeen ∈ av_T := av_t3 (List.mem_of_getElem? (i := 88) rfl) rfl
theorem wS_X4_isAsSeen : Cond.selects RX4 yX4_isAsSeen yX4_isAsSeen ∈ av_T := av_p2 (q := (⟨"WallReadings", "isAsSeen", "(I)Z"⟩, 11)) (List.mem_of_getElem? (i := 13) rfl)
abbrev mX4_lettersIn : av_Y := (yX4_lettersIn, cX4_lettersIn, 4, some .int, 0, 0)
theorem mbX4_lettersIn : av_mb mX4_lettersIn 1 := ⟨by decide, by decide, by decide +kernel, wN_X4, av_t2 (List.mem_of_getElem? (i := 28) rfl) rfl⟩
theorem wT_X4_lettersIn : Cond.static yX4_lettersIn ∈ av_T := av_t2 (List.mem_of_getElem? (i := 27) rfl) rfl
abbrev mX4_isShortRow : av_Y := (yX4_isShortRow, cX4_isShortRow, 3, some .boolean, 0, 0)
theorem mbX4_isShortRow : av_mb mX4_isShortRow 1 := ⟨by decide, by decide, by decide +kernel, wN_X4, av_t3 (List.mem_of_getElem? (i := 48) rfl) rfl⟩
theorem wT_X4_isShortRow : Cond.static yX4_isShortRow ∈ av_T := av_t3 (List.mem_of_getElem? (i := 47) rfl) rfl
abbrev mX4_rowOfWall : av_Y := (yX4_rowOfWall, cX4_rowOfWall, 9, some .int, 0, 0)
theorem mbX4_rowOfWall : av_mb mX4_rowOfWall 2 := ⟨by decide, by decide, by decide +kernel, wN_X4, av_t3 (List.mem_of_getElem? (i := 117) rfl) rfl⟩
theorem wT_X4_rowOfWall : Cond.static yX4_rowOfWall ∈ av_T := av_t3 (List.mem_of_getElem? (i := 116) rfl) rfl
abbrev mX4_holds : av_Y := (yX4_holds, cX4_holds, 2, some .boolean, 0, 0)
theorem mbX4_holds : av_mb mX4_holds 2 := ⟨by decide, by decide, by decide +kernel, wN_X4, av_t2 (List.mem_of_getElem? (i := 165) rfl) rfl⟩
theorem wT_X4_holds : Cond.static yX4_holds ∈ av_T := av_t2 (List.mem_of_getElem? (i := 164) rfl) rfl
abbrev mX4_wordsOfRoot : av_Y := (yX4_wordsOfRoot, cX4_wordsOfRoot, 1, some .int, 0, 0)
theorem mbX4_wordsOfRoot : av_mb mX4_wordsOfRoot 1 := ⟨by decide, by decide, by decide +kernel, wN_X4, av_t3 (List.mem_of_getElem? (i := 41) rfl) rfl⟩
theorem wT_X4_wordsOfRoot : Cond.static yX4_wordsOfRoot ∈ av_T := av_t3 (List.mem_of_getElem? (i := 40) rfl) rfl
abbrev mX4_wordsOfRoots : av_Y := (yX4_wordsOfRoots, cX4_wordsOfRoots, 4, some .int, 1, 21)
theorem mbX4_wordsOfRoots : av_mb mX4_wordsOfRoots 1 := ⟨by decide, by decide, by decide +kernel, wN_X4, av_t3 (List.mem_of_getElem? (i := 97) rfl) rfl⟩
theorem wI_X4_wordsOfRoots : Cond.instanceMethod yX4_wordsOfRoots ∈ av_T := av_t3 (List.mem_of_getElem? (i := 96) rfl) rfl
theorem wS_X4_wordsOfRoots : Cond.selects RX4 yX4_wordsOfRoots yX4_wordsOfRoots ∈ av_T := av_p2 (q := (⟨"WallReadings", "wordsOfRoots", "(I)I"⟩, 11)) (List.mem_of_getElem? (i := 14) rfl)
abbrev mX4_oddsOf : av_Y := (yX4_oddsOf, cX4_oddsOf, 4, some .long, 1, 24)
theorem mbX4_oddsOf : av_mb mX4_oddsOf 2 := ⟨by decide, by decide, by decide +kernel, wN_X4, av_t3 (List.mem_of_getElem? (i := 101) rfl) rfl⟩
theorem wI_X4_oddsOf : Cond.instanceMethod yX4_oddsOf ∈ av_T := av_t3 (List.mem_of_getElem? (i := 100) rfl) rfl
theorem wS_X4_oddsOf : Cond.selects RX4 yX4_oddsOf yX4_oddsOf ∈ av_T := av_p2 (q := (⟨"WallReadings", "oddsOf", "(II)J"⟩, 11)) (List.mem_of_getElem? (i := 15) rfl)
abbrev mX4_power : av_Y := (yX4_power, cX4_power, 5, some .long, 0, 0)
theorem mbX4_power : av_mb mX4_power 2 := ⟨by decide, by decide, by decide +kernel, wN_X4, av_t3 (List.mem_of_getElem? (i := 110) rfl) rfl⟩
theorem wT_X4_power : Cond.static yX4_power ∈ av_T := av_t3 (List.mem_of_getElem? (i := 109) rfl) rfl
abbrev mX4_inLowestTerms : av_Y := (yX4_inLowestTerms, cX4_inLowestTerms, 12, some .int, 0, 0)
theorem mbX4_inLowestTerms : av_mb mX4_inLowestTerms 3 := ⟨by decide, by decide, by decide +kernel, wN_X4, av_t3 (List.mem_of_getElem? (i := 34) rfl) rfl⟩
theorem wT_X4_inLowestTerms : Cond.static yX4_inLowestTerms ∈ av_T := av_t3 (List.mem_of_getElem? (i := 33) rfl) rfl
abbrev mX5_init : av_Y := (yX5_init, cX5_init, 1, none, 2, 46)
theorem mbX5_init : av_mb mX5_init 0 := ⟨by decide, by decide, by decide +kernel, wN_X5, av_t3 (List.mem_of_getElem? (i := 137) rfl) rfl⟩
theorem wI_X5_init : Cond.instanceMethod yX5_init ∈ av_T := av_t3 (List.mem_of_getElem? (i := 136) rfl) rfl
abbrev mX5_tellsRoot : av_Y := (yX5_tellsRoot, cX5_tellsRoot, 6, none, 0, 0)
theorem mbX5_tellsRoot : av_mb mX5_tellsRoot 4 := ⟨by decide, by decide, by decide +kernel, wN_X5, av_t3 (List.mem_of_getElem? (i := 150) rfl) rfl⟩
theorem wI_X5_tellsRoot : Cond.instanceMethod yX5_tellsRoot ∈ av_T := av_t3 (List.mem_of_getElem? (i := 149) rfl) rfl
theorem wS_X5_tellsRoot : Cond.selects RX5 yX5_tellsRoot yX5_tellsRoot ∈ av_T := av_p3 (q := (⟨"WallReadingsModel", "tellsRoot", "(IIII)V"⟩, 40)) (List.mem_of_getElem? (i := 2) rfl)
abbrev mX5_tellsReader : av_Y := (yX5_tellsReader, cX5_tellsReader, 4, none, 0, 0)
theorem mbX5_tellsReader : av_mb mX5_tellsReader 3 := ⟨by decide, by decide, by decide +kernel, wN_X5, av_t3 (List.mem_of_getElem? (i := 154) rfl) rfl⟩
theorem wI_X5_tellsReader : Cond.instanceMethod yX5_tellsReader ∈ av_T := av_t3 (List.mem_of_getElem? (i := 153) rfl) rfl
theorem wS_X5_tellsReader : Cond.selects RX5 yX5_tellsReader yX5_tellsReader ∈ av_T := av_p3 (q := (⟨"WallReadingsModel", "tellsReader", "(III)V"⟩, 40)) (List.mem_of_getElem? (i := 3) rfl)
abbrev mX5_tellsAll : av_Y := (yX5_tellsAll, cX5_tellsAll, 1, none, 1, 25)
theorem mbX5_tellsAll : av_mb mX5_tellsAll 0 := ⟨by decide, by decide, by decide +kernel, wN_X5, av_t3 (List.mem_of_getElem? (i := 146) rfl) rfl⟩
theorem wI_X5_tellsAll : Cond.instanceMethod yX5_tellsAll ∈ av_T := av_t3 (List.mem_of_getElem? (i := 145) rfl) rfl
theorem wS_X5_tellsAll : Cond.selects RX5 yX5_tellsAll yX5_tellsAll ∈ av_T := av_p3 (q := (⟨"WallReadingsModel", "tellsAll", "()V"⟩, 40)) (List.mem_of_getElem? (i := 1) rfl)
abbrev mX5_in : av_Y := (yX5_in, cX5_in, 3, some .boolean, 0, 0)
theorem mbX5_in : av_mb mX5_in 3 := ⟨by decide, by decide, by decide +kernel, wN_X5, av_t4 (List.mem_of_getElem? (i := 49) rfl) rfl⟩
theorem wT_X5_in : Cond.static yX5_in ∈ av_T := av_t4 (List.mem_of_getElem? (i := 48) rfl) rfl
abbrev mX5_has : av_Y := (yX5_has, cX5_has, 2, some .boolean, 0, 0)
theorem mbX5_has : av_mb mX5_has 2 := ⟨by decide, by decide, by decide +kernel, wN_X5, av_t4 (List.mem_of_getElem? (i := 144) rfl) rfl⟩
theorem wT_X5_has : Cond.static yX5_has ∈ av_T := av_t4 (List.mem_of_getElem? (i := 143) rfl) rfl
abbrev mX5_isReader : av_Y := (yX5_isReader, cX5_isReader, 2, some .boolean, 1, 22)
theorem mbX5_isReader : av_mb mX5_isReader 1 := ⟨by decide, by decide, by decide +kernel, wN_X5, av_t4 (List.mem_of_getElem? (i := 113) rfl) rfl⟩
theorem wI_X5_isReader : Cond.instanceMethod yX5_isReader ∈ av_T := av_t4 (List.mem_of_getElem? (i := 112) rfl) rfl
theorem wS_X5_isReader : Cond.selects RX5 yX5_isReader yX5_isReader ∈ av_T := av_p3 (q := (⟨"WallReadingsModel", "isReader", "(I)Z"⟩, 40)) (List.mem_of_getElem? (i := 14) rfl)
abbrev mX5_write : av_Y := (yX5_write, cX5_write, 2, some .int, 1, 22)
theorem mbX5_write : av_mb mX5_write 1 := ⟨by decide, by decide, by decide +kernel, wN_X5, av_t4 (List.mem_of_getElem? (i := 46) rfl) rfl⟩
theorem wI_X5_write : Cond.instanceMethod yX5_write ∈ av_T := av_t4 (List.mem_of_getElem? (i := 44) rfl) rfl
theorem wS_X5_write : Cond.selects RX5 yX5_write yX5_write ∈ av_T := av_t4 (List.mem_of_getElem? (i := 45) rfl) rfl
abbrev mX5_wipe : av_Y := (yX5_wipe, cX5_wipe, 2, some .int, 0, 0)
theorem mbX5_wipe : av_mb mX5_wipe 0 := ⟨by decide, by decide, by decide +kernel, wN_X5, av_t4 (List.mem_of_getElem? (i := 53) rfl) rfl⟩
theorem wI_X5_wipe : Cond.instanceMethod yX5_wipe ∈ av_T := av_t4 (List.mem_of_getElem? (i := 51) rfl) rfl
theorem wS_X5_wipe : Cond.selects RX5 yX5_wipe yX5_wipe ∈ av_T := av_t4 (List.mem_of_getElem? (i := 52) rfl) rfl
abbrev mX5_letterAt : av_Y := (yX5_letterAt, cX5_letterAt, 2, some .int, 0, 0)
theorem mbX5_letterAt : av_mb mX5_letterAt 1 := ⟨by decide, by decide, by decide +kernel, wN_X5, av_t4 (List.mem_of_getElem? (i := 65) rfl) rfl⟩
theorem wI_X5_letterAt : Cond.instanceMethod yX5_letterAt ∈ av_T := av_t4 (List.mem_of_getElem? (i := 64) rfl) rfl
theorem wS_X5_letterAt : Cond.selects RX5 yX5_letterAt yX5_letterAt ∈ av_T := av_p3 (q := (⟨"WallReadingsModel", "letterAt", "(I)I"⟩, 40)) (List.mem_of_getElem? (i := 6) rfl)
abbrev mX5_isFigure : av_Y := (yX5_isFigure, cX5_isFigure, 1, some .boolean, 1, 22)
theorem mbX5_isFigure : av_mb mX5_isFigure 1 := ⟨by decide, by decide, by decide +kernel, wN_X5, av_t4 (List.mem_of_getElem? (i := 84) rfl) rfl⟩
theorem wT_X5_isFigure : Cond.static yX5_isFigure ∈ av_T := av_t4 (List.mem_of_getElem? (i := 83) rfl) rfl
abbrev mX5_readNumbers : av_Y := (yX5_readNumbers, cX5_readNumbers, 3, some .boolean, 2, 42)
theorem mbX5_readNumbers : av_mb mX5_readNumbers 1 := ⟨by decide, by decide, by decide +kernel, wN_X5, av_t4 (List.mem_of_getElem? (i := 81) rfl) rfl⟩
theorem wI_X5_readNumbers : Cond.instanceMethod yX5_readNumbers ∈ av_T := av_t4 (List.mem_of_getElem? (i := 80) rfl) rfl
theorem wS_X5_readNumbers : Cond.selects RX5 yX5_readNumbers yX5_readNumbers ∈ av_T := av_p3 (q := (⟨"WallReadingsModel", "readNumbers", "(I)Z"⟩, 40)) (List.mem_of_getElem? (i := 10) rfl)
abbrev mX5_isTold : av_Y := (yX5_isTold, cX5_isTold, 4, some .boolean, 1, 22)
theorem mbX5_isTold : av_mb mX5_isTold 3 := ⟨by decide, by decide, by decide +kernel, wN_X5, av_t4 (List.mem_of_getElem? (i := 88) rfl) rfl⟩
theorem wI_X5_isTold : Cond.instanceMethod yX5_isTold ∈ av_T := av_t4 (List.mem_of_getElem? (i := 87) rfl) rfl
theorem wS_X5_isTold : Cond.selects RX5 yX5_isTold yX5_isTold ∈ av_T := av_p3 (q := (⟨"WallReadingsModel", "isTold", "(III)Z"⟩, 40)) (List.mem_of_getElem? (i := 11) rfl)
abbrev mX5_clearTold : av_Y := (yX5_clearTold, cX5_clearTold, 1, none, 0, 0)
theorem mbX5_clearTold : av_mb mX5_clearTold 0 := ⟨by decide, by decide, by decide +kernel, wN_X5, av_t3 (List.mem_of_getElem? (i := 142) rfl) rfl⟩
theorem wI_X5_clearTold : Cond.instanceMethod yX5_clearTold ∈ av_T := av_t3 (List.mem_of_getElem? (i := 141) rfl) rfl
theorem wS_X5_clearTold : Cond.selects RX5 yX5_clearTold yX5_clearTold ∈ av_T := av_p3 (q := (⟨"WallReadingsModel", "clearTold", "()V"⟩, 40)) (List.mem_of_getElem? (i := 0) rfl)
abbrev mX5_readLetters : av_Y := (yX5_readLetters, cX5_readLetters, 7, some .int, 1, 22)
theorem mbX5_readLetters : av_mb mX5_readLetters 4 := ⟨by decide, by decide, by decide +kernel, wN_X5, av_t4 (List.mem_of_getElem? (i := 73) rfl) rfl⟩
theorem wI_X5_readLetters : Cond.instanceMethod yX5_readLetters ∈ av_T := av_t4 (List.mem_of_getElem? (i := 72) rfl) rfl
theorem wS_X5_readLetters : Cond.selects RX5 yX5_readLetters yX5_readLetters ∈ av_T := av_p3 (q := (⟨"WallReadingsModel", "readLetters", "([IIII)I"⟩, 40)) (List.mem_of_getElem? (i := 8) rfl)
abbrev mX5_isNew : av_Y := (yX5_isNew, cX5_isNew, 6, some .boolean, 0, 0)
theorem mbX5_isNew : av_mb mX5_isNew 1 := ⟨by decide, by decide, by decide +kernel, wN_X5, av_t4 (List.mem_of_getElem? (i := 77) rfl) rfl⟩
theorem wI_X5_isNew : Cond.instanceMethod yX5_isNew ∈ av_T := av_t4 (List.mem_of_getElem? (i := 76) rfl) rfl
theorem wS_X5_isNew : Cond.selects RX5 yX5_isNew yX5_isNew ∈ av_T := av_p3 (q := (⟨"WallReadingsModel", "isNew", "(I)Z"⟩, 40)) (List.mem_of_getElem? (i := 9) rfl)
abbrev mX5_readRootOf : av_Y := (yX5_readRootOf, cX5_readRootOf, 2, some .boolean, 3, 64)
theorem mbX5_readRootOf : av_mb mX5_readRootOf 0 := ⟨by decide, by decide, by decide +kernel, wN_X5, av_t4 (List.mem_of_getElem? (i := 69) rfl) rfl⟩
theorem wI_X5_readRootOf : Cond.instanceMethod yX5_readRootOf ∈ av_T := av_t4 (List.mem_of_getElem? (i := 68) rfl) rfl
theorem wS_X5_readRootOf : Cond.selects RX5 yX5_readRootOf yX5_readRootOf ∈ av_T := av_p3 (q := (⟨"WallReadingsModel", "readRootOf", "()Z"⟩, 40)) (List.mem_of_getElem? (i := 7) rfl)
abbrev mX5_readReaderOf : av_Y := (yX5_readReaderOf, cX5_readReaderOf, 1, some .boolean, 3, 64)
theorem mbX5_readReaderOf : av_mb mX5_readReaderOf 0 := ⟨by decide, by decide, by decide +kernel, wN_X5, av_t4 (List.mem_of_getElem? (i := 92) rfl) rfl⟩
theorem wI_X5_readReaderOf : Cond.instanceMethod yX5_readReaderOf ∈ av_T := av_t4 (List.mem_of_getElem? (i := 91) rfl) rfl
theorem wS_X5_readReaderOf : Cond.selects RX5 yX5_readReaderOf yX5_readReaderOf ∈ av_T := av_p3 (q := (⟨"WallReadingsModel", "readReaderOf", "()Z"⟩, 40)) (List.mem_of_getElem? (i := 12) rfl)
abbrev mX5_readRiverOf : av_Y := (yX5_readRiverOf, cX5_readRiverOf, 2, some .boolean, 3, 64)
theorem mbX5_readRiverOf : av_mb mX5_readRiverOf 0 := ⟨by decide, by decide, by decide +kernel, wN_X5, av_t4 (List.mem_of_getElem? (i := 96) rfl) rfl⟩
theorem wI_X5_readRiverOf : Cond.instanceMethod yX5_readRiverOf ∈ av_T := av_t4 (List.mem_of_getElem? (i := 95) rfl) rfl
theorem wS_X5_readRiverOf : Cond.selects RX5 yX5_readRiverOf yX5_readRiverOf ∈ av_T := av_p3 (q := (⟨"WallReadingsModel", "readRiverOf", "()Z"⟩, 40)) (List.mem_of_getElem? (i := 13) rfl)
abbrev mX5_readItem : av_Y := (yX5_readItem, cX5_readItem, 3, some .boolean, 4, 85)
theorem mbX5_readItem : av_mb mX5_readItem 0 := ⟨by decide, by decide, by decide +kernel, wN_X5, av_t4 (List.mem_of_getElem? (i := 61) rfl) rfl⟩
theorem wI_X5_readItem : Cond.instanceMethod yX5_readItem ∈ av_T := av_t4 (List.mem_of_getElem? (i := 60) rfl) rfl
theorem wS_X5_readItem : Cond.selects RX5 yX5_readItem yX5_readItem ∈ av_T := av_p3 (q := (⟨"WallReadingsModel", "readItem", "()Z"⟩, 40)) (List.mem_of_getElem? (i := 5) rfl)
abbrev mX5_fault : av_Y := (yX5_fault, cX5_fault, 2, some .int, 5, 107)
theorem mbX5_fault : av_mb mX5_fault 0 := ⟨by decide, by decide, by decide +kernel, wN_X5, av_t4 (List.mem_of_getElem? (i := 57) rfl) rfl⟩
theorem wI_X5_fault : Cond.instanceMethod yX5_fault ∈ av_T := av_t4 (List.mem_of_getElem? (i := 55) rfl) rfl
theorem wS_X5_fault : Cond.selects RX5 yX5_fault yX5_fault ∈ av_T := av_t4 (List.mem_of_getElem? (i := 56) rfl) rfl
abbrev mX5_lay : av_Y := (yX5_lay, cX5_lay, 1, some .int, 6, 128)
theorem mbX5_lay : av_mb mX5_lay 0 := ⟨by decide, by decide, by decide +kernel, wN_X5, av_t4 (List.mem_of_getElem? (i := 100) rfl) rfl⟩
theorem wI_X5_lay : Cond.instanceMethod yX5_lay ∈ av_T := av_t4 (List.mem_of_getElem? (i := 98) rfl) rfl
theorem wS_X5_lay : Cond.selects RX5 yX5_lay yX5_lay ∈ av_T := av_t4 (List.mem_of_getElem? (i := 99) rfl) rfl
abbrev mX5_copies : av_Y := (yX5_copies, cX5_copies, 6, none, 0, 0)
theorem mbX5_copies : av_mb mX5_copies 5 := ⟨by decide, by decide, by decide +kernel, wN_X5, av_t3 (List.mem_of_getElem? (i := 161) rfl) rfl⟩
theorem wT_X5_copies : Cond.static yX5_copies ∈ av_T := av_t3 (List.mem_of_getElem? (i := 160) rfl) rfl
abbrev mX5_settles : av_Y := (yX5_settles, cX5_settles, 2, none, 1, 25)
theorem mbX5_settles : av_mb mX5_settles 0 := ⟨by decide, by decide, by decide +kernel, wN_X5, av_t3 (List.mem_of_getElem? (i := 158) rfl) rfl⟩
theorem wI_X5_settles : Cond.instanceMethod yX5_settles ∈ av_T := av_t3 (List.mem_of_getElem? (i := 157) rfl) rfl
theorem wS_X5_settles : Cond.selects RX5 yX5_settles yX5_settles ∈ av_T := av_p3 (q := (⟨"WallReadingsModel", "settles", "()V"⟩, 40)) (List.mem_of_getElem? (i := 4) rfl)
abbrev mX5_begins : av_Y := (yX5_begins, cX5_begins, 5, none, 0, 0)
theorem mbX5_begins : av_mb mX5_begins 2 := ⟨by decide, by decide, by decide +kernel, wN_X5, av_t4 (List.mem_of_getElem? (i := 125) rfl) rfl⟩
theorem wI_X5_begins : Cond.instanceMethod yX5_begins ∈ av_T := av_t4 (List.mem_of_getElem? (i := 124) rfl) rfl
theorem wS_X5_begins : Cond.selects RX5 yX5_begins yX5_begins ∈ av_T := av_p4 (q := (⟨"WallReadingsModel", "begins", "(II)V"⟩, 40)) (List.mem_of_getElem? (i := 1) rfl)
abbrev mX5_asWritten : av_Y := (yX5_asWritten, cX5_asWritten, 3, none, 1, 25)
theorem mbX5_asWritten : av_mb mX5_asWritten 2 := ⟨by decide, by decide, by decide +kernel, wN_X5, av_t4 (List.mem_of_getElem? (i := 121) rfl) rfl⟩
theorem wI_X5_asWritten : Cond.instanceMethod yX5_asWritten ∈ av_T := av_t4 (List.mem_of_getElem? (i := 120) rfl) rfl
theorem wS_X5_asWritten : Cond.selects RX5 yX5_asWritten yX5_asWritten ∈ av_T := av_p4 (q := (⟨"WallReadingsModel", "asWritten", "(II)V"⟩, 40)) (List.mem_of_getElem? (i := 0) rfl)
abbrev mX5_isVerb : av_Y := (yX5_isVerb, cX5_isVerb, 2, some .boolean, 0, 0)
theorem mbX5_isVerb : av_mb mX5_isVerb 1 := ⟨by decide, by decide, by decide +kernel, wN_X5, av_t4 (List.mem_of_getElem? (i := 141) rfl) rfl⟩
theorem wI_X5_isVerb : Cond.instanceMethod yX5_isVerb ∈ av_T := av_t4 (List.mem_of_getElem? (i := 140) rfl) rfl
theorem wS_X5_isVerb : Cond.selects RX5 yX5_isVerb yX5_isVerb ∈ av_T := av_p4 (q := (⟨"WallReadingsModel", "isVerb", "(I)Z"⟩, 40)) (List.mem_of_getElem? (i := 5) rfl)
abbrev mX5_fits : av_Y := (yX5_fits, cX5_fits, 5, some .boolean, 1, 21)
theorem mbX5_fits : av_mb mX5_fits 0 := ⟨by decide, by decide, by decide +kernel, wN_X5, av_t4 (List.mem_of_getElem? (i := 137) rfl) rfl⟩
theorem wI_X5_fits : Cond.instanceMethod yX5_fits ∈ av_T := av_t4 (List.mem_of_getElem? (i := 136) rfl) rfl
theorem wS_X5_fits : Cond.selects RX5 yX5_fits yX5_fits ∈ av_T := av_p4 (q := (⟨"WallReadingsModel", "fits", "()Z"⟩, 40)) (List.mem_of_getElem? (i := 4) rfl)
abbrev mX5_verbsIn : av_Y := (yX5_verbsIn, cX5_verbsIn, 3, some .int, 0, 0)
theorem mbX5_verbsIn : av_mb mX5_verbsIn 0 := ⟨by decide, by decide, by decide +kernel, wN_X5, av_t4 (List.mem_of_getElem? (i := 148) rfl) rfl⟩
theorem wI_X5_verbsIn : Cond.instanceMethod yX5_verbsIn ∈ av_T := av_t4 (List.mem_of_getElem? (i := 147) rfl) rfl
theorem wS_X5_verbsIn : Cond.selects RX5 yX5_verbsIn yX5_verbsIn ∈ av_T := av_p4 (q := (⟨"WallReadingsModel", "verbsIn", "()I"⟩, 40)) (List.mem_of_getElem? (i := 6) rfl)
abbrev mX5_isNext : av_Y := (yX5_isNext, cX5_isNext, 2, some .boolean, 2, 45)
theorem mbX5_isNext : av_mb mX5_isNext 0 := ⟨by decide, by decide, by decide +kernel, wN_X5, av_t4 (List.mem_of_getElem? (i := 133) rfl) rfl⟩
theorem wI_X5_isNext : Cond.instanceMethod yX5_isNext ∈ av_T := av_t4 (List.mem_of_getElem? (i := 132) rfl) rfl
theorem wS_X5_isNext : Cond.selects RX5 yX5_isNext yX5_isNext ∈ av_T := av_p4 (q := (⟨"WallReadingsModel", "isNext", "()Z"⟩, 40)) (List.mem_of_getElem? (i := 3) rfl)
abbrev mX5_weighs : av_Y := (yX5_weighs, cX5_weighs, 3, some .int, 1, 21)
theorem mbX5_weighs : av_mb mX5_weighs 0 := ⟨by decide, by decide, by decide +kernel, wN_X5, av_t4 (List.mem_of_getElem? (i := 160) rfl) rfl⟩
theorem wI_X5_weighs : Cond.instanceMethod yX5_weighs ∈ av_T := av_t4 (List.mem_of_getElem? (i := 159) rfl) rfl
theorem wS_X5_weighs : Cond.selects RX5 yX5_weighs yX5_weighs ∈ av_T := av_p4 (q := (⟨"WallReadingsModel", "weighs", "()I"⟩, 40)) (List.mem_of_getElem? (i := 8) rfl)
abbrev mX5_verbs : av_Y := (yX5_verbs, cX5_verbs, 3, some .int, 1, 21)
theorem mbX5_verbs : av_mb mX5_verbs 0 := ⟨by decide, by decide, by decide +kernel, wN_X5, av_t4 (List.mem_of_getElem? (i := 164) rfl) rfl⟩
theorem wI_X5_verbs : Cond.instanceMethod yX5_verbs ∈ av_T := av_t4 (List.mem_of_getElem? (i := 163) rfl) rfl
theorem wS_X5_verbs : Cond.selects RX5 yX5_verbs yX5_verbs ∈ av_T := av_p4 (q := (⟨"WallReadingsModel", "verbs", "()I"⟩, 40)) (List.mem_of_getElem? (i := 9) rfl)
abbrev mX5_all : av_Y := (yX5_all, cX5_all, 1, some .int, 0, 0)
theorem mbX5_all : av_mb mX5_all 0 := ⟨by decide, by decide, by decide +kernel, wN_X5, av_t4 (List.mem_of_getElem? (i := 117) rfl) rfl⟩
theorem wI_X5_all : Cond.instanceMethod yX5_all ∈ av_T := av_t4 (List.mem_of_getElem? (i := 116) rfl) rfl
theorem wS_X5_all : Cond.selects RX5 yX5_all yX5_all ∈ av_T := av_p3 (q := (⟨"WallReadingsModel", "all", "()I"⟩, 40)) (List.mem_of_getElem? (i := 15) rfl)
abbrev mX5_manyReadings : av_Y := (yX5_manyReadings, cX5_manyReadings, 2, some .int, 3, 66)
theorem mbX5_manyReadings : av_mb mX5_manyReadings 0 := ⟨by decide, by decide, by decide +kernel, wN_X5, av_t4 (List.mem_of_getElem? (i := 129) rfl) rfl⟩
theorem wI_X5_manyReadings : Cond.instanceMethod yX5_manyReadings ∈ av_T := av_t4 (List.mem_of_getElem? (i := 128) rfl) rfl
theorem wS_X5_manyReadings : Cond.selects RX5 yX5_manyReadings yX5_manyReadings ∈ av_T := av_p4 (q := (⟨"WallReadingsModel", "manyReadings", "()I"⟩, 40)) (List.mem_of_getElem? (i := 2) rfl)
abbrev mX5_isTelling : av_Y := (yX5_isTelling, cX5_isTelling, 4, some .boolean, 3, 66)
theorem mbX5_isTelling : av_mb mX5_isTelling 0 := ⟨by decide, by decide, by decide +kernel, wN_X5, av_t4 (List.mem_of_getElem? (i := 176) rfl) rfl⟩
theorem wI_X5_isTelling : Cond.instanceMethod yX5_isTelling ∈ av_T := av_t4 (List.mem_of_getElem? (i := 175) rfl) rfl
theorem wS_X5_isTelling : Cond.selects RX5 yX5_isTelling yX5_isTelling ∈ av_T := av_p4 (q := (⟨"WallReadingsModel", "isTelling", "()Z"⟩, 40)) (List.mem_of_getElem? (i := 10) rfl)
abbrev mX5_root : av_Y := (yX5_root, cX5_root, 5, some .int, 1, 22)
theorem mbX5_root : av_mb mX5_root 2 := ⟨by decide, by decide, by decide +kernel, wN_X5, av_t4 (List.mem_of_getElem? (i := 105) rfl) rfl⟩
theorem wI_X5_root : Cond.instanceMethod yX5_root ∈ av_T := av_t4 (List.mem_of_getElem? (i := 103) rfl) rfl
theorem wS_X5_root : Cond.selects RX5 yX5_root yX5_root ∈ av_T := av_t4 (List.mem_of_getElem? (i := 104) rfl) rfl
abbrev mX5_reader : av_Y := (yX5_reader, cX5_reader, 3, some .int, 4, 87)
theorem mbX5_reader : av_mb mX5_reader 2 := ⟨by decide, by decide, by decide +kernel, wN_X5, av_t4 (List.mem_of_getElem? (i := 109) rfl) rfl⟩
theorem wI_X5_reader : Cond.instanceMethod yX5_reader ∈ av_T := av_t4 (List.mem_of_getElem? (i := 107) rfl) rfl
theorem wS_X5_reader : Cond.selects RX5 yX5_reader yX5_reader ∈ av_T := av_t4 (List.mem_of_getElem? (i := 108) rfl) rfl
abbrev mX5_isReading : av_Y := (yX5_isReading, cX5_isReading, 4, some .boolean, 3, 66)
theorem mbX5_isReading : av_mb mX5_isReading 2 := ⟨by decide, by decide, by decide +kernel, wN_X5, av_t4 (List.mem_of_getElem? (i := 156) rfl) rfl⟩
theorem wI_X5_isReading : Cond.instanceMethod yX5_isReading ∈ av_T := av_t4 (List.mem_of_getElem? (i := 155) rfl) rfl
theorem wS_X5_isReading : Cond.selects RX5 yX5_isReading yX5_isReading ∈ av_T := av_p4 (q := (⟨"WallReadingsModel", "isReading", "(II)Z"⟩, 40)) (List.mem_of_getElem? (i := 7) rfl)
abbrev mX5_reading : av_Y := (yX5_reading, cX5_reading, 4, some .int, 4, 89)
theorem mbX5_reading : av_mb mX5_reading 3 := ⟨by decide, by decide, by decide +kernel, wN_X5, av_t4 (List.mem_of_getElem? (i := 152) rfl) rfl⟩
theorem wI_X5_reading : Cond.instanceMethod yX5_reading ∈ av_T := av_t4 (List.mem_of_getElem? (i := 150) rfl) rfl
theorem wS_X5_reading : Cond.selects RX5 yX5_reading yX5_reading ∈ av_T := av_t4 (List.mem_of_getElem? (i := 151) rfl) rfl
abbrev mX5_word : av_Y := (yX5_word, cX5_word, 4, some .int, 4, 89)
theorem mbX5_word : av_mb mX5_word 3 := ⟨by decide, by decide, by decide +kernel, wN_X5, av_t4 (List.mem_of_getElem? (i := 168) rfl) rfl⟩
theorem wI_X5_word : Cond.instanceMethod yX5_word ∈ av_T := av_t4 (List.mem_of_getElem? (i := 166) rfl) rfl
theorem wS_X5_word : Cond.selects RX5 yX5_word yX5_word ∈ av_T := av_t4 (List.mem_of_getElem? (i := 167) rfl) rfl
abbrev mX5_tells : av_Y := (yX5_tells, cX5_tells, 3, some .int, 4, 89)
theorem mbX5_tells : av_mb mX5_tells 2 := ⟨by decide, by decide, by decide +kernel, wN_X5, av_t4 (List.mem_of_getElem? (i := 172) rfl) rfl⟩
theorem wI_X5_tells : Cond.instanceMethod yX5_tells ∈ av_T := av_t4 (List.mem_of_getElem? (i := 170) rfl) rfl
theorem wS_X5_tells : Cond.selects RX5 yX5_tells yX5_tells ∈ av_T := av_t4 (List.mem_of_getElem? (i := 171) rfl) rfl
abbrev mX5_remembers : av_Y := (yX5_remembers, cX5_remembers, 2, none, 1, 25)
theorem mbX5_remembers : av_mb mX5_remembers 0 := ⟨by decide, by decide, by decide +kernel, wN_X5, av_t4 (List.mem_of_getElem? (i := 184) rfl) rfl⟩
theorem wI_X5_remembers : Cond.instanceMethod yX5_remembers ∈ av_T := av_t4 (List.mem_of_getElem? (i := 183) rfl) rfl
theorem wS_X5_remembers : Cond.selects RX5 yX5_remembers yX5_remembers ∈ av_T := av_p4 (q := (⟨"WallReadingsModel", "remembers", "()V"⟩, 40)) (List.mem_of_getElem? (i := 11) rfl)
abbrev mX5_deepIn : av_Y := (yX5_deepIn, cX5_deepIn, 3, some .int, 0, 0)
theorem mbX5_deepIn : av_mb mX5_deepIn 1 := ⟨by decide, by decide, by decide +kernel, wN_X5, av_t4 (List.mem_of_getElem? (i := 204) rfl) rfl⟩
theorem wI_X5_deepIn : Cond.instanceMethod yX5_deepIn ∈ av_T := av_t4 (List.mem_of_getElem? (i := 203) rfl) rfl
theorem wS_X5_deepIn : Cond.selects RX5 yX5_deepIn yX5_deepIn ∈ av_T := av_p4 (q := (⟨"WallReadingsModel", "deepIn", "(I)I"⟩, 40)) (List.mem_of_getElem? (i := 15) rfl)
abbrev mX5_fall : av_Y := (yX5_fall, cX5_fall, 2, some .int, 1, 22)
theorem mbX5_fall : av_mb mX5_fall 0 := ⟨by decide, by decide, by decide +kernel, wN_X5, av_t4 (List.mem_of_getElem? (i := 200) rfl) rfl⟩
theorem wI_X5_fall : Cond.instanceMethod yX5_fall ∈ av_T := av_t4 (List.mem_of_getElem? (i := 199) rfl) rfl
theorem wS_X5_fall : Cond.selects RX5 yX5_fall yX5_fall ∈ av_T := av_p4 (q := (⟨"WallReadingsModel", "fall", "()I"⟩, 40)) (List.mem_of_getElem? (i := 14) rfl)
abbrev mX5_isFallen : av_Y := (yX5_isFallen, cX5_isFallen, 1, some .boolean, 2, 43)
theorem mbX5_isFallen : av_mb mX5_isFallen 0 := ⟨by decide, by decide, by decide +kernel, wN_X5, av_t4 (List.mem_of_getElem? (i := 196) rfl) rfl⟩
theorem wI_X5_isFallen : Cond.instanceMethod yX5_isFallen ∈ av_T := av_t4 (List.mem_of_getElem? (i := 195) rfl) rfl
theorem wS_X5_isFallen : Cond.selects RX5 yX5_isFallen yX5_isFallen ∈ av_T := av_p4 (q := (⟨"WallReadingsModel", "isFallen", "()Z"⟩, 40)) (List.mem_of_getElem? (i := 13) rfl)
abbrev mX5_verbsBy : av_Y := (yX5_verbsBy, cX5_verbsBy, 2, some .int, 4, 89)
theorem mbX5_verbsBy : av_mb mX5_verbsBy 1 := ⟨by decide, by decide, by decide +kernel, wN_X5, av_t4 (List.mem_of_getElem? (i := 188) rfl) rfl⟩
theorem wI_X5_verbsBy : Cond.instanceMethod yX5_verbsBy ∈ av_T := av_t4 (List.mem_of_getElem? (i := 187) rfl) rfl
theorem wS_X5_verbsBy : Cond.selects RX5 yX5_verbsBy yX5_verbsBy ∈ av_T := av_p4 (q := (⟨"WallReadingsModel", "verbsBy", "(I)I"⟩, 40)) (List.mem_of_getElem? (i := 12) rfl)
abbrev mX5_ask : av_Y := (yX5_ask, cX5_ask, 2, some .int, 5, 110)
theorem mbX5_ask : av_mb mX5_ask 1 := ⟨by decide, by decide, by decide +kernel, wN_X5, av_t4 (List.mem_of_getElem? (i := 180) rfl) rfl⟩
theorem wI_X5_ask : Cond.instanceMethod yX5_ask ∈ av_T := av_t4 (List.mem_of_getElem? (i := 178) rfl) rfl
theorem wS_X5_ask : Cond.selects RX5 yX5_ask yX5_ask ∈ av_T := av_t4 (List.mem_of_getElem? (i := 179) rfl) rfl
abbrev mX5_shut : av_Y := (yX5_shut, cX5_shut, 1, some .int, 3, 63)
theorem mbX5_shut : av_mb mX5_shut 0 := ⟨by decide, by decide, by decide +kernel, wN_X5, av_t4 (List.mem_of_getElem? (i := 192) rfl) rfl⟩
theorem wI_X5_shut : Cond.instanceMethod yX5_shut ∈ av_T := av_t4 (List.mem_of_getElem? (i := 190) rfl) rfl
theorem wS_X5_shut : Cond.selects RX5 yX5_shut yX5_shut ∈ av_T := av_t4 (List.mem_of_getElem? (i := 191) rfl) rfl
abbrev mX5_carve : av_Y := (yX5_carve, cX5_carve, 2, some .int, 2, 46)
theorem mbX5_carve : av_mb mX5_carve 1 := ⟨by decide, by decide, by decide +kernel, wN_X5, av_t4 (List.mem_of_getElem? (i := 208) rfl) rfl⟩
theorem wI_X5_carve : Cond.instanceMethod yX5_carve ∈ av_T := av_t4 (List.mem_of_getElem? (i := 206) rfl) rfl
theorem wS_X5_carve : Cond.selects RX5 yX5_carve yX5_carve ∈ av_T := av_t4 (List.mem_of_getElem? (i := 207) rfl) rfl
abbrev mX5_rub : av_Y := (yX5_rub, cX5_rub, 1, some .int, 2, 46)
theorem mbX5_rub : av_mb mX5_rub 0 := ⟨by decide, by decide, by decide +kernel, wN_X5, av_t4 (List.mem_of_getElem? (i := 212) rfl) rfl⟩
theorem wI_X5_rub : Cond.instanceMethod yX5_rub ∈ av_T := av_t4 (List.mem_of_getElem? (i := 210) rfl) rfl
theorem wS_X5_rub : Cond.selects RX5 yX5_rub yX5_rub ∈ av_T := av_t4 (List.mem_of_getElem? (i := 211) rfl) rfl
abbrev mX5_pass : av_Y := (yX5_pass, cX5_pass, 2, some .int, 2, 46)
theorem mbX5_pass : av_mb mX5_pass 1 := ⟨by decide, by decide, by decide +kernel, wN_X5, av_t4 (List.mem_of_getElem? (i := 216) rfl) rfl⟩
theorem wI_X5_pass : Cond.instanceMethod yX5_pass ∈ av_T := av_t4 (List.mem_of_getElem? (i := 214) rfl) rfl
theorem wS_X5_pass : Cond.selects RX5 yX5_pass yX5_pass ∈ av_T := av_t4 (List.mem_of_getElem? (i := 215) rfl) rfl
abbrev mX5_undo : av_Y := (yX5_undo, cX5_undo, 1, some .int, 1, 25)
theorem mbX5_undo : av_mb mX5_undo 0 := ⟨by decide, by decide, by decide +kernel, wN_X5, av_t4 (List.mem_of_getElem? (i := 220) rfl) rfl⟩
theorem wI_X5_undo : Cond.instanceMethod yX5_undo ∈ av_T := av_t4 (List.mem_of_getElem? (i := 218) rfl) rfl
theorem wS_X5_undo : Cond.selects RX5 yX5_undo yX5_undo ∈ av_T := av_t4 (List.mem_of_getElem? (i := 219) rfl) rfl
abbrev mX5_lowest : av_Y := (yX5_lowest, cX5_lowest, 6, some .int, 0, 0)
theorem mbX5_lowest : av_mb mX5_lowest 3 := ⟨by decide, by decide, by decide +kernel, wN_X5, av_t4 (List.mem_of_getElem? (i := 227) rfl) rfl⟩
theorem wT_X5_lowest : Cond.static yX5_lowest ∈ av_T := av_t4 (List.mem_of_getElem? (i := 226) rfl) rfl
abbrev mX5_belief : av_Y := (yX5_belief, cX5_belief, 6, some .int, 3, 66)
theorem mbX5_belief : av_mb mX5_belief 3 := ⟨by decide, by decide, by decide +kernel, wN_X5, av_t4 (List.mem_of_getElem? (i := 224) rfl) rfl⟩
theorem wI_X5_belief : Cond.instanceMethod yX5_belief ∈ av_T := av_t4 (List.mem_of_getElem? (i := 222) rfl) rfl
theorem wS_X5_belief : Cond.selects RX5 yX5_belief yX5_belief ∈ av_T := av_t4 (List.mem_of_getElem? (i := 223) rfl) rfl
abbrev mX5_isReadable : av_Y := (yX5_isReadable, cX5_isReadable, 3, some .boolean, 3, 66)
theorem mbX5_isReadable : av_mb mX5_isReadable 2 := ⟨by decide, by decide, by decide +kernel, wN_X5, av_t4 (List.mem_of_getElem? (i := 235) rfl) rfl⟩
theorem wI_X5_isReadable : Cond.instanceMethod yX5_isReadable ∈ av_T := av_t4 (List.mem_of_getElem? (i := 234) rfl) rfl
theorem wS_X5_isReadable : Cond.selects RX5 yX5_isReadable yX5_isReadable ∈ av_T := av_p5 (q := (⟨"WallReadingsModel", "isReadable", "(II)Z"⟩, 40)) (List.mem_of_getElem? (i := 0) rfl)
abbrev mX5_without : av_Y := (yX5_without, cX5_without, 4, some .int, 4, 88)
theorem mbX5_without : av_mb mX5_without 1 := ⟨by decide, by decide, by decide +kernel, wN_X5, av_t4 (List.mem_of_getElem? (i := 231) rfl) rfl⟩
theorem wI_X5_without : Cond.instanceMethod yX5_without ∈ av_T := av_t4 (List.mem_of_getElem? (i := 229) rfl) rfl
theorem wS_X5_without : Cond.selects RX5 yX5_without yX5_without ∈ av_T := av_t4 (List.mem_of_getElem? (i := 230) rfl) rfl
abbrev mX5_isRow : av_Y := (yX5_isRow, cX5_isRow, 5, none, 0, 0)
theorem mbX5_isRow : av_mb mX5_isRow 2 := ⟨by decide, by decide, by decide +kernel, wN_X5, av_t5 (List.mem_of_getElem? (i := 7) rfl) rfl⟩
theorem wI_X5_isRow : Cond.instanceMethod yX5_isRow ∈ av_T := av_t5 (List.mem_of_getElem? (i := 6) rfl) rfl
theorem wS_X5_isRow : Cond.selects RX5 yX5_isRow yX5_isRow ∈ av_T := av_p5 (q := (⟨"WallReadingsModel", "isRow", "(II)V"⟩, 40)) (List.mem_of_getElem? (i := 2) rfl)
abbrev mX5_isReadingOf : av_Y := (yX5_isReadingOf, cX5_isReadingOf, 4, some .boolean, 3, 66)
theorem mbX5_isReadingOf : av_mb mX5_isReadingOf 3 := ⟨by decide, by decide, by decide +kernel, wN_X5, av_t5 (List.mem_of_getElem? (i := 3) rfl) rfl⟩
theorem wI_X5_isReadingOf : Cond.instanceMethod yX5_isReadingOf ∈ av_T := av_t5 (List.mem_of_getElem? (i := 2) rfl) rfl
theorem wS_X5_isReadingOf : Cond.selects RX5 yX5_isReadingOf yX5_isReadingOf ∈ av_T := av_p5 (q := (⟨"WallReadingsModel", "isReadingOf", "(III)Z"⟩, 40)) (List.mem_of_getElem? (i := 1) rfl)
abbrev mX5_numberOf : av_Y := (yX5_numberOf, cX5_numberOf, 5, some .int, 1, 24)
theorem mbX5_numberOf : av_mb mX5_numberOf 2 := ⟨by decide, by decide, by decide +kernel, wN_X5, av_t5 (List.mem_of_getElem? (i := 11) rfl) rfl⟩
theorem wI_X5_numberOf : Cond.instanceMethod yX5_numberOf ∈ av_T := av_t5 (List.mem_of_getElem? (i := 10) rfl) rfl
theorem wS_X5_numberOf : Cond.selects RX5 yX5_numberOf yX5_numberOf ∈ av_T := av_p5 (q := (⟨"WallReadingsModel", "numberOf", "(II)I"⟩, 40)) (List.mem_of_getElem? (i := 3) rfl)
abbrev mX5_shortest : av_Y := (yX5_shortest, cX5_shortest, 6, some .int, 4, 89)
theorem mbX5_shortest : av_mb mX5_shortest 2 := ⟨by decide, by decide, by decide +kernel, wN_X5, av_t4 (List.mem_of_getElem? (i := 239) rfl) rfl⟩
theorem wI_X5_shortest : Cond.instanceMethod yX5_shortest ∈ av_T := av_t4 (List.mem_of_getElem? (i := 237) rfl) rfl
theorem wS_X5_shortest : Cond.selects RX5 yX5_shortest yX5_shortest ∈ av_T := av_t4 (List.mem_of_getElem? (i := 238) rfl) rfl
abbrev mX5_until : av_Y := (yX5_until, cX5_until, 3, some .int, 5, 110)
theorem mbX5_until : av_mb mX5_until 1 := ⟨by decide, by decide, by decide +kernel, wN_X5, av_t5 (List.mem_of_getElem? (i := 15) rfl) rfl⟩
theorem wI_X5_until : Cond.instanceMethod yX5_until ∈ av_T := av_t5 (List.mem_of_getElem? (i := 13) rfl) rfl
theorem wS_X5_until : Cond.selects RX5 yX5_until yX5_until ∈ av_T := av_t5 (List.mem_of_getElem? (i := 14) rfl) rfl
abbrev mX5_enough : av_Y := (yX5_enough, cX5_enough, 11, some .int, 5, 110)
theorem mbX5_enough : av_mb mX5_enough 2 := ⟨by decide, by decide, by decide +kernel, wN_X5, av_t5 (List.mem_of_getElem? (i := 19) rfl) rfl⟩
theorem wI_X5_enough : Cond.instanceMethod yX5_enough ∈ av_T := av_t5 (List.mem_of_getElem? (i := 17) rfl) rfl
theorem wS_X5_enough : Cond.selects RX5 yX5_enough yX5_enough ∈ av_T := av_t5 (List.mem_of_getElem? (i := 18) rfl) rfl
abbrev mX5_see : av_Y := (yX5_see, cX5_see, 3, some .int, 2, 43)
theorem mbX5_see : av_mb mX5_see 2 := ⟨by decide, by decide, by decide +kernel, wN_X5, av_t5 (List.mem_of_getElem? (i := 23) rfl) rfl⟩
theorem wI_X5_see : Cond.instanceMethod yX5_see ∈ av_T := av_t5 (List.mem_of_getElem? (i := 21) rfl) rfl
theorem wS_X5_see : Cond.selects RX5 yX5_see yX5_see ∈ av_T := av_t5 (List.mem_of_getElem? (i := 22) rfl) rfl
abbrev mX5_forget : av_Y := (yX5_forget, cX5_forget, 2, some .int, 0, 0)
theorem mbX5_forget : av_mb mX5_forget 0 := ⟨by decide, by decide, by decide +kernel, wN_X5, av_t5 (List.mem_of_getElem? (i := 27) rfl) rfl⟩
theorem wI_X5_forget : Cond.instanceMethod yX5_forget ∈ av_T := av_t5 (List.mem_of_getElem? (i := 25) rfl) rfl
theorem wS_X5_forget : Cond.selects RX5 yX5_forget yX5_forget ∈ av_T := av_t5 (List.mem_of_getElem? (i := 26) rfl) rfl
abbrev mX5_isSo : av_Y := (yX5_isSo, cX5_isSo, 5, some .boolean, 4, 89)
theorem mbX5_isSo : av_mb mX5_isSo 2 := ⟨by decide, by decide, by decide +kernel, wN_X5, av_t5 (List.mem_of_getElem? (i := 35) rfl) rfl⟩
theorem wI_X5_isSo : Cond.instanceMethod yX5_isSo ∈ av_T := av_t5 (List.mem_of_getElem? (i := 34) rfl) rfl
theorem wS_X5_isSo : Cond.selects RX5 yX5_isSo yX5_isSo ∈ av_T := av_p5 (q := (⟨"WallReadingsModel", "isSo", "(II)Z"⟩, 40)) (List.mem_of_getElem? (i := 4) rfl)
abbrev mX5_wrote : av_Y := (yX5_wrote, cX5_wrote, 7, some .int, 5, 113)
theorem mbX5_wrote : av_mb mX5_wrote 1 := ⟨by decide, by decide, by decide +kernel, wN_X5, av_t5 (List.mem_of_getElem? (i := 31) rfl) rfl⟩
theorem wI_X5_wrote : Cond.instanceMethod yX5_wrote ∈ av_T := av_t5 (List.mem_of_getElem? (i := 29) rfl) rfl
theorem wS_X5_wrote : Cond.selects RX5 yX5_wrote yX5_wrote ∈ av_T := av_t5 (List.mem_of_getElem? (i := 30) rfl) rfl
abbrev mX5_forgotten : av_Y := (yX5_forgotten, cX5_forgotten, 9, some .int, 4, 88)
theorem mbX5_forgotten : av_mb mX5_forgotten 3 := ⟨by decide, by decide, by decide +kernel, wN_X5, av_t5 (List.mem_of_getElem? (i := 39) rfl) rfl⟩
theorem wI_X5_forgotten : Cond.instanceMethod yX5_forgotten ∈ av_T := av_t5 (List.mem_of_getElem? (i := 37) rfl) rfl
theorem wS_X5_forgotten : Cond.selects RX5 yX5_forgotten yX5_forgotten ∈ av_T := av_t5 (List.mem_of_getElem? (i := 38) rfl) rfl
abbrev mX5_walls : av_Y := (yX5_walls, cX5_walls, 13, some .int, 4, 87)
theorem mbX5_walls : av_mb mX5_walls 4 := ⟨by decide, by decide, by decide +kernel, wN_X5, av_t5 (List.mem_of_getElem? (i := 43) rfl) rfl⟩
theorem wI_X5_walls : Cond.instanceMethod yX5_walls ∈ av_T := av_t5 (List.mem_of_getElem? (i := 41) rfl) rfl
theorem wS_X5_walls : Cond.selects RX5 yX5_walls yX5_walls ∈ av_T := av_t5 (List.mem_of_getElem? (i := 42) rfl) rfl
abbrev mX5_keep : av_Y := (yX5_keep, cX5_keep, 1, some .int, 1, 25)
theorem mbX5_keep : av_mb mX5_keep 0 := ⟨by decide, by decide, by decide +kernel, wN_X5, av_t5 (List.mem_of_getElem? (i := 50) rfl) rfl⟩
theorem wI_X5_keep : Cond.instanceMethod yX5_keep ∈ av_T := av_t5 (List.mem_of_getElem? (i := 48) rfl) rfl
theorem wS_X5_keep : Cond.selects RX5 yX5_keep yX5_keep ∈ av_T := av_t5 (List.mem_of_getElem? (i := 49) rfl) rfl
abbrev mX5_back : av_Y := (yX5_back, cX5_back, 1, some .int, 1, 25)
theorem mbX5_back : av_mb mX5_back 0 := ⟨by decide, by decide, by decide +kernel, wN_X5, av_t5 (List.mem_of_getElem? (i := 54) rfl) rfl⟩
theorem wI_X5_back : Cond.instanceMethod yX5_back ∈ av_T := av_t5 (List.mem_of_getElem? (i := 52) rfl) rfl
theorem wS_X5_back : Cond.selects RX5 yX5_back yX5_back ∈ av_T := av_t5 (List.mem_of_getElem? (i := 53) rfl) rfl
abbrev mX5_count : av_Y := (yX5_count, cX5_count, 2, some .int, 3, 63)
theorem mbX5_count : av_mb mX5_count 1 := ⟨by decide, by decide, by decide +kernel, wN_X5, av_t5 (List.mem_of_getElem? (i := 58) rfl) rfl⟩
theorem wI_X5_count : Cond.instanceMethod yX5_count ∈ av_T := av_t5 (List.mem_of_getElem? (i := 56) rfl) rfl
theorem wS_X5_count : Cond.selects RX5 yX5_count yX5_count ∈ av_T := av_t5 (List.mem_of_getElem? (i := 57) rfl) rfl
abbrev mJ6_bitCount_0f7a4 : av_Y := (yJ6_bitCount_0f7a4, cJ6_bitCount_0f7a4, 1, some .int, 0, 0)
theorem mbJ6_bitCount_0f7a4 : av_mb mJ6_bitCount_0f7a4 1 := ⟨by decide, by decide, by decide +kernel, wN_J6, av_t3 (List.mem_of_getElem? (i := 104) rfl) rfl⟩
theorem wT_J6_bitCount_0f7a4 : Cond.static yJ6_bitCount_0f7a4 ∈ av_T := av_t3 (List.mem_of_getElem? (i := 103) rfl) rfl
abbrev mJ9_max_7cf53 : av_Y := (yJ9_max_7cf53, cJ9_max_7cf53, 2, some .int, 0, 0)
theorem mbJ9_max_7cf53 : av_mb mJ9_max_7cf53 2 := ⟨by decide, by decide, by decide +kernel, wN_J9, av_t2 (List.mem_of_getElem? (i := 21) rfl) rfl⟩
theorem wT_J9_max_7cf53 : Cond.static yJ9_max_7cf53 ∈ av_T := av_t2 (List.mem_of_getElem? (i := 20) rfl) rfl
theorem wF_X4_9 : Cond.fieldLink RX4 9 (TX4 4).1 (TX4 4).2.1 (TX4 4).2.2.1 ∈ av_T := av_t2 (List.mem_of_getElem? (i := 62) rfl) rfl
theorem wF_X4_16 : Cond.fieldLink RX4 16 (TX4 5).1 (TX4 5).2.1 (TX4 5).2.2.1 ∈ av_T := av_t2 (List.mem_of_getElem? (i := 63) rfl) rfl
theorem wF_X4_20 : Cond.fieldLink RX4 20 (TX4 6).1 (TX4 6).2.1 (TX4 6).2.2.1 ∈ av_T := av_t2 (List.mem_of_getElem? (i := 64) rfl) rfl
theorem wF_X4_23 : Cond.fieldLink RX4 23 (TX4 7).1 (TX4 7).2.1 (TX4 7).2.2.1 ∈ av_T := av_t2 (List.mem_of_getElem? (i := 65) rfl) rfl
theorem wF_X4_26 : Cond.fieldLink RX4 26 (TX4 8).1 (TX4 8).2.1 (TX4 8).2.2.1 ∈ av_T := av_t2 (List.mem_of_getElem? (i := 66) rfl) rfl
theorem wF_X4_29 : Cond.fieldLink RX4 29 (TX4 9).1 (TX4 9).2.1 (TX4 9).2.2.1 ∈ av_T := av_t2 (List.mem_of_getElem? (i := 67) rfl) rfl
theorem wF_X4_35 : Cond.fieldLink RX4 35 (TX4 0).1 (TX4 0).2.1 (TX4 0).2.2.1 ∈ av_T := av_t2 (List.mem_of_getElem? (i := 58) rfl) rfl
theorem wF_X4_42 : Cond.fieldLink RX4 42 (TX4 1).1 (TX4 1).2.1 (TX4 1).2.2.1 ∈ av_T := av_t2 (List.mem_of_getElem? (i := 59) rfl) rfl
theorem wF_X4_46 : Cond.fieldLink RX4 46 (TX4 2).1 (TX4 2).2.1 (TX4 2).2.2.1 ∈ av_T := av_t2 (List.mem_of_getElem? (i := 60) rfl) rfl
theorem wF_X4_54 : Cond.fieldLink RX4 54 (TX4 3).1 (TX4 3).2.1 (TX4 3).2.2.1 ∈ av_T := av_t2 (List.mem_of_getElem? (i := 61) rfl) rfl
theorem wF_X4_84 : Cond.fieldLink RX4 84 (TX2 1).1 (TX2 1).2.1 (TX2 1).2.2.1 ∈ av_T := av_t1 (List.mem_of_getElem? (i := 45) rfl) rfl
theorem wF_X4_87 : Cond.fieldLink RX4 87 (TX3 8).1 (TX3 8).2.1 (TX3 8).2.2.1 ∈ av_T := av_t1 (List.mem_of_getElem? (i := 80) rfl) rfl
theorem wF_X4_90 : Cond.fieldLink RX4 90 (TX3 9).1 (TX3 9).2.1 (TX3 9).2.2.1 ∈ av_T := av_t1 (List.mem_of_getElem? (i := 82) rfl) rfl
theorem wF_X4_93 : Cond.fieldLink RX4 93 (TX3 0).1 (TX3 0).2.1 (TX3 0).2.2.1 ∈ av_T := av_t1 (List.mem_of_getElem? (i := 62) rfl) rfl
theorem wF_X4_96 : Cond.fieldLink RX4 96 (TX3 2).1 (TX3 2).2.1 (TX3 2).2.2.1 ∈ av_T := av_t1 (List.mem_of_getElem? (i := 66) rfl) rfl
theorem wF_X4_99 : Cond.fieldLink RX4 99 (TX3 3).1 (TX3 3).2.1 (TX3 3).2.2.1 ∈ av_T := av_t1 (List.mem_of_getElem? (i := 69) rfl) rfl
theorem wF_X4_110 : Cond.fieldLink RX4 110 (TX3 4).1 (TX3 4).2.1 (TX3 4).2.2.1 ∈ av_T := av_t1 (List.mem_of_getElem? (i := 72) rfl) rfl
theorem wF_X4_113 : Cond.fieldLink RX4 113 (TX3 5).1 (TX3 5).2.1 (TX3 5).2.2.1 ∈ av_T := av_t1 (List.mem_of_getElem? (i := 74) rfl) rfl
theorem wF_X4_116 : Cond.fieldLink RX4 116 (TX3 6).1 (TX3 6).2.1 (TX3 6).2.2.1 ∈ av_T := av_t1 (List.mem_of_getElem? (i := 76) rfl) rfl
theorem wF_X4_127 : Cond.fieldLink RX4 127 (TX0 9).1 (TX0 9).2.1 (TX0 9).2.2.1 ∈ av_T := av_t1 (List.mem_of_getElem? (i := 139) rfl) rfl
theorem wF_X4_130 : Cond.fieldLink RX4 130 (TX0 10).1 (TX0 10).2.1 (TX0 10).2.2.1 ∈ av_T := av_t1 (List.mem_of_getElem? (i := 141) rfl) rfl
theorem wF_X4_133 : Cond.fieldLink RX4 133 (TX0 11).1 (TX0 11).2.1 (TX0 11).2.2.1 ∈ av_T := av_t1 (List.mem_of_getElem? (i := 143) rfl) rfl
theorem wF_X4_136 : Cond.fieldLink RX4 136 (TX0 8).1 (TX0 8).2.1 (TX0 8).2.2.1 ∈ av_T := av_t1 (List.mem_of_getElem? (i := 138) rfl) rfl
theorem wF_X4_166 : Cond.fieldLink RX4 166 (TX1 1).1 (TX1 1).2.1 (TX1 1).2.2.1 ∈ av_T := av_t1 (List.mem_of_getElem? (i := 30) rfl) rfl
theorem wF_X4_204 : Cond.fieldLink RX4 204 (TX4 10).1 (TX4 10).2.1 (TX4 10).2.2.1 ∈ av_T := av_t2 (List.mem_of_getElem? (i := 68) rfl) rfl
theorem wF_X4_227 : Cond.fieldLink RX4 227 (TX3 14).1 (TX3 14).2.1 (TX3 14).2.2.1 ∈ av_T := av_t1 (List.mem_of_getElem? (i := 91) rfl) rfl
theorem wF_X4_230 : Cond.fieldLink RX4 230 (TX3 10).1 (TX3 10).2.1 (TX3 10).2.2.1 ∈ av_T := av_t1 (List.mem_of_getElem? (i := 85) rfl) rfl
theorem wF_X0_11 : Cond.fieldLink RX0 11 (TX0 1).1 (TX0 1).2.1 (TX0 1).2.2.1 ∈ av_T := av_t1 (List.mem_of_getElem? (i := 130) rfl) rfl
theorem wF_X0_15 : Cond.fieldLink RX0 15 (TX0 2).1 (TX0 2).2.1 (TX0 2).2.2.1 ∈ av_T := av_t1 (List.mem_of_getElem? (i := 131) rfl) rfl
theorem wF_X0_18 : Cond.fieldLink RX0 18 (TX0 3).1 (TX0 3).2.1 (TX0 3).2.2.1 ∈ av_T := av_t1 (List.mem_of_getElem? (i := 132) rfl) rfl
theorem wF_X0_21 : Cond.fieldLink RX0 21 (TX0 4).1 (TX0 4).2.1 (TX0 4).2.2.1 ∈ av_T := av_t1 (List.mem_of_getElem? (i := 133) rfl) rfl
theorem wF_X0_24 : Cond.fieldLink RX0 24 (TX0 8).1 (TX0 8).2.1 (TX0 8).2.2.1 ∈ av_T := av_t1 (List.mem_of_getElem? (i := 137) rfl) rfl
theorem wF_X0_27 : Cond.fieldLink RX0 27 (TX0 0).1 (TX0 0).2.1 (TX0 0).2.2.1 ∈ av_T := av_t1 (List.mem_of_getElem? (i := 129) rfl) rfl
theorem wF_X0_31 : Cond.fieldLink RX0 31 (TX0 5).1 (TX0 5).2.1 (TX0 5).2.2.1 ∈ av_T := av_t1 (List.mem_of_getElem? (i := 134) rfl) rfl
theorem wF_X0_39 : Cond.fieldLink RX0 39 (TX0 6).1 (TX0 6).2.1 (TX0 6).2.2.1 ∈ av_T := av_t1 (List.mem_of_getElem? (i := 135) rfl) rfl
theorem wF_X0_46 : Cond.fieldLink RX0 46 (TX3 7).1 (TX3 7).2.1 (TX3 7).2.2.1 ∈ av_T := av_t1 (List.mem_of_getElem? (i := 78) rfl) rfl
theorem wF_X0_51 : Cond.fieldLink RX0 51 (TX0 7).1 (TX0 7).2.1 (TX0 7).2.2.1 ∈ av_T := av_t1 (List.mem_of_getElem? (i := 136) rfl) rfl
theorem wF_X0_61 : Cond.fieldLink RX0 61 (TX3 1).1 (TX3 1).2.1 (TX3 1).2.2.1 ∈ av_T := av_t1 (List.mem_of_getElem? (i := 64) rfl) rfl
theorem wF_X0_64 : Cond.fieldLink RX0 64 (TX0 9).1 (TX0 9).2.1 (TX0 9).2.2.1 ∈ av_T := av_t1 (List.mem_of_getElem? (i := 140) rfl) rfl
theorem wF_X0_67 : Cond.fieldLink RX0 67 (TX0 10).1 (TX0 10).2.1 (TX0 10).2.2.1 ∈ av_T := av_t1 (List.mem_of_getElem? (i := 142) rfl) rfl
theorem wF_X0_70 : Cond.fieldLink RX0 70 (TX0 11).1 (TX0 11).2.1 (TX0 11).2.2.1 ∈ av_T := av_t1 (List.mem_of_getElem? (i := 144) rfl) rfl
theorem wF_X0_87 : Cond.fieldLink RX0 87 (TX3 3).1 (TX3 3).2.1 (TX3 3).2.2.1 ∈ av_T := av_t1 (List.mem_of_getElem? (i := 70) rfl) rfl
theorem wF_X0_90 : Cond.fieldLink RX0 90 (TX3 2).1 (TX3 2).2.1 (TX3 2).2.2.1 ∈ av_T := av_t1 (List.mem_of_getElem? (i := 67) rfl) rfl
theorem wF_X1_9 : Cond.fieldLink RX1 9 (TX1 0).1 (TX1 0).2.1 (TX1 0).2.2.1 ∈ av_T := av_t1 (List.mem_of_getElem? (i := 28) rfl) rfl
theorem wF_X1_15 : Cond.fieldLink RX1 15 (TX1 1).1 (TX1 1).2.1 (TX1 1).2.2.1 ∈ av_T := av_t1 (List.mem_of_getElem? (i := 29) rfl) rfl
theorem wF_X2_9 : Cond.fieldLink RX2 9 (TX2 0).1 (TX2 0).2.1 (TX2 0).2.2.1 ∈ av_T := av_t1 (List.mem_of_getElem? (i := 43) rfl) rfl
theorem wF_X2_15 : Cond.fieldLink RX2 15 (TX2 1).1 (TX2 1).2.1 (TX2 1).2.2.1 ∈ av_T := av_t1 (List.mem_of_getElem? (i := 44) rfl) rfl
theorem wF_X2_24 : Cond.fieldLink RX2 24 (TX2 2).1 (TX2 2).2.1 (TX2 2).2.2.1 ∈ av_T := av_t1 (List.mem_of_getElem? (i := 46) rfl) rfl
theorem wF_X2_65 : Cond.fieldLink RX2 65 (TX3 10).1 (TX3 10).2.1 (TX3 10).2.2.1 ∈ av_T := av_t1 (List.mem_of_getElem? (i := 84) rfl) rfl
theorem wF_X2_72 : Cond.fieldLink RX2 72 (TX3 14).1 (TX3 14).2.1 (TX3 14).2.2.1 ∈ av_T := av_t1 (List.mem_of_getElem? (i := 90) rfl) rfl
theorem wF_X3_9 : Cond.fieldLink RX3 9 (TX3 0).1 (TX3 0).2.1 (TX3 0).2.2.1 ∈ av_T := av_t1 (List.mem_of_getElem? (i := 61) rfl) rfl
theorem wF_X3_15 : Cond.fieldLink RX3 15 (TX3 1).1 (TX3 1).2.1 (TX3 1).2.2.1 ∈ av_T := av_t1 (List.mem_of_getElem? (i := 63) rfl) rfl
theorem wF_X3_18 : Cond.fieldLink RX3 18 (TX3 2).1 (TX3 2).2.1 (TX3 2).2.2.1 ∈ av_T := av_t1 (List.mem_of_getElem? (i := 65) rfl) rfl
theorem wF_X3_21 : Cond.fieldLink RX3 21 (TX3 3).1 (TX3 3).2.1 (TX3 3).2.2.1 ∈ av_T := av_t1 (List.mem_of_getElem? (i := 68) rfl) rfl
theorem wF_X3_24 : Cond.fieldLink RX3 24 (TX3 4).1 (TX3 4).2.1 (TX3 4).2.2.1 ∈ av_T := av_t1 (List.mem_of_getElem? (i := 71) rfl) rfl
theorem wF_X3_27 : Cond.fieldLink RX3 27 (TX3 5).1 (TX3 5).2.1 (TX3 5).2.2.1 ∈ av_T := av_t1 (List.mem_of_getElem? (i := 73) rfl) rfl
theorem wF_X3_30 : Cond.fieldLink RX3 30 (TX3 6).1 (TX3 6).2.1 (TX3 6).2.2.1 ∈ av_T := av_t1 (List.mem_of_getElem? (i := 75) rfl) rfl
theorem wF_X3_33 : Cond.fieldLink RX3 33 (TX3 7).1 (TX3 7).2.1 (TX3 7).2.2.1 ∈ av_T := av_t1 (List.mem_of_getElem? (i := 77) rfl) rfl
theorem wF_X3_36 : Cond.fieldLink RX3 36 (TX3 8).1 (TX3 8).2.1 (TX3 8).2.2.1 ∈ av_T := av_t1 (List.mem_of_getElem? (i := 79) rfl) rfl
theorem wF_X3_40 : Cond.fieldLink RX3 40 (TX3 9).1 (TX3 9).2.1 (TX3 9).2.2.1 ∈ av_T := av_t1 (List.mem_of_getElem? (i := 81) rfl) rfl
theorem wF_X3_43 : Cond.fieldLink RX3 43 (TX3 10).1 (TX3 10).2.1 (TX3 10).2.2.1 ∈ av_T := av_t1 (List.mem_of_getElem? (i := 83) rfl) rfl
theorem wF_X3_50 : Cond.fieldLink RX3 50 (TX3 14).1 (TX3 14).2.1 (TX3 14).2.2.1 ∈ av_T := av_t1 (List.mem_of_getElem? (i := 89) rfl) rfl
theorem wF_X3_57 : Cond.fieldLink RX3 57 (TX3 11).1 (TX3 11).2.1 (TX3 11).2.2.1 ∈ av_T := av_t1 (List.mem_of_getElem? (i := 86) rfl) rfl
theorem wF_X3_60 : Cond.fieldLink RX3 60 (TX3 12).1 (TX3 12).2.1 (TX3 12).2.2.1 ∈ av_T := av_t1 (List.mem_of_getElem? (i := 87) rfl) rfl
theorem wF_X3_63 : Cond.fieldLink RX3 63 (TX3 13).1 (TX3 13).2.1 (TX3 13).2.2.1 ∈ av_T := av_t1 (List.mem_of_getElem? (i := 88) rfl) rfl
theorem wF_X5_7 : Cond.fieldLink RX5 7 (TX5 1).1 (TX5 1).2.1 (TX5 1).2.2.1 ∈ av_T := av_t3 (List.mem_of_getElem? (i := 163) rfl) rfl
theorem wF_X5_13 : Cond.fieldLink RX5 13 (TX5 2).1 (TX5 2).2.1 (TX5 2).2.2.1 ∈ av_T := av_t3 (List.mem_of_getElem? (i := 164) rfl) rfl
theorem wF_X5_16 : Cond.fieldLink RX5 16 (TX5 3).1 (TX5 3).2.1 (TX5 3).2.2.1 ∈ av_T := av_t3 (List.mem_of_getElem? (i := 165) rfl) rfl
theorem wF_X5_19 : Cond.fieldLink RX5 19 (TX5 4).1 (TX5 4).2.1 (TX5 4).2.2.1 ∈ av_T := av_t3 (List.mem_of_getElem? (i := 166) rfl) rfl
theorem wF_X5_22 : Cond.fieldLink RX5 22 (TX5 6).1 (TX5 6).2.1 (TX5 6).2.2.1 ∈ av_T := av_t3 (List.mem_of_getElem? (i := 168) rfl) rfl
theorem wF_X5_25 : Cond.fieldLink RX5 25 (TX5 7).1 (TX5 7).2.1 (TX5 7).2.2.1 ∈ av_T := av_t3 (List.mem_of_getElem? (i := 169) rfl) rfl
theorem wF_X5_28 : Cond.fieldLink RX5 28 (TX5 8).1 (TX5 8).2.1 (TX5 8).2.2.1 ∈ av_T := av_t3 (List.mem_of_getElem? (i := 170) rfl) rfl
theorem wF_X5_31 : Cond.fieldLink RX5 31 (TX5 10).1 (TX5 10).2.1 (TX5 10).2.2.1 ∈ av_T := av_t3 (List.mem_of_getElem? (i := 172) rfl) rfl
theorem wF_X5_34 : Cond.fieldLink RX5 34 (TX5 12).1 (TX5 12).2.1 (TX5 12).2.2.1 ∈ av_T := av_t3 (List.mem_of_getElem? (i := 174) rfl) rfl
theorem wF_X5_37 : Cond.fieldLink RX5 37 (TX5 14).1 (TX5 14).2.1 (TX5 14).2.2.1 ∈ av_T := av_t3 (List.mem_of_getElem? (i := 176) rfl) rfl
theorem wF_X5_40 : Cond.fieldLink RX5 40 (TX5 15).1 (TX5 15).2.1 (TX5 15).2.2.1 ∈ av_T := av_t3 (List.mem_of_getElem? (i := 177) rfl) rfl
theorem wF_X5_43 : Cond.fieldLink RX5 43 (TX5 18).1 (TX5 18).2.1 (TX5 18).2.2.1 ∈ av_T := av_t3 (List.mem_of_getElem? (i := 180) rfl) rfl
theorem wF_X5_46 : Cond.fieldLink RX5 46 (TX5 20).1 (TX5 20).2.1 (TX5 20).2.2.1 ∈ av_T := av_t3 (List.mem_of_getElem? (i := 182) rfl) rfl
theorem wF_X5_49 : Cond.fieldLink RX5 49 (TX5 21).1 (TX5 21).2.1 (TX5 21).2.2.1 ∈ av_T := av_t3 (List.mem_of_getElem? (i := 183) rfl) rfl
theorem wF_X5_52 : Cond.fieldLink RX5 52 (TX5 22).1 (TX5 22).2.1 (TX5 22).2.2.1 ∈ av_T := av_t3 (List.mem_of_getElem? (i := 184) rfl) rfl
theorem wF_X5_55 : Cond.fieldLink RX5 55 (TX5 23).1 (TX5 23).2.1 (TX5 23).2.2.1 ∈ av_T := av_t3 (List.mem_of_getElem? (i := 185) rfl) rfl
theorem wF_X5_58 : Cond.fieldLink RX5 58 (TX5 25).1 (TX5 25).2.1 (TX5 25).2.2.1 ∈ av_T := av_t3 (List.mem_of_getElem? (i := 187) rfl) rfl
theorem wF_X5_61 : Cond.fieldLink RX5 61 (TX5 27).1 (TX5 27).2.1 (TX5 27).2.2.1 ∈ av_T := av_t3 (List.mem_of_getElem? (i := 189) rfl) rfl
theorem wF_X5_64 : Cond.fieldLink RX5 64 (TX5 28).1 (TX5 28).2.1 (TX5 28).2.2.1 ∈ av_T := av_t3 (List.mem_of_getElem? (i := 190) rfl) rfl
theorem wF_X5_67 : Cond.fieldLink RX5 67 (TX5 30).1 (TX5 30).2.1 (TX5 30).2.2.1 ∈ av_T := av_t3 (List.mem_of_getElem? (i := 192) rfl) rfl
theorem wF_X5_70 : Cond.fieldLink RX5 70 (TX5 34).1 (TX5 34).2.1 (TX5 34).2.2.1 ∈ av_T := av_t3 (List.mem_of_getElem? (i := 196) rfl) rfl
theorem wF_X5_73 : Cond.fieldLink RX5 73 (TX5 35).1 (TX5 35).2.1 (TX5 35).2.2.1 ∈ av_T := av_t3 (List.mem_of_getElem? (i := 197) rfl) rfl
theorem wF_X5_85 : Cond.fieldLink RX5 85 (TX5 19).1 (TX5 19).2.1 (TX5 19).2.2.1 ∈ av_T := av_t3 (List.mem_of_getElem? (i := 181) rfl) rfl
theorem wF_X5_89 : Cond.fieldLink RX5 89 (TX5 24).1 (TX5 24).2.1 (TX5 24).2.2.1 ∈ av_T := av_t3 (List.mem_of_getElem? (i := 186) rfl) rfl
theorem wF_X5_100 : Cond.fieldLink RX5 100 (TX5 26).1 (TX5 26).2.1 (TX5 26).2.2.1 ∈ av_T := av_t3 (List.mem_of_getElem? (i := 188) rfl) rfl
theorem wF_X5_103 : Cond.fieldLink RX5 103 (TX5 29).1 (TX5 29).2.1 (TX5 29).2.2.1 ∈ av_T := av_t3 (List.mem_of_getElem? (i := 191) rfl) rfl
theorem wF_X5_106 : Cond.fieldLink RX5 106 (TX5 5).1 (TX5 5).2.1 (TX5 5).2.2.1 ∈ av_T := av_t3 (List.mem_of_getElem? (i := 167) rfl) rfl
theorem wF_X5_113 : Cond.fieldLink RX5 113 (TX5 16).1 (TX5 16).2.1 (TX5 16).2.2.1 ∈ av_T := av_t3 (List.mem_of_getElem? (i := 178) rfl) rfl
theorem wF_X5_116 : Cond.fieldLink RX5 116 (TX5 17).1 (TX5 17).2.1 (TX5 17).2.2.1 ∈ av_T := av_t3 (List.mem_of_getElem? (i := 179) rfl) rfl
theorem wF_X5_157 : Cond.fieldLink RX5 157 (TX5 0).1 (TX5 0).2.1 (TX5 0).2.2.1 ∈ av_T := av_t3 (List.mem_of_getElem? (i := 162) rfl) rfl
theorem wF_X5_164 : Cond.fieldLink RX5 164 (TX5 9).1 (TX5 9).2.1 (TX5 9).2.2.1 ∈ av_T := av_t3 (List.mem_of_getElem? (i := 171) rfl) rfl
theorem wF_X5_167 : Cond.fieldLink RX5 167 (TX5 11).1 (TX5 11).2.1 (TX5 11).2.2.1 ∈ av_T := av_t3 (List.mem_of_getElem? (i := 173) rfl) rfl
theorem wF_X5_170 : Cond.fieldLink RX5 170 (TX5 13).1 (TX5 13).2.1 (TX5 13).2.2.1 ∈ av_T := av_t3 (List.mem_of_getElem? (i := 175) rfl) rfl
theorem wF_X5_173 : Cond.fieldLink RX5 173 (TX5 33).1 (TX5 33).2.1 (TX5 33).2.2.1 ∈ av_T := av_t3 (List.mem_of_getElem? (i := 195) rfl) rfl
theorem wF_X5_176 : Cond.fieldLink RX5 176 (TX5 32).1 (TX5 32).2.1 (TX5 32).2.2.1 ∈ av_T := av_t3 (List.mem_of_getElem? (i := 194) rfl) rfl
theorem wF_X5_179 : Cond.fieldLink RX5 179 (TX5 31).1 (TX5 31).2.1 (TX5 31).2.2.1 ∈ av_T := av_t3 (List.mem_of_getElem? (i := 193) rfl) rfl
theorem wF_X5_182 : Cond.fieldLink RX5 182 (TX5 36).1 (TX5 36).2.1 (TX5 36).2.2.1 ∈ av_T := av_t3 (List.mem_of_getElem? (i := 198) rfl) rfl
theorem wF_X5_205 : Cond.fieldLink RX5 205 (TX5 37).1 (TX5 37).2.1 (TX5 37).2.2.1 ∈ av_T := av_t3 (List.mem_of_getElem? (i := 199) rfl) rfl
theorem wF_X5_211 : Cond.fieldLink RX5 211 (TX5 38).1 (TX5 38).2.1 (TX5 38).2.2.1 ∈ av_T := av_t3 (List.mem_of_getElem? (i := 200) rfl) rfl
theorem wF_X5_217 : Cond.fieldLink RX5 217 (TX5 39).1 (TX5 39).2.1 (TX5 39).2.2.1 ∈ av_T := av_t3 (List.mem_of_getElem? (i := 201) rfl) rfl
theorem wM_X0_100 : Cond.methodLink RX0 100 yX0_bestFrom ∈ av_T := av_t2 (List.mem_of_getElem? (i := 194) rfl) rfl
theorem wM_X0_103 : Cond.methodLink RX0 103 yX0_gainOf ∈ av_T := av_t2 (List.mem_of_getElem? (i := 198) rfl) rfl
theorem wM_X0_106 : Cond.methodLink RX0 106 yJ9_max_7cf53 ∈ av_T := av_t2 (List.mem_of_getElem? (i := 202) rfl) rfl
theorem wM_X0_42 : Cond.methodLink RX0 42 yX0_fitWords ∈ av_T := av_t2 (List.mem_of_getElem? (i := 130) rfl) rfl
theorem wM_X0_54 : Cond.methodLink RX0 54 yX0_mayEndAt ∈ av_T := av_t2 (List.mem_of_getElem? (i := 139) rfl) rfl
theorem wM_X0_58 : Cond.methodLink RX0 58 yX0_tallyFrom ∈ av_T := av_t2 (List.mem_of_getElem? (i := 143) rfl) rfl
theorem wM_X0_73 : Cond.methodLink RX0 73 yX0_openAt ∈ av_T := av_t2 (List.mem_of_getElem? (i := 159) rfl) rfl
theorem wM_X0_80 : Cond.methodLink RX0 80 yX0_slotBehind ∈ av_T := av_t2 (List.mem_of_getElem? (i := 166) rfl) rfl
theorem wM_X0_84 : Cond.methodLink RX0 84 yX0_addWord ∈ av_T := av_t2 (List.mem_of_getElem? (i := 170) rfl) rfl
theorem wM_X0_93 : Cond.methodLink RX0 93 yX0_rank ∈ av_T := av_t2 (List.mem_of_getElem? (i := 190) rfl) rfl
theorem wM_X0_96 : Cond.methodLink RX0 96 yX0_firstOfBest ∈ av_T := av_t2 (List.mem_of_getElem? (i := 203) rfl) rfl
theorem wM_X2_19 : Cond.methodLink RX2 19 yX3_clear ∈ av_T := av_t1 (List.mem_of_getElem? (i := 227) rfl) rfl
theorem wM_X2_27 : Cond.methodLink RX2 27 yX2_readItem ∈ av_T := av_t1 (List.mem_of_getElem? (i := 235) rfl) rfl
theorem wM_X2_31 : Cond.methodLink RX2 31 yX2_sign ∈ av_T := av_t1 (List.mem_of_getElem? (i := 239) rfl) rfl
theorem wM_X2_35 : Cond.methodLink RX2 35 yX2_readRoot ∈ av_T := av_t2 (List.mem_of_getElem? (i := 3) rfl) rfl
theorem wM_X2_38 : Cond.methodLink RX2 38 yX2_readReader ∈ av_T := av_t2 (List.mem_of_getElem? (i := 29) rfl) rfl
theorem wM_X2_41 : Cond.methodLink RX2 41 yX2_readWriting ∈ av_T := av_t2 (List.mem_of_getElem? (i := 37) rfl) rfl
theorem wM_X2_44 : Cond.methodLink RX2 44 yX2_readRiver ∈ av_T := av_t2 (List.mem_of_getElem? (i := 41) rfl) rfl
theorem wM_X2_47 : Cond.methodLink RX2 47 yX2_readGold ∈ av_T := av_t2 (List.mem_of_getElem? (i := 46) rfl) rfl
theorem wM_X2_50 : Cond.methodLink RX2 50 yX2_readRow ∈ av_T := av_t2 (List.mem_of_getElem? (i := 7) rfl) rfl
theorem wM_X2_54 : Cond.methodLink RX2 54 yX2_readNumber ∈ av_T := av_t2 (List.mem_of_getElem? (i := 15) rfl) rfl
theorem wM_X2_58 : Cond.methodLink RX2 58 yX3_addRoot ∈ av_T := av_t2 (List.mem_of_getElem? (i := 22) rfl) rfl
theorem wM_X2_62 : Cond.methodLink RX2 62 yX3_addReader ∈ av_T := av_t2 (List.mem_of_getElem? (i := 33) rfl) rfl
theorem wM_X2_68 : Cond.methodLink RX2 68 yX3_setRiver ∈ av_T := av_t2 (List.mem_of_getElem? (i := 45) rfl) rfl
theorem wM_X2_75 : Cond.methodLink RX2 75 yX2_isNext ∈ av_T := av_t2 (List.mem_of_getElem? (i := 11) rfl) rfl
theorem wM_X2_79 : Cond.methodLink RX2 79 yJ9_max_7cf53 ∈ av_T := av_t2 (List.mem_of_getElem? (i := 19) rfl) rfl
theorem wM_X3_46 : Cond.methodLink RX3 46 yX3_setRiver ∈ av_T := av_t1 (List.mem_of_getElem? (i := 231) rfl) rfl
theorem wM_X3_66 : Cond.methodLink RX3 66 yJ9_max_7cf53 ∈ av_T := av_t3 (List.mem_of_getElem? (i := 12) rfl) rfl
theorem wM_X4_102 : Cond.methodLink RX4 102 yX4_isReader ∈ av_T := av_t2 (List.mem_of_getElem? (i := 117) rfl) rfl
theorem wM_X4_106 : Cond.methodLink RX4 106 yX4_readingsOf ∈ av_T := av_t2 (List.mem_of_getElem? (i := 121) rfl) rfl
theorem wM_X4_119 : Cond.methodLink RX4 119 yX4_isReading ∈ av_T := av_t2 (List.mem_of_getElem? (i := 151) rfl) rfl
theorem wM_X4_123 : Cond.methodLink RX4 123 yX0_pick ∈ av_T := av_t2 (List.mem_of_getElem? (i := 155) rfl) rfl
theorem wM_X4_139 : Cond.methodLink RX4 139 yX4_toldBy ∈ av_T := av_t2 (List.mem_of_getElem? (i := 182) rfl) rfl
theorem wM_X4_142 : Cond.methodLink RX4 142 yX1_put ∈ av_T := av_t2 (List.mem_of_getElem? (i := 211) rfl) rfl
theorem wM_X4_146 : Cond.methodLink RX4 146 yX4_verbsToldBy ∈ av_T := av_t2 (List.mem_of_getElem? (i := 218) rfl) rfl
theorem wM_X4_150 : Cond.methodLink RX4 150 yX4_holds ∈ av_T := av_t2 (List.mem_of_getElem? (i := 226) rfl) rfl
theorem wM_X4_153 : Cond.methodLink RX4 153 yX4_hasFallen ∈ av_T := av_t2 (List.mem_of_getElem? (i := 227) rfl) rfl
theorem wM_X4_157 : Cond.methodLink RX4 157 yX3_fall ∈ av_T := av_t2 (List.mem_of_getElem? (i := 231) rfl) rfl
theorem wM_X4_160 : Cond.methodLink RX4 160 yX4_lettersIn ∈ av_T := av_t2 (List.mem_of_getElem? (i := 239) rfl) rfl
theorem wM_X4_163 : Cond.methodLink RX4 163 yX3_depthIn ∈ av_T := av_t3 (List.mem_of_getElem? (i := 8) rfl) rfl
theorem wM_X4_169 : Cond.methodLink RX4 169 yX1_takeInto ∈ av_T := av_t3 (List.mem_of_getElem? (i := 17) rfl) rfl
theorem wM_X4_172 : Cond.methodLink RX4 172 yX4_isPart ∈ av_T := av_t3 (List.mem_of_getElem? (i := 25) rfl) rfl
theorem wM_X4_176 : Cond.methodLink RX4 176 yX3_wordsSaying ∈ av_T := av_t3 (List.mem_of_getElem? (i := 28) rfl) rfl
theorem wM_X4_179 : Cond.methodLink RX4 179 yX0_tally ∈ av_T := av_t2 (List.mem_of_getElem? (i := 135) rfl) rfl
theorem wM_X4_182 : Cond.methodLink RX4 182 yX4_inLowestTerms ∈ av_T := av_t3 (List.mem_of_getElem? (i := 32) rfl) rfl
theorem wM_X4_186 : Cond.methodLink RX4 186 yX4_wordsOfRoot ∈ av_T := av_t3 (List.mem_of_getElem? (i := 39) rfl) rfl
theorem wM_X4_189 : Cond.methodLink RX4 189 yX4_isShortRow ∈ av_T := av_t3 (List.mem_of_getElem? (i := 46) rfl) rfl
theorem wM_X4_192 : Cond.methodLink RX4 192 yX4_isEnough ∈ av_T := av_t3 (List.mem_of_getElem? (i := 57) rfl) rfl
theorem wM_X4_195 : Cond.methodLink RX4 195 yX4_isCheaper ∈ av_T := av_t3 (List.mem_of_getElem? (i := 70) rfl) rfl
theorem wM_X4_198 : Cond.methodLink RX4 198 yX3_priceOf ∈ av_T := av_t3 (List.mem_of_getElem? (i := 66) rfl) rfl
theorem wM_X4_201 : Cond.methodLink RX4 201 yX3_hoursOf ∈ av_T := av_t3 (List.mem_of_getElem? (i := 61) rfl) rfl
theorem wM_X4_207 : Cond.methodLink RX4 207 yX4_isAsSeen ∈ av_T := av_t3 (List.mem_of_getElem? (i := 86) rfl) rfl
theorem wM_X4_210 : Cond.methodLink RX4 210 yX0_take ∈ av_T := av_t2 (List.mem_of_getElem? (i := 125) rfl) rfl
theorem wM_X4_214 : Cond.methodLink RX4 214 yX4_wordsOfRoots ∈ av_T := av_t3 (List.mem_of_getElem? (i := 94) rfl) rfl
theorem wM_X4_217 : Cond.methodLink RX4 217 yX4_oddsOf ∈ av_T := av_t3 (List.mem_of_getElem? (i := 98) rfl) rfl
theorem wM_X4_221 : Cond.methodLink RX4 221 yX4_power ∈ av_T := av_t3 (List.mem_of_getElem? (i := 108) rfl) rfl
theorem wM_X4_224 : Cond.methodLink RX4 224 yX4_rowOfWall ∈ av_T := av_t3 (List.mem_of_getElem? (i := 115) rfl) rfl
theorem wM_X4_233 : Cond.methodLink RX4 233 yX0_told ∈ av_T := av_t2 (List.mem_of_getElem? (i := 186) rfl) rfl
theorem wM_X4_242 : Cond.methodLink RX4 242 yJ6_bitCount_0f7a4 ∈ av_T := av_t3 (List.mem_of_getElem? (i := 102) rfl) rfl
theorem wM_X4_51 : Cond.methodLink RX4 51 yX0_init ∈ av_T := av_t1 (List.mem_of_getElem? (i := 125) rfl) rfl
theorem wM_X4_70 : Cond.methodLink RX4 70 yX2_add ∈ av_T := av_t1 (List.mem_of_getElem? (i := 219) rfl) rfl
theorem wM_X4_74 : Cond.methodLink RX4 74 yX2_firstFault ∈ av_T := av_t1 (List.mem_of_getElem? (i := 223) rfl) rfl
theorem wM_X4_78 : Cond.methodLink RX4 78 yX2_clear ∈ av_T := av_t2 (List.mem_of_getElem? (i := 50) rfl) rfl
theorem wM_X4_81 : Cond.methodLink RX4 81 yX4_begin ∈ av_T := av_t2 (List.mem_of_getElem? (i := 54) rfl) rfl
theorem wM_X5_109 : Cond.methodLink RX5 109 yX5_in ∈ av_T := av_t4 (List.mem_of_getElem? (i := 47) rfl) rfl
theorem wM_X5_119 : Cond.methodLink RX5 119 yX5_letterAt ∈ av_T := av_t4 (List.mem_of_getElem? (i := 62) rfl) rfl
theorem wM_X5_123 : Cond.methodLink RX5 123 yX5_isFigure ∈ av_T := av_t4 (List.mem_of_getElem? (i := 82) rfl) rfl
theorem wM_X5_127 : Cond.methodLink RX5 127 yX5_readLetters ∈ av_T := av_t4 (List.mem_of_getElem? (i := 70) rfl) rfl
theorem wM_X5_131 : Cond.methodLink RX5 131 yX5_isNew ∈ av_T := av_t4 (List.mem_of_getElem? (i := 74) rfl) rfl
theorem wM_X5_134 : Cond.methodLink RX5 134 yX5_readNumbers ∈ av_T := av_t4 (List.mem_of_getElem? (i := 78) rfl) rfl
theorem wM_X5_137 : Cond.methodLink RX5 137 yX5_isTold ∈ av_T := av_t4 (List.mem_of_getElem? (i := 85) rfl) rfl
theorem wM_X5_140 : Cond.methodLink RX5 140 yX5_readRootOf ∈ av_T := av_t4 (List.mem_of_getElem? (i := 66) rfl) rfl
theorem wM_X5_144 : Cond.methodLink RX5 144 yX5_readReaderOf ∈ av_T := av_t4 (List.mem_of_getElem? (i := 89) rfl) rfl
theorem wM_X5_147 : Cond.methodLink RX5 147 yX5_readRiverOf ∈ av_T := av_t4 (List.mem_of_getElem? (i := 93) rfl) rfl
theorem wM_X5_150 : Cond.methodLink RX5 150 yX5_readItem ∈ av_T := av_t4 (List.mem_of_getElem? (i := 58) rfl) rfl
theorem wM_X5_153 : Cond.methodLink RX5 153 yX5_fault ∈ av_T := av_t4 (List.mem_of_getElem? (i := 101) rfl) rfl
theorem wM_X5_160 : Cond.methodLink RX5 160 yX5_copies ∈ av_T := av_t3 (List.mem_of_getElem? (i := 159) rfl) rfl
theorem wM_X5_185 : Cond.methodLink RX5 185 yX5_begins ∈ av_T := av_t4 (List.mem_of_getElem? (i := 122) rfl) rfl
theorem wM_X5_189 : Cond.methodLink RX5 189 yX5_isVerb ∈ av_T := av_t4 (List.mem_of_getElem? (i := 138) rfl) rfl
theorem wM_X5_192 : Cond.methodLink RX5 192 yX5_has ∈ av_T := av_t4 (List.mem_of_getElem? (i := 142) rfl) rfl
theorem wM_X5_196 : Cond.methodLink RX5 196 yX5_fits ∈ av_T := av_t4 (List.mem_of_getElem? (i := 134) rfl) rfl
theorem wM_X5_199 : Cond.methodLink RX5 199 yX5_verbsIn ∈ av_T := av_t4 (List.mem_of_getElem? (i := 145) rfl) rfl
theorem wM_X5_202 : Cond.methodLink RX5 202 yX5_isNext ∈ av_T := av_t4 (List.mem_of_getElem? (i := 130) rfl) rfl
theorem wM_X5_208 : Cond.methodLink RX5 208 yX5_weighs ∈ av_T := av_t4 (List.mem_of_getElem? (i := 157) rfl) rfl
theorem wM_X5_214 : Cond.methodLink RX5 214 yX5_verbs ∈ av_T := av_t4 (List.mem_of_getElem? (i := 161) rfl) rfl
theorem wM_X5_220 : Cond.methodLink RX5 220 yX5_isReader ∈ av_T := av_t4 (List.mem_of_getElem? (i := 110) rfl) rfl
theorem wM_X5_223 : Cond.methodLink RX5 223 yX5_all ∈ av_T := av_t4 (List.mem_of_getElem? (i := 114) rfl) rfl
theorem wM_X5_226 : Cond.methodLink RX5 226 yX5_asWritten ∈ av_T := av_t4 (List.mem_of_getElem? (i := 118) rfl) rfl
theorem wM_X5_229 : Cond.methodLink RX5 229 yX5_manyReadings ∈ av_T := av_t4 (List.mem_of_getElem? (i := 126) rfl) rfl
theorem wM_X5_232 : Cond.methodLink RX5 232 yX5_isReading ∈ av_T := av_t4 (List.mem_of_getElem? (i := 153) rfl) rfl
theorem wM_X5_235 : Cond.methodLink RX5 235 yX5_isTelling ∈ av_T := av_t4 (List.mem_of_getElem? (i := 173) rfl) rfl
theorem wM_X5_238 : Cond.methodLink RX5 238 yX5_deepIn ∈ av_T := av_t4 (List.mem_of_getElem? (i := 201) rfl) rfl
theorem wM_X5_241 : Cond.methodLink RX5 241 yX5_fall ∈ av_T := av_t4 (List.mem_of_getElem? (i := 197) rfl) rfl
theorem wM_X5_244 : Cond.methodLink RX5 244 yX5_remembers ∈ av_T := av_t4 (List.mem_of_getElem? (i := 181) rfl) rfl
theorem wM_X5_247 : Cond.methodLink RX5 247 yX5_verbsBy ∈ av_T := av_t4 (List.mem_of_getElem? (i := 185) rfl) rfl
theorem wM_X5_250 : Cond.methodLink RX5 250 yX5_isFallen ∈ av_T := av_t4 (List.mem_of_getElem? (i := 193) rfl) rfl
theorem wM_X5_253 : Cond.methodLink RX5 253 yX5_lowest ∈ av_T := av_t4 (List.mem_of_getElem? (i := 225) rfl) rfl
theorem wM_X5_257 : Cond.methodLink RX5 257 yX5_isReadable ∈ av_T := av_t4 (List.mem_of_getElem? (i := 232) rfl) rfl
theorem wM_X5_260 : Cond.methodLink RX5 260 yX5_isRow ∈ av_T := av_t5 (List.mem_of_getElem? (i := 4) rfl) rfl
theorem wM_X5_263 : Cond.methodLink RX5 263 yX5_isReadingOf ∈ av_T := av_t5 (List.mem_of_getElem? (i := 0) rfl) rfl
theorem wM_X5_266 : Cond.methodLink RX5 266 yX5_numberOf ∈ av_T := av_t5 (List.mem_of_getElem? (i := 8) rfl) rfl
theorem wM_X5_270 : Cond.methodLink RX5 270 yX5_isSo ∈ av_T := av_t5 (List.mem_of_getElem? (i := 32) rfl) rfl
theorem wM_X5_76 : Cond.methodLink RX5 76 yX5_clearTold ∈ av_T := av_t3 (List.mem_of_getElem? (i := 139) rfl) rfl
theorem wM_X5_79 : Cond.methodLink RX5 79 yX5_tellsAll ∈ av_T := av_t3 (List.mem_of_getElem? (i := 143) rfl) rfl
theorem wM_X5_82 : Cond.methodLink RX5 82 yX5_settles ∈ av_T := av_t3 (List.mem_of_getElem? (i := 155) rfl) rfl
theorem wM_X5_92 : Cond.methodLink RX5 92 yX5_tellsRoot ∈ av_T := av_t3 (List.mem_of_getElem? (i := 147) rfl) rfl
theorem wM_X5_96 : Cond.methodLink RX5 96 yX5_tellsReader ∈ av_T := av_t3 (List.mem_of_getElem? (i := 151) rfl) rfl
theorem wK_X4_175 : Cond.constant RX4 175 (Int32.ofInt 65535) ∈ av_T := av_t2 (List.mem_of_getElem? (i := 134) rfl) rfl
theorem wK_J6_265 : Cond.constant RJ6 265 (Int32.ofInt 1431655765) ∈ av_T := av_t3 (List.mem_of_getElem? (i := 105) rfl) rfl
theorem wK_J6_266 : Cond.constant RJ6 266 (Int32.ofInt 858993459) ∈ av_T := av_t3 (List.mem_of_getElem? (i := 106) rfl) rfl
theorem wK_J6_267 : Cond.constant RJ6 267 (Int32.ofInt 252645135) ∈ av_T := av_t3 (List.mem_of_getElem? (i := 107) rfl) rfl
theorem wK_X4_236 : Cond.constantLong RX4 236 (Int64.ofInt 7919) ∈ av_T := av_t3 (List.mem_of_getElem? (i := 118) rfl) rfl
theorem wK_X4_238 : Cond.constantLong RX4 238 (Int64.ofInt 6151) ∈ av_T := av_t3 (List.mem_of_getElem? (i := 119) rfl) rfl
theorem wK_X4_240 : Cond.constantLong RX4 240 (Int64.ofInt 65521) ∈ av_T := av_t3 (List.mem_of_getElem? (i := 120) rfl) rfl
theorem wK_X5_273 : Cond.constantLong RX5 273 (Int64.ofInt 7919) ∈ av_T := av_t5 (List.mem_of_getElem? (i := 44) rfl) rfl
theorem wK_X5_275 : Cond.constantLong RX5 275 (Int64.ofInt 6151) ∈ av_T := av_t5 (List.mem_of_getElem? (i := 45) rfl) rfl
theorem wK_X5_277 : Cond.constantLong RX5 277 (Int64.ofInt 65521) ∈ av_T := av_t5 (List.mem_of_getElem? (i := 46) rfl) rfl
end
section
/-! A small machine over the kit's rows: values are Ints and places of cells; memory is a function of cell and slot; every method of a side stands over the whole world of that side. -/
abbrev av_V : Type := Int ⊕ (Int ⊕ Nat)
abbrev av_i (x : Int) : av_V := .inl x
abbrev av_l (x : Int) : av_V := .inr (.inl x)
abbrev av_r (i : Nat) : av_V := .inr (.inr i)
def av_c (ad : Nat → Nat) (v : av_V) : Value := match v with
  | .inl x => .int (Int32.ofInt x)
  | .inr (.inl x) => .long (Int64.ofInt x)
  | .inr (.inr i) => .ref (ad i)
abbrev av_M : Type := Nat → Nat → Int
abbrev av_S : Type := (Nat × Nat) ⊕ (Nat × List (Option Nat))
abbrev av_E : Type := Launch × va_G × (Nat → Nat) × (Nat → ClassId)
def av_e (E : av_E) (σ : av_M) (i : Nat) (sh : av_S) : va_E := match sh with
  | .inl tn => .inl (E.2.2.2 tn.1, tn.2, .inl (fun j => Int32.ofInt (σ i j)))
  | .inr cf => .inr (cf.1, cf.2.mapIdx (fun k o => match o with | some r => Value.ref (E.2.2.1 r) | none => Value.int (Int32.ofInt (σ i k))))
def av_w (E : av_E) (SH : List av_S) (σ : av_M) : va_W := SH.mapIdx (fun i sh => (E.2.2.1 i, av_e E σ i sh))
def av_st (σ : av_M) (i k : Nat) (x : Int) : av_M := fun a b => if a = i ∧ b = k then x else σ a b
def av_cp (σ : av_M) (f s t d n : Nat) : av_M := fun a b => if a = t ∧ d ≤ b ∧ b < d + n then σ f (s + (b - d)) else σ a b
def av_A (E : av_E) (SH : List av_S) : Nat → Prop := fun q => ∃ i, i < SH.length ∧ q = E.2.2.1 i
def av_R (E : av_E) (SH : List av_S) (H : Heap) (σ : av_M) : Prop := va_P E.2.1 vwCl (av_w E SH σ) H ∧ va_D (av_A E SH) (av_w E SH σ)
abbrev av_ty (E : av_E) : List (ClassId × FieldType) := [(E.2.2.2 0, .int), (E.2.2.2 1, .char)]
def av_N (U : State) : Prop := va_Nw (.methodLinkNest RX3 53 yX4_lettersIn RX4) U ∧ va_Nw (.methodLinkNest RX0 35 yX4_lettersIn RX4) U ∧ va_Nw (.methodLinkNest RX0 76 yX4_holds RX4) U ∧ va_Nw (.methodLinkNest RX3 72 yX4_holds RX4) U
def av_K (E : av_E) (U : State) : Prop := va_K E.2.1 vwCl (av_ty E) U ∧ av_N U
theorem av_K.warm {E : av_E} {s U : State} (h : av_K E s) (hW : s.WarmedH U.vm) : av_K E U :=
  ⟨va_K.moved hW.alike h.1, va_Nw.warmM hW h.2.1, va_Nw.warmM hW h.2.2.1, va_Nw.warmM hW h.2.2.2.1, va_Nw.warmM hW h.2.2.2.2⟩
theorem av_K.same {E : av_E} {s U : State} (h : av_K E s) (hv : s.vm = U.vm) : av_K E U := by
  refine ⟨va_K.moved (by rw [hv]; exact Vm.Alike.refl _) h.1, va_Nw.same rfl hv h.2.1, va_Nw.same rfl hv h.2.2.1, va_Nw.same rfl hv h.2.2.2.1, va_Nw.same rfl hv h.2.2.2.2⟩
def av_ws (M : av_Y) : List Cond := .code M.1 M.2.1 M.2.2.1 M.2.2.2.1 :: av_T
def av_rm (M : av_Y) : Room := { frames := M.2.2.2.2.1, cells := 0, slots := 0, locals := M.2.2.2.2.2 }
def av_Q (E : av_E) (SH : List av_S) (Q : Option av_V → av_M → Prop) : Array Value → State → Outcome → State → Prop := fun _ st oc t =>
  (∃ (v : Option av_V) (σ : av_M), oc = .returned (v.map (av_c E.2.2.1)) ∧ Q v σ ∧ av_R E SH t.heap σ) ∧ va_F (av_A E SH) st t
/-- the call of a method: it returns, and what Q says holds of its answer and of the memory then -/
def av_C (E : av_E) (SH : List av_S) (M : av_Y) (as : List av_V) (σ : av_M) (Q : Option av_V → av_M → Prop) : Prop :=
  Met E.1 M.1 (av_ws M) (av_rm M) (va_Pc (as.map (av_c E.2.2.1)) (fun U => av_R E SH U.heap σ ∧ av_K E U)) (av_Q E SH Q) 0 0 (av_A E SH)
def av_L (E : av_E) (n : Nat) (L : List (Option av_V)) (ls : Array Slot) : Prop := ls.size = n ∧ lv_wf ls ∧ ∀ (i : Nat) (v : av_V), L[i]? = some (some v) → ls[i]? = some (.val (av_c E.2.2.1 v))
def av_X (E : av_E) (M : av_Y) (p : Program) (s : State) (m : MethodId) (args : Array Value) (meth : Method) (c : Code) : Prop :=
  p.tables.exec = Jvm.exec ∧ c.code = M.2.1 ∧ meth.sig.returnType = M.2.2.2.1 ∧ c.maxLocals = M.2.2.1 ∧ (∀ w ∈ av_ws M, w.before args s = true) ∧ s.vm.findClass M.1.cls = some m.cls ∧ meth.locks = false ∧ av_K E s
/-- from this place of a method on: it returns, and Q holds then -/
def av_W (E : av_E) (SH : List av_S) (M : av_Y) (pc : Nat) (L : List (Option av_V)) (st : List av_V) (σ : av_M) (Q : Option av_V → av_M → Prop) : Prop :=
  ∀ (p : Program) (e : Env) (s : State) (m : MethodId) (args : Array Value) (below : List Frame) (meth : Method) (c : Code) (H : Heap) (locs : List Loc) (ls : Array Slot),
    av_X E M p s m args meth c → av_R E SH H σ → va_S (av_A E SH) s.heap H locs → av_L E M.2.2.1 L ls →
    W p E.1 e (av_rm M) s m args below meth c H locs 0 0 (MQ below (av_Q E SH Q) args s 0 0 (av_A E SH)) (F0 m pc ls (st.map (av_c E.2.2.1)))
def i32 (x : Int) : Int := x.bmod 4294967296
def i64 (x : Int) : Int := x.bmod 18446744073709551616
theorem i32_of {x : Int} (h1 : -2147483648 ≤ x) (h2 : x < 2147483648) : i32 x = x := Int.bmod_eq_of_le (by omega) (by omega)
theorem i64_of {x : Int} (h1 : -9223372036854775808 ≤ x) (h2 : x < 9223372036854775808) : i64 x = x := Int.bmod_eq_of_le (by omega) (by omega)
theorem i32_toInt (x : Int) : (Int32.ofInt x).toInt = i32 x := Int32.toInt_ofInt
theorem i64_toInt (x : Int) : (Int64.ofInt x).toInt = i64 x := Int64.toInt_ofInt
theorem i32_lt {x y : Int} : Int32.ofInt x < Int32.ofInt y ↔ i32 x < i32 y := by rw [Int32.lt_iff_toInt_lt, i32_toInt, i32_toInt]
theorem i32_le {x y : Int} : Int32.ofInt x ≤ Int32.ofInt y ↔ i32 x ≤ i32 y := by rw [Int32.le_iff_toInt_le, i32_toInt, i32_toInt]
theorem i32_eq {x y : Int} : Int32.ofInt x = Int32.ofInt y ↔ i32 x = i32 y := by rw [← Int32.toInt_inj, i32_toInt, i32_toInt]
theorem i32_0 : (0 : Int32) = Int32.ofInt 0 := rfl
theorem i32_z : i32 0 = 0 := by decide
theorem i32_tdiv (x y : Int) : Int32.ofInt x / Int32.ofInt y = Int32.ofInt ((i32 x).tdiv (i32 y)) := by
  apply Int32.toInt_inj.1
  rw [Int32.toInt_div, i32_toInt, i32_toInt, i32_toInt]
  rfl
theorem i32_self (x : Int) : Int32.ofInt (i32 x) = Int32.ofInt x := by rw [← i32_toInt, Int32.ofInt_toInt]
theorem i64_self (x : Int) : Int64.ofInt (i64 x) = Int64.ofInt x := by rw [← i64_toInt, Int64.ofInt_toInt]
theorem i64_tdiv (x y : Int) : Int64.ofInt x / Int64.ofInt y = Int64.ofInt ((i64 x).tdiv (i64 y)) := by
  apply Int64.toInt_inj.1
  rw [Int64.toInt_div, i64_toInt, i64_toInt, i64_toInt]
  rfl
theorem i32_tmod (x y : Int) : Int32.ofInt x - Int32.ofInt x / Int32.ofInt y * Int32.ofInt y = Int32.ofInt ((i32 x).tmod (i32 y)) := by
  rw [i32_tdiv, ← i32_self x, ← i32_self y, ← Int32.ofInt_mul, ← Int32.ofInt_sub, Int.tmod_def, Int.mul_comm ((i32 x).tdiv (i32 y))]
theorem i64_tmod (x y : Int) : Int64.ofInt x - Int64.ofInt x / Int64.ofInt y * Int64.ofInt y = Int64.ofInt ((i64 x).tmod (i64 y)) := by
  rw [i64_tdiv, ← i64_self x, ← i64_self y, ← Int64.ofInt_mul, ← Int64.ofInt_sub, Int.tmod_def, Int.mul_comm ((i64 x).tdiv (i64 y))]
def i_and (x y : Int) : Int := (Int32.ofInt x &&& Int32.ofInt y).toInt
def i_or (x y : Int) : Int := (Int32.ofInt x ||| Int32.ofInt y).toInt
def i_xor (x y : Int) : Int := (Int32.ofInt x ^^^ Int32.ofInt y).toInt
def i_shl (x y : Int) : Int := (Int32.ofInt x <<< (Int32.ofInt y &&& 31)).toInt
def i_shr (x y : Int) : Int := (Int32.ofInt x >>> (Int32.ofInt y &&& 31)).toInt
def i_ushr (x y : Int) : Int := (((Int32.ofInt x).toUInt32 >>> ((Int32.ofInt y).toUInt32 &&& Int32.toUInt32 31)).toInt32).toInt
abbrev rg (x : Int) : Prop := -2147483648 ≤ x ∧ x < 2147483648
abbrev rg6 (x : Int) : Prop := -9223372036854775808 ≤ x ∧ x < 9223372036854775808
def i_cmp (x y : Int) : Int := if x > y then 1 else if x = y then 0 else -1
theorem i_cmp_lg {x y : Int} (hx : rg6 x) (hy : rg6 y) : lg_cmp (Int64.ofInt x) (Int64.ofInt y) = Int32.ofInt (i_cmp x y) := by
  have ex := i64_of hx.1 hx.2
  have ey := i64_of hy.1 hy.2
  have h1 : Int64.ofInt x > Int64.ofInt y ↔ x > y := by
    show Int64.ofInt y < Int64.ofInt x ↔ _
    rw [Int64.lt_iff_toInt_lt, i64_toInt, i64_toInt, ex, ey]
  have h2 : Int64.ofInt x = Int64.ofInt y ↔ x = y := by rw [← Int64.toInt_inj, i64_toInt, i64_toInt, ex, ey]
  unfold lg_cmp i_cmp
  simp only [h1, h2]
  split
  · rfl
  · split <;> rfl
-- the world, cell by cell
theorem av_w_at {E : av_E} {SH : List av_S} {σ : av_M} {i : Nat} {sh : av_S} (h : SH[i]? = some sh) : (av_w E SH σ)[i]? = some (E.2.2.1 i, av_e E σ i sh) := by
  simp [av_w, List.getElem?_mapIdx, h]
theorem av_w_set {E : av_E} {SH : List av_S} {σ σ' : av_M} {i : Nat} {sh : av_S} {x : va_E} (h : SH[i]? = some sh) (he : av_e E σ' i sh = x) (ho : ∀ j sh', j ≠ i → av_e E σ' j sh' = av_e E σ j sh') : (av_w E SH σ).set i (E.2.2.1 i, x) = av_w E SH σ' := by
  apply List.ext_getElem?
  intro j
  rw [List.getElem?_set]
  have hl : i < (av_w E SH σ).length := by
    have := (List.getElem?_eq_some_iff.mp h).1
    simpa [av_w] using this
  by_cases hij : i = j
  · subst hij
    rw [if_pos rfl, if_pos hl, av_w_at h, he]
  · rw [if_neg hij]
    simp only [av_w, List.getElem?_mapIdx]
    cases hs : SH[j]? with
    | none => rfl
    | some sh' => simp [ho j sh' (fun e => hij e.symm)]
theorem av_e_congr {E : av_E} {σ σ' : av_M} {j : Nat} {sh : av_S} (h : ∀ k, σ' j k = σ j k) : av_e E σ' j sh = av_e E σ j sh := by
  cases sh with
  | inl tn => simp [av_e, h]
  | inr cf => simp [av_e, h]
theorem av_st_ne {σ : av_M} {i k j : Nat} {x : Int} (h : j ≠ i) (q : Nat) : av_st σ i k x j q = σ j q := by simp [av_st, h]
theorem av_cp_ne {σ : av_M} {f s t d n j : Nat} (h : j ≠ t) (q : Nat) : av_cp σ f s t d n j q = σ j q := by simp [av_cp, h]
theorem av_e_arr {E : av_E} {σ : av_M} {i k t n : Nat} {x : Int} : av_e E (av_st σ i k x) i (.inl (t, n)) = .inl (E.2.2.2 t, n, .inl (upd (fun j => Int32.ofInt (σ i j)) k (Int32.ofInt x))) := by
  simp only [av_e, av_st]
  congr 3
  congr 1
  funext j
  by_cases hj : j = k
  · simp [hj, upd]
  · simp [hj, upd]
theorem av_e_obj {E : av_E} {σ : av_M} {i k ci : Nat} {fs : List (Option Nat)} {x : Int} (h : fs[k]? = some none) :
    av_e E (av_st σ i k x) i (.inr (ci, fs)) = .inr (ci, (fs.mapIdx (fun k o => match o with | some r => Value.ref (E.2.2.1 r) | none => Value.int (Int32.ofInt (σ i k)))).set k (Value.int (Int32.ofInt x))) := by
  simp only [av_e]
  congr 2
  apply List.ext_getElem?
  intro j
  rw [List.getElem?_set]
  have hl := (List.getElem?_eq_some_iff.mp h).1
  by_cases hj : k = j
  · subst hj
    rw [if_pos rfl, if_pos (by simpa using hl)]
    simp [List.getElem?_mapIdx, h, av_st]
  · rw [if_neg hj]
    simp only [List.getElem?_mapIdx]
    cases hs : fs[j]? with
    | none => rfl
    | some o =>
      cases o with
      | none =>
        have hjk : ¬ j = k := fun e => hj e.symm
        simp [av_st, hjk]
      | some r => rfl
theorem av_A_in {E : av_E} {SH : List av_S} {i : Nat} {sh : av_S} (h : SH[i]? = some sh) : av_A E SH (E.2.2.1 i) := ⟨i, (List.getElem?_eq_some_iff.mp h).1, rfl⟩
-- locals
def av_clr (L : List (Option av_V)) (i : Nat) : List (Option av_V) := match i with
  | 0 => L
  | j + 1 => match L[j]? with
    | some (some (.inr (.inl _))) => L.set j none
    | _ => L
def av_s1 (L : List (Option av_V)) (i : Nat) (v : av_V) : List (Option av_V) := (av_clr L i).set i (some v)
def av_s2 (L : List (Option av_V)) (i : Nat) (v : av_V) : List (Option av_V) := ((av_clr L i).set (i + 1) none).set i (some v)
def av_ll (ad : Nat → Nat) (L : List (Option av_V)) : List (Nat × Value) := (List.range L.length).filterMap (fun i => match L[i]? with | some (some v) => some (i, av_c ad v) | _ => none)
theorem av_ll_mem {ad : Nat → Nat} {L : List (Option av_V)} {q : Nat × Value} : q ∈ av_ll ad L ↔ ∃ v, L[q.1]? = some (some v) ∧ q.2 = av_c ad v := by
  unfold av_ll
  rw [List.mem_filterMap]
  constructor
  · rintro ⟨i, hi, h⟩
    split at h
    · rename_i v hv
      cases h
      exact ⟨v, hv, rfl⟩
    · cases h
  · rintro ⟨v, hv, he⟩
    refine ⟨q.1, ?_, ?_⟩
    · exact List.mem_range.mpr (List.getElem?_eq_some_iff.mp hv).1
    · rw [hv]
      show some (q.1, av_c ad v) = some q
      rw [← he]
theorem av_L.has {E : av_E} {n : Nat} {L : List (Option av_V)} {ls : Array Slot} (h : av_L E n L ls) : lv_has ls n (av_ll E.2.2.1 L) :=
  ⟨h.1, h.2.1, fun q hq => by
    obtain ⟨v, h1, h2⟩ := av_ll_mem.mp hq
    rw [h2]
    exact h.2.2 _ _ h1⟩
theorem av_clr_get {L : List (Option av_V)} {i j : Nat} {v : av_V} (h : (av_clr L i)[j]? = some (some v)) : L[j]? = some (some v) ∧ ∀ x, j + 1 = i → v ≠ .inr (.inl x) := by
  unfold av_clr at h
  split at h
  · exact ⟨h, fun x hx => by omega⟩
  · rename_i k
    split at h
    · rename_i y hy
      rw [List.getElem?_set] at h
      by_cases hjk : k = j
      · subst hjk
        rw [if_pos rfl] at h
        split at h <;> simp at h
      · rw [if_neg hjk] at h
        exact ⟨h, fun x hx => by omega⟩
    · rename_i hno
      refine ⟨h, fun x hx e => ?_⟩
      subst e
      have : j = k := by omega
      subst this
      exact hno x h
theorem av_c_cat {ad : Nat → Nat} {v : av_V} : (av_c ad v).category = 2 → ∃ x, v = .inr (.inl x) := by
  intro h
  cases v with
  | inl x => simp [av_c, Value.category] at h
  | inr w => cases w with
    | inl x => exact ⟨x, rfl⟩
    | inr x => simp [av_c, Value.category] at h
theorem av_L.s1 {E : av_E} {n i : Nat} {L : List (Option av_V)} {ls : Array Slot} {v : av_V} {w : Value} (hw : av_c E.2.2.1 v = w) (h : lv_has ls n ((i, w) :: (av_ll E.2.2.1 L).filter (fun q => !(q.1 == i) && !(q.1 + 1 == i && q.2.category == 2)))) : av_L E n (av_s1 L i v) ls := by
  refine ⟨h.1, h.2.1, fun j u hj => ?_⟩
  unfold av_s1 at hj
  rw [List.getElem?_set] at hj
  by_cases hij : i = j
  · subst hij
    rw [if_pos rfl] at hj
    split at hj
    · cases hj
      rw [hw]
      exact h.2.2 _ List.mem_cons_self
    · simp at hj
  · rw [if_neg hij] at hj
    obtain ⟨h1, h2⟩ := av_clr_get hj
    refine h.2.2 (j, av_c E.2.2.1 u) (List.mem_cons_of_mem _ (List.mem_filter.mpr ⟨av_ll_mem.mpr ⟨u, h1, rfl⟩, ?_⟩))
    have e1 : (j == i) = false := by simp; omega
    simp only [e1, Bool.not_false, Bool.true_and]
    by_cases hji : j + 1 = i
    · have hc : ¬ (av_c E.2.2.1 u).category = 2 := fun hc => by
        obtain ⟨x, hx⟩ := av_c_cat hc
        exact h2 x hji hx
      simp [hc]
    · simp [hji]
theorem av_L.s2 {E : av_E} {n i : Nat} {L : List (Option av_V)} {ls : Array Slot} {v : av_V} {w : Value} (hw : av_c E.2.2.1 v = w) (h : lv_has ls n ((i, w) :: (av_ll E.2.2.1 L).filter (fun q => !(q.1 == i) && (!(q.1 == i + 1) && !(q.1 + 1 == i && q.2.category == 2))))) : av_L E n (av_s2 L i v) ls := by
  refine ⟨h.1, h.2.1, fun j u hj => ?_⟩
  unfold av_s2 at hj
  rw [List.getElem?_set] at hj
  by_cases hij : i = j
  · subst hij
    rw [if_pos rfl] at hj
    split at hj
    · cases hj
      rw [hw]
      exact h.2.2 _ List.mem_cons_self
    · simp at hj
  · rw [if_neg hij, List.getElem?_set] at hj
    by_cases hi1 : i + 1 = j
    · rw [if_pos hi1] at hj
      split at hj <;> simp at hj
    · rw [if_neg hi1] at hj
      obtain ⟨h1, h2⟩ := av_clr_get hj
      refine h.2.2 (j, av_c E.2.2.1 u) (List.mem_cons_of_mem _ (List.mem_filter.mpr ⟨av_ll_mem.mpr ⟨u, h1, rfl⟩, ?_⟩))
      have e1 : (j == i) = false := by simp; omega
      have e2 : (j == i + 1) = false := by simp; omega
      simp only [e1, e2, Bool.not_false, Bool.true_and]
      by_cases hji : j + 1 = i
      · have hc : ¬ (av_c E.2.2.1 u).category = 2 := fun hc => by
          obtain ⟨x, hx⟩ := av_c_cat hc
          exact h2 x hji hx
        simp [hc]
      · simp [hji]
end
section
theorem av_chr {x : Int} (h1 : 0 ≤ x) (h2 : x < 65536) : ((Int32.ofInt x).toUInt32 % 65536).toInt32 = Int32.ofInt x := by
  obtain ⟨n, rfl⟩ := Int.eq_ofNat_of_zero_le h1
  have hn : n < 65536 := by omega
  rw [Int32.ofInt_eq_ofNat]
  show ((nI n).toUInt32 % 65536).toInt32 = nI n
  rw [pk_char, pk_tn (by omega), Nat.mod_eq_of_lt hn]
theorem av_nchr {x : Int} (h1 : 0 ≤ x) (h2 : x < 65536) : narrow .char (.int (Int32.ofInt x)) = .int (Int32.ofInt x) := by
  obtain ⟨n, rfl⟩ := Int.eq_ofNat_of_zero_le h1
  have hn : n < 65536 := by omega
  rw [Int32.ofInt_eq_ofNat]
  exact (pk_charN hn).1
theorem av_nc {x : Int} (h1 : 0 ≤ x) (h2 : x < 65536) : vp_nar .char (Int32.ofInt x) = Int32.ofInt x := by
  unfold vp_nar
  rw [av_nchr h1 h2]
theorem av_c1 {ad : Nat → Nat} {v : av_V} (h : ∀ x, v ≠ .inr (.inl x)) : (av_c ad v).category = 1 := by
  cases v with
  | inl x => rfl
  | inr w => cases w with
    | inl x => exact absurd rfl (h x)
    | inr x => rfl
theorem av_ix {j : Int} {n : Nat} (hj : 0 ≤ j ∧ j < n) (hn : n ≤ 2147483647) : (Int32.ofInt j).toNatClampNeg = j.toNat := Int32.toNatClampNeg_ofInt_of_le (by omega) (by omega)
theorem av_in {j : Int} {n : Nat} (hj : 0 ≤ j ∧ j < n) (hn : n ≤ 2147483647) : vp_in (Int32.ofInt j) n := by
  rw [vp_in_iff, i32_toInt, i32_of (by omega) (by omega)]
  exact hj
def av_mask (mask : List Bool) (L : List (Option av_V)) : List (Option av_V) := match mask, L with
  | [], _ => []
  | _, [] => []
  | b :: bs, v :: vs => (if b = true then v else none) :: av_mask bs vs
theorem av_mask_get : ∀ {mask : List Bool} {L : List (Option av_V)} {i : Nat} {v : av_V}, (av_mask mask L)[i]? = some (some v) → L[i]? = some (some v)
  | [], L, i, v, h => by simp [av_mask] at h
  | b :: bs, [], i, v, h => by simp [av_mask] at h
  | b :: bs, w :: vs, 0, v, h => by
    simp only [av_mask, List.getElem?_cons_zero] at h ⊢
    cases b <;> simp_all
  | b :: bs, w :: vs, i + 1, v, h => by
    simp only [av_mask, List.getElem?_cons_succ] at h ⊢
    exact av_mask_get h
section AVI
variable {E : av_E} {SH : List av_S} {M : av_Y} {pc : Nat} {L L' : List (Option av_V)} {st : List av_V} {σ : av_M} {Q : Option av_V → av_M → Prop}

theorem av_iconst {n : Int} (hd : decode M.2.1 pc = .ok (.iconst n, 1)) (k : av_W E SH M (pc + 1) L (.inl n :: st) σ Q) : av_W E SH M pc L (st) σ Q := by
  intro p e s m args below meth c H locs ls C R S hl
  exact lv_iconst C.1 C.2.1 hd rfl (k p e s m args below meth c H locs ls C R S hl)

theorem av_bipush {n : Int} (hd : decode M.2.1 pc = .ok (.bipush n, 2)) (hn : (Int8.ofInt n).toInt32 = Int32.ofInt n) (k : av_W E SH M (pc + 2) L (.inl n :: st) σ Q) : av_W E SH M pc L (st) σ Q := by
  intro p e s m args below meth c H locs ls C R S hl
  exact lv_bipush C.1 C.2.1 hd hn (k p e s m args below meth c H locs ls C R S hl)

theorem av_sipush {n : Int} (hd : decode M.2.1 pc = .ok (.sipush n, 3)) (hn : (Int16.ofInt n).toInt32 = Int32.ofInt n) (k : av_W E SH M (pc + 3) L (.inl n :: st) σ Q) : av_W E SH M pc L (st) σ Q := by
  intro p e s m args below meth c H locs ls C R S hl
  exact lv_sipush C.1 C.2.1 hd hn (k p e s m args below meth c H locs ls C R S hl)

theorem av_lconst {n : Fin 2} {x : Int} (hd : decode M.2.1 pc = .ok (.lconst n, 1)) (hn : Int64.ofNat (n : Nat) = Int64.ofInt x) (k : av_W E SH M (pc + 1) L (.inr (.inl x) :: st) σ Q) : av_W E SH M pc L (st) σ Q := by
  intro p e s m args below meth c H locs ls C R S hl
  exact lv_lconst C.1 C.2.1 hd hn (k p e s m args below meth c H locs ls C R S hl)

theorem av_ldc {idx : Nat} {n : Int} {own : String} (hd : decode M.2.1 pc = .ok (.ldc idx, 2)) (ho : own = M.1.cls) (hw : Cond.constant own idx (Int32.ofInt n) ∈ av_T) (k : av_W E SH M (pc + 2) L (.inl n :: st) σ Q) : av_W E SH M pc L (st) σ Q := by
  intro p e s m args below meth c H locs ls C R S hl
  subst ho
  exact lv_ldc C.1 C.2.1 C.2.2.2.2.2.1 (C.2.2.2.2.1 _ (List.mem_cons_of_mem _ hw)) hd (k p e s m args below meth c H locs ls C R S hl)

theorem av_ldcw {idx : Nat} {n : Int} {own : String} (hd : decode M.2.1 pc = .ok (.ldc_w idx, 3)) (ho : own = M.1.cls) (hw : Cond.constant own idx (Int32.ofInt n) ∈ av_T) (k : av_W E SH M (pc + 3) L (.inl n :: st) σ Q) : av_W E SH M pc L (st) σ Q := by
  intro p e s m args below meth c H locs ls C R S hl
  subst ho
  exact lv_ldcw C.1 C.2.1 C.2.2.2.2.2.1 (C.2.2.2.2.1 _ (List.mem_cons_of_mem _ hw)) hd (k p e s m args below meth c H locs ls C R S hl)

theorem av_ldc2 {idx : Nat} {n : Int} {own : String} (hd : decode M.2.1 pc = .ok (.ldc2_w idx, 3)) (ho : own = M.1.cls) (hw : Cond.constantLong own idx (Int64.ofInt n) ∈ av_T) (k : av_W E SH M (pc + 3) L (.inr (.inl n) :: st) σ Q) : av_W E SH M pc L (st) σ Q := by
  intro p e s m args below meth c H locs ls C R S hl
  subst ho
  exact lv_ldc2 C.1 C.2.1 C.2.2.2.2.2.1 (C.2.2.2.2.1 _ (List.mem_cons_of_mem _ hw)) hd (k p e s m args below meth c H locs ls C R S hl)

theorem av_iload_n {j : Fin 4} {i : Nat} {x : Int} (hd : decode M.2.1 pc = .ok (.iload_n j, 1)) (hi : (j : Nat) = i) (hx : L[i]? = some (some (.inl x))) (k : av_W E SH M (pc + 1) L (.inl x :: st) σ Q) : av_W E SH M pc L (st) σ Q := by
  intro p e s m args below meth c H locs ls C R S hl
  exact lv_iload_n C.1 C.2.1 hd hi (hl.2.2 _ _ hx) (k p e s m args below meth c H locs ls C R S hl)

theorem av_iload {i : Nat} {x : Int} (hd : decode M.2.1 pc = .ok (.iload i, 2)) (hx : L[i]? = some (some (.inl x))) (k : av_W E SH M (pc + 2) L (.inl x :: st) σ Q) : av_W E SH M pc L (st) σ Q := by
  intro p e s m args below meth c H locs ls C R S hl
  exact lv_iload C.1 C.2.1 hd (hl.2.2 _ _ hx) (k p e s m args below meth c H locs ls C R S hl)

theorem av_lload_n {j : Fin 4} {i : Nat} {x : Int} (hd : decode M.2.1 pc = .ok (.lload_n j, 1)) (hi : (j : Nat) = i) (hx : L[i]? = some (some (.inr (.inl x)))) (k : av_W E SH M (pc + 1) L (.inr (.inl x) :: st) σ Q) : av_W E SH M pc L (st) σ Q := by
  intro p e s m args below meth c H locs ls C R S hl
  exact lv_lload_n C.1 C.2.1 hd hi (hl.2.2 _ _ hx) (k p e s m args below meth c H locs ls C R S hl)

theorem av_lload {i : Nat} {x : Int} (hd : decode M.2.1 pc = .ok (.lload i, 2)) (hx : L[i]? = some (some (.inr (.inl x)))) (k : av_W E SH M (pc + 2) L (.inr (.inl x) :: st) σ Q) : av_W E SH M pc L (st) σ Q := by
  intro p e s m args below meth c H locs ls C R S hl
  exact lv_lload C.1 C.2.1 hd (hl.2.2 _ _ hx) (k p e s m args below meth c H locs ls C R S hl)

theorem av_aload_n {j : Fin 4} {i : Nat} {x : Nat} (hd : decode M.2.1 pc = .ok (.aload_n j, 1)) (hi : (j : Nat) = i) (hx : L[i]? = some (some (.inr (.inr x)))) (k : av_W E SH M (pc + 1) L (.inr (.inr x) :: st) σ Q) : av_W E SH M pc L (st) σ Q := by
  intro p e s m args below meth c H locs ls C R S hl
  exact lv_aload_n C.1 C.2.1 hd hi (hl.2.2 _ _ hx) (k p e s m args below meth c H locs ls C R S hl)

theorem av_aload {i : Nat} {x : Nat} (hd : decode M.2.1 pc = .ok (.aload i, 2)) (hx : L[i]? = some (some (.inr (.inr x)))) (k : av_W E SH M (pc + 2) L (.inr (.inr x) :: st) σ Q) : av_W E SH M pc L (st) σ Q := by
  intro p e s m args below meth c H locs ls C R S hl
  exact lv_aload C.1 C.2.1 hd (hl.2.2 _ _ hx) (k p e s m args below meth c H locs ls C R S hl)

theorem av_istore_n {j : Fin 4} {i : Nat} {x : Int} (hd : decode M.2.1 pc = .ok (.istore_n j, 1)) (hi : (j : Nat) = i) (hb : i < M.2.2.1) (hL : av_s1 L i (.inl x) = L') (k : av_W E SH M (pc + 1) L' st σ Q) : av_W E SH M pc L (.inl x :: st) σ Q := by
  intro p e s m args below meth c H locs ls C R S hl
  subst hL
  exact lv_istore_n C.1 C.2.1 hd hi hl.has hb rfl (fun ls' hl' => k p e s m args below meth c H locs ls' C R S (av_L.s1 rfl hl'))

theorem av_istore {i : Nat} {x : Int} (hd : decode M.2.1 pc = .ok (.istore i, 2)) (hb : i < M.2.2.1) (hL : av_s1 L i (.inl x) = L') (k : av_W E SH M (pc + 2) L' st σ Q) : av_W E SH M pc L (.inl x :: st) σ Q := by
  intro p e s m args below meth c H locs ls C R S hl
  subst hL
  exact lv_istore C.1 C.2.1 hd hl.has hb rfl (fun ls' hl' => k p e s m args below meth c H locs ls' C R S (av_L.s1 rfl hl'))

theorem av_lstore_n {j : Fin 4} {i : Nat} {x : Int} (hd : decode M.2.1 pc = .ok (.lstore_n j, 1)) (hi : (j : Nat) = i) (hb : i + 1 < M.2.2.1) (hL : av_s2 L i (.inr (.inl x)) = L') (k : av_W E SH M (pc + 1) L' st σ Q) : av_W E SH M pc L (.inr (.inl x) :: st) σ Q := by
  intro p e s m args below meth c H locs ls C R S hl
  subst hL
  exact lv_lstore_n C.1 C.2.1 hd hi hl.has hb rfl (fun ls' hl' => k p e s m args below meth c H locs ls' C R S (av_L.s2 rfl hl'))

theorem av_lstore {i : Nat} {x : Int} (hd : decode M.2.1 pc = .ok (.lstore i, 2)) (hb : i + 1 < M.2.2.1) (hL : av_s2 L i (.inr (.inl x)) = L') (k : av_W E SH M (pc + 2) L' st σ Q) : av_W E SH M pc L (.inr (.inl x) :: st) σ Q := by
  intro p e s m args below meth c H locs ls C R S hl
  subst hL
  exact lv_lstore C.1 C.2.1 hd hl.has hb rfl (fun ls' hl' => k p e s m args below meth c H locs ls' C R S (av_L.s2 rfl hl'))

theorem av_astore_n {j : Fin 4} {i : Nat} {x : Nat} (hd : decode M.2.1 pc = .ok (.astore_n j, 1)) (hi : (j : Nat) = i) (hb : i < M.2.2.1) (hL : av_s1 L i (.inr (.inr x)) = L') (k : av_W E SH M (pc + 1) L' st σ Q) : av_W E SH M pc L (.inr (.inr x) :: st) σ Q := by
  intro p e s m args below meth c H locs ls C R S hl
  subst hL
  exact lv_astore_n C.1 C.2.1 hd hi hl.has hb rfl (fun ls' hl' => k p e s m args below meth c H locs ls' C R S (av_L.s1 rfl hl'))

theorem av_astore {i : Nat} {x : Nat} (hd : decode M.2.1 pc = .ok (.astore i, 2)) (hb : i < M.2.2.1) (hL : av_s1 L i (.inr (.inr x)) = L') (k : av_W E SH M (pc + 2) L' st σ Q) : av_W E SH M pc L (.inr (.inr x) :: st) σ Q := by
  intro p e s m args below meth c H locs ls C R S hl
  subst hL
  exact lv_astore C.1 C.2.1 hd hl.has hb rfl (fun ls' hl' => k p e s m args below meth c H locs ls' C R S (av_L.s1 rfl hl'))

theorem av_iinc {i : Nat} {x n y : Int} (hd : decode M.2.1 pc = .ok (.iinc i n, 3)) (hx : L[i]? = some (some (.inl x))) (hb : i < M.2.2.1) (hy : x + n = y) (hL : av_s1 L i (.inl y) = L') (k : av_W E SH M (pc + 3) L' st σ Q) : av_W E SH M pc L st σ Q := by
  intro p e s m args below meth c H locs ls C R S hl
  subst hL
  subst hy
  obtain ⟨j, hj⟩ := List.getElem?_of_mem (av_ll_mem.mpr ⟨_, hx, rfl⟩ : ((i, av_c E.2.2.1 (.inl x)) : Nat × Value) ∈ av_ll E.2.2.1 L)
  exact lv_iinc (v := Int32.ofInt (x + n)) C.1 C.2.1 hd hl.has hj (by rw [Int32.ofInt_add]) hb rfl (fun ls' hl' => k p e s m args below meth c H locs ls' C R S (av_L.s1 rfl hl'))

theorem av_iadd {x y : Int} (hd : decode M.2.1 pc = .ok (.iadd, 1)) (k : av_W E SH M (pc + 1) L (.inl (x + y) :: st) σ Q) : av_W E SH M pc L (.inl y :: .inl x :: st) σ Q := by
  intro p e s m args below meth c H locs ls C R S hl
  have kk := k p e s m args below meth c H locs ls C R S hl
  refine lv_iadd C.1 C.2.1 hd ?_
  rw [← Int32.ofInt_add]
  exact kk

theorem av_isub {x y : Int} (hd : decode M.2.1 pc = .ok (.isub, 1)) (k : av_W E SH M (pc + 1) L (.inl (x - y) :: st) σ Q) : av_W E SH M pc L (.inl y :: .inl x :: st) σ Q := by
  intro p e s m args below meth c H locs ls C R S hl
  have kk := k p e s m args below meth c H locs ls C R S hl
  refine lv_isub C.1 C.2.1 hd ?_
  rw [← Int32.ofInt_sub]
  exact kk

theorem av_imul {x y : Int} (hd : decode M.2.1 pc = .ok (.imul, 1)) (k : av_W E SH M (pc + 1) L (.inl (x * y) :: st) σ Q) : av_W E SH M pc L (.inl y :: .inl x :: st) σ Q := by
  intro p e s m args below meth c H locs ls C R S hl
  have kk := k p e s m args below meth c H locs ls C R S hl
  refine lv_imul C.1 C.2.1 hd ?_
  rw [← Int32.ofInt_mul]
  exact kk

theorem av_ladd {x y : Int} (hd : decode M.2.1 pc = .ok (.ladd, 1)) (k : av_W E SH M (pc + 1) L (.inr (.inl (x + y)) :: st) σ Q) : av_W E SH M pc L (.inr (.inl y) :: .inr (.inl x) :: st) σ Q := by
  intro p e s m args below meth c H locs ls C R S hl
  have kk := k p e s m args below meth c H locs ls C R S hl
  refine lv_ladd C.1 C.2.1 hd ?_
  rw [← Int64.ofInt_add]
  exact kk

theorem av_lsub {x y : Int} (hd : decode M.2.1 pc = .ok (.lsub, 1)) (k : av_W E SH M (pc + 1) L (.inr (.inl (x - y)) :: st) σ Q) : av_W E SH M pc L (.inr (.inl y) :: .inr (.inl x) :: st) σ Q := by
  intro p e s m args below meth c H locs ls C R S hl
  have kk := k p e s m args below meth c H locs ls C R S hl
  refine lv_lsub C.1 C.2.1 hd ?_
  rw [← Int64.ofInt_sub]
  exact kk

theorem av_lmul {x y : Int} (hd : decode M.2.1 pc = .ok (.lmul, 1)) (k : av_W E SH M (pc + 1) L (.inr (.inl (x * y)) :: st) σ Q) : av_W E SH M pc L (.inr (.inl y) :: .inr (.inl x) :: st) σ Q := by
  intro p e s m args below meth c H locs ls C R S hl
  have kk := k p e s m args below meth c H locs ls C R S hl
  refine lv_lmul C.1 C.2.1 hd ?_
  rw [← Int64.ofInt_mul]
  exact kk

theorem av_idiv {x y : Int} (hd : decode M.2.1 pc = .ok (.idiv, 1)) (hx : 0 ≤ x ∧ x < 2147483648) (hy : 0 < y ∧ y < 2147483648) (k : av_W E SH M (pc + 1) L (.inl (x / y) :: st) σ Q) : av_W E SH M pc L (.inl y :: .inl x :: st) σ Q := by
  intro p e s m args below meth c H locs ls C R S hl
  have kk := k p e s m args below meth c H locs ls C R S hl
  have e1 : i32 x = x := i32_of (by omega) (by omega)
  have e2 : i32 y = y := i32_of (by omega) (by omega)
  have hz : ¬ i32 y = 0 := by rw [e2]; omega
  have hne : ¬ Int32.ofInt y = 0 := by rw [i32_0, i32_eq, i32_z]; exact hz
  refine lv_idiv C.1 C.2.1 hd hne ?_
  rw [i32_tdiv, e1, e2, Int.tdiv_eq_ediv_of_nonneg hx.1]
  exact kk

theorem av_irem {x y : Int} (hd : decode M.2.1 pc = .ok (.irem, 1)) (hx : 0 ≤ x ∧ x < 2147483648) (hy : 0 < y ∧ y < 2147483648) (k : av_W E SH M (pc + 1) L (.inl (x % y) :: st) σ Q) : av_W E SH M pc L (.inl y :: .inl x :: st) σ Q := by
  intro p e s m args below meth c H locs ls C R S hl
  have kk := k p e s m args below meth c H locs ls C R S hl
  have e1 : i32 x = x := i32_of (by omega) (by omega)
  have e2 : i32 y = y := i32_of (by omega) (by omega)
  have hz : ¬ i32 y = 0 := by rw [e2]; omega
  have hne : ¬ Int32.ofInt y = 0 := by rw [i32_0, i32_eq, i32_z]; exact hz
  refine lv_irem C.1 C.2.1 hd hne ?_
  rw [i32_tmod, e1, e2, Int.tmod_eq_emod_of_nonneg hx.1]
  exact kk

theorem av_ldiv {x y : Int} (hd : decode M.2.1 pc = .ok (.ldiv, 1)) (hx : 0 ≤ x ∧ x < 9223372036854775808) (hy : 0 < y ∧ y < 9223372036854775808) (k : av_W E SH M (pc + 1) L (.inr (.inl (x / y)) :: st) σ Q) : av_W E SH M pc L (.inr (.inl y) :: .inr (.inl x) :: st) σ Q := by
  intro p e s m args below meth c H locs ls C R S hl
  have kk := k p e s m args below meth c H locs ls C R S hl
  have e1 : i64 x = x := i64_of (by omega) (by omega)
  have e2 : i64 y = y := i64_of (by omega) (by omega)
  have hz : ¬ i64 y = 0 := by rw [e2]; omega
  have hne : ¬ Int64.ofInt y = 0 := by rw [show (0 : Int64) = Int64.ofInt 0 from rfl, ← Int64.toInt_inj, i64_toInt, i64_toInt, show i64 0 = 0 from by decide]; exact hz
  refine lv_ldiv C.1 C.2.1 hd hne ?_
  rw [i64_tdiv, e1, e2, Int.tdiv_eq_ediv_of_nonneg hx.1]
  exact kk

theorem av_lrem {x y : Int} (hd : decode M.2.1 pc = .ok (.lrem, 1)) (hx : 0 ≤ x ∧ x < 9223372036854775808) (hy : 0 < y ∧ y < 9223372036854775808) (k : av_W E SH M (pc + 1) L (.inr (.inl (x % y)) :: st) σ Q) : av_W E SH M pc L (.inr (.inl y) :: .inr (.inl x) :: st) σ Q := by
  intro p e s m args below meth c H locs ls C R S hl
  have kk := k p e s m args below meth c H locs ls C R S hl
  have e1 : i64 x = x := i64_of (by omega) (by omega)
  have e2 : i64 y = y := i64_of (by omega) (by omega)
  have hz : ¬ i64 y = 0 := by rw [e2]; omega
  have hne : ¬ Int64.ofInt y = 0 := by rw [show (0 : Int64) = Int64.ofInt 0 from rfl, ← Int64.toInt_inj, i64_toInt, i64_toInt, show i64 0 = 0 from by decide]; exact hz
  refine lv_lrem C.1 C.2.1 hd hne ?_
  rw [i64_tmod, e1, e2, Int.tmod_eq_emod_of_nonneg hx.1]
  exact kk

theorem av_iand {x y : Int} (hd : decode M.2.1 pc = .ok (.iand, 1)) (k : av_W E SH M (pc + 1) L (.inl (i_and x y) :: st) σ Q) : av_W E SH M pc L (.inl y :: .inl x :: st) σ Q := by
  intro p e s m args below meth c H locs ls C R S hl
  have kk := k p e s m args below meth c H locs ls C R S hl
  refine lv_iand C.1 C.2.1 hd ?_
  rw [← Int32.ofInt_toInt (Int32.ofInt x &&& Int32.ofInt y)]
  exact kk

theorem av_ior {x y : Int} (hd : decode M.2.1 pc = .ok (.ior, 1)) (k : av_W E SH M (pc + 1) L (.inl (i_or x y) :: st) σ Q) : av_W E SH M pc L (.inl y :: .inl x :: st) σ Q := by
  intro p e s m args below meth c H locs ls C R S hl
  have kk := k p e s m args below meth c H locs ls C R S hl
  refine lv_ior C.1 C.2.1 hd ?_
  rw [← Int32.ofInt_toInt (Int32.ofInt x ||| Int32.ofInt y)]
  exact kk

theorem av_ixor {x y : Int} (hd : decode M.2.1 pc = .ok (.ixor, 1)) (k : av_W E SH M (pc + 1) L (.inl (i_xor x y) :: st) σ Q) : av_W E SH M pc L (.inl y :: .inl x :: st) σ Q := by
  intro p e s m args below meth c H locs ls C R S hl
  have kk := k p e s m args below meth c H locs ls C R S hl
  refine lv_ixor C.1 C.2.1 hd ?_
  rw [← Int32.ofInt_toInt (Int32.ofInt x ^^^ Int32.ofInt y)]
  exact kk

theorem av_ishl {x y : Int} (hd : decode M.2.1 pc = .ok (.ishl, 1)) (k : av_W E SH M (pc + 1) L (.inl (i_shl x y) :: st) σ Q) : av_W E SH M pc L (.inl y :: .inl x :: st) σ Q := by
  intro p e s m args below meth c H locs ls C R S hl
  have kk := k p e s m args below meth c H locs ls C R S hl
  refine lv_ishl C.1 C.2.1 hd ?_
  rw [← Int32.ofInt_toInt (Int32.ofInt x <<< (Int32.ofInt y &&& 31))]
  exact kk

theorem av_ishr {x y : Int} (hd : decode M.2.1 pc = .ok (.ishr, 1)) (k : av_W E SH M (pc + 1) L (.inl (i_shr x y) :: st) σ Q) : av_W E SH M pc L (.inl y :: .inl x :: st) σ Q := by
  intro p e s m args below meth c H locs ls C R S hl
  have kk := k p e s m args below meth c H locs ls C R S hl
  refine lv_ishr C.1 C.2.1 hd ?_
  rw [← Int32.ofInt_toInt (Int32.ofInt x >>> (Int32.ofInt y &&& 31))]
  exact kk

theorem av_iushr {x y : Int} (hd : decode M.2.1 pc = .ok (.iushr, 1)) (k : av_W E SH M (pc + 1) L (.inl (i_ushr x y) :: st) σ Q) : av_W E SH M pc L (.inl y :: .inl x :: st) σ Q := by
  intro p e s m args below meth c H locs ls C R S hl
  have kk := k p e s m args below meth c H locs ls C R S hl
  exact lv_iushr (v := Int32.ofInt (i_ushr x y)) C.1 C.2.1 hd (by unfold i_ushr; rw [Int32.ofInt_toInt]) kk

theorem av_lcmp {x y : Int} (hd : decode M.2.1 pc = .ok (.lcmp, 1)) (hx : rg6 x) (hy : rg6 y) (k : av_W E SH M (pc + 1) L (.inl (i_cmp x y) :: st) σ Q) : av_W E SH M pc L (.inr (.inl y) :: .inr (.inl x) :: st) σ Q := by
  intro p e s m args below meth c H locs ls C R S hl
  have kk := k p e s m args below meth c H locs ls C R S hl
  refine W.lcmp C.1 C.2.1 hd ?_
  rw [i_cmp_lg hx hy]
  exact kk

theorem av_i2l {x : Int} (hd : decode M.2.1 pc = .ok (.i2l, 1)) (hx : rg x) (k : av_W E SH M (pc + 1) L (.inr (.inl x) :: st) σ Q) : av_W E SH M pc L (.inl x :: st) σ Q := by
  intro p e s m args below meth c H locs ls C R S hl
  exact lv_i2l (v := Int64.ofInt x) C.1 C.2.1 hd (by rw [← Int64.ofInt_int32ToInt, i32_toInt, i32_of hx.1 hx.2]) (k p e s m args below meth c H locs ls C R S hl)

theorem av_l2i {x : Int} (hd : decode M.2.1 pc = .ok (.l2i, 1)) (k : av_W E SH M (pc + 1) L (.inl x :: st) σ Q) : av_W E SH M pc L (.inr (.inl x) :: st) σ Q := by
  intro p e s m args below meth c H locs ls C R S hl
  exact lv_l2i (v := Int32.ofInt x) C.1 C.2.1 hd Int64.toInt32_ofInt (k p e s m args below meth c H locs ls C R S hl)

theorem av_i2c {x : Int} (hd : decode M.2.1 pc = .ok (.i2c, 1)) (h1 : 0 ≤ x) (h2 : x < 65536) (k : av_W E SH M (pc + 1) L (.inl x :: st) σ Q) : av_W E SH M pc L (.inl x :: st) σ Q := by
  intro p e s m args below meth c H locs ls C R S hl
  exact lv_i2c (v := Int32.ofInt x) C.1 C.2.1 hd (av_chr h1 h2) (k p e s m args below meth c H locs ls C R S hl)

theorem av_dup {v : av_V} (hd : decode M.2.1 pc = .ok (.dup, 1)) (h1 : ∀ x, v ≠ .inr (.inl x)) (k : av_W E SH M (pc + 1) L (v :: v :: st) σ Q) : av_W E SH M pc L (v :: st) σ Q := by
  intro p e s m args below meth c H locs ls C R S hl
  exact lv_dup C.1 C.2.1 hd (av_c1 h1) (k p e s m args below meth c H locs ls C R S hl)

theorem av_pop {v : av_V} (hd : decode M.2.1 pc = .ok (.pop, 1)) (h1 : ∀ x, v ≠ .inr (.inl x)) (k : av_W E SH M (pc + 1) L (st) σ Q) : av_W E SH M pc L (v :: st) σ Q := by
  intro p e s m args below meth c H locs ls C R S hl
  exact lv_pop C.1 C.2.1 hd (av_c1 h1) (k p e s m args below meth c H locs ls C R S hl)

theorem av_dup2 {v w : av_V} (hd : decode M.2.1 pc = .ok (.dup2, 1)) (h1 : ∀ x, v ≠ .inr (.inl x)) (h2 : ∀ x, w ≠ .inr (.inl x)) (k : av_W E SH M (pc + 1) L (v :: w :: v :: w :: st) σ Q) : av_W E SH M pc L (v :: w :: st) σ Q := by
  intro p e s m args below meth c H locs ls C R S hl
  exact lv_dup2_11 C.1 C.2.1 hd (av_c1 h1) (av_c1 h2) (k p e s m args below meth c H locs ls C R S hl)

theorem av_icmp_eq {x y : Int} {off : Int} {tgt : Nat} (hd : decode M.2.1 pc = .ok (.if_icmp .eq off, 3)) (ht : (pc : Int) + off = (tgt : Int)) (hx : rg x) (hy : rg y) (kt : x = y → av_W E SH M tgt L st σ Q) (kf : ¬ x = y → av_W E SH M (pc + 3) L st σ Q) : av_W E SH M pc L (.inl y :: .inl x :: st) σ Q := by
  intro p e s m args below meth c H locs ls C R S hl
  have hx2 := i32_of hx.1 hx.2
  have hy2 := (i32_of hy.1 hy.2)
  refine lv_icmp_eq C.1 C.2.1 hd ht (fun h => kt ?_ p e s m args below meth c H locs ls C R S hl) (fun h => kf ?_ p e s m args below meth c H locs ls C R S hl)
  · skip
    try rw [i32_eq] at h
    try simp only [ne_eq, i32_eq] at h
    rw [hx2, hy2] at h
    omega
  · skip
    try rw [i32_eq] at h
    try simp only [ne_eq, i32_eq] at h
    rw [hx2, hy2] at h
    omega

theorem av_if_eq {x : Int} {off : Int} {tgt : Nat} (hd : decode M.2.1 pc = .ok (.ifCond .eq off, 3)) (ht : (pc : Int) + off = (tgt : Int)) (hx : rg x) (kt : x = 0 → av_W E SH M tgt L st σ Q) (kf : ¬ x = 0 → av_W E SH M (pc + 3) L st σ Q) : av_W E SH M pc L (.inl x :: st) σ Q := by
  intro p e s m args below meth c H locs ls C R S hl
  have hx2 := i32_of hx.1 hx.2
  have hy2 := i32_z
  refine lv_if_eq C.1 C.2.1 hd ht (fun h => kt ?_ p e s m args below meth c H locs ls C R S hl) (fun h => kf ?_ p e s m args below meth c H locs ls C R S hl)
  · rw [i32_0] at h
    try rw [i32_eq] at h
    try simp only [ne_eq, i32_eq] at h
    rw [hx2, hy2] at h
    omega
  · rw [i32_0] at h
    try rw [i32_eq] at h
    try simp only [ne_eq, i32_eq] at h
    rw [hx2, hy2] at h
    omega

theorem av_icmp_ne {x y : Int} {off : Int} {tgt : Nat} (hd : decode M.2.1 pc = .ok (.if_icmp .ne off, 3)) (ht : (pc : Int) + off = (tgt : Int)) (hx : rg x) (hy : rg y) (kt : ¬ x = y → av_W E SH M tgt L st σ Q) (kf : x = y → av_W E SH M (pc + 3) L st σ Q) : av_W E SH M pc L (.inl y :: .inl x :: st) σ Q := by
  intro p e s m args below meth c H locs ls C R S hl
  have hx2 := i32_of hx.1 hx.2
  have hy2 := (i32_of hy.1 hy.2)
  refine lv_icmp_ne C.1 C.2.1 hd ht (fun h => kt ?_ p e s m args below meth c H locs ls C R S hl) (fun h => kf ?_ p e s m args below meth c H locs ls C R S hl)
  · skip
    try rw [i32_eq] at h
    try simp only [ne_eq, i32_eq] at h
    rw [hx2, hy2] at h
    omega
  · skip
    try rw [i32_eq] at h
    try simp only [ne_eq, i32_eq] at h
    rw [hx2, hy2] at h
    omega

theorem av_if_ne {x : Int} {off : Int} {tgt : Nat} (hd : decode M.2.1 pc = .ok (.ifCond .ne off, 3)) (ht : (pc : Int) + off = (tgt : Int)) (hx : rg x) (kt : ¬ x = 0 → av_W E SH M tgt L st σ Q) (kf : x = 0 → av_W E SH M (pc + 3) L st σ Q) : av_W E SH M pc L (.inl x :: st) σ Q := by
  intro p e s m args below meth c H locs ls C R S hl
  have hx2 := i32_of hx.1 hx.2
  have hy2 := i32_z
  refine lv_if_ne C.1 C.2.1 hd ht (fun h => kt ?_ p e s m args below meth c H locs ls C R S hl) (fun h => kf ?_ p e s m args below meth c H locs ls C R S hl)
  · rw [i32_0] at h
    try rw [i32_eq] at h
    try simp only [ne_eq, i32_eq] at h
    rw [hx2, hy2] at h
    omega
  · rw [i32_0] at h
    try rw [i32_eq] at h
    try simp only [ne_eq, i32_eq] at h
    rw [hx2, hy2] at h
    omega

theorem av_icmp_lt {x y : Int} {off : Int} {tgt : Nat} (hd : decode M.2.1 pc = .ok (.if_icmp .lt off, 3)) (ht : (pc : Int) + off = (tgt : Int)) (hx : rg x) (hy : rg y) (kt : x < y → av_W E SH M tgt L st σ Q) (kf : y ≤ x → av_W E SH M (pc + 3) L st σ Q) : av_W E SH M pc L (.inl y :: .inl x :: st) σ Q := by
  intro p e s m args below meth c H locs ls C R S hl
  have hx2 := i32_of hx.1 hx.2
  have hy2 := (i32_of hy.1 hy.2)
  refine lv_icmp_lt C.1 C.2.1 hd ht (fun h => kt ?_ p e s m args below meth c H locs ls C R S hl) (fun h => kf ?_ p e s m args below meth c H locs ls C R S hl)
  · skip
    try rw [i32_lt] at h
    try simp only [ne_eq, i32_lt] at h
    rw [hx2, hy2] at h
    omega
  · skip
    try rw [i32_lt] at h
    try simp only [ne_eq, i32_lt] at h
    rw [hx2, hy2] at h
    omega

theorem av_if_lt {x : Int} {off : Int} {tgt : Nat} (hd : decode M.2.1 pc = .ok (.ifCond .lt off, 3)) (ht : (pc : Int) + off = (tgt : Int)) (hx : rg x) (kt : x < 0 → av_W E SH M tgt L st σ Q) (kf : 0 ≤ x → av_W E SH M (pc + 3) L st σ Q) : av_W E SH M pc L (.inl x :: st) σ Q := by
  intro p e s m args below meth c H locs ls C R S hl
  have hx2 := i32_of hx.1 hx.2
  have hy2 := i32_z
  refine lv_if_lt C.1 C.2.1 hd ht (fun h => kt ?_ p e s m args below meth c H locs ls C R S hl) (fun h => kf ?_ p e s m args below meth c H locs ls C R S hl)
  · rw [i32_0] at h
    try rw [i32_lt] at h
    try simp only [ne_eq, i32_lt] at h
    rw [hx2, hy2] at h
    omega
  · rw [i32_0] at h
    try rw [i32_lt] at h
    try simp only [ne_eq, i32_lt] at h
    rw [hx2, hy2] at h
    omega

theorem av_icmp_ge {x y : Int} {off : Int} {tgt : Nat} (hd : decode M.2.1 pc = .ok (.if_icmp .ge off, 3)) (ht : (pc : Int) + off = (tgt : Int)) (hx : rg x) (hy : rg y) (kt : y ≤ x → av_W E SH M tgt L st σ Q) (kf : x < y → av_W E SH M (pc + 3) L st σ Q) : av_W E SH M pc L (.inl y :: .inl x :: st) σ Q := by
  intro p e s m args below meth c H locs ls C R S hl
  have hx2 := i32_of hx.1 hx.2
  have hy2 := (i32_of hy.1 hy.2)
  refine lv_icmp_ge C.1 C.2.1 hd ht (fun h => kt ?_ p e s m args below meth c H locs ls C R S hl) (fun h => kf ?_ p e s m args below meth c H locs ls C R S hl)
  · skip
    try rw [i32_le] at h
    try simp only [ne_eq, i32_le] at h
    rw [hx2, hy2] at h
    omega
  · skip
    try rw [i32_le] at h
    try simp only [ne_eq, i32_le] at h
    rw [hx2, hy2] at h
    omega

theorem av_if_ge {x : Int} {off : Int} {tgt : Nat} (hd : decode M.2.1 pc = .ok (.ifCond .ge off, 3)) (ht : (pc : Int) + off = (tgt : Int)) (hx : rg x) (kt : 0 ≤ x → av_W E SH M tgt L st σ Q) (kf : x < 0 → av_W E SH M (pc + 3) L st σ Q) : av_W E SH M pc L (.inl x :: st) σ Q := by
  intro p e s m args below meth c H locs ls C R S hl
  have hx2 := i32_of hx.1 hx.2
  have hy2 := i32_z
  refine lv_if_ge C.1 C.2.1 hd ht (fun h => kt ?_ p e s m args below meth c H locs ls C R S hl) (fun h => kf ?_ p e s m args below meth c H locs ls C R S hl)
  · rw [i32_0] at h
    try rw [i32_le] at h
    try simp only [ne_eq, i32_le] at h
    rw [hx2, hy2] at h
    omega
  · rw [i32_0] at h
    try rw [i32_le] at h
    try simp only [ne_eq, i32_le] at h
    rw [hx2, hy2] at h
    omega

theorem av_icmp_gt {x y : Int} {off : Int} {tgt : Nat} (hd : decode M.2.1 pc = .ok (.if_icmp .gt off, 3)) (ht : (pc : Int) + off = (tgt : Int)) (hx : rg x) (hy : rg y) (kt : y < x → av_W E SH M tgt L st σ Q) (kf : x ≤ y → av_W E SH M (pc + 3) L st σ Q) : av_W E SH M pc L (.inl y :: .inl x :: st) σ Q := by
  intro p e s m args below meth c H locs ls C R S hl
  have hx2 := i32_of hx.1 hx.2
  have hy2 := (i32_of hy.1 hy.2)
  refine lv_icmp_gt C.1 C.2.1 hd ht (fun h => kt ?_ p e s m args below meth c H locs ls C R S hl) (fun h => kf ?_ p e s m args below meth c H locs ls C R S hl)
  · skip
    try rw [i32_lt] at h
    try simp only [ne_eq, i32_lt] at h
    rw [hx2, hy2] at h
    omega
  · skip
    try rw [i32_lt] at h
    try simp only [ne_eq, i32_lt] at h
    rw [hx2, hy2] at h
    omega

theorem av_if_gt {x : Int} {off : Int} {tgt : Nat} (hd : decode M.2.1 pc = .ok (.ifCond .gt off, 3)) (ht : (pc : Int) + off = (tgt : Int)) (hx : rg x) (kt : 0 < x → av_W E SH M tgt L st σ Q) (kf : x ≤ 0 → av_W E SH M (pc + 3) L st σ Q) : av_W E SH M pc L (.inl x :: st) σ Q := by
  intro p e s m args below meth c H locs ls C R S hl
  have hx2 := i32_of hx.1 hx.2
  have hy2 := i32_z
  refine lv_if_gt C.1 C.2.1 hd ht (fun h => kt ?_ p e s m args below meth c H locs ls C R S hl) (fun h => kf ?_ p e s m args below meth c H locs ls C R S hl)
  · rw [i32_0] at h
    try rw [i32_lt] at h
    try simp only [ne_eq, i32_lt] at h
    rw [hx2, hy2] at h
    omega
  · rw [i32_0] at h
    try rw [i32_lt] at h
    try simp only [ne_eq, i32_lt] at h
    rw [hx2, hy2] at h
    omega

theorem av_icmp_le {x y : Int} {off : Int} {tgt : Nat} (hd : decode M.2.1 pc = .ok (.if_icmp .le off, 3)) (ht : (pc : Int) + off = (tgt : Int)) (hx : rg x) (hy : rg y) (kt : x ≤ y → av_W E SH M tgt L st σ Q) (kf : y < x → av_W E SH M (pc + 3) L st σ Q) : av_W E SH M pc L (.inl y :: .inl x :: st) σ Q := by
  intro p e s m args below meth c H locs ls C R S hl
  have hx2 := i32_of hx.1 hx.2
  have hy2 := (i32_of hy.1 hy.2)
  refine lv_icmp_le C.1 C.2.1 hd ht (fun h => kt ?_ p e s m args below meth c H locs ls C R S hl) (fun h => kf ?_ p e s m args below meth c H locs ls C R S hl)
  · skip
    try rw [i32_le] at h
    try simp only [ne_eq, i32_le] at h
    rw [hx2, hy2] at h
    omega
  · skip
    try rw [i32_le] at h
    try simp only [ne_eq, i32_le] at h
    rw [hx2, hy2] at h
    omega

theorem av_if_le {x : Int} {off : Int} {tgt : Nat} (hd : decode M.2.1 pc = .ok (.ifCond .le off, 3)) (ht : (pc : Int) + off = (tgt : Int)) (hx : rg x) (kt : x ≤ 0 → av_W E SH M tgt L st σ Q) (kf : 0 < x → av_W E SH M (pc + 3) L st σ Q) : av_W E SH M pc L (.inl x :: st) σ Q := by
  intro p e s m args below meth c H locs ls C R S hl
  have hx2 := i32_of hx.1 hx.2
  have hy2 := i32_z
  refine lv_if_le C.1 C.2.1 hd ht (fun h => kt ?_ p e s m args below meth c H locs ls C R S hl) (fun h => kf ?_ p e s m args below meth c H locs ls C R S hl)
  · rw [i32_0] at h
    try rw [i32_le] at h
    try simp only [ne_eq, i32_le] at h
    rw [hx2, hy2] at h
    omega
  · rw [i32_0] at h
    try rw [i32_le] at h
    try simp only [ne_eq, i32_le] at h
    rw [hx2, hy2] at h
    omega

theorem av_goto {off : Int} {tgt : Nat} (hd : decode M.2.1 pc = .ok (.goto off, 3)) (ht : (pc : Int) + off = (tgt : Int)) (k : av_W E SH M tgt L st σ Q) : av_W E SH M pc L st σ Q := by
  intro p e s m args below meth c H locs ls C R S hl
  exact lv_goto C.1 C.2.1 hd ht (k p e s m args below meth c H locs ls C R S hl)
theorem av_table {x dflt lo hi : Int} {offs : Array Int} {len : Nat} (hd : decode M.2.1 pc = .ok (.tableswitch dflt lo hi offs, len)) (tg : Int → Nat)
    (hin : ∀ j : Nat, (h : j < offs.size) → (pc : Int) + offs[j] = ((tg j : Nat) : Int)) (hsz : hi - lo + 1 = offs.size) (ho : (pc : Int) + dflt = ((tg (-1) : Nat) : Int))
    (hx : rg x) (ki : ∀ j : Nat, j < offs.size → x = lo + j → av_W E SH M (tg j) L st σ Q) (ko : (x < lo ∨ hi < x) → av_W E SH M (tg (-1)) L st σ Q) : av_W E SH M pc L (.inl x :: st) σ Q := by
  intro p e s m args below meth c H locs ls C R S hl
  have ex := i32_of hx.1 hx.2
  by_cases hr : x < lo ∨ hi < x
  · exact lv_tableOut C.1 C.2.1 hd (by rw [i32_toInt, ex]; exact hr) ho (ko hr p e s m args below meth c H locs ls C R S hl)
  · have h1 : ¬ x < lo := fun h => hr (Or.inl h)
    have h2 : ¬ hi < x := fun h => hr (Or.inr h)
    have h3 : (x - lo).toNat < offs.size := by omega
    exact lv_tableIn C.1 C.2.1 hd (by rw [i32_toInt, ex]; exact h1) (by rw [i32_toInt, ex]; exact h2) (by rw [i32_toInt, ex]; exact Array.getElem?_eq_getElem h3) (hin _ h3) (ki _ h3 (by omega) p e s m args below meth c H locs ls C R S hl)
theorem av_lookup {x dflt : Int} {ps : Array (Int × Int)} {len tgt : Nat} {off : Int} (hd : decode M.2.1 pc = .ok (.lookupswitch dflt ps, len)) (hp : (ps.toList.zip (ps.toList.drop 1)).all (fun (a, next) => a.1 < next.1) = true) (ho : Op.lookupswitch.offset ps.toList dflt x = off) (hx : rg x) (ht : (pc : Int) + off = (tgt : Int)) (k : av_W E SH M tgt L st σ Q) : av_W E SH M pc L (.inl x :: st) σ Q := by
  intro p e s m args below meth c H locs ls C R S hl
  exact lv_lookup C.1 C.2.1 hd hp (by rw [i32_toInt, i32_of hx.1 hx.2]; exact ho) ht (k p e s m args below meth c H locs ls C R S hl)

theorem av_getr {i ci k idx N r : Nat} {fs : List (Option Nat)} {CN own : String} {T : u_T} (hd : decode M.2.1 pc = .ok (.getfield idx, 3)) (hs : SH[i]? = some (.inr (ci, fs))) (hc : vwCl[ci]? = some (CN, T, N)) (hin : ∀ w ∈ u_ws CN T N, w ∈ av_T) (hk : k < N) (ho : own = M.1.cls) (hw : Cond.fieldLink own idx (T k).1 (T k).2.1 (T k).2.2.1 ∈ av_T) (hf : fs[k]? = some (some r)) (kk : av_W E SH M (pc + 3) L (.inr (.inr r) :: st) σ Q) : av_W E SH M pc L (.inr (.inr i) :: st) σ Q := by
  intro p e s m args below meth c H locs ls C R S hl
  subst ho
  refine va_get (ref := (T k).1) (v := .ref (E.2.2.1 r)) C.1 C.2.1 C.2.2.2.2.1 (fun w hw' => List.mem_cons_of_mem _ (hin w hw')) C.2.2.2.2.2.1 C.2.2.2.2.2.2.2.1 R.1 i (av_w_at hs) hc k hk (C.2.2.2.2.1 _ (List.mem_cons_of_mem _ hw)) (fun _ h9 => h9) ?_ hd (kk p e s m args below meth c H locs ls C R S hl)
  simp [List.getElem?_mapIdx, hf]
theorem av_get {i ci k idx N : Nat} {x : Int} {fs : List (Option Nat)} {CN own : String} {T : u_T} (hd : decode M.2.1 pc = .ok (.getfield idx, 3)) (hs : SH[i]? = some (.inr (ci, fs))) (hc : vwCl[ci]? = some (CN, T, N)) (hin : ∀ w ∈ u_ws CN T N, w ∈ av_T) (hk : k < N) (ho : own = M.1.cls) (hw : Cond.fieldLink own idx (T k).1 (T k).2.1 (T k).2.2.1 ∈ av_T) (hf : fs[k]? = some none) (hv : σ i k = x) (kk : av_W E SH M (pc + 3) L (.inl x :: st) σ Q) : av_W E SH M pc L (.inr (.inr i) :: st) σ Q := by
  intro p e s m args below meth c H locs ls C R S hl
  subst ho
  subst hv
  refine va_get (ref := (T k).1) (v := .int (Int32.ofInt (σ i k))) C.1 C.2.1 C.2.2.2.2.1 (fun w hw' => List.mem_cons_of_mem _ (hin w hw')) C.2.2.2.2.2.1 C.2.2.2.2.2.2.2.1 R.1 i (av_w_at hs) hc k hk (C.2.2.2.2.1 _ (List.mem_cons_of_mem _ hw)) (fun _ h9 => h9) ?_ hd (kk p e s m args below meth c H locs ls C R S hl)
  simp [List.getElem?_mapIdx, hf]
theorem av_put {i ci k idx N : Nat} {x : Int} {fs : List (Option Nat)} {CN own : String} {T : u_T} (ty0 : Nat → FieldType) (hd : decode M.2.1 pc = .ok (.putfield idx, 3)) (hs : SH[i]? = some (.inr (ci, fs))) (hc : vwCl[ci]? = some (CN, T, N)) (hin : ∀ w ∈ u_ws CN T N, w ∈ av_T) (hty : ∀ k, k < N → parseFieldDescriptor (T k).2.2.1 = some (ty0 k)) (hnm : ∀ a, a < N → ∀ b, b < N → a ≠ b → (T a).2.1 ≠ (T b).2.1) (hk : k < N) (ho : own = M.1.cls) (hw : Cond.fieldLink own idx (T k).1 (T k).2.1 (T k).2.2.1 ∈ av_T) (hf : fs[k]? = some none) (hfin : (T k).2.2.2 = false) (ht : ty0 k = .int) (kk : av_W E SH M (pc + 3) L st (av_st σ i k x) Q) : av_W E SH M pc L (.inl x :: .inr (.inr i) :: st) σ Q := by
  intro p e s m args below meth c H locs ls C R S hl
  subst ho
  refine va_put (ref := (T k).1) (v := .int (Int32.ofInt x)) (ty := .int) C.1 C.2.1 C.2.2.2.2.1 (fun w hw' => List.mem_cons_of_mem _ (hin w hw')) ty0 hty hnm C.2.2.2.2.2.1 C.2.2.2.2.2.2.2.1 R.1 R.2 S i (av_w_at hs) hc k hk (C.2.2.2.2.1 _ (List.mem_cons_of_mem _ hw)) (fun _ h9 => h9) hfin (by rw [hty k hk, ht]) rfl rfl (by have := (List.getElem?_eq_some_iff.mp hf).1; simpa using this) hd (fun H1 locs1 hP hD hS => ?_)
  have hset := av_w_set (E := E) (SH := SH) (σ := σ) (σ' := av_st σ i k x) hs (av_e_obj hf) (fun j sh' hj => av_e_congr (av_st_ne hj))
  rw [hset] at hP hD
  exact kk p e s m args below meth c H1 locs1 ls C ⟨hP, hD⟩ hS hl
theorem av_iald {i n : Nat} {j x : Int} (hd : decode M.2.1 pc = .ok (.iaload, 1)) (hs : SH[i]? = some (.inl (0, n))) (hn : n ≤ 2147483647) (hj : 0 ≤ j ∧ j < n) (hv : σ i j.toNat = x) (kk : av_W E SH M (pc + 1) L (.inl x :: st) σ Q) : av_W E SH M pc L (.inl j :: .inr (.inr i) :: st) σ Q := by
  intro p e s m args below meth c H locs ls C R S hl
  subst hv
  have hc := av_ix hj hn
  refine va_iald C.1 C.2.1 C.2.2.2.2.2.2.2.1 R.1 i 0 (av_w_at hs) rfl (av_in hj hn) hd ?_
  rw [hc]
  exact kk p e s m args below meth c H locs ls C R S hl
theorem av_cald {i n : Nat} {j x : Int} (hd : decode M.2.1 pc = .ok (.caload, 1)) (hs : SH[i]? = some (.inl (1, n))) (hn : n ≤ 2147483647) (hj : 0 ≤ j ∧ j < n) (hv : σ i j.toNat = x) (kk : av_W E SH M (pc + 1) L (.inl x :: st) σ Q) : av_W E SH M pc L (.inl j :: .inr (.inr i) :: st) σ Q := by
  intro p e s m args below meth c H locs ls C R S hl
  subst hv
  have hc := av_ix hj hn
  refine va_cald C.1 C.2.1 C.2.2.2.2.2.2.2.1 R.1 i 1 (av_w_at hs) rfl (av_in hj hn) hd ?_
  rw [hc]
  exact kk p e s m args below meth c H locs ls C R S hl
theorem av_iast {i n : Nat} {j x : Int} (hd : decode M.2.1 pc = .ok (.iastore, 1)) (hs : SH[i]? = some (.inl (0, n))) (hn : n ≤ 2147483647) (hj : 0 ≤ j ∧ j < n) (kk : av_W E SH M (pc + 1) L st (av_st σ i j.toNat x) Q) : av_W E SH M pc L (.inl x :: .inl j :: .inr (.inr i) :: st) σ Q := by
  intro p e s m args below meth c H locs ls C R S hl
  have hc := av_ix hj hn
  refine va_iast C.1 C.2.1 C.2.2.2.2.2.2.2.1 R.1 R.2 S i 0 (av_w_at hs) rfl (av_in hj hn) hd (fun H1 locs1 hP hD hS => ?_)
  have hset := av_w_set (E := E) (SH := SH) (σ := σ) (σ' := av_st σ i j.toNat x) hs av_e_arr (fun j sh' hj => av_e_congr (av_st_ne hj))
  rw [hc, hset] at hP hD
  exact kk p e s m args below meth c H1 locs1 ls C ⟨hP, hD⟩ hS hl
theorem av_cast {i n : Nat} {j x : Int} (hd : decode M.2.1 pc = .ok (.castore, 1)) (hs : SH[i]? = some (.inl (1, n))) (hn : n ≤ 2147483647) (hj : 0 ≤ j ∧ j < n) (h1 : 0 ≤ x) (h2 : x < 65536) (kk : av_W E SH M (pc + 1) L st (av_st σ i j.toNat x) Q) : av_W E SH M pc L (.inl x :: .inl j :: .inr (.inr i) :: st) σ Q := by
  intro p e s m args below meth c H locs ls C R S hl
  have hc := av_ix hj hn
  refine va_cast C.1 C.2.1 C.2.2.2.2.2.2.2.1 R.1 R.2 S i 1 (av_w_at hs) rfl (av_in hj hn) hd (fun H1 locs1 hP hD hS => ?_)
  have hset := av_w_set (E := E) (SH := SH) (σ := σ) (σ' := av_st σ i j.toNat x) hs av_e_arr (fun j sh' hj => av_e_congr (av_st_ne hj))
  rw [hc, av_nc h1 h2, hset] at hP hD
  exact kk p e s m args below meth c H1 locs1 ls C ⟨hP, hD⟩ hS hl

theorem av_res (mask : List Bool) (hm : av_mask mask L = L') (k : av_W E SH M pc L' st σ Q) : av_W E SH M pc L st σ Q := by
  intro p e s m args below meth c H locs ls C R S hl
  subst hm
  exact k p e s m args below meth c H locs ls C R S ⟨hl.1, hl.2.1, fun i v hv => hl.2.2 i v (av_mask_get hv)⟩

theorem av_ireturn {x : Int} (hd : decode M.2.1 pc = .ok (.ireturn, 1)) (hr : M.2.2.2.1 = some .int) (hQ : Q (some (.inl x)) σ) : av_W E SH M pc L [.inl x] σ Q := by
  intro p e s m args below meth c H locs ls C R S hl
  exact W.iret C.1 C.2.1 (C.2.2.1.trans hr) (fun t ht hW => ⟨⟨some (.inl x), σ, rfl, hQ, by rw [ht]; exact R⟩, S.F ht⟩) S.2.2 hd C.2.2.2.2.2.2.1
theorem av_zreturn {x : Int} (hd : decode M.2.1 pc = .ok (.ireturn, 1)) (hr : M.2.2.2.1 = some .boolean) (h1 : x = 0 ∨ x = 1) (hQ : Q (some (.inl x)) σ) : av_W E SH M pc L [.inl x] σ Q := by
  intro p e s m args below meth c H locs ls C R S hl
  exact W.zret C.1 C.2.1 (C.2.2.1.trans hr) (by rcases h1 with rfl | rfl <;> rfl) (fun t ht hW => ⟨⟨some (.inl x), σ, rfl, hQ, by rw [ht]; exact R⟩, S.F ht⟩) S.2.2 hd C.2.2.2.2.2.2.1
theorem av_creturn {x : Int} (hd : decode M.2.1 pc = .ok (.ireturn, 1)) (hr : M.2.2.2.1 = some .char) (h1 : 0 ≤ x) (h2 : x < 65536) (hQ : Q (some (.inl x)) σ) : av_W E SH M pc L [.inl x] σ Q := by
  intro p e s m args below meth c H locs ls C R S hl
  exact W.zret C.1 C.2.1 (C.2.2.1.trans hr) (av_nchr h1 h2) (fun t ht hW => ⟨⟨some (.inl x), σ, rfl, hQ, by rw [ht]; exact R⟩, S.F ht⟩) S.2.2 hd C.2.2.2.2.2.2.1
theorem av_lreturn {x : Int} (hd : decode M.2.1 pc = .ok (.lreturn, 1)) (hr : M.2.2.2.1 = some .long) (hQ : Q (some (.inr (.inl x))) σ) : av_W E SH M pc L [.inr (.inl x)] σ Q := by
  intro p e s m args below meth c H locs ls C R S hl
  exact W.lret C.1 C.2.1 (C.2.2.1.trans hr) (fun t ht hW => ⟨⟨some (.inr (.inl x)), σ, rfl, hQ, by rw [ht]; exact R⟩, S.F ht⟩) S.2.2 hd C.2.2.2.2.2.2.1
theorem av_return (hd : decode M.2.1 pc = .ok (.return_, 1)) (hr : M.2.2.2.1 = none) (hQ : Q none σ) : av_W E SH M pc L [] σ Q := by
  intro p e s m args below meth c H locs ls C R S hl
  exact W.vret C.1 C.2.1 (C.2.2.1.trans hr) (fun t ht hW => ⟨⟨none, σ, rfl, hQ, by rw [ht]; exact R⟩, S.F ht⟩) S.2.2 hd C.2.2.2.2.2.2.1
end AVI
end
section
-- entry
def av_en (as : List av_V) : List (Option av_V) := match as with
  | [] => []
  | .inr (.inl x) :: vs => some (.inr (.inl x)) :: none :: av_en vs
  | .inl x :: vs => some (.inl x) :: av_en vs
  | .inr (.inr x) :: vs => some (.inr (.inr x)) :: av_en vs
def av_pad (as : List av_V) (n : Nat) : List (Option av_V) := av_en as ++ List.replicate (n - (av_en as).length) none
theorem av_en_spec (ad : Nat → Nat) : ∀ (as : List av_V) (k i : Nat) (v : av_V), (av_en as)[i]? = some (some v) → (k + i, av_c ad v) ∈ lv_args k (as.map (av_c ad)) := by
  intro as
  induction as with
  | nil => intro k i v h; simp [av_en] at h
  | cons a as ih =>
    intro k i v h
    match a, h with
    | .inl x, h =>
      simp only [av_en] at h
      match i, h with
      | 0, h =>
        simp at h
        subst h
        exact List.mem_cons_self
      | i + 1, h =>
        rw [List.getElem?_cons_succ] at h
        have := ih (k + 1) i v h
        rw [show k + 1 + i = k + (i + 1) by omega] at this
        exact List.mem_cons_of_mem _ this
    | .inr (.inr x), h =>
      simp only [av_en] at h
      match i, h with
      | 0, h =>
        simp at h
        subst h
        exact List.mem_cons_self
      | i + 1, h =>
        rw [List.getElem?_cons_succ] at h
        have := ih (k + 1) i v h
        rw [show k + 1 + i = k + (i + 1) by omega] at this
        exact List.mem_cons_of_mem _ this
    | .inr (.inl x), h =>
      simp only [av_en] at h
      match i, h with
      | 0, h =>
        simp at h
        subst h
        exact List.mem_cons_self
      | 1, h =>
        simp at h
      | i + 2, h =>
        rw [List.getElem?_cons_succ, List.getElem?_cons_succ] at h
        have := ih (k + 2) i v h
        rw [show k + 2 + i = k + (i + 2) by omega] at this
        exact List.mem_cons_of_mem _ this
theorem av_pad_spec {ad : Nat → Nat} {as : List av_V} {n i : Nat} {v : av_V} (h : (av_pad as n)[i]? = some (some v)) : (i, av_c ad v) ∈ lv_args 0 (as.map (av_c ad)) := by
  unfold av_pad at h
  rw [List.getElem?_append] at h
  split at h
  · have := av_en_spec ad as 0 i v h
    rwa [Nat.zero_add] at this
  · rw [List.getElem?_replicate] at h
    split at h <;> simp at h
theorem av_C.ofW {E : av_E} {SH : List av_S} {M : av_Y} {as : List av_V} {σ : av_M} {Q : Option av_V → av_M → Prop} {L : List (Option av_V)} (hy : plainName M.1.cls = true) (hlen : (lg_sl (as.map (av_c E.2.2.1))).length ≤ M.2.2.1) (hL : av_pad as M.2.2.1 = L) (k : av_W E SH M 0 L [] σ Q) : av_C E SH M as σ Q := by
  refine Met.ofW (cc := M.2.1) (maxL := M.2.2.1) (ret := M.2.2.2.1) hy rfl ?_
  intro p e s m args below meth c s₁ B hml hv
  obtain ⟨rfl, hR, hK⟩ := hv
  have hts := atoms_spec (ws := av_ws M) B.pre
  have hown : s.vm.findClass M.1.cls = some m.cls := findClass_of_methodNamed B.named
  have hl := lv_entry (as.map (av_c E.2.2.1)) (n := M.2.2.1) hlen
  rw [lg_entry_eq]
  generalize (lg_sl (as.map (av_c E.2.2.1)) ++ List.replicate (M.2.2.1 - (lg_sl (as.map (av_c E.2.2.1))).length) Slot.unset).toArray = ls at hl ⊢
  refine k p e s m _ below meth c s.heap [] ls ⟨B.exec, B.bytes, B.returns, hml, hts, hown, B.notSynchronized, hK⟩ hR va_S.rf ⟨hl.1, hl.2.1, fun i v hv => ?_⟩
  subst hL
  exact hl.2.2 _ (av_pad_spec hv)
-- behind a call
theorem av_map_app {ad : Nat → Nat} (v : Option av_V) (rest : List av_V) : (v.toList ++ rest).map (av_c ad) = (v.map (av_c ad)).toList ++ rest.map (av_c ad) := by cases v <;> simp
section AVC
variable {E : av_E} {SH : List av_S} {M : av_Y} {pc : Nat} {L : List (Option av_V)} {st rest as : List av_V} {σ : av_M} {Q : Option av_V → av_M → Prop}
theorem av_after {p : Program} {e : Env} {R : Room} {s : State} {m : MethodId} {args : Array Value} {below : List Frame} {meth : Method} {c : Code} {H : Heap} {locs : List Loc} {P : State → Prop} {ls : Array Slot} {st0 : List Value} {Q' : Option av_V → av_M → Prop} {a : Array Value}
    (hr : va_Run p E.1 e R s m args below meth c H locs 0 0 0 0 (F0 m pc ls st0) (rest.map (av_c E.2.2.1)) (av_Q E SH Q' a) (av_A E SH)) (S : va_S (av_A E SH) s.heap H locs)
    (kk : ∀ (v : Option av_V) (σ' : av_M) (H1 : Heap) (locs1 : List Loc), Q' v σ' → av_R E SH H1 σ' → va_S (av_A E SH) s.heap H1 locs1 → W p E.1 e R s m args below meth c H1 locs1 0 0 P (F0 m (pc + 3) ls ((v.toList ++ rest).map (av_c E.2.2.1)))) : W p E.1 e R s m args below meth c H locs 0 0 P (F0 m pc ls st0) := by
  intro T hT X
  obtain ⟨v, st₀, t, T', Lc, h0, X', hLc, e1, e2, ⟨⟨v', σ', hv, hQ', hR'⟩, hz, hk⟩, stp⟩ := hr T hT X
  have hvv : v = v'.map (av_c E.2.2.1) := by injection hv
  subst hvv
  rw [h0] at hz hk
  obtain ⟨t2, a1, b1⟩ := kk v' σ' T'.heap (locs ++ Lc) hQ' (by rw [e1]; exact hR') ⟨Nat.le_trans S.1 (by rw [e1]; exact hz), fun q h1 h2 => by rw [e1, hk q (Nat.lt_of_lt_of_le h1 S.1) h2]; exact S.2.1 q h1 h2, fun q hq => by
      rcases List.mem_append.mp hq with h | h
      · exact S.2.2 q h
      · exact hLc q h⟩ T' rfl X'
  rw [av_map_app] at a1
  exact ⟨t2, stp t2 a1, b1⟩
theorem av_blind {E : av_E} {SH : List av_S} {σ : av_M} {vs : List Value} : FrameBlind (va_Pc vs (fun U => av_R E SH U.heap σ ∧ av_K E U)) := fun _ _ _ _ q => ⟨q.1, q.2.1, q.2.2.same rfl⟩
theorem av_goodM {M' : av_Y} {n : Nat} (hb : av_mb M' n) : GoodIn av_T (av_ws M') := fun w h => by
  rcases List.mem_cons.mp h with h | h
  · exact av_T_good w (by rw [h]; exact hb.2.2.2.2)
  · exact av_T_good w h
theorem av_cbd {M' : av_Y} {n idx : Nat} {own : String} {R : Room} {s : State} {args : Array Value} (hts : ∀ w ∈ av_T, w.before args s = true) (hb : av_mb M' n) (hl : Cond.methodLink own idx M'.1 ∈ av_T) (hR : M'.2.2.2.2.1 + 1 ≤ R.frames ∧ 8 + (M'.2.2.1 + 11) + M'.2.2.2.2.2 ≤ R.locals) :
    CallB R s args own idx M'.1 M'.2.1 M'.2.2.1 M'.2.2.2.1 (av_ws M') (av_rm M') 0 0 n :=
  callB_of n hts (av_goodM hb) rfl rfl rfl (hts _ hb.2.2.2.1) (hts _ hl) ⟨hb.1, hb.2.1, hb.2.2.1⟩ hR
theorem av_sum {ad : Nat → Nat} {rest : List av_V} (h : rest.length ≤ 4) : 2 * 0 + ((rest.map (av_c ad)).map fun v => v.category).sum ≤ 8 := by
  have h2 : ∀ (l : List av_V), ((l.map (av_c ad)).map fun v => v.category).sum ≤ 2 * l.length := by
    intro l
    induction l with
    | nil => exact Nat.le_refl _
    | cons a l ih =>
      have : (av_c ad a).category ≤ 2 := by rcases lv_cat (av_c ad a) with h | h <;> omega
      simp only [List.map_cons, List.sum_cons, List.length_cons]
      omega
  have := h2 rest
  omega
theorem av_callV {idx i ci n N : Nat} {fs : List (Option Nat)} {CN own : String} {T : u_T} (M' : av_Y) (as : List av_V) (rest : List av_V) (hd : decode M.2.1 pc = .ok (.invokevirtual idx, 3)) (hs : SH[i]? = some (.inr (ci, fs))) (hc : vwCl[ci]? = some (CN, T, N)) (hcn : M'.1.cls = CN) (hb : av_mb M' n) (hn : as.length = n)
    (hi : Cond.instanceMethod M'.1 ∈ av_T) (hse : Cond.selects CN M'.1 M'.1 ∈ av_T) (ho : own = M.1.cls) (hl : Cond.methodLink own idx M'.1 ∈ av_T) (hR : M'.2.2.2.2.1 + 1 ≤ M.2.2.2.2.1 ∧ 8 + (M'.2.2.1 + 11) + M'.2.2.2.2.2 ≤ M.2.2.2.2.2)
    (hst : as.reverse ++ .inr (.inr i) :: rest = st) (hroom : rest.length ≤ 4)
    (hC : av_C E SH M' (.inr (.inr i) :: as) σ (fun v σ' => av_W E SH M (pc + 3) L (v.toList ++ rest) σ' Q)) : av_W E SH M pc L st σ Q := by
  intro p e s m args below meth c H locs ls C R S hl'
  subst ho
  subst hst
  have hts : ∀ w ∈ av_T, w.before args s = true := fun w hw => C.2.2.2.2.1 w (List.mem_cons_of_mem _ hw)
  have hr := va_runV (H := H) (cells := 0) (slots := 0) (locs := locs) (below := below) (meth := meth) (R := av_rm M) (e := e) (C := CN) (b := E.2.2.1 i) (As := as.map (av_c E.2.2.1)) (rest := rest.map (av_c E.2.2.1)) (g := F0 m pc ls ((as.reverse ++ .inr (.inr i) :: rest).map (av_c E.2.2.1))) (nL := M.2.2.1) (own := M.1.cls) (Ts := av_T)
    ⟨C.1, C.2.1, C.2.2.2.1, C.2.2.2.2.2.1, hts⟩ hC ⟨av_cbd hts hb hl hR, hts _ hi, hts _ hse⟩ ⟨av_blind, va_recv C.2.2.2.2.2.2.2.1 R.1 hc (av_w_at hs), fun U hU hW => ⟨rfl, by rw [hU]; exact R, C.2.2.2.2.2.2.2.warm hW⟩⟩ rfl (by simpa using hn) hl'.1 (by simp [av_c]) (av_sum hroom) hd ⟨Nat.le_refl 0, Nat.le_refl 0⟩
  exact av_after hr S (fun v σ' H1 locs1 hQ hR1 hS1 => hQ p e s m args below meth c H1 locs1 ls C hR1 hS1 hl')
theorem av_callS {idx n : Nat} {own : String} (M' : av_Y) (as : List av_V) (rest : List av_V) (hd : decode M.2.1 pc = .ok (.invokestatic idx, 3)) (hb : av_mb M' n) (hn : as.length = n)
    (hi : Cond.static M'.1 ∈ av_T) (ho : own = M.1.cls) (hl : Cond.methodLink own idx M'.1 ∈ av_T) (hR : M'.2.2.2.2.1 + 1 ≤ M.2.2.2.2.1 ∧ 8 + (M'.2.2.1 + 11) + M'.2.2.2.2.2 ≤ M.2.2.2.2.2)
    (hst : as.reverse ++ rest = st) (hroom : rest.length ≤ 4)
    (hC : av_C E SH M' as σ (fun v σ' => av_W E SH M (pc + 3) L (v.toList ++ rest) σ' Q)) : av_W E SH M pc L st σ Q := by
  intro p e s m args below meth c H locs ls C R S hl'
  subst ho
  subst hst
  have hts : ∀ w ∈ av_T, w.before args s = true := fun w hw => C.2.2.2.2.1 w (List.mem_cons_of_mem _ hw)
  have hr := va_runS (H := H) (cells := 0) (slots := 0) (locs := locs) (below := below) (meth := meth) (R := av_rm M) (e := e) (As := as.map (av_c E.2.2.1)) (rest := rest.map (av_c E.2.2.1)) (g := F0 m pc ls ((as.reverse ++ rest).map (av_c E.2.2.1))) (nL := M.2.2.1) (own := M.1.cls) (Ts := av_T)
    ⟨C.1, C.2.1, C.2.2.2.1, C.2.2.2.2.2.1, hts⟩ hC ⟨av_cbd hts hb hl hR, hts _ hi⟩ ⟨av_blind, fun U hU hW => ⟨rfl, by rw [hU]; exact R, C.2.2.2.2.2.2.2.warm hW⟩⟩ rfl (by simpa using hn) hl'.1 (by simp) (av_sum hroom) hd ⟨Nat.le_refl 0, Nat.le_refl 0⟩
  exact av_after hr S (fun v σ' H1 locs1 hQ hR1 hS1 => hQ p e s m args below meth c H1 locs1 ls C hR1 hS1 hl')
theorem av_callN {idx n : Nat} {own host : String} (M' : av_Y) (as : List av_V) (rest : List av_V) (hd : decode M.2.1 pc = .ok (.invokestatic idx, 3)) (hb : av_mb M' n) (hn : as.length = n)
    (hi : Cond.static M'.1 ∈ av_T) (ho : own = M.1.cls) (hl : ∀ U, av_N U → va_Nw (.methodLinkNest own idx M'.1 host) U) (hR : M'.2.2.2.2.1 + 1 ≤ M.2.2.2.2.1 ∧ 8 + (M'.2.2.1 + 11) + M'.2.2.2.2.2 ≤ M.2.2.2.2.2)
    (hst : as.reverse ++ rest = st) (hroom : rest.length ≤ 4)
    (hC : av_C E SH M' as σ (fun v σ' => av_W E SH M (pc + 3) L (v.toList ++ rest) σ' Q)) : av_W E SH M pc L st σ Q := by
  intro p e s m args below meth c H locs ls C R S hl'
  subst ho
  subst hst
  have hts : ∀ w ∈ av_T, w.before args s = true := fun w hw => C.2.2.2.2.1 w (List.mem_cons_of_mem _ hw)
  have hr := va_runSN (H := H) (cells := 0) (slots := 0) (locs := locs) (below := below) (meth := meth) (R := av_rm M) (e := e) (As := as.map (av_c E.2.2.1)) (rest := rest.map (av_c E.2.2.1)) (g := F0 m pc ls ((as.reverse ++ rest).map (av_c E.2.2.1))) (nL := M.2.2.1) (own := M.1.cls) (Ts := av_T) (host := host)
    ⟨C.1, C.2.1, C.2.2.2.1, C.2.2.2.2.2.1, hts⟩ hC ⟨va_cnB n hts (av_goodM hb) rfl rfl rfl (hl _ C.2.2.2.2.2.2.2.2) (hts _ hb.2.2.2.1) ⟨hb.1, hb.2.1, hb.2.2.1⟩ hR, hts _ hi, trivial⟩ ⟨av_blind, fun U hU hW => ⟨rfl, by rw [hU]; exact R, C.2.2.2.2.2.2.2.warm hW⟩⟩ rfl (by simpa using hn) hl'.1 (by simp) (av_sum hroom) hd ⟨Nat.le_refl 0, Nat.le_refl 0⟩
  exact av_after hr S (fun v σ' H1 locs1 hQ hR1 hS1 => hQ p e s m args below meth c H1 locs1 ls C hR1 hS1 hl')
theorem av_C.mono {Q' : Option av_V → av_M → Prop} (h : ∀ v σ', Q v σ' → Q' v σ') {M' : av_Y} (hC : av_C E SH M' as σ Q) : av_C E SH M' as σ Q' := by
  intro p e ha hc hk s m args below hf hfit hP hT
  obtain ⟨n, o, h1, h2, h3, ⟨⟨⟨v, σ', hv, hq, hr⟩, hF⟩, hL⟩⟩ := hC p e ha hc hk s m args below hf hfit hP hT
  exact ⟨n, o, h1, h2, h3, ⟨⟨⟨v, σ', hv, h _ _ hq, hr⟩, hF⟩, hL⟩⟩
/-- System.arraycopy of ints -/
theorem av_copy {idx i0 i1 n0 n1 : Nat} {sp dp n : Int} {own : String} (hd : decode M.2.1 pc = .ok (.invokestatic idx, 3)) (ho : own = M.1.cls) (hl : Cond.methodLink own idx arraycopyName ∈ av_T) (hnat : Cond.native arraycopyName ∈ av_T) (hstat : Cond.static arraycopyName ∈ av_T) (hini : Cond.initialized "java/lang/System" ∈ av_T)
    (hs0 : SH[i0]? = some (.inl (0, n0))) (hs1 : SH[i1]? = some (.inl (0, n1))) (h0 : n0 ≤ 2147483647) (h1 : n1 ≤ 2147483647) (hb : (0 ≤ sp ∧ sp + n ≤ n0) ∧ (0 ≤ dp ∧ dp + n ≤ n1) ∧ 0 ≤ n) (hfr : 1 ≤ M.2.2.2.2.1) (hlo : 8 + (nativeFrameWords "java/lang/System" "arraycopy" 5 + 11) ≤ M.2.2.2.2.2) (hroom : st.length ≤ 4)
    (kk : av_W E SH M (pc + 3) L st (av_cp σ i0 sp.toNat i1 dp.toNat n.toNat) Q) : av_W E SH M pc L (.inl n :: .inl dp :: .inr (.inr i1) :: .inl sp :: .inr (.inr i0) :: st) σ Q := by
  intro p e s m args below meth c H locs ls C R S hl'
  subst ho
  have hts : ∀ w ∈ av_T, w.before args s = true := fun w hw => C.2.2.2.2.1 w (List.mem_cons_of_mem _ hw)
  have e1 : (Int32.ofInt sp).toNatClampNeg = sp.toNat := Int32.toNatClampNeg_ofInt_of_le (by omega) (by omega)
  have e2 : (Int32.ofInt dp).toNatClampNeg = dp.toNat := Int32.toNatClampNeg_ofInt_of_le (by omega) (by omega)
  have e3 : (Int32.ofInt n).toNatClampNeg = n.toNat := Int32.toNatClampNeg_ofInt_of_le (by omega) (by omega)
  have hneg : ∀ x : Int, 0 ≤ x → x < 2147483648 → ¬ Int32.ofInt x < 0 := fun x q1 q2 => by rw [i32_0, i32_lt, i32_z, i32_of (by omega) (by omega)]; omega
  refine va_copyi C.1 C.2.1 (by rw [C.2.2.2.1, hl'.1]) C.2.2.2.2.2.1 (hts _ hl) (hts _ hnat) (hts _ hstat) (hts _ hini) C.2.2.2.2.2.2.2.1 R.1 R.2 S i0 i1 0 0 (av_w_at hs0) (av_w_at hs1) rfl rfl rfl
    (hneg _ (by omega) (by omega)) (hneg _ (by omega) (by omega)) (hneg _ (by omega) (by omega)) (by rw [e1, e3]; omega) (by rw [e2, e3]; omega) (fun _ _ => rfl) hfr (by have := av_sum (ad := E.2.2.1) hroom; show _ ≤ M.2.2.2.2.2; omega) hd (fun H1 locs1 hP hD hS => ?_)
  have hset := av_w_set (E := E) (SH := SH) (σ := σ) (σ' := av_cp σ i0 sp.toNat i1 dp.toNat n.toNat) hs1 (x := .inl (E.2.2.2 0, n1, .inl (va_cpy (fun j => Int32.ofInt (σ i0 j)) (fun j => Int32.ofInt (σ i1 j)) sp.toNat dp.toNat n.toNat))) (by
    simp only [av_e, av_cp]
    congr 3
    congr 1
    funext j
    by_cases hj : dp.toNat ≤ j ∧ j < dp.toNat + n.toNat
    · simp only [va_cpy, if_pos hj, true_and]
    · simp only [va_cpy, if_neg hj, true_and]) (fun j sh' hj => av_e_congr (av_cp_ne hj))
  rw [e1, e2, e3, hset] at hP hD
  exact kk p e s m args below meth c H1 locs1 ls C ⟨hP, hD⟩ hS hl'
end AVC
end
