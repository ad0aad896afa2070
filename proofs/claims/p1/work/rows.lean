section
-- ===== PART A: goes FIRST, ahead of the names: the tables' words, and 'selects' of the private methods out of them =====
/-- a private method of a class that the tables say can be made, by its rows of tables_1 -/
def lw_okq (q : MethodName × Nat) : Prop := (q.1.cls ≠ "java/lang/invoke/MethodHandle" ∧ q.1.cls ≠ "java/lang/invoke/VarHandle") ∧ Cond.instantiable q.1.cls q.2 ∈ tables_1 ∧ Cond.privateMethod q.1 ∈ tables_1 ∧ Cond.instanceMethod q.1 ∈ tables_1
theorem lw_p0 : lw_okq (⟨"FourHands", "refuseBad", "(I)I"⟩, 14) := ⟨⟨by decide +kernel, by decide +kernel⟩, List.mem_of_getElem? (i := 18) (by decide +kernel), List.mem_of_getElem? (i := 302) (by decide +kernel), List.mem_of_getElem? (i := 303) (by decide +kernel)⟩
theorem lw_p1 : lw_okq (⟨"FourHands", "forgetTheRest", "()V"⟩, 14) := ⟨⟨by decide +kernel, by decide +kernel⟩, List.mem_of_getElem? (i := 18) (by decide +kernel), List.mem_of_getElem? (i := 310) (by decide +kernel), List.mem_of_getElem? (i := 311) (by decide +kernel)⟩
theorem lw_p2 : lw_okq (⟨"FourHands", "refuseFull", "()I"⟩, 14) := ⟨⟨by decide +kernel, by decide +kernel⟩, List.mem_of_getElem? (i := 18) (by decide +kernel), List.mem_of_getElem? (i := 332) (by decide +kernel), List.mem_of_getElem? (i := 333) (by decide +kernel)⟩
theorem lw_p3 : lw_okq (⟨"FourHands$Script", "takeToken", "()V"⟩, 7) := ⟨⟨by decide +kernel, by decide +kernel⟩, List.mem_of_getElem? (i := 118) (by decide +kernel), List.mem_of_getElem? (i := 360) (by decide +kernel), List.mem_of_getElem? (i := 361) (by decide +kernel)⟩
theorem lw_p4 : lw_okq (⟨"FourHands$Script", "sortAt", "(I)I"⟩, 7) := ⟨⟨by decide +kernel, by decide +kernel⟩, List.mem_of_getElem? (i := 118) (by decide +kernel), List.mem_of_getElem? (i := 364) (by decide +kernel), List.mem_of_getElem? (i := 365) (by decide +kernel)⟩
theorem lw_p5 : lw_okq (⟨"FourHands$Script", "readItem", "(LFourHands$Piece;Z)Z"⟩, 7) := ⟨⟨by decide +kernel, by decide +kernel⟩, List.mem_of_getElem? (i := 118) (by decide +kernel), List.mem_of_getElem? (i := 368) (by decide +kernel), List.mem_of_getElem? (i := 369) (by decide +kernel)⟩
theorem lw_p6 : lw_okq (⟨"FourHands$Script", "isWord", "(Ljava/lang/String;)Z"⟩, 7) := ⟨⟨by decide +kernel, by decide +kernel⟩, List.mem_of_getElem? (i := 118) (by decide +kernel), List.mem_of_getElem? (i := 373) (by decide +kernel), List.mem_of_getElem? (i := 374) (by decide +kernel)⟩
theorem lw_p7 : lw_okq (⟨"FourHands$Script", "readPiece", "(LFourHands$Piece;)Z"⟩, 7) := ⟨⟨by decide +kernel, by decide +kernel⟩, List.mem_of_getElem? (i := 118) (by decide +kernel), List.mem_of_getElem? (i := 425) (by decide +kernel), List.mem_of_getElem? (i := 426) (by decide +kernel)⟩
theorem lw_p8 : lw_okq (⟨"FourHands$Script", "takeNumber", "(II)Z"⟩, 7) := ⟨⟨by decide +kernel, by decide +kernel⟩, List.mem_of_getElem? (i := 118) (by decide +kernel), List.mem_of_getElem? (i := 429) (by decide +kernel), List.mem_of_getElem? (i := 430) (by decide +kernel)⟩
theorem lw_p9 : lw_okq (⟨"FourHands$Script", "numberValue", "()I"⟩, 7) := ⟨⟨by decide +kernel, by decide +kernel⟩, List.mem_of_getElem? (i := 118) (by decide +kernel), List.mem_of_getElem? (i := 433) (by decide +kernel), List.mem_of_getElem? (i := 434) (by decide +kernel)⟩
theorem lw_p10 : lw_okq (⟨"FourHands$Script", "takeStop", "()Z"⟩, 7) := ⟨⟨by decide +kernel, by decide +kernel⟩, List.mem_of_getElem? (i := 118) (by decide +kernel), List.mem_of_getElem? (i := 438) (by decide +kernel), List.mem_of_getElem? (i := 439) (by decide +kernel)⟩
theorem lw_p11 : lw_okq (⟨"FourHands$Script", "readHand", "(LFourHands$Piece;)Z"⟩, 7) := ⟨⟨by decide +kernel, by decide +kernel⟩, List.mem_of_getElem? (i := 118) (by decide +kernel), List.mem_of_getElem? (i := 444) (by decide +kernel), List.mem_of_getElem? (i := 445) (by decide +kernel)⟩
theorem lw_p12 : lw_okq (⟨"FourHands$Script", "readNote", "(LFourHands$Piece;)Z"⟩, 7) := ⟨⟨by decide +kernel, by decide +kernel⟩, List.mem_of_getElem? (i := 118) (by decide +kernel), List.mem_of_getElem? (i := 450) (by decide +kernel), List.mem_of_getElem? (i := 451) (by decide +kernel)⟩
theorem lw_p13 : lw_okq (⟨"FourHands", "isNote", "(I)Z"⟩, 14) := ⟨⟨by decide +kernel, by decide +kernel⟩, List.mem_of_getElem? (i := 18) (by decide +kernel), List.mem_of_getElem? (i := 468) (by decide +kernel), List.mem_of_getElem? (i := 469) (by decide +kernel)⟩
theorem lw_p14 : lw_okq (⟨"FourHands$Piece", "isQuick", "(I)Z"⟩, 18) := ⟨⟨by decide +kernel, by decide +kernel⟩, List.mem_of_getElem? (i := 26) (by decide +kernel), List.mem_of_getElem? (i := 498) (by decide +kernel), List.mem_of_getElem? (i := 499) (by decide +kernel)⟩
theorem lw_p15 : lw_okq (⟨"FourHands$Piece", "isStiff", "(I)Z"⟩, 18) := ⟨⟨by decide +kernel, by decide +kernel⟩, List.mem_of_getElem? (i := 26) (by decide +kernel), List.mem_of_getElem? (i := 502) (by decide +kernel), List.mem_of_getElem? (i := 503) (by decide +kernel)⟩
def lw_privs_1 : List (MethodName × Nat) := [(⟨"FourHands", "refuseBad", "(I)I"⟩, 14), (⟨"FourHands", "forgetTheRest", "()V"⟩, 14), (⟨"FourHands", "refuseFull", "()I"⟩, 14), (⟨"FourHands$Script", "takeToken", "()V"⟩, 7), (⟨"FourHands$Script", "sortAt", "(I)I"⟩, 7), (⟨"FourHands$Script", "readItem", "(LFourHands$Piece;Z)Z"⟩, 7), (⟨"FourHands$Script", "isWord", "(Ljava/lang/String;)Z"⟩, 7), (⟨"FourHands$Script", "readPiece", "(LFourHands$Piece;)Z"⟩, 7), (⟨"FourHands$Script", "takeNumber", "(II)Z"⟩, 7), (⟨"FourHands$Script", "numberValue", "()I"⟩, 7), (⟨"FourHands$Script", "takeStop", "()Z"⟩, 7), (⟨"FourHands$Script", "readHand", "(LFourHands$Piece;)Z"⟩, 7), (⟨"FourHands$Script", "readNote", "(LFourHands$Piece;)Z"⟩, 7), (⟨"FourHands", "isNote", "(I)Z"⟩, 14), (⟨"FourHands$Piece", "isQuick", "(I)Z"⟩, 18), (⟨"FourHands$Piece", "isStiff", "(I)Z"⟩, 18)]
theorem lw_r1 : ∀ q ∈ lw_privs_1, lw_okq q := List.forall_mem_cons.mpr ⟨lw_p0, List.forall_mem_cons.mpr ⟨lw_p1, List.forall_mem_cons.mpr ⟨lw_p2, List.forall_mem_cons.mpr ⟨lw_p3, List.forall_mem_cons.mpr ⟨lw_p4, List.forall_mem_cons.mpr ⟨lw_p5, List.forall_mem_cons.mpr ⟨lw_p6, List.forall_mem_cons.mpr ⟨lw_p7, List.forall_mem_cons.mpr ⟨lw_p8, List.forall_mem_cons.mpr ⟨lw_p9, List.forall_mem_cons.mpr ⟨lw_p10, List.forall_mem_cons.mpr ⟨lw_p11, List.forall_mem_cons.mpr ⟨lw_p12, List.forall_mem_cons.mpr ⟨lw_p13, List.forall_mem_cons.mpr ⟨lw_p14, List.forall_mem_cons.mpr ⟨lw_p15, fun _ h => absurd h List.not_mem_nil⟩⟩⟩⟩⟩⟩⟩⟩⟩⟩⟩⟩⟩⟩⟩⟩
theorem lw_p16 : lw_okq (⟨"FourHands", "refuseNo", "(I)I"⟩, 14) := ⟨⟨by decide +kernel, by decide +kernel⟩, List.mem_of_getElem? (i := 18) (by decide +kernel), List.mem_of_getElem? (i := 518) (by decide +kernel), List.mem_of_getElem? (i := 519) (by decide +kernel)⟩
theorem lw_p17 : lw_okq (⟨"FourHands$Handing", "countAll", "(LFourHands$Piece;)V"⟩, 5) := ⟨⟨by decide +kernel, by decide +kernel⟩, List.mem_of_getElem? (i := 147) (by decide +kernel), List.mem_of_getElem? (i := 559) (by decide +kernel), List.mem_of_getElem? (i := 560) (by decide +kernel)⟩
theorem lw_p18 : lw_okq (⟨"FourHands$Handing", "countWith", "(LFourHands$Piece;II)I"⟩, 5) := ⟨⟨by decide +kernel, by decide +kernel⟩, List.mem_of_getElem? (i := 147) (by decide +kernel), List.mem_of_getElem? (i := 563) (by decide +kernel), List.mem_of_getElem? (i := 564) (by decide +kernel)⟩
theorem lw_p19 : lw_okq (⟨"FourHands$Handing", "isChange", "(LFourHands$Piece;II)Z"⟩, 5) := ⟨⟨by decide +kernel, by decide +kernel⟩, List.mem_of_getElem? (i := 147) (by decide +kernel), List.mem_of_getElem? (i := 568) (by decide +kernel), List.mem_of_getElem? (i := 569) (by decide +kernel)⟩
theorem lw_p20 : lw_okq (⟨"FourHands$Handing", "tryRows", "(LFourHands$Piece;III)V"⟩, 5) := ⟨⟨by decide +kernel, by decide +kernel⟩, List.mem_of_getElem? (i := 147) (by decide +kernel), List.mem_of_getElem? (i := 576) (by decide +kernel), List.mem_of_getElem? (i := 577) (by decide +kernel)⟩
theorem lw_p21 : lw_okq (⟨"FourHands$Handing", "moreBy", "(LFourHands$Piece;II)I"⟩, 5) := ⟨⟨by decide +kernel, by decide +kernel⟩, List.mem_of_getElem? (i := 147) (by decide +kernel), List.mem_of_getElem? (i := 580) (by decide +kernel), List.mem_of_getElem? (i := 581) (by decide +kernel)⟩
theorem lw_p22 : lw_okq (⟨"FourHands$Handing", "keepIfFewer", "(IIII)V"⟩, 5) := ⟨⟨by decide +kernel, by decide +kernel⟩, List.mem_of_getElem? (i := 147) (by decide +kernel), List.mem_of_getElem? (i := 584) (by decide +kernel), List.mem_of_getElem? (i := 585) (by decide +kernel)⟩
theorem lw_p23 : lw_okq (⟨"FourHands$Handing", "pairMore", "(LFourHands$Piece;IIII)I"⟩, 5) := ⟨⟨by decide +kernel, by decide +kernel⟩, List.mem_of_getElem? (i := 147) (by decide +kernel), List.mem_of_getElem? (i := 588) (by decide +kernel), List.mem_of_getElem? (i := 589) (by decide +kernel)⟩
theorem lw_p24 : lw_okq (⟨"FourHands$Fingering", "sortNotes", "(LFourHands$Piece;I)V"⟩, 5) := ⟨⟨by decide +kernel, by decide +kernel⟩, List.mem_of_getElem? (i := 172) (by decide +kernel), List.mem_of_getElem? (i := 618) (by decide +kernel), List.mem_of_getElem? (i := 619) (by decide +kernel)⟩
theorem lw_p25 : lw_okq (⟨"FourHands$Fingering", "isAhead", "(LFourHands$Piece;II)Z"⟩, 5) := ⟨⟨by decide +kernel, by decide +kernel⟩, List.mem_of_getElem? (i := 172) (by decide +kernel), List.mem_of_getElem? (i := 622) (by decide +kernel), List.mem_of_getElem? (i := 623) (by decide +kernel)⟩
theorem lw_p26 : lw_okq (⟨"FourHands$Fingering", "leastFrom", "(LFourHands$Piece;II)I"⟩, 5) := ⟨⟨by decide +kernel, by decide +kernel⟩, List.mem_of_getElem? (i := 172) (by decide +kernel), List.mem_of_getElem? (i := 626) (by decide +kernel), List.mem_of_getElem? (i := 627) (by decide +kernel)⟩
theorem lw_p27 : lw_okq (⟨"FourHands$Fingering", "nextFinger", "(LFourHands$Piece;II)I"⟩, 5) := ⟨⟨by decide +kernel, by decide +kernel⟩, List.mem_of_getElem? (i := 172) (by decide +kernel), List.mem_of_getElem? (i := 630) (by decide +kernel), List.mem_of_getElem? (i := 631) (by decide +kernel)⟩
theorem lw_p28 : lw_okq (⟨"FourHands$Fingering", "costBy", "(LFourHands$Piece;III)I"⟩, 5) := ⟨⟨by decide +kernel, by decide +kernel⟩, List.mem_of_getElem? (i := 172) (by decide +kernel), List.mem_of_getElem? (i := 634) (by decide +kernel), List.mem_of_getElem? (i := 635) (by decide +kernel)⟩
theorem lw_p29 : lw_okq (⟨"FourHands$Pedalling", "gatherEnds", "(LFourHands$Piece;)V"⟩, 8) := ⟨⟨by decide +kernel, by decide +kernel⟩, List.mem_of_getElem? (i := 197) (by decide +kernel), List.mem_of_getElem? (i := 651) (by decide +kernel), List.mem_of_getElem? (i := 652) (by decide +kernel)⟩
theorem lw_p30 : lw_okq (⟨"FourHands$Pedalling", "gatherPairs", "(LFourHands$Piece;)V"⟩, 8) := ⟨⟨by decide +kernel, by decide +kernel⟩, List.mem_of_getElem? (i := 197) (by decide +kernel), List.mem_of_getElem? (i := 656) (by decide +kernel), List.mem_of_getElem? (i := 657) (by decide +kernel)⟩
theorem lw_p31 : lw_okq (⟨"FourHands", "freeHand", "(II)I"⟩, 14) := ⟨⟨by decide +kernel, by decide +kernel⟩, List.mem_of_getElem? (i := 18) (by decide +kernel), List.mem_of_getElem? (i := 686) (by decide +kernel), List.mem_of_getElem? (i := 687) (by decide +kernel)⟩
def lw_privs_2 : List (MethodName × Nat) := [(⟨"FourHands", "refuseNo", "(I)I"⟩, 14), (⟨"FourHands$Handing", "countAll", "(LFourHands$Piece;)V"⟩, 5), (⟨"FourHands$Handing", "countWith", "(LFourHands$Piece;II)I"⟩, 5), (⟨"FourHands$Handing", "isChange", "(LFourHands$Piece;II)Z"⟩, 5), (⟨"FourHands$Handing", "tryRows", "(LFourHands$Piece;III)V"⟩, 5), (⟨"FourHands$Handing", "moreBy", "(LFourHands$Piece;II)I"⟩, 5), (⟨"FourHands$Handing", "keepIfFewer", "(IIII)V"⟩, 5), (⟨"FourHands$Handing", "pairMore", "(LFourHands$Piece;IIII)I"⟩, 5), (⟨"FourHands$Fingering", "sortNotes", "(LFourHands$Piece;I)V"⟩, 5), (⟨"FourHands$Fingering", "isAhead", "(LFourHands$Piece;II)Z"⟩, 5), (⟨"FourHands$Fingering", "leastFrom", "(LFourHands$Piece;II)I"⟩, 5), (⟨"FourHands$Fingering", "nextFinger", "(LFourHands$Piece;II)I"⟩, 5), (⟨"FourHands$Fingering", "costBy", "(LFourHands$Piece;III)I"⟩, 5), (⟨"FourHands$Pedalling", "gatherEnds", "(LFourHands$Piece;)V"⟩, 8), (⟨"FourHands$Pedalling", "gatherPairs", "(LFourHands$Piece;)V"⟩, 8), (⟨"FourHands", "freeHand", "(II)I"⟩, 14)]
theorem lw_r2 : ∀ q ∈ lw_privs_2, lw_okq q := List.forall_mem_cons.mpr ⟨lw_p16, List.forall_mem_cons.mpr ⟨lw_p17, List.forall_mem_cons.mpr ⟨lw_p18, List.forall_mem_cons.mpr ⟨lw_p19, List.forall_mem_cons.mpr ⟨lw_p20, List.forall_mem_cons.mpr ⟨lw_p21, List.forall_mem_cons.mpr ⟨lw_p22, List.forall_mem_cons.mpr ⟨lw_p23, List.forall_mem_cons.mpr ⟨lw_p24, List.forall_mem_cons.mpr ⟨lw_p25, List.forall_mem_cons.mpr ⟨lw_p26, List.forall_mem_cons.mpr ⟨lw_p27, List.forall_mem_cons.mpr ⟨lw_p28, List.forall_mem_cons.mpr ⟨lw_p29, List.forall_mem_cons.mpr ⟨lw_p30, List.forall_mem_cons.mpr ⟨lw_p31, fun _ h => absurd h List.not_mem_nil⟩⟩⟩⟩⟩⟩⟩⟩⟩⟩⟩⟩⟩⟩⟩⟩
theorem lw_p32 : lw_okq (⟨"FourHands$Practising", "countSlips", "(LFourHands$Piece;)V"⟩, 4) := ⟨⟨by decide +kernel, by decide +kernel⟩, List.mem_of_getElem? (i := 231) (by decide +kernel), List.mem_of_getElem? (i := 719) (by decide +kernel), List.mem_of_getElem? (i := 720) (by decide +kernel)⟩
theorem lw_p33 : lw_okq (⟨"FourHands$Practising", "hoursHere", "(II)I"⟩, 4) := ⟨⟨by decide +kernel, by decide +kernel⟩, List.mem_of_getElem? (i := 231) (by decide +kernel), List.mem_of_getElem? (i := 727) (by decide +kernel), List.mem_of_getElem? (i := 728) (by decide +kernel)⟩
theorem lw_p34 : lw_okq (⟨"FourHands$Practising", "leaves", "(III)I"⟩, 4) := ⟨⟨by decide +kernel, by decide +kernel⟩, List.mem_of_getElem? (i := 231) (by decide +kernel), List.mem_of_getElem? (i := 731) (by decide +kernel), List.mem_of_getElem? (i := 732) (by decide +kernel)⟩
theorem lw_p35 : lw_okq (⟨"FourHands$Practising", "fillRow", "(I)V"⟩, 4) := ⟨⟨by decide +kernel, by decide +kernel⟩, List.mem_of_getElem? (i := 231) (by decide +kernel), List.mem_of_getElem? (i := 735) (by decide +kernel), List.mem_of_getElem? (i := 736) (by decide +kernel)⟩
theorem lw_p36 : lw_okq (⟨"FourHands", "setFraction", "(II)V"⟩, 14) := ⟨⟨by decide +kernel, by decide +kernel⟩, List.mem_of_getElem? (i := 18) (by decide +kernel), List.mem_of_getElem? (i := 744) (by decide +kernel), List.mem_of_getElem? (i := 745) (by decide +kernel)⟩
theorem lw_p37 : lw_okq (⟨"FourHands", "howMany", "(I)I"⟩, 14) := ⟨⟨by decide +kernel, by decide +kernel⟩, List.mem_of_getElem? (i := 18) (by decide +kernel), List.mem_of_getElem? (i := 791) (by decide +kernel), List.mem_of_getElem? (i := 792) (by decide +kernel)⟩
theorem lw_p38 : lw_okq (⟨"FourHandsModel", "bad", "(I)I"⟩, 28) := ⟨⟨by decide +kernel, by decide +kernel⟩, List.mem_of_getElem? (i := 810) (by decide +kernel), List.mem_of_getElem? (i := 913) (by decide +kernel), List.mem_of_getElem? (i := 914) (by decide +kernel)⟩
theorem lw_p39 : lw_okq (⟨"FourHandsModel", "notes", "()I"⟩, 28) := ⟨⟨by decide +kernel, by decide +kernel⟩, List.mem_of_getElem? (i := 810) (by decide +kernel), List.mem_of_getElem? (i := 917) (by decide +kernel), List.mem_of_getElem? (i := 918) (by decide +kernel)⟩
theorem lw_p40 : lw_okq (⟨"FourHandsModel", "full", "()I"⟩, 28) := ⟨⟨by decide +kernel, by decide +kernel⟩, List.mem_of_getElem? (i := 810) (by decide +kernel), List.mem_of_getElem? (i := 942) (by decide +kernel), List.mem_of_getElem? (i := 943) (by decide +kernel)⟩
theorem lw_p41 : lw_okq (⟨"FourHandsModel", "isNote", "(I)Z"⟩, 28) := ⟨⟨by decide +kernel, by decide +kernel⟩, List.mem_of_getElem? (i := 810) (by decide +kernel), List.mem_of_getElem? (i := 953) (by decide +kernel), List.mem_of_getElem? (i := 954) (by decide +kernel)⟩
theorem lw_p42 : lw_okq (⟨"FourHandsModel", "keep", "()V"⟩, 28) := ⟨⟨by decide +kernel, by decide +kernel⟩, List.mem_of_getElem? (i := 810) (by decide +kernel), List.mem_of_getElem? (i := 957) (by decide +kernel), List.mem_of_getElem? (i := 958) (by decide +kernel)⟩
theorem lw_p43 : lw_okq (⟨"FourHandsModel", "get", "(II)I"⟩, 28) := ⟨⟨by decide +kernel, by decide +kernel⟩, List.mem_of_getElem? (i := 810) (by decide +kernel), List.mem_of_getElem? (i := 961) (by decide +kernel), List.mem_of_getElem? (i := 962) (by decide +kernel)⟩
theorem lw_p44 : lw_okq (⟨"FourHandsModel", "setHand", "(II)V"⟩, 28) := ⟨⟨by decide +kernel, by decide +kernel⟩, List.mem_of_getElem? (i := 810) (by decide +kernel), List.mem_of_getElem? (i := 965) (by decide +kernel), List.mem_of_getElem? (i := 966) (by decide +kernel)⟩
theorem lw_p45 : lw_okq (⟨"FourHandsModel", "clashesNow", "()I"⟩, 28) := ⟨⟨by decide +kernel, by decide +kernel⟩, List.mem_of_getElem? (i := 810) (by decide +kernel), List.mem_of_getElem? (i := 969) (by decide +kernel), List.mem_of_getElem? (i := 970) (by decide +kernel)⟩
theorem lw_p46 : lw_okq (⟨"FourHandsModel", "clashOf", "(II)I"⟩, 28) := ⟨⟨by decide +kernel, by decide +kernel⟩, List.mem_of_getElem? (i := 810) (by decide +kernel), List.mem_of_getElem? (i := 973) (by decide +kernel), List.mem_of_getElem? (i := 974) (by decide +kernel)⟩
theorem lw_p47 : lw_okq (⟨"FourHandsModel", "isPlayed", "(I)Z"⟩, 28) := ⟨⟨by decide +kernel, by decide +kernel⟩, List.mem_of_getElem? (i := 810) (by decide +kernel), List.mem_of_getElem? (i := 977) (by decide +kernel), List.mem_of_getElem? (i := 978) (by decide +kernel)⟩
def lw_privs_3 : List (MethodName × Nat) := [(⟨"FourHands$Practising", "countSlips", "(LFourHands$Piece;)V"⟩, 4), (⟨"FourHands$Practising", "hoursHere", "(II)I"⟩, 4), (⟨"FourHands$Practising", "leaves", "(III)I"⟩, 4), (⟨"FourHands$Practising", "fillRow", "(I)V"⟩, 4), (⟨"FourHands", "setFraction", "(II)V"⟩, 14), (⟨"FourHands", "howMany", "(I)I"⟩, 14), (⟨"FourHandsModel", "bad", "(I)I"⟩, 28), (⟨"FourHandsModel", "notes", "()I"⟩, 28), (⟨"FourHandsModel", "full", "()I"⟩, 28), (⟨"FourHandsModel", "isNote", "(I)Z"⟩, 28), (⟨"FourHandsModel", "keep", "()V"⟩, 28), (⟨"FourHandsModel", "get", "(II)I"⟩, 28), (⟨"FourHandsModel", "setHand", "(II)V"⟩, 28), (⟨"FourHandsModel", "clashesNow", "()I"⟩, 28), (⟨"FourHandsModel", "clashOf", "(II)I"⟩, 28), (⟨"FourHandsModel", "isPlayed", "(I)Z"⟩, 28)]
theorem lw_r3 : ∀ q ∈ lw_privs_3, lw_okq q := List.forall_mem_cons.mpr ⟨lw_p32, List.forall_mem_cons.mpr ⟨lw_p33, List.forall_mem_cons.mpr ⟨lw_p34, List.forall_mem_cons.mpr ⟨lw_p35, List.forall_mem_cons.mpr ⟨lw_p36, List.forall_mem_cons.mpr ⟨lw_p37, List.forall_mem_cons.mpr ⟨lw_p38, List.forall_mem_cons.mpr ⟨lw_p39, List.forall_mem_cons.mpr ⟨lw_p40, List.forall_mem_cons.mpr ⟨lw_p41, List.forall_mem_cons.mpr ⟨lw_p42, List.forall_mem_cons.mpr ⟨lw_p43, List.forall_mem_cons.mpr ⟨lw_p44, List.forall_mem_cons.mpr ⟨lw_p45, List.forall_mem_cons.mpr ⟨lw_p46, List.forall_mem_cons.mpr ⟨lw_p47, fun _ h => absurd h List.not_mem_nil⟩⟩⟩⟩⟩⟩⟩⟩⟩⟩⟩⟩⟩⟩⟩⟩
theorem lw_p48 : lw_okq (⟨"FourHandsModel", "soundTogether", "(II)Z"⟩, 28) := ⟨⟨by decide +kernel, by decide +kernel⟩, List.mem_of_getElem? (i := 810) (by decide +kernel), List.mem_of_getElem? (i := 984) (by decide +kernel), List.mem_of_getElem? (i := 985) (by decide +kernel)⟩
theorem lw_p49 : lw_okq (⟨"FourHandsModel", "endOf", "(I)I"⟩, 28) := ⟨⟨by decide +kernel, by decide +kernel⟩, List.mem_of_getElem? (i := 810) (by decide +kernel), List.mem_of_getElem? (i := 988) (by decide +kernel), List.mem_of_getElem? (i := 989) (by decide +kernel)⟩
theorem lw_p50 : lw_okq (⟨"FourHandsModel", "byTwo", "(II)I"⟩, 28) := ⟨⟨by decide +kernel, by decide +kernel⟩, List.mem_of_getElem? (i := 810) (by decide +kernel), List.mem_of_getElem? (i := 992) (by decide +kernel), List.mem_of_getElem? (i := 993) (by decide +kernel)⟩
theorem lw_p51 : lw_okq (⟨"FourHandsModel", "nearOf", "(I)I"⟩, 28) := ⟨⟨by decide +kernel, by decide +kernel⟩, List.mem_of_getElem? (i := 810) (by decide +kernel), List.mem_of_getElem? (i := 996) (by decide +kernel), List.mem_of_getElem? (i := 997) (by decide +kernel)⟩
theorem lw_p52 : lw_okq (⟨"FourHandsModel", "kindOf", "(I)I"⟩, 28) := ⟨⟨by decide +kernel, by decide +kernel⟩, List.mem_of_getElem? (i := 810) (by decide +kernel), List.mem_of_getElem? (i := 1000) (by decide +kernel), List.mem_of_getElem? (i := 1001) (by decide +kernel)⟩
theorem lw_p53 : lw_okq (⟨"FourHandsModel", "reaches", "(I)I"⟩, 28) := ⟨⟨by decide +kernel, by decide +kernel⟩, List.mem_of_getElem? (i := 810) (by decide +kernel), List.mem_of_getElem? (i := 1004) (by decide +kernel), List.mem_of_getElem? (i := 1005) (by decide +kernel)⟩
theorem lw_p54 : lw_okq (⟨"FourHandsModel", "moves", "(I)I"⟩, 28) := ⟨⟨by decide +kernel, by decide +kernel⟩, List.mem_of_getElem? (i := 810) (by decide +kernel), List.mem_of_getElem? (i := 1008) (by decide +kernel), List.mem_of_getElem? (i := 1009) (by decide +kernel)⟩
theorem lw_p55 : lw_okq (⟨"FourHandsModel", "no", "(I)I"⟩, 28) := ⟨⟨by decide +kernel, by decide +kernel⟩, List.mem_of_getElem? (i := 810) (by decide +kernel), List.mem_of_getElem? (i := 1016) (by decide +kernel), List.mem_of_getElem? (i := 1017) (by decide +kernel)⟩
theorem lw_p56 : lw_okq (⟨"FourHandsModel", "notesOf", "(I)I"⟩, 28) := ⟨⟨by decide +kernel, by decide +kernel⟩, List.mem_of_getElem? (i := 810) (by decide +kernel), List.mem_of_getElem? (i := 1029) (by decide +kernel), List.mem_of_getElem? (i := 1030) (by decide +kernel)⟩
theorem lw_p57 : lw_okq (⟨"FourHandsModel", "weigh", "(III)V"⟩, 28) := ⟨⟨by decide +kernel, by decide +kernel⟩, List.mem_of_getElem? (i := 810) (by decide +kernel), List.mem_of_getElem? (i := 1047) (by decide +kernel), List.mem_of_getElem? (i := 1048) (by decide +kernel)⟩
theorem lw_p58 : lw_okq (⟨"FourHandsModel", "tryOne", "(Z)V"⟩, 28) := ⟨⟨by decide +kernel, by decide +kernel⟩, List.mem_of_getElem? (i := 810) (by decide +kernel), List.mem_of_getElem? (i := 1051) (by decide +kernel), List.mem_of_getElem? (i := 1052) (by decide +kernel)⟩
theorem lw_p59 : lw_okq (⟨"FourHandsModel", "trySecond", "(II)V"⟩, 28) := ⟨⟨by decide +kernel, by decide +kernel⟩, List.mem_of_getElem? (i := 810) (by decide +kernel), List.mem_of_getElem? (i := 1055) (by decide +kernel), List.mem_of_getElem? (i := 1056) (by decide +kernel)⟩
theorem lw_p60 : lw_okq (⟨"FourHandsModel", "layRow", "(I)V"⟩, 28) := ⟨⟨by decide +kernel, by decide +kernel⟩, List.mem_of_getElem? (i := 810) (by decide +kernel), List.mem_of_getElem? (i := 1070) (by decide +kernel), List.mem_of_getElem? (i := 1071) (by decide +kernel)⟩
theorem lw_p61 : lw_okq (⟨"FourHandsModel", "isAhead", "(II)Z"⟩, 28) := ⟨⟨by decide +kernel, by decide +kernel⟩, List.mem_of_getElem? (i := 810) (by decide +kernel), List.mem_of_getElem? (i := 1074) (by decide +kernel), List.mem_of_getElem? (i := 1075) (by decide +kernel)⟩
theorem lw_p62 : lw_okq (⟨"FourHandsModel", "onFrom", "(II)I"⟩, 28) := ⟨⟨by decide +kernel, by decide +kernel⟩, List.mem_of_getElem? (i := 810) (by decide +kernel), List.mem_of_getElem? (i := 1078) (by decide +kernel), List.mem_of_getElem? (i := 1079) (by decide +kernel)⟩
theorem lw_p63 : lw_okq (⟨"FourHandsModel", "cost", "(IIII)I"⟩, 28) := ⟨⟨by decide +kernel, by decide +kernel⟩, List.mem_of_getElem? (i := 810) (by decide +kernel), List.mem_of_getElem? (i := 1082) (by decide +kernel), List.mem_of_getElem? (i := 1083) (by decide +kernel)⟩
def lw_privs_4 : List (MethodName × Nat) := [(⟨"FourHandsModel", "soundTogether", "(II)Z"⟩, 28), (⟨"FourHandsModel", "endOf", "(I)I"⟩, 28), (⟨"FourHandsModel", "byTwo", "(II)I"⟩, 28), (⟨"FourHandsModel", "nearOf", "(I)I"⟩, 28), (⟨"FourHandsModel", "kindOf", "(I)I"⟩, 28), (⟨"FourHandsModel", "reaches", "(I)I"⟩, 28), (⟨"FourHandsModel", "moves", "(I)I"⟩, 28), (⟨"FourHandsModel", "no", "(I)I"⟩, 28), (⟨"FourHandsModel", "notesOf", "(I)I"⟩, 28), (⟨"FourHandsModel", "weigh", "(III)V"⟩, 28), (⟨"FourHandsModel", "tryOne", "(Z)V"⟩, 28), (⟨"FourHandsModel", "trySecond", "(II)V"⟩, 28), (⟨"FourHandsModel", "layRow", "(I)V"⟩, 28), (⟨"FourHandsModel", "isAhead", "(II)Z"⟩, 28), (⟨"FourHandsModel", "onFrom", "(II)I"⟩, 28), (⟨"FourHandsModel", "cost", "(IIII)I"⟩, 28)]
theorem lw_r4 : ∀ q ∈ lw_privs_4, lw_okq q := List.forall_mem_cons.mpr ⟨lw_p48, List.forall_mem_cons.mpr ⟨lw_p49, List.forall_mem_cons.mpr ⟨lw_p50, List.forall_mem_cons.mpr ⟨lw_p51, List.forall_mem_cons.mpr ⟨lw_p52, List.forall_mem_cons.mpr ⟨lw_p53, List.forall_mem_cons.mpr ⟨lw_p54, List.forall_mem_cons.mpr ⟨lw_p55, List.forall_mem_cons.mpr ⟨lw_p56, List.forall_mem_cons.mpr ⟨lw_p57, List.forall_mem_cons.mpr ⟨lw_p58, List.forall_mem_cons.mpr ⟨lw_p59, List.forall_mem_cons.mpr ⟨lw_p60, List.forall_mem_cons.mpr ⟨lw_p61, List.forall_mem_cons.mpr ⟨lw_p62, List.forall_mem_cons.mpr ⟨lw_p63, fun _ h => absurd h List.not_mem_nil⟩⟩⟩⟩⟩⟩⟩⟩⟩⟩⟩⟩⟩⟩⟩⟩
theorem lw_p64 : lw_okq (⟨"FourHandsModel", "blursBy", "(II)I"⟩, 28) := ⟨⟨by decide +kernel, by decide +kernel⟩, List.mem_of_getElem? (i := 810) (by decide +kernel), List.mem_of_getElem? (i := 1095) (by decide +kernel), List.mem_of_getElem? (i := 1096) (by decide +kernel)⟩
theorem lw_p65 : lw_okq (⟨"FourHandsModel", "joinsBy", "(II)I"⟩, 28) := ⟨⟨by decide +kernel, by decide +kernel⟩, List.mem_of_getElem? (i := 810) (by decide +kernel), List.mem_of_getElem? (i := 1099) (by decide +kernel), List.mem_of_getElem? (i := 1100) (by decide +kernel)⟩
theorem lw_p66 : lw_okq (⟨"FourHandsModel", "begins", "(II)Z"⟩, 28) := ⟨⟨by decide +kernel, by decide +kernel⟩, List.mem_of_getElem? (i := 810) (by decide +kernel), List.mem_of_getElem? (i := 1103) (by decide +kernel), List.mem_of_getElem? (i := 1104) (by decide +kernel)⟩
theorem lw_p67 : lw_okq (⟨"FourHandsModel", "freeHand", "(II)I"⟩, 28) := ⟨⟨by decide +kernel, by decide +kernel⟩, List.mem_of_getElem? (i := 810) (by decide +kernel), List.mem_of_getElem? (i := 1115) (by decide +kernel), List.mem_of_getElem? (i := 1116) (by decide +kernel)⟩
theorem lw_p68 : lw_okq (⟨"FourHandsModel", "isFree", "(II)Z"⟩, 28) := ⟨⟨by decide +kernel, by decide +kernel⟩, List.mem_of_getElem? (i := 810) (by decide +kernel), List.mem_of_getElem? (i := 1119) (by decide +kernel), List.mem_of_getElem? (i := 1120) (by decide +kernel)⟩
theorem lw_p69 : lw_okq (⟨"FourHandsModel", "changePlaces", "()V"⟩, 28) := ⟨⟨by decide +kernel, by decide +kernel⟩, List.mem_of_getElem? (i := 810) (by decide +kernel), List.mem_of_getElem? (i := 1131) (by decide +kernel), List.mem_of_getElem? (i := 1132) (by decide +kernel)⟩
theorem lw_p70 : lw_okq (⟨"FourHandsModel", "laySlips", "()V"⟩, 28) := ⟨⟨by decide +kernel, by decide +kernel⟩, List.mem_of_getElem? (i := 810) (by decide +kernel), List.mem_of_getElem? (i := 1140) (by decide +kernel), List.mem_of_getElem? (i := 1141) (by decide +kernel)⟩
theorem lw_p71 : lw_okq (⟨"FourHandsModel", "slipsBy", "(I)I"⟩, 28) := ⟨⟨by decide +kernel, by decide +kernel⟩, List.mem_of_getElem? (i := 810) (by decide +kernel), List.mem_of_getElem? (i := 1144) (by decide +kernel), List.mem_of_getElem? (i := 1145) (by decide +kernel)⟩
theorem lw_p72 : lw_okq (⟨"FourHandsModel", "nextRow", "(I)Z"⟩, 28) := ⟨⟨by decide +kernel, by decide +kernel⟩, List.mem_of_getElem? (i := 810) (by decide +kernel), List.mem_of_getElem? (i := 1148) (by decide +kernel), List.mem_of_getElem? (i := 1149) (by decide +kernel)⟩
theorem lw_p73 : lw_okq (⟨"FourHandsModel", "tell", "(JJ)V"⟩, 28) := ⟨⟨by decide +kernel, by decide +kernel⟩, List.mem_of_getElem? (i := 810) (by decide +kernel), List.mem_of_getElem? (i := 1157) (by decide +kernel), List.mem_of_getElem? (i := 1158) (by decide +kernel)⟩
theorem lw_p74 : lw_okq (⟨"FourHandsModel", "explains", "(III)Z"⟩, 28) := ⟨⟨by decide +kernel, by decide +kernel⟩, List.mem_of_getElem? (i := 810) (by decide +kernel), List.mem_of_getElem? (i := 1169) (by decide +kernel), List.mem_of_getElem? (i := 1170) (by decide +kernel)⟩
theorem lw_p75 : lw_okq (⟨"FourHandsModel", "lookAt", "(I)V"⟩, 28) := ⟨⟨by decide +kernel, by decide +kernel⟩, List.mem_of_getElem? (i := 810) (by decide +kernel), List.mem_of_getElem? (i := 1196) (by decide +kernel), List.mem_of_getElem? (i := 1197) (by decide +kernel)⟩
theorem lw_p76 : lw_okq (⟨"FourHandsModel", "readsFirst", "()Z"⟩, 28) := ⟨⟨by decide +kernel, by decide +kernel⟩, List.mem_of_getElem? (i := 810) (by decide +kernel), List.mem_of_getElem? (i := 1210) (by decide +kernel), List.mem_of_getElem? (i := 1211) (by decide +kernel)⟩
theorem lw_p77 : lw_okq (⟨"FourHandsModel", "isName", "(IIIII)Z"⟩, 28) := ⟨⟨by decide +kernel, by decide +kernel⟩, List.mem_of_getElem? (i := 810) (by decide +kernel), List.mem_of_getElem? (i := 1214) (by decide +kernel), List.mem_of_getElem? (i := 1215) (by decide +kernel)⟩
theorem lw_p78 : lw_okq (⟨"FourHandsModel", "goOn", "()V"⟩, 28) := ⟨⟨by decide +kernel, by decide +kernel⟩, List.mem_of_getElem? (i := 810) (by decide +kernel), List.mem_of_getElem? (i := 1218) (by decide +kernel), List.mem_of_getElem? (i := 1219) (by decide +kernel)⟩
theorem lw_p79 : lw_okq (⟨"FourHandsModel", "takes", "(III)Z"⟩, 28) := ⟨⟨by decide +kernel, by decide +kernel⟩, List.mem_of_getElem? (i := 810) (by decide +kernel), List.mem_of_getElem? (i := 1222) (by decide +kernel), List.mem_of_getElem? (i := 1223) (by decide +kernel)⟩
def lw_privs_5 : List (MethodName × Nat) := [(⟨"FourHandsModel", "blursBy", "(II)I"⟩, 28), (⟨"FourHandsModel", "joinsBy", "(II)I"⟩, 28), (⟨"FourHandsModel", "begins", "(II)Z"⟩, 28), (⟨"FourHandsModel", "freeHand", "(II)I"⟩, 28), (⟨"FourHandsModel", "isFree", "(II)Z"⟩, 28), (⟨"FourHandsModel", "changePlaces", "()V"⟩, 28), (⟨"FourHandsModel", "laySlips", "()V"⟩, 28), (⟨"FourHandsModel", "slipsBy", "(I)I"⟩, 28), (⟨"FourHandsModel", "nextRow", "(I)Z"⟩, 28), (⟨"FourHandsModel", "tell", "(JJ)V"⟩, 28), (⟨"FourHandsModel", "explains", "(III)Z"⟩, 28), (⟨"FourHandsModel", "lookAt", "(I)V"⟩, 28), (⟨"FourHandsModel", "readsFirst", "()Z"⟩, 28), (⟨"FourHandsModel", "isName", "(IIIII)Z"⟩, 28), (⟨"FourHandsModel", "goOn", "()V"⟩, 28), (⟨"FourHandsModel", "takes", "(III)Z"⟩, 28)]
theorem lw_r5 : ∀ q ∈ lw_privs_5, lw_okq q := List.forall_mem_cons.mpr ⟨lw_p64, List.forall_mem_cons.mpr ⟨lw_p65, List.forall_mem_cons.mpr ⟨lw_p66, List.forall_mem_cons.mpr ⟨lw_p67, List.forall_mem_cons.mpr ⟨lw_p68, List.forall_mem_cons.mpr ⟨lw_p69, List.forall_mem_cons.mpr ⟨lw_p70, List.forall_mem_cons.mpr ⟨lw_p71, List.forall_mem_cons.mpr ⟨lw_p72, List.forall_mem_cons.mpr ⟨lw_p73, List.forall_mem_cons.mpr ⟨lw_p74, List.forall_mem_cons.mpr ⟨lw_p75, List.forall_mem_cons.mpr ⟨lw_p76, List.forall_mem_cons.mpr ⟨lw_p77, List.forall_mem_cons.mpr ⟨lw_p78, List.forall_mem_cons.mpr ⟨lw_p79, fun _ h => absurd h List.not_mem_nil⟩⟩⟩⟩⟩⟩⟩⟩⟩⟩⟩⟩⟩⟩⟩⟩
theorem lw_p80 : lw_okq (⟨"FourHandsModel", "readsItem", "()Z"⟩, 28) := ⟨⟨by decide +kernel, by decide +kernel⟩, List.mem_of_getElem? (i := 810) (by decide +kernel), List.mem_of_getElem? (i := 1226) (by decide +kernel), List.mem_of_getElem? (i := 1227) (by decide +kernel)⟩
theorem lw_p81 : lw_okq (⟨"FourHandsModel", "readsHand", "()Z"⟩, 28) := ⟨⟨by decide +kernel, by decide +kernel⟩, List.mem_of_getElem? (i := 810) (by decide +kernel), List.mem_of_getElem? (i := 1230) (by decide +kernel), List.mem_of_getElem? (i := 1231) (by decide +kernel)⟩
theorem lw_p82 : lw_okq (⟨"FourHandsModel", "readsNote", "()Z"⟩, 28) := ⟨⟨by decide +kernel, by decide +kernel⟩, List.mem_of_getElem? (i := 810) (by decide +kernel), List.mem_of_getElem? (i := 1234) (by decide +kernel), List.mem_of_getElem? (i := 1235) (by decide +kernel)⟩
theorem lw_p83 : lw_okq (⟨"FourHandsModel", "counted", "(I)I"⟩, 28) := ⟨⟨by decide +kernel, by decide +kernel⟩, List.mem_of_getElem? (i := 810) (by decide +kernel), List.mem_of_getElem? (i := 1258) (by decide +kernel), List.mem_of_getElem? (i := 1259) (by decide +kernel)⟩
theorem lw_p84 : lw_okq (⟨"FourHandsModel", "played", "()I"⟩, 28) := ⟨⟨by decide +kernel, by decide +kernel⟩, List.mem_of_getElem? (i := 810) (by decide +kernel), List.mem_of_getElem? (i := 1262) (by decide +kernel), List.mem_of_getElem? (i := 1263) (by decide +kernel)⟩
theorem lw_p85 : lw_okq (⟨"FourHandsModel", "sums", "(JII)J"⟩, 28) := ⟨⟨by decide +kernel, by decide +kernel⟩, List.mem_of_getElem? (i := 810) (by decide +kernel), List.mem_of_getElem? (i := 1272) (by decide +kernel), List.mem_of_getElem? (i := 1273) (by decide +kernel)⟩
def lw_privs_6 : List (MethodName × Nat) := [(⟨"FourHandsModel", "readsItem", "()Z"⟩, 28), (⟨"FourHandsModel", "readsHand", "()Z"⟩, 28), (⟨"FourHandsModel", "readsNote", "()Z"⟩, 28), (⟨"FourHandsModel", "counted", "(I)I"⟩, 28), (⟨"FourHandsModel", "played", "()I"⟩, 28), (⟨"FourHandsModel", "sums", "(JII)J"⟩, 28)]
theorem lw_r6 : ∀ q ∈ lw_privs_6, lw_okq q := List.forall_mem_cons.mpr ⟨lw_p80, List.forall_mem_cons.mpr ⟨lw_p81, List.forall_mem_cons.mpr ⟨lw_p82, List.forall_mem_cons.mpr ⟨lw_p83, List.forall_mem_cons.mpr ⟨lw_p84, List.forall_mem_cons.mpr ⟨lw_p85, fun _ h => absurd h List.not_mem_nil⟩⟩⟩⟩⟩⟩
def lw_privs : List (MethodName × Nat) := lw_privs_1 ++ (lw_privs_2 ++ (lw_privs_3 ++ (lw_privs_4 ++ (lw_privs_5 ++ (lw_privs_6)))))
def lw_tbl : List Cond := k2_sels lw_privs ++ tables_1
theorem lw_privs_ok : ∀ q ∈ lw_privs, lw_okq q := by
  show ∀ q ∈ lw_privs_1 ++ (lw_privs_2 ++ (lw_privs_3 ++ (lw_privs_4 ++ (lw_privs_5 ++ (lw_privs_6))))), lw_okq q
  exact List.forall_mem_append.mpr ⟨lw_r1, List.forall_mem_append.mpr ⟨lw_r2, List.forall_mem_append.mpr ⟨lw_r3, List.forall_mem_append.mpr ⟨lw_r4, List.forall_mem_append.mpr ⟨lw_r5, lw_r6⟩⟩⟩⟩⟩
-- ===== end of PART A; then your names; then what follows =====
end
section
def RX0 : String := "FourHands$Fingering"
def TX0 : u_T := fun k => match k with
  | 0 => ("FourHands$Fingering", "many", "I", false)
  | 1 => ("FourHands$Fingering", "cost", "I", false)
  | 2 => ("FourHands$Fingering", "row", "[I", true)
  | 3 => ("FourHands$Fingering", "order", "[I", true)
  | _ => ("FourHands$Fingering", "least", "[I", true)
def tyX0 : Nat → FieldType := fun k => match k with
  | 0 => .int
  | 1 => .int
  | 2 => .array .int
  | 3 => .array .int
  | _ => .array .int
abbrev wsX00 : List Cond := u_ws RX0 TX0 5
theorem nmX0 : ∀ a, a < 5 → ∀ b, b < 5 → a ≠ b → (TX0 a).2.1 ≠ (TX0 b).2.1 := by decide +kernel
theorem tyX0_ok : ∀ k, k < 5 → parseFieldDescriptor (TX0 k).2.2.1 = some (tyX0 k) := by decide +kernel
abbrev cX0_init : ByteArray := prog_2_method_1_code
def yX0_init : MethodName := ⟨RX0, "<init>", "()V"⟩
abbrev cX0_solve : ByteArray := prog_2_method_2_code
def yX0_solve : MethodName := ⟨RX0, "solve", "(LFourHands$Piece;I)V"⟩
abbrev cX0_sortNotes : ByteArray := prog_2_method_3_code
def yX0_sortNotes : MethodName := ⟨RX0, "sortNotes", "(LFourHands$Piece;I)V"⟩
abbrev cX0_isAhead : ByteArray := prog_2_method_4_code
def yX0_isAhead : MethodName := ⟨RX0, "isAhead", "(LFourHands$Piece;II)Z"⟩
abbrev cX0_leastFrom : ByteArray := prog_2_method_5_code
def yX0_leastFrom : MethodName := ⟨RX0, "leastFrom", "(LFourHands$Piece;II)I"⟩
abbrev cX0_nextFinger : ByteArray := prog_2_method_6_code
def yX0_nextFinger : MethodName := ⟨RX0, "nextFinger", "(LFourHands$Piece;II)I"⟩
abbrev cX0_costBy : ByteArray := prog_2_method_7_code
def yX0_costBy : MethodName := ⟨RX0, "costBy", "(LFourHands$Piece;III)I"⟩
def RX1 : String := "FourHands$Handing"
def TX1 : u_T := fun k => match k with
  | 0 => ("FourHands$Handing", "fewest", "I", false)
  | 1 => ("FourHands$Handing", "changes", "I", false)
  | 2 => ("FourHands$Handing", "row", "[I", true)
  | 3 => ("FourHands$Handing", "all", "I", false)
  | _ => ("FourHands$Handing", "with", "[I", true)
def tyX1 : Nat → FieldType := fun k => match k with
  | 0 => .int
  | 1 => .int
  | 2 => .array .int
  | 3 => .int
  | _ => .array .int
abbrev wsX10 : List Cond := u_ws RX1 TX1 5
theorem nmX1 : ∀ a, a < 5 → ∀ b, b < 5 → a ≠ b → (TX1 a).2.1 ≠ (TX1 b).2.1 := by decide +kernel
theorem tyX1_ok : ∀ k, k < 5 → parseFieldDescriptor (TX1 k).2.2.1 = some (tyX1 k) := by decide +kernel
abbrev cX1_init : ByteArray := prog_3_method_1_code
def yX1_init : MethodName := ⟨RX1, "<init>", "()V"⟩
abbrev cX1_solve : ByteArray := prog_3_method_2_code
def yX1_solve : MethodName := ⟨RX1, "solve", "(LFourHands$Piece;I)V"⟩
abbrev cX1_countAll : ByteArray := prog_3_method_3_code
def yX1_countAll : MethodName := ⟨RX1, "countAll", "(LFourHands$Piece;)V"⟩
abbrev cX1_countWith : ByteArray := prog_3_method_4_code
def yX1_countWith : MethodName := ⟨RX1, "countWith", "(LFourHands$Piece;II)I"⟩
abbrev cX1_isChange : ByteArray := prog_3_method_5_code
def yX1_isChange : MethodName := ⟨RX1, "isChange", "(LFourHands$Piece;II)Z"⟩
abbrev cX1_moreBy : ByteArray := prog_3_method_6_code
def yX1_moreBy : MethodName := ⟨RX1, "moreBy", "(LFourHands$Piece;II)I"⟩
abbrev cX1_tryRows : ByteArray := prog_3_method_7_code
def yX1_tryRows : MethodName := ⟨RX1, "tryRows", "(LFourHands$Piece;III)V"⟩
abbrev cX1_keepIfFewer : ByteArray := prog_3_method_8_code
def yX1_keepIfFewer : MethodName := ⟨RX1, "keepIfFewer", "(IIII)V"⟩
abbrev cX1_pairMore : ByteArray := prog_3_method_9_code
def yX1_pairMore : MethodName := ⟨RX1, "pairMore", "(LFourHands$Piece;IIII)I"⟩
def RX2 : String := "FourHands$Pedalling"
def TX2 : u_T := fun k => match k with
  | 0 => ("FourHands$Pedalling", "most", "I", false)
  | 1 => ("FourHands$Pedalling", "bestFrom", "I", false)
  | 2 => ("FourHands$Pedalling", "bestTo", "I", false)
  | 3 => ("FourHands$Pedalling", "ends", "[I", true)
  | 4 => ("FourHands$Pedalling", "endCount", "I", false)
  | 5 => ("FourHands$Pedalling", "earlier", "[I", true)
  | 6 => ("FourHands$Pedalling", "later", "[I", true)
  | _ => ("FourHands$Pedalling", "pairCount", "I", false)
def tyX2 : Nat → FieldType := fun k => match k with
  | 0 => .int
  | 1 => .int
  | 2 => .int
  | 3 => .array .int
  | 4 => .int
  | 5 => .array .int
  | 6 => .array .int
  | _ => .int
abbrev wsX20 : List Cond := u_ws RX2 TX2 8
theorem nmX2 : ∀ a, a < 8 → ∀ b, b < 8 → a ≠ b → (TX2 a).2.1 ≠ (TX2 b).2.1 := by decide +kernel
theorem tyX2_ok : ∀ k, k < 8 → parseFieldDescriptor (TX2 k).2.2.1 = some (tyX2 k) := by decide +kernel
abbrev cX2_init : ByteArray := prog_4_method_1_code
def yX2_init : MethodName := ⟨RX2, "<init>", "()V"⟩
abbrev cX2_gather : ByteArray := prog_4_method_2_code
def yX2_gather : MethodName := ⟨RX2, "gather", "(LFourHands$Piece;)V"⟩
abbrev cX2_gatherEnds : ByteArray := prog_4_method_3_code
def yX2_gatherEnds : MethodName := ⟨RX2, "gatherEnds", "(LFourHands$Piece;)V"⟩
abbrev cX2_gatherPairs : ByteArray := prog_4_method_4_code
def yX2_gatherPairs : MethodName := ⟨RX2, "gatherPairs", "(LFourHands$Piece;)V"⟩
abbrev cX2_joined : ByteArray := prog_4_method_5_code
def yX2_joined : MethodName := ⟨RX2, "joined", "(II)I"⟩
abbrev cX2_blurred : ByteArray := prog_4_method_6_code
def yX2_blurred : MethodName := ⟨RX2, "blurred", "(II)I"⟩
abbrev cX2_findBest : ByteArray := prog_4_method_7_code
def yX2_findBest : MethodName := ⟨RX2, "findBest", "()V"⟩
def RX3 : String := "FourHands$Piece"
def TX3 : u_T := fun k => match k with
  | 0 => ("FourHands$Piece", "near", "I", false)
  | 1 => ("FourHands$Piece", "notes", "I", false)
  | 2 => ("FourHands$Piece", "keys", "[I", true)
  | 3 => ("FourHands$Piece", "moments", "[I", true)
  | 4 => ("FourHands$Piece", "lengths", "[I", true)
  | 5 => ("FourHands$Piece", "parts", "[I", true)
  | 6 => ("FourHands$Piece", "louds", "[I", true)
  | 7 => ("FourHands$Piece", "hands", "[I", true)
  | 8 => ("FourHands$Piece", "lates", "[I", true)
  | 9 => ("FourHands$Piece", "kinds", "[I", true)
  | 10 => ("FourHands$Piece", "reach", "[I", true)
  | 11 => ("FourHands$Piece", "speed", "[I", true)
  | 12 => ("FourHands$Piece", "pedalFrom", "I", false)
  | 13 => ("FourHands$Piece", "pedalTo", "I", false)
  | 14 => ("FourHands$Piece", "undos", "I", false)
  | 15 => ("FourHands$Piece", "undoNotes", "[I", true)
  | 16 => ("FourHands$Piece", "undoHands", "[I", true)
  | _ => ("FourHands$Piece", "partners", "[I", true)
def tyX3 : Nat → FieldType := fun k => match k with
  | 0 => .int
  | 1 => .int
  | 2 => .array .int
  | 3 => .array .int
  | 4 => .array .int
  | 5 => .array .int
  | 6 => .array .int
  | 7 => .array .int
  | 8 => .array .int
  | 9 => .array .int
  | 10 => .array .int
  | 11 => .array .int
  | 12 => .int
  | 13 => .int
  | 14 => .int
  | 15 => .array .int
  | 16 => .array .int
  | _ => .array .int
abbrev wsX30 : List Cond := u_ws RX3 TX3 18
theorem nmX3 : ∀ a, a < 18 → ∀ b, b < 18 → a ≠ b → (TX3 a).2.1 ≠ (TX3 b).2.1 := by decide +kernel
theorem tyX3_ok : ∀ k, k < 18 → parseFieldDescriptor (TX3 k).2.2.1 = some (tyX3 k) := by decide +kernel
abbrev cX3_init : ByteArray := prog_5_method_1_code
def yX3_init : MethodName := ⟨RX3, "<init>", "()V"⟩
abbrev cX3_begin : ByteArray := prog_5_method_2_code
def yX3_begin : MethodName := ⟨RX3, "begin", "(I)V"⟩
abbrev cX3_copyFrom : ByteArray := prog_5_method_3_code
def yX3_copyFrom : MethodName := ⟨RX3, "copyFrom", "(LFourHands$Piece;)V"⟩
abbrev cX3_setHand : ByteArray := prog_5_method_4_code
def yX3_setHand : MethodName := ⟨RX3, "setHand", "(IIII)V"⟩
abbrev cX3_addNote : ByteArray := prog_5_method_5_code
def yX3_addNote : MethodName := ⟨RX3, "addNote", "(IIIIII)V"⟩
abbrev cX3_pass : ByteArray := prog_5_method_6_code
def yX3_pass : MethodName := ⟨RX3, "pass", "(II)V"⟩
abbrev cX3_takeBack : ByteArray := prog_5_method_7_code
def yX3_takeBack : MethodName := ⟨RX3, "takeBack", "()V"⟩
abbrev cX3_isPlayed : ByteArray := prog_5_method_8_code
def yX3_isPlayed : MethodName := ⟨RX3, "isPlayed", "(I)Z"⟩
abbrev cX3_playedCount : ByteArray := prog_5_method_9_code
def yX3_playedCount : MethodName := ⟨RX3, "playedCount", "()I"⟩
abbrev cX3_notesOf : ByteArray := prog_5_method_10_code
def yX3_notesOf : MethodName := ⟨RX3, "notesOf", "(I)I"⟩
abbrev cX3_isStiff : ByteArray := prog_5_method_11_code
def yX3_isStiff : MethodName := ⟨RX3, "isStiff", "(I)Z"⟩
abbrev cX3_isQuick : ByteArray := prog_5_method_12_code
def yX3_isQuick : MethodName := ⟨RX3, "isQuick", "(I)Z"⟩
abbrev cX3_reaches : ByteArray := prog_5_method_13_code
def yX3_reaches : MethodName := ⟨RX3, "reaches", "(I)I"⟩
abbrev cX3_moves : ByteArray := prog_5_method_14_code
def yX3_moves : MethodName := ⟨RX3, "moves", "(I)I"⟩
abbrev cX3_keepsOff : ByteArray := prog_5_method_15_code
def yX3_keepsOff : MethodName := ⟨RX3, "keepsOff", "(I)I"⟩
abbrev cX3_sortOf : ByteArray := prog_5_method_16_code
def yX3_sortOf : MethodName := ⟨RX3, "sortOf", "(II)I"⟩
abbrev cX3_sortIf : ByteArray := prog_5_method_17_code
def yX3_sortIf : MethodName := ⟨RX3, "sortIf", "(IIII)I"⟩
abbrev cX3_clashCount : ByteArray := prog_5_method_18_code
def yX3_clashCount : MethodName := ⟨RX3, "clashCount", "()I"⟩
abbrev cX3_findPartners : ByteArray := prog_5_method_19_code
def yX3_findPartners : MethodName := ⟨RX3, "findPartners", "()V"⟩
abbrev cX3_isQuietWithout : ByteArray := prog_5_method_20_code
def yX3_isQuietWithout : MethodName := ⟨RX3, "isQuietWithout", "(I)Z"⟩
abbrev cX3_sounds : ByteArray := prog_5_method_21_code
def yX3_sounds : MethodName := ⟨RX3, "sounds", "(II)Z"⟩
abbrev cX3_isFree : ByteArray := prog_5_method_22_code
def yX3_isFree : MethodName := ⟨RX3, "isFree", "(II)Z"⟩
abbrev cX3_isCovered : ByteArray := prog_5_method_23_code
def yX3_isCovered : MethodName := ⟨RX3, "isCovered", "(I)Z"⟩
abbrev cX3_isExplainedBy : ByteArray := prog_5_method_24_code
def yX3_isExplainedBy : MethodName := ⟨RX3, "isExplainedBy", "(I)Z"⟩
abbrev cX3_digestFrom : ByteArray := prog_5_method_25_code
def yX3_digestFrom : MethodName := ⟨RX3, "digestFrom", "(J)J"⟩
def RX4 : String := "FourHands$Practising"
def TX4 : u_T := fun k => match k with
  | 0 => ("FourHands$Practising", "slips", "I", false)
  | 1 => ("FourHands$Practising", "row", "[I", true)
  | 2 => ("FourHands$Practising", "left", "[I", true)
  | _ => ("FourHands$Practising", "least", "[I", true)
def tyX4 : Nat → FieldType := fun k => match k with
  | 0 => .int
  | 1 => .array .int
  | 2 => .array .int
  | _ => .array .int
abbrev wsX40 : List Cond := u_ws RX4 TX4 4
theorem nmX4 : ∀ a, a < 4 → ∀ b, b < 4 → a ≠ b → (TX4 a).2.1 ≠ (TX4 b).2.1 := by decide +kernel
theorem tyX4_ok : ∀ k, k < 4 → parseFieldDescriptor (TX4 k).2.2.1 = some (tyX4 k) := by decide +kernel
abbrev cX4_init : ByteArray := prog_6_method_1_code
def yX4_init : MethodName := ⟨RX4, "<init>", "()V"⟩
abbrev cX4_solve : ByteArray := prog_6_method_2_code
def yX4_solve : MethodName := ⟨RX4, "solve", "(LFourHands$Piece;I)V"⟩
abbrev cX4_countSlips : ByteArray := prog_6_method_3_code
def yX4_countSlips : MethodName := ⟨RX4, "countSlips", "(LFourHands$Piece;)V"⟩
abbrev cX4_leaves : ByteArray := prog_6_method_4_code
def yX4_leaves : MethodName := ⟨RX4, "leaves", "(III)I"⟩
abbrev cX4_hoursHere : ByteArray := prog_6_method_5_code
def yX4_hoursHere : MethodName := ⟨RX4, "hoursHere", "(II)I"⟩
abbrev cX4_fillRow : ByteArray := prog_6_method_6_code
def yX4_fillRow : MethodName := ⟨RX4, "fillRow", "(I)V"⟩
def RX5 : String := "FourHands$Script"
def TX5 : u_T := fun k => match k with
  | 0 => ("FourHands$Script", "bytes", "[I", true)
  | 1 => ("FourHands$Script", "length", "I", false)
  | 2 => ("FourHands$Script", "next", "I", false)
  | 3 => ("FourHands$Script", "place", "I", false)
  | 4 => ("FourHands$Script", "sort", "I", false)
  | 5 => ("FourHands$Script", "numbers", "[I", true)
  | _ => ("FourHands$Script", "told", "I", false)
def tyX5 : Nat → FieldType := fun k => match k with
  | 0 => .array .int
  | 1 => .int
  | 2 => .int
  | 3 => .int
  | 4 => .int
  | 5 => .array .int
  | _ => .int
abbrev wsX50 : List Cond := u_ws RX5 TX5 7
theorem nmX5 : ∀ a, a < 7 → ∀ b, b < 7 → a ≠ b → (TX5 a).2.1 ≠ (TX5 b).2.1 := by decide +kernel
theorem tyX5_ok : ∀ k, k < 7 → parseFieldDescriptor (TX5 k).2.2.1 = some (tyX5 k) := by decide +kernel
abbrev cX5_init : ByteArray := prog_7_method_1_code
def yX5_init : MethodName := ⟨RX5, "<init>", "()V"⟩
abbrev cX5_append : ByteArray := prog_7_method_2_code
def yX5_append : MethodName := ⟨RX5, "append", "(I)V"⟩
abbrev cX5_readInto : ByteArray := prog_7_method_3_code
def yX5_readInto : MethodName := ⟨RX5, "readInto", "(LFourHands$Piece;)I"⟩
abbrev cX5_readItem : ByteArray := prog_7_method_4_code
def yX5_readItem : MethodName := ⟨RX5, "readItem", "(LFourHands$Piece;Z)Z"⟩
abbrev cX5_readPiece : ByteArray := prog_7_method_5_code
def yX5_readPiece : MethodName := ⟨RX5, "readPiece", "(LFourHands$Piece;)Z"⟩
abbrev cX5_readHand : ByteArray := prog_7_method_6_code
def yX5_readHand : MethodName := ⟨RX5, "readHand", "(LFourHands$Piece;)Z"⟩
abbrev cX5_readNote : ByteArray := prog_7_method_7_code
def yX5_readNote : MethodName := ⟨RX5, "readNote", "(LFourHands$Piece;)Z"⟩
abbrev cX5_takeNumber : ByteArray := prog_7_method_8_code
def yX5_takeNumber : MethodName := ⟨RX5, "takeNumber", "(II)Z"⟩
abbrev cX5_takeStop : ByteArray := prog_7_method_9_code
def yX5_takeStop : MethodName := ⟨RX5, "takeStop", "()Z"⟩
abbrev cX5_takeToken : ByteArray := prog_7_method_10_code
def yX5_takeToken : MethodName := ⟨RX5, "takeToken", "()V"⟩
abbrev cX5_sortAt : ByteArray := prog_7_method_11_code
def yX5_sortAt : MethodName := ⟨RX5, "sortAt", "(I)I"⟩
abbrev cX5_isWord : ByteArray := prog_7_method_12_code
def yX5_isWord : MethodName := ⟨RX5, "isWord", "(Ljava/lang/String;)Z"⟩
abbrev cX5_numberValue : ByteArray := prog_7_method_13_code
def yX5_numberValue : MethodName := ⟨RX5, "numberValue", "()I"⟩
def RX6 : String := "FourHands"
def TX6 : u_T := fun k => match k with
  | 0 => ("FourHands", "now", "LFourHands$Piece;", true)
  | 1 => ("FourHands", "spare", "LFourHands$Piece;", true)
  | 2 => ("FourHands", "images", "[LFourHands$Piece;", true)
  | 3 => ("FourHands", "script", "LFourHands$Script;", true)
  | 4 => ("FourHands", "handing", "LFourHands$Handing;", true)
  | 5 => ("FourHands", "fingering", "LFourHands$Fingering;", true)
  | 6 => ("FourHands", "pedalling", "LFourHands$Pedalling;", true)
  | 7 => ("FourHands", "practising", "LFourHands$Practising;", true)
  | 8 => ("FourHands", "kept", "I", false)
  | 9 => ("FourHands", "above", "J", false)
  | 10 => ("FourHands", "below", "J", false)
  | 11 => ("FourHands", "bads", "I", false)
  | 12 => ("FourHands", "noes", "I", false)
  | _ => ("FourHands", "fulls", "I", false)
def tyX6 : Nat → FieldType := fun k => match k with
  | 0 => .object "FourHands$Piece"
  | 1 => .object "FourHands$Piece"
  | 2 => .array (.object "FourHands$Piece")
  | 3 => .object "FourHands$Script"
  | 4 => .object "FourHands$Handing"
  | 5 => .object "FourHands$Fingering"
  | 6 => .object "FourHands$Pedalling"
  | 7 => .object "FourHands$Practising"
  | 8 => .int
  | 9 => .long
  | 10 => .long
  | 11 => .int
  | 12 => .int
  | _ => .int
abbrev wsX60 : List Cond := u_ws RX6 TX6 14
theorem nmX6 : ∀ a, a < 14 → ∀ b, b < 14 → a ≠ b → (TX6 a).2.1 ≠ (TX6 b).2.1 := by decide +kernel
theorem tyX6_ok : ∀ k, k < 14 → parseFieldDescriptor (TX6 k).2.2.1 = some (tyX6 k) := by decide +kernel
abbrev cX6_init : ByteArray := prog_1_method_1_code
def yX6_init : MethodName := ⟨RX6, "<init>", "()V"⟩
abbrev cX6_piece : ByteArray := prog_1_method_2_code
def yX6_piece : MethodName := ⟨RX6, "piece", "(I)I"⟩
abbrev cX6_hand : ByteArray := prog_1_method_3_code
def yX6_hand : MethodName := ⟨RX6, "hand", "(IIII)I"⟩
abbrev cX6_note : ByteArray := prog_1_method_4_code
def yX6_note : MethodName := ⟨RX6, "note", "(IIIIII)I"⟩
abbrev cX6_type : ByteArray := prog_1_method_5_code
def yX6_type : MethodName := ⟨RX6, "type", "(I)I"⟩
abbrev cX6_clear : ByteArray := prog_1_method_6_code
def yX6_clear : MethodName := ⟨RX6, "clear", "()I"⟩
abbrev cX6_read : ByteArray := prog_1_method_7_code
def yX6_read : MethodName := ⟨RX6, "read", "()I"⟩
abbrev cX6_give : ByteArray := prog_1_method_8_code
def yX6_give : MethodName := ⟨RX6, "give", "(II)I"⟩
abbrev cX6_undo : ByteArray := prog_1_method_9_code
def yX6_undo : MethodName := ⟨RX6, "undo", "()I"⟩
abbrev cX6_of : ByteArray := prog_1_method_10_code
def yX6_of : MethodName := ⟨RX6, "of", "(II)I"⟩
abbrev cX6_about : ByteArray := prog_1_method_11_code
def yX6_about : MethodName := ⟨RX6, "about", "(II)I"⟩
abbrev cX6_clash : ByteArray := prog_1_method_12_code
def yX6_clash : MethodName := ⟨RX6, "clash", "(II)I"⟩
abbrev cX6_clashes : ByteArray := prog_1_method_13_code
def yX6_clashes : MethodName := ⟨RX6, "clashes", "(II)I"⟩
abbrev cX6_given : ByteArray := prog_1_method_14_code
def yX6_given : MethodName := ⟨RX6, "given", "(II)I"⟩
abbrev cX6_out : ByteArray := prog_1_method_15_code
def yX6_out : MethodName := ⟨RX6, "out", "()I"⟩
abbrev cX6_fingers : ByteArray := prog_1_method_16_code
def yX6_fingers : MethodName := ⟨RX6, "fingers", "(II)I"⟩
abbrev cX6_pedal : ByteArray := prog_1_method_17_code
def yX6_pedal : MethodName := ⟨RX6, "pedal", "(II)I"⟩
abbrev cX6_blurs : ByteArray := prog_1_method_18_code
def yX6_blurs : MethodName := ⟨RX6, "blurs", "(I)I"⟩
abbrev cX6_best : ByteArray := prog_1_method_19_code
def yX6_best : MethodName := ⟨RX6, "best", "(I)I"⟩
abbrev cX6_turns : ByteArray := prog_1_method_20_code
def yX6_turns : MethodName := ⟨RX6, "turns", "(III)I"⟩
abbrev cX6_covered : ByteArray := prog_1_method_21_code
def yX6_covered : MethodName := ⟨RX6, "covered", "()J"⟩
abbrev cX6_places : ByteArray := prog_1_method_22_code
def yX6_places : MethodName := ⟨RX6, "places", "()I"⟩
abbrev cX6_practice : ByteArray := prog_1_method_23_code
def yX6_practice : MethodName := ⟨RX6, "practice", "(II)I"⟩
abbrev cX6_breath : ByteArray := prog_1_method_24_code
def yX6_breath : MethodName := ⟨RX6, "breath", "(II)I"⟩
abbrev cX6_heard : ByteArray := prog_1_method_25_code
def yX6_heard : MethodName := ⟨RX6, "heard", "(II)I"⟩
abbrev cX6_late : ByteArray := prog_1_method_26_code
def yX6_late : MethodName := ⟨RX6, "late", "()I"⟩
abbrev cX6_evening : ByteArray := prog_1_method_27_code
def yX6_evening : MethodName := ⟨RX6, "evening", "(II)I"⟩
abbrev cX6_part : ByteArray := prog_1_method_28_code
def yX6_part : MethodName := ⟨RX6, "part", "(I)J"⟩
abbrev cX6_image : ByteArray := prog_1_method_29_code
def yX6_image : MethodName := ⟨RX6, "image", "(I)I"⟩
abbrev cX6_from : ByteArray := prog_1_method_30_code
def yX6_from : MethodName := ⟨RX6, "from", "(I)I"⟩
abbrev cX6_status : ByteArray := prog_1_method_31_code
def yX6_status : MethodName := ⟨RX6, "status", "(I)I"⟩
abbrev cX6_count : ByteArray := prog_1_method_32_code
def yX6_count : MethodName := ⟨RX6, "count", "(I)I"⟩
abbrev cX6_digest : ByteArray := prog_1_method_33_code
def yX6_digest : MethodName := ⟨RX6, "digest", "()J"⟩
abbrev cX6_within : ByteArray := prog_1_method_34_code
def yX6_within : MethodName := ⟨RX6, "within", "(III)Z"⟩
abbrev cX6_longestFrom : ByteArray := prog_1_method_35_code
def yX6_longestFrom : MethodName := ⟨RX6, "longestFrom", "(I)I"⟩
abbrev cX6_isNote : ByteArray := prog_1_method_36_code
def yX6_isNote : MethodName := ⟨RX6, "isNote", "(I)Z"⟩
abbrev cX6_refuseBad : ByteArray := prog_1_method_37_code
def yX6_refuseBad : MethodName := ⟨RX6, "refuseBad", "(I)I"⟩
abbrev cX6_refuseNo : ByteArray := prog_1_method_38_code
def yX6_refuseNo : MethodName := ⟨RX6, "refuseNo", "(I)I"⟩
abbrev cX6_refuseFull : ByteArray := prog_1_method_39_code
def yX6_refuseFull : MethodName := ⟨RX6, "refuseFull", "()I"⟩
abbrev cX6_forgetTheRest : ByteArray := prog_1_method_40_code
def yX6_forgetTheRest : MethodName := ⟨RX6, "forgetTheRest", "()V"⟩
abbrev cX6_freeHand : ByteArray := prog_1_method_41_code
def yX6_freeHand : MethodName := ⟨RX6, "freeHand", "(II)I"⟩
abbrev cX6_setFraction : ByteArray := prog_1_method_42_code
def yX6_setFraction : MethodName := ⟨RX6, "setFraction", "(II)V"⟩
abbrev cX6_howMany : ByteArray := prog_1_method_43_code
def yX6_howMany : MethodName := ⟨RX6, "howMany", "(I)I"⟩
def RX7 : String := "FourHandsModel"
def TX7 : u_T := fun k => match k with
  | 0 => ("FourHandsModel", "now", "[I", true)
  | 1 => ("FourHandsModel", "kept", "[I", true)
  | 2 => ("FourHandsModel", "isKept", "[Z", true)
  | 3 => ("FourHandsModel", "refused", "[I", true)
  | 4 => ("FourHandsModel", "above", "J", false)
  | 5 => ("FourHandsModel", "below", "J", false)
  | 6 => ("FourHandsModel", "fewest", "I", false)
  | 7 => ("FourHandsModel", "manyGiven", "I", false)
  | 8 => ("FourHandsModel", "firstGiven", "I", false)
  | 9 => ("FourHandsModel", "secondGiven", "I", false)
  | 10 => ("FourHandsModel", "clashWith", "[I", true)
  | 11 => ("FourHandsModel", "row", "[I", true)
  | 12 => ("FourHandsModel", "rowLong", "I", false)
  | 13 => ("FourHandsModel", "least", "[I", true)
  | 14 => ("FourHandsModel", "slips", "[I", true)
  | 15 => ("FourHandsModel", "left", "[I", true)
  | 16 => ("FourHandsModel", "bestRow", "[I", true)
  | 17 => ("FourHandsModel", "tryRow", "[I", true)
  | 18 => ("FourHandsModel", "leastSlips", "I", false)
  | 19 => ("FourHandsModel", "moments", "[I", true)
  | 20 => ("FourHandsModel", "bytes", "[I", true)
  | 21 => ("FourHandsModel", "bytesLong", "I", false)
  | 22 => ("FourHandsModel", "tokenAt", "I", false)
  | 23 => ("FourHandsModel", "tokenLong", "I", false)
  | 24 => ("FourHandsModel", "token", "I", false)
  | 25 => ("FourHandsModel", "value", "I", false)
  | 26 => ("FourHandsModel", "next", "[I", true)
  | _ => ("FourHandsModel", "values", "[I", true)
def tyX7 : Nat → FieldType := fun k => match k with
  | 0 => .array .int
  | 1 => .array .int
  | 2 => .array .boolean
  | 3 => .array .int
  | 4 => .long
  | 5 => .long
  | 6 => .int
  | 7 => .int
  | 8 => .int
  | 9 => .int
  | 10 => .array .int
  | 11 => .array .int
  | 12 => .int
  | 13 => .array .int
  | 14 => .array .int
  | 15 => .array .int
  | 16 => .array .int
  | 17 => .array .int
  | 18 => .int
  | 19 => .array .int
  | 20 => .array .int
  | 21 => .int
  | 22 => .int
  | 23 => .int
  | 24 => .int
  | 25 => .int
  | 26 => .array .int
  | _ => .array .int
abbrev wsX70 : List Cond := u_ws RX7 TX7 28
theorem nmX7 : ∀ a, a < 28 → ∀ b, b < 28 → a ≠ b → (TX7 a).2.1 ≠ (TX7 b).2.1 := by decide +kernel
theorem tyX7_ok : ∀ k, k < 28 → parseFieldDescriptor (TX7 k).2.2.1 = some (tyX7 k) := by decide +kernel
abbrev cX7_init : ByteArray := prog_9_method_1_code
def yX7_init : MethodName := ⟨RX7, "<init>", "()V"⟩
abbrev cX7_in : ByteArray := prog_9_method_3_code
def yX7_in : MethodName := ⟨RX7, "in", "(JJJ)Z"⟩
abbrev cX7_bad : ByteArray := prog_9_method_4_code
def yX7_bad : MethodName := ⟨RX7, "bad", "(I)I"⟩
abbrev cX7_no : ByteArray := prog_9_method_5_code
def yX7_no : MethodName := ⟨RX7, "no", "(I)I"⟩
abbrev cX7_full : ByteArray := prog_9_method_6_code
def yX7_full : MethodName := ⟨RX7, "full", "()I"⟩
abbrev cX7_bits : ByteArray := prog_9_method_7_code
def yX7_bits : MethodName := ⟨RX7, "bits", "(I)I"⟩
abbrev cX7_apart : ByteArray := prog_9_method_8_code
def yX7_apart : MethodName := ⟨RX7, "apart", "(II)I"⟩
abbrev cX7_begin : ByteArray := prog_9_method_9_code
def yX7_begin : MethodName := ⟨RX7, "begin", "([II)V"⟩
abbrev cX7_notes : ByteArray := prog_9_method_10_code
def yX7_notes : MethodName := ⟨RX7, "notes", "()I"⟩
abbrev cX7_isNote : ByteArray := prog_9_method_11_code
def yX7_isNote : MethodName := ⟨RX7, "isNote", "(I)Z"⟩
abbrev cX7_isHand : ByteArray := prog_9_method_12_code
def yX7_isHand : MethodName := ⟨RX7, "isHand", "(I)Z"⟩
abbrev cX7_get : ByteArray := prog_9_method_13_code
def yX7_get : MethodName := ⟨RX7, "get", "(II)I"⟩
abbrev cX7_setHand : ByteArray := prog_9_method_14_code
def yX7_setHand : MethodName := ⟨RX7, "setHand", "(II)V"⟩
abbrev cX7_piece : ByteArray := prog_9_method_15_code
def yX7_piece : MethodName := ⟨RX7, "piece", "(I)I"⟩
abbrev cX7_layHand : ByteArray := prog_9_method_16_code
def yX7_layHand : MethodName := ⟨RX7, "layHand", "([IIIII)V"⟩
abbrev cX7_hand : ByteArray := prog_9_method_17_code
def yX7_hand : MethodName := ⟨RX7, "hand", "(IIII)I"⟩
abbrev cX7_layNote : ByteArray := prog_9_method_18_code
def yX7_layNote : MethodName := ⟨RX7, "layNote", "([IIIIIII)V"⟩
abbrev cX7_note : ByteArray := prog_9_method_19_code
def yX7_note : MethodName := ⟨RX7, "note", "(IIIIII)I"⟩
abbrev cX7_kindOf : ByteArray := prog_9_method_20_code
def yX7_kindOf : MethodName := ⟨RX7, "kindOf", "(I)I"⟩
abbrev cX7_reaches : ByteArray := prog_9_method_21_code
def yX7_reaches : MethodName := ⟨RX7, "reaches", "(I)I"⟩
abbrev cX7_moves : ByteArray := prog_9_method_22_code
def yX7_moves : MethodName := ⟨RX7, "moves", "(I)I"⟩
abbrev cX7_nearOf : ByteArray := prog_9_method_23_code
def yX7_nearOf : MethodName := ⟨RX7, "nearOf", "(I)I"⟩
abbrev cX7_isPlayed : ByteArray := prog_9_method_24_code
def yX7_isPlayed : MethodName := ⟨RX7, "isPlayed", "(I)Z"⟩
abbrev cX7_endOf : ByteArray := prog_9_method_25_code
def yX7_endOf : MethodName := ⟨RX7, "endOf", "(I)I"⟩
abbrev cX7_soundTogether : ByteArray := prog_9_method_26_code
def yX7_soundTogether : MethodName := ⟨RX7, "soundTogether", "(II)Z"⟩
abbrev cX7_byTwo : ByteArray := prog_9_method_27_code
def yX7_byTwo : MethodName := ⟨RX7, "byTwo", "(II)I"⟩
abbrev cX7_clashOf : ByteArray := prog_9_method_28_code
def yX7_clashOf : MethodName := ⟨RX7, "clashOf", "(II)I"⟩
abbrev cX7_clashesNow : ByteArray := prog_9_method_29_code
def yX7_clashesNow : MethodName := ⟨RX7, "clashesNow", "()I"⟩
abbrev cX7_keep : ByteArray := prog_9_method_30_code
def yX7_keep : MethodName := ⟨RX7, "keep", "()V"⟩
abbrev cX7_give : ByteArray := prog_9_method_31_code
def yX7_give : MethodName := ⟨RX7, "give", "(II)I"⟩
abbrev cX7_undo : ByteArray := prog_9_method_32_code
def yX7_undo : MethodName := ⟨RX7, "undo", "()I"⟩
abbrev cX7_of : ByteArray := prog_9_method_33_code
def yX7_of : MethodName := ⟨RX7, "of", "(II)I"⟩
abbrev cX7_notesOf : ByteArray := prog_9_method_34_code
def yX7_notesOf : MethodName := ⟨RX7, "notesOf", "(I)I"⟩
abbrev cX7_about : ByteArray := prog_9_method_35_code
def yX7_about : MethodName := ⟨RX7, "about", "(II)I"⟩
abbrev cX7_clash : ByteArray := prog_9_method_36_code
def yX7_clash : MethodName := ⟨RX7, "clash", "(II)I"⟩
abbrev cX7_clashes : ByteArray := prog_9_method_37_code
def yX7_clashes : MethodName := ⟨RX7, "clashes", "(II)I"⟩
abbrev cX7_weigh : ByteArray := prog_9_method_38_code
def yX7_weigh : MethodName := ⟨RX7, "weigh", "(III)V"⟩
abbrev cX7_tryOne : ByteArray := prog_9_method_39_code
def yX7_tryOne : MethodName := ⟨RX7, "tryOne", "(Z)V"⟩
abbrev cX7_trySecond : ByteArray := prog_9_method_40_code
def yX7_trySecond : MethodName := ⟨RX7, "trySecond", "(II)V"⟩
abbrev cX7_given : ByteArray := prog_9_method_41_code
def yX7_given : MethodName := ⟨RX7, "given", "(II)I"⟩
abbrev cX7_out : ByteArray := prog_9_method_42_code
def yX7_out : MethodName := ⟨RX7, "out", "()I"⟩
abbrev cX7_isAhead : ByteArray := prog_9_method_43_code
def yX7_isAhead : MethodName := ⟨RX7, "isAhead", "(II)Z"⟩
abbrev cX7_layRow : ByteArray := prog_9_method_44_code
def yX7_layRow : MethodName := ⟨RX7, "layRow", "(I)V"⟩
abbrev cX7_cost : ByteArray := prog_9_method_45_code
def yX7_cost : MethodName := ⟨RX7, "cost", "(IIII)I"⟩
abbrev cX7_onFrom : ByteArray := prog_9_method_46_code
def yX7_onFrom : MethodName := ⟨RX7, "onFrom", "(II)I"⟩
abbrev cX7_fingers : ByteArray := prog_9_method_47_code
def yX7_fingers : MethodName := ⟨RX7, "fingers", "(II)I"⟩
abbrev cX7_pedal : ByteArray := prog_9_method_48_code
def yX7_pedal : MethodName := ⟨RX7, "pedal", "(II)I"⟩
abbrev cX7_blursBy : ByteArray := prog_9_method_49_code
def yX7_blursBy : MethodName := ⟨RX7, "blursBy", "(II)I"⟩
abbrev cX7_begins : ByteArray := prog_9_method_50_code
def yX7_begins : MethodName := ⟨RX7, "begins", "(II)Z"⟩
abbrev cX7_joinsBy : ByteArray := prog_9_method_51_code
def yX7_joinsBy : MethodName := ⟨RX7, "joinsBy", "(II)I"⟩
abbrev cX7_blurs : ByteArray := prog_9_method_52_code
def yX7_blurs : MethodName := ⟨RX7, "blurs", "(I)I"⟩
abbrev cX7_best : ByteArray := prog_9_method_53_code
def yX7_best : MethodName := ⟨RX7, "best", "(I)I"⟩
abbrev cX7_isFree : ByteArray := prog_9_method_54_code
def yX7_isFree : MethodName := ⟨RX7, "isFree", "(II)Z"⟩
abbrev cX7_freeHand : ByteArray := prog_9_method_55_code
def yX7_freeHand : MethodName := ⟨RX7, "freeHand", "(II)I"⟩
abbrev cX7_turns : ByteArray := prog_9_method_56_code
def yX7_turns : MethodName := ⟨RX7, "turns", "(III)I"⟩
abbrev cX7_covered : ByteArray := prog_9_method_57_code
def yX7_covered : MethodName := ⟨RX7, "covered", "()J"⟩
abbrev cX7_changePlaces : ByteArray := prog_9_method_58_code
def yX7_changePlaces : MethodName := ⟨RX7, "changePlaces", "()V"⟩
abbrev cX7_places : ByteArray := prog_9_method_59_code
def yX7_places : MethodName := ⟨RX7, "places", "()I"⟩
abbrev cX7_laySlips : ByteArray := prog_9_method_60_code
def yX7_laySlips : MethodName := ⟨RX7, "laySlips", "()V"⟩
abbrev cX7_slipsBy : ByteArray := prog_9_method_61_code
def yX7_slipsBy : MethodName := ⟨RX7, "slipsBy", "(I)I"⟩
abbrev cX7_nextRow : ByteArray := prog_9_method_62_code
def yX7_nextRow : MethodName := ⟨RX7, "nextRow", "(I)Z"⟩
abbrev cX7_practice : ByteArray := prog_9_method_63_code
def yX7_practice : MethodName := ⟨RX7, "practice", "(II)I"⟩
abbrev cX7_tell : ByteArray := prog_9_method_64_code
def yX7_tell : MethodName := ⟨RX7, "tell", "(JJ)V"⟩
abbrev cX7_breath : ByteArray := prog_9_method_65_code
def yX7_breath : MethodName := ⟨RX7, "breath", "(II)I"⟩
abbrev cX7_heard : ByteArray := prog_9_method_66_code
def yX7_heard : MethodName := ⟨RX7, "heard", "(II)I"⟩
abbrev cX7_explains : ByteArray := prog_9_method_67_code
def yX7_explains : MethodName := ⟨RX7, "explains", "(III)Z"⟩
abbrev cX7_late : ByteArray := prog_9_method_68_code
def yX7_late : MethodName := ⟨RX7, "late", "()I"⟩
abbrev cX7_evening : ByteArray := prog_9_method_69_code
def yX7_evening : MethodName := ⟨RX7, "evening", "(II)I"⟩
abbrev cX7_type : ByteArray := prog_9_method_70_code
def yX7_type : MethodName := ⟨RX7, "type", "(I)I"⟩
abbrev cX7_clear : ByteArray := prog_9_method_71_code
def yX7_clear : MethodName := ⟨RX7, "clear", "()I"⟩
abbrev cX7_isSmall : ByteArray := prog_9_method_72_code
def yX7_isSmall : MethodName := ⟨RX7, "isSmall", "(I)Z"⟩
abbrev cX7_isFigure : ByteArray := prog_9_method_73_code
def yX7_isFigure : MethodName := ⟨RX7, "isFigure", "(I)Z"⟩
abbrev cX7_lookAt : ByteArray := prog_9_method_74_code
def yX7_lookAt : MethodName := ⟨RX7, "lookAt", "(I)V"⟩
abbrev cX7_goOn : ByteArray := prog_9_method_75_code
def yX7_goOn : MethodName := ⟨RX7, "goOn", "()V"⟩
abbrev cX7_isName : ByteArray := prog_9_method_76_code
def yX7_isName : MethodName := ⟨RX7, "isName", "(IIIII)Z"⟩
abbrev cX7_takes : ByteArray := prog_9_method_77_code
def yX7_takes : MethodName := ⟨RX7, "takes", "(III)Z"⟩
abbrev cX7_readsFirst : ByteArray := prog_9_method_78_code
def yX7_readsFirst : MethodName := ⟨RX7, "readsFirst", "()Z"⟩
abbrev cX7_readsHand : ByteArray := prog_9_method_79_code
def yX7_readsHand : MethodName := ⟨RX7, "readsHand", "()Z"⟩
abbrev cX7_readsNote : ByteArray := prog_9_method_80_code
def yX7_readsNote : MethodName := ⟨RX7, "readsNote", "()Z"⟩
abbrev cX7_readsItem : ByteArray := prog_9_method_81_code
def yX7_readsItem : MethodName := ⟨RX7, "readsItem", "()Z"⟩
abbrev cX7_read : ByteArray := prog_9_method_82_code
def yX7_read : MethodName := ⟨RX7, "read", "()I"⟩
abbrev cX7_part : ByteArray := prog_9_method_83_code
def yX7_part : MethodName := ⟨RX7, "part", "(I)J"⟩
abbrev cX7_image : ByteArray := prog_9_method_84_code
def yX7_image : MethodName := ⟨RX7, "image", "(I)I"⟩
abbrev cX7_from : ByteArray := prog_9_method_85_code
def yX7_from : MethodName := ⟨RX7, "from", "(I)I"⟩
abbrev cX7_status : ByteArray := prog_9_method_86_code
def yX7_status : MethodName := ⟨RX7, "status", "(I)I"⟩
abbrev cX7_played : ByteArray := prog_9_method_87_code
def yX7_played : MethodName := ⟨RX7, "played", "()I"⟩
abbrev cX7_counted : ByteArray := prog_9_method_88_code
def yX7_counted : MethodName := ⟨RX7, "counted", "(I)I"⟩
abbrev cX7_count : ByteArray := prog_9_method_89_code
def yX7_count : MethodName := ⟨RX7, "count", "(I)I"⟩
abbrev cX7_sums : ByteArray := prog_9_method_90_code
def yX7_sums : MethodName := ⟨RX7, "sums", "(JII)J"⟩
abbrev cX7_digest : ByteArray := prog_9_method_91_code
def yX7_digest : MethodName := ⟨RX7, "digest", "()J"⟩
def RJ6 : String := "java/lang/Integer"
def TJ6 : u_T := fun k => match k with
  | _ => ("", "", "", false)
def tyJ6 : Nat → FieldType := fun k => match k with
  | _ => .int
abbrev wsJ60 : List Cond := u_ws RJ6 TJ6 0
theorem nmJ6 : ∀ a, a < 0 → ∀ b, b < 0 → a ≠ b → (TJ6 a).2.1 ≠ (TJ6 b).2.1 := by decide +kernel
theorem tyJ6_ok : ∀ k, k < 0 → parseFieldDescriptor (TJ6 k).2.2.1 = some (tyJ6 k) := by decide +kernel
abbrev cJ6_bitCount_0f7a4 : ByteArray := prog_10_method_49_code
def yJ6_bitCount_0f7a4 : MethodName := ⟨RJ6, "bitCount", "(I)I"⟩
def RJ9 : String := "java/lang/Math"
def TJ9 : u_T := fun k => match k with
  | _ => ("", "", "", false)
def tyJ9 : Nat → FieldType := fun k => match k with
  | _ => .int
abbrev wsJ90 : List Cond := u_ws RJ9 TJ9 0
theorem nmJ9 : ∀ a, a < 0 → ∀ b, b < 0 → a ≠ b → (TJ9 a).2.1 ≠ (TJ9 b).2.1 := by decide +kernel
theorem tyJ9_ok : ∀ k, k < 0 → parseFieldDescriptor (TJ9 k).2.2.1 = some (tyJ9 k) := by decide +kernel
abbrev cJ9_abs_0f7a4 : ByteArray := prog_11_method_59_code
def yJ9_abs_0f7a4 : MethodName := ⟨RJ9, "abs", "(I)I"⟩
abbrev cJ9_max_7cf53 : ByteArray := prog_11_method_65_code
def yJ9_max_7cf53 : MethodName := ⟨RJ9, "max", "(II)I"⟩
abbrev cJ9_min_7cf53 : ByteArray := prog_11_method_69_code
def yJ9_min_7cf53 : MethodName := ⟨RJ9, "min", "(II)I"⟩
def RJ0 : String := "java/lang/String"
def TJ0 : u_T := fun k => match k with
  | _ => ("", "", "", false)
def tyJ0 : Nat → FieldType := fun k => match k with
  | _ => .int
abbrev wsJ00 : List Cond := u_ws RJ0 TJ0 0
theorem nmJ0 : ∀ a, a < 0 → ∀ b, b < 0 → a ≠ b → (TJ0 a).2.1 ≠ (TJ0 b).2.1 := by decide +kernel
theorem tyJ0_ok : ∀ k, k < 0 → parseFieldDescriptor (TJ0 k).2.2.1 = some (tyJ0 k) := by decide +kernel
abbrev cJ0_length_8abf5 : ByteArray := prog_12_method_54_code
def yJ0_length_8abf5 : MethodName := ⟨RJ0, "length", "()I"⟩
abbrev cJ0_charAt_5068e : ByteArray := prog_12_method_56_code
def yJ0_charAt_5068e : MethodName := ⟨RJ0, "charAt", "(I)C"⟩
abbrev cJ0_coder_7d493 : ByteArray := prog_12_method_152_code
def yJ0_coder_7d493 : MethodName := ⟨RJ0, "coder", "()B"⟩
abbrev cJ0_isLatin1_aae02 : ByteArray := prog_12_method_154_code
def yJ0_isLatin1_aae02 : MethodName := ⟨RJ0, "isLatin1", "()Z"⟩
abbrev cJ0_checkIndex_df160 : ByteArray := prog_12_method_155_code
def yJ0_checkIndex_df160 : MethodName := ⟨RJ0, "checkIndex", "(II)V"⟩
def RJ1 : String := "java/lang/StringLatin1"
def TJ1 : u_T := fun k => match k with
  | _ => ("", "", "", false)
def tyJ1 : Nat → FieldType := fun k => match k with
  | _ => .int
abbrev wsJ10 : List Cond := u_ws RJ1 TJ1 0
theorem nmJ1 : ∀ a, a < 0 → ∀ b, b < 0 → a ≠ b → (TJ1 a).2.1 ≠ (TJ1 b).2.1 := by decide +kernel
theorem tyJ1_ok : ∀ k, k < 0 → parseFieldDescriptor (TJ1 k).2.2.1 = some (tyJ1 k) := by decide +kernel
abbrev cJ1_charAt_3b067 : ByteArray := prog_13_method_2_code
def yJ1_charAt_3b067 : MethodName := ⟨RJ1, "charAt", "([BI)C"⟩
def RJ2 : String := "java/lang/StringUTF16"
def TJ2 : u_T := fun k => match k with
  | _ => ("", "", "", false)
def tyJ2 : Nat → FieldType := fun k => match k with
  | _ => .int
abbrev wsJ20 : List Cond := u_ws RJ2 TJ2 0
theorem nmJ2 : ∀ a, a < 0 → ∀ b, b < 0 → a ≠ b → (TJ2 a).2.1 ≠ (TJ2 b).2.1 := by decide +kernel
theorem tyJ2_ok : ∀ k, k < 0 → parseFieldDescriptor (TJ2 k).2.2.1 = some (tyJ2 k) := by decide +kernel
abbrev cJ2_getChar_3b067 : ByteArray := prog_14_method_5_code
def yJ2_getChar_3b067 : MethodName := ⟨RJ2, "getChar", "([BI)C"⟩
abbrev cJ2_length_9d52b : ByteArray := prog_14_method_6_code
def yJ2_length_9d52b : MethodName := ⟨RJ2, "length", "([B)I"⟩
abbrev cJ2_charAt_3b067 : ByteArray := prog_14_method_83_code
def yJ2_charAt_3b067 : MethodName := ⟨RJ2, "charAt", "([BI)C"⟩
abbrev cJ2_checkIndex_2214a : ByteArray := prog_14_method_91_code
def yJ2_checkIndex_2214a : MethodName := ⟨RJ2, "checkIndex", "(I[B)V"⟩
def RJ10 : String := "java/lang/System"
def TJ10 : u_T := fun k => match k with
  | _ => ("", "", "", false)
def tyJ10 : Nat → FieldType := fun k => match k with
  | _ => .int
theorem nmJ10 : ∀ a, a < 0 → ∀ b, b < 0 → a ≠ b → (TJ10 a).2.1 ≠ (TJ10 b).2.1 := by decide +kernel
theorem tyJ10_ok : ∀ k, k < 0 → parseFieldDescriptor (TJ10 k).2.2.1 = some (tyJ10 k) := by decide +kernel
def RJ7 : String := "java/util/Arrays"
def TJ7 : u_T := fun k => match k with
  | _ => ("", "", "", false)
def tyJ7 : Nat → FieldType := fun k => match k with
  | _ => .int
abbrev wsJ70 : List Cond := u_ws RJ7 TJ7 0
theorem nmJ7 : ∀ a, a < 0 → ∀ b, b < 0 → a ≠ b → (TJ7 a).2.1 ≠ (TJ7 b).2.1 := by decide +kernel
theorem tyJ7_ok : ∀ k, k < 0 → parseFieldDescriptor (TJ7 k).2.2.1 = some (tyJ7 k) := by decide +kernel
abbrev cJ7_fill_53178 : ByteArray := prog_16_method_103_code
def yJ7_fill_53178 : MethodName := ⟨RJ7, "fill", "([II)V"⟩
def RJ3 : String := "jdk/internal/util/Preconditions"
def TJ3 : u_T := fun k => match k with
  | _ => ("", "", "", false)
def tyJ3 : Nat → FieldType := fun k => match k with
  | _ => .int
abbrev wsJ30 : List Cond := u_ws RJ3 TJ3 0
theorem nmJ3 : ∀ a, a < 0 → ∀ b, b < 0 → a ≠ b → (TJ3 a).2.1 ≠ (TJ3 b).2.1 := by decide +kernel
theorem tyJ3_ok : ∀ k, k < 0 → parseFieldDescriptor (TJ3 k).2.2.1 = some (tyJ3 k) := by decide +kernel
abbrev cJ3_checkIndex_8e157 : ByteArray := prog_17_method_11_code
def yJ3_checkIndex_8e157 : MethodName := ⟨RJ3, "checkIndex", "(IILjava/util/function/BiFunction;)I"⟩
def RL : String := "FourHandsLaw"
abbrev cL_law : ByteArray := code
def yL_law : MethodName := ⟨RL, "law", "([I)Z"⟩
abbrev vwCl : List vw_C := [(RX0, TX0, 5), (RX1, TX1, 5), (RX2, TX2, 8), (RX3, TX3, 18), (RX4, TX4, 4), (RX5, TX5, 7), (RX6, TX6, 14), (RX7, TX7, 28)]
end
section
theorem dX0_init_0 : decode cX0_init 0 = .ok (.aload_n 0, 1) := by decide +kernel
theorem dX0_init_1 : decode cX0_init 1 = .ok (.invokespecial 3, 3) := by decide +kernel
theorem dX0_init_4 : decode cX0_init 4 = .ok (.aload_n 0, 1) := by decide +kernel
theorem dX0_init_5 : decode cX0_init 5 = .ok (.bipush 8, 2) := by decide +kernel
theorem dX0_init_7 : decode cX0_init 7 = .ok (.newarray .int, 2) := by decide +kernel
theorem dX0_init_9 : decode cX0_init 9 = .ok (.putfield 9, 3) := by decide +kernel
theorem dX0_init_12 : decode cX0_init 12 = .ok (.aload_n 0, 1) := by decide +kernel
theorem dX0_init_13 : decode cX0_init 13 = .ok (.bipush 8, 2) := by decide +kernel
theorem dX0_init_15 : decode cX0_init 15 = .ok (.newarray .int, 2) := by decide +kernel
theorem dX0_init_17 : decode cX0_init 17 = .ok (.putfield 15, 3) := by decide +kernel
theorem dX0_init_20 : decode cX0_init 20 = .ok (.aload_n 0, 1) := by decide +kernel
theorem dX0_init_21 : decode cX0_init 21 = .ok (.bipush 40, 2) := by decide +kernel
theorem dX0_init_23 : decode cX0_init 23 = .ok (.newarray .int, 2) := by decide +kernel
theorem dX0_init_25 : decode cX0_init 25 = .ok (.putfield 18, 3) := by decide +kernel
theorem dX0_init_28 : decode cX0_init 28 = .ok (.return_, 1) := by decide +kernel
theorem dX0_solve_0 : decode cX0_solve 0 = .ok (.aload_n 0, 1) := by decide +kernel
theorem dX0_solve_1 : decode cX0_solve 1 = .ok (.aload_n 1, 1) := by decide +kernel
theorem dX0_solve_2 : decode cX0_solve 2 = .ok (.iload_n 2, 1) := by decide +kernel
theorem dX0_solve_3 : decode cX0_solve 3 = .ok (.invokevirtual 21, 3) := by decide +kernel
theorem dX0_solve_6 : decode cX0_solve 6 = .ok (.aload_n 0, 1) := by decide +kernel
theorem dX0_solve_7 : decode cX0_solve 7 = .ok (.iconst 0, 1) := by decide +kernel
theorem dX0_solve_8 : decode cX0_solve 8 = .ok (.putfield 25, 3) := by decide +kernel
theorem dX0_solve_11 : decode cX0_solve 11 = .ok (.aload_n 0, 1) := by decide +kernel
theorem dX0_solve_12 : decode cX0_solve 12 = .ok (.getfield 29, 3) := by decide +kernel
theorem dX0_solve_15 : decode cX0_solve 15 = .ok (.ifCond .ne 4, 3) := by decide +kernel
theorem dX0_solve_18 : decode cX0_solve 18 = .ok (.return_, 1) := by decide +kernel
theorem dX0_solve_19 : decode cX0_solve 19 = .ok (.aload_n 0, 1) := by decide +kernel
theorem dX0_solve_20 : decode cX0_solve 20 = .ok (.getfield 29, 3) := by decide +kernel
theorem dX0_solve_23 : decode cX0_solve 23 = .ok (.iconst 1, 1) := by decide +kernel
theorem dX0_solve_24 : decode cX0_solve 24 = .ok (.isub, 1) := by decide +kernel
theorem dX0_solve_25 : decode cX0_solve 25 = .ok (.istore_n 3, 1) := by decide +kernel
theorem dX0_solve_26 : decode cX0_solve 26 = .ok (.iload_n 3, 1) := by decide +kernel
theorem dX0_solve_27 : decode cX0_solve 27 = .ok (.ifCond .lt 43, 3) := by decide +kernel
theorem dX0_solve_30 : decode cX0_solve 30 = .ok (.iconst 0, 1) := by decide +kernel
theorem dX0_solve_31 : decode cX0_solve 31 = .ok (.istore 4, 2) := by decide +kernel
theorem dX0_solve_33 : decode cX0_solve 33 = .ok (.iload 4, 2) := by decide +kernel
theorem dX0_solve_35 : decode cX0_solve 35 = .ok (.iconst 5, 1) := by decide +kernel
theorem dX0_solve_36 : decode cX0_solve 36 = .ok (.if_icmp .ge 28, 3) := by decide +kernel
theorem dX0_solve_39 : decode cX0_solve 39 = .ok (.aload_n 0, 1) := by decide +kernel
theorem dX0_solve_40 : decode cX0_solve 40 = .ok (.getfield 18, 3) := by decide +kernel
theorem dX0_solve_43 : decode cX0_solve 43 = .ok (.iload_n 3, 1) := by decide +kernel
theorem dX0_solve_44 : decode cX0_solve 44 = .ok (.iconst 5, 1) := by decide +kernel
theorem dX0_solve_45 : decode cX0_solve 45 = .ok (.imul, 1) := by decide +kernel
theorem dX0_solve_46 : decode cX0_solve 46 = .ok (.iload 4, 2) := by decide +kernel
theorem dX0_solve_48 : decode cX0_solve 48 = .ok (.iadd, 1) := by decide +kernel
theorem dX0_solve_49 : decode cX0_solve 49 = .ok (.aload_n 0, 1) := by decide +kernel
theorem dX0_solve_50 : decode cX0_solve 50 = .ok (.aload_n 1, 1) := by decide +kernel
theorem dX0_solve_51 : decode cX0_solve 51 = .ok (.iload_n 3, 1) := by decide +kernel
theorem dX0_solve_52 : decode cX0_solve 52 = .ok (.iload 4, 2) := by decide +kernel
theorem dX0_solve_54 : decode cX0_solve 54 = .ok (.invokevirtual 32, 3) := by decide +kernel
theorem dX0_solve_57 : decode cX0_solve 57 = .ok (.iastore, 1) := by decide +kernel
theorem dX0_solve_58 : decode cX0_solve 58 = .ok (.iinc 4 1, 3) := by decide +kernel
theorem dX0_solve_61 : decode cX0_solve 61 = .ok (.goto (-28), 3) := by decide +kernel
theorem dX0_solve_64 : decode cX0_solve 64 = .ok (.iinc 3 (-1), 3) := by decide +kernel
theorem dX0_solve_67 : decode cX0_solve 67 = .ok (.goto (-41), 3) := by decide +kernel
theorem dX0_solve_70 : decode cX0_solve 70 = .ok (.aload_n 0, 1) := by decide +kernel
theorem dX0_solve_71 : decode cX0_solve 71 = .ok (.getfield 9, 3) := by decide +kernel
theorem dX0_solve_74 : decode cX0_solve 74 = .ok (.iconst 0, 1) := by decide +kernel
theorem dX0_solve_75 : decode cX0_solve 75 = .ok (.iconst 0, 1) := by decide +kernel
theorem dX0_solve_76 : decode cX0_solve 76 = .ok (.iastore, 1) := by decide +kernel
theorem dX0_solve_77 : decode cX0_solve 77 = .ok (.iconst 1, 1) := by decide +kernel
theorem dX0_solve_78 : decode cX0_solve 78 = .ok (.istore_n 3, 1) := by decide +kernel
theorem dX0_solve_79 : decode cX0_solve 79 = .ok (.iload_n 3, 1) := by decide +kernel
theorem dX0_solve_80 : decode cX0_solve 80 = .ok (.iconst 5, 1) := by decide +kernel
theorem dX0_solve_81 : decode cX0_solve 81 = .ok (.if_icmp .ge 36, 3) := by decide +kernel
theorem dX0_solve_84 : decode cX0_solve 84 = .ok (.aload_n 0, 1) := by decide +kernel
theorem dX0_solve_85 : decode cX0_solve 85 = .ok (.getfield 18, 3) := by decide +kernel
theorem dX0_solve_88 : decode cX0_solve 88 = .ok (.iload_n 3, 1) := by decide +kernel
theorem dX0_solve_89 : decode cX0_solve 89 = .ok (.iaload, 1) := by decide +kernel
theorem dX0_solve_90 : decode cX0_solve 90 = .ok (.aload_n 0, 1) := by decide +kernel
theorem dX0_solve_91 : decode cX0_solve 91 = .ok (.getfield 18, 3) := by decide +kernel
theorem dX0_solve_94 : decode cX0_solve 94 = .ok (.aload_n 0, 1) := by decide +kernel
theorem dX0_solve_95 : decode cX0_solve 95 = .ok (.getfield 9, 3) := by decide +kernel
theorem dX0_solve_98 : decode cX0_solve 98 = .ok (.iconst 0, 1) := by decide +kernel
theorem dX0_solve_99 : decode cX0_solve 99 = .ok (.iaload, 1) := by decide +kernel
theorem dX0_solve_100 : decode cX0_solve 100 = .ok (.iaload, 1) := by decide +kernel
theorem dX0_solve_101 : decode cX0_solve 101 = .ok (.if_icmp .ge 10, 3) := by decide +kernel
theorem dX0_solve_104 : decode cX0_solve 104 = .ok (.aload_n 0, 1) := by decide +kernel
theorem dX0_solve_105 : decode cX0_solve 105 = .ok (.getfield 9, 3) := by decide +kernel
theorem dX0_solve_108 : decode cX0_solve 108 = .ok (.iconst 0, 1) := by decide +kernel
theorem dX0_solve_109 : decode cX0_solve 109 = .ok (.iload_n 3, 1) := by decide +kernel
theorem dX0_solve_110 : decode cX0_solve 110 = .ok (.iastore, 1) := by decide +kernel
theorem dX0_solve_111 : decode cX0_solve 111 = .ok (.iinc 3 1, 3) := by decide +kernel
theorem dX0_solve_114 : decode cX0_solve 114 = .ok (.goto (-35), 3) := by decide +kernel
theorem dX0_solve_117 : decode cX0_solve 117 = .ok (.aload_n 0, 1) := by decide +kernel
theorem dX0_solve_118 : decode cX0_solve 118 = .ok (.aload_n 0, 1) := by decide +kernel
theorem dX0_solve_119 : decode cX0_solve 119 = .ok (.getfield 18, 3) := by decide +kernel
theorem dX0_solve_122 : decode cX0_solve 122 = .ok (.aload_n 0, 1) := by decide +kernel
theorem dX0_solve_123 : decode cX0_solve 123 = .ok (.getfield 9, 3) := by decide +kernel
theorem dX0_solve_126 : decode cX0_solve 126 = .ok (.iconst 0, 1) := by decide +kernel
theorem dX0_solve_127 : decode cX0_solve 127 = .ok (.iaload, 1) := by decide +kernel
theorem dX0_solve_128 : decode cX0_solve 128 = .ok (.iaload, 1) := by decide +kernel
theorem dX0_solve_129 : decode cX0_solve 129 = .ok (.putfield 25, 3) := by decide +kernel
theorem dX0_solve_132 : decode cX0_solve 132 = .ok (.iconst 1, 1) := by decide +kernel
theorem dX0_solve_133 : decode cX0_solve 133 = .ok (.istore_n 3, 1) := by decide +kernel
theorem dX0_solve_134 : decode cX0_solve 134 = .ok (.iload_n 3, 1) := by decide +kernel
theorem dX0_solve_135 : decode cX0_solve 135 = .ok (.aload_n 0, 1) := by decide +kernel
theorem dX0_solve_136 : decode cX0_solve 136 = .ok (.getfield 29, 3) := by decide +kernel
theorem dX0_solve_139 : decode cX0_solve 139 = .ok (.if_icmp .ge 31, 3) := by decide +kernel
theorem dX0_solve_142 : decode cX0_solve 142 = .ok (.aload_n 0, 1) := by decide +kernel
theorem dX0_solve_143 : decode cX0_solve 143 = .ok (.getfield 9, 3) := by decide +kernel
theorem dX0_solve_146 : decode cX0_solve 146 = .ok (.iload_n 3, 1) := by decide +kernel
theorem dX0_solve_147 : decode cX0_solve 147 = .ok (.aload_n 0, 1) := by decide +kernel
theorem dX0_solve_148 : decode cX0_solve 148 = .ok (.aload_n 1, 1) := by decide +kernel
theorem dX0_solve_149 : decode cX0_solve 149 = .ok (.iload_n 3, 1) := by decide +kernel
theorem dX0_solve_150 : decode cX0_solve 150 = .ok (.iconst 1, 1) := by decide +kernel
theorem dX0_solve_151 : decode cX0_solve 151 = .ok (.isub, 1) := by decide +kernel
theorem dX0_solve_152 : decode cX0_solve 152 = .ok (.aload_n 0, 1) := by decide +kernel
theorem dX0_solve_153 : decode cX0_solve 153 = .ok (.getfield 9, 3) := by decide +kernel
theorem dX0_solve_156 : decode cX0_solve 156 = .ok (.iload_n 3, 1) := by decide +kernel
theorem dX0_solve_157 : decode cX0_solve 157 = .ok (.iconst 1, 1) := by decide +kernel
theorem dX0_solve_158 : decode cX0_solve 158 = .ok (.isub, 1) := by decide +kernel
theorem dX0_solve_159 : decode cX0_solve 159 = .ok (.iaload, 1) := by decide +kernel
theorem dX0_solve_160 : decode cX0_solve 160 = .ok (.invokevirtual 36, 3) := by decide +kernel
theorem dX0_solve_163 : decode cX0_solve 163 = .ok (.iastore, 1) := by decide +kernel
theorem dX0_solve_164 : decode cX0_solve 164 = .ok (.iinc 3 1, 3) := by decide +kernel
theorem dX0_solve_167 : decode cX0_solve 167 = .ok (.goto (-33), 3) := by decide +kernel
theorem dX0_solve_170 : decode cX0_solve 170 = .ok (.return_, 1) := by decide +kernel
theorem dX0_sortNotes_0 : decode cX0_sortNotes 0 = .ok (.aload_n 0, 1) := by decide +kernel
theorem dX0_sortNotes_1 : decode cX0_sortNotes 1 = .ok (.iconst 0, 1) := by decide +kernel
theorem dX0_sortNotes_2 : decode cX0_sortNotes 2 = .ok (.putfield 29, 3) := by decide +kernel
theorem dX0_sortNotes_5 : decode cX0_sortNotes 5 = .ok (.iconst 0, 1) := by decide +kernel
theorem dX0_sortNotes_6 : decode cX0_sortNotes 6 = .ok (.istore_n 3, 1) := by decide +kernel
theorem dX0_sortNotes_7 : decode cX0_sortNotes 7 = .ok (.iload_n 3, 1) := by decide +kernel
theorem dX0_sortNotes_8 : decode cX0_sortNotes 8 = .ok (.aload_n 1, 1) := by decide +kernel
theorem dX0_sortNotes_9 : decode cX0_sortNotes 9 = .ok (.getfield 39, 3) := by decide +kernel
theorem dX0_sortNotes_12 : decode cX0_sortNotes 12 = .ok (.if_icmp .ge 100, 3) := by decide +kernel
theorem dX0_sortNotes_15 : decode cX0_sortNotes 15 = .ok (.aload_n 0, 1) := by decide +kernel
theorem dX0_sortNotes_16 : decode cX0_sortNotes 16 = .ok (.getfield 29, 3) := by decide +kernel
theorem dX0_sortNotes_19 : decode cX0_sortNotes 19 = .ok (.bipush 8, 2) := by decide +kernel
theorem dX0_sortNotes_21 : decode cX0_sortNotes 21 = .ok (.if_icmp .ge 91, 3) := by decide +kernel
theorem dX0_sortNotes_24 : decode cX0_sortNotes 24 = .ok (.aload_n 1, 1) := by decide +kernel
theorem dX0_sortNotes_25 : decode cX0_sortNotes 25 = .ok (.getfield 44, 3) := by decide +kernel
theorem dX0_sortNotes_28 : decode cX0_sortNotes 28 = .ok (.iload_n 3, 1) := by decide +kernel
theorem dX0_sortNotes_29 : decode cX0_sortNotes 29 = .ok (.iaload, 1) := by decide +kernel
theorem dX0_sortNotes_30 : decode cX0_sortNotes 30 = .ok (.iload_n 2, 1) := by decide +kernel
theorem dX0_sortNotes_31 : decode cX0_sortNotes 31 = .ok (.if_icmp .eq 6, 3) := by decide +kernel
theorem dX0_sortNotes_34 : decode cX0_sortNotes 34 = .ok (.goto 72, 3) := by decide +kernel
theorem dX0_sortNotes_37 : decode cX0_sortNotes 37 = .ok (.aload_n 0, 1) := by decide +kernel
theorem dX0_sortNotes_38 : decode cX0_sortNotes 38 = .ok (.getfield 29, 3) := by decide +kernel
theorem dX0_sortNotes_41 : decode cX0_sortNotes 41 = .ok (.istore 4, 2) := by decide +kernel
theorem dX0_sortNotes_43 : decode cX0_sortNotes 43 = .ok (.iload 4, 2) := by decide +kernel
theorem dX0_sortNotes_45 : decode cX0_sortNotes 45 = .ok (.ifCond .le 43, 3) := by decide +kernel
theorem dX0_sortNotes_48 : decode cX0_sortNotes 48 = .ok (.aload_n 0, 1) := by decide +kernel
theorem dX0_sortNotes_49 : decode cX0_sortNotes 49 = .ok (.aload_n 1, 1) := by decide +kernel
theorem dX0_sortNotes_50 : decode cX0_sortNotes 50 = .ok (.iload_n 3, 1) := by decide +kernel
theorem dX0_sortNotes_51 : decode cX0_sortNotes 51 = .ok (.aload_n 0, 1) := by decide +kernel
theorem dX0_sortNotes_52 : decode cX0_sortNotes 52 = .ok (.getfield 15, 3) := by decide +kernel
theorem dX0_sortNotes_55 : decode cX0_sortNotes 55 = .ok (.iload 4, 2) := by decide +kernel
theorem dX0_sortNotes_57 : decode cX0_sortNotes 57 = .ok (.iconst 1, 1) := by decide +kernel
theorem dX0_sortNotes_58 : decode cX0_sortNotes 58 = .ok (.isub, 1) := by decide +kernel
theorem dX0_sortNotes_59 : decode cX0_sortNotes 59 = .ok (.iaload, 1) := by decide +kernel
theorem dX0_sortNotes_60 : decode cX0_sortNotes 60 = .ok (.invokevirtual 47, 3) := by decide +kernel
theorem dX0_sortNotes_63 : decode cX0_sortNotes 63 = .ok (.ifCond .eq 25, 3) := by decide +kernel
theorem dX0_sortNotes_66 : decode cX0_sortNotes 66 = .ok (.aload_n 0, 1) := by decide +kernel
theorem dX0_sortNotes_67 : decode cX0_sortNotes 67 = .ok (.getfield 15, 3) := by decide +kernel
theorem dX0_sortNotes_70 : decode cX0_sortNotes 70 = .ok (.iload 4, 2) := by decide +kernel
theorem dX0_sortNotes_72 : decode cX0_sortNotes 72 = .ok (.aload_n 0, 1) := by decide +kernel
theorem dX0_sortNotes_73 : decode cX0_sortNotes 73 = .ok (.getfield 15, 3) := by decide +kernel
theorem dX0_sortNotes_76 : decode cX0_sortNotes 76 = .ok (.iload 4, 2) := by decide +kernel
theorem dX0_sortNotes_78 : decode cX0_sortNotes 78 = .ok (.iconst 1, 1) := by decide +kernel
theorem dX0_sortNotes_79 : decode cX0_sortNotes 79 = .ok (.isub, 1) := by decide +kernel
theorem dX0_sortNotes_80 : decode cX0_sortNotes 80 = .ok (.iaload, 1) := by decide +kernel
theorem dX0_sortNotes_81 : decode cX0_sortNotes 81 = .ok (.iastore, 1) := by decide +kernel
theorem dX0_sortNotes_82 : decode cX0_sortNotes 82 = .ok (.iinc 4 (-1), 3) := by decide +kernel
theorem dX0_sortNotes_85 : decode cX0_sortNotes 85 = .ok (.goto (-42), 3) := by decide +kernel
theorem dX0_sortNotes_88 : decode cX0_sortNotes 88 = .ok (.aload_n 0, 1) := by decide +kernel
theorem dX0_sortNotes_89 : decode cX0_sortNotes 89 = .ok (.getfield 15, 3) := by decide +kernel
theorem dX0_sortNotes_92 : decode cX0_sortNotes 92 = .ok (.iload 4, 2) := by decide +kernel
theorem dX0_sortNotes_94 : decode cX0_sortNotes 94 = .ok (.iload_n 3, 1) := by decide +kernel
theorem dX0_sortNotes_95 : decode cX0_sortNotes 95 = .ok (.iastore, 1) := by decide +kernel
theorem dX0_sortNotes_96 : decode cX0_sortNotes 96 = .ok (.aload_n 0, 1) := by decide +kernel
theorem dX0_sortNotes_97 : decode cX0_sortNotes 97 = .ok (.dup, 1) := by decide +kernel
theorem dX0_sortNotes_98 : decode cX0_sortNotes 98 = .ok (.getfield 29, 3) := by decide +kernel
theorem dX0_sortNotes_101 : decode cX0_sortNotes 101 = .ok (.iconst 1, 1) := by decide +kernel
theorem dX0_sortNotes_102 : decode cX0_sortNotes 102 = .ok (.iadd, 1) := by decide +kernel
theorem dX0_sortNotes_103 : decode cX0_sortNotes 103 = .ok (.putfield 29, 3) := by decide +kernel
theorem dX0_sortNotes_106 : decode cX0_sortNotes 106 = .ok (.iinc 3 1, 3) := by decide +kernel
theorem dX0_sortNotes_109 : decode cX0_sortNotes 109 = .ok (.goto (-102), 3) := by decide +kernel
theorem dX0_sortNotes_112 : decode cX0_sortNotes 112 = .ok (.return_, 1) := by decide +kernel
theorem dX0_isAhead_0 : decode cX0_isAhead 0 = .ok (.aload_n 1, 1) := by decide +kernel
theorem dX0_isAhead_1 : decode cX0_isAhead 1 = .ok (.getfield 51, 3) := by decide +kernel
theorem dX0_isAhead_4 : decode cX0_isAhead 4 = .ok (.iload_n 2, 1) := by decide +kernel
theorem dX0_isAhead_5 : decode cX0_isAhead 5 = .ok (.iaload, 1) := by decide +kernel
theorem dX0_isAhead_6 : decode cX0_isAhead 6 = .ok (.aload_n 1, 1) := by decide +kernel
theorem dX0_isAhead_7 : decode cX0_isAhead 7 = .ok (.getfield 51, 3) := by decide +kernel
theorem dX0_isAhead_10 : decode cX0_isAhead 10 = .ok (.iload_n 3, 1) := by decide +kernel
theorem dX0_isAhead_11 : decode cX0_isAhead 11 = .ok (.iaload, 1) := by decide +kernel
theorem dX0_isAhead_12 : decode cX0_isAhead 12 = .ok (.if_icmp .eq 24, 3) := by decide +kernel
theorem dX0_isAhead_15 : decode cX0_isAhead 15 = .ok (.aload_n 1, 1) := by decide +kernel
theorem dX0_isAhead_16 : decode cX0_isAhead 16 = .ok (.getfield 51, 3) := by decide +kernel
theorem dX0_isAhead_19 : decode cX0_isAhead 19 = .ok (.iload_n 2, 1) := by decide +kernel
theorem dX0_isAhead_20 : decode cX0_isAhead 20 = .ok (.iaload, 1) := by decide +kernel
theorem dX0_isAhead_21 : decode cX0_isAhead 21 = .ok (.aload_n 1, 1) := by decide +kernel
theorem dX0_isAhead_22 : decode cX0_isAhead 22 = .ok (.getfield 51, 3) := by decide +kernel
theorem dX0_isAhead_25 : decode cX0_isAhead 25 = .ok (.iload_n 3, 1) := by decide +kernel
theorem dX0_isAhead_26 : decode cX0_isAhead 26 = .ok (.iaload, 1) := by decide +kernel
theorem dX0_isAhead_27 : decode cX0_isAhead 27 = .ok (.if_icmp .ge 7, 3) := by decide +kernel
theorem dX0_isAhead_30 : decode cX0_isAhead 30 = .ok (.iconst 1, 1) := by decide +kernel
theorem dX0_isAhead_31 : decode cX0_isAhead 31 = .ok (.goto 4, 3) := by decide +kernel
theorem dX0_isAhead_34 : decode cX0_isAhead 34 = .ok (.iconst 0, 1) := by decide +kernel
theorem dX0_isAhead_35 : decode cX0_isAhead 35 = .ok (.ireturn, 1) := by decide +kernel
theorem dX0_isAhead_36 : decode cX0_isAhead 36 = .ok (.aload_n 1, 1) := by decide +kernel
theorem dX0_isAhead_37 : decode cX0_isAhead 37 = .ok (.getfield 54, 3) := by decide +kernel
theorem dX0_isAhead_40 : decode cX0_isAhead 40 = .ok (.iload_n 2, 1) := by decide +kernel
theorem dX0_isAhead_41 : decode cX0_isAhead 41 = .ok (.iaload, 1) := by decide +kernel
theorem dX0_isAhead_42 : decode cX0_isAhead 42 = .ok (.aload_n 1, 1) := by decide +kernel
theorem dX0_isAhead_43 : decode cX0_isAhead 43 = .ok (.getfield 54, 3) := by decide +kernel
theorem dX0_isAhead_46 : decode cX0_isAhead 46 = .ok (.iload_n 3, 1) := by decide +kernel
theorem dX0_isAhead_47 : decode cX0_isAhead 47 = .ok (.iaload, 1) := by decide +kernel
theorem dX0_isAhead_48 : decode cX0_isAhead 48 = .ok (.if_icmp .ge 7, 3) := by decide +kernel
theorem dX0_isAhead_51 : decode cX0_isAhead 51 = .ok (.iconst 1, 1) := by decide +kernel
theorem dX0_isAhead_52 : decode cX0_isAhead 52 = .ok (.goto 4, 3) := by decide +kernel
theorem dX0_isAhead_55 : decode cX0_isAhead 55 = .ok (.iconst 0, 1) := by decide +kernel
theorem dX0_isAhead_56 : decode cX0_isAhead 56 = .ok (.ireturn, 1) := by decide +kernel
theorem dX0_leastFrom_0 : decode cX0_leastFrom 0 = .ok (.iload_n 2, 1) := by decide +kernel
theorem dX0_leastFrom_1 : decode cX0_leastFrom 1 = .ok (.iconst 1, 1) := by decide +kernel
theorem dX0_leastFrom_2 : decode cX0_leastFrom 2 = .ok (.iadd, 1) := by decide +kernel
theorem dX0_leastFrom_3 : decode cX0_leastFrom 3 = .ok (.aload_n 0, 1) := by decide +kernel
theorem dX0_leastFrom_4 : decode cX0_leastFrom 4 = .ok (.getfield 29, 3) := by decide +kernel
theorem dX0_leastFrom_7 : decode cX0_leastFrom 7 = .ok (.if_icmp .lt 5, 3) := by decide +kernel
theorem dX0_leastFrom_10 : decode cX0_leastFrom 10 = .ok (.iconst 0, 1) := by decide +kernel
theorem dX0_leastFrom_11 : decode cX0_leastFrom 11 = .ok (.ireturn, 1) := by decide +kernel
theorem dX0_leastFrom_12 : decode cX0_leastFrom 12 = .ok (.aload_n 0, 1) := by decide +kernel
theorem dX0_leastFrom_13 : decode cX0_leastFrom 13 = .ok (.aload_n 1, 1) := by decide +kernel
theorem dX0_leastFrom_14 : decode cX0_leastFrom 14 = .ok (.iload_n 2, 1) := by decide +kernel
theorem dX0_leastFrom_15 : decode cX0_leastFrom 15 = .ok (.iload_n 3, 1) := by decide +kernel
theorem dX0_leastFrom_16 : decode cX0_leastFrom 16 = .ok (.aload_n 0, 1) := by decide +kernel
theorem dX0_leastFrom_17 : decode cX0_leastFrom 17 = .ok (.aload_n 1, 1) := by decide +kernel
theorem dX0_leastFrom_18 : decode cX0_leastFrom 18 = .ok (.iload_n 2, 1) := by decide +kernel
theorem dX0_leastFrom_19 : decode cX0_leastFrom 19 = .ok (.iload_n 3, 1) := by decide +kernel
theorem dX0_leastFrom_20 : decode cX0_leastFrom 20 = .ok (.invokevirtual 36, 3) := by decide +kernel
theorem dX0_leastFrom_23 : decode cX0_leastFrom 23 = .ok (.invokevirtual 57, 3) := by decide +kernel
theorem dX0_leastFrom_26 : decode cX0_leastFrom 26 = .ok (.ireturn, 1) := by decide +kernel
theorem dX0_nextFinger_0 : decode cX0_nextFinger 0 = .ok (.iconst 0, 1) := by decide +kernel
theorem dX0_nextFinger_1 : decode cX0_nextFinger 1 = .ok (.istore 4, 2) := by decide +kernel
theorem dX0_nextFinger_3 : decode cX0_nextFinger 3 = .ok (.iconst 1, 1) := by decide +kernel
theorem dX0_nextFinger_4 : decode cX0_nextFinger 4 = .ok (.istore 5, 2) := by decide +kernel
theorem dX0_nextFinger_6 : decode cX0_nextFinger 6 = .ok (.iload 5, 2) := by decide +kernel
theorem dX0_nextFinger_8 : decode cX0_nextFinger 8 = .ok (.iconst 5, 1) := by decide +kernel
theorem dX0_nextFinger_9 : decode cX0_nextFinger 9 = .ok (.if_icmp .ge 34, 3) := by decide +kernel
theorem dX0_nextFinger_12 : decode cX0_nextFinger 12 = .ok (.aload_n 0, 1) := by decide +kernel
theorem dX0_nextFinger_13 : decode cX0_nextFinger 13 = .ok (.aload_n 1, 1) := by decide +kernel
theorem dX0_nextFinger_14 : decode cX0_nextFinger 14 = .ok (.iload_n 2, 1) := by decide +kernel
theorem dX0_nextFinger_15 : decode cX0_nextFinger 15 = .ok (.iload_n 3, 1) := by decide +kernel
theorem dX0_nextFinger_16 : decode cX0_nextFinger 16 = .ok (.iload 5, 2) := by decide +kernel
theorem dX0_nextFinger_18 : decode cX0_nextFinger 18 = .ok (.invokevirtual 57, 3) := by decide +kernel
theorem dX0_nextFinger_21 : decode cX0_nextFinger 21 = .ok (.aload_n 0, 1) := by decide +kernel
theorem dX0_nextFinger_22 : decode cX0_nextFinger 22 = .ok (.aload_n 1, 1) := by decide +kernel
theorem dX0_nextFinger_23 : decode cX0_nextFinger 23 = .ok (.iload_n 2, 1) := by decide +kernel
theorem dX0_nextFinger_24 : decode cX0_nextFinger 24 = .ok (.iload_n 3, 1) := by decide +kernel
theorem dX0_nextFinger_25 : decode cX0_nextFinger 25 = .ok (.iload 4, 2) := by decide +kernel
theorem dX0_nextFinger_27 : decode cX0_nextFinger 27 = .ok (.invokevirtual 57, 3) := by decide +kernel
theorem dX0_nextFinger_30 : decode cX0_nextFinger 30 = .ok (.if_icmp .ge 7, 3) := by decide +kernel
theorem dX0_nextFinger_33 : decode cX0_nextFinger 33 = .ok (.iload 5, 2) := by decide +kernel
theorem dX0_nextFinger_35 : decode cX0_nextFinger 35 = .ok (.istore 4, 2) := by decide +kernel
theorem dX0_nextFinger_37 : decode cX0_nextFinger 37 = .ok (.iinc 5 1, 3) := by decide +kernel
theorem dX0_nextFinger_40 : decode cX0_nextFinger 40 = .ok (.goto (-34), 3) := by decide +kernel
theorem dX0_nextFinger_43 : decode cX0_nextFinger 43 = .ok (.iload 4, 2) := by decide +kernel
theorem dX0_nextFinger_45 : decode cX0_nextFinger 45 = .ok (.ireturn, 1) := by decide +kernel
theorem dX0_costBy_0 : decode cX0_costBy 0 = .ok (.aload_n 1, 1) := by decide +kernel
theorem dX0_costBy_1 : decode cX0_costBy 1 = .ok (.getfield 54, 3) := by decide +kernel
theorem dX0_costBy_4 : decode cX0_costBy 4 = .ok (.aload_n 0, 1) := by decide +kernel
theorem dX0_costBy_5 : decode cX0_costBy 5 = .ok (.getfield 15, 3) := by decide +kernel
theorem dX0_costBy_8 : decode cX0_costBy 8 = .ok (.iload_n 2, 1) := by decide +kernel
theorem dX0_costBy_9 : decode cX0_costBy 9 = .ok (.iconst 1, 1) := by decide +kernel
theorem dX0_costBy_10 : decode cX0_costBy 10 = .ok (.iadd, 1) := by decide +kernel
theorem dX0_costBy_11 : decode cX0_costBy 11 = .ok (.iaload, 1) := by decide +kernel
theorem dX0_costBy_12 : decode cX0_costBy 12 = .ok (.iaload, 1) := by decide +kernel
theorem dX0_costBy_13 : decode cX0_costBy 13 = .ok (.aload_n 1, 1) := by decide +kernel
theorem dX0_costBy_14 : decode cX0_costBy 14 = .ok (.getfield 54, 3) := by decide +kernel
theorem dX0_costBy_17 : decode cX0_costBy 17 = .ok (.aload_n 0, 1) := by decide +kernel
theorem dX0_costBy_18 : decode cX0_costBy 18 = .ok (.getfield 15, 3) := by decide +kernel
theorem dX0_costBy_21 : decode cX0_costBy 21 = .ok (.iload_n 2, 1) := by decide +kernel
theorem dX0_costBy_22 : decode cX0_costBy 22 = .ok (.iaload, 1) := by decide +kernel
theorem dX0_costBy_23 : decode cX0_costBy 23 = .ok (.iaload, 1) := by decide +kernel
theorem dX0_costBy_24 : decode cX0_costBy 24 = .ok (.isub, 1) := by decide +kernel
theorem dX0_costBy_25 : decode cX0_costBy 25 = .ok (.istore 5, 2) := by decide +kernel
theorem dX0_costBy_27 : decode cX0_costBy 27 = .ok (.iload 5, 2) := by decide +kernel
theorem dX0_costBy_29 : decode cX0_costBy 29 = .ok (.iload 4, 2) := by decide +kernel
theorem dX0_costBy_31 : decode cX0_costBy 31 = .ok (.iload_n 3, 1) := by decide +kernel
theorem dX0_costBy_32 : decode cX0_costBy 32 = .ok (.isub, 1) := by decide +kernel
theorem dX0_costBy_33 : decode cX0_costBy 33 = .ok (.isub, 1) := by decide +kernel
theorem dX0_costBy_34 : decode cX0_costBy 34 = .ok (.invokestatic 61, 3) := by decide +kernel
theorem dX0_costBy_37 : decode cX0_costBy 37 = .ok (.istore 6, 2) := by decide +kernel
theorem dX0_costBy_39 : decode cX0_costBy 39 = .ok (.iload_n 3, 1) := by decide +kernel
theorem dX0_costBy_40 : decode cX0_costBy 40 = .ok (.iload 4, 2) := by decide +kernel
theorem dX0_costBy_42 : decode cX0_costBy 42 = .ok (.if_icmp .ne 12, 3) := by decide +kernel
theorem dX0_costBy_45 : decode cX0_costBy 45 = .ok (.iload 5, 2) := by decide +kernel
theorem dX0_costBy_47 : decode cX0_costBy 47 = .ok (.ifCond .eq 7, 3) := by decide +kernel
theorem dX0_costBy_50 : decode cX0_costBy 50 = .ok (.iconst 3, 1) := by decide +kernel
theorem dX0_costBy_51 : decode cX0_costBy 51 = .ok (.goto 4, 3) := by decide +kernel
theorem dX0_costBy_54 : decode cX0_costBy 54 = .ok (.iconst 0, 1) := by decide +kernel
theorem dX0_costBy_55 : decode cX0_costBy 55 = .ok (.istore 7, 2) := by decide +kernel
theorem dX0_costBy_57 : decode cX0_costBy 57 = .ok (.iload 6, 2) := by decide +kernel
theorem dX0_costBy_59 : decode cX0_costBy 59 = .ok (.iload 7, 2) := by decide +kernel
theorem dX0_costBy_61 : decode cX0_costBy 61 = .ok (.iadd, 1) := by decide +kernel
theorem dX0_costBy_62 : decode cX0_costBy 62 = .ok (.aload_n 0, 1) := by decide +kernel
theorem dX0_costBy_63 : decode cX0_costBy 63 = .ok (.getfield 18, 3) := by decide +kernel
theorem dX0_costBy_66 : decode cX0_costBy 66 = .ok (.iload_n 2, 1) := by decide +kernel
theorem dX0_costBy_67 : decode cX0_costBy 67 = .ok (.iconst 1, 1) := by decide +kernel
theorem dX0_costBy_68 : decode cX0_costBy 68 = .ok (.iadd, 1) := by decide +kernel
theorem dX0_costBy_69 : decode cX0_costBy 69 = .ok (.iconst 5, 1) := by decide +kernel
theorem dX0_costBy_70 : decode cX0_costBy 70 = .ok (.imul, 1) := by decide +kernel
theorem dX0_costBy_71 : decode cX0_costBy 71 = .ok (.iload 4, 2) := by decide +kernel
theorem dX0_costBy_73 : decode cX0_costBy 73 = .ok (.iadd, 1) := by decide +kernel
theorem dX0_costBy_74 : decode cX0_costBy 74 = .ok (.iaload, 1) := by decide +kernel
theorem dX0_costBy_75 : decode cX0_costBy 75 = .ok (.iadd, 1) := by decide +kernel
theorem dX0_costBy_76 : decode cX0_costBy 76 = .ok (.ireturn, 1) := by decide +kernel
theorem dX1_init_0 : decode cX1_init 0 = .ok (.aload_n 0, 1) := by decide +kernel
theorem dX1_init_1 : decode cX1_init 1 = .ok (.invokespecial 3, 3) := by decide +kernel
theorem dX1_init_4 : decode cX1_init 4 = .ok (.aload_n 0, 1) := by decide +kernel
theorem dX1_init_5 : decode cX1_init 5 = .ok (.iconst 2, 1) := by decide +kernel
theorem dX1_init_6 : decode cX1_init 6 = .ok (.newarray .int, 2) := by decide +kernel
theorem dX1_init_8 : decode cX1_init 8 = .ok (.putfield 9, 3) := by decide +kernel
theorem dX1_init_11 : decode cX1_init 11 = .ok (.aload_n 0, 1) := by decide +kernel
theorem dX1_init_12 : decode cX1_init 12 = .ok (.bipush 48, 2) := by decide +kernel
theorem dX1_init_14 : decode cX1_init 14 = .ok (.newarray .int, 2) := by decide +kernel
theorem dX1_init_16 : decode cX1_init 16 = .ok (.putfield 15, 3) := by decide +kernel
theorem dX1_init_19 : decode cX1_init 19 = .ok (.return_, 1) := by decide +kernel
theorem dX1_solve_0 : decode cX1_solve 0 = .ok (.aload_n 0, 1) := by decide +kernel
theorem dX1_solve_1 : decode cX1_solve 1 = .ok (.aload_n 1, 1) := by decide +kernel
theorem dX1_solve_2 : decode cX1_solve 2 = .ok (.invokevirtual 18, 3) := by decide +kernel
theorem dX1_solve_5 : decode cX1_solve 5 = .ok (.putfield 24, 3) := by decide +kernel
theorem dX1_solve_8 : decode cX1_solve 8 = .ok (.aload_n 0, 1) := by decide +kernel
theorem dX1_solve_9 : decode cX1_solve 9 = .ok (.aload_n 0, 1) := by decide +kernel
theorem dX1_solve_10 : decode cX1_solve 10 = .ok (.getfield 24, 3) := by decide +kernel
theorem dX1_solve_13 : decode cX1_solve 13 = .ok (.putfield 28, 3) := by decide +kernel
theorem dX1_solve_16 : decode cX1_solve 16 = .ok (.aload_n 0, 1) := by decide +kernel
theorem dX1_solve_17 : decode cX1_solve 17 = .ok (.iconst 0, 1) := by decide +kernel
theorem dX1_solve_18 : decode cX1_solve 18 = .ok (.putfield 31, 3) := by decide +kernel
theorem dX1_solve_21 : decode cX1_solve 21 = .ok (.aload_n 0, 1) := by decide +kernel
theorem dX1_solve_22 : decode cX1_solve 22 = .ok (.aload_n 1, 1) := by decide +kernel
theorem dX1_solve_23 : decode cX1_solve 23 = .ok (.invokevirtual 34, 3) := by decide +kernel
theorem dX1_solve_26 : decode cX1_solve 26 = .ok (.iconst 1, 1) := by decide +kernel
theorem dX1_solve_27 : decode cX1_solve 27 = .ok (.istore_n 3, 1) := by decide +kernel
theorem dX1_solve_28 : decode cX1_solve 28 = .ok (.iload_n 3, 1) := by decide +kernel
theorem dX1_solve_29 : decode cX1_solve 29 = .ok (.iload_n 2, 1) := by decide +kernel
theorem dX1_solve_30 : decode cX1_solve 30 = .ok (.if_icmp .gt 64, 3) := by decide +kernel
theorem dX1_solve_33 : decode cX1_solve 33 = .ok (.iconst 0, 1) := by decide +kernel
theorem dX1_solve_34 : decode cX1_solve 34 = .ok (.istore 4, 2) := by decide +kernel
theorem dX1_solve_36 : decode cX1_solve 36 = .ok (.iload 4, 2) := by decide +kernel
theorem dX1_solve_38 : decode cX1_solve 38 = .ok (.aload_n 1, 1) := by decide +kernel
theorem dX1_solve_39 : decode cX1_solve 39 = .ok (.getfield 38, 3) := by decide +kernel
theorem dX1_solve_42 : decode cX1_solve 42 = .ok (.if_icmp .ge 46, 3) := by decide +kernel
theorem dX1_solve_45 : decode cX1_solve 45 = .ok (.iconst 0, 1) := by decide +kernel
theorem dX1_solve_46 : decode cX1_solve 46 = .ok (.istore 5, 2) := by decide +kernel
theorem dX1_solve_48 : decode cX1_solve 48 = .ok (.iload 5, 2) := by decide +kernel
theorem dX1_solve_50 : decode cX1_solve 50 = .ok (.iconst 4, 1) := by decide +kernel
theorem dX1_solve_51 : decode cX1_solve 51 = .ok (.if_icmp .ge 31, 3) := by decide +kernel
theorem dX1_solve_54 : decode cX1_solve 54 = .ok (.aload_n 0, 1) := by decide +kernel
theorem dX1_solve_55 : decode cX1_solve 55 = .ok (.aload_n 1, 1) := by decide +kernel
theorem dX1_solve_56 : decode cX1_solve 56 = .ok (.iload 4, 2) := by decide +kernel
theorem dX1_solve_58 : decode cX1_solve 58 = .ok (.iload 5, 2) := by decide +kernel
theorem dX1_solve_60 : decode cX1_solve 60 = .ok (.invokevirtual 41, 3) := by decide +kernel
theorem dX1_solve_63 : decode cX1_solve 63 = .ok (.ifCond .eq 13, 3) := by decide +kernel
theorem dX1_solve_66 : decode cX1_solve 66 = .ok (.aload_n 0, 1) := by decide +kernel
theorem dX1_solve_67 : decode cX1_solve 67 = .ok (.aload_n 1, 1) := by decide +kernel
theorem dX1_solve_68 : decode cX1_solve 68 = .ok (.iload 4, 2) := by decide +kernel
theorem dX1_solve_70 : decode cX1_solve 70 = .ok (.iload 5, 2) := by decide +kernel
theorem dX1_solve_72 : decode cX1_solve 72 = .ok (.iload_n 3, 1) := by decide +kernel
theorem dX1_solve_73 : decode cX1_solve 73 = .ok (.invokevirtual 45, 3) := by decide +kernel
theorem dX1_solve_76 : decode cX1_solve 76 = .ok (.iinc 5 1, 3) := by decide +kernel
theorem dX1_solve_79 : decode cX1_solve 79 = .ok (.goto (-31), 3) := by decide +kernel
theorem dX1_solve_82 : decode cX1_solve 82 = .ok (.iinc 4 1, 3) := by decide +kernel
theorem dX1_solve_85 : decode cX1_solve 85 = .ok (.goto (-49), 3) := by decide +kernel
theorem dX1_solve_88 : decode cX1_solve 88 = .ok (.iinc 3 1, 3) := by decide +kernel
theorem dX1_solve_91 : decode cX1_solve 91 = .ok (.goto (-63), 3) := by decide +kernel
theorem dX1_solve_94 : decode cX1_solve 94 = .ok (.return_, 1) := by decide +kernel
theorem dX1_countAll_0 : decode cX1_countAll 0 = .ok (.iconst 0, 1) := by decide +kernel
theorem dX1_countAll_1 : decode cX1_countAll 1 = .ok (.istore_n 2, 1) := by decide +kernel
theorem dX1_countAll_2 : decode cX1_countAll 2 = .ok (.iload_n 2, 1) := by decide +kernel
theorem dX1_countAll_3 : decode cX1_countAll 3 = .ok (.aload_n 1, 1) := by decide +kernel
theorem dX1_countAll_4 : decode cX1_countAll 4 = .ok (.getfield 38, 3) := by decide +kernel
theorem dX1_countAll_7 : decode cX1_countAll 7 = .ok (.if_icmp .ge 39, 3) := by decide +kernel
theorem dX1_countAll_10 : decode cX1_countAll 10 = .ok (.iconst 0, 1) := by decide +kernel
theorem dX1_countAll_11 : decode cX1_countAll 11 = .ok (.istore_n 3, 1) := by decide +kernel
theorem dX1_countAll_12 : decode cX1_countAll 12 = .ok (.iload_n 3, 1) := by decide +kernel
theorem dX1_countAll_13 : decode cX1_countAll 13 = .ok (.iconst 4, 1) := by decide +kernel
theorem dX1_countAll_14 : decode cX1_countAll 14 = .ok (.if_icmp .ge 26, 3) := by decide +kernel
theorem dX1_countAll_17 : decode cX1_countAll 17 = .ok (.aload_n 0, 1) := by decide +kernel
theorem dX1_countAll_18 : decode cX1_countAll 18 = .ok (.getfield 15, 3) := by decide +kernel
theorem dX1_countAll_21 : decode cX1_countAll 21 = .ok (.iload_n 2, 1) := by decide +kernel
theorem dX1_countAll_22 : decode cX1_countAll 22 = .ok (.iconst 4, 1) := by decide +kernel
theorem dX1_countAll_23 : decode cX1_countAll 23 = .ok (.imul, 1) := by decide +kernel
theorem dX1_countAll_24 : decode cX1_countAll 24 = .ok (.iload_n 3, 1) := by decide +kernel
theorem dX1_countAll_25 : decode cX1_countAll 25 = .ok (.iadd, 1) := by decide +kernel
theorem dX1_countAll_26 : decode cX1_countAll 26 = .ok (.aload_n 0, 1) := by decide +kernel
theorem dX1_countAll_27 : decode cX1_countAll 27 = .ok (.aload_n 1, 1) := by decide +kernel
theorem dX1_countAll_28 : decode cX1_countAll 28 = .ok (.iload_n 2, 1) := by decide +kernel
theorem dX1_countAll_29 : decode cX1_countAll 29 = .ok (.iload_n 3, 1) := by decide +kernel
theorem dX1_countAll_30 : decode cX1_countAll 30 = .ok (.invokevirtual 49, 3) := by decide +kernel
theorem dX1_countAll_33 : decode cX1_countAll 33 = .ok (.iastore, 1) := by decide +kernel
theorem dX1_countAll_34 : decode cX1_countAll 34 = .ok (.iinc 3 1, 3) := by decide +kernel
theorem dX1_countAll_37 : decode cX1_countAll 37 = .ok (.goto (-25), 3) := by decide +kernel
theorem dX1_countAll_40 : decode cX1_countAll 40 = .ok (.iinc 2 1, 3) := by decide +kernel
theorem dX1_countAll_43 : decode cX1_countAll 43 = .ok (.goto (-41), 3) := by decide +kernel
theorem dX1_countAll_46 : decode cX1_countAll 46 = .ok (.return_, 1) := by decide +kernel
theorem dX1_countWith_0 : decode cX1_countWith 0 = .ok (.iconst 0, 1) := by decide +kernel
theorem dX1_countWith_1 : decode cX1_countWith 1 = .ok (.istore 4, 2) := by decide +kernel
theorem dX1_countWith_3 : decode cX1_countWith 3 = .ok (.iconst 0, 1) := by decide +kernel
theorem dX1_countWith_4 : decode cX1_countWith 4 = .ok (.istore 5, 2) := by decide +kernel
theorem dX1_countWith_6 : decode cX1_countWith 6 = .ok (.iload 5, 2) := by decide +kernel
theorem dX1_countWith_8 : decode cX1_countWith 8 = .ok (.aload_n 1, 1) := by decide +kernel
theorem dX1_countWith_9 : decode cX1_countWith 9 = .ok (.getfield 38, 3) := by decide +kernel
theorem dX1_countWith_12 : decode cX1_countWith 12 = .ok (.if_icmp .ge 37, 3) := by decide +kernel
theorem dX1_countWith_15 : decode cX1_countWith 15 = .ok (.iload 5, 2) := by decide +kernel
theorem dX1_countWith_17 : decode cX1_countWith 17 = .ok (.iload_n 2, 1) := by decide +kernel
theorem dX1_countWith_18 : decode cX1_countWith 18 = .ok (.if_icmp .eq 25, 3) := by decide +kernel
theorem dX1_countWith_21 : decode cX1_countWith 21 = .ok (.aload_n 1, 1) := by decide +kernel
theorem dX1_countWith_22 : decode cX1_countWith 22 = .ok (.iload_n 2, 1) := by decide +kernel
theorem dX1_countWith_23 : decode cX1_countWith 23 = .ok (.iload_n 3, 1) := by decide +kernel
theorem dX1_countWith_24 : decode cX1_countWith 24 = .ok (.iload 5, 2) := by decide +kernel
theorem dX1_countWith_26 : decode cX1_countWith 26 = .ok (.aload_n 1, 1) := by decide +kernel
theorem dX1_countWith_27 : decode cX1_countWith 27 = .ok (.getfield 53, 3) := by decide +kernel
theorem dX1_countWith_30 : decode cX1_countWith 30 = .ok (.iload 5, 2) := by decide +kernel
theorem dX1_countWith_32 : decode cX1_countWith 32 = .ok (.iaload, 1) := by decide +kernel
theorem dX1_countWith_33 : decode cX1_countWith 33 = .ok (.invokevirtual 56, 3) := by decide +kernel
theorem dX1_countWith_36 : decode cX1_countWith 36 = .ok (.iconst (-1), 1) := by decide +kernel
theorem dX1_countWith_37 : decode cX1_countWith 37 = .ok (.if_icmp .eq 6, 3) := by decide +kernel
theorem dX1_countWith_40 : decode cX1_countWith 40 = .ok (.iinc 4 1, 3) := by decide +kernel
theorem dX1_countWith_43 : decode cX1_countWith 43 = .ok (.iinc 5 1, 3) := by decide +kernel
theorem dX1_countWith_46 : decode cX1_countWith 46 = .ok (.goto (-40), 3) := by decide +kernel
theorem dX1_countWith_49 : decode cX1_countWith 49 = .ok (.iload 4, 2) := by decide +kernel
theorem dX1_countWith_51 : decode cX1_countWith 51 = .ok (.ireturn, 1) := by decide +kernel
theorem dX1_isChange_0 : decode cX1_isChange 0 = .ok (.aload_n 1, 1) := by decide +kernel
theorem dX1_isChange_1 : decode cX1_isChange 1 = .ok (.iload_n 2, 1) := by decide +kernel
theorem dX1_isChange_2 : decode cX1_isChange 2 = .ok (.invokevirtual 60, 3) := by decide +kernel
theorem dX1_isChange_5 : decode cX1_isChange 5 = .ok (.ifCond .eq 17, 3) := by decide +kernel
theorem dX1_isChange_8 : decode cX1_isChange 8 = .ok (.aload_n 1, 1) := by decide +kernel
theorem dX1_isChange_9 : decode cX1_isChange 9 = .ok (.getfield 53, 3) := by decide +kernel
theorem dX1_isChange_12 : decode cX1_isChange 12 = .ok (.iload_n 2, 1) := by decide +kernel
theorem dX1_isChange_13 : decode cX1_isChange 13 = .ok (.iaload, 1) := by decide +kernel
theorem dX1_isChange_14 : decode cX1_isChange 14 = .ok (.iload_n 3, 1) := by decide +kernel
theorem dX1_isChange_15 : decode cX1_isChange 15 = .ok (.if_icmp .eq 7, 3) := by decide +kernel
theorem dX1_isChange_18 : decode cX1_isChange 18 = .ok (.iconst 1, 1) := by decide +kernel
theorem dX1_isChange_19 : decode cX1_isChange 19 = .ok (.goto 4, 3) := by decide +kernel
theorem dX1_isChange_22 : decode cX1_isChange 22 = .ok (.iconst 0, 1) := by decide +kernel
theorem dX1_isChange_23 : decode cX1_isChange 23 = .ok (.ireturn, 1) := by decide +kernel
theorem dX1_moreBy_0 : decode cX1_moreBy 0 = .ok (.aload_n 0, 1) := by decide +kernel
theorem dX1_moreBy_1 : decode cX1_moreBy 1 = .ok (.getfield 15, 3) := by decide +kernel
theorem dX1_moreBy_4 : decode cX1_moreBy 4 = .ok (.iload_n 2, 1) := by decide +kernel
theorem dX1_moreBy_5 : decode cX1_moreBy 5 = .ok (.iconst 4, 1) := by decide +kernel
theorem dX1_moreBy_6 : decode cX1_moreBy 6 = .ok (.imul, 1) := by decide +kernel
theorem dX1_moreBy_7 : decode cX1_moreBy 7 = .ok (.iload_n 3, 1) := by decide +kernel
theorem dX1_moreBy_8 : decode cX1_moreBy 8 = .ok (.iadd, 1) := by decide +kernel
theorem dX1_moreBy_9 : decode cX1_moreBy 9 = .ok (.iaload, 1) := by decide +kernel
theorem dX1_moreBy_10 : decode cX1_moreBy 10 = .ok (.aload_n 0, 1) := by decide +kernel
theorem dX1_moreBy_11 : decode cX1_moreBy 11 = .ok (.getfield 15, 3) := by decide +kernel
theorem dX1_moreBy_14 : decode cX1_moreBy 14 = .ok (.iload_n 2, 1) := by decide +kernel
theorem dX1_moreBy_15 : decode cX1_moreBy 15 = .ok (.iconst 4, 1) := by decide +kernel
theorem dX1_moreBy_16 : decode cX1_moreBy 16 = .ok (.imul, 1) := by decide +kernel
theorem dX1_moreBy_17 : decode cX1_moreBy 17 = .ok (.aload_n 1, 1) := by decide +kernel
theorem dX1_moreBy_18 : decode cX1_moreBy 18 = .ok (.getfield 53, 3) := by decide +kernel
theorem dX1_moreBy_21 : decode cX1_moreBy 21 = .ok (.iload_n 2, 1) := by decide +kernel
theorem dX1_moreBy_22 : decode cX1_moreBy 22 = .ok (.iaload, 1) := by decide +kernel
theorem dX1_moreBy_23 : decode cX1_moreBy 23 = .ok (.iadd, 1) := by decide +kernel
theorem dX1_moreBy_24 : decode cX1_moreBy 24 = .ok (.iaload, 1) := by decide +kernel
theorem dX1_moreBy_25 : decode cX1_moreBy 25 = .ok (.isub, 1) := by decide +kernel
theorem dX1_moreBy_26 : decode cX1_moreBy 26 = .ok (.ireturn, 1) := by decide +kernel
theorem dX1_tryRows_0 : decode cX1_tryRows 0 = .ok (.aload_n 0, 1) := by decide +kernel
theorem dX1_tryRows_1 : decode cX1_tryRows 1 = .ok (.getfield 24, 3) := by decide +kernel
theorem dX1_tryRows_4 : decode cX1_tryRows 4 = .ok (.aload_n 0, 1) := by decide +kernel
theorem dX1_tryRows_5 : decode cX1_tryRows 5 = .ok (.aload_n 1, 1) := by decide +kernel
theorem dX1_tryRows_6 : decode cX1_tryRows 6 = .ok (.iload_n 2, 1) := by decide +kernel
theorem dX1_tryRows_7 : decode cX1_tryRows 7 = .ok (.iload_n 3, 1) := by decide +kernel
theorem dX1_tryRows_8 : decode cX1_tryRows 8 = .ok (.invokevirtual 64, 3) := by decide +kernel
theorem dX1_tryRows_11 : decode cX1_tryRows 11 = .ok (.iadd, 1) := by decide +kernel
theorem dX1_tryRows_12 : decode cX1_tryRows 12 = .ok (.istore 5, 2) := by decide +kernel
theorem dX1_tryRows_14 : decode cX1_tryRows 14 = .ok (.iload 4, 2) := by decide +kernel
theorem dX1_tryRows_16 : decode cX1_tryRows 16 = .ok (.iconst 1, 1) := by decide +kernel
theorem dX1_tryRows_17 : decode cX1_tryRows 17 = .ok (.if_icmp .ne 18, 3) := by decide +kernel
theorem dX1_tryRows_20 : decode cX1_tryRows 20 = .ok (.aload_n 0, 1) := by decide +kernel
theorem dX1_tryRows_21 : decode cX1_tryRows 21 = .ok (.iload 5, 2) := by decide +kernel
theorem dX1_tryRows_23 : decode cX1_tryRows 23 = .ok (.iconst 1, 1) := by decide +kernel
theorem dX1_tryRows_24 : decode cX1_tryRows 24 = .ok (.bipush 10, 2) := by decide +kernel
theorem dX1_tryRows_26 : decode cX1_tryRows 26 = .ok (.iload_n 2, 1) := by decide +kernel
theorem dX1_tryRows_27 : decode cX1_tryRows 27 = .ok (.imul, 1) := by decide +kernel
theorem dX1_tryRows_28 : decode cX1_tryRows 28 = .ok (.iload_n 3, 1) := by decide +kernel
theorem dX1_tryRows_29 : decode cX1_tryRows 29 = .ok (.iadd, 1) := by decide +kernel
theorem dX1_tryRows_30 : decode cX1_tryRows 30 = .ok (.iconst 0, 1) := by decide +kernel
theorem dX1_tryRows_31 : decode cX1_tryRows 31 = .ok (.invokevirtual 67, 3) := by decide +kernel
theorem dX1_tryRows_34 : decode cX1_tryRows 34 = .ok (.return_, 1) := by decide +kernel
theorem dX1_tryRows_35 : decode cX1_tryRows 35 = .ok (.iload_n 2, 1) := by decide +kernel
theorem dX1_tryRows_36 : decode cX1_tryRows 36 = .ok (.iconst 1, 1) := by decide +kernel
theorem dX1_tryRows_37 : decode cX1_tryRows 37 = .ok (.iadd, 1) := by decide +kernel
theorem dX1_tryRows_38 : decode cX1_tryRows 38 = .ok (.istore 6, 2) := by decide +kernel
theorem dX1_tryRows_40 : decode cX1_tryRows 40 = .ok (.iload 6, 2) := by decide +kernel
theorem dX1_tryRows_42 : decode cX1_tryRows 42 = .ok (.aload_n 1, 1) := by decide +kernel
theorem dX1_tryRows_43 : decode cX1_tryRows 43 = .ok (.getfield 38, 3) := by decide +kernel
theorem dX1_tryRows_46 : decode cX1_tryRows 46 = .ok (.if_icmp .ge 83, 3) := by decide +kernel
theorem dX1_tryRows_49 : decode cX1_tryRows 49 = .ok (.iconst 0, 1) := by decide +kernel
theorem dX1_tryRows_50 : decode cX1_tryRows 50 = .ok (.istore 7, 2) := by decide +kernel
theorem dX1_tryRows_52 : decode cX1_tryRows 52 = .ok (.iload 7, 2) := by decide +kernel
theorem dX1_tryRows_54 : decode cX1_tryRows 54 = .ok (.iconst 4, 1) := by decide +kernel
theorem dX1_tryRows_55 : decode cX1_tryRows 55 = .ok (.if_icmp .ge 68, 3) := by decide +kernel
theorem dX1_tryRows_58 : decode cX1_tryRows 58 = .ok (.aload_n 0, 1) := by decide +kernel
theorem dX1_tryRows_59 : decode cX1_tryRows 59 = .ok (.aload_n 1, 1) := by decide +kernel
theorem dX1_tryRows_60 : decode cX1_tryRows 60 = .ok (.iload 6, 2) := by decide +kernel
theorem dX1_tryRows_62 : decode cX1_tryRows 62 = .ok (.iload 7, 2) := by decide +kernel
theorem dX1_tryRows_64 : decode cX1_tryRows 64 = .ok (.invokevirtual 41, 3) := by decide +kernel
theorem dX1_tryRows_67 : decode cX1_tryRows 67 = .ok (.ifCond .eq 50, 3) := by decide +kernel
theorem dX1_tryRows_70 : decode cX1_tryRows 70 = .ok (.aload_n 0, 1) := by decide +kernel
theorem dX1_tryRows_71 : decode cX1_tryRows 71 = .ok (.aload_n 1, 1) := by decide +kernel
theorem dX1_tryRows_72 : decode cX1_tryRows 72 = .ok (.iload 6, 2) := by decide +kernel
theorem dX1_tryRows_74 : decode cX1_tryRows 74 = .ok (.iload 7, 2) := by decide +kernel
theorem dX1_tryRows_76 : decode cX1_tryRows 76 = .ok (.invokevirtual 64, 3) := by decide +kernel
theorem dX1_tryRows_79 : decode cX1_tryRows 79 = .ok (.aload_n 0, 1) := by decide +kernel
theorem dX1_tryRows_80 : decode cX1_tryRows 80 = .ok (.aload_n 1, 1) := by decide +kernel
theorem dX1_tryRows_81 : decode cX1_tryRows 81 = .ok (.iload_n 2, 1) := by decide +kernel
theorem dX1_tryRows_82 : decode cX1_tryRows 82 = .ok (.iload_n 3, 1) := by decide +kernel
theorem dX1_tryRows_83 : decode cX1_tryRows 83 = .ok (.iload 6, 2) := by decide +kernel
theorem dX1_tryRows_85 : decode cX1_tryRows 85 = .ok (.iload 7, 2) := by decide +kernel
theorem dX1_tryRows_87 : decode cX1_tryRows 87 = .ok (.invokevirtual 71, 3) := by decide +kernel
theorem dX1_tryRows_90 : decode cX1_tryRows 90 = .ok (.iadd, 1) := by decide +kernel
theorem dX1_tryRows_91 : decode cX1_tryRows 91 = .ok (.istore 8, 2) := by decide +kernel
theorem dX1_tryRows_93 : decode cX1_tryRows 93 = .ok (.aload_n 0, 1) := by decide +kernel
theorem dX1_tryRows_94 : decode cX1_tryRows 94 = .ok (.iload 5, 2) := by decide +kernel
theorem dX1_tryRows_96 : decode cX1_tryRows 96 = .ok (.iload 8, 2) := by decide +kernel
theorem dX1_tryRows_98 : decode cX1_tryRows 98 = .ok (.iadd, 1) := by decide +kernel
theorem dX1_tryRows_99 : decode cX1_tryRows 99 = .ok (.iconst 2, 1) := by decide +kernel
theorem dX1_tryRows_100 : decode cX1_tryRows 100 = .ok (.bipush 10, 2) := by decide +kernel
theorem dX1_tryRows_102 : decode cX1_tryRows 102 = .ok (.iload_n 2, 1) := by decide +kernel
theorem dX1_tryRows_103 : decode cX1_tryRows 103 = .ok (.imul, 1) := by decide +kernel
theorem dX1_tryRows_104 : decode cX1_tryRows 104 = .ok (.iload_n 3, 1) := by decide +kernel
theorem dX1_tryRows_105 : decode cX1_tryRows 105 = .ok (.iadd, 1) := by decide +kernel
theorem dX1_tryRows_106 : decode cX1_tryRows 106 = .ok (.bipush 10, 2) := by decide +kernel
theorem dX1_tryRows_108 : decode cX1_tryRows 108 = .ok (.iload 6, 2) := by decide +kernel
theorem dX1_tryRows_110 : decode cX1_tryRows 110 = .ok (.imul, 1) := by decide +kernel
theorem dX1_tryRows_111 : decode cX1_tryRows 111 = .ok (.iload 7, 2) := by decide +kernel
theorem dX1_tryRows_113 : decode cX1_tryRows 113 = .ok (.iadd, 1) := by decide +kernel
theorem dX1_tryRows_114 : decode cX1_tryRows 114 = .ok (.invokevirtual 67, 3) := by decide +kernel
theorem dX1_tryRows_117 : decode cX1_tryRows 117 = .ok (.iinc 7 1, 3) := by decide +kernel
theorem dX1_tryRows_120 : decode cX1_tryRows 120 = .ok (.goto (-68), 3) := by decide +kernel
theorem dX1_tryRows_123 : decode cX1_tryRows 123 = .ok (.iinc 6 1, 3) := by decide +kernel
theorem dX1_tryRows_126 : decode cX1_tryRows 126 = .ok (.goto (-86), 3) := by decide +kernel
theorem dX1_tryRows_129 : decode cX1_tryRows 129 = .ok (.return_, 1) := by decide +kernel
theorem dX1_keepIfFewer_0 : decode cX1_keepIfFewer 0 = .ok (.iload_n 1, 1) := by decide +kernel
theorem dX1_keepIfFewer_1 : decode cX1_keepIfFewer 1 = .ok (.aload_n 0, 1) := by decide +kernel
theorem dX1_keepIfFewer_2 : decode cX1_keepIfFewer 2 = .ok (.getfield 28, 3) := by decide +kernel
theorem dX1_keepIfFewer_5 : decode cX1_keepIfFewer 5 = .ok (.if_icmp .ge 28, 3) := by decide +kernel
theorem dX1_keepIfFewer_8 : decode cX1_keepIfFewer 8 = .ok (.aload_n 0, 1) := by decide +kernel
theorem dX1_keepIfFewer_9 : decode cX1_keepIfFewer 9 = .ok (.iload_n 1, 1) := by decide +kernel
theorem dX1_keepIfFewer_10 : decode cX1_keepIfFewer 10 = .ok (.putfield 28, 3) := by decide +kernel
theorem dX1_keepIfFewer_13 : decode cX1_keepIfFewer 13 = .ok (.aload_n 0, 1) := by decide +kernel
theorem dX1_keepIfFewer_14 : decode cX1_keepIfFewer 14 = .ok (.iload_n 2, 1) := by decide +kernel
theorem dX1_keepIfFewer_15 : decode cX1_keepIfFewer 15 = .ok (.putfield 31, 3) := by decide +kernel
theorem dX1_keepIfFewer_18 : decode cX1_keepIfFewer 18 = .ok (.aload_n 0, 1) := by decide +kernel
theorem dX1_keepIfFewer_19 : decode cX1_keepIfFewer 19 = .ok (.getfield 9, 3) := by decide +kernel
theorem dX1_keepIfFewer_22 : decode cX1_keepIfFewer 22 = .ok (.iconst 0, 1) := by decide +kernel
theorem dX1_keepIfFewer_23 : decode cX1_keepIfFewer 23 = .ok (.iload_n 3, 1) := by decide +kernel
theorem dX1_keepIfFewer_24 : decode cX1_keepIfFewer 24 = .ok (.iastore, 1) := by decide +kernel
theorem dX1_keepIfFewer_25 : decode cX1_keepIfFewer 25 = .ok (.aload_n 0, 1) := by decide +kernel
theorem dX1_keepIfFewer_26 : decode cX1_keepIfFewer 26 = .ok (.getfield 9, 3) := by decide +kernel
theorem dX1_keepIfFewer_29 : decode cX1_keepIfFewer 29 = .ok (.iconst 1, 1) := by decide +kernel
theorem dX1_keepIfFewer_30 : decode cX1_keepIfFewer 30 = .ok (.iload 4, 2) := by decide +kernel
theorem dX1_keepIfFewer_32 : decode cX1_keepIfFewer 32 = .ok (.iastore, 1) := by decide +kernel
theorem dX1_keepIfFewer_33 : decode cX1_keepIfFewer 33 = .ok (.return_, 1) := by decide +kernel
theorem dX1_pairMore_0 : decode cX1_pairMore 0 = .ok (.iconst 0, 1) := by decide +kernel
theorem dX1_pairMore_1 : decode cX1_pairMore 1 = .ok (.istore 6, 2) := by decide +kernel
theorem dX1_pairMore_3 : decode cX1_pairMore 3 = .ok (.aload_n 1, 1) := by decide +kernel
theorem dX1_pairMore_4 : decode cX1_pairMore 4 = .ok (.iload_n 2, 1) := by decide +kernel
theorem dX1_pairMore_5 : decode cX1_pairMore 5 = .ok (.iload_n 3, 1) := by decide +kernel
theorem dX1_pairMore_6 : decode cX1_pairMore 6 = .ok (.iload 4, 2) := by decide +kernel
theorem dX1_pairMore_8 : decode cX1_pairMore 8 = .ok (.iload 5, 2) := by decide +kernel
theorem dX1_pairMore_10 : decode cX1_pairMore 10 = .ok (.invokevirtual 56, 3) := by decide +kernel
theorem dX1_pairMore_13 : decode cX1_pairMore 13 = .ok (.iconst (-1), 1) := by decide +kernel
theorem dX1_pairMore_14 : decode cX1_pairMore 14 = .ok (.if_icmp .eq 6, 3) := by decide +kernel
theorem dX1_pairMore_17 : decode cX1_pairMore 17 = .ok (.iinc 6 1, 3) := by decide +kernel
theorem dX1_pairMore_20 : decode cX1_pairMore 20 = .ok (.aload_n 1, 1) := by decide +kernel
theorem dX1_pairMore_21 : decode cX1_pairMore 21 = .ok (.iload_n 2, 1) := by decide +kernel
theorem dX1_pairMore_22 : decode cX1_pairMore 22 = .ok (.aload_n 1, 1) := by decide +kernel
theorem dX1_pairMore_23 : decode cX1_pairMore 23 = .ok (.getfield 53, 3) := by decide +kernel
theorem dX1_pairMore_26 : decode cX1_pairMore 26 = .ok (.iload_n 2, 1) := by decide +kernel
theorem dX1_pairMore_27 : decode cX1_pairMore 27 = .ok (.iaload, 1) := by decide +kernel
theorem dX1_pairMore_28 : decode cX1_pairMore 28 = .ok (.iload 4, 2) := by decide +kernel
theorem dX1_pairMore_30 : decode cX1_pairMore 30 = .ok (.aload_n 1, 1) := by decide +kernel
theorem dX1_pairMore_31 : decode cX1_pairMore 31 = .ok (.getfield 53, 3) := by decide +kernel
theorem dX1_pairMore_34 : decode cX1_pairMore 34 = .ok (.iload 4, 2) := by decide +kernel
theorem dX1_pairMore_36 : decode cX1_pairMore 36 = .ok (.iaload, 1) := by decide +kernel
theorem dX1_pairMore_37 : decode cX1_pairMore 37 = .ok (.invokevirtual 56, 3) := by decide +kernel
theorem dX1_pairMore_40 : decode cX1_pairMore 40 = .ok (.iconst (-1), 1) := by decide +kernel
theorem dX1_pairMore_41 : decode cX1_pairMore 41 = .ok (.if_icmp .eq 6, 3) := by decide +kernel
theorem dX1_pairMore_44 : decode cX1_pairMore 44 = .ok (.iinc 6 1, 3) := by decide +kernel
theorem dX1_pairMore_47 : decode cX1_pairMore 47 = .ok (.aload_n 1, 1) := by decide +kernel
theorem dX1_pairMore_48 : decode cX1_pairMore 48 = .ok (.iload_n 2, 1) := by decide +kernel
theorem dX1_pairMore_49 : decode cX1_pairMore 49 = .ok (.iload_n 3, 1) := by decide +kernel
theorem dX1_pairMore_50 : decode cX1_pairMore 50 = .ok (.iload 4, 2) := by decide +kernel
theorem dX1_pairMore_52 : decode cX1_pairMore 52 = .ok (.aload_n 1, 1) := by decide +kernel
theorem dX1_pairMore_53 : decode cX1_pairMore 53 = .ok (.getfield 53, 3) := by decide +kernel
theorem dX1_pairMore_56 : decode cX1_pairMore 56 = .ok (.iload 4, 2) := by decide +kernel
theorem dX1_pairMore_58 : decode cX1_pairMore 58 = .ok (.iaload, 1) := by decide +kernel
theorem dX1_pairMore_59 : decode cX1_pairMore 59 = .ok (.invokevirtual 56, 3) := by decide +kernel
theorem dX1_pairMore_62 : decode cX1_pairMore 62 = .ok (.iconst (-1), 1) := by decide +kernel
theorem dX1_pairMore_63 : decode cX1_pairMore 63 = .ok (.if_icmp .eq 6, 3) := by decide +kernel
theorem dX1_pairMore_66 : decode cX1_pairMore 66 = .ok (.iinc 6 (-1), 3) := by decide +kernel
theorem dX1_pairMore_69 : decode cX1_pairMore 69 = .ok (.aload_n 1, 1) := by decide +kernel
theorem dX1_pairMore_70 : decode cX1_pairMore 70 = .ok (.iload_n 2, 1) := by decide +kernel
theorem dX1_pairMore_71 : decode cX1_pairMore 71 = .ok (.aload_n 1, 1) := by decide +kernel
theorem dX1_pairMore_72 : decode cX1_pairMore 72 = .ok (.getfield 53, 3) := by decide +kernel
theorem dX1_pairMore_75 : decode cX1_pairMore 75 = .ok (.iload_n 2, 1) := by decide +kernel
theorem dX1_pairMore_76 : decode cX1_pairMore 76 = .ok (.iaload, 1) := by decide +kernel
theorem dX1_pairMore_77 : decode cX1_pairMore 77 = .ok (.iload 4, 2) := by decide +kernel
theorem dX1_pairMore_79 : decode cX1_pairMore 79 = .ok (.iload 5, 2) := by decide +kernel
theorem dX1_pairMore_81 : decode cX1_pairMore 81 = .ok (.invokevirtual 56, 3) := by decide +kernel
theorem dX1_pairMore_84 : decode cX1_pairMore 84 = .ok (.iconst (-1), 1) := by decide +kernel
theorem dX1_pairMore_85 : decode cX1_pairMore 85 = .ok (.if_icmp .eq 6, 3) := by decide +kernel
theorem dX1_pairMore_88 : decode cX1_pairMore 88 = .ok (.iinc 6 (-1), 3) := by decide +kernel
theorem dX1_pairMore_91 : decode cX1_pairMore 91 = .ok (.iload 6, 2) := by decide +kernel
theorem dX1_pairMore_93 : decode cX1_pairMore 93 = .ok (.ireturn, 1) := by decide +kernel
theorem dX2_init_0 : decode cX2_init 0 = .ok (.aload_n 0, 1) := by decide +kernel
theorem dX2_init_1 : decode cX2_init 1 = .ok (.invokespecial 3, 3) := by decide +kernel
theorem dX2_init_4 : decode cX2_init 4 = .ok (.aload_n 0, 1) := by decide +kernel
theorem dX2_init_5 : decode cX2_init 5 = .ok (.bipush 12, 2) := by decide +kernel
theorem dX2_init_7 : decode cX2_init 7 = .ok (.newarray .int, 2) := by decide +kernel
theorem dX2_init_9 : decode cX2_init 9 = .ok (.putfield 9, 3) := by decide +kernel
theorem dX2_init_12 : decode cX2_init 12 = .ok (.aload_n 0, 1) := by decide +kernel
theorem dX2_init_13 : decode cX2_init 13 = .ok (.bipush 66, 2) := by decide +kernel
theorem dX2_init_15 : decode cX2_init 15 = .ok (.newarray .int, 2) := by decide +kernel
theorem dX2_init_17 : decode cX2_init 17 = .ok (.putfield 15, 3) := by decide +kernel
theorem dX2_init_20 : decode cX2_init 20 = .ok (.aload_n 0, 1) := by decide +kernel
theorem dX2_init_21 : decode cX2_init 21 = .ok (.bipush 66, 2) := by decide +kernel
theorem dX2_init_23 : decode cX2_init 23 = .ok (.newarray .int, 2) := by decide +kernel
theorem dX2_init_25 : decode cX2_init 25 = .ok (.putfield 18, 3) := by decide +kernel
theorem dX2_init_28 : decode cX2_init 28 = .ok (.return_, 1) := by decide +kernel
theorem dX2_gather_0 : decode cX2_gather 0 = .ok (.aload_n 0, 1) := by decide +kernel
theorem dX2_gather_1 : decode cX2_gather 1 = .ok (.aload_n 1, 1) := by decide +kernel
theorem dX2_gather_2 : decode cX2_gather 2 = .ok (.invokevirtual 21, 3) := by decide +kernel
theorem dX2_gather_5 : decode cX2_gather 5 = .ok (.aload_n 0, 1) := by decide +kernel
theorem dX2_gather_6 : decode cX2_gather 6 = .ok (.aload_n 1, 1) := by decide +kernel
theorem dX2_gather_7 : decode cX2_gather 7 = .ok (.invokevirtual 25, 3) := by decide +kernel
theorem dX2_gather_10 : decode cX2_gather 10 = .ok (.return_, 1) := by decide +kernel
theorem dX2_gatherEnds_0 : decode cX2_gatherEnds 0 = .ok (.lconst 0, 1) := by decide +kernel
theorem dX2_gatherEnds_1 : decode cX2_gatherEnds 1 = .ok (.lstore_n 2, 1) := by decide +kernel
theorem dX2_gatherEnds_2 : decode cX2_gatherEnds 2 = .ok (.iconst 0, 1) := by decide +kernel
theorem dX2_gatherEnds_3 : decode cX2_gatherEnds 3 = .ok (.istore 4, 2) := by decide +kernel
theorem dX2_gatherEnds_5 : decode cX2_gatherEnds 5 = .ok (.iload 4, 2) := by decide +kernel
theorem dX2_gatherEnds_7 : decode cX2_gatherEnds 7 = .ok (.aload_n 1, 1) := by decide +kernel
theorem dX2_gatherEnds_8 : decode cX2_gatherEnds 8 = .ok (.getfield 28, 3) := by decide +kernel
theorem dX2_gatherEnds_11 : decode cX2_gatherEnds 11 = .ok (.if_icmp .ge 30, 3) := by decide +kernel
theorem dX2_gatherEnds_14 : decode cX2_gatherEnds 14 = .ok (.aload_n 1, 1) := by decide +kernel
theorem dX2_gatherEnds_15 : decode cX2_gatherEnds 15 = .ok (.iload 4, 2) := by decide +kernel
theorem dX2_gatherEnds_17 : decode cX2_gatherEnds 17 = .ok (.invokevirtual 34, 3) := by decide +kernel
theorem dX2_gatherEnds_20 : decode cX2_gatherEnds 20 = .ok (.ifCond .eq 15, 3) := by decide +kernel
theorem dX2_gatherEnds_23 : decode cX2_gatherEnds 23 = .ok (.lload_n 2, 1) := by decide +kernel
theorem dX2_gatherEnds_24 : decode cX2_gatherEnds 24 = .ok (.lconst 1, 1) := by decide +kernel
theorem dX2_gatherEnds_25 : decode cX2_gatherEnds 25 = .ok (.aload_n 1, 1) := by decide +kernel
theorem dX2_gatherEnds_26 : decode cX2_gatherEnds 26 = .ok (.getfield 38, 3) := by decide +kernel
theorem dX2_gatherEnds_29 : decode cX2_gatherEnds 29 = .ok (.iload 4, 2) := by decide +kernel
theorem dX2_gatherEnds_31 : decode cX2_gatherEnds 31 = .ok (.iaload, 1) := by decide +kernel
theorem dX2_gatherEnds_32 : decode cX2_gatherEnds 32 = .ok (.lshl, 1) := by decide +kernel
theorem dX2_gatherEnds_33 : decode cX2_gatherEnds 33 = .ok (.lor, 1) := by decide +kernel
theorem dX2_gatherEnds_34 : decode cX2_gatherEnds 34 = .ok (.lstore_n 2, 1) := by decide +kernel
theorem dX2_gatherEnds_35 : decode cX2_gatherEnds 35 = .ok (.iinc 4 1, 3) := by decide +kernel
theorem dX2_gatherEnds_38 : decode cX2_gatherEnds 38 = .ok (.goto (-33), 3) := by decide +kernel
theorem dX2_gatherEnds_41 : decode cX2_gatherEnds 41 = .ok (.aload_n 0, 1) := by decide +kernel
theorem dX2_gatherEnds_42 : decode cX2_gatherEnds 42 = .ok (.iconst 0, 1) := by decide +kernel
theorem dX2_gatherEnds_43 : decode cX2_gatherEnds 43 = .ok (.putfield 41, 3) := by decide +kernel
theorem dX2_gatherEnds_46 : decode cX2_gatherEnds 46 = .ok (.iconst 0, 1) := by decide +kernel
theorem dX2_gatherEnds_47 : decode cX2_gatherEnds 47 = .ok (.istore 4, 2) := by decide +kernel
theorem dX2_gatherEnds_49 : decode cX2_gatherEnds 49 = .ok (.iload 4, 2) := by decide +kernel
theorem dX2_gatherEnds_51 : decode cX2_gatherEnds 51 = .ok (.aload_n 1, 1) := by decide +kernel
theorem dX2_gatherEnds_52 : decode cX2_gatherEnds 52 = .ok (.getfield 28, 3) := by decide +kernel
theorem dX2_gatherEnds_55 : decode cX2_gatherEnds 55 = .ok (.if_icmp .ge 76, 3) := by decide +kernel
theorem dX2_gatherEnds_58 : decode cX2_gatherEnds 58 = .ok (.aload_n 1, 1) := by decide +kernel
theorem dX2_gatherEnds_59 : decode cX2_gatherEnds 59 = .ok (.getfield 38, 3) := by decide +kernel
theorem dX2_gatherEnds_62 : decode cX2_gatherEnds 62 = .ok (.iload 4, 2) := by decide +kernel
theorem dX2_gatherEnds_64 : decode cX2_gatherEnds 64 = .ok (.iaload, 1) := by decide +kernel
theorem dX2_gatherEnds_65 : decode cX2_gatherEnds 65 = .ok (.aload_n 1, 1) := by decide +kernel
theorem dX2_gatherEnds_66 : decode cX2_gatherEnds 66 = .ok (.getfield 44, 3) := by decide +kernel
theorem dX2_gatherEnds_69 : decode cX2_gatherEnds 69 = .ok (.iload 4, 2) := by decide +kernel
theorem dX2_gatherEnds_71 : decode cX2_gatherEnds 71 = .ok (.iaload, 1) := by decide +kernel
theorem dX2_gatherEnds_72 : decode cX2_gatherEnds 72 = .ok (.iadd, 1) := by decide +kernel
theorem dX2_gatherEnds_73 : decode cX2_gatherEnds 73 = .ok (.istore 5, 2) := by decide +kernel
theorem dX2_gatherEnds_75 : decode cX2_gatherEnds 75 = .ok (.aload_n 1, 1) := by decide +kernel
theorem dX2_gatherEnds_76 : decode cX2_gatherEnds 76 = .ok (.iload 4, 2) := by decide +kernel
theorem dX2_gatherEnds_78 : decode cX2_gatherEnds 78 = .ok (.invokevirtual 34, 3) := by decide +kernel
theorem dX2_gatherEnds_81 : decode cX2_gatherEnds 81 = .ok (.ifCond .eq 44, 3) := by decide +kernel
theorem dX2_gatherEnds_84 : decode cX2_gatherEnds 84 = .ok (.iload 5, 2) := by decide +kernel
theorem dX2_gatherEnds_86 : decode cX2_gatherEnds 86 = .ok (.bipush 64, 2) := by decide +kernel
theorem dX2_gatherEnds_88 : decode cX2_gatherEnds 88 = .ok (.if_icmp .ge 37, 3) := by decide +kernel
theorem dX2_gatherEnds_91 : decode cX2_gatherEnds 91 = .ok (.lload_n 2, 1) := by decide +kernel
theorem dX2_gatherEnds_92 : decode cX2_gatherEnds 92 = .ok (.iload 5, 2) := by decide +kernel
theorem dX2_gatherEnds_94 : decode cX2_gatherEnds 94 = .ok (.lshr, 1) := by decide +kernel
theorem dX2_gatherEnds_95 : decode cX2_gatherEnds 95 = .ok (.lconst 1, 1) := by decide +kernel
theorem dX2_gatherEnds_96 : decode cX2_gatherEnds 96 = .ok (.land, 1) := by decide +kernel
theorem dX2_gatherEnds_97 : decode cX2_gatherEnds 97 = .ok (.lconst 0, 1) := by decide +kernel
theorem dX2_gatherEnds_98 : decode cX2_gatherEnds 98 = .ok (.lcmp, 1) := by decide +kernel
theorem dX2_gatherEnds_99 : decode cX2_gatherEnds 99 = .ok (.ifCond .eq 26, 3) := by decide +kernel
theorem dX2_gatherEnds_102 : decode cX2_gatherEnds 102 = .ok (.aload_n 0, 1) := by decide +kernel
theorem dX2_gatherEnds_103 : decode cX2_gatherEnds 103 = .ok (.getfield 9, 3) := by decide +kernel
theorem dX2_gatherEnds_106 : decode cX2_gatherEnds 106 = .ok (.aload_n 0, 1) := by decide +kernel
theorem dX2_gatherEnds_107 : decode cX2_gatherEnds 107 = .ok (.getfield 41, 3) := by decide +kernel
theorem dX2_gatherEnds_110 : decode cX2_gatherEnds 110 = .ok (.iload 5, 2) := by decide +kernel
theorem dX2_gatherEnds_112 : decode cX2_gatherEnds 112 = .ok (.iconst 1, 1) := by decide +kernel
theorem dX2_gatherEnds_113 : decode cX2_gatherEnds 113 = .ok (.isub, 1) := by decide +kernel
theorem dX2_gatherEnds_114 : decode cX2_gatherEnds 114 = .ok (.iastore, 1) := by decide +kernel
theorem dX2_gatherEnds_115 : decode cX2_gatherEnds 115 = .ok (.aload_n 0, 1) := by decide +kernel
theorem dX2_gatherEnds_116 : decode cX2_gatherEnds 116 = .ok (.dup, 1) := by decide +kernel
theorem dX2_gatherEnds_117 : decode cX2_gatherEnds 117 = .ok (.getfield 41, 3) := by decide +kernel
theorem dX2_gatherEnds_120 : decode cX2_gatherEnds 120 = .ok (.iconst 1, 1) := by decide +kernel
theorem dX2_gatherEnds_121 : decode cX2_gatherEnds 121 = .ok (.iadd, 1) := by decide +kernel
theorem dX2_gatherEnds_122 : decode cX2_gatherEnds 122 = .ok (.putfield 41, 3) := by decide +kernel
theorem dX2_gatherEnds_125 : decode cX2_gatherEnds 125 = .ok (.iinc 4 1, 3) := by decide +kernel
theorem dX2_gatherEnds_128 : decode cX2_gatherEnds 128 = .ok (.goto (-79), 3) := by decide +kernel
theorem dX2_gatherEnds_131 : decode cX2_gatherEnds 131 = .ok (.return_, 1) := by decide +kernel
theorem dX2_gatherPairs_0 : decode cX2_gatherPairs 0 = .ok (.aload_n 0, 1) := by decide +kernel
theorem dX2_gatherPairs_1 : decode cX2_gatherPairs 1 = .ok (.iconst 0, 1) := by decide +kernel
theorem dX2_gatherPairs_2 : decode cX2_gatherPairs 2 = .ok (.putfield 47, 3) := by decide +kernel
theorem dX2_gatherPairs_5 : decode cX2_gatherPairs 5 = .ok (.iconst 0, 1) := by decide +kernel
theorem dX2_gatherPairs_6 : decode cX2_gatherPairs 6 = .ok (.istore_n 2, 1) := by decide +kernel
theorem dX2_gatherPairs_7 : decode cX2_gatherPairs 7 = .ok (.iload_n 2, 1) := by decide +kernel
theorem dX2_gatherPairs_8 : decode cX2_gatherPairs 8 = .ok (.aload_n 1, 1) := by decide +kernel
theorem dX2_gatherPairs_9 : decode cX2_gatherPairs 9 = .ok (.getfield 28, 3) := by decide +kernel
theorem dX2_gatherPairs_12 : decode cX2_gatherPairs 12 = .ok (.if_icmp .ge 138, 3) := by decide +kernel
theorem dX2_gatherPairs_15 : decode cX2_gatherPairs 15 = .ok (.iload_n 2, 1) := by decide +kernel
theorem dX2_gatherPairs_16 : decode cX2_gatherPairs 16 = .ok (.iconst 1, 1) := by decide +kernel
theorem dX2_gatherPairs_17 : decode cX2_gatherPairs 17 = .ok (.iadd, 1) := by decide +kernel
theorem dX2_gatherPairs_18 : decode cX2_gatherPairs 18 = .ok (.istore_n 3, 1) := by decide +kernel
theorem dX2_gatherPairs_19 : decode cX2_gatherPairs 19 = .ok (.iload_n 3, 1) := by decide +kernel
theorem dX2_gatherPairs_20 : decode cX2_gatherPairs 20 = .ok (.aload_n 1, 1) := by decide +kernel
theorem dX2_gatherPairs_21 : decode cX2_gatherPairs 21 = .ok (.getfield 28, 3) := by decide +kernel
theorem dX2_gatherPairs_24 : decode cX2_gatherPairs 24 = .ok (.if_icmp .ge 120, 3) := by decide +kernel
theorem dX2_gatherPairs_27 : decode cX2_gatherPairs 27 = .ok (.aload_n 1, 1) := by decide +kernel
theorem dX2_gatherPairs_28 : decode cX2_gatherPairs 28 = .ok (.getfield 50, 3) := by decide +kernel
theorem dX2_gatherPairs_31 : decode cX2_gatherPairs 31 = .ok (.iload_n 2, 1) := by decide +kernel
theorem dX2_gatherPairs_32 : decode cX2_gatherPairs 32 = .ok (.iaload, 1) := by decide +kernel
theorem dX2_gatherPairs_33 : decode cX2_gatherPairs 33 = .ok (.aload_n 1, 1) := by decide +kernel
theorem dX2_gatherPairs_34 : decode cX2_gatherPairs 34 = .ok (.getfield 50, 3) := by decide +kernel
theorem dX2_gatherPairs_37 : decode cX2_gatherPairs 37 = .ok (.iload_n 3, 1) := by decide +kernel
theorem dX2_gatherPairs_38 : decode cX2_gatherPairs 38 = .ok (.iaload, 1) := by decide +kernel
theorem dX2_gatherPairs_39 : decode cX2_gatherPairs 39 = .ok (.isub, 1) := by decide +kernel
theorem dX2_gatherPairs_40 : decode cX2_gatherPairs 40 = .ok (.invokestatic 53, 3) := by decide +kernel
theorem dX2_gatherPairs_43 : decode cX2_gatherPairs 43 = .ok (.istore 4, 2) := by decide +kernel
theorem dX2_gatherPairs_45 : decode cX2_gatherPairs 45 = .ok (.aload_n 1, 1) := by decide +kernel
theorem dX2_gatherPairs_46 : decode cX2_gatherPairs 46 = .ok (.iload_n 2, 1) := by decide +kernel
theorem dX2_gatherPairs_47 : decode cX2_gatherPairs 47 = .ok (.invokevirtual 34, 3) := by decide +kernel
theorem dX2_gatherPairs_50 : decode cX2_gatherPairs 50 = .ok (.ifCond .eq 88, 3) := by decide +kernel
theorem dX2_gatherPairs_53 : decode cX2_gatherPairs 53 = .ok (.aload_n 1, 1) := by decide +kernel
theorem dX2_gatherPairs_54 : decode cX2_gatherPairs 54 = .ok (.iload_n 3, 1) := by decide +kernel
theorem dX2_gatherPairs_55 : decode cX2_gatherPairs 55 = .ok (.invokevirtual 34, 3) := by decide +kernel
theorem dX2_gatherPairs_58 : decode cX2_gatherPairs 58 = .ok (.ifCond .eq 80, 3) := by decide +kernel
theorem dX2_gatherPairs_61 : decode cX2_gatherPairs 61 = .ok (.iload 4, 2) := by decide +kernel
theorem dX2_gatherPairs_63 : decode cX2_gatherPairs 63 = .ok (.iconst 1, 1) := by decide +kernel
theorem dX2_gatherPairs_64 : decode cX2_gatherPairs 64 = .ok (.iconst 2, 1) := by decide +kernel
theorem dX2_gatherPairs_65 : decode cX2_gatherPairs 65 = .ok (.invokestatic 59, 3) := by decide +kernel
theorem dX2_gatherPairs_68 : decode cX2_gatherPairs 68 = .ok (.ifCond .eq 70, 3) := by decide +kernel
theorem dX2_gatherPairs_71 : decode cX2_gatherPairs 71 = .ok (.aload_n 0, 1) := by decide +kernel
theorem dX2_gatherPairs_72 : decode cX2_gatherPairs 72 = .ok (.getfield 47, 3) := by decide +kernel
theorem dX2_gatherPairs_75 : decode cX2_gatherPairs 75 = .ok (.bipush 66, 2) := by decide +kernel
theorem dX2_gatherPairs_77 : decode cX2_gatherPairs 77 = .ok (.if_icmp .ge 61, 3) := by decide +kernel
theorem dX2_gatherPairs_80 : decode cX2_gatherPairs 80 = .ok (.aload_n 0, 1) := by decide +kernel
theorem dX2_gatherPairs_81 : decode cX2_gatherPairs 81 = .ok (.getfield 15, 3) := by decide +kernel
theorem dX2_gatherPairs_84 : decode cX2_gatherPairs 84 = .ok (.aload_n 0, 1) := by decide +kernel
theorem dX2_gatherPairs_85 : decode cX2_gatherPairs 85 = .ok (.getfield 47, 3) := by decide +kernel
theorem dX2_gatherPairs_88 : decode cX2_gatherPairs 88 = .ok (.aload_n 1, 1) := by decide +kernel
theorem dX2_gatherPairs_89 : decode cX2_gatherPairs 89 = .ok (.getfield 38, 3) := by decide +kernel
theorem dX2_gatherPairs_92 : decode cX2_gatherPairs 92 = .ok (.iload_n 2, 1) := by decide +kernel
theorem dX2_gatherPairs_93 : decode cX2_gatherPairs 93 = .ok (.iaload, 1) := by decide +kernel
theorem dX2_gatherPairs_94 : decode cX2_gatherPairs 94 = .ok (.aload_n 1, 1) := by decide +kernel
theorem dX2_gatherPairs_95 : decode cX2_gatherPairs 95 = .ok (.getfield 38, 3) := by decide +kernel
theorem dX2_gatherPairs_98 : decode cX2_gatherPairs 98 = .ok (.iload_n 3, 1) := by decide +kernel
theorem dX2_gatherPairs_99 : decode cX2_gatherPairs 99 = .ok (.iaload, 1) := by decide +kernel
theorem dX2_gatherPairs_100 : decode cX2_gatherPairs 100 = .ok (.invokestatic 63, 3) := by decide +kernel
theorem dX2_gatherPairs_103 : decode cX2_gatherPairs 103 = .ok (.iastore, 1) := by decide +kernel
theorem dX2_gatherPairs_104 : decode cX2_gatherPairs 104 = .ok (.aload_n 0, 1) := by decide +kernel
theorem dX2_gatherPairs_105 : decode cX2_gatherPairs 105 = .ok (.getfield 18, 3) := by decide +kernel
theorem dX2_gatherPairs_108 : decode cX2_gatherPairs 108 = .ok (.aload_n 0, 1) := by decide +kernel
theorem dX2_gatherPairs_109 : decode cX2_gatherPairs 109 = .ok (.getfield 47, 3) := by decide +kernel
theorem dX2_gatherPairs_112 : decode cX2_gatherPairs 112 = .ok (.aload_n 1, 1) := by decide +kernel
theorem dX2_gatherPairs_113 : decode cX2_gatherPairs 113 = .ok (.getfield 38, 3) := by decide +kernel
theorem dX2_gatherPairs_116 : decode cX2_gatherPairs 116 = .ok (.iload_n 2, 1) := by decide +kernel
theorem dX2_gatherPairs_117 : decode cX2_gatherPairs 117 = .ok (.iaload, 1) := by decide +kernel
theorem dX2_gatherPairs_118 : decode cX2_gatherPairs 118 = .ok (.aload_n 1, 1) := by decide +kernel
theorem dX2_gatherPairs_119 : decode cX2_gatherPairs 119 = .ok (.getfield 38, 3) := by decide +kernel
theorem dX2_gatherPairs_122 : decode cX2_gatherPairs 122 = .ok (.iload_n 3, 1) := by decide +kernel
theorem dX2_gatherPairs_123 : decode cX2_gatherPairs 123 = .ok (.iaload, 1) := by decide +kernel
theorem dX2_gatherPairs_124 : decode cX2_gatherPairs 124 = .ok (.invokestatic 67, 3) := by decide +kernel
theorem dX2_gatherPairs_127 : decode cX2_gatherPairs 127 = .ok (.iastore, 1) := by decide +kernel
theorem dX2_gatherPairs_128 : decode cX2_gatherPairs 128 = .ok (.aload_n 0, 1) := by decide +kernel
theorem dX2_gatherPairs_129 : decode cX2_gatherPairs 129 = .ok (.dup, 1) := by decide +kernel
theorem dX2_gatherPairs_130 : decode cX2_gatherPairs 130 = .ok (.getfield 47, 3) := by decide +kernel
theorem dX2_gatherPairs_133 : decode cX2_gatherPairs 133 = .ok (.iconst 1, 1) := by decide +kernel
theorem dX2_gatherPairs_134 : decode cX2_gatherPairs 134 = .ok (.iadd, 1) := by decide +kernel
theorem dX2_gatherPairs_135 : decode cX2_gatherPairs 135 = .ok (.putfield 47, 3) := by decide +kernel
theorem dX2_gatherPairs_138 : decode cX2_gatherPairs 138 = .ok (.iinc 3 1, 3) := by decide +kernel
theorem dX2_gatherPairs_141 : decode cX2_gatherPairs 141 = .ok (.goto (-122), 3) := by decide +kernel
theorem dX2_gatherPairs_144 : decode cX2_gatherPairs 144 = .ok (.iinc 2 1, 3) := by decide +kernel
theorem dX2_gatherPairs_147 : decode cX2_gatherPairs 147 = .ok (.goto (-140), 3) := by decide +kernel
theorem dX2_gatherPairs_150 : decode cX2_gatherPairs 150 = .ok (.return_, 1) := by decide +kernel
theorem dX2_joined_0 : decode cX2_joined 0 = .ok (.iconst 0, 1) := by decide +kernel
theorem dX2_joined_1 : decode cX2_joined 1 = .ok (.istore_n 3, 1) := by decide +kernel
theorem dX2_joined_2 : decode cX2_joined 2 = .ok (.iconst 0, 1) := by decide +kernel
theorem dX2_joined_3 : decode cX2_joined 3 = .ok (.istore 4, 2) := by decide +kernel
theorem dX2_joined_5 : decode cX2_joined 5 = .ok (.iload 4, 2) := by decide +kernel
theorem dX2_joined_7 : decode cX2_joined 7 = .ok (.aload_n 0, 1) := by decide +kernel
theorem dX2_joined_8 : decode cX2_joined 8 = .ok (.getfield 41, 3) := by decide +kernel
theorem dX2_joined_11 : decode cX2_joined 11 = .ok (.if_icmp .ge 36, 3) := by decide +kernel
theorem dX2_joined_14 : decode cX2_joined 14 = .ok (.aload_n 0, 1) := by decide +kernel
theorem dX2_joined_15 : decode cX2_joined 15 = .ok (.getfield 9, 3) := by decide +kernel
theorem dX2_joined_18 : decode cX2_joined 18 = .ok (.iload 4, 2) := by decide +kernel
theorem dX2_joined_20 : decode cX2_joined 20 = .ok (.iaload, 1) := by decide +kernel
theorem dX2_joined_21 : decode cX2_joined 21 = .ok (.iload_n 1, 1) := by decide +kernel
theorem dX2_joined_22 : decode cX2_joined 22 = .ok (.if_icmp .lt 19, 3) := by decide +kernel
theorem dX2_joined_25 : decode cX2_joined 25 = .ok (.aload_n 0, 1) := by decide +kernel
theorem dX2_joined_26 : decode cX2_joined 26 = .ok (.getfield 9, 3) := by decide +kernel
theorem dX2_joined_29 : decode cX2_joined 29 = .ok (.iload 4, 2) := by decide +kernel
theorem dX2_joined_31 : decode cX2_joined 31 = .ok (.iaload, 1) := by decide +kernel
theorem dX2_joined_32 : decode cX2_joined 32 = .ok (.iconst 1, 1) := by decide +kernel
theorem dX2_joined_33 : decode cX2_joined 33 = .ok (.iadd, 1) := by decide +kernel
theorem dX2_joined_34 : decode cX2_joined 34 = .ok (.iload_n 2, 1) := by decide +kernel
theorem dX2_joined_35 : decode cX2_joined 35 = .ok (.if_icmp .ge 6, 3) := by decide +kernel
theorem dX2_joined_38 : decode cX2_joined 38 = .ok (.iinc 3 1, 3) := by decide +kernel
theorem dX2_joined_41 : decode cX2_joined 41 = .ok (.iinc 4 1, 3) := by decide +kernel
theorem dX2_joined_44 : decode cX2_joined 44 = .ok (.goto (-39), 3) := by decide +kernel
theorem dX2_joined_47 : decode cX2_joined 47 = .ok (.iload_n 3, 1) := by decide +kernel
theorem dX2_joined_48 : decode cX2_joined 48 = .ok (.ireturn, 1) := by decide +kernel
theorem dX2_blurred_0 : decode cX2_blurred 0 = .ok (.iconst 0, 1) := by decide +kernel
theorem dX2_blurred_1 : decode cX2_blurred 1 = .ok (.istore_n 3, 1) := by decide +kernel
theorem dX2_blurred_2 : decode cX2_blurred 2 = .ok (.iconst 0, 1) := by decide +kernel
theorem dX2_blurred_3 : decode cX2_blurred 3 = .ok (.istore 4, 2) := by decide +kernel
theorem dX2_blurred_5 : decode cX2_blurred 5 = .ok (.iload 4, 2) := by decide +kernel
theorem dX2_blurred_7 : decode cX2_blurred 7 = .ok (.aload_n 0, 1) := by decide +kernel
theorem dX2_blurred_8 : decode cX2_blurred 8 = .ok (.getfield 47, 3) := by decide +kernel
theorem dX2_blurred_11 : decode cX2_blurred 11 = .ok (.if_icmp .ge 43, 3) := by decide +kernel
theorem dX2_blurred_14 : decode cX2_blurred 14 = .ok (.aload_n 0, 1) := by decide +kernel
theorem dX2_blurred_15 : decode cX2_blurred 15 = .ok (.getfield 15, 3) := by decide +kernel
theorem dX2_blurred_18 : decode cX2_blurred 18 = .ok (.iload 4, 2) := by decide +kernel
theorem dX2_blurred_20 : decode cX2_blurred 20 = .ok (.iaload, 1) := by decide +kernel
theorem dX2_blurred_21 : decode cX2_blurred 21 = .ok (.iload_n 1, 1) := by decide +kernel
theorem dX2_blurred_22 : decode cX2_blurred 22 = .ok (.if_icmp .lt 26, 3) := by decide +kernel
theorem dX2_blurred_25 : decode cX2_blurred 25 = .ok (.aload_n 0, 1) := by decide +kernel
theorem dX2_blurred_26 : decode cX2_blurred 26 = .ok (.getfield 18, 3) := by decide +kernel
theorem dX2_blurred_29 : decode cX2_blurred 29 = .ok (.iload 4, 2) := by decide +kernel
theorem dX2_blurred_31 : decode cX2_blurred 31 = .ok (.iaload, 1) := by decide +kernel
theorem dX2_blurred_32 : decode cX2_blurred 32 = .ok (.iload_n 2, 1) := by decide +kernel
theorem dX2_blurred_33 : decode cX2_blurred 33 = .ok (.if_icmp .ge 15, 3) := by decide +kernel
theorem dX2_blurred_36 : decode cX2_blurred 36 = .ok (.iload_n 3, 1) := by decide +kernel
theorem dX2_blurred_37 : decode cX2_blurred 37 = .ok (.iload_n 2, 1) := by decide +kernel
theorem dX2_blurred_38 : decode cX2_blurred 38 = .ok (.aload_n 0, 1) := by decide +kernel
theorem dX2_blurred_39 : decode cX2_blurred 39 = .ok (.getfield 18, 3) := by decide +kernel
theorem dX2_blurred_42 : decode cX2_blurred 42 = .ok (.iload 4, 2) := by decide +kernel
theorem dX2_blurred_44 : decode cX2_blurred 44 = .ok (.iaload, 1) := by decide +kernel
theorem dX2_blurred_45 : decode cX2_blurred 45 = .ok (.isub, 1) := by decide +kernel
theorem dX2_blurred_46 : decode cX2_blurred 46 = .ok (.iadd, 1) := by decide +kernel
theorem dX2_blurred_47 : decode cX2_blurred 47 = .ok (.istore_n 3, 1) := by decide +kernel
theorem dX2_blurred_48 : decode cX2_blurred 48 = .ok (.iinc 4 1, 3) := by decide +kernel
theorem dX2_blurred_51 : decode cX2_blurred 51 = .ok (.goto (-46), 3) := by decide +kernel
theorem dX2_blurred_54 : decode cX2_blurred 54 = .ok (.iload_n 3, 1) := by decide +kernel
theorem dX2_blurred_55 : decode cX2_blurred 55 = .ok (.ireturn, 1) := by decide +kernel
theorem dX2_findBest_0 : decode cX2_findBest 0 = .ok (.aload_n 0, 1) := by decide +kernel
theorem dX2_findBest_1 : decode cX2_findBest 1 = .ok (.iconst 0, 1) := by decide +kernel
theorem dX2_findBest_2 : decode cX2_findBest 2 = .ok (.putfield 70, 3) := by decide +kernel
theorem dX2_findBest_5 : decode cX2_findBest 5 = .ok (.aload_n 0, 1) := by decide +kernel
theorem dX2_findBest_6 : decode cX2_findBest 6 = .ok (.iconst 0, 1) := by decide +kernel
theorem dX2_findBest_7 : decode cX2_findBest 7 = .ok (.putfield 73, 3) := by decide +kernel
theorem dX2_findBest_10 : decode cX2_findBest 10 = .ok (.aload_n 0, 1) := by decide +kernel
theorem dX2_findBest_11 : decode cX2_findBest 11 = .ok (.iconst 0, 1) := by decide +kernel
theorem dX2_findBest_12 : decode cX2_findBest 12 = .ok (.putfield 76, 3) := by decide +kernel
theorem dX2_findBest_15 : decode cX2_findBest 15 = .ok (.iconst 1, 1) := by decide +kernel
theorem dX2_findBest_16 : decode cX2_findBest 16 = .ok (.istore_n 1, 1) := by decide +kernel
theorem dX2_findBest_17 : decode cX2_findBest 17 = .ok (.iload_n 1, 1) := by decide +kernel
theorem dX2_findBest_18 : decode cX2_findBest 18 = .ok (.bipush 16, 2) := by decide +kernel
theorem dX2_findBest_20 : decode cX2_findBest 20 = .ok (.if_icmp .gt 68, 3) := by decide +kernel
theorem dX2_findBest_23 : decode cX2_findBest 23 = .ok (.iconst 0, 1) := by decide +kernel
theorem dX2_findBest_24 : decode cX2_findBest 24 = .ok (.istore_n 2, 1) := by decide +kernel
theorem dX2_findBest_25 : decode cX2_findBest 25 = .ok (.iload_n 2, 1) := by decide +kernel
theorem dX2_findBest_26 : decode cX2_findBest 26 = .ok (.iload_n 1, 1) := by decide +kernel
theorem dX2_findBest_27 : decode cX2_findBest 27 = .ok (.iadd, 1) := by decide +kernel
theorem dX2_findBest_28 : decode cX2_findBest 28 = .ok (.bipush 64, 2) := by decide +kernel
theorem dX2_findBest_30 : decode cX2_findBest 30 = .ok (.if_icmp .gt 52, 3) := by decide +kernel
theorem dX2_findBest_33 : decode cX2_findBest 33 = .ok (.aload_n 0, 1) := by decide +kernel
theorem dX2_findBest_34 : decode cX2_findBest 34 = .ok (.iload_n 2, 1) := by decide +kernel
theorem dX2_findBest_35 : decode cX2_findBest 35 = .ok (.iload_n 2, 1) := by decide +kernel
theorem dX2_findBest_36 : decode cX2_findBest 36 = .ok (.iload_n 1, 1) := by decide +kernel
theorem dX2_findBest_37 : decode cX2_findBest 37 = .ok (.iadd, 1) := by decide +kernel
theorem dX2_findBest_38 : decode cX2_findBest 38 = .ok (.invokevirtual 79, 3) := by decide +kernel
theorem dX2_findBest_41 : decode cX2_findBest 41 = .ok (.aload_n 0, 1) := by decide +kernel
theorem dX2_findBest_42 : decode cX2_findBest 42 = .ok (.iload_n 2, 1) := by decide +kernel
theorem dX2_findBest_43 : decode cX2_findBest 43 = .ok (.iload_n 2, 1) := by decide +kernel
theorem dX2_findBest_44 : decode cX2_findBest 44 = .ok (.iload_n 1, 1) := by decide +kernel
theorem dX2_findBest_45 : decode cX2_findBest 45 = .ok (.iadd, 1) := by decide +kernel
theorem dX2_findBest_46 : decode cX2_findBest 46 = .ok (.invokevirtual 82, 3) := by decide +kernel
theorem dX2_findBest_49 : decode cX2_findBest 49 = .ok (.isub, 1) := by decide +kernel
theorem dX2_findBest_50 : decode cX2_findBest 50 = .ok (.istore_n 3, 1) := by decide +kernel
theorem dX2_findBest_51 : decode cX2_findBest 51 = .ok (.iload_n 3, 1) := by decide +kernel
theorem dX2_findBest_52 : decode cX2_findBest 52 = .ok (.aload_n 0, 1) := by decide +kernel
theorem dX2_findBest_53 : decode cX2_findBest 53 = .ok (.getfield 70, 3) := by decide +kernel
theorem dX2_findBest_56 : decode cX2_findBest 56 = .ok (.if_icmp .le 20, 3) := by decide +kernel
theorem dX2_findBest_59 : decode cX2_findBest 59 = .ok (.aload_n 0, 1) := by decide +kernel
theorem dX2_findBest_60 : decode cX2_findBest 60 = .ok (.iload_n 3, 1) := by decide +kernel
theorem dX2_findBest_61 : decode cX2_findBest 61 = .ok (.putfield 70, 3) := by decide +kernel
theorem dX2_findBest_64 : decode cX2_findBest 64 = .ok (.aload_n 0, 1) := by decide +kernel
theorem dX2_findBest_65 : decode cX2_findBest 65 = .ok (.iload_n 2, 1) := by decide +kernel
theorem dX2_findBest_66 : decode cX2_findBest 66 = .ok (.putfield 73, 3) := by decide +kernel
theorem dX2_findBest_69 : decode cX2_findBest 69 = .ok (.aload_n 0, 1) := by decide +kernel
theorem dX2_findBest_70 : decode cX2_findBest 70 = .ok (.iload_n 2, 1) := by decide +kernel
theorem dX2_findBest_71 : decode cX2_findBest 71 = .ok (.iload_n 1, 1) := by decide +kernel
theorem dX2_findBest_72 : decode cX2_findBest 72 = .ok (.iadd, 1) := by decide +kernel
theorem dX2_findBest_73 : decode cX2_findBest 73 = .ok (.putfield 76, 3) := by decide +kernel
theorem dX2_findBest_76 : decode cX2_findBest 76 = .ok (.iinc 2 1, 3) := by decide +kernel
theorem dX2_findBest_79 : decode cX2_findBest 79 = .ok (.goto (-54), 3) := by decide +kernel
theorem dX2_findBest_82 : decode cX2_findBest 82 = .ok (.iinc 1 1, 3) := by decide +kernel
theorem dX2_findBest_85 : decode cX2_findBest 85 = .ok (.goto (-68), 3) := by decide +kernel
theorem dX2_findBest_88 : decode cX2_findBest 88 = .ok (.return_, 1) := by decide +kernel
theorem dX3_init_0 : decode cX3_init 0 = .ok (.aload_n 0, 1) := by decide +kernel
theorem dX3_init_1 : decode cX3_init 1 = .ok (.invokespecial 3, 3) := by decide +kernel
theorem dX3_init_4 : decode cX3_init 4 = .ok (.aload_n 0, 1) := by decide +kernel
theorem dX3_init_5 : decode cX3_init 5 = .ok (.iconst 2, 1) := by decide +kernel
theorem dX3_init_6 : decode cX3_init 6 = .ok (.putfield 9, 3) := by decide +kernel
theorem dX3_init_9 : decode cX3_init 9 = .ok (.aload_n 0, 1) := by decide +kernel
theorem dX3_init_10 : decode cX3_init 10 = .ok (.bipush 12, 2) := by decide +kernel
theorem dX3_init_12 : decode cX3_init 12 = .ok (.newarray .int, 2) := by decide +kernel
theorem dX3_init_14 : decode cX3_init 14 = .ok (.putfield 15, 3) := by decide +kernel
theorem dX3_init_17 : decode cX3_init 17 = .ok (.aload_n 0, 1) := by decide +kernel
theorem dX3_init_18 : decode cX3_init 18 = .ok (.bipush 12, 2) := by decide +kernel
theorem dX3_init_20 : decode cX3_init 20 = .ok (.newarray .int, 2) := by decide +kernel
theorem dX3_init_22 : decode cX3_init 22 = .ok (.putfield 19, 3) := by decide +kernel
theorem dX3_init_25 : decode cX3_init 25 = .ok (.aload_n 0, 1) := by decide +kernel
theorem dX3_init_26 : decode cX3_init 26 = .ok (.bipush 12, 2) := by decide +kernel
theorem dX3_init_28 : decode cX3_init 28 = .ok (.newarray .int, 2) := by decide +kernel
theorem dX3_init_30 : decode cX3_init 30 = .ok (.putfield 22, 3) := by decide +kernel
theorem dX3_init_33 : decode cX3_init 33 = .ok (.aload_n 0, 1) := by decide +kernel
theorem dX3_init_34 : decode cX3_init 34 = .ok (.bipush 12, 2) := by decide +kernel
theorem dX3_init_36 : decode cX3_init 36 = .ok (.newarray .int, 2) := by decide +kernel
theorem dX3_init_38 : decode cX3_init 38 = .ok (.putfield 25, 3) := by decide +kernel
theorem dX3_init_41 : decode cX3_init 41 = .ok (.aload_n 0, 1) := by decide +kernel
theorem dX3_init_42 : decode cX3_init 42 = .ok (.bipush 12, 2) := by decide +kernel
theorem dX3_init_44 : decode cX3_init 44 = .ok (.newarray .int, 2) := by decide +kernel
theorem dX3_init_46 : decode cX3_init 46 = .ok (.putfield 28, 3) := by decide +kernel
theorem dX3_init_49 : decode cX3_init 49 = .ok (.aload_n 0, 1) := by decide +kernel
theorem dX3_init_50 : decode cX3_init 50 = .ok (.bipush 12, 2) := by decide +kernel
theorem dX3_init_52 : decode cX3_init 52 = .ok (.newarray .int, 2) := by decide +kernel
theorem dX3_init_54 : decode cX3_init 54 = .ok (.putfield 31, 3) := by decide +kernel
theorem dX3_init_57 : decode cX3_init 57 = .ok (.aload_n 0, 1) := by decide +kernel
theorem dX3_init_58 : decode cX3_init 58 = .ok (.bipush 12, 2) := by decide +kernel
theorem dX3_init_60 : decode cX3_init 60 = .ok (.newarray .int, 2) := by decide +kernel
theorem dX3_init_62 : decode cX3_init 62 = .ok (.putfield 34, 3) := by decide +kernel
theorem dX3_init_65 : decode cX3_init 65 = .ok (.aload_n 0, 1) := by decide +kernel
theorem dX3_init_66 : decode cX3_init 66 = .ok (.iconst 4, 1) := by decide +kernel
theorem dX3_init_67 : decode cX3_init 67 = .ok (.newarray .int, 2) := by decide +kernel
theorem dX3_init_69 : decode cX3_init 69 = .ok (.putfield 37, 3) := by decide +kernel
theorem dX3_init_72 : decode cX3_init 72 = .ok (.aload_n 0, 1) := by decide +kernel
theorem dX3_init_73 : decode cX3_init 73 = .ok (.iconst 4, 1) := by decide +kernel
theorem dX3_init_74 : decode cX3_init 74 = .ok (.newarray .int, 2) := by decide +kernel
theorem dX3_init_76 : decode cX3_init 76 = .ok (.putfield 40, 3) := by decide +kernel
theorem dX3_init_79 : decode cX3_init 79 = .ok (.aload_n 0, 1) := by decide +kernel
theorem dX3_init_80 : decode cX3_init 80 = .ok (.iconst 4, 1) := by decide +kernel
theorem dX3_init_81 : decode cX3_init 81 = .ok (.newarray .int, 2) := by decide +kernel
theorem dX3_init_83 : decode cX3_init 83 = .ok (.putfield 43, 3) := by decide +kernel
theorem dX3_init_86 : decode cX3_init 86 = .ok (.aload_n 0, 1) := by decide +kernel
theorem dX3_init_87 : decode cX3_init 87 = .ok (.bipush 10, 2) := by decide +kernel
theorem dX3_init_89 : decode cX3_init 89 = .ok (.newarray .int, 2) := by decide +kernel
theorem dX3_init_91 : decode cX3_init 91 = .ok (.putfield 46, 3) := by decide +kernel
theorem dX3_init_94 : decode cX3_init 94 = .ok (.aload_n 0, 1) := by decide +kernel
theorem dX3_init_95 : decode cX3_init 95 = .ok (.bipush 10, 2) := by decide +kernel
theorem dX3_init_97 : decode cX3_init 97 = .ok (.newarray .int, 2) := by decide +kernel
theorem dX3_init_99 : decode cX3_init 99 = .ok (.putfield 49, 3) := by decide +kernel
theorem dX3_init_102 : decode cX3_init 102 = .ok (.aload_n 0, 1) := by decide +kernel
theorem dX3_init_103 : decode cX3_init 103 = .ok (.bipush 12, 2) := by decide +kernel
theorem dX3_init_105 : decode cX3_init 105 = .ok (.newarray .int, 2) := by decide +kernel
theorem dX3_init_107 : decode cX3_init 107 = .ok (.putfield 52, 3) := by decide +kernel
theorem dX3_init_110 : decode cX3_init 110 = .ok (.aload_n 0, 1) := by decide +kernel
theorem dX3_init_111 : decode cX3_init 111 = .ok (.getfield 40, 3) := by decide +kernel
theorem dX3_init_114 : decode cX3_init 114 = .ok (.bipush 9, 2) := by decide +kernel
theorem dX3_init_116 : decode cX3_init 116 = .ok (.invokestatic 55, 3) := by decide +kernel
theorem dX3_init_119 : decode cX3_init 119 = .ok (.aload_n 0, 1) := by decide +kernel
theorem dX3_init_120 : decode cX3_init 120 = .ok (.getfield 43, 3) := by decide +kernel
theorem dX3_init_123 : decode cX3_init 123 = .ok (.iconst 4, 1) := by decide +kernel
theorem dX3_init_124 : decode cX3_init 124 = .ok (.invokestatic 55, 3) := by decide +kernel
theorem dX3_init_127 : decode cX3_init 127 = .ok (.return_, 1) := by decide +kernel
theorem dX3_begin_0 : decode cX3_begin 0 = .ok (.aload_n 0, 1) := by decide +kernel
theorem dX3_begin_1 : decode cX3_begin 1 = .ok (.iload_n 1, 1) := by decide +kernel
theorem dX3_begin_2 : decode cX3_begin 2 = .ok (.putfield 9, 3) := by decide +kernel
theorem dX3_begin_5 : decode cX3_begin 5 = .ok (.aload_n 0, 1) := by decide +kernel
theorem dX3_begin_6 : decode cX3_begin 6 = .ok (.iconst 0, 1) := by decide +kernel
theorem dX3_begin_7 : decode cX3_begin 7 = .ok (.putfield 61, 3) := by decide +kernel
theorem dX3_begin_10 : decode cX3_begin 10 = .ok (.aload_n 0, 1) := by decide +kernel
theorem dX3_begin_11 : decode cX3_begin 11 = .ok (.getfield 37, 3) := by decide +kernel
theorem dX3_begin_14 : decode cX3_begin 14 = .ok (.iconst 0, 1) := by decide +kernel
theorem dX3_begin_15 : decode cX3_begin 15 = .ok (.invokestatic 55, 3) := by decide +kernel
theorem dX3_begin_18 : decode cX3_begin 18 = .ok (.aload_n 0, 1) := by decide +kernel
theorem dX3_begin_19 : decode cX3_begin 19 = .ok (.getfield 40, 3) := by decide +kernel
theorem dX3_begin_22 : decode cX3_begin 22 = .ok (.bipush 9, 2) := by decide +kernel
theorem dX3_begin_24 : decode cX3_begin 24 = .ok (.invokestatic 55, 3) := by decide +kernel
theorem dX3_begin_27 : decode cX3_begin 27 = .ok (.aload_n 0, 1) := by decide +kernel
theorem dX3_begin_28 : decode cX3_begin 28 = .ok (.getfield 43, 3) := by decide +kernel
theorem dX3_begin_31 : decode cX3_begin 31 = .ok (.iconst 4, 1) := by decide +kernel
theorem dX3_begin_32 : decode cX3_begin 32 = .ok (.invokestatic 55, 3) := by decide +kernel
theorem dX3_begin_35 : decode cX3_begin 35 = .ok (.aload_n 0, 1) := by decide +kernel
theorem dX3_begin_36 : decode cX3_begin 36 = .ok (.iconst 0, 1) := by decide +kernel
theorem dX3_begin_37 : decode cX3_begin 37 = .ok (.putfield 64, 3) := by decide +kernel
theorem dX3_begin_40 : decode cX3_begin 40 = .ok (.aload_n 0, 1) := by decide +kernel
theorem dX3_begin_41 : decode cX3_begin 41 = .ok (.iconst 0, 1) := by decide +kernel
theorem dX3_begin_42 : decode cX3_begin 42 = .ok (.putfield 67, 3) := by decide +kernel
theorem dX3_begin_45 : decode cX3_begin 45 = .ok (.aload_n 0, 1) := by decide +kernel
theorem dX3_begin_46 : decode cX3_begin 46 = .ok (.iconst 0, 1) := by decide +kernel
theorem dX3_begin_47 : decode cX3_begin 47 = .ok (.putfield 70, 3) := by decide +kernel
theorem dX3_begin_50 : decode cX3_begin 50 = .ok (.return_, 1) := by decide +kernel
theorem dX3_copyFrom_0 : decode cX3_copyFrom 0 = .ok (.aload_n 0, 1) := by decide +kernel
theorem dX3_copyFrom_1 : decode cX3_copyFrom 1 = .ok (.aload_n 1, 1) := by decide +kernel
theorem dX3_copyFrom_2 : decode cX3_copyFrom 2 = .ok (.getfield 9, 3) := by decide +kernel
theorem dX3_copyFrom_5 : decode cX3_copyFrom 5 = .ok (.putfield 9, 3) := by decide +kernel
theorem dX3_copyFrom_8 : decode cX3_copyFrom 8 = .ok (.aload_n 0, 1) := by decide +kernel
theorem dX3_copyFrom_9 : decode cX3_copyFrom 9 = .ok (.aload_n 1, 1) := by decide +kernel
theorem dX3_copyFrom_10 : decode cX3_copyFrom 10 = .ok (.getfield 61, 3) := by decide +kernel
theorem dX3_copyFrom_13 : decode cX3_copyFrom 13 = .ok (.putfield 61, 3) := by decide +kernel
theorem dX3_copyFrom_16 : decode cX3_copyFrom 16 = .ok (.aload_n 1, 1) := by decide +kernel
theorem dX3_copyFrom_17 : decode cX3_copyFrom 17 = .ok (.getfield 15, 3) := by decide +kernel
theorem dX3_copyFrom_20 : decode cX3_copyFrom 20 = .ok (.iconst 0, 1) := by decide +kernel
theorem dX3_copyFrom_21 : decode cX3_copyFrom 21 = .ok (.aload_n 0, 1) := by decide +kernel
theorem dX3_copyFrom_22 : decode cX3_copyFrom 22 = .ok (.getfield 15, 3) := by decide +kernel
theorem dX3_copyFrom_25 : decode cX3_copyFrom 25 = .ok (.iconst 0, 1) := by decide +kernel
theorem dX3_copyFrom_26 : decode cX3_copyFrom 26 = .ok (.bipush 12, 2) := by decide +kernel
theorem dX3_copyFrom_28 : decode cX3_copyFrom 28 = .ok (.invokestatic 73, 3) := by decide +kernel
theorem dX3_copyFrom_31 : decode cX3_copyFrom 31 = .ok (.aload_n 1, 1) := by decide +kernel
theorem dX3_copyFrom_32 : decode cX3_copyFrom 32 = .ok (.getfield 19, 3) := by decide +kernel
theorem dX3_copyFrom_35 : decode cX3_copyFrom 35 = .ok (.iconst 0, 1) := by decide +kernel
theorem dX3_copyFrom_36 : decode cX3_copyFrom 36 = .ok (.aload_n 0, 1) := by decide +kernel
theorem dX3_copyFrom_37 : decode cX3_copyFrom 37 = .ok (.getfield 19, 3) := by decide +kernel
theorem dX3_copyFrom_40 : decode cX3_copyFrom 40 = .ok (.iconst 0, 1) := by decide +kernel
theorem dX3_copyFrom_41 : decode cX3_copyFrom 41 = .ok (.bipush 12, 2) := by decide +kernel
theorem dX3_copyFrom_43 : decode cX3_copyFrom 43 = .ok (.invokestatic 73, 3) := by decide +kernel
theorem dX3_copyFrom_46 : decode cX3_copyFrom 46 = .ok (.aload_n 1, 1) := by decide +kernel
theorem dX3_copyFrom_47 : decode cX3_copyFrom 47 = .ok (.getfield 22, 3) := by decide +kernel
theorem dX3_copyFrom_50 : decode cX3_copyFrom 50 = .ok (.iconst 0, 1) := by decide +kernel
theorem dX3_copyFrom_51 : decode cX3_copyFrom 51 = .ok (.aload_n 0, 1) := by decide +kernel
theorem dX3_copyFrom_52 : decode cX3_copyFrom 52 = .ok (.getfield 22, 3) := by decide +kernel
theorem dX3_copyFrom_55 : decode cX3_copyFrom 55 = .ok (.iconst 0, 1) := by decide +kernel
theorem dX3_copyFrom_56 : decode cX3_copyFrom 56 = .ok (.bipush 12, 2) := by decide +kernel
theorem dX3_copyFrom_58 : decode cX3_copyFrom 58 = .ok (.invokestatic 73, 3) := by decide +kernel
theorem dX3_copyFrom_61 : decode cX3_copyFrom 61 = .ok (.aload_n 1, 1) := by decide +kernel
theorem dX3_copyFrom_62 : decode cX3_copyFrom 62 = .ok (.getfield 25, 3) := by decide +kernel
theorem dX3_copyFrom_65 : decode cX3_copyFrom 65 = .ok (.iconst 0, 1) := by decide +kernel
theorem dX3_copyFrom_66 : decode cX3_copyFrom 66 = .ok (.aload_n 0, 1) := by decide +kernel
theorem dX3_copyFrom_67 : decode cX3_copyFrom 67 = .ok (.getfield 25, 3) := by decide +kernel
theorem dX3_copyFrom_70 : decode cX3_copyFrom 70 = .ok (.iconst 0, 1) := by decide +kernel
theorem dX3_copyFrom_71 : decode cX3_copyFrom 71 = .ok (.bipush 12, 2) := by decide +kernel
theorem dX3_copyFrom_73 : decode cX3_copyFrom 73 = .ok (.invokestatic 73, 3) := by decide +kernel
theorem dX3_copyFrom_76 : decode cX3_copyFrom 76 = .ok (.aload_n 1, 1) := by decide +kernel
theorem dX3_copyFrom_77 : decode cX3_copyFrom 77 = .ok (.getfield 28, 3) := by decide +kernel
theorem dX3_copyFrom_80 : decode cX3_copyFrom 80 = .ok (.iconst 0, 1) := by decide +kernel
theorem dX3_copyFrom_81 : decode cX3_copyFrom 81 = .ok (.aload_n 0, 1) := by decide +kernel
theorem dX3_copyFrom_82 : decode cX3_copyFrom 82 = .ok (.getfield 28, 3) := by decide +kernel
theorem dX3_copyFrom_85 : decode cX3_copyFrom 85 = .ok (.iconst 0, 1) := by decide +kernel
theorem dX3_copyFrom_86 : decode cX3_copyFrom 86 = .ok (.bipush 12, 2) := by decide +kernel
theorem dX3_copyFrom_88 : decode cX3_copyFrom 88 = .ok (.invokestatic 73, 3) := by decide +kernel
theorem dX3_copyFrom_91 : decode cX3_copyFrom 91 = .ok (.aload_n 1, 1) := by decide +kernel
theorem dX3_copyFrom_92 : decode cX3_copyFrom 92 = .ok (.getfield 31, 3) := by decide +kernel
theorem dX3_copyFrom_95 : decode cX3_copyFrom 95 = .ok (.iconst 0, 1) := by decide +kernel
theorem dX3_copyFrom_96 : decode cX3_copyFrom 96 = .ok (.aload_n 0, 1) := by decide +kernel
theorem dX3_copyFrom_97 : decode cX3_copyFrom 97 = .ok (.getfield 31, 3) := by decide +kernel
theorem dX3_copyFrom_100 : decode cX3_copyFrom 100 = .ok (.iconst 0, 1) := by decide +kernel
theorem dX3_copyFrom_101 : decode cX3_copyFrom 101 = .ok (.bipush 12, 2) := by decide +kernel
theorem dX3_copyFrom_103 : decode cX3_copyFrom 103 = .ok (.invokestatic 73, 3) := by decide +kernel
theorem dX3_copyFrom_106 : decode cX3_copyFrom 106 = .ok (.aload_n 1, 1) := by decide +kernel
theorem dX3_copyFrom_107 : decode cX3_copyFrom 107 = .ok (.getfield 34, 3) := by decide +kernel
theorem dX3_copyFrom_110 : decode cX3_copyFrom 110 = .ok (.iconst 0, 1) := by decide +kernel
theorem dX3_copyFrom_111 : decode cX3_copyFrom 111 = .ok (.aload_n 0, 1) := by decide +kernel
theorem dX3_copyFrom_112 : decode cX3_copyFrom 112 = .ok (.getfield 34, 3) := by decide +kernel
theorem dX3_copyFrom_115 : decode cX3_copyFrom 115 = .ok (.iconst 0, 1) := by decide +kernel
theorem dX3_copyFrom_116 : decode cX3_copyFrom 116 = .ok (.bipush 12, 2) := by decide +kernel
theorem dX3_copyFrom_118 : decode cX3_copyFrom 118 = .ok (.invokestatic 73, 3) := by decide +kernel
theorem dX3_copyFrom_121 : decode cX3_copyFrom 121 = .ok (.aload_n 1, 1) := by decide +kernel
theorem dX3_copyFrom_122 : decode cX3_copyFrom 122 = .ok (.getfield 37, 3) := by decide +kernel
theorem dX3_copyFrom_125 : decode cX3_copyFrom 125 = .ok (.iconst 0, 1) := by decide +kernel
theorem dX3_copyFrom_126 : decode cX3_copyFrom 126 = .ok (.aload_n 0, 1) := by decide +kernel
theorem dX3_copyFrom_127 : decode cX3_copyFrom 127 = .ok (.getfield 37, 3) := by decide +kernel
theorem dX3_copyFrom_130 : decode cX3_copyFrom 130 = .ok (.iconst 0, 1) := by decide +kernel
theorem dX3_copyFrom_131 : decode cX3_copyFrom 131 = .ok (.iconst 4, 1) := by decide +kernel
theorem dX3_copyFrom_132 : decode cX3_copyFrom 132 = .ok (.invokestatic 73, 3) := by decide +kernel
theorem dX3_copyFrom_135 : decode cX3_copyFrom 135 = .ok (.aload_n 1, 1) := by decide +kernel
theorem dX3_copyFrom_136 : decode cX3_copyFrom 136 = .ok (.getfield 40, 3) := by decide +kernel
theorem dX3_copyFrom_139 : decode cX3_copyFrom 139 = .ok (.iconst 0, 1) := by decide +kernel
theorem dX3_copyFrom_140 : decode cX3_copyFrom 140 = .ok (.aload_n 0, 1) := by decide +kernel
theorem dX3_copyFrom_141 : decode cX3_copyFrom 141 = .ok (.getfield 40, 3) := by decide +kernel
theorem dX3_copyFrom_144 : decode cX3_copyFrom 144 = .ok (.iconst 0, 1) := by decide +kernel
theorem dX3_copyFrom_145 : decode cX3_copyFrom 145 = .ok (.iconst 4, 1) := by decide +kernel
theorem dX3_copyFrom_146 : decode cX3_copyFrom 146 = .ok (.invokestatic 73, 3) := by decide +kernel
theorem dX3_copyFrom_149 : decode cX3_copyFrom 149 = .ok (.aload_n 1, 1) := by decide +kernel
theorem dX3_copyFrom_150 : decode cX3_copyFrom 150 = .ok (.getfield 43, 3) := by decide +kernel
theorem dX3_copyFrom_153 : decode cX3_copyFrom 153 = .ok (.iconst 0, 1) := by decide +kernel
theorem dX3_copyFrom_154 : decode cX3_copyFrom 154 = .ok (.aload_n 0, 1) := by decide +kernel
theorem dX3_copyFrom_155 : decode cX3_copyFrom 155 = .ok (.getfield 43, 3) := by decide +kernel
theorem dX3_copyFrom_158 : decode cX3_copyFrom 158 = .ok (.iconst 0, 1) := by decide +kernel
theorem dX3_copyFrom_159 : decode cX3_copyFrom 159 = .ok (.iconst 4, 1) := by decide +kernel
theorem dX3_copyFrom_160 : decode cX3_copyFrom 160 = .ok (.invokestatic 73, 3) := by decide +kernel
theorem dX3_copyFrom_163 : decode cX3_copyFrom 163 = .ok (.aload_n 0, 1) := by decide +kernel
theorem dX3_copyFrom_164 : decode cX3_copyFrom 164 = .ok (.aload_n 1, 1) := by decide +kernel
theorem dX3_copyFrom_165 : decode cX3_copyFrom 165 = .ok (.getfield 64, 3) := by decide +kernel
theorem dX3_copyFrom_168 : decode cX3_copyFrom 168 = .ok (.putfield 64, 3) := by decide +kernel
theorem dX3_copyFrom_171 : decode cX3_copyFrom 171 = .ok (.aload_n 0, 1) := by decide +kernel
theorem dX3_copyFrom_172 : decode cX3_copyFrom 172 = .ok (.aload_n 1, 1) := by decide +kernel
theorem dX3_copyFrom_173 : decode cX3_copyFrom 173 = .ok (.getfield 67, 3) := by decide +kernel
theorem dX3_copyFrom_176 : decode cX3_copyFrom 176 = .ok (.putfield 67, 3) := by decide +kernel
theorem dX3_copyFrom_179 : decode cX3_copyFrom 179 = .ok (.aload_n 0, 1) := by decide +kernel
theorem dX3_copyFrom_180 : decode cX3_copyFrom 180 = .ok (.aload_n 1, 1) := by decide +kernel
theorem dX3_copyFrom_181 : decode cX3_copyFrom 181 = .ok (.getfield 70, 3) := by decide +kernel
theorem dX3_copyFrom_184 : decode cX3_copyFrom 184 = .ok (.putfield 70, 3) := by decide +kernel
theorem dX3_copyFrom_187 : decode cX3_copyFrom 187 = .ok (.aload_n 1, 1) := by decide +kernel
theorem dX3_copyFrom_188 : decode cX3_copyFrom 188 = .ok (.getfield 46, 3) := by decide +kernel
theorem dX3_copyFrom_191 : decode cX3_copyFrom 191 = .ok (.iconst 0, 1) := by decide +kernel
theorem dX3_copyFrom_192 : decode cX3_copyFrom 192 = .ok (.aload_n 0, 1) := by decide +kernel
theorem dX3_copyFrom_193 : decode cX3_copyFrom 193 = .ok (.getfield 46, 3) := by decide +kernel
theorem dX3_copyFrom_196 : decode cX3_copyFrom 196 = .ok (.iconst 0, 1) := by decide +kernel
theorem dX3_copyFrom_197 : decode cX3_copyFrom 197 = .ok (.bipush 10, 2) := by decide +kernel
theorem dX3_copyFrom_199 : decode cX3_copyFrom 199 = .ok (.invokestatic 73, 3) := by decide +kernel
theorem dX3_copyFrom_202 : decode cX3_copyFrom 202 = .ok (.aload_n 1, 1) := by decide +kernel
theorem dX3_copyFrom_203 : decode cX3_copyFrom 203 = .ok (.getfield 49, 3) := by decide +kernel
theorem dX3_copyFrom_206 : decode cX3_copyFrom 206 = .ok (.iconst 0, 1) := by decide +kernel
theorem dX3_copyFrom_207 : decode cX3_copyFrom 207 = .ok (.aload_n 0, 1) := by decide +kernel
theorem dX3_copyFrom_208 : decode cX3_copyFrom 208 = .ok (.getfield 49, 3) := by decide +kernel
theorem dX3_copyFrom_211 : decode cX3_copyFrom 211 = .ok (.iconst 0, 1) := by decide +kernel
theorem dX3_copyFrom_212 : decode cX3_copyFrom 212 = .ok (.bipush 10, 2) := by decide +kernel
theorem dX3_copyFrom_214 : decode cX3_copyFrom 214 = .ok (.invokestatic 73, 3) := by decide +kernel
theorem dX3_copyFrom_217 : decode cX3_copyFrom 217 = .ok (.return_, 1) := by decide +kernel
theorem dX3_setHand_0 : decode cX3_setHand 0 = .ok (.aload_n 0, 1) := by decide +kernel
theorem dX3_setHand_1 : decode cX3_setHand 1 = .ok (.getfield 37, 3) := by decide +kernel
theorem dX3_setHand_4 : decode cX3_setHand 4 = .ok (.iload_n 1, 1) := by decide +kernel
theorem dX3_setHand_5 : decode cX3_setHand 5 = .ok (.iload_n 2, 1) := by decide +kernel
theorem dX3_setHand_6 : decode cX3_setHand 6 = .ok (.iastore, 1) := by decide +kernel
theorem dX3_setHand_7 : decode cX3_setHand 7 = .ok (.aload_n 0, 1) := by decide +kernel
theorem dX3_setHand_8 : decode cX3_setHand 8 = .ok (.getfield 40, 3) := by decide +kernel
theorem dX3_setHand_11 : decode cX3_setHand 11 = .ok (.iload_n 1, 1) := by decide +kernel
theorem dX3_setHand_12 : decode cX3_setHand 12 = .ok (.iload_n 3, 1) := by decide +kernel
theorem dX3_setHand_13 : decode cX3_setHand 13 = .ok (.iastore, 1) := by decide +kernel
theorem dX3_setHand_14 : decode cX3_setHand 14 = .ok (.aload_n 0, 1) := by decide +kernel
theorem dX3_setHand_15 : decode cX3_setHand 15 = .ok (.getfield 43, 3) := by decide +kernel
theorem dX3_setHand_18 : decode cX3_setHand 18 = .ok (.iload_n 1, 1) := by decide +kernel
theorem dX3_setHand_19 : decode cX3_setHand 19 = .ok (.iload 4, 2) := by decide +kernel
theorem dX3_setHand_21 : decode cX3_setHand 21 = .ok (.iastore, 1) := by decide +kernel
theorem dX3_setHand_22 : decode cX3_setHand 22 = .ok (.return_, 1) := by decide +kernel
theorem dX3_addNote_0 : decode cX3_addNote 0 = .ok (.aload_n 0, 1) := by decide +kernel
theorem dX3_addNote_1 : decode cX3_addNote 1 = .ok (.getfield 61, 3) := by decide +kernel
theorem dX3_addNote_4 : decode cX3_addNote 4 = .ok (.bipush 12, 2) := by decide +kernel
theorem dX3_addNote_6 : decode cX3_addNote 6 = .ok (.if_icmp .lt 4, 3) := by decide +kernel
theorem dX3_addNote_9 : decode cX3_addNote 9 = .ok (.return_, 1) := by decide +kernel
theorem dX3_addNote_10 : decode cX3_addNote 10 = .ok (.aload_n 0, 1) := by decide +kernel
theorem dX3_addNote_11 : decode cX3_addNote 11 = .ok (.getfield 15, 3) := by decide +kernel
theorem dX3_addNote_14 : decode cX3_addNote 14 = .ok (.aload_n 0, 1) := by decide +kernel
theorem dX3_addNote_15 : decode cX3_addNote 15 = .ok (.getfield 61, 3) := by decide +kernel
theorem dX3_addNote_18 : decode cX3_addNote 18 = .ok (.iload_n 1, 1) := by decide +kernel
theorem dX3_addNote_19 : decode cX3_addNote 19 = .ok (.iastore, 1) := by decide +kernel
theorem dX3_addNote_20 : decode cX3_addNote 20 = .ok (.aload_n 0, 1) := by decide +kernel
theorem dX3_addNote_21 : decode cX3_addNote 21 = .ok (.getfield 19, 3) := by decide +kernel
theorem dX3_addNote_24 : decode cX3_addNote 24 = .ok (.aload_n 0, 1) := by decide +kernel
theorem dX3_addNote_25 : decode cX3_addNote 25 = .ok (.getfield 61, 3) := by decide +kernel
theorem dX3_addNote_28 : decode cX3_addNote 28 = .ok (.iload_n 2, 1) := by decide +kernel
theorem dX3_addNote_29 : decode cX3_addNote 29 = .ok (.iastore, 1) := by decide +kernel
theorem dX3_addNote_30 : decode cX3_addNote 30 = .ok (.aload_n 0, 1) := by decide +kernel
theorem dX3_addNote_31 : decode cX3_addNote 31 = .ok (.getfield 22, 3) := by decide +kernel
theorem dX3_addNote_34 : decode cX3_addNote 34 = .ok (.aload_n 0, 1) := by decide +kernel
theorem dX3_addNote_35 : decode cX3_addNote 35 = .ok (.getfield 61, 3) := by decide +kernel
theorem dX3_addNote_38 : decode cX3_addNote 38 = .ok (.iload_n 3, 1) := by decide +kernel
theorem dX3_addNote_39 : decode cX3_addNote 39 = .ok (.iastore, 1) := by decide +kernel
theorem dX3_addNote_40 : decode cX3_addNote 40 = .ok (.aload_n 0, 1) := by decide +kernel
theorem dX3_addNote_41 : decode cX3_addNote 41 = .ok (.getfield 25, 3) := by decide +kernel
theorem dX3_addNote_44 : decode cX3_addNote 44 = .ok (.aload_n 0, 1) := by decide +kernel
theorem dX3_addNote_45 : decode cX3_addNote 45 = .ok (.getfield 61, 3) := by decide +kernel
theorem dX3_addNote_48 : decode cX3_addNote 48 = .ok (.iload 4, 2) := by decide +kernel
theorem dX3_addNote_50 : decode cX3_addNote 50 = .ok (.iastore, 1) := by decide +kernel
theorem dX3_addNote_51 : decode cX3_addNote 51 = .ok (.aload_n 0, 1) := by decide +kernel
theorem dX3_addNote_52 : decode cX3_addNote 52 = .ok (.getfield 28, 3) := by decide +kernel
theorem dX3_addNote_55 : decode cX3_addNote 55 = .ok (.aload_n 0, 1) := by decide +kernel
theorem dX3_addNote_56 : decode cX3_addNote 56 = .ok (.getfield 61, 3) := by decide +kernel
theorem dX3_addNote_59 : decode cX3_addNote 59 = .ok (.iload 5, 2) := by decide +kernel
theorem dX3_addNote_61 : decode cX3_addNote 61 = .ok (.iastore, 1) := by decide +kernel
theorem dX3_addNote_62 : decode cX3_addNote 62 = .ok (.aload_n 0, 1) := by decide +kernel
theorem dX3_addNote_63 : decode cX3_addNote 63 = .ok (.getfield 31, 3) := by decide +kernel
theorem dX3_addNote_66 : decode cX3_addNote 66 = .ok (.aload_n 0, 1) := by decide +kernel
theorem dX3_addNote_67 : decode cX3_addNote 67 = .ok (.getfield 61, 3) := by decide +kernel
theorem dX3_addNote_70 : decode cX3_addNote 70 = .ok (.iload 6, 2) := by decide +kernel
theorem dX3_addNote_72 : decode cX3_addNote 72 = .ok (.iastore, 1) := by decide +kernel
theorem dX3_addNote_73 : decode cX3_addNote 73 = .ok (.aload_n 0, 1) := by decide +kernel
theorem dX3_addNote_74 : decode cX3_addNote 74 = .ok (.getfield 34, 3) := by decide +kernel
theorem dX3_addNote_77 : decode cX3_addNote 77 = .ok (.aload_n 0, 1) := by decide +kernel
theorem dX3_addNote_78 : decode cX3_addNote 78 = .ok (.getfield 61, 3) := by decide +kernel
theorem dX3_addNote_81 : decode cX3_addNote 81 = .ok (.iconst (-1), 1) := by decide +kernel
theorem dX3_addNote_82 : decode cX3_addNote 82 = .ok (.iastore, 1) := by decide +kernel
theorem dX3_addNote_83 : decode cX3_addNote 83 = .ok (.aload_n 0, 1) := by decide +kernel
theorem dX3_addNote_84 : decode cX3_addNote 84 = .ok (.dup, 1) := by decide +kernel
theorem dX3_addNote_85 : decode cX3_addNote 85 = .ok (.getfield 61, 3) := by decide +kernel
theorem dX3_addNote_88 : decode cX3_addNote 88 = .ok (.iconst 1, 1) := by decide +kernel
theorem dX3_addNote_89 : decode cX3_addNote 89 = .ok (.iadd, 1) := by decide +kernel
theorem dX3_addNote_90 : decode cX3_addNote 90 = .ok (.putfield 61, 3) := by decide +kernel
theorem dX3_addNote_93 : decode cX3_addNote 93 = .ok (.aload_n 0, 1) := by decide +kernel
theorem dX3_addNote_94 : decode cX3_addNote 94 = .ok (.iconst 0, 1) := by decide +kernel
theorem dX3_addNote_95 : decode cX3_addNote 95 = .ok (.putfield 70, 3) := by decide +kernel
theorem dX3_addNote_98 : decode cX3_addNote 98 = .ok (.return_, 1) := by decide +kernel
theorem dX3_pass_0 : decode cX3_pass 0 = .ok (.aload_n 0, 1) := by decide +kernel
theorem dX3_pass_1 : decode cX3_pass 1 = .ok (.getfield 70, 3) := by decide +kernel
theorem dX3_pass_4 : decode cX3_pass 4 = .ok (.bipush 10, 2) := by decide +kernel
theorem dX3_pass_6 : decode cX3_pass 6 = .ok (.if_icmp .lt 39, 3) := by decide +kernel
theorem dX3_pass_9 : decode cX3_pass 9 = .ok (.aload_n 0, 1) := by decide +kernel
theorem dX3_pass_10 : decode cX3_pass 10 = .ok (.getfield 46, 3) := by decide +kernel
theorem dX3_pass_13 : decode cX3_pass 13 = .ok (.iconst 1, 1) := by decide +kernel
theorem dX3_pass_14 : decode cX3_pass 14 = .ok (.aload_n 0, 1) := by decide +kernel
theorem dX3_pass_15 : decode cX3_pass 15 = .ok (.getfield 46, 3) := by decide +kernel
theorem dX3_pass_18 : decode cX3_pass 18 = .ok (.iconst 0, 1) := by decide +kernel
theorem dX3_pass_19 : decode cX3_pass 19 = .ok (.bipush 9, 2) := by decide +kernel
theorem dX3_pass_21 : decode cX3_pass 21 = .ok (.invokestatic 73, 3) := by decide +kernel
theorem dX3_pass_24 : decode cX3_pass 24 = .ok (.aload_n 0, 1) := by decide +kernel
theorem dX3_pass_25 : decode cX3_pass 25 = .ok (.getfield 49, 3) := by decide +kernel
theorem dX3_pass_28 : decode cX3_pass 28 = .ok (.iconst 1, 1) := by decide +kernel
theorem dX3_pass_29 : decode cX3_pass 29 = .ok (.aload_n 0, 1) := by decide +kernel
theorem dX3_pass_30 : decode cX3_pass 30 = .ok (.getfield 49, 3) := by decide +kernel
theorem dX3_pass_33 : decode cX3_pass 33 = .ok (.iconst 0, 1) := by decide +kernel
theorem dX3_pass_34 : decode cX3_pass 34 = .ok (.bipush 9, 2) := by decide +kernel
theorem dX3_pass_36 : decode cX3_pass 36 = .ok (.invokestatic 73, 3) := by decide +kernel
theorem dX3_pass_39 : decode cX3_pass 39 = .ok (.aload_n 0, 1) := by decide +kernel
theorem dX3_pass_40 : decode cX3_pass 40 = .ok (.bipush 9, 2) := by decide +kernel
theorem dX3_pass_42 : decode cX3_pass 42 = .ok (.putfield 70, 3) := by decide +kernel
theorem dX3_pass_45 : decode cX3_pass 45 = .ok (.aload_n 0, 1) := by decide +kernel
theorem dX3_pass_46 : decode cX3_pass 46 = .ok (.getfield 46, 3) := by decide +kernel
theorem dX3_pass_49 : decode cX3_pass 49 = .ok (.aload_n 0, 1) := by decide +kernel
theorem dX3_pass_50 : decode cX3_pass 50 = .ok (.getfield 70, 3) := by decide +kernel
theorem dX3_pass_53 : decode cX3_pass 53 = .ok (.iload_n 1, 1) := by decide +kernel
theorem dX3_pass_54 : decode cX3_pass 54 = .ok (.iastore, 1) := by decide +kernel
theorem dX3_pass_55 : decode cX3_pass 55 = .ok (.aload_n 0, 1) := by decide +kernel
theorem dX3_pass_56 : decode cX3_pass 56 = .ok (.getfield 49, 3) := by decide +kernel
theorem dX3_pass_59 : decode cX3_pass 59 = .ok (.aload_n 0, 1) := by decide +kernel
theorem dX3_pass_60 : decode cX3_pass 60 = .ok (.getfield 70, 3) := by decide +kernel
theorem dX3_pass_63 : decode cX3_pass 63 = .ok (.aload_n 0, 1) := by decide +kernel
theorem dX3_pass_64 : decode cX3_pass 64 = .ok (.getfield 31, 3) := by decide +kernel
theorem dX3_pass_67 : decode cX3_pass 67 = .ok (.iload_n 1, 1) := by decide +kernel
theorem dX3_pass_68 : decode cX3_pass 68 = .ok (.iaload, 1) := by decide +kernel
theorem dX3_pass_69 : decode cX3_pass 69 = .ok (.iastore, 1) := by decide +kernel
theorem dX3_pass_70 : decode cX3_pass 70 = .ok (.aload_n 0, 1) := by decide +kernel
theorem dX3_pass_71 : decode cX3_pass 71 = .ok (.dup, 1) := by decide +kernel
theorem dX3_pass_72 : decode cX3_pass 72 = .ok (.getfield 70, 3) := by decide +kernel
theorem dX3_pass_75 : decode cX3_pass 75 = .ok (.iconst 1, 1) := by decide +kernel
theorem dX3_pass_76 : decode cX3_pass 76 = .ok (.iadd, 1) := by decide +kernel
theorem dX3_pass_77 : decode cX3_pass 77 = .ok (.putfield 70, 3) := by decide +kernel
theorem dX3_pass_80 : decode cX3_pass 80 = .ok (.aload_n 0, 1) := by decide +kernel
theorem dX3_pass_81 : decode cX3_pass 81 = .ok (.getfield 31, 3) := by decide +kernel
theorem dX3_pass_84 : decode cX3_pass 84 = .ok (.iload_n 1, 1) := by decide +kernel
theorem dX3_pass_85 : decode cX3_pass 85 = .ok (.iload_n 2, 1) := by decide +kernel
theorem dX3_pass_86 : decode cX3_pass 86 = .ok (.iastore, 1) := by decide +kernel
theorem dX3_pass_87 : decode cX3_pass 87 = .ok (.return_, 1) := by decide +kernel
theorem dX3_takeBack_0 : decode cX3_takeBack 0 = .ok (.aload_n 0, 1) := by decide +kernel
theorem dX3_takeBack_1 : decode cX3_takeBack 1 = .ok (.getfield 70, 3) := by decide +kernel
theorem dX3_takeBack_4 : decode cX3_takeBack 4 = .ok (.ifCond .gt 4, 3) := by decide +kernel
theorem dX3_takeBack_7 : decode cX3_takeBack 7 = .ok (.return_, 1) := by decide +kernel
theorem dX3_takeBack_8 : decode cX3_takeBack 8 = .ok (.aload_n 0, 1) := by decide +kernel
theorem dX3_takeBack_9 : decode cX3_takeBack 9 = .ok (.dup, 1) := by decide +kernel
theorem dX3_takeBack_10 : decode cX3_takeBack 10 = .ok (.getfield 70, 3) := by decide +kernel
theorem dX3_takeBack_13 : decode cX3_takeBack 13 = .ok (.iconst 1, 1) := by decide +kernel
theorem dX3_takeBack_14 : decode cX3_takeBack 14 = .ok (.isub, 1) := by decide +kernel
theorem dX3_takeBack_15 : decode cX3_takeBack 15 = .ok (.putfield 70, 3) := by decide +kernel
theorem dX3_takeBack_18 : decode cX3_takeBack 18 = .ok (.aload_n 0, 1) := by decide +kernel
theorem dX3_takeBack_19 : decode cX3_takeBack 19 = .ok (.getfield 31, 3) := by decide +kernel
theorem dX3_takeBack_22 : decode cX3_takeBack 22 = .ok (.aload_n 0, 1) := by decide +kernel
theorem dX3_takeBack_23 : decode cX3_takeBack 23 = .ok (.getfield 46, 3) := by decide +kernel
theorem dX3_takeBack_26 : decode cX3_takeBack 26 = .ok (.aload_n 0, 1) := by decide +kernel
theorem dX3_takeBack_27 : decode cX3_takeBack 27 = .ok (.getfield 70, 3) := by decide +kernel
theorem dX3_takeBack_30 : decode cX3_takeBack 30 = .ok (.iaload, 1) := by decide +kernel
theorem dX3_takeBack_31 : decode cX3_takeBack 31 = .ok (.aload_n 0, 1) := by decide +kernel
theorem dX3_takeBack_32 : decode cX3_takeBack 32 = .ok (.getfield 49, 3) := by decide +kernel
theorem dX3_takeBack_35 : decode cX3_takeBack 35 = .ok (.aload_n 0, 1) := by decide +kernel
theorem dX3_takeBack_36 : decode cX3_takeBack 36 = .ok (.getfield 70, 3) := by decide +kernel
theorem dX3_takeBack_39 : decode cX3_takeBack 39 = .ok (.iaload, 1) := by decide +kernel
theorem dX3_takeBack_40 : decode cX3_takeBack 40 = .ok (.iastore, 1) := by decide +kernel
theorem dX3_takeBack_41 : decode cX3_takeBack 41 = .ok (.return_, 1) := by decide +kernel
theorem dX3_isPlayed_0 : decode cX3_isPlayed 0 = .ok (.aload_n 0, 1) := by decide +kernel
theorem dX3_isPlayed_1 : decode cX3_isPlayed 1 = .ok (.getfield 31, 3) := by decide +kernel
theorem dX3_isPlayed_4 : decode cX3_isPlayed 4 = .ok (.iload_n 1, 1) := by decide +kernel
theorem dX3_isPlayed_5 : decode cX3_isPlayed 5 = .ok (.iaload, 1) := by decide +kernel
theorem dX3_isPlayed_6 : decode cX3_isPlayed 6 = .ok (.iconst (-1), 1) := by decide +kernel
theorem dX3_isPlayed_7 : decode cX3_isPlayed 7 = .ok (.if_icmp .eq 7, 3) := by decide +kernel
theorem dX3_isPlayed_10 : decode cX3_isPlayed 10 = .ok (.iconst 1, 1) := by decide +kernel
theorem dX3_isPlayed_11 : decode cX3_isPlayed 11 = .ok (.goto 4, 3) := by decide +kernel
theorem dX3_isPlayed_14 : decode cX3_isPlayed 14 = .ok (.iconst 0, 1) := by decide +kernel
theorem dX3_isPlayed_15 : decode cX3_isPlayed 15 = .ok (.ireturn, 1) := by decide +kernel
theorem dX3_playedCount_0 : decode cX3_playedCount 0 = .ok (.iconst 0, 1) := by decide +kernel
theorem dX3_playedCount_1 : decode cX3_playedCount 1 = .ok (.istore_n 1, 1) := by decide +kernel
theorem dX3_playedCount_2 : decode cX3_playedCount 2 = .ok (.iconst 0, 1) := by decide +kernel
theorem dX3_playedCount_3 : decode cX3_playedCount 3 = .ok (.istore_n 2, 1) := by decide +kernel
theorem dX3_playedCount_4 : decode cX3_playedCount 4 = .ok (.iload_n 2, 1) := by decide +kernel
theorem dX3_playedCount_5 : decode cX3_playedCount 5 = .ok (.aload_n 0, 1) := by decide +kernel
theorem dX3_playedCount_6 : decode cX3_playedCount 6 = .ok (.getfield 61, 3) := by decide +kernel
theorem dX3_playedCount_9 : decode cX3_playedCount 9 = .ok (.if_icmp .ge 20, 3) := by decide +kernel
theorem dX3_playedCount_12 : decode cX3_playedCount 12 = .ok (.aload_n 0, 1) := by decide +kernel
theorem dX3_playedCount_13 : decode cX3_playedCount 13 = .ok (.iload_n 2, 1) := by decide +kernel
theorem dX3_playedCount_14 : decode cX3_playedCount 14 = .ok (.invokevirtual 79, 3) := by decide +kernel
theorem dX3_playedCount_17 : decode cX3_playedCount 17 = .ok (.ifCond .eq 6, 3) := by decide +kernel
theorem dX3_playedCount_20 : decode cX3_playedCount 20 = .ok (.iinc 1 1, 3) := by decide +kernel
theorem dX3_playedCount_23 : decode cX3_playedCount 23 = .ok (.iinc 2 1, 3) := by decide +kernel
theorem dX3_playedCount_26 : decode cX3_playedCount 26 = .ok (.goto (-22), 3) := by decide +kernel
theorem dX3_playedCount_29 : decode cX3_playedCount 29 = .ok (.iload_n 1, 1) := by decide +kernel
theorem dX3_playedCount_30 : decode cX3_playedCount 30 = .ok (.ireturn, 1) := by decide +kernel
theorem dX3_notesOf_0 : decode cX3_notesOf 0 = .ok (.iconst 0, 1) := by decide +kernel
theorem dX3_notesOf_1 : decode cX3_notesOf 1 = .ok (.istore_n 2, 1) := by decide +kernel
theorem dX3_notesOf_2 : decode cX3_notesOf 2 = .ok (.iconst 0, 1) := by decide +kernel
theorem dX3_notesOf_3 : decode cX3_notesOf 3 = .ok (.istore_n 3, 1) := by decide +kernel
theorem dX3_notesOf_4 : decode cX3_notesOf 4 = .ok (.iload_n 3, 1) := by decide +kernel
theorem dX3_notesOf_5 : decode cX3_notesOf 5 = .ok (.aload_n 0, 1) := by decide +kernel
theorem dX3_notesOf_6 : decode cX3_notesOf 6 = .ok (.getfield 61, 3) := by decide +kernel
theorem dX3_notesOf_9 : decode cX3_notesOf 9 = .ok (.if_icmp .ge 25, 3) := by decide +kernel
theorem dX3_notesOf_12 : decode cX3_notesOf 12 = .ok (.aload_n 0, 1) := by decide +kernel
theorem dX3_notesOf_13 : decode cX3_notesOf 13 = .ok (.getfield 31, 3) := by decide +kernel
theorem dX3_notesOf_16 : decode cX3_notesOf 16 = .ok (.iload_n 3, 1) := by decide +kernel
theorem dX3_notesOf_17 : decode cX3_notesOf 17 = .ok (.iaload, 1) := by decide +kernel
theorem dX3_notesOf_18 : decode cX3_notesOf 18 = .ok (.iload_n 1, 1) := by decide +kernel
theorem dX3_notesOf_19 : decode cX3_notesOf 19 = .ok (.if_icmp .ne 9, 3) := by decide +kernel
theorem dX3_notesOf_22 : decode cX3_notesOf 22 = .ok (.iload_n 2, 1) := by decide +kernel
theorem dX3_notesOf_23 : decode cX3_notesOf 23 = .ok (.iconst 1, 1) := by decide +kernel
theorem dX3_notesOf_24 : decode cX3_notesOf 24 = .ok (.iload_n 3, 1) := by decide +kernel
theorem dX3_notesOf_25 : decode cX3_notesOf 25 = .ok (.ishl, 1) := by decide +kernel
theorem dX3_notesOf_26 : decode cX3_notesOf 26 = .ok (.ior, 1) := by decide +kernel
theorem dX3_notesOf_27 : decode cX3_notesOf 27 = .ok (.istore_n 2, 1) := by decide +kernel
theorem dX3_notesOf_28 : decode cX3_notesOf 28 = .ok (.iinc 3 1, 3) := by decide +kernel
theorem dX3_notesOf_31 : decode cX3_notesOf 31 = .ok (.goto (-27), 3) := by decide +kernel
theorem dX3_notesOf_34 : decode cX3_notesOf 34 = .ok (.iload_n 2, 1) := by decide +kernel
theorem dX3_notesOf_35 : decode cX3_notesOf 35 = .ok (.ireturn, 1) := by decide +kernel
theorem dX3_isStiff_0 : decode cX3_isStiff 0 = .ok (.aload_n 0, 1) := by decide +kernel
theorem dX3_isStiff_1 : decode cX3_isStiff 1 = .ok (.getfield 37, 3) := by decide +kernel
theorem dX3_isStiff_4 : decode cX3_isStiff 4 = .ok (.iload_n 1, 1) := by decide +kernel
theorem dX3_isStiff_5 : decode cX3_isStiff 5 = .ok (.iaload, 1) := by decide +kernel
theorem dX3_isStiff_6 : decode cX3_isStiff 6 = .ok (.iconst 3, 1) := by decide +kernel
theorem dX3_isStiff_7 : decode cX3_isStiff 7 = .ok (.if_icmp .eq 13, 3) := by decide +kernel
theorem dX3_isStiff_10 : decode cX3_isStiff 10 = .ok (.aload_n 0, 1) := by decide +kernel
theorem dX3_isStiff_11 : decode cX3_isStiff 11 = .ok (.getfield 37, 3) := by decide +kernel
theorem dX3_isStiff_14 : decode cX3_isStiff 14 = .ok (.iload_n 1, 1) := by decide +kernel
theorem dX3_isStiff_15 : decode cX3_isStiff 15 = .ok (.iaload, 1) := by decide +kernel
theorem dX3_isStiff_16 : decode cX3_isStiff 16 = .ok (.iconst 5, 1) := by decide +kernel
theorem dX3_isStiff_17 : decode cX3_isStiff 17 = .ok (.if_icmp .ne 7, 3) := by decide +kernel
theorem dX3_isStiff_20 : decode cX3_isStiff 20 = .ok (.iconst 1, 1) := by decide +kernel
theorem dX3_isStiff_21 : decode cX3_isStiff 21 = .ok (.goto 4, 3) := by decide +kernel
theorem dX3_isStiff_24 : decode cX3_isStiff 24 = .ok (.iconst 0, 1) := by decide +kernel
theorem dX3_isStiff_25 : decode cX3_isStiff 25 = .ok (.ireturn, 1) := by decide +kernel
theorem dX3_isQuick_0 : decode cX3_isQuick 0 = .ok (.aload_n 0, 1) := by decide +kernel
theorem dX3_isQuick_1 : decode cX3_isQuick 1 = .ok (.getfield 37, 3) := by decide +kernel
theorem dX3_isQuick_4 : decode cX3_isQuick 4 = .ok (.iload_n 1, 1) := by decide +kernel
theorem dX3_isQuick_5 : decode cX3_isQuick 5 = .ok (.iaload, 1) := by decide +kernel
theorem dX3_isQuick_6 : decode cX3_isQuick 6 = .ok (.iconst 1, 1) := by decide +kernel
theorem dX3_isQuick_7 : decode cX3_isQuick 7 = .ok (.if_icmp .eq 13, 3) := by decide +kernel
theorem dX3_isQuick_10 : decode cX3_isQuick 10 = .ok (.aload_n 0, 1) := by decide +kernel
theorem dX3_isQuick_11 : decode cX3_isQuick 11 = .ok (.getfield 37, 3) := by decide +kernel
theorem dX3_isQuick_14 : decode cX3_isQuick 14 = .ok (.iload_n 1, 1) := by decide +kernel
theorem dX3_isQuick_15 : decode cX3_isQuick 15 = .ok (.iaload, 1) := by decide +kernel
theorem dX3_isQuick_16 : decode cX3_isQuick 16 = .ok (.iconst 4, 1) := by decide +kernel
theorem dX3_isQuick_17 : decode cX3_isQuick 17 = .ok (.if_icmp .ne 7, 3) := by decide +kernel
theorem dX3_isQuick_20 : decode cX3_isQuick 20 = .ok (.iconst 1, 1) := by decide +kernel
theorem dX3_isQuick_21 : decode cX3_isQuick 21 = .ok (.goto 4, 3) := by decide +kernel
theorem dX3_isQuick_24 : decode cX3_isQuick 24 = .ok (.iconst 0, 1) := by decide +kernel
theorem dX3_isQuick_25 : decode cX3_isQuick 25 = .ok (.ireturn, 1) := by decide +kernel
theorem dX3_reaches_0 : decode cX3_reaches 0 = .ok (.aload_n 0, 1) := by decide +kernel
theorem dX3_reaches_1 : decode cX3_reaches 1 = .ok (.iload_n 1, 1) := by decide +kernel
theorem dX3_reaches_2 : decode cX3_reaches 2 = .ok (.invokevirtual 83, 3) := by decide +kernel
theorem dX3_reaches_5 : decode cX3_reaches 5 = .ok (.ifCond .eq 18, 3) := by decide +kernel
theorem dX3_reaches_8 : decode cX3_reaches 8 = .ok (.aload_n 0, 1) := by decide +kernel
theorem dX3_reaches_9 : decode cX3_reaches 9 = .ok (.getfield 40, 3) := by decide +kernel
theorem dX3_reaches_12 : decode cX3_reaches 12 = .ok (.iload_n 1, 1) := by decide +kernel
theorem dX3_reaches_13 : decode cX3_reaches 13 = .ok (.iaload, 1) := by decide +kernel
theorem dX3_reaches_14 : decode cX3_reaches 14 = .ok (.iconst 2, 1) := by decide +kernel
theorem dX3_reaches_15 : decode cX3_reaches 15 = .ok (.isub, 1) := by decide +kernel
theorem dX3_reaches_16 : decode cX3_reaches 16 = .ok (.iconst 0, 1) := by decide +kernel
theorem dX3_reaches_17 : decode cX3_reaches 17 = .ok (.invokestatic 86, 3) := by decide +kernel
theorem dX3_reaches_20 : decode cX3_reaches 20 = .ok (.goto 9, 3) := by decide +kernel
theorem dX3_reaches_23 : decode cX3_reaches 23 = .ok (.aload_n 0, 1) := by decide +kernel
theorem dX3_reaches_24 : decode cX3_reaches 24 = .ok (.getfield 40, 3) := by decide +kernel
theorem dX3_reaches_27 : decode cX3_reaches 27 = .ok (.iload_n 1, 1) := by decide +kernel
theorem dX3_reaches_28 : decode cX3_reaches 28 = .ok (.iaload, 1) := by decide +kernel
theorem dX3_reaches_29 : decode cX3_reaches 29 = .ok (.ireturn, 1) := by decide +kernel
theorem dX3_moves_0 : decode cX3_moves 0 = .ok (.aload_n 0, 1) := by decide +kernel
theorem dX3_moves_1 : decode cX3_moves 1 = .ok (.iload_n 1, 1) := by decide +kernel
theorem dX3_moves_2 : decode cX3_moves 2 = .ok (.invokevirtual 92, 3) := by decide +kernel
theorem dX3_moves_5 : decode cX3_moves 5 = .ok (.ifCond .eq 12, 3) := by decide +kernel
theorem dX3_moves_8 : decode cX3_moves 8 = .ok (.iconst 2, 1) := by decide +kernel
theorem dX3_moves_9 : decode cX3_moves 9 = .ok (.aload_n 0, 1) := by decide +kernel
theorem dX3_moves_10 : decode cX3_moves 10 = .ok (.getfield 43, 3) := by decide +kernel
theorem dX3_moves_13 : decode cX3_moves 13 = .ok (.iload_n 1, 1) := by decide +kernel
theorem dX3_moves_14 : decode cX3_moves 14 = .ok (.iaload, 1) := by decide +kernel
theorem dX3_moves_15 : decode cX3_moves 15 = .ok (.imul, 1) := by decide +kernel
theorem dX3_moves_16 : decode cX3_moves 16 = .ok (.ireturn, 1) := by decide +kernel
theorem dX3_moves_17 : decode cX3_moves 17 = .ok (.aload_n 0, 1) := by decide +kernel
theorem dX3_moves_18 : decode cX3_moves 18 = .ok (.iload_n 1, 1) := by decide +kernel
theorem dX3_moves_19 : decode cX3_moves 19 = .ok (.invokevirtual 83, 3) := by decide +kernel
theorem dX3_moves_22 : decode cX3_moves 22 = .ok (.ifCond .eq 18, 3) := by decide +kernel
theorem dX3_moves_25 : decode cX3_moves 25 = .ok (.aload_n 0, 1) := by decide +kernel
theorem dX3_moves_26 : decode cX3_moves 26 = .ok (.getfield 43, 3) := by decide +kernel
theorem dX3_moves_29 : decode cX3_moves 29 = .ok (.iload_n 1, 1) := by decide +kernel
theorem dX3_moves_30 : decode cX3_moves 30 = .ok (.iaload, 1) := by decide +kernel
theorem dX3_moves_31 : decode cX3_moves 31 = .ok (.iconst 2, 1) := by decide +kernel
theorem dX3_moves_32 : decode cX3_moves 32 = .ok (.idiv, 1) := by decide +kernel
theorem dX3_moves_33 : decode cX3_moves 33 = .ok (.iconst 1, 1) := by decide +kernel
theorem dX3_moves_34 : decode cX3_moves 34 = .ok (.invokestatic 86, 3) := by decide +kernel
theorem dX3_moves_37 : decode cX3_moves 37 = .ok (.goto 9, 3) := by decide +kernel
theorem dX3_moves_40 : decode cX3_moves 40 = .ok (.aload_n 0, 1) := by decide +kernel
theorem dX3_moves_41 : decode cX3_moves 41 = .ok (.getfield 43, 3) := by decide +kernel
theorem dX3_moves_44 : decode cX3_moves 44 = .ok (.iload_n 1, 1) := by decide +kernel
theorem dX3_moves_45 : decode cX3_moves 45 = .ok (.iaload, 1) := by decide +kernel
theorem dX3_moves_46 : decode cX3_moves 46 = .ok (.ireturn, 1) := by decide +kernel
theorem dX3_keepsOff_0 : decode cX3_keepsOff 0 = .ok (.aload_n 0, 1) := by decide +kernel
theorem dX3_keepsOff_1 : decode cX3_keepsOff 1 = .ok (.getfield 37, 3) := by decide +kernel
theorem dX3_keepsOff_4 : decode cX3_keepsOff 4 = .ok (.iload_n 1, 1) := by decide +kernel
theorem dX3_keepsOff_5 : decode cX3_keepsOff 5 = .ok (.iaload, 1) := by decide +kernel
theorem dX3_keepsOff_6 : decode cX3_keepsOff 6 = .ok (.tableswitch 51 2 5 #[30, 51, 37, 44], 30) := by decide +kernel
theorem dX3_keepsOff_36 : decode cX3_keepsOff 36 = .ok (.aload_n 0, 1) := by decide +kernel
theorem dX3_keepsOff_37 : decode cX3_keepsOff 37 = .ok (.getfield 9, 3) := by decide +kernel
theorem dX3_keepsOff_40 : decode cX3_keepsOff 40 = .ok (.iconst 1, 1) := by decide +kernel
theorem dX3_keepsOff_41 : decode cX3_keepsOff 41 = .ok (.iadd, 1) := by decide +kernel
theorem dX3_keepsOff_42 : decode cX3_keepsOff 42 = .ok (.ireturn, 1) := by decide +kernel
theorem dX3_keepsOff_43 : decode cX3_keepsOff 43 = .ok (.aload_n 0, 1) := by decide +kernel
theorem dX3_keepsOff_44 : decode cX3_keepsOff 44 = .ok (.getfield 9, 3) := by decide +kernel
theorem dX3_keepsOff_47 : decode cX3_keepsOff 47 = .ok (.iconst 2, 1) := by decide +kernel
theorem dX3_keepsOff_48 : decode cX3_keepsOff 48 = .ok (.idiv, 1) := by decide +kernel
theorem dX3_keepsOff_49 : decode cX3_keepsOff 49 = .ok (.ireturn, 1) := by decide +kernel
theorem dX3_keepsOff_50 : decode cX3_keepsOff 50 = .ok (.iconst 2, 1) := by decide +kernel
theorem dX3_keepsOff_51 : decode cX3_keepsOff 51 = .ok (.aload_n 0, 1) := by decide +kernel
theorem dX3_keepsOff_52 : decode cX3_keepsOff 52 = .ok (.getfield 9, 3) := by decide +kernel
theorem dX3_keepsOff_55 : decode cX3_keepsOff 55 = .ok (.imul, 1) := by decide +kernel
theorem dX3_keepsOff_56 : decode cX3_keepsOff 56 = .ok (.ireturn, 1) := by decide +kernel
theorem dX3_keepsOff_57 : decode cX3_keepsOff 57 = .ok (.aload_n 0, 1) := by decide +kernel
theorem dX3_keepsOff_58 : decode cX3_keepsOff 58 = .ok (.getfield 9, 3) := by decide +kernel
theorem dX3_keepsOff_61 : decode cX3_keepsOff 61 = .ok (.ireturn, 1) := by decide +kernel
theorem dX3_sortOf_0 : decode cX3_sortOf 0 = .ok (.aload_n 0, 1) := by decide +kernel
theorem dX3_sortOf_1 : decode cX3_sortOf 1 = .ok (.iload_n 1, 1) := by decide +kernel
theorem dX3_sortOf_2 : decode cX3_sortOf 2 = .ok (.aload_n 0, 1) := by decide +kernel
theorem dX3_sortOf_3 : decode cX3_sortOf 3 = .ok (.getfield 31, 3) := by decide +kernel
theorem dX3_sortOf_6 : decode cX3_sortOf 6 = .ok (.iload_n 1, 1) := by decide +kernel
theorem dX3_sortOf_7 : decode cX3_sortOf 7 = .ok (.iaload, 1) := by decide +kernel
theorem dX3_sortOf_8 : decode cX3_sortOf 8 = .ok (.iload_n 2, 1) := by decide +kernel
theorem dX3_sortOf_9 : decode cX3_sortOf 9 = .ok (.aload_n 0, 1) := by decide +kernel
theorem dX3_sortOf_10 : decode cX3_sortOf 10 = .ok (.getfield 31, 3) := by decide +kernel
theorem dX3_sortOf_13 : decode cX3_sortOf 13 = .ok (.iload_n 2, 1) := by decide +kernel
theorem dX3_sortOf_14 : decode cX3_sortOf 14 = .ok (.iaload, 1) := by decide +kernel
theorem dX3_sortOf_15 : decode cX3_sortOf 15 = .ok (.invokevirtual 95, 3) := by decide +kernel
theorem dX3_sortOf_18 : decode cX3_sortOf 18 = .ok (.ireturn, 1) := by decide +kernel
theorem dX3_sortIf_0 : decode cX3_sortIf 0 = .ok (.iload_n 2, 1) := by decide +kernel
theorem dX3_sortIf_1 : decode cX3_sortIf 1 = .ok (.iconst (-1), 1) := by decide +kernel
theorem dX3_sortIf_2 : decode cX3_sortIf 2 = .ok (.if_icmp .eq 9, 3) := by decide +kernel
theorem dX3_sortIf_5 : decode cX3_sortIf 5 = .ok (.iload 4, 2) := by decide +kernel
theorem dX3_sortIf_7 : decode cX3_sortIf 7 = .ok (.iconst (-1), 1) := by decide +kernel
theorem dX3_sortIf_8 : decode cX3_sortIf 8 = .ok (.if_icmp .ne 5, 3) := by decide +kernel
theorem dX3_sortIf_11 : decode cX3_sortIf 11 = .ok (.iconst (-1), 1) := by decide +kernel
theorem dX3_sortIf_12 : decode cX3_sortIf 12 = .ok (.ireturn, 1) := by decide +kernel
theorem dX3_sortIf_13 : decode cX3_sortIf 13 = .ok (.aload_n 0, 1) := by decide +kernel
theorem dX3_sortIf_14 : decode cX3_sortIf 14 = .ok (.getfield 15, 3) := by decide +kernel
theorem dX3_sortIf_17 : decode cX3_sortIf 17 = .ok (.iload_n 1, 1) := by decide +kernel
theorem dX3_sortIf_18 : decode cX3_sortIf 18 = .ok (.iaload, 1) := by decide +kernel
theorem dX3_sortIf_19 : decode cX3_sortIf 19 = .ok (.aload_n 0, 1) := by decide +kernel
theorem dX3_sortIf_20 : decode cX3_sortIf 20 = .ok (.getfield 15, 3) := by decide +kernel
theorem dX3_sortIf_23 : decode cX3_sortIf 23 = .ok (.iload_n 3, 1) := by decide +kernel
theorem dX3_sortIf_24 : decode cX3_sortIf 24 = .ok (.iaload, 1) := by decide +kernel
theorem dX3_sortIf_25 : decode cX3_sortIf 25 = .ok (.isub, 1) := by decide +kernel
theorem dX3_sortIf_26 : decode cX3_sortIf 26 = .ok (.invokestatic 99, 3) := by decide +kernel
theorem dX3_sortIf_29 : decode cX3_sortIf 29 = .ok (.istore 5, 2) := by decide +kernel
theorem dX3_sortIf_31 : decode cX3_sortIf 31 = .ok (.aload_n 0, 1) := by decide +kernel
theorem dX3_sortIf_32 : decode cX3_sortIf 32 = .ok (.getfield 19, 3) := by decide +kernel
theorem dX3_sortIf_35 : decode cX3_sortIf 35 = .ok (.iload_n 1, 1) := by decide +kernel
theorem dX3_sortIf_36 : decode cX3_sortIf 36 = .ok (.iaload, 1) := by decide +kernel
theorem dX3_sortIf_37 : decode cX3_sortIf 37 = .ok (.aload_n 0, 1) := by decide +kernel
theorem dX3_sortIf_38 : decode cX3_sortIf 38 = .ok (.getfield 19, 3) := by decide +kernel
theorem dX3_sortIf_41 : decode cX3_sortIf 41 = .ok (.iload_n 3, 1) := by decide +kernel
theorem dX3_sortIf_42 : decode cX3_sortIf 42 = .ok (.iaload, 1) := by decide +kernel
theorem dX3_sortIf_43 : decode cX3_sortIf 43 = .ok (.isub, 1) := by decide +kernel
theorem dX3_sortIf_44 : decode cX3_sortIf 44 = .ok (.aload_n 0, 1) := by decide +kernel
theorem dX3_sortIf_45 : decode cX3_sortIf 45 = .ok (.getfield 22, 3) := by decide +kernel
theorem dX3_sortIf_48 : decode cX3_sortIf 48 = .ok (.iload_n 3, 1) := by decide +kernel
theorem dX3_sortIf_49 : decode cX3_sortIf 49 = .ok (.iaload, 1) := by decide +kernel
theorem dX3_sortIf_50 : decode cX3_sortIf 50 = .ok (.isub, 1) := by decide +kernel
theorem dX3_sortIf_51 : decode cX3_sortIf 51 = .ok (.aload_n 0, 1) := by decide +kernel
theorem dX3_sortIf_52 : decode cX3_sortIf 52 = .ok (.getfield 19, 3) := by decide +kernel
theorem dX3_sortIf_55 : decode cX3_sortIf 55 = .ok (.iload_n 3, 1) := by decide +kernel
theorem dX3_sortIf_56 : decode cX3_sortIf 56 = .ok (.iaload, 1) := by decide +kernel
theorem dX3_sortIf_57 : decode cX3_sortIf 57 = .ok (.aload_n 0, 1) := by decide +kernel
theorem dX3_sortIf_58 : decode cX3_sortIf 58 = .ok (.getfield 19, 3) := by decide +kernel
theorem dX3_sortIf_61 : decode cX3_sortIf 61 = .ok (.iload_n 1, 1) := by decide +kernel
theorem dX3_sortIf_62 : decode cX3_sortIf 62 = .ok (.iaload, 1) := by decide +kernel
theorem dX3_sortIf_63 : decode cX3_sortIf 63 = .ok (.isub, 1) := by decide +kernel
theorem dX3_sortIf_64 : decode cX3_sortIf 64 = .ok (.aload_n 0, 1) := by decide +kernel
theorem dX3_sortIf_65 : decode cX3_sortIf 65 = .ok (.getfield 22, 3) := by decide +kernel
theorem dX3_sortIf_68 : decode cX3_sortIf 68 = .ok (.iload_n 1, 1) := by decide +kernel
theorem dX3_sortIf_69 : decode cX3_sortIf 69 = .ok (.iaload, 1) := by decide +kernel
theorem dX3_sortIf_70 : decode cX3_sortIf 70 = .ok (.isub, 1) := by decide +kernel
theorem dX3_sortIf_71 : decode cX3_sortIf 71 = .ok (.invokestatic 86, 3) := by decide +kernel
theorem dX3_sortIf_74 : decode cX3_sortIf 74 = .ok (.istore 6, 2) := by decide +kernel
theorem dX3_sortIf_76 : decode cX3_sortIf 76 = .ok (.iload 6, 2) := by decide +kernel
theorem dX3_sortIf_78 : decode cX3_sortIf 78 = .ok (.ifCond .lt 28, 3) := by decide +kernel
theorem dX3_sortIf_81 : decode cX3_sortIf 81 = .ok (.iload_n 2, 1) := by decide +kernel
theorem dX3_sortIf_82 : decode cX3_sortIf 82 = .ok (.iload 4, 2) := by decide +kernel
theorem dX3_sortIf_84 : decode cX3_sortIf 84 = .ok (.if_icmp .ne 20, 3) := by decide +kernel
theorem dX3_sortIf_87 : decode cX3_sortIf 87 = .ok (.iload 5, 2) := by decide +kernel
theorem dX3_sortIf_89 : decode cX3_sortIf 89 = .ok (.aload_n 0, 1) := by decide +kernel
theorem dX3_sortIf_90 : decode cX3_sortIf 90 = .ok (.iload_n 2, 1) := by decide +kernel
theorem dX3_sortIf_91 : decode cX3_sortIf 91 = .ok (.invokevirtual 103, 3) := by decide +kernel
theorem dX3_sortIf_94 : decode cX3_sortIf 94 = .ok (.iload 6, 2) := by decide +kernel
theorem dX3_sortIf_96 : decode cX3_sortIf 96 = .ok (.imul, 1) := by decide +kernel
theorem dX3_sortIf_97 : decode cX3_sortIf 97 = .ok (.if_icmp .le 7, 3) := by decide +kernel
theorem dX3_sortIf_100 : decode cX3_sortIf 100 = .ok (.iconst 5, 1) := by decide +kernel
theorem dX3_sortIf_101 : decode cX3_sortIf 101 = .ok (.goto 4, 3) := by decide +kernel
theorem dX3_sortIf_104 : decode cX3_sortIf 104 = .ok (.iconst (-1), 1) := by decide +kernel
theorem dX3_sortIf_105 : decode cX3_sortIf 105 = .ok (.ireturn, 1) := by decide +kernel
theorem dX3_sortIf_106 : decode cX3_sortIf 106 = .ok (.iload 5, 2) := by decide +kernel
theorem dX3_sortIf_108 : decode cX3_sortIf 108 = .ok (.ifCond .ne 24, 3) := by decide +kernel
theorem dX3_sortIf_111 : decode cX3_sortIf 111 = .ok (.aload_n 0, 1) := by decide +kernel
theorem dX3_sortIf_112 : decode cX3_sortIf 112 = .ok (.getfield 19, 3) := by decide +kernel
theorem dX3_sortIf_115 : decode cX3_sortIf 115 = .ok (.iload_n 1, 1) := by decide +kernel
theorem dX3_sortIf_116 : decode cX3_sortIf 116 = .ok (.iaload, 1) := by decide +kernel
theorem dX3_sortIf_117 : decode cX3_sortIf 117 = .ok (.aload_n 0, 1) := by decide +kernel
theorem dX3_sortIf_118 : decode cX3_sortIf 118 = .ok (.getfield 19, 3) := by decide +kernel
theorem dX3_sortIf_121 : decode cX3_sortIf 121 = .ok (.iload_n 3, 1) := by decide +kernel
theorem dX3_sortIf_122 : decode cX3_sortIf 122 = .ok (.iaload, 1) := by decide +kernel
theorem dX3_sortIf_123 : decode cX3_sortIf 123 = .ok (.if_icmp .ne 7, 3) := by decide +kernel
theorem dX3_sortIf_126 : decode cX3_sortIf 126 = .ok (.iconst 0, 1) := by decide +kernel
theorem dX3_sortIf_127 : decode cX3_sortIf 127 = .ok (.goto 4, 3) := by decide +kernel
theorem dX3_sortIf_130 : decode cX3_sortIf 130 = .ok (.iconst 1, 1) := by decide +kernel
theorem dX3_sortIf_131 : decode cX3_sortIf 131 = .ok (.ireturn, 1) := by decide +kernel
theorem dX3_sortIf_132 : decode cX3_sortIf 132 = .ok (.iload_n 2, 1) := by decide +kernel
theorem dX3_sortIf_133 : decode cX3_sortIf 133 = .ok (.iload 4, 2) := by decide +kernel
theorem dX3_sortIf_135 : decode cX3_sortIf 135 = .ok (.if_icmp .ne 19, 3) := by decide +kernel
theorem dX3_sortIf_138 : decode cX3_sortIf 138 = .ok (.iload 5, 2) := by decide +kernel
theorem dX3_sortIf_140 : decode cX3_sortIf 140 = .ok (.aload_n 0, 1) := by decide +kernel
theorem dX3_sortIf_141 : decode cX3_sortIf 141 = .ok (.iload_n 2, 1) := by decide +kernel
theorem dX3_sortIf_142 : decode cX3_sortIf 142 = .ok (.invokevirtual 106, 3) := by decide +kernel
theorem dX3_sortIf_145 : decode cX3_sortIf 145 = .ok (.if_icmp .le 7, 3) := by decide +kernel
theorem dX3_sortIf_148 : decode cX3_sortIf 148 = .ok (.iconst 2, 1) := by decide +kernel
theorem dX3_sortIf_149 : decode cX3_sortIf 149 = .ok (.goto 4, 3) := by decide +kernel
theorem dX3_sortIf_152 : decode cX3_sortIf 152 = .ok (.iconst (-1), 1) := by decide +kernel
theorem dX3_sortIf_153 : decode cX3_sortIf 153 = .ok (.ireturn, 1) := by decide +kernel
theorem dX3_sortIf_154 : decode cX3_sortIf 154 = .ok (.iload_n 2, 1) := by decide +kernel
theorem dX3_sortIf_155 : decode cX3_sortIf 155 = .ok (.iconst 2, 1) := by decide +kernel
theorem dX3_sortIf_156 : decode cX3_sortIf 156 = .ok (.idiv, 1) := by decide +kernel
theorem dX3_sortIf_157 : decode cX3_sortIf 157 = .ok (.iload 4, 2) := by decide +kernel
theorem dX3_sortIf_159 : decode cX3_sortIf 159 = .ok (.iconst 2, 1) := by decide +kernel
theorem dX3_sortIf_160 : decode cX3_sortIf 160 = .ok (.idiv, 1) := by decide +kernel
theorem dX3_sortIf_161 : decode cX3_sortIf 161 = .ok (.if_icmp .ne 5, 3) := by decide +kernel
theorem dX3_sortIf_164 : decode cX3_sortIf 164 = .ok (.iconst (-1), 1) := by decide +kernel
theorem dX3_sortIf_165 : decode cX3_sortIf 165 = .ok (.ireturn, 1) := by decide +kernel
theorem dX3_sortIf_166 : decode cX3_sortIf 166 = .ok (.iload 5, 2) := by decide +kernel
theorem dX3_sortIf_168 : decode cX3_sortIf 168 = .ok (.aload_n 0, 1) := by decide +kernel
theorem dX3_sortIf_169 : decode cX3_sortIf 169 = .ok (.iload_n 2, 1) := by decide +kernel
theorem dX3_sortIf_170 : decode cX3_sortIf 170 = .ok (.invokevirtual 109, 3) := by decide +kernel
theorem dX3_sortIf_173 : decode cX3_sortIf 173 = .ok (.aload_n 0, 1) := by decide +kernel
theorem dX3_sortIf_174 : decode cX3_sortIf 174 = .ok (.iload 4, 2) := by decide +kernel
theorem dX3_sortIf_176 : decode cX3_sortIf 176 = .ok (.invokevirtual 109, 3) := by decide +kernel
theorem dX3_sortIf_179 : decode cX3_sortIf 179 = .ok (.invokestatic 86, 3) := by decide +kernel
theorem dX3_sortIf_182 : decode cX3_sortIf 182 = .ok (.if_icmp .ge 5, 3) := by decide +kernel
theorem dX3_sortIf_185 : decode cX3_sortIf 185 = .ok (.iconst 3, 1) := by decide +kernel
theorem dX3_sortIf_186 : decode cX3_sortIf 186 = .ok (.ireturn, 1) := by decide +kernel
theorem dX3_sortIf_187 : decode cX3_sortIf 187 = .ok (.iload_n 2, 1) := by decide +kernel
theorem dX3_sortIf_188 : decode cX3_sortIf 188 = .ok (.iload 4, 2) := by decide +kernel
theorem dX3_sortIf_190 : decode cX3_sortIf 190 = .ok (.if_icmp .ge 12, 3) := by decide +kernel
theorem dX3_sortIf_193 : decode cX3_sortIf 193 = .ok (.aload_n 0, 1) := by decide +kernel
theorem dX3_sortIf_194 : decode cX3_sortIf 194 = .ok (.getfield 15, 3) := by decide +kernel
theorem dX3_sortIf_197 : decode cX3_sortIf 197 = .ok (.iload_n 1, 1) := by decide +kernel
theorem dX3_sortIf_198 : decode cX3_sortIf 198 = .ok (.iaload, 1) := by decide +kernel
theorem dX3_sortIf_199 : decode cX3_sortIf 199 = .ok (.goto 9, 3) := by decide +kernel
theorem dX3_sortIf_202 : decode cX3_sortIf 202 = .ok (.aload_n 0, 1) := by decide +kernel
theorem dX3_sortIf_203 : decode cX3_sortIf 203 = .ok (.getfield 15, 3) := by decide +kernel
theorem dX3_sortIf_206 : decode cX3_sortIf 206 = .ok (.iload_n 3, 1) := by decide +kernel
theorem dX3_sortIf_207 : decode cX3_sortIf 207 = .ok (.iaload, 1) := by decide +kernel
theorem dX3_sortIf_208 : decode cX3_sortIf 208 = .ok (.istore 7, 2) := by decide +kernel
theorem dX3_sortIf_210 : decode cX3_sortIf 210 = .ok (.iload_n 2, 1) := by decide +kernel
theorem dX3_sortIf_211 : decode cX3_sortIf 211 = .ok (.iload 4, 2) := by decide +kernel
theorem dX3_sortIf_213 : decode cX3_sortIf 213 = .ok (.if_icmp .ge 12, 3) := by decide +kernel
theorem dX3_sortIf_216 : decode cX3_sortIf 216 = .ok (.aload_n 0, 1) := by decide +kernel
theorem dX3_sortIf_217 : decode cX3_sortIf 217 = .ok (.getfield 15, 3) := by decide +kernel
theorem dX3_sortIf_220 : decode cX3_sortIf 220 = .ok (.iload_n 3, 1) := by decide +kernel
theorem dX3_sortIf_221 : decode cX3_sortIf 221 = .ok (.iaload, 1) := by decide +kernel
theorem dX3_sortIf_222 : decode cX3_sortIf 222 = .ok (.goto 9, 3) := by decide +kernel
theorem dX3_sortIf_225 : decode cX3_sortIf 225 = .ok (.aload_n 0, 1) := by decide +kernel
theorem dX3_sortIf_226 : decode cX3_sortIf 226 = .ok (.getfield 15, 3) := by decide +kernel
theorem dX3_sortIf_229 : decode cX3_sortIf 229 = .ok (.iload_n 1, 1) := by decide +kernel
theorem dX3_sortIf_230 : decode cX3_sortIf 230 = .ok (.iaload, 1) := by decide +kernel
theorem dX3_sortIf_231 : decode cX3_sortIf 231 = .ok (.istore 8, 2) := by decide +kernel
theorem dX3_sortIf_233 : decode cX3_sortIf 233 = .ok (.iload 7, 2) := by decide +kernel
theorem dX3_sortIf_235 : decode cX3_sortIf 235 = .ok (.iload 8, 2) := by decide +kernel
theorem dX3_sortIf_237 : decode cX3_sortIf 237 = .ok (.if_icmp .ge 7, 3) := by decide +kernel
theorem dX3_sortIf_240 : decode cX3_sortIf 240 = .ok (.iconst 4, 1) := by decide +kernel
theorem dX3_sortIf_241 : decode cX3_sortIf 241 = .ok (.goto 4, 3) := by decide +kernel
theorem dX3_sortIf_244 : decode cX3_sortIf 244 = .ok (.iconst (-1), 1) := by decide +kernel
theorem dX3_sortIf_245 : decode cX3_sortIf 245 = .ok (.ireturn, 1) := by decide +kernel
theorem dX3_clashCount_0 : decode cX3_clashCount 0 = .ok (.iconst 0, 1) := by decide +kernel
theorem dX3_clashCount_1 : decode cX3_clashCount 1 = .ok (.istore_n 1, 1) := by decide +kernel
theorem dX3_clashCount_2 : decode cX3_clashCount 2 = .ok (.iconst 0, 1) := by decide +kernel
theorem dX3_clashCount_3 : decode cX3_clashCount 3 = .ok (.istore_n 2, 1) := by decide +kernel
theorem dX3_clashCount_4 : decode cX3_clashCount 4 = .ok (.iload_n 2, 1) := by decide +kernel
theorem dX3_clashCount_5 : decode cX3_clashCount 5 = .ok (.aload_n 0, 1) := by decide +kernel
theorem dX3_clashCount_6 : decode cX3_clashCount 6 = .ok (.getfield 61, 3) := by decide +kernel
theorem dX3_clashCount_9 : decode cX3_clashCount 9 = .ok (.if_icmp .ge 40, 3) := by decide +kernel
theorem dX3_clashCount_12 : decode cX3_clashCount 12 = .ok (.iload_n 2, 1) := by decide +kernel
theorem dX3_clashCount_13 : decode cX3_clashCount 13 = .ok (.iconst 1, 1) := by decide +kernel
theorem dX3_clashCount_14 : decode cX3_clashCount 14 = .ok (.iadd, 1) := by decide +kernel
theorem dX3_clashCount_15 : decode cX3_clashCount 15 = .ok (.istore_n 3, 1) := by decide +kernel
theorem dX3_clashCount_16 : decode cX3_clashCount 16 = .ok (.iload_n 3, 1) := by decide +kernel
theorem dX3_clashCount_17 : decode cX3_clashCount 17 = .ok (.aload_n 0, 1) := by decide +kernel
theorem dX3_clashCount_18 : decode cX3_clashCount 18 = .ok (.getfield 61, 3) := by decide +kernel
theorem dX3_clashCount_21 : decode cX3_clashCount 21 = .ok (.if_icmp .ge 22, 3) := by decide +kernel
theorem dX3_clashCount_24 : decode cX3_clashCount 24 = .ok (.aload_n 0, 1) := by decide +kernel
theorem dX3_clashCount_25 : decode cX3_clashCount 25 = .ok (.iload_n 2, 1) := by decide +kernel
theorem dX3_clashCount_26 : decode cX3_clashCount 26 = .ok (.iload_n 3, 1) := by decide +kernel
theorem dX3_clashCount_27 : decode cX3_clashCount 27 = .ok (.invokevirtual 112, 3) := by decide +kernel
theorem dX3_clashCount_30 : decode cX3_clashCount 30 = .ok (.iconst (-1), 1) := by decide +kernel
theorem dX3_clashCount_31 : decode cX3_clashCount 31 = .ok (.if_icmp .eq 6, 3) := by decide +kernel
theorem dX3_clashCount_34 : decode cX3_clashCount 34 = .ok (.iinc 1 1, 3) := by decide +kernel
theorem dX3_clashCount_37 : decode cX3_clashCount 37 = .ok (.iinc 3 1, 3) := by decide +kernel
theorem dX3_clashCount_40 : decode cX3_clashCount 40 = .ok (.goto (-24), 3) := by decide +kernel
theorem dX3_clashCount_43 : decode cX3_clashCount 43 = .ok (.iinc 2 1, 3) := by decide +kernel
theorem dX3_clashCount_46 : decode cX3_clashCount 46 = .ok (.goto (-42), 3) := by decide +kernel
theorem dX3_clashCount_49 : decode cX3_clashCount 49 = .ok (.iload_n 1, 1) := by decide +kernel
theorem dX3_clashCount_50 : decode cX3_clashCount 50 = .ok (.ireturn, 1) := by decide +kernel
theorem dX3_findPartners_0 : decode cX3_findPartners 0 = .ok (.aload_n 0, 1) := by decide +kernel
theorem dX3_findPartners_1 : decode cX3_findPartners 1 = .ok (.getfield 52, 3) := by decide +kernel
theorem dX3_findPartners_4 : decode cX3_findPartners 4 = .ok (.iconst 0, 1) := by decide +kernel
theorem dX3_findPartners_5 : decode cX3_findPartners 5 = .ok (.invokestatic 55, 3) := by decide +kernel
theorem dX3_findPartners_8 : decode cX3_findPartners 8 = .ok (.iconst 0, 1) := by decide +kernel
theorem dX3_findPartners_9 : decode cX3_findPartners 9 = .ok (.istore_n 1, 1) := by decide +kernel
theorem dX3_findPartners_10 : decode cX3_findPartners 10 = .ok (.iload_n 1, 1) := by decide +kernel
theorem dX3_findPartners_11 : decode cX3_findPartners 11 = .ok (.aload_n 0, 1) := by decide +kernel
theorem dX3_findPartners_12 : decode cX3_findPartners 12 = .ok (.getfield 61, 3) := by decide +kernel
theorem dX3_findPartners_15 : decode cX3_findPartners 15 = .ok (.if_icmp .ge 49, 3) := by decide +kernel
theorem dX3_findPartners_18 : decode cX3_findPartners 18 = .ok (.iload_n 1, 1) := by decide +kernel
theorem dX3_findPartners_19 : decode cX3_findPartners 19 = .ok (.iconst 1, 1) := by decide +kernel
theorem dX3_findPartners_20 : decode cX3_findPartners 20 = .ok (.iadd, 1) := by decide +kernel
theorem dX3_findPartners_21 : decode cX3_findPartners 21 = .ok (.istore_n 2, 1) := by decide +kernel
theorem dX3_findPartners_22 : decode cX3_findPartners 22 = .ok (.iload_n 2, 1) := by decide +kernel
theorem dX3_findPartners_23 : decode cX3_findPartners 23 = .ok (.aload_n 0, 1) := by decide +kernel
theorem dX3_findPartners_24 : decode cX3_findPartners 24 = .ok (.getfield 61, 3) := by decide +kernel
theorem dX3_findPartners_27 : decode cX3_findPartners 27 = .ok (.if_icmp .ge 31, 3) := by decide +kernel
theorem dX3_findPartners_30 : decode cX3_findPartners 30 = .ok (.aload_n 0, 1) := by decide +kernel
theorem dX3_findPartners_31 : decode cX3_findPartners 31 = .ok (.iload_n 1, 1) := by decide +kernel
theorem dX3_findPartners_32 : decode cX3_findPartners 32 = .ok (.iload_n 2, 1) := by decide +kernel
theorem dX3_findPartners_33 : decode cX3_findPartners 33 = .ok (.invokevirtual 112, 3) := by decide +kernel
theorem dX3_findPartners_36 : decode cX3_findPartners 36 = .ok (.iconst (-1), 1) := by decide +kernel
theorem dX3_findPartners_37 : decode cX3_findPartners 37 = .ok (.if_icmp .eq 15, 3) := by decide +kernel
theorem dX3_findPartners_40 : decode cX3_findPartners 40 = .ok (.aload_n 0, 1) := by decide +kernel
theorem dX3_findPartners_41 : decode cX3_findPartners 41 = .ok (.getfield 52, 3) := by decide +kernel
theorem dX3_findPartners_44 : decode cX3_findPartners 44 = .ok (.iload_n 1, 1) := by decide +kernel
theorem dX3_findPartners_45 : decode cX3_findPartners 45 = .ok (.dup2, 1) := by decide +kernel
theorem dX3_findPartners_46 : decode cX3_findPartners 46 = .ok (.iaload, 1) := by decide +kernel
theorem dX3_findPartners_47 : decode cX3_findPartners 47 = .ok (.iconst 1, 1) := by decide +kernel
theorem dX3_findPartners_48 : decode cX3_findPartners 48 = .ok (.iload_n 2, 1) := by decide +kernel
theorem dX3_findPartners_49 : decode cX3_findPartners 49 = .ok (.ishl, 1) := by decide +kernel
theorem dX3_findPartners_50 : decode cX3_findPartners 50 = .ok (.ior, 1) := by decide +kernel
theorem dX3_findPartners_51 : decode cX3_findPartners 51 = .ok (.iastore, 1) := by decide +kernel
theorem dX3_findPartners_52 : decode cX3_findPartners 52 = .ok (.iinc 2 1, 3) := by decide +kernel
theorem dX3_findPartners_55 : decode cX3_findPartners 55 = .ok (.goto (-33), 3) := by decide +kernel
theorem dX3_findPartners_58 : decode cX3_findPartners 58 = .ok (.iinc 1 1, 3) := by decide +kernel
theorem dX3_findPartners_61 : decode cX3_findPartners 61 = .ok (.goto (-51), 3) := by decide +kernel
theorem dX3_findPartners_64 : decode cX3_findPartners 64 = .ok (.return_, 1) := by decide +kernel
theorem dX3_isQuietWithout_0 : decode cX3_isQuietWithout 0 = .ok (.iconst 0, 1) := by decide +kernel
theorem dX3_isQuietWithout_1 : decode cX3_isQuietWithout 1 = .ok (.istore_n 2, 1) := by decide +kernel
theorem dX3_isQuietWithout_2 : decode cX3_isQuietWithout 2 = .ok (.iload_n 2, 1) := by decide +kernel
theorem dX3_isQuietWithout_3 : decode cX3_isQuietWithout 3 = .ok (.aload_n 0, 1) := by decide +kernel
theorem dX3_isQuietWithout_4 : decode cX3_isQuietWithout 4 = .ok (.getfield 61, 3) := by decide +kernel
theorem dX3_isQuietWithout_7 : decode cX3_isQuietWithout 7 = .ok (.if_icmp .ge 32, 3) := by decide +kernel
theorem dX3_isQuietWithout_10 : decode cX3_isQuietWithout 10 = .ok (.iload_n 1, 1) := by decide +kernel
theorem dX3_isQuietWithout_11 : decode cX3_isQuietWithout 11 = .ok (.iload_n 2, 1) := by decide +kernel
theorem dX3_isQuietWithout_12 : decode cX3_isQuietWithout 12 = .ok (.ishr, 1) := by decide +kernel
theorem dX3_isQuietWithout_13 : decode cX3_isQuietWithout 13 = .ok (.iconst 1, 1) := by decide +kernel
theorem dX3_isQuietWithout_14 : decode cX3_isQuietWithout 14 = .ok (.iand, 1) := by decide +kernel
theorem dX3_isQuietWithout_15 : decode cX3_isQuietWithout 15 = .ok (.ifCond .ne 18, 3) := by decide +kernel
theorem dX3_isQuietWithout_18 : decode cX3_isQuietWithout 18 = .ok (.aload_n 0, 1) := by decide +kernel
theorem dX3_isQuietWithout_19 : decode cX3_isQuietWithout 19 = .ok (.getfield 52, 3) := by decide +kernel
theorem dX3_isQuietWithout_22 : decode cX3_isQuietWithout 22 = .ok (.iload_n 2, 1) := by decide +kernel
theorem dX3_isQuietWithout_23 : decode cX3_isQuietWithout 23 = .ok (.iaload, 1) := by decide +kernel
theorem dX3_isQuietWithout_24 : decode cX3_isQuietWithout 24 = .ok (.iload_n 1, 1) := by decide +kernel
theorem dX3_isQuietWithout_25 : decode cX3_isQuietWithout 25 = .ok (.iconst (-1), 1) := by decide +kernel
theorem dX3_isQuietWithout_26 : decode cX3_isQuietWithout 26 = .ok (.ixor, 1) := by decide +kernel
theorem dX3_isQuietWithout_27 : decode cX3_isQuietWithout 27 = .ok (.iand, 1) := by decide +kernel
theorem dX3_isQuietWithout_28 : decode cX3_isQuietWithout 28 = .ok (.ifCond .eq 5, 3) := by decide +kernel
theorem dX3_isQuietWithout_31 : decode cX3_isQuietWithout 31 = .ok (.iconst 0, 1) := by decide +kernel
theorem dX3_isQuietWithout_32 : decode cX3_isQuietWithout 32 = .ok (.ireturn, 1) := by decide +kernel
theorem dX3_isQuietWithout_33 : decode cX3_isQuietWithout 33 = .ok (.iinc 2 1, 3) := by decide +kernel
theorem dX3_isQuietWithout_36 : decode cX3_isQuietWithout 36 = .ok (.goto (-34), 3) := by decide +kernel
theorem dX3_isQuietWithout_39 : decode cX3_isQuietWithout 39 = .ok (.iconst 1, 1) := by decide +kernel
theorem dX3_isQuietWithout_40 : decode cX3_isQuietWithout 40 = .ok (.ireturn, 1) := by decide +kernel
theorem dX3_sounds_0 : decode cX3_sounds 0 = .ok (.aload_n 0, 1) := by decide +kernel
theorem dX3_sounds_1 : decode cX3_sounds 1 = .ok (.iload_n 1, 1) := by decide +kernel
theorem dX3_sounds_2 : decode cX3_sounds 2 = .ok (.invokevirtual 79, 3) := by decide +kernel
theorem dX3_sounds_5 : decode cX3_sounds 5 = .ok (.ifCond .eq 34, 3) := by decide +kernel
theorem dX3_sounds_8 : decode cX3_sounds 8 = .ok (.iload_n 2, 1) := by decide +kernel
theorem dX3_sounds_9 : decode cX3_sounds 9 = .ok (.aload_n 0, 1) := by decide +kernel
theorem dX3_sounds_10 : decode cX3_sounds 10 = .ok (.getfield 19, 3) := by decide +kernel
theorem dX3_sounds_13 : decode cX3_sounds 13 = .ok (.iload_n 1, 1) := by decide +kernel
theorem dX3_sounds_14 : decode cX3_sounds 14 = .ok (.iaload, 1) := by decide +kernel
theorem dX3_sounds_15 : decode cX3_sounds 15 = .ok (.if_icmp .lt 24, 3) := by decide +kernel
theorem dX3_sounds_18 : decode cX3_sounds 18 = .ok (.iload_n 2, 1) := by decide +kernel
theorem dX3_sounds_19 : decode cX3_sounds 19 = .ok (.aload_n 0, 1) := by decide +kernel
theorem dX3_sounds_20 : decode cX3_sounds 20 = .ok (.getfield 19, 3) := by decide +kernel
theorem dX3_sounds_23 : decode cX3_sounds 23 = .ok (.iload_n 1, 1) := by decide +kernel
theorem dX3_sounds_24 : decode cX3_sounds 24 = .ok (.iaload, 1) := by decide +kernel
theorem dX3_sounds_25 : decode cX3_sounds 25 = .ok (.aload_n 0, 1) := by decide +kernel
theorem dX3_sounds_26 : decode cX3_sounds 26 = .ok (.getfield 22, 3) := by decide +kernel
theorem dX3_sounds_29 : decode cX3_sounds 29 = .ok (.iload_n 1, 1) := by decide +kernel
theorem dX3_sounds_30 : decode cX3_sounds 30 = .ok (.iaload, 1) := by decide +kernel
theorem dX3_sounds_31 : decode cX3_sounds 31 = .ok (.iadd, 1) := by decide +kernel
theorem dX3_sounds_32 : decode cX3_sounds 32 = .ok (.if_icmp .ge 7, 3) := by decide +kernel
theorem dX3_sounds_35 : decode cX3_sounds 35 = .ok (.iconst 1, 1) := by decide +kernel
theorem dX3_sounds_36 : decode cX3_sounds 36 = .ok (.goto 4, 3) := by decide +kernel
theorem dX3_sounds_39 : decode cX3_sounds 39 = .ok (.iconst 0, 1) := by decide +kernel
theorem dX3_sounds_40 : decode cX3_sounds 40 = .ok (.ireturn, 1) := by decide +kernel
theorem dX3_isFree_0 : decode cX3_isFree 0 = .ok (.iconst 0, 1) := by decide +kernel
theorem dX3_isFree_1 : decode cX3_isFree 1 = .ok (.istore_n 3, 1) := by decide +kernel
theorem dX3_isFree_2 : decode cX3_isFree 2 = .ok (.iload_n 3, 1) := by decide +kernel
theorem dX3_isFree_3 : decode cX3_isFree 3 = .ok (.aload_n 0, 1) := by decide +kernel
theorem dX3_isFree_4 : decode cX3_isFree 4 = .ok (.getfield 61, 3) := by decide +kernel
theorem dX3_isFree_7 : decode cX3_isFree 7 = .ok (.if_icmp .ge 30, 3) := by decide +kernel
theorem dX3_isFree_10 : decode cX3_isFree 10 = .ok (.aload_n 0, 1) := by decide +kernel
theorem dX3_isFree_11 : decode cX3_isFree 11 = .ok (.getfield 31, 3) := by decide +kernel
theorem dX3_isFree_14 : decode cX3_isFree 14 = .ok (.iload_n 3, 1) := by decide +kernel
theorem dX3_isFree_15 : decode cX3_isFree 15 = .ok (.iaload, 1) := by decide +kernel
theorem dX3_isFree_16 : decode cX3_isFree 16 = .ok (.iload_n 1, 1) := by decide +kernel
theorem dX3_isFree_17 : decode cX3_isFree 17 = .ok (.if_icmp .ne 14, 3) := by decide +kernel
theorem dX3_isFree_20 : decode cX3_isFree 20 = .ok (.aload_n 0, 1) := by decide +kernel
theorem dX3_isFree_21 : decode cX3_isFree 21 = .ok (.iload_n 3, 1) := by decide +kernel
theorem dX3_isFree_22 : decode cX3_isFree 22 = .ok (.iload_n 2, 1) := by decide +kernel
theorem dX3_isFree_23 : decode cX3_isFree 23 = .ok (.invokevirtual 115, 3) := by decide +kernel
theorem dX3_isFree_26 : decode cX3_isFree 26 = .ok (.ifCond .eq 5, 3) := by decide +kernel
theorem dX3_isFree_29 : decode cX3_isFree 29 = .ok (.iconst 0, 1) := by decide +kernel
theorem dX3_isFree_30 : decode cX3_isFree 30 = .ok (.ireturn, 1) := by decide +kernel
theorem dX3_isFree_31 : decode cX3_isFree 31 = .ok (.iinc 3 1, 3) := by decide +kernel
theorem dX3_isFree_34 : decode cX3_isFree 34 = .ok (.goto (-32), 3) := by decide +kernel
theorem dX3_isFree_37 : decode cX3_isFree 37 = .ok (.iconst 1, 1) := by decide +kernel
theorem dX3_isFree_38 : decode cX3_isFree 38 = .ok (.ireturn, 1) := by decide +kernel
theorem dX3_isCovered_0 : decode cX3_isCovered 0 = .ok (.iconst 0, 1) := by decide +kernel
theorem dX3_isCovered_1 : decode cX3_isCovered 1 = .ok (.istore_n 2, 1) := by decide +kernel
theorem dX3_isCovered_2 : decode cX3_isCovered 2 = .ok (.iconst 0, 1) := by decide +kernel
theorem dX3_isCovered_3 : decode cX3_isCovered 3 = .ok (.istore_n 3, 1) := by decide +kernel
theorem dX3_isCovered_4 : decode cX3_isCovered 4 = .ok (.iconst 0, 1) := by decide +kernel
theorem dX3_isCovered_5 : decode cX3_isCovered 5 = .ok (.istore 4, 2) := by decide +kernel
theorem dX3_isCovered_7 : decode cX3_isCovered 7 = .ok (.iload 4, 2) := by decide +kernel
theorem dX3_isCovered_9 : decode cX3_isCovered 9 = .ok (.aload_n 0, 1) := by decide +kernel
theorem dX3_isCovered_10 : decode cX3_isCovered 10 = .ok (.getfield 61, 3) := by decide +kernel
theorem dX3_isCovered_13 : decode cX3_isCovered 13 = .ok (.if_icmp .ge 68, 3) := by decide +kernel
theorem dX3_isCovered_16 : decode cX3_isCovered 16 = .ok (.aload_n 0, 1) := by decide +kernel
theorem dX3_isCovered_17 : decode cX3_isCovered 17 = .ok (.iload 4, 2) := by decide +kernel
theorem dX3_isCovered_19 : decode cX3_isCovered 19 = .ok (.iload_n 1, 1) := by decide +kernel
theorem dX3_isCovered_20 : decode cX3_isCovered 20 = .ok (.invokevirtual 115, 3) := by decide +kernel
theorem dX3_isCovered_23 : decode cX3_isCovered 23 = .ok (.ifCond .eq 52, 3) := by decide +kernel
theorem dX3_isCovered_26 : decode cX3_isCovered 26 = .ok (.iload_n 2, 1) := by decide +kernel
theorem dX3_isCovered_27 : decode cX3_isCovered 27 = .ok (.aload_n 0, 1) := by decide +kernel
theorem dX3_isCovered_28 : decode cX3_isCovered 28 = .ok (.getfield 25, 3) := by decide +kernel
theorem dX3_isCovered_31 : decode cX3_isCovered 31 = .ok (.iload 4, 2) := by decide +kernel
theorem dX3_isCovered_33 : decode cX3_isCovered 33 = .ok (.iaload, 1) := by decide +kernel
theorem dX3_isCovered_34 : decode cX3_isCovered 34 = .ok (.ifCond .ne 7, 3) := by decide +kernel
theorem dX3_isCovered_37 : decode cX3_isCovered 37 = .ok (.iconst 1, 1) := by decide +kernel
theorem dX3_isCovered_38 : decode cX3_isCovered 38 = .ok (.goto 4, 3) := by decide +kernel
theorem dX3_isCovered_41 : decode cX3_isCovered 41 = .ok (.iconst 0, 1) := by decide +kernel
theorem dX3_isCovered_42 : decode cX3_isCovered 42 = .ok (.ior, 1) := by decide +kernel
theorem dX3_isCovered_43 : decode cX3_isCovered 43 = .ok (.istore_n 2, 1) := by decide +kernel
theorem dX3_isCovered_44 : decode cX3_isCovered 44 = .ok (.iload_n 3, 1) := by decide +kernel
theorem dX3_isCovered_45 : decode cX3_isCovered 45 = .ok (.aload_n 0, 1) := by decide +kernel
theorem dX3_isCovered_46 : decode cX3_isCovered 46 = .ok (.getfield 25, 3) := by decide +kernel
theorem dX3_isCovered_49 : decode cX3_isCovered 49 = .ok (.iload 4, 2) := by decide +kernel
theorem dX3_isCovered_51 : decode cX3_isCovered 51 = .ok (.iaload, 1) := by decide +kernel
theorem dX3_isCovered_52 : decode cX3_isCovered 52 = .ok (.ifCond .ne 14, 3) := by decide +kernel
theorem dX3_isCovered_55 : decode cX3_isCovered 55 = .ok (.aload_n 0, 1) := by decide +kernel
theorem dX3_isCovered_56 : decode cX3_isCovered 56 = .ok (.getfield 28, 3) := by decide +kernel
theorem dX3_isCovered_59 : decode cX3_isCovered 59 = .ok (.iload 4, 2) := by decide +kernel
theorem dX3_isCovered_61 : decode cX3_isCovered 61 = .ok (.iaload, 1) := by decide +kernel
theorem dX3_isCovered_62 : decode cX3_isCovered 62 = .ok (.ineg, 1) := by decide +kernel
theorem dX3_isCovered_63 : decode cX3_isCovered 63 = .ok (.goto 10, 3) := by decide +kernel
theorem dX3_isCovered_66 : decode cX3_isCovered 66 = .ok (.aload_n 0, 1) := by decide +kernel
theorem dX3_isCovered_67 : decode cX3_isCovered 67 = .ok (.getfield 28, 3) := by decide +kernel
theorem dX3_isCovered_70 : decode cX3_isCovered 70 = .ok (.iload 4, 2) := by decide +kernel
theorem dX3_isCovered_72 : decode cX3_isCovered 72 = .ok (.iaload, 1) := by decide +kernel
theorem dX3_isCovered_73 : decode cX3_isCovered 73 = .ok (.iadd, 1) := by decide +kernel
theorem dX3_isCovered_74 : decode cX3_isCovered 74 = .ok (.istore_n 3, 1) := by decide +kernel
theorem dX3_isCovered_75 : decode cX3_isCovered 75 = .ok (.iinc 4 1, 3) := by decide +kernel
theorem dX3_isCovered_78 : decode cX3_isCovered 78 = .ok (.goto (-71), 3) := by decide +kernel
theorem dX3_isCovered_81 : decode cX3_isCovered 81 = .ok (.iload_n 2, 1) := by decide +kernel
theorem dX3_isCovered_82 : decode cX3_isCovered 82 = .ok (.ifCond .eq 11, 3) := by decide +kernel
theorem dX3_isCovered_85 : decode cX3_isCovered 85 = .ok (.iload_n 3, 1) := by decide +kernel
theorem dX3_isCovered_86 : decode cX3_isCovered 86 = .ok (.ifCond .le 7, 3) := by decide +kernel
theorem dX3_isCovered_89 : decode cX3_isCovered 89 = .ok (.iconst 1, 1) := by decide +kernel
theorem dX3_isCovered_90 : decode cX3_isCovered 90 = .ok (.goto 4, 3) := by decide +kernel
theorem dX3_isCovered_93 : decode cX3_isCovered 93 = .ok (.iconst 0, 1) := by decide +kernel
theorem dX3_isCovered_94 : decode cX3_isCovered 94 = .ok (.ireturn, 1) := by decide +kernel
theorem dX3_isExplainedBy_0 : decode cX3_isExplainedBy 0 = .ok (.iconst 0, 1) := by decide +kernel
theorem dX3_isExplainedBy_1 : decode cX3_isExplainedBy 1 = .ok (.istore_n 2, 1) := by decide +kernel
theorem dX3_isExplainedBy_2 : decode cX3_isExplainedBy 2 = .ok (.iconst (-1), 1) := by decide +kernel
theorem dX3_isExplainedBy_3 : decode cX3_isExplainedBy 3 = .ok (.istore_n 3, 1) := by decide +kernel
theorem dX3_isExplainedBy_4 : decode cX3_isExplainedBy 4 = .ok (.bipush 64, 2) := by decide +kernel
theorem dX3_isExplainedBy_6 : decode cX3_isExplainedBy 6 = .ok (.istore 4, 2) := by decide +kernel
theorem dX3_isExplainedBy_8 : decode cX3_isExplainedBy 8 = .ok (.iconst 0, 1) := by decide +kernel
theorem dX3_isExplainedBy_9 : decode cX3_isExplainedBy 9 = .ok (.istore 5, 2) := by decide +kernel
theorem dX3_isExplainedBy_11 : decode cX3_isExplainedBy 11 = .ok (.iload 5, 2) := by decide +kernel
theorem dX3_isExplainedBy_13 : decode cX3_isExplainedBy 13 = .ok (.aload_n 0, 1) := by decide +kernel
theorem dX3_isExplainedBy_14 : decode cX3_isExplainedBy 14 = .ok (.getfield 61, 3) := by decide +kernel
theorem dX3_isExplainedBy_17 : decode cX3_isExplainedBy 17 = .ok (.if_icmp .ge 109, 3) := by decide +kernel
theorem dX3_isExplainedBy_20 : decode cX3_isExplainedBy 20 = .ok (.aload_n 0, 1) := by decide +kernel
theorem dX3_isExplainedBy_21 : decode cX3_isExplainedBy 21 = .ok (.getfield 34, 3) := by decide +kernel
theorem dX3_isExplainedBy_24 : decode cX3_isExplainedBy 24 = .ok (.iload 5, 2) := by decide +kernel
theorem dX3_isExplainedBy_26 : decode cX3_isExplainedBy 26 = .ok (.iaload, 1) := by decide +kernel
theorem dX3_isExplainedBy_27 : decode cX3_isExplainedBy 27 = .ok (.iconst (-1), 1) := by decide +kernel
theorem dX3_isExplainedBy_28 : decode cX3_isExplainedBy 28 = .ok (.if_icmp .ne 6, 3) := by decide +kernel
theorem dX3_isExplainedBy_31 : decode cX3_isExplainedBy 31 = .ok (.goto 89, 3) := by decide +kernel
theorem dX3_isExplainedBy_34 : decode cX3_isExplainedBy 34 = .ok (.aload_n 0, 1) := by decide +kernel
theorem dX3_isExplainedBy_35 : decode cX3_isExplainedBy 35 = .ok (.getfield 34, 3) := by decide +kernel
theorem dX3_isExplainedBy_38 : decode cX3_isExplainedBy 38 = .ok (.iload 5, 2) := by decide +kernel
theorem dX3_isExplainedBy_40 : decode cX3_isExplainedBy 40 = .ok (.iaload, 1) := by decide +kernel
theorem dX3_isExplainedBy_41 : decode cX3_isExplainedBy 41 = .ok (.ifCond .ne 29, 3) := by decide +kernel
theorem dX3_isExplainedBy_44 : decode cX3_isExplainedBy 44 = .ok (.aload_n 0, 1) := by decide +kernel
theorem dX3_isExplainedBy_45 : decode cX3_isExplainedBy 45 = .ok (.getfield 31, 3) := by decide +kernel
theorem dX3_isExplainedBy_48 : decode cX3_isExplainedBy 48 = .ok (.iload 5, 2) := by decide +kernel
theorem dX3_isExplainedBy_50 : decode cX3_isExplainedBy 50 = .ok (.iaload, 1) := by decide +kernel
theorem dX3_isExplainedBy_51 : decode cX3_isExplainedBy 51 = .ok (.iload_n 1, 1) := by decide +kernel
theorem dX3_isExplainedBy_52 : decode cX3_isExplainedBy 52 = .ok (.if_icmp .ne 68, 3) := by decide +kernel
theorem dX3_isExplainedBy_55 : decode cX3_isExplainedBy 55 = .ok (.iload_n 3, 1) := by decide +kernel
theorem dX3_isExplainedBy_56 : decode cX3_isExplainedBy 56 = .ok (.aload_n 0, 1) := by decide +kernel
theorem dX3_isExplainedBy_57 : decode cX3_isExplainedBy 57 = .ok (.getfield 19, 3) := by decide +kernel
theorem dX3_isExplainedBy_60 : decode cX3_isExplainedBy 60 = .ok (.iload 5, 2) := by decide +kernel
theorem dX3_isExplainedBy_62 : decode cX3_isExplainedBy 62 = .ok (.iaload, 1) := by decide +kernel
theorem dX3_isExplainedBy_63 : decode cX3_isExplainedBy 63 = .ok (.invokestatic 86, 3) := by decide +kernel
theorem dX3_isExplainedBy_66 : decode cX3_isExplainedBy 66 = .ok (.istore_n 3, 1) := by decide +kernel
theorem dX3_isExplainedBy_67 : decode cX3_isExplainedBy 67 = .ok (.goto 53, 3) := by decide +kernel
theorem dX3_isExplainedBy_70 : decode cX3_isExplainedBy 70 = .ok (.aload_n 0, 1) := by decide +kernel
theorem dX3_isExplainedBy_71 : decode cX3_isExplainedBy 71 = .ok (.getfield 31, 3) := by decide +kernel
theorem dX3_isExplainedBy_74 : decode cX3_isExplainedBy 74 = .ok (.iload 5, 2) := by decide +kernel
theorem dX3_isExplainedBy_76 : decode cX3_isExplainedBy 76 = .ok (.iaload, 1) := by decide +kernel
theorem dX3_isExplainedBy_77 : decode cX3_isExplainedBy 77 = .ok (.iload_n 1, 1) := by decide +kernel
theorem dX3_isExplainedBy_78 : decode cX3_isExplainedBy 78 = .ok (.if_icmp .ne 18, 3) := by decide +kernel
theorem dX3_isExplainedBy_81 : decode cX3_isExplainedBy 81 = .ok (.iload_n 2, 1) := by decide +kernel
theorem dX3_isExplainedBy_82 : decode cX3_isExplainedBy 82 = .ok (.ifCond .eq 16, 3) := by decide +kernel
theorem dX3_isExplainedBy_85 : decode cX3_isExplainedBy 85 = .ok (.iload_n 2, 1) := by decide +kernel
theorem dX3_isExplainedBy_86 : decode cX3_isExplainedBy 86 = .ok (.aload_n 0, 1) := by decide +kernel
theorem dX3_isExplainedBy_87 : decode cX3_isExplainedBy 87 = .ok (.getfield 34, 3) := by decide +kernel
theorem dX3_isExplainedBy_90 : decode cX3_isExplainedBy 90 = .ok (.iload 5, 2) := by decide +kernel
theorem dX3_isExplainedBy_92 : decode cX3_isExplainedBy 92 = .ok (.iaload, 1) := by decide +kernel
theorem dX3_isExplainedBy_93 : decode cX3_isExplainedBy 93 = .ok (.if_icmp .eq 5, 3) := by decide +kernel
theorem dX3_isExplainedBy_96 : decode cX3_isExplainedBy 96 = .ok (.iconst 0, 1) := by decide +kernel
theorem dX3_isExplainedBy_97 : decode cX3_isExplainedBy 97 = .ok (.ireturn, 1) := by decide +kernel
theorem dX3_isExplainedBy_98 : decode cX3_isExplainedBy 98 = .ok (.aload_n 0, 1) := by decide +kernel
theorem dX3_isExplainedBy_99 : decode cX3_isExplainedBy 99 = .ok (.getfield 34, 3) := by decide +kernel
theorem dX3_isExplainedBy_102 : decode cX3_isExplainedBy 102 = .ok (.iload 5, 2) := by decide +kernel
theorem dX3_isExplainedBy_104 : decode cX3_isExplainedBy 104 = .ok (.iaload, 1) := by decide +kernel
theorem dX3_isExplainedBy_105 : decode cX3_isExplainedBy 105 = .ok (.istore_n 2, 1) := by decide +kernel
theorem dX3_isExplainedBy_106 : decode cX3_isExplainedBy 106 = .ok (.iload 4, 2) := by decide +kernel
theorem dX3_isExplainedBy_108 : decode cX3_isExplainedBy 108 = .ok (.aload_n 0, 1) := by decide +kernel
theorem dX3_isExplainedBy_109 : decode cX3_isExplainedBy 109 = .ok (.getfield 19, 3) := by decide +kernel
theorem dX3_isExplainedBy_112 : decode cX3_isExplainedBy 112 = .ok (.iload 5, 2) := by decide +kernel
theorem dX3_isExplainedBy_114 : decode cX3_isExplainedBy 114 = .ok (.iaload, 1) := by decide +kernel
theorem dX3_isExplainedBy_115 : decode cX3_isExplainedBy 115 = .ok (.invokestatic 119, 3) := by decide +kernel
theorem dX3_isExplainedBy_118 : decode cX3_isExplainedBy 118 = .ok (.istore 4, 2) := by decide +kernel
theorem dX3_isExplainedBy_120 : decode cX3_isExplainedBy 120 = .ok (.iinc 5 1, 3) := by decide +kernel
theorem dX3_isExplainedBy_123 : decode cX3_isExplainedBy 123 = .ok (.goto (-112), 3) := by decide +kernel
theorem dX3_isExplainedBy_126 : decode cX3_isExplainedBy 126 = .ok (.iload_n 2, 1) := by decide +kernel
theorem dX3_isExplainedBy_127 : decode cX3_isExplainedBy 127 = .ok (.ifCond .eq 9, 3) := by decide +kernel
theorem dX3_isExplainedBy_130 : decode cX3_isExplainedBy 130 = .ok (.iload_n 3, 1) := by decide +kernel
theorem dX3_isExplainedBy_131 : decode cX3_isExplainedBy 131 = .ok (.iload 4, 2) := by decide +kernel
theorem dX3_isExplainedBy_133 : decode cX3_isExplainedBy 133 = .ok (.if_icmp .ge 7, 3) := by decide +kernel
theorem dX3_isExplainedBy_136 : decode cX3_isExplainedBy 136 = .ok (.iconst 1, 1) := by decide +kernel
theorem dX3_isExplainedBy_137 : decode cX3_isExplainedBy 137 = .ok (.goto 4, 3) := by decide +kernel
theorem dX3_isExplainedBy_140 : decode cX3_isExplainedBy 140 = .ok (.iconst 0, 1) := by decide +kernel
theorem dX3_isExplainedBy_141 : decode cX3_isExplainedBy 141 = .ok (.ireturn, 1) := by decide +kernel
theorem dX3_digestFrom_0 : decode cX3_digestFrom 0 = .ok (.lload_n 1, 1) := by decide +kernel
theorem dX3_digestFrom_1 : decode cX3_digestFrom 1 = .ok (.lstore_n 3, 1) := by decide +kernel
theorem dX3_digestFrom_2 : decode cX3_digestFrom 2 = .ok (.iconst 0, 1) := by decide +kernel
theorem dX3_digestFrom_3 : decode cX3_digestFrom 3 = .ok (.istore 5, 2) := by decide +kernel
theorem dX3_digestFrom_5 : decode cX3_digestFrom 5 = .ok (.iload 5, 2) := by decide +kernel
theorem dX3_digestFrom_7 : decode cX3_digestFrom 7 = .ok (.iconst 4, 1) := by decide +kernel
theorem dX3_digestFrom_8 : decode cX3_digestFrom 8 = .ok (.if_icmp .ge 54, 3) := by decide +kernel
theorem dX3_digestFrom_11 : decode cX3_digestFrom 11 = .ok (.ldc2_w 122, 3) := by decide +kernel
theorem dX3_digestFrom_14 : decode cX3_digestFrom 14 = .ok (.lload_n 3, 1) := by decide +kernel
theorem dX3_digestFrom_15 : decode cX3_digestFrom 15 = .ok (.lmul, 1) := by decide +kernel
theorem dX3_digestFrom_16 : decode cX3_digestFrom 16 = .ok (.aload_n 0, 1) := by decide +kernel
theorem dX3_digestFrom_17 : decode cX3_digestFrom 17 = .ok (.getfield 37, 3) := by decide +kernel
theorem dX3_digestFrom_20 : decode cX3_digestFrom 20 = .ok (.iload 5, 2) := by decide +kernel
theorem dX3_digestFrom_22 : decode cX3_digestFrom 22 = .ok (.iaload, 1) := by decide +kernel
theorem dX3_digestFrom_23 : decode cX3_digestFrom 23 = .ok (.i2l, 1) := by decide +kernel
theorem dX3_digestFrom_24 : decode cX3_digestFrom 24 = .ok (.ladd, 1) := by decide +kernel
theorem dX3_digestFrom_25 : decode cX3_digestFrom 25 = .ok (.lstore_n 3, 1) := by decide +kernel
theorem dX3_digestFrom_26 : decode cX3_digestFrom 26 = .ok (.ldc2_w 122, 3) := by decide +kernel
theorem dX3_digestFrom_29 : decode cX3_digestFrom 29 = .ok (.lload_n 3, 1) := by decide +kernel
theorem dX3_digestFrom_30 : decode cX3_digestFrom 30 = .ok (.lmul, 1) := by decide +kernel
theorem dX3_digestFrom_31 : decode cX3_digestFrom 31 = .ok (.aload_n 0, 1) := by decide +kernel
theorem dX3_digestFrom_32 : decode cX3_digestFrom 32 = .ok (.getfield 40, 3) := by decide +kernel
theorem dX3_digestFrom_35 : decode cX3_digestFrom 35 = .ok (.iload 5, 2) := by decide +kernel
theorem dX3_digestFrom_37 : decode cX3_digestFrom 37 = .ok (.iaload, 1) := by decide +kernel
theorem dX3_digestFrom_38 : decode cX3_digestFrom 38 = .ok (.i2l, 1) := by decide +kernel
theorem dX3_digestFrom_39 : decode cX3_digestFrom 39 = .ok (.ladd, 1) := by decide +kernel
theorem dX3_digestFrom_40 : decode cX3_digestFrom 40 = .ok (.lstore_n 3, 1) := by decide +kernel
theorem dX3_digestFrom_41 : decode cX3_digestFrom 41 = .ok (.ldc2_w 122, 3) := by decide +kernel
theorem dX3_digestFrom_44 : decode cX3_digestFrom 44 = .ok (.lload_n 3, 1) := by decide +kernel
theorem dX3_digestFrom_45 : decode cX3_digestFrom 45 = .ok (.lmul, 1) := by decide +kernel
theorem dX3_digestFrom_46 : decode cX3_digestFrom 46 = .ok (.aload_n 0, 1) := by decide +kernel
theorem dX3_digestFrom_47 : decode cX3_digestFrom 47 = .ok (.getfield 43, 3) := by decide +kernel
theorem dX3_digestFrom_50 : decode cX3_digestFrom 50 = .ok (.iload 5, 2) := by decide +kernel
theorem dX3_digestFrom_52 : decode cX3_digestFrom 52 = .ok (.iaload, 1) := by decide +kernel
theorem dX3_digestFrom_53 : decode cX3_digestFrom 53 = .ok (.i2l, 1) := by decide +kernel
theorem dX3_digestFrom_54 : decode cX3_digestFrom 54 = .ok (.ladd, 1) := by decide +kernel
theorem dX3_digestFrom_55 : decode cX3_digestFrom 55 = .ok (.lstore_n 3, 1) := by decide +kernel
theorem dX3_digestFrom_56 : decode cX3_digestFrom 56 = .ok (.iinc 5 1, 3) := by decide +kernel
theorem dX3_digestFrom_59 : decode cX3_digestFrom 59 = .ok (.goto (-54), 3) := by decide +kernel
theorem dX3_digestFrom_62 : decode cX3_digestFrom 62 = .ok (.ldc2_w 122, 3) := by decide +kernel
theorem dX3_digestFrom_65 : decode cX3_digestFrom 65 = .ok (.lload_n 3, 1) := by decide +kernel
theorem dX3_digestFrom_66 : decode cX3_digestFrom 66 = .ok (.lmul, 1) := by decide +kernel
theorem dX3_digestFrom_67 : decode cX3_digestFrom 67 = .ok (.aload_n 0, 1) := by decide +kernel
theorem dX3_digestFrom_68 : decode cX3_digestFrom 68 = .ok (.getfield 64, 3) := by decide +kernel
theorem dX3_digestFrom_71 : decode cX3_digestFrom 71 = .ok (.i2l, 1) := by decide +kernel
theorem dX3_digestFrom_72 : decode cX3_digestFrom 72 = .ok (.ladd, 1) := by decide +kernel
theorem dX3_digestFrom_73 : decode cX3_digestFrom 73 = .ok (.lstore_n 3, 1) := by decide +kernel
theorem dX3_digestFrom_74 : decode cX3_digestFrom 74 = .ok (.ldc2_w 122, 3) := by decide +kernel
theorem dX3_digestFrom_77 : decode cX3_digestFrom 77 = .ok (.lload_n 3, 1) := by decide +kernel
theorem dX3_digestFrom_78 : decode cX3_digestFrom 78 = .ok (.lmul, 1) := by decide +kernel
theorem dX3_digestFrom_79 : decode cX3_digestFrom 79 = .ok (.aload_n 0, 1) := by decide +kernel
theorem dX3_digestFrom_80 : decode cX3_digestFrom 80 = .ok (.getfield 67, 3) := by decide +kernel
theorem dX3_digestFrom_83 : decode cX3_digestFrom 83 = .ok (.i2l, 1) := by decide +kernel
theorem dX3_digestFrom_84 : decode cX3_digestFrom 84 = .ok (.ladd, 1) := by decide +kernel
theorem dX3_digestFrom_85 : decode cX3_digestFrom 85 = .ok (.lstore_n 3, 1) := by decide +kernel
theorem dX3_digestFrom_86 : decode cX3_digestFrom 86 = .ok (.iconst 0, 1) := by decide +kernel
theorem dX3_digestFrom_87 : decode cX3_digestFrom 87 = .ok (.istore 5, 2) := by decide +kernel
theorem dX3_digestFrom_89 : decode cX3_digestFrom 89 = .ok (.iload 5, 2) := by decide +kernel
theorem dX3_digestFrom_91 : decode cX3_digestFrom 91 = .ok (.aload_n 0, 1) := by decide +kernel
theorem dX3_digestFrom_92 : decode cX3_digestFrom 92 = .ok (.getfield 61, 3) := by decide +kernel
theorem dX3_digestFrom_95 : decode cX3_digestFrom 95 = .ok (.if_icmp .ge 114, 3) := by decide +kernel
theorem dX3_digestFrom_98 : decode cX3_digestFrom 98 = .ok (.ldc2_w 122, 3) := by decide +kernel
theorem dX3_digestFrom_101 : decode cX3_digestFrom 101 = .ok (.lload_n 3, 1) := by decide +kernel
theorem dX3_digestFrom_102 : decode cX3_digestFrom 102 = .ok (.lmul, 1) := by decide +kernel
theorem dX3_digestFrom_103 : decode cX3_digestFrom 103 = .ok (.aload_n 0, 1) := by decide +kernel
theorem dX3_digestFrom_104 : decode cX3_digestFrom 104 = .ok (.getfield 15, 3) := by decide +kernel
theorem dX3_digestFrom_107 : decode cX3_digestFrom 107 = .ok (.iload 5, 2) := by decide +kernel
theorem dX3_digestFrom_109 : decode cX3_digestFrom 109 = .ok (.iaload, 1) := by decide +kernel
theorem dX3_digestFrom_110 : decode cX3_digestFrom 110 = .ok (.i2l, 1) := by decide +kernel
theorem dX3_digestFrom_111 : decode cX3_digestFrom 111 = .ok (.ladd, 1) := by decide +kernel
theorem dX3_digestFrom_112 : decode cX3_digestFrom 112 = .ok (.lstore_n 3, 1) := by decide +kernel
theorem dX3_digestFrom_113 : decode cX3_digestFrom 113 = .ok (.ldc2_w 122, 3) := by decide +kernel
theorem dX3_digestFrom_116 : decode cX3_digestFrom 116 = .ok (.lload_n 3, 1) := by decide +kernel
theorem dX3_digestFrom_117 : decode cX3_digestFrom 117 = .ok (.lmul, 1) := by decide +kernel
theorem dX3_digestFrom_118 : decode cX3_digestFrom 118 = .ok (.aload_n 0, 1) := by decide +kernel
theorem dX3_digestFrom_119 : decode cX3_digestFrom 119 = .ok (.getfield 19, 3) := by decide +kernel
theorem dX3_digestFrom_122 : decode cX3_digestFrom 122 = .ok (.iload 5, 2) := by decide +kernel
theorem dX3_digestFrom_124 : decode cX3_digestFrom 124 = .ok (.iaload, 1) := by decide +kernel
theorem dX3_digestFrom_125 : decode cX3_digestFrom 125 = .ok (.i2l, 1) := by decide +kernel
theorem dX3_digestFrom_126 : decode cX3_digestFrom 126 = .ok (.ladd, 1) := by decide +kernel
theorem dX3_digestFrom_127 : decode cX3_digestFrom 127 = .ok (.lstore_n 3, 1) := by decide +kernel
theorem dX3_digestFrom_128 : decode cX3_digestFrom 128 = .ok (.ldc2_w 122, 3) := by decide +kernel
theorem dX3_digestFrom_131 : decode cX3_digestFrom 131 = .ok (.lload_n 3, 1) := by decide +kernel
theorem dX3_digestFrom_132 : decode cX3_digestFrom 132 = .ok (.lmul, 1) := by decide +kernel
theorem dX3_digestFrom_133 : decode cX3_digestFrom 133 = .ok (.aload_n 0, 1) := by decide +kernel
theorem dX3_digestFrom_134 : decode cX3_digestFrom 134 = .ok (.getfield 22, 3) := by decide +kernel
theorem dX3_digestFrom_137 : decode cX3_digestFrom 137 = .ok (.iload 5, 2) := by decide +kernel
theorem dX3_digestFrom_139 : decode cX3_digestFrom 139 = .ok (.iaload, 1) := by decide +kernel
theorem dX3_digestFrom_140 : decode cX3_digestFrom 140 = .ok (.i2l, 1) := by decide +kernel
theorem dX3_digestFrom_141 : decode cX3_digestFrom 141 = .ok (.ladd, 1) := by decide +kernel
theorem dX3_digestFrom_142 : decode cX3_digestFrom 142 = .ok (.lstore_n 3, 1) := by decide +kernel
theorem dX3_digestFrom_143 : decode cX3_digestFrom 143 = .ok (.ldc2_w 122, 3) := by decide +kernel
theorem dX3_digestFrom_146 : decode cX3_digestFrom 146 = .ok (.lload_n 3, 1) := by decide +kernel
theorem dX3_digestFrom_147 : decode cX3_digestFrom 147 = .ok (.lmul, 1) := by decide +kernel
theorem dX3_digestFrom_148 : decode cX3_digestFrom 148 = .ok (.aload_n 0, 1) := by decide +kernel
theorem dX3_digestFrom_149 : decode cX3_digestFrom 149 = .ok (.getfield 25, 3) := by decide +kernel
theorem dX3_digestFrom_152 : decode cX3_digestFrom 152 = .ok (.iload 5, 2) := by decide +kernel
theorem dX3_digestFrom_154 : decode cX3_digestFrom 154 = .ok (.iaload, 1) := by decide +kernel
theorem dX3_digestFrom_155 : decode cX3_digestFrom 155 = .ok (.i2l, 1) := by decide +kernel
theorem dX3_digestFrom_156 : decode cX3_digestFrom 156 = .ok (.ladd, 1) := by decide +kernel
theorem dX3_digestFrom_157 : decode cX3_digestFrom 157 = .ok (.lstore_n 3, 1) := by decide +kernel
theorem dX3_digestFrom_158 : decode cX3_digestFrom 158 = .ok (.ldc2_w 122, 3) := by decide +kernel
theorem dX3_digestFrom_161 : decode cX3_digestFrom 161 = .ok (.lload_n 3, 1) := by decide +kernel
theorem dX3_digestFrom_162 : decode cX3_digestFrom 162 = .ok (.lmul, 1) := by decide +kernel
theorem dX3_digestFrom_163 : decode cX3_digestFrom 163 = .ok (.aload_n 0, 1) := by decide +kernel
theorem dX3_digestFrom_164 : decode cX3_digestFrom 164 = .ok (.getfield 28, 3) := by decide +kernel
theorem dX3_digestFrom_167 : decode cX3_digestFrom 167 = .ok (.iload 5, 2) := by decide +kernel
theorem dX3_digestFrom_169 : decode cX3_digestFrom 169 = .ok (.iaload, 1) := by decide +kernel
theorem dX3_digestFrom_170 : decode cX3_digestFrom 170 = .ok (.i2l, 1) := by decide +kernel
theorem dX3_digestFrom_171 : decode cX3_digestFrom 171 = .ok (.ladd, 1) := by decide +kernel
theorem dX3_digestFrom_172 : decode cX3_digestFrom 172 = .ok (.lstore_n 3, 1) := by decide +kernel
theorem dX3_digestFrom_173 : decode cX3_digestFrom 173 = .ok (.ldc2_w 122, 3) := by decide +kernel
theorem dX3_digestFrom_176 : decode cX3_digestFrom 176 = .ok (.lload_n 3, 1) := by decide +kernel
theorem dX3_digestFrom_177 : decode cX3_digestFrom 177 = .ok (.lmul, 1) := by decide +kernel
theorem dX3_digestFrom_178 : decode cX3_digestFrom 178 = .ok (.aload_n 0, 1) := by decide +kernel
theorem dX3_digestFrom_179 : decode cX3_digestFrom 179 = .ok (.getfield 31, 3) := by decide +kernel
theorem dX3_digestFrom_182 : decode cX3_digestFrom 182 = .ok (.iload 5, 2) := by decide +kernel
theorem dX3_digestFrom_184 : decode cX3_digestFrom 184 = .ok (.iaload, 1) := by decide +kernel
theorem dX3_digestFrom_185 : decode cX3_digestFrom 185 = .ok (.i2l, 1) := by decide +kernel
theorem dX3_digestFrom_186 : decode cX3_digestFrom 186 = .ok (.ladd, 1) := by decide +kernel
theorem dX3_digestFrom_187 : decode cX3_digestFrom 187 = .ok (.lstore_n 3, 1) := by decide +kernel
theorem dX3_digestFrom_188 : decode cX3_digestFrom 188 = .ok (.ldc2_w 122, 3) := by decide +kernel
theorem dX3_digestFrom_191 : decode cX3_digestFrom 191 = .ok (.lload_n 3, 1) := by decide +kernel
theorem dX3_digestFrom_192 : decode cX3_digestFrom 192 = .ok (.lmul, 1) := by decide +kernel
theorem dX3_digestFrom_193 : decode cX3_digestFrom 193 = .ok (.aload_n 0, 1) := by decide +kernel
theorem dX3_digestFrom_194 : decode cX3_digestFrom 194 = .ok (.getfield 34, 3) := by decide +kernel
theorem dX3_digestFrom_197 : decode cX3_digestFrom 197 = .ok (.iload 5, 2) := by decide +kernel
theorem dX3_digestFrom_199 : decode cX3_digestFrom 199 = .ok (.iaload, 1) := by decide +kernel
theorem dX3_digestFrom_200 : decode cX3_digestFrom 200 = .ok (.i2l, 1) := by decide +kernel
theorem dX3_digestFrom_201 : decode cX3_digestFrom 201 = .ok (.ladd, 1) := by decide +kernel
theorem dX3_digestFrom_202 : decode cX3_digestFrom 202 = .ok (.lstore_n 3, 1) := by decide +kernel
theorem dX3_digestFrom_203 : decode cX3_digestFrom 203 = .ok (.iinc 5 1, 3) := by decide +kernel
theorem dX3_digestFrom_206 : decode cX3_digestFrom 206 = .ok (.goto (-117), 3) := by decide +kernel
theorem dX3_digestFrom_209 : decode cX3_digestFrom 209 = .ok (.lload_n 3, 1) := by decide +kernel
theorem dX3_digestFrom_210 : decode cX3_digestFrom 210 = .ok (.lreturn, 1) := by decide +kernel
theorem dX4_init_0 : decode cX4_init 0 = .ok (.aload_n 0, 1) := by decide +kernel
theorem dX4_init_1 : decode cX4_init 1 = .ok (.invokespecial 3, 3) := by decide +kernel
theorem dX4_init_4 : decode cX4_init 4 = .ok (.aload_n 0, 1) := by decide +kernel
theorem dX4_init_5 : decode cX4_init 5 = .ok (.bipush 6, 2) := by decide +kernel
theorem dX4_init_7 : decode cX4_init 7 = .ok (.newarray .int, 2) := by decide +kernel
theorem dX4_init_9 : decode cX4_init 9 = .ok (.putfield 9, 3) := by decide +kernel
theorem dX4_init_12 : decode cX4_init 12 = .ok (.aload_n 0, 1) := by decide +kernel
theorem dX4_init_13 : decode cX4_init 13 = .ok (.bipush 56, 2) := by decide +kernel
theorem dX4_init_15 : decode cX4_init 15 = .ok (.newarray .int, 2) := by decide +kernel
theorem dX4_init_17 : decode cX4_init 17 = .ok (.putfield 15, 3) := by decide +kernel
theorem dX4_init_20 : decode cX4_init 20 = .ok (.aload_n 0, 1) := by decide +kernel
theorem dX4_init_21 : decode cX4_init 21 = .ok (.bipush 63, 2) := by decide +kernel
theorem dX4_init_23 : decode cX4_init 23 = .ok (.newarray .int, 2) := by decide +kernel
theorem dX4_init_25 : decode cX4_init 25 = .ok (.putfield 18, 3) := by decide +kernel
theorem dX4_init_28 : decode cX4_init 28 = .ok (.return_, 1) := by decide +kernel
theorem dX4_solve_0 : decode cX4_solve 0 = .ok (.aload_n 0, 1) := by decide +kernel
theorem dX4_solve_1 : decode cX4_solve 1 = .ok (.aload_n 1, 1) := by decide +kernel
theorem dX4_solve_2 : decode cX4_solve 2 = .ok (.invokevirtual 21, 3) := by decide +kernel
theorem dX4_solve_5 : decode cX4_solve 5 = .ok (.bipush 7, 2) := by decide +kernel
theorem dX4_solve_7 : decode cX4_solve 7 = .ok (.istore_n 3, 1) := by decide +kernel
theorem dX4_solve_8 : decode cX4_solve 8 = .ok (.iload_n 3, 1) := by decide +kernel
theorem dX4_solve_9 : decode cX4_solve 9 = .ok (.ifCond .lt 54, 3) := by decide +kernel
theorem dX4_solve_12 : decode cX4_solve 12 = .ok (.iconst 0, 1) := by decide +kernel
theorem dX4_solve_13 : decode cX4_solve 13 = .ok (.istore 4, 2) := by decide +kernel
theorem dX4_solve_15 : decode cX4_solve 15 = .ok (.iload 4, 2) := by decide +kernel
theorem dX4_solve_17 : decode cX4_solve 17 = .ok (.iload_n 2, 1) := by decide +kernel
theorem dX4_solve_18 : decode cX4_solve 18 = .ok (.if_icmp .gt 39, 3) := by decide +kernel
theorem dX4_solve_21 : decode cX4_solve 21 = .ok (.aload_n 0, 1) := by decide +kernel
theorem dX4_solve_22 : decode cX4_solve 22 = .ok (.iload_n 3, 1) := by decide +kernel
theorem dX4_solve_23 : decode cX4_solve 23 = .ok (.iload 4, 2) := by decide +kernel
theorem dX4_solve_25 : decode cX4_solve 25 = .ok (.invokevirtual 25, 3) := by decide +kernel
theorem dX4_solve_28 : decode cX4_solve 28 = .ok (.istore 5, 2) := by decide +kernel
theorem dX4_solve_30 : decode cX4_solve 30 = .ok (.aload_n 0, 1) := by decide +kernel
theorem dX4_solve_31 : decode cX4_solve 31 = .ok (.getfield 18, 3) := by decide +kernel
theorem dX4_solve_34 : decode cX4_solve 34 = .ok (.iload_n 3, 1) := by decide +kernel
theorem dX4_solve_35 : decode cX4_solve 35 = .ok (.bipush 7, 2) := by decide +kernel
theorem dX4_solve_37 : decode cX4_solve 37 = .ok (.imul, 1) := by decide +kernel
theorem dX4_solve_38 : decode cX4_solve 38 = .ok (.iload 4, 2) := by decide +kernel
theorem dX4_solve_40 : decode cX4_solve 40 = .ok (.iadd, 1) := by decide +kernel
theorem dX4_solve_41 : decode cX4_solve 41 = .ok (.aload_n 0, 1) := by decide +kernel
theorem dX4_solve_42 : decode cX4_solve 42 = .ok (.iload_n 3, 1) := by decide +kernel
theorem dX4_solve_43 : decode cX4_solve 43 = .ok (.iload 5, 2) := by decide +kernel
theorem dX4_solve_45 : decode cX4_solve 45 = .ok (.iload 4, 2) := by decide +kernel
theorem dX4_solve_47 : decode cX4_solve 47 = .ok (.invokevirtual 29, 3) := by decide +kernel
theorem dX4_solve_50 : decode cX4_solve 50 = .ok (.iastore, 1) := by decide +kernel
theorem dX4_solve_51 : decode cX4_solve 51 = .ok (.iinc 4 1, 3) := by decide +kernel
theorem dX4_solve_54 : decode cX4_solve 54 = .ok (.goto (-39), 3) := by decide +kernel
theorem dX4_solve_57 : decode cX4_solve 57 = .ok (.iinc 3 (-1), 3) := by decide +kernel
theorem dX4_solve_60 : decode cX4_solve 60 = .ok (.goto (-52), 3) := by decide +kernel
theorem dX4_solve_63 : decode cX4_solve 63 = .ok (.aload_n 0, 1) := by decide +kernel
theorem dX4_solve_64 : decode cX4_solve 64 = .ok (.aload_n 0, 1) := by decide +kernel
theorem dX4_solve_65 : decode cX4_solve 65 = .ok (.getfield 18, 3) := by decide +kernel
theorem dX4_solve_68 : decode cX4_solve 68 = .ok (.iload_n 2, 1) := by decide +kernel
theorem dX4_solve_69 : decode cX4_solve 69 = .ok (.iaload, 1) := by decide +kernel
theorem dX4_solve_70 : decode cX4_solve 70 = .ok (.putfield 33, 3) := by decide +kernel
theorem dX4_solve_73 : decode cX4_solve 73 = .ok (.aload_n 0, 1) := by decide +kernel
theorem dX4_solve_74 : decode cX4_solve 74 = .ok (.iload_n 2, 1) := by decide +kernel
theorem dX4_solve_75 : decode cX4_solve 75 = .ok (.invokevirtual 37, 3) := by decide +kernel
theorem dX4_solve_78 : decode cX4_solve 78 = .ok (.return_, 1) := by decide +kernel
theorem dX4_countSlips_0 : decode cX4_countSlips 0 = .ok (.aload_n 0, 1) := by decide +kernel
theorem dX4_countSlips_1 : decode cX4_countSlips 1 = .ok (.getfield 15, 3) := by decide +kernel
theorem dX4_countSlips_4 : decode cX4_countSlips 4 = .ok (.iconst 0, 1) := by decide +kernel
theorem dX4_countSlips_5 : decode cX4_countSlips 5 = .ok (.invokestatic 41, 3) := by decide +kernel
theorem dX4_countSlips_8 : decode cX4_countSlips 8 = .ok (.iconst 0, 1) := by decide +kernel
theorem dX4_countSlips_9 : decode cX4_countSlips 9 = .ok (.istore_n 2, 1) := by decide +kernel
theorem dX4_countSlips_10 : decode cX4_countSlips 10 = .ok (.iload_n 2, 1) := by decide +kernel
theorem dX4_countSlips_11 : decode cX4_countSlips 11 = .ok (.aload_n 1, 1) := by decide +kernel
theorem dX4_countSlips_12 : decode cX4_countSlips 12 = .ok (.getfield 47, 3) := by decide +kernel
theorem dX4_countSlips_15 : decode cX4_countSlips 15 = .ok (.if_icmp .ge 96, 3) := by decide +kernel
theorem dX4_countSlips_18 : decode cX4_countSlips 18 = .ok (.aload_n 1, 1) := by decide +kernel
theorem dX4_countSlips_19 : decode cX4_countSlips 19 = .ok (.iload_n 2, 1) := by decide +kernel
theorem dX4_countSlips_20 : decode cX4_countSlips 20 = .ok (.invokevirtual 52, 3) := by decide +kernel
theorem dX4_countSlips_23 : decode cX4_countSlips 23 = .ok (.ifCond .eq 24, 3) := by decide +kernel
theorem dX4_countSlips_26 : decode cX4_countSlips 26 = .ok (.aload_n 0, 1) := by decide +kernel
theorem dX4_countSlips_27 : decode cX4_countSlips 27 = .ok (.getfield 15, 3) := by decide +kernel
theorem dX4_countSlips_30 : decode cX4_countSlips 30 = .ok (.aload_n 1, 1) := by decide +kernel
theorem dX4_countSlips_31 : decode cX4_countSlips 31 = .ok (.getfield 56, 3) := by decide +kernel
theorem dX4_countSlips_34 : decode cX4_countSlips 34 = .ok (.iload_n 2, 1) := by decide +kernel
theorem dX4_countSlips_35 : decode cX4_countSlips 35 = .ok (.iaload, 1) := by decide +kernel
theorem dX4_countSlips_36 : decode cX4_countSlips 36 = .ok (.bipush 8, 2) := by decide +kernel
theorem dX4_countSlips_38 : decode cX4_countSlips 38 = .ok (.idiv, 1) := by decide +kernel
theorem dX4_countSlips_39 : decode cX4_countSlips 39 = .ok (.bipush 7, 2) := by decide +kernel
theorem dX4_countSlips_41 : decode cX4_countSlips 41 = .ok (.imul, 1) := by decide +kernel
theorem dX4_countSlips_42 : decode cX4_countSlips 42 = .ok (.dup2, 1) := by decide +kernel
theorem dX4_countSlips_43 : decode cX4_countSlips 43 = .ok (.iaload, 1) := by decide +kernel
theorem dX4_countSlips_44 : decode cX4_countSlips 44 = .ok (.iconst 1, 1) := by decide +kernel
theorem dX4_countSlips_45 : decode cX4_countSlips 45 = .ok (.iadd, 1) := by decide +kernel
theorem dX4_countSlips_46 : decode cX4_countSlips 46 = .ok (.iastore, 1) := by decide +kernel
theorem dX4_countSlips_47 : decode cX4_countSlips 47 = .ok (.iload_n 2, 1) := by decide +kernel
theorem dX4_countSlips_48 : decode cX4_countSlips 48 = .ok (.iconst 1, 1) := by decide +kernel
theorem dX4_countSlips_49 : decode cX4_countSlips 49 = .ok (.iadd, 1) := by decide +kernel
theorem dX4_countSlips_50 : decode cX4_countSlips 50 = .ok (.istore_n 3, 1) := by decide +kernel
theorem dX4_countSlips_51 : decode cX4_countSlips 51 = .ok (.iload_n 3, 1) := by decide +kernel
theorem dX4_countSlips_52 : decode cX4_countSlips 52 = .ok (.aload_n 1, 1) := by decide +kernel
theorem dX4_countSlips_53 : decode cX4_countSlips 53 = .ok (.getfield 47, 3) := by decide +kernel
theorem dX4_countSlips_56 : decode cX4_countSlips 56 = .ok (.if_icmp .ge 49, 3) := by decide +kernel
theorem dX4_countSlips_59 : decode cX4_countSlips 59 = .ok (.aload_n 1, 1) := by decide +kernel
theorem dX4_countSlips_60 : decode cX4_countSlips 60 = .ok (.iload_n 2, 1) := by decide +kernel
theorem dX4_countSlips_61 : decode cX4_countSlips 61 = .ok (.iload_n 3, 1) := by decide +kernel
theorem dX4_countSlips_62 : decode cX4_countSlips 62 = .ok (.invokevirtual 59, 3) := by decide +kernel
theorem dX4_countSlips_65 : decode cX4_countSlips 65 = .ok (.iconst (-1), 1) := by decide +kernel
theorem dX4_countSlips_66 : decode cX4_countSlips 66 = .ok (.if_icmp .eq 33, 3) := by decide +kernel
theorem dX4_countSlips_69 : decode cX4_countSlips 69 = .ok (.aload_n 0, 1) := by decide +kernel
theorem dX4_countSlips_70 : decode cX4_countSlips 70 = .ok (.getfield 15, 3) := by decide +kernel
theorem dX4_countSlips_73 : decode cX4_countSlips 73 = .ok (.aload_n 1, 1) := by decide +kernel
theorem dX4_countSlips_74 : decode cX4_countSlips 74 = .ok (.getfield 56, 3) := by decide +kernel
theorem dX4_countSlips_77 : decode cX4_countSlips 77 = .ok (.iload_n 2, 1) := by decide +kernel
theorem dX4_countSlips_78 : decode cX4_countSlips 78 = .ok (.iaload, 1) := by decide +kernel
theorem dX4_countSlips_79 : decode cX4_countSlips 79 = .ok (.aload_n 1, 1) := by decide +kernel
theorem dX4_countSlips_80 : decode cX4_countSlips 80 = .ok (.getfield 56, 3) := by decide +kernel
theorem dX4_countSlips_83 : decode cX4_countSlips 83 = .ok (.iload_n 3, 1) := by decide +kernel
theorem dX4_countSlips_84 : decode cX4_countSlips 84 = .ok (.iaload, 1) := by decide +kernel
theorem dX4_countSlips_85 : decode cX4_countSlips 85 = .ok (.invokestatic 62, 3) := by decide +kernel
theorem dX4_countSlips_88 : decode cX4_countSlips 88 = .ok (.bipush 8, 2) := by decide +kernel
theorem dX4_countSlips_90 : decode cX4_countSlips 90 = .ok (.idiv, 1) := by decide +kernel
theorem dX4_countSlips_91 : decode cX4_countSlips 91 = .ok (.bipush 7, 2) := by decide +kernel
theorem dX4_countSlips_93 : decode cX4_countSlips 93 = .ok (.imul, 1) := by decide +kernel
theorem dX4_countSlips_94 : decode cX4_countSlips 94 = .ok (.dup2, 1) := by decide +kernel
theorem dX4_countSlips_95 : decode cX4_countSlips 95 = .ok (.iaload, 1) := by decide +kernel
theorem dX4_countSlips_96 : decode cX4_countSlips 96 = .ok (.iconst 4, 1) := by decide +kernel
theorem dX4_countSlips_97 : decode cX4_countSlips 97 = .ok (.iadd, 1) := by decide +kernel
theorem dX4_countSlips_98 : decode cX4_countSlips 98 = .ok (.iastore, 1) := by decide +kernel
theorem dX4_countSlips_99 : decode cX4_countSlips 99 = .ok (.iinc 3 1, 3) := by decide +kernel
theorem dX4_countSlips_102 : decode cX4_countSlips 102 = .ok (.goto (-51), 3) := by decide +kernel
theorem dX4_countSlips_105 : decode cX4_countSlips 105 = .ok (.iinc 2 1, 3) := by decide +kernel
theorem dX4_countSlips_108 : decode cX4_countSlips 108 = .ok (.goto (-98), 3) := by decide +kernel
theorem dX4_countSlips_111 : decode cX4_countSlips 111 = .ok (.iconst 0, 1) := by decide +kernel
theorem dX4_countSlips_112 : decode cX4_countSlips 112 = .ok (.istore_n 2, 1) := by decide +kernel
theorem dX4_countSlips_113 : decode cX4_countSlips 113 = .ok (.iload_n 2, 1) := by decide +kernel
theorem dX4_countSlips_114 : decode cX4_countSlips 114 = .ok (.bipush 8, 2) := by decide +kernel
theorem dX4_countSlips_116 : decode cX4_countSlips 116 = .ok (.if_icmp .ge 51, 3) := by decide +kernel
theorem dX4_countSlips_119 : decode cX4_countSlips 119 = .ok (.iconst 1, 1) := by decide +kernel
theorem dX4_countSlips_120 : decode cX4_countSlips 120 = .ok (.istore_n 3, 1) := by decide +kernel
theorem dX4_countSlips_121 : decode cX4_countSlips 121 = .ok (.iload_n 3, 1) := by decide +kernel
theorem dX4_countSlips_122 : decode cX4_countSlips 122 = .ok (.bipush 6, 2) := by decide +kernel
theorem dX4_countSlips_124 : decode cX4_countSlips 124 = .ok (.if_icmp .gt 37, 3) := by decide +kernel
theorem dX4_countSlips_127 : decode cX4_countSlips 127 = .ok (.aload_n 0, 1) := by decide +kernel
theorem dX4_countSlips_128 : decode cX4_countSlips 128 = .ok (.getfield 15, 3) := by decide +kernel
theorem dX4_countSlips_131 : decode cX4_countSlips 131 = .ok (.iload_n 2, 1) := by decide +kernel
theorem dX4_countSlips_132 : decode cX4_countSlips 132 = .ok (.bipush 7, 2) := by decide +kernel
theorem dX4_countSlips_134 : decode cX4_countSlips 134 = .ok (.imul, 1) := by decide +kernel
theorem dX4_countSlips_135 : decode cX4_countSlips 135 = .ok (.iload_n 3, 1) := by decide +kernel
theorem dX4_countSlips_136 : decode cX4_countSlips 136 = .ok (.iadd, 1) := by decide +kernel
theorem dX4_countSlips_137 : decode cX4_countSlips 137 = .ok (.aload_n 0, 1) := by decide +kernel
theorem dX4_countSlips_138 : decode cX4_countSlips 138 = .ok (.getfield 15, 3) := by decide +kernel
theorem dX4_countSlips_141 : decode cX4_countSlips 141 = .ok (.iload_n 2, 1) := by decide +kernel
theorem dX4_countSlips_142 : decode cX4_countSlips 142 = .ok (.bipush 7, 2) := by decide +kernel
theorem dX4_countSlips_144 : decode cX4_countSlips 144 = .ok (.imul, 1) := by decide +kernel
theorem dX4_countSlips_145 : decode cX4_countSlips 145 = .ok (.iload_n 3, 1) := by decide +kernel
theorem dX4_countSlips_146 : decode cX4_countSlips 146 = .ok (.iadd, 1) := by decide +kernel
theorem dX4_countSlips_147 : decode cX4_countSlips 147 = .ok (.iconst 1, 1) := by decide +kernel
theorem dX4_countSlips_148 : decode cX4_countSlips 148 = .ok (.isub, 1) := by decide +kernel
theorem dX4_countSlips_149 : decode cX4_countSlips 149 = .ok (.iaload, 1) := by decide +kernel
theorem dX4_countSlips_150 : decode cX4_countSlips 150 = .ok (.iconst 3, 1) := by decide +kernel
theorem dX4_countSlips_151 : decode cX4_countSlips 151 = .ok (.imul, 1) := by decide +kernel
theorem dX4_countSlips_152 : decode cX4_countSlips 152 = .ok (.iconst 4, 1) := by decide +kernel
theorem dX4_countSlips_153 : decode cX4_countSlips 153 = .ok (.idiv, 1) := by decide +kernel
theorem dX4_countSlips_154 : decode cX4_countSlips 154 = .ok (.iastore, 1) := by decide +kernel
theorem dX4_countSlips_155 : decode cX4_countSlips 155 = .ok (.iinc 3 1, 3) := by decide +kernel
theorem dX4_countSlips_158 : decode cX4_countSlips 158 = .ok (.goto (-37), 3) := by decide +kernel
theorem dX4_countSlips_161 : decode cX4_countSlips 161 = .ok (.iinc 2 1, 3) := by decide +kernel
theorem dX4_countSlips_164 : decode cX4_countSlips 164 = .ok (.goto (-51), 3) := by decide +kernel
theorem dX4_countSlips_167 : decode cX4_countSlips 167 = .ok (.return_, 1) := by decide +kernel
theorem dX4_leaves_0 : decode cX4_leaves 0 = .ok (.aload_n 0, 1) := by decide +kernel
theorem dX4_leaves_1 : decode cX4_leaves 1 = .ok (.getfield 15, 3) := by decide +kernel
theorem dX4_leaves_4 : decode cX4_leaves 4 = .ok (.iload_n 1, 1) := by decide +kernel
theorem dX4_leaves_5 : decode cX4_leaves 5 = .ok (.bipush 7, 2) := by decide +kernel
theorem dX4_leaves_7 : decode cX4_leaves 7 = .ok (.imul, 1) := by decide +kernel
theorem dX4_leaves_8 : decode cX4_leaves 8 = .ok (.iload_n 2, 1) := by decide +kernel
theorem dX4_leaves_9 : decode cX4_leaves 9 = .ok (.iadd, 1) := by decide +kernel
theorem dX4_leaves_10 : decode cX4_leaves 10 = .ok (.iaload, 1) := by decide +kernel
theorem dX4_leaves_11 : decode cX4_leaves 11 = .ok (.aload_n 0, 1) := by decide +kernel
theorem dX4_leaves_12 : decode cX4_leaves 12 = .ok (.getfield 18, 3) := by decide +kernel
theorem dX4_leaves_15 : decode cX4_leaves 15 = .ok (.iload_n 1, 1) := by decide +kernel
theorem dX4_leaves_16 : decode cX4_leaves 16 = .ok (.iconst 1, 1) := by decide +kernel
theorem dX4_leaves_17 : decode cX4_leaves 17 = .ok (.iadd, 1) := by decide +kernel
theorem dX4_leaves_18 : decode cX4_leaves 18 = .ok (.bipush 7, 2) := by decide +kernel
theorem dX4_leaves_20 : decode cX4_leaves 20 = .ok (.imul, 1) := by decide +kernel
theorem dX4_leaves_21 : decode cX4_leaves 21 = .ok (.iload_n 3, 1) := by decide +kernel
theorem dX4_leaves_22 : decode cX4_leaves 22 = .ok (.iadd, 1) := by decide +kernel
theorem dX4_leaves_23 : decode cX4_leaves 23 = .ok (.iload_n 2, 1) := by decide +kernel
theorem dX4_leaves_24 : decode cX4_leaves 24 = .ok (.isub, 1) := by decide +kernel
theorem dX4_leaves_25 : decode cX4_leaves 25 = .ok (.iaload, 1) := by decide +kernel
theorem dX4_leaves_26 : decode cX4_leaves 26 = .ok (.iadd, 1) := by decide +kernel
theorem dX4_leaves_27 : decode cX4_leaves 27 = .ok (.ireturn, 1) := by decide +kernel
theorem dX4_hoursHere_0 : decode cX4_hoursHere 0 = .ok (.iload_n 2, 1) := by decide +kernel
theorem dX4_hoursHere_1 : decode cX4_hoursHere 1 = .ok (.istore_n 3, 1) := by decide +kernel
theorem dX4_hoursHere_2 : decode cX4_hoursHere 2 = .ok (.iload_n 2, 1) := by decide +kernel
theorem dX4_hoursHere_3 : decode cX4_hoursHere 3 = .ok (.iconst 1, 1) := by decide +kernel
theorem dX4_hoursHere_4 : decode cX4_hoursHere 4 = .ok (.isub, 1) := by decide +kernel
theorem dX4_hoursHere_5 : decode cX4_hoursHere 5 = .ok (.istore 4, 2) := by decide +kernel
theorem dX4_hoursHere_7 : decode cX4_hoursHere 7 = .ok (.iload 4, 2) := by decide +kernel
theorem dX4_hoursHere_9 : decode cX4_hoursHere 9 = .ok (.ifCond .lt 36, 3) := by decide +kernel
theorem dX4_hoursHere_12 : decode cX4_hoursHere 12 = .ok (.iload_n 1, 1) := by decide +kernel
theorem dX4_hoursHere_13 : decode cX4_hoursHere 13 = .ok (.bipush 7, 2) := by decide +kernel
theorem dX4_hoursHere_15 : decode cX4_hoursHere 15 = .ok (.if_icmp .ge 30, 3) := by decide +kernel
theorem dX4_hoursHere_18 : decode cX4_hoursHere 18 = .ok (.aload_n 0, 1) := by decide +kernel
theorem dX4_hoursHere_19 : decode cX4_hoursHere 19 = .ok (.iload_n 1, 1) := by decide +kernel
theorem dX4_hoursHere_20 : decode cX4_hoursHere 20 = .ok (.iload 4, 2) := by decide +kernel
theorem dX4_hoursHere_22 : decode cX4_hoursHere 22 = .ok (.iload_n 2, 1) := by decide +kernel
theorem dX4_hoursHere_23 : decode cX4_hoursHere 23 = .ok (.invokevirtual 29, 3) := by decide +kernel
theorem dX4_hoursHere_26 : decode cX4_hoursHere 26 = .ok (.aload_n 0, 1) := by decide +kernel
theorem dX4_hoursHere_27 : decode cX4_hoursHere 27 = .ok (.iload_n 1, 1) := by decide +kernel
theorem dX4_hoursHere_28 : decode cX4_hoursHere 28 = .ok (.iload_n 3, 1) := by decide +kernel
theorem dX4_hoursHere_29 : decode cX4_hoursHere 29 = .ok (.iload_n 2, 1) := by decide +kernel
theorem dX4_hoursHere_30 : decode cX4_hoursHere 30 = .ok (.invokevirtual 29, 3) := by decide +kernel
theorem dX4_hoursHere_33 : decode cX4_hoursHere 33 = .ok (.if_icmp .ge 6, 3) := by decide +kernel
theorem dX4_hoursHere_36 : decode cX4_hoursHere 36 = .ok (.iload 4, 2) := by decide +kernel
theorem dX4_hoursHere_38 : decode cX4_hoursHere 38 = .ok (.istore_n 3, 1) := by decide +kernel
theorem dX4_hoursHere_39 : decode cX4_hoursHere 39 = .ok (.iinc 4 (-1), 3) := by decide +kernel
theorem dX4_hoursHere_42 : decode cX4_hoursHere 42 = .ok (.goto (-35), 3) := by decide +kernel
theorem dX4_hoursHere_45 : decode cX4_hoursHere 45 = .ok (.iload_n 3, 1) := by decide +kernel
theorem dX4_hoursHere_46 : decode cX4_hoursHere 46 = .ok (.ireturn, 1) := by decide +kernel
theorem dX4_fillRow_0 : decode cX4_fillRow 0 = .ok (.iconst 0, 1) := by decide +kernel
theorem dX4_fillRow_1 : decode cX4_fillRow 1 = .ok (.istore_n 2, 1) := by decide +kernel
theorem dX4_fillRow_2 : decode cX4_fillRow 2 = .ok (.iconst 0, 1) := by decide +kernel
theorem dX4_fillRow_3 : decode cX4_fillRow 3 = .ok (.istore_n 3, 1) := by decide +kernel
theorem dX4_fillRow_4 : decode cX4_fillRow 4 = .ok (.iload_n 3, 1) := by decide +kernel
theorem dX4_fillRow_5 : decode cX4_fillRow 5 = .ok (.bipush 8, 2) := by decide +kernel
theorem dX4_fillRow_7 : decode cX4_fillRow 7 = .ok (.if_icmp .ge 50, 3) := by decide +kernel
theorem dX4_fillRow_10 : decode cX4_fillRow 10 = .ok (.aload_n 0, 1) := by decide +kernel
theorem dX4_fillRow_11 : decode cX4_fillRow 11 = .ok (.iload_n 3, 1) := by decide +kernel
theorem dX4_fillRow_12 : decode cX4_fillRow 12 = .ok (.iload_n 1, 1) := by decide +kernel
theorem dX4_fillRow_13 : decode cX4_fillRow 13 = .ok (.iload_n 2, 1) := by decide +kernel
theorem dX4_fillRow_14 : decode cX4_fillRow 14 = .ok (.isub, 1) := by decide +kernel
theorem dX4_fillRow_15 : decode cX4_fillRow 15 = .ok (.invokevirtual 25, 3) := by decide +kernel
theorem dX4_fillRow_18 : decode cX4_fillRow 18 = .ok (.istore 4, 2) := by decide +kernel
theorem dX4_fillRow_20 : decode cX4_fillRow 20 = .ok (.iconst 0, 1) := by decide +kernel
theorem dX4_fillRow_21 : decode cX4_fillRow 21 = .ok (.istore 5, 2) := by decide +kernel
theorem dX4_fillRow_23 : decode cX4_fillRow 23 = .ok (.iload 5, 2) := by decide +kernel
theorem dX4_fillRow_25 : decode cX4_fillRow 25 = .ok (.iload 4, 2) := by decide +kernel
theorem dX4_fillRow_27 : decode cX4_fillRow 27 = .ok (.if_icmp .ge 24, 3) := by decide +kernel
theorem dX4_fillRow_30 : decode cX4_fillRow 30 = .ok (.iload_n 2, 1) := by decide +kernel
theorem dX4_fillRow_31 : decode cX4_fillRow 31 = .ok (.iload_n 1, 1) := by decide +kernel
theorem dX4_fillRow_32 : decode cX4_fillRow 32 = .ok (.if_icmp .ge 19, 3) := by decide +kernel
theorem dX4_fillRow_35 : decode cX4_fillRow 35 = .ok (.aload_n 0, 1) := by decide +kernel
theorem dX4_fillRow_36 : decode cX4_fillRow 36 = .ok (.getfield 9, 3) := by decide +kernel
theorem dX4_fillRow_39 : decode cX4_fillRow 39 = .ok (.iload_n 2, 1) := by decide +kernel
theorem dX4_fillRow_40 : decode cX4_fillRow 40 = .ok (.iload_n 3, 1) := by decide +kernel
theorem dX4_fillRow_41 : decode cX4_fillRow 41 = .ok (.iastore, 1) := by decide +kernel
theorem dX4_fillRow_42 : decode cX4_fillRow 42 = .ok (.iinc 2 1, 3) := by decide +kernel
theorem dX4_fillRow_45 : decode cX4_fillRow 45 = .ok (.iinc 5 1, 3) := by decide +kernel
theorem dX4_fillRow_48 : decode cX4_fillRow 48 = .ok (.goto (-25), 3) := by decide +kernel
theorem dX4_fillRow_51 : decode cX4_fillRow 51 = .ok (.iinc 3 1, 3) := by decide +kernel
theorem dX4_fillRow_54 : decode cX4_fillRow 54 = .ok (.goto (-50), 3) := by decide +kernel
theorem dX4_fillRow_57 : decode cX4_fillRow 57 = .ok (.return_, 1) := by decide +kernel
theorem dX5_init_0 : decode cX5_init 0 = .ok (.aload_n 0, 1) := by decide +kernel
theorem dX5_init_1 : decode cX5_init 1 = .ok (.invokespecial 3, 3) := by decide +kernel
theorem dX5_init_4 : decode cX5_init 4 = .ok (.aload_n 0, 1) := by decide +kernel
theorem dX5_init_5 : decode cX5_init 5 = .ok (.sipush 150, 3) := by decide +kernel
theorem dX5_init_8 : decode cX5_init 8 = .ok (.newarray .int, 2) := by decide +kernel
theorem dX5_init_10 : decode cX5_init 10 = .ok (.putfield 9, 3) := by decide +kernel
theorem dX5_init_13 : decode cX5_init 13 = .ok (.aload_n 0, 1) := by decide +kernel
theorem dX5_init_14 : decode cX5_init 14 = .ok (.bipush 6, 2) := by decide +kernel
theorem dX5_init_16 : decode cX5_init 16 = .ok (.newarray .int, 2) := by decide +kernel
theorem dX5_init_18 : decode cX5_init 18 = .ok (.putfield 15, 3) := by decide +kernel
theorem dX5_init_21 : decode cX5_init 21 = .ok (.return_, 1) := by decide +kernel
theorem dX5_append_0 : decode cX5_append 0 = .ok (.aload_n 0, 1) := by decide +kernel
theorem dX5_append_1 : decode cX5_append 1 = .ok (.getfield 18, 3) := by decide +kernel
theorem dX5_append_4 : decode cX5_append 4 = .ok (.sipush 150, 3) := by decide +kernel
theorem dX5_append_7 : decode cX5_append 7 = .ok (.if_icmp .ge 23, 3) := by decide +kernel
theorem dX5_append_10 : decode cX5_append 10 = .ok (.aload_n 0, 1) := by decide +kernel
theorem dX5_append_11 : decode cX5_append 11 = .ok (.getfield 9, 3) := by decide +kernel
theorem dX5_append_14 : decode cX5_append 14 = .ok (.aload_n 0, 1) := by decide +kernel
theorem dX5_append_15 : decode cX5_append 15 = .ok (.getfield 18, 3) := by decide +kernel
theorem dX5_append_18 : decode cX5_append 18 = .ok (.iload_n 1, 1) := by decide +kernel
theorem dX5_append_19 : decode cX5_append 19 = .ok (.iastore, 1) := by decide +kernel
theorem dX5_append_20 : decode cX5_append 20 = .ok (.aload_n 0, 1) := by decide +kernel
theorem dX5_append_21 : decode cX5_append 21 = .ok (.dup, 1) := by decide +kernel
theorem dX5_append_22 : decode cX5_append 22 = .ok (.getfield 18, 3) := by decide +kernel
theorem dX5_append_25 : decode cX5_append 25 = .ok (.iconst 1, 1) := by decide +kernel
theorem dX5_append_26 : decode cX5_append 26 = .ok (.iadd, 1) := by decide +kernel
theorem dX5_append_27 : decode cX5_append 27 = .ok (.putfield 18, 3) := by decide +kernel
theorem dX5_append_30 : decode cX5_append 30 = .ok (.return_, 1) := by decide +kernel
theorem dX5_readInto_0 : decode cX5_readInto 0 = .ok (.aload_n 0, 1) := by decide +kernel
theorem dX5_readInto_1 : decode cX5_readInto 1 = .ok (.iconst 0, 1) := by decide +kernel
theorem dX5_readInto_2 : decode cX5_readInto 2 = .ok (.putfield 22, 3) := by decide +kernel
theorem dX5_readInto_5 : decode cX5_readInto 5 = .ok (.iconst 0, 1) := by decide +kernel
theorem dX5_readInto_6 : decode cX5_readInto 6 = .ok (.istore_n 2, 1) := by decide +kernel
theorem dX5_readInto_7 : decode cX5_readInto 7 = .ok (.iload_n 2, 1) := by decide +kernel
theorem dX5_readInto_8 : decode cX5_readInto 8 = .ok (.sipush 150, 3) := by decide +kernel
theorem dX5_readInto_11 : decode cX5_readInto 11 = .ok (.if_icmp .gt 46, 3) := by decide +kernel
theorem dX5_readInto_14 : decode cX5_readInto 14 = .ok (.aload_n 0, 1) := by decide +kernel
theorem dX5_readInto_15 : decode cX5_readInto 15 = .ok (.invokevirtual 25, 3) := by decide +kernel
theorem dX5_readInto_18 : decode cX5_readInto 18 = .ok (.aload_n 0, 1) := by decide +kernel
theorem dX5_readInto_19 : decode cX5_readInto 19 = .ok (.getfield 28, 3) := by decide +kernel
theorem dX5_readInto_22 : decode cX5_readInto 22 = .ok (.ifCond .ne 9, 3) := by decide +kernel
theorem dX5_readInto_25 : decode cX5_readInto 25 = .ok (.iload_n 2, 1) := by decide +kernel
theorem dX5_readInto_26 : decode cX5_readInto 26 = .ok (.ifCond .le 5, 3) := by decide +kernel
theorem dX5_readInto_29 : decode cX5_readInto 29 = .ok (.iload_n 2, 1) := by decide +kernel
theorem dX5_readInto_30 : decode cX5_readInto 30 = .ok (.ireturn, 1) := by decide +kernel
theorem dX5_readInto_31 : decode cX5_readInto 31 = .ok (.aload_n 0, 1) := by decide +kernel
theorem dX5_readInto_32 : decode cX5_readInto 32 = .ok (.aload_n 1, 1) := by decide +kernel
theorem dX5_readInto_33 : decode cX5_readInto 33 = .ok (.iload_n 2, 1) := by decide +kernel
theorem dX5_readInto_34 : decode cX5_readInto 34 = .ok (.ifCond .ne 7, 3) := by decide +kernel
theorem dX5_readInto_37 : decode cX5_readInto 37 = .ok (.iconst 1, 1) := by decide +kernel
theorem dX5_readInto_38 : decode cX5_readInto 38 = .ok (.goto 4, 3) := by decide +kernel
theorem dX5_readInto_41 : decode cX5_readInto 41 = .ok (.iconst 0, 1) := by decide +kernel
theorem dX5_readInto_42 : decode cX5_readInto 42 = .ok (.invokevirtual 31, 3) := by decide +kernel
theorem dX5_readInto_45 : decode cX5_readInto 45 = .ok (.ifCond .ne 6, 3) := by decide +kernel
theorem dX5_readInto_48 : decode cX5_readInto 48 = .ok (.goto 9, 3) := by decide +kernel
theorem dX5_readInto_51 : decode cX5_readInto 51 = .ok (.iinc 2 1, 3) := by decide +kernel
theorem dX5_readInto_54 : decode cX5_readInto 54 = .ok (.goto (-47), 3) := by decide +kernel
theorem dX5_readInto_57 : decode cX5_readInto 57 = .ok (.bipush (-10), 2) := by decide +kernel
theorem dX5_readInto_59 : decode cX5_readInto 59 = .ok (.aload_n 0, 1) := by decide +kernel
theorem dX5_readInto_60 : decode cX5_readInto 60 = .ok (.getfield 35, 3) := by decide +kernel
theorem dX5_readInto_63 : decode cX5_readInto 63 = .ok (.isub, 1) := by decide +kernel
theorem dX5_readInto_64 : decode cX5_readInto 64 = .ok (.ireturn, 1) := by decide +kernel
theorem dX5_readItem_0 : decode cX5_readItem 0 = .ok (.iload_n 2, 1) := by decide +kernel
theorem dX5_readItem_1 : decode cX5_readItem 1 = .ok (.aload_n 0, 1) := by decide +kernel
theorem dX5_readItem_2 : decode cX5_readItem 2 = .ok (.ldc 38, 2) := by decide +kernel
theorem dX5_readItem_4 : decode cX5_readItem 4 = .ok (.invokevirtual 40, 3) := by decide +kernel
theorem dX5_readItem_7 : decode cX5_readItem 7 = .ok (.if_icmp .eq 5, 3) := by decide +kernel
theorem dX5_readItem_10 : decode cX5_readItem 10 = .ok (.iconst 0, 1) := by decide +kernel
theorem dX5_readItem_11 : decode cX5_readItem 11 = .ok (.ireturn, 1) := by decide +kernel
theorem dX5_readItem_12 : decode cX5_readItem 12 = .ok (.aload_n 0, 1) := by decide +kernel
theorem dX5_readItem_13 : decode cX5_readItem 13 = .ok (.iconst 0, 1) := by decide +kernel
theorem dX5_readItem_14 : decode cX5_readItem 14 = .ok (.putfield 44, 3) := by decide +kernel
theorem dX5_readItem_17 : decode cX5_readItem 17 = .ok (.iload_n 2, 1) := by decide +kernel
theorem dX5_readItem_18 : decode cX5_readItem 18 = .ok (.ifCond .eq 9, 3) := by decide +kernel
theorem dX5_readItem_21 : decode cX5_readItem 21 = .ok (.aload_n 0, 1) := by decide +kernel
theorem dX5_readItem_22 : decode cX5_readItem 22 = .ok (.aload_n 1, 1) := by decide +kernel
theorem dX5_readItem_23 : decode cX5_readItem 23 = .ok (.invokevirtual 47, 3) := by decide +kernel
theorem dX5_readItem_26 : decode cX5_readItem 26 = .ok (.ireturn, 1) := by decide +kernel
theorem dX5_readItem_27 : decode cX5_readItem 27 = .ok (.aload_n 0, 1) := by decide +kernel
theorem dX5_readItem_28 : decode cX5_readItem 28 = .ok (.ldc 51, 2) := by decide +kernel
theorem dX5_readItem_30 : decode cX5_readItem 30 = .ok (.invokevirtual 40, 3) := by decide +kernel
theorem dX5_readItem_33 : decode cX5_readItem 33 = .ok (.ifCond .eq 9, 3) := by decide +kernel
theorem dX5_readItem_36 : decode cX5_readItem 36 = .ok (.aload_n 0, 1) := by decide +kernel
theorem dX5_readItem_37 : decode cX5_readItem 37 = .ok (.aload_n 1, 1) := by decide +kernel
theorem dX5_readItem_38 : decode cX5_readItem 38 = .ok (.invokevirtual 53, 3) := by decide +kernel
theorem dX5_readItem_41 : decode cX5_readItem 41 = .ok (.ireturn, 1) := by decide +kernel
theorem dX5_readItem_42 : decode cX5_readItem 42 = .ok (.aload_n 0, 1) := by decide +kernel
theorem dX5_readItem_43 : decode cX5_readItem 43 = .ok (.ldc 56, 2) := by decide +kernel
theorem dX5_readItem_45 : decode cX5_readItem 45 = .ok (.invokevirtual 40, 3) := by decide +kernel
theorem dX5_readItem_48 : decode cX5_readItem 48 = .ok (.ifCond .eq 24, 3) := by decide +kernel
theorem dX5_readItem_51 : decode cX5_readItem 51 = .ok (.aload_n 1, 1) := by decide +kernel
theorem dX5_readItem_52 : decode cX5_readItem 52 = .ok (.getfield 58, 3) := by decide +kernel
theorem dX5_readItem_55 : decode cX5_readItem 55 = .ok (.bipush 12, 2) := by decide +kernel
theorem dX5_readItem_57 : decode cX5_readItem 57 = .ok (.if_icmp .ge 15, 3) := by decide +kernel
theorem dX5_readItem_60 : decode cX5_readItem 60 = .ok (.aload_n 0, 1) := by decide +kernel
theorem dX5_readItem_61 : decode cX5_readItem 61 = .ok (.aload_n 1, 1) := by decide +kernel
theorem dX5_readItem_62 : decode cX5_readItem 62 = .ok (.invokevirtual 63, 3) := by decide +kernel
theorem dX5_readItem_65 : decode cX5_readItem 65 = .ok (.ifCond .eq 7, 3) := by decide +kernel
theorem dX5_readItem_68 : decode cX5_readItem 68 = .ok (.iconst 1, 1) := by decide +kernel
theorem dX5_readItem_69 : decode cX5_readItem 69 = .ok (.goto 4, 3) := by decide +kernel
theorem dX5_readItem_72 : decode cX5_readItem 72 = .ok (.iconst 0, 1) := by decide +kernel
theorem dX5_readItem_73 : decode cX5_readItem 73 = .ok (.ireturn, 1) := by decide +kernel
theorem dX5_readPiece_0 : decode cX5_readPiece 0 = .ok (.aload_n 0, 1) := by decide +kernel
theorem dX5_readPiece_1 : decode cX5_readPiece 1 = .ok (.iconst 0, 1) := by decide +kernel
theorem dX5_readPiece_2 : decode cX5_readPiece 2 = .ok (.bipush 9, 2) := by decide +kernel
theorem dX5_readPiece_4 : decode cX5_readPiece 4 = .ok (.invokevirtual 66, 3) := by decide +kernel
theorem dX5_readPiece_7 : decode cX5_readPiece 7 = .ok (.ifCond .eq 10, 3) := by decide +kernel
theorem dX5_readPiece_10 : decode cX5_readPiece 10 = .ok (.aload_n 0, 1) := by decide +kernel
theorem dX5_readPiece_11 : decode cX5_readPiece 11 = .ok (.invokevirtual 70, 3) := by decide +kernel
theorem dX5_readPiece_14 : decode cX5_readPiece 14 = .ok (.ifCond .ne 5, 3) := by decide +kernel
theorem dX5_readPiece_17 : decode cX5_readPiece 17 = .ok (.iconst 0, 1) := by decide +kernel
theorem dX5_readPiece_18 : decode cX5_readPiece 18 = .ok (.ireturn, 1) := by decide +kernel
theorem dX5_readPiece_19 : decode cX5_readPiece 19 = .ok (.aload_n 1, 1) := by decide +kernel
theorem dX5_readPiece_20 : decode cX5_readPiece 20 = .ok (.aload_n 0, 1) := by decide +kernel
theorem dX5_readPiece_21 : decode cX5_readPiece 21 = .ok (.getfield 15, 3) := by decide +kernel
theorem dX5_readPiece_24 : decode cX5_readPiece 24 = .ok (.iconst 0, 1) := by decide +kernel
theorem dX5_readPiece_25 : decode cX5_readPiece 25 = .ok (.iaload, 1) := by decide +kernel
theorem dX5_readPiece_26 : decode cX5_readPiece 26 = .ok (.invokevirtual 74, 3) := by decide +kernel
theorem dX5_readPiece_29 : decode cX5_readPiece 29 = .ok (.iconst 1, 1) := by decide +kernel
theorem dX5_readPiece_30 : decode cX5_readPiece 30 = .ok (.ireturn, 1) := by decide +kernel
theorem dX5_readHand_0 : decode cX5_readHand 0 = .ok (.aload_n 0, 1) := by decide +kernel
theorem dX5_readHand_1 : decode cX5_readHand 1 = .ok (.iconst 0, 1) := by decide +kernel
theorem dX5_readHand_2 : decode cX5_readHand 2 = .ok (.iconst 3, 1) := by decide +kernel
theorem dX5_readHand_3 : decode cX5_readHand 3 = .ok (.invokevirtual 66, 3) := by decide +kernel
theorem dX5_readHand_6 : decode cX5_readHand 6 = .ok (.ifCond .eq 39, 3) := by decide +kernel
theorem dX5_readHand_9 : decode cX5_readHand 9 = .ok (.aload_n 0, 1) := by decide +kernel
theorem dX5_readHand_10 : decode cX5_readHand 10 = .ok (.iconst 0, 1) := by decide +kernel
theorem dX5_readHand_11 : decode cX5_readHand 11 = .ok (.iconst 5, 1) := by decide +kernel
theorem dX5_readHand_12 : decode cX5_readHand 12 = .ok (.invokevirtual 66, 3) := by decide +kernel
theorem dX5_readHand_15 : decode cX5_readHand 15 = .ok (.ifCond .eq 30, 3) := by decide +kernel
theorem dX5_readHand_18 : decode cX5_readHand 18 = .ok (.aload_n 0, 1) := by decide +kernel
theorem dX5_readHand_19 : decode cX5_readHand 19 = .ok (.iconst 0, 1) := by decide +kernel
theorem dX5_readHand_20 : decode cX5_readHand 20 = .ok (.bipush 15, 2) := by decide +kernel
theorem dX5_readHand_22 : decode cX5_readHand 22 = .ok (.invokevirtual 66, 3) := by decide +kernel
theorem dX5_readHand_25 : decode cX5_readHand 25 = .ok (.ifCond .eq 20, 3) := by decide +kernel
theorem dX5_readHand_28 : decode cX5_readHand 28 = .ok (.aload_n 0, 1) := by decide +kernel
theorem dX5_readHand_29 : decode cX5_readHand 29 = .ok (.iconst 1, 1) := by decide +kernel
theorem dX5_readHand_30 : decode cX5_readHand 30 = .ok (.bipush 9, 2) := by decide +kernel
theorem dX5_readHand_32 : decode cX5_readHand 32 = .ok (.invokevirtual 66, 3) := by decide +kernel
theorem dX5_readHand_35 : decode cX5_readHand 35 = .ok (.ifCond .eq 10, 3) := by decide +kernel
theorem dX5_readHand_38 : decode cX5_readHand 38 = .ok (.aload_n 0, 1) := by decide +kernel
theorem dX5_readHand_39 : decode cX5_readHand 39 = .ok (.invokevirtual 70, 3) := by decide +kernel
theorem dX5_readHand_42 : decode cX5_readHand 42 = .ok (.ifCond .ne 5, 3) := by decide +kernel
theorem dX5_readHand_45 : decode cX5_readHand 45 = .ok (.iconst 0, 1) := by decide +kernel
theorem dX5_readHand_46 : decode cX5_readHand 46 = .ok (.ireturn, 1) := by decide +kernel
theorem dX5_readHand_47 : decode cX5_readHand 47 = .ok (.aload_n 1, 1) := by decide +kernel
theorem dX5_readHand_48 : decode cX5_readHand 48 = .ok (.aload_n 0, 1) := by decide +kernel
theorem dX5_readHand_49 : decode cX5_readHand 49 = .ok (.getfield 15, 3) := by decide +kernel
theorem dX5_readHand_52 : decode cX5_readHand 52 = .ok (.iconst 0, 1) := by decide +kernel
theorem dX5_readHand_53 : decode cX5_readHand 53 = .ok (.iaload, 1) := by decide +kernel
theorem dX5_readHand_54 : decode cX5_readHand 54 = .ok (.aload_n 0, 1) := by decide +kernel
theorem dX5_readHand_55 : decode cX5_readHand 55 = .ok (.getfield 15, 3) := by decide +kernel
theorem dX5_readHand_58 : decode cX5_readHand 58 = .ok (.iconst 1, 1) := by decide +kernel
theorem dX5_readHand_59 : decode cX5_readHand 59 = .ok (.iaload, 1) := by decide +kernel
theorem dX5_readHand_60 : decode cX5_readHand 60 = .ok (.aload_n 0, 1) := by decide +kernel
theorem dX5_readHand_61 : decode cX5_readHand 61 = .ok (.getfield 15, 3) := by decide +kernel
theorem dX5_readHand_64 : decode cX5_readHand 64 = .ok (.iconst 2, 1) := by decide +kernel
theorem dX5_readHand_65 : decode cX5_readHand 65 = .ok (.iaload, 1) := by decide +kernel
theorem dX5_readHand_66 : decode cX5_readHand 66 = .ok (.aload_n 0, 1) := by decide +kernel
theorem dX5_readHand_67 : decode cX5_readHand 67 = .ok (.getfield 15, 3) := by decide +kernel
theorem dX5_readHand_70 : decode cX5_readHand 70 = .ok (.iconst 3, 1) := by decide +kernel
theorem dX5_readHand_71 : decode cX5_readHand 71 = .ok (.iaload, 1) := by decide +kernel
theorem dX5_readHand_72 : decode cX5_readHand 72 = .ok (.invokevirtual 78, 3) := by decide +kernel
theorem dX5_readHand_75 : decode cX5_readHand 75 = .ok (.iconst 1, 1) := by decide +kernel
theorem dX5_readHand_76 : decode cX5_readHand 76 = .ok (.ireturn, 1) := by decide +kernel
theorem dX5_readNote_0 : decode cX5_readNote 0 = .ok (.aload_n 0, 1) := by decide +kernel
theorem dX5_readNote_1 : decode cX5_readNote 1 = .ok (.iconst 0, 1) := by decide +kernel
theorem dX5_readNote_2 : decode cX5_readNote 2 = .ok (.bipush 47, 2) := by decide +kernel
theorem dX5_readNote_4 : decode cX5_readNote 4 = .ok (.invokevirtual 66, 3) := by decide +kernel
theorem dX5_readNote_7 : decode cX5_readNote 7 = .ok (.ifCond .eq 65, 3) := by decide +kernel
theorem dX5_readNote_10 : decode cX5_readNote 10 = .ok (.aload_n 0, 1) := by decide +kernel
theorem dX5_readNote_11 : decode cX5_readNote 11 = .ok (.iconst 0, 1) := by decide +kernel
theorem dX5_readNote_12 : decode cX5_readNote 12 = .ok (.bipush 63, 2) := by decide +kernel
theorem dX5_readNote_14 : decode cX5_readNote 14 = .ok (.invokevirtual 66, 3) := by decide +kernel
theorem dX5_readNote_17 : decode cX5_readNote 17 = .ok (.ifCond .eq 55, 3) := by decide +kernel
theorem dX5_readNote_20 : decode cX5_readNote 20 = .ok (.aload_n 0, 1) := by decide +kernel
theorem dX5_readNote_21 : decode cX5_readNote 21 = .ok (.iconst 1, 1) := by decide +kernel
theorem dX5_readNote_22 : decode cX5_readNote 22 = .ok (.aload_n 0, 1) := by decide +kernel
theorem dX5_readNote_23 : decode cX5_readNote 23 = .ok (.getfield 15, 3) := by decide +kernel
theorem dX5_readNote_26 : decode cX5_readNote 26 = .ok (.iconst 1, 1) := by decide +kernel
theorem dX5_readNote_27 : decode cX5_readNote 27 = .ok (.iaload, 1) := by decide +kernel
theorem dX5_readNote_28 : decode cX5_readNote 28 = .ok (.invokestatic 82, 3) := by decide +kernel
theorem dX5_readNote_31 : decode cX5_readNote 31 = .ok (.invokevirtual 66, 3) := by decide +kernel
theorem dX5_readNote_34 : decode cX5_readNote 34 = .ok (.ifCond .eq 38, 3) := by decide +kernel
theorem dX5_readNote_37 : decode cX5_readNote 37 = .ok (.aload_n 0, 1) := by decide +kernel
theorem dX5_readNote_38 : decode cX5_readNote 38 = .ok (.iconst 0, 1) := by decide +kernel
theorem dX5_readNote_39 : decode cX5_readNote 39 = .ok (.iconst 1, 1) := by decide +kernel
theorem dX5_readNote_40 : decode cX5_readNote 40 = .ok (.invokevirtual 66, 3) := by decide +kernel
theorem dX5_readNote_43 : decode cX5_readNote 43 = .ok (.ifCond .eq 29, 3) := by decide +kernel
theorem dX5_readNote_46 : decode cX5_readNote 46 = .ok (.aload_n 0, 1) := by decide +kernel
theorem dX5_readNote_47 : decode cX5_readNote 47 = .ok (.iconst 0, 1) := by decide +kernel
theorem dX5_readNote_48 : decode cX5_readNote 48 = .ok (.bipush 9, 2) := by decide +kernel
theorem dX5_readNote_50 : decode cX5_readNote 50 = .ok (.invokevirtual 66, 3) := by decide +kernel
theorem dX5_readNote_53 : decode cX5_readNote 53 = .ok (.ifCond .eq 19, 3) := by decide +kernel
theorem dX5_readNote_56 : decode cX5_readNote 56 = .ok (.aload_n 0, 1) := by decide +kernel
theorem dX5_readNote_57 : decode cX5_readNote 57 = .ok (.iconst 0, 1) := by decide +kernel
theorem dX5_readNote_58 : decode cX5_readNote 58 = .ok (.iconst 4, 1) := by decide +kernel
theorem dX5_readNote_59 : decode cX5_readNote 59 = .ok (.invokevirtual 66, 3) := by decide +kernel
theorem dX5_readNote_62 : decode cX5_readNote 62 = .ok (.ifCond .eq 10, 3) := by decide +kernel
theorem dX5_readNote_65 : decode cX5_readNote 65 = .ok (.aload_n 0, 1) := by decide +kernel
theorem dX5_readNote_66 : decode cX5_readNote 66 = .ok (.invokevirtual 70, 3) := by decide +kernel
theorem dX5_readNote_69 : decode cX5_readNote 69 = .ok (.ifCond .ne 5, 3) := by decide +kernel
theorem dX5_readNote_72 : decode cX5_readNote 72 = .ok (.iconst 0, 1) := by decide +kernel
theorem dX5_readNote_73 : decode cX5_readNote 73 = .ok (.ireturn, 1) := by decide +kernel
theorem dX5_readNote_74 : decode cX5_readNote 74 = .ok (.aload_n 0, 1) := by decide +kernel
theorem dX5_readNote_75 : decode cX5_readNote 75 = .ok (.getfield 15, 3) := by decide +kernel
theorem dX5_readNote_78 : decode cX5_readNote 78 = .ok (.iconst 5, 1) := by decide +kernel
theorem dX5_readNote_79 : decode cX5_readNote 79 = .ok (.iaload, 1) := by decide +kernel
theorem dX5_readNote_80 : decode cX5_readNote 80 = .ok (.iconst 4, 1) := by decide +kernel
theorem dX5_readNote_81 : decode cX5_readNote 81 = .ok (.if_icmp .ne 7, 3) := by decide +kernel
theorem dX5_readNote_84 : decode cX5_readNote 84 = .ok (.iconst (-1), 1) := by decide +kernel
theorem dX5_readNote_85 : decode cX5_readNote 85 = .ok (.goto 9, 3) := by decide +kernel
theorem dX5_readNote_88 : decode cX5_readNote 88 = .ok (.aload_n 0, 1) := by decide +kernel
theorem dX5_readNote_89 : decode cX5_readNote 89 = .ok (.getfield 15, 3) := by decide +kernel
theorem dX5_readNote_92 : decode cX5_readNote 92 = .ok (.iconst 5, 1) := by decide +kernel
theorem dX5_readNote_93 : decode cX5_readNote 93 = .ok (.iaload, 1) := by decide +kernel
theorem dX5_readNote_94 : decode cX5_readNote 94 = .ok (.istore_n 2, 1) := by decide +kernel
theorem dX5_readNote_95 : decode cX5_readNote 95 = .ok (.aload_n 1, 1) := by decide +kernel
theorem dX5_readNote_96 : decode cX5_readNote 96 = .ok (.aload_n 0, 1) := by decide +kernel
theorem dX5_readNote_97 : decode cX5_readNote 97 = .ok (.getfield 15, 3) := by decide +kernel
theorem dX5_readNote_100 : decode cX5_readNote 100 = .ok (.iconst 0, 1) := by decide +kernel
theorem dX5_readNote_101 : decode cX5_readNote 101 = .ok (.iaload, 1) := by decide +kernel
theorem dX5_readNote_102 : decode cX5_readNote 102 = .ok (.aload_n 0, 1) := by decide +kernel
theorem dX5_readNote_103 : decode cX5_readNote 103 = .ok (.getfield 15, 3) := by decide +kernel
theorem dX5_readNote_106 : decode cX5_readNote 106 = .ok (.iconst 1, 1) := by decide +kernel
theorem dX5_readNote_107 : decode cX5_readNote 107 = .ok (.iaload, 1) := by decide +kernel
theorem dX5_readNote_108 : decode cX5_readNote 108 = .ok (.aload_n 0, 1) := by decide +kernel
theorem dX5_readNote_109 : decode cX5_readNote 109 = .ok (.getfield 15, 3) := by decide +kernel
theorem dX5_readNote_112 : decode cX5_readNote 112 = .ok (.iconst 2, 1) := by decide +kernel
theorem dX5_readNote_113 : decode cX5_readNote 113 = .ok (.iaload, 1) := by decide +kernel
theorem dX5_readNote_114 : decode cX5_readNote 114 = .ok (.aload_n 0, 1) := by decide +kernel
theorem dX5_readNote_115 : decode cX5_readNote 115 = .ok (.getfield 15, 3) := by decide +kernel
theorem dX5_readNote_118 : decode cX5_readNote 118 = .ok (.iconst 3, 1) := by decide +kernel
theorem dX5_readNote_119 : decode cX5_readNote 119 = .ok (.iaload, 1) := by decide +kernel
theorem dX5_readNote_120 : decode cX5_readNote 120 = .ok (.aload_n 0, 1) := by decide +kernel
theorem dX5_readNote_121 : decode cX5_readNote 121 = .ok (.getfield 15, 3) := by decide +kernel
theorem dX5_readNote_124 : decode cX5_readNote 124 = .ok (.iconst 4, 1) := by decide +kernel
theorem dX5_readNote_125 : decode cX5_readNote 125 = .ok (.iaload, 1) := by decide +kernel
theorem dX5_readNote_126 : decode cX5_readNote 126 = .ok (.iload_n 2, 1) := by decide +kernel
theorem dX5_readNote_127 : decode cX5_readNote 127 = .ok (.invokevirtual 86, 3) := by decide +kernel
theorem dX5_readNote_130 : decode cX5_readNote 130 = .ok (.iconst 1, 1) := by decide +kernel
theorem dX5_readNote_131 : decode cX5_readNote 131 = .ok (.ireturn, 1) := by decide +kernel
theorem dX5_takeNumber_0 : decode cX5_takeNumber 0 = .ok (.aload_n 0, 1) := by decide +kernel
theorem dX5_takeNumber_1 : decode cX5_takeNumber 1 = .ok (.invokevirtual 25, 3) := by decide +kernel
theorem dX5_takeNumber_4 : decode cX5_takeNumber 4 = .ok (.aload_n 0, 1) := by decide +kernel
theorem dX5_takeNumber_5 : decode cX5_takeNumber 5 = .ok (.invokevirtual 90, 3) := by decide +kernel
theorem dX5_takeNumber_8 : decode cX5_takeNumber 8 = .ok (.istore_n 3, 1) := by decide +kernel
theorem dX5_takeNumber_9 : decode cX5_takeNumber 9 = .ok (.iload_n 3, 1) := by decide +kernel
theorem dX5_takeNumber_10 : decode cX5_takeNumber 10 = .ok (.iload_n 1, 1) := by decide +kernel
theorem dX5_takeNumber_11 : decode cX5_takeNumber 11 = .ok (.iload_n 2, 1) := by decide +kernel
theorem dX5_takeNumber_12 : decode cX5_takeNumber 12 = .ok (.invokestatic 94, 3) := by decide +kernel
theorem dX5_takeNumber_15 : decode cX5_takeNumber 15 = .ok (.ifCond .eq 12, 3) := by decide +kernel
theorem dX5_takeNumber_18 : decode cX5_takeNumber 18 = .ok (.aload_n 0, 1) := by decide +kernel
theorem dX5_takeNumber_19 : decode cX5_takeNumber 19 = .ok (.getfield 44, 3) := by decide +kernel
theorem dX5_takeNumber_22 : decode cX5_takeNumber 22 = .ok (.bipush 6, 2) := by decide +kernel
theorem dX5_takeNumber_24 : decode cX5_takeNumber 24 = .ok (.if_icmp .lt 5, 3) := by decide +kernel
theorem dX5_takeNumber_27 : decode cX5_takeNumber 27 = .ok (.iconst 0, 1) := by decide +kernel
theorem dX5_takeNumber_28 : decode cX5_takeNumber 28 = .ok (.ireturn, 1) := by decide +kernel
theorem dX5_takeNumber_29 : decode cX5_takeNumber 29 = .ok (.aload_n 0, 1) := by decide +kernel
theorem dX5_takeNumber_30 : decode cX5_takeNumber 30 = .ok (.getfield 15, 3) := by decide +kernel
theorem dX5_takeNumber_33 : decode cX5_takeNumber 33 = .ok (.aload_n 0, 1) := by decide +kernel
theorem dX5_takeNumber_34 : decode cX5_takeNumber 34 = .ok (.getfield 44, 3) := by decide +kernel
theorem dX5_takeNumber_37 : decode cX5_takeNumber 37 = .ok (.iload_n 3, 1) := by decide +kernel
theorem dX5_takeNumber_38 : decode cX5_takeNumber 38 = .ok (.iastore, 1) := by decide +kernel
theorem dX5_takeNumber_39 : decode cX5_takeNumber 39 = .ok (.aload_n 0, 1) := by decide +kernel
theorem dX5_takeNumber_40 : decode cX5_takeNumber 40 = .ok (.dup, 1) := by decide +kernel
theorem dX5_takeNumber_41 : decode cX5_takeNumber 41 = .ok (.getfield 44, 3) := by decide +kernel
theorem dX5_takeNumber_44 : decode cX5_takeNumber 44 = .ok (.iconst 1, 1) := by decide +kernel
theorem dX5_takeNumber_45 : decode cX5_takeNumber 45 = .ok (.iadd, 1) := by decide +kernel
theorem dX5_takeNumber_46 : decode cX5_takeNumber 46 = .ok (.putfield 44, 3) := by decide +kernel
theorem dX5_takeNumber_49 : decode cX5_takeNumber 49 = .ok (.iconst 1, 1) := by decide +kernel
theorem dX5_takeNumber_50 : decode cX5_takeNumber 50 = .ok (.ireturn, 1) := by decide +kernel
theorem dX5_takeStop_0 : decode cX5_takeStop 0 = .ok (.aload_n 0, 1) := by decide +kernel
theorem dX5_takeStop_1 : decode cX5_takeStop 1 = .ok (.invokevirtual 25, 3) := by decide +kernel
theorem dX5_takeStop_4 : decode cX5_takeStop 4 = .ok (.aload_n 0, 1) := by decide +kernel
theorem dX5_takeStop_5 : decode cX5_takeStop 5 = .ok (.getfield 28, 3) := by decide +kernel
theorem dX5_takeStop_8 : decode cX5_takeStop 8 = .ok (.iconst 3, 1) := by decide +kernel
theorem dX5_takeStop_9 : decode cX5_takeStop 9 = .ok (.if_icmp .ne 7, 3) := by decide +kernel
theorem dX5_takeStop_12 : decode cX5_takeStop 12 = .ok (.iconst 1, 1) := by decide +kernel
theorem dX5_takeStop_13 : decode cX5_takeStop 13 = .ok (.goto 4, 3) := by decide +kernel
theorem dX5_takeStop_16 : decode cX5_takeStop 16 = .ok (.iconst 0, 1) := by decide +kernel
theorem dX5_takeStop_17 : decode cX5_takeStop 17 = .ok (.ireturn, 1) := by decide +kernel
theorem dX5_takeToken_0 : decode cX5_takeToken 0 = .ok (.aload_n 0, 1) := by decide +kernel
theorem dX5_takeToken_1 : decode cX5_takeToken 1 = .ok (.getfield 22, 3) := by decide +kernel
theorem dX5_takeToken_4 : decode cX5_takeToken 4 = .ok (.aload_n 0, 1) := by decide +kernel
theorem dX5_takeToken_5 : decode cX5_takeToken 5 = .ok (.getfield 18, 3) := by decide +kernel
theorem dX5_takeToken_8 : decode cX5_takeToken 8 = .ok (.if_icmp .ge 30, 3) := by decide +kernel
theorem dX5_takeToken_11 : decode cX5_takeToken 11 = .ok (.aload_n 0, 1) := by decide +kernel
theorem dX5_takeToken_12 : decode cX5_takeToken 12 = .ok (.getfield 9, 3) := by decide +kernel
theorem dX5_takeToken_15 : decode cX5_takeToken 15 = .ok (.aload_n 0, 1) := by decide +kernel
theorem dX5_takeToken_16 : decode cX5_takeToken 16 = .ok (.getfield 22, 3) := by decide +kernel
theorem dX5_takeToken_19 : decode cX5_takeToken 19 = .ok (.iaload, 1) := by decide +kernel
theorem dX5_takeToken_20 : decode cX5_takeToken 20 = .ok (.bipush 32, 2) := by decide +kernel
theorem dX5_takeToken_22 : decode cX5_takeToken 22 = .ok (.if_icmp .ne 16, 3) := by decide +kernel
theorem dX5_takeToken_25 : decode cX5_takeToken 25 = .ok (.aload_n 0, 1) := by decide +kernel
theorem dX5_takeToken_26 : decode cX5_takeToken 26 = .ok (.dup, 1) := by decide +kernel
theorem dX5_takeToken_27 : decode cX5_takeToken 27 = .ok (.getfield 22, 3) := by decide +kernel
theorem dX5_takeToken_30 : decode cX5_takeToken 30 = .ok (.iconst 1, 1) := by decide +kernel
theorem dX5_takeToken_31 : decode cX5_takeToken 31 = .ok (.iadd, 1) := by decide +kernel
theorem dX5_takeToken_32 : decode cX5_takeToken 32 = .ok (.putfield 22, 3) := by decide +kernel
theorem dX5_takeToken_35 : decode cX5_takeToken 35 = .ok (.goto (-35), 3) := by decide +kernel
theorem dX5_takeToken_38 : decode cX5_takeToken 38 = .ok (.aload_n 0, 1) := by decide +kernel
theorem dX5_takeToken_39 : decode cX5_takeToken 39 = .ok (.aload_n 0, 1) := by decide +kernel
theorem dX5_takeToken_40 : decode cX5_takeToken 40 = .ok (.getfield 22, 3) := by decide +kernel
theorem dX5_takeToken_43 : decode cX5_takeToken 43 = .ok (.putfield 35, 3) := by decide +kernel
theorem dX5_takeToken_46 : decode cX5_takeToken 46 = .ok (.aload_n 0, 1) := by decide +kernel
theorem dX5_takeToken_47 : decode cX5_takeToken 47 = .ok (.aload_n 0, 1) := by decide +kernel
theorem dX5_takeToken_48 : decode cX5_takeToken 48 = .ok (.aload_n 0, 1) := by decide +kernel
theorem dX5_takeToken_49 : decode cX5_takeToken 49 = .ok (.getfield 22, 3) := by decide +kernel
theorem dX5_takeToken_52 : decode cX5_takeToken 52 = .ok (.invokevirtual 98, 3) := by decide +kernel
theorem dX5_takeToken_55 : decode cX5_takeToken 55 = .ok (.putfield 28, 3) := by decide +kernel
theorem dX5_takeToken_58 : decode cX5_takeToken 58 = .ok (.aload_n 0, 1) := by decide +kernel
theorem dX5_takeToken_59 : decode cX5_takeToken 59 = .ok (.getfield 28, 3) := by decide +kernel
theorem dX5_takeToken_62 : decode cX5_takeToken 62 = .ok (.iconst 3, 1) := by decide +kernel
theorem dX5_takeToken_63 : decode cX5_takeToken 63 = .ok (.if_icmp .eq 11, 3) := by decide +kernel
theorem dX5_takeToken_66 : decode cX5_takeToken 66 = .ok (.aload_n 0, 1) := by decide +kernel
theorem dX5_takeToken_67 : decode cX5_takeToken 67 = .ok (.getfield 28, 3) := by decide +kernel
theorem dX5_takeToken_70 : decode cX5_takeToken 70 = .ok (.iconst 4, 1) := by decide +kernel
theorem dX5_takeToken_71 : decode cX5_takeToken 71 = .ok (.if_icmp .ne 13, 3) := by decide +kernel
theorem dX5_takeToken_74 : decode cX5_takeToken 74 = .ok (.aload_n 0, 1) := by decide +kernel
theorem dX5_takeToken_75 : decode cX5_takeToken 75 = .ok (.dup, 1) := by decide +kernel
theorem dX5_takeToken_76 : decode cX5_takeToken 76 = .ok (.getfield 22, 3) := by decide +kernel
theorem dX5_takeToken_79 : decode cX5_takeToken 79 = .ok (.iconst 1, 1) := by decide +kernel
theorem dX5_takeToken_80 : decode cX5_takeToken 80 = .ok (.iadd, 1) := by decide +kernel
theorem dX5_takeToken_81 : decode cX5_takeToken 81 = .ok (.putfield 22, 3) := by decide +kernel
theorem dX5_takeToken_84 : decode cX5_takeToken 84 = .ok (.aload_n 0, 1) := by decide +kernel
theorem dX5_takeToken_85 : decode cX5_takeToken 85 = .ok (.getfield 28, 3) := by decide +kernel
theorem dX5_takeToken_88 : decode cX5_takeToken 88 = .ok (.iconst 1, 1) := by decide +kernel
theorem dX5_takeToken_89 : decode cX5_takeToken 89 = .ok (.if_icmp .eq 11, 3) := by decide +kernel
theorem dX5_takeToken_92 : decode cX5_takeToken 92 = .ok (.aload_n 0, 1) := by decide +kernel
theorem dX5_takeToken_93 : decode cX5_takeToken 93 = .ok (.getfield 28, 3) := by decide +kernel
theorem dX5_takeToken_96 : decode cX5_takeToken 96 = .ok (.iconst 2, 1) := by decide +kernel
theorem dX5_takeToken_97 : decode cX5_takeToken 97 = .ok (.if_icmp .ne 42, 3) := by decide +kernel
theorem dX5_takeToken_100 : decode cX5_takeToken 100 = .ok (.aload_n 0, 1) := by decide +kernel
theorem dX5_takeToken_101 : decode cX5_takeToken 101 = .ok (.getfield 22, 3) := by decide +kernel
theorem dX5_takeToken_104 : decode cX5_takeToken 104 = .ok (.aload_n 0, 1) := by decide +kernel
theorem dX5_takeToken_105 : decode cX5_takeToken 105 = .ok (.getfield 18, 3) := by decide +kernel
theorem dX5_takeToken_108 : decode cX5_takeToken 108 = .ok (.if_icmp .ge 31, 3) := by decide +kernel
theorem dX5_takeToken_111 : decode cX5_takeToken 111 = .ok (.aload_n 0, 1) := by decide +kernel
theorem dX5_takeToken_112 : decode cX5_takeToken 112 = .ok (.aload_n 0, 1) := by decide +kernel
theorem dX5_takeToken_113 : decode cX5_takeToken 113 = .ok (.getfield 22, 3) := by decide +kernel
theorem dX5_takeToken_116 : decode cX5_takeToken 116 = .ok (.invokevirtual 98, 3) := by decide +kernel
theorem dX5_takeToken_119 : decode cX5_takeToken 119 = .ok (.aload_n 0, 1) := by decide +kernel
theorem dX5_takeToken_120 : decode cX5_takeToken 120 = .ok (.getfield 28, 3) := by decide +kernel
theorem dX5_takeToken_123 : decode cX5_takeToken 123 = .ok (.if_icmp .ne 16, 3) := by decide +kernel
theorem dX5_takeToken_126 : decode cX5_takeToken 126 = .ok (.aload_n 0, 1) := by decide +kernel
theorem dX5_takeToken_127 : decode cX5_takeToken 127 = .ok (.dup, 1) := by decide +kernel
theorem dX5_takeToken_128 : decode cX5_takeToken 128 = .ok (.getfield 22, 3) := by decide +kernel
theorem dX5_takeToken_131 : decode cX5_takeToken 131 = .ok (.iconst 1, 1) := by decide +kernel
theorem dX5_takeToken_132 : decode cX5_takeToken 132 = .ok (.iadd, 1) := by decide +kernel
theorem dX5_takeToken_133 : decode cX5_takeToken 133 = .ok (.putfield 22, 3) := by decide +kernel
theorem dX5_takeToken_136 : decode cX5_takeToken 136 = .ok (.goto (-52), 3) := by decide +kernel
theorem dX5_takeToken_139 : decode cX5_takeToken 139 = .ok (.return_, 1) := by decide +kernel
theorem dX5_sortAt_0 : decode cX5_sortAt 0 = .ok (.iload_n 1, 1) := by decide +kernel
theorem dX5_sortAt_1 : decode cX5_sortAt 1 = .ok (.ifCond .lt 11, 3) := by decide +kernel
theorem dX5_sortAt_4 : decode cX5_sortAt 4 = .ok (.iload_n 1, 1) := by decide +kernel
theorem dX5_sortAt_5 : decode cX5_sortAt 5 = .ok (.aload_n 0, 1) := by decide +kernel
theorem dX5_sortAt_6 : decode cX5_sortAt 6 = .ok (.getfield 18, 3) := by decide +kernel
theorem dX5_sortAt_9 : decode cX5_sortAt 9 = .ok (.if_icmp .lt 5, 3) := by decide +kernel
theorem dX5_sortAt_12 : decode cX5_sortAt 12 = .ok (.iconst 0, 1) := by decide +kernel
theorem dX5_sortAt_13 : decode cX5_sortAt 13 = .ok (.ireturn, 1) := by decide +kernel
theorem dX5_sortAt_14 : decode cX5_sortAt 14 = .ok (.aload_n 0, 1) := by decide +kernel
theorem dX5_sortAt_15 : decode cX5_sortAt 15 = .ok (.getfield 9, 3) := by decide +kernel
theorem dX5_sortAt_18 : decode cX5_sortAt 18 = .ok (.iload_n 1, 1) := by decide +kernel
theorem dX5_sortAt_19 : decode cX5_sortAt 19 = .ok (.iaload, 1) := by decide +kernel
theorem dX5_sortAt_20 : decode cX5_sortAt 20 = .ok (.istore_n 2, 1) := by decide +kernel
theorem dX5_sortAt_21 : decode cX5_sortAt 21 = .ok (.iload_n 2, 1) := by decide +kernel
theorem dX5_sortAt_22 : decode cX5_sortAt 22 = .ok (.bipush 97, 2) := by decide +kernel
theorem dX5_sortAt_24 : decode cX5_sortAt 24 = .ok (.if_icmp .lt 11, 3) := by decide +kernel
theorem dX5_sortAt_27 : decode cX5_sortAt 27 = .ok (.iload_n 2, 1) := by decide +kernel
theorem dX5_sortAt_28 : decode cX5_sortAt 28 = .ok (.bipush 122, 2) := by decide +kernel
theorem dX5_sortAt_30 : decode cX5_sortAt 30 = .ok (.if_icmp .gt 5, 3) := by decide +kernel
theorem dX5_sortAt_33 : decode cX5_sortAt 33 = .ok (.iconst 1, 1) := by decide +kernel
theorem dX5_sortAt_34 : decode cX5_sortAt 34 = .ok (.ireturn, 1) := by decide +kernel
theorem dX5_sortAt_35 : decode cX5_sortAt 35 = .ok (.iload_n 2, 1) := by decide +kernel
theorem dX5_sortAt_36 : decode cX5_sortAt 36 = .ok (.bipush 48, 2) := by decide +kernel
theorem dX5_sortAt_38 : decode cX5_sortAt 38 = .ok (.if_icmp .lt 11, 3) := by decide +kernel
theorem dX5_sortAt_41 : decode cX5_sortAt 41 = .ok (.iload_n 2, 1) := by decide +kernel
theorem dX5_sortAt_42 : decode cX5_sortAt 42 = .ok (.bipush 57, 2) := by decide +kernel
theorem dX5_sortAt_44 : decode cX5_sortAt 44 = .ok (.if_icmp .gt 5, 3) := by decide +kernel
theorem dX5_sortAt_47 : decode cX5_sortAt 47 = .ok (.iconst 2, 1) := by decide +kernel
theorem dX5_sortAt_48 : decode cX5_sortAt 48 = .ok (.ireturn, 1) := by decide +kernel
theorem dX5_sortAt_49 : decode cX5_sortAt 49 = .ok (.iload_n 2, 1) := by decide +kernel
theorem dX5_sortAt_50 : decode cX5_sortAt 50 = .ok (.bipush 59, 2) := by decide +kernel
theorem dX5_sortAt_52 : decode cX5_sortAt 52 = .ok (.if_icmp .ne 7, 3) := by decide +kernel
theorem dX5_sortAt_55 : decode cX5_sortAt 55 = .ok (.iconst 3, 1) := by decide +kernel
theorem dX5_sortAt_56 : decode cX5_sortAt 56 = .ok (.goto 4, 3) := by decide +kernel
theorem dX5_sortAt_59 : decode cX5_sortAt 59 = .ok (.iconst 4, 1) := by decide +kernel
theorem dX5_sortAt_60 : decode cX5_sortAt 60 = .ok (.ireturn, 1) := by decide +kernel
theorem dX5_isWord_0 : decode cX5_isWord 0 = .ok (.aload_n 0, 1) := by decide +kernel
theorem dX5_isWord_1 : decode cX5_isWord 1 = .ok (.getfield 28, 3) := by decide +kernel
theorem dX5_isWord_4 : decode cX5_isWord 4 = .ok (.iconst 1, 1) := by decide +kernel
theorem dX5_isWord_5 : decode cX5_isWord 5 = .ok (.if_icmp .ne 19, 3) := by decide +kernel
theorem dX5_isWord_8 : decode cX5_isWord 8 = .ok (.aload_n 0, 1) := by decide +kernel
theorem dX5_isWord_9 : decode cX5_isWord 9 = .ok (.getfield 22, 3) := by decide +kernel
theorem dX5_isWord_12 : decode cX5_isWord 12 = .ok (.aload_n 0, 1) := by decide +kernel
theorem dX5_isWord_13 : decode cX5_isWord 13 = .ok (.getfield 35, 3) := by decide +kernel
theorem dX5_isWord_16 : decode cX5_isWord 16 = .ok (.isub, 1) := by decide +kernel
theorem dX5_isWord_17 : decode cX5_isWord 17 = .ok (.aload_n 1, 1) := by decide +kernel
theorem dX5_isWord_18 : decode cX5_isWord 18 = .ok (.invokevirtual 101, 3) := by decide +kernel
theorem dX5_isWord_21 : decode cX5_isWord 21 = .ok (.if_icmp .eq 5, 3) := by decide +kernel
theorem dX5_isWord_24 : decode cX5_isWord 24 = .ok (.iconst 0, 1) := by decide +kernel
theorem dX5_isWord_25 : decode cX5_isWord 25 = .ok (.ireturn, 1) := by decide +kernel
theorem dX5_isWord_26 : decode cX5_isWord 26 = .ok (.iconst 0, 1) := by decide +kernel
theorem dX5_isWord_27 : decode cX5_isWord 27 = .ok (.istore_n 2, 1) := by decide +kernel
theorem dX5_isWord_28 : decode cX5_isWord 28 = .ok (.iload_n 2, 1) := by decide +kernel
theorem dX5_isWord_29 : decode cX5_isWord 29 = .ok (.aload_n 1, 1) := by decide +kernel
theorem dX5_isWord_30 : decode cX5_isWord 30 = .ok (.invokevirtual 101, 3) := by decide +kernel
theorem dX5_isWord_33 : decode cX5_isWord 33 = .ok (.if_icmp .ge 30, 3) := by decide +kernel
theorem dX5_isWord_36 : decode cX5_isWord 36 = .ok (.aload_n 0, 1) := by decide +kernel
theorem dX5_isWord_37 : decode cX5_isWord 37 = .ok (.getfield 9, 3) := by decide +kernel
theorem dX5_isWord_40 : decode cX5_isWord 40 = .ok (.aload_n 0, 1) := by decide +kernel
theorem dX5_isWord_41 : decode cX5_isWord 41 = .ok (.getfield 35, 3) := by decide +kernel
theorem dX5_isWord_44 : decode cX5_isWord 44 = .ok (.iload_n 2, 1) := by decide +kernel
theorem dX5_isWord_45 : decode cX5_isWord 45 = .ok (.iadd, 1) := by decide +kernel
theorem dX5_isWord_46 : decode cX5_isWord 46 = .ok (.iaload, 1) := by decide +kernel
theorem dX5_isWord_47 : decode cX5_isWord 47 = .ok (.aload_n 1, 1) := by decide +kernel
theorem dX5_isWord_48 : decode cX5_isWord 48 = .ok (.iload_n 2, 1) := by decide +kernel
theorem dX5_isWord_49 : decode cX5_isWord 49 = .ok (.invokevirtual 105, 3) := by decide +kernel
theorem dX5_isWord_52 : decode cX5_isWord 52 = .ok (.if_icmp .eq 5, 3) := by decide +kernel
theorem dX5_isWord_55 : decode cX5_isWord 55 = .ok (.iconst 0, 1) := by decide +kernel
theorem dX5_isWord_56 : decode cX5_isWord 56 = .ok (.ireturn, 1) := by decide +kernel
theorem dX5_isWord_57 : decode cX5_isWord 57 = .ok (.iinc 2 1, 3) := by decide +kernel
theorem dX5_isWord_60 : decode cX5_isWord 60 = .ok (.goto (-32), 3) := by decide +kernel
theorem dX5_isWord_63 : decode cX5_isWord 63 = .ok (.iconst 1, 1) := by decide +kernel
theorem dX5_isWord_64 : decode cX5_isWord 64 = .ok (.ireturn, 1) := by decide +kernel
theorem dX5_numberValue_0 : decode cX5_numberValue 0 = .ok (.aload_n 0, 1) := by decide +kernel
theorem dX5_numberValue_1 : decode cX5_numberValue 1 = .ok (.getfield 28, 3) := by decide +kernel
theorem dX5_numberValue_4 : decode cX5_numberValue 4 = .ok (.iconst 2, 1) := by decide +kernel
theorem dX5_numberValue_5 : decode cX5_numberValue 5 = .ok (.if_icmp .ne 16, 3) := by decide +kernel
theorem dX5_numberValue_8 : decode cX5_numberValue 8 = .ok (.aload_n 0, 1) := by decide +kernel
theorem dX5_numberValue_9 : decode cX5_numberValue 9 = .ok (.getfield 22, 3) := by decide +kernel
theorem dX5_numberValue_12 : decode cX5_numberValue 12 = .ok (.aload_n 0, 1) := by decide +kernel
theorem dX5_numberValue_13 : decode cX5_numberValue 13 = .ok (.getfield 35, 3) := by decide +kernel
theorem dX5_numberValue_16 : decode cX5_numberValue 16 = .ok (.isub, 1) := by decide +kernel
theorem dX5_numberValue_17 : decode cX5_numberValue 17 = .ok (.iconst 2, 1) := by decide +kernel
theorem dX5_numberValue_18 : decode cX5_numberValue 18 = .ok (.if_icmp .le 5, 3) := by decide +kernel
theorem dX5_numberValue_21 : decode cX5_numberValue 21 = .ok (.iconst (-1), 1) := by decide +kernel
theorem dX5_numberValue_22 : decode cX5_numberValue 22 = .ok (.ireturn, 1) := by decide +kernel
theorem dX5_numberValue_23 : decode cX5_numberValue 23 = .ok (.iconst 0, 1) := by decide +kernel
theorem dX5_numberValue_24 : decode cX5_numberValue 24 = .ok (.istore_n 1, 1) := by decide +kernel
theorem dX5_numberValue_25 : decode cX5_numberValue 25 = .ok (.aload_n 0, 1) := by decide +kernel
theorem dX5_numberValue_26 : decode cX5_numberValue 26 = .ok (.getfield 35, 3) := by decide +kernel
theorem dX5_numberValue_29 : decode cX5_numberValue 29 = .ok (.istore_n 2, 1) := by decide +kernel
theorem dX5_numberValue_30 : decode cX5_numberValue 30 = .ok (.iload_n 2, 1) := by decide +kernel
theorem dX5_numberValue_31 : decode cX5_numberValue 31 = .ok (.aload_n 0, 1) := by decide +kernel
theorem dX5_numberValue_32 : decode cX5_numberValue 32 = .ok (.getfield 22, 3) := by decide +kernel
theorem dX5_numberValue_35 : decode cX5_numberValue 35 = .ok (.if_icmp .ge 24, 3) := by decide +kernel
theorem dX5_numberValue_38 : decode cX5_numberValue 38 = .ok (.bipush 10, 2) := by decide +kernel
theorem dX5_numberValue_40 : decode cX5_numberValue 40 = .ok (.iload_n 1, 1) := by decide +kernel
theorem dX5_numberValue_41 : decode cX5_numberValue 41 = .ok (.imul, 1) := by decide +kernel
theorem dX5_numberValue_42 : decode cX5_numberValue 42 = .ok (.aload_n 0, 1) := by decide +kernel
theorem dX5_numberValue_43 : decode cX5_numberValue 43 = .ok (.getfield 9, 3) := by decide +kernel
theorem dX5_numberValue_46 : decode cX5_numberValue 46 = .ok (.iload_n 2, 1) := by decide +kernel
theorem dX5_numberValue_47 : decode cX5_numberValue 47 = .ok (.iaload, 1) := by decide +kernel
theorem dX5_numberValue_48 : decode cX5_numberValue 48 = .ok (.iadd, 1) := by decide +kernel
theorem dX5_numberValue_49 : decode cX5_numberValue 49 = .ok (.bipush 48, 2) := by decide +kernel
theorem dX5_numberValue_51 : decode cX5_numberValue 51 = .ok (.isub, 1) := by decide +kernel
theorem dX5_numberValue_52 : decode cX5_numberValue 52 = .ok (.istore_n 1, 1) := by decide +kernel
theorem dX5_numberValue_53 : decode cX5_numberValue 53 = .ok (.iinc 2 1, 3) := by decide +kernel
theorem dX5_numberValue_56 : decode cX5_numberValue 56 = .ok (.goto (-26), 3) := by decide +kernel
theorem dX5_numberValue_59 : decode cX5_numberValue 59 = .ok (.iload_n 1, 1) := by decide +kernel
theorem dX5_numberValue_60 : decode cX5_numberValue 60 = .ok (.ireturn, 1) := by decide +kernel
theorem dX6_init_0 : decode cX6_init 0 = .ok (.aload_n 0, 1) := by decide +kernel
theorem dX6_init_1 : decode cX6_init 1 = .ok (.invokespecial 1, 3) := by decide +kernel
theorem dX6_init_4 : decode cX6_init 4 = .ok (.aload_n 0, 1) := by decide +kernel
theorem dX6_init_5 : decode cX6_init 5 = .ok (.new 7, 3) := by decide +kernel
theorem dX6_init_8 : decode cX6_init 8 = .ok (.dup, 1) := by decide +kernel
theorem dX6_init_9 : decode cX6_init 9 = .ok (.invokespecial 9, 3) := by decide +kernel
theorem dX6_init_12 : decode cX6_init 12 = .ok (.putfield 10, 3) := by decide +kernel
theorem dX6_init_15 : decode cX6_init 15 = .ok (.aload_n 0, 1) := by decide +kernel
theorem dX6_init_16 : decode cX6_init 16 = .ok (.new 7, 3) := by decide +kernel
theorem dX6_init_19 : decode cX6_init 19 = .ok (.dup, 1) := by decide +kernel
theorem dX6_init_20 : decode cX6_init 20 = .ok (.invokespecial 9, 3) := by decide +kernel
theorem dX6_init_23 : decode cX6_init 23 = .ok (.putfield 16, 3) := by decide +kernel
theorem dX6_init_26 : decode cX6_init 26 = .ok (.aload_n 0, 1) := by decide +kernel
theorem dX6_init_27 : decode cX6_init 27 = .ok (.iconst 2, 1) := by decide +kernel
theorem dX6_init_28 : decode cX6_init 28 = .ok (.anewarray 7, 3) := by decide +kernel
theorem dX6_init_31 : decode cX6_init 31 = .ok (.dup, 1) := by decide +kernel
theorem dX6_init_32 : decode cX6_init 32 = .ok (.iconst 0, 1) := by decide +kernel
theorem dX6_init_33 : decode cX6_init 33 = .ok (.new 7, 3) := by decide +kernel
theorem dX6_init_36 : decode cX6_init 36 = .ok (.dup, 1) := by decide +kernel
theorem dX6_init_37 : decode cX6_init 37 = .ok (.invokespecial 9, 3) := by decide +kernel
theorem dX6_init_40 : decode cX6_init 40 = .ok (.aastore, 1) := by decide +kernel
theorem dX6_init_41 : decode cX6_init 41 = .ok (.dup, 1) := by decide +kernel
theorem dX6_init_42 : decode cX6_init 42 = .ok (.iconst 1, 1) := by decide +kernel
theorem dX6_init_43 : decode cX6_init 43 = .ok (.new 7, 3) := by decide +kernel
theorem dX6_init_46 : decode cX6_init 46 = .ok (.dup, 1) := by decide +kernel
theorem dX6_init_47 : decode cX6_init 47 = .ok (.invokespecial 9, 3) := by decide +kernel
theorem dX6_init_50 : decode cX6_init 50 = .ok (.aastore, 1) := by decide +kernel
theorem dX6_init_51 : decode cX6_init 51 = .ok (.putfield 19, 3) := by decide +kernel
theorem dX6_init_54 : decode cX6_init 54 = .ok (.aload_n 0, 1) := by decide +kernel
theorem dX6_init_55 : decode cX6_init 55 = .ok (.new 23, 3) := by decide +kernel
theorem dX6_init_58 : decode cX6_init 58 = .ok (.dup, 1) := by decide +kernel
theorem dX6_init_59 : decode cX6_init 59 = .ok (.invokespecial 25, 3) := by decide +kernel
theorem dX6_init_62 : decode cX6_init 62 = .ok (.putfield 26, 3) := by decide +kernel
theorem dX6_init_65 : decode cX6_init 65 = .ok (.aload_n 0, 1) := by decide +kernel
theorem dX6_init_66 : decode cX6_init 66 = .ok (.new 30, 3) := by decide +kernel
theorem dX6_init_69 : decode cX6_init 69 = .ok (.dup, 1) := by decide +kernel
theorem dX6_init_70 : decode cX6_init 70 = .ok (.invokespecial 32, 3) := by decide +kernel
theorem dX6_init_73 : decode cX6_init 73 = .ok (.putfield 33, 3) := by decide +kernel
theorem dX6_init_76 : decode cX6_init 76 = .ok (.aload_n 0, 1) := by decide +kernel
theorem dX6_init_77 : decode cX6_init 77 = .ok (.new 37, 3) := by decide +kernel
theorem dX6_init_80 : decode cX6_init 80 = .ok (.dup, 1) := by decide +kernel
theorem dX6_init_81 : decode cX6_init 81 = .ok (.invokespecial 39, 3) := by decide +kernel
theorem dX6_init_84 : decode cX6_init 84 = .ok (.putfield 40, 3) := by decide +kernel
theorem dX6_init_87 : decode cX6_init 87 = .ok (.aload_n 0, 1) := by decide +kernel
theorem dX6_init_88 : decode cX6_init 88 = .ok (.new 44, 3) := by decide +kernel
theorem dX6_init_91 : decode cX6_init 91 = .ok (.dup, 1) := by decide +kernel
theorem dX6_init_92 : decode cX6_init 92 = .ok (.invokespecial 46, 3) := by decide +kernel
theorem dX6_init_95 : decode cX6_init 95 = .ok (.putfield 47, 3) := by decide +kernel
theorem dX6_init_98 : decode cX6_init 98 = .ok (.aload_n 0, 1) := by decide +kernel
theorem dX6_init_99 : decode cX6_init 99 = .ok (.new 51, 3) := by decide +kernel
theorem dX6_init_102 : decode cX6_init 102 = .ok (.dup, 1) := by decide +kernel
theorem dX6_init_103 : decode cX6_init 103 = .ok (.invokespecial 53, 3) := by decide +kernel
theorem dX6_init_106 : decode cX6_init 106 = .ok (.putfield 54, 3) := by decide +kernel
theorem dX6_init_109 : decode cX6_init 109 = .ok (.aload_n 0, 1) := by decide +kernel
theorem dX6_init_110 : decode cX6_init 110 = .ok (.lconst 1, 1) := by decide +kernel
theorem dX6_init_111 : decode cX6_init 111 = .ok (.putfield 58, 3) := by decide +kernel
theorem dX6_init_114 : decode cX6_init 114 = .ok (.return_, 1) := by decide +kernel
theorem dX6_piece_0 : decode cX6_piece 0 = .ok (.iload_n 1, 1) := by decide +kernel
theorem dX6_piece_1 : decode cX6_piece 1 = .ok (.iconst 0, 1) := by decide +kernel
theorem dX6_piece_2 : decode cX6_piece 2 = .ok (.bipush 9, 2) := by decide +kernel
theorem dX6_piece_4 : decode cX6_piece 4 = .ok (.invokestatic 62, 3) := by decide +kernel
theorem dX6_piece_7 : decode cX6_piece 7 = .ok (.ifCond .ne 10, 3) := by decide +kernel
theorem dX6_piece_10 : decode cX6_piece 10 = .ok (.aload_n 0, 1) := by decide +kernel
theorem dX6_piece_11 : decode cX6_piece 11 = .ok (.bipush (-2), 2) := by decide +kernel
theorem dX6_piece_13 : decode cX6_piece 13 = .ok (.invokevirtual 66, 3) := by decide +kernel
theorem dX6_piece_16 : decode cX6_piece 16 = .ok (.ireturn, 1) := by decide +kernel
theorem dX6_piece_17 : decode cX6_piece 17 = .ok (.aload_n 0, 1) := by decide +kernel
theorem dX6_piece_18 : decode cX6_piece 18 = .ok (.getfield 10, 3) := by decide +kernel
theorem dX6_piece_21 : decode cX6_piece 21 = .ok (.getfield 70, 3) := by decide +kernel
theorem dX6_piece_24 : decode cX6_piece 24 = .ok (.istore_n 2, 1) := by decide +kernel
theorem dX6_piece_25 : decode cX6_piece 25 = .ok (.aload_n 0, 1) := by decide +kernel
theorem dX6_piece_26 : decode cX6_piece 26 = .ok (.getfield 10, 3) := by decide +kernel
theorem dX6_piece_29 : decode cX6_piece 29 = .ok (.iload_n 1, 1) := by decide +kernel
theorem dX6_piece_30 : decode cX6_piece 30 = .ok (.invokevirtual 74, 3) := by decide +kernel
theorem dX6_piece_33 : decode cX6_piece 33 = .ok (.aload_n 0, 1) := by decide +kernel
theorem dX6_piece_34 : decode cX6_piece 34 = .ok (.invokevirtual 78, 3) := by decide +kernel
theorem dX6_piece_37 : decode cX6_piece 37 = .ok (.iload_n 2, 1) := by decide +kernel
theorem dX6_piece_38 : decode cX6_piece 38 = .ok (.ireturn, 1) := by decide +kernel
theorem dX6_hand_0 : decode cX6_hand 0 = .ok (.iload_n 1, 1) := by decide +kernel
theorem dX6_hand_1 : decode cX6_hand 1 = .ok (.iconst 0, 1) := by decide +kernel
theorem dX6_hand_2 : decode cX6_hand 2 = .ok (.iconst 3, 1) := by decide +kernel
theorem dX6_hand_3 : decode cX6_hand 3 = .ok (.invokestatic 62, 3) := by decide +kernel
theorem dX6_hand_6 : decode cX6_hand 6 = .ok (.ifCond .eq 33, 3) := by decide +kernel
theorem dX6_hand_9 : decode cX6_hand 9 = .ok (.iload_n 2, 1) := by decide +kernel
theorem dX6_hand_10 : decode cX6_hand 10 = .ok (.iconst 0, 1) := by decide +kernel
theorem dX6_hand_11 : decode cX6_hand 11 = .ok (.iconst 5, 1) := by decide +kernel
theorem dX6_hand_12 : decode cX6_hand 12 = .ok (.invokestatic 62, 3) := by decide +kernel
theorem dX6_hand_15 : decode cX6_hand 15 = .ok (.ifCond .eq 24, 3) := by decide +kernel
theorem dX6_hand_18 : decode cX6_hand 18 = .ok (.iload_n 3, 1) := by decide +kernel
theorem dX6_hand_19 : decode cX6_hand 19 = .ok (.iconst 0, 1) := by decide +kernel
theorem dX6_hand_20 : decode cX6_hand 20 = .ok (.bipush 15, 2) := by decide +kernel
theorem dX6_hand_22 : decode cX6_hand 22 = .ok (.invokestatic 62, 3) := by decide +kernel
theorem dX6_hand_25 : decode cX6_hand 25 = .ok (.ifCond .eq 14, 3) := by decide +kernel
theorem dX6_hand_28 : decode cX6_hand 28 = .ok (.iload 4, 2) := by decide +kernel
theorem dX6_hand_30 : decode cX6_hand 30 = .ok (.iconst 1, 1) := by decide +kernel
theorem dX6_hand_31 : decode cX6_hand 31 = .ok (.bipush 9, 2) := by decide +kernel
theorem dX6_hand_33 : decode cX6_hand 33 = .ok (.invokestatic 62, 3) := by decide +kernel
theorem dX6_hand_36 : decode cX6_hand 36 = .ok (.ifCond .ne 10, 3) := by decide +kernel
theorem dX6_hand_39 : decode cX6_hand 39 = .ok (.aload_n 0, 1) := by decide +kernel
theorem dX6_hand_40 : decode cX6_hand 40 = .ok (.bipush (-2), 2) := by decide +kernel
theorem dX6_hand_42 : decode cX6_hand 42 = .ok (.invokevirtual 66, 3) := by decide +kernel
theorem dX6_hand_45 : decode cX6_hand 45 = .ok (.ireturn, 1) := by decide +kernel
theorem dX6_hand_46 : decode cX6_hand 46 = .ok (.aload_n 0, 1) := by decide +kernel
theorem dX6_hand_47 : decode cX6_hand 47 = .ok (.getfield 10, 3) := by decide +kernel
theorem dX6_hand_50 : decode cX6_hand 50 = .ok (.getfield 81, 3) := by decide +kernel
theorem dX6_hand_53 : decode cX6_hand 53 = .ok (.iload_n 1, 1) := by decide +kernel
theorem dX6_hand_54 : decode cX6_hand 54 = .ok (.iaload, 1) := by decide +kernel
theorem dX6_hand_55 : decode cX6_hand 55 = .ok (.istore 5, 2) := by decide +kernel
theorem dX6_hand_57 : decode cX6_hand 57 = .ok (.aload_n 0, 1) := by decide +kernel
theorem dX6_hand_58 : decode cX6_hand 58 = .ok (.getfield 10, 3) := by decide +kernel
theorem dX6_hand_61 : decode cX6_hand 61 = .ok (.iload_n 1, 1) := by decide +kernel
theorem dX6_hand_62 : decode cX6_hand 62 = .ok (.iload_n 2, 1) := by decide +kernel
theorem dX6_hand_63 : decode cX6_hand 63 = .ok (.iload_n 3, 1) := by decide +kernel
theorem dX6_hand_64 : decode cX6_hand 64 = .ok (.iload 4, 2) := by decide +kernel
theorem dX6_hand_66 : decode cX6_hand 66 = .ok (.invokevirtual 85, 3) := by decide +kernel
theorem dX6_hand_69 : decode cX6_hand 69 = .ok (.iload 5, 2) := by decide +kernel
theorem dX6_hand_71 : decode cX6_hand 71 = .ok (.ireturn, 1) := by decide +kernel
theorem dX6_note_0 : decode cX6_note 0 = .ok (.iload_n 1, 1) := by decide +kernel
theorem dX6_note_1 : decode cX6_note 1 = .ok (.iconst 0, 1) := by decide +kernel
theorem dX6_note_2 : decode cX6_note 2 = .ok (.bipush 47, 2) := by decide +kernel
theorem dX6_note_4 : decode cX6_note 4 = .ok (.invokestatic 62, 3) := by decide +kernel
theorem dX6_note_7 : decode cX6_note 7 = .ok (.ifCond .eq 56, 3) := by decide +kernel
theorem dX6_note_10 : decode cX6_note 10 = .ok (.iload_n 2, 1) := by decide +kernel
theorem dX6_note_11 : decode cX6_note 11 = .ok (.iconst 0, 1) := by decide +kernel
theorem dX6_note_12 : decode cX6_note 12 = .ok (.bipush 63, 2) := by decide +kernel
theorem dX6_note_14 : decode cX6_note 14 = .ok (.invokestatic 62, 3) := by decide +kernel
theorem dX6_note_17 : decode cX6_note 17 = .ok (.ifCond .eq 46, 3) := by decide +kernel
theorem dX6_note_20 : decode cX6_note 20 = .ok (.iload_n 3, 1) := by decide +kernel
theorem dX6_note_21 : decode cX6_note 21 = .ok (.iconst 1, 1) := by decide +kernel
theorem dX6_note_22 : decode cX6_note 22 = .ok (.iload_n 2, 1) := by decide +kernel
theorem dX6_note_23 : decode cX6_note 23 = .ok (.invokestatic 89, 3) := by decide +kernel
theorem dX6_note_26 : decode cX6_note 26 = .ok (.invokestatic 62, 3) := by decide +kernel
theorem dX6_note_29 : decode cX6_note 29 = .ok (.ifCond .eq 34, 3) := by decide +kernel
theorem dX6_note_32 : decode cX6_note 32 = .ok (.iload 4, 2) := by decide +kernel
theorem dX6_note_34 : decode cX6_note 34 = .ok (.iconst 0, 1) := by decide +kernel
theorem dX6_note_35 : decode cX6_note 35 = .ok (.iconst 1, 1) := by decide +kernel
theorem dX6_note_36 : decode cX6_note 36 = .ok (.invokestatic 62, 3) := by decide +kernel
theorem dX6_note_39 : decode cX6_note 39 = .ok (.ifCond .eq 24, 3) := by decide +kernel
theorem dX6_note_42 : decode cX6_note 42 = .ok (.iload 5, 2) := by decide +kernel
theorem dX6_note_44 : decode cX6_note 44 = .ok (.iconst 0, 1) := by decide +kernel
theorem dX6_note_45 : decode cX6_note 45 = .ok (.bipush 9, 2) := by decide +kernel
theorem dX6_note_47 : decode cX6_note 47 = .ok (.invokestatic 62, 3) := by decide +kernel
theorem dX6_note_50 : decode cX6_note 50 = .ok (.ifCond .eq 13, 3) := by decide +kernel
theorem dX6_note_53 : decode cX6_note 53 = .ok (.iload 6, 2) := by decide +kernel
theorem dX6_note_55 : decode cX6_note 55 = .ok (.iconst (-1), 1) := by decide +kernel
theorem dX6_note_56 : decode cX6_note 56 = .ok (.iconst 3, 1) := by decide +kernel
theorem dX6_note_57 : decode cX6_note 57 = .ok (.invokestatic 62, 3) := by decide +kernel
theorem dX6_note_60 : decode cX6_note 60 = .ok (.ifCond .ne 10, 3) := by decide +kernel
theorem dX6_note_63 : decode cX6_note 63 = .ok (.aload_n 0, 1) := by decide +kernel
theorem dX6_note_64 : decode cX6_note 64 = .ok (.bipush (-2), 2) := by decide +kernel
theorem dX6_note_66 : decode cX6_note 66 = .ok (.invokevirtual 66, 3) := by decide +kernel
theorem dX6_note_69 : decode cX6_note 69 = .ok (.ireturn, 1) := by decide +kernel
theorem dX6_note_70 : decode cX6_note 70 = .ok (.aload_n 0, 1) := by decide +kernel
theorem dX6_note_71 : decode cX6_note 71 = .ok (.getfield 10, 3) := by decide +kernel
theorem dX6_note_74 : decode cX6_note 74 = .ok (.getfield 70, 3) := by decide +kernel
theorem dX6_note_77 : decode cX6_note 77 = .ok (.bipush 12, 2) := by decide +kernel
theorem dX6_note_79 : decode cX6_note 79 = .ok (.if_icmp .lt 8, 3) := by decide +kernel
theorem dX6_note_82 : decode cX6_note 82 = .ok (.aload_n 0, 1) := by decide +kernel
theorem dX6_note_83 : decode cX6_note 83 = .ok (.invokevirtual 92, 3) := by decide +kernel
theorem dX6_note_86 : decode cX6_note 86 = .ok (.ireturn, 1) := by decide +kernel
theorem dX6_note_87 : decode cX6_note 87 = .ok (.aload_n 0, 1) := by decide +kernel
theorem dX6_note_88 : decode cX6_note 88 = .ok (.getfield 10, 3) := by decide +kernel
theorem dX6_note_91 : decode cX6_note 91 = .ok (.iload_n 1, 1) := by decide +kernel
theorem dX6_note_92 : decode cX6_note 92 = .ok (.iload_n 2, 1) := by decide +kernel
theorem dX6_note_93 : decode cX6_note 93 = .ok (.iload_n 3, 1) := by decide +kernel
theorem dX6_note_94 : decode cX6_note 94 = .ok (.iload 4, 2) := by decide +kernel
theorem dX6_note_96 : decode cX6_note 96 = .ok (.iload 5, 2) := by decide +kernel
theorem dX6_note_98 : decode cX6_note 98 = .ok (.iload 6, 2) := by decide +kernel
theorem dX6_note_100 : decode cX6_note 100 = .ok (.invokevirtual 96, 3) := by decide +kernel
theorem dX6_note_103 : decode cX6_note 103 = .ok (.aload_n 0, 1) := by decide +kernel
theorem dX6_note_104 : decode cX6_note 104 = .ok (.getfield 10, 3) := by decide +kernel
theorem dX6_note_107 : decode cX6_note 107 = .ok (.getfield 70, 3) := by decide +kernel
theorem dX6_note_110 : decode cX6_note 110 = .ok (.iconst 1, 1) := by decide +kernel
theorem dX6_note_111 : decode cX6_note 111 = .ok (.isub, 1) := by decide +kernel
theorem dX6_note_112 : decode cX6_note 112 = .ok (.ireturn, 1) := by decide +kernel
theorem dX6_type_0 : decode cX6_type 0 = .ok (.iload_n 1, 1) := by decide +kernel
theorem dX6_type_1 : decode cX6_type 1 = .ok (.iconst 0, 1) := by decide +kernel
theorem dX6_type_2 : decode cX6_type 2 = .ok (.bipush 127, 2) := by decide +kernel
theorem dX6_type_4 : decode cX6_type 4 = .ok (.invokestatic 62, 3) := by decide +kernel
theorem dX6_type_7 : decode cX6_type 7 = .ok (.ifCond .ne 10, 3) := by decide +kernel
theorem dX6_type_10 : decode cX6_type 10 = .ok (.aload_n 0, 1) := by decide +kernel
theorem dX6_type_11 : decode cX6_type 11 = .ok (.bipush (-2), 2) := by decide +kernel
theorem dX6_type_13 : decode cX6_type 13 = .ok (.invokevirtual 66, 3) := by decide +kernel
theorem dX6_type_16 : decode cX6_type 16 = .ok (.ireturn, 1) := by decide +kernel
theorem dX6_type_17 : decode cX6_type 17 = .ok (.aload_n 0, 1) := by decide +kernel
theorem dX6_type_18 : decode cX6_type 18 = .ok (.getfield 26, 3) := by decide +kernel
theorem dX6_type_21 : decode cX6_type 21 = .ok (.getfield 100, 3) := by decide +kernel
theorem dX6_type_24 : decode cX6_type 24 = .ok (.sipush 150, 3) := by decide +kernel
theorem dX6_type_27 : decode cX6_type 27 = .ok (.if_icmp .lt 8, 3) := by decide +kernel
theorem dX6_type_30 : decode cX6_type 30 = .ok (.aload_n 0, 1) := by decide +kernel
theorem dX6_type_31 : decode cX6_type 31 = .ok (.invokevirtual 92, 3) := by decide +kernel
theorem dX6_type_34 : decode cX6_type 34 = .ok (.ireturn, 1) := by decide +kernel
theorem dX6_type_35 : decode cX6_type 35 = .ok (.aload_n 0, 1) := by decide +kernel
theorem dX6_type_36 : decode cX6_type 36 = .ok (.getfield 26, 3) := by decide +kernel
theorem dX6_type_39 : decode cX6_type 39 = .ok (.iload_n 1, 1) := by decide +kernel
theorem dX6_type_40 : decode cX6_type 40 = .ok (.invokevirtual 103, 3) := by decide +kernel
theorem dX6_type_43 : decode cX6_type 43 = .ok (.aload_n 0, 1) := by decide +kernel
theorem dX6_type_44 : decode cX6_type 44 = .ok (.getfield 26, 3) := by decide +kernel
theorem dX6_type_47 : decode cX6_type 47 = .ok (.getfield 100, 3) := by decide +kernel
theorem dX6_type_50 : decode cX6_type 50 = .ok (.ireturn, 1) := by decide +kernel
theorem dX6_clear_0 : decode cX6_clear 0 = .ok (.aload_n 0, 1) := by decide +kernel
theorem dX6_clear_1 : decode cX6_clear 1 = .ok (.getfield 26, 3) := by decide +kernel
theorem dX6_clear_4 : decode cX6_clear 4 = .ok (.getfield 100, 3) := by decide +kernel
theorem dX6_clear_7 : decode cX6_clear 7 = .ok (.istore_n 1, 1) := by decide +kernel
theorem dX6_clear_8 : decode cX6_clear 8 = .ok (.aload_n 0, 1) := by decide +kernel
theorem dX6_clear_9 : decode cX6_clear 9 = .ok (.getfield 26, 3) := by decide +kernel
theorem dX6_clear_12 : decode cX6_clear 12 = .ok (.iconst 0, 1) := by decide +kernel
theorem dX6_clear_13 : decode cX6_clear 13 = .ok (.putfield 100, 3) := by decide +kernel
theorem dX6_clear_16 : decode cX6_clear 16 = .ok (.iload_n 1, 1) := by decide +kernel
theorem dX6_clear_17 : decode cX6_clear 17 = .ok (.ireturn, 1) := by decide +kernel
theorem dX6_read_0 : decode cX6_read 0 = .ok (.aload_n 0, 1) := by decide +kernel
theorem dX6_read_1 : decode cX6_read 1 = .ok (.getfield 26, 3) := by decide +kernel
theorem dX6_read_4 : decode cX6_read 4 = .ok (.aload_n 0, 1) := by decide +kernel
theorem dX6_read_5 : decode cX6_read 5 = .ok (.getfield 16, 3) := by decide +kernel
theorem dX6_read_8 : decode cX6_read 8 = .ok (.invokevirtual 106, 3) := by decide +kernel
theorem dX6_read_11 : decode cX6_read 11 = .ok (.istore_n 1, 1) := by decide +kernel
theorem dX6_read_12 : decode cX6_read 12 = .ok (.iload_n 1, 1) := by decide +kernel
theorem dX6_read_13 : decode cX6_read 13 = .ok (.ifCond .lt 14, 3) := by decide +kernel
theorem dX6_read_16 : decode cX6_read 16 = .ok (.aload_n 0, 1) := by decide +kernel
theorem dX6_read_17 : decode cX6_read 17 = .ok (.getfield 10, 3) := by decide +kernel
theorem dX6_read_20 : decode cX6_read 20 = .ok (.aload_n 0, 1) := by decide +kernel
theorem dX6_read_21 : decode cX6_read 21 = .ok (.getfield 16, 3) := by decide +kernel
theorem dX6_read_24 : decode cX6_read 24 = .ok (.invokevirtual 110, 3) := by decide +kernel
theorem dX6_read_27 : decode cX6_read 27 = .ok (.iload_n 1, 1) := by decide +kernel
theorem dX6_read_28 : decode cX6_read 28 = .ok (.ireturn, 1) := by decide +kernel
theorem dX6_give_0 : decode cX6_give 0 = .ok (.aload_n 0, 1) := by decide +kernel
theorem dX6_give_1 : decode cX6_give 1 = .ok (.iload_n 1, 1) := by decide +kernel
theorem dX6_give_2 : decode cX6_give 2 = .ok (.invokevirtual 114, 3) := by decide +kernel
theorem dX6_give_5 : decode cX6_give 5 = .ok (.ifCond .eq 12, 3) := by decide +kernel
theorem dX6_give_8 : decode cX6_give 8 = .ok (.iload_n 2, 1) := by decide +kernel
theorem dX6_give_9 : decode cX6_give 9 = .ok (.iconst (-1), 1) := by decide +kernel
theorem dX6_give_10 : decode cX6_give 10 = .ok (.iconst 3, 1) := by decide +kernel
theorem dX6_give_11 : decode cX6_give 11 = .ok (.invokestatic 62, 3) := by decide +kernel
theorem dX6_give_14 : decode cX6_give 14 = .ok (.ifCond .ne 10, 3) := by decide +kernel
theorem dX6_give_17 : decode cX6_give 17 = .ok (.aload_n 0, 1) := by decide +kernel
theorem dX6_give_18 : decode cX6_give 18 = .ok (.bipush (-2), 2) := by decide +kernel
theorem dX6_give_20 : decode cX6_give 20 = .ok (.invokevirtual 66, 3) := by decide +kernel
theorem dX6_give_23 : decode cX6_give 23 = .ok (.ireturn, 1) := by decide +kernel
theorem dX6_give_24 : decode cX6_give 24 = .ok (.aload_n 0, 1) := by decide +kernel
theorem dX6_give_25 : decode cX6_give 25 = .ok (.getfield 10, 3) := by decide +kernel
theorem dX6_give_28 : decode cX6_give 28 = .ok (.iload_n 1, 1) := by decide +kernel
theorem dX6_give_29 : decode cX6_give 29 = .ok (.iload_n 2, 1) := by decide +kernel
theorem dX6_give_30 : decode cX6_give 30 = .ok (.invokevirtual 118, 3) := by decide +kernel
theorem dX6_give_33 : decode cX6_give 33 = .ok (.aload_n 0, 1) := by decide +kernel
theorem dX6_give_34 : decode cX6_give 34 = .ok (.getfield 10, 3) := by decide +kernel
theorem dX6_give_37 : decode cX6_give 37 = .ok (.invokevirtual 122, 3) := by decide +kernel
theorem dX6_give_40 : decode cX6_give 40 = .ok (.ireturn, 1) := by decide +kernel
theorem dX6_undo_0 : decode cX6_undo 0 = .ok (.aload_n 0, 1) := by decide +kernel
theorem dX6_undo_1 : decode cX6_undo 1 = .ok (.getfield 10, 3) := by decide +kernel
theorem dX6_undo_4 : decode cX6_undo 4 = .ok (.getfield 125, 3) := by decide +kernel
theorem dX6_undo_7 : decode cX6_undo 7 = .ok (.ifCond .gt 10, 3) := by decide +kernel
theorem dX6_undo_10 : decode cX6_undo 10 = .ok (.aload_n 0, 1) := by decide +kernel
theorem dX6_undo_11 : decode cX6_undo 11 = .ok (.bipush (-3), 2) := by decide +kernel
theorem dX6_undo_13 : decode cX6_undo 13 = .ok (.invokevirtual 128, 3) := by decide +kernel
theorem dX6_undo_16 : decode cX6_undo 16 = .ok (.ireturn, 1) := by decide +kernel
theorem dX6_undo_17 : decode cX6_undo 17 = .ok (.aload_n 0, 1) := by decide +kernel
theorem dX6_undo_18 : decode cX6_undo 18 = .ok (.getfield 10, 3) := by decide +kernel
theorem dX6_undo_21 : decode cX6_undo 21 = .ok (.invokevirtual 131, 3) := by decide +kernel
theorem dX6_undo_24 : decode cX6_undo 24 = .ok (.aload_n 0, 1) := by decide +kernel
theorem dX6_undo_25 : decode cX6_undo 25 = .ok (.getfield 10, 3) := by decide +kernel
theorem dX6_undo_28 : decode cX6_undo 28 = .ok (.invokevirtual 122, 3) := by decide +kernel
theorem dX6_undo_31 : decode cX6_undo 31 = .ok (.ireturn, 1) := by decide +kernel
theorem dX6_of_0 : decode cX6_of 0 = .ok (.aload_n 0, 1) := by decide +kernel
theorem dX6_of_1 : decode cX6_of 1 = .ok (.iload_n 1, 1) := by decide +kernel
theorem dX6_of_2 : decode cX6_of 2 = .ok (.invokevirtual 114, 3) := by decide +kernel
theorem dX6_of_5 : decode cX6_of 5 = .ok (.ifCond .ne 10, 3) := by decide +kernel
theorem dX6_of_8 : decode cX6_of 8 = .ok (.aload_n 0, 1) := by decide +kernel
theorem dX6_of_9 : decode cX6_of 9 = .ok (.bipush (-10), 2) := by decide +kernel
theorem dX6_of_11 : decode cX6_of 11 = .ok (.invokevirtual 66, 3) := by decide +kernel
theorem dX6_of_14 : decode cX6_of 14 = .ok (.ireturn, 1) := by decide +kernel
theorem dX6_of_15 : decode cX6_of 15 = .ok (.iload_n 2, 1) := by decide +kernel
theorem dX6_of_16 : decode cX6_of 16 = .ok (.tableswitch 100 0 5 #[40, 50, 60, 70, 80, 90], 40) := by decide +kernel
theorem dX6_of_56 : decode cX6_of 56 = .ok (.aload_n 0, 1) := by decide +kernel
theorem dX6_of_57 : decode cX6_of 57 = .ok (.getfield 10, 3) := by decide +kernel
theorem dX6_of_60 : decode cX6_of 60 = .ok (.getfield 134, 3) := by decide +kernel
theorem dX6_of_63 : decode cX6_of 63 = .ok (.iload_n 1, 1) := by decide +kernel
theorem dX6_of_64 : decode cX6_of 64 = .ok (.iaload, 1) := by decide +kernel
theorem dX6_of_65 : decode cX6_of 65 = .ok (.ireturn, 1) := by decide +kernel
theorem dX6_of_66 : decode cX6_of 66 = .ok (.aload_n 0, 1) := by decide +kernel
theorem dX6_of_67 : decode cX6_of 67 = .ok (.getfield 10, 3) := by decide +kernel
theorem dX6_of_70 : decode cX6_of 70 = .ok (.getfield 137, 3) := by decide +kernel
theorem dX6_of_73 : decode cX6_of 73 = .ok (.iload_n 1, 1) := by decide +kernel
theorem dX6_of_74 : decode cX6_of 74 = .ok (.iaload, 1) := by decide +kernel
theorem dX6_of_75 : decode cX6_of 75 = .ok (.ireturn, 1) := by decide +kernel
theorem dX6_of_76 : decode cX6_of 76 = .ok (.aload_n 0, 1) := by decide +kernel
theorem dX6_of_77 : decode cX6_of 77 = .ok (.getfield 10, 3) := by decide +kernel
theorem dX6_of_80 : decode cX6_of 80 = .ok (.getfield 140, 3) := by decide +kernel
theorem dX6_of_83 : decode cX6_of 83 = .ok (.iload_n 1, 1) := by decide +kernel
theorem dX6_of_84 : decode cX6_of 84 = .ok (.iaload, 1) := by decide +kernel
theorem dX6_of_85 : decode cX6_of 85 = .ok (.ireturn, 1) := by decide +kernel
theorem dX6_of_86 : decode cX6_of 86 = .ok (.aload_n 0, 1) := by decide +kernel
theorem dX6_of_87 : decode cX6_of 87 = .ok (.getfield 10, 3) := by decide +kernel
theorem dX6_of_90 : decode cX6_of 90 = .ok (.getfield 143, 3) := by decide +kernel
theorem dX6_of_93 : decode cX6_of 93 = .ok (.iload_n 1, 1) := by decide +kernel
theorem dX6_of_94 : decode cX6_of 94 = .ok (.iaload, 1) := by decide +kernel
theorem dX6_of_95 : decode cX6_of 95 = .ok (.ireturn, 1) := by decide +kernel
theorem dX6_of_96 : decode cX6_of 96 = .ok (.aload_n 0, 1) := by decide +kernel
theorem dX6_of_97 : decode cX6_of 97 = .ok (.getfield 10, 3) := by decide +kernel
theorem dX6_of_100 : decode cX6_of 100 = .ok (.getfield 146, 3) := by decide +kernel
theorem dX6_of_103 : decode cX6_of 103 = .ok (.iload_n 1, 1) := by decide +kernel
theorem dX6_of_104 : decode cX6_of 104 = .ok (.iaload, 1) := by decide +kernel
theorem dX6_of_105 : decode cX6_of 105 = .ok (.ireturn, 1) := by decide +kernel
theorem dX6_of_106 : decode cX6_of 106 = .ok (.aload_n 0, 1) := by decide +kernel
theorem dX6_of_107 : decode cX6_of 107 = .ok (.getfield 10, 3) := by decide +kernel
theorem dX6_of_110 : decode cX6_of 110 = .ok (.getfield 149, 3) := by decide +kernel
theorem dX6_of_113 : decode cX6_of 113 = .ok (.iload_n 1, 1) := by decide +kernel
theorem dX6_of_114 : decode cX6_of 114 = .ok (.iaload, 1) := by decide +kernel
theorem dX6_of_115 : decode cX6_of 115 = .ok (.ireturn, 1) := by decide +kernel
theorem dX6_of_116 : decode cX6_of 116 = .ok (.aload_n 0, 1) := by decide +kernel
theorem dX6_of_117 : decode cX6_of 117 = .ok (.bipush (-10), 2) := by decide +kernel
theorem dX6_of_119 : decode cX6_of 119 = .ok (.invokevirtual 66, 3) := by decide +kernel
theorem dX6_of_122 : decode cX6_of 122 = .ok (.ireturn, 1) := by decide +kernel
theorem dX6_about_0 : decode cX6_about 0 = .ok (.iload_n 1, 1) := by decide +kernel
theorem dX6_about_1 : decode cX6_about 1 = .ok (.iconst 0, 1) := by decide +kernel
theorem dX6_about_2 : decode cX6_about 2 = .ok (.iconst 3, 1) := by decide +kernel
theorem dX6_about_3 : decode cX6_about 3 = .ok (.invokestatic 62, 3) := by decide +kernel
theorem dX6_about_6 : decode cX6_about 6 = .ok (.ifCond .ne 10, 3) := by decide +kernel
theorem dX6_about_9 : decode cX6_about 9 = .ok (.aload_n 0, 1) := by decide +kernel
theorem dX6_about_10 : decode cX6_about 10 = .ok (.bipush (-2), 2) := by decide +kernel
theorem dX6_about_12 : decode cX6_about 12 = .ok (.invokevirtual 66, 3) := by decide +kernel
theorem dX6_about_15 : decode cX6_about 15 = .ok (.ireturn, 1) := by decide +kernel
theorem dX6_about_16 : decode cX6_about 16 = .ok (.iload_n 2, 1) := by decide +kernel
theorem dX6_about_17 : decode cX6_about 17 = .ok (.tableswitch 81 0 4 #[35, 45, 54, 63, 72], 35) := by decide +kernel
theorem dX6_about_52 : decode cX6_about 52 = .ok (.aload_n 0, 1) := by decide +kernel
theorem dX6_about_53 : decode cX6_about 53 = .ok (.getfield 10, 3) := by decide +kernel
theorem dX6_about_56 : decode cX6_about 56 = .ok (.getfield 81, 3) := by decide +kernel
theorem dX6_about_59 : decode cX6_about 59 = .ok (.iload_n 1, 1) := by decide +kernel
theorem dX6_about_60 : decode cX6_about 60 = .ok (.iaload, 1) := by decide +kernel
theorem dX6_about_61 : decode cX6_about 61 = .ok (.ireturn, 1) := by decide +kernel
theorem dX6_about_62 : decode cX6_about 62 = .ok (.aload_n 0, 1) := by decide +kernel
theorem dX6_about_63 : decode cX6_about 63 = .ok (.getfield 10, 3) := by decide +kernel
theorem dX6_about_66 : decode cX6_about 66 = .ok (.iload_n 1, 1) := by decide +kernel
theorem dX6_about_67 : decode cX6_about 67 = .ok (.invokevirtual 152, 3) := by decide +kernel
theorem dX6_about_70 : decode cX6_about 70 = .ok (.ireturn, 1) := by decide +kernel
theorem dX6_about_71 : decode cX6_about 71 = .ok (.aload_n 0, 1) := by decide +kernel
theorem dX6_about_72 : decode cX6_about 72 = .ok (.getfield 10, 3) := by decide +kernel
theorem dX6_about_75 : decode cX6_about 75 = .ok (.iload_n 1, 1) := by decide +kernel
theorem dX6_about_76 : decode cX6_about 76 = .ok (.invokevirtual 155, 3) := by decide +kernel
theorem dX6_about_79 : decode cX6_about 79 = .ok (.ireturn, 1) := by decide +kernel
theorem dX6_about_80 : decode cX6_about 80 = .ok (.aload_n 0, 1) := by decide +kernel
theorem dX6_about_81 : decode cX6_about 81 = .ok (.getfield 10, 3) := by decide +kernel
theorem dX6_about_84 : decode cX6_about 84 = .ok (.iload_n 1, 1) := by decide +kernel
theorem dX6_about_85 : decode cX6_about 85 = .ok (.invokevirtual 158, 3) := by decide +kernel
theorem dX6_about_88 : decode cX6_about 88 = .ok (.ireturn, 1) := by decide +kernel
theorem dX6_about_89 : decode cX6_about 89 = .ok (.aload_n 0, 1) := by decide +kernel
theorem dX6_about_90 : decode cX6_about 90 = .ok (.getfield 10, 3) := by decide +kernel
theorem dX6_about_93 : decode cX6_about 93 = .ok (.iload_n 1, 1) := by decide +kernel
theorem dX6_about_94 : decode cX6_about 94 = .ok (.invokevirtual 161, 3) := by decide +kernel
theorem dX6_about_97 : decode cX6_about 97 = .ok (.ireturn, 1) := by decide +kernel
theorem dX6_about_98 : decode cX6_about 98 = .ok (.aload_n 0, 1) := by decide +kernel
theorem dX6_about_99 : decode cX6_about 99 = .ok (.bipush (-2), 2) := by decide +kernel
theorem dX6_about_101 : decode cX6_about 101 = .ok (.invokevirtual 66, 3) := by decide +kernel
theorem dX6_about_104 : decode cX6_about 104 = .ok (.ireturn, 1) := by decide +kernel
theorem dX6_clash_0 : decode cX6_clash 0 = .ok (.aload_n 0, 1) := by decide +kernel
theorem dX6_clash_1 : decode cX6_clash 1 = .ok (.iload_n 1, 1) := by decide +kernel
theorem dX6_clash_2 : decode cX6_clash 2 = .ok (.invokevirtual 114, 3) := by decide +kernel
theorem dX6_clash_5 : decode cX6_clash 5 = .ok (.ifCond .eq 16, 3) := by decide +kernel
theorem dX6_clash_8 : decode cX6_clash 8 = .ok (.aload_n 0, 1) := by decide +kernel
theorem dX6_clash_9 : decode cX6_clash 9 = .ok (.iload_n 2, 1) := by decide +kernel
theorem dX6_clash_10 : decode cX6_clash 10 = .ok (.invokevirtual 114, 3) := by decide +kernel
theorem dX6_clash_13 : decode cX6_clash 13 = .ok (.ifCond .eq 8, 3) := by decide +kernel
theorem dX6_clash_16 : decode cX6_clash 16 = .ok (.iload_n 1, 1) := by decide +kernel
theorem dX6_clash_17 : decode cX6_clash 17 = .ok (.iload_n 2, 1) := by decide +kernel
theorem dX6_clash_18 : decode cX6_clash 18 = .ok (.if_icmp .ne 10, 3) := by decide +kernel
theorem dX6_clash_21 : decode cX6_clash 21 = .ok (.aload_n 0, 1) := by decide +kernel
theorem dX6_clash_22 : decode cX6_clash 22 = .ok (.bipush (-2), 2) := by decide +kernel
theorem dX6_clash_24 : decode cX6_clash 24 = .ok (.invokevirtual 66, 3) := by decide +kernel
theorem dX6_clash_27 : decode cX6_clash 27 = .ok (.ireturn, 1) := by decide +kernel
theorem dX6_clash_28 : decode cX6_clash 28 = .ok (.aload_n 0, 1) := by decide +kernel
theorem dX6_clash_29 : decode cX6_clash 29 = .ok (.getfield 10, 3) := by decide +kernel
theorem dX6_clash_32 : decode cX6_clash 32 = .ok (.iload_n 1, 1) := by decide +kernel
theorem dX6_clash_33 : decode cX6_clash 33 = .ok (.iload_n 2, 1) := by decide +kernel
theorem dX6_clash_34 : decode cX6_clash 34 = .ok (.invokevirtual 164, 3) := by decide +kernel
theorem dX6_clash_37 : decode cX6_clash 37 = .ok (.ireturn, 1) := by decide +kernel
theorem dX6_clashes_0 : decode cX6_clashes 0 = .ok (.iload_n 1, 1) := by decide +kernel
theorem dX6_clashes_1 : decode cX6_clashes 1 = .ok (.iconst (-1), 1) := by decide +kernel
theorem dX6_clashes_2 : decode cX6_clashes 2 = .ok (.iconst 5, 1) := by decide +kernel
theorem dX6_clashes_3 : decode cX6_clashes 3 = .ok (.invokestatic 62, 3) := by decide +kernel
theorem dX6_clashes_6 : decode cX6_clashes 6 = .ok (.ifCond .eq 8, 3) := by decide +kernel
theorem dX6_clashes_9 : decode cX6_clashes 9 = .ok (.iload_n 2, 1) := by decide +kernel
theorem dX6_clashes_10 : decode cX6_clashes 10 = .ok (.iconst (-1), 1) := by decide +kernel
theorem dX6_clashes_11 : decode cX6_clashes 11 = .ok (.if_icmp .ge 10, 3) := by decide +kernel
theorem dX6_clashes_14 : decode cX6_clashes 14 = .ok (.aload_n 0, 1) := by decide +kernel
theorem dX6_clashes_15 : decode cX6_clashes 15 = .ok (.bipush (-10), 2) := by decide +kernel
theorem dX6_clashes_17 : decode cX6_clashes 17 = .ok (.invokevirtual 66, 3) := by decide +kernel
theorem dX6_clashes_20 : decode cX6_clashes 20 = .ok (.ireturn, 1) := by decide +kernel
theorem dX6_clashes_21 : decode cX6_clashes 21 = .ok (.iconst 0, 1) := by decide +kernel
theorem dX6_clashes_22 : decode cX6_clashes 22 = .ok (.istore_n 3, 1) := by decide +kernel
theorem dX6_clashes_23 : decode cX6_clashes 23 = .ok (.iconst 0, 1) := by decide +kernel
theorem dX6_clashes_24 : decode cX6_clashes 24 = .ok (.istore 4, 2) := by decide +kernel
theorem dX6_clashes_26 : decode cX6_clashes 26 = .ok (.iload 4, 2) := by decide +kernel
theorem dX6_clashes_28 : decode cX6_clashes 28 = .ok (.aload_n 0, 1) := by decide +kernel
theorem dX6_clashes_29 : decode cX6_clashes 29 = .ok (.getfield 10, 3) := by decide +kernel
theorem dX6_clashes_32 : decode cX6_clashes 32 = .ok (.getfield 70, 3) := by decide +kernel
theorem dX6_clashes_35 : decode cX6_clashes 35 = .ok (.if_icmp .ge 83, 3) := by decide +kernel
theorem dX6_clashes_38 : decode cX6_clashes 38 = .ok (.iload 4, 2) := by decide +kernel
theorem dX6_clashes_40 : decode cX6_clashes 40 = .ok (.iconst 1, 1) := by decide +kernel
theorem dX6_clashes_41 : decode cX6_clashes 41 = .ok (.iadd, 1) := by decide +kernel
theorem dX6_clashes_42 : decode cX6_clashes 42 = .ok (.istore 5, 2) := by decide +kernel
theorem dX6_clashes_44 : decode cX6_clashes 44 = .ok (.iload 5, 2) := by decide +kernel
theorem dX6_clashes_46 : decode cX6_clashes 46 = .ok (.aload_n 0, 1) := by decide +kernel
theorem dX6_clashes_47 : decode cX6_clashes 47 = .ok (.getfield 10, 3) := by decide +kernel
theorem dX6_clashes_50 : decode cX6_clashes 50 = .ok (.getfield 70, 3) := by decide +kernel
theorem dX6_clashes_53 : decode cX6_clashes 53 = .ok (.if_icmp .ge 59, 3) := by decide +kernel
theorem dX6_clashes_56 : decode cX6_clashes 56 = .ok (.aload_n 0, 1) := by decide +kernel
theorem dX6_clashes_57 : decode cX6_clashes 57 = .ok (.getfield 10, 3) := by decide +kernel
theorem dX6_clashes_60 : decode cX6_clashes 60 = .ok (.iload 4, 2) := by decide +kernel
theorem dX6_clashes_62 : decode cX6_clashes 62 = .ok (.iload 5, 2) := by decide +kernel
theorem dX6_clashes_64 : decode cX6_clashes 64 = .ok (.invokevirtual 164, 3) := by decide +kernel
theorem dX6_clashes_67 : decode cX6_clashes 67 = .ok (.istore 6, 2) := by decide +kernel
theorem dX6_clashes_69 : decode cX6_clashes 69 = .ok (.iload 6, 2) := by decide +kernel
theorem dX6_clashes_71 : decode cX6_clashes 71 = .ok (.iconst (-1), 1) := by decide +kernel
theorem dX6_clashes_72 : decode cX6_clashes 72 = .ok (.if_icmp .eq 34, 3) := by decide +kernel
theorem dX6_clashes_75 : decode cX6_clashes 75 = .ok (.iload_n 1, 1) := by decide +kernel
theorem dX6_clashes_76 : decode cX6_clashes 76 = .ok (.iconst (-1), 1) := by decide +kernel
theorem dX6_clashes_77 : decode cX6_clashes 77 = .ok (.if_icmp .eq 12, 3) := by decide +kernel
theorem dX6_clashes_80 : decode cX6_clashes 80 = .ok (.iload 6, 2) := by decide +kernel
theorem dX6_clashes_82 : decode cX6_clashes 82 = .ok (.iload_n 1, 1) := by decide +kernel
theorem dX6_clashes_83 : decode cX6_clashes 83 = .ok (.if_icmp .eq 6, 3) := by decide +kernel
theorem dX6_clashes_86 : decode cX6_clashes 86 = .ok (.goto 20, 3) := by decide +kernel
theorem dX6_clashes_89 : decode cX6_clashes 89 = .ok (.iload_n 3, 1) := by decide +kernel
theorem dX6_clashes_90 : decode cX6_clashes 90 = .ok (.iload_n 2, 1) := by decide +kernel
theorem dX6_clashes_91 : decode cX6_clashes 91 = .ok (.if_icmp .ne 12, 3) := by decide +kernel
theorem dX6_clashes_94 : decode cX6_clashes 94 = .ok (.bipush 100, 2) := by decide +kernel
theorem dX6_clashes_96 : decode cX6_clashes 96 = .ok (.iload 4, 2) := by decide +kernel
theorem dX6_clashes_98 : decode cX6_clashes 98 = .ok (.imul, 1) := by decide +kernel
theorem dX6_clashes_99 : decode cX6_clashes 99 = .ok (.iload 5, 2) := by decide +kernel
theorem dX6_clashes_101 : decode cX6_clashes 101 = .ok (.iadd, 1) := by decide +kernel
theorem dX6_clashes_102 : decode cX6_clashes 102 = .ok (.ireturn, 1) := by decide +kernel
theorem dX6_clashes_103 : decode cX6_clashes 103 = .ok (.iinc 3 1, 3) := by decide +kernel
theorem dX6_clashes_106 : decode cX6_clashes 106 = .ok (.iinc 5 1, 3) := by decide +kernel
theorem dX6_clashes_109 : decode cX6_clashes 109 = .ok (.goto (-65), 3) := by decide +kernel
theorem dX6_clashes_112 : decode cX6_clashes 112 = .ok (.iinc 4 1, 3) := by decide +kernel
theorem dX6_clashes_115 : decode cX6_clashes 115 = .ok (.goto (-89), 3) := by decide +kernel
theorem dX6_clashes_118 : decode cX6_clashes 118 = .ok (.iload_n 2, 1) := by decide +kernel
theorem dX6_clashes_119 : decode cX6_clashes 119 = .ok (.iconst (-1), 1) := by decide +kernel
theorem dX6_clashes_120 : decode cX6_clashes 120 = .ok (.if_icmp .ne 7, 3) := by decide +kernel
theorem dX6_clashes_123 : decode cX6_clashes 123 = .ok (.iload_n 3, 1) := by decide +kernel
theorem dX6_clashes_124 : decode cX6_clashes 124 = .ok (.goto 5, 3) := by decide +kernel
theorem dX6_clashes_127 : decode cX6_clashes 127 = .ok (.bipush (-5), 2) := by decide +kernel
theorem dX6_clashes_129 : decode cX6_clashes 129 = .ok (.ireturn, 1) := by decide +kernel
theorem dX6_given_0 : decode cX6_given 0 = .ok (.iload_n 1, 1) := by decide +kernel
theorem dX6_given_1 : decode cX6_given 1 = .ok (.iconst 0, 1) := by decide +kernel
theorem dX6_given_2 : decode cX6_given 2 = .ok (.iconst 2, 1) := by decide +kernel
theorem dX6_given_3 : decode cX6_given 3 = .ok (.invokestatic 62, 3) := by decide +kernel
theorem dX6_given_6 : decode cX6_given 6 = .ok (.ifCond .eq 8, 3) := by decide +kernel
theorem dX6_given_9 : decode cX6_given 9 = .ok (.iload_n 2, 1) := by decide +kernel
theorem dX6_given_10 : decode cX6_given 10 = .ok (.iconst (-1), 1) := by decide +kernel
theorem dX6_given_11 : decode cX6_given 11 = .ok (.if_icmp .ge 10, 3) := by decide +kernel
theorem dX6_given_14 : decode cX6_given 14 = .ok (.aload_n 0, 1) := by decide +kernel
theorem dX6_given_15 : decode cX6_given 15 = .ok (.bipush (-10), 2) := by decide +kernel
theorem dX6_given_17 : decode cX6_given 17 = .ok (.invokevirtual 66, 3) := by decide +kernel
theorem dX6_given_20 : decode cX6_given 20 = .ok (.ireturn, 1) := by decide +kernel
theorem dX6_given_21 : decode cX6_given 21 = .ok (.aload_n 0, 1) := by decide +kernel
theorem dX6_given_22 : decode cX6_given 22 = .ok (.getfield 33, 3) := by decide +kernel
theorem dX6_given_25 : decode cX6_given 25 = .ok (.aload_n 0, 1) := by decide +kernel
theorem dX6_given_26 : decode cX6_given 26 = .ok (.getfield 10, 3) := by decide +kernel
theorem dX6_given_29 : decode cX6_given 29 = .ok (.iload_n 1, 1) := by decide +kernel
theorem dX6_given_30 : decode cX6_given 30 = .ok (.invokevirtual 168, 3) := by decide +kernel
theorem dX6_given_33 : decode cX6_given 33 = .ok (.iload_n 2, 1) := by decide +kernel
theorem dX6_given_34 : decode cX6_given 34 = .ok (.iconst (-1), 1) := by decide +kernel
theorem dX6_given_35 : decode cX6_given 35 = .ok (.if_icmp .ne 11, 3) := by decide +kernel
theorem dX6_given_38 : decode cX6_given 38 = .ok (.aload_n 0, 1) := by decide +kernel
theorem dX6_given_39 : decode cX6_given 39 = .ok (.getfield 33, 3) := by decide +kernel
theorem dX6_given_42 : decode cX6_given 42 = .ok (.getfield 172, 3) := by decide +kernel
theorem dX6_given_45 : decode cX6_given 45 = .ok (.ireturn, 1) := by decide +kernel
theorem dX6_given_46 : decode cX6_given 46 = .ok (.iload_n 2, 1) := by decide +kernel
theorem dX6_given_47 : decode cX6_given 47 = .ok (.aload_n 0, 1) := by decide +kernel
theorem dX6_given_48 : decode cX6_given 48 = .ok (.getfield 33, 3) := by decide +kernel
theorem dX6_given_51 : decode cX6_given 51 = .ok (.getfield 175, 3) := by decide +kernel
theorem dX6_given_54 : decode cX6_given 54 = .ok (.if_icmp .ge 20, 3) := by decide +kernel
theorem dX6_given_57 : decode cX6_given 57 = .ok (.iload_n 2, 1) := by decide +kernel
theorem dX6_given_58 : decode cX6_given 58 = .ok (.iconst 2, 1) := by decide +kernel
theorem dX6_given_59 : decode cX6_given 59 = .ok (.if_icmp .ge 15, 3) := by decide +kernel
theorem dX6_given_62 : decode cX6_given 62 = .ok (.aload_n 0, 1) := by decide +kernel
theorem dX6_given_63 : decode cX6_given 63 = .ok (.getfield 33, 3) := by decide +kernel
theorem dX6_given_66 : decode cX6_given 66 = .ok (.getfield 178, 3) := by decide +kernel
theorem dX6_given_69 : decode cX6_given 69 = .ok (.iload_n 2, 1) := by decide +kernel
theorem dX6_given_70 : decode cX6_given 70 = .ok (.iaload, 1) := by decide +kernel
theorem dX6_given_71 : decode cX6_given 71 = .ok (.goto 5, 3) := by decide +kernel
theorem dX6_given_74 : decode cX6_given 74 = .ok (.bipush (-5), 2) := by decide +kernel
theorem dX6_given_76 : decode cX6_given 76 = .ok (.ireturn, 1) := by decide +kernel
theorem dX6_out_0 : decode cX6_out 0 = .ok (.iconst 1, 1) := by decide +kernel
theorem dX6_out_1 : decode cX6_out 1 = .ok (.aload_n 0, 1) := by decide +kernel
theorem dX6_out_2 : decode cX6_out 2 = .ok (.getfield 10, 3) := by decide +kernel
theorem dX6_out_5 : decode cX6_out 5 = .ok (.getfield 70, 3) := by decide +kernel
theorem dX6_out_8 : decode cX6_out 8 = .ok (.ishl, 1) := by decide +kernel
theorem dX6_out_9 : decode cX6_out 9 = .ok (.iconst 1, 1) := by decide +kernel
theorem dX6_out_10 : decode cX6_out 10 = .ok (.isub, 1) := by decide +kernel
theorem dX6_out_11 : decode cX6_out 11 = .ok (.istore_n 1, 1) := by decide +kernel
theorem dX6_out_12 : decode cX6_out 12 = .ok (.aload_n 0, 1) := by decide +kernel
theorem dX6_out_13 : decode cX6_out 13 = .ok (.getfield 10, 3) := by decide +kernel
theorem dX6_out_16 : decode cX6_out 16 = .ok (.getfield 70, 3) := by decide +kernel
theorem dX6_out_19 : decode cX6_out 19 = .ok (.istore_n 2, 1) := by decide +kernel
theorem dX6_out_20 : decode cX6_out 20 = .ok (.aload_n 0, 1) := by decide +kernel
theorem dX6_out_21 : decode cX6_out 21 = .ok (.getfield 10, 3) := by decide +kernel
theorem dX6_out_24 : decode cX6_out 24 = .ok (.invokevirtual 181, 3) := by decide +kernel
theorem dX6_out_27 : decode cX6_out 27 = .ok (.iconst 0, 1) := by decide +kernel
theorem dX6_out_28 : decode cX6_out 28 = .ok (.istore_n 3, 1) := by decide +kernel
theorem dX6_out_29 : decode cX6_out 29 = .ok (.iload_n 3, 1) := by decide +kernel
theorem dX6_out_30 : decode cX6_out 30 = .ok (.iconst 1, 1) := by decide +kernel
theorem dX6_out_31 : decode cX6_out 31 = .ok (.aload_n 0, 1) := by decide +kernel
theorem dX6_out_32 : decode cX6_out 32 = .ok (.getfield 10, 3) := by decide +kernel
theorem dX6_out_35 : decode cX6_out 35 = .ok (.getfield 70, 3) := by decide +kernel
theorem dX6_out_38 : decode cX6_out 38 = .ok (.ishl, 1) := by decide +kernel
theorem dX6_out_39 : decode cX6_out 39 = .ok (.if_icmp .ge 37, 3) := by decide +kernel
theorem dX6_out_42 : decode cX6_out 42 = .ok (.iload_n 3, 1) := by decide +kernel
theorem dX6_out_43 : decode cX6_out 43 = .ok (.invokestatic 184, 3) := by decide +kernel
theorem dX6_out_46 : decode cX6_out 46 = .ok (.istore 4, 2) := by decide +kernel
theorem dX6_out_48 : decode cX6_out 48 = .ok (.iload 4, 2) := by decide +kernel
theorem dX6_out_50 : decode cX6_out 50 = .ok (.iload_n 2, 1) := by decide +kernel
theorem dX6_out_51 : decode cX6_out 51 = .ok (.if_icmp .ge 19, 3) := by decide +kernel
theorem dX6_out_54 : decode cX6_out 54 = .ok (.aload_n 0, 1) := by decide +kernel
theorem dX6_out_55 : decode cX6_out 55 = .ok (.getfield 10, 3) := by decide +kernel
theorem dX6_out_58 : decode cX6_out 58 = .ok (.iload_n 3, 1) := by decide +kernel
theorem dX6_out_59 : decode cX6_out 59 = .ok (.invokevirtual 189, 3) := by decide +kernel
theorem dX6_out_62 : decode cX6_out 62 = .ok (.ifCond .eq 8, 3) := by decide +kernel
theorem dX6_out_65 : decode cX6_out 65 = .ok (.iload_n 3, 1) := by decide +kernel
theorem dX6_out_66 : decode cX6_out 66 = .ok (.istore_n 1, 1) := by decide +kernel
theorem dX6_out_67 : decode cX6_out 67 = .ok (.iload 4, 2) := by decide +kernel
theorem dX6_out_69 : decode cX6_out 69 = .ok (.istore_n 2, 1) := by decide +kernel
theorem dX6_out_70 : decode cX6_out 70 = .ok (.iinc 3 1, 3) := by decide +kernel
theorem dX6_out_73 : decode cX6_out 73 = .ok (.goto (-44), 3) := by decide +kernel
theorem dX6_out_76 : decode cX6_out 76 = .ok (.iload_n 1, 1) := by decide +kernel
theorem dX6_out_77 : decode cX6_out 77 = .ok (.ireturn, 1) := by decide +kernel
theorem dX6_fingers_0 : decode cX6_fingers 0 = .ok (.iload_n 1, 1) := by decide +kernel
theorem dX6_fingers_1 : decode cX6_fingers 1 = .ok (.iconst 0, 1) := by decide +kernel
theorem dX6_fingers_2 : decode cX6_fingers 2 = .ok (.iconst 3, 1) := by decide +kernel
theorem dX6_fingers_3 : decode cX6_fingers 3 = .ok (.invokestatic 62, 3) := by decide +kernel
theorem dX6_fingers_6 : decode cX6_fingers 6 = .ok (.ifCond .eq 8, 3) := by decide +kernel
theorem dX6_fingers_9 : decode cX6_fingers 9 = .ok (.iload_n 2, 1) := by decide +kernel
theorem dX6_fingers_10 : decode cX6_fingers 10 = .ok (.iconst (-1), 1) := by decide +kernel
theorem dX6_fingers_11 : decode cX6_fingers 11 = .ok (.if_icmp .ge 10, 3) := by decide +kernel
theorem dX6_fingers_14 : decode cX6_fingers 14 = .ok (.aload_n 0, 1) := by decide +kernel
theorem dX6_fingers_15 : decode cX6_fingers 15 = .ok (.bipush (-10), 2) := by decide +kernel
theorem dX6_fingers_17 : decode cX6_fingers 17 = .ok (.invokevirtual 66, 3) := by decide +kernel
theorem dX6_fingers_20 : decode cX6_fingers 20 = .ok (.ireturn, 1) := by decide +kernel
theorem dX6_fingers_21 : decode cX6_fingers 21 = .ok (.aload_n 0, 1) := by decide +kernel
theorem dX6_fingers_22 : decode cX6_fingers 22 = .ok (.getfield 10, 3) := by decide +kernel
theorem dX6_fingers_25 : decode cX6_fingers 25 = .ok (.iload_n 1, 1) := by decide +kernel
theorem dX6_fingers_26 : decode cX6_fingers 26 = .ok (.invokevirtual 161, 3) := by decide +kernel
theorem dX6_fingers_29 : decode cX6_fingers 29 = .ok (.invokestatic 184, 3) := by decide +kernel
theorem dX6_fingers_32 : decode cX6_fingers 32 = .ok (.bipush 8, 2) := by decide +kernel
theorem dX6_fingers_34 : decode cX6_fingers 34 = .ok (.if_icmp .le 10, 3) := by decide +kernel
theorem dX6_fingers_37 : decode cX6_fingers 37 = .ok (.aload_n 0, 1) := by decide +kernel
theorem dX6_fingers_38 : decode cX6_fingers 38 = .ok (.bipush (-20), 2) := by decide +kernel
theorem dX6_fingers_40 : decode cX6_fingers 40 = .ok (.invokevirtual 128, 3) := by decide +kernel
theorem dX6_fingers_43 : decode cX6_fingers 43 = .ok (.ireturn, 1) := by decide +kernel
theorem dX6_fingers_44 : decode cX6_fingers 44 = .ok (.aload_n 0, 1) := by decide +kernel
theorem dX6_fingers_45 : decode cX6_fingers 45 = .ok (.getfield 40, 3) := by decide +kernel
theorem dX6_fingers_48 : decode cX6_fingers 48 = .ok (.aload_n 0, 1) := by decide +kernel
theorem dX6_fingers_49 : decode cX6_fingers 49 = .ok (.getfield 10, 3) := by decide +kernel
theorem dX6_fingers_52 : decode cX6_fingers 52 = .ok (.iload_n 1, 1) := by decide +kernel
theorem dX6_fingers_53 : decode cX6_fingers 53 = .ok (.invokevirtual 192, 3) := by decide +kernel
theorem dX6_fingers_56 : decode cX6_fingers 56 = .ok (.iload_n 2, 1) := by decide +kernel
theorem dX6_fingers_57 : decode cX6_fingers 57 = .ok (.iconst (-1), 1) := by decide +kernel
theorem dX6_fingers_58 : decode cX6_fingers 58 = .ok (.if_icmp .ne 11, 3) := by decide +kernel
theorem dX6_fingers_61 : decode cX6_fingers 61 = .ok (.aload_n 0, 1) := by decide +kernel
theorem dX6_fingers_62 : decode cX6_fingers 62 = .ok (.getfield 40, 3) := by decide +kernel
theorem dX6_fingers_65 : decode cX6_fingers 65 = .ok (.getfield 193, 3) := by decide +kernel
theorem dX6_fingers_68 : decode cX6_fingers 68 = .ok (.ireturn, 1) := by decide +kernel
theorem dX6_fingers_69 : decode cX6_fingers 69 = .ok (.iload_n 2, 1) := by decide +kernel
theorem dX6_fingers_70 : decode cX6_fingers 70 = .ok (.aload_n 0, 1) := by decide +kernel
theorem dX6_fingers_71 : decode cX6_fingers 71 = .ok (.getfield 40, 3) := by decide +kernel
theorem dX6_fingers_74 : decode cX6_fingers 74 = .ok (.getfield 196, 3) := by decide +kernel
theorem dX6_fingers_77 : decode cX6_fingers 77 = .ok (.if_icmp .ge 21, 3) := by decide +kernel
theorem dX6_fingers_80 : decode cX6_fingers 80 = .ok (.iload_n 2, 1) := by decide +kernel
theorem dX6_fingers_81 : decode cX6_fingers 81 = .ok (.bipush 8, 2) := by decide +kernel
theorem dX6_fingers_83 : decode cX6_fingers 83 = .ok (.if_icmp .ge 15, 3) := by decide +kernel
theorem dX6_fingers_86 : decode cX6_fingers 86 = .ok (.aload_n 0, 1) := by decide +kernel
theorem dX6_fingers_87 : decode cX6_fingers 87 = .ok (.getfield 40, 3) := by decide +kernel
theorem dX6_fingers_90 : decode cX6_fingers 90 = .ok (.getfield 199, 3) := by decide +kernel
theorem dX6_fingers_93 : decode cX6_fingers 93 = .ok (.iload_n 2, 1) := by decide +kernel
theorem dX6_fingers_94 : decode cX6_fingers 94 = .ok (.iaload, 1) := by decide +kernel
theorem dX6_fingers_95 : decode cX6_fingers 95 = .ok (.goto 5, 3) := by decide +kernel
theorem dX6_fingers_98 : decode cX6_fingers 98 = .ok (.bipush (-5), 2) := by decide +kernel
theorem dX6_fingers_100 : decode cX6_fingers 100 = .ok (.ireturn, 1) := by decide +kernel
theorem dX6_pedal_0 : decode cX6_pedal 0 = .ok (.iload_n 2, 1) := by decide +kernel
theorem dX6_pedal_1 : decode cX6_pedal 1 = .ok (.iconst 0, 1) := by decide +kernel
theorem dX6_pedal_2 : decode cX6_pedal 2 = .ok (.bipush 64, 2) := by decide +kernel
theorem dX6_pedal_4 : decode cX6_pedal 4 = .ok (.invokestatic 62, 3) := by decide +kernel
theorem dX6_pedal_7 : decode cX6_pedal 7 = .ok (.ifCond .eq 12, 3) := by decide +kernel
theorem dX6_pedal_10 : decode cX6_pedal 10 = .ok (.iload_n 1, 1) := by decide +kernel
theorem dX6_pedal_11 : decode cX6_pedal 11 = .ok (.iconst 0, 1) := by decide +kernel
theorem dX6_pedal_12 : decode cX6_pedal 12 = .ok (.iload_n 2, 1) := by decide +kernel
theorem dX6_pedal_13 : decode cX6_pedal 13 = .ok (.invokestatic 62, 3) := by decide +kernel
theorem dX6_pedal_16 : decode cX6_pedal 16 = .ok (.ifCond .ne 10, 3) := by decide +kernel
theorem dX6_pedal_19 : decode cX6_pedal 19 = .ok (.aload_n 0, 1) := by decide +kernel
theorem dX6_pedal_20 : decode cX6_pedal 20 = .ok (.bipush (-2), 2) := by decide +kernel
theorem dX6_pedal_22 : decode cX6_pedal 22 = .ok (.invokevirtual 66, 3) := by decide +kernel
theorem dX6_pedal_25 : decode cX6_pedal 25 = .ok (.ireturn, 1) := by decide +kernel
theorem dX6_pedal_26 : decode cX6_pedal 26 = .ok (.aload_n 0, 1) := by decide +kernel
theorem dX6_pedal_27 : decode cX6_pedal 27 = .ok (.getfield 10, 3) := by decide +kernel
theorem dX6_pedal_30 : decode cX6_pedal 30 = .ok (.iload_n 1, 1) := by decide +kernel
theorem dX6_pedal_31 : decode cX6_pedal 31 = .ok (.putfield 200, 3) := by decide +kernel
theorem dX6_pedal_34 : decode cX6_pedal 34 = .ok (.aload_n 0, 1) := by decide +kernel
theorem dX6_pedal_35 : decode cX6_pedal 35 = .ok (.getfield 10, 3) := by decide +kernel
theorem dX6_pedal_38 : decode cX6_pedal 38 = .ok (.iload_n 2, 1) := by decide +kernel
theorem dX6_pedal_39 : decode cX6_pedal 39 = .ok (.putfield 203, 3) := by decide +kernel
theorem dX6_pedal_42 : decode cX6_pedal 42 = .ok (.iconst 1, 1) := by decide +kernel
theorem dX6_pedal_43 : decode cX6_pedal 43 = .ok (.ireturn, 1) := by decide +kernel
theorem dX6_blurs_0 : decode cX6_blurs 0 = .ok (.iload_n 1, 1) := by decide +kernel
theorem dX6_blurs_1 : decode cX6_blurs 1 = .ok (.iconst 0, 1) := by decide +kernel
theorem dX6_blurs_2 : decode cX6_blurs 2 = .ok (.iconst 1, 1) := by decide +kernel
theorem dX6_blurs_3 : decode cX6_blurs 3 = .ok (.invokestatic 62, 3) := by decide +kernel
theorem dX6_blurs_6 : decode cX6_blurs 6 = .ok (.ifCond .ne 10, 3) := by decide +kernel
theorem dX6_blurs_9 : decode cX6_blurs 9 = .ok (.aload_n 0, 1) := by decide +kernel
theorem dX6_blurs_10 : decode cX6_blurs 10 = .ok (.bipush (-2), 2) := by decide +kernel
theorem dX6_blurs_12 : decode cX6_blurs 12 = .ok (.invokevirtual 66, 3) := by decide +kernel
theorem dX6_blurs_15 : decode cX6_blurs 15 = .ok (.ireturn, 1) := by decide +kernel
theorem dX6_blurs_16 : decode cX6_blurs 16 = .ok (.aload_n 0, 1) := by decide +kernel
theorem dX6_blurs_17 : decode cX6_blurs 17 = .ok (.getfield 47, 3) := by decide +kernel
theorem dX6_blurs_20 : decode cX6_blurs 20 = .ok (.aload_n 0, 1) := by decide +kernel
theorem dX6_blurs_21 : decode cX6_blurs 21 = .ok (.getfield 10, 3) := by decide +kernel
theorem dX6_blurs_24 : decode cX6_blurs 24 = .ok (.invokevirtual 206, 3) := by decide +kernel
theorem dX6_blurs_27 : decode cX6_blurs 27 = .ok (.iload_n 1, 1) := by decide +kernel
theorem dX6_blurs_28 : decode cX6_blurs 28 = .ok (.ifCond .ne 25, 3) := by decide +kernel
theorem dX6_blurs_31 : decode cX6_blurs 31 = .ok (.aload_n 0, 1) := by decide +kernel
theorem dX6_blurs_32 : decode cX6_blurs 32 = .ok (.getfield 47, 3) := by decide +kernel
theorem dX6_blurs_35 : decode cX6_blurs 35 = .ok (.aload_n 0, 1) := by decide +kernel
theorem dX6_blurs_36 : decode cX6_blurs 36 = .ok (.getfield 10, 3) := by decide +kernel
theorem dX6_blurs_39 : decode cX6_blurs 39 = .ok (.getfield 200, 3) := by decide +kernel
theorem dX6_blurs_42 : decode cX6_blurs 42 = .ok (.aload_n 0, 1) := by decide +kernel
theorem dX6_blurs_43 : decode cX6_blurs 43 = .ok (.getfield 10, 3) := by decide +kernel
theorem dX6_blurs_46 : decode cX6_blurs 46 = .ok (.getfield 203, 3) := by decide +kernel
theorem dX6_blurs_49 : decode cX6_blurs 49 = .ok (.invokevirtual 209, 3) := by decide +kernel
theorem dX6_blurs_52 : decode cX6_blurs 52 = .ok (.ireturn, 1) := by decide +kernel
theorem dX6_blurs_53 : decode cX6_blurs 53 = .ok (.aload_n 0, 1) := by decide +kernel
theorem dX6_blurs_54 : decode cX6_blurs 54 = .ok (.getfield 47, 3) := by decide +kernel
theorem dX6_blurs_57 : decode cX6_blurs 57 = .ok (.aload_n 0, 1) := by decide +kernel
theorem dX6_blurs_58 : decode cX6_blurs 58 = .ok (.getfield 10, 3) := by decide +kernel
theorem dX6_blurs_61 : decode cX6_blurs 61 = .ok (.getfield 200, 3) := by decide +kernel
theorem dX6_blurs_64 : decode cX6_blurs 64 = .ok (.aload_n 0, 1) := by decide +kernel
theorem dX6_blurs_65 : decode cX6_blurs 65 = .ok (.getfield 10, 3) := by decide +kernel
theorem dX6_blurs_68 : decode cX6_blurs 68 = .ok (.getfield 203, 3) := by decide +kernel
theorem dX6_blurs_71 : decode cX6_blurs 71 = .ok (.invokevirtual 212, 3) := by decide +kernel
theorem dX6_blurs_74 : decode cX6_blurs 74 = .ok (.ireturn, 1) := by decide +kernel
theorem dX6_best_0 : decode cX6_best 0 = .ok (.iload_n 1, 1) := by decide +kernel
theorem dX6_best_1 : decode cX6_best 1 = .ok (.iconst 0, 1) := by decide +kernel
theorem dX6_best_2 : decode cX6_best 2 = .ok (.iconst 1, 1) := by decide +kernel
theorem dX6_best_3 : decode cX6_best 3 = .ok (.invokestatic 62, 3) := by decide +kernel
theorem dX6_best_6 : decode cX6_best 6 = .ok (.ifCond .ne 10, 3) := by decide +kernel
theorem dX6_best_9 : decode cX6_best 9 = .ok (.aload_n 0, 1) := by decide +kernel
theorem dX6_best_10 : decode cX6_best 10 = .ok (.bipush (-2), 2) := by decide +kernel
theorem dX6_best_12 : decode cX6_best 12 = .ok (.invokevirtual 66, 3) := by decide +kernel
theorem dX6_best_15 : decode cX6_best 15 = .ok (.ireturn, 1) := by decide +kernel
theorem dX6_best_16 : decode cX6_best 16 = .ok (.aload_n 0, 1) := by decide +kernel
theorem dX6_best_17 : decode cX6_best 17 = .ok (.getfield 47, 3) := by decide +kernel
theorem dX6_best_20 : decode cX6_best 20 = .ok (.aload_n 0, 1) := by decide +kernel
theorem dX6_best_21 : decode cX6_best 21 = .ok (.getfield 10, 3) := by decide +kernel
theorem dX6_best_24 : decode cX6_best 24 = .ok (.invokevirtual 206, 3) := by decide +kernel
theorem dX6_best_27 : decode cX6_best 27 = .ok (.aload_n 0, 1) := by decide +kernel
theorem dX6_best_28 : decode cX6_best 28 = .ok (.getfield 47, 3) := by decide +kernel
theorem dX6_best_31 : decode cX6_best 31 = .ok (.invokevirtual 215, 3) := by decide +kernel
theorem dX6_best_34 : decode cX6_best 34 = .ok (.iload_n 1, 1) := by decide +kernel
theorem dX6_best_35 : decode cX6_best 35 = .ok (.ifCond .ne 13, 3) := by decide +kernel
theorem dX6_best_38 : decode cX6_best 38 = .ok (.aload_n 0, 1) := by decide +kernel
theorem dX6_best_39 : decode cX6_best 39 = .ok (.getfield 47, 3) := by decide +kernel
theorem dX6_best_42 : decode cX6_best 42 = .ok (.getfield 218, 3) := by decide +kernel
theorem dX6_best_45 : decode cX6_best 45 = .ok (.goto 21, 3) := by decide +kernel
theorem dX6_best_48 : decode cX6_best 48 = .ok (.bipush 100, 2) := by decide +kernel
theorem dX6_best_50 : decode cX6_best 50 = .ok (.aload_n 0, 1) := by decide +kernel
theorem dX6_best_51 : decode cX6_best 51 = .ok (.getfield 47, 3) := by decide +kernel
theorem dX6_best_54 : decode cX6_best 54 = .ok (.getfield 221, 3) := by decide +kernel
theorem dX6_best_57 : decode cX6_best 57 = .ok (.imul, 1) := by decide +kernel
theorem dX6_best_58 : decode cX6_best 58 = .ok (.aload_n 0, 1) := by decide +kernel
theorem dX6_best_59 : decode cX6_best 59 = .ok (.getfield 47, 3) := by decide +kernel
theorem dX6_best_62 : decode cX6_best 62 = .ok (.getfield 224, 3) := by decide +kernel
theorem dX6_best_65 : decode cX6_best 65 = .ok (.iadd, 1) := by decide +kernel
theorem dX6_best_66 : decode cX6_best 66 = .ok (.ireturn, 1) := by decide +kernel
theorem dX6_turns_0 : decode cX6_turns 0 = .ok (.iload_n 1, 1) := by decide +kernel
theorem dX6_turns_1 : decode cX6_turns 1 = .ok (.iconst 0, 1) := by decide +kernel
theorem dX6_turns_2 : decode cX6_turns 2 = .ok (.bipush 63, 2) := by decide +kernel
theorem dX6_turns_4 : decode cX6_turns 4 = .ok (.invokestatic 62, 3) := by decide +kernel
theorem dX6_turns_7 : decode cX6_turns 7 = .ok (.ifCond .eq 22, 3) := by decide +kernel
theorem dX6_turns_10 : decode cX6_turns 10 = .ok (.iload_n 2, 1) := by decide +kernel
theorem dX6_turns_11 : decode cX6_turns 11 = .ok (.iconst 0, 1) := by decide +kernel
theorem dX6_turns_12 : decode cX6_turns 12 = .ok (.bipush 9, 2) := by decide +kernel
theorem dX6_turns_14 : decode cX6_turns 14 = .ok (.invokestatic 62, 3) := by decide +kernel
theorem dX6_turns_17 : decode cX6_turns 17 = .ok (.ifCond .eq 12, 3) := by decide +kernel
theorem dX6_turns_20 : decode cX6_turns 20 = .ok (.iload_n 3, 1) := by decide +kernel
theorem dX6_turns_21 : decode cX6_turns 21 = .ok (.iconst (-1), 1) := by decide +kernel
theorem dX6_turns_22 : decode cX6_turns 22 = .ok (.iconst 1, 1) := by decide +kernel
theorem dX6_turns_23 : decode cX6_turns 23 = .ok (.invokestatic 62, 3) := by decide +kernel
theorem dX6_turns_26 : decode cX6_turns 26 = .ok (.ifCond .ne 10, 3) := by decide +kernel
theorem dX6_turns_29 : decode cX6_turns 29 = .ok (.aload_n 0, 1) := by decide +kernel
theorem dX6_turns_30 : decode cX6_turns 30 = .ok (.bipush (-2), 2) := by decide +kernel
theorem dX6_turns_32 : decode cX6_turns 32 = .ok (.invokevirtual 66, 3) := by decide +kernel
theorem dX6_turns_35 : decode cX6_turns 35 = .ok (.ireturn, 1) := by decide +kernel
theorem dX6_turns_36 : decode cX6_turns 36 = .ok (.iconst 0, 1) := by decide +kernel
theorem dX6_turns_37 : decode cX6_turns 37 = .ok (.istore 4, 2) := by decide +kernel
theorem dX6_turns_39 : decode cX6_turns 39 = .ok (.iload 4, 2) := by decide +kernel
theorem dX6_turns_41 : decode cX6_turns 41 = .ok (.iload_n 2, 1) := by decide +kernel
theorem dX6_turns_42 : decode cX6_turns 42 = .ok (.if_icmp .gt 46, 3) := by decide +kernel
theorem dX6_turns_45 : decode cX6_turns 45 = .ok (.aload_n 0, 1) := by decide +kernel
theorem dX6_turns_46 : decode cX6_turns 46 = .ok (.iload_n 1, 1) := by decide +kernel
theorem dX6_turns_47 : decode cX6_turns 47 = .ok (.iload 4, 2) := by decide +kernel
theorem dX6_turns_49 : decode cX6_turns 49 = .ok (.isub, 1) := by decide +kernel
theorem dX6_turns_50 : decode cX6_turns 50 = .ok (.iload_n 3, 1) := by decide +kernel
theorem dX6_turns_51 : decode cX6_turns 51 = .ok (.invokevirtual 227, 3) := by decide +kernel
theorem dX6_turns_54 : decode cX6_turns 54 = .ok (.istore 5, 2) := by decide +kernel
theorem dX6_turns_56 : decode cX6_turns 56 = .ok (.iload 5, 2) := by decide +kernel
theorem dX6_turns_58 : decode cX6_turns 58 = .ok (.iconst (-1), 1) := by decide +kernel
theorem dX6_turns_59 : decode cX6_turns 59 = .ok (.if_icmp .ne 14, 3) := by decide +kernel
theorem dX6_turns_62 : decode cX6_turns 62 = .ok (.aload_n 0, 1) := by decide +kernel
theorem dX6_turns_63 : decode cX6_turns 63 = .ok (.iload_n 1, 1) := by decide +kernel
theorem dX6_turns_64 : decode cX6_turns 64 = .ok (.iload 4, 2) := by decide +kernel
theorem dX6_turns_66 : decode cX6_turns 66 = .ok (.iadd, 1) := by decide +kernel
theorem dX6_turns_67 : decode cX6_turns 67 = .ok (.iload_n 3, 1) := by decide +kernel
theorem dX6_turns_68 : decode cX6_turns 68 = .ok (.invokevirtual 227, 3) := by decide +kernel
theorem dX6_turns_71 : decode cX6_turns 71 = .ok (.istore 5, 2) := by decide +kernel
theorem dX6_turns_73 : decode cX6_turns 73 = .ok (.iload 5, 2) := by decide +kernel
theorem dX6_turns_75 : decode cX6_turns 75 = .ok (.iconst (-1), 1) := by decide +kernel
theorem dX6_turns_76 : decode cX6_turns 76 = .ok (.if_icmp .eq 6, 3) := by decide +kernel
theorem dX6_turns_79 : decode cX6_turns 79 = .ok (.iload 5, 2) := by decide +kernel
theorem dX6_turns_81 : decode cX6_turns 81 = .ok (.ireturn, 1) := by decide +kernel
theorem dX6_turns_82 : decode cX6_turns 82 = .ok (.iinc 4 1, 3) := by decide +kernel
theorem dX6_turns_85 : decode cX6_turns 85 = .ok (.goto (-46), 3) := by decide +kernel
theorem dX6_turns_88 : decode cX6_turns 88 = .ok (.iconst (-1), 1) := by decide +kernel
theorem dX6_turns_89 : decode cX6_turns 89 = .ok (.ireturn, 1) := by decide +kernel
theorem dX6_covered_0 : decode cX6_covered 0 = .ok (.lconst 0, 1) := by decide +kernel
theorem dX6_covered_1 : decode cX6_covered 1 = .ok (.lstore_n 1, 1) := by decide +kernel
theorem dX6_covered_2 : decode cX6_covered 2 = .ok (.iconst 0, 1) := by decide +kernel
theorem dX6_covered_3 : decode cX6_covered 3 = .ok (.istore_n 3, 1) := by decide +kernel
theorem dX6_covered_4 : decode cX6_covered 4 = .ok (.iload_n 3, 1) := by decide +kernel
theorem dX6_covered_5 : decode cX6_covered 5 = .ok (.bipush 64, 2) := by decide +kernel
theorem dX6_covered_7 : decode cX6_covered 7 = .ok (.if_icmp .ge 26, 3) := by decide +kernel
theorem dX6_covered_10 : decode cX6_covered 10 = .ok (.aload_n 0, 1) := by decide +kernel
theorem dX6_covered_11 : decode cX6_covered 11 = .ok (.getfield 10, 3) := by decide +kernel
theorem dX6_covered_14 : decode cX6_covered 14 = .ok (.iload_n 3, 1) := by decide +kernel
theorem dX6_covered_15 : decode cX6_covered 15 = .ok (.invokevirtual 230, 3) := by decide +kernel
theorem dX6_covered_18 : decode cX6_covered 18 = .ok (.ifCond .eq 9, 3) := by decide +kernel
theorem dX6_covered_21 : decode cX6_covered 21 = .ok (.lload_n 1, 1) := by decide +kernel
theorem dX6_covered_22 : decode cX6_covered 22 = .ok (.lconst 1, 1) := by decide +kernel
theorem dX6_covered_23 : decode cX6_covered 23 = .ok (.iload_n 3, 1) := by decide +kernel
theorem dX6_covered_24 : decode cX6_covered 24 = .ok (.lshl, 1) := by decide +kernel
theorem dX6_covered_25 : decode cX6_covered 25 = .ok (.lor, 1) := by decide +kernel
theorem dX6_covered_26 : decode cX6_covered 26 = .ok (.lstore_n 1, 1) := by decide +kernel
theorem dX6_covered_27 : decode cX6_covered 27 = .ok (.iinc 3 1, 3) := by decide +kernel
theorem dX6_covered_30 : decode cX6_covered 30 = .ok (.goto (-26), 3) := by decide +kernel
theorem dX6_covered_33 : decode cX6_covered 33 = .ok (.lload_n 1, 1) := by decide +kernel
theorem dX6_covered_34 : decode cX6_covered 34 = .ok (.lreturn, 1) := by decide +kernel
theorem dX6_places_0 : decode cX6_places 0 = .ok (.aload_n 0, 1) := by decide +kernel
theorem dX6_places_1 : decode cX6_places 1 = .ok (.getfield 16, 3) := by decide +kernel
theorem dX6_places_4 : decode cX6_places 4 = .ok (.aload_n 0, 1) := by decide +kernel
theorem dX6_places_5 : decode cX6_places 5 = .ok (.getfield 10, 3) := by decide +kernel
theorem dX6_places_8 : decode cX6_places 8 = .ok (.invokevirtual 110, 3) := by decide +kernel
theorem dX6_places_11 : decode cX6_places 11 = .ok (.iconst 0, 1) := by decide +kernel
theorem dX6_places_12 : decode cX6_places 12 = .ok (.istore_n 1, 1) := by decide +kernel
theorem dX6_places_13 : decode cX6_places 13 = .ok (.iload_n 1, 1) := by decide +kernel
theorem dX6_places_14 : decode cX6_places 14 = .ok (.aload_n 0, 1) := by decide +kernel
theorem dX6_places_15 : decode cX6_places 15 = .ok (.getfield 16, 3) := by decide +kernel
theorem dX6_places_18 : decode cX6_places 18 = .ok (.getfield 70, 3) := by decide +kernel
theorem dX6_places_21 : decode cX6_places 21 = .ok (.if_icmp .ge 44, 3) := by decide +kernel
theorem dX6_places_24 : decode cX6_places 24 = .ok (.aload_n 0, 1) := by decide +kernel
theorem dX6_places_25 : decode cX6_places 25 = .ok (.getfield 16, 3) := by decide +kernel
theorem dX6_places_28 : decode cX6_places 28 = .ok (.getfield 149, 3) := by decide +kernel
theorem dX6_places_31 : decode cX6_places 31 = .ok (.iload_n 1, 1) := by decide +kernel
theorem dX6_places_32 : decode cX6_places 32 = .ok (.iaload, 1) := by decide +kernel
theorem dX6_places_33 : decode cX6_places 33 = .ok (.iconst (-1), 1) := by decide +kernel
theorem dX6_places_34 : decode cX6_places 34 = .ok (.if_icmp .eq 25, 3) := by decide +kernel
theorem dX6_places_37 : decode cX6_places 37 = .ok (.aload_n 0, 1) := by decide +kernel
theorem dX6_places_38 : decode cX6_places 38 = .ok (.getfield 16, 3) := by decide +kernel
theorem dX6_places_41 : decode cX6_places 41 = .ok (.getfield 149, 3) := by decide +kernel
theorem dX6_places_44 : decode cX6_places 44 = .ok (.iload_n 1, 1) := by decide +kernel
theorem dX6_places_45 : decode cX6_places 45 = .ok (.aload_n 0, 1) := by decide +kernel
theorem dX6_places_46 : decode cX6_places 46 = .ok (.getfield 16, 3) := by decide +kernel
theorem dX6_places_49 : decode cX6_places 49 = .ok (.getfield 149, 3) := by decide +kernel
theorem dX6_places_52 : decode cX6_places 52 = .ok (.iload_n 1, 1) := by decide +kernel
theorem dX6_places_53 : decode cX6_places 53 = .ok (.iaload, 1) := by decide +kernel
theorem dX6_places_54 : decode cX6_places 54 = .ok (.iconst 2, 1) := by decide +kernel
theorem dX6_places_55 : decode cX6_places 55 = .ok (.iadd, 1) := by decide +kernel
theorem dX6_places_56 : decode cX6_places 56 = .ok (.iconst 4, 1) := by decide +kernel
theorem dX6_places_57 : decode cX6_places 57 = .ok (.irem, 1) := by decide +kernel
theorem dX6_places_58 : decode cX6_places 58 = .ok (.iastore, 1) := by decide +kernel
theorem dX6_places_59 : decode cX6_places 59 = .ok (.iinc 1 1, 3) := by decide +kernel
theorem dX6_places_62 : decode cX6_places 62 = .ok (.goto (-49), 3) := by decide +kernel
theorem dX6_places_65 : decode cX6_places 65 = .ok (.aload_n 0, 1) := by decide +kernel
theorem dX6_places_66 : decode cX6_places 66 = .ok (.getfield 10, 3) := by decide +kernel
theorem dX6_places_69 : decode cX6_places 69 = .ok (.invokevirtual 122, 3) := by decide +kernel
theorem dX6_places_72 : decode cX6_places 72 = .ok (.aload_n 0, 1) := by decide +kernel
theorem dX6_places_73 : decode cX6_places 73 = .ok (.getfield 16, 3) := by decide +kernel
theorem dX6_places_76 : decode cX6_places 76 = .ok (.invokevirtual 122, 3) := by decide +kernel
theorem dX6_places_79 : decode cX6_places 79 = .ok (.isub, 1) := by decide +kernel
theorem dX6_places_80 : decode cX6_places 80 = .ok (.ireturn, 1) := by decide +kernel
theorem dX6_practice_0 : decode cX6_practice 0 = .ok (.iload_n 1, 1) := by decide +kernel
theorem dX6_practice_1 : decode cX6_practice 1 = .ok (.iconst 0, 1) := by decide +kernel
theorem dX6_practice_2 : decode cX6_practice 2 = .ok (.bipush 6, 2) := by decide +kernel
theorem dX6_practice_4 : decode cX6_practice 4 = .ok (.invokestatic 62, 3) := by decide +kernel
theorem dX6_practice_7 : decode cX6_practice 7 = .ok (.ifCond .eq 8, 3) := by decide +kernel
theorem dX6_practice_10 : decode cX6_practice 10 = .ok (.iload_n 2, 1) := by decide +kernel
theorem dX6_practice_11 : decode cX6_practice 11 = .ok (.iconst (-1), 1) := by decide +kernel
theorem dX6_practice_12 : decode cX6_practice 12 = .ok (.if_icmp .ge 10, 3) := by decide +kernel
theorem dX6_practice_15 : decode cX6_practice 15 = .ok (.aload_n 0, 1) := by decide +kernel
theorem dX6_practice_16 : decode cX6_practice 16 = .ok (.bipush (-10), 2) := by decide +kernel
theorem dX6_practice_18 : decode cX6_practice 18 = .ok (.invokevirtual 66, 3) := by decide +kernel
theorem dX6_practice_21 : decode cX6_practice 21 = .ok (.ireturn, 1) := by decide +kernel
theorem dX6_practice_22 : decode cX6_practice 22 = .ok (.aload_n 0, 1) := by decide +kernel
theorem dX6_practice_23 : decode cX6_practice 23 = .ok (.getfield 54, 3) := by decide +kernel
theorem dX6_practice_26 : decode cX6_practice 26 = .ok (.aload_n 0, 1) := by decide +kernel
theorem dX6_practice_27 : decode cX6_practice 27 = .ok (.getfield 10, 3) := by decide +kernel
theorem dX6_practice_30 : decode cX6_practice 30 = .ok (.iload_n 1, 1) := by decide +kernel
theorem dX6_practice_31 : decode cX6_practice 31 = .ok (.invokevirtual 233, 3) := by decide +kernel
theorem dX6_practice_34 : decode cX6_practice 34 = .ok (.iload_n 2, 1) := by decide +kernel
theorem dX6_practice_35 : decode cX6_practice 35 = .ok (.iconst (-1), 1) := by decide +kernel
theorem dX6_practice_36 : decode cX6_practice 36 = .ok (.if_icmp .ne 11, 3) := by decide +kernel
theorem dX6_practice_39 : decode cX6_practice 39 = .ok (.aload_n 0, 1) := by decide +kernel
theorem dX6_practice_40 : decode cX6_practice 40 = .ok (.getfield 54, 3) := by decide +kernel
theorem dX6_practice_43 : decode cX6_practice 43 = .ok (.getfield 234, 3) := by decide +kernel
theorem dX6_practice_46 : decode cX6_practice 46 = .ok (.ireturn, 1) := by decide +kernel
theorem dX6_practice_47 : decode cX6_practice 47 = .ok (.iload_n 2, 1) := by decide +kernel
theorem dX6_practice_48 : decode cX6_practice 48 = .ok (.iload_n 1, 1) := by decide +kernel
theorem dX6_practice_49 : decode cX6_practice 49 = .ok (.if_icmp .ge 15, 3) := by decide +kernel
theorem dX6_practice_52 : decode cX6_practice 52 = .ok (.aload_n 0, 1) := by decide +kernel
theorem dX6_practice_53 : decode cX6_practice 53 = .ok (.getfield 54, 3) := by decide +kernel
theorem dX6_practice_56 : decode cX6_practice 56 = .ok (.getfield 237, 3) := by decide +kernel
theorem dX6_practice_59 : decode cX6_practice 59 = .ok (.iload_n 2, 1) := by decide +kernel
theorem dX6_practice_60 : decode cX6_practice 60 = .ok (.iaload, 1) := by decide +kernel
theorem dX6_practice_61 : decode cX6_practice 61 = .ok (.goto 5, 3) := by decide +kernel
theorem dX6_practice_64 : decode cX6_practice 64 = .ok (.bipush (-5), 2) := by decide +kernel
theorem dX6_practice_66 : decode cX6_practice 66 = .ok (.ireturn, 1) := by decide +kernel
theorem dX6_breath_0 : decode cX6_breath 0 = .ok (.iload_n 1, 1) := by decide +kernel
theorem dX6_breath_1 : decode cX6_breath 1 = .ok (.iconst 0, 1) := by decide +kernel
theorem dX6_breath_2 : decode cX6_breath 2 = .ok (.bipush 20, 2) := by decide +kernel
theorem dX6_breath_4 : decode cX6_breath 4 = .ok (.invokestatic 62, 3) := by decide +kernel
theorem dX6_breath_7 : decode cX6_breath 7 = .ok (.ifCond .eq 13, 3) := by decide +kernel
theorem dX6_breath_10 : decode cX6_breath 10 = .ok (.iload_n 2, 1) := by decide +kernel
theorem dX6_breath_11 : decode cX6_breath 11 = .ok (.iconst 0, 1) := by decide +kernel
theorem dX6_breath_12 : decode cX6_breath 12 = .ok (.bipush 20, 2) := by decide +kernel
theorem dX6_breath_14 : decode cX6_breath 14 = .ok (.invokestatic 62, 3) := by decide +kernel
theorem dX6_breath_17 : decode cX6_breath 17 = .ok (.ifCond .ne 10, 3) := by decide +kernel
theorem dX6_breath_20 : decode cX6_breath 20 = .ok (.aload_n 0, 1) := by decide +kernel
theorem dX6_breath_21 : decode cX6_breath 21 = .ok (.bipush (-2), 2) := by decide +kernel
theorem dX6_breath_23 : decode cX6_breath 23 = .ok (.invokevirtual 66, 3) := by decide +kernel
theorem dX6_breath_26 : decode cX6_breath 26 = .ok (.ireturn, 1) := by decide +kernel
theorem dX6_breath_27 : decode cX6_breath 27 = .ok (.iconst 0, 1) := by decide +kernel
theorem dX6_breath_28 : decode cX6_breath 28 = .ok (.istore_n 3, 1) := by decide +kernel
theorem dX6_breath_29 : decode cX6_breath 29 = .ok (.iconst 0, 1) := by decide +kernel
theorem dX6_breath_30 : decode cX6_breath 30 = .ok (.istore 4, 2) := by decide +kernel
theorem dX6_breath_32 : decode cX6_breath 32 = .ok (.iload 4, 2) := by decide +kernel
theorem dX6_breath_34 : decode cX6_breath 34 = .ok (.iload_n 1, 1) := by decide +kernel
theorem dX6_breath_35 : decode cX6_breath 35 = .ok (.if_icmp .gt 39, 3) := by decide +kernel
theorem dX6_breath_38 : decode cX6_breath 38 = .ok (.iconst 0, 1) := by decide +kernel
theorem dX6_breath_39 : decode cX6_breath 39 = .ok (.istore 5, 2) := by decide +kernel
theorem dX6_breath_41 : decode cX6_breath 41 = .ok (.iload 5, 2) := by decide +kernel
theorem dX6_breath_43 : decode cX6_breath 43 = .ok (.iload_n 1, 1) := by decide +kernel
theorem dX6_breath_44 : decode cX6_breath 44 = .ok (.if_icmp .gt 24, 3) := by decide +kernel
theorem dX6_breath_47 : decode cX6_breath 47 = .ok (.iload 4, 2) := by decide +kernel
theorem dX6_breath_49 : decode cX6_breath 49 = .ok (.iload 5, 2) := by decide +kernel
theorem dX6_breath_51 : decode cX6_breath 51 = .ok (.isub, 1) := by decide +kernel
theorem dX6_breath_52 : decode cX6_breath 52 = .ok (.invokestatic 238, 3) := by decide +kernel
theorem dX6_breath_55 : decode cX6_breath 55 = .ok (.iload_n 2, 1) := by decide +kernel
theorem dX6_breath_56 : decode cX6_breath 56 = .ok (.if_icmp .gt 6, 3) := by decide +kernel
theorem dX6_breath_59 : decode cX6_breath 59 = .ok (.iinc 3 1, 3) := by decide +kernel
theorem dX6_breath_62 : decode cX6_breath 62 = .ok (.iinc 5 1, 3) := by decide +kernel
theorem dX6_breath_65 : decode cX6_breath 65 = .ok (.goto (-24), 3) := by decide +kernel
theorem dX6_breath_68 : decode cX6_breath 68 = .ok (.iinc 4 1, 3) := by decide +kernel
theorem dX6_breath_71 : decode cX6_breath 71 = .ok (.goto (-39), 3) := by decide +kernel
theorem dX6_breath_74 : decode cX6_breath 74 = .ok (.aload_n 0, 1) := by decide +kernel
theorem dX6_breath_75 : decode cX6_breath 75 = .ok (.iload_n 3, 1) := by decide +kernel
theorem dX6_breath_76 : decode cX6_breath 76 = .ok (.iload_n 1, 1) := by decide +kernel
theorem dX6_breath_77 : decode cX6_breath 77 = .ok (.iconst 1, 1) := by decide +kernel
theorem dX6_breath_78 : decode cX6_breath 78 = .ok (.iadd, 1) := by decide +kernel
theorem dX6_breath_79 : decode cX6_breath 79 = .ok (.iload_n 1, 1) := by decide +kernel
theorem dX6_breath_80 : decode cX6_breath 80 = .ok (.iconst 1, 1) := by decide +kernel
theorem dX6_breath_81 : decode cX6_breath 81 = .ok (.iadd, 1) := by decide +kernel
theorem dX6_breath_82 : decode cX6_breath 82 = .ok (.imul, 1) := by decide +kernel
theorem dX6_breath_83 : decode cX6_breath 83 = .ok (.invokevirtual 243, 3) := by decide +kernel
theorem dX6_breath_86 : decode cX6_breath 86 = .ok (.iconst 1, 1) := by decide +kernel
theorem dX6_breath_87 : decode cX6_breath 87 = .ok (.ireturn, 1) := by decide +kernel
theorem dX6_heard_0 : decode cX6_heard 0 = .ok (.aload_n 0, 1) := by decide +kernel
theorem dX6_heard_1 : decode cX6_heard 1 = .ok (.iload_n 1, 1) := by decide +kernel
theorem dX6_heard_2 : decode cX6_heard 2 = .ok (.invokevirtual 114, 3) := by decide +kernel
theorem dX6_heard_5 : decode cX6_heard 5 = .ok (.ifCond .eq 13, 3) := by decide +kernel
theorem dX6_heard_8 : decode cX6_heard 8 = .ok (.iload_n 2, 1) := by decide +kernel
theorem dX6_heard_9 : decode cX6_heard 9 = .ok (.iconst (-1), 1) := by decide +kernel
theorem dX6_heard_10 : decode cX6_heard 10 = .ok (.bipush 9, 2) := by decide +kernel
theorem dX6_heard_12 : decode cX6_heard 12 = .ok (.invokestatic 62, 3) := by decide +kernel
theorem dX6_heard_15 : decode cX6_heard 15 = .ok (.ifCond .ne 10, 3) := by decide +kernel
theorem dX6_heard_18 : decode cX6_heard 18 = .ok (.aload_n 0, 1) := by decide +kernel
theorem dX6_heard_19 : decode cX6_heard 19 = .ok (.bipush (-10), 2) := by decide +kernel
theorem dX6_heard_21 : decode cX6_heard 21 = .ok (.invokevirtual 66, 3) := by decide +kernel
theorem dX6_heard_24 : decode cX6_heard 24 = .ok (.ireturn, 1) := by decide +kernel
theorem dX6_heard_25 : decode cX6_heard 25 = .ok (.aload_n 0, 1) := by decide +kernel
theorem dX6_heard_26 : decode cX6_heard 26 = .ok (.getfield 10, 3) := by decide +kernel
theorem dX6_heard_29 : decode cX6_heard 29 = .ok (.getfield 246, 3) := by decide +kernel
theorem dX6_heard_32 : decode cX6_heard 32 = .ok (.iload_n 1, 1) := by decide +kernel
theorem dX6_heard_33 : decode cX6_heard 33 = .ok (.iaload, 1) := by decide +kernel
theorem dX6_heard_34 : decode cX6_heard 34 = .ok (.istore_n 3, 1) := by decide +kernel
theorem dX6_heard_35 : decode cX6_heard 35 = .ok (.aload_n 0, 1) := by decide +kernel
theorem dX6_heard_36 : decode cX6_heard 36 = .ok (.getfield 10, 3) := by decide +kernel
theorem dX6_heard_39 : decode cX6_heard 39 = .ok (.getfield 246, 3) := by decide +kernel
theorem dX6_heard_42 : decode cX6_heard 42 = .ok (.iload_n 1, 1) := by decide +kernel
theorem dX6_heard_43 : decode cX6_heard 43 = .ok (.iload_n 2, 1) := by decide +kernel
theorem dX6_heard_44 : decode cX6_heard 44 = .ok (.iastore, 1) := by decide +kernel
theorem dX6_heard_45 : decode cX6_heard 45 = .ok (.iload_n 3, 1) := by decide +kernel
theorem dX6_heard_46 : decode cX6_heard 46 = .ok (.ireturn, 1) := by decide +kernel
theorem dX6_late_0 : decode cX6_late 0 = .ok (.iconst 0, 1) := by decide +kernel
theorem dX6_late_1 : decode cX6_late 1 = .ok (.istore_n 1, 1) := by decide +kernel
theorem dX6_late_2 : decode cX6_late 2 = .ok (.iconst 0, 1) := by decide +kernel
theorem dX6_late_3 : decode cX6_late 3 = .ok (.istore_n 2, 1) := by decide +kernel
theorem dX6_late_4 : decode cX6_late 4 = .ok (.iload_n 2, 1) := by decide +kernel
theorem dX6_late_5 : decode cX6_late 5 = .ok (.iconst 4, 1) := by decide +kernel
theorem dX6_late_6 : decode cX6_late 6 = .ok (.if_icmp .ge 26, 3) := by decide +kernel
theorem dX6_late_9 : decode cX6_late 9 = .ok (.aload_n 0, 1) := by decide +kernel
theorem dX6_late_10 : decode cX6_late 10 = .ok (.getfield 10, 3) := by decide +kernel
theorem dX6_late_13 : decode cX6_late 13 = .ok (.iload_n 2, 1) := by decide +kernel
theorem dX6_late_14 : decode cX6_late 14 = .ok (.invokevirtual 249, 3) := by decide +kernel
theorem dX6_late_17 : decode cX6_late 17 = .ok (.ifCond .eq 9, 3) := by decide +kernel
theorem dX6_late_20 : decode cX6_late 20 = .ok (.iload_n 1, 1) := by decide +kernel
theorem dX6_late_21 : decode cX6_late 21 = .ok (.iconst 1, 1) := by decide +kernel
theorem dX6_late_22 : decode cX6_late 22 = .ok (.iload_n 2, 1) := by decide +kernel
theorem dX6_late_23 : decode cX6_late 23 = .ok (.ishl, 1) := by decide +kernel
theorem dX6_late_24 : decode cX6_late 24 = .ok (.ior, 1) := by decide +kernel
theorem dX6_late_25 : decode cX6_late 25 = .ok (.istore_n 1, 1) := by decide +kernel
theorem dX6_late_26 : decode cX6_late 26 = .ok (.iinc 2 1, 3) := by decide +kernel
theorem dX6_late_29 : decode cX6_late 29 = .ok (.goto (-25), 3) := by decide +kernel
theorem dX6_late_32 : decode cX6_late 32 = .ok (.iload_n 1, 1) := by decide +kernel
theorem dX6_late_33 : decode cX6_late 33 = .ok (.ireturn, 1) := by decide +kernel
theorem dX6_evening_0 : decode cX6_evening 0 = .ok (.iload_n 1, 1) := by decide +kernel
theorem dX6_evening_1 : decode cX6_evening 1 = .ok (.iconst 0, 1) := by decide +kernel
theorem dX6_evening_2 : decode cX6_evening 2 = .ok (.ldc 252, 2) := by decide +kernel
theorem dX6_evening_4 : decode cX6_evening 4 = .ok (.invokestatic 62, 3) := by decide +kernel
theorem dX6_evening_7 : decode cX6_evening 7 = .ok (.ifCond .eq 13, 3) := by decide +kernel
theorem dX6_evening_10 : decode cX6_evening 10 = .ok (.iload_n 2, 1) := by decide +kernel
theorem dX6_evening_11 : decode cX6_evening 11 = .ok (.iconst 0, 1) := by decide +kernel
theorem dX6_evening_12 : decode cX6_evening 12 = .ok (.bipush 100, 2) := by decide +kernel
theorem dX6_evening_14 : decode cX6_evening 14 = .ok (.invokestatic 62, 3) := by decide +kernel
theorem dX6_evening_17 : decode cX6_evening 17 = .ok (.ifCond .ne 10, 3) := by decide +kernel
theorem dX6_evening_20 : decode cX6_evening 20 = .ok (.aload_n 0, 1) := by decide +kernel
theorem dX6_evening_21 : decode cX6_evening 21 = .ok (.bipush (-2), 2) := by decide +kernel
theorem dX6_evening_23 : decode cX6_evening 23 = .ok (.invokevirtual 66, 3) := by decide +kernel
theorem dX6_evening_26 : decode cX6_evening 26 = .ok (.ireturn, 1) := by decide +kernel
theorem dX6_evening_27 : decode cX6_evening 27 = .ok (.aload_n 0, 1) := by decide +kernel
theorem dX6_evening_28 : decode cX6_evening 28 = .ok (.getfield 16, 3) := by decide +kernel
theorem dX6_evening_31 : decode cX6_evening 31 = .ok (.aload_n 0, 1) := by decide +kernel
theorem dX6_evening_32 : decode cX6_evening 32 = .ok (.getfield 10, 3) := by decide +kernel
theorem dX6_evening_35 : decode cX6_evening 35 = .ok (.invokevirtual 110, 3) := by decide +kernel
theorem dX6_evening_38 : decode cX6_evening 38 = .ok (.iload_n 1, 1) := by decide +kernel
theorem dX6_evening_39 : decode cX6_evening 39 = .ok (.i2l, 1) := by decide +kernel
theorem dX6_evening_40 : decode cX6_evening 40 = .ok (.lstore_n 3, 1) := by decide +kernel
theorem dX6_evening_41 : decode cX6_evening 41 = .ok (.iconst 0, 1) := by decide +kernel
theorem dX6_evening_42 : decode cX6_evening 42 = .ok (.istore 5, 2) := by decide +kernel
theorem dX6_evening_44 : decode cX6_evening 44 = .ok (.iload 5, 2) := by decide +kernel
theorem dX6_evening_46 : decode cX6_evening 46 = .ok (.aload_n 0, 1) := by decide +kernel
theorem dX6_evening_47 : decode cX6_evening 47 = .ok (.getfield 16, 3) := by decide +kernel
theorem dX6_evening_50 : decode cX6_evening 50 = .ok (.getfield 70, 3) := by decide +kernel
theorem dX6_evening_53 : decode cX6_evening 53 = .ok (.if_icmp .ge 65, 3) := by decide +kernel
theorem dX6_evening_56 : decode cX6_evening 56 = .ok (.lload_n 3, 1) := by decide +kernel
theorem dX6_evening_57 : decode cX6_evening 57 = .ok (.ldc2_w 253, 3) := by decide +kernel
theorem dX6_evening_60 : decode cX6_evening 60 = .ok (.lmul, 1) := by decide +kernel
theorem dX6_evening_61 : decode cX6_evening 61 = .ok (.ldc2_w 255, 3) := by decide +kernel
theorem dX6_evening_64 : decode cX6_evening 64 = .ok (.ladd, 1) := by decide +kernel
theorem dX6_evening_65 : decode cX6_evening 65 = .ok (.ldc2_w 257, 3) := by decide +kernel
theorem dX6_evening_68 : decode cX6_evening 68 = .ok (.lrem, 1) := by decide +kernel
theorem dX6_evening_69 : decode cX6_evening 69 = .ok (.lstore_n 3, 1) := by decide +kernel
theorem dX6_evening_70 : decode cX6_evening 70 = .ok (.lload_n 3, 1) := by decide +kernel
theorem dX6_evening_71 : decode cX6_evening 71 = .ok (.ldc2_w 259, 3) := by decide +kernel
theorem dX6_evening_74 : decode cX6_evening 74 = .ok (.ldiv, 1) := by decide +kernel
theorem dX6_evening_75 : decode cX6_evening 75 = .ok (.ldc2_w 261, 3) := by decide +kernel
theorem dX6_evening_78 : decode cX6_evening 78 = .ok (.lrem, 1) := by decide +kernel
theorem dX6_evening_79 : decode cX6_evening 79 = .ok (.iload_n 2, 1) := by decide +kernel
theorem dX6_evening_80 : decode cX6_evening 80 = .ok (.i2l, 1) := by decide +kernel
theorem dX6_evening_81 : decode cX6_evening 81 = .ok (.lcmp, 1) := by decide +kernel
theorem dX6_evening_82 : decode cX6_evening 82 = .ok (.ifCond .ge 30, 3) := by decide +kernel
theorem dX6_evening_85 : decode cX6_evening 85 = .ok (.aload_n 0, 1) := by decide +kernel
theorem dX6_evening_86 : decode cX6_evening 86 = .ok (.getfield 16, 3) := by decide +kernel
theorem dX6_evening_89 : decode cX6_evening 89 = .ok (.getfield 137, 3) := by decide +kernel
theorem dX6_evening_92 : decode cX6_evening 92 = .ok (.iload 5, 2) := by decide +kernel
theorem dX6_evening_94 : decode cX6_evening 94 = .ok (.aload_n 0, 1) := by decide +kernel
theorem dX6_evening_95 : decode cX6_evening 95 = .ok (.getfield 16, 3) := by decide +kernel
theorem dX6_evening_98 : decode cX6_evening 98 = .ok (.getfield 137, 3) := by decide +kernel
theorem dX6_evening_101 : decode cX6_evening 101 = .ok (.iload 5, 2) := by decide +kernel
theorem dX6_evening_103 : decode cX6_evening 103 = .ok (.iaload, 1) := by decide +kernel
theorem dX6_evening_104 : decode cX6_evening 104 = .ok (.iconst 1, 1) := by decide +kernel
theorem dX6_evening_105 : decode cX6_evening 105 = .ok (.iadd, 1) := by decide +kernel
theorem dX6_evening_106 : decode cX6_evening 106 = .ok (.bipush 63, 2) := by decide +kernel
theorem dX6_evening_108 : decode cX6_evening 108 = .ok (.invokestatic 263, 3) := by decide +kernel
theorem dX6_evening_111 : decode cX6_evening 111 = .ok (.iastore, 1) := by decide +kernel
theorem dX6_evening_112 : decode cX6_evening 112 = .ok (.iinc 5 1, 3) := by decide +kernel
theorem dX6_evening_115 : decode cX6_evening 115 = .ok (.goto (-71), 3) := by decide +kernel
theorem dX6_evening_118 : decode cX6_evening 118 = .ok (.aload_n 0, 1) := by decide +kernel
theorem dX6_evening_119 : decode cX6_evening 119 = .ok (.getfield 16, 3) := by decide +kernel
theorem dX6_evening_122 : decode cX6_evening 122 = .ok (.invokevirtual 122, 3) := by decide +kernel
theorem dX6_evening_125 : decode cX6_evening 125 = .ok (.ireturn, 1) := by decide +kernel
theorem dX6_part_0 : decode cX6_part 0 = .ok (.iload_n 1, 1) := by decide +kernel
theorem dX6_part_1 : decode cX6_part 1 = .ok (.iconst 0, 1) := by decide +kernel
theorem dX6_part_2 : decode cX6_part 2 = .ok (.iconst 1, 1) := by decide +kernel
theorem dX6_part_3 : decode cX6_part 3 = .ok (.invokestatic 62, 3) := by decide +kernel
theorem dX6_part_6 : decode cX6_part 6 = .ok (.ifCond .ne 11, 3) := by decide +kernel
theorem dX6_part_9 : decode cX6_part 9 = .ok (.aload_n 0, 1) := by decide +kernel
theorem dX6_part_10 : decode cX6_part 10 = .ok (.bipush (-2), 2) := by decide +kernel
theorem dX6_part_12 : decode cX6_part 12 = .ok (.invokevirtual 66, 3) := by decide +kernel
theorem dX6_part_15 : decode cX6_part 15 = .ok (.i2l, 1) := by decide +kernel
theorem dX6_part_16 : decode cX6_part 16 = .ok (.lreturn, 1) := by decide +kernel
theorem dX6_part_17 : decode cX6_part 17 = .ok (.iload_n 1, 1) := by decide +kernel
theorem dX6_part_18 : decode cX6_part 18 = .ok (.ifCond .ne 10, 3) := by decide +kernel
theorem dX6_part_21 : decode cX6_part 21 = .ok (.aload_n 0, 1) := by decide +kernel
theorem dX6_part_22 : decode cX6_part 22 = .ok (.getfield 266, 3) := by decide +kernel
theorem dX6_part_25 : decode cX6_part 25 = .ok (.goto 7, 3) := by decide +kernel
theorem dX6_part_28 : decode cX6_part 28 = .ok (.aload_n 0, 1) := by decide +kernel
theorem dX6_part_29 : decode cX6_part 29 = .ok (.getfield 58, 3) := by decide +kernel
theorem dX6_part_32 : decode cX6_part 32 = .ok (.lreturn, 1) := by decide +kernel
theorem dX6_image_0 : decode cX6_image 0 = .ok (.iload_n 1, 1) := by decide +kernel
theorem dX6_image_1 : decode cX6_image 1 = .ok (.iconst 0, 1) := by decide +kernel
theorem dX6_image_2 : decode cX6_image 2 = .ok (.iconst 1, 1) := by decide +kernel
theorem dX6_image_3 : decode cX6_image 3 = .ok (.invokestatic 62, 3) := by decide +kernel
theorem dX6_image_6 : decode cX6_image 6 = .ok (.ifCond .ne 10, 3) := by decide +kernel
theorem dX6_image_9 : decode cX6_image 9 = .ok (.aload_n 0, 1) := by decide +kernel
theorem dX6_image_10 : decode cX6_image 10 = .ok (.bipush (-2), 2) := by decide +kernel
theorem dX6_image_12 : decode cX6_image 12 = .ok (.invokevirtual 66, 3) := by decide +kernel
theorem dX6_image_15 : decode cX6_image 15 = .ok (.ireturn, 1) := by decide +kernel
theorem dX6_image_16 : decode cX6_image 16 = .ok (.aload_n 0, 1) := by decide +kernel
theorem dX6_image_17 : decode cX6_image 17 = .ok (.getfield 19, 3) := by decide +kernel
theorem dX6_image_20 : decode cX6_image 20 = .ok (.iload_n 1, 1) := by decide +kernel
theorem dX6_image_21 : decode cX6_image 21 = .ok (.aaload, 1) := by decide +kernel
theorem dX6_image_22 : decode cX6_image 22 = .ok (.aload_n 0, 1) := by decide +kernel
theorem dX6_image_23 : decode cX6_image 23 = .ok (.getfield 10, 3) := by decide +kernel
theorem dX6_image_26 : decode cX6_image 26 = .ok (.invokevirtual 110, 3) := by decide +kernel
theorem dX6_image_29 : decode cX6_image 29 = .ok (.aload_n 0, 1) := by decide +kernel
theorem dX6_image_30 : decode cX6_image 30 = .ok (.dup, 1) := by decide +kernel
theorem dX6_image_31 : decode cX6_image 31 = .ok (.getfield 269, 3) := by decide +kernel
theorem dX6_image_34 : decode cX6_image 34 = .ok (.iconst 1, 1) := by decide +kernel
theorem dX6_image_35 : decode cX6_image 35 = .ok (.iload_n 1, 1) := by decide +kernel
theorem dX6_image_36 : decode cX6_image 36 = .ok (.ishl, 1) := by decide +kernel
theorem dX6_image_37 : decode cX6_image 37 = .ok (.ior, 1) := by decide +kernel
theorem dX6_image_38 : decode cX6_image 38 = .ok (.putfield 269, 3) := by decide +kernel
theorem dX6_image_41 : decode cX6_image 41 = .ok (.iconst 1, 1) := by decide +kernel
theorem dX6_image_42 : decode cX6_image 42 = .ok (.ireturn, 1) := by decide +kernel
theorem dX6_from_0 : decode cX6_from 0 = .ok (.iload_n 1, 1) := by decide +kernel
theorem dX6_from_1 : decode cX6_from 1 = .ok (.iconst 0, 1) := by decide +kernel
theorem dX6_from_2 : decode cX6_from 2 = .ok (.iconst 1, 1) := by decide +kernel
theorem dX6_from_3 : decode cX6_from 3 = .ok (.invokestatic 62, 3) := by decide +kernel
theorem dX6_from_6 : decode cX6_from 6 = .ok (.ifCond .ne 10, 3) := by decide +kernel
theorem dX6_from_9 : decode cX6_from 9 = .ok (.aload_n 0, 1) := by decide +kernel
theorem dX6_from_10 : decode cX6_from 10 = .ok (.bipush (-2), 2) := by decide +kernel
theorem dX6_from_12 : decode cX6_from 12 = .ok (.invokevirtual 66, 3) := by decide +kernel
theorem dX6_from_15 : decode cX6_from 15 = .ok (.ireturn, 1) := by decide +kernel
theorem dX6_from_16 : decode cX6_from 16 = .ok (.aload_n 0, 1) := by decide +kernel
theorem dX6_from_17 : decode cX6_from 17 = .ok (.getfield 269, 3) := by decide +kernel
theorem dX6_from_20 : decode cX6_from 20 = .ok (.iload_n 1, 1) := by decide +kernel
theorem dX6_from_21 : decode cX6_from 21 = .ok (.ishr, 1) := by decide +kernel
theorem dX6_from_22 : decode cX6_from 22 = .ok (.iconst 1, 1) := by decide +kernel
theorem dX6_from_23 : decode cX6_from 23 = .ok (.iand, 1) := by decide +kernel
theorem dX6_from_24 : decode cX6_from 24 = .ok (.ifCond .ne 10, 3) := by decide +kernel
theorem dX6_from_27 : decode cX6_from 27 = .ok (.aload_n 0, 1) := by decide +kernel
theorem dX6_from_28 : decode cX6_from 28 = .ok (.bipush (-3), 2) := by decide +kernel
theorem dX6_from_30 : decode cX6_from 30 = .ok (.invokevirtual 128, 3) := by decide +kernel
theorem dX6_from_33 : decode cX6_from 33 = .ok (.ireturn, 1) := by decide +kernel
theorem dX6_from_34 : decode cX6_from 34 = .ok (.aload_n 0, 1) := by decide +kernel
theorem dX6_from_35 : decode cX6_from 35 = .ok (.getfield 10, 3) := by decide +kernel
theorem dX6_from_38 : decode cX6_from 38 = .ok (.aload_n 0, 1) := by decide +kernel
theorem dX6_from_39 : decode cX6_from 39 = .ok (.getfield 19, 3) := by decide +kernel
theorem dX6_from_42 : decode cX6_from 42 = .ok (.iload_n 1, 1) := by decide +kernel
theorem dX6_from_43 : decode cX6_from 43 = .ok (.aaload, 1) := by decide +kernel
theorem dX6_from_44 : decode cX6_from 44 = .ok (.invokevirtual 110, 3) := by decide +kernel
theorem dX6_from_47 : decode cX6_from 47 = .ok (.iconst 1, 1) := by decide +kernel
theorem dX6_from_48 : decode cX6_from 48 = .ok (.ireturn, 1) := by decide +kernel
theorem dX6_status_0 : decode cX6_status 0 = .ok (.iload_n 1, 1) := by decide +kernel
theorem dX6_status_1 : decode cX6_status 1 = .ok (.tableswitch 42 0 2 #[27, 32, 37], 27) := by decide +kernel
theorem dX6_status_28 : decode cX6_status 28 = .ok (.aload_n 0, 1) := by decide +kernel
theorem dX6_status_29 : decode cX6_status 29 = .ok (.getfield 272, 3) := by decide +kernel
theorem dX6_status_32 : decode cX6_status 32 = .ok (.ireturn, 1) := by decide +kernel
theorem dX6_status_33 : decode cX6_status 33 = .ok (.aload_n 0, 1) := by decide +kernel
theorem dX6_status_34 : decode cX6_status 34 = .ok (.getfield 275, 3) := by decide +kernel
theorem dX6_status_37 : decode cX6_status 37 = .ok (.ireturn, 1) := by decide +kernel
theorem dX6_status_38 : decode cX6_status 38 = .ok (.aload_n 0, 1) := by decide +kernel
theorem dX6_status_39 : decode cX6_status 39 = .ok (.getfield 278, 3) := by decide +kernel
theorem dX6_status_42 : decode cX6_status 42 = .ok (.ireturn, 1) := by decide +kernel
theorem dX6_status_43 : decode cX6_status 43 = .ok (.aload_n 0, 1) := by decide +kernel
theorem dX6_status_44 : decode cX6_status 44 = .ok (.iconst (-1), 1) := by decide +kernel
theorem dX6_status_45 : decode cX6_status 45 = .ok (.invokevirtual 66, 3) := by decide +kernel
theorem dX6_status_48 : decode cX6_status 48 = .ok (.ireturn, 1) := by decide +kernel
theorem dX6_count_0 : decode cX6_count 0 = .ok (.iload_n 1, 1) := by decide +kernel
theorem dX6_count_1 : decode cX6_count 1 = .ok (.iconst 0, 1) := by decide +kernel
theorem dX6_count_2 : decode cX6_count 2 = .ok (.iconst 5, 1) := by decide +kernel
theorem dX6_count_3 : decode cX6_count 3 = .ok (.invokestatic 62, 3) := by decide +kernel
theorem dX6_count_6 : decode cX6_count 6 = .ok (.ifCond .eq 11, 3) := by decide +kernel
theorem dX6_count_9 : decode cX6_count 9 = .ok (.aload_n 0, 1) := by decide +kernel
theorem dX6_count_10 : decode cX6_count 10 = .ok (.iload_n 1, 1) := by decide +kernel
theorem dX6_count_11 : decode cX6_count 11 = .ok (.invokevirtual 281, 3) := by decide +kernel
theorem dX6_count_14 : decode cX6_count 14 = .ok (.goto 9, 3) := by decide +kernel
theorem dX6_count_17 : decode cX6_count 17 = .ok (.aload_n 0, 1) := by decide +kernel
theorem dX6_count_18 : decode cX6_count 18 = .ok (.bipush (-2), 2) := by decide +kernel
theorem dX6_count_20 : decode cX6_count 20 = .ok (.invokevirtual 66, 3) := by decide +kernel
theorem dX6_count_23 : decode cX6_count 23 = .ok (.ireturn, 1) := by decide +kernel
theorem dX6_digest_0 : decode cX6_digest 0 = .ok (.ldc2_w 284, 3) := by decide +kernel
theorem dX6_digest_3 : decode cX6_digest 3 = .ok (.lstore_n 1, 1) := by decide +kernel
theorem dX6_digest_4 : decode cX6_digest 4 = .ok (.iconst 0, 1) := by decide +kernel
theorem dX6_digest_5 : decode cX6_digest 5 = .ok (.istore_n 3, 1) := by decide +kernel
theorem dX6_digest_6 : decode cX6_digest 6 = .ok (.iload_n 3, 1) := by decide +kernel
theorem dX6_digest_7 : decode cX6_digest 7 = .ok (.iconst 5, 1) := by decide +kernel
theorem dX6_digest_8 : decode cX6_digest 8 = .ok (.if_icmp .gt 22, 3) := by decide +kernel
theorem dX6_digest_11 : decode cX6_digest 11 = .ok (.ldc2_w 286, 3) := by decide +kernel
theorem dX6_digest_14 : decode cX6_digest 14 = .ok (.lload_n 1, 1) := by decide +kernel
theorem dX6_digest_15 : decode cX6_digest 15 = .ok (.lmul, 1) := by decide +kernel
theorem dX6_digest_16 : decode cX6_digest 16 = .ok (.aload_n 0, 1) := by decide +kernel
theorem dX6_digest_17 : decode cX6_digest 17 = .ok (.iload_n 3, 1) := by decide +kernel
theorem dX6_digest_18 : decode cX6_digest 18 = .ok (.invokevirtual 281, 3) := by decide +kernel
theorem dX6_digest_21 : decode cX6_digest 21 = .ok (.i2l, 1) := by decide +kernel
theorem dX6_digest_22 : decode cX6_digest 22 = .ok (.ladd, 1) := by decide +kernel
theorem dX6_digest_23 : decode cX6_digest 23 = .ok (.lstore_n 1, 1) := by decide +kernel
theorem dX6_digest_24 : decode cX6_digest 24 = .ok (.iinc 3 1, 3) := by decide +kernel
theorem dX6_digest_27 : decode cX6_digest 27 = .ok (.goto (-21), 3) := by decide +kernel
theorem dX6_digest_30 : decode cX6_digest 30 = .ok (.aload_n 0, 1) := by decide +kernel
theorem dX6_digest_31 : decode cX6_digest 31 = .ok (.getfield 10, 3) := by decide +kernel
theorem dX6_digest_34 : decode cX6_digest 34 = .ok (.lload_n 1, 1) := by decide +kernel
theorem dX6_digest_35 : decode cX6_digest 35 = .ok (.invokevirtual 288, 3) := by decide +kernel
theorem dX6_digest_38 : decode cX6_digest 38 = .ok (.lstore_n 1, 1) := by decide +kernel
theorem dX6_digest_39 : decode cX6_digest 39 = .ok (.ldc2_w 286, 3) := by decide +kernel
theorem dX6_digest_42 : decode cX6_digest 42 = .ok (.lload_n 1, 1) := by decide +kernel
theorem dX6_digest_43 : decode cX6_digest 43 = .ok (.lmul, 1) := by decide +kernel
theorem dX6_digest_44 : decode cX6_digest 44 = .ok (.aload_n 0, 1) := by decide +kernel
theorem dX6_digest_45 : decode cX6_digest 45 = .ok (.getfield 266, 3) := by decide +kernel
theorem dX6_digest_48 : decode cX6_digest 48 = .ok (.ladd, 1) := by decide +kernel
theorem dX6_digest_49 : decode cX6_digest 49 = .ok (.lstore_n 1, 1) := by decide +kernel
theorem dX6_digest_50 : decode cX6_digest 50 = .ok (.ldc2_w 286, 3) := by decide +kernel
theorem dX6_digest_53 : decode cX6_digest 53 = .ok (.lload_n 1, 1) := by decide +kernel
theorem dX6_digest_54 : decode cX6_digest 54 = .ok (.lmul, 1) := by decide +kernel
theorem dX6_digest_55 : decode cX6_digest 55 = .ok (.aload_n 0, 1) := by decide +kernel
theorem dX6_digest_56 : decode cX6_digest 56 = .ok (.getfield 58, 3) := by decide +kernel
theorem dX6_digest_59 : decode cX6_digest 59 = .ok (.ladd, 1) := by decide +kernel
theorem dX6_digest_60 : decode cX6_digest 60 = .ok (.lreturn, 1) := by decide +kernel
theorem dX6_within_0 : decode cX6_within 0 = .ok (.iload_n 0, 1) := by decide +kernel
theorem dX6_within_1 : decode cX6_within 1 = .ok (.iload_n 1, 1) := by decide +kernel
theorem dX6_within_2 : decode cX6_within 2 = .ok (.if_icmp .lt 12, 3) := by decide +kernel
theorem dX6_within_5 : decode cX6_within 5 = .ok (.iload_n 0, 1) := by decide +kernel
theorem dX6_within_6 : decode cX6_within 6 = .ok (.iload_n 2, 1) := by decide +kernel
theorem dX6_within_7 : decode cX6_within 7 = .ok (.if_icmp .gt 7, 3) := by decide +kernel
theorem dX6_within_10 : decode cX6_within 10 = .ok (.iconst 1, 1) := by decide +kernel
theorem dX6_within_11 : decode cX6_within 11 = .ok (.goto 4, 3) := by decide +kernel
theorem dX6_within_14 : decode cX6_within 14 = .ok (.iconst 0, 1) := by decide +kernel
theorem dX6_within_15 : decode cX6_within 15 = .ok (.ireturn, 1) := by decide +kernel
theorem dX6_longestFrom_0 : decode cX6_longestFrom 0 = .ok (.bipush 8, 2) := by decide +kernel
theorem dX6_longestFrom_2 : decode cX6_longestFrom 2 = .ok (.bipush 64, 2) := by decide +kernel
theorem dX6_longestFrom_4 : decode cX6_longestFrom 4 = .ok (.iload_n 0, 1) := by decide +kernel
theorem dX6_longestFrom_5 : decode cX6_longestFrom 5 = .ok (.isub, 1) := by decide +kernel
theorem dX6_longestFrom_6 : decode cX6_longestFrom 6 = .ok (.invokestatic 263, 3) := by decide +kernel
theorem dX6_longestFrom_9 : decode cX6_longestFrom 9 = .ok (.ireturn, 1) := by decide +kernel
theorem dX6_isNote_0 : decode cX6_isNote 0 = .ok (.iload_n 1, 1) := by decide +kernel
theorem dX6_isNote_1 : decode cX6_isNote 1 = .ok (.iconst 0, 1) := by decide +kernel
theorem dX6_isNote_2 : decode cX6_isNote 2 = .ok (.aload_n 0, 1) := by decide +kernel
theorem dX6_isNote_3 : decode cX6_isNote 3 = .ok (.getfield 10, 3) := by decide +kernel
theorem dX6_isNote_6 : decode cX6_isNote 6 = .ok (.getfield 70, 3) := by decide +kernel
theorem dX6_isNote_9 : decode cX6_isNote 9 = .ok (.iconst 1, 1) := by decide +kernel
theorem dX6_isNote_10 : decode cX6_isNote 10 = .ok (.isub, 1) := by decide +kernel
theorem dX6_isNote_11 : decode cX6_isNote 11 = .ok (.invokestatic 62, 3) := by decide +kernel
theorem dX6_isNote_14 : decode cX6_isNote 14 = .ok (.ireturn, 1) := by decide +kernel
theorem dX6_refuseBad_0 : decode cX6_refuseBad 0 = .ok (.aload_n 0, 1) := by decide +kernel
theorem dX6_refuseBad_1 : decode cX6_refuseBad 1 = .ok (.dup, 1) := by decide +kernel
theorem dX6_refuseBad_2 : decode cX6_refuseBad 2 = .ok (.getfield 272, 3) := by decide +kernel
theorem dX6_refuseBad_5 : decode cX6_refuseBad 5 = .ok (.iconst 1, 1) := by decide +kernel
theorem dX6_refuseBad_6 : decode cX6_refuseBad 6 = .ok (.iadd, 1) := by decide +kernel
theorem dX6_refuseBad_7 : decode cX6_refuseBad 7 = .ok (.putfield 272, 3) := by decide +kernel
theorem dX6_refuseBad_10 : decode cX6_refuseBad 10 = .ok (.iload_n 1, 1) := by decide +kernel
theorem dX6_refuseBad_11 : decode cX6_refuseBad 11 = .ok (.ireturn, 1) := by decide +kernel
theorem dX6_refuseNo_0 : decode cX6_refuseNo 0 = .ok (.aload_n 0, 1) := by decide +kernel
theorem dX6_refuseNo_1 : decode cX6_refuseNo 1 = .ok (.dup, 1) := by decide +kernel
theorem dX6_refuseNo_2 : decode cX6_refuseNo 2 = .ok (.getfield 275, 3) := by decide +kernel
theorem dX6_refuseNo_5 : decode cX6_refuseNo 5 = .ok (.iconst 1, 1) := by decide +kernel
theorem dX6_refuseNo_6 : decode cX6_refuseNo 6 = .ok (.iadd, 1) := by decide +kernel
theorem dX6_refuseNo_7 : decode cX6_refuseNo 7 = .ok (.putfield 275, 3) := by decide +kernel
theorem dX6_refuseNo_10 : decode cX6_refuseNo 10 = .ok (.iload_n 1, 1) := by decide +kernel
theorem dX6_refuseNo_11 : decode cX6_refuseNo 11 = .ok (.ireturn, 1) := by decide +kernel
theorem dX6_refuseFull_0 : decode cX6_refuseFull 0 = .ok (.aload_n 0, 1) := by decide +kernel
theorem dX6_refuseFull_1 : decode cX6_refuseFull 1 = .ok (.dup, 1) := by decide +kernel
theorem dX6_refuseFull_2 : decode cX6_refuseFull 2 = .ok (.getfield 278, 3) := by decide +kernel
theorem dX6_refuseFull_5 : decode cX6_refuseFull 5 = .ok (.iconst 1, 1) := by decide +kernel
theorem dX6_refuseFull_6 : decode cX6_refuseFull 6 = .ok (.iadd, 1) := by decide +kernel
theorem dX6_refuseFull_7 : decode cX6_refuseFull 7 = .ok (.putfield 278, 3) := by decide +kernel
theorem dX6_refuseFull_10 : decode cX6_refuseFull 10 = .ok (.bipush (-4), 2) := by decide +kernel
theorem dX6_refuseFull_12 : decode cX6_refuseFull 12 = .ok (.ireturn, 1) := by decide +kernel
theorem dX6_forgetTheRest_0 : decode cX6_forgetTheRest 0 = .ok (.aload_n 0, 1) := by decide +kernel
theorem dX6_forgetTheRest_1 : decode cX6_forgetTheRest 1 = .ok (.iconst 0, 1) := by decide +kernel
theorem dX6_forgetTheRest_2 : decode cX6_forgetTheRest 2 = .ok (.putfield 269, 3) := by decide +kernel
theorem dX6_forgetTheRest_5 : decode cX6_forgetTheRest 5 = .ok (.aload_n 0, 1) := by decide +kernel
theorem dX6_forgetTheRest_6 : decode cX6_forgetTheRest 6 = .ok (.getfield 26, 3) := by decide +kernel
theorem dX6_forgetTheRest_9 : decode cX6_forgetTheRest 9 = .ok (.iconst 0, 1) := by decide +kernel
theorem dX6_forgetTheRest_10 : decode cX6_forgetTheRest 10 = .ok (.putfield 100, 3) := by decide +kernel
theorem dX6_forgetTheRest_13 : decode cX6_forgetTheRest 13 = .ok (.aload_n 0, 1) := by decide +kernel
theorem dX6_forgetTheRest_14 : decode cX6_forgetTheRest 14 = .ok (.lconst 0, 1) := by decide +kernel
theorem dX6_forgetTheRest_15 : decode cX6_forgetTheRest 15 = .ok (.putfield 266, 3) := by decide +kernel
theorem dX6_forgetTheRest_18 : decode cX6_forgetTheRest 18 = .ok (.aload_n 0, 1) := by decide +kernel
theorem dX6_forgetTheRest_19 : decode cX6_forgetTheRest 19 = .ok (.lconst 1, 1) := by decide +kernel
theorem dX6_forgetTheRest_20 : decode cX6_forgetTheRest 20 = .ok (.putfield 58, 3) := by decide +kernel
theorem dX6_forgetTheRest_23 : decode cX6_forgetTheRest 23 = .ok (.aload_n 0, 1) := by decide +kernel
theorem dX6_forgetTheRest_24 : decode cX6_forgetTheRest 24 = .ok (.iconst 0, 1) := by decide +kernel
theorem dX6_forgetTheRest_25 : decode cX6_forgetTheRest 25 = .ok (.putfield 272, 3) := by decide +kernel
theorem dX6_forgetTheRest_28 : decode cX6_forgetTheRest 28 = .ok (.aload_n 0, 1) := by decide +kernel
theorem dX6_forgetTheRest_29 : decode cX6_forgetTheRest 29 = .ok (.iconst 0, 1) := by decide +kernel
theorem dX6_forgetTheRest_30 : decode cX6_forgetTheRest 30 = .ok (.putfield 275, 3) := by decide +kernel
theorem dX6_forgetTheRest_33 : decode cX6_forgetTheRest 33 = .ok (.aload_n 0, 1) := by decide +kernel
theorem dX6_forgetTheRest_34 : decode cX6_forgetTheRest 34 = .ok (.iconst 0, 1) := by decide +kernel
theorem dX6_forgetTheRest_35 : decode cX6_forgetTheRest 35 = .ok (.putfield 278, 3) := by decide +kernel
theorem dX6_forgetTheRest_38 : decode cX6_forgetTheRest 38 = .ok (.return_, 1) := by decide +kernel
theorem dX6_freeHand_0 : decode cX6_freeHand 0 = .ok (.iload_n 1, 1) := by decide +kernel
theorem dX6_freeHand_1 : decode cX6_freeHand 1 = .ok (.iconst 0, 1) := by decide +kernel
theorem dX6_freeHand_2 : decode cX6_freeHand 2 = .ok (.bipush 63, 2) := by decide +kernel
theorem dX6_freeHand_4 : decode cX6_freeHand 4 = .ok (.invokestatic 62, 3) := by decide +kernel
theorem dX6_freeHand_7 : decode cX6_freeHand 7 = .ok (.ifCond .ne 5, 3) := by decide +kernel
theorem dX6_freeHand_10 : decode cX6_freeHand 10 = .ok (.iconst (-1), 1) := by decide +kernel
theorem dX6_freeHand_11 : decode cX6_freeHand 11 = .ok (.ireturn, 1) := by decide +kernel
theorem dX6_freeHand_12 : decode cX6_freeHand 12 = .ok (.iload_n 2, 1) := by decide +kernel
theorem dX6_freeHand_13 : decode cX6_freeHand 13 = .ok (.iconst (-1), 1) := by decide +kernel
theorem dX6_freeHand_14 : decode cX6_freeHand 14 = .ok (.if_icmp .ne 7, 3) := by decide +kernel
theorem dX6_freeHand_17 : decode cX6_freeHand 17 = .ok (.iconst 0, 1) := by decide +kernel
theorem dX6_freeHand_18 : decode cX6_freeHand 18 = .ok (.goto 6, 3) := by decide +kernel
theorem dX6_freeHand_21 : decode cX6_freeHand 21 = .ok (.iconst 2, 1) := by decide +kernel
theorem dX6_freeHand_22 : decode cX6_freeHand 22 = .ok (.iload_n 2, 1) := by decide +kernel
theorem dX6_freeHand_23 : decode cX6_freeHand 23 = .ok (.imul, 1) := by decide +kernel
theorem dX6_freeHand_24 : decode cX6_freeHand 24 = .ok (.istore_n 3, 1) := by decide +kernel
theorem dX6_freeHand_25 : decode cX6_freeHand 25 = .ok (.iload_n 2, 1) := by decide +kernel
theorem dX6_freeHand_26 : decode cX6_freeHand 26 = .ok (.iconst (-1), 1) := by decide +kernel
theorem dX6_freeHand_27 : decode cX6_freeHand 27 = .ok (.if_icmp .ne 7, 3) := by decide +kernel
theorem dX6_freeHand_30 : decode cX6_freeHand 30 = .ok (.iconst 3, 1) := by decide +kernel
theorem dX6_freeHand_31 : decode cX6_freeHand 31 = .ok (.goto 6, 3) := by decide +kernel
theorem dX6_freeHand_34 : decode cX6_freeHand 34 = .ok (.iload_n 3, 1) := by decide +kernel
theorem dX6_freeHand_35 : decode cX6_freeHand 35 = .ok (.iconst 1, 1) := by decide +kernel
theorem dX6_freeHand_36 : decode cX6_freeHand 36 = .ok (.iadd, 1) := by decide +kernel
theorem dX6_freeHand_37 : decode cX6_freeHand 37 = .ok (.istore 4, 2) := by decide +kernel
theorem dX6_freeHand_39 : decode cX6_freeHand 39 = .ok (.iload_n 3, 1) := by decide +kernel
theorem dX6_freeHand_40 : decode cX6_freeHand 40 = .ok (.istore 5, 2) := by decide +kernel
theorem dX6_freeHand_42 : decode cX6_freeHand 42 = .ok (.iload 5, 2) := by decide +kernel
theorem dX6_freeHand_44 : decode cX6_freeHand 44 = .ok (.iload 4, 2) := by decide +kernel
theorem dX6_freeHand_46 : decode cX6_freeHand 46 = .ok (.if_icmp .gt 30, 3) := by decide +kernel
theorem dX6_freeHand_49 : decode cX6_freeHand 49 = .ok (.aload_n 0, 1) := by decide +kernel
theorem dX6_freeHand_50 : decode cX6_freeHand 50 = .ok (.getfield 10, 3) := by decide +kernel
theorem dX6_freeHand_53 : decode cX6_freeHand 53 = .ok (.iload 5, 2) := by decide +kernel
theorem dX6_freeHand_55 : decode cX6_freeHand 55 = .ok (.iload_n 1, 1) := by decide +kernel
theorem dX6_freeHand_56 : decode cX6_freeHand 56 = .ok (.invokevirtual 292, 3) := by decide +kernel
theorem dX6_freeHand_59 : decode cX6_freeHand 59 = .ok (.ifCond .eq 11, 3) := by decide +kernel
theorem dX6_freeHand_62 : decode cX6_freeHand 62 = .ok (.bipush 10, 2) := by decide +kernel
theorem dX6_freeHand_64 : decode cX6_freeHand 64 = .ok (.iload_n 1, 1) := by decide +kernel
theorem dX6_freeHand_65 : decode cX6_freeHand 65 = .ok (.imul, 1) := by decide +kernel
theorem dX6_freeHand_66 : decode cX6_freeHand 66 = .ok (.iload 5, 2) := by decide +kernel
theorem dX6_freeHand_68 : decode cX6_freeHand 68 = .ok (.iadd, 1) := by decide +kernel
theorem dX6_freeHand_69 : decode cX6_freeHand 69 = .ok (.ireturn, 1) := by decide +kernel
theorem dX6_freeHand_70 : decode cX6_freeHand 70 = .ok (.iinc 5 1, 3) := by decide +kernel
theorem dX6_freeHand_73 : decode cX6_freeHand 73 = .ok (.goto (-31), 3) := by decide +kernel
theorem dX6_freeHand_76 : decode cX6_freeHand 76 = .ok (.iconst (-1), 1) := by decide +kernel
theorem dX6_freeHand_77 : decode cX6_freeHand 77 = .ok (.ireturn, 1) := by decide +kernel
theorem dX6_setFraction_0 : decode cX6_setFraction 0 = .ok (.iload_n 2, 1) := by decide +kernel
theorem dX6_setFraction_1 : decode cX6_setFraction 1 = .ok (.istore_n 3, 1) := by decide +kernel
theorem dX6_setFraction_2 : decode cX6_setFraction 2 = .ok (.iload_n 1, 1) := by decide +kernel
theorem dX6_setFraction_3 : decode cX6_setFraction 3 = .ok (.istore 4, 2) := by decide +kernel
theorem dX6_setFraction_5 : decode cX6_setFraction 5 = .ok (.iconst 0, 1) := by decide +kernel
theorem dX6_setFraction_6 : decode cX6_setFraction 6 = .ok (.istore 5, 2) := by decide +kernel
theorem dX6_setFraction_8 : decode cX6_setFraction 8 = .ok (.iload 5, 2) := by decide +kernel
theorem dX6_setFraction_10 : decode cX6_setFraction 10 = .ok (.bipush 64, 2) := by decide +kernel
theorem dX6_setFraction_12 : decode cX6_setFraction 12 = .ok (.if_icmp .ge 27, 3) := by decide +kernel
theorem dX6_setFraction_15 : decode cX6_setFraction 15 = .ok (.iload 4, 2) := by decide +kernel
theorem dX6_setFraction_17 : decode cX6_setFraction 17 = .ok (.ifCond .eq 22, 3) := by decide +kernel
theorem dX6_setFraction_20 : decode cX6_setFraction 20 = .ok (.iload_n 3, 1) := by decide +kernel
theorem dX6_setFraction_21 : decode cX6_setFraction 21 = .ok (.iload 4, 2) := by decide +kernel
theorem dX6_setFraction_23 : decode cX6_setFraction 23 = .ok (.irem, 1) := by decide +kernel
theorem dX6_setFraction_24 : decode cX6_setFraction 24 = .ok (.istore 6, 2) := by decide +kernel
theorem dX6_setFraction_26 : decode cX6_setFraction 26 = .ok (.iload 4, 2) := by decide +kernel
theorem dX6_setFraction_28 : decode cX6_setFraction 28 = .ok (.istore_n 3, 1) := by decide +kernel
theorem dX6_setFraction_29 : decode cX6_setFraction 29 = .ok (.iload 6, 2) := by decide +kernel
theorem dX6_setFraction_31 : decode cX6_setFraction 31 = .ok (.istore 4, 2) := by decide +kernel
theorem dX6_setFraction_33 : decode cX6_setFraction 33 = .ok (.iinc 5 1, 3) := by decide +kernel
theorem dX6_setFraction_36 : decode cX6_setFraction 36 = .ok (.goto (-28), 3) := by decide +kernel
theorem dX6_setFraction_39 : decode cX6_setFraction 39 = .ok (.iload_n 3, 1) := by decide +kernel
theorem dX6_setFraction_40 : decode cX6_setFraction 40 = .ok (.ifCond .le 19, 3) := by decide +kernel
theorem dX6_setFraction_43 : decode cX6_setFraction 43 = .ok (.aload_n 0, 1) := by decide +kernel
theorem dX6_setFraction_44 : decode cX6_setFraction 44 = .ok (.iload_n 1, 1) := by decide +kernel
theorem dX6_setFraction_45 : decode cX6_setFraction 45 = .ok (.iload_n 3, 1) := by decide +kernel
theorem dX6_setFraction_46 : decode cX6_setFraction 46 = .ok (.idiv, 1) := by decide +kernel
theorem dX6_setFraction_47 : decode cX6_setFraction 47 = .ok (.i2l, 1) := by decide +kernel
theorem dX6_setFraction_48 : decode cX6_setFraction 48 = .ok (.putfield 266, 3) := by decide +kernel
theorem dX6_setFraction_51 : decode cX6_setFraction 51 = .ok (.aload_n 0, 1) := by decide +kernel
theorem dX6_setFraction_52 : decode cX6_setFraction 52 = .ok (.iload_n 2, 1) := by decide +kernel
theorem dX6_setFraction_53 : decode cX6_setFraction 53 = .ok (.iload_n 3, 1) := by decide +kernel
theorem dX6_setFraction_54 : decode cX6_setFraction 54 = .ok (.idiv, 1) := by decide +kernel
theorem dX6_setFraction_55 : decode cX6_setFraction 55 = .ok (.i2l, 1) := by decide +kernel
theorem dX6_setFraction_56 : decode cX6_setFraction 56 = .ok (.putfield 58, 3) := by decide +kernel
theorem dX6_setFraction_59 : decode cX6_setFraction 59 = .ok (.return_, 1) := by decide +kernel
theorem dX6_howMany_0 : decode cX6_howMany 0 = .ok (.iload_n 1, 1) := by decide +kernel
theorem dX6_howMany_1 : decode cX6_howMany 1 = .ok (.tableswitch 83 0 4 #[35, 43, 51, 59, 75], 35) := by decide +kernel
theorem dX6_howMany_36 : decode cX6_howMany 36 = .ok (.aload_n 0, 1) := by decide +kernel
theorem dX6_howMany_37 : decode cX6_howMany 37 = .ok (.getfield 10, 3) := by decide +kernel
theorem dX6_howMany_40 : decode cX6_howMany 40 = .ok (.getfield 70, 3) := by decide +kernel
theorem dX6_howMany_43 : decode cX6_howMany 43 = .ok (.ireturn, 1) := by decide +kernel
theorem dX6_howMany_44 : decode cX6_howMany 44 = .ok (.aload_n 0, 1) := by decide +kernel
theorem dX6_howMany_45 : decode cX6_howMany 45 = .ok (.getfield 10, 3) := by decide +kernel
theorem dX6_howMany_48 : decode cX6_howMany 48 = .ok (.invokevirtual 296, 3) := by decide +kernel
theorem dX6_howMany_51 : decode cX6_howMany 51 = .ok (.ireturn, 1) := by decide +kernel
theorem dX6_howMany_52 : decode cX6_howMany 52 = .ok (.aload_n 0, 1) := by decide +kernel
theorem dX6_howMany_53 : decode cX6_howMany 53 = .ok (.getfield 10, 3) := by decide +kernel
theorem dX6_howMany_56 : decode cX6_howMany 56 = .ok (.getfield 299, 3) := by decide +kernel
theorem dX6_howMany_59 : decode cX6_howMany 59 = .ok (.ireturn, 1) := by decide +kernel
theorem dX6_howMany_60 : decode cX6_howMany 60 = .ok (.aload_n 0, 1) := by decide +kernel
theorem dX6_howMany_61 : decode cX6_howMany 61 = .ok (.getfield 10, 3) := by decide +kernel
theorem dX6_howMany_64 : decode cX6_howMany 64 = .ok (.getfield 203, 3) := by decide +kernel
theorem dX6_howMany_67 : decode cX6_howMany 67 = .ok (.aload_n 0, 1) := by decide +kernel
theorem dX6_howMany_68 : decode cX6_howMany 68 = .ok (.getfield 10, 3) := by decide +kernel
theorem dX6_howMany_71 : decode cX6_howMany 71 = .ok (.getfield 200, 3) := by decide +kernel
theorem dX6_howMany_74 : decode cX6_howMany 74 = .ok (.isub, 1) := by decide +kernel
theorem dX6_howMany_75 : decode cX6_howMany 75 = .ok (.ireturn, 1) := by decide +kernel
theorem dX6_howMany_76 : decode cX6_howMany 76 = .ok (.aload_n 0, 1) := by decide +kernel
theorem dX6_howMany_77 : decode cX6_howMany 77 = .ok (.getfield 10, 3) := by decide +kernel
theorem dX6_howMany_80 : decode cX6_howMany 80 = .ok (.getfield 125, 3) := by decide +kernel
theorem dX6_howMany_83 : decode cX6_howMany 83 = .ok (.ireturn, 1) := by decide +kernel
theorem dX6_howMany_84 : decode cX6_howMany 84 = .ok (.aload_n 0, 1) := by decide +kernel
theorem dX6_howMany_85 : decode cX6_howMany 85 = .ok (.getfield 26, 3) := by decide +kernel
theorem dX6_howMany_88 : decode cX6_howMany 88 = .ok (.getfield 100, 3) := by decide +kernel
theorem dX6_howMany_91 : decode cX6_howMany 91 = .ok (.ireturn, 1) := by decide +kernel
theorem dJ6_bitCount_0f7a4_0 : decode cJ6_bitCount_0f7a4 0 = .ok (.iload_n 0, 1) := by decide +kernel
theorem dJ6_bitCount_0f7a4_1 : decode cJ6_bitCount_0f7a4 1 = .ok (.iload_n 0, 1) := by decide +kernel
theorem dJ6_bitCount_0f7a4_2 : decode cJ6_bitCount_0f7a4 2 = .ok (.iconst 1, 1) := by decide +kernel
theorem dJ6_bitCount_0f7a4_3 : decode cJ6_bitCount_0f7a4 3 = .ok (.iushr, 1) := by decide +kernel
theorem dJ6_bitCount_0f7a4_4 : decode cJ6_bitCount_0f7a4 4 = .ok (.ldc_w 265, 3) := by decide +kernel
theorem dJ6_bitCount_0f7a4_7 : decode cJ6_bitCount_0f7a4 7 = .ok (.iand, 1) := by decide +kernel
theorem dJ6_bitCount_0f7a4_8 : decode cJ6_bitCount_0f7a4 8 = .ok (.isub, 1) := by decide +kernel
theorem dJ6_bitCount_0f7a4_9 : decode cJ6_bitCount_0f7a4 9 = .ok (.istore_n 0, 1) := by decide +kernel
theorem dJ6_bitCount_0f7a4_10 : decode cJ6_bitCount_0f7a4 10 = .ok (.iload_n 0, 1) := by decide +kernel
theorem dJ6_bitCount_0f7a4_11 : decode cJ6_bitCount_0f7a4 11 = .ok (.ldc_w 266, 3) := by decide +kernel
theorem dJ6_bitCount_0f7a4_14 : decode cJ6_bitCount_0f7a4 14 = .ok (.iand, 1) := by decide +kernel
theorem dJ6_bitCount_0f7a4_15 : decode cJ6_bitCount_0f7a4 15 = .ok (.iload_n 0, 1) := by decide +kernel
theorem dJ6_bitCount_0f7a4_16 : decode cJ6_bitCount_0f7a4 16 = .ok (.iconst 2, 1) := by decide +kernel
theorem dJ6_bitCount_0f7a4_17 : decode cJ6_bitCount_0f7a4 17 = .ok (.iushr, 1) := by decide +kernel
theorem dJ6_bitCount_0f7a4_18 : decode cJ6_bitCount_0f7a4 18 = .ok (.ldc_w 266, 3) := by decide +kernel
theorem dJ6_bitCount_0f7a4_21 : decode cJ6_bitCount_0f7a4 21 = .ok (.iand, 1) := by decide +kernel
theorem dJ6_bitCount_0f7a4_22 : decode cJ6_bitCount_0f7a4 22 = .ok (.iadd, 1) := by decide +kernel
theorem dJ6_bitCount_0f7a4_23 : decode cJ6_bitCount_0f7a4 23 = .ok (.istore_n 0, 1) := by decide +kernel
theorem dJ6_bitCount_0f7a4_24 : decode cJ6_bitCount_0f7a4 24 = .ok (.iload_n 0, 1) := by decide +kernel
theorem dJ6_bitCount_0f7a4_25 : decode cJ6_bitCount_0f7a4 25 = .ok (.iload_n 0, 1) := by decide +kernel
theorem dJ6_bitCount_0f7a4_26 : decode cJ6_bitCount_0f7a4 26 = .ok (.iconst 4, 1) := by decide +kernel
theorem dJ6_bitCount_0f7a4_27 : decode cJ6_bitCount_0f7a4 27 = .ok (.iushr, 1) := by decide +kernel
theorem dJ6_bitCount_0f7a4_28 : decode cJ6_bitCount_0f7a4 28 = .ok (.iadd, 1) := by decide +kernel
theorem dJ6_bitCount_0f7a4_29 : decode cJ6_bitCount_0f7a4 29 = .ok (.ldc_w 267, 3) := by decide +kernel
theorem dJ6_bitCount_0f7a4_32 : decode cJ6_bitCount_0f7a4 32 = .ok (.iand, 1) := by decide +kernel
theorem dJ6_bitCount_0f7a4_33 : decode cJ6_bitCount_0f7a4 33 = .ok (.istore_n 0, 1) := by decide +kernel
theorem dJ6_bitCount_0f7a4_34 : decode cJ6_bitCount_0f7a4 34 = .ok (.iload_n 0, 1) := by decide +kernel
theorem dJ6_bitCount_0f7a4_35 : decode cJ6_bitCount_0f7a4 35 = .ok (.iload_n 0, 1) := by decide +kernel
theorem dJ6_bitCount_0f7a4_36 : decode cJ6_bitCount_0f7a4 36 = .ok (.bipush 8, 2) := by decide +kernel
theorem dJ6_bitCount_0f7a4_38 : decode cJ6_bitCount_0f7a4 38 = .ok (.iushr, 1) := by decide +kernel
theorem dJ6_bitCount_0f7a4_39 : decode cJ6_bitCount_0f7a4 39 = .ok (.iadd, 1) := by decide +kernel
theorem dJ6_bitCount_0f7a4_40 : decode cJ6_bitCount_0f7a4 40 = .ok (.istore_n 0, 1) := by decide +kernel
theorem dJ6_bitCount_0f7a4_41 : decode cJ6_bitCount_0f7a4 41 = .ok (.iload_n 0, 1) := by decide +kernel
theorem dJ6_bitCount_0f7a4_42 : decode cJ6_bitCount_0f7a4 42 = .ok (.iload_n 0, 1) := by decide +kernel
theorem dJ6_bitCount_0f7a4_43 : decode cJ6_bitCount_0f7a4 43 = .ok (.bipush 16, 2) := by decide +kernel
theorem dJ6_bitCount_0f7a4_45 : decode cJ6_bitCount_0f7a4 45 = .ok (.iushr, 1) := by decide +kernel
theorem dJ6_bitCount_0f7a4_46 : decode cJ6_bitCount_0f7a4 46 = .ok (.iadd, 1) := by decide +kernel
theorem dJ6_bitCount_0f7a4_47 : decode cJ6_bitCount_0f7a4 47 = .ok (.istore_n 0, 1) := by decide +kernel
theorem dJ6_bitCount_0f7a4_48 : decode cJ6_bitCount_0f7a4 48 = .ok (.iload_n 0, 1) := by decide +kernel
theorem dJ6_bitCount_0f7a4_49 : decode cJ6_bitCount_0f7a4 49 = .ok (.bipush 63, 2) := by decide +kernel
theorem dJ6_bitCount_0f7a4_51 : decode cJ6_bitCount_0f7a4 51 = .ok (.iand, 1) := by decide +kernel
theorem dJ6_bitCount_0f7a4_52 : decode cJ6_bitCount_0f7a4 52 = .ok (.ireturn, 1) := by decide +kernel
theorem dJ9_abs_0f7a4_0 : decode cJ9_abs_0f7a4 0 = .ok (.iload_n 0, 1) := by decide +kernel
theorem dJ9_abs_0f7a4_1 : decode cJ9_abs_0f7a4 1 = .ok (.ifCond .ge 8, 3) := by decide +kernel
theorem dJ9_abs_0f7a4_4 : decode cJ9_abs_0f7a4 4 = .ok (.iload_n 0, 1) := by decide +kernel
theorem dJ9_abs_0f7a4_5 : decode cJ9_abs_0f7a4 5 = .ok (.ineg, 1) := by decide +kernel
theorem dJ9_abs_0f7a4_6 : decode cJ9_abs_0f7a4 6 = .ok (.goto 4, 3) := by decide +kernel
theorem dJ9_abs_0f7a4_9 : decode cJ9_abs_0f7a4 9 = .ok (.iload_n 0, 1) := by decide +kernel
theorem dJ9_abs_0f7a4_10 : decode cJ9_abs_0f7a4 10 = .ok (.ireturn, 1) := by decide +kernel
theorem dJ9_max_7cf53_0 : decode cJ9_max_7cf53 0 = .ok (.iload_n 0, 1) := by decide +kernel
theorem dJ9_max_7cf53_1 : decode cJ9_max_7cf53 1 = .ok (.iload_n 1, 1) := by decide +kernel
theorem dJ9_max_7cf53_2 : decode cJ9_max_7cf53 2 = .ok (.if_icmp .lt 7, 3) := by decide +kernel
theorem dJ9_max_7cf53_5 : decode cJ9_max_7cf53 5 = .ok (.iload_n 0, 1) := by decide +kernel
theorem dJ9_max_7cf53_6 : decode cJ9_max_7cf53 6 = .ok (.goto 4, 3) := by decide +kernel
theorem dJ9_max_7cf53_9 : decode cJ9_max_7cf53 9 = .ok (.iload_n 1, 1) := by decide +kernel
theorem dJ9_max_7cf53_10 : decode cJ9_max_7cf53 10 = .ok (.ireturn, 1) := by decide +kernel
theorem dJ9_min_7cf53_0 : decode cJ9_min_7cf53 0 = .ok (.iload_n 0, 1) := by decide +kernel
theorem dJ9_min_7cf53_1 : decode cJ9_min_7cf53 1 = .ok (.iload_n 1, 1) := by decide +kernel
theorem dJ9_min_7cf53_2 : decode cJ9_min_7cf53 2 = .ok (.if_icmp .gt 7, 3) := by decide +kernel
theorem dJ9_min_7cf53_5 : decode cJ9_min_7cf53 5 = .ok (.iload_n 0, 1) := by decide +kernel
theorem dJ9_min_7cf53_6 : decode cJ9_min_7cf53 6 = .ok (.goto 4, 3) := by decide +kernel
theorem dJ9_min_7cf53_9 : decode cJ9_min_7cf53 9 = .ok (.iload_n 1, 1) := by decide +kernel
theorem dJ9_min_7cf53_10 : decode cJ9_min_7cf53 10 = .ok (.ireturn, 1) := by decide +kernel
theorem dJ0_length_8abf5_0 : decode cJ0_length_8abf5 0 = .ok (.aload_n 0, 1) := by decide +kernel
theorem dJ0_length_8abf5_1 : decode cJ0_length_8abf5 1 = .ok (.getfield 9, 3) := by decide +kernel
theorem dJ0_length_8abf5_4 : decode cJ0_length_8abf5 4 = .ok (.arraylength, 1) := by decide +kernel
theorem dJ0_length_8abf5_5 : decode cJ0_length_8abf5 5 = .ok (.aload_n 0, 1) := by decide +kernel
theorem dJ0_length_8abf5_6 : decode cJ0_length_8abf5 6 = .ok (.invokevirtual 335, 3) := by decide +kernel
theorem dJ0_length_8abf5_9 : decode cJ0_length_8abf5 9 = .ok (.ishr, 1) := by decide +kernel
theorem dJ0_length_8abf5_10 : decode cJ0_length_8abf5 10 = .ok (.ireturn, 1) := by decide +kernel
theorem dJ0_charAt_5068e_0 : decode cJ0_charAt_5068e 0 = .ok (.aload_n 0, 1) := by decide +kernel
theorem dJ0_charAt_5068e_1 : decode cJ0_charAt_5068e 1 = .ok (.invokevirtual 492, 3) := by decide +kernel
theorem dJ0_charAt_5068e_4 : decode cJ0_charAt_5068e 4 = .ok (.ifCond .eq 12, 3) := by decide +kernel
theorem dJ0_charAt_5068e_7 : decode cJ0_charAt_5068e 7 = .ok (.aload_n 0, 1) := by decide +kernel
theorem dJ0_charAt_5068e_8 : decode cJ0_charAt_5068e 8 = .ok (.getfield 9, 3) := by decide +kernel
theorem dJ0_charAt_5068e_11 : decode cJ0_charAt_5068e 11 = .ok (.iload_n 1, 1) := by decide +kernel
theorem dJ0_charAt_5068e_12 : decode cJ0_charAt_5068e 12 = .ok (.invokestatic 495, 3) := by decide +kernel
theorem dJ0_charAt_5068e_15 : decode cJ0_charAt_5068e 15 = .ok (.ireturn, 1) := by decide +kernel
theorem dJ0_charAt_5068e_16 : decode cJ0_charAt_5068e 16 = .ok (.aload_n 0, 1) := by decide +kernel
theorem dJ0_charAt_5068e_17 : decode cJ0_charAt_5068e 17 = .ok (.getfield 9, 3) := by decide +kernel
theorem dJ0_charAt_5068e_20 : decode cJ0_charAt_5068e 20 = .ok (.iload_n 1, 1) := by decide +kernel
theorem dJ0_charAt_5068e_21 : decode cJ0_charAt_5068e 21 = .ok (.invokestatic 498, 3) := by decide +kernel
theorem dJ0_charAt_5068e_24 : decode cJ0_charAt_5068e 24 = .ok (.ireturn, 1) := by decide +kernel
theorem dJ0_coder_7d493_0 : decode cJ0_coder_7d493 0 = .ok (.getstatic 38, 3) := by decide +kernel
theorem dJ0_coder_7d493_3 : decode cJ0_coder_7d493 3 = .ok (.ifCond .eq 10, 3) := by decide +kernel
theorem dJ0_coder_7d493_6 : decode cJ0_coder_7d493 6 = .ok (.aload_n 0, 1) := by decide +kernel
theorem dJ0_coder_7d493_7 : decode cJ0_coder_7d493 7 = .ok (.getfield 15, 3) := by decide +kernel
theorem dJ0_coder_7d493_10 : decode cJ0_coder_7d493 10 = .ok (.goto 4, 3) := by decide +kernel
theorem dJ0_coder_7d493_13 : decode cJ0_coder_7d493 13 = .ok (.iconst 1, 1) := by decide +kernel
theorem dJ0_coder_7d493_14 : decode cJ0_coder_7d493 14 = .ok (.ireturn, 1) := by decide +kernel
theorem dJ0_isLatin1_aae02_0 : decode cJ0_isLatin1_aae02 0 = .ok (.getstatic 38, 3) := by decide +kernel
theorem dJ0_isLatin1_aae02_3 : decode cJ0_isLatin1_aae02 3 = .ok (.ifCond .eq 14, 3) := by decide +kernel
theorem dJ0_isLatin1_aae02_6 : decode cJ0_isLatin1_aae02 6 = .ok (.aload_n 0, 1) := by decide +kernel
theorem dJ0_isLatin1_aae02_7 : decode cJ0_isLatin1_aae02 7 = .ok (.getfield 15, 3) := by decide +kernel
theorem dJ0_isLatin1_aae02_10 : decode cJ0_isLatin1_aae02 10 = .ok (.ifCond .ne 7, 3) := by decide +kernel
theorem dJ0_isLatin1_aae02_13 : decode cJ0_isLatin1_aae02 13 = .ok (.iconst 1, 1) := by decide +kernel
theorem dJ0_isLatin1_aae02_14 : decode cJ0_isLatin1_aae02 14 = .ok (.goto 4, 3) := by decide +kernel
theorem dJ0_isLatin1_aae02_17 : decode cJ0_isLatin1_aae02 17 = .ok (.iconst 0, 1) := by decide +kernel
theorem dJ0_isLatin1_aae02_18 : decode cJ0_isLatin1_aae02 18 = .ok (.ireturn, 1) := by decide +kernel
theorem dJ0_checkIndex_df160_0 : decode cJ0_checkIndex_df160 0 = .ok (.iload_n 0, 1) := by decide +kernel
theorem dJ0_checkIndex_df160_1 : decode cJ0_checkIndex_df160 1 = .ok (.iload_n 1, 1) := by decide +kernel
theorem dJ0_checkIndex_df160_2 : decode cJ0_checkIndex_df160 2 = .ok (.getstatic 1053, 3) := by decide +kernel
theorem dJ0_checkIndex_df160_5 : decode cJ0_checkIndex_df160 5 = .ok (.invokestatic 1059, 3) := by decide +kernel
theorem dJ0_checkIndex_df160_8 : decode cJ0_checkIndex_df160 8 = .ok (.pop, 1) := by decide +kernel
theorem dJ0_checkIndex_df160_9 : decode cJ0_checkIndex_df160 9 = .ok (.return_, 1) := by decide +kernel
theorem dJ1_charAt_3b067_0 : decode cJ1_charAt_3b067 0 = .ok (.iload_n 1, 1) := by decide +kernel
theorem dJ1_charAt_3b067_1 : decode cJ1_charAt_3b067 1 = .ok (.aload_n 0, 1) := by decide +kernel
theorem dJ1_charAt_3b067_2 : decode cJ1_charAt_3b067 2 = .ok (.arraylength, 1) := by decide +kernel
theorem dJ1_charAt_3b067_3 : decode cJ1_charAt_3b067 3 = .ok (.invokestatic 9, 3) := by decide +kernel
theorem dJ1_charAt_3b067_6 : decode cJ1_charAt_3b067 6 = .ok (.aload_n 0, 1) := by decide +kernel
theorem dJ1_charAt_3b067_7 : decode cJ1_charAt_3b067 7 = .ok (.iload_n 1, 1) := by decide +kernel
theorem dJ1_charAt_3b067_8 : decode cJ1_charAt_3b067 8 = .ok (.baload, 1) := by decide +kernel
theorem dJ1_charAt_3b067_9 : decode cJ1_charAt_3b067 9 = .ok (.sipush 255, 3) := by decide +kernel
theorem dJ1_charAt_3b067_12 : decode cJ1_charAt_3b067 12 = .ok (.iand, 1) := by decide +kernel
theorem dJ1_charAt_3b067_13 : decode cJ1_charAt_3b067 13 = .ok (.i2c, 1) := by decide +kernel
theorem dJ1_charAt_3b067_14 : decode cJ1_charAt_3b067 14 = .ok (.ireturn, 1) := by decide +kernel
theorem dJ2_getChar_3b067_0 : decode cJ2_getChar_3b067 0 = .ok (.getstatic 44, 3) := by decide +kernel
theorem dJ2_getChar_3b067_3 : decode cJ2_getChar_3b067 3 = .ok (.ifCond .ne 25, 3) := by decide +kernel
theorem dJ2_getChar_3b067_6 : decode cJ2_getChar_3b067 6 = .ok (.iload_n 1, 1) := by decide +kernel
theorem dJ2_getChar_3b067_7 : decode cJ2_getChar_3b067 7 = .ok (.ifCond .lt 11, 3) := by decide +kernel
theorem dJ2_getChar_3b067_10 : decode cJ2_getChar_3b067 10 = .ok (.iload_n 1, 1) := by decide +kernel
theorem dJ2_getChar_3b067_11 : decode cJ2_getChar_3b067 11 = .ok (.aload_n 0, 1) := by decide +kernel
theorem dJ2_getChar_3b067_12 : decode cJ2_getChar_3b067 12 = .ok (.invokestatic 48, 3) := by decide +kernel
theorem dJ2_getChar_3b067_15 : decode cJ2_getChar_3b067 15 = .ok (.if_icmp .lt 13, 3) := by decide +kernel
theorem dJ2_getChar_3b067_18 : decode cJ2_getChar_3b067 18 = .ok (.new 52, 3) := by decide +kernel
theorem dJ2_getChar_3b067_21 : decode cJ2_getChar_3b067 21 = .ok (.dup, 1) := by decide +kernel
theorem dJ2_getChar_3b067_22 : decode cJ2_getChar_3b067 22 = .ok (.ldc 54, 2) := by decide +kernel
theorem dJ2_getChar_3b067_24 : decode cJ2_getChar_3b067 24 = .ok (.invokespecial 56, 3) := by decide +kernel
theorem dJ2_getChar_3b067_27 : decode cJ2_getChar_3b067 27 = .ok (.athrow, 1) := by decide +kernel
theorem dJ2_getChar_3b067_28 : decode cJ2_getChar_3b067 28 = .ok (.iload_n 1, 1) := by decide +kernel
theorem dJ2_getChar_3b067_29 : decode cJ2_getChar_3b067 29 = .ok (.iconst 1, 1) := by decide +kernel
theorem dJ2_getChar_3b067_30 : decode cJ2_getChar_3b067 30 = .ok (.ishl, 1) := by decide +kernel
theorem dJ2_getChar_3b067_31 : decode cJ2_getChar_3b067 31 = .ok (.istore_n 1, 1) := by decide +kernel
theorem dJ2_getChar_3b067_32 : decode cJ2_getChar_3b067 32 = .ok (.aload_n 0, 1) := by decide +kernel
theorem dJ2_getChar_3b067_33 : decode cJ2_getChar_3b067 33 = .ok (.iload_n 1, 1) := by decide +kernel
theorem dJ2_getChar_3b067_34 : decode cJ2_getChar_3b067 34 = .ok (.iinc 1 1, 3) := by decide +kernel
theorem dJ2_getChar_3b067_37 : decode cJ2_getChar_3b067 37 = .ok (.baload, 1) := by decide +kernel
theorem dJ2_getChar_3b067_38 : decode cJ2_getChar_3b067 38 = .ok (.sipush 255, 3) := by decide +kernel
theorem dJ2_getChar_3b067_41 : decode cJ2_getChar_3b067 41 = .ok (.iand, 1) := by decide +kernel
theorem dJ2_getChar_3b067_42 : decode cJ2_getChar_3b067 42 = .ok (.getstatic 59, 3) := by decide +kernel
theorem dJ2_getChar_3b067_45 : decode cJ2_getChar_3b067 45 = .ok (.ishl, 1) := by decide +kernel
theorem dJ2_getChar_3b067_46 : decode cJ2_getChar_3b067 46 = .ok (.aload_n 0, 1) := by decide +kernel
theorem dJ2_getChar_3b067_47 : decode cJ2_getChar_3b067 47 = .ok (.iload_n 1, 1) := by decide +kernel
theorem dJ2_getChar_3b067_48 : decode cJ2_getChar_3b067 48 = .ok (.baload, 1) := by decide +kernel
theorem dJ2_getChar_3b067_49 : decode cJ2_getChar_3b067 49 = .ok (.sipush 255, 3) := by decide +kernel
theorem dJ2_getChar_3b067_52 : decode cJ2_getChar_3b067 52 = .ok (.iand, 1) := by decide +kernel
theorem dJ2_getChar_3b067_53 : decode cJ2_getChar_3b067 53 = .ok (.getstatic 63, 3) := by decide +kernel
theorem dJ2_getChar_3b067_56 : decode cJ2_getChar_3b067 56 = .ok (.ishl, 1) := by decide +kernel
theorem dJ2_getChar_3b067_57 : decode cJ2_getChar_3b067 57 = .ok (.ior, 1) := by decide +kernel
theorem dJ2_getChar_3b067_58 : decode cJ2_getChar_3b067 58 = .ok (.i2c, 1) := by decide +kernel
theorem dJ2_getChar_3b067_59 : decode cJ2_getChar_3b067 59 = .ok (.ireturn, 1) := by decide +kernel
theorem dJ2_length_9d52b_0 : decode cJ2_length_9d52b 0 = .ok (.aload_n 0, 1) := by decide +kernel
theorem dJ2_length_9d52b_1 : decode cJ2_length_9d52b 1 = .ok (.arraylength, 1) := by decide +kernel
theorem dJ2_length_9d52b_2 : decode cJ2_length_9d52b 2 = .ok (.iconst 1, 1) := by decide +kernel
theorem dJ2_length_9d52b_3 : decode cJ2_length_9d52b 3 = .ok (.ishr, 1) := by decide +kernel
theorem dJ2_length_9d52b_4 : decode cJ2_length_9d52b 4 = .ok (.ireturn, 1) := by decide +kernel
theorem dJ2_charAt_3b067_0 : decode cJ2_charAt_3b067 0 = .ok (.iload_n 1, 1) := by decide +kernel
theorem dJ2_charAt_3b067_1 : decode cJ2_charAt_3b067 1 = .ok (.aload_n 0, 1) := by decide +kernel
theorem dJ2_charAt_3b067_2 : decode cJ2_charAt_3b067 2 = .ok (.invokestatic 67, 3) := by decide +kernel
theorem dJ2_charAt_3b067_5 : decode cJ2_charAt_3b067 5 = .ok (.aload_n 0, 1) := by decide +kernel
theorem dJ2_charAt_3b067_6 : decode cJ2_charAt_3b067 6 = .ok (.iload_n 1, 1) := by decide +kernel
theorem dJ2_charAt_3b067_7 : decode cJ2_charAt_3b067 7 = .ok (.invokestatic 71, 3) := by decide +kernel
theorem dJ2_charAt_3b067_10 : decode cJ2_charAt_3b067 10 = .ok (.ireturn, 1) := by decide +kernel
theorem dJ2_checkIndex_2214a_0 : decode cJ2_checkIndex_2214a 0 = .ok (.iload_n 0, 1) := by decide +kernel
theorem dJ2_checkIndex_2214a_1 : decode cJ2_checkIndex_2214a 1 = .ok (.aload_n 1, 1) := by decide +kernel
theorem dJ2_checkIndex_2214a_2 : decode cJ2_checkIndex_2214a 2 = .ok (.invokestatic 48, 3) := by decide +kernel
theorem dJ2_checkIndex_2214a_5 : decode cJ2_checkIndex_2214a 5 = .ok (.invokestatic 414, 3) := by decide +kernel
theorem dJ2_checkIndex_2214a_8 : decode cJ2_checkIndex_2214a 8 = .ok (.return_, 1) := by decide +kernel
theorem dJ7_fill_53178_0 : decode cJ7_fill_53178 0 = .ok (.iconst 0, 1) := by decide +kernel
theorem dJ7_fill_53178_1 : decode cJ7_fill_53178 1 = .ok (.istore_n 2, 1) := by decide +kernel
theorem dJ7_fill_53178_2 : decode cJ7_fill_53178 2 = .ok (.aload_n 0, 1) := by decide +kernel
theorem dJ7_fill_53178_3 : decode cJ7_fill_53178 3 = .ok (.arraylength, 1) := by decide +kernel
theorem dJ7_fill_53178_4 : decode cJ7_fill_53178 4 = .ok (.istore_n 3, 1) := by decide +kernel
theorem dJ7_fill_53178_5 : decode cJ7_fill_53178 5 = .ok (.iload_n 2, 1) := by decide +kernel
theorem dJ7_fill_53178_6 : decode cJ7_fill_53178 6 = .ok (.iload_n 3, 1) := by decide +kernel
theorem dJ7_fill_53178_7 : decode cJ7_fill_53178 7 = .ok (.if_icmp .ge 13, 3) := by decide +kernel
theorem dJ7_fill_53178_10 : decode cJ7_fill_53178 10 = .ok (.aload_n 0, 1) := by decide +kernel
theorem dJ7_fill_53178_11 : decode cJ7_fill_53178 11 = .ok (.iload_n 2, 1) := by decide +kernel
theorem dJ7_fill_53178_12 : decode cJ7_fill_53178 12 = .ok (.iload_n 1, 1) := by decide +kernel
theorem dJ7_fill_53178_13 : decode cJ7_fill_53178 13 = .ok (.iastore, 1) := by decide +kernel
theorem dJ7_fill_53178_14 : decode cJ7_fill_53178 14 = .ok (.iinc 2 1, 3) := by decide +kernel
theorem dJ7_fill_53178_17 : decode cJ7_fill_53178 17 = .ok (.goto (-12), 3) := by decide +kernel
theorem dJ7_fill_53178_20 : decode cJ7_fill_53178 20 = .ok (.return_, 1) := by decide +kernel
theorem dJ3_checkIndex_8e157_0 : decode cJ3_checkIndex_8e157 0 = .ok (.iload_n 0, 1) := by decide +kernel
theorem dJ3_checkIndex_8e157_1 : decode cJ3_checkIndex_8e157 1 = .ok (.ifCond .lt 8, 3) := by decide +kernel
theorem dJ3_checkIndex_8e157_4 : decode cJ3_checkIndex_8e157 4 = .ok (.iload_n 0, 1) := by decide +kernel
theorem dJ3_checkIndex_8e157_5 : decode cJ3_checkIndex_8e157 5 = .ok (.iload_n 1, 1) := by decide +kernel
theorem dJ3_checkIndex_8e157_6 : decode cJ3_checkIndex_8e157 6 = .ok (.if_icmp .lt 10, 3) := by decide +kernel
theorem dJ3_checkIndex_8e157_9 : decode cJ3_checkIndex_8e157 9 = .ok (.aload_n 2, 1) := by decide +kernel
theorem dJ3_checkIndex_8e157_10 : decode cJ3_checkIndex_8e157 10 = .ok (.iload_n 0, 1) := by decide +kernel
theorem dJ3_checkIndex_8e157_11 : decode cJ3_checkIndex_8e157 11 = .ok (.iload_n 1, 1) := by decide +kernel
theorem dJ3_checkIndex_8e157_12 : decode cJ3_checkIndex_8e157 12 = .ok (.invokestatic 95, 3) := by decide +kernel
theorem dJ3_checkIndex_8e157_15 : decode cJ3_checkIndex_8e157 15 = .ok (.athrow, 1) := by decide +kernel
theorem dJ3_checkIndex_8e157_16 : decode cJ3_checkIndex_8e157 16 = .ok (.iload_n 0, 1) := by decide +kernel
theorem dJ3_checkIndex_8e157_17 : decode cJ3_checkIndex_8e157 17 = .ok (.ireturn, 1) := by decide +kernel
end
section
theorem dX7_init_0 : decode cX7_init 0 = .ok (.aload_n 0, 1) := by decide +kernel
theorem dX7_init_1 : decode cX7_init 1 = .ok (.invokespecial 1, 3) := by decide +kernel
theorem dX7_init_4 : decode cX7_init 4 = .ok (.aload_n 0, 1) := by decide +kernel
theorem dX7_init_5 : decode cX7_init 5 = .ok (.sipush 221, 3) := by decide +kernel
theorem dX7_init_8 : decode cX7_init 8 = .ok (.newarray .int, 2) := by decide +kernel
theorem dX7_init_10 : decode cX7_init 10 = .ok (.putfield 7, 3) := by decide +kernel
theorem dX7_init_13 : decode cX7_init 13 = .ok (.aload_n 0, 1) := by decide +kernel
theorem dX7_init_14 : decode cX7_init 14 = .ok (.sipush 442, 3) := by decide +kernel
theorem dX7_init_17 : decode cX7_init 17 = .ok (.newarray .int, 2) := by decide +kernel
theorem dX7_init_19 : decode cX7_init 19 = .ok (.putfield 13, 3) := by decide +kernel
theorem dX7_init_22 : decode cX7_init 22 = .ok (.aload_n 0, 1) := by decide +kernel
theorem dX7_init_23 : decode cX7_init 23 = .ok (.iconst 2, 1) := by decide +kernel
theorem dX7_init_24 : decode cX7_init 24 = .ok (.newarray .boolean, 2) := by decide +kernel
theorem dX7_init_26 : decode cX7_init 26 = .ok (.putfield 16, 3) := by decide +kernel
theorem dX7_init_29 : decode cX7_init 29 = .ok (.aload_n 0, 1) := by decide +kernel
theorem dX7_init_30 : decode cX7_init 30 = .ok (.iconst 3, 1) := by decide +kernel
theorem dX7_init_31 : decode cX7_init 31 = .ok (.newarray .int, 2) := by decide +kernel
theorem dX7_init_33 : decode cX7_init 33 = .ok (.putfield 20, 3) := by decide +kernel
theorem dX7_init_36 : decode cX7_init 36 = .ok (.aload_n 0, 1) := by decide +kernel
theorem dX7_init_37 : decode cX7_init 37 = .ok (.lconst 1, 1) := by decide +kernel
theorem dX7_init_38 : decode cX7_init 38 = .ok (.putfield 23, 3) := by decide +kernel
theorem dX7_init_41 : decode cX7_init 41 = .ok (.aload_n 0, 1) := by decide +kernel
theorem dX7_init_42 : decode cX7_init 42 = .ok (.bipush 12, 2) := by decide +kernel
theorem dX7_init_44 : decode cX7_init 44 = .ok (.newarray .int, 2) := by decide +kernel
theorem dX7_init_46 : decode cX7_init 46 = .ok (.putfield 27, 3) := by decide +kernel
theorem dX7_init_49 : decode cX7_init 49 = .ok (.aload_n 0, 1) := by decide +kernel
theorem dX7_init_50 : decode cX7_init 50 = .ok (.bipush 12, 2) := by decide +kernel
theorem dX7_init_52 : decode cX7_init 52 = .ok (.newarray .int, 2) := by decide +kernel
theorem dX7_init_54 : decode cX7_init 54 = .ok (.putfield 30, 3) := by decide +kernel
theorem dX7_init_57 : decode cX7_init 57 = .ok (.aload_n 0, 1) := by decide +kernel
theorem dX7_init_58 : decode cX7_init 58 = .ok (.bipush 40, 2) := by decide +kernel
theorem dX7_init_60 : decode cX7_init 60 = .ok (.newarray .int, 2) := by decide +kernel
theorem dX7_init_62 : decode cX7_init 62 = .ok (.putfield 33, 3) := by decide +kernel
theorem dX7_init_65 : decode cX7_init 65 = .ok (.aload_n 0, 1) := by decide +kernel
theorem dX7_init_66 : decode cX7_init 66 = .ok (.bipush 8, 2) := by decide +kernel
theorem dX7_init_68 : decode cX7_init 68 = .ok (.newarray .int, 2) := by decide +kernel
theorem dX7_init_70 : decode cX7_init 70 = .ok (.putfield 36, 3) := by decide +kernel
theorem dX7_init_73 : decode cX7_init 73 = .ok (.aload_n 0, 1) := by decide +kernel
theorem dX7_init_74 : decode cX7_init 74 = .ok (.bipush 8, 2) := by decide +kernel
theorem dX7_init_76 : decode cX7_init 76 = .ok (.newarray .int, 2) := by decide +kernel
theorem dX7_init_78 : decode cX7_init 78 = .ok (.putfield 39, 3) := by decide +kernel
theorem dX7_init_81 : decode cX7_init 81 = .ok (.aload_n 0, 1) := by decide +kernel
theorem dX7_init_82 : decode cX7_init 82 = .ok (.bipush 6, 2) := by decide +kernel
theorem dX7_init_84 : decode cX7_init 84 = .ok (.newarray .int, 2) := by decide +kernel
theorem dX7_init_86 : decode cX7_init 86 = .ok (.putfield 42, 3) := by decide +kernel
theorem dX7_init_89 : decode cX7_init 89 = .ok (.aload_n 0, 1) := by decide +kernel
theorem dX7_init_90 : decode cX7_init 90 = .ok (.bipush 6, 2) := by decide +kernel
theorem dX7_init_92 : decode cX7_init 92 = .ok (.newarray .int, 2) := by decide +kernel
theorem dX7_init_94 : decode cX7_init 94 = .ok (.putfield 45, 3) := by decide +kernel
theorem dX7_init_97 : decode cX7_init 97 = .ok (.aload_n 0, 1) := by decide +kernel
theorem dX7_init_98 : decode cX7_init 98 = .ok (.bipush 12, 2) := by decide +kernel
theorem dX7_init_100 : decode cX7_init 100 = .ok (.newarray .int, 2) := by decide +kernel
theorem dX7_init_102 : decode cX7_init 102 = .ok (.putfield 48, 3) := by decide +kernel
theorem dX7_init_105 : decode cX7_init 105 = .ok (.aload_n 0, 1) := by decide +kernel
theorem dX7_init_106 : decode cX7_init 106 = .ok (.sipush 150, 3) := by decide +kernel
theorem dX7_init_109 : decode cX7_init 109 = .ok (.newarray .int, 2) := by decide +kernel
theorem dX7_init_111 : decode cX7_init 111 = .ok (.putfield 51, 3) := by decide +kernel
theorem dX7_init_114 : decode cX7_init 114 = .ok (.aload_n 0, 1) := by decide +kernel
theorem dX7_init_115 : decode cX7_init 115 = .ok (.bipush 101, 2) := by decide +kernel
theorem dX7_init_117 : decode cX7_init 117 = .ok (.newarray .int, 2) := by decide +kernel
theorem dX7_init_119 : decode cX7_init 119 = .ok (.putfield 54, 3) := by decide +kernel
theorem dX7_init_122 : decode cX7_init 122 = .ok (.aload_n 0, 1) := by decide +kernel
theorem dX7_init_123 : decode cX7_init 123 = .ok (.bipush 6, 2) := by decide +kernel
theorem dX7_init_125 : decode cX7_init 125 = .ok (.newarray .int, 2) := by decide +kernel
theorem dX7_init_127 : decode cX7_init 127 = .ok (.putfield 57, 3) := by decide +kernel
theorem dX7_init_130 : decode cX7_init 130 = .ok (.aload_n 0, 1) := by decide +kernel
theorem dX7_init_131 : decode cX7_init 131 = .ok (.getfield 7, 3) := by decide +kernel
theorem dX7_init_134 : decode cX7_init 134 = .ok (.iconst 2, 1) := by decide +kernel
theorem dX7_init_135 : decode cX7_init 135 = .ok (.invokestatic 60, 3) := by decide +kernel
theorem dX7_init_138 : decode cX7_init 138 = .ok (.return_, 1) := by decide +kernel
theorem dX7_in_0 : decode cX7_in 0 = .ok (.lload_n 0, 1) := by decide +kernel
theorem dX7_in_1 : decode cX7_in 1 = .ok (.lload_n 2, 1) := by decide +kernel
theorem dX7_in_2 : decode cX7_in 2 = .ok (.lcmp, 1) := by decide +kernel
theorem dX7_in_3 : decode cX7_in 3 = .ok (.ifCond .lt 14, 3) := by decide +kernel
theorem dX7_in_6 : decode cX7_in 6 = .ok (.lload_n 0, 1) := by decide +kernel
theorem dX7_in_7 : decode cX7_in 7 = .ok (.lload 4, 2) := by decide +kernel
theorem dX7_in_9 : decode cX7_in 9 = .ok (.lcmp, 1) := by decide +kernel
theorem dX7_in_10 : decode cX7_in 10 = .ok (.ifCond .gt 7, 3) := by decide +kernel
theorem dX7_in_13 : decode cX7_in 13 = .ok (.iconst 1, 1) := by decide +kernel
theorem dX7_in_14 : decode cX7_in 14 = .ok (.goto 4, 3) := by decide +kernel
theorem dX7_in_17 : decode cX7_in 17 = .ok (.iconst 0, 1) := by decide +kernel
theorem dX7_in_18 : decode cX7_in 18 = .ok (.ireturn, 1) := by decide +kernel
theorem dX7_bad_0 : decode cX7_bad 0 = .ok (.aload_n 0, 1) := by decide +kernel
theorem dX7_bad_1 : decode cX7_bad 1 = .ok (.getfield 20, 3) := by decide +kernel
theorem dX7_bad_4 : decode cX7_bad 4 = .ok (.iconst 0, 1) := by decide +kernel
theorem dX7_bad_5 : decode cX7_bad 5 = .ok (.dup2, 1) := by decide +kernel
theorem dX7_bad_6 : decode cX7_bad 6 = .ok (.iaload, 1) := by decide +kernel
theorem dX7_bad_7 : decode cX7_bad 7 = .ok (.iconst 1, 1) := by decide +kernel
theorem dX7_bad_8 : decode cX7_bad 8 = .ok (.iadd, 1) := by decide +kernel
theorem dX7_bad_9 : decode cX7_bad 9 = .ok (.iastore, 1) := by decide +kernel
theorem dX7_bad_10 : decode cX7_bad 10 = .ok (.iload_n 1, 1) := by decide +kernel
theorem dX7_bad_11 : decode cX7_bad 11 = .ok (.ireturn, 1) := by decide +kernel
theorem dX7_no_0 : decode cX7_no 0 = .ok (.aload_n 0, 1) := by decide +kernel
theorem dX7_no_1 : decode cX7_no 1 = .ok (.getfield 20, 3) := by decide +kernel
theorem dX7_no_4 : decode cX7_no 4 = .ok (.iconst 1, 1) := by decide +kernel
theorem dX7_no_5 : decode cX7_no 5 = .ok (.dup2, 1) := by decide +kernel
theorem dX7_no_6 : decode cX7_no 6 = .ok (.iaload, 1) := by decide +kernel
theorem dX7_no_7 : decode cX7_no 7 = .ok (.iconst 1, 1) := by decide +kernel
theorem dX7_no_8 : decode cX7_no 8 = .ok (.iadd, 1) := by decide +kernel
theorem dX7_no_9 : decode cX7_no 9 = .ok (.iastore, 1) := by decide +kernel
theorem dX7_no_10 : decode cX7_no 10 = .ok (.iload_n 1, 1) := by decide +kernel
theorem dX7_no_11 : decode cX7_no 11 = .ok (.ireturn, 1) := by decide +kernel
theorem dX7_full_0 : decode cX7_full 0 = .ok (.aload_n 0, 1) := by decide +kernel
theorem dX7_full_1 : decode cX7_full 1 = .ok (.getfield 20, 3) := by decide +kernel
theorem dX7_full_4 : decode cX7_full 4 = .ok (.iconst 2, 1) := by decide +kernel
theorem dX7_full_5 : decode cX7_full 5 = .ok (.dup2, 1) := by decide +kernel
theorem dX7_full_6 : decode cX7_full 6 = .ok (.iaload, 1) := by decide +kernel
theorem dX7_full_7 : decode cX7_full 7 = .ok (.iconst 1, 1) := by decide +kernel
theorem dX7_full_8 : decode cX7_full 8 = .ok (.iadd, 1) := by decide +kernel
theorem dX7_full_9 : decode cX7_full 9 = .ok (.iastore, 1) := by decide +kernel
theorem dX7_full_10 : decode cX7_full 10 = .ok (.bipush (-4), 2) := by decide +kernel
theorem dX7_full_12 : decode cX7_full 12 = .ok (.ireturn, 1) := by decide +kernel
theorem dX7_bits_0 : decode cX7_bits 0 = .ok (.iconst 0, 1) := by decide +kernel
theorem dX7_bits_1 : decode cX7_bits 1 = .ok (.istore_n 1, 1) := by decide +kernel
theorem dX7_bits_2 : decode cX7_bits 2 = .ok (.iload_n 0, 1) := by decide +kernel
theorem dX7_bits_3 : decode cX7_bits 3 = .ok (.istore_n 2, 1) := by decide +kernel
theorem dX7_bits_4 : decode cX7_bits 4 = .ok (.iload_n 2, 1) := by decide +kernel
theorem dX7_bits_5 : decode cX7_bits 5 = .ok (.ifCond .le 16, 3) := by decide +kernel
theorem dX7_bits_8 : decode cX7_bits 8 = .ok (.iload_n 1, 1) := by decide +kernel
theorem dX7_bits_9 : decode cX7_bits 9 = .ok (.iload_n 2, 1) := by decide +kernel
theorem dX7_bits_10 : decode cX7_bits 10 = .ok (.iconst 1, 1) := by decide +kernel
theorem dX7_bits_11 : decode cX7_bits 11 = .ok (.iand, 1) := by decide +kernel
theorem dX7_bits_12 : decode cX7_bits 12 = .ok (.iadd, 1) := by decide +kernel
theorem dX7_bits_13 : decode cX7_bits 13 = .ok (.istore_n 1, 1) := by decide +kernel
theorem dX7_bits_14 : decode cX7_bits 14 = .ok (.iload_n 2, 1) := by decide +kernel
theorem dX7_bits_15 : decode cX7_bits 15 = .ok (.iconst 1, 1) := by decide +kernel
theorem dX7_bits_16 : decode cX7_bits 16 = .ok (.ishr, 1) := by decide +kernel
theorem dX7_bits_17 : decode cX7_bits 17 = .ok (.istore_n 2, 1) := by decide +kernel
theorem dX7_bits_18 : decode cX7_bits 18 = .ok (.goto (-14), 3) := by decide +kernel
theorem dX7_bits_21 : decode cX7_bits 21 = .ok (.iload_n 1, 1) := by decide +kernel
theorem dX7_bits_22 : decode cX7_bits 22 = .ok (.ireturn, 1) := by decide +kernel
theorem dX7_apart_0 : decode cX7_apart 0 = .ok (.iload_n 0, 1) := by decide +kernel
theorem dX7_apart_1 : decode cX7_apart 1 = .ok (.iload_n 1, 1) := by decide +kernel
theorem dX7_apart_2 : decode cX7_apart 2 = .ok (.if_icmp .le 9, 3) := by decide +kernel
theorem dX7_apart_5 : decode cX7_apart 5 = .ok (.iload_n 0, 1) := by decide +kernel
theorem dX7_apart_6 : decode cX7_apart 6 = .ok (.iload_n 1, 1) := by decide +kernel
theorem dX7_apart_7 : decode cX7_apart 7 = .ok (.isub, 1) := by decide +kernel
theorem dX7_apart_8 : decode cX7_apart 8 = .ok (.goto 6, 3) := by decide +kernel
theorem dX7_apart_11 : decode cX7_apart 11 = .ok (.iload_n 1, 1) := by decide +kernel
theorem dX7_apart_12 : decode cX7_apart 12 = .ok (.iload_n 0, 1) := by decide +kernel
theorem dX7_apart_13 : decode cX7_apart 13 = .ok (.isub, 1) := by decide +kernel
theorem dX7_apart_14 : decode cX7_apart 14 = .ok (.ireturn, 1) := by decide +kernel
theorem dX7_begin_0 : decode cX7_begin 0 = .ok (.iconst 0, 1) := by decide +kernel
theorem dX7_begin_1 : decode cX7_begin 1 = .ok (.istore_n 2, 1) := by decide +kernel
theorem dX7_begin_2 : decode cX7_begin 2 = .ok (.iload_n 2, 1) := by decide +kernel
theorem dX7_begin_3 : decode cX7_begin 3 = .ok (.bipush 101, 2) := by decide +kernel
theorem dX7_begin_5 : decode cX7_begin 5 = .ok (.if_icmp .ge 13, 3) := by decide +kernel
theorem dX7_begin_8 : decode cX7_begin 8 = .ok (.aload_n 0, 1) := by decide +kernel
theorem dX7_begin_9 : decode cX7_begin 9 = .ok (.iload_n 2, 1) := by decide +kernel
theorem dX7_begin_10 : decode cX7_begin 10 = .ok (.iconst 0, 1) := by decide +kernel
theorem dX7_begin_11 : decode cX7_begin 11 = .ok (.iastore, 1) := by decide +kernel
theorem dX7_begin_12 : decode cX7_begin 12 = .ok (.iinc 2 1, 3) := by decide +kernel
theorem dX7_begin_15 : decode cX7_begin 15 = .ok (.goto (-13), 3) := by decide +kernel
theorem dX7_begin_18 : decode cX7_begin 18 = .ok (.aload_n 0, 1) := by decide +kernel
theorem dX7_begin_19 : decode cX7_begin 19 = .ok (.iconst 1, 1) := by decide +kernel
theorem dX7_begin_20 : decode cX7_begin 20 = .ok (.iload_n 1, 1) := by decide +kernel
theorem dX7_begin_21 : decode cX7_begin 21 = .ok (.iastore, 1) := by decide +kernel
theorem dX7_begin_22 : decode cX7_begin 22 = .ok (.iconst 0, 1) := by decide +kernel
theorem dX7_begin_23 : decode cX7_begin 23 = .ok (.istore_n 2, 1) := by decide +kernel
theorem dX7_begin_24 : decode cX7_begin 24 = .ok (.iload_n 2, 1) := by decide +kernel
theorem dX7_begin_25 : decode cX7_begin 25 = .ok (.iconst 4, 1) := by decide +kernel
theorem dX7_begin_26 : decode cX7_begin 26 = .ok (.if_icmp .ge 40, 3) := by decide +kernel
theorem dX7_begin_29 : decode cX7_begin 29 = .ok (.aload_n 0, 1) := by decide +kernel
theorem dX7_begin_30 : decode cX7_begin 30 = .ok (.iconst 4, 1) := by decide +kernel
theorem dX7_begin_31 : decode cX7_begin 31 = .ok (.iconst 3, 1) := by decide +kernel
theorem dX7_begin_32 : decode cX7_begin 32 = .ok (.iload_n 2, 1) := by decide +kernel
theorem dX7_begin_33 : decode cX7_begin 33 = .ok (.imul, 1) := by decide +kernel
theorem dX7_begin_34 : decode cX7_begin 34 = .ok (.iadd, 1) := by decide +kernel
theorem dX7_begin_35 : decode cX7_begin 35 = .ok (.iconst 0, 1) := by decide +kernel
theorem dX7_begin_36 : decode cX7_begin 36 = .ok (.iadd, 1) := by decide +kernel
theorem dX7_begin_37 : decode cX7_begin 37 = .ok (.iconst 0, 1) := by decide +kernel
theorem dX7_begin_38 : decode cX7_begin 38 = .ok (.iastore, 1) := by decide +kernel
theorem dX7_begin_39 : decode cX7_begin 39 = .ok (.aload_n 0, 1) := by decide +kernel
theorem dX7_begin_40 : decode cX7_begin 40 = .ok (.iconst 4, 1) := by decide +kernel
theorem dX7_begin_41 : decode cX7_begin 41 = .ok (.iconst 3, 1) := by decide +kernel
theorem dX7_begin_42 : decode cX7_begin 42 = .ok (.iload_n 2, 1) := by decide +kernel
theorem dX7_begin_43 : decode cX7_begin 43 = .ok (.imul, 1) := by decide +kernel
theorem dX7_begin_44 : decode cX7_begin 44 = .ok (.iadd, 1) := by decide +kernel
theorem dX7_begin_45 : decode cX7_begin 45 = .ok (.iconst 1, 1) := by decide +kernel
theorem dX7_begin_46 : decode cX7_begin 46 = .ok (.iadd, 1) := by decide +kernel
theorem dX7_begin_47 : decode cX7_begin 47 = .ok (.bipush 9, 2) := by decide +kernel
theorem dX7_begin_49 : decode cX7_begin 49 = .ok (.iastore, 1) := by decide +kernel
theorem dX7_begin_50 : decode cX7_begin 50 = .ok (.aload_n 0, 1) := by decide +kernel
theorem dX7_begin_51 : decode cX7_begin 51 = .ok (.iconst 4, 1) := by decide +kernel
theorem dX7_begin_52 : decode cX7_begin 52 = .ok (.iconst 3, 1) := by decide +kernel
theorem dX7_begin_53 : decode cX7_begin 53 = .ok (.iload_n 2, 1) := by decide +kernel
theorem dX7_begin_54 : decode cX7_begin 54 = .ok (.imul, 1) := by decide +kernel
theorem dX7_begin_55 : decode cX7_begin 55 = .ok (.iadd, 1) := by decide +kernel
theorem dX7_begin_56 : decode cX7_begin 56 = .ok (.iconst 2, 1) := by decide +kernel
theorem dX7_begin_57 : decode cX7_begin 57 = .ok (.iadd, 1) := by decide +kernel
theorem dX7_begin_58 : decode cX7_begin 58 = .ok (.iconst 4, 1) := by decide +kernel
theorem dX7_begin_59 : decode cX7_begin 59 = .ok (.iastore, 1) := by decide +kernel
theorem dX7_begin_60 : decode cX7_begin 60 = .ok (.iinc 2 1, 3) := by decide +kernel
theorem dX7_begin_63 : decode cX7_begin 63 = .ok (.goto (-39), 3) := by decide +kernel
theorem dX7_begin_66 : decode cX7_begin 66 = .ok (.return_, 1) := by decide +kernel
theorem dX7_notes_0 : decode cX7_notes 0 = .ok (.aload_n 0, 1) := by decide +kernel
theorem dX7_notes_1 : decode cX7_notes 1 = .ok (.getfield 7, 3) := by decide +kernel
theorem dX7_notes_4 : decode cX7_notes 4 = .ok (.iconst 0, 1) := by decide +kernel
theorem dX7_notes_5 : decode cX7_notes 5 = .ok (.iaload, 1) := by decide +kernel
theorem dX7_notes_6 : decode cX7_notes 6 = .ok (.ireturn, 1) := by decide +kernel
theorem dX7_isNote_0 : decode cX7_isNote 0 = .ok (.iload_n 1, 1) := by decide +kernel
theorem dX7_isNote_1 : decode cX7_isNote 1 = .ok (.i2l, 1) := by decide +kernel
theorem dX7_isNote_2 : decode cX7_isNote 2 = .ok (.lconst 0, 1) := by decide +kernel
theorem dX7_isNote_3 : decode cX7_isNote 3 = .ok (.aload_n 0, 1) := by decide +kernel
theorem dX7_isNote_4 : decode cX7_isNote 4 = .ok (.invokevirtual 64, 3) := by decide +kernel
theorem dX7_isNote_7 : decode cX7_isNote 7 = .ok (.iconst 1, 1) := by decide +kernel
theorem dX7_isNote_8 : decode cX7_isNote 8 = .ok (.isub, 1) := by decide +kernel
theorem dX7_isNote_9 : decode cX7_isNote 9 = .ok (.i2l, 1) := by decide +kernel
theorem dX7_isNote_10 : decode cX7_isNote 10 = .ok (.invokestatic 68, 3) := by decide +kernel
theorem dX7_isNote_13 : decode cX7_isNote 13 = .ok (.ireturn, 1) := by decide +kernel
theorem dX7_isHand_0 : decode cX7_isHand 0 = .ok (.iload_n 0, 1) := by decide +kernel
theorem dX7_isHand_1 : decode cX7_isHand 1 = .ok (.i2l, 1) := by decide +kernel
theorem dX7_isHand_2 : decode cX7_isHand 2 = .ok (.lconst 0, 1) := by decide +kernel
theorem dX7_isHand_3 : decode cX7_isHand 3 = .ok (.ldc2_w 72, 3) := by decide +kernel
theorem dX7_isHand_6 : decode cX7_isHand 6 = .ok (.invokestatic 68, 3) := by decide +kernel
theorem dX7_isHand_9 : decode cX7_isHand 9 = .ok (.ireturn, 1) := by decide +kernel
theorem dX7_get_0 : decode cX7_get 0 = .ok (.aload_n 0, 1) := by decide +kernel
theorem dX7_get_1 : decode cX7_get 1 = .ok (.getfield 7, 3) := by decide +kernel
theorem dX7_get_4 : decode cX7_get 4 = .ok (.bipush 16, 2) := by decide +kernel
theorem dX7_get_6 : decode cX7_get 6 = .ok (.bipush 7, 2) := by decide +kernel
theorem dX7_get_8 : decode cX7_get 8 = .ok (.iload_n 1, 1) := by decide +kernel
theorem dX7_get_9 : decode cX7_get 9 = .ok (.imul, 1) := by decide +kernel
theorem dX7_get_10 : decode cX7_get 10 = .ok (.iadd, 1) := by decide +kernel
theorem dX7_get_11 : decode cX7_get 11 = .ok (.iload_n 2, 1) := by decide +kernel
theorem dX7_get_12 : decode cX7_get 12 = .ok (.iadd, 1) := by decide +kernel
theorem dX7_get_13 : decode cX7_get 13 = .ok (.iaload, 1) := by decide +kernel
theorem dX7_get_14 : decode cX7_get 14 = .ok (.ireturn, 1) := by decide +kernel
theorem dX7_setHand_0 : decode cX7_setHand 0 = .ok (.aload_n 0, 1) := by decide +kernel
theorem dX7_setHand_1 : decode cX7_setHand 1 = .ok (.getfield 7, 3) := by decide +kernel
theorem dX7_setHand_4 : decode cX7_setHand 4 = .ok (.bipush 16, 2) := by decide +kernel
theorem dX7_setHand_6 : decode cX7_setHand 6 = .ok (.bipush 7, 2) := by decide +kernel
theorem dX7_setHand_8 : decode cX7_setHand 8 = .ok (.iload_n 1, 1) := by decide +kernel
theorem dX7_setHand_9 : decode cX7_setHand 9 = .ok (.imul, 1) := by decide +kernel
theorem dX7_setHand_10 : decode cX7_setHand 10 = .ok (.iadd, 1) := by decide +kernel
theorem dX7_setHand_11 : decode cX7_setHand 11 = .ok (.iconst 5, 1) := by decide +kernel
theorem dX7_setHand_12 : decode cX7_setHand 12 = .ok (.iadd, 1) := by decide +kernel
theorem dX7_setHand_13 : decode cX7_setHand 13 = .ok (.iload_n 2, 1) := by decide +kernel
theorem dX7_setHand_14 : decode cX7_setHand 14 = .ok (.iastore, 1) := by decide +kernel
theorem dX7_setHand_15 : decode cX7_setHand 15 = .ok (.return_, 1) := by decide +kernel
theorem dX7_piece_0 : decode cX7_piece 0 = .ok (.iload_n 1, 1) := by decide +kernel
theorem dX7_piece_1 : decode cX7_piece 1 = .ok (.i2l, 1) := by decide +kernel
theorem dX7_piece_2 : decode cX7_piece 2 = .ok (.lconst 0, 1) := by decide +kernel
theorem dX7_piece_3 : decode cX7_piece 3 = .ok (.ldc2_w 74, 3) := by decide +kernel
theorem dX7_piece_6 : decode cX7_piece 6 = .ok (.invokestatic 68, 3) := by decide +kernel
theorem dX7_piece_9 : decode cX7_piece 9 = .ok (.ifCond .ne 10, 3) := by decide +kernel
theorem dX7_piece_12 : decode cX7_piece 12 = .ok (.aload_n 0, 1) := by decide +kernel
theorem dX7_piece_13 : decode cX7_piece 13 = .ok (.bipush (-2), 2) := by decide +kernel
theorem dX7_piece_15 : decode cX7_piece 15 = .ok (.invokevirtual 76, 3) := by decide +kernel
theorem dX7_piece_18 : decode cX7_piece 18 = .ok (.ireturn, 1) := by decide +kernel
theorem dX7_piece_19 : decode cX7_piece 19 = .ok (.aload_n 0, 1) := by decide +kernel
theorem dX7_piece_20 : decode cX7_piece 20 = .ok (.invokevirtual 64, 3) := by decide +kernel
theorem dX7_piece_23 : decode cX7_piece 23 = .ok (.istore_n 2, 1) := by decide +kernel
theorem dX7_piece_24 : decode cX7_piece 24 = .ok (.aload_n 0, 1) := by decide +kernel
theorem dX7_piece_25 : decode cX7_piece 25 = .ok (.getfield 7, 3) := by decide +kernel
theorem dX7_piece_28 : decode cX7_piece 28 = .ok (.iload_n 1, 1) := by decide +kernel
theorem dX7_piece_29 : decode cX7_piece 29 = .ok (.invokestatic 60, 3) := by decide +kernel
theorem dX7_piece_32 : decode cX7_piece 32 = .ok (.iload_n 2, 1) := by decide +kernel
theorem dX7_piece_33 : decode cX7_piece 33 = .ok (.ireturn, 1) := by decide +kernel
theorem dX7_layHand_0 : decode cX7_layHand 0 = .ok (.aload_n 0, 1) := by decide +kernel
theorem dX7_layHand_1 : decode cX7_layHand 1 = .ok (.iconst 4, 1) := by decide +kernel
theorem dX7_layHand_2 : decode cX7_layHand 2 = .ok (.iconst 3, 1) := by decide +kernel
theorem dX7_layHand_3 : decode cX7_layHand 3 = .ok (.iload_n 1, 1) := by decide +kernel
theorem dX7_layHand_4 : decode cX7_layHand 4 = .ok (.imul, 1) := by decide +kernel
theorem dX7_layHand_5 : decode cX7_layHand 5 = .ok (.iadd, 1) := by decide +kernel
theorem dX7_layHand_6 : decode cX7_layHand 6 = .ok (.iconst 0, 1) := by decide +kernel
theorem dX7_layHand_7 : decode cX7_layHand 7 = .ok (.iadd, 1) := by decide +kernel
theorem dX7_layHand_8 : decode cX7_layHand 8 = .ok (.iload_n 2, 1) := by decide +kernel
theorem dX7_layHand_9 : decode cX7_layHand 9 = .ok (.iastore, 1) := by decide +kernel
theorem dX7_layHand_10 : decode cX7_layHand 10 = .ok (.aload_n 0, 1) := by decide +kernel
theorem dX7_layHand_11 : decode cX7_layHand 11 = .ok (.iconst 4, 1) := by decide +kernel
theorem dX7_layHand_12 : decode cX7_layHand 12 = .ok (.iconst 3, 1) := by decide +kernel
theorem dX7_layHand_13 : decode cX7_layHand 13 = .ok (.iload_n 1, 1) := by decide +kernel
theorem dX7_layHand_14 : decode cX7_layHand 14 = .ok (.imul, 1) := by decide +kernel
theorem dX7_layHand_15 : decode cX7_layHand 15 = .ok (.iadd, 1) := by decide +kernel
theorem dX7_layHand_16 : decode cX7_layHand 16 = .ok (.iconst 1, 1) := by decide +kernel
theorem dX7_layHand_17 : decode cX7_layHand 17 = .ok (.iadd, 1) := by decide +kernel
theorem dX7_layHand_18 : decode cX7_layHand 18 = .ok (.iload_n 3, 1) := by decide +kernel
theorem dX7_layHand_19 : decode cX7_layHand 19 = .ok (.iastore, 1) := by decide +kernel
theorem dX7_layHand_20 : decode cX7_layHand 20 = .ok (.aload_n 0, 1) := by decide +kernel
theorem dX7_layHand_21 : decode cX7_layHand 21 = .ok (.iconst 4, 1) := by decide +kernel
theorem dX7_layHand_22 : decode cX7_layHand 22 = .ok (.iconst 3, 1) := by decide +kernel
theorem dX7_layHand_23 : decode cX7_layHand 23 = .ok (.iload_n 1, 1) := by decide +kernel
theorem dX7_layHand_24 : decode cX7_layHand 24 = .ok (.imul, 1) := by decide +kernel
theorem dX7_layHand_25 : decode cX7_layHand 25 = .ok (.iadd, 1) := by decide +kernel
theorem dX7_layHand_26 : decode cX7_layHand 26 = .ok (.iconst 2, 1) := by decide +kernel
theorem dX7_layHand_27 : decode cX7_layHand 27 = .ok (.iadd, 1) := by decide +kernel
theorem dX7_layHand_28 : decode cX7_layHand 28 = .ok (.iload 4, 2) := by decide +kernel
theorem dX7_layHand_30 : decode cX7_layHand 30 = .ok (.iastore, 1) := by decide +kernel
theorem dX7_layHand_31 : decode cX7_layHand 31 = .ok (.return_, 1) := by decide +kernel
theorem dX7_hand_0 : decode cX7_hand 0 = .ok (.iload_n 1, 1) := by decide +kernel
theorem dX7_hand_1 : decode cX7_hand 1 = .ok (.invokestatic 80, 3) := by decide +kernel
theorem dX7_hand_4 : decode cX7_hand 4 = .ok (.ifCond .eq 40, 3) := by decide +kernel
theorem dX7_hand_7 : decode cX7_hand 7 = .ok (.iload_n 2, 1) := by decide +kernel
theorem dX7_hand_8 : decode cX7_hand 8 = .ok (.i2l, 1) := by decide +kernel
theorem dX7_hand_9 : decode cX7_hand 9 = .ok (.lconst 0, 1) := by decide +kernel
theorem dX7_hand_10 : decode cX7_hand 10 = .ok (.ldc2_w 84, 3) := by decide +kernel
theorem dX7_hand_13 : decode cX7_hand 13 = .ok (.invokestatic 68, 3) := by decide +kernel
theorem dX7_hand_16 : decode cX7_hand 16 = .ok (.ifCond .eq 28, 3) := by decide +kernel
theorem dX7_hand_19 : decode cX7_hand 19 = .ok (.iload_n 3, 1) := by decide +kernel
theorem dX7_hand_20 : decode cX7_hand 20 = .ok (.i2l, 1) := by decide +kernel
theorem dX7_hand_21 : decode cX7_hand 21 = .ok (.lconst 0, 1) := by decide +kernel
theorem dX7_hand_22 : decode cX7_hand 22 = .ok (.ldc2_w 86, 3) := by decide +kernel
theorem dX7_hand_25 : decode cX7_hand 25 = .ok (.invokestatic 68, 3) := by decide +kernel
theorem dX7_hand_28 : decode cX7_hand 28 = .ok (.ifCond .eq 16, 3) := by decide +kernel
theorem dX7_hand_31 : decode cX7_hand 31 = .ok (.iload 4, 2) := by decide +kernel
theorem dX7_hand_33 : decode cX7_hand 33 = .ok (.i2l, 1) := by decide +kernel
theorem dX7_hand_34 : decode cX7_hand 34 = .ok (.lconst 1, 1) := by decide +kernel
theorem dX7_hand_35 : decode cX7_hand 35 = .ok (.ldc2_w 74, 3) := by decide +kernel
theorem dX7_hand_38 : decode cX7_hand 38 = .ok (.invokestatic 68, 3) := by decide +kernel
theorem dX7_hand_41 : decode cX7_hand 41 = .ok (.ifCond .ne 10, 3) := by decide +kernel
theorem dX7_hand_44 : decode cX7_hand 44 = .ok (.aload_n 0, 1) := by decide +kernel
theorem dX7_hand_45 : decode cX7_hand 45 = .ok (.bipush (-2), 2) := by decide +kernel
theorem dX7_hand_47 : decode cX7_hand 47 = .ok (.invokevirtual 76, 3) := by decide +kernel
theorem dX7_hand_50 : decode cX7_hand 50 = .ok (.ireturn, 1) := by decide +kernel
theorem dX7_hand_51 : decode cX7_hand 51 = .ok (.aload_n 0, 1) := by decide +kernel
theorem dX7_hand_52 : decode cX7_hand 52 = .ok (.getfield 7, 3) := by decide +kernel
theorem dX7_hand_55 : decode cX7_hand 55 = .ok (.iconst 4, 1) := by decide +kernel
theorem dX7_hand_56 : decode cX7_hand 56 = .ok (.iconst 3, 1) := by decide +kernel
theorem dX7_hand_57 : decode cX7_hand 57 = .ok (.iload_n 1, 1) := by decide +kernel
theorem dX7_hand_58 : decode cX7_hand 58 = .ok (.imul, 1) := by decide +kernel
theorem dX7_hand_59 : decode cX7_hand 59 = .ok (.iadd, 1) := by decide +kernel
theorem dX7_hand_60 : decode cX7_hand 60 = .ok (.iconst 0, 1) := by decide +kernel
theorem dX7_hand_61 : decode cX7_hand 61 = .ok (.iadd, 1) := by decide +kernel
theorem dX7_hand_62 : decode cX7_hand 62 = .ok (.iaload, 1) := by decide +kernel
theorem dX7_hand_63 : decode cX7_hand 63 = .ok (.istore 5, 2) := by decide +kernel
theorem dX7_hand_65 : decode cX7_hand 65 = .ok (.aload_n 0, 1) := by decide +kernel
theorem dX7_hand_66 : decode cX7_hand 66 = .ok (.getfield 7, 3) := by decide +kernel
theorem dX7_hand_69 : decode cX7_hand 69 = .ok (.iload_n 1, 1) := by decide +kernel
theorem dX7_hand_70 : decode cX7_hand 70 = .ok (.iload_n 2, 1) := by decide +kernel
theorem dX7_hand_71 : decode cX7_hand 71 = .ok (.iload_n 3, 1) := by decide +kernel
theorem dX7_hand_72 : decode cX7_hand 72 = .ok (.iload 4, 2) := by decide +kernel
theorem dX7_hand_74 : decode cX7_hand 74 = .ok (.invokestatic 88, 3) := by decide +kernel
theorem dX7_hand_77 : decode cX7_hand 77 = .ok (.iload 5, 2) := by decide +kernel
theorem dX7_hand_79 : decode cX7_hand 79 = .ok (.ireturn, 1) := by decide +kernel
theorem dX7_layNote_0 : decode cX7_layNote 0 = .ok (.bipush 16, 2) := by decide +kernel
theorem dX7_layNote_2 : decode cX7_layNote 2 = .ok (.bipush 7, 2) := by decide +kernel
theorem dX7_layNote_4 : decode cX7_layNote 4 = .ok (.aload_n 0, 1) := by decide +kernel
theorem dX7_layNote_5 : decode cX7_layNote 5 = .ok (.iconst 0, 1) := by decide +kernel
theorem dX7_layNote_6 : decode cX7_layNote 6 = .ok (.iaload, 1) := by decide +kernel
theorem dX7_layNote_7 : decode cX7_layNote 7 = .ok (.imul, 1) := by decide +kernel
theorem dX7_layNote_8 : decode cX7_layNote 8 = .ok (.iadd, 1) := by decide +kernel
theorem dX7_layNote_9 : decode cX7_layNote 9 = .ok (.istore 7, 2) := by decide +kernel
theorem dX7_layNote_11 : decode cX7_layNote 11 = .ok (.aload_n 0, 1) := by decide +kernel
theorem dX7_layNote_12 : decode cX7_layNote 12 = .ok (.iload 7, 2) := by decide +kernel
theorem dX7_layNote_14 : decode cX7_layNote 14 = .ok (.iconst 0, 1) := by decide +kernel
theorem dX7_layNote_15 : decode cX7_layNote 15 = .ok (.iadd, 1) := by decide +kernel
theorem dX7_layNote_16 : decode cX7_layNote 16 = .ok (.iload_n 1, 1) := by decide +kernel
theorem dX7_layNote_17 : decode cX7_layNote 17 = .ok (.iastore, 1) := by decide +kernel
theorem dX7_layNote_18 : decode cX7_layNote 18 = .ok (.aload_n 0, 1) := by decide +kernel
theorem dX7_layNote_19 : decode cX7_layNote 19 = .ok (.iload 7, 2) := by decide +kernel
theorem dX7_layNote_21 : decode cX7_layNote 21 = .ok (.iconst 1, 1) := by decide +kernel
theorem dX7_layNote_22 : decode cX7_layNote 22 = .ok (.iadd, 1) := by decide +kernel
theorem dX7_layNote_23 : decode cX7_layNote 23 = .ok (.iload_n 2, 1) := by decide +kernel
theorem dX7_layNote_24 : decode cX7_layNote 24 = .ok (.iastore, 1) := by decide +kernel
theorem dX7_layNote_25 : decode cX7_layNote 25 = .ok (.aload_n 0, 1) := by decide +kernel
theorem dX7_layNote_26 : decode cX7_layNote 26 = .ok (.iload 7, 2) := by decide +kernel
theorem dX7_layNote_28 : decode cX7_layNote 28 = .ok (.iconst 2, 1) := by decide +kernel
theorem dX7_layNote_29 : decode cX7_layNote 29 = .ok (.iadd, 1) := by decide +kernel
theorem dX7_layNote_30 : decode cX7_layNote 30 = .ok (.iload_n 3, 1) := by decide +kernel
theorem dX7_layNote_31 : decode cX7_layNote 31 = .ok (.iastore, 1) := by decide +kernel
theorem dX7_layNote_32 : decode cX7_layNote 32 = .ok (.aload_n 0, 1) := by decide +kernel
theorem dX7_layNote_33 : decode cX7_layNote 33 = .ok (.iload 7, 2) := by decide +kernel
theorem dX7_layNote_35 : decode cX7_layNote 35 = .ok (.iconst 3, 1) := by decide +kernel
theorem dX7_layNote_36 : decode cX7_layNote 36 = .ok (.iadd, 1) := by decide +kernel
theorem dX7_layNote_37 : decode cX7_layNote 37 = .ok (.iload 4, 2) := by decide +kernel
theorem dX7_layNote_39 : decode cX7_layNote 39 = .ok (.iastore, 1) := by decide +kernel
theorem dX7_layNote_40 : decode cX7_layNote 40 = .ok (.aload_n 0, 1) := by decide +kernel
theorem dX7_layNote_41 : decode cX7_layNote 41 = .ok (.iload 7, 2) := by decide +kernel
theorem dX7_layNote_43 : decode cX7_layNote 43 = .ok (.iconst 4, 1) := by decide +kernel
theorem dX7_layNote_44 : decode cX7_layNote 44 = .ok (.iadd, 1) := by decide +kernel
theorem dX7_layNote_45 : decode cX7_layNote 45 = .ok (.iload 5, 2) := by decide +kernel
theorem dX7_layNote_47 : decode cX7_layNote 47 = .ok (.iastore, 1) := by decide +kernel
theorem dX7_layNote_48 : decode cX7_layNote 48 = .ok (.aload_n 0, 1) := by decide +kernel
theorem dX7_layNote_49 : decode cX7_layNote 49 = .ok (.iload 7, 2) := by decide +kernel
theorem dX7_layNote_51 : decode cX7_layNote 51 = .ok (.iconst 5, 1) := by decide +kernel
theorem dX7_layNote_52 : decode cX7_layNote 52 = .ok (.iadd, 1) := by decide +kernel
theorem dX7_layNote_53 : decode cX7_layNote 53 = .ok (.iload 6, 2) := by decide +kernel
theorem dX7_layNote_55 : decode cX7_layNote 55 = .ok (.iastore, 1) := by decide +kernel
theorem dX7_layNote_56 : decode cX7_layNote 56 = .ok (.aload_n 0, 1) := by decide +kernel
theorem dX7_layNote_57 : decode cX7_layNote 57 = .ok (.iload 7, 2) := by decide +kernel
theorem dX7_layNote_59 : decode cX7_layNote 59 = .ok (.bipush 6, 2) := by decide +kernel
theorem dX7_layNote_61 : decode cX7_layNote 61 = .ok (.iadd, 1) := by decide +kernel
theorem dX7_layNote_62 : decode cX7_layNote 62 = .ok (.iconst (-1), 1) := by decide +kernel
theorem dX7_layNote_63 : decode cX7_layNote 63 = .ok (.iastore, 1) := by decide +kernel
theorem dX7_layNote_64 : decode cX7_layNote 64 = .ok (.aload_n 0, 1) := by decide +kernel
theorem dX7_layNote_65 : decode cX7_layNote 65 = .ok (.iconst 0, 1) := by decide +kernel
theorem dX7_layNote_66 : decode cX7_layNote 66 = .ok (.dup2, 1) := by decide +kernel
theorem dX7_layNote_67 : decode cX7_layNote 67 = .ok (.iaload, 1) := by decide +kernel
theorem dX7_layNote_68 : decode cX7_layNote 68 = .ok (.iconst 1, 1) := by decide +kernel
theorem dX7_layNote_69 : decode cX7_layNote 69 = .ok (.iadd, 1) := by decide +kernel
theorem dX7_layNote_70 : decode cX7_layNote 70 = .ok (.iastore, 1) := by decide +kernel
theorem dX7_layNote_71 : decode cX7_layNote 71 = .ok (.return_, 1) := by decide +kernel
theorem dX7_note_0 : decode cX7_note 0 = .ok (.iload_n 1, 1) := by decide +kernel
theorem dX7_note_1 : decode cX7_note 1 = .ok (.i2l, 1) := by decide +kernel
theorem dX7_note_2 : decode cX7_note 2 = .ok (.lconst 0, 1) := by decide +kernel
theorem dX7_note_3 : decode cX7_note 3 = .ok (.ldc2_w 92, 3) := by decide +kernel
theorem dX7_note_6 : decode cX7_note 6 = .ok (.invokestatic 68, 3) := by decide +kernel
theorem dX7_note_9 : decode cX7_note 9 = .ok (.ifCond .eq 74, 3) := by decide +kernel
theorem dX7_note_12 : decode cX7_note 12 = .ok (.iload_n 2, 1) := by decide +kernel
theorem dX7_note_13 : decode cX7_note 13 = .ok (.i2l, 1) := by decide +kernel
theorem dX7_note_14 : decode cX7_note 14 = .ok (.lconst 0, 1) := by decide +kernel
theorem dX7_note_15 : decode cX7_note 15 = .ok (.ldc2_w 94, 3) := by decide +kernel
theorem dX7_note_18 : decode cX7_note 18 = .ok (.invokestatic 68, 3) := by decide +kernel
theorem dX7_note_21 : decode cX7_note 21 = .ok (.ifCond .eq 62, 3) := by decide +kernel
theorem dX7_note_24 : decode cX7_note 24 = .ok (.iload_n 3, 1) := by decide +kernel
theorem dX7_note_25 : decode cX7_note 25 = .ok (.i2l, 1) := by decide +kernel
theorem dX7_note_26 : decode cX7_note 26 = .ok (.lconst 1, 1) := by decide +kernel
theorem dX7_note_27 : decode cX7_note 27 = .ok (.ldc2_w 96, 3) := by decide +kernel
theorem dX7_note_30 : decode cX7_note 30 = .ok (.invokestatic 68, 3) := by decide +kernel
theorem dX7_note_33 : decode cX7_note 33 = .ok (.ifCond .eq 50, 3) := by decide +kernel
theorem dX7_note_36 : decode cX7_note 36 = .ok (.iload_n 2, 1) := by decide +kernel
theorem dX7_note_37 : decode cX7_note 37 = .ok (.iload_n 3, 1) := by decide +kernel
theorem dX7_note_38 : decode cX7_note 38 = .ok (.iadd, 1) := by decide +kernel
theorem dX7_note_39 : decode cX7_note 39 = .ok (.bipush 64, 2) := by decide +kernel
theorem dX7_note_41 : decode cX7_note 41 = .ok (.if_icmp .gt 42, 3) := by decide +kernel
theorem dX7_note_44 : decode cX7_note 44 = .ok (.iload 4, 2) := by decide +kernel
theorem dX7_note_46 : decode cX7_note 46 = .ok (.i2l, 1) := by decide +kernel
theorem dX7_note_47 : decode cX7_note 47 = .ok (.lconst 0, 1) := by decide +kernel
theorem dX7_note_48 : decode cX7_note 48 = .ok (.lconst 1, 1) := by decide +kernel
theorem dX7_note_49 : decode cX7_note 49 = .ok (.invokestatic 68, 3) := by decide +kernel
theorem dX7_note_52 : decode cX7_note 52 = .ok (.ifCond .eq 31, 3) := by decide +kernel
theorem dX7_note_55 : decode cX7_note 55 = .ok (.iload 5, 2) := by decide +kernel
theorem dX7_note_57 : decode cX7_note 57 = .ok (.i2l, 1) := by decide +kernel
theorem dX7_note_58 : decode cX7_note 58 = .ok (.lconst 0, 1) := by decide +kernel
theorem dX7_note_59 : decode cX7_note 59 = .ok (.ldc2_w 74, 3) := by decide +kernel
theorem dX7_note_62 : decode cX7_note 62 = .ok (.invokestatic 68, 3) := by decide +kernel
theorem dX7_note_65 : decode cX7_note 65 = .ok (.ifCond .eq 18, 3) := by decide +kernel
theorem dX7_note_68 : decode cX7_note 68 = .ok (.iload 6, 2) := by decide +kernel
theorem dX7_note_70 : decode cX7_note 70 = .ok (.i2l, 1) := by decide +kernel
theorem dX7_note_71 : decode cX7_note 71 = .ok (.ldc2_w 98, 3) := by decide +kernel
theorem dX7_note_74 : decode cX7_note 74 = .ok (.ldc2_w 72, 3) := by decide +kernel
theorem dX7_note_77 : decode cX7_note 77 = .ok (.invokestatic 68, 3) := by decide +kernel
theorem dX7_note_80 : decode cX7_note 80 = .ok (.ifCond .ne 10, 3) := by decide +kernel
theorem dX7_note_83 : decode cX7_note 83 = .ok (.aload_n 0, 1) := by decide +kernel
theorem dX7_note_84 : decode cX7_note 84 = .ok (.bipush (-2), 2) := by decide +kernel
theorem dX7_note_86 : decode cX7_note 86 = .ok (.invokevirtual 76, 3) := by decide +kernel
theorem dX7_note_89 : decode cX7_note 89 = .ok (.ireturn, 1) := by decide +kernel
theorem dX7_note_90 : decode cX7_note 90 = .ok (.aload_n 0, 1) := by decide +kernel
theorem dX7_note_91 : decode cX7_note 91 = .ok (.invokevirtual 64, 3) := by decide +kernel
theorem dX7_note_94 : decode cX7_note 94 = .ok (.bipush 12, 2) := by decide +kernel
theorem dX7_note_96 : decode cX7_note 96 = .ok (.if_icmp .ne 8, 3) := by decide +kernel
theorem dX7_note_99 : decode cX7_note 99 = .ok (.aload_n 0, 1) := by decide +kernel
theorem dX7_note_100 : decode cX7_note 100 = .ok (.invokevirtual 100, 3) := by decide +kernel
theorem dX7_note_103 : decode cX7_note 103 = .ok (.ireturn, 1) := by decide +kernel
theorem dX7_note_104 : decode cX7_note 104 = .ok (.aload_n 0, 1) := by decide +kernel
theorem dX7_note_105 : decode cX7_note 105 = .ok (.getfield 7, 3) := by decide +kernel
theorem dX7_note_108 : decode cX7_note 108 = .ok (.iload_n 1, 1) := by decide +kernel
theorem dX7_note_109 : decode cX7_note 109 = .ok (.iload_n 2, 1) := by decide +kernel
theorem dX7_note_110 : decode cX7_note 110 = .ok (.iload_n 3, 1) := by decide +kernel
theorem dX7_note_111 : decode cX7_note 111 = .ok (.iload 4, 2) := by decide +kernel
theorem dX7_note_113 : decode cX7_note 113 = .ok (.iload 5, 2) := by decide +kernel
theorem dX7_note_115 : decode cX7_note 115 = .ok (.iload 6, 2) := by decide +kernel
theorem dX7_note_117 : decode cX7_note 117 = .ok (.invokestatic 103, 3) := by decide +kernel
theorem dX7_note_120 : decode cX7_note 120 = .ok (.aload_n 0, 1) := by decide +kernel
theorem dX7_note_121 : decode cX7_note 121 = .ok (.getfield 7, 3) := by decide +kernel
theorem dX7_note_124 : decode cX7_note 124 = .ok (.bipush 100, 2) := by decide +kernel
theorem dX7_note_126 : decode cX7_note 126 = .ok (.iconst 0, 1) := by decide +kernel
theorem dX7_note_127 : decode cX7_note 127 = .ok (.iastore, 1) := by decide +kernel
theorem dX7_note_128 : decode cX7_note 128 = .ok (.aload_n 0, 1) := by decide +kernel
theorem dX7_note_129 : decode cX7_note 129 = .ok (.invokevirtual 64, 3) := by decide +kernel
theorem dX7_note_132 : decode cX7_note 132 = .ok (.iconst 1, 1) := by decide +kernel
theorem dX7_note_133 : decode cX7_note 133 = .ok (.isub, 1) := by decide +kernel
theorem dX7_note_134 : decode cX7_note 134 = .ok (.ireturn, 1) := by decide +kernel
theorem dX7_kindOf_0 : decode cX7_kindOf 0 = .ok (.aload_n 0, 1) := by decide +kernel
theorem dX7_kindOf_1 : decode cX7_kindOf 1 = .ok (.getfield 7, 3) := by decide +kernel
theorem dX7_kindOf_4 : decode cX7_kindOf 4 = .ok (.iconst 4, 1) := by decide +kernel
theorem dX7_kindOf_5 : decode cX7_kindOf 5 = .ok (.iconst 3, 1) := by decide +kernel
theorem dX7_kindOf_6 : decode cX7_kindOf 6 = .ok (.iload_n 1, 1) := by decide +kernel
theorem dX7_kindOf_7 : decode cX7_kindOf 7 = .ok (.imul, 1) := by decide +kernel
theorem dX7_kindOf_8 : decode cX7_kindOf 8 = .ok (.iadd, 1) := by decide +kernel
theorem dX7_kindOf_9 : decode cX7_kindOf 9 = .ok (.iconst 0, 1) := by decide +kernel
theorem dX7_kindOf_10 : decode cX7_kindOf 10 = .ok (.iadd, 1) := by decide +kernel
theorem dX7_kindOf_11 : decode cX7_kindOf 11 = .ok (.iaload, 1) := by decide +kernel
theorem dX7_kindOf_12 : decode cX7_kindOf 12 = .ok (.ireturn, 1) := by decide +kernel
theorem dX7_reaches_0 : decode cX7_reaches 0 = .ok (.aload_n 0, 1) := by decide +kernel
theorem dX7_reaches_1 : decode cX7_reaches 1 = .ok (.getfield 7, 3) := by decide +kernel
theorem dX7_reaches_4 : decode cX7_reaches 4 = .ok (.iconst 4, 1) := by decide +kernel
theorem dX7_reaches_5 : decode cX7_reaches 5 = .ok (.iconst 3, 1) := by decide +kernel
theorem dX7_reaches_6 : decode cX7_reaches 6 = .ok (.iload_n 1, 1) := by decide +kernel
theorem dX7_reaches_7 : decode cX7_reaches 7 = .ok (.imul, 1) := by decide +kernel
theorem dX7_reaches_8 : decode cX7_reaches 8 = .ok (.iadd, 1) := by decide +kernel
theorem dX7_reaches_9 : decode cX7_reaches 9 = .ok (.iconst 1, 1) := by decide +kernel
theorem dX7_reaches_10 : decode cX7_reaches 10 = .ok (.iadd, 1) := by decide +kernel
theorem dX7_reaches_11 : decode cX7_reaches 11 = .ok (.iaload, 1) := by decide +kernel
theorem dX7_reaches_12 : decode cX7_reaches 12 = .ok (.istore_n 2, 1) := by decide +kernel
theorem dX7_reaches_13 : decode cX7_reaches 13 = .ok (.aload_n 0, 1) := by decide +kernel
theorem dX7_reaches_14 : decode cX7_reaches 14 = .ok (.iload_n 1, 1) := by decide +kernel
theorem dX7_reaches_15 : decode cX7_reaches 15 = .ok (.invokevirtual 107, 3) := by decide +kernel
theorem dX7_reaches_18 : decode cX7_reaches 18 = .ok (.iconst 3, 1) := by decide +kernel
theorem dX7_reaches_19 : decode cX7_reaches 19 = .ok (.if_icmp .eq 12, 3) := by decide +kernel
theorem dX7_reaches_22 : decode cX7_reaches 22 = .ok (.aload_n 0, 1) := by decide +kernel
theorem dX7_reaches_23 : decode cX7_reaches 23 = .ok (.iload_n 1, 1) := by decide +kernel
theorem dX7_reaches_24 : decode cX7_reaches 24 = .ok (.invokevirtual 107, 3) := by decide +kernel
theorem dX7_reaches_27 : decode cX7_reaches 27 = .ok (.iconst 5, 1) := by decide +kernel
theorem dX7_reaches_28 : decode cX7_reaches 28 = .ok (.if_icmp .ne 7, 3) := by decide +kernel
theorem dX7_reaches_31 : decode cX7_reaches 31 = .ok (.iconst 1, 1) := by decide +kernel
theorem dX7_reaches_32 : decode cX7_reaches 32 = .ok (.goto 4, 3) := by decide +kernel
theorem dX7_reaches_35 : decode cX7_reaches 35 = .ok (.iconst 0, 1) := by decide +kernel
theorem dX7_reaches_36 : decode cX7_reaches 36 = .ok (.istore_n 3, 1) := by decide +kernel
theorem dX7_reaches_37 : decode cX7_reaches 37 = .ok (.iload_n 3, 1) := by decide +kernel
theorem dX7_reaches_38 : decode cX7_reaches 38 = .ok (.ifCond .ne 7, 3) := by decide +kernel
theorem dX7_reaches_41 : decode cX7_reaches 41 = .ok (.iload_n 2, 1) := by decide +kernel
theorem dX7_reaches_42 : decode cX7_reaches 42 = .ok (.goto 15, 3) := by decide +kernel
theorem dX7_reaches_45 : decode cX7_reaches 45 = .ok (.iload_n 2, 1) := by decide +kernel
theorem dX7_reaches_46 : decode cX7_reaches 46 = .ok (.iconst 2, 1) := by decide +kernel
theorem dX7_reaches_47 : decode cX7_reaches 47 = .ok (.if_icmp .ge 7, 3) := by decide +kernel
theorem dX7_reaches_50 : decode cX7_reaches 50 = .ok (.iconst 0, 1) := by decide +kernel
theorem dX7_reaches_51 : decode cX7_reaches 51 = .ok (.goto 6, 3) := by decide +kernel
theorem dX7_reaches_54 : decode cX7_reaches 54 = .ok (.iload_n 2, 1) := by decide +kernel
theorem dX7_reaches_55 : decode cX7_reaches 55 = .ok (.iconst 2, 1) := by decide +kernel
theorem dX7_reaches_56 : decode cX7_reaches 56 = .ok (.isub, 1) := by decide +kernel
theorem dX7_reaches_57 : decode cX7_reaches 57 = .ok (.ireturn, 1) := by decide +kernel
theorem dX7_moves_0 : decode cX7_moves 0 = .ok (.aload_n 0, 1) := by decide +kernel
theorem dX7_moves_1 : decode cX7_moves 1 = .ok (.getfield 7, 3) := by decide +kernel
theorem dX7_moves_4 : decode cX7_moves 4 = .ok (.iconst 4, 1) := by decide +kernel
theorem dX7_moves_5 : decode cX7_moves 5 = .ok (.iconst 3, 1) := by decide +kernel
theorem dX7_moves_6 : decode cX7_moves 6 = .ok (.iload_n 1, 1) := by decide +kernel
theorem dX7_moves_7 : decode cX7_moves 7 = .ok (.imul, 1) := by decide +kernel
theorem dX7_moves_8 : decode cX7_moves 8 = .ok (.iadd, 1) := by decide +kernel
theorem dX7_moves_9 : decode cX7_moves 9 = .ok (.iconst 2, 1) := by decide +kernel
theorem dX7_moves_10 : decode cX7_moves 10 = .ok (.iadd, 1) := by decide +kernel
theorem dX7_moves_11 : decode cX7_moves 11 = .ok (.iaload, 1) := by decide +kernel
theorem dX7_moves_12 : decode cX7_moves 12 = .ok (.istore_n 2, 1) := by decide +kernel
theorem dX7_moves_13 : decode cX7_moves 13 = .ok (.aload_n 0, 1) := by decide +kernel
theorem dX7_moves_14 : decode cX7_moves 14 = .ok (.iload_n 1, 1) := by decide +kernel
theorem dX7_moves_15 : decode cX7_moves 15 = .ok (.invokevirtual 107, 3) := by decide +kernel
theorem dX7_moves_18 : decode cX7_moves 18 = .ok (.tableswitch 51 1 5 #[34, 51, 38, 34, 38], 34) := by decide +kernel
theorem dX7_moves_52 : decode cX7_moves 52 = .ok (.iconst 2, 1) := by decide +kernel
theorem dX7_moves_53 : decode cX7_moves 53 = .ok (.iload_n 2, 1) := by decide +kernel
theorem dX7_moves_54 : decode cX7_moves 54 = .ok (.imul, 1) := by decide +kernel
theorem dX7_moves_55 : decode cX7_moves 55 = .ok (.ireturn, 1) := by decide +kernel
theorem dX7_moves_56 : decode cX7_moves 56 = .ok (.iload_n 2, 1) := by decide +kernel
theorem dX7_moves_57 : decode cX7_moves 57 = .ok (.iconst 2, 1) := by decide +kernel
theorem dX7_moves_58 : decode cX7_moves 58 = .ok (.if_icmp .ge 7, 3) := by decide +kernel
theorem dX7_moves_61 : decode cX7_moves 61 = .ok (.iconst 1, 1) := by decide +kernel
theorem dX7_moves_62 : decode cX7_moves 62 = .ok (.goto 6, 3) := by decide +kernel
theorem dX7_moves_65 : decode cX7_moves 65 = .ok (.iload_n 2, 1) := by decide +kernel
theorem dX7_moves_66 : decode cX7_moves 66 = .ok (.iconst 2, 1) := by decide +kernel
theorem dX7_moves_67 : decode cX7_moves 67 = .ok (.idiv, 1) := by decide +kernel
theorem dX7_moves_68 : decode cX7_moves 68 = .ok (.ireturn, 1) := by decide +kernel
theorem dX7_moves_69 : decode cX7_moves 69 = .ok (.iload_n 2, 1) := by decide +kernel
theorem dX7_moves_70 : decode cX7_moves 70 = .ok (.ireturn, 1) := by decide +kernel
theorem dX7_nearOf_0 : decode cX7_nearOf 0 = .ok (.aload_n 0, 1) := by decide +kernel
theorem dX7_nearOf_1 : decode cX7_nearOf 1 = .ok (.getfield 7, 3) := by decide +kernel
theorem dX7_nearOf_4 : decode cX7_nearOf 4 = .ok (.iconst 1, 1) := by decide +kernel
theorem dX7_nearOf_5 : decode cX7_nearOf 5 = .ok (.iaload, 1) := by decide +kernel
theorem dX7_nearOf_6 : decode cX7_nearOf 6 = .ok (.istore_n 2, 1) := by decide +kernel
theorem dX7_nearOf_7 : decode cX7_nearOf 7 = .ok (.aload_n 0, 1) := by decide +kernel
theorem dX7_nearOf_8 : decode cX7_nearOf 8 = .ok (.iload_n 1, 1) := by decide +kernel
theorem dX7_nearOf_9 : decode cX7_nearOf 9 = .ok (.invokevirtual 107, 3) := by decide +kernel
theorem dX7_nearOf_12 : decode cX7_nearOf 12 = .ok (.tableswitch 44 2 5 #[32, 44, 36, 40], 32) := by decide +kernel
theorem dX7_nearOf_44 : decode cX7_nearOf 44 = .ok (.iload_n 2, 1) := by decide +kernel
theorem dX7_nearOf_45 : decode cX7_nearOf 45 = .ok (.iconst 1, 1) := by decide +kernel
theorem dX7_nearOf_46 : decode cX7_nearOf 46 = .ok (.iadd, 1) := by decide +kernel
theorem dX7_nearOf_47 : decode cX7_nearOf 47 = .ok (.ireturn, 1) := by decide +kernel
theorem dX7_nearOf_48 : decode cX7_nearOf 48 = .ok (.iload_n 2, 1) := by decide +kernel
theorem dX7_nearOf_49 : decode cX7_nearOf 49 = .ok (.iconst 2, 1) := by decide +kernel
theorem dX7_nearOf_50 : decode cX7_nearOf 50 = .ok (.idiv, 1) := by decide +kernel
theorem dX7_nearOf_51 : decode cX7_nearOf 51 = .ok (.ireturn, 1) := by decide +kernel
theorem dX7_nearOf_52 : decode cX7_nearOf 52 = .ok (.iconst 2, 1) := by decide +kernel
theorem dX7_nearOf_53 : decode cX7_nearOf 53 = .ok (.iload_n 2, 1) := by decide +kernel
theorem dX7_nearOf_54 : decode cX7_nearOf 54 = .ok (.imul, 1) := by decide +kernel
theorem dX7_nearOf_55 : decode cX7_nearOf 55 = .ok (.ireturn, 1) := by decide +kernel
theorem dX7_nearOf_56 : decode cX7_nearOf 56 = .ok (.iload_n 2, 1) := by decide +kernel
theorem dX7_nearOf_57 : decode cX7_nearOf 57 = .ok (.ireturn, 1) := by decide +kernel
theorem dX7_isPlayed_0 : decode cX7_isPlayed 0 = .ok (.aload_n 0, 1) := by decide +kernel
theorem dX7_isPlayed_1 : decode cX7_isPlayed 1 = .ok (.iload_n 1, 1) := by decide +kernel
theorem dX7_isPlayed_2 : decode cX7_isPlayed 2 = .ok (.iconst 5, 1) := by decide +kernel
theorem dX7_isPlayed_3 : decode cX7_isPlayed 3 = .ok (.invokevirtual 110, 3) := by decide +kernel
theorem dX7_isPlayed_6 : decode cX7_isPlayed 6 = .ok (.iconst (-1), 1) := by decide +kernel
theorem dX7_isPlayed_7 : decode cX7_isPlayed 7 = .ok (.if_icmp .eq 7, 3) := by decide +kernel
theorem dX7_isPlayed_10 : decode cX7_isPlayed 10 = .ok (.iconst 1, 1) := by decide +kernel
theorem dX7_isPlayed_11 : decode cX7_isPlayed 11 = .ok (.goto 4, 3) := by decide +kernel
theorem dX7_isPlayed_14 : decode cX7_isPlayed 14 = .ok (.iconst 0, 1) := by decide +kernel
theorem dX7_isPlayed_15 : decode cX7_isPlayed 15 = .ok (.ireturn, 1) := by decide +kernel
theorem dX7_endOf_0 : decode cX7_endOf 0 = .ok (.aload_n 0, 1) := by decide +kernel
theorem dX7_endOf_1 : decode cX7_endOf 1 = .ok (.iload_n 1, 1) := by decide +kernel
theorem dX7_endOf_2 : decode cX7_endOf 2 = .ok (.iconst 1, 1) := by decide +kernel
theorem dX7_endOf_3 : decode cX7_endOf 3 = .ok (.invokevirtual 110, 3) := by decide +kernel
theorem dX7_endOf_6 : decode cX7_endOf 6 = .ok (.aload_n 0, 1) := by decide +kernel
theorem dX7_endOf_7 : decode cX7_endOf 7 = .ok (.iload_n 1, 1) := by decide +kernel
theorem dX7_endOf_8 : decode cX7_endOf 8 = .ok (.iconst 2, 1) := by decide +kernel
theorem dX7_endOf_9 : decode cX7_endOf 9 = .ok (.invokevirtual 110, 3) := by decide +kernel
theorem dX7_endOf_12 : decode cX7_endOf 12 = .ok (.iadd, 1) := by decide +kernel
theorem dX7_endOf_13 : decode cX7_endOf 13 = .ok (.ireturn, 1) := by decide +kernel
theorem dX7_soundTogether_0 : decode cX7_soundTogether 0 = .ok (.aload_n 0, 1) := by decide +kernel
theorem dX7_soundTogether_1 : decode cX7_soundTogether 1 = .ok (.iload_n 1, 1) := by decide +kernel
theorem dX7_soundTogether_2 : decode cX7_soundTogether 2 = .ok (.iconst 1, 1) := by decide +kernel
theorem dX7_soundTogether_3 : decode cX7_soundTogether 3 = .ok (.invokevirtual 110, 3) := by decide +kernel
theorem dX7_soundTogether_6 : decode cX7_soundTogether 6 = .ok (.aload_n 0, 1) := by decide +kernel
theorem dX7_soundTogether_7 : decode cX7_soundTogether 7 = .ok (.iload_n 2, 1) := by decide +kernel
theorem dX7_soundTogether_8 : decode cX7_soundTogether 8 = .ok (.invokevirtual 114, 3) := by decide +kernel
theorem dX7_soundTogether_11 : decode cX7_soundTogether 11 = .ok (.if_icmp .ge 21, 3) := by decide +kernel
theorem dX7_soundTogether_14 : decode cX7_soundTogether 14 = .ok (.aload_n 0, 1) := by decide +kernel
theorem dX7_soundTogether_15 : decode cX7_soundTogether 15 = .ok (.iload_n 2, 1) := by decide +kernel
theorem dX7_soundTogether_16 : decode cX7_soundTogether 16 = .ok (.iconst 1, 1) := by decide +kernel
theorem dX7_soundTogether_17 : decode cX7_soundTogether 17 = .ok (.invokevirtual 110, 3) := by decide +kernel
theorem dX7_soundTogether_20 : decode cX7_soundTogether 20 = .ok (.aload_n 0, 1) := by decide +kernel
theorem dX7_soundTogether_21 : decode cX7_soundTogether 21 = .ok (.iload_n 1, 1) := by decide +kernel
theorem dX7_soundTogether_22 : decode cX7_soundTogether 22 = .ok (.invokevirtual 114, 3) := by decide +kernel
theorem dX7_soundTogether_25 : decode cX7_soundTogether 25 = .ok (.if_icmp .ge 7, 3) := by decide +kernel
theorem dX7_soundTogether_28 : decode cX7_soundTogether 28 = .ok (.iconst 1, 1) := by decide +kernel
theorem dX7_soundTogether_29 : decode cX7_soundTogether 29 = .ok (.goto 4, 3) := by decide +kernel
theorem dX7_soundTogether_32 : decode cX7_soundTogether 32 = .ok (.iconst 0, 1) := by decide +kernel
theorem dX7_soundTogether_33 : decode cX7_soundTogether 33 = .ok (.ireturn, 1) := by decide +kernel
theorem dX7_byTwo_0 : decode cX7_byTwo 0 = .ok (.aload_n 0, 1) := by decide +kernel
theorem dX7_byTwo_1 : decode cX7_byTwo 1 = .ok (.iload_n 1, 1) := by decide +kernel
theorem dX7_byTwo_2 : decode cX7_byTwo 2 = .ok (.iconst 5, 1) := by decide +kernel
theorem dX7_byTwo_3 : decode cX7_byTwo 3 = .ok (.invokevirtual 110, 3) := by decide +kernel
theorem dX7_byTwo_6 : decode cX7_byTwo 6 = .ok (.istore_n 3, 1) := by decide +kernel
theorem dX7_byTwo_7 : decode cX7_byTwo 7 = .ok (.aload_n 0, 1) := by decide +kernel
theorem dX7_byTwo_8 : decode cX7_byTwo 8 = .ok (.iload_n 2, 1) := by decide +kernel
theorem dX7_byTwo_9 : decode cX7_byTwo 9 = .ok (.iconst 5, 1) := by decide +kernel
theorem dX7_byTwo_10 : decode cX7_byTwo 10 = .ok (.invokevirtual 110, 3) := by decide +kernel
theorem dX7_byTwo_13 : decode cX7_byTwo 13 = .ok (.istore 4, 2) := by decide +kernel
theorem dX7_byTwo_15 : decode cX7_byTwo 15 = .ok (.iload_n 3, 1) := by decide +kernel
theorem dX7_byTwo_16 : decode cX7_byTwo 16 = .ok (.iconst 2, 1) := by decide +kernel
theorem dX7_byTwo_17 : decode cX7_byTwo 17 = .ok (.idiv, 1) := by decide +kernel
theorem dX7_byTwo_18 : decode cX7_byTwo 18 = .ok (.iload 4, 2) := by decide +kernel
theorem dX7_byTwo_20 : decode cX7_byTwo 20 = .ok (.iconst 2, 1) := by decide +kernel
theorem dX7_byTwo_21 : decode cX7_byTwo 21 = .ok (.idiv, 1) := by decide +kernel
theorem dX7_byTwo_22 : decode cX7_byTwo 22 = .ok (.if_icmp .ne 5, 3) := by decide +kernel
theorem dX7_byTwo_25 : decode cX7_byTwo 25 = .ok (.iconst (-1), 1) := by decide +kernel
theorem dX7_byTwo_26 : decode cX7_byTwo 26 = .ok (.ireturn, 1) := by decide +kernel
theorem dX7_byTwo_27 : decode cX7_byTwo 27 = .ok (.aload_n 0, 1) := by decide +kernel
theorem dX7_byTwo_28 : decode cX7_byTwo 28 = .ok (.iload_n 3, 1) := by decide +kernel
theorem dX7_byTwo_29 : decode cX7_byTwo 29 = .ok (.invokevirtual 117, 3) := by decide +kernel
theorem dX7_byTwo_32 : decode cX7_byTwo 32 = .ok (.aload_n 0, 1) := by decide +kernel
theorem dX7_byTwo_33 : decode cX7_byTwo 33 = .ok (.iload 4, 2) := by decide +kernel
theorem dX7_byTwo_35 : decode cX7_byTwo 35 = .ok (.invokevirtual 117, 3) := by decide +kernel
theorem dX7_byTwo_38 : decode cX7_byTwo 38 = .ok (.if_icmp .le 11, 3) := by decide +kernel
theorem dX7_byTwo_41 : decode cX7_byTwo 41 = .ok (.aload_n 0, 1) := by decide +kernel
theorem dX7_byTwo_42 : decode cX7_byTwo 42 = .ok (.iload_n 3, 1) := by decide +kernel
theorem dX7_byTwo_43 : decode cX7_byTwo 43 = .ok (.invokevirtual 117, 3) := by decide +kernel
theorem dX7_byTwo_46 : decode cX7_byTwo 46 = .ok (.goto 9, 3) := by decide +kernel
theorem dX7_byTwo_49 : decode cX7_byTwo 49 = .ok (.aload_n 0, 1) := by decide +kernel
theorem dX7_byTwo_50 : decode cX7_byTwo 50 = .ok (.iload 4, 2) := by decide +kernel
theorem dX7_byTwo_52 : decode cX7_byTwo 52 = .ok (.invokevirtual 117, 3) := by decide +kernel
theorem dX7_byTwo_55 : decode cX7_byTwo 55 = .ok (.istore 5, 2) := by decide +kernel
theorem dX7_byTwo_57 : decode cX7_byTwo 57 = .ok (.aload_n 0, 1) := by decide +kernel
theorem dX7_byTwo_58 : decode cX7_byTwo 58 = .ok (.iload_n 1, 1) := by decide +kernel
theorem dX7_byTwo_59 : decode cX7_byTwo 59 = .ok (.iconst 0, 1) := by decide +kernel
theorem dX7_byTwo_60 : decode cX7_byTwo 60 = .ok (.invokevirtual 110, 3) := by decide +kernel
theorem dX7_byTwo_63 : decode cX7_byTwo 63 = .ok (.aload_n 0, 1) := by decide +kernel
theorem dX7_byTwo_64 : decode cX7_byTwo 64 = .ok (.iload_n 2, 1) := by decide +kernel
theorem dX7_byTwo_65 : decode cX7_byTwo 65 = .ok (.iconst 0, 1) := by decide +kernel
theorem dX7_byTwo_66 : decode cX7_byTwo 66 = .ok (.invokevirtual 110, 3) := by decide +kernel
theorem dX7_byTwo_69 : decode cX7_byTwo 69 = .ok (.invokestatic 120, 3) := by decide +kernel
theorem dX7_byTwo_72 : decode cX7_byTwo 72 = .ok (.iload 5, 2) := by decide +kernel
theorem dX7_byTwo_74 : decode cX7_byTwo 74 = .ok (.if_icmp .ge 5, 3) := by decide +kernel
theorem dX7_byTwo_77 : decode cX7_byTwo 77 = .ok (.iconst 3, 1) := by decide +kernel
theorem dX7_byTwo_78 : decode cX7_byTwo 78 = .ok (.ireturn, 1) := by decide +kernel
theorem dX7_byTwo_79 : decode cX7_byTwo 79 = .ok (.iload_n 3, 1) := by decide +kernel
theorem dX7_byTwo_80 : decode cX7_byTwo 80 = .ok (.iconst 2, 1) := by decide +kernel
theorem dX7_byTwo_81 : decode cX7_byTwo 81 = .ok (.if_icmp .ge 7, 3) := by decide +kernel
theorem dX7_byTwo_84 : decode cX7_byTwo 84 = .ok (.iload_n 1, 1) := by decide +kernel
theorem dX7_byTwo_85 : decode cX7_byTwo 85 = .ok (.goto 4, 3) := by decide +kernel
theorem dX7_byTwo_88 : decode cX7_byTwo 88 = .ok (.iload_n 2, 1) := by decide +kernel
theorem dX7_byTwo_89 : decode cX7_byTwo 89 = .ok (.istore 6, 2) := by decide +kernel
theorem dX7_byTwo_91 : decode cX7_byTwo 91 = .ok (.iload_n 3, 1) := by decide +kernel
theorem dX7_byTwo_92 : decode cX7_byTwo 92 = .ok (.iconst 2, 1) := by decide +kernel
theorem dX7_byTwo_93 : decode cX7_byTwo 93 = .ok (.if_icmp .ge 7, 3) := by decide +kernel
theorem dX7_byTwo_96 : decode cX7_byTwo 96 = .ok (.iload_n 2, 1) := by decide +kernel
theorem dX7_byTwo_97 : decode cX7_byTwo 97 = .ok (.goto 4, 3) := by decide +kernel
theorem dX7_byTwo_100 : decode cX7_byTwo 100 = .ok (.iload_n 1, 1) := by decide +kernel
theorem dX7_byTwo_101 : decode cX7_byTwo 101 = .ok (.istore 7, 2) := by decide +kernel
theorem dX7_byTwo_103 : decode cX7_byTwo 103 = .ok (.aload_n 0, 1) := by decide +kernel
theorem dX7_byTwo_104 : decode cX7_byTwo 104 = .ok (.iload 6, 2) := by decide +kernel
theorem dX7_byTwo_106 : decode cX7_byTwo 106 = .ok (.iconst 0, 1) := by decide +kernel
theorem dX7_byTwo_107 : decode cX7_byTwo 107 = .ok (.invokevirtual 110, 3) := by decide +kernel
theorem dX7_byTwo_110 : decode cX7_byTwo 110 = .ok (.aload_n 0, 1) := by decide +kernel
theorem dX7_byTwo_111 : decode cX7_byTwo 111 = .ok (.iload 7, 2) := by decide +kernel
theorem dX7_byTwo_113 : decode cX7_byTwo 113 = .ok (.iconst 0, 1) := by decide +kernel
theorem dX7_byTwo_114 : decode cX7_byTwo 114 = .ok (.invokevirtual 110, 3) := by decide +kernel
theorem dX7_byTwo_117 : decode cX7_byTwo 117 = .ok (.if_icmp .ge 7, 3) := by decide +kernel
theorem dX7_byTwo_120 : decode cX7_byTwo 120 = .ok (.iconst 4, 1) := by decide +kernel
theorem dX7_byTwo_121 : decode cX7_byTwo 121 = .ok (.goto 4, 3) := by decide +kernel
theorem dX7_byTwo_124 : decode cX7_byTwo 124 = .ok (.iconst (-1), 1) := by decide +kernel
theorem dX7_byTwo_125 : decode cX7_byTwo 125 = .ok (.ireturn, 1) := by decide +kernel
theorem dX7_clashOf_0 : decode cX7_clashOf 0 = .ok (.aload_n 0, 1) := by decide +kernel
theorem dX7_clashOf_1 : decode cX7_clashOf 1 = .ok (.iload_n 1, 1) := by decide +kernel
theorem dX7_clashOf_2 : decode cX7_clashOf 2 = .ok (.invokevirtual 123, 3) := by decide +kernel
theorem dX7_clashOf_5 : decode cX7_clashOf 5 = .ok (.ifCond .eq 11, 3) := by decide +kernel
theorem dX7_clashOf_8 : decode cX7_clashOf 8 = .ok (.aload_n 0, 1) := by decide +kernel
theorem dX7_clashOf_9 : decode cX7_clashOf 9 = .ok (.iload_n 2, 1) := by decide +kernel
theorem dX7_clashOf_10 : decode cX7_clashOf 10 = .ok (.invokevirtual 123, 3) := by decide +kernel
theorem dX7_clashOf_13 : decode cX7_clashOf 13 = .ok (.ifCond .ne 5, 3) := by decide +kernel
theorem dX7_clashOf_16 : decode cX7_clashOf 16 = .ok (.iconst (-1), 1) := by decide +kernel
theorem dX7_clashOf_17 : decode cX7_clashOf 17 = .ok (.ireturn, 1) := by decide +kernel
theorem dX7_clashOf_18 : decode cX7_clashOf 18 = .ok (.aload_n 0, 1) := by decide +kernel
theorem dX7_clashOf_19 : decode cX7_clashOf 19 = .ok (.iload_n 1, 1) := by decide +kernel
theorem dX7_clashOf_20 : decode cX7_clashOf 20 = .ok (.iconst 0, 1) := by decide +kernel
theorem dX7_clashOf_21 : decode cX7_clashOf 21 = .ok (.invokevirtual 110, 3) := by decide +kernel
theorem dX7_clashOf_24 : decode cX7_clashOf 24 = .ok (.aload_n 0, 1) := by decide +kernel
theorem dX7_clashOf_25 : decode cX7_clashOf 25 = .ok (.iload_n 2, 1) := by decide +kernel
theorem dX7_clashOf_26 : decode cX7_clashOf 26 = .ok (.iconst 0, 1) := by decide +kernel
theorem dX7_clashOf_27 : decode cX7_clashOf 27 = .ok (.invokevirtual 110, 3) := by decide +kernel
theorem dX7_clashOf_30 : decode cX7_clashOf 30 = .ok (.invokestatic 120, 3) := by decide +kernel
theorem dX7_clashOf_33 : decode cX7_clashOf 33 = .ok (.istore_n 3, 1) := by decide +kernel
theorem dX7_clashOf_34 : decode cX7_clashOf 34 = .ok (.aload_n 0, 1) := by decide +kernel
theorem dX7_clashOf_35 : decode cX7_clashOf 35 = .ok (.iload_n 1, 1) := by decide +kernel
theorem dX7_clashOf_36 : decode cX7_clashOf 36 = .ok (.iload_n 2, 1) := by decide +kernel
theorem dX7_clashOf_37 : decode cX7_clashOf 37 = .ok (.invokevirtual 126, 3) := by decide +kernel
theorem dX7_clashOf_40 : decode cX7_clashOf 40 = .ok (.istore 4, 2) := by decide +kernel
theorem dX7_clashOf_42 : decode cX7_clashOf 42 = .ok (.aload_n 0, 1) := by decide +kernel
theorem dX7_clashOf_43 : decode cX7_clashOf 43 = .ok (.iload_n 1, 1) := by decide +kernel
theorem dX7_clashOf_44 : decode cX7_clashOf 44 = .ok (.iconst 5, 1) := by decide +kernel
theorem dX7_clashOf_45 : decode cX7_clashOf 45 = .ok (.invokevirtual 110, 3) := by decide +kernel
theorem dX7_clashOf_48 : decode cX7_clashOf 48 = .ok (.aload_n 0, 1) := by decide +kernel
theorem dX7_clashOf_49 : decode cX7_clashOf 49 = .ok (.iload_n 2, 1) := by decide +kernel
theorem dX7_clashOf_50 : decode cX7_clashOf 50 = .ok (.iconst 5, 1) := by decide +kernel
theorem dX7_clashOf_51 : decode cX7_clashOf 51 = .ok (.invokevirtual 110, 3) := by decide +kernel
theorem dX7_clashOf_54 : decode cX7_clashOf 54 = .ok (.if_icmp .ne 7, 3) := by decide +kernel
theorem dX7_clashOf_57 : decode cX7_clashOf 57 = .ok (.iconst 1, 1) := by decide +kernel
theorem dX7_clashOf_58 : decode cX7_clashOf 58 = .ok (.goto 4, 3) := by decide +kernel
theorem dX7_clashOf_61 : decode cX7_clashOf 61 = .ok (.iconst 0, 1) := by decide +kernel
theorem dX7_clashOf_62 : decode cX7_clashOf 62 = .ok (.istore 5, 2) := by decide +kernel
theorem dX7_clashOf_64 : decode cX7_clashOf 64 = .ok (.iload_n 3, 1) := by decide +kernel
theorem dX7_clashOf_65 : decode cX7_clashOf 65 = .ok (.ifCond .ne 20, 3) := by decide +kernel
theorem dX7_clashOf_68 : decode cX7_clashOf 68 = .ok (.aload_n 0, 1) := by decide +kernel
theorem dX7_clashOf_69 : decode cX7_clashOf 69 = .ok (.iload_n 1, 1) := by decide +kernel
theorem dX7_clashOf_70 : decode cX7_clashOf 70 = .ok (.iconst 1, 1) := by decide +kernel
theorem dX7_clashOf_71 : decode cX7_clashOf 71 = .ok (.invokevirtual 110, 3) := by decide +kernel
theorem dX7_clashOf_74 : decode cX7_clashOf 74 = .ok (.aload_n 0, 1) := by decide +kernel
theorem dX7_clashOf_75 : decode cX7_clashOf 75 = .ok (.iload_n 2, 1) := by decide +kernel
theorem dX7_clashOf_76 : decode cX7_clashOf 76 = .ok (.iconst 1, 1) := by decide +kernel
theorem dX7_clashOf_77 : decode cX7_clashOf 77 = .ok (.invokevirtual 110, 3) := by decide +kernel
theorem dX7_clashOf_80 : decode cX7_clashOf 80 = .ok (.if_icmp .ne 5, 3) := by decide +kernel
theorem dX7_clashOf_83 : decode cX7_clashOf 83 = .ok (.iconst 0, 1) := by decide +kernel
theorem dX7_clashOf_84 : decode cX7_clashOf 84 = .ok (.ireturn, 1) := by decide +kernel
theorem dX7_clashOf_85 : decode cX7_clashOf 85 = .ok (.iload_n 3, 1) := by decide +kernel
theorem dX7_clashOf_86 : decode cX7_clashOf 86 = .ok (.ifCond .ne 10, 3) := by decide +kernel
theorem dX7_clashOf_89 : decode cX7_clashOf 89 = .ok (.iload 4, 2) := by decide +kernel
theorem dX7_clashOf_91 : decode cX7_clashOf 91 = .ok (.ifCond .eq 5, 3) := by decide +kernel
theorem dX7_clashOf_94 : decode cX7_clashOf 94 = .ok (.iconst 1, 1) := by decide +kernel
theorem dX7_clashOf_95 : decode cX7_clashOf 95 = .ok (.ireturn, 1) := by decide +kernel
theorem dX7_clashOf_96 : decode cX7_clashOf 96 = .ok (.iload 4, 2) := by decide +kernel
theorem dX7_clashOf_98 : decode cX7_clashOf 98 = .ok (.ifCond .eq 37, 3) := by decide +kernel
theorem dX7_clashOf_101 : decode cX7_clashOf 101 = .ok (.iload 5, 2) := by decide +kernel
theorem dX7_clashOf_103 : decode cX7_clashOf 103 = .ok (.ifCond .ne 12, 3) := by decide +kernel
theorem dX7_clashOf_106 : decode cX7_clashOf 106 = .ok (.aload_n 0, 1) := by decide +kernel
theorem dX7_clashOf_107 : decode cX7_clashOf 107 = .ok (.iload_n 1, 1) := by decide +kernel
theorem dX7_clashOf_108 : decode cX7_clashOf 108 = .ok (.iload_n 2, 1) := by decide +kernel
theorem dX7_clashOf_109 : decode cX7_clashOf 109 = .ok (.invokevirtual 130, 3) := by decide +kernel
theorem dX7_clashOf_112 : decode cX7_clashOf 112 = .ok (.goto 22, 3) := by decide +kernel
theorem dX7_clashOf_115 : decode cX7_clashOf 115 = .ok (.iload_n 3, 1) := by decide +kernel
theorem dX7_clashOf_116 : decode cX7_clashOf 116 = .ok (.aload_n 0, 1) := by decide +kernel
theorem dX7_clashOf_117 : decode cX7_clashOf 117 = .ok (.aload_n 0, 1) := by decide +kernel
theorem dX7_clashOf_118 : decode cX7_clashOf 118 = .ok (.iload_n 1, 1) := by decide +kernel
theorem dX7_clashOf_119 : decode cX7_clashOf 119 = .ok (.iconst 5, 1) := by decide +kernel
theorem dX7_clashOf_120 : decode cX7_clashOf 120 = .ok (.invokevirtual 110, 3) := by decide +kernel
theorem dX7_clashOf_123 : decode cX7_clashOf 123 = .ok (.invokevirtual 133, 3) := by decide +kernel
theorem dX7_clashOf_126 : decode cX7_clashOf 126 = .ok (.if_icmp .le 7, 3) := by decide +kernel
theorem dX7_clashOf_129 : decode cX7_clashOf 129 = .ok (.iconst 2, 1) := by decide +kernel
theorem dX7_clashOf_130 : decode cX7_clashOf 130 = .ok (.goto 4, 3) := by decide +kernel
theorem dX7_clashOf_133 : decode cX7_clashOf 133 = .ok (.iconst (-1), 1) := by decide +kernel
theorem dX7_clashOf_134 : decode cX7_clashOf 134 = .ok (.ireturn, 1) := by decide +kernel
theorem dX7_clashOf_135 : decode cX7_clashOf 135 = .ok (.aload_n 0, 1) := by decide +kernel
theorem dX7_clashOf_136 : decode cX7_clashOf 136 = .ok (.iload_n 1, 1) := by decide +kernel
theorem dX7_clashOf_137 : decode cX7_clashOf 137 = .ok (.iconst 1, 1) := by decide +kernel
theorem dX7_clashOf_138 : decode cX7_clashOf 138 = .ok (.invokevirtual 110, 3) := by decide +kernel
theorem dX7_clashOf_141 : decode cX7_clashOf 141 = .ok (.aload_n 0, 1) := by decide +kernel
theorem dX7_clashOf_142 : decode cX7_clashOf 142 = .ok (.iload_n 2, 1) := by decide +kernel
theorem dX7_clashOf_143 : decode cX7_clashOf 143 = .ok (.iconst 1, 1) := by decide +kernel
theorem dX7_clashOf_144 : decode cX7_clashOf 144 = .ok (.invokevirtual 110, 3) := by decide +kernel
theorem dX7_clashOf_147 : decode cX7_clashOf 147 = .ok (.if_icmp .ge 7, 3) := by decide +kernel
theorem dX7_clashOf_150 : decode cX7_clashOf 150 = .ok (.iload_n 1, 1) := by decide +kernel
theorem dX7_clashOf_151 : decode cX7_clashOf 151 = .ok (.goto 4, 3) := by decide +kernel
theorem dX7_clashOf_154 : decode cX7_clashOf 154 = .ok (.iload_n 2, 1) := by decide +kernel
theorem dX7_clashOf_155 : decode cX7_clashOf 155 = .ok (.istore 6, 2) := by decide +kernel
theorem dX7_clashOf_157 : decode cX7_clashOf 157 = .ok (.aload_n 0, 1) := by decide +kernel
theorem dX7_clashOf_158 : decode cX7_clashOf 158 = .ok (.iload_n 1, 1) := by decide +kernel
theorem dX7_clashOf_159 : decode cX7_clashOf 159 = .ok (.iload_n 2, 1) := by decide +kernel
theorem dX7_clashOf_160 : decode cX7_clashOf 160 = .ok (.iadd, 1) := by decide +kernel
theorem dX7_clashOf_161 : decode cX7_clashOf 161 = .ok (.iload 6, 2) := by decide +kernel
theorem dX7_clashOf_163 : decode cX7_clashOf 163 = .ok (.isub, 1) := by decide +kernel
theorem dX7_clashOf_164 : decode cX7_clashOf 164 = .ok (.iconst 1, 1) := by decide +kernel
theorem dX7_clashOf_165 : decode cX7_clashOf 165 = .ok (.invokevirtual 110, 3) := by decide +kernel
theorem dX7_clashOf_168 : decode cX7_clashOf 168 = .ok (.aload_n 0, 1) := by decide +kernel
theorem dX7_clashOf_169 : decode cX7_clashOf 169 = .ok (.iload 6, 2) := by decide +kernel
theorem dX7_clashOf_171 : decode cX7_clashOf 171 = .ok (.invokevirtual 114, 3) := by decide +kernel
theorem dX7_clashOf_174 : decode cX7_clashOf 174 = .ok (.isub, 1) := by decide +kernel
theorem dX7_clashOf_175 : decode cX7_clashOf 175 = .ok (.istore 7, 2) := by decide +kernel
theorem dX7_clashOf_177 : decode cX7_clashOf 177 = .ok (.iload 5, 2) := by decide +kernel
theorem dX7_clashOf_179 : decode cX7_clashOf 179 = .ok (.ifCond .eq 24, 3) := by decide +kernel
theorem dX7_clashOf_182 : decode cX7_clashOf 182 = .ok (.iload_n 3, 1) := by decide +kernel
theorem dX7_clashOf_183 : decode cX7_clashOf 183 = .ok (.aload_n 0, 1) := by decide +kernel
theorem dX7_clashOf_184 : decode cX7_clashOf 184 = .ok (.aload_n 0, 1) := by decide +kernel
theorem dX7_clashOf_185 : decode cX7_clashOf 185 = .ok (.iload_n 1, 1) := by decide +kernel
theorem dX7_clashOf_186 : decode cX7_clashOf 186 = .ok (.iconst 5, 1) := by decide +kernel
theorem dX7_clashOf_187 : decode cX7_clashOf 187 = .ok (.invokevirtual 110, 3) := by decide +kernel
theorem dX7_clashOf_190 : decode cX7_clashOf 190 = .ok (.invokevirtual 136, 3) := by decide +kernel
theorem dX7_clashOf_193 : decode cX7_clashOf 193 = .ok (.iload 7, 2) := by decide +kernel
theorem dX7_clashOf_195 : decode cX7_clashOf 195 = .ok (.imul, 1) := by decide +kernel
theorem dX7_clashOf_196 : decode cX7_clashOf 196 = .ok (.if_icmp .le 7, 3) := by decide +kernel
theorem dX7_clashOf_199 : decode cX7_clashOf 199 = .ok (.iconst 5, 1) := by decide +kernel
theorem dX7_clashOf_200 : decode cX7_clashOf 200 = .ok (.goto 4, 3) := by decide +kernel
theorem dX7_clashOf_203 : decode cX7_clashOf 203 = .ok (.iconst (-1), 1) := by decide +kernel
theorem dX7_clashOf_204 : decode cX7_clashOf 204 = .ok (.ireturn, 1) := by decide +kernel
theorem dX7_clashesNow_0 : decode cX7_clashesNow 0 = .ok (.iconst 0, 1) := by decide +kernel
theorem dX7_clashesNow_1 : decode cX7_clashesNow 1 = .ok (.istore_n 1, 1) := by decide +kernel
theorem dX7_clashesNow_2 : decode cX7_clashesNow 2 = .ok (.iconst 0, 1) := by decide +kernel
theorem dX7_clashesNow_3 : decode cX7_clashesNow 3 = .ok (.istore_n 2, 1) := by decide +kernel
theorem dX7_clashesNow_4 : decode cX7_clashesNow 4 = .ok (.iload_n 2, 1) := by decide +kernel
theorem dX7_clashesNow_5 : decode cX7_clashesNow 5 = .ok (.aload_n 0, 1) := by decide +kernel
theorem dX7_clashesNow_6 : decode cX7_clashesNow 6 = .ok (.invokevirtual 64, 3) := by decide +kernel
theorem dX7_clashesNow_9 : decode cX7_clashesNow 9 = .ok (.if_icmp .ge 45, 3) := by decide +kernel
theorem dX7_clashesNow_12 : decode cX7_clashesNow 12 = .ok (.iload_n 2, 1) := by decide +kernel
theorem dX7_clashesNow_13 : decode cX7_clashesNow 13 = .ok (.iconst 1, 1) := by decide +kernel
theorem dX7_clashesNow_14 : decode cX7_clashesNow 14 = .ok (.iadd, 1) := by decide +kernel
theorem dX7_clashesNow_15 : decode cX7_clashesNow 15 = .ok (.istore_n 3, 1) := by decide +kernel
theorem dX7_clashesNow_16 : decode cX7_clashesNow 16 = .ok (.iload_n 3, 1) := by decide +kernel
theorem dX7_clashesNow_17 : decode cX7_clashesNow 17 = .ok (.aload_n 0, 1) := by decide +kernel
theorem dX7_clashesNow_18 : decode cX7_clashesNow 18 = .ok (.invokevirtual 64, 3) := by decide +kernel
theorem dX7_clashesNow_21 : decode cX7_clashesNow 21 = .ok (.if_icmp .ge 27, 3) := by decide +kernel
theorem dX7_clashesNow_24 : decode cX7_clashesNow 24 = .ok (.iload_n 1, 1) := by decide +kernel
theorem dX7_clashesNow_25 : decode cX7_clashesNow 25 = .ok (.aload_n 0, 1) := by decide +kernel
theorem dX7_clashesNow_26 : decode cX7_clashesNow 26 = .ok (.iload_n 2, 1) := by decide +kernel
theorem dX7_clashesNow_27 : decode cX7_clashesNow 27 = .ok (.iload_n 3, 1) := by decide +kernel
theorem dX7_clashesNow_28 : decode cX7_clashesNow 28 = .ok (.invokevirtual 139, 3) := by decide +kernel
theorem dX7_clashesNow_31 : decode cX7_clashesNow 31 = .ok (.iconst (-1), 1) := by decide +kernel
theorem dX7_clashesNow_32 : decode cX7_clashesNow 32 = .ok (.if_icmp .ne 7, 3) := by decide +kernel
theorem dX7_clashesNow_35 : decode cX7_clashesNow 35 = .ok (.iconst 0, 1) := by decide +kernel
theorem dX7_clashesNow_36 : decode cX7_clashesNow 36 = .ok (.goto 4, 3) := by decide +kernel
theorem dX7_clashesNow_39 : decode cX7_clashesNow 39 = .ok (.iconst 1, 1) := by decide +kernel
theorem dX7_clashesNow_40 : decode cX7_clashesNow 40 = .ok (.iadd, 1) := by decide +kernel
theorem dX7_clashesNow_41 : decode cX7_clashesNow 41 = .ok (.istore_n 1, 1) := by decide +kernel
theorem dX7_clashesNow_42 : decode cX7_clashesNow 42 = .ok (.iinc 3 1, 3) := by decide +kernel
theorem dX7_clashesNow_45 : decode cX7_clashesNow 45 = .ok (.goto (-29), 3) := by decide +kernel
theorem dX7_clashesNow_48 : decode cX7_clashesNow 48 = .ok (.iinc 2 1, 3) := by decide +kernel
theorem dX7_clashesNow_51 : decode cX7_clashesNow 51 = .ok (.goto (-47), 3) := by decide +kernel
theorem dX7_clashesNow_54 : decode cX7_clashesNow 54 = .ok (.iload_n 1, 1) := by decide +kernel
theorem dX7_clashesNow_55 : decode cX7_clashesNow 55 = .ok (.ireturn, 1) := by decide +kernel
theorem dX7_keep_0 : decode cX7_keep 0 = .ok (.aload_n 0, 1) := by decide +kernel
theorem dX7_keep_1 : decode cX7_keep 1 = .ok (.getfield 7, 3) := by decide +kernel
theorem dX7_keep_4 : decode cX7_keep 4 = .ok (.bipush 100, 2) := by decide +kernel
theorem dX7_keep_6 : decode cX7_keep 6 = .ok (.iaload, 1) := by decide +kernel
theorem dX7_keep_7 : decode cX7_keep 7 = .ok (.bipush 10, 2) := by decide +kernel
theorem dX7_keep_9 : decode cX7_keep 9 = .ok (.if_icmp .ne 44, 3) := by decide +kernel
theorem dX7_keep_12 : decode cX7_keep 12 = .ok (.iconst 0, 1) := by decide +kernel
theorem dX7_keep_13 : decode cX7_keep 13 = .ok (.istore_n 1, 1) := by decide +kernel
theorem dX7_keep_14 : decode cX7_keep 14 = .ok (.iload_n 1, 1) := by decide +kernel
theorem dX7_keep_15 : decode cX7_keep 15 = .ok (.bipush 108, 2) := by decide +kernel
theorem dX7_keep_17 : decode cX7_keep 17 = .ok (.if_icmp .ge 27, 3) := by decide +kernel
theorem dX7_keep_20 : decode cX7_keep 20 = .ok (.aload_n 0, 1) := by decide +kernel
theorem dX7_keep_21 : decode cX7_keep 21 = .ok (.getfield 7, 3) := by decide +kernel
theorem dX7_keep_24 : decode cX7_keep 24 = .ok (.bipush 101, 2) := by decide +kernel
theorem dX7_keep_26 : decode cX7_keep 26 = .ok (.iload_n 1, 1) := by decide +kernel
theorem dX7_keep_27 : decode cX7_keep 27 = .ok (.iadd, 1) := by decide +kernel
theorem dX7_keep_28 : decode cX7_keep 28 = .ok (.aload_n 0, 1) := by decide +kernel
theorem dX7_keep_29 : decode cX7_keep 29 = .ok (.getfield 7, 3) := by decide +kernel
theorem dX7_keep_32 : decode cX7_keep 32 = .ok (.bipush 113, 2) := by decide +kernel
theorem dX7_keep_34 : decode cX7_keep 34 = .ok (.iload_n 1, 1) := by decide +kernel
theorem dX7_keep_35 : decode cX7_keep 35 = .ok (.iadd, 1) := by decide +kernel
theorem dX7_keep_36 : decode cX7_keep 36 = .ok (.iaload, 1) := by decide +kernel
theorem dX7_keep_37 : decode cX7_keep 37 = .ok (.iastore, 1) := by decide +kernel
theorem dX7_keep_38 : decode cX7_keep 38 = .ok (.iinc 1 1, 3) := by decide +kernel
theorem dX7_keep_41 : decode cX7_keep 41 = .ok (.goto (-27), 3) := by decide +kernel
theorem dX7_keep_44 : decode cX7_keep 44 = .ok (.aload_n 0, 1) := by decide +kernel
theorem dX7_keep_45 : decode cX7_keep 45 = .ok (.getfield 7, 3) := by decide +kernel
theorem dX7_keep_48 : decode cX7_keep 48 = .ok (.bipush 100, 2) := by decide +kernel
theorem dX7_keep_50 : decode cX7_keep 50 = .ok (.bipush 9, 2) := by decide +kernel
theorem dX7_keep_52 : decode cX7_keep 52 = .ok (.iastore, 1) := by decide +kernel
theorem dX7_keep_53 : decode cX7_keep 53 = .ok (.iconst 0, 1) := by decide +kernel
theorem dX7_keep_54 : decode cX7_keep 54 = .ok (.istore_n 1, 1) := by decide +kernel
theorem dX7_keep_55 : decode cX7_keep 55 = .ok (.iload_n 1, 1) := by decide +kernel
theorem dX7_keep_56 : decode cX7_keep 56 = .ok (.bipush 12, 2) := by decide +kernel
theorem dX7_keep_58 : decode cX7_keep 58 = .ok (.if_icmp .ge 35, 3) := by decide +kernel
theorem dX7_keep_61 : decode cX7_keep 61 = .ok (.aload_n 0, 1) := by decide +kernel
theorem dX7_keep_62 : decode cX7_keep 62 = .ok (.getfield 7, 3) := by decide +kernel
theorem dX7_keep_65 : decode cX7_keep 65 = .ok (.bipush 101, 2) := by decide +kernel
theorem dX7_keep_67 : decode cX7_keep 67 = .ok (.bipush 12, 2) := by decide +kernel
theorem dX7_keep_69 : decode cX7_keep 69 = .ok (.aload_n 0, 1) := by decide +kernel
theorem dX7_keep_70 : decode cX7_keep 70 = .ok (.getfield 7, 3) := by decide +kernel
theorem dX7_keep_73 : decode cX7_keep 73 = .ok (.bipush 100, 2) := by decide +kernel
theorem dX7_keep_75 : decode cX7_keep 75 = .ok (.iaload, 1) := by decide +kernel
theorem dX7_keep_76 : decode cX7_keep 76 = .ok (.imul, 1) := by decide +kernel
theorem dX7_keep_77 : decode cX7_keep 77 = .ok (.iadd, 1) := by decide +kernel
theorem dX7_keep_78 : decode cX7_keep 78 = .ok (.iload_n 1, 1) := by decide +kernel
theorem dX7_keep_79 : decode cX7_keep 79 = .ok (.iadd, 1) := by decide +kernel
theorem dX7_keep_80 : decode cX7_keep 80 = .ok (.aload_n 0, 1) := by decide +kernel
theorem dX7_keep_81 : decode cX7_keep 81 = .ok (.iload_n 1, 1) := by decide +kernel
theorem dX7_keep_82 : decode cX7_keep 82 = .ok (.iconst 5, 1) := by decide +kernel
theorem dX7_keep_83 : decode cX7_keep 83 = .ok (.invokevirtual 110, 3) := by decide +kernel
theorem dX7_keep_86 : decode cX7_keep 86 = .ok (.iastore, 1) := by decide +kernel
theorem dX7_keep_87 : decode cX7_keep 87 = .ok (.iinc 1 1, 3) := by decide +kernel
theorem dX7_keep_90 : decode cX7_keep 90 = .ok (.goto (-35), 3) := by decide +kernel
theorem dX7_keep_93 : decode cX7_keep 93 = .ok (.aload_n 0, 1) := by decide +kernel
theorem dX7_keep_94 : decode cX7_keep 94 = .ok (.getfield 7, 3) := by decide +kernel
theorem dX7_keep_97 : decode cX7_keep 97 = .ok (.bipush 100, 2) := by decide +kernel
theorem dX7_keep_99 : decode cX7_keep 99 = .ok (.dup2, 1) := by decide +kernel
theorem dX7_keep_100 : decode cX7_keep 100 = .ok (.iaload, 1) := by decide +kernel
theorem dX7_keep_101 : decode cX7_keep 101 = .ok (.iconst 1, 1) := by decide +kernel
theorem dX7_keep_102 : decode cX7_keep 102 = .ok (.iadd, 1) := by decide +kernel
theorem dX7_keep_103 : decode cX7_keep 103 = .ok (.iastore, 1) := by decide +kernel
theorem dX7_keep_104 : decode cX7_keep 104 = .ok (.return_, 1) := by decide +kernel
theorem dX7_give_0 : decode cX7_give 0 = .ok (.aload_n 0, 1) := by decide +kernel
theorem dX7_give_1 : decode cX7_give 1 = .ok (.iload_n 1, 1) := by decide +kernel
theorem dX7_give_2 : decode cX7_give 2 = .ok (.invokevirtual 142, 3) := by decide +kernel
theorem dX7_give_5 : decode cX7_give 5 = .ok (.ifCond .eq 17, 3) := by decide +kernel
theorem dX7_give_8 : decode cX7_give 8 = .ok (.iload_n 2, 1) := by decide +kernel
theorem dX7_give_9 : decode cX7_give 9 = .ok (.i2l, 1) := by decide +kernel
theorem dX7_give_10 : decode cX7_give 10 = .ok (.ldc2_w 98, 3) := by decide +kernel
theorem dX7_give_13 : decode cX7_give 13 = .ok (.ldc2_w 72, 3) := by decide +kernel
theorem dX7_give_16 : decode cX7_give 16 = .ok (.invokestatic 68, 3) := by decide +kernel
theorem dX7_give_19 : decode cX7_give 19 = .ok (.ifCond .ne 10, 3) := by decide +kernel
theorem dX7_give_22 : decode cX7_give 22 = .ok (.aload_n 0, 1) := by decide +kernel
theorem dX7_give_23 : decode cX7_give 23 = .ok (.bipush (-2), 2) := by decide +kernel
theorem dX7_give_25 : decode cX7_give 25 = .ok (.invokevirtual 76, 3) := by decide +kernel
theorem dX7_give_28 : decode cX7_give 28 = .ok (.ireturn, 1) := by decide +kernel
theorem dX7_give_29 : decode cX7_give 29 = .ok (.aload_n 0, 1) := by decide +kernel
theorem dX7_give_30 : decode cX7_give 30 = .ok (.invokevirtual 145, 3) := by decide +kernel
theorem dX7_give_33 : decode cX7_give 33 = .ok (.aload_n 0, 1) := by decide +kernel
theorem dX7_give_34 : decode cX7_give 34 = .ok (.iload_n 1, 1) := by decide +kernel
theorem dX7_give_35 : decode cX7_give 35 = .ok (.iload_n 2, 1) := by decide +kernel
theorem dX7_give_36 : decode cX7_give 36 = .ok (.invokevirtual 148, 3) := by decide +kernel
theorem dX7_give_39 : decode cX7_give 39 = .ok (.aload_n 0, 1) := by decide +kernel
theorem dX7_give_40 : decode cX7_give 40 = .ok (.invokevirtual 152, 3) := by decide +kernel
theorem dX7_give_43 : decode cX7_give 43 = .ok (.ireturn, 1) := by decide +kernel
theorem dX7_undo_0 : decode cX7_undo 0 = .ok (.aload_n 0, 1) := by decide +kernel
theorem dX7_undo_1 : decode cX7_undo 1 = .ok (.getfield 7, 3) := by decide +kernel
theorem dX7_undo_4 : decode cX7_undo 4 = .ok (.bipush 100, 2) := by decide +kernel
theorem dX7_undo_6 : decode cX7_undo 6 = .ok (.iaload, 1) := by decide +kernel
theorem dX7_undo_7 : decode cX7_undo 7 = .ok (.ifCond .ne 10, 3) := by decide +kernel
theorem dX7_undo_10 : decode cX7_undo 10 = .ok (.aload_n 0, 1) := by decide +kernel
theorem dX7_undo_11 : decode cX7_undo 11 = .ok (.bipush (-3), 2) := by decide +kernel
theorem dX7_undo_13 : decode cX7_undo 13 = .ok (.invokevirtual 155, 3) := by decide +kernel
theorem dX7_undo_16 : decode cX7_undo 16 = .ok (.ireturn, 1) := by decide +kernel
theorem dX7_undo_17 : decode cX7_undo 17 = .ok (.aload_n 0, 1) := by decide +kernel
theorem dX7_undo_18 : decode cX7_undo 18 = .ok (.getfield 7, 3) := by decide +kernel
theorem dX7_undo_21 : decode cX7_undo 21 = .ok (.bipush 100, 2) := by decide +kernel
theorem dX7_undo_23 : decode cX7_undo 23 = .ok (.dup2, 1) := by decide +kernel
theorem dX7_undo_24 : decode cX7_undo 24 = .ok (.iaload, 1) := by decide +kernel
theorem dX7_undo_25 : decode cX7_undo 25 = .ok (.iconst 1, 1) := by decide +kernel
theorem dX7_undo_26 : decode cX7_undo 26 = .ok (.isub, 1) := by decide +kernel
theorem dX7_undo_27 : decode cX7_undo 27 = .ok (.iastore, 1) := by decide +kernel
theorem dX7_undo_28 : decode cX7_undo 28 = .ok (.iconst 0, 1) := by decide +kernel
theorem dX7_undo_29 : decode cX7_undo 29 = .ok (.istore_n 1, 1) := by decide +kernel
theorem dX7_undo_30 : decode cX7_undo 30 = .ok (.iload_n 1, 1) := by decide +kernel
theorem dX7_undo_31 : decode cX7_undo 31 = .ok (.aload_n 0, 1) := by decide +kernel
theorem dX7_undo_32 : decode cX7_undo 32 = .ok (.invokevirtual 64, 3) := by decide +kernel
theorem dX7_undo_35 : decode cX7_undo 35 = .ok (.if_icmp .ge 34, 3) := by decide +kernel
theorem dX7_undo_38 : decode cX7_undo 38 = .ok (.aload_n 0, 1) := by decide +kernel
theorem dX7_undo_39 : decode cX7_undo 39 = .ok (.iload_n 1, 1) := by decide +kernel
theorem dX7_undo_40 : decode cX7_undo 40 = .ok (.aload_n 0, 1) := by decide +kernel
theorem dX7_undo_41 : decode cX7_undo 41 = .ok (.getfield 7, 3) := by decide +kernel
theorem dX7_undo_44 : decode cX7_undo 44 = .ok (.bipush 101, 2) := by decide +kernel
theorem dX7_undo_46 : decode cX7_undo 46 = .ok (.bipush 12, 2) := by decide +kernel
theorem dX7_undo_48 : decode cX7_undo 48 = .ok (.aload_n 0, 1) := by decide +kernel
theorem dX7_undo_49 : decode cX7_undo 49 = .ok (.getfield 7, 3) := by decide +kernel
theorem dX7_undo_52 : decode cX7_undo 52 = .ok (.bipush 100, 2) := by decide +kernel
theorem dX7_undo_54 : decode cX7_undo 54 = .ok (.iaload, 1) := by decide +kernel
theorem dX7_undo_55 : decode cX7_undo 55 = .ok (.imul, 1) := by decide +kernel
theorem dX7_undo_56 : decode cX7_undo 56 = .ok (.iadd, 1) := by decide +kernel
theorem dX7_undo_57 : decode cX7_undo 57 = .ok (.iload_n 1, 1) := by decide +kernel
theorem dX7_undo_58 : decode cX7_undo 58 = .ok (.iadd, 1) := by decide +kernel
theorem dX7_undo_59 : decode cX7_undo 59 = .ok (.iaload, 1) := by decide +kernel
theorem dX7_undo_60 : decode cX7_undo 60 = .ok (.invokevirtual 148, 3) := by decide +kernel
theorem dX7_undo_63 : decode cX7_undo 63 = .ok (.iinc 1 1, 3) := by decide +kernel
theorem dX7_undo_66 : decode cX7_undo 66 = .ok (.goto (-36), 3) := by decide +kernel
theorem dX7_undo_69 : decode cX7_undo 69 = .ok (.aload_n 0, 1) := by decide +kernel
theorem dX7_undo_70 : decode cX7_undo 70 = .ok (.invokevirtual 152, 3) := by decide +kernel
theorem dX7_undo_73 : decode cX7_undo 73 = .ok (.ireturn, 1) := by decide +kernel
theorem dX7_of_0 : decode cX7_of 0 = .ok (.aload_n 0, 1) := by decide +kernel
theorem dX7_of_1 : decode cX7_of 1 = .ok (.iload_n 1, 1) := by decide +kernel
theorem dX7_of_2 : decode cX7_of 2 = .ok (.invokevirtual 142, 3) := by decide +kernel
theorem dX7_of_5 : decode cX7_of 5 = .ok (.ifCond .eq 24, 3) := by decide +kernel
theorem dX7_of_8 : decode cX7_of 8 = .ok (.iload_n 2, 1) := by decide +kernel
theorem dX7_of_9 : decode cX7_of 9 = .ok (.i2l, 1) := by decide +kernel
theorem dX7_of_10 : decode cX7_of 10 = .ok (.lconst 0, 1) := by decide +kernel
theorem dX7_of_11 : decode cX7_of 11 = .ok (.ldc2_w 84, 3) := by decide +kernel
theorem dX7_of_14 : decode cX7_of 14 = .ok (.invokestatic 68, 3) := by decide +kernel
theorem dX7_of_17 : decode cX7_of 17 = .ok (.ifCond .eq 12, 3) := by decide +kernel
theorem dX7_of_20 : decode cX7_of 20 = .ok (.aload_n 0, 1) := by decide +kernel
theorem dX7_of_21 : decode cX7_of 21 = .ok (.iload_n 1, 1) := by decide +kernel
theorem dX7_of_22 : decode cX7_of 22 = .ok (.iload_n 2, 1) := by decide +kernel
theorem dX7_of_23 : decode cX7_of 23 = .ok (.invokevirtual 110, 3) := by decide +kernel
theorem dX7_of_26 : decode cX7_of 26 = .ok (.goto 9, 3) := by decide +kernel
theorem dX7_of_29 : decode cX7_of 29 = .ok (.aload_n 0, 1) := by decide +kernel
theorem dX7_of_30 : decode cX7_of 30 = .ok (.bipush (-10), 2) := by decide +kernel
theorem dX7_of_32 : decode cX7_of 32 = .ok (.invokevirtual 76, 3) := by decide +kernel
theorem dX7_of_35 : decode cX7_of 35 = .ok (.ireturn, 1) := by decide +kernel
theorem dX7_notesOf_0 : decode cX7_notesOf 0 = .ok (.iconst 0, 1) := by decide +kernel
theorem dX7_notesOf_1 : decode cX7_notesOf 1 = .ok (.istore_n 2, 1) := by decide +kernel
theorem dX7_notesOf_2 : decode cX7_notesOf 2 = .ok (.iconst 0, 1) := by decide +kernel
theorem dX7_notesOf_3 : decode cX7_notesOf 3 = .ok (.istore_n 3, 1) := by decide +kernel
theorem dX7_notesOf_4 : decode cX7_notesOf 4 = .ok (.iload_n 3, 1) := by decide +kernel
theorem dX7_notesOf_5 : decode cX7_notesOf 5 = .ok (.aload_n 0, 1) := by decide +kernel
theorem dX7_notesOf_6 : decode cX7_notesOf 6 = .ok (.invokevirtual 64, 3) := by decide +kernel
theorem dX7_notesOf_9 : decode cX7_notesOf 9 = .ok (.if_icmp .ge 29, 3) := by decide +kernel
theorem dX7_notesOf_12 : decode cX7_notesOf 12 = .ok (.iload_n 2, 1) := by decide +kernel
theorem dX7_notesOf_13 : decode cX7_notesOf 13 = .ok (.aload_n 0, 1) := by decide +kernel
theorem dX7_notesOf_14 : decode cX7_notesOf 14 = .ok (.iload_n 3, 1) := by decide +kernel
theorem dX7_notesOf_15 : decode cX7_notesOf 15 = .ok (.iconst 5, 1) := by decide +kernel
theorem dX7_notesOf_16 : decode cX7_notesOf 16 = .ok (.invokevirtual 110, 3) := by decide +kernel
theorem dX7_notesOf_19 : decode cX7_notesOf 19 = .ok (.iload_n 1, 1) := by decide +kernel
theorem dX7_notesOf_20 : decode cX7_notesOf 20 = .ok (.if_icmp .ne 9, 3) := by decide +kernel
theorem dX7_notesOf_23 : decode cX7_notesOf 23 = .ok (.iconst 1, 1) := by decide +kernel
theorem dX7_notesOf_24 : decode cX7_notesOf 24 = .ok (.iload_n 3, 1) := by decide +kernel
theorem dX7_notesOf_25 : decode cX7_notesOf 25 = .ok (.ishl, 1) := by decide +kernel
theorem dX7_notesOf_26 : decode cX7_notesOf 26 = .ok (.goto 4, 3) := by decide +kernel
theorem dX7_notesOf_29 : decode cX7_notesOf 29 = .ok (.iconst 0, 1) := by decide +kernel
theorem dX7_notesOf_30 : decode cX7_notesOf 30 = .ok (.ior, 1) := by decide +kernel
theorem dX7_notesOf_31 : decode cX7_notesOf 31 = .ok (.istore_n 2, 1) := by decide +kernel
theorem dX7_notesOf_32 : decode cX7_notesOf 32 = .ok (.iinc 3 1, 3) := by decide +kernel
theorem dX7_notesOf_35 : decode cX7_notesOf 35 = .ok (.goto (-31), 3) := by decide +kernel
theorem dX7_notesOf_38 : decode cX7_notesOf 38 = .ok (.iload_n 2, 1) := by decide +kernel
theorem dX7_notesOf_39 : decode cX7_notesOf 39 = .ok (.ireturn, 1) := by decide +kernel
theorem dX7_about_0 : decode cX7_about 0 = .ok (.iload_n 1, 1) := by decide +kernel
theorem dX7_about_1 : decode cX7_about 1 = .ok (.invokestatic 80, 3) := by decide +kernel
theorem dX7_about_4 : decode cX7_about 4 = .ok (.ifCond .eq 15, 3) := by decide +kernel
theorem dX7_about_7 : decode cX7_about 7 = .ok (.iload_n 2, 1) := by decide +kernel
theorem dX7_about_8 : decode cX7_about 8 = .ok (.i2l, 1) := by decide +kernel
theorem dX7_about_9 : decode cX7_about 9 = .ok (.lconst 0, 1) := by decide +kernel
theorem dX7_about_10 : decode cX7_about 10 = .ok (.ldc2_w 158, 3) := by decide +kernel
theorem dX7_about_13 : decode cX7_about 13 = .ok (.invokestatic 68, 3) := by decide +kernel
theorem dX7_about_16 : decode cX7_about 16 = .ok (.ifCond .ne 10, 3) := by decide +kernel
theorem dX7_about_19 : decode cX7_about 19 = .ok (.aload_n 0, 1) := by decide +kernel
theorem dX7_about_20 : decode cX7_about 20 = .ok (.bipush (-2), 2) := by decide +kernel
theorem dX7_about_22 : decode cX7_about 22 = .ok (.invokevirtual 76, 3) := by decide +kernel
theorem dX7_about_25 : decode cX7_about 25 = .ok (.ireturn, 1) := by decide +kernel
theorem dX7_about_26 : decode cX7_about 26 = .ok (.iload_n 2, 1) := by decide +kernel
theorem dX7_about_27 : decode cX7_about 27 = .ok (.tableswitch 53 0 3 #[29, 35, 41, 47], 29) := by decide +kernel
theorem dX7_about_56 : decode cX7_about 56 = .ok (.aload_n 0, 1) := by decide +kernel
theorem dX7_about_57 : decode cX7_about 57 = .ok (.iload_n 1, 1) := by decide +kernel
theorem dX7_about_58 : decode cX7_about 58 = .ok (.invokevirtual 107, 3) := by decide +kernel
theorem dX7_about_61 : decode cX7_about 61 = .ok (.ireturn, 1) := by decide +kernel
theorem dX7_about_62 : decode cX7_about 62 = .ok (.aload_n 0, 1) := by decide +kernel
theorem dX7_about_63 : decode cX7_about 63 = .ok (.iload_n 1, 1) := by decide +kernel
theorem dX7_about_64 : decode cX7_about 64 = .ok (.invokevirtual 133, 3) := by decide +kernel
theorem dX7_about_67 : decode cX7_about 67 = .ok (.ireturn, 1) := by decide +kernel
theorem dX7_about_68 : decode cX7_about 68 = .ok (.aload_n 0, 1) := by decide +kernel
theorem dX7_about_69 : decode cX7_about 69 = .ok (.iload_n 1, 1) := by decide +kernel
theorem dX7_about_70 : decode cX7_about 70 = .ok (.invokevirtual 136, 3) := by decide +kernel
theorem dX7_about_73 : decode cX7_about 73 = .ok (.ireturn, 1) := by decide +kernel
theorem dX7_about_74 : decode cX7_about 74 = .ok (.aload_n 0, 1) := by decide +kernel
theorem dX7_about_75 : decode cX7_about 75 = .ok (.iload_n 1, 1) := by decide +kernel
theorem dX7_about_76 : decode cX7_about 76 = .ok (.invokevirtual 117, 3) := by decide +kernel
theorem dX7_about_79 : decode cX7_about 79 = .ok (.ireturn, 1) := by decide +kernel
theorem dX7_about_80 : decode cX7_about 80 = .ok (.aload_n 0, 1) := by decide +kernel
theorem dX7_about_81 : decode cX7_about 81 = .ok (.iload_n 1, 1) := by decide +kernel
theorem dX7_about_82 : decode cX7_about 82 = .ok (.invokevirtual 160, 3) := by decide +kernel
theorem dX7_about_85 : decode cX7_about 85 = .ok (.ireturn, 1) := by decide +kernel
theorem dX7_clash_0 : decode cX7_clash 0 = .ok (.aload_n 0, 1) := by decide +kernel
theorem dX7_clash_1 : decode cX7_clash 1 = .ok (.iload_n 1, 1) := by decide +kernel
theorem dX7_clash_2 : decode cX7_clash 2 = .ok (.invokevirtual 142, 3) := by decide +kernel
theorem dX7_clash_5 : decode cX7_clash 5 = .ok (.ifCond .eq 25, 3) := by decide +kernel
theorem dX7_clash_8 : decode cX7_clash 8 = .ok (.aload_n 0, 1) := by decide +kernel
theorem dX7_clash_9 : decode cX7_clash 9 = .ok (.iload_n 2, 1) := by decide +kernel
theorem dX7_clash_10 : decode cX7_clash 10 = .ok (.invokevirtual 142, 3) := by decide +kernel
theorem dX7_clash_13 : decode cX7_clash 13 = .ok (.ifCond .eq 17, 3) := by decide +kernel
theorem dX7_clash_16 : decode cX7_clash 16 = .ok (.iload_n 1, 1) := by decide +kernel
theorem dX7_clash_17 : decode cX7_clash 17 = .ok (.iload_n 2, 1) := by decide +kernel
theorem dX7_clash_18 : decode cX7_clash 18 = .ok (.if_icmp .eq 12, 3) := by decide +kernel
theorem dX7_clash_21 : decode cX7_clash 21 = .ok (.aload_n 0, 1) := by decide +kernel
theorem dX7_clash_22 : decode cX7_clash 22 = .ok (.iload_n 1, 1) := by decide +kernel
theorem dX7_clash_23 : decode cX7_clash 23 = .ok (.iload_n 2, 1) := by decide +kernel
theorem dX7_clash_24 : decode cX7_clash 24 = .ok (.invokevirtual 139, 3) := by decide +kernel
theorem dX7_clash_27 : decode cX7_clash 27 = .ok (.goto 9, 3) := by decide +kernel
theorem dX7_clash_30 : decode cX7_clash 30 = .ok (.aload_n 0, 1) := by decide +kernel
theorem dX7_clash_31 : decode cX7_clash 31 = .ok (.bipush (-2), 2) := by decide +kernel
theorem dX7_clash_33 : decode cX7_clash 33 = .ok (.invokevirtual 76, 3) := by decide +kernel
theorem dX7_clash_36 : decode cX7_clash 36 = .ok (.ireturn, 1) := by decide +kernel
theorem dX7_clashes_0 : decode cX7_clashes 0 = .ok (.iload_n 1, 1) := by decide +kernel
theorem dX7_clashes_1 : decode cX7_clashes 1 = .ok (.i2l, 1) := by decide +kernel
theorem dX7_clashes_2 : decode cX7_clashes 2 = .ok (.ldc2_w 98, 3) := by decide +kernel
theorem dX7_clashes_5 : decode cX7_clashes 5 = .ok (.ldc2_w 84, 3) := by decide +kernel
theorem dX7_clashes_8 : decode cX7_clashes 8 = .ok (.invokestatic 68, 3) := by decide +kernel
theorem dX7_clashes_11 : decode cX7_clashes 11 = .ok (.ifCond .eq 8, 3) := by decide +kernel
theorem dX7_clashes_14 : decode cX7_clashes 14 = .ok (.iload_n 2, 1) := by decide +kernel
theorem dX7_clashes_15 : decode cX7_clashes 15 = .ok (.iconst (-1), 1) := by decide +kernel
theorem dX7_clashes_16 : decode cX7_clashes 16 = .ok (.if_icmp .ge 10, 3) := by decide +kernel
theorem dX7_clashes_19 : decode cX7_clashes 19 = .ok (.aload_n 0, 1) := by decide +kernel
theorem dX7_clashes_20 : decode cX7_clashes 20 = .ok (.bipush (-10), 2) := by decide +kernel
theorem dX7_clashes_22 : decode cX7_clashes 22 = .ok (.invokevirtual 76, 3) := by decide +kernel
theorem dX7_clashes_25 : decode cX7_clashes 25 = .ok (.ireturn, 1) := by decide +kernel
theorem dX7_clashes_26 : decode cX7_clashes 26 = .ok (.iconst 0, 1) := by decide +kernel
theorem dX7_clashes_27 : decode cX7_clashes 27 = .ok (.istore_n 3, 1) := by decide +kernel
theorem dX7_clashes_28 : decode cX7_clashes 28 = .ok (.bipush (-5), 2) := by decide +kernel
theorem dX7_clashes_30 : decode cX7_clashes 30 = .ok (.istore 4, 2) := by decide +kernel
theorem dX7_clashes_32 : decode cX7_clashes 32 = .ok (.iconst 0, 1) := by decide +kernel
theorem dX7_clashes_33 : decode cX7_clashes 33 = .ok (.istore 5, 2) := by decide +kernel
theorem dX7_clashes_35 : decode cX7_clashes 35 = .ok (.iload 5, 2) := by decide +kernel
theorem dX7_clashes_37 : decode cX7_clashes 37 = .ok (.aload_n 0, 1) := by decide +kernel
theorem dX7_clashes_38 : decode cX7_clashes 38 = .ok (.invokevirtual 64, 3) := by decide +kernel
theorem dX7_clashes_41 : decode cX7_clashes 41 = .ok (.if_icmp .ge 80, 3) := by decide +kernel
theorem dX7_clashes_44 : decode cX7_clashes 44 = .ok (.iload 5, 2) := by decide +kernel
theorem dX7_clashes_46 : decode cX7_clashes 46 = .ok (.iconst 1, 1) := by decide +kernel
theorem dX7_clashes_47 : decode cX7_clashes 47 = .ok (.iadd, 1) := by decide +kernel
theorem dX7_clashes_48 : decode cX7_clashes 48 = .ok (.istore 6, 2) := by decide +kernel
theorem dX7_clashes_50 : decode cX7_clashes 50 = .ok (.iload 6, 2) := by decide +kernel
theorem dX7_clashes_52 : decode cX7_clashes 52 = .ok (.aload_n 0, 1) := by decide +kernel
theorem dX7_clashes_53 : decode cX7_clashes 53 = .ok (.invokevirtual 64, 3) := by decide +kernel
theorem dX7_clashes_56 : decode cX7_clashes 56 = .ok (.if_icmp .ge 59, 3) := by decide +kernel
theorem dX7_clashes_59 : decode cX7_clashes 59 = .ok (.aload_n 0, 1) := by decide +kernel
theorem dX7_clashes_60 : decode cX7_clashes 60 = .ok (.iload 5, 2) := by decide +kernel
theorem dX7_clashes_62 : decode cX7_clashes 62 = .ok (.iload 6, 2) := by decide +kernel
theorem dX7_clashes_64 : decode cX7_clashes 64 = .ok (.invokevirtual 139, 3) := by decide +kernel
theorem dX7_clashes_67 : decode cX7_clashes 67 = .ok (.istore 7, 2) := by decide +kernel
theorem dX7_clashes_69 : decode cX7_clashes 69 = .ok (.iload 7, 2) := by decide +kernel
theorem dX7_clashes_71 : decode cX7_clashes 71 = .ok (.iconst (-1), 1) := by decide +kernel
theorem dX7_clashes_72 : decode cX7_clashes 72 = .ok (.if_icmp .eq 37, 3) := by decide +kernel
theorem dX7_clashes_75 : decode cX7_clashes 75 = .ok (.iload_n 1, 1) := by decide +kernel
theorem dX7_clashes_76 : decode cX7_clashes 76 = .ok (.iconst (-1), 1) := by decide +kernel
theorem dX7_clashes_77 : decode cX7_clashes 77 = .ok (.if_icmp .eq 9, 3) := by decide +kernel
theorem dX7_clashes_80 : decode cX7_clashes 80 = .ok (.iload_n 1, 1) := by decide +kernel
theorem dX7_clashes_81 : decode cX7_clashes 81 = .ok (.iload 7, 2) := by decide +kernel
theorem dX7_clashes_83 : decode cX7_clashes 83 = .ok (.if_icmp .ne 26, 3) := by decide +kernel
theorem dX7_clashes_86 : decode cX7_clashes 86 = .ok (.iload_n 3, 1) := by decide +kernel
theorem dX7_clashes_87 : decode cX7_clashes 87 = .ok (.iload_n 2, 1) := by decide +kernel
theorem dX7_clashes_88 : decode cX7_clashes 88 = .ok (.if_icmp .ne 14, 3) := by decide +kernel
theorem dX7_clashes_91 : decode cX7_clashes 91 = .ok (.bipush 100, 2) := by decide +kernel
theorem dX7_clashes_93 : decode cX7_clashes 93 = .ok (.iload 5, 2) := by decide +kernel
theorem dX7_clashes_95 : decode cX7_clashes 95 = .ok (.imul, 1) := by decide +kernel
theorem dX7_clashes_96 : decode cX7_clashes 96 = .ok (.iload 6, 2) := by decide +kernel
theorem dX7_clashes_98 : decode cX7_clashes 98 = .ok (.iadd, 1) := by decide +kernel
theorem dX7_clashes_99 : decode cX7_clashes 99 = .ok (.goto 5, 3) := by decide +kernel
theorem dX7_clashes_102 : decode cX7_clashes 102 = .ok (.iload 4, 2) := by decide +kernel
theorem dX7_clashes_104 : decode cX7_clashes 104 = .ok (.istore 4, 2) := by decide +kernel
theorem dX7_clashes_106 : decode cX7_clashes 106 = .ok (.iinc 3 1, 3) := by decide +kernel
theorem dX7_clashes_109 : decode cX7_clashes 109 = .ok (.iinc 6 1, 3) := by decide +kernel
theorem dX7_clashes_112 : decode cX7_clashes 112 = .ok (.goto (-62), 3) := by decide +kernel
theorem dX7_clashes_115 : decode cX7_clashes 115 = .ok (.iinc 5 1, 3) := by decide +kernel
theorem dX7_clashes_118 : decode cX7_clashes 118 = .ok (.goto (-83), 3) := by decide +kernel
theorem dX7_clashes_121 : decode cX7_clashes 121 = .ok (.iload_n 2, 1) := by decide +kernel
theorem dX7_clashes_122 : decode cX7_clashes 122 = .ok (.iconst (-1), 1) := by decide +kernel
theorem dX7_clashes_123 : decode cX7_clashes 123 = .ok (.if_icmp .ne 7, 3) := by decide +kernel
theorem dX7_clashes_126 : decode cX7_clashes 126 = .ok (.iload_n 3, 1) := by decide +kernel
theorem dX7_clashes_127 : decode cX7_clashes 127 = .ok (.goto 5, 3) := by decide +kernel
theorem dX7_clashes_130 : decode cX7_clashes 130 = .ok (.iload 4, 2) := by decide +kernel
theorem dX7_clashes_132 : decode cX7_clashes 132 = .ok (.ireturn, 1) := by decide +kernel
theorem dX7_weigh_0 : decode cX7_weigh 0 = .ok (.aload_n 0, 1) := by decide +kernel
theorem dX7_weigh_1 : decode cX7_weigh 1 = .ok (.invokevirtual 152, 3) := by decide +kernel
theorem dX7_weigh_4 : decode cX7_weigh 4 = .ok (.istore 4, 2) := by decide +kernel
theorem dX7_weigh_6 : decode cX7_weigh 6 = .ok (.iload 4, 2) := by decide +kernel
theorem dX7_weigh_8 : decode cX7_weigh 8 = .ok (.aload_n 0, 1) := by decide +kernel
theorem dX7_weigh_9 : decode cX7_weigh 9 = .ok (.getfield 163, 3) := by decide +kernel
theorem dX7_weigh_12 : decode cX7_weigh 12 = .ok (.if_icmp .ge 24, 3) := by decide +kernel
theorem dX7_weigh_15 : decode cX7_weigh 15 = .ok (.aload_n 0, 1) := by decide +kernel
theorem dX7_weigh_16 : decode cX7_weigh 16 = .ok (.iload 4, 2) := by decide +kernel
theorem dX7_weigh_18 : decode cX7_weigh 18 = .ok (.putfield 163, 3) := by decide +kernel
theorem dX7_weigh_21 : decode cX7_weigh 21 = .ok (.aload_n 0, 1) := by decide +kernel
theorem dX7_weigh_22 : decode cX7_weigh 22 = .ok (.iload_n 1, 1) := by decide +kernel
theorem dX7_weigh_23 : decode cX7_weigh 23 = .ok (.putfield 167, 3) := by decide +kernel
theorem dX7_weigh_26 : decode cX7_weigh 26 = .ok (.aload_n 0, 1) := by decide +kernel
theorem dX7_weigh_27 : decode cX7_weigh 27 = .ok (.iload_n 2, 1) := by decide +kernel
theorem dX7_weigh_28 : decode cX7_weigh 28 = .ok (.putfield 170, 3) := by decide +kernel
theorem dX7_weigh_31 : decode cX7_weigh 31 = .ok (.aload_n 0, 1) := by decide +kernel
theorem dX7_weigh_32 : decode cX7_weigh 32 = .ok (.iload_n 3, 1) := by decide +kernel
theorem dX7_weigh_33 : decode cX7_weigh 33 = .ok (.putfield 173, 3) := by decide +kernel
theorem dX7_weigh_36 : decode cX7_weigh 36 = .ok (.return_, 1) := by decide +kernel
theorem dX7_tryOne_0 : decode cX7_tryOne 0 = .ok (.iconst 0, 1) := by decide +kernel
theorem dX7_tryOne_1 : decode cX7_tryOne 1 = .ok (.istore_n 2, 1) := by decide +kernel
theorem dX7_tryOne_2 : decode cX7_tryOne 2 = .ok (.iload_n 2, 1) := by decide +kernel
theorem dX7_tryOne_3 : decode cX7_tryOne 3 = .ok (.aload_n 0, 1) := by decide +kernel
theorem dX7_tryOne_4 : decode cX7_tryOne 4 = .ok (.invokevirtual 64, 3) := by decide +kernel
theorem dX7_tryOne_7 : decode cX7_tryOne 7 = .ok (.if_icmp .ge 87, 3) := by decide +kernel
theorem dX7_tryOne_10 : decode cX7_tryOne 10 = .ok (.aload_n 0, 1) := by decide +kernel
theorem dX7_tryOne_11 : decode cX7_tryOne 11 = .ok (.iload_n 2, 1) := by decide +kernel
theorem dX7_tryOne_12 : decode cX7_tryOne 12 = .ok (.iconst 5, 1) := by decide +kernel
theorem dX7_tryOne_13 : decode cX7_tryOne 13 = .ok (.invokevirtual 110, 3) := by decide +kernel
theorem dX7_tryOne_16 : decode cX7_tryOne 16 = .ok (.istore_n 3, 1) := by decide +kernel
theorem dX7_tryOne_17 : decode cX7_tryOne 17 = .ok (.iconst 0, 1) := by decide +kernel
theorem dX7_tryOne_18 : decode cX7_tryOne 18 = .ok (.istore 4, 2) := by decide +kernel
theorem dX7_tryOne_20 : decode cX7_tryOne 20 = .ok (.iload 4, 2) := by decide +kernel
theorem dX7_tryOne_22 : decode cX7_tryOne 22 = .ok (.iconst 4, 1) := by decide +kernel
theorem dX7_tryOne_23 : decode cX7_tryOne 23 = .ok (.if_icmp .ge 59, 3) := by decide +kernel
theorem dX7_tryOne_26 : decode cX7_tryOne 26 = .ok (.iload_n 3, 1) := by decide +kernel
theorem dX7_tryOne_27 : decode cX7_tryOne 27 = .ok (.iconst (-1), 1) := by decide +kernel
theorem dX7_tryOne_28 : decode cX7_tryOne 28 = .ok (.if_icmp .eq 54, 3) := by decide +kernel
theorem dX7_tryOne_31 : decode cX7_tryOne 31 = .ok (.iload 4, 2) := by decide +kernel
theorem dX7_tryOne_33 : decode cX7_tryOne 33 = .ok (.iload_n 3, 1) := by decide +kernel
theorem dX7_tryOne_34 : decode cX7_tryOne 34 = .ok (.if_icmp .eq 42, 3) := by decide +kernel
theorem dX7_tryOne_37 : decode cX7_tryOne 37 = .ok (.aload_n 0, 1) := by decide +kernel
theorem dX7_tryOne_38 : decode cX7_tryOne 38 = .ok (.iload_n 2, 1) := by decide +kernel
theorem dX7_tryOne_39 : decode cX7_tryOne 39 = .ok (.iload 4, 2) := by decide +kernel
theorem dX7_tryOne_41 : decode cX7_tryOne 41 = .ok (.invokevirtual 148, 3) := by decide +kernel
theorem dX7_tryOne_44 : decode cX7_tryOne 44 = .ok (.iload_n 1, 1) := by decide +kernel
theorem dX7_tryOne_45 : decode cX7_tryOne 45 = .ok (.ifCond .eq 18, 3) := by decide +kernel
theorem dX7_tryOne_48 : decode cX7_tryOne 48 = .ok (.aload_n 0, 1) := by decide +kernel
theorem dX7_tryOne_49 : decode cX7_tryOne 49 = .ok (.iload_n 2, 1) := by decide +kernel
theorem dX7_tryOne_50 : decode cX7_tryOne 50 = .ok (.bipush 10, 2) := by decide +kernel
theorem dX7_tryOne_52 : decode cX7_tryOne 52 = .ok (.iload_n 2, 1) := by decide +kernel
theorem dX7_tryOne_53 : decode cX7_tryOne 53 = .ok (.imul, 1) := by decide +kernel
theorem dX7_tryOne_54 : decode cX7_tryOne 54 = .ok (.iload 4, 2) := by decide +kernel
theorem dX7_tryOne_56 : decode cX7_tryOne 56 = .ok (.iadd, 1) := by decide +kernel
theorem dX7_tryOne_57 : decode cX7_tryOne 57 = .ok (.invokevirtual 176, 3) := by decide +kernel
theorem dX7_tryOne_60 : decode cX7_tryOne 60 = .ok (.goto 16, 3) := by decide +kernel
theorem dX7_tryOne_63 : decode cX7_tryOne 63 = .ok (.aload_n 0, 1) := by decide +kernel
theorem dX7_tryOne_64 : decode cX7_tryOne 64 = .ok (.iconst 1, 1) := by decide +kernel
theorem dX7_tryOne_65 : decode cX7_tryOne 65 = .ok (.bipush 10, 2) := by decide +kernel
theorem dX7_tryOne_67 : decode cX7_tryOne 67 = .ok (.iload_n 2, 1) := by decide +kernel
theorem dX7_tryOne_68 : decode cX7_tryOne 68 = .ok (.imul, 1) := by decide +kernel
theorem dX7_tryOne_69 : decode cX7_tryOne 69 = .ok (.iload 4, 2) := by decide +kernel
theorem dX7_tryOne_71 : decode cX7_tryOne 71 = .ok (.iadd, 1) := by decide +kernel
theorem dX7_tryOne_72 : decode cX7_tryOne 72 = .ok (.iconst (-1), 1) := by decide +kernel
theorem dX7_tryOne_73 : decode cX7_tryOne 73 = .ok (.invokevirtual 179, 3) := by decide +kernel
theorem dX7_tryOne_76 : decode cX7_tryOne 76 = .ok (.iinc 4 1, 3) := by decide +kernel
theorem dX7_tryOne_79 : decode cX7_tryOne 79 = .ok (.goto (-59), 3) := by decide +kernel
theorem dX7_tryOne_82 : decode cX7_tryOne 82 = .ok (.aload_n 0, 1) := by decide +kernel
theorem dX7_tryOne_83 : decode cX7_tryOne 83 = .ok (.iload_n 2, 1) := by decide +kernel
theorem dX7_tryOne_84 : decode cX7_tryOne 84 = .ok (.iload_n 3, 1) := by decide +kernel
theorem dX7_tryOne_85 : decode cX7_tryOne 85 = .ok (.invokevirtual 148, 3) := by decide +kernel
theorem dX7_tryOne_88 : decode cX7_tryOne 88 = .ok (.iinc 2 1, 3) := by decide +kernel
theorem dX7_tryOne_91 : decode cX7_tryOne 91 = .ok (.goto (-89), 3) := by decide +kernel
theorem dX7_tryOne_94 : decode cX7_tryOne 94 = .ok (.return_, 1) := by decide +kernel
theorem dX7_trySecond_0 : decode cX7_trySecond 0 = .ok (.iload_n 1, 1) := by decide +kernel
theorem dX7_trySecond_1 : decode cX7_trySecond 1 = .ok (.iconst 1, 1) := by decide +kernel
theorem dX7_trySecond_2 : decode cX7_trySecond 2 = .ok (.iadd, 1) := by decide +kernel
theorem dX7_trySecond_3 : decode cX7_trySecond 3 = .ok (.istore_n 3, 1) := by decide +kernel
theorem dX7_trySecond_4 : decode cX7_trySecond 4 = .ok (.iload_n 3, 1) := by decide +kernel
theorem dX7_trySecond_5 : decode cX7_trySecond 5 = .ok (.aload_n 0, 1) := by decide +kernel
theorem dX7_trySecond_6 : decode cX7_trySecond 6 = .ok (.invokevirtual 64, 3) := by decide +kernel
theorem dX7_trySecond_9 : decode cX7_trySecond 9 = .ok (.if_icmp .ge 72, 3) := by decide +kernel
theorem dX7_trySecond_12 : decode cX7_trySecond 12 = .ok (.aload_n 0, 1) := by decide +kernel
theorem dX7_trySecond_13 : decode cX7_trySecond 13 = .ok (.iload_n 3, 1) := by decide +kernel
theorem dX7_trySecond_14 : decode cX7_trySecond 14 = .ok (.iconst 5, 1) := by decide +kernel
theorem dX7_trySecond_15 : decode cX7_trySecond 15 = .ok (.invokevirtual 110, 3) := by decide +kernel
theorem dX7_trySecond_18 : decode cX7_trySecond 18 = .ok (.istore 4, 2) := by decide +kernel
theorem dX7_trySecond_20 : decode cX7_trySecond 20 = .ok (.iconst 0, 1) := by decide +kernel
theorem dX7_trySecond_21 : decode cX7_trySecond 21 = .ok (.istore 5, 2) := by decide +kernel
theorem dX7_trySecond_23 : decode cX7_trySecond 23 = .ok (.iload 5, 2) := by decide +kernel
theorem dX7_trySecond_25 : decode cX7_trySecond 25 = .ok (.iconst 4, 1) := by decide +kernel
theorem dX7_trySecond_26 : decode cX7_trySecond 26 = .ok (.if_icmp .ge 42, 3) := by decide +kernel
theorem dX7_trySecond_29 : decode cX7_trySecond 29 = .ok (.iload 4, 2) := by decide +kernel
theorem dX7_trySecond_31 : decode cX7_trySecond 31 = .ok (.iconst (-1), 1) := by decide +kernel
theorem dX7_trySecond_32 : decode cX7_trySecond 32 = .ok (.if_icmp .eq 36, 3) := by decide +kernel
theorem dX7_trySecond_35 : decode cX7_trySecond 35 = .ok (.iload 5, 2) := by decide +kernel
theorem dX7_trySecond_37 : decode cX7_trySecond 37 = .ok (.iload 4, 2) := by decide +kernel
theorem dX7_trySecond_39 : decode cX7_trySecond 39 = .ok (.if_icmp .eq 23, 3) := by decide +kernel
theorem dX7_trySecond_42 : decode cX7_trySecond 42 = .ok (.aload_n 0, 1) := by decide +kernel
theorem dX7_trySecond_43 : decode cX7_trySecond 43 = .ok (.iload_n 3, 1) := by decide +kernel
theorem dX7_trySecond_44 : decode cX7_trySecond 44 = .ok (.iload 5, 2) := by decide +kernel
theorem dX7_trySecond_46 : decode cX7_trySecond 46 = .ok (.invokevirtual 148, 3) := by decide +kernel
theorem dX7_trySecond_49 : decode cX7_trySecond 49 = .ok (.aload_n 0, 1) := by decide +kernel
theorem dX7_trySecond_50 : decode cX7_trySecond 50 = .ok (.iconst 2, 1) := by decide +kernel
theorem dX7_trySecond_51 : decode cX7_trySecond 51 = .ok (.iload_n 2, 1) := by decide +kernel
theorem dX7_trySecond_52 : decode cX7_trySecond 52 = .ok (.bipush 10, 2) := by decide +kernel
theorem dX7_trySecond_54 : decode cX7_trySecond 54 = .ok (.iload_n 3, 1) := by decide +kernel
theorem dX7_trySecond_55 : decode cX7_trySecond 55 = .ok (.imul, 1) := by decide +kernel
theorem dX7_trySecond_56 : decode cX7_trySecond 56 = .ok (.iload 5, 2) := by decide +kernel
theorem dX7_trySecond_58 : decode cX7_trySecond 58 = .ok (.iadd, 1) := by decide +kernel
theorem dX7_trySecond_59 : decode cX7_trySecond 59 = .ok (.invokevirtual 179, 3) := by decide +kernel
theorem dX7_trySecond_62 : decode cX7_trySecond 62 = .ok (.iinc 5 1, 3) := by decide +kernel
theorem dX7_trySecond_65 : decode cX7_trySecond 65 = .ok (.goto (-42), 3) := by decide +kernel
theorem dX7_trySecond_68 : decode cX7_trySecond 68 = .ok (.aload_n 0, 1) := by decide +kernel
theorem dX7_trySecond_69 : decode cX7_trySecond 69 = .ok (.iload_n 3, 1) := by decide +kernel
theorem dX7_trySecond_70 : decode cX7_trySecond 70 = .ok (.iload 4, 2) := by decide +kernel
theorem dX7_trySecond_72 : decode cX7_trySecond 72 = .ok (.invokevirtual 148, 3) := by decide +kernel
theorem dX7_trySecond_75 : decode cX7_trySecond 75 = .ok (.iinc 3 1, 3) := by decide +kernel
theorem dX7_trySecond_78 : decode cX7_trySecond 78 = .ok (.goto (-74), 3) := by decide +kernel
theorem dX7_trySecond_81 : decode cX7_trySecond 81 = .ok (.return_, 1) := by decide +kernel
theorem dX7_given_0 : decode cX7_given 0 = .ok (.iload_n 1, 1) := by decide +kernel
theorem dX7_given_1 : decode cX7_given 1 = .ok (.i2l, 1) := by decide +kernel
theorem dX7_given_2 : decode cX7_given 2 = .ok (.lconst 0, 1) := by decide +kernel
theorem dX7_given_3 : decode cX7_given 3 = .ok (.ldc2_w 183, 3) := by decide +kernel
theorem dX7_given_6 : decode cX7_given 6 = .ok (.invokestatic 68, 3) := by decide +kernel
theorem dX7_given_9 : decode cX7_given 9 = .ok (.ifCond .eq 8, 3) := by decide +kernel
theorem dX7_given_12 : decode cX7_given 12 = .ok (.iload_n 2, 1) := by decide +kernel
theorem dX7_given_13 : decode cX7_given 13 = .ok (.iconst (-1), 1) := by decide +kernel
theorem dX7_given_14 : decode cX7_given 14 = .ok (.if_icmp .ge 10, 3) := by decide +kernel
theorem dX7_given_17 : decode cX7_given 17 = .ok (.aload_n 0, 1) := by decide +kernel
theorem dX7_given_18 : decode cX7_given 18 = .ok (.bipush (-10), 2) := by decide +kernel
theorem dX7_given_20 : decode cX7_given 20 = .ok (.invokevirtual 76, 3) := by decide +kernel
theorem dX7_given_23 : decode cX7_given 23 = .ok (.ireturn, 1) := by decide +kernel
theorem dX7_given_24 : decode cX7_given 24 = .ok (.aload_n 0, 1) := by decide +kernel
theorem dX7_given_25 : decode cX7_given 25 = .ok (.ldc 185, 2) := by decide +kernel
theorem dX7_given_27 : decode cX7_given 27 = .ok (.putfield 163, 3) := by decide +kernel
theorem dX7_given_30 : decode cX7_given 30 = .ok (.aload_n 0, 1) := by decide +kernel
theorem dX7_given_31 : decode cX7_given 31 = .ok (.iconst 0, 1) := by decide +kernel
theorem dX7_given_32 : decode cX7_given 32 = .ok (.iconst (-1), 1) := by decide +kernel
theorem dX7_given_33 : decode cX7_given 33 = .ok (.iconst (-1), 1) := by decide +kernel
theorem dX7_given_34 : decode cX7_given 34 = .ok (.invokevirtual 179, 3) := by decide +kernel
theorem dX7_given_37 : decode cX7_given 37 = .ok (.iload_n 1, 1) := by decide +kernel
theorem dX7_given_38 : decode cX7_given 38 = .ok (.ifCond .le 8, 3) := by decide +kernel
theorem dX7_given_41 : decode cX7_given 41 = .ok (.aload_n 0, 1) := by decide +kernel
theorem dX7_given_42 : decode cX7_given 42 = .ok (.iconst 0, 1) := by decide +kernel
theorem dX7_given_43 : decode cX7_given 43 = .ok (.invokevirtual 186, 3) := by decide +kernel
theorem dX7_given_46 : decode cX7_given 46 = .ok (.iload_n 1, 1) := by decide +kernel
theorem dX7_given_47 : decode cX7_given 47 = .ok (.iconst 1, 1) := by decide +kernel
theorem dX7_given_48 : decode cX7_given 48 = .ok (.if_icmp .le 8, 3) := by decide +kernel
theorem dX7_given_51 : decode cX7_given 51 = .ok (.aload_n 0, 1) := by decide +kernel
theorem dX7_given_52 : decode cX7_given 52 = .ok (.iconst 1, 1) := by decide +kernel
theorem dX7_given_53 : decode cX7_given 53 = .ok (.invokevirtual 186, 3) := by decide +kernel
theorem dX7_given_56 : decode cX7_given 56 = .ok (.iload_n 2, 1) := by decide +kernel
theorem dX7_given_57 : decode cX7_given 57 = .ok (.iconst (-1), 1) := by decide +kernel
theorem dX7_given_58 : decode cX7_given 58 = .ok (.if_icmp .ne 10, 3) := by decide +kernel
theorem dX7_given_61 : decode cX7_given 61 = .ok (.aload_n 0, 1) := by decide +kernel
theorem dX7_given_62 : decode cX7_given 62 = .ok (.getfield 163, 3) := by decide +kernel
theorem dX7_given_65 : decode cX7_given 65 = .ok (.goto 31, 3) := by decide +kernel
theorem dX7_given_68 : decode cX7_given 68 = .ok (.iload_n 2, 1) := by decide +kernel
theorem dX7_given_69 : decode cX7_given 69 = .ok (.aload_n 0, 1) := by decide +kernel
theorem dX7_given_70 : decode cX7_given 70 = .ok (.getfield 167, 3) := by decide +kernel
theorem dX7_given_73 : decode cX7_given 73 = .ok (.if_icmp .lt 8, 3) := by decide +kernel
theorem dX7_given_76 : decode cX7_given 76 = .ok (.bipush (-5), 2) := by decide +kernel
theorem dX7_given_78 : decode cX7_given 78 = .ok (.goto 18, 3) := by decide +kernel
theorem dX7_given_81 : decode cX7_given 81 = .ok (.iload_n 2, 1) := by decide +kernel
theorem dX7_given_82 : decode cX7_given 82 = .ok (.ifCond .ne 10, 3) := by decide +kernel
theorem dX7_given_85 : decode cX7_given 85 = .ok (.aload_n 0, 1) := by decide +kernel
theorem dX7_given_86 : decode cX7_given 86 = .ok (.getfield 170, 3) := by decide +kernel
theorem dX7_given_89 : decode cX7_given 89 = .ok (.goto 7, 3) := by decide +kernel
theorem dX7_given_92 : decode cX7_given 92 = .ok (.aload_n 0, 1) := by decide +kernel
theorem dX7_given_93 : decode cX7_given 93 = .ok (.getfield 173, 3) := by decide +kernel
theorem dX7_given_96 : decode cX7_given 96 = .ok (.ireturn, 1) := by decide +kernel
theorem dX7_out_0 : decode cX7_out 0 = .ok (.iconst 0, 1) := by decide +kernel
theorem dX7_out_1 : decode cX7_out 1 = .ok (.istore_n 1, 1) := by decide +kernel
theorem dX7_out_2 : decode cX7_out 2 = .ok (.iconst 0, 1) := by decide +kernel
theorem dX7_out_3 : decode cX7_out 3 = .ok (.istore_n 2, 1) := by decide +kernel
theorem dX7_out_4 : decode cX7_out 4 = .ok (.iload_n 2, 1) := by decide +kernel
theorem dX7_out_5 : decode cX7_out 5 = .ok (.aload_n 0, 1) := by decide +kernel
theorem dX7_out_6 : decode cX7_out 6 = .ok (.invokevirtual 64, 3) := by decide +kernel
theorem dX7_out_9 : decode cX7_out 9 = .ok (.if_icmp .ge 81, 3) := by decide +kernel
theorem dX7_out_12 : decode cX7_out 12 = .ok (.iload_n 1, 1) := by decide +kernel
theorem dX7_out_13 : decode cX7_out 13 = .ok (.aload_n 0, 1) := by decide +kernel
theorem dX7_out_14 : decode cX7_out 14 = .ok (.iload_n 2, 1) := by decide +kernel
theorem dX7_out_15 : decode cX7_out 15 = .ok (.invokevirtual 123, 3) := by decide +kernel
theorem dX7_out_18 : decode cX7_out 18 = .ok (.ifCond .eq 9, 3) := by decide +kernel
theorem dX7_out_21 : decode cX7_out 21 = .ok (.iconst 1, 1) := by decide +kernel
theorem dX7_out_22 : decode cX7_out 22 = .ok (.iload_n 2, 1) := by decide +kernel
theorem dX7_out_23 : decode cX7_out 23 = .ok (.ishl, 1) := by decide +kernel
theorem dX7_out_24 : decode cX7_out 24 = .ok (.goto 4, 3) := by decide +kernel
theorem dX7_out_27 : decode cX7_out 27 = .ok (.iconst 0, 1) := by decide +kernel
theorem dX7_out_28 : decode cX7_out 28 = .ok (.ior, 1) := by decide +kernel
theorem dX7_out_29 : decode cX7_out 29 = .ok (.istore_n 1, 1) := by decide +kernel
theorem dX7_out_30 : decode cX7_out 30 = .ok (.aload_n 0, 1) := by decide +kernel
theorem dX7_out_31 : decode cX7_out 31 = .ok (.getfield 27, 3) := by decide +kernel
theorem dX7_out_34 : decode cX7_out 34 = .ok (.iload_n 2, 1) := by decide +kernel
theorem dX7_out_35 : decode cX7_out 35 = .ok (.iconst 0, 1) := by decide +kernel
theorem dX7_out_36 : decode cX7_out 36 = .ok (.iastore, 1) := by decide +kernel
theorem dX7_out_37 : decode cX7_out 37 = .ok (.iconst 0, 1) := by decide +kernel
theorem dX7_out_38 : decode cX7_out 38 = .ok (.istore_n 3, 1) := by decide +kernel
theorem dX7_out_39 : decode cX7_out 39 = .ok (.iload_n 3, 1) := by decide +kernel
theorem dX7_out_40 : decode cX7_out 40 = .ok (.aload_n 0, 1) := by decide +kernel
theorem dX7_out_41 : decode cX7_out 41 = .ok (.invokevirtual 64, 3) := by decide +kernel
theorem dX7_out_44 : decode cX7_out 44 = .ok (.if_icmp .ge 40, 3) := by decide +kernel
theorem dX7_out_47 : decode cX7_out 47 = .ok (.aload_n 0, 1) := by decide +kernel
theorem dX7_out_48 : decode cX7_out 48 = .ok (.getfield 27, 3) := by decide +kernel
theorem dX7_out_51 : decode cX7_out 51 = .ok (.iload_n 2, 1) := by decide +kernel
theorem dX7_out_52 : decode cX7_out 52 = .ok (.dup2, 1) := by decide +kernel
theorem dX7_out_53 : decode cX7_out 53 = .ok (.iaload, 1) := by decide +kernel
theorem dX7_out_54 : decode cX7_out 54 = .ok (.iload_n 2, 1) := by decide +kernel
theorem dX7_out_55 : decode cX7_out 55 = .ok (.iload_n 3, 1) := by decide +kernel
theorem dX7_out_56 : decode cX7_out 56 = .ok (.if_icmp .eq 19, 3) := by decide +kernel
theorem dX7_out_59 : decode cX7_out 59 = .ok (.aload_n 0, 1) := by decide +kernel
theorem dX7_out_60 : decode cX7_out 60 = .ok (.iload_n 2, 1) := by decide +kernel
theorem dX7_out_61 : decode cX7_out 61 = .ok (.iload_n 3, 1) := by decide +kernel
theorem dX7_out_62 : decode cX7_out 62 = .ok (.invokevirtual 139, 3) := by decide +kernel
theorem dX7_out_65 : decode cX7_out 65 = .ok (.iconst (-1), 1) := by decide +kernel
theorem dX7_out_66 : decode cX7_out 66 = .ok (.if_icmp .eq 9, 3) := by decide +kernel
theorem dX7_out_69 : decode cX7_out 69 = .ok (.iconst 1, 1) := by decide +kernel
theorem dX7_out_70 : decode cX7_out 70 = .ok (.iload_n 3, 1) := by decide +kernel
theorem dX7_out_71 : decode cX7_out 71 = .ok (.ishl, 1) := by decide +kernel
theorem dX7_out_72 : decode cX7_out 72 = .ok (.goto 4, 3) := by decide +kernel
theorem dX7_out_75 : decode cX7_out 75 = .ok (.iconst 0, 1) := by decide +kernel
theorem dX7_out_76 : decode cX7_out 76 = .ok (.ior, 1) := by decide +kernel
theorem dX7_out_77 : decode cX7_out 77 = .ok (.iastore, 1) := by decide +kernel
theorem dX7_out_78 : decode cX7_out 78 = .ok (.iinc 3 1, 3) := by decide +kernel
theorem dX7_out_81 : decode cX7_out 81 = .ok (.goto (-42), 3) := by decide +kernel
theorem dX7_out_84 : decode cX7_out 84 = .ok (.iinc 2 1, 3) := by decide +kernel
theorem dX7_out_87 : decode cX7_out 87 = .ok (.goto (-83), 3) := by decide +kernel
theorem dX7_out_90 : decode cX7_out 90 = .ok (.iload_n 1, 1) := by decide +kernel
theorem dX7_out_91 : decode cX7_out 91 = .ok (.istore_n 2, 1) := by decide +kernel
theorem dX7_out_92 : decode cX7_out 92 = .ok (.iconst 0, 1) := by decide +kernel
theorem dX7_out_93 : decode cX7_out 93 = .ok (.istore_n 3, 1) := by decide +kernel
theorem dX7_out_94 : decode cX7_out 94 = .ok (.iload_n 3, 1) := by decide +kernel
theorem dX7_out_95 : decode cX7_out 95 = .ok (.iconst 1, 1) := by decide +kernel
theorem dX7_out_96 : decode cX7_out 96 = .ok (.aload_n 0, 1) := by decide +kernel
theorem dX7_out_97 : decode cX7_out 97 = .ok (.invokevirtual 64, 3) := by decide +kernel
theorem dX7_out_100 : decode cX7_out 100 = .ok (.ishl, 1) := by decide +kernel
theorem dX7_out_101 : decode cX7_out 101 = .ok (.if_icmp .ge 128, 3) := by decide +kernel
theorem dX7_out_104 : decode cX7_out 104 = .ok (.iload_n 3, 1) := by decide +kernel
theorem dX7_out_105 : decode cX7_out 105 = .ok (.invokestatic 190, 3) := by decide +kernel
theorem dX7_out_108 : decode cX7_out 108 = .ok (.iload_n 2, 1) := by decide +kernel
theorem dX7_out_109 : decode cX7_out 109 = .ok (.invokestatic 190, 3) := by decide +kernel
theorem dX7_out_112 : decode cX7_out 112 = .ok (.if_icmp .lt 19, 3) := by decide +kernel
theorem dX7_out_115 : decode cX7_out 115 = .ok (.iload_n 3, 1) := by decide +kernel
theorem dX7_out_116 : decode cX7_out 116 = .ok (.invokestatic 190, 3) := by decide +kernel
theorem dX7_out_119 : decode cX7_out 119 = .ok (.iload_n 2, 1) := by decide +kernel
theorem dX7_out_120 : decode cX7_out 120 = .ok (.invokestatic 190, 3) := by decide +kernel
theorem dX7_out_123 : decode cX7_out 123 = .ok (.if_icmp .ne 12, 3) := by decide +kernel
theorem dX7_out_126 : decode cX7_out 126 = .ok (.iload_n 3, 1) := by decide +kernel
theorem dX7_out_127 : decode cX7_out 127 = .ok (.iload_n 2, 1) := by decide +kernel
theorem dX7_out_128 : decode cX7_out 128 = .ok (.if_icmp .ge 7, 3) := by decide +kernel
theorem dX7_out_131 : decode cX7_out 131 = .ok (.iconst 1, 1) := by decide +kernel
theorem dX7_out_132 : decode cX7_out 132 = .ok (.goto 4, 3) := by decide +kernel
theorem dX7_out_135 : decode cX7_out 135 = .ok (.iconst 0, 1) := by decide +kernel
theorem dX7_out_136 : decode cX7_out 136 = .ok (.istore 4, 2) := by decide +kernel
theorem dX7_out_138 : decode cX7_out 138 = .ok (.iload 4, 2) := by decide +kernel
theorem dX7_out_140 : decode cX7_out 140 = .ok (.ifCond .eq 15, 3) := by decide +kernel
theorem dX7_out_143 : decode cX7_out 143 = .ok (.iload_n 3, 1) := by decide +kernel
theorem dX7_out_144 : decode cX7_out 144 = .ok (.iload_n 1, 1) := by decide +kernel
theorem dX7_out_145 : decode cX7_out 145 = .ok (.iconst (-1), 1) := by decide +kernel
theorem dX7_out_146 : decode cX7_out 146 = .ok (.ixor, 1) := by decide +kernel
theorem dX7_out_147 : decode cX7_out 147 = .ok (.iand, 1) := by decide +kernel
theorem dX7_out_148 : decode cX7_out 148 = .ok (.ifCond .ne 7, 3) := by decide +kernel
theorem dX7_out_151 : decode cX7_out 151 = .ok (.iconst 1, 1) := by decide +kernel
theorem dX7_out_152 : decode cX7_out 152 = .ok (.goto 4, 3) := by decide +kernel
theorem dX7_out_155 : decode cX7_out 155 = .ok (.iconst 0, 1) := by decide +kernel
theorem dX7_out_156 : decode cX7_out 156 = .ok (.istore 5, 2) := by decide +kernel
theorem dX7_out_158 : decode cX7_out 158 = .ok (.iconst 0, 1) := by decide +kernel
theorem dX7_out_159 : decode cX7_out 159 = .ok (.istore 6, 2) := by decide +kernel
theorem dX7_out_161 : decode cX7_out 161 = .ok (.iload 6, 2) := by decide +kernel
theorem dX7_out_163 : decode cX7_out 163 = .ok (.aload_n 0, 1) := by decide +kernel
theorem dX7_out_164 : decode cX7_out 164 = .ok (.invokevirtual 64, 3) := by decide +kernel
theorem dX7_out_167 : decode cX7_out 167 = .ok (.if_icmp .ge 45, 3) := by decide +kernel
theorem dX7_out_170 : decode cX7_out 170 = .ok (.iload 5, 2) := by decide +kernel
theorem dX7_out_172 : decode cX7_out 172 = .ok (.ifCond .eq 40, 3) := by decide +kernel
theorem dX7_out_175 : decode cX7_out 175 = .ok (.iload_n 3, 1) := by decide +kernel
theorem dX7_out_176 : decode cX7_out 176 = .ok (.iload 6, 2) := by decide +kernel
theorem dX7_out_178 : decode cX7_out 178 = .ok (.ishr, 1) := by decide +kernel
theorem dX7_out_179 : decode cX7_out 179 = .ok (.iconst 1, 1) := by decide +kernel
theorem dX7_out_180 : decode cX7_out 180 = .ok (.iand, 1) := by decide +kernel
theorem dX7_out_181 : decode cX7_out 181 = .ok (.iconst 1, 1) := by decide +kernel
theorem dX7_out_182 : decode cX7_out 182 = .ok (.if_icmp .eq 17, 3) := by decide +kernel
theorem dX7_out_185 : decode cX7_out 185 = .ok (.aload_n 0, 1) := by decide +kernel
theorem dX7_out_186 : decode cX7_out 186 = .ok (.getfield 27, 3) := by decide +kernel
theorem dX7_out_189 : decode cX7_out 189 = .ok (.iload 6, 2) := by decide +kernel
theorem dX7_out_191 : decode cX7_out 191 = .ok (.iaload, 1) := by decide +kernel
theorem dX7_out_192 : decode cX7_out 192 = .ok (.iload_n 3, 1) := by decide +kernel
theorem dX7_out_193 : decode cX7_out 193 = .ok (.iconst (-1), 1) := by decide +kernel
theorem dX7_out_194 : decode cX7_out 194 = .ok (.ixor, 1) := by decide +kernel
theorem dX7_out_195 : decode cX7_out 195 = .ok (.iand, 1) := by decide +kernel
theorem dX7_out_196 : decode cX7_out 196 = .ok (.ifCond .ne 7, 3) := by decide +kernel
theorem dX7_out_199 : decode cX7_out 199 = .ok (.iconst 1, 1) := by decide +kernel
theorem dX7_out_200 : decode cX7_out 200 = .ok (.goto 4, 3) := by decide +kernel
theorem dX7_out_203 : decode cX7_out 203 = .ok (.iconst 0, 1) := by decide +kernel
theorem dX7_out_204 : decode cX7_out 204 = .ok (.istore 5, 2) := by decide +kernel
theorem dX7_out_206 : decode cX7_out 206 = .ok (.iinc 6 1, 3) := by decide +kernel
theorem dX7_out_209 : decode cX7_out 209 = .ok (.goto (-48), 3) := by decide +kernel
theorem dX7_out_212 : decode cX7_out 212 = .ok (.iload 5, 2) := by decide +kernel
theorem dX7_out_214 : decode cX7_out 214 = .ok (.ifCond .eq 7, 3) := by decide +kernel
theorem dX7_out_217 : decode cX7_out 217 = .ok (.iload_n 3, 1) := by decide +kernel
theorem dX7_out_218 : decode cX7_out 218 = .ok (.goto 4, 3) := by decide +kernel
theorem dX7_out_221 : decode cX7_out 221 = .ok (.iload_n 2, 1) := by decide +kernel
theorem dX7_out_222 : decode cX7_out 222 = .ok (.istore_n 2, 1) := by decide +kernel
theorem dX7_out_223 : decode cX7_out 223 = .ok (.iinc 3 1, 3) := by decide +kernel
theorem dX7_out_226 : decode cX7_out 226 = .ok (.goto (-132), 3) := by decide +kernel
theorem dX7_out_229 : decode cX7_out 229 = .ok (.iload_n 2, 1) := by decide +kernel
theorem dX7_out_230 : decode cX7_out 230 = .ok (.ireturn, 1) := by decide +kernel
theorem dX7_isAhead_0 : decode cX7_isAhead 0 = .ok (.aload_n 0, 1) := by decide +kernel
theorem dX7_isAhead_1 : decode cX7_isAhead 1 = .ok (.iload_n 1, 1) := by decide +kernel
theorem dX7_isAhead_2 : decode cX7_isAhead 2 = .ok (.iconst 1, 1) := by decide +kernel
theorem dX7_isAhead_3 : decode cX7_isAhead 3 = .ok (.invokevirtual 110, 3) := by decide +kernel
theorem dX7_isAhead_6 : decode cX7_isAhead 6 = .ok (.aload_n 0, 1) := by decide +kernel
theorem dX7_isAhead_7 : decode cX7_isAhead 7 = .ok (.iload_n 2, 1) := by decide +kernel
theorem dX7_isAhead_8 : decode cX7_isAhead 8 = .ok (.iconst 1, 1) := by decide +kernel
theorem dX7_isAhead_9 : decode cX7_isAhead 9 = .ok (.invokevirtual 110, 3) := by decide +kernel
theorem dX7_isAhead_12 : decode cX7_isAhead 12 = .ok (.isub, 1) := by decide +kernel
theorem dX7_isAhead_13 : decode cX7_isAhead 13 = .ok (.istore_n 3, 1) := by decide +kernel
theorem dX7_isAhead_14 : decode cX7_isAhead 14 = .ok (.aload_n 0, 1) := by decide +kernel
theorem dX7_isAhead_15 : decode cX7_isAhead 15 = .ok (.iload_n 1, 1) := by decide +kernel
theorem dX7_isAhead_16 : decode cX7_isAhead 16 = .ok (.iconst 0, 1) := by decide +kernel
theorem dX7_isAhead_17 : decode cX7_isAhead 17 = .ok (.invokevirtual 110, 3) := by decide +kernel
theorem dX7_isAhead_20 : decode cX7_isAhead 20 = .ok (.aload_n 0, 1) := by decide +kernel
theorem dX7_isAhead_21 : decode cX7_isAhead 21 = .ok (.iload_n 2, 1) := by decide +kernel
theorem dX7_isAhead_22 : decode cX7_isAhead 22 = .ok (.iconst 0, 1) := by decide +kernel
theorem dX7_isAhead_23 : decode cX7_isAhead 23 = .ok (.invokevirtual 110, 3) := by decide +kernel
theorem dX7_isAhead_26 : decode cX7_isAhead 26 = .ok (.isub, 1) := by decide +kernel
theorem dX7_isAhead_27 : decode cX7_isAhead 27 = .ok (.istore 4, 2) := by decide +kernel
theorem dX7_isAhead_29 : decode cX7_isAhead 29 = .ok (.iload_n 3, 1) := by decide +kernel
theorem dX7_isAhead_30 : decode cX7_isAhead 30 = .ok (.ifCond .lt 22, 3) := by decide +kernel
theorem dX7_isAhead_33 : decode cX7_isAhead 33 = .ok (.iload_n 3, 1) := by decide +kernel
theorem dX7_isAhead_34 : decode cX7_isAhead 34 = .ok (.ifCond .ne 22, 3) := by decide +kernel
theorem dX7_isAhead_37 : decode cX7_isAhead 37 = .ok (.iload 4, 2) := by decide +kernel
theorem dX7_isAhead_39 : decode cX7_isAhead 39 = .ok (.ifCond .lt 13, 3) := by decide +kernel
theorem dX7_isAhead_42 : decode cX7_isAhead 42 = .ok (.iload 4, 2) := by decide +kernel
theorem dX7_isAhead_44 : decode cX7_isAhead 44 = .ok (.ifCond .ne 12, 3) := by decide +kernel
theorem dX7_isAhead_47 : decode cX7_isAhead 47 = .ok (.iload_n 1, 1) := by decide +kernel
theorem dX7_isAhead_48 : decode cX7_isAhead 48 = .ok (.iload_n 2, 1) := by decide +kernel
theorem dX7_isAhead_49 : decode cX7_isAhead 49 = .ok (.if_icmp .ge 7, 3) := by decide +kernel
theorem dX7_isAhead_52 : decode cX7_isAhead 52 = .ok (.iconst 1, 1) := by decide +kernel
theorem dX7_isAhead_53 : decode cX7_isAhead 53 = .ok (.goto 4, 3) := by decide +kernel
theorem dX7_isAhead_56 : decode cX7_isAhead 56 = .ok (.iconst 0, 1) := by decide +kernel
theorem dX7_isAhead_57 : decode cX7_isAhead 57 = .ok (.ireturn, 1) := by decide +kernel
theorem dX7_layRow_0 : decode cX7_layRow 0 = .ok (.aload_n 0, 1) := by decide +kernel
theorem dX7_layRow_1 : decode cX7_layRow 1 = .ok (.iconst 0, 1) := by decide +kernel
theorem dX7_layRow_2 : decode cX7_layRow 2 = .ok (.putfield 193, 3) := by decide +kernel
theorem dX7_layRow_5 : decode cX7_layRow 5 = .ok (.iconst 0, 1) := by decide +kernel
theorem dX7_layRow_6 : decode cX7_layRow 6 = .ok (.istore_n 2, 1) := by decide +kernel
theorem dX7_layRow_7 : decode cX7_layRow 7 = .ok (.iload_n 2, 1) := by decide +kernel
theorem dX7_layRow_8 : decode cX7_layRow 8 = .ok (.aload_n 0, 1) := by decide +kernel
theorem dX7_layRow_9 : decode cX7_layRow 9 = .ok (.invokevirtual 64, 3) := by decide +kernel
theorem dX7_layRow_12 : decode cX7_layRow 12 = .ok (.if_icmp .ge 81, 3) := by decide +kernel
theorem dX7_layRow_15 : decode cX7_layRow 15 = .ok (.aload_n 0, 1) := by decide +kernel
theorem dX7_layRow_16 : decode cX7_layRow 16 = .ok (.iload_n 2, 1) := by decide +kernel
theorem dX7_layRow_17 : decode cX7_layRow 17 = .ok (.iconst 5, 1) := by decide +kernel
theorem dX7_layRow_18 : decode cX7_layRow 18 = .ok (.invokevirtual 110, 3) := by decide +kernel
theorem dX7_layRow_21 : decode cX7_layRow 21 = .ok (.iload_n 1, 1) := by decide +kernel
theorem dX7_layRow_22 : decode cX7_layRow 22 = .ok (.if_icmp .ne 65, 3) := by decide +kernel
theorem dX7_layRow_25 : decode cX7_layRow 25 = .ok (.aload_n 0, 1) := by decide +kernel
theorem dX7_layRow_26 : decode cX7_layRow 26 = .ok (.getfield 193, 3) := by decide +kernel
theorem dX7_layRow_29 : decode cX7_layRow 29 = .ok (.istore_n 3, 1) := by decide +kernel
theorem dX7_layRow_30 : decode cX7_layRow 30 = .ok (.iload_n 3, 1) := by decide +kernel
theorem dX7_layRow_31 : decode cX7_layRow 31 = .ok (.ifCond .le 39, 3) := by decide +kernel
theorem dX7_layRow_34 : decode cX7_layRow 34 = .ok (.aload_n 0, 1) := by decide +kernel
theorem dX7_layRow_35 : decode cX7_layRow 35 = .ok (.iload_n 2, 1) := by decide +kernel
theorem dX7_layRow_36 : decode cX7_layRow 36 = .ok (.aload_n 0, 1) := by decide +kernel
theorem dX7_layRow_37 : decode cX7_layRow 37 = .ok (.getfield 30, 3) := by decide +kernel
theorem dX7_layRow_40 : decode cX7_layRow 40 = .ok (.iload_n 3, 1) := by decide +kernel
theorem dX7_layRow_41 : decode cX7_layRow 41 = .ok (.iconst 1, 1) := by decide +kernel
theorem dX7_layRow_42 : decode cX7_layRow 42 = .ok (.isub, 1) := by decide +kernel
theorem dX7_layRow_43 : decode cX7_layRow 43 = .ok (.iaload, 1) := by decide +kernel
theorem dX7_layRow_44 : decode cX7_layRow 44 = .ok (.invokevirtual 196, 3) := by decide +kernel
theorem dX7_layRow_47 : decode cX7_layRow 47 = .ok (.ifCond .eq 23, 3) := by decide +kernel
theorem dX7_layRow_50 : decode cX7_layRow 50 = .ok (.aload_n 0, 1) := by decide +kernel
theorem dX7_layRow_51 : decode cX7_layRow 51 = .ok (.getfield 30, 3) := by decide +kernel
theorem dX7_layRow_54 : decode cX7_layRow 54 = .ok (.iload_n 3, 1) := by decide +kernel
theorem dX7_layRow_55 : decode cX7_layRow 55 = .ok (.aload_n 0, 1) := by decide +kernel
theorem dX7_layRow_56 : decode cX7_layRow 56 = .ok (.getfield 30, 3) := by decide +kernel
theorem dX7_layRow_59 : decode cX7_layRow 59 = .ok (.iload_n 3, 1) := by decide +kernel
theorem dX7_layRow_60 : decode cX7_layRow 60 = .ok (.iconst 1, 1) := by decide +kernel
theorem dX7_layRow_61 : decode cX7_layRow 61 = .ok (.isub, 1) := by decide +kernel
theorem dX7_layRow_62 : decode cX7_layRow 62 = .ok (.iaload, 1) := by decide +kernel
theorem dX7_layRow_63 : decode cX7_layRow 63 = .ok (.iastore, 1) := by decide +kernel
theorem dX7_layRow_64 : decode cX7_layRow 64 = .ok (.iinc 3 (-1), 3) := by decide +kernel
theorem dX7_layRow_67 : decode cX7_layRow 67 = .ok (.goto (-37), 3) := by decide +kernel
theorem dX7_layRow_70 : decode cX7_layRow 70 = .ok (.aload_n 0, 1) := by decide +kernel
theorem dX7_layRow_71 : decode cX7_layRow 71 = .ok (.getfield 30, 3) := by decide +kernel
theorem dX7_layRow_74 : decode cX7_layRow 74 = .ok (.iload_n 3, 1) := by decide +kernel
theorem dX7_layRow_75 : decode cX7_layRow 75 = .ok (.iload_n 2, 1) := by decide +kernel
theorem dX7_layRow_76 : decode cX7_layRow 76 = .ok (.iastore, 1) := by decide +kernel
theorem dX7_layRow_77 : decode cX7_layRow 77 = .ok (.aload_n 0, 1) := by decide +kernel
theorem dX7_layRow_78 : decode cX7_layRow 78 = .ok (.dup, 1) := by decide +kernel
theorem dX7_layRow_79 : decode cX7_layRow 79 = .ok (.getfield 193, 3) := by decide +kernel
theorem dX7_layRow_82 : decode cX7_layRow 82 = .ok (.iconst 1, 1) := by decide +kernel
theorem dX7_layRow_83 : decode cX7_layRow 83 = .ok (.iadd, 1) := by decide +kernel
theorem dX7_layRow_84 : decode cX7_layRow 84 = .ok (.putfield 193, 3) := by decide +kernel
theorem dX7_layRow_87 : decode cX7_layRow 87 = .ok (.iinc 2 1, 3) := by decide +kernel
theorem dX7_layRow_90 : decode cX7_layRow 90 = .ok (.goto (-83), 3) := by decide +kernel
theorem dX7_layRow_93 : decode cX7_layRow 93 = .ok (.return_, 1) := by decide +kernel
theorem dX7_cost_0 : decode cX7_cost 0 = .ok (.aload_n 0, 1) := by decide +kernel
theorem dX7_cost_1 : decode cX7_cost 1 = .ok (.iload_n 3, 1) := by decide +kernel
theorem dX7_cost_2 : decode cX7_cost 2 = .ok (.iconst 0, 1) := by decide +kernel
theorem dX7_cost_3 : decode cX7_cost 3 = .ok (.invokevirtual 110, 3) := by decide +kernel
theorem dX7_cost_6 : decode cX7_cost 6 = .ok (.aload_n 0, 1) := by decide +kernel
theorem dX7_cost_7 : decode cX7_cost 7 = .ok (.iload_n 1, 1) := by decide +kernel
theorem dX7_cost_8 : decode cX7_cost 8 = .ok (.iconst 0, 1) := by decide +kernel
theorem dX7_cost_9 : decode cX7_cost 9 = .ok (.invokevirtual 110, 3) := by decide +kernel
theorem dX7_cost_12 : decode cX7_cost 12 = .ok (.isub, 1) := by decide +kernel
theorem dX7_cost_13 : decode cX7_cost 13 = .ok (.istore 5, 2) := by decide +kernel
theorem dX7_cost_15 : decode cX7_cost 15 = .ok (.iload 5, 2) := by decide +kernel
theorem dX7_cost_17 : decode cX7_cost 17 = .ok (.iload 4, 2) := by decide +kernel
theorem dX7_cost_19 : decode cX7_cost 19 = .ok (.iload_n 2, 1) := by decide +kernel
theorem dX7_cost_20 : decode cX7_cost 20 = .ok (.isub, 1) := by decide +kernel
theorem dX7_cost_21 : decode cX7_cost 21 = .ok (.invokestatic 120, 3) := by decide +kernel
theorem dX7_cost_24 : decode cX7_cost 24 = .ok (.iload_n 2, 1) := by decide +kernel
theorem dX7_cost_25 : decode cX7_cost 25 = .ok (.iload 4, 2) := by decide +kernel
theorem dX7_cost_27 : decode cX7_cost 27 = .ok (.if_icmp .ne 12, 3) := by decide +kernel
theorem dX7_cost_30 : decode cX7_cost 30 = .ok (.iload 5, 2) := by decide +kernel
theorem dX7_cost_32 : decode cX7_cost 32 = .ok (.ifCond .eq 7, 3) := by decide +kernel
theorem dX7_cost_35 : decode cX7_cost 35 = .ok (.iconst 3, 1) := by decide +kernel
theorem dX7_cost_36 : decode cX7_cost 36 = .ok (.goto 4, 3) := by decide +kernel
theorem dX7_cost_39 : decode cX7_cost 39 = .ok (.iconst 0, 1) := by decide +kernel
theorem dX7_cost_40 : decode cX7_cost 40 = .ok (.iadd, 1) := by decide +kernel
theorem dX7_cost_41 : decode cX7_cost 41 = .ok (.ireturn, 1) := by decide +kernel
theorem dX7_onFrom_0 : decode cX7_onFrom 0 = .ok (.iload_n 1, 1) := by decide +kernel
theorem dX7_onFrom_1 : decode cX7_onFrom 1 = .ok (.aload_n 0, 1) := by decide +kernel
theorem dX7_onFrom_2 : decode cX7_onFrom 2 = .ok (.getfield 193, 3) := by decide +kernel
theorem dX7_onFrom_5 : decode cX7_onFrom 5 = .ok (.iconst 1, 1) := by decide +kernel
theorem dX7_onFrom_6 : decode cX7_onFrom 6 = .ok (.isub, 1) := by decide +kernel
theorem dX7_onFrom_7 : decode cX7_onFrom 7 = .ok (.if_icmp .ne 5, 3) := by decide +kernel
theorem dX7_onFrom_10 : decode cX7_onFrom 10 = .ok (.iconst 0, 1) := by decide +kernel
theorem dX7_onFrom_11 : decode cX7_onFrom 11 = .ok (.ireturn, 1) := by decide +kernel
theorem dX7_onFrom_12 : decode cX7_onFrom 12 = .ok (.ldc 185, 2) := by decide +kernel
theorem dX7_onFrom_14 : decode cX7_onFrom 14 = .ok (.istore_n 3, 1) := by decide +kernel
theorem dX7_onFrom_15 : decode cX7_onFrom 15 = .ok (.iconst 0, 1) := by decide +kernel
theorem dX7_onFrom_16 : decode cX7_onFrom 16 = .ok (.istore 4, 2) := by decide +kernel
theorem dX7_onFrom_18 : decode cX7_onFrom 18 = .ok (.iload 4, 2) := by decide +kernel
theorem dX7_onFrom_20 : decode cX7_onFrom 20 = .ok (.iconst 5, 1) := by decide +kernel
theorem dX7_onFrom_21 : decode cX7_onFrom 21 = .ok (.if_icmp .ge 59, 3) := by decide +kernel
theorem dX7_onFrom_24 : decode cX7_onFrom 24 = .ok (.aload_n 0, 1) := by decide +kernel
theorem dX7_onFrom_25 : decode cX7_onFrom 25 = .ok (.aload_n 0, 1) := by decide +kernel
theorem dX7_onFrom_26 : decode cX7_onFrom 26 = .ok (.getfield 30, 3) := by decide +kernel
theorem dX7_onFrom_29 : decode cX7_onFrom 29 = .ok (.iload_n 1, 1) := by decide +kernel
theorem dX7_onFrom_30 : decode cX7_onFrom 30 = .ok (.iaload, 1) := by decide +kernel
theorem dX7_onFrom_31 : decode cX7_onFrom 31 = .ok (.iload_n 2, 1) := by decide +kernel
theorem dX7_onFrom_32 : decode cX7_onFrom 32 = .ok (.aload_n 0, 1) := by decide +kernel
theorem dX7_onFrom_33 : decode cX7_onFrom 33 = .ok (.getfield 30, 3) := by decide +kernel
theorem dX7_onFrom_36 : decode cX7_onFrom 36 = .ok (.iload_n 1, 1) := by decide +kernel
theorem dX7_onFrom_37 : decode cX7_onFrom 37 = .ok (.iconst 1, 1) := by decide +kernel
theorem dX7_onFrom_38 : decode cX7_onFrom 38 = .ok (.iadd, 1) := by decide +kernel
theorem dX7_onFrom_39 : decode cX7_onFrom 39 = .ok (.iaload, 1) := by decide +kernel
theorem dX7_onFrom_40 : decode cX7_onFrom 40 = .ok (.iload 4, 2) := by decide +kernel
theorem dX7_onFrom_42 : decode cX7_onFrom 42 = .ok (.invokevirtual 199, 3) := by decide +kernel
theorem dX7_onFrom_45 : decode cX7_onFrom 45 = .ok (.aload_n 0, 1) := by decide +kernel
theorem dX7_onFrom_46 : decode cX7_onFrom 46 = .ok (.getfield 33, 3) := by decide +kernel
theorem dX7_onFrom_49 : decode cX7_onFrom 49 = .ok (.iconst 5, 1) := by decide +kernel
theorem dX7_onFrom_50 : decode cX7_onFrom 50 = .ok (.iload_n 1, 1) := by decide +kernel
theorem dX7_onFrom_51 : decode cX7_onFrom 51 = .ok (.iconst 1, 1) := by decide +kernel
theorem dX7_onFrom_52 : decode cX7_onFrom 52 = .ok (.iadd, 1) := by decide +kernel
theorem dX7_onFrom_53 : decode cX7_onFrom 53 = .ok (.imul, 1) := by decide +kernel
theorem dX7_onFrom_54 : decode cX7_onFrom 54 = .ok (.iload 4, 2) := by decide +kernel
theorem dX7_onFrom_56 : decode cX7_onFrom 56 = .ok (.iadd, 1) := by decide +kernel
theorem dX7_onFrom_57 : decode cX7_onFrom 57 = .ok (.iaload, 1) := by decide +kernel
theorem dX7_onFrom_58 : decode cX7_onFrom 58 = .ok (.iadd, 1) := by decide +kernel
theorem dX7_onFrom_59 : decode cX7_onFrom 59 = .ok (.istore 5, 2) := by decide +kernel
theorem dX7_onFrom_61 : decode cX7_onFrom 61 = .ok (.iload 5, 2) := by decide +kernel
theorem dX7_onFrom_63 : decode cX7_onFrom 63 = .ok (.iload_n 3, 1) := by decide +kernel
theorem dX7_onFrom_64 : decode cX7_onFrom 64 = .ok (.if_icmp .ge 8, 3) := by decide +kernel
theorem dX7_onFrom_67 : decode cX7_onFrom 67 = .ok (.iload 5, 2) := by decide +kernel
theorem dX7_onFrom_69 : decode cX7_onFrom 69 = .ok (.goto 4, 3) := by decide +kernel
theorem dX7_onFrom_72 : decode cX7_onFrom 72 = .ok (.iload_n 3, 1) := by decide +kernel
theorem dX7_onFrom_73 : decode cX7_onFrom 73 = .ok (.istore_n 3, 1) := by decide +kernel
theorem dX7_onFrom_74 : decode cX7_onFrom 74 = .ok (.iinc 4 1, 3) := by decide +kernel
theorem dX7_onFrom_77 : decode cX7_onFrom 77 = .ok (.goto (-59), 3) := by decide +kernel
theorem dX7_onFrom_80 : decode cX7_onFrom 80 = .ok (.iload_n 3, 1) := by decide +kernel
theorem dX7_onFrom_81 : decode cX7_onFrom 81 = .ok (.ireturn, 1) := by decide +kernel
theorem dX7_fingers_0 : decode cX7_fingers 0 = .ok (.iload_n 1, 1) := by decide +kernel
theorem dX7_fingers_1 : decode cX7_fingers 1 = .ok (.invokestatic 80, 3) := by decide +kernel
theorem dX7_fingers_4 : decode cX7_fingers 4 = .ok (.ifCond .eq 8, 3) := by decide +kernel
theorem dX7_fingers_7 : decode cX7_fingers 7 = .ok (.iload_n 2, 1) := by decide +kernel
theorem dX7_fingers_8 : decode cX7_fingers 8 = .ok (.iconst (-1), 1) := by decide +kernel
theorem dX7_fingers_9 : decode cX7_fingers 9 = .ok (.if_icmp .ge 10, 3) := by decide +kernel
theorem dX7_fingers_12 : decode cX7_fingers 12 = .ok (.aload_n 0, 1) := by decide +kernel
theorem dX7_fingers_13 : decode cX7_fingers 13 = .ok (.bipush (-10), 2) := by decide +kernel
theorem dX7_fingers_15 : decode cX7_fingers 15 = .ok (.invokevirtual 76, 3) := by decide +kernel
theorem dX7_fingers_18 : decode cX7_fingers 18 = .ok (.ireturn, 1) := by decide +kernel
theorem dX7_fingers_19 : decode cX7_fingers 19 = .ok (.aload_n 0, 1) := by decide +kernel
theorem dX7_fingers_20 : decode cX7_fingers 20 = .ok (.iload_n 1, 1) := by decide +kernel
theorem dX7_fingers_21 : decode cX7_fingers 21 = .ok (.invokevirtual 203, 3) := by decide +kernel
theorem dX7_fingers_24 : decode cX7_fingers 24 = .ok (.aload_n 0, 1) := by decide +kernel
theorem dX7_fingers_25 : decode cX7_fingers 25 = .ok (.getfield 193, 3) := by decide +kernel
theorem dX7_fingers_28 : decode cX7_fingers 28 = .ok (.bipush 8, 2) := by decide +kernel
theorem dX7_fingers_30 : decode cX7_fingers 30 = .ok (.if_icmp .le 10, 3) := by decide +kernel
theorem dX7_fingers_33 : decode cX7_fingers 33 = .ok (.aload_n 0, 1) := by decide +kernel
theorem dX7_fingers_34 : decode cX7_fingers 34 = .ok (.bipush (-20), 2) := by decide +kernel
theorem dX7_fingers_36 : decode cX7_fingers 36 = .ok (.invokevirtual 155, 3) := by decide +kernel
theorem dX7_fingers_39 : decode cX7_fingers 39 = .ok (.ireturn, 1) := by decide +kernel
theorem dX7_fingers_40 : decode cX7_fingers 40 = .ok (.aload_n 0, 1) := by decide +kernel
theorem dX7_fingers_41 : decode cX7_fingers 41 = .ok (.getfield 193, 3) := by decide +kernel
theorem dX7_fingers_44 : decode cX7_fingers 44 = .ok (.iconst 1, 1) := by decide +kernel
theorem dX7_fingers_45 : decode cX7_fingers 45 = .ok (.isub, 1) := by decide +kernel
theorem dX7_fingers_46 : decode cX7_fingers 46 = .ok (.istore_n 3, 1) := by decide +kernel
theorem dX7_fingers_47 : decode cX7_fingers 47 = .ok (.iload_n 3, 1) := by decide +kernel
theorem dX7_fingers_48 : decode cX7_fingers 48 = .ok (.ifCond .lt 42, 3) := by decide +kernel
theorem dX7_fingers_51 : decode cX7_fingers 51 = .ok (.iconst 0, 1) := by decide +kernel
theorem dX7_fingers_52 : decode cX7_fingers 52 = .ok (.istore 4, 2) := by decide +kernel
theorem dX7_fingers_54 : decode cX7_fingers 54 = .ok (.iload 4, 2) := by decide +kernel
theorem dX7_fingers_56 : decode cX7_fingers 56 = .ok (.iconst 5, 1) := by decide +kernel
theorem dX7_fingers_57 : decode cX7_fingers 57 = .ok (.if_icmp .ge 27, 3) := by decide +kernel
theorem dX7_fingers_60 : decode cX7_fingers 60 = .ok (.aload_n 0, 1) := by decide +kernel
theorem dX7_fingers_61 : decode cX7_fingers 61 = .ok (.getfield 33, 3) := by decide +kernel
theorem dX7_fingers_64 : decode cX7_fingers 64 = .ok (.iconst 5, 1) := by decide +kernel
theorem dX7_fingers_65 : decode cX7_fingers 65 = .ok (.iload_n 3, 1) := by decide +kernel
theorem dX7_fingers_66 : decode cX7_fingers 66 = .ok (.imul, 1) := by decide +kernel
theorem dX7_fingers_67 : decode cX7_fingers 67 = .ok (.iload 4, 2) := by decide +kernel
theorem dX7_fingers_69 : decode cX7_fingers 69 = .ok (.iadd, 1) := by decide +kernel
theorem dX7_fingers_70 : decode cX7_fingers 70 = .ok (.aload_n 0, 1) := by decide +kernel
theorem dX7_fingers_71 : decode cX7_fingers 71 = .ok (.iload_n 3, 1) := by decide +kernel
theorem dX7_fingers_72 : decode cX7_fingers 72 = .ok (.iload 4, 2) := by decide +kernel
theorem dX7_fingers_74 : decode cX7_fingers 74 = .ok (.invokevirtual 207, 3) := by decide +kernel
theorem dX7_fingers_77 : decode cX7_fingers 77 = .ok (.iastore, 1) := by decide +kernel
theorem dX7_fingers_78 : decode cX7_fingers 78 = .ok (.iinc 4 1, 3) := by decide +kernel
theorem dX7_fingers_81 : decode cX7_fingers 81 = .ok (.goto (-27), 3) := by decide +kernel
theorem dX7_fingers_84 : decode cX7_fingers 84 = .ok (.iinc 3 (-1), 3) := by decide +kernel
theorem dX7_fingers_87 : decode cX7_fingers 87 = .ok (.goto (-40), 3) := by decide +kernel
theorem dX7_fingers_90 : decode cX7_fingers 90 = .ok (.iconst 0, 1) := by decide +kernel
theorem dX7_fingers_91 : decode cX7_fingers 91 = .ok (.istore_n 3, 1) := by decide +kernel
theorem dX7_fingers_92 : decode cX7_fingers 92 = .ok (.iconst 0, 1) := by decide +kernel
theorem dX7_fingers_93 : decode cX7_fingers 93 = .ok (.istore 4, 2) := by decide +kernel
theorem dX7_fingers_95 : decode cX7_fingers 95 = .ok (.iconst 0, 1) := by decide +kernel
theorem dX7_fingers_96 : decode cX7_fingers 96 = .ok (.istore 5, 2) := by decide +kernel
theorem dX7_fingers_98 : decode cX7_fingers 98 = .ok (.iload 5, 2) := by decide +kernel
theorem dX7_fingers_100 : decode cX7_fingers 100 = .ok (.aload_n 0, 1) := by decide +kernel
theorem dX7_fingers_101 : decode cX7_fingers 101 = .ok (.getfield 193, 3) := by decide +kernel
theorem dX7_fingers_104 : decode cX7_fingers 104 = .ok (.if_icmp .ge 133, 3) := by decide +kernel
theorem dX7_fingers_107 : decode cX7_fingers 107 = .ok (.iload 5, 2) := by decide +kernel
theorem dX7_fingers_109 : decode cX7_fingers 109 = .ok (.ifCond .eq 9, 3) := by decide +kernel
theorem dX7_fingers_112 : decode cX7_fingers 112 = .ok (.iload 5, 2) := by decide +kernel
theorem dX7_fingers_114 : decode cX7_fingers 114 = .ok (.iload_n 2, 1) := by decide +kernel
theorem dX7_fingers_115 : decode cX7_fingers 115 = .ok (.if_icmp .gt 122, 3) := by decide +kernel
theorem dX7_fingers_118 : decode cX7_fingers 118 = .ok (.iload_n 3, 1) := by decide +kernel
theorem dX7_fingers_119 : decode cX7_fingers 119 = .ok (.istore 6, 2) := by decide +kernel
theorem dX7_fingers_121 : decode cX7_fingers 121 = .ok (.ldc 185, 2) := by decide +kernel
theorem dX7_fingers_123 : decode cX7_fingers 123 = .ok (.istore 7, 2) := by decide +kernel
theorem dX7_fingers_125 : decode cX7_fingers 125 = .ok (.iconst 4, 1) := by decide +kernel
theorem dX7_fingers_126 : decode cX7_fingers 126 = .ok (.istore 8, 2) := by decide +kernel
theorem dX7_fingers_128 : decode cX7_fingers 128 = .ok (.iload 8, 2) := by decide +kernel
theorem dX7_fingers_130 : decode cX7_fingers 130 = .ok (.ifCond .lt 87, 3) := by decide +kernel
theorem dX7_fingers_133 : decode cX7_fingers 133 = .ok (.aload_n 0, 1) := by decide +kernel
theorem dX7_fingers_134 : decode cX7_fingers 134 = .ok (.getfield 33, 3) := by decide +kernel
theorem dX7_fingers_137 : decode cX7_fingers 137 = .ok (.iconst 5, 1) := by decide +kernel
theorem dX7_fingers_138 : decode cX7_fingers 138 = .ok (.iload 5, 2) := by decide +kernel
theorem dX7_fingers_140 : decode cX7_fingers 140 = .ok (.imul, 1) := by decide +kernel
theorem dX7_fingers_141 : decode cX7_fingers 141 = .ok (.iload 8, 2) := by decide +kernel
theorem dX7_fingers_143 : decode cX7_fingers 143 = .ok (.iadd, 1) := by decide +kernel
theorem dX7_fingers_144 : decode cX7_fingers 144 = .ok (.iaload, 1) := by decide +kernel
theorem dX7_fingers_145 : decode cX7_fingers 145 = .ok (.iload 5, 2) := by decide +kernel
theorem dX7_fingers_147 : decode cX7_fingers 147 = .ok (.ifCond .ne 7, 3) := by decide +kernel
theorem dX7_fingers_150 : decode cX7_fingers 150 = .ok (.iconst 0, 1) := by decide +kernel
theorem dX7_fingers_151 : decode cX7_fingers 151 = .ok (.goto 27, 3) := by decide +kernel
theorem dX7_fingers_154 : decode cX7_fingers 154 = .ok (.aload_n 0, 1) := by decide +kernel
theorem dX7_fingers_155 : decode cX7_fingers 155 = .ok (.aload_n 0, 1) := by decide +kernel
theorem dX7_fingers_156 : decode cX7_fingers 156 = .ok (.getfield 30, 3) := by decide +kernel
theorem dX7_fingers_159 : decode cX7_fingers 159 = .ok (.iload 5, 2) := by decide +kernel
theorem dX7_fingers_161 : decode cX7_fingers 161 = .ok (.iconst 1, 1) := by decide +kernel
theorem dX7_fingers_162 : decode cX7_fingers 162 = .ok (.isub, 1) := by decide +kernel
theorem dX7_fingers_163 : decode cX7_fingers 163 = .ok (.iaload, 1) := by decide +kernel
theorem dX7_fingers_164 : decode cX7_fingers 164 = .ok (.iload 6, 2) := by decide +kernel
theorem dX7_fingers_166 : decode cX7_fingers 166 = .ok (.aload_n 0, 1) := by decide +kernel
theorem dX7_fingers_167 : decode cX7_fingers 167 = .ok (.getfield 30, 3) := by decide +kernel
theorem dX7_fingers_170 : decode cX7_fingers 170 = .ok (.iload 5, 2) := by decide +kernel
theorem dX7_fingers_172 : decode cX7_fingers 172 = .ok (.iaload, 1) := by decide +kernel
theorem dX7_fingers_173 : decode cX7_fingers 173 = .ok (.iload 8, 2) := by decide +kernel
theorem dX7_fingers_175 : decode cX7_fingers 175 = .ok (.invokevirtual 199, 3) := by decide +kernel
theorem dX7_fingers_178 : decode cX7_fingers 178 = .ok (.iadd, 1) := by decide +kernel
theorem dX7_fingers_179 : decode cX7_fingers 179 = .ok (.istore 9, 2) := by decide +kernel
theorem dX7_fingers_181 : decode cX7_fingers 181 = .ok (.iload 9, 2) := by decide +kernel
theorem dX7_fingers_183 : decode cX7_fingers 183 = .ok (.iload 7, 2) := by decide +kernel
theorem dX7_fingers_185 : decode cX7_fingers 185 = .ok (.if_icmp .gt 8, 3) := by decide +kernel
theorem dX7_fingers_188 : decode cX7_fingers 188 = .ok (.iload 8, 2) := by decide +kernel
theorem dX7_fingers_190 : decode cX7_fingers 190 = .ok (.goto 4, 3) := by decide +kernel
theorem dX7_fingers_193 : decode cX7_fingers 193 = .ok (.iload_n 3, 1) := by decide +kernel
theorem dX7_fingers_194 : decode cX7_fingers 194 = .ok (.istore_n 3, 1) := by decide +kernel
theorem dX7_fingers_195 : decode cX7_fingers 195 = .ok (.iload 9, 2) := by decide +kernel
theorem dX7_fingers_197 : decode cX7_fingers 197 = .ok (.iload 7, 2) := by decide +kernel
theorem dX7_fingers_199 : decode cX7_fingers 199 = .ok (.if_icmp .gt 8, 3) := by decide +kernel
theorem dX7_fingers_202 : decode cX7_fingers 202 = .ok (.iload 9, 2) := by decide +kernel
theorem dX7_fingers_204 : decode cX7_fingers 204 = .ok (.goto 5, 3) := by decide +kernel
theorem dX7_fingers_207 : decode cX7_fingers 207 = .ok (.iload 7, 2) := by decide +kernel
theorem dX7_fingers_209 : decode cX7_fingers 209 = .ok (.istore 7, 2) := by decide +kernel
theorem dX7_fingers_211 : decode cX7_fingers 211 = .ok (.iinc 8 (-1), 3) := by decide +kernel
theorem dX7_fingers_214 : decode cX7_fingers 214 = .ok (.goto (-86), 3) := by decide +kernel
theorem dX7_fingers_217 : decode cX7_fingers 217 = .ok (.iload 5, 2) := by decide +kernel
theorem dX7_fingers_219 : decode cX7_fingers 219 = .ok (.ifCond .ne 8, 3) := by decide +kernel
theorem dX7_fingers_222 : decode cX7_fingers 222 = .ok (.iload 7, 2) := by decide +kernel
theorem dX7_fingers_224 : decode cX7_fingers 224 = .ok (.goto 5, 3) := by decide +kernel
theorem dX7_fingers_227 : decode cX7_fingers 227 = .ok (.iload 4, 2) := by decide +kernel
theorem dX7_fingers_229 : decode cX7_fingers 229 = .ok (.istore 4, 2) := by decide +kernel
theorem dX7_fingers_231 : decode cX7_fingers 231 = .ok (.iinc 5 1, 3) := by decide +kernel
theorem dX7_fingers_234 : decode cX7_fingers 234 = .ok (.goto (-136), 3) := by decide +kernel
theorem dX7_fingers_237 : decode cX7_fingers 237 = .ok (.iload_n 2, 1) := by decide +kernel
theorem dX7_fingers_238 : decode cX7_fingers 238 = .ok (.iconst (-1), 1) := by decide +kernel
theorem dX7_fingers_239 : decode cX7_fingers 239 = .ok (.if_icmp .ne 8, 3) := by decide +kernel
theorem dX7_fingers_242 : decode cX7_fingers 242 = .ok (.iload 4, 2) := by decide +kernel
theorem dX7_fingers_244 : decode cX7_fingers 244 = .ok (.goto 17, 3) := by decide +kernel
theorem dX7_fingers_247 : decode cX7_fingers 247 = .ok (.iload_n 2, 1) := by decide +kernel
theorem dX7_fingers_248 : decode cX7_fingers 248 = .ok (.aload_n 0, 1) := by decide +kernel
theorem dX7_fingers_249 : decode cX7_fingers 249 = .ok (.getfield 193, 3) := by decide +kernel
theorem dX7_fingers_252 : decode cX7_fingers 252 = .ok (.if_icmp .ge 7, 3) := by decide +kernel
theorem dX7_fingers_255 : decode cX7_fingers 255 = .ok (.iload_n 3, 1) := by decide +kernel
theorem dX7_fingers_256 : decode cX7_fingers 256 = .ok (.goto 5, 3) := by decide +kernel
theorem dX7_fingers_259 : decode cX7_fingers 259 = .ok (.bipush (-5), 2) := by decide +kernel
theorem dX7_fingers_261 : decode cX7_fingers 261 = .ok (.ireturn, 1) := by decide +kernel
theorem dX7_pedal_0 : decode cX7_pedal 0 = .ok (.iload_n 2, 1) := by decide +kernel
theorem dX7_pedal_1 : decode cX7_pedal 1 = .ok (.i2l, 1) := by decide +kernel
theorem dX7_pedal_2 : decode cX7_pedal 2 = .ok (.lconst 0, 1) := by decide +kernel
theorem dX7_pedal_3 : decode cX7_pedal 3 = .ok (.ldc2_w 210, 3) := by decide +kernel
theorem dX7_pedal_6 : decode cX7_pedal 6 = .ok (.invokestatic 68, 3) := by decide +kernel
theorem dX7_pedal_9 : decode cX7_pedal 9 = .ok (.ifCond .eq 14, 3) := by decide +kernel
theorem dX7_pedal_12 : decode cX7_pedal 12 = .ok (.iload_n 1, 1) := by decide +kernel
theorem dX7_pedal_13 : decode cX7_pedal 13 = .ok (.i2l, 1) := by decide +kernel
theorem dX7_pedal_14 : decode cX7_pedal 14 = .ok (.lconst 0, 1) := by decide +kernel
theorem dX7_pedal_15 : decode cX7_pedal 15 = .ok (.iload_n 2, 1) := by decide +kernel
theorem dX7_pedal_16 : decode cX7_pedal 16 = .ok (.i2l, 1) := by decide +kernel
theorem dX7_pedal_17 : decode cX7_pedal 17 = .ok (.invokestatic 68, 3) := by decide +kernel
theorem dX7_pedal_20 : decode cX7_pedal 20 = .ok (.ifCond .ne 10, 3) := by decide +kernel
theorem dX7_pedal_23 : decode cX7_pedal 23 = .ok (.aload_n 0, 1) := by decide +kernel
theorem dX7_pedal_24 : decode cX7_pedal 24 = .ok (.bipush (-2), 2) := by decide +kernel
theorem dX7_pedal_26 : decode cX7_pedal 26 = .ok (.invokevirtual 76, 3) := by decide +kernel
theorem dX7_pedal_29 : decode cX7_pedal 29 = .ok (.ireturn, 1) := by decide +kernel
theorem dX7_pedal_30 : decode cX7_pedal 30 = .ok (.aload_n 0, 1) := by decide +kernel
theorem dX7_pedal_31 : decode cX7_pedal 31 = .ok (.getfield 7, 3) := by decide +kernel
theorem dX7_pedal_34 : decode cX7_pedal 34 = .ok (.iconst 2, 1) := by decide +kernel
theorem dX7_pedal_35 : decode cX7_pedal 35 = .ok (.iload_n 1, 1) := by decide +kernel
theorem dX7_pedal_36 : decode cX7_pedal 36 = .ok (.iastore, 1) := by decide +kernel
theorem dX7_pedal_37 : decode cX7_pedal 37 = .ok (.aload_n 0, 1) := by decide +kernel
theorem dX7_pedal_38 : decode cX7_pedal 38 = .ok (.getfield 7, 3) := by decide +kernel
theorem dX7_pedal_41 : decode cX7_pedal 41 = .ok (.iconst 3, 1) := by decide +kernel
theorem dX7_pedal_42 : decode cX7_pedal 42 = .ok (.iload_n 2, 1) := by decide +kernel
theorem dX7_pedal_43 : decode cX7_pedal 43 = .ok (.iastore, 1) := by decide +kernel
theorem dX7_pedal_44 : decode cX7_pedal 44 = .ok (.iconst 1, 1) := by decide +kernel
theorem dX7_pedal_45 : decode cX7_pedal 45 = .ok (.ireturn, 1) := by decide +kernel
theorem dX7_blursBy_0 : decode cX7_blursBy 0 = .ok (.iconst 0, 1) := by decide +kernel
theorem dX7_blursBy_1 : decode cX7_blursBy 1 = .ok (.istore_n 3, 1) := by decide +kernel
theorem dX7_blursBy_2 : decode cX7_blursBy 2 = .ok (.iconst 0, 1) := by decide +kernel
theorem dX7_blursBy_3 : decode cX7_blursBy 3 = .ok (.istore 4, 2) := by decide +kernel
theorem dX7_blursBy_5 : decode cX7_blursBy 5 = .ok (.iload 4, 2) := by decide +kernel
theorem dX7_blursBy_7 : decode cX7_blursBy 7 = .ok (.aload_n 0, 1) := by decide +kernel
theorem dX7_blursBy_8 : decode cX7_blursBy 8 = .ok (.invokevirtual 64, 3) := by decide +kernel
theorem dX7_blursBy_11 : decode cX7_blursBy 11 = .ok (.if_icmp .ge 167, 3) := by decide +kernel
theorem dX7_blursBy_14 : decode cX7_blursBy 14 = .ok (.iload 4, 2) := by decide +kernel
theorem dX7_blursBy_16 : decode cX7_blursBy 16 = .ok (.iconst 1, 1) := by decide +kernel
theorem dX7_blursBy_17 : decode cX7_blursBy 17 = .ok (.iadd, 1) := by decide +kernel
theorem dX7_blursBy_18 : decode cX7_blursBy 18 = .ok (.istore 5, 2) := by decide +kernel
theorem dX7_blursBy_20 : decode cX7_blursBy 20 = .ok (.iload 5, 2) := by decide +kernel
theorem dX7_blursBy_22 : decode cX7_blursBy 22 = .ok (.aload_n 0, 1) := by decide +kernel
theorem dX7_blursBy_23 : decode cX7_blursBy 23 = .ok (.invokevirtual 64, 3) := by decide +kernel
theorem dX7_blursBy_26 : decode cX7_blursBy 26 = .ok (.if_icmp .ge 146, 3) := by decide +kernel
theorem dX7_blursBy_29 : decode cX7_blursBy 29 = .ok (.aload_n 0, 1) := by decide +kernel
theorem dX7_blursBy_30 : decode cX7_blursBy 30 = .ok (.iload 4, 2) := by decide +kernel
theorem dX7_blursBy_32 : decode cX7_blursBy 32 = .ok (.iconst 1, 1) := by decide +kernel
theorem dX7_blursBy_33 : decode cX7_blursBy 33 = .ok (.invokevirtual 110, 3) := by decide +kernel
theorem dX7_blursBy_36 : decode cX7_blursBy 36 = .ok (.aload_n 0, 1) := by decide +kernel
theorem dX7_blursBy_37 : decode cX7_blursBy 37 = .ok (.iload 5, 2) := by decide +kernel
theorem dX7_blursBy_39 : decode cX7_blursBy 39 = .ok (.iconst 1, 1) := by decide +kernel
theorem dX7_blursBy_40 : decode cX7_blursBy 40 = .ok (.invokevirtual 110, 3) := by decide +kernel
theorem dX7_blursBy_43 : decode cX7_blursBy 43 = .ok (.if_icmp .le 13, 3) := by decide +kernel
theorem dX7_blursBy_46 : decode cX7_blursBy 46 = .ok (.aload_n 0, 1) := by decide +kernel
theorem dX7_blursBy_47 : decode cX7_blursBy 47 = .ok (.iload 4, 2) := by decide +kernel
theorem dX7_blursBy_49 : decode cX7_blursBy 49 = .ok (.iconst 1, 1) := by decide +kernel
theorem dX7_blursBy_50 : decode cX7_blursBy 50 = .ok (.invokevirtual 110, 3) := by decide +kernel
theorem dX7_blursBy_53 : decode cX7_blursBy 53 = .ok (.goto 10, 3) := by decide +kernel
theorem dX7_blursBy_56 : decode cX7_blursBy 56 = .ok (.aload_n 0, 1) := by decide +kernel
theorem dX7_blursBy_57 : decode cX7_blursBy 57 = .ok (.iload 5, 2) := by decide +kernel
theorem dX7_blursBy_59 : decode cX7_blursBy 59 = .ok (.iconst 1, 1) := by decide +kernel
theorem dX7_blursBy_60 : decode cX7_blursBy 60 = .ok (.invokevirtual 110, 3) := by decide +kernel
theorem dX7_blursBy_63 : decode cX7_blursBy 63 = .ok (.istore 6, 2) := by decide +kernel
theorem dX7_blursBy_65 : decode cX7_blursBy 65 = .ok (.aload_n 0, 1) := by decide +kernel
theorem dX7_blursBy_66 : decode cX7_blursBy 66 = .ok (.iload 4, 2) := by decide +kernel
theorem dX7_blursBy_68 : decode cX7_blursBy 68 = .ok (.iconst 1, 1) := by decide +kernel
theorem dX7_blursBy_69 : decode cX7_blursBy 69 = .ok (.invokevirtual 110, 3) := by decide +kernel
theorem dX7_blursBy_72 : decode cX7_blursBy 72 = .ok (.aload_n 0, 1) := by decide +kernel
theorem dX7_blursBy_73 : decode cX7_blursBy 73 = .ok (.iload 5, 2) := by decide +kernel
theorem dX7_blursBy_75 : decode cX7_blursBy 75 = .ok (.iconst 1, 1) := by decide +kernel
theorem dX7_blursBy_76 : decode cX7_blursBy 76 = .ok (.invokevirtual 110, 3) := by decide +kernel
theorem dX7_blursBy_79 : decode cX7_blursBy 79 = .ok (.iadd, 1) := by decide +kernel
theorem dX7_blursBy_80 : decode cX7_blursBy 80 = .ok (.iload 6, 2) := by decide +kernel
theorem dX7_blursBy_82 : decode cX7_blursBy 82 = .ok (.isub, 1) := by decide +kernel
theorem dX7_blursBy_83 : decode cX7_blursBy 83 = .ok (.istore 7, 2) := by decide +kernel
theorem dX7_blursBy_85 : decode cX7_blursBy 85 = .ok (.aload_n 0, 1) := by decide +kernel
theorem dX7_blursBy_86 : decode cX7_blursBy 86 = .ok (.iload 4, 2) := by decide +kernel
theorem dX7_blursBy_88 : decode cX7_blursBy 88 = .ok (.invokevirtual 123, 3) := by decide +kernel
theorem dX7_blursBy_91 : decode cX7_blursBy 91 = .ok (.ifCond .eq 56, 3) := by decide +kernel
theorem dX7_blursBy_94 : decode cX7_blursBy 94 = .ok (.aload_n 0, 1) := by decide +kernel
theorem dX7_blursBy_95 : decode cX7_blursBy 95 = .ok (.iload 5, 2) := by decide +kernel
theorem dX7_blursBy_97 : decode cX7_blursBy 97 = .ok (.invokevirtual 123, 3) := by decide +kernel
theorem dX7_blursBy_100 : decode cX7_blursBy 100 = .ok (.ifCond .eq 47, 3) := by decide +kernel
theorem dX7_blursBy_103 : decode cX7_blursBy 103 = .ok (.aload_n 0, 1) := by decide +kernel
theorem dX7_blursBy_104 : decode cX7_blursBy 104 = .ok (.iload 4, 2) := by decide +kernel
theorem dX7_blursBy_106 : decode cX7_blursBy 106 = .ok (.iconst 0, 1) := by decide +kernel
theorem dX7_blursBy_107 : decode cX7_blursBy 107 = .ok (.invokevirtual 110, 3) := by decide +kernel
theorem dX7_blursBy_110 : decode cX7_blursBy 110 = .ok (.aload_n 0, 1) := by decide +kernel
theorem dX7_blursBy_111 : decode cX7_blursBy 111 = .ok (.iload 5, 2) := by decide +kernel
theorem dX7_blursBy_113 : decode cX7_blursBy 113 = .ok (.iconst 0, 1) := by decide +kernel
theorem dX7_blursBy_114 : decode cX7_blursBy 114 = .ok (.invokevirtual 110, 3) := by decide +kernel
theorem dX7_blursBy_117 : decode cX7_blursBy 117 = .ok (.invokestatic 120, 3) := by decide +kernel
theorem dX7_blursBy_120 : decode cX7_blursBy 120 = .ok (.i2l, 1) := by decide +kernel
theorem dX7_blursBy_121 : decode cX7_blursBy 121 = .ok (.lconst 1, 1) := by decide +kernel
theorem dX7_blursBy_122 : decode cX7_blursBy 122 = .ok (.ldc2_w 183, 3) := by decide +kernel
theorem dX7_blursBy_125 : decode cX7_blursBy 125 = .ok (.invokestatic 68, 3) := by decide +kernel
theorem dX7_blursBy_128 : decode cX7_blursBy 128 = .ok (.ifCond .eq 19, 3) := by decide +kernel
theorem dX7_blursBy_131 : decode cX7_blursBy 131 = .ok (.iload 7, 2) := by decide +kernel
theorem dX7_blursBy_133 : decode cX7_blursBy 133 = .ok (.iload_n 1, 1) := by decide +kernel
theorem dX7_blursBy_134 : decode cX7_blursBy 134 = .ok (.if_icmp .lt 13, 3) := by decide +kernel
theorem dX7_blursBy_137 : decode cX7_blursBy 137 = .ok (.iload 6, 2) := by decide +kernel
theorem dX7_blursBy_139 : decode cX7_blursBy 139 = .ok (.iload_n 2, 1) := by decide +kernel
theorem dX7_blursBy_140 : decode cX7_blursBy 140 = .ok (.if_icmp .ge 7, 3) := by decide +kernel
theorem dX7_blursBy_143 : decode cX7_blursBy 143 = .ok (.iconst 1, 1) := by decide +kernel
theorem dX7_blursBy_144 : decode cX7_blursBy 144 = .ok (.goto 4, 3) := by decide +kernel
theorem dX7_blursBy_147 : decode cX7_blursBy 147 = .ok (.iconst 0, 1) := by decide +kernel
theorem dX7_blursBy_148 : decode cX7_blursBy 148 = .ok (.istore 8, 2) := by decide +kernel
theorem dX7_blursBy_150 : decode cX7_blursBy 150 = .ok (.iload_n 3, 1) := by decide +kernel
theorem dX7_blursBy_151 : decode cX7_blursBy 151 = .ok (.iload 8, 2) := by decide +kernel
theorem dX7_blursBy_153 : decode cX7_blursBy 153 = .ok (.ifCond .eq 10, 3) := by decide +kernel
theorem dX7_blursBy_156 : decode cX7_blursBy 156 = .ok (.iload_n 2, 1) := by decide +kernel
theorem dX7_blursBy_157 : decode cX7_blursBy 157 = .ok (.iload 6, 2) := by decide +kernel
theorem dX7_blursBy_159 : decode cX7_blursBy 159 = .ok (.isub, 1) := by decide +kernel
theorem dX7_blursBy_160 : decode cX7_blursBy 160 = .ok (.goto 4, 3) := by decide +kernel
theorem dX7_blursBy_163 : decode cX7_blursBy 163 = .ok (.iconst 0, 1) := by decide +kernel
theorem dX7_blursBy_164 : decode cX7_blursBy 164 = .ok (.iadd, 1) := by decide +kernel
theorem dX7_blursBy_165 : decode cX7_blursBy 165 = .ok (.istore_n 3, 1) := by decide +kernel
theorem dX7_blursBy_166 : decode cX7_blursBy 166 = .ok (.iinc 5 1, 3) := by decide +kernel
theorem dX7_blursBy_169 : decode cX7_blursBy 169 = .ok (.goto (-149), 3) := by decide +kernel
theorem dX7_blursBy_172 : decode cX7_blursBy 172 = .ok (.iinc 4 1, 3) := by decide +kernel
theorem dX7_blursBy_175 : decode cX7_blursBy 175 = .ok (.goto (-170), 3) := by decide +kernel
theorem dX7_blursBy_178 : decode cX7_blursBy 178 = .ok (.iload_n 3, 1) := by decide +kernel
theorem dX7_blursBy_179 : decode cX7_blursBy 179 = .ok (.ireturn, 1) := by decide +kernel
theorem dX7_begins_0 : decode cX7_begins 0 = .ok (.iconst 0, 1) := by decide +kernel
theorem dX7_begins_1 : decode cX7_begins 1 = .ok (.istore_n 3, 1) := by decide +kernel
theorem dX7_begins_2 : decode cX7_begins 2 = .ok (.iconst 0, 1) := by decide +kernel
theorem dX7_begins_3 : decode cX7_begins 3 = .ok (.istore 4, 2) := by decide +kernel
theorem dX7_begins_5 : decode cX7_begins 5 = .ok (.iload 4, 2) := by decide +kernel
theorem dX7_begins_7 : decode cX7_begins 7 = .ok (.aload_n 0, 1) := by decide +kernel
theorem dX7_begins_8 : decode cX7_begins 8 = .ok (.invokevirtual 64, 3) := by decide +kernel
theorem dX7_begins_11 : decode cX7_begins 11 = .ok (.if_icmp .ge 45, 3) := by decide +kernel
theorem dX7_begins_14 : decode cX7_begins 14 = .ok (.iload_n 3, 1) := by decide +kernel
theorem dX7_begins_15 : decode cX7_begins 15 = .ok (.ifCond .ne 29, 3) := by decide +kernel
theorem dX7_begins_18 : decode cX7_begins 18 = .ok (.iload 4, 2) := by decide +kernel
theorem dX7_begins_20 : decode cX7_begins 20 = .ok (.iload_n 2, 1) := by decide +kernel
theorem dX7_begins_21 : decode cX7_begins 21 = .ok (.if_icmp .eq 27, 3) := by decide +kernel
theorem dX7_begins_24 : decode cX7_begins 24 = .ok (.aload_n 0, 1) := by decide +kernel
theorem dX7_begins_25 : decode cX7_begins 25 = .ok (.iload 4, 2) := by decide +kernel
theorem dX7_begins_27 : decode cX7_begins 27 = .ok (.invokevirtual 123, 3) := by decide +kernel
theorem dX7_begins_30 : decode cX7_begins 30 = .ok (.ifCond .eq 18, 3) := by decide +kernel
theorem dX7_begins_33 : decode cX7_begins 33 = .ok (.aload_n 0, 1) := by decide +kernel
theorem dX7_begins_34 : decode cX7_begins 34 = .ok (.iload 4, 2) := by decide +kernel
theorem dX7_begins_36 : decode cX7_begins 36 = .ok (.iconst 1, 1) := by decide +kernel
theorem dX7_begins_37 : decode cX7_begins 37 = .ok (.invokevirtual 110, 3) := by decide +kernel
theorem dX7_begins_40 : decode cX7_begins 40 = .ok (.iload_n 1, 1) := by decide +kernel
theorem dX7_begins_41 : decode cX7_begins 41 = .ok (.if_icmp .ne 7, 3) := by decide +kernel
theorem dX7_begins_44 : decode cX7_begins 44 = .ok (.iconst 1, 1) := by decide +kernel
theorem dX7_begins_45 : decode cX7_begins 45 = .ok (.goto 4, 3) := by decide +kernel
theorem dX7_begins_48 : decode cX7_begins 48 = .ok (.iconst 0, 1) := by decide +kernel
theorem dX7_begins_49 : decode cX7_begins 49 = .ok (.istore_n 3, 1) := by decide +kernel
theorem dX7_begins_50 : decode cX7_begins 50 = .ok (.iinc 4 1, 3) := by decide +kernel
theorem dX7_begins_53 : decode cX7_begins 53 = .ok (.goto (-48), 3) := by decide +kernel
theorem dX7_begins_56 : decode cX7_begins 56 = .ok (.iload_n 3, 1) := by decide +kernel
theorem dX7_begins_57 : decode cX7_begins 57 = .ok (.ireturn, 1) := by decide +kernel
theorem dX7_joinsBy_0 : decode cX7_joinsBy 0 = .ok (.iconst 0, 1) := by decide +kernel
theorem dX7_joinsBy_1 : decode cX7_joinsBy 1 = .ok (.istore_n 3, 1) := by decide +kernel
theorem dX7_joinsBy_2 : decode cX7_joinsBy 2 = .ok (.iconst 0, 1) := by decide +kernel
theorem dX7_joinsBy_3 : decode cX7_joinsBy 3 = .ok (.istore 4, 2) := by decide +kernel
theorem dX7_joinsBy_5 : decode cX7_joinsBy 5 = .ok (.iload 4, 2) := by decide +kernel
theorem dX7_joinsBy_7 : decode cX7_joinsBy 7 = .ok (.aload_n 0, 1) := by decide +kernel
theorem dX7_joinsBy_8 : decode cX7_joinsBy 8 = .ok (.invokevirtual 64, 3) := by decide +kernel
theorem dX7_joinsBy_11 : decode cX7_joinsBy 11 = .ok (.if_icmp .ge 59, 3) := by decide +kernel
theorem dX7_joinsBy_14 : decode cX7_joinsBy 14 = .ok (.aload_n 0, 1) := by decide +kernel
theorem dX7_joinsBy_15 : decode cX7_joinsBy 15 = .ok (.iload 4, 2) := by decide +kernel
theorem dX7_joinsBy_17 : decode cX7_joinsBy 17 = .ok (.invokevirtual 114, 3) := by decide +kernel
theorem dX7_joinsBy_20 : decode cX7_joinsBy 20 = .ok (.istore 5, 2) := by decide +kernel
theorem dX7_joinsBy_22 : decode cX7_joinsBy 22 = .ok (.iload_n 3, 1) := by decide +kernel
theorem dX7_joinsBy_23 : decode cX7_joinsBy 23 = .ok (.aload_n 0, 1) := by decide +kernel
theorem dX7_joinsBy_24 : decode cX7_joinsBy 24 = .ok (.iload 4, 2) := by decide +kernel
theorem dX7_joinsBy_26 : decode cX7_joinsBy 26 = .ok (.invokevirtual 123, 3) := by decide +kernel
theorem dX7_joinsBy_29 : decode cX7_joinsBy 29 = .ok (.ifCond .eq 32, 3) := by decide +kernel
theorem dX7_joinsBy_32 : decode cX7_joinsBy 32 = .ok (.iload 5, 2) := by decide +kernel
theorem dX7_joinsBy_34 : decode cX7_joinsBy 34 = .ok (.iconst 1, 1) := by decide +kernel
theorem dX7_joinsBy_35 : decode cX7_joinsBy 35 = .ok (.isub, 1) := by decide +kernel
theorem dX7_joinsBy_36 : decode cX7_joinsBy 36 = .ok (.iload_n 1, 1) := by decide +kernel
theorem dX7_joinsBy_37 : decode cX7_joinsBy 37 = .ok (.if_icmp .lt 24, 3) := by decide +kernel
theorem dX7_joinsBy_40 : decode cX7_joinsBy 40 = .ok (.iload 5, 2) := by decide +kernel
theorem dX7_joinsBy_42 : decode cX7_joinsBy 42 = .ok (.iload_n 2, 1) := by decide +kernel
theorem dX7_joinsBy_43 : decode cX7_joinsBy 43 = .ok (.if_icmp .ge 18, 3) := by decide +kernel
theorem dX7_joinsBy_46 : decode cX7_joinsBy 46 = .ok (.aload_n 0, 1) := by decide +kernel
theorem dX7_joinsBy_47 : decode cX7_joinsBy 47 = .ok (.iload 5, 2) := by decide +kernel
theorem dX7_joinsBy_49 : decode cX7_joinsBy 49 = .ok (.iload 4, 2) := by decide +kernel
theorem dX7_joinsBy_51 : decode cX7_joinsBy 51 = .ok (.invokevirtual 212, 3) := by decide +kernel
theorem dX7_joinsBy_54 : decode cX7_joinsBy 54 = .ok (.ifCond .eq 7, 3) := by decide +kernel
theorem dX7_joinsBy_57 : decode cX7_joinsBy 57 = .ok (.iconst 1, 1) := by decide +kernel
theorem dX7_joinsBy_58 : decode cX7_joinsBy 58 = .ok (.goto 4, 3) := by decide +kernel
theorem dX7_joinsBy_61 : decode cX7_joinsBy 61 = .ok (.iconst 0, 1) := by decide +kernel
theorem dX7_joinsBy_62 : decode cX7_joinsBy 62 = .ok (.iadd, 1) := by decide +kernel
theorem dX7_joinsBy_63 : decode cX7_joinsBy 63 = .ok (.istore_n 3, 1) := by decide +kernel
theorem dX7_joinsBy_64 : decode cX7_joinsBy 64 = .ok (.iinc 4 1, 3) := by decide +kernel
theorem dX7_joinsBy_67 : decode cX7_joinsBy 67 = .ok (.goto (-62), 3) := by decide +kernel
theorem dX7_joinsBy_70 : decode cX7_joinsBy 70 = .ok (.iload_n 3, 1) := by decide +kernel
theorem dX7_joinsBy_71 : decode cX7_joinsBy 71 = .ok (.ireturn, 1) := by decide +kernel
theorem dX7_blurs_0 : decode cX7_blurs 0 = .ok (.iload_n 1, 1) := by decide +kernel
theorem dX7_blurs_1 : decode cX7_blurs 1 = .ok (.ifCond .ne 22, 3) := by decide +kernel
theorem dX7_blurs_4 : decode cX7_blurs 4 = .ok (.aload_n 0, 1) := by decide +kernel
theorem dX7_blurs_5 : decode cX7_blurs 5 = .ok (.aload_n 0, 1) := by decide +kernel
theorem dX7_blurs_6 : decode cX7_blurs 6 = .ok (.getfield 7, 3) := by decide +kernel
theorem dX7_blurs_9 : decode cX7_blurs 9 = .ok (.iconst 2, 1) := by decide +kernel
theorem dX7_blurs_10 : decode cX7_blurs 10 = .ok (.iaload, 1) := by decide +kernel
theorem dX7_blurs_11 : decode cX7_blurs 11 = .ok (.aload_n 0, 1) := by decide +kernel
theorem dX7_blurs_12 : decode cX7_blurs 12 = .ok (.getfield 7, 3) := by decide +kernel
theorem dX7_blurs_15 : decode cX7_blurs 15 = .ok (.iconst 3, 1) := by decide +kernel
theorem dX7_blurs_16 : decode cX7_blurs 16 = .ok (.iaload, 1) := by decide +kernel
theorem dX7_blurs_17 : decode cX7_blurs 17 = .ok (.invokevirtual 215, 3) := by decide +kernel
theorem dX7_blurs_20 : decode cX7_blurs 20 = .ok (.goto 33, 3) := by decide +kernel
theorem dX7_blurs_23 : decode cX7_blurs 23 = .ok (.iload_n 1, 1) := by decide +kernel
theorem dX7_blurs_24 : decode cX7_blurs 24 = .ok (.iconst 1, 1) := by decide +kernel
theorem dX7_blurs_25 : decode cX7_blurs 25 = .ok (.if_icmp .ne 22, 3) := by decide +kernel
theorem dX7_blurs_28 : decode cX7_blurs 28 = .ok (.aload_n 0, 1) := by decide +kernel
theorem dX7_blurs_29 : decode cX7_blurs 29 = .ok (.aload_n 0, 1) := by decide +kernel
theorem dX7_blurs_30 : decode cX7_blurs 30 = .ok (.getfield 7, 3) := by decide +kernel
theorem dX7_blurs_33 : decode cX7_blurs 33 = .ok (.iconst 2, 1) := by decide +kernel
theorem dX7_blurs_34 : decode cX7_blurs 34 = .ok (.iaload, 1) := by decide +kernel
theorem dX7_blurs_35 : decode cX7_blurs 35 = .ok (.aload_n 0, 1) := by decide +kernel
theorem dX7_blurs_36 : decode cX7_blurs 36 = .ok (.getfield 7, 3) := by decide +kernel
theorem dX7_blurs_39 : decode cX7_blurs 39 = .ok (.iconst 3, 1) := by decide +kernel
theorem dX7_blurs_40 : decode cX7_blurs 40 = .ok (.iaload, 1) := by decide +kernel
theorem dX7_blurs_41 : decode cX7_blurs 41 = .ok (.invokevirtual 218, 3) := by decide +kernel
theorem dX7_blurs_44 : decode cX7_blurs 44 = .ok (.goto 9, 3) := by decide +kernel
theorem dX7_blurs_47 : decode cX7_blurs 47 = .ok (.aload_n 0, 1) := by decide +kernel
theorem dX7_blurs_48 : decode cX7_blurs 48 = .ok (.bipush (-2), 2) := by decide +kernel
theorem dX7_blurs_50 : decode cX7_blurs 50 = .ok (.invokevirtual 76, 3) := by decide +kernel
theorem dX7_blurs_53 : decode cX7_blurs 53 = .ok (.ireturn, 1) := by decide +kernel
theorem dX7_best_0 : decode cX7_best 0 = .ok (.iload_n 1, 1) := by decide +kernel
theorem dX7_best_1 : decode cX7_best 1 = .ok (.i2l, 1) := by decide +kernel
theorem dX7_best_2 : decode cX7_best 2 = .ok (.lconst 0, 1) := by decide +kernel
theorem dX7_best_3 : decode cX7_best 3 = .ok (.lconst 1, 1) := by decide +kernel
theorem dX7_best_4 : decode cX7_best 4 = .ok (.invokestatic 68, 3) := by decide +kernel
theorem dX7_best_7 : decode cX7_best 7 = .ok (.ifCond .ne 10, 3) := by decide +kernel
theorem dX7_best_10 : decode cX7_best 10 = .ok (.aload_n 0, 1) := by decide +kernel
theorem dX7_best_11 : decode cX7_best 11 = .ok (.bipush (-2), 2) := by decide +kernel
theorem dX7_best_13 : decode cX7_best 13 = .ok (.invokevirtual 76, 3) := by decide +kernel
theorem dX7_best_16 : decode cX7_best 16 = .ok (.ireturn, 1) := by decide +kernel
theorem dX7_best_17 : decode cX7_best 17 = .ok (.iconst 0, 1) := by decide +kernel
theorem dX7_best_18 : decode cX7_best 18 = .ok (.istore_n 2, 1) := by decide +kernel
theorem dX7_best_19 : decode cX7_best 19 = .ok (.iconst 0, 1) := by decide +kernel
theorem dX7_best_20 : decode cX7_best 20 = .ok (.istore_n 3, 1) := by decide +kernel
theorem dX7_best_21 : decode cX7_best 21 = .ok (.iconst 1, 1) := by decide +kernel
theorem dX7_best_22 : decode cX7_best 22 = .ok (.istore 4, 2) := by decide +kernel
theorem dX7_best_24 : decode cX7_best 24 = .ok (.iload 4, 2) := by decide +kernel
theorem dX7_best_26 : decode cX7_best 26 = .ok (.bipush 16, 2) := by decide +kernel
theorem dX7_best_28 : decode cX7_best 28 = .ok (.if_icmp .gt 88, 3) := by decide +kernel
theorem dX7_best_31 : decode cX7_best 31 = .ok (.iconst 0, 1) := by decide +kernel
theorem dX7_best_32 : decode cX7_best 32 = .ok (.istore 5, 2) := by decide +kernel
theorem dX7_best_34 : decode cX7_best 34 = .ok (.iload 5, 2) := by decide +kernel
theorem dX7_best_36 : decode cX7_best 36 = .ok (.iload 4, 2) := by decide +kernel
theorem dX7_best_38 : decode cX7_best 38 = .ok (.iadd, 1) := by decide +kernel
theorem dX7_best_39 : decode cX7_best 39 = .ok (.bipush 64, 2) := by decide +kernel
theorem dX7_best_41 : decode cX7_best 41 = .ok (.if_icmp .gt 69, 3) := by decide +kernel
theorem dX7_best_44 : decode cX7_best 44 = .ok (.aload_n 0, 1) := by decide +kernel
theorem dX7_best_45 : decode cX7_best 45 = .ok (.iload 5, 2) := by decide +kernel
theorem dX7_best_47 : decode cX7_best 47 = .ok (.iload 5, 2) := by decide +kernel
theorem dX7_best_49 : decode cX7_best 49 = .ok (.iload 4, 2) := by decide +kernel
theorem dX7_best_51 : decode cX7_best 51 = .ok (.iadd, 1) := by decide +kernel
theorem dX7_best_52 : decode cX7_best 52 = .ok (.invokevirtual 218, 3) := by decide +kernel
theorem dX7_best_55 : decode cX7_best 55 = .ok (.aload_n 0, 1) := by decide +kernel
theorem dX7_best_56 : decode cX7_best 56 = .ok (.iload 5, 2) := by decide +kernel
theorem dX7_best_58 : decode cX7_best 58 = .ok (.iload 5, 2) := by decide +kernel
theorem dX7_best_60 : decode cX7_best 60 = .ok (.iload 4, 2) := by decide +kernel
theorem dX7_best_62 : decode cX7_best 62 = .ok (.iadd, 1) := by decide +kernel
theorem dX7_best_63 : decode cX7_best 63 = .ok (.invokevirtual 215, 3) := by decide +kernel
theorem dX7_best_66 : decode cX7_best 66 = .ok (.isub, 1) := by decide +kernel
theorem dX7_best_67 : decode cX7_best 67 = .ok (.istore 6, 2) := by decide +kernel
theorem dX7_best_69 : decode cX7_best 69 = .ok (.iload 6, 2) := by decide +kernel
theorem dX7_best_71 : decode cX7_best 71 = .ok (.iload_n 2, 1) := by decide +kernel
theorem dX7_best_72 : decode cX7_best 72 = .ok (.if_icmp .le 17, 3) := by decide +kernel
theorem dX7_best_75 : decode cX7_best 75 = .ok (.bipush 100, 2) := by decide +kernel
theorem dX7_best_77 : decode cX7_best 77 = .ok (.iload 5, 2) := by decide +kernel
theorem dX7_best_79 : decode cX7_best 79 = .ok (.imul, 1) := by decide +kernel
theorem dX7_best_80 : decode cX7_best 80 = .ok (.iload 5, 2) := by decide +kernel
theorem dX7_best_82 : decode cX7_best 82 = .ok (.iadd, 1) := by decide +kernel
theorem dX7_best_83 : decode cX7_best 83 = .ok (.iload 4, 2) := by decide +kernel
theorem dX7_best_85 : decode cX7_best 85 = .ok (.iadd, 1) := by decide +kernel
theorem dX7_best_86 : decode cX7_best 86 = .ok (.goto 4, 3) := by decide +kernel
theorem dX7_best_89 : decode cX7_best 89 = .ok (.iload_n 3, 1) := by decide +kernel
theorem dX7_best_90 : decode cX7_best 90 = .ok (.istore_n 3, 1) := by decide +kernel
theorem dX7_best_91 : decode cX7_best 91 = .ok (.iload 6, 2) := by decide +kernel
theorem dX7_best_93 : decode cX7_best 93 = .ok (.iload_n 2, 1) := by decide +kernel
theorem dX7_best_94 : decode cX7_best 94 = .ok (.if_icmp .le 8, 3) := by decide +kernel
theorem dX7_best_97 : decode cX7_best 97 = .ok (.iload 6, 2) := by decide +kernel
theorem dX7_best_99 : decode cX7_best 99 = .ok (.goto 4, 3) := by decide +kernel
theorem dX7_best_102 : decode cX7_best 102 = .ok (.iload_n 2, 1) := by decide +kernel
theorem dX7_best_103 : decode cX7_best 103 = .ok (.istore_n 2, 1) := by decide +kernel
theorem dX7_best_104 : decode cX7_best 104 = .ok (.iinc 5 1, 3) := by decide +kernel
theorem dX7_best_107 : decode cX7_best 107 = .ok (.goto (-73), 3) := by decide +kernel
theorem dX7_best_110 : decode cX7_best 110 = .ok (.iinc 4 1, 3) := by decide +kernel
theorem dX7_best_113 : decode cX7_best 113 = .ok (.goto (-89), 3) := by decide +kernel
theorem dX7_best_116 : decode cX7_best 116 = .ok (.iload_n 1, 1) := by decide +kernel
theorem dX7_best_117 : decode cX7_best 117 = .ok (.ifCond .ne 7, 3) := by decide +kernel
theorem dX7_best_120 : decode cX7_best 120 = .ok (.iload_n 2, 1) := by decide +kernel
theorem dX7_best_121 : decode cX7_best 121 = .ok (.goto 4, 3) := by decide +kernel
theorem dX7_best_124 : decode cX7_best 124 = .ok (.iload_n 3, 1) := by decide +kernel
theorem dX7_best_125 : decode cX7_best 125 = .ok (.ireturn, 1) := by decide +kernel
theorem dX7_isFree_0 : decode cX7_isFree 0 = .ok (.iconst 1, 1) := by decide +kernel
theorem dX7_isFree_1 : decode cX7_isFree 1 = .ok (.istore_n 3, 1) := by decide +kernel
theorem dX7_isFree_2 : decode cX7_isFree 2 = .ok (.iconst 0, 1) := by decide +kernel
theorem dX7_isFree_3 : decode cX7_isFree 3 = .ok (.istore 4, 2) := by decide +kernel
theorem dX7_isFree_5 : decode cX7_isFree 5 = .ok (.iload 4, 2) := by decide +kernel
theorem dX7_isFree_7 : decode cX7_isFree 7 = .ok (.aload_n 0, 1) := by decide +kernel
theorem dX7_isFree_8 : decode cX7_isFree 8 = .ok (.invokevirtual 64, 3) := by decide +kernel
theorem dX7_isFree_11 : decode cX7_isFree 11 = .ok (.if_icmp .ge 51, 3) := by decide +kernel
theorem dX7_isFree_14 : decode cX7_isFree 14 = .ok (.iload_n 3, 1) := by decide +kernel
theorem dX7_isFree_15 : decode cX7_isFree 15 = .ok (.ifCond .eq 39, 3) := by decide +kernel
theorem dX7_isFree_18 : decode cX7_isFree 18 = .ok (.aload_n 0, 1) := by decide +kernel
theorem dX7_isFree_19 : decode cX7_isFree 19 = .ok (.iload 4, 2) := by decide +kernel
theorem dX7_isFree_21 : decode cX7_isFree 21 = .ok (.iconst 5, 1) := by decide +kernel
theorem dX7_isFree_22 : decode cX7_isFree 22 = .ok (.invokevirtual 110, 3) := by decide +kernel
theorem dX7_isFree_25 : decode cX7_isFree 25 = .ok (.iload_n 1, 1) := by decide +kernel
theorem dX7_isFree_26 : decode cX7_isFree 26 = .ok (.if_icmp .ne 24, 3) := by decide +kernel
theorem dX7_isFree_29 : decode cX7_isFree 29 = .ok (.iload_n 2, 1) := by decide +kernel
theorem dX7_isFree_30 : decode cX7_isFree 30 = .ok (.aload_n 0, 1) := by decide +kernel
theorem dX7_isFree_31 : decode cX7_isFree 31 = .ok (.iload 4, 2) := by decide +kernel
theorem dX7_isFree_33 : decode cX7_isFree 33 = .ok (.iconst 1, 1) := by decide +kernel
theorem dX7_isFree_34 : decode cX7_isFree 34 = .ok (.invokevirtual 110, 3) := by decide +kernel
theorem dX7_isFree_37 : decode cX7_isFree 37 = .ok (.if_icmp .lt 13, 3) := by decide +kernel
theorem dX7_isFree_40 : decode cX7_isFree 40 = .ok (.iload_n 2, 1) := by decide +kernel
theorem dX7_isFree_41 : decode cX7_isFree 41 = .ok (.aload_n 0, 1) := by decide +kernel
theorem dX7_isFree_42 : decode cX7_isFree 42 = .ok (.iload 4, 2) := by decide +kernel
theorem dX7_isFree_44 : decode cX7_isFree 44 = .ok (.invokevirtual 114, 3) := by decide +kernel
theorem dX7_isFree_47 : decode cX7_isFree 47 = .ok (.if_icmp .lt 7, 3) := by decide +kernel
theorem dX7_isFree_50 : decode cX7_isFree 50 = .ok (.iconst 1, 1) := by decide +kernel
theorem dX7_isFree_51 : decode cX7_isFree 51 = .ok (.goto 4, 3) := by decide +kernel
theorem dX7_isFree_54 : decode cX7_isFree 54 = .ok (.iconst 0, 1) := by decide +kernel
theorem dX7_isFree_55 : decode cX7_isFree 55 = .ok (.istore_n 3, 1) := by decide +kernel
theorem dX7_isFree_56 : decode cX7_isFree 56 = .ok (.iinc 4 1, 3) := by decide +kernel
theorem dX7_isFree_59 : decode cX7_isFree 59 = .ok (.goto (-54), 3) := by decide +kernel
theorem dX7_isFree_62 : decode cX7_isFree 62 = .ok (.iload_n 3, 1) := by decide +kernel
theorem dX7_isFree_63 : decode cX7_isFree 63 = .ok (.ireturn, 1) := by decide +kernel
theorem dX7_freeHand_0 : decode cX7_freeHand 0 = .ok (.iconst 0, 1) := by decide +kernel
theorem dX7_freeHand_1 : decode cX7_freeHand 1 = .ok (.istore_n 3, 1) := by decide +kernel
theorem dX7_freeHand_2 : decode cX7_freeHand 2 = .ok (.iload_n 3, 1) := by decide +kernel
theorem dX7_freeHand_3 : decode cX7_freeHand 3 = .ok (.iconst 4, 1) := by decide +kernel
theorem dX7_freeHand_4 : decode cX7_freeHand 4 = .ok (.if_icmp .ge 32, 3) := by decide +kernel
theorem dX7_freeHand_7 : decode cX7_freeHand 7 = .ok (.iload_n 2, 1) := by decide +kernel
theorem dX7_freeHand_8 : decode cX7_freeHand 8 = .ok (.iconst (-1), 1) := by decide +kernel
theorem dX7_freeHand_9 : decode cX7_freeHand 9 = .ok (.if_icmp .eq 10, 3) := by decide +kernel
theorem dX7_freeHand_12 : decode cX7_freeHand 12 = .ok (.iload_n 3, 1) := by decide +kernel
theorem dX7_freeHand_13 : decode cX7_freeHand 13 = .ok (.iconst 2, 1) := by decide +kernel
theorem dX7_freeHand_14 : decode cX7_freeHand 14 = .ok (.idiv, 1) := by decide +kernel
theorem dX7_freeHand_15 : decode cX7_freeHand 15 = .ok (.iload_n 2, 1) := by decide +kernel
theorem dX7_freeHand_16 : decode cX7_freeHand 16 = .ok (.if_icmp .ne 14, 3) := by decide +kernel
theorem dX7_freeHand_19 : decode cX7_freeHand 19 = .ok (.aload_n 0, 1) := by decide +kernel
theorem dX7_freeHand_20 : decode cX7_freeHand 20 = .ok (.iload_n 3, 1) := by decide +kernel
theorem dX7_freeHand_21 : decode cX7_freeHand 21 = .ok (.iload_n 1, 1) := by decide +kernel
theorem dX7_freeHand_22 : decode cX7_freeHand 22 = .ok (.invokevirtual 221, 3) := by decide +kernel
theorem dX7_freeHand_25 : decode cX7_freeHand 25 = .ok (.ifCond .eq 5, 3) := by decide +kernel
theorem dX7_freeHand_28 : decode cX7_freeHand 28 = .ok (.iload_n 3, 1) := by decide +kernel
theorem dX7_freeHand_29 : decode cX7_freeHand 29 = .ok (.ireturn, 1) := by decide +kernel
theorem dX7_freeHand_30 : decode cX7_freeHand 30 = .ok (.iinc 3 1, 3) := by decide +kernel
theorem dX7_freeHand_33 : decode cX7_freeHand 33 = .ok (.goto (-31), 3) := by decide +kernel
theorem dX7_freeHand_36 : decode cX7_freeHand 36 = .ok (.iconst (-1), 1) := by decide +kernel
theorem dX7_freeHand_37 : decode cX7_freeHand 37 = .ok (.ireturn, 1) := by decide +kernel
theorem dX7_turns_0 : decode cX7_turns 0 = .ok (.iload_n 1, 1) := by decide +kernel
theorem dX7_turns_1 : decode cX7_turns 1 = .ok (.i2l, 1) := by decide +kernel
theorem dX7_turns_2 : decode cX7_turns 2 = .ok (.lconst 0, 1) := by decide +kernel
theorem dX7_turns_3 : decode cX7_turns 3 = .ok (.ldc2_w 94, 3) := by decide +kernel
theorem dX7_turns_6 : decode cX7_turns 6 = .ok (.invokestatic 68, 3) := by decide +kernel
theorem dX7_turns_9 : decode cX7_turns 9 = .ok (.ifCond .eq 27, 3) := by decide +kernel
theorem dX7_turns_12 : decode cX7_turns 12 = .ok (.iload_n 2, 1) := by decide +kernel
theorem dX7_turns_13 : decode cX7_turns 13 = .ok (.i2l, 1) := by decide +kernel
theorem dX7_turns_14 : decode cX7_turns 14 = .ok (.lconst 0, 1) := by decide +kernel
theorem dX7_turns_15 : decode cX7_turns 15 = .ok (.ldc2_w 74, 3) := by decide +kernel
theorem dX7_turns_18 : decode cX7_turns 18 = .ok (.invokestatic 68, 3) := by decide +kernel
theorem dX7_turns_21 : decode cX7_turns 21 = .ok (.ifCond .eq 15, 3) := by decide +kernel
theorem dX7_turns_24 : decode cX7_turns 24 = .ok (.iload_n 3, 1) := by decide +kernel
theorem dX7_turns_25 : decode cX7_turns 25 = .ok (.i2l, 1) := by decide +kernel
theorem dX7_turns_26 : decode cX7_turns 26 = .ok (.ldc2_w 98, 3) := by decide +kernel
theorem dX7_turns_29 : decode cX7_turns 29 = .ok (.lconst 1, 1) := by decide +kernel
theorem dX7_turns_30 : decode cX7_turns 30 = .ok (.invokestatic 68, 3) := by decide +kernel
theorem dX7_turns_33 : decode cX7_turns 33 = .ok (.ifCond .ne 10, 3) := by decide +kernel
theorem dX7_turns_36 : decode cX7_turns 36 = .ok (.aload_n 0, 1) := by decide +kernel
theorem dX7_turns_37 : decode cX7_turns 37 = .ok (.bipush (-2), 2) := by decide +kernel
theorem dX7_turns_39 : decode cX7_turns 39 = .ok (.invokevirtual 76, 3) := by decide +kernel
theorem dX7_turns_42 : decode cX7_turns 42 = .ok (.ireturn, 1) := by decide +kernel
theorem dX7_turns_43 : decode cX7_turns 43 = .ok (.iconst 0, 1) := by decide +kernel
theorem dX7_turns_44 : decode cX7_turns 44 = .ok (.istore 4, 2) := by decide +kernel
theorem dX7_turns_46 : decode cX7_turns 46 = .ok (.iload 4, 2) := by decide +kernel
theorem dX7_turns_48 : decode cX7_turns 48 = .ok (.iload_n 2, 1) := by decide +kernel
theorem dX7_turns_49 : decode cX7_turns 49 = .ok (.if_icmp .gt 86, 3) := by decide +kernel
theorem dX7_turns_52 : decode cX7_turns 52 = .ok (.iload_n 1, 1) := by decide +kernel
theorem dX7_turns_53 : decode cX7_turns 53 = .ok (.iload 4, 2) := by decide +kernel
theorem dX7_turns_55 : decode cX7_turns 55 = .ok (.isub, 1) := by decide +kernel
theorem dX7_turns_56 : decode cX7_turns 56 = .ok (.istore 5, 2) := by decide +kernel
theorem dX7_turns_58 : decode cX7_turns 58 = .ok (.iload 5, 2) := by decide +kernel
theorem dX7_turns_60 : decode cX7_turns 60 = .ok (.iload_n 1, 1) := by decide +kernel
theorem dX7_turns_61 : decode cX7_turns 61 = .ok (.iload 4, 2) := by decide +kernel
theorem dX7_turns_63 : decode cX7_turns 63 = .ok (.iadd, 1) := by decide +kernel
theorem dX7_turns_64 : decode cX7_turns 64 = .ok (.if_icmp .gt 65, 3) := by decide +kernel
theorem dX7_turns_67 : decode cX7_turns 67 = .ok (.iload 5, 2) := by decide +kernel
theorem dX7_turns_69 : decode cX7_turns 69 = .ok (.i2l, 1) := by decide +kernel
theorem dX7_turns_70 : decode cX7_turns 70 = .ok (.lconst 0, 1) := by decide +kernel
theorem dX7_turns_71 : decode cX7_turns 71 = .ok (.ldc2_w 94, 3) := by decide +kernel
theorem dX7_turns_74 : decode cX7_turns 74 = .ok (.invokestatic 68, 3) := by decide +kernel
theorem dX7_turns_77 : decode cX7_turns 77 = .ok (.ifCond .eq 13, 3) := by decide +kernel
theorem dX7_turns_80 : decode cX7_turns 80 = .ok (.aload_n 0, 1) := by decide +kernel
theorem dX7_turns_81 : decode cX7_turns 81 = .ok (.iload 5, 2) := by decide +kernel
theorem dX7_turns_83 : decode cX7_turns 83 = .ok (.iload_n 3, 1) := by decide +kernel
theorem dX7_turns_84 : decode cX7_turns 84 = .ok (.invokevirtual 224, 3) := by decide +kernel
theorem dX7_turns_87 : decode cX7_turns 87 = .ok (.goto 4, 3) := by decide +kernel
theorem dX7_turns_90 : decode cX7_turns 90 = .ok (.iconst (-1), 1) := by decide +kernel
theorem dX7_turns_91 : decode cX7_turns 91 = .ok (.istore 6, 2) := by decide +kernel
theorem dX7_turns_93 : decode cX7_turns 93 = .ok (.iload 6, 2) := by decide +kernel
theorem dX7_turns_95 : decode cX7_turns 95 = .ok (.iconst (-1), 1) := by decide +kernel
theorem dX7_turns_96 : decode cX7_turns 96 = .ok (.if_icmp .eq 12, 3) := by decide +kernel
theorem dX7_turns_99 : decode cX7_turns 99 = .ok (.bipush 10, 2) := by decide +kernel
theorem dX7_turns_101 : decode cX7_turns 101 = .ok (.iload 5, 2) := by decide +kernel
theorem dX7_turns_103 : decode cX7_turns 103 = .ok (.imul, 1) := by decide +kernel
theorem dX7_turns_104 : decode cX7_turns 104 = .ok (.iload 6, 2) := by decide +kernel
theorem dX7_turns_106 : decode cX7_turns 106 = .ok (.iadd, 1) := by decide +kernel
theorem dX7_turns_107 : decode cX7_turns 107 = .ok (.ireturn, 1) := by decide +kernel
theorem dX7_turns_108 : decode cX7_turns 108 = .ok (.iload 5, 2) := by decide +kernel
theorem dX7_turns_110 : decode cX7_turns 110 = .ok (.iload 4, 2) := by decide +kernel
theorem dX7_turns_112 : decode cX7_turns 112 = .ok (.ifCond .ne 7, 3) := by decide +kernel
theorem dX7_turns_115 : decode cX7_turns 115 = .ok (.iconst 1, 1) := by decide +kernel
theorem dX7_turns_116 : decode cX7_turns 116 = .ok (.goto 7, 3) := by decide +kernel
theorem dX7_turns_119 : decode cX7_turns 119 = .ok (.iconst 2, 1) := by decide +kernel
theorem dX7_turns_120 : decode cX7_turns 120 = .ok (.iload 4, 2) := by decide +kernel
theorem dX7_turns_122 : decode cX7_turns 122 = .ok (.imul, 1) := by decide +kernel
theorem dX7_turns_123 : decode cX7_turns 123 = .ok (.iadd, 1) := by decide +kernel
theorem dX7_turns_124 : decode cX7_turns 124 = .ok (.istore 5, 2) := by decide +kernel
theorem dX7_turns_126 : decode cX7_turns 126 = .ok (.goto (-68), 3) := by decide +kernel
theorem dX7_turns_129 : decode cX7_turns 129 = .ok (.iinc 4 1, 3) := by decide +kernel
theorem dX7_turns_132 : decode cX7_turns 132 = .ok (.goto (-86), 3) := by decide +kernel
theorem dX7_turns_135 : decode cX7_turns 135 = .ok (.iconst (-1), 1) := by decide +kernel
theorem dX7_turns_136 : decode cX7_turns 136 = .ok (.ireturn, 1) := by decide +kernel
theorem dX7_covered_0 : decode cX7_covered 0 = .ok (.lconst 0, 1) := by decide +kernel
theorem dX7_covered_1 : decode cX7_covered 1 = .ok (.lstore_n 1, 1) := by decide +kernel
theorem dX7_covered_2 : decode cX7_covered 2 = .ok (.iconst 0, 1) := by decide +kernel
theorem dX7_covered_3 : decode cX7_covered 3 = .ok (.istore_n 3, 1) := by decide +kernel
theorem dX7_covered_4 : decode cX7_covered 4 = .ok (.iload_n 3, 1) := by decide +kernel
theorem dX7_covered_5 : decode cX7_covered 5 = .ok (.bipush 64, 2) := by decide +kernel
theorem dX7_covered_7 : decode cX7_covered 7 = .ok (.if_icmp .ge 185, 3) := by decide +kernel
theorem dX7_covered_10 : decode cX7_covered 10 = .ok (.iconst 0, 1) := by decide +kernel
theorem dX7_covered_11 : decode cX7_covered 11 = .ok (.istore 4, 2) := by decide +kernel
theorem dX7_covered_13 : decode cX7_covered 13 = .ok (.iconst 0, 1) := by decide +kernel
theorem dX7_covered_14 : decode cX7_covered 14 = .ok (.istore 5, 2) := by decide +kernel
theorem dX7_covered_16 : decode cX7_covered 16 = .ok (.iconst 0, 1) := by decide +kernel
theorem dX7_covered_17 : decode cX7_covered 17 = .ok (.istore 6, 2) := by decide +kernel
theorem dX7_covered_19 : decode cX7_covered 19 = .ok (.iconst 0, 1) := by decide +kernel
theorem dX7_covered_20 : decode cX7_covered 20 = .ok (.istore 7, 2) := by decide +kernel
theorem dX7_covered_22 : decode cX7_covered 22 = .ok (.iload 7, 2) := by decide +kernel
theorem dX7_covered_24 : decode cX7_covered 24 = .ok (.aload_n 0, 1) := by decide +kernel
theorem dX7_covered_25 : decode cX7_covered 25 = .ok (.invokevirtual 64, 3) := by decide +kernel
theorem dX7_covered_28 : decode cX7_covered 28 = .ok (.if_icmp .ge 136, 3) := by decide +kernel
theorem dX7_covered_31 : decode cX7_covered 31 = .ok (.aload_n 0, 1) := by decide +kernel
theorem dX7_covered_32 : decode cX7_covered 32 = .ok (.iload 7, 2) := by decide +kernel
theorem dX7_covered_34 : decode cX7_covered 34 = .ok (.invokevirtual 123, 3) := by decide +kernel
theorem dX7_covered_37 : decode cX7_covered 37 = .ok (.ifCond .eq 28, 3) := by decide +kernel
theorem dX7_covered_40 : decode cX7_covered 40 = .ok (.iload_n 3, 1) := by decide +kernel
theorem dX7_covered_41 : decode cX7_covered 41 = .ok (.aload_n 0, 1) := by decide +kernel
theorem dX7_covered_42 : decode cX7_covered 42 = .ok (.iload 7, 2) := by decide +kernel
theorem dX7_covered_44 : decode cX7_covered 44 = .ok (.iconst 1, 1) := by decide +kernel
theorem dX7_covered_45 : decode cX7_covered 45 = .ok (.invokevirtual 110, 3) := by decide +kernel
theorem dX7_covered_48 : decode cX7_covered 48 = .ok (.if_icmp .lt 17, 3) := by decide +kernel
theorem dX7_covered_51 : decode cX7_covered 51 = .ok (.iload_n 3, 1) := by decide +kernel
theorem dX7_covered_52 : decode cX7_covered 52 = .ok (.aload_n 0, 1) := by decide +kernel
theorem dX7_covered_53 : decode cX7_covered 53 = .ok (.iload 7, 2) := by decide +kernel
theorem dX7_covered_55 : decode cX7_covered 55 = .ok (.invokevirtual 114, 3) := by decide +kernel
theorem dX7_covered_58 : decode cX7_covered 58 = .ok (.if_icmp .ge 7, 3) := by decide +kernel
theorem dX7_covered_61 : decode cX7_covered 61 = .ok (.iconst 1, 1) := by decide +kernel
theorem dX7_covered_62 : decode cX7_covered 62 = .ok (.goto 4, 3) := by decide +kernel
theorem dX7_covered_65 : decode cX7_covered 65 = .ok (.iconst 0, 1) := by decide +kernel
theorem dX7_covered_66 : decode cX7_covered 66 = .ok (.istore 8, 2) := by decide +kernel
theorem dX7_covered_68 : decode cX7_covered 68 = .ok (.iload 4, 2) := by decide +kernel
theorem dX7_covered_70 : decode cX7_covered 70 = .ok (.iload 8, 2) := by decide +kernel
theorem dX7_covered_72 : decode cX7_covered 72 = .ok (.ifCond .eq 23, 3) := by decide +kernel
theorem dX7_covered_75 : decode cX7_covered 75 = .ok (.aload_n 0, 1) := by decide +kernel
theorem dX7_covered_76 : decode cX7_covered 76 = .ok (.iload 7, 2) := by decide +kernel
theorem dX7_covered_78 : decode cX7_covered 78 = .ok (.iconst 3, 1) := by decide +kernel
theorem dX7_covered_79 : decode cX7_covered 79 = .ok (.invokevirtual 110, 3) := by decide +kernel
theorem dX7_covered_82 : decode cX7_covered 82 = .ok (.ifCond .ne 13, 3) := by decide +kernel
theorem dX7_covered_85 : decode cX7_covered 85 = .ok (.aload_n 0, 1) := by decide +kernel
theorem dX7_covered_86 : decode cX7_covered 86 = .ok (.iload 7, 2) := by decide +kernel
theorem dX7_covered_88 : decode cX7_covered 88 = .ok (.iconst 4, 1) := by decide +kernel
theorem dX7_covered_89 : decode cX7_covered 89 = .ok (.invokevirtual 110, 3) := by decide +kernel
theorem dX7_covered_92 : decode cX7_covered 92 = .ok (.goto 4, 3) := by decide +kernel
theorem dX7_covered_95 : decode cX7_covered 95 = .ok (.iconst 0, 1) := by decide +kernel
theorem dX7_covered_96 : decode cX7_covered 96 = .ok (.iadd, 1) := by decide +kernel
theorem dX7_covered_97 : decode cX7_covered 97 = .ok (.istore 4, 2) := by decide +kernel
theorem dX7_covered_99 : decode cX7_covered 99 = .ok (.iload 5, 2) := by decide +kernel
theorem dX7_covered_101 : decode cX7_covered 101 = .ok (.iload 8, 2) := by decide +kernel
theorem dX7_covered_103 : decode cX7_covered 103 = .ok (.ifCond .eq 24, 3) := by decide +kernel
theorem dX7_covered_106 : decode cX7_covered 106 = .ok (.aload_n 0, 1) := by decide +kernel
theorem dX7_covered_107 : decode cX7_covered 107 = .ok (.iload 7, 2) := by decide +kernel
theorem dX7_covered_109 : decode cX7_covered 109 = .ok (.iconst 3, 1) := by decide +kernel
theorem dX7_covered_110 : decode cX7_covered 110 = .ok (.invokevirtual 110, 3) := by decide +kernel
theorem dX7_covered_113 : decode cX7_covered 113 = .ok (.iconst 1, 1) := by decide +kernel
theorem dX7_covered_114 : decode cX7_covered 114 = .ok (.if_icmp .ne 13, 3) := by decide +kernel
theorem dX7_covered_117 : decode cX7_covered 117 = .ok (.aload_n 0, 1) := by decide +kernel
theorem dX7_covered_118 : decode cX7_covered 118 = .ok (.iload 7, 2) := by decide +kernel
theorem dX7_covered_120 : decode cX7_covered 120 = .ok (.iconst 4, 1) := by decide +kernel
theorem dX7_covered_121 : decode cX7_covered 121 = .ok (.invokevirtual 110, 3) := by decide +kernel
theorem dX7_covered_124 : decode cX7_covered 124 = .ok (.goto 4, 3) := by decide +kernel
theorem dX7_covered_127 : decode cX7_covered 127 = .ok (.iconst 0, 1) := by decide +kernel
theorem dX7_covered_128 : decode cX7_covered 128 = .ok (.iadd, 1) := by decide +kernel
theorem dX7_covered_129 : decode cX7_covered 129 = .ok (.istore 5, 2) := by decide +kernel
theorem dX7_covered_131 : decode cX7_covered 131 = .ok (.iload 6, 2) := by decide +kernel
theorem dX7_covered_133 : decode cX7_covered 133 = .ok (.ifCond .ne 18, 3) := by decide +kernel
theorem dX7_covered_136 : decode cX7_covered 136 = .ok (.iload 8, 2) := by decide +kernel
theorem dX7_covered_138 : decode cX7_covered 138 = .ok (.ifCond .eq 17, 3) := by decide +kernel
theorem dX7_covered_141 : decode cX7_covered 141 = .ok (.aload_n 0, 1) := by decide +kernel
theorem dX7_covered_142 : decode cX7_covered 142 = .ok (.iload 7, 2) := by decide +kernel
theorem dX7_covered_144 : decode cX7_covered 144 = .ok (.iconst 3, 1) := by decide +kernel
theorem dX7_covered_145 : decode cX7_covered 145 = .ok (.invokevirtual 110, 3) := by decide +kernel
theorem dX7_covered_148 : decode cX7_covered 148 = .ok (.ifCond .ne 7, 3) := by decide +kernel
theorem dX7_covered_151 : decode cX7_covered 151 = .ok (.iconst 1, 1) := by decide +kernel
theorem dX7_covered_152 : decode cX7_covered 152 = .ok (.goto 4, 3) := by decide +kernel
theorem dX7_covered_155 : decode cX7_covered 155 = .ok (.iconst 0, 1) := by decide +kernel
theorem dX7_covered_156 : decode cX7_covered 156 = .ok (.istore 6, 2) := by decide +kernel
theorem dX7_covered_158 : decode cX7_covered 158 = .ok (.iinc 7 1, 3) := by decide +kernel
theorem dX7_covered_161 : decode cX7_covered 161 = .ok (.goto (-139), 3) := by decide +kernel
theorem dX7_covered_164 : decode cX7_covered 164 = .ok (.lload_n 1, 1) := by decide +kernel
theorem dX7_covered_165 : decode cX7_covered 165 = .ok (.iload 6, 2) := by decide +kernel
theorem dX7_covered_167 : decode cX7_covered 167 = .ok (.ifCond .eq 16, 3) := by decide +kernel
theorem dX7_covered_170 : decode cX7_covered 170 = .ok (.iload 5, 2) := by decide +kernel
theorem dX7_covered_172 : decode cX7_covered 172 = .ok (.iload 4, 2) := by decide +kernel
theorem dX7_covered_174 : decode cX7_covered 174 = .ok (.if_icmp .le 9, 3) := by decide +kernel
theorem dX7_covered_177 : decode cX7_covered 177 = .ok (.lconst 1, 1) := by decide +kernel
theorem dX7_covered_178 : decode cX7_covered 178 = .ok (.iload_n 3, 1) := by decide +kernel
theorem dX7_covered_179 : decode cX7_covered 179 = .ok (.lshl, 1) := by decide +kernel
theorem dX7_covered_180 : decode cX7_covered 180 = .ok (.goto 4, 3) := by decide +kernel
theorem dX7_covered_183 : decode cX7_covered 183 = .ok (.lconst 0, 1) := by decide +kernel
theorem dX7_covered_184 : decode cX7_covered 184 = .ok (.lor, 1) := by decide +kernel
theorem dX7_covered_185 : decode cX7_covered 185 = .ok (.lstore_n 1, 1) := by decide +kernel
theorem dX7_covered_186 : decode cX7_covered 186 = .ok (.iinc 3 1, 3) := by decide +kernel
theorem dX7_covered_189 : decode cX7_covered 189 = .ok (.goto (-185), 3) := by decide +kernel
theorem dX7_covered_192 : decode cX7_covered 192 = .ok (.lload_n 1, 1) := by decide +kernel
theorem dX7_covered_193 : decode cX7_covered 193 = .ok (.lreturn, 1) := by decide +kernel
theorem dX7_changePlaces_0 : decode cX7_changePlaces 0 = .ok (.iconst 0, 1) := by decide +kernel
theorem dX7_changePlaces_1 : decode cX7_changePlaces 1 = .ok (.istore_n 1, 1) := by decide +kernel
theorem dX7_changePlaces_2 : decode cX7_changePlaces 2 = .ok (.iload_n 1, 1) := by decide +kernel
theorem dX7_changePlaces_3 : decode cX7_changePlaces 3 = .ok (.aload_n 0, 1) := by decide +kernel
theorem dX7_changePlaces_4 : decode cX7_changePlaces 4 = .ok (.invokevirtual 64, 3) := by decide +kernel
theorem dX7_changePlaces_7 : decode cX7_changePlaces 7 = .ok (.if_icmp .ge 35, 3) := by decide +kernel
theorem dX7_changePlaces_10 : decode cX7_changePlaces 10 = .ok (.aload_n 0, 1) := by decide +kernel
theorem dX7_changePlaces_11 : decode cX7_changePlaces 11 = .ok (.iload_n 1, 1) := by decide +kernel
theorem dX7_changePlaces_12 : decode cX7_changePlaces 12 = .ok (.iconst 5, 1) := by decide +kernel
theorem dX7_changePlaces_13 : decode cX7_changePlaces 13 = .ok (.invokevirtual 110, 3) := by decide +kernel
theorem dX7_changePlaces_16 : decode cX7_changePlaces 16 = .ok (.istore_n 2, 1) := by decide +kernel
theorem dX7_changePlaces_17 : decode cX7_changePlaces 17 = .ok (.aload_n 0, 1) := by decide +kernel
theorem dX7_changePlaces_18 : decode cX7_changePlaces 18 = .ok (.iload_n 1, 1) := by decide +kernel
theorem dX7_changePlaces_19 : decode cX7_changePlaces 19 = .ok (.iload_n 2, 1) := by decide +kernel
theorem dX7_changePlaces_20 : decode cX7_changePlaces 20 = .ok (.iconst (-1), 1) := by decide +kernel
theorem dX7_changePlaces_21 : decode cX7_changePlaces 21 = .ok (.if_icmp .ne 7, 3) := by decide +kernel
theorem dX7_changePlaces_24 : decode cX7_changePlaces 24 = .ok (.iconst (-1), 1) := by decide +kernel
theorem dX7_changePlaces_25 : decode cX7_changePlaces 25 = .ok (.goto 8, 3) := by decide +kernel
theorem dX7_changePlaces_28 : decode cX7_changePlaces 28 = .ok (.iload_n 2, 1) := by decide +kernel
theorem dX7_changePlaces_29 : decode cX7_changePlaces 29 = .ok (.iconst 2, 1) := by decide +kernel
theorem dX7_changePlaces_30 : decode cX7_changePlaces 30 = .ok (.iadd, 1) := by decide +kernel
theorem dX7_changePlaces_31 : decode cX7_changePlaces 31 = .ok (.iconst 4, 1) := by decide +kernel
theorem dX7_changePlaces_32 : decode cX7_changePlaces 32 = .ok (.irem, 1) := by decide +kernel
theorem dX7_changePlaces_33 : decode cX7_changePlaces 33 = .ok (.invokevirtual 148, 3) := by decide +kernel
theorem dX7_changePlaces_36 : decode cX7_changePlaces 36 = .ok (.iinc 1 1, 3) := by decide +kernel
theorem dX7_changePlaces_39 : decode cX7_changePlaces 39 = .ok (.goto (-37), 3) := by decide +kernel
theorem dX7_changePlaces_42 : decode cX7_changePlaces 42 = .ok (.return_, 1) := by decide +kernel
theorem dX7_places_0 : decode cX7_places 0 = .ok (.aload_n 0, 1) := by decide +kernel
theorem dX7_places_1 : decode cX7_places 1 = .ok (.invokevirtual 152, 3) := by decide +kernel
theorem dX7_places_4 : decode cX7_places 4 = .ok (.istore_n 1, 1) := by decide +kernel
theorem dX7_places_5 : decode cX7_places 5 = .ok (.aload_n 0, 1) := by decide +kernel
theorem dX7_places_6 : decode cX7_places 6 = .ok (.invokevirtual 227, 3) := by decide +kernel
theorem dX7_places_9 : decode cX7_places 9 = .ok (.aload_n 0, 1) := by decide +kernel
theorem dX7_places_10 : decode cX7_places 10 = .ok (.invokevirtual 152, 3) := by decide +kernel
theorem dX7_places_13 : decode cX7_places 13 = .ok (.istore_n 2, 1) := by decide +kernel
theorem dX7_places_14 : decode cX7_places 14 = .ok (.aload_n 0, 1) := by decide +kernel
theorem dX7_places_15 : decode cX7_places 15 = .ok (.invokevirtual 227, 3) := by decide +kernel
theorem dX7_places_18 : decode cX7_places 18 = .ok (.iload_n 1, 1) := by decide +kernel
theorem dX7_places_19 : decode cX7_places 19 = .ok (.iload_n 2, 1) := by decide +kernel
theorem dX7_places_20 : decode cX7_places 20 = .ok (.isub, 1) := by decide +kernel
theorem dX7_places_21 : decode cX7_places 21 = .ok (.ireturn, 1) := by decide +kernel
theorem dX7_laySlips_0 : decode cX7_laySlips 0 = .ok (.iconst 0, 1) := by decide +kernel
theorem dX7_laySlips_1 : decode cX7_laySlips 1 = .ok (.istore_n 1, 1) := by decide +kernel
theorem dX7_laySlips_2 : decode cX7_laySlips 2 = .ok (.iload_n 1, 1) := by decide +kernel
theorem dX7_laySlips_3 : decode cX7_laySlips 3 = .ok (.bipush 8, 2) := by decide +kernel
theorem dX7_laySlips_5 : decode cX7_laySlips 5 = .ok (.if_icmp .ge 16, 3) := by decide +kernel
theorem dX7_laySlips_8 : decode cX7_laySlips 8 = .ok (.aload_n 0, 1) := by decide +kernel
theorem dX7_laySlips_9 : decode cX7_laySlips 9 = .ok (.getfield 36, 3) := by decide +kernel
theorem dX7_laySlips_12 : decode cX7_laySlips 12 = .ok (.iload_n 1, 1) := by decide +kernel
theorem dX7_laySlips_13 : decode cX7_laySlips 13 = .ok (.iconst 0, 1) := by decide +kernel
theorem dX7_laySlips_14 : decode cX7_laySlips 14 = .ok (.iastore, 1) := by decide +kernel
theorem dX7_laySlips_15 : decode cX7_laySlips 15 = .ok (.iinc 1 1, 3) := by decide +kernel
theorem dX7_laySlips_18 : decode cX7_laySlips 18 = .ok (.goto (-16), 3) := by decide +kernel
theorem dX7_laySlips_21 : decode cX7_laySlips 21 = .ok (.iconst 0, 1) := by decide +kernel
theorem dX7_laySlips_22 : decode cX7_laySlips 22 = .ok (.istore_n 1, 1) := by decide +kernel
theorem dX7_laySlips_23 : decode cX7_laySlips 23 = .ok (.iload_n 1, 1) := by decide +kernel
theorem dX7_laySlips_24 : decode cX7_laySlips 24 = .ok (.aload_n 0, 1) := by decide +kernel
theorem dX7_laySlips_25 : decode cX7_laySlips 25 = .ok (.invokevirtual 64, 3) := by decide +kernel
theorem dX7_laySlips_28 : decode cX7_laySlips 28 = .ok (.if_icmp .ge 110, 3) := by decide +kernel
theorem dX7_laySlips_31 : decode cX7_laySlips 31 = .ok (.aload_n 0, 1) := by decide +kernel
theorem dX7_laySlips_32 : decode cX7_laySlips 32 = .ok (.getfield 36, 3) := by decide +kernel
theorem dX7_laySlips_35 : decode cX7_laySlips 35 = .ok (.aload_n 0, 1) := by decide +kernel
theorem dX7_laySlips_36 : decode cX7_laySlips 36 = .ok (.iload_n 1, 1) := by decide +kernel
theorem dX7_laySlips_37 : decode cX7_laySlips 37 = .ok (.iconst 1, 1) := by decide +kernel
theorem dX7_laySlips_38 : decode cX7_laySlips 38 = .ok (.invokevirtual 110, 3) := by decide +kernel
theorem dX7_laySlips_41 : decode cX7_laySlips 41 = .ok (.bipush 8, 2) := by decide +kernel
theorem dX7_laySlips_43 : decode cX7_laySlips 43 = .ok (.idiv, 1) := by decide +kernel
theorem dX7_laySlips_44 : decode cX7_laySlips 44 = .ok (.dup2, 1) := by decide +kernel
theorem dX7_laySlips_45 : decode cX7_laySlips 45 = .ok (.iaload, 1) := by decide +kernel
theorem dX7_laySlips_46 : decode cX7_laySlips 46 = .ok (.aload_n 0, 1) := by decide +kernel
theorem dX7_laySlips_47 : decode cX7_laySlips 47 = .ok (.iload_n 1, 1) := by decide +kernel
theorem dX7_laySlips_48 : decode cX7_laySlips 48 = .ok (.invokevirtual 123, 3) := by decide +kernel
theorem dX7_laySlips_51 : decode cX7_laySlips 51 = .ok (.ifCond .eq 7, 3) := by decide +kernel
theorem dX7_laySlips_54 : decode cX7_laySlips 54 = .ok (.iconst 1, 1) := by decide +kernel
theorem dX7_laySlips_55 : decode cX7_laySlips 55 = .ok (.goto 4, 3) := by decide +kernel
theorem dX7_laySlips_58 : decode cX7_laySlips 58 = .ok (.iconst 0, 1) := by decide +kernel
theorem dX7_laySlips_59 : decode cX7_laySlips 59 = .ok (.iadd, 1) := by decide +kernel
theorem dX7_laySlips_60 : decode cX7_laySlips 60 = .ok (.iastore, 1) := by decide +kernel
theorem dX7_laySlips_61 : decode cX7_laySlips 61 = .ok (.iload_n 1, 1) := by decide +kernel
theorem dX7_laySlips_62 : decode cX7_laySlips 62 = .ok (.iconst 1, 1) := by decide +kernel
theorem dX7_laySlips_63 : decode cX7_laySlips 63 = .ok (.iadd, 1) := by decide +kernel
theorem dX7_laySlips_64 : decode cX7_laySlips 64 = .ok (.istore_n 2, 1) := by decide +kernel
theorem dX7_laySlips_65 : decode cX7_laySlips 65 = .ok (.iload_n 2, 1) := by decide +kernel
theorem dX7_laySlips_66 : decode cX7_laySlips 66 = .ok (.aload_n 0, 1) := by decide +kernel
theorem dX7_laySlips_67 : decode cX7_laySlips 67 = .ok (.invokevirtual 64, 3) := by decide +kernel
theorem dX7_laySlips_70 : decode cX7_laySlips 70 = .ok (.if_icmp .ge 62, 3) := by decide +kernel
theorem dX7_laySlips_73 : decode cX7_laySlips 73 = .ok (.aload_n 0, 1) := by decide +kernel
theorem dX7_laySlips_74 : decode cX7_laySlips 74 = .ok (.iload_n 1, 1) := by decide +kernel
theorem dX7_laySlips_75 : decode cX7_laySlips 75 = .ok (.iconst 1, 1) := by decide +kernel
theorem dX7_laySlips_76 : decode cX7_laySlips 76 = .ok (.invokevirtual 110, 3) := by decide +kernel
theorem dX7_laySlips_79 : decode cX7_laySlips 79 = .ok (.aload_n 0, 1) := by decide +kernel
theorem dX7_laySlips_80 : decode cX7_laySlips 80 = .ok (.iload_n 2, 1) := by decide +kernel
theorem dX7_laySlips_81 : decode cX7_laySlips 81 = .ok (.iconst 1, 1) := by decide +kernel
theorem dX7_laySlips_82 : decode cX7_laySlips 82 = .ok (.invokevirtual 110, 3) := by decide +kernel
theorem dX7_laySlips_85 : decode cX7_laySlips 85 = .ok (.if_icmp .le 7, 3) := by decide +kernel
theorem dX7_laySlips_88 : decode cX7_laySlips 88 = .ok (.iload_n 1, 1) := by decide +kernel
theorem dX7_laySlips_89 : decode cX7_laySlips 89 = .ok (.goto 4, 3) := by decide +kernel
theorem dX7_laySlips_92 : decode cX7_laySlips 92 = .ok (.iload_n 2, 1) := by decide +kernel
theorem dX7_laySlips_93 : decode cX7_laySlips 93 = .ok (.istore_n 3, 1) := by decide +kernel
theorem dX7_laySlips_94 : decode cX7_laySlips 94 = .ok (.aload_n 0, 1) := by decide +kernel
theorem dX7_laySlips_95 : decode cX7_laySlips 95 = .ok (.getfield 36, 3) := by decide +kernel
theorem dX7_laySlips_98 : decode cX7_laySlips 98 = .ok (.aload_n 0, 1) := by decide +kernel
theorem dX7_laySlips_99 : decode cX7_laySlips 99 = .ok (.iload_n 3, 1) := by decide +kernel
theorem dX7_laySlips_100 : decode cX7_laySlips 100 = .ok (.iconst 1, 1) := by decide +kernel
theorem dX7_laySlips_101 : decode cX7_laySlips 101 = .ok (.invokevirtual 110, 3) := by decide +kernel
theorem dX7_laySlips_104 : decode cX7_laySlips 104 = .ok (.bipush 8, 2) := by decide +kernel
theorem dX7_laySlips_106 : decode cX7_laySlips 106 = .ok (.idiv, 1) := by decide +kernel
theorem dX7_laySlips_107 : decode cX7_laySlips 107 = .ok (.dup2, 1) := by decide +kernel
theorem dX7_laySlips_108 : decode cX7_laySlips 108 = .ok (.iaload, 1) := by decide +kernel
theorem dX7_laySlips_109 : decode cX7_laySlips 109 = .ok (.aload_n 0, 1) := by decide +kernel
theorem dX7_laySlips_110 : decode cX7_laySlips 110 = .ok (.iload_n 1, 1) := by decide +kernel
theorem dX7_laySlips_111 : decode cX7_laySlips 111 = .ok (.iload_n 2, 1) := by decide +kernel
theorem dX7_laySlips_112 : decode cX7_laySlips 112 = .ok (.invokevirtual 139, 3) := by decide +kernel
theorem dX7_laySlips_115 : decode cX7_laySlips 115 = .ok (.iconst (-1), 1) := by decide +kernel
theorem dX7_laySlips_116 : decode cX7_laySlips 116 = .ok (.if_icmp .ne 7, 3) := by decide +kernel
theorem dX7_laySlips_119 : decode cX7_laySlips 119 = .ok (.iconst 0, 1) := by decide +kernel
theorem dX7_laySlips_120 : decode cX7_laySlips 120 = .ok (.goto 4, 3) := by decide +kernel
theorem dX7_laySlips_123 : decode cX7_laySlips 123 = .ok (.iconst 4, 1) := by decide +kernel
theorem dX7_laySlips_124 : decode cX7_laySlips 124 = .ok (.iadd, 1) := by decide +kernel
theorem dX7_laySlips_125 : decode cX7_laySlips 125 = .ok (.iastore, 1) := by decide +kernel
theorem dX7_laySlips_126 : decode cX7_laySlips 126 = .ok (.iinc 2 1, 3) := by decide +kernel
theorem dX7_laySlips_129 : decode cX7_laySlips 129 = .ok (.goto (-64), 3) := by decide +kernel
theorem dX7_laySlips_132 : decode cX7_laySlips 132 = .ok (.iinc 1 1, 3) := by decide +kernel
theorem dX7_laySlips_135 : decode cX7_laySlips 135 = .ok (.goto (-112), 3) := by decide +kernel
theorem dX7_laySlips_138 : decode cX7_laySlips 138 = .ok (.return_, 1) := by decide +kernel
theorem dX7_slipsBy_0 : decode cX7_slipsBy 0 = .ok (.iconst 0, 1) := by decide +kernel
theorem dX7_slipsBy_1 : decode cX7_slipsBy 1 = .ok (.istore_n 2, 1) := by decide +kernel
theorem dX7_slipsBy_2 : decode cX7_slipsBy 2 = .ok (.iload_n 2, 1) := by decide +kernel
theorem dX7_slipsBy_3 : decode cX7_slipsBy 3 = .ok (.bipush 8, 2) := by decide +kernel
theorem dX7_slipsBy_5 : decode cX7_slipsBy 5 = .ok (.if_icmp .ge 21, 3) := by decide +kernel
theorem dX7_slipsBy_8 : decode cX7_slipsBy 8 = .ok (.aload_n 0, 1) := by decide +kernel
theorem dX7_slipsBy_9 : decode cX7_slipsBy 9 = .ok (.getfield 39, 3) := by decide +kernel
theorem dX7_slipsBy_12 : decode cX7_slipsBy 12 = .ok (.iload_n 2, 1) := by decide +kernel
theorem dX7_slipsBy_13 : decode cX7_slipsBy 13 = .ok (.aload_n 0, 1) := by decide +kernel
theorem dX7_slipsBy_14 : decode cX7_slipsBy 14 = .ok (.getfield 36, 3) := by decide +kernel
theorem dX7_slipsBy_17 : decode cX7_slipsBy 17 = .ok (.iload_n 2, 1) := by decide +kernel
theorem dX7_slipsBy_18 : decode cX7_slipsBy 18 = .ok (.iaload, 1) := by decide +kernel
theorem dX7_slipsBy_19 : decode cX7_slipsBy 19 = .ok (.iastore, 1) := by decide +kernel
theorem dX7_slipsBy_20 : decode cX7_slipsBy 20 = .ok (.iinc 2 1, 3) := by decide +kernel
theorem dX7_slipsBy_23 : decode cX7_slipsBy 23 = .ok (.goto (-21), 3) := by decide +kernel
theorem dX7_slipsBy_26 : decode cX7_slipsBy 26 = .ok (.iconst 0, 1) := by decide +kernel
theorem dX7_slipsBy_27 : decode cX7_slipsBy 27 = .ok (.istore_n 2, 1) := by decide +kernel
theorem dX7_slipsBy_28 : decode cX7_slipsBy 28 = .ok (.iload_n 2, 1) := by decide +kernel
theorem dX7_slipsBy_29 : decode cX7_slipsBy 29 = .ok (.iload_n 1, 1) := by decide +kernel
theorem dX7_slipsBy_30 : decode cX7_slipsBy 30 = .ok (.if_icmp .ge 35, 3) := by decide +kernel
theorem dX7_slipsBy_33 : decode cX7_slipsBy 33 = .ok (.aload_n 0, 1) := by decide +kernel
theorem dX7_slipsBy_34 : decode cX7_slipsBy 34 = .ok (.getfield 39, 3) := by decide +kernel
theorem dX7_slipsBy_37 : decode cX7_slipsBy 37 = .ok (.aload_n 0, 1) := by decide +kernel
theorem dX7_slipsBy_38 : decode cX7_slipsBy 38 = .ok (.getfield 45, 3) := by decide +kernel
theorem dX7_slipsBy_41 : decode cX7_slipsBy 41 = .ok (.iload_n 2, 1) := by decide +kernel
theorem dX7_slipsBy_42 : decode cX7_slipsBy 42 = .ok (.iaload, 1) := by decide +kernel
theorem dX7_slipsBy_43 : decode cX7_slipsBy 43 = .ok (.aload_n 0, 1) := by decide +kernel
theorem dX7_slipsBy_44 : decode cX7_slipsBy 44 = .ok (.getfield 39, 3) := by decide +kernel
theorem dX7_slipsBy_47 : decode cX7_slipsBy 47 = .ok (.aload_n 0, 1) := by decide +kernel
theorem dX7_slipsBy_48 : decode cX7_slipsBy 48 = .ok (.getfield 45, 3) := by decide +kernel
theorem dX7_slipsBy_51 : decode cX7_slipsBy 51 = .ok (.iload_n 2, 1) := by decide +kernel
theorem dX7_slipsBy_52 : decode cX7_slipsBy 52 = .ok (.iaload, 1) := by decide +kernel
theorem dX7_slipsBy_53 : decode cX7_slipsBy 53 = .ok (.iaload, 1) := by decide +kernel
theorem dX7_slipsBy_54 : decode cX7_slipsBy 54 = .ok (.iconst 3, 1) := by decide +kernel
theorem dX7_slipsBy_55 : decode cX7_slipsBy 55 = .ok (.imul, 1) := by decide +kernel
theorem dX7_slipsBy_56 : decode cX7_slipsBy 56 = .ok (.iconst 4, 1) := by decide +kernel
theorem dX7_slipsBy_57 : decode cX7_slipsBy 57 = .ok (.idiv, 1) := by decide +kernel
theorem dX7_slipsBy_58 : decode cX7_slipsBy 58 = .ok (.iastore, 1) := by decide +kernel
theorem dX7_slipsBy_59 : decode cX7_slipsBy 59 = .ok (.iinc 2 1, 3) := by decide +kernel
theorem dX7_slipsBy_62 : decode cX7_slipsBy 62 = .ok (.goto (-34), 3) := by decide +kernel
theorem dX7_slipsBy_65 : decode cX7_slipsBy 65 = .ok (.iconst 0, 1) := by decide +kernel
theorem dX7_slipsBy_66 : decode cX7_slipsBy 66 = .ok (.istore_n 2, 1) := by decide +kernel
theorem dX7_slipsBy_67 : decode cX7_slipsBy 67 = .ok (.iconst 0, 1) := by decide +kernel
theorem dX7_slipsBy_68 : decode cX7_slipsBy 68 = .ok (.istore_n 3, 1) := by decide +kernel
theorem dX7_slipsBy_69 : decode cX7_slipsBy 69 = .ok (.iload_n 3, 1) := by decide +kernel
theorem dX7_slipsBy_70 : decode cX7_slipsBy 70 = .ok (.bipush 8, 2) := by decide +kernel
theorem dX7_slipsBy_72 : decode cX7_slipsBy 72 = .ok (.if_icmp .ge 18, 3) := by decide +kernel
theorem dX7_slipsBy_75 : decode cX7_slipsBy 75 = .ok (.iload_n 2, 1) := by decide +kernel
theorem dX7_slipsBy_76 : decode cX7_slipsBy 76 = .ok (.aload_n 0, 1) := by decide +kernel
theorem dX7_slipsBy_77 : decode cX7_slipsBy 77 = .ok (.getfield 39, 3) := by decide +kernel
theorem dX7_slipsBy_80 : decode cX7_slipsBy 80 = .ok (.iload_n 3, 1) := by decide +kernel
theorem dX7_slipsBy_81 : decode cX7_slipsBy 81 = .ok (.iaload, 1) := by decide +kernel
theorem dX7_slipsBy_82 : decode cX7_slipsBy 82 = .ok (.iadd, 1) := by decide +kernel
theorem dX7_slipsBy_83 : decode cX7_slipsBy 83 = .ok (.istore_n 2, 1) := by decide +kernel
theorem dX7_slipsBy_84 : decode cX7_slipsBy 84 = .ok (.iinc 3 1, 3) := by decide +kernel
theorem dX7_slipsBy_87 : decode cX7_slipsBy 87 = .ok (.goto (-18), 3) := by decide +kernel
theorem dX7_slipsBy_90 : decode cX7_slipsBy 90 = .ok (.iload_n 2, 1) := by decide +kernel
theorem dX7_slipsBy_91 : decode cX7_slipsBy 91 = .ok (.ireturn, 1) := by decide +kernel
theorem dX7_nextRow_0 : decode cX7_nextRow 0 = .ok (.iload_n 1, 1) := by decide +kernel
theorem dX7_nextRow_1 : decode cX7_nextRow 1 = .ok (.iconst 1, 1) := by decide +kernel
theorem dX7_nextRow_2 : decode cX7_nextRow 2 = .ok (.isub, 1) := by decide +kernel
theorem dX7_nextRow_3 : decode cX7_nextRow 3 = .ok (.istore_n 2, 1) := by decide +kernel
theorem dX7_nextRow_4 : decode cX7_nextRow 4 = .ok (.iload_n 2, 1) := by decide +kernel
theorem dX7_nextRow_5 : decode cX7_nextRow 5 = .ok (.ifCond .lt 20, 3) := by decide +kernel
theorem dX7_nextRow_8 : decode cX7_nextRow 8 = .ok (.aload_n 0, 1) := by decide +kernel
theorem dX7_nextRow_9 : decode cX7_nextRow 9 = .ok (.getfield 45, 3) := by decide +kernel
theorem dX7_nextRow_12 : decode cX7_nextRow 12 = .ok (.iload_n 2, 1) := by decide +kernel
theorem dX7_nextRow_13 : decode cX7_nextRow 13 = .ok (.iaload, 1) := by decide +kernel
theorem dX7_nextRow_14 : decode cX7_nextRow 14 = .ok (.bipush 7, 2) := by decide +kernel
theorem dX7_nextRow_16 : decode cX7_nextRow 16 = .ok (.if_icmp .ne 9, 3) := by decide +kernel
theorem dX7_nextRow_19 : decode cX7_nextRow 19 = .ok (.iinc 2 (-1), 3) := by decide +kernel
theorem dX7_nextRow_22 : decode cX7_nextRow 22 = .ok (.goto (-18), 3) := by decide +kernel
theorem dX7_nextRow_25 : decode cX7_nextRow 25 = .ok (.iload_n 2, 1) := by decide +kernel
theorem dX7_nextRow_26 : decode cX7_nextRow 26 = .ok (.ifCond .ge 5, 3) := by decide +kernel
theorem dX7_nextRow_29 : decode cX7_nextRow 29 = .ok (.iconst 0, 1) := by decide +kernel
theorem dX7_nextRow_30 : decode cX7_nextRow 30 = .ok (.ireturn, 1) := by decide +kernel
theorem dX7_nextRow_31 : decode cX7_nextRow 31 = .ok (.aload_n 0, 1) := by decide +kernel
theorem dX7_nextRow_32 : decode cX7_nextRow 32 = .ok (.getfield 45, 3) := by decide +kernel
theorem dX7_nextRow_35 : decode cX7_nextRow 35 = .ok (.iload_n 2, 1) := by decide +kernel
theorem dX7_nextRow_36 : decode cX7_nextRow 36 = .ok (.iaload, 1) := by decide +kernel
theorem dX7_nextRow_37 : decode cX7_nextRow 37 = .ok (.iconst 1, 1) := by decide +kernel
theorem dX7_nextRow_38 : decode cX7_nextRow 38 = .ok (.iadd, 1) := by decide +kernel
theorem dX7_nextRow_39 : decode cX7_nextRow 39 = .ok (.istore_n 3, 1) := by decide +kernel
theorem dX7_nextRow_40 : decode cX7_nextRow 40 = .ok (.iload_n 2, 1) := by decide +kernel
theorem dX7_nextRow_41 : decode cX7_nextRow 41 = .ok (.istore 4, 2) := by decide +kernel
theorem dX7_nextRow_43 : decode cX7_nextRow 43 = .ok (.iload 4, 2) := by decide +kernel
theorem dX7_nextRow_45 : decode cX7_nextRow 45 = .ok (.iload_n 1, 1) := by decide +kernel
theorem dX7_nextRow_46 : decode cX7_nextRow 46 = .ok (.if_icmp .ge 17, 3) := by decide +kernel
theorem dX7_nextRow_49 : decode cX7_nextRow 49 = .ok (.aload_n 0, 1) := by decide +kernel
theorem dX7_nextRow_50 : decode cX7_nextRow 50 = .ok (.getfield 45, 3) := by decide +kernel
theorem dX7_nextRow_53 : decode cX7_nextRow 53 = .ok (.iload 4, 2) := by decide +kernel
theorem dX7_nextRow_55 : decode cX7_nextRow 55 = .ok (.iload_n 3, 1) := by decide +kernel
theorem dX7_nextRow_56 : decode cX7_nextRow 56 = .ok (.iastore, 1) := by decide +kernel
theorem dX7_nextRow_57 : decode cX7_nextRow 57 = .ok (.iinc 4 1, 3) := by decide +kernel
theorem dX7_nextRow_60 : decode cX7_nextRow 60 = .ok (.goto (-17), 3) := by decide +kernel
theorem dX7_nextRow_63 : decode cX7_nextRow 63 = .ok (.iconst 1, 1) := by decide +kernel
theorem dX7_nextRow_64 : decode cX7_nextRow 64 = .ok (.ireturn, 1) := by decide +kernel
theorem dX7_practice_0 : decode cX7_practice 0 = .ok (.iload_n 1, 1) := by decide +kernel
theorem dX7_practice_1 : decode cX7_practice 1 = .ok (.i2l, 1) := by decide +kernel
theorem dX7_practice_2 : decode cX7_practice 2 = .ok (.lconst 0, 1) := by decide +kernel
theorem dX7_practice_3 : decode cX7_practice 3 = .ok (.ldc2_w 230, 3) := by decide +kernel
theorem dX7_practice_6 : decode cX7_practice 6 = .ok (.invokestatic 68, 3) := by decide +kernel
theorem dX7_practice_9 : decode cX7_practice 9 = .ok (.ifCond .eq 8, 3) := by decide +kernel
theorem dX7_practice_12 : decode cX7_practice 12 = .ok (.iload_n 2, 1) := by decide +kernel
theorem dX7_practice_13 : decode cX7_practice 13 = .ok (.iconst (-1), 1) := by decide +kernel
theorem dX7_practice_14 : decode cX7_practice 14 = .ok (.if_icmp .ge 10, 3) := by decide +kernel
theorem dX7_practice_17 : decode cX7_practice 17 = .ok (.aload_n 0, 1) := by decide +kernel
theorem dX7_practice_18 : decode cX7_practice 18 = .ok (.bipush (-10), 2) := by decide +kernel
theorem dX7_practice_20 : decode cX7_practice 20 = .ok (.invokevirtual 76, 3) := by decide +kernel
theorem dX7_practice_23 : decode cX7_practice 23 = .ok (.ireturn, 1) := by decide +kernel
theorem dX7_practice_24 : decode cX7_practice 24 = .ok (.aload_n 0, 1) := by decide +kernel
theorem dX7_practice_25 : decode cX7_practice 25 = .ok (.invokevirtual 232, 3) := by decide +kernel
theorem dX7_practice_28 : decode cX7_practice 28 = .ok (.aload_n 0, 1) := by decide +kernel
theorem dX7_practice_29 : decode cX7_practice 29 = .ok (.ldc 185, 2) := by decide +kernel
theorem dX7_practice_31 : decode cX7_practice 31 = .ok (.putfield 235, 3) := by decide +kernel
theorem dX7_practice_34 : decode cX7_practice 34 = .ok (.iconst 0, 1) := by decide +kernel
theorem dX7_practice_35 : decode cX7_practice 35 = .ok (.istore_n 3, 1) := by decide +kernel
theorem dX7_practice_36 : decode cX7_practice 36 = .ok (.iload_n 3, 1) := by decide +kernel
theorem dX7_practice_37 : decode cX7_practice 37 = .ok (.iload_n 1, 1) := by decide +kernel
theorem dX7_practice_38 : decode cX7_practice 38 = .ok (.if_icmp .ge 16, 3) := by decide +kernel
theorem dX7_practice_41 : decode cX7_practice 41 = .ok (.aload_n 0, 1) := by decide +kernel
theorem dX7_practice_42 : decode cX7_practice 42 = .ok (.getfield 45, 3) := by decide +kernel
theorem dX7_practice_45 : decode cX7_practice 45 = .ok (.iload_n 3, 1) := by decide +kernel
theorem dX7_practice_46 : decode cX7_practice 46 = .ok (.iconst 0, 1) := by decide +kernel
theorem dX7_practice_47 : decode cX7_practice 47 = .ok (.iastore, 1) := by decide +kernel
theorem dX7_practice_48 : decode cX7_practice 48 = .ok (.iinc 3 1, 3) := by decide +kernel
theorem dX7_practice_51 : decode cX7_practice 51 = .ok (.goto (-15), 3) := by decide +kernel
theorem dX7_practice_54 : decode cX7_practice 54 = .ok (.iconst 1, 1) := by decide +kernel
theorem dX7_practice_55 : decode cX7_practice 55 = .ok (.istore_n 3, 1) := by decide +kernel
theorem dX7_practice_56 : decode cX7_practice 56 = .ok (.iload_n 3, 1) := by decide +kernel
theorem dX7_practice_57 : decode cX7_practice 57 = .ok (.ifCond .eq 79, 3) := by decide +kernel
theorem dX7_practice_60 : decode cX7_practice 60 = .ok (.aload_n 0, 1) := by decide +kernel
theorem dX7_practice_61 : decode cX7_practice 61 = .ok (.iload_n 1, 1) := by decide +kernel
theorem dX7_practice_62 : decode cX7_practice 62 = .ok (.invokevirtual 238, 3) := by decide +kernel
theorem dX7_practice_65 : decode cX7_practice 65 = .ok (.istore 4, 2) := by decide +kernel
theorem dX7_practice_67 : decode cX7_practice 67 = .ok (.iconst 0, 1) := by decide +kernel
theorem dX7_practice_68 : decode cX7_practice 68 = .ok (.istore 5, 2) := by decide +kernel
theorem dX7_practice_70 : decode cX7_practice 70 = .ok (.iload 5, 2) := by decide +kernel
theorem dX7_practice_72 : decode cX7_practice 72 = .ok (.iload_n 1, 1) := by decide +kernel
theorem dX7_practice_73 : decode cX7_practice 73 = .ok (.if_icmp .ge 32, 3) := by decide +kernel
theorem dX7_practice_76 : decode cX7_practice 76 = .ok (.iload 4, 2) := by decide +kernel
theorem dX7_practice_78 : decode cX7_practice 78 = .ok (.aload_n 0, 1) := by decide +kernel
theorem dX7_practice_79 : decode cX7_practice 79 = .ok (.getfield 235, 3) := by decide +kernel
theorem dX7_practice_82 : decode cX7_practice 82 = .ok (.if_icmp .ge 23, 3) := by decide +kernel
theorem dX7_practice_85 : decode cX7_practice 85 = .ok (.aload_n 0, 1) := by decide +kernel
theorem dX7_practice_86 : decode cX7_practice 86 = .ok (.getfield 42, 3) := by decide +kernel
theorem dX7_practice_89 : decode cX7_practice 89 = .ok (.iload 5, 2) := by decide +kernel
theorem dX7_practice_91 : decode cX7_practice 91 = .ok (.aload_n 0, 1) := by decide +kernel
theorem dX7_practice_92 : decode cX7_practice 92 = .ok (.getfield 45, 3) := by decide +kernel
theorem dX7_practice_95 : decode cX7_practice 95 = .ok (.iload 5, 2) := by decide +kernel
theorem dX7_practice_97 : decode cX7_practice 97 = .ok (.iaload, 1) := by decide +kernel
theorem dX7_practice_98 : decode cX7_practice 98 = .ok (.iastore, 1) := by decide +kernel
theorem dX7_practice_99 : decode cX7_practice 99 = .ok (.iinc 5 1, 3) := by decide +kernel
theorem dX7_practice_102 : decode cX7_practice 102 = .ok (.goto (-32), 3) := by decide +kernel
theorem dX7_practice_105 : decode cX7_practice 105 = .ok (.aload_n 0, 1) := by decide +kernel
theorem dX7_practice_106 : decode cX7_practice 106 = .ok (.iload 4, 2) := by decide +kernel
theorem dX7_practice_108 : decode cX7_practice 108 = .ok (.aload_n 0, 1) := by decide +kernel
theorem dX7_practice_109 : decode cX7_practice 109 = .ok (.getfield 235, 3) := by decide +kernel
theorem dX7_practice_112 : decode cX7_practice 112 = .ok (.if_icmp .ge 8, 3) := by decide +kernel
theorem dX7_practice_115 : decode cX7_practice 115 = .ok (.iload 4, 2) := by decide +kernel
theorem dX7_practice_117 : decode cX7_practice 117 = .ok (.goto 7, 3) := by decide +kernel
theorem dX7_practice_120 : decode cX7_practice 120 = .ok (.aload_n 0, 1) := by decide +kernel
theorem dX7_practice_121 : decode cX7_practice 121 = .ok (.getfield 235, 3) := by decide +kernel
theorem dX7_practice_124 : decode cX7_practice 124 = .ok (.putfield 235, 3) := by decide +kernel
theorem dX7_practice_127 : decode cX7_practice 127 = .ok (.aload_n 0, 1) := by decide +kernel
theorem dX7_practice_128 : decode cX7_practice 128 = .ok (.iload_n 1, 1) := by decide +kernel
theorem dX7_practice_129 : decode cX7_practice 129 = .ok (.invokevirtual 241, 3) := by decide +kernel
theorem dX7_practice_132 : decode cX7_practice 132 = .ok (.istore_n 3, 1) := by decide +kernel
theorem dX7_practice_133 : decode cX7_practice 133 = .ok (.goto (-77), 3) := by decide +kernel
theorem dX7_practice_136 : decode cX7_practice 136 = .ok (.iload_n 2, 1) := by decide +kernel
theorem dX7_practice_137 : decode cX7_practice 137 = .ok (.iconst (-1), 1) := by decide +kernel
theorem dX7_practice_138 : decode cX7_practice 138 = .ok (.if_icmp .ne 10, 3) := by decide +kernel
theorem dX7_practice_141 : decode cX7_practice 141 = .ok (.aload_n 0, 1) := by decide +kernel
theorem dX7_practice_142 : decode cX7_practice 142 = .ok (.getfield 235, 3) := by decide +kernel
theorem dX7_practice_145 : decode cX7_practice 145 = .ok (.goto 19, 3) := by decide +kernel
theorem dX7_practice_148 : decode cX7_practice 148 = .ok (.iload_n 2, 1) := by decide +kernel
theorem dX7_practice_149 : decode cX7_practice 149 = .ok (.iload_n 1, 1) := by decide +kernel
theorem dX7_practice_150 : decode cX7_practice 150 = .ok (.if_icmp .ge 12, 3) := by decide +kernel
theorem dX7_practice_153 : decode cX7_practice 153 = .ok (.aload_n 0, 1) := by decide +kernel
theorem dX7_practice_154 : decode cX7_practice 154 = .ok (.getfield 42, 3) := by decide +kernel
theorem dX7_practice_157 : decode cX7_practice 157 = .ok (.iload_n 2, 1) := by decide +kernel
theorem dX7_practice_158 : decode cX7_practice 158 = .ok (.iaload, 1) := by decide +kernel
theorem dX7_practice_159 : decode cX7_practice 159 = .ok (.goto 5, 3) := by decide +kernel
theorem dX7_practice_162 : decode cX7_practice 162 = .ok (.bipush (-5), 2) := by decide +kernel
theorem dX7_practice_164 : decode cX7_practice 164 = .ok (.ireturn, 1) := by decide +kernel
theorem dX7_tell_0 : decode cX7_tell 0 = .ok (.lload_n 1, 1) := by decide +kernel
theorem dX7_tell_1 : decode cX7_tell 1 = .ok (.lstore 5, 2) := by decide +kernel
theorem dX7_tell_3 : decode cX7_tell 3 = .ok (.lload_n 3, 1) := by decide +kernel
theorem dX7_tell_4 : decode cX7_tell 4 = .ok (.lstore 7, 2) := by decide +kernel
theorem dX7_tell_6 : decode cX7_tell 6 = .ok (.lload 7, 2) := by decide +kernel
theorem dX7_tell_8 : decode cX7_tell 8 = .ok (.lconst 0, 1) := by decide +kernel
theorem dX7_tell_9 : decode cX7_tell 9 = .ok (.lcmp, 1) := by decide +kernel
theorem dX7_tell_10 : decode cX7_tell 10 = .ok (.ifCond .eq 21, 3) := by decide +kernel
theorem dX7_tell_13 : decode cX7_tell 13 = .ok (.lload 5, 2) := by decide +kernel
theorem dX7_tell_15 : decode cX7_tell 15 = .ok (.lload 7, 2) := by decide +kernel
theorem dX7_tell_17 : decode cX7_tell 17 = .ok (.lrem, 1) := by decide +kernel
theorem dX7_tell_18 : decode cX7_tell 18 = .ok (.lstore 9, 2) := by decide +kernel
theorem dX7_tell_20 : decode cX7_tell 20 = .ok (.lload 7, 2) := by decide +kernel
theorem dX7_tell_22 : decode cX7_tell 22 = .ok (.lstore 5, 2) := by decide +kernel
theorem dX7_tell_24 : decode cX7_tell 24 = .ok (.lload 9, 2) := by decide +kernel
theorem dX7_tell_26 : decode cX7_tell 26 = .ok (.lstore 7, 2) := by decide +kernel
theorem dX7_tell_28 : decode cX7_tell 28 = .ok (.goto (-22), 3) := by decide +kernel
theorem dX7_tell_31 : decode cX7_tell 31 = .ok (.aload_n 0, 1) := by decide +kernel
theorem dX7_tell_32 : decode cX7_tell 32 = .ok (.lload_n 1, 1) := by decide +kernel
theorem dX7_tell_33 : decode cX7_tell 33 = .ok (.lload 5, 2) := by decide +kernel
theorem dX7_tell_35 : decode cX7_tell 35 = .ok (.ldiv, 1) := by decide +kernel
theorem dX7_tell_36 : decode cX7_tell 36 = .ok (.putfield 244, 3) := by decide +kernel
theorem dX7_tell_39 : decode cX7_tell 39 = .ok (.aload_n 0, 1) := by decide +kernel
theorem dX7_tell_40 : decode cX7_tell 40 = .ok (.lload_n 3, 1) := by decide +kernel
theorem dX7_tell_41 : decode cX7_tell 41 = .ok (.lload 5, 2) := by decide +kernel
theorem dX7_tell_43 : decode cX7_tell 43 = .ok (.ldiv, 1) := by decide +kernel
theorem dX7_tell_44 : decode cX7_tell 44 = .ok (.putfield 23, 3) := by decide +kernel
theorem dX7_tell_47 : decode cX7_tell 47 = .ok (.return_, 1) := by decide +kernel
theorem dX7_breath_0 : decode cX7_breath 0 = .ok (.iload_n 1, 1) := by decide +kernel
theorem dX7_breath_1 : decode cX7_breath 1 = .ok (.i2l, 1) := by decide +kernel
theorem dX7_breath_2 : decode cX7_breath 2 = .ok (.lconst 0, 1) := by decide +kernel
theorem dX7_breath_3 : decode cX7_breath 3 = .ok (.ldc2_w 247, 3) := by decide +kernel
theorem dX7_breath_6 : decode cX7_breath 6 = .ok (.invokestatic 68, 3) := by decide +kernel
theorem dX7_breath_9 : decode cX7_breath 9 = .ok (.ifCond .eq 15, 3) := by decide +kernel
theorem dX7_breath_12 : decode cX7_breath 12 = .ok (.iload_n 2, 1) := by decide +kernel
theorem dX7_breath_13 : decode cX7_breath 13 = .ok (.i2l, 1) := by decide +kernel
theorem dX7_breath_14 : decode cX7_breath 14 = .ok (.lconst 0, 1) := by decide +kernel
theorem dX7_breath_15 : decode cX7_breath 15 = .ok (.ldc2_w 247, 3) := by decide +kernel
theorem dX7_breath_18 : decode cX7_breath 18 = .ok (.invokestatic 68, 3) := by decide +kernel
theorem dX7_breath_21 : decode cX7_breath 21 = .ok (.ifCond .ne 10, 3) := by decide +kernel
theorem dX7_breath_24 : decode cX7_breath 24 = .ok (.aload_n 0, 1) := by decide +kernel
theorem dX7_breath_25 : decode cX7_breath 25 = .ok (.bipush (-2), 2) := by decide +kernel
theorem dX7_breath_27 : decode cX7_breath 27 = .ok (.invokevirtual 76, 3) := by decide +kernel
theorem dX7_breath_30 : decode cX7_breath 30 = .ok (.ireturn, 1) := by decide +kernel
theorem dX7_breath_31 : decode cX7_breath 31 = .ok (.iconst 0, 1) := by decide +kernel
theorem dX7_breath_32 : decode cX7_breath 32 = .ok (.istore_n 3, 1) := by decide +kernel
theorem dX7_breath_33 : decode cX7_breath 33 = .ok (.iconst 0, 1) := by decide +kernel
theorem dX7_breath_34 : decode cX7_breath 34 = .ok (.istore 4, 2) := by decide +kernel
theorem dX7_breath_36 : decode cX7_breath 36 = .ok (.iload 4, 2) := by decide +kernel
theorem dX7_breath_38 : decode cX7_breath 38 = .ok (.iload_n 1, 1) := by decide +kernel
theorem dX7_breath_39 : decode cX7_breath 39 = .ok (.if_icmp .gt 43, 3) := by decide +kernel
theorem dX7_breath_42 : decode cX7_breath 42 = .ok (.iconst 0, 1) := by decide +kernel
theorem dX7_breath_43 : decode cX7_breath 43 = .ok (.istore 5, 2) := by decide +kernel
theorem dX7_breath_45 : decode cX7_breath 45 = .ok (.iload 5, 2) := by decide +kernel
theorem dX7_breath_47 : decode cX7_breath 47 = .ok (.iload_n 1, 1) := by decide +kernel
theorem dX7_breath_48 : decode cX7_breath 48 = .ok (.if_icmp .gt 28, 3) := by decide +kernel
theorem dX7_breath_51 : decode cX7_breath 51 = .ok (.iload_n 3, 1) := by decide +kernel
theorem dX7_breath_52 : decode cX7_breath 52 = .ok (.iload 4, 2) := by decide +kernel
theorem dX7_breath_54 : decode cX7_breath 54 = .ok (.iload 5, 2) := by decide +kernel
theorem dX7_breath_56 : decode cX7_breath 56 = .ok (.invokestatic 120, 3) := by decide +kernel
theorem dX7_breath_59 : decode cX7_breath 59 = .ok (.iload_n 2, 1) := by decide +kernel
theorem dX7_breath_60 : decode cX7_breath 60 = .ok (.if_icmp .gt 7, 3) := by decide +kernel
theorem dX7_breath_63 : decode cX7_breath 63 = .ok (.iconst 1, 1) := by decide +kernel
theorem dX7_breath_64 : decode cX7_breath 64 = .ok (.goto 4, 3) := by decide +kernel
theorem dX7_breath_67 : decode cX7_breath 67 = .ok (.iconst 0, 1) := by decide +kernel
theorem dX7_breath_68 : decode cX7_breath 68 = .ok (.iadd, 1) := by decide +kernel
theorem dX7_breath_69 : decode cX7_breath 69 = .ok (.istore_n 3, 1) := by decide +kernel
theorem dX7_breath_70 : decode cX7_breath 70 = .ok (.iinc 5 1, 3) := by decide +kernel
theorem dX7_breath_73 : decode cX7_breath 73 = .ok (.goto (-28), 3) := by decide +kernel
theorem dX7_breath_76 : decode cX7_breath 76 = .ok (.iinc 4 1, 3) := by decide +kernel
theorem dX7_breath_79 : decode cX7_breath 79 = .ok (.goto (-43), 3) := by decide +kernel
theorem dX7_breath_82 : decode cX7_breath 82 = .ok (.aload_n 0, 1) := by decide +kernel
theorem dX7_breath_83 : decode cX7_breath 83 = .ok (.iload_n 3, 1) := by decide +kernel
theorem dX7_breath_84 : decode cX7_breath 84 = .ok (.i2l, 1) := by decide +kernel
theorem dX7_breath_85 : decode cX7_breath 85 = .ok (.iload_n 1, 1) := by decide +kernel
theorem dX7_breath_86 : decode cX7_breath 86 = .ok (.i2l, 1) := by decide +kernel
theorem dX7_breath_87 : decode cX7_breath 87 = .ok (.lconst 1, 1) := by decide +kernel
theorem dX7_breath_88 : decode cX7_breath 88 = .ok (.ladd, 1) := by decide +kernel
theorem dX7_breath_89 : decode cX7_breath 89 = .ok (.iload_n 1, 1) := by decide +kernel
theorem dX7_breath_90 : decode cX7_breath 90 = .ok (.i2l, 1) := by decide +kernel
theorem dX7_breath_91 : decode cX7_breath 91 = .ok (.lconst 1, 1) := by decide +kernel
theorem dX7_breath_92 : decode cX7_breath 92 = .ok (.ladd, 1) := by decide +kernel
theorem dX7_breath_93 : decode cX7_breath 93 = .ok (.lmul, 1) := by decide +kernel
theorem dX7_breath_94 : decode cX7_breath 94 = .ok (.invokevirtual 249, 3) := by decide +kernel
theorem dX7_breath_97 : decode cX7_breath 97 = .ok (.iconst 1, 1) := by decide +kernel
theorem dX7_breath_98 : decode cX7_breath 98 = .ok (.ireturn, 1) := by decide +kernel
theorem dX7_heard_0 : decode cX7_heard 0 = .ok (.aload_n 0, 1) := by decide +kernel
theorem dX7_heard_1 : decode cX7_heard 1 = .ok (.iload_n 1, 1) := by decide +kernel
theorem dX7_heard_2 : decode cX7_heard 2 = .ok (.invokevirtual 142, 3) := by decide +kernel
theorem dX7_heard_5 : decode cX7_heard 5 = .ok (.ifCond .eq 17, 3) := by decide +kernel
theorem dX7_heard_8 : decode cX7_heard 8 = .ok (.iload_n 2, 1) := by decide +kernel
theorem dX7_heard_9 : decode cX7_heard 9 = .ok (.i2l, 1) := by decide +kernel
theorem dX7_heard_10 : decode cX7_heard 10 = .ok (.ldc2_w 98, 3) := by decide +kernel
theorem dX7_heard_13 : decode cX7_heard 13 = .ok (.ldc2_w 74, 3) := by decide +kernel
theorem dX7_heard_16 : decode cX7_heard 16 = .ok (.invokestatic 68, 3) := by decide +kernel
theorem dX7_heard_19 : decode cX7_heard 19 = .ok (.ifCond .ne 10, 3) := by decide +kernel
theorem dX7_heard_22 : decode cX7_heard 22 = .ok (.aload_n 0, 1) := by decide +kernel
theorem dX7_heard_23 : decode cX7_heard 23 = .ok (.bipush (-10), 2) := by decide +kernel
theorem dX7_heard_25 : decode cX7_heard 25 = .ok (.invokevirtual 76, 3) := by decide +kernel
theorem dX7_heard_28 : decode cX7_heard 28 = .ok (.ireturn, 1) := by decide +kernel
theorem dX7_heard_29 : decode cX7_heard 29 = .ok (.aload_n 0, 1) := by decide +kernel
theorem dX7_heard_30 : decode cX7_heard 30 = .ok (.iload_n 1, 1) := by decide +kernel
theorem dX7_heard_31 : decode cX7_heard 31 = .ok (.bipush 6, 2) := by decide +kernel
theorem dX7_heard_33 : decode cX7_heard 33 = .ok (.invokevirtual 110, 3) := by decide +kernel
theorem dX7_heard_36 : decode cX7_heard 36 = .ok (.istore_n 3, 1) := by decide +kernel
theorem dX7_heard_37 : decode cX7_heard 37 = .ok (.aload_n 0, 1) := by decide +kernel
theorem dX7_heard_38 : decode cX7_heard 38 = .ok (.getfield 7, 3) := by decide +kernel
theorem dX7_heard_41 : decode cX7_heard 41 = .ok (.bipush 16, 2) := by decide +kernel
theorem dX7_heard_43 : decode cX7_heard 43 = .ok (.bipush 7, 2) := by decide +kernel
theorem dX7_heard_45 : decode cX7_heard 45 = .ok (.iload_n 1, 1) := by decide +kernel
theorem dX7_heard_46 : decode cX7_heard 46 = .ok (.imul, 1) := by decide +kernel
theorem dX7_heard_47 : decode cX7_heard 47 = .ok (.iadd, 1) := by decide +kernel
theorem dX7_heard_48 : decode cX7_heard 48 = .ok (.bipush 6, 2) := by decide +kernel
theorem dX7_heard_50 : decode cX7_heard 50 = .ok (.iadd, 1) := by decide +kernel
theorem dX7_heard_51 : decode cX7_heard 51 = .ok (.iload_n 2, 1) := by decide +kernel
theorem dX7_heard_52 : decode cX7_heard 52 = .ok (.iastore, 1) := by decide +kernel
theorem dX7_heard_53 : decode cX7_heard 53 = .ok (.iload_n 3, 1) := by decide +kernel
theorem dX7_heard_54 : decode cX7_heard 54 = .ok (.ireturn, 1) := by decide +kernel
theorem dX7_explains_0 : decode cX7_explains 0 = .ok (.iconst 1, 1) := by decide +kernel
theorem dX7_explains_1 : decode cX7_explains 1 = .ok (.istore 4, 2) := by decide +kernel
theorem dX7_explains_3 : decode cX7_explains 3 = .ok (.iconst 0, 1) := by decide +kernel
theorem dX7_explains_4 : decode cX7_explains 4 = .ok (.istore 5, 2) := by decide +kernel
theorem dX7_explains_6 : decode cX7_explains 6 = .ok (.iload 5, 2) := by decide +kernel
theorem dX7_explains_8 : decode cX7_explains 8 = .ok (.aload_n 0, 1) := by decide +kernel
theorem dX7_explains_9 : decode cX7_explains 9 = .ok (.invokevirtual 64, 3) := by decide +kernel
theorem dX7_explains_12 : decode cX7_explains 12 = .ok (.if_icmp .ge 83, 3) := by decide +kernel
theorem dX7_explains_15 : decode cX7_explains 15 = .ok (.aload_n 0, 1) := by decide +kernel
theorem dX7_explains_16 : decode cX7_explains 16 = .ok (.iload 5, 2) := by decide +kernel
theorem dX7_explains_18 : decode cX7_explains 18 = .ok (.iconst 5, 1) := by decide +kernel
theorem dX7_explains_19 : decode cX7_explains 19 = .ok (.invokevirtual 110, 3) := by decide +kernel
theorem dX7_explains_22 : decode cX7_explains 22 = .ok (.iload_n 1, 1) := by decide +kernel
theorem dX7_explains_23 : decode cX7_explains 23 = .ok (.if_icmp .ne 18, 3) := by decide +kernel
theorem dX7_explains_26 : decode cX7_explains 26 = .ok (.aload_n 0, 1) := by decide +kernel
theorem dX7_explains_27 : decode cX7_explains 27 = .ok (.iload 5, 2) := by decide +kernel
theorem dX7_explains_29 : decode cX7_explains 29 = .ok (.iconst 1, 1) := by decide +kernel
theorem dX7_explains_30 : decode cX7_explains 30 = .ok (.invokevirtual 110, 3) := by decide +kernel
theorem dX7_explains_33 : decode cX7_explains 33 = .ok (.iload_n 2, 1) := by decide +kernel
theorem dX7_explains_34 : decode cX7_explains 34 = .ok (.if_icmp .lt 7, 3) := by decide +kernel
theorem dX7_explains_37 : decode cX7_explains 37 = .ok (.iconst 1, 1) := by decide +kernel
theorem dX7_explains_38 : decode cX7_explains 38 = .ok (.goto 4, 3) := by decide +kernel
theorem dX7_explains_41 : decode cX7_explains 41 = .ok (.iconst 0, 1) := by decide +kernel
theorem dX7_explains_42 : decode cX7_explains 42 = .ok (.istore 6, 2) := by decide +kernel
theorem dX7_explains_44 : decode cX7_explains 44 = .ok (.iload 4, 2) := by decide +kernel
theorem dX7_explains_46 : decode cX7_explains 46 = .ok (.ifCond .eq 40, 3) := by decide +kernel
theorem dX7_explains_49 : decode cX7_explains 49 = .ok (.aload_n 0, 1) := by decide +kernel
theorem dX7_explains_50 : decode cX7_explains 50 = .ok (.iload 5, 2) := by decide +kernel
theorem dX7_explains_52 : decode cX7_explains 52 = .ok (.bipush 6, 2) := by decide +kernel
theorem dX7_explains_54 : decode cX7_explains 54 = .ok (.invokevirtual 110, 3) := by decide +kernel
theorem dX7_explains_57 : decode cX7_explains 57 = .ok (.iconst (-1), 1) := by decide +kernel
theorem dX7_explains_58 : decode cX7_explains 58 = .ok (.if_icmp .eq 24, 3) := by decide +kernel
theorem dX7_explains_61 : decode cX7_explains 61 = .ok (.aload_n 0, 1) := by decide +kernel
theorem dX7_explains_62 : decode cX7_explains 62 = .ok (.iload 5, 2) := by decide +kernel
theorem dX7_explains_64 : decode cX7_explains 64 = .ok (.bipush 6, 2) := by decide +kernel
theorem dX7_explains_66 : decode cX7_explains 66 = .ok (.invokevirtual 110, 3) := by decide +kernel
theorem dX7_explains_69 : decode cX7_explains 69 = .ok (.iload 6, 2) := by decide +kernel
theorem dX7_explains_71 : decode cX7_explains 71 = .ok (.ifCond .eq 7, 3) := by decide +kernel
theorem dX7_explains_74 : decode cX7_explains 74 = .ok (.iload_n 3, 1) := by decide +kernel
theorem dX7_explains_75 : decode cX7_explains 75 = .ok (.goto 4, 3) := by decide +kernel
theorem dX7_explains_78 : decode cX7_explains 78 = .ok (.iconst 0, 1) := by decide +kernel
theorem dX7_explains_79 : decode cX7_explains 79 = .ok (.if_icmp .ne 7, 3) := by decide +kernel
theorem dX7_explains_82 : decode cX7_explains 82 = .ok (.iconst 1, 1) := by decide +kernel
theorem dX7_explains_83 : decode cX7_explains 83 = .ok (.goto 4, 3) := by decide +kernel
theorem dX7_explains_86 : decode cX7_explains 86 = .ok (.iconst 0, 1) := by decide +kernel
theorem dX7_explains_87 : decode cX7_explains 87 = .ok (.istore 4, 2) := by decide +kernel
theorem dX7_explains_89 : decode cX7_explains 89 = .ok (.iinc 5 1, 3) := by decide +kernel
theorem dX7_explains_92 : decode cX7_explains 92 = .ok (.goto (-86), 3) := by decide +kernel
theorem dX7_explains_95 : decode cX7_explains 95 = .ok (.iload 4, 2) := by decide +kernel
theorem dX7_explains_97 : decode cX7_explains 97 = .ok (.ireturn, 1) := by decide +kernel
theorem dX7_late_0 : decode cX7_late 0 = .ok (.iconst 0, 1) := by decide +kernel
theorem dX7_late_1 : decode cX7_late 1 = .ok (.istore_n 1, 1) := by decide +kernel
theorem dX7_late_2 : decode cX7_late 2 = .ok (.iconst 0, 1) := by decide +kernel
theorem dX7_late_3 : decode cX7_late 3 = .ok (.istore_n 2, 1) := by decide +kernel
theorem dX7_late_4 : decode cX7_late 4 = .ok (.iload_n 2, 1) := by decide +kernel
theorem dX7_late_5 : decode cX7_late 5 = .ok (.iconst 4, 1) := by decide +kernel
theorem dX7_late_6 : decode cX7_late 6 = .ok (.if_icmp .ge 50, 3) := by decide +kernel
theorem dX7_late_9 : decode cX7_late 9 = .ok (.iconst 0, 1) := by decide +kernel
theorem dX7_late_10 : decode cX7_late 10 = .ok (.istore_n 3, 1) := by decide +kernel
theorem dX7_late_11 : decode cX7_late 11 = .ok (.iload_n 3, 1) := by decide +kernel
theorem dX7_late_12 : decode cX7_late 12 = .ok (.sipush 640, 3) := by decide +kernel
theorem dX7_late_15 : decode cX7_late 15 = .ok (.if_icmp .ge 35, 3) := by decide +kernel
theorem dX7_late_18 : decode cX7_late 18 = .ok (.iload_n 1, 1) := by decide +kernel
theorem dX7_late_19 : decode cX7_late 19 = .ok (.aload_n 0, 1) := by decide +kernel
theorem dX7_late_20 : decode cX7_late 20 = .ok (.iload_n 2, 1) := by decide +kernel
theorem dX7_late_21 : decode cX7_late 21 = .ok (.iload_n 3, 1) := by decide +kernel
theorem dX7_late_22 : decode cX7_late 22 = .ok (.bipush 10, 2) := by decide +kernel
theorem dX7_late_24 : decode cX7_late 24 = .ok (.idiv, 1) := by decide +kernel
theorem dX7_late_25 : decode cX7_late 25 = .ok (.iload_n 3, 1) := by decide +kernel
theorem dX7_late_26 : decode cX7_late 26 = .ok (.bipush 10, 2) := by decide +kernel
theorem dX7_late_28 : decode cX7_late 28 = .ok (.irem, 1) := by decide +kernel
theorem dX7_late_29 : decode cX7_late 29 = .ok (.invokevirtual 253, 3) := by decide +kernel
theorem dX7_late_32 : decode cX7_late 32 = .ok (.ifCond .eq 9, 3) := by decide +kernel
theorem dX7_late_35 : decode cX7_late 35 = .ok (.iconst 1, 1) := by decide +kernel
theorem dX7_late_36 : decode cX7_late 36 = .ok (.iload_n 2, 1) := by decide +kernel
theorem dX7_late_37 : decode cX7_late 37 = .ok (.ishl, 1) := by decide +kernel
theorem dX7_late_38 : decode cX7_late 38 = .ok (.goto 4, 3) := by decide +kernel
theorem dX7_late_41 : decode cX7_late 41 = .ok (.iconst 0, 1) := by decide +kernel
theorem dX7_late_42 : decode cX7_late 42 = .ok (.ior, 1) := by decide +kernel
theorem dX7_late_43 : decode cX7_late 43 = .ok (.istore_n 1, 1) := by decide +kernel
theorem dX7_late_44 : decode cX7_late 44 = .ok (.iinc 3 1, 3) := by decide +kernel
theorem dX7_late_47 : decode cX7_late 47 = .ok (.goto (-36), 3) := by decide +kernel
theorem dX7_late_50 : decode cX7_late 50 = .ok (.iinc 2 1, 3) := by decide +kernel
theorem dX7_late_53 : decode cX7_late 53 = .ok (.goto (-49), 3) := by decide +kernel
theorem dX7_late_56 : decode cX7_late 56 = .ok (.iload_n 1, 1) := by decide +kernel
theorem dX7_late_57 : decode cX7_late 57 = .ok (.ireturn, 1) := by decide +kernel
theorem dX7_evening_0 : decode cX7_evening 0 = .ok (.iload_n 1, 1) := by decide +kernel
theorem dX7_evening_1 : decode cX7_evening 1 = .ok (.i2l, 1) := by decide +kernel
theorem dX7_evening_2 : decode cX7_evening 2 = .ok (.lconst 0, 1) := by decide +kernel
theorem dX7_evening_3 : decode cX7_evening 3 = .ok (.ldc2_w 257, 3) := by decide +kernel
theorem dX7_evening_6 : decode cX7_evening 6 = .ok (.invokestatic 68, 3) := by decide +kernel
theorem dX7_evening_9 : decode cX7_evening 9 = .ok (.ifCond .eq 15, 3) := by decide +kernel
theorem dX7_evening_12 : decode cX7_evening 12 = .ok (.iload_n 2, 1) := by decide +kernel
theorem dX7_evening_13 : decode cX7_evening 13 = .ok (.i2l, 1) := by decide +kernel
theorem dX7_evening_14 : decode cX7_evening 14 = .ok (.lconst 0, 1) := by decide +kernel
theorem dX7_evening_15 : decode cX7_evening 15 = .ok (.ldc2_w 259, 3) := by decide +kernel
theorem dX7_evening_18 : decode cX7_evening 18 = .ok (.invokestatic 68, 3) := by decide +kernel
theorem dX7_evening_21 : decode cX7_evening 21 = .ok (.ifCond .ne 10, 3) := by decide +kernel
theorem dX7_evening_24 : decode cX7_evening 24 = .ok (.aload_n 0, 1) := by decide +kernel
theorem dX7_evening_25 : decode cX7_evening 25 = .ok (.bipush (-2), 2) := by decide +kernel
theorem dX7_evening_27 : decode cX7_evening 27 = .ok (.invokevirtual 76, 3) := by decide +kernel
theorem dX7_evening_30 : decode cX7_evening 30 = .ok (.ireturn, 1) := by decide +kernel
theorem dX7_evening_31 : decode cX7_evening 31 = .ok (.iload_n 1, 1) := by decide +kernel
theorem dX7_evening_32 : decode cX7_evening 32 = .ok (.i2l, 1) := by decide +kernel
theorem dX7_evening_33 : decode cX7_evening 33 = .ok (.lstore_n 3, 1) := by decide +kernel
theorem dX7_evening_34 : decode cX7_evening 34 = .ok (.iconst 0, 1) := by decide +kernel
theorem dX7_evening_35 : decode cX7_evening 35 = .ok (.istore 5, 2) := by decide +kernel
theorem dX7_evening_37 : decode cX7_evening 37 = .ok (.iload 5, 2) := by decide +kernel
theorem dX7_evening_39 : decode cX7_evening 39 = .ok (.aload_n 0, 1) := by decide +kernel
theorem dX7_evening_40 : decode cX7_evening 40 = .ok (.invokevirtual 64, 3) := by decide +kernel
theorem dX7_evening_43 : decode cX7_evening 43 = .ok (.if_icmp .ge 99, 3) := by decide +kernel
theorem dX7_evening_46 : decode cX7_evening 46 = .ok (.lload_n 3, 1) := by decide +kernel
theorem dX7_evening_47 : decode cX7_evening 47 = .ok (.ldc2_w 261, 3) := by decide +kernel
theorem dX7_evening_50 : decode cX7_evening 50 = .ok (.lmul, 1) := by decide +kernel
theorem dX7_evening_51 : decode cX7_evening 51 = .ok (.ldc2_w 263, 3) := by decide +kernel
theorem dX7_evening_54 : decode cX7_evening 54 = .ok (.ladd, 1) := by decide +kernel
theorem dX7_evening_55 : decode cX7_evening 55 = .ok (.ldc2_w 265, 3) := by decide +kernel
theorem dX7_evening_58 : decode cX7_evening 58 = .ok (.lrem, 1) := by decide +kernel
theorem dX7_evening_59 : decode cX7_evening 59 = .ok (.lstore_n 3, 1) := by decide +kernel
theorem dX7_evening_60 : decode cX7_evening 60 = .ok (.aload_n 0, 1) := by decide +kernel
theorem dX7_evening_61 : decode cX7_evening 61 = .ok (.getfield 48, 3) := by decide +kernel
theorem dX7_evening_64 : decode cX7_evening 64 = .ok (.iload 5, 2) := by decide +kernel
theorem dX7_evening_66 : decode cX7_evening 66 = .ok (.aload_n 0, 1) := by decide +kernel
theorem dX7_evening_67 : decode cX7_evening 67 = .ok (.iload 5, 2) := by decide +kernel
theorem dX7_evening_69 : decode cX7_evening 69 = .ok (.iconst 1, 1) := by decide +kernel
theorem dX7_evening_70 : decode cX7_evening 70 = .ok (.invokevirtual 110, 3) := by decide +kernel
theorem dX7_evening_73 : decode cX7_evening 73 = .ok (.iastore, 1) := by decide +kernel
theorem dX7_evening_74 : decode cX7_evening 74 = .ok (.lload_n 3, 1) := by decide +kernel
theorem dX7_evening_75 : decode cX7_evening 75 = .ok (.ldc2_w 267, 3) := by decide +kernel
theorem dX7_evening_78 : decode cX7_evening 78 = .ok (.ldiv, 1) := by decide +kernel
theorem dX7_evening_79 : decode cX7_evening 79 = .ok (.ldc2_w 259, 3) := by decide +kernel
theorem dX7_evening_82 : decode cX7_evening 82 = .ok (.lrem, 1) := by decide +kernel
theorem dX7_evening_83 : decode cX7_evening 83 = .ok (.iload_n 2, 1) := by decide +kernel
theorem dX7_evening_84 : decode cX7_evening 84 = .ok (.i2l, 1) := by decide +kernel
theorem dX7_evening_85 : decode cX7_evening 85 = .ok (.lcmp, 1) := by decide +kernel
theorem dX7_evening_86 : decode cX7_evening 86 = .ok (.ifCond .ge 19, 3) := by decide +kernel
theorem dX7_evening_89 : decode cX7_evening 89 = .ok (.aload_n 0, 1) := by decide +kernel
theorem dX7_evening_90 : decode cX7_evening 90 = .ok (.getfield 48, 3) := by decide +kernel
theorem dX7_evening_93 : decode cX7_evening 93 = .ok (.iload 5, 2) := by decide +kernel
theorem dX7_evening_95 : decode cX7_evening 95 = .ok (.iaload, 1) := by decide +kernel
theorem dX7_evening_96 : decode cX7_evening 96 = .ok (.bipush 63, 2) := by decide +kernel
theorem dX7_evening_98 : decode cX7_evening 98 = .ok (.if_icmp .ge 7, 3) := by decide +kernel
theorem dX7_evening_101 : decode cX7_evening 101 = .ok (.iconst 1, 1) := by decide +kernel
theorem dX7_evening_102 : decode cX7_evening 102 = .ok (.goto 4, 3) := by decide +kernel
theorem dX7_evening_105 : decode cX7_evening 105 = .ok (.iconst 0, 1) := by decide +kernel
theorem dX7_evening_106 : decode cX7_evening 106 = .ok (.istore 6, 2) := by decide +kernel
theorem dX7_evening_108 : decode cX7_evening 108 = .ok (.aload_n 0, 1) := by decide +kernel
theorem dX7_evening_109 : decode cX7_evening 109 = .ok (.getfield 7, 3) := by decide +kernel
theorem dX7_evening_112 : decode cX7_evening 112 = .ok (.bipush 16, 2) := by decide +kernel
theorem dX7_evening_114 : decode cX7_evening 114 = .ok (.bipush 7, 2) := by decide +kernel
theorem dX7_evening_116 : decode cX7_evening 116 = .ok (.iload 5, 2) := by decide +kernel
theorem dX7_evening_118 : decode cX7_evening 118 = .ok (.imul, 1) := by decide +kernel
theorem dX7_evening_119 : decode cX7_evening 119 = .ok (.iadd, 1) := by decide +kernel
theorem dX7_evening_120 : decode cX7_evening 120 = .ok (.iconst 1, 1) := by decide +kernel
theorem dX7_evening_121 : decode cX7_evening 121 = .ok (.iadd, 1) := by decide +kernel
theorem dX7_evening_122 : decode cX7_evening 122 = .ok (.dup2, 1) := by decide +kernel
theorem dX7_evening_123 : decode cX7_evening 123 = .ok (.iaload, 1) := by decide +kernel
theorem dX7_evening_124 : decode cX7_evening 124 = .ok (.iload 6, 2) := by decide +kernel
theorem dX7_evening_126 : decode cX7_evening 126 = .ok (.ifCond .eq 7, 3) := by decide +kernel
theorem dX7_evening_129 : decode cX7_evening 129 = .ok (.iconst 1, 1) := by decide +kernel
theorem dX7_evening_130 : decode cX7_evening 130 = .ok (.goto 4, 3) := by decide +kernel
theorem dX7_evening_133 : decode cX7_evening 133 = .ok (.iconst 0, 1) := by decide +kernel
theorem dX7_evening_134 : decode cX7_evening 134 = .ok (.iadd, 1) := by decide +kernel
theorem dX7_evening_135 : decode cX7_evening 135 = .ok (.iastore, 1) := by decide +kernel
theorem dX7_evening_136 : decode cX7_evening 136 = .ok (.iinc 5 1, 3) := by decide +kernel
theorem dX7_evening_139 : decode cX7_evening 139 = .ok (.goto (-102), 3) := by decide +kernel
theorem dX7_evening_142 : decode cX7_evening 142 = .ok (.aload_n 0, 1) := by decide +kernel
theorem dX7_evening_143 : decode cX7_evening 143 = .ok (.invokevirtual 152, 3) := by decide +kernel
theorem dX7_evening_146 : decode cX7_evening 146 = .ok (.istore 5, 2) := by decide +kernel
theorem dX7_evening_148 : decode cX7_evening 148 = .ok (.iconst 0, 1) := by decide +kernel
theorem dX7_evening_149 : decode cX7_evening 149 = .ok (.istore 6, 2) := by decide +kernel
theorem dX7_evening_151 : decode cX7_evening 151 = .ok (.iload 6, 2) := by decide +kernel
theorem dX7_evening_153 : decode cX7_evening 153 = .ok (.aload_n 0, 1) := by decide +kernel
theorem dX7_evening_154 : decode cX7_evening 154 = .ok (.invokevirtual 64, 3) := by decide +kernel
theorem dX7_evening_157 : decode cX7_evening 157 = .ok (.if_icmp .ge 31, 3) := by decide +kernel
theorem dX7_evening_160 : decode cX7_evening 160 = .ok (.aload_n 0, 1) := by decide +kernel
theorem dX7_evening_161 : decode cX7_evening 161 = .ok (.getfield 7, 3) := by decide +kernel
theorem dX7_evening_164 : decode cX7_evening 164 = .ok (.bipush 16, 2) := by decide +kernel
theorem dX7_evening_166 : decode cX7_evening 166 = .ok (.bipush 7, 2) := by decide +kernel
theorem dX7_evening_168 : decode cX7_evening 168 = .ok (.iload 6, 2) := by decide +kernel
theorem dX7_evening_170 : decode cX7_evening 170 = .ok (.imul, 1) := by decide +kernel
theorem dX7_evening_171 : decode cX7_evening 171 = .ok (.iadd, 1) := by decide +kernel
theorem dX7_evening_172 : decode cX7_evening 172 = .ok (.iconst 1, 1) := by decide +kernel
theorem dX7_evening_173 : decode cX7_evening 173 = .ok (.iadd, 1) := by decide +kernel
theorem dX7_evening_174 : decode cX7_evening 174 = .ok (.aload_n 0, 1) := by decide +kernel
theorem dX7_evening_175 : decode cX7_evening 175 = .ok (.getfield 48, 3) := by decide +kernel
theorem dX7_evening_178 : decode cX7_evening 178 = .ok (.iload 6, 2) := by decide +kernel
theorem dX7_evening_180 : decode cX7_evening 180 = .ok (.iaload, 1) := by decide +kernel
theorem dX7_evening_181 : decode cX7_evening 181 = .ok (.iastore, 1) := by decide +kernel
theorem dX7_evening_182 : decode cX7_evening 182 = .ok (.iinc 6 1, 3) := by decide +kernel
theorem dX7_evening_185 : decode cX7_evening 185 = .ok (.goto (-34), 3) := by decide +kernel
theorem dX7_evening_188 : decode cX7_evening 188 = .ok (.iload 5, 2) := by decide +kernel
theorem dX7_evening_190 : decode cX7_evening 190 = .ok (.ireturn, 1) := by decide +kernel
theorem dX7_type_0 : decode cX7_type 0 = .ok (.iload_n 1, 1) := by decide +kernel
theorem dX7_type_1 : decode cX7_type 1 = .ok (.i2l, 1) := by decide +kernel
theorem dX7_type_2 : decode cX7_type 2 = .ok (.lconst 0, 1) := by decide +kernel
theorem dX7_type_3 : decode cX7_type 3 = .ok (.ldc2_w 269, 3) := by decide +kernel
theorem dX7_type_6 : decode cX7_type 6 = .ok (.invokestatic 68, 3) := by decide +kernel
theorem dX7_type_9 : decode cX7_type 9 = .ok (.ifCond .ne 10, 3) := by decide +kernel
theorem dX7_type_12 : decode cX7_type 12 = .ok (.aload_n 0, 1) := by decide +kernel
theorem dX7_type_13 : decode cX7_type 13 = .ok (.bipush (-2), 2) := by decide +kernel
theorem dX7_type_15 : decode cX7_type 15 = .ok (.invokevirtual 76, 3) := by decide +kernel
theorem dX7_type_18 : decode cX7_type 18 = .ok (.ireturn, 1) := by decide +kernel
theorem dX7_type_19 : decode cX7_type 19 = .ok (.aload_n 0, 1) := by decide +kernel
theorem dX7_type_20 : decode cX7_type 20 = .ok (.getfield 271, 3) := by decide +kernel
theorem dX7_type_23 : decode cX7_type 23 = .ok (.sipush 150, 3) := by decide +kernel
theorem dX7_type_26 : decode cX7_type 26 = .ok (.if_icmp .ne 8, 3) := by decide +kernel
theorem dX7_type_29 : decode cX7_type 29 = .ok (.aload_n 0, 1) := by decide +kernel
theorem dX7_type_30 : decode cX7_type 30 = .ok (.invokevirtual 100, 3) := by decide +kernel
theorem dX7_type_33 : decode cX7_type 33 = .ok (.ireturn, 1) := by decide +kernel
theorem dX7_type_34 : decode cX7_type 34 = .ok (.aload_n 0, 1) := by decide +kernel
theorem dX7_type_35 : decode cX7_type 35 = .ok (.getfield 51, 3) := by decide +kernel
theorem dX7_type_38 : decode cX7_type 38 = .ok (.aload_n 0, 1) := by decide +kernel
theorem dX7_type_39 : decode cX7_type 39 = .ok (.getfield 271, 3) := by decide +kernel
theorem dX7_type_42 : decode cX7_type 42 = .ok (.iload_n 1, 1) := by decide +kernel
theorem dX7_type_43 : decode cX7_type 43 = .ok (.iastore, 1) := by decide +kernel
theorem dX7_type_44 : decode cX7_type 44 = .ok (.aload_n 0, 1) := by decide +kernel
theorem dX7_type_45 : decode cX7_type 45 = .ok (.dup, 1) := by decide +kernel
theorem dX7_type_46 : decode cX7_type 46 = .ok (.getfield 271, 3) := by decide +kernel
theorem dX7_type_49 : decode cX7_type 49 = .ok (.iconst 1, 1) := by decide +kernel
theorem dX7_type_50 : decode cX7_type 50 = .ok (.iadd, 1) := by decide +kernel
theorem dX7_type_51 : decode cX7_type 51 = .ok (.putfield 271, 3) := by decide +kernel
theorem dX7_type_54 : decode cX7_type 54 = .ok (.aload_n 0, 1) := by decide +kernel
theorem dX7_type_55 : decode cX7_type 55 = .ok (.getfield 271, 3) := by decide +kernel
theorem dX7_type_58 : decode cX7_type 58 = .ok (.ireturn, 1) := by decide +kernel
theorem dX7_clear_0 : decode cX7_clear 0 = .ok (.aload_n 0, 1) := by decide +kernel
theorem dX7_clear_1 : decode cX7_clear 1 = .ok (.getfield 271, 3) := by decide +kernel
theorem dX7_clear_4 : decode cX7_clear 4 = .ok (.istore_n 1, 1) := by decide +kernel
theorem dX7_clear_5 : decode cX7_clear 5 = .ok (.aload_n 0, 1) := by decide +kernel
theorem dX7_clear_6 : decode cX7_clear 6 = .ok (.iconst 0, 1) := by decide +kernel
theorem dX7_clear_7 : decode cX7_clear 7 = .ok (.putfield 271, 3) := by decide +kernel
theorem dX7_clear_10 : decode cX7_clear 10 = .ok (.iload_n 1, 1) := by decide +kernel
theorem dX7_clear_11 : decode cX7_clear 11 = .ok (.ireturn, 1) := by decide +kernel
theorem dX7_isSmall_0 : decode cX7_isSmall 0 = .ok (.iload_n 0, 1) := by decide +kernel
theorem dX7_isSmall_1 : decode cX7_isSmall 1 = .ok (.i2l, 1) := by decide +kernel
theorem dX7_isSmall_2 : decode cX7_isSmall 2 = .ok (.ldc2_w 274, 3) := by decide +kernel
theorem dX7_isSmall_5 : decode cX7_isSmall 5 = .ok (.ldc2_w 276, 3) := by decide +kernel
theorem dX7_isSmall_8 : decode cX7_isSmall 8 = .ok (.invokestatic 68, 3) := by decide +kernel
theorem dX7_isSmall_11 : decode cX7_isSmall 11 = .ok (.ireturn, 1) := by decide +kernel
theorem dX7_isFigure_0 : decode cX7_isFigure 0 = .ok (.iload_n 0, 1) := by decide +kernel
theorem dX7_isFigure_1 : decode cX7_isFigure 1 = .ok (.i2l, 1) := by decide +kernel
theorem dX7_isFigure_2 : decode cX7_isFigure 2 = .ok (.ldc2_w 278, 3) := by decide +kernel
theorem dX7_isFigure_5 : decode cX7_isFigure 5 = .ok (.ldc2_w 280, 3) := by decide +kernel
theorem dX7_isFigure_8 : decode cX7_isFigure 8 = .ok (.invokestatic 68, 3) := by decide +kernel
theorem dX7_isFigure_11 : decode cX7_isFigure 11 = .ok (.ireturn, 1) := by decide +kernel
theorem dX7_lookAt_0 : decode cX7_lookAt 0 = .ok (.aload_n 0, 1) := by decide +kernel
theorem dX7_lookAt_1 : decode cX7_lookAt 1 = .ok (.iload_n 1, 1) := by decide +kernel
theorem dX7_lookAt_2 : decode cX7_lookAt 2 = .ok (.putfield 282, 3) := by decide +kernel
theorem dX7_lookAt_5 : decode cX7_lookAt 5 = .ok (.aload_n 0, 1) := by decide +kernel
theorem dX7_lookAt_6 : decode cX7_lookAt 6 = .ok (.getfield 282, 3) := by decide +kernel
theorem dX7_lookAt_9 : decode cX7_lookAt 9 = .ok (.aload_n 0, 1) := by decide +kernel
theorem dX7_lookAt_10 : decode cX7_lookAt 10 = .ok (.getfield 271, 3) := by decide +kernel
theorem dX7_lookAt_13 : decode cX7_lookAt 13 = .ok (.if_icmp .ge 30, 3) := by decide +kernel
theorem dX7_lookAt_16 : decode cX7_lookAt 16 = .ok (.aload_n 0, 1) := by decide +kernel
theorem dX7_lookAt_17 : decode cX7_lookAt 17 = .ok (.getfield 51, 3) := by decide +kernel
theorem dX7_lookAt_20 : decode cX7_lookAt 20 = .ok (.aload_n 0, 1) := by decide +kernel
theorem dX7_lookAt_21 : decode cX7_lookAt 21 = .ok (.getfield 282, 3) := by decide +kernel
theorem dX7_lookAt_24 : decode cX7_lookAt 24 = .ok (.iaload, 1) := by decide +kernel
theorem dX7_lookAt_25 : decode cX7_lookAt 25 = .ok (.bipush 32, 2) := by decide +kernel
theorem dX7_lookAt_27 : decode cX7_lookAt 27 = .ok (.if_icmp .ne 16, 3) := by decide +kernel
theorem dX7_lookAt_30 : decode cX7_lookAt 30 = .ok (.aload_n 0, 1) := by decide +kernel
theorem dX7_lookAt_31 : decode cX7_lookAt 31 = .ok (.dup, 1) := by decide +kernel
theorem dX7_lookAt_32 : decode cX7_lookAt 32 = .ok (.getfield 282, 3) := by decide +kernel
theorem dX7_lookAt_35 : decode cX7_lookAt 35 = .ok (.iconst 1, 1) := by decide +kernel
theorem dX7_lookAt_36 : decode cX7_lookAt 36 = .ok (.iadd, 1) := by decide +kernel
theorem dX7_lookAt_37 : decode cX7_lookAt 37 = .ok (.putfield 282, 3) := by decide +kernel
theorem dX7_lookAt_40 : decode cX7_lookAt 40 = .ok (.goto (-35), 3) := by decide +kernel
theorem dX7_lookAt_43 : decode cX7_lookAt 43 = .ok (.aload_n 0, 1) := by decide +kernel
theorem dX7_lookAt_44 : decode cX7_lookAt 44 = .ok (.iconst 0, 1) := by decide +kernel
theorem dX7_lookAt_45 : decode cX7_lookAt 45 = .ok (.putfield 285, 3) := by decide +kernel
theorem dX7_lookAt_48 : decode cX7_lookAt 48 = .ok (.aload_n 0, 1) := by decide +kernel
theorem dX7_lookAt_49 : decode cX7_lookAt 49 = .ok (.iconst 0, 1) := by decide +kernel
theorem dX7_lookAt_50 : decode cX7_lookAt 50 = .ok (.putfield 288, 3) := by decide +kernel
theorem dX7_lookAt_53 : decode cX7_lookAt 53 = .ok (.aload_n 0, 1) := by decide +kernel
theorem dX7_lookAt_54 : decode cX7_lookAt 54 = .ok (.iconst 0, 1) := by decide +kernel
theorem dX7_lookAt_55 : decode cX7_lookAt 55 = .ok (.putfield 291, 3) := by decide +kernel
theorem dX7_lookAt_58 : decode cX7_lookAt 58 = .ok (.aload_n 0, 1) := by decide +kernel
theorem dX7_lookAt_59 : decode cX7_lookAt 59 = .ok (.getfield 282, 3) := by decide +kernel
theorem dX7_lookAt_62 : decode cX7_lookAt 62 = .ok (.aload_n 0, 1) := by decide +kernel
theorem dX7_lookAt_63 : decode cX7_lookAt 63 = .ok (.getfield 271, 3) := by decide +kernel
theorem dX7_lookAt_66 : decode cX7_lookAt 66 = .ok (.if_icmp .ne 4, 3) := by decide +kernel
theorem dX7_lookAt_69 : decode cX7_lookAt 69 = .ok (.return_, 1) := by decide +kernel
theorem dX7_lookAt_70 : decode cX7_lookAt 70 = .ok (.aload_n 0, 1) := by decide +kernel
theorem dX7_lookAt_71 : decode cX7_lookAt 71 = .ok (.getfield 51, 3) := by decide +kernel
theorem dX7_lookAt_74 : decode cX7_lookAt 74 = .ok (.aload_n 0, 1) := by decide +kernel
theorem dX7_lookAt_75 : decode cX7_lookAt 75 = .ok (.getfield 282, 3) := by decide +kernel
theorem dX7_lookAt_78 : decode cX7_lookAt 78 = .ok (.iaload, 1) := by decide +kernel
theorem dX7_lookAt_79 : decode cX7_lookAt 79 = .ok (.istore_n 2, 1) := by decide +kernel
theorem dX7_lookAt_80 : decode cX7_lookAt 80 = .ok (.aload_n 0, 1) := by decide +kernel
theorem dX7_lookAt_81 : decode cX7_lookAt 81 = .ok (.iload_n 2, 1) := by decide +kernel
theorem dX7_lookAt_82 : decode cX7_lookAt 82 = .ok (.invokestatic 294, 3) := by decide +kernel
theorem dX7_lookAt_85 : decode cX7_lookAt 85 = .ok (.ifCond .eq 7, 3) := by decide +kernel
theorem dX7_lookAt_88 : decode cX7_lookAt 88 = .ok (.iconst 1, 1) := by decide +kernel
theorem dX7_lookAt_89 : decode cX7_lookAt 89 = .ok (.goto 25, 3) := by decide +kernel
theorem dX7_lookAt_92 : decode cX7_lookAt 92 = .ok (.iload_n 2, 1) := by decide +kernel
theorem dX7_lookAt_93 : decode cX7_lookAt 93 = .ok (.invokestatic 297, 3) := by decide +kernel
theorem dX7_lookAt_96 : decode cX7_lookAt 96 = .ok (.ifCond .eq 7, 3) := by decide +kernel
theorem dX7_lookAt_99 : decode cX7_lookAt 99 = .ok (.iconst 2, 1) := by decide +kernel
theorem dX7_lookAt_100 : decode cX7_lookAt 100 = .ok (.goto 14, 3) := by decide +kernel
theorem dX7_lookAt_103 : decode cX7_lookAt 103 = .ok (.iload_n 2, 1) := by decide +kernel
theorem dX7_lookAt_104 : decode cX7_lookAt 104 = .ok (.bipush 59, 2) := by decide +kernel
theorem dX7_lookAt_106 : decode cX7_lookAt 106 = .ok (.if_icmp .ne 7, 3) := by decide +kernel
theorem dX7_lookAt_109 : decode cX7_lookAt 109 = .ok (.iconst 3, 1) := by decide +kernel
theorem dX7_lookAt_110 : decode cX7_lookAt 110 = .ok (.goto 4, 3) := by decide +kernel
theorem dX7_lookAt_113 : decode cX7_lookAt 113 = .ok (.iconst 4, 1) := by decide +kernel
theorem dX7_lookAt_114 : decode cX7_lookAt 114 = .ok (.putfield 288, 3) := by decide +kernel
theorem dX7_lookAt_117 : decode cX7_lookAt 117 = .ok (.aload_n 0, 1) := by decide +kernel
theorem dX7_lookAt_118 : decode cX7_lookAt 118 = .ok (.iconst 1, 1) := by decide +kernel
theorem dX7_lookAt_119 : decode cX7_lookAt 119 = .ok (.putfield 285, 3) := by decide +kernel
theorem dX7_lookAt_122 : decode cX7_lookAt 122 = .ok (.aload_n 0, 1) := by decide +kernel
theorem dX7_lookAt_123 : decode cX7_lookAt 123 = .ok (.getfield 288, 3) := by decide +kernel
theorem dX7_lookAt_126 : decode cX7_lookAt 126 = .ok (.iconst 3, 1) := by decide +kernel
theorem dX7_lookAt_127 : decode cX7_lookAt 127 = .ok (.if_icmp .ge 7, 3) := by decide +kernel
theorem dX7_lookAt_130 : decode cX7_lookAt 130 = .ok (.iconst 1, 1) := by decide +kernel
theorem dX7_lookAt_131 : decode cX7_lookAt 131 = .ok (.goto 4, 3) := by decide +kernel
theorem dX7_lookAt_134 : decode cX7_lookAt 134 = .ok (.iconst 0, 1) := by decide +kernel
theorem dX7_lookAt_135 : decode cX7_lookAt 135 = .ok (.istore_n 3, 1) := by decide +kernel
theorem dX7_lookAt_136 : decode cX7_lookAt 136 = .ok (.iload_n 3, 1) := by decide +kernel
theorem dX7_lookAt_137 : decode cX7_lookAt 137 = .ok (.ifCond .eq 78, 3) := by decide +kernel
theorem dX7_lookAt_140 : decode cX7_lookAt 140 = .ok (.aload_n 0, 1) := by decide +kernel
theorem dX7_lookAt_141 : decode cX7_lookAt 141 = .ok (.getfield 282, 3) := by decide +kernel
theorem dX7_lookAt_144 : decode cX7_lookAt 144 = .ok (.aload_n 0, 1) := by decide +kernel
theorem dX7_lookAt_145 : decode cX7_lookAt 145 = .ok (.getfield 285, 3) := by decide +kernel
theorem dX7_lookAt_148 : decode cX7_lookAt 148 = .ok (.iadd, 1) := by decide +kernel
theorem dX7_lookAt_149 : decode cX7_lookAt 149 = .ok (.aload_n 0, 1) := by decide +kernel
theorem dX7_lookAt_150 : decode cX7_lookAt 150 = .ok (.getfield 271, 3) := by decide +kernel
theorem dX7_lookAt_153 : decode cX7_lookAt 153 = .ok (.if_icmp .ge 62, 3) := by decide +kernel
theorem dX7_lookAt_156 : decode cX7_lookAt 156 = .ok (.aload_n 0, 1) := by decide +kernel
theorem dX7_lookAt_157 : decode cX7_lookAt 157 = .ok (.getfield 51, 3) := by decide +kernel
theorem dX7_lookAt_160 : decode cX7_lookAt 160 = .ok (.aload_n 0, 1) := by decide +kernel
theorem dX7_lookAt_161 : decode cX7_lookAt 161 = .ok (.getfield 282, 3) := by decide +kernel
theorem dX7_lookAt_164 : decode cX7_lookAt 164 = .ok (.aload_n 0, 1) := by decide +kernel
theorem dX7_lookAt_165 : decode cX7_lookAt 165 = .ok (.getfield 285, 3) := by decide +kernel
theorem dX7_lookAt_168 : decode cX7_lookAt 168 = .ok (.iadd, 1) := by decide +kernel
theorem dX7_lookAt_169 : decode cX7_lookAt 169 = .ok (.iaload, 1) := by decide +kernel
theorem dX7_lookAt_170 : decode cX7_lookAt 170 = .ok (.istore 4, 2) := by decide +kernel
theorem dX7_lookAt_172 : decode cX7_lookAt 172 = .ok (.aload_n 0, 1) := by decide +kernel
theorem dX7_lookAt_173 : decode cX7_lookAt 173 = .ok (.getfield 288, 3) := by decide +kernel
theorem dX7_lookAt_176 : decode cX7_lookAt 176 = .ok (.iconst 1, 1) := by decide +kernel
theorem dX7_lookAt_177 : decode cX7_lookAt 177 = .ok (.if_icmp .ne 11, 3) := by decide +kernel
theorem dX7_lookAt_180 : decode cX7_lookAt 180 = .ok (.iload 4, 2) := by decide +kernel
theorem dX7_lookAt_182 : decode cX7_lookAt 182 = .ok (.invokestatic 294, 3) := by decide +kernel
theorem dX7_lookAt_185 : decode cX7_lookAt 185 = .ok (.goto 8, 3) := by decide +kernel
theorem dX7_lookAt_188 : decode cX7_lookAt 188 = .ok (.iload 4, 2) := by decide +kernel
theorem dX7_lookAt_190 : decode cX7_lookAt 190 = .ok (.invokestatic 297, 3) := by decide +kernel
theorem dX7_lookAt_193 : decode cX7_lookAt 193 = .ok (.istore_n 3, 1) := by decide +kernel
theorem dX7_lookAt_194 : decode cX7_lookAt 194 = .ok (.aload_n 0, 1) := by decide +kernel
theorem dX7_lookAt_195 : decode cX7_lookAt 195 = .ok (.dup, 1) := by decide +kernel
theorem dX7_lookAt_196 : decode cX7_lookAt 196 = .ok (.getfield 285, 3) := by decide +kernel
theorem dX7_lookAt_199 : decode cX7_lookAt 199 = .ok (.iload_n 3, 1) := by decide +kernel
theorem dX7_lookAt_200 : decode cX7_lookAt 200 = .ok (.ifCond .eq 7, 3) := by decide +kernel
theorem dX7_lookAt_203 : decode cX7_lookAt 203 = .ok (.iconst 1, 1) := by decide +kernel
theorem dX7_lookAt_204 : decode cX7_lookAt 204 = .ok (.goto 4, 3) := by decide +kernel
theorem dX7_lookAt_207 : decode cX7_lookAt 207 = .ok (.iconst 0, 1) := by decide +kernel
theorem dX7_lookAt_208 : decode cX7_lookAt 208 = .ok (.iadd, 1) := by decide +kernel
theorem dX7_lookAt_209 : decode cX7_lookAt 209 = .ok (.putfield 285, 3) := by decide +kernel
theorem dX7_lookAt_212 : decode cX7_lookAt 212 = .ok (.goto (-76), 3) := by decide +kernel
theorem dX7_lookAt_215 : decode cX7_lookAt 215 = .ok (.iconst 0, 1) := by decide +kernel
theorem dX7_lookAt_216 : decode cX7_lookAt 216 = .ok (.istore 4, 2) := by decide +kernel
theorem dX7_lookAt_218 : decode cX7_lookAt 218 = .ok (.iload 4, 2) := by decide +kernel
theorem dX7_lookAt_220 : decode cX7_lookAt 220 = .ok (.aload_n 0, 1) := by decide +kernel
theorem dX7_lookAt_221 : decode cX7_lookAt 221 = .ok (.getfield 285, 3) := by decide +kernel
theorem dX7_lookAt_224 : decode cX7_lookAt 224 = .ok (.if_icmp .ge 50, 3) := by decide +kernel
theorem dX7_lookAt_227 : decode cX7_lookAt 227 = .ok (.iload 4, 2) := by decide +kernel
theorem dX7_lookAt_229 : decode cX7_lookAt 229 = .ok (.iconst 2, 1) := by decide +kernel
theorem dX7_lookAt_230 : decode cX7_lookAt 230 = .ok (.if_icmp .ge 44, 3) := by decide +kernel
theorem dX7_lookAt_233 : decode cX7_lookAt 233 = .ok (.aload_n 0, 1) := by decide +kernel
theorem dX7_lookAt_234 : decode cX7_lookAt 234 = .ok (.getfield 288, 3) := by decide +kernel
theorem dX7_lookAt_237 : decode cX7_lookAt 237 = .ok (.iconst 2, 1) := by decide +kernel
theorem dX7_lookAt_238 : decode cX7_lookAt 238 = .ok (.if_icmp .ne 36, 3) := by decide +kernel
theorem dX7_lookAt_241 : decode cX7_lookAt 241 = .ok (.aload_n 0, 1) := by decide +kernel
theorem dX7_lookAt_242 : decode cX7_lookAt 242 = .ok (.bipush 10, 2) := by decide +kernel
theorem dX7_lookAt_244 : decode cX7_lookAt 244 = .ok (.aload_n 0, 1) := by decide +kernel
theorem dX7_lookAt_245 : decode cX7_lookAt 245 = .ok (.getfield 291, 3) := by decide +kernel
theorem dX7_lookAt_248 : decode cX7_lookAt 248 = .ok (.imul, 1) := by decide +kernel
theorem dX7_lookAt_249 : decode cX7_lookAt 249 = .ok (.aload_n 0, 1) := by decide +kernel
theorem dX7_lookAt_250 : decode cX7_lookAt 250 = .ok (.getfield 51, 3) := by decide +kernel
theorem dX7_lookAt_253 : decode cX7_lookAt 253 = .ok (.aload_n 0, 1) := by decide +kernel
theorem dX7_lookAt_254 : decode cX7_lookAt 254 = .ok (.getfield 282, 3) := by decide +kernel
theorem dX7_lookAt_257 : decode cX7_lookAt 257 = .ok (.iload 4, 2) := by decide +kernel
theorem dX7_lookAt_259 : decode cX7_lookAt 259 = .ok (.iadd, 1) := by decide +kernel
theorem dX7_lookAt_260 : decode cX7_lookAt 260 = .ok (.iaload, 1) := by decide +kernel
theorem dX7_lookAt_261 : decode cX7_lookAt 261 = .ok (.iadd, 1) := by decide +kernel
theorem dX7_lookAt_262 : decode cX7_lookAt 262 = .ok (.bipush 48, 2) := by decide +kernel
theorem dX7_lookAt_264 : decode cX7_lookAt 264 = .ok (.isub, 1) := by decide +kernel
theorem dX7_lookAt_265 : decode cX7_lookAt 265 = .ok (.putfield 291, 3) := by decide +kernel
theorem dX7_lookAt_268 : decode cX7_lookAt 268 = .ok (.iinc 4 1, 3) := by decide +kernel
theorem dX7_lookAt_271 : decode cX7_lookAt 271 = .ok (.goto (-53), 3) := by decide +kernel
theorem dX7_lookAt_274 : decode cX7_lookAt 274 = .ok (.aload_n 0, 1) := by decide +kernel
theorem dX7_lookAt_275 : decode cX7_lookAt 275 = .ok (.aload_n 0, 1) := by decide +kernel
theorem dX7_lookAt_276 : decode cX7_lookAt 276 = .ok (.getfield 288, 3) := by decide +kernel
theorem dX7_lookAt_279 : decode cX7_lookAt 279 = .ok (.iconst 2, 1) := by decide +kernel
theorem dX7_lookAt_280 : decode cX7_lookAt 280 = .ok (.if_icmp .ne 15, 3) := by decide +kernel
theorem dX7_lookAt_283 : decode cX7_lookAt 283 = .ok (.aload_n 0, 1) := by decide +kernel
theorem dX7_lookAt_284 : decode cX7_lookAt 284 = .ok (.getfield 285, 3) := by decide +kernel
theorem dX7_lookAt_287 : decode cX7_lookAt 287 = .ok (.iconst 2, 1) := by decide +kernel
theorem dX7_lookAt_288 : decode cX7_lookAt 288 = .ok (.if_icmp .le 7, 3) := by decide +kernel
theorem dX7_lookAt_291 : decode cX7_lookAt 291 = .ok (.iconst 4, 1) := by decide +kernel
theorem dX7_lookAt_292 : decode cX7_lookAt 292 = .ok (.goto 7, 3) := by decide +kernel
theorem dX7_lookAt_295 : decode cX7_lookAt 295 = .ok (.aload_n 0, 1) := by decide +kernel
theorem dX7_lookAt_296 : decode cX7_lookAt 296 = .ok (.getfield 288, 3) := by decide +kernel
theorem dX7_lookAt_299 : decode cX7_lookAt 299 = .ok (.putfield 288, 3) := by decide +kernel
theorem dX7_lookAt_302 : decode cX7_lookAt 302 = .ok (.return_, 1) := by decide +kernel
theorem dX7_goOn_0 : decode cX7_goOn 0 = .ok (.aload_n 0, 1) := by decide +kernel
theorem dX7_goOn_1 : decode cX7_goOn 1 = .ok (.aload_n 0, 1) := by decide +kernel
theorem dX7_goOn_2 : decode cX7_goOn 2 = .ok (.getfield 282, 3) := by decide +kernel
theorem dX7_goOn_5 : decode cX7_goOn 5 = .ok (.aload_n 0, 1) := by decide +kernel
theorem dX7_goOn_6 : decode cX7_goOn 6 = .ok (.getfield 285, 3) := by decide +kernel
theorem dX7_goOn_9 : decode cX7_goOn 9 = .ok (.iadd, 1) := by decide +kernel
theorem dX7_goOn_10 : decode cX7_goOn 10 = .ok (.invokevirtual 300, 3) := by decide +kernel
theorem dX7_goOn_13 : decode cX7_goOn 13 = .ok (.return_, 1) := by decide +kernel
theorem dX7_isName_0 : decode cX7_isName 0 = .ok (.iload 5, 2) := by decide +kernel
theorem dX7_isName_2 : decode cX7_isName 2 = .ok (.ifCond .ne 7, 3) := by decide +kernel
theorem dX7_isName_5 : decode cX7_isName 5 = .ok (.iconst 4, 1) := by decide +kernel
theorem dX7_isName_6 : decode cX7_isName 6 = .ok (.goto 4, 3) := by decide +kernel
theorem dX7_isName_9 : decode cX7_isName 9 = .ok (.iconst 5, 1) := by decide +kernel
theorem dX7_isName_10 : decode cX7_isName 10 = .ok (.istore 6, 2) := by decide +kernel
theorem dX7_isName_12 : decode cX7_isName 12 = .ok (.aload_n 0, 1) := by decide +kernel
theorem dX7_isName_13 : decode cX7_isName 13 = .ok (.getfield 288, 3) := by decide +kernel
theorem dX7_isName_16 : decode cX7_isName 16 = .ok (.iconst 1, 1) := by decide +kernel
theorem dX7_isName_17 : decode cX7_isName 17 = .ok (.if_icmp .ne 16, 3) := by decide +kernel
theorem dX7_isName_20 : decode cX7_isName 20 = .ok (.aload_n 0, 1) := by decide +kernel
theorem dX7_isName_21 : decode cX7_isName 21 = .ok (.getfield 285, 3) := by decide +kernel
theorem dX7_isName_24 : decode cX7_isName 24 = .ok (.iload 6, 2) := by decide +kernel
theorem dX7_isName_26 : decode cX7_isName 26 = .ok (.if_icmp .ne 7, 3) := by decide +kernel
theorem dX7_isName_29 : decode cX7_isName 29 = .ok (.iconst 1, 1) := by decide +kernel
theorem dX7_isName_30 : decode cX7_isName 30 = .ok (.goto 4, 3) := by decide +kernel
theorem dX7_isName_33 : decode cX7_isName 33 = .ok (.iconst 0, 1) := by decide +kernel
theorem dX7_isName_34 : decode cX7_isName 34 = .ok (.istore 7, 2) := by decide +kernel
theorem dX7_isName_36 : decode cX7_isName 36 = .ok (.iconst 0, 1) := by decide +kernel
theorem dX7_isName_37 : decode cX7_isName 37 = .ok (.istore 8, 2) := by decide +kernel
theorem dX7_isName_39 : decode cX7_isName 39 = .ok (.iload 8, 2) := by decide +kernel
theorem dX7_isName_41 : decode cX7_isName 41 = .ok (.iload 6, 2) := by decide +kernel
theorem dX7_isName_43 : decode cX7_isName 43 = .ok (.if_icmp .ge 78, 3) := by decide +kernel
theorem dX7_isName_46 : decode cX7_isName 46 = .ok (.iload 7, 2) := by decide +kernel
theorem dX7_isName_48 : decode cX7_isName 48 = .ok (.ifCond .eq 73, 3) := by decide +kernel
theorem dX7_isName_51 : decode cX7_isName 51 = .ok (.aload_n 0, 1) := by decide +kernel
theorem dX7_isName_52 : decode cX7_isName 52 = .ok (.getfield 51, 3) := by decide +kernel
theorem dX7_isName_55 : decode cX7_isName 55 = .ok (.aload_n 0, 1) := by decide +kernel
theorem dX7_isName_56 : decode cX7_isName 56 = .ok (.getfield 282, 3) := by decide +kernel
theorem dX7_isName_59 : decode cX7_isName 59 = .ok (.iload 8, 2) := by decide +kernel
theorem dX7_isName_61 : decode cX7_isName 61 = .ok (.iadd, 1) := by decide +kernel
theorem dX7_isName_62 : decode cX7_isName 62 = .ok (.iaload, 1) := by decide +kernel
theorem dX7_isName_63 : decode cX7_isName 63 = .ok (.iload 8, 2) := by decide +kernel
theorem dX7_isName_65 : decode cX7_isName 65 = .ok (.ifCond .ne 7, 3) := by decide +kernel
theorem dX7_isName_68 : decode cX7_isName 68 = .ok (.iload_n 1, 1) := by decide +kernel
theorem dX7_isName_69 : decode cX7_isName 69 = .ok (.goto 36, 3) := by decide +kernel
theorem dX7_isName_72 : decode cX7_isName 72 = .ok (.iload 8, 2) := by decide +kernel
theorem dX7_isName_74 : decode cX7_isName 74 = .ok (.iconst 1, 1) := by decide +kernel
theorem dX7_isName_75 : decode cX7_isName 75 = .ok (.if_icmp .ne 7, 3) := by decide +kernel
theorem dX7_isName_78 : decode cX7_isName 78 = .ok (.iload_n 2, 1) := by decide +kernel
theorem dX7_isName_79 : decode cX7_isName 79 = .ok (.goto 26, 3) := by decide +kernel
theorem dX7_isName_82 : decode cX7_isName 82 = .ok (.iload 8, 2) := by decide +kernel
theorem dX7_isName_84 : decode cX7_isName 84 = .ok (.iconst 2, 1) := by decide +kernel
theorem dX7_isName_85 : decode cX7_isName 85 = .ok (.if_icmp .ne 7, 3) := by decide +kernel
theorem dX7_isName_88 : decode cX7_isName 88 = .ok (.iload_n 3, 1) := by decide +kernel
theorem dX7_isName_89 : decode cX7_isName 89 = .ok (.goto 16, 3) := by decide +kernel
theorem dX7_isName_92 : decode cX7_isName 92 = .ok (.iload 8, 2) := by decide +kernel
theorem dX7_isName_94 : decode cX7_isName 94 = .ok (.iconst 3, 1) := by decide +kernel
theorem dX7_isName_95 : decode cX7_isName 95 = .ok (.if_icmp .ne 8, 3) := by decide +kernel
theorem dX7_isName_98 : decode cX7_isName 98 = .ok (.iload 4, 2) := by decide +kernel
theorem dX7_isName_100 : decode cX7_isName 100 = .ok (.goto 5, 3) := by decide +kernel
theorem dX7_isName_103 : decode cX7_isName 103 = .ok (.iload 5, 2) := by decide +kernel
theorem dX7_isName_105 : decode cX7_isName 105 = .ok (.if_icmp .ne 7, 3) := by decide +kernel
theorem dX7_isName_108 : decode cX7_isName 108 = .ok (.iconst 1, 1) := by decide +kernel
theorem dX7_isName_109 : decode cX7_isName 109 = .ok (.goto 4, 3) := by decide +kernel
theorem dX7_isName_112 : decode cX7_isName 112 = .ok (.iconst 0, 1) := by decide +kernel
theorem dX7_isName_113 : decode cX7_isName 113 = .ok (.istore 7, 2) := by decide +kernel
theorem dX7_isName_115 : decode cX7_isName 115 = .ok (.iinc 8 1, 3) := by decide +kernel
theorem dX7_isName_118 : decode cX7_isName 118 = .ok (.goto (-79), 3) := by decide +kernel
theorem dX7_isName_121 : decode cX7_isName 121 = .ok (.iload 7, 2) := by decide +kernel
theorem dX7_isName_123 : decode cX7_isName 123 = .ok (.ireturn, 1) := by decide +kernel
theorem dX7_takes_0 : decode cX7_takes 0 = .ok (.aload_n 0, 1) := by decide +kernel
theorem dX7_takes_1 : decode cX7_takes 1 = .ok (.getfield 288, 3) := by decide +kernel
theorem dX7_takes_4 : decode cX7_takes 4 = .ok (.iconst 2, 1) := by decide +kernel
theorem dX7_takes_5 : decode cX7_takes 5 = .ok (.if_icmp .ne 18, 3) := by decide +kernel
theorem dX7_takes_8 : decode cX7_takes 8 = .ok (.aload_n 0, 1) := by decide +kernel
theorem dX7_takes_9 : decode cX7_takes 9 = .ok (.getfield 291, 3) := by decide +kernel
theorem dX7_takes_12 : decode cX7_takes 12 = .ok (.i2l, 1) := by decide +kernel
theorem dX7_takes_13 : decode cX7_takes 13 = .ok (.iload_n 2, 1) := by decide +kernel
theorem dX7_takes_14 : decode cX7_takes 14 = .ok (.i2l, 1) := by decide +kernel
theorem dX7_takes_15 : decode cX7_takes 15 = .ok (.iload_n 3, 1) := by decide +kernel
theorem dX7_takes_16 : decode cX7_takes 16 = .ok (.i2l, 1) := by decide +kernel
theorem dX7_takes_17 : decode cX7_takes 17 = .ok (.invokestatic 68, 3) := by decide +kernel
theorem dX7_takes_20 : decode cX7_takes 20 = .ok (.ifCond .ne 5, 3) := by decide +kernel
theorem dX7_takes_23 : decode cX7_takes 23 = .ok (.iconst 0, 1) := by decide +kernel
theorem dX7_takes_24 : decode cX7_takes 24 = .ok (.ireturn, 1) := by decide +kernel
theorem dX7_takes_25 : decode cX7_takes 25 = .ok (.aload_n 0, 1) := by decide +kernel
theorem dX7_takes_26 : decode cX7_takes 26 = .ok (.getfield 57, 3) := by decide +kernel
theorem dX7_takes_29 : decode cX7_takes 29 = .ok (.iload_n 1, 1) := by decide +kernel
theorem dX7_takes_30 : decode cX7_takes 30 = .ok (.aload_n 0, 1) := by decide +kernel
theorem dX7_takes_31 : decode cX7_takes 31 = .ok (.getfield 291, 3) := by decide +kernel
theorem dX7_takes_34 : decode cX7_takes 34 = .ok (.iastore, 1) := by decide +kernel
theorem dX7_takes_35 : decode cX7_takes 35 = .ok (.aload_n 0, 1) := by decide +kernel
theorem dX7_takes_36 : decode cX7_takes 36 = .ok (.invokevirtual 303, 3) := by decide +kernel
theorem dX7_takes_39 : decode cX7_takes 39 = .ok (.iconst 1, 1) := by decide +kernel
theorem dX7_takes_40 : decode cX7_takes 40 = .ok (.ireturn, 1) := by decide +kernel
theorem dX7_readsFirst_0 : decode cX7_readsFirst 0 = .ok (.aload_n 0, 1) := by decide +kernel
theorem dX7_readsFirst_1 : decode cX7_readsFirst 1 = .ok (.bipush 112, 2) := by decide +kernel
theorem dX7_readsFirst_3 : decode cX7_readsFirst 3 = .ok (.bipush 105, 2) := by decide +kernel
theorem dX7_readsFirst_5 : decode cX7_readsFirst 5 = .ok (.bipush 101, 2) := by decide +kernel
theorem dX7_readsFirst_7 : decode cX7_readsFirst 7 = .ok (.bipush 99, 2) := by decide +kernel
theorem dX7_readsFirst_9 : decode cX7_readsFirst 9 = .ok (.bipush 101, 2) := by decide +kernel
theorem dX7_readsFirst_11 : decode cX7_readsFirst 11 = .ok (.invokevirtual 306, 3) := by decide +kernel
theorem dX7_readsFirst_14 : decode cX7_readsFirst 14 = .ok (.ifCond .ne 5, 3) := by decide +kernel
theorem dX7_readsFirst_17 : decode cX7_readsFirst 17 = .ok (.iconst 0, 1) := by decide +kernel
theorem dX7_readsFirst_18 : decode cX7_readsFirst 18 = .ok (.ireturn, 1) := by decide +kernel
theorem dX7_readsFirst_19 : decode cX7_readsFirst 19 = .ok (.aload_n 0, 1) := by decide +kernel
theorem dX7_readsFirst_20 : decode cX7_readsFirst 20 = .ok (.invokevirtual 303, 3) := by decide +kernel
theorem dX7_readsFirst_23 : decode cX7_readsFirst 23 = .ok (.aload_n 0, 1) := by decide +kernel
theorem dX7_readsFirst_24 : decode cX7_readsFirst 24 = .ok (.iconst 0, 1) := by decide +kernel
theorem dX7_readsFirst_25 : decode cX7_readsFirst 25 = .ok (.iconst 0, 1) := by decide +kernel
theorem dX7_readsFirst_26 : decode cX7_readsFirst 26 = .ok (.bipush 9, 2) := by decide +kernel
theorem dX7_readsFirst_28 : decode cX7_readsFirst 28 = .ok (.invokevirtual 310, 3) := by decide +kernel
theorem dX7_readsFirst_31 : decode cX7_readsFirst 31 = .ok (.istore_n 1, 1) := by decide +kernel
theorem dX7_readsFirst_32 : decode cX7_readsFirst 32 = .ok (.aload_n 0, 1) := by decide +kernel
theorem dX7_readsFirst_33 : decode cX7_readsFirst 33 = .ok (.getfield 54, 3) := by decide +kernel
theorem dX7_readsFirst_36 : decode cX7_readsFirst 36 = .ok (.iload_n 1, 1) := by decide +kernel
theorem dX7_readsFirst_37 : decode cX7_readsFirst 37 = .ok (.ifCond .eq 12, 3) := by decide +kernel
theorem dX7_readsFirst_40 : decode cX7_readsFirst 40 = .ok (.aload_n 0, 1) := by decide +kernel
theorem dX7_readsFirst_41 : decode cX7_readsFirst 41 = .ok (.getfield 57, 3) := by decide +kernel
theorem dX7_readsFirst_44 : decode cX7_readsFirst 44 = .ok (.iconst 0, 1) := by decide +kernel
theorem dX7_readsFirst_45 : decode cX7_readsFirst 45 = .ok (.iaload, 1) := by decide +kernel
theorem dX7_readsFirst_46 : decode cX7_readsFirst 46 = .ok (.goto 4, 3) := by decide +kernel
theorem dX7_readsFirst_49 : decode cX7_readsFirst 49 = .ok (.iconst 0, 1) := by decide +kernel
theorem dX7_readsFirst_50 : decode cX7_readsFirst 50 = .ok (.invokestatic 60, 3) := by decide +kernel
theorem dX7_readsFirst_53 : decode cX7_readsFirst 53 = .ok (.iload_n 1, 1) := by decide +kernel
theorem dX7_readsFirst_54 : decode cX7_readsFirst 54 = .ok (.ifCond .eq 15, 3) := by decide +kernel
theorem dX7_readsFirst_57 : decode cX7_readsFirst 57 = .ok (.aload_n 0, 1) := by decide +kernel
theorem dX7_readsFirst_58 : decode cX7_readsFirst 58 = .ok (.getfield 288, 3) := by decide +kernel
theorem dX7_readsFirst_61 : decode cX7_readsFirst 61 = .ok (.iconst 3, 1) := by decide +kernel
theorem dX7_readsFirst_62 : decode cX7_readsFirst 62 = .ok (.if_icmp .ne 7, 3) := by decide +kernel
theorem dX7_readsFirst_65 : decode cX7_readsFirst 65 = .ok (.iconst 1, 1) := by decide +kernel
theorem dX7_readsFirst_66 : decode cX7_readsFirst 66 = .ok (.goto 4, 3) := by decide +kernel
theorem dX7_readsFirst_69 : decode cX7_readsFirst 69 = .ok (.iconst 0, 1) := by decide +kernel
theorem dX7_readsFirst_70 : decode cX7_readsFirst 70 = .ok (.ireturn, 1) := by decide +kernel
theorem dX7_readsHand_0 : decode cX7_readsHand 0 = .ok (.aload_n 0, 1) := by decide +kernel
theorem dX7_readsHand_1 : decode cX7_readsHand 1 = .ok (.invokevirtual 303, 3) := by decide +kernel
theorem dX7_readsHand_4 : decode cX7_readsHand 4 = .ok (.aload_n 0, 1) := by decide +kernel
theorem dX7_readsHand_5 : decode cX7_readsHand 5 = .ok (.iconst 0, 1) := by decide +kernel
theorem dX7_readsHand_6 : decode cX7_readsHand 6 = .ok (.iconst 0, 1) := by decide +kernel
theorem dX7_readsHand_7 : decode cX7_readsHand 7 = .ok (.iconst 3, 1) := by decide +kernel
theorem dX7_readsHand_8 : decode cX7_readsHand 8 = .ok (.invokevirtual 310, 3) := by decide +kernel
theorem dX7_readsHand_11 : decode cX7_readsHand 11 = .ok (.ifCond .eq 35, 3) := by decide +kernel
theorem dX7_readsHand_14 : decode cX7_readsHand 14 = .ok (.aload_n 0, 1) := by decide +kernel
theorem dX7_readsHand_15 : decode cX7_readsHand 15 = .ok (.iconst 1, 1) := by decide +kernel
theorem dX7_readsHand_16 : decode cX7_readsHand 16 = .ok (.iconst 0, 1) := by decide +kernel
theorem dX7_readsHand_17 : decode cX7_readsHand 17 = .ok (.iconst 5, 1) := by decide +kernel
theorem dX7_readsHand_18 : decode cX7_readsHand 18 = .ok (.invokevirtual 310, 3) := by decide +kernel
theorem dX7_readsHand_21 : decode cX7_readsHand 21 = .ok (.ifCond .eq 25, 3) := by decide +kernel
theorem dX7_readsHand_24 : decode cX7_readsHand 24 = .ok (.aload_n 0, 1) := by decide +kernel
theorem dX7_readsHand_25 : decode cX7_readsHand 25 = .ok (.iconst 2, 1) := by decide +kernel
theorem dX7_readsHand_26 : decode cX7_readsHand 26 = .ok (.iconst 0, 1) := by decide +kernel
theorem dX7_readsHand_27 : decode cX7_readsHand 27 = .ok (.bipush 15, 2) := by decide +kernel
theorem dX7_readsHand_29 : decode cX7_readsHand 29 = .ok (.invokevirtual 310, 3) := by decide +kernel
theorem dX7_readsHand_32 : decode cX7_readsHand 32 = .ok (.ifCond .eq 14, 3) := by decide +kernel
theorem dX7_readsHand_35 : decode cX7_readsHand 35 = .ok (.aload_n 0, 1) := by decide +kernel
theorem dX7_readsHand_36 : decode cX7_readsHand 36 = .ok (.iconst 3, 1) := by decide +kernel
theorem dX7_readsHand_37 : decode cX7_readsHand 37 = .ok (.iconst 1, 1) := by decide +kernel
theorem dX7_readsHand_38 : decode cX7_readsHand 38 = .ok (.bipush 9, 2) := by decide +kernel
theorem dX7_readsHand_40 : decode cX7_readsHand 40 = .ok (.invokevirtual 310, 3) := by decide +kernel
theorem dX7_readsHand_43 : decode cX7_readsHand 43 = .ok (.ifCond .ne 5, 3) := by decide +kernel
theorem dX7_readsHand_46 : decode cX7_readsHand 46 = .ok (.iconst 0, 1) := by decide +kernel
theorem dX7_readsHand_47 : decode cX7_readsHand 47 = .ok (.ireturn, 1) := by decide +kernel
theorem dX7_readsHand_48 : decode cX7_readsHand 48 = .ok (.aload_n 0, 1) := by decide +kernel
theorem dX7_readsHand_49 : decode cX7_readsHand 49 = .ok (.getfield 54, 3) := by decide +kernel
theorem dX7_readsHand_52 : decode cX7_readsHand 52 = .ok (.aload_n 0, 1) := by decide +kernel
theorem dX7_readsHand_53 : decode cX7_readsHand 53 = .ok (.getfield 57, 3) := by decide +kernel
theorem dX7_readsHand_56 : decode cX7_readsHand 56 = .ok (.iconst 0, 1) := by decide +kernel
theorem dX7_readsHand_57 : decode cX7_readsHand 57 = .ok (.iaload, 1) := by decide +kernel
theorem dX7_readsHand_58 : decode cX7_readsHand 58 = .ok (.aload_n 0, 1) := by decide +kernel
theorem dX7_readsHand_59 : decode cX7_readsHand 59 = .ok (.getfield 57, 3) := by decide +kernel
theorem dX7_readsHand_62 : decode cX7_readsHand 62 = .ok (.iconst 1, 1) := by decide +kernel
theorem dX7_readsHand_63 : decode cX7_readsHand 63 = .ok (.iaload, 1) := by decide +kernel
theorem dX7_readsHand_64 : decode cX7_readsHand 64 = .ok (.aload_n 0, 1) := by decide +kernel
theorem dX7_readsHand_65 : decode cX7_readsHand 65 = .ok (.getfield 57, 3) := by decide +kernel
theorem dX7_readsHand_68 : decode cX7_readsHand 68 = .ok (.iconst 2, 1) := by decide +kernel
theorem dX7_readsHand_69 : decode cX7_readsHand 69 = .ok (.iaload, 1) := by decide +kernel
theorem dX7_readsHand_70 : decode cX7_readsHand 70 = .ok (.aload_n 0, 1) := by decide +kernel
theorem dX7_readsHand_71 : decode cX7_readsHand 71 = .ok (.getfield 57, 3) := by decide +kernel
theorem dX7_readsHand_74 : decode cX7_readsHand 74 = .ok (.iconst 3, 1) := by decide +kernel
theorem dX7_readsHand_75 : decode cX7_readsHand 75 = .ok (.iaload, 1) := by decide +kernel
theorem dX7_readsHand_76 : decode cX7_readsHand 76 = .ok (.invokestatic 88, 3) := by decide +kernel
theorem dX7_readsHand_79 : decode cX7_readsHand 79 = .ok (.iconst 1, 1) := by decide +kernel
theorem dX7_readsHand_80 : decode cX7_readsHand 80 = .ok (.ireturn, 1) := by decide +kernel
theorem dX7_readsNote_0 : decode cX7_readsNote 0 = .ok (.aload_n 0, 1) := by decide +kernel
theorem dX7_readsNote_1 : decode cX7_readsNote 1 = .ok (.getfield 54, 3) := by decide +kernel
theorem dX7_readsNote_4 : decode cX7_readsNote 4 = .ok (.iconst 0, 1) := by decide +kernel
theorem dX7_readsNote_5 : decode cX7_readsNote 5 = .ok (.iaload, 1) := by decide +kernel
theorem dX7_readsNote_6 : decode cX7_readsNote 6 = .ok (.bipush 12, 2) := by decide +kernel
theorem dX7_readsNote_8 : decode cX7_readsNote 8 = .ok (.if_icmp .ne 5, 3) := by decide +kernel
theorem dX7_readsNote_11 : decode cX7_readsNote 11 = .ok (.iconst 0, 1) := by decide +kernel
theorem dX7_readsNote_12 : decode cX7_readsNote 12 = .ok (.ireturn, 1) := by decide +kernel
theorem dX7_readsNote_13 : decode cX7_readsNote 13 = .ok (.aload_n 0, 1) := by decide +kernel
theorem dX7_readsNote_14 : decode cX7_readsNote 14 = .ok (.invokevirtual 303, 3) := by decide +kernel
theorem dX7_readsNote_17 : decode cX7_readsNote 17 = .ok (.aload_n 0, 1) := by decide +kernel
theorem dX7_readsNote_18 : decode cX7_readsNote 18 = .ok (.iconst 0, 1) := by decide +kernel
theorem dX7_readsNote_19 : decode cX7_readsNote 19 = .ok (.iconst 0, 1) := by decide +kernel
theorem dX7_readsNote_20 : decode cX7_readsNote 20 = .ok (.bipush 47, 2) := by decide +kernel
theorem dX7_readsNote_22 : decode cX7_readsNote 22 = .ok (.invokevirtual 310, 3) := by decide +kernel
theorem dX7_readsNote_25 : decode cX7_readsNote 25 = .ok (.ifCond .eq 48, 3) := by decide +kernel
theorem dX7_readsNote_28 : decode cX7_readsNote 28 = .ok (.aload_n 0, 1) := by decide +kernel
theorem dX7_readsNote_29 : decode cX7_readsNote 29 = .ok (.iconst 1, 1) := by decide +kernel
theorem dX7_readsNote_30 : decode cX7_readsNote 30 = .ok (.iconst 0, 1) := by decide +kernel
theorem dX7_readsNote_31 : decode cX7_readsNote 31 = .ok (.bipush 63, 2) := by decide +kernel
theorem dX7_readsNote_33 : decode cX7_readsNote 33 = .ok (.invokevirtual 310, 3) := by decide +kernel
theorem dX7_readsNote_36 : decode cX7_readsNote 36 = .ok (.ifCond .eq 37, 3) := by decide +kernel
theorem dX7_readsNote_39 : decode cX7_readsNote 39 = .ok (.aload_n 0, 1) := by decide +kernel
theorem dX7_readsNote_40 : decode cX7_readsNote 40 = .ok (.iconst 2, 1) := by decide +kernel
theorem dX7_readsNote_41 : decode cX7_readsNote 41 = .ok (.iconst 1, 1) := by decide +kernel
theorem dX7_readsNote_42 : decode cX7_readsNote 42 = .ok (.aload_n 0, 1) := by decide +kernel
theorem dX7_readsNote_43 : decode cX7_readsNote 43 = .ok (.getfield 57, 3) := by decide +kernel
theorem dX7_readsNote_46 : decode cX7_readsNote 46 = .ok (.iconst 1, 1) := by decide +kernel
theorem dX7_readsNote_47 : decode cX7_readsNote 47 = .ok (.iaload, 1) := by decide +kernel
theorem dX7_readsNote_48 : decode cX7_readsNote 48 = .ok (.bipush 56, 2) := by decide +kernel
theorem dX7_readsNote_50 : decode cX7_readsNote 50 = .ok (.if_icmp .le 15, 3) := by decide +kernel
theorem dX7_readsNote_53 : decode cX7_readsNote 53 = .ok (.bipush 64, 2) := by decide +kernel
theorem dX7_readsNote_55 : decode cX7_readsNote 55 = .ok (.aload_n 0, 1) := by decide +kernel
theorem dX7_readsNote_56 : decode cX7_readsNote 56 = .ok (.getfield 57, 3) := by decide +kernel
theorem dX7_readsNote_59 : decode cX7_readsNote 59 = .ok (.iconst 1, 1) := by decide +kernel
theorem dX7_readsNote_60 : decode cX7_readsNote 60 = .ok (.iaload, 1) := by decide +kernel
theorem dX7_readsNote_61 : decode cX7_readsNote 61 = .ok (.isub, 1) := by decide +kernel
theorem dX7_readsNote_62 : decode cX7_readsNote 62 = .ok (.goto 5, 3) := by decide +kernel
theorem dX7_readsNote_65 : decode cX7_readsNote 65 = .ok (.bipush 8, 2) := by decide +kernel
theorem dX7_readsNote_67 : decode cX7_readsNote 67 = .ok (.invokevirtual 310, 3) := by decide +kernel
theorem dX7_readsNote_70 : decode cX7_readsNote 70 = .ok (.ifCond .ne 5, 3) := by decide +kernel
theorem dX7_readsNote_73 : decode cX7_readsNote 73 = .ok (.iconst 0, 1) := by decide +kernel
theorem dX7_readsNote_74 : decode cX7_readsNote 74 = .ok (.ireturn, 1) := by decide +kernel
theorem dX7_readsNote_75 : decode cX7_readsNote 75 = .ok (.aload_n 0, 1) := by decide +kernel
theorem dX7_readsNote_76 : decode cX7_readsNote 76 = .ok (.iconst 3, 1) := by decide +kernel
theorem dX7_readsNote_77 : decode cX7_readsNote 77 = .ok (.iconst 0, 1) := by decide +kernel
theorem dX7_readsNote_78 : decode cX7_readsNote 78 = .ok (.iconst 1, 1) := by decide +kernel
theorem dX7_readsNote_79 : decode cX7_readsNote 79 = .ok (.invokevirtual 310, 3) := by decide +kernel
theorem dX7_readsNote_82 : decode cX7_readsNote 82 = .ok (.ifCond .eq 24, 3) := by decide +kernel
theorem dX7_readsNote_85 : decode cX7_readsNote 85 = .ok (.aload_n 0, 1) := by decide +kernel
theorem dX7_readsNote_86 : decode cX7_readsNote 86 = .ok (.iconst 4, 1) := by decide +kernel
theorem dX7_readsNote_87 : decode cX7_readsNote 87 = .ok (.iconst 0, 1) := by decide +kernel
theorem dX7_readsNote_88 : decode cX7_readsNote 88 = .ok (.bipush 9, 2) := by decide +kernel
theorem dX7_readsNote_90 : decode cX7_readsNote 90 = .ok (.invokevirtual 310, 3) := by decide +kernel
theorem dX7_readsNote_93 : decode cX7_readsNote 93 = .ok (.ifCond .eq 13, 3) := by decide +kernel
theorem dX7_readsNote_96 : decode cX7_readsNote 96 = .ok (.aload_n 0, 1) := by decide +kernel
theorem dX7_readsNote_97 : decode cX7_readsNote 97 = .ok (.iconst 5, 1) := by decide +kernel
theorem dX7_readsNote_98 : decode cX7_readsNote 98 = .ok (.iconst 0, 1) := by decide +kernel
theorem dX7_readsNote_99 : decode cX7_readsNote 99 = .ok (.iconst 4, 1) := by decide +kernel
theorem dX7_readsNote_100 : decode cX7_readsNote 100 = .ok (.invokevirtual 310, 3) := by decide +kernel
theorem dX7_readsNote_103 : decode cX7_readsNote 103 = .ok (.ifCond .ne 5, 3) := by decide +kernel
theorem dX7_readsNote_106 : decode cX7_readsNote 106 = .ok (.iconst 0, 1) := by decide +kernel
theorem dX7_readsNote_107 : decode cX7_readsNote 107 = .ok (.ireturn, 1) := by decide +kernel
theorem dX7_readsNote_108 : decode cX7_readsNote 108 = .ok (.aload_n 0, 1) := by decide +kernel
theorem dX7_readsNote_109 : decode cX7_readsNote 109 = .ok (.getfield 54, 3) := by decide +kernel
theorem dX7_readsNote_112 : decode cX7_readsNote 112 = .ok (.aload_n 0, 1) := by decide +kernel
theorem dX7_readsNote_113 : decode cX7_readsNote 113 = .ok (.getfield 57, 3) := by decide +kernel
theorem dX7_readsNote_116 : decode cX7_readsNote 116 = .ok (.iconst 0, 1) := by decide +kernel
theorem dX7_readsNote_117 : decode cX7_readsNote 117 = .ok (.iaload, 1) := by decide +kernel
theorem dX7_readsNote_118 : decode cX7_readsNote 118 = .ok (.aload_n 0, 1) := by decide +kernel
theorem dX7_readsNote_119 : decode cX7_readsNote 119 = .ok (.getfield 57, 3) := by decide +kernel
theorem dX7_readsNote_122 : decode cX7_readsNote 122 = .ok (.iconst 1, 1) := by decide +kernel
theorem dX7_readsNote_123 : decode cX7_readsNote 123 = .ok (.iaload, 1) := by decide +kernel
theorem dX7_readsNote_124 : decode cX7_readsNote 124 = .ok (.aload_n 0, 1) := by decide +kernel
theorem dX7_readsNote_125 : decode cX7_readsNote 125 = .ok (.getfield 57, 3) := by decide +kernel
theorem dX7_readsNote_128 : decode cX7_readsNote 128 = .ok (.iconst 2, 1) := by decide +kernel
theorem dX7_readsNote_129 : decode cX7_readsNote 129 = .ok (.iaload, 1) := by decide +kernel
theorem dX7_readsNote_130 : decode cX7_readsNote 130 = .ok (.aload_n 0, 1) := by decide +kernel
theorem dX7_readsNote_131 : decode cX7_readsNote 131 = .ok (.getfield 57, 3) := by decide +kernel
theorem dX7_readsNote_134 : decode cX7_readsNote 134 = .ok (.iconst 3, 1) := by decide +kernel
theorem dX7_readsNote_135 : decode cX7_readsNote 135 = .ok (.iaload, 1) := by decide +kernel
theorem dX7_readsNote_136 : decode cX7_readsNote 136 = .ok (.aload_n 0, 1) := by decide +kernel
theorem dX7_readsNote_137 : decode cX7_readsNote 137 = .ok (.getfield 57, 3) := by decide +kernel
theorem dX7_readsNote_140 : decode cX7_readsNote 140 = .ok (.iconst 4, 1) := by decide +kernel
theorem dX7_readsNote_141 : decode cX7_readsNote 141 = .ok (.iaload, 1) := by decide +kernel
theorem dX7_readsNote_142 : decode cX7_readsNote 142 = .ok (.aload_n 0, 1) := by decide +kernel
theorem dX7_readsNote_143 : decode cX7_readsNote 143 = .ok (.getfield 57, 3) := by decide +kernel
theorem dX7_readsNote_146 : decode cX7_readsNote 146 = .ok (.iconst 5, 1) := by decide +kernel
theorem dX7_readsNote_147 : decode cX7_readsNote 147 = .ok (.iaload, 1) := by decide +kernel
theorem dX7_readsNote_148 : decode cX7_readsNote 148 = .ok (.iconst 4, 1) := by decide +kernel
theorem dX7_readsNote_149 : decode cX7_readsNote 149 = .ok (.if_icmp .ne 7, 3) := by decide +kernel
theorem dX7_readsNote_152 : decode cX7_readsNote 152 = .ok (.iconst (-1), 1) := by decide +kernel
theorem dX7_readsNote_153 : decode cX7_readsNote 153 = .ok (.goto 9, 3) := by decide +kernel
theorem dX7_readsNote_156 : decode cX7_readsNote 156 = .ok (.aload_n 0, 1) := by decide +kernel
theorem dX7_readsNote_157 : decode cX7_readsNote 157 = .ok (.getfield 57, 3) := by decide +kernel
theorem dX7_readsNote_160 : decode cX7_readsNote 160 = .ok (.iconst 5, 1) := by decide +kernel
theorem dX7_readsNote_161 : decode cX7_readsNote 161 = .ok (.iaload, 1) := by decide +kernel
theorem dX7_readsNote_162 : decode cX7_readsNote 162 = .ok (.invokestatic 103, 3) := by decide +kernel
theorem dX7_readsNote_165 : decode cX7_readsNote 165 = .ok (.iconst 1, 1) := by decide +kernel
theorem dX7_readsNote_166 : decode cX7_readsNote 166 = .ok (.ireturn, 1) := by decide +kernel
theorem dX7_readsItem_0 : decode cX7_readsItem 0 = .ok (.aload_n 0, 1) := by decide +kernel
theorem dX7_readsItem_1 : decode cX7_readsItem 1 = .ok (.bipush 104, 2) := by decide +kernel
theorem dX7_readsItem_3 : decode cX7_readsItem 3 = .ok (.bipush 97, 2) := by decide +kernel
theorem dX7_readsItem_5 : decode cX7_readsItem 5 = .ok (.bipush 110, 2) := by decide +kernel
theorem dX7_readsItem_7 : decode cX7_readsItem 7 = .ok (.bipush 100, 2) := by decide +kernel
theorem dX7_readsItem_9 : decode cX7_readsItem 9 = .ok (.iconst 0, 1) := by decide +kernel
theorem dX7_readsItem_10 : decode cX7_readsItem 10 = .ok (.invokevirtual 306, 3) := by decide +kernel
theorem dX7_readsItem_13 : decode cX7_readsItem 13 = .ok (.ifCond .eq 8, 3) := by decide +kernel
theorem dX7_readsItem_16 : decode cX7_readsItem 16 = .ok (.aload_n 0, 1) := by decide +kernel
theorem dX7_readsItem_17 : decode cX7_readsItem 17 = .ok (.invokevirtual 313, 3) := by decide +kernel
theorem dX7_readsItem_20 : decode cX7_readsItem 20 = .ok (.ireturn, 1) := by decide +kernel
theorem dX7_readsItem_21 : decode cX7_readsItem 21 = .ok (.aload_n 0, 1) := by decide +kernel
theorem dX7_readsItem_22 : decode cX7_readsItem 22 = .ok (.bipush 110, 2) := by decide +kernel
theorem dX7_readsItem_24 : decode cX7_readsItem 24 = .ok (.bipush 111, 2) := by decide +kernel
theorem dX7_readsItem_26 : decode cX7_readsItem 26 = .ok (.bipush 116, 2) := by decide +kernel
theorem dX7_readsItem_28 : decode cX7_readsItem 28 = .ok (.bipush 101, 2) := by decide +kernel
theorem dX7_readsItem_30 : decode cX7_readsItem 30 = .ok (.iconst 0, 1) := by decide +kernel
theorem dX7_readsItem_31 : decode cX7_readsItem 31 = .ok (.invokevirtual 306, 3) := by decide +kernel
theorem dX7_readsItem_34 : decode cX7_readsItem 34 = .ok (.ifCond .eq 14, 3) := by decide +kernel
theorem dX7_readsItem_37 : decode cX7_readsItem 37 = .ok (.aload_n 0, 1) := by decide +kernel
theorem dX7_readsItem_38 : decode cX7_readsItem 38 = .ok (.invokevirtual 317, 3) := by decide +kernel
theorem dX7_readsItem_41 : decode cX7_readsItem 41 = .ok (.ifCond .eq 7, 3) := by decide +kernel
theorem dX7_readsItem_44 : decode cX7_readsItem 44 = .ok (.iconst 1, 1) := by decide +kernel
theorem dX7_readsItem_45 : decode cX7_readsItem 45 = .ok (.goto 4, 3) := by decide +kernel
theorem dX7_readsItem_48 : decode cX7_readsItem 48 = .ok (.iconst 0, 1) := by decide +kernel
theorem dX7_readsItem_49 : decode cX7_readsItem 49 = .ok (.ireturn, 1) := by decide +kernel
theorem dX7_read_0 : decode cX7_read 0 = .ok (.aload_n 0, 1) := by decide +kernel
theorem dX7_read_1 : decode cX7_read 1 = .ok (.iconst 0, 1) := by decide +kernel
theorem dX7_read_2 : decode cX7_read 2 = .ok (.invokevirtual 300, 3) := by decide +kernel
theorem dX7_read_5 : decode cX7_read 5 = .ok (.aload_n 0, 1) := by decide +kernel
theorem dX7_read_6 : decode cX7_read 6 = .ok (.invokevirtual 320, 3) := by decide +kernel
theorem dX7_read_9 : decode cX7_read 9 = .ok (.ifCond .ne 11, 3) := by decide +kernel
theorem dX7_read_12 : decode cX7_read 12 = .ok (.bipush (-10), 2) := by decide +kernel
theorem dX7_read_14 : decode cX7_read 14 = .ok (.aload_n 0, 1) := by decide +kernel
theorem dX7_read_15 : decode cX7_read 15 = .ok (.getfield 282, 3) := by decide +kernel
theorem dX7_read_18 : decode cX7_read 18 = .ok (.isub, 1) := by decide +kernel
theorem dX7_read_19 : decode cX7_read 19 = .ok (.ireturn, 1) := by decide +kernel
theorem dX7_read_20 : decode cX7_read 20 = .ok (.aload_n 0, 1) := by decide +kernel
theorem dX7_read_21 : decode cX7_read 21 = .ok (.invokevirtual 303, 3) := by decide +kernel
theorem dX7_read_24 : decode cX7_read 24 = .ok (.iconst 1, 1) := by decide +kernel
theorem dX7_read_25 : decode cX7_read 25 = .ok (.istore_n 1, 1) := by decide +kernel
theorem dX7_read_26 : decode cX7_read 26 = .ok (.aload_n 0, 1) := by decide +kernel
theorem dX7_read_27 : decode cX7_read 27 = .ok (.getfield 288, 3) := by decide +kernel
theorem dX7_read_30 : decode cX7_read 30 = .ok (.ifCond .eq 36, 3) := by decide +kernel
theorem dX7_read_33 : decode cX7_read 33 = .ok (.aload_n 0, 1) := by decide +kernel
theorem dX7_read_34 : decode cX7_read 34 = .ok (.invokevirtual 323, 3) := by decide +kernel
theorem dX7_read_37 : decode cX7_read 37 = .ok (.ifCond .eq 11, 3) := by decide +kernel
theorem dX7_read_40 : decode cX7_read 40 = .ok (.aload_n 0, 1) := by decide +kernel
theorem dX7_read_41 : decode cX7_read 41 = .ok (.getfield 288, 3) := by decide +kernel
theorem dX7_read_44 : decode cX7_read 44 = .ok (.iconst 3, 1) := by decide +kernel
theorem dX7_read_45 : decode cX7_read 45 = .ok (.if_icmp .eq 11, 3) := by decide +kernel
theorem dX7_read_48 : decode cX7_read 48 = .ok (.bipush (-10), 2) := by decide +kernel
theorem dX7_read_50 : decode cX7_read 50 = .ok (.aload_n 0, 1) := by decide +kernel
theorem dX7_read_51 : decode cX7_read 51 = .ok (.getfield 282, 3) := by decide +kernel
theorem dX7_read_54 : decode cX7_read 54 = .ok (.isub, 1) := by decide +kernel
theorem dX7_read_55 : decode cX7_read 55 = .ok (.ireturn, 1) := by decide +kernel
theorem dX7_read_56 : decode cX7_read 56 = .ok (.aload_n 0, 1) := by decide +kernel
theorem dX7_read_57 : decode cX7_read 57 = .ok (.invokevirtual 303, 3) := by decide +kernel
theorem dX7_read_60 : decode cX7_read 60 = .ok (.iinc 1 1, 3) := by decide +kernel
theorem dX7_read_63 : decode cX7_read 63 = .ok (.goto (-37), 3) := by decide +kernel
theorem dX7_read_66 : decode cX7_read 66 = .ok (.iconst 0, 1) := by decide +kernel
theorem dX7_read_67 : decode cX7_read 67 = .ok (.istore_n 2, 1) := by decide +kernel
theorem dX7_read_68 : decode cX7_read 68 = .ok (.iload_n 2, 1) := by decide +kernel
theorem dX7_read_69 : decode cX7_read 69 = .ok (.bipush 101, 2) := by decide +kernel
theorem dX7_read_71 : decode cX7_read 71 = .ok (.if_icmp .ge 21, 3) := by decide +kernel
theorem dX7_read_74 : decode cX7_read 74 = .ok (.aload_n 0, 1) := by decide +kernel
theorem dX7_read_75 : decode cX7_read 75 = .ok (.getfield 7, 3) := by decide +kernel
theorem dX7_read_78 : decode cX7_read 78 = .ok (.iload_n 2, 1) := by decide +kernel
theorem dX7_read_79 : decode cX7_read 79 = .ok (.aload_n 0, 1) := by decide +kernel
theorem dX7_read_80 : decode cX7_read 80 = .ok (.getfield 54, 3) := by decide +kernel
theorem dX7_read_83 : decode cX7_read 83 = .ok (.iload_n 2, 1) := by decide +kernel
theorem dX7_read_84 : decode cX7_read 84 = .ok (.iaload, 1) := by decide +kernel
theorem dX7_read_85 : decode cX7_read 85 = .ok (.iastore, 1) := by decide +kernel
theorem dX7_read_86 : decode cX7_read 86 = .ok (.iinc 2 1, 3) := by decide +kernel
theorem dX7_read_89 : decode cX7_read 89 = .ok (.goto (-21), 3) := by decide +kernel
theorem dX7_read_92 : decode cX7_read 92 = .ok (.iload_n 1, 1) := by decide +kernel
theorem dX7_read_93 : decode cX7_read 93 = .ok (.ireturn, 1) := by decide +kernel
theorem dX7_part_0 : decode cX7_part 0 = .ok (.iload_n 1, 1) := by decide +kernel
theorem dX7_part_1 : decode cX7_part 1 = .ok (.ifCond .ne 10, 3) := by decide +kernel
theorem dX7_part_4 : decode cX7_part 4 = .ok (.aload_n 0, 1) := by decide +kernel
theorem dX7_part_5 : decode cX7_part 5 = .ok (.getfield 244, 3) := by decide +kernel
theorem dX7_part_8 : decode cX7_part 8 = .ok (.goto 22, 3) := by decide +kernel
theorem dX7_part_11 : decode cX7_part 11 = .ok (.iload_n 1, 1) := by decide +kernel
theorem dX7_part_12 : decode cX7_part 12 = .ok (.iconst 1, 1) := by decide +kernel
theorem dX7_part_13 : decode cX7_part 13 = .ok (.if_icmp .ne 10, 3) := by decide +kernel
theorem dX7_part_16 : decode cX7_part 16 = .ok (.aload_n 0, 1) := by decide +kernel
theorem dX7_part_17 : decode cX7_part 17 = .ok (.getfield 23, 3) := by decide +kernel
theorem dX7_part_20 : decode cX7_part 20 = .ok (.goto 10, 3) := by decide +kernel
theorem dX7_part_23 : decode cX7_part 23 = .ok (.aload_n 0, 1) := by decide +kernel
theorem dX7_part_24 : decode cX7_part 24 = .ok (.bipush (-2), 2) := by decide +kernel
theorem dX7_part_26 : decode cX7_part 26 = .ok (.invokevirtual 76, 3) := by decide +kernel
theorem dX7_part_29 : decode cX7_part 29 = .ok (.i2l, 1) := by decide +kernel
theorem dX7_part_30 : decode cX7_part 30 = .ok (.lreturn, 1) := by decide +kernel
theorem dX7_image_0 : decode cX7_image 0 = .ok (.iload_n 1, 1) := by decide +kernel
theorem dX7_image_1 : decode cX7_image 1 = .ok (.i2l, 1) := by decide +kernel
theorem dX7_image_2 : decode cX7_image 2 = .ok (.lconst 0, 1) := by decide +kernel
theorem dX7_image_3 : decode cX7_image 3 = .ok (.lconst 1, 1) := by decide +kernel
theorem dX7_image_4 : decode cX7_image 4 = .ok (.invokestatic 68, 3) := by decide +kernel
theorem dX7_image_7 : decode cX7_image 7 = .ok (.ifCond .ne 10, 3) := by decide +kernel
theorem dX7_image_10 : decode cX7_image 10 = .ok (.aload_n 0, 1) := by decide +kernel
theorem dX7_image_11 : decode cX7_image 11 = .ok (.bipush (-2), 2) := by decide +kernel
theorem dX7_image_13 : decode cX7_image 13 = .ok (.invokevirtual 76, 3) := by decide +kernel
theorem dX7_image_16 : decode cX7_image 16 = .ok (.ireturn, 1) := by decide +kernel
theorem dX7_image_17 : decode cX7_image 17 = .ok (.iconst 0, 1) := by decide +kernel
theorem dX7_image_18 : decode cX7_image 18 = .ok (.istore_n 2, 1) := by decide +kernel
theorem dX7_image_19 : decode cX7_image 19 = .ok (.iload_n 2, 1) := by decide +kernel
theorem dX7_image_20 : decode cX7_image 20 = .ok (.sipush 221, 3) := by decide +kernel
theorem dX7_image_23 : decode cX7_image 23 = .ok (.if_icmp .ge 27, 3) := by decide +kernel
theorem dX7_image_26 : decode cX7_image 26 = .ok (.aload_n 0, 1) := by decide +kernel
theorem dX7_image_27 : decode cX7_image 27 = .ok (.getfield 13, 3) := by decide +kernel
theorem dX7_image_30 : decode cX7_image 30 = .ok (.sipush 221, 3) := by decide +kernel
theorem dX7_image_33 : decode cX7_image 33 = .ok (.iload_n 1, 1) := by decide +kernel
theorem dX7_image_34 : decode cX7_image 34 = .ok (.imul, 1) := by decide +kernel
theorem dX7_image_35 : decode cX7_image 35 = .ok (.iload_n 2, 1) := by decide +kernel
theorem dX7_image_36 : decode cX7_image 36 = .ok (.iadd, 1) := by decide +kernel
theorem dX7_image_37 : decode cX7_image 37 = .ok (.aload_n 0, 1) := by decide +kernel
theorem dX7_image_38 : decode cX7_image 38 = .ok (.getfield 7, 3) := by decide +kernel
theorem dX7_image_41 : decode cX7_image 41 = .ok (.iload_n 2, 1) := by decide +kernel
theorem dX7_image_42 : decode cX7_image 42 = .ok (.iaload, 1) := by decide +kernel
theorem dX7_image_43 : decode cX7_image 43 = .ok (.iastore, 1) := by decide +kernel
theorem dX7_image_44 : decode cX7_image 44 = .ok (.iinc 2 1, 3) := by decide +kernel
theorem dX7_image_47 : decode cX7_image 47 = .ok (.goto (-28), 3) := by decide +kernel
theorem dX7_image_50 : decode cX7_image 50 = .ok (.aload_n 0, 1) := by decide +kernel
theorem dX7_image_51 : decode cX7_image 51 = .ok (.getfield 16, 3) := by decide +kernel
theorem dX7_image_54 : decode cX7_image 54 = .ok (.iload_n 1, 1) := by decide +kernel
theorem dX7_image_55 : decode cX7_image 55 = .ok (.iconst 1, 1) := by decide +kernel
theorem dX7_image_56 : decode cX7_image 56 = .ok (.bastore, 1) := by decide +kernel
theorem dX7_image_57 : decode cX7_image 57 = .ok (.iconst 1, 1) := by decide +kernel
theorem dX7_image_58 : decode cX7_image 58 = .ok (.ireturn, 1) := by decide +kernel
theorem dX7_from_0 : decode cX7_from 0 = .ok (.iload_n 1, 1) := by decide +kernel
theorem dX7_from_1 : decode cX7_from 1 = .ok (.i2l, 1) := by decide +kernel
theorem dX7_from_2 : decode cX7_from 2 = .ok (.lconst 0, 1) := by decide +kernel
theorem dX7_from_3 : decode cX7_from 3 = .ok (.lconst 1, 1) := by decide +kernel
theorem dX7_from_4 : decode cX7_from 4 = .ok (.invokestatic 68, 3) := by decide +kernel
theorem dX7_from_7 : decode cX7_from 7 = .ok (.ifCond .ne 10, 3) := by decide +kernel
theorem dX7_from_10 : decode cX7_from 10 = .ok (.aload_n 0, 1) := by decide +kernel
theorem dX7_from_11 : decode cX7_from 11 = .ok (.bipush (-2), 2) := by decide +kernel
theorem dX7_from_13 : decode cX7_from 13 = .ok (.invokevirtual 76, 3) := by decide +kernel
theorem dX7_from_16 : decode cX7_from 16 = .ok (.ireturn, 1) := by decide +kernel
theorem dX7_from_17 : decode cX7_from 17 = .ok (.aload_n 0, 1) := by decide +kernel
theorem dX7_from_18 : decode cX7_from 18 = .ok (.getfield 16, 3) := by decide +kernel
theorem dX7_from_21 : decode cX7_from 21 = .ok (.iload_n 1, 1) := by decide +kernel
theorem dX7_from_22 : decode cX7_from 22 = .ok (.baload, 1) := by decide +kernel
theorem dX7_from_23 : decode cX7_from 23 = .ok (.ifCond .ne 10, 3) := by decide +kernel
theorem dX7_from_26 : decode cX7_from 26 = .ok (.aload_n 0, 1) := by decide +kernel
theorem dX7_from_27 : decode cX7_from 27 = .ok (.bipush (-3), 2) := by decide +kernel
theorem dX7_from_29 : decode cX7_from 29 = .ok (.invokevirtual 155, 3) := by decide +kernel
theorem dX7_from_32 : decode cX7_from 32 = .ok (.ireturn, 1) := by decide +kernel
theorem dX7_from_33 : decode cX7_from 33 = .ok (.iconst 0, 1) := by decide +kernel
theorem dX7_from_34 : decode cX7_from 34 = .ok (.istore_n 2, 1) := by decide +kernel
theorem dX7_from_35 : decode cX7_from 35 = .ok (.iload_n 2, 1) := by decide +kernel
theorem dX7_from_36 : decode cX7_from 36 = .ok (.sipush 221, 3) := by decide +kernel
theorem dX7_from_39 : decode cX7_from 39 = .ok (.if_icmp .ge 27, 3) := by decide +kernel
theorem dX7_from_42 : decode cX7_from 42 = .ok (.aload_n 0, 1) := by decide +kernel
theorem dX7_from_43 : decode cX7_from 43 = .ok (.getfield 7, 3) := by decide +kernel
theorem dX7_from_46 : decode cX7_from 46 = .ok (.iload_n 2, 1) := by decide +kernel
theorem dX7_from_47 : decode cX7_from 47 = .ok (.aload_n 0, 1) := by decide +kernel
theorem dX7_from_48 : decode cX7_from 48 = .ok (.getfield 13, 3) := by decide +kernel
theorem dX7_from_51 : decode cX7_from 51 = .ok (.sipush 221, 3) := by decide +kernel
theorem dX7_from_54 : decode cX7_from 54 = .ok (.iload_n 1, 1) := by decide +kernel
theorem dX7_from_55 : decode cX7_from 55 = .ok (.imul, 1) := by decide +kernel
theorem dX7_from_56 : decode cX7_from 56 = .ok (.iload_n 2, 1) := by decide +kernel
theorem dX7_from_57 : decode cX7_from 57 = .ok (.iadd, 1) := by decide +kernel
theorem dX7_from_58 : decode cX7_from 58 = .ok (.iaload, 1) := by decide +kernel
theorem dX7_from_59 : decode cX7_from 59 = .ok (.iastore, 1) := by decide +kernel
theorem dX7_from_60 : decode cX7_from 60 = .ok (.iinc 2 1, 3) := by decide +kernel
theorem dX7_from_63 : decode cX7_from 63 = .ok (.goto (-28), 3) := by decide +kernel
theorem dX7_from_66 : decode cX7_from 66 = .ok (.iconst 1, 1) := by decide +kernel
theorem dX7_from_67 : decode cX7_from 67 = .ok (.ireturn, 1) := by decide +kernel
theorem dX7_status_0 : decode cX7_status 0 = .ok (.iload_n 1, 1) := by decide +kernel
theorem dX7_status_1 : decode cX7_status 1 = .ok (.i2l, 1) := by decide +kernel
theorem dX7_status_2 : decode cX7_status 2 = .ok (.lconst 0, 1) := by decide +kernel
theorem dX7_status_3 : decode cX7_status 3 = .ok (.ldc2_w 183, 3) := by decide +kernel
theorem dX7_status_6 : decode cX7_status 6 = .ok (.invokestatic 68, 3) := by decide +kernel
theorem dX7_status_9 : decode cX7_status 9 = .ok (.ifCond .eq 12, 3) := by decide +kernel
theorem dX7_status_12 : decode cX7_status 12 = .ok (.aload_n 0, 1) := by decide +kernel
theorem dX7_status_13 : decode cX7_status 13 = .ok (.getfield 20, 3) := by decide +kernel
theorem dX7_status_16 : decode cX7_status 16 = .ok (.iload_n 1, 1) := by decide +kernel
theorem dX7_status_17 : decode cX7_status 17 = .ok (.iaload, 1) := by decide +kernel
theorem dX7_status_18 : decode cX7_status 18 = .ok (.goto 8, 3) := by decide +kernel
theorem dX7_status_21 : decode cX7_status 21 = .ok (.aload_n 0, 1) := by decide +kernel
theorem dX7_status_22 : decode cX7_status 22 = .ok (.iconst (-1), 1) := by decide +kernel
theorem dX7_status_23 : decode cX7_status 23 = .ok (.invokevirtual 76, 3) := by decide +kernel
theorem dX7_status_26 : decode cX7_status 26 = .ok (.ireturn, 1) := by decide +kernel
theorem dX7_played_0 : decode cX7_played 0 = .ok (.iconst 0, 1) := by decide +kernel
theorem dX7_played_1 : decode cX7_played 1 = .ok (.istore_n 1, 1) := by decide +kernel
theorem dX7_played_2 : decode cX7_played 2 = .ok (.iconst 0, 1) := by decide +kernel
theorem dX7_played_3 : decode cX7_played 3 = .ok (.istore_n 2, 1) := by decide +kernel
theorem dX7_played_4 : decode cX7_played 4 = .ok (.iload_n 2, 1) := by decide +kernel
theorem dX7_played_5 : decode cX7_played 5 = .ok (.aload_n 0, 1) := by decide +kernel
theorem dX7_played_6 : decode cX7_played 6 = .ok (.invokevirtual 64, 3) := by decide +kernel
theorem dX7_played_9 : decode cX7_played 9 = .ok (.if_icmp .ge 25, 3) := by decide +kernel
theorem dX7_played_12 : decode cX7_played 12 = .ok (.iload_n 1, 1) := by decide +kernel
theorem dX7_played_13 : decode cX7_played 13 = .ok (.aload_n 0, 1) := by decide +kernel
theorem dX7_played_14 : decode cX7_played 14 = .ok (.iload_n 2, 1) := by decide +kernel
theorem dX7_played_15 : decode cX7_played 15 = .ok (.invokevirtual 123, 3) := by decide +kernel
theorem dX7_played_18 : decode cX7_played 18 = .ok (.ifCond .eq 7, 3) := by decide +kernel
theorem dX7_played_21 : decode cX7_played 21 = .ok (.iconst 1, 1) := by decide +kernel
theorem dX7_played_22 : decode cX7_played 22 = .ok (.goto 4, 3) := by decide +kernel
theorem dX7_played_25 : decode cX7_played 25 = .ok (.iconst 0, 1) := by decide +kernel
theorem dX7_played_26 : decode cX7_played 26 = .ok (.iadd, 1) := by decide +kernel
theorem dX7_played_27 : decode cX7_played 27 = .ok (.istore_n 1, 1) := by decide +kernel
theorem dX7_played_28 : decode cX7_played 28 = .ok (.iinc 2 1, 3) := by decide +kernel
theorem dX7_played_31 : decode cX7_played 31 = .ok (.goto (-27), 3) := by decide +kernel
theorem dX7_played_34 : decode cX7_played 34 = .ok (.iload_n 1, 1) := by decide +kernel
theorem dX7_played_35 : decode cX7_played 35 = .ok (.ireturn, 1) := by decide +kernel
theorem dX7_counted_0 : decode cX7_counted 0 = .ok (.iload_n 1, 1) := by decide +kernel
theorem dX7_counted_1 : decode cX7_counted 1 = .ok (.tableswitch 74 0 4 #[35, 40, 45, 52, 66], 35) := by decide +kernel
theorem dX7_counted_36 : decode cX7_counted 36 = .ok (.aload_n 0, 1) := by decide +kernel
theorem dX7_counted_37 : decode cX7_counted 37 = .ok (.invokevirtual 64, 3) := by decide +kernel
theorem dX7_counted_40 : decode cX7_counted 40 = .ok (.ireturn, 1) := by decide +kernel
theorem dX7_counted_41 : decode cX7_counted 41 = .ok (.aload_n 0, 1) := by decide +kernel
theorem dX7_counted_42 : decode cX7_counted 42 = .ok (.invokevirtual 326, 3) := by decide +kernel
theorem dX7_counted_45 : decode cX7_counted 45 = .ok (.ireturn, 1) := by decide +kernel
theorem dX7_counted_46 : decode cX7_counted 46 = .ok (.aload_n 0, 1) := by decide +kernel
theorem dX7_counted_47 : decode cX7_counted 47 = .ok (.getfield 7, 3) := by decide +kernel
theorem dX7_counted_50 : decode cX7_counted 50 = .ok (.iconst 1, 1) := by decide +kernel
theorem dX7_counted_51 : decode cX7_counted 51 = .ok (.iaload, 1) := by decide +kernel
theorem dX7_counted_52 : decode cX7_counted 52 = .ok (.ireturn, 1) := by decide +kernel
theorem dX7_counted_53 : decode cX7_counted 53 = .ok (.aload_n 0, 1) := by decide +kernel
theorem dX7_counted_54 : decode cX7_counted 54 = .ok (.getfield 7, 3) := by decide +kernel
theorem dX7_counted_57 : decode cX7_counted 57 = .ok (.iconst 3, 1) := by decide +kernel
theorem dX7_counted_58 : decode cX7_counted 58 = .ok (.iaload, 1) := by decide +kernel
theorem dX7_counted_59 : decode cX7_counted 59 = .ok (.aload_n 0, 1) := by decide +kernel
theorem dX7_counted_60 : decode cX7_counted 60 = .ok (.getfield 7, 3) := by decide +kernel
theorem dX7_counted_63 : decode cX7_counted 63 = .ok (.iconst 2, 1) := by decide +kernel
theorem dX7_counted_64 : decode cX7_counted 64 = .ok (.iaload, 1) := by decide +kernel
theorem dX7_counted_65 : decode cX7_counted 65 = .ok (.isub, 1) := by decide +kernel
theorem dX7_counted_66 : decode cX7_counted 66 = .ok (.ireturn, 1) := by decide +kernel
theorem dX7_counted_67 : decode cX7_counted 67 = .ok (.aload_n 0, 1) := by decide +kernel
theorem dX7_counted_68 : decode cX7_counted 68 = .ok (.getfield 7, 3) := by decide +kernel
theorem dX7_counted_71 : decode cX7_counted 71 = .ok (.bipush 100, 2) := by decide +kernel
theorem dX7_counted_73 : decode cX7_counted 73 = .ok (.iaload, 1) := by decide +kernel
theorem dX7_counted_74 : decode cX7_counted 74 = .ok (.ireturn, 1) := by decide +kernel
theorem dX7_counted_75 : decode cX7_counted 75 = .ok (.aload_n 0, 1) := by decide +kernel
theorem dX7_counted_76 : decode cX7_counted 76 = .ok (.getfield 271, 3) := by decide +kernel
theorem dX7_counted_79 : decode cX7_counted 79 = .ok (.ireturn, 1) := by decide +kernel
theorem dX7_count_0 : decode cX7_count 0 = .ok (.iload_n 1, 1) := by decide +kernel
theorem dX7_count_1 : decode cX7_count 1 = .ok (.i2l, 1) := by decide +kernel
theorem dX7_count_2 : decode cX7_count 2 = .ok (.lconst 0, 1) := by decide +kernel
theorem dX7_count_3 : decode cX7_count 3 = .ok (.ldc2_w 84, 3) := by decide +kernel
theorem dX7_count_6 : decode cX7_count 6 = .ok (.invokestatic 68, 3) := by decide +kernel
theorem dX7_count_9 : decode cX7_count 9 = .ok (.ifCond .eq 11, 3) := by decide +kernel
theorem dX7_count_12 : decode cX7_count 12 = .ok (.aload_n 0, 1) := by decide +kernel
theorem dX7_count_13 : decode cX7_count 13 = .ok (.iload_n 1, 1) := by decide +kernel
theorem dX7_count_14 : decode cX7_count 14 = .ok (.invokevirtual 329, 3) := by decide +kernel
theorem dX7_count_17 : decode cX7_count 17 = .ok (.goto 9, 3) := by decide +kernel
theorem dX7_count_20 : decode cX7_count 20 = .ok (.aload_n 0, 1) := by decide +kernel
theorem dX7_count_21 : decode cX7_count 21 = .ok (.bipush (-2), 2) := by decide +kernel
theorem dX7_count_23 : decode cX7_count 23 = .ok (.invokevirtual 76, 3) := by decide +kernel
theorem dX7_count_26 : decode cX7_count 26 = .ok (.ireturn, 1) := by decide +kernel
theorem dX7_sums_0 : decode cX7_sums 0 = .ok (.lload_n 1, 1) := by decide +kernel
theorem dX7_sums_1 : decode cX7_sums 1 = .ok (.lstore 5, 2) := by decide +kernel
theorem dX7_sums_3 : decode cX7_sums 3 = .ok (.iconst 0, 1) := by decide +kernel
theorem dX7_sums_4 : decode cX7_sums 4 = .ok (.istore 7, 2) := by decide +kernel
theorem dX7_sums_6 : decode cX7_sums 6 = .ok (.iload 7, 2) := by decide +kernel
theorem dX7_sums_8 : decode cX7_sums 8 = .ok (.iload 4, 2) := by decide +kernel
theorem dX7_sums_10 : decode cX7_sums 10 = .ok (.if_icmp .ge 28, 3) := by decide +kernel
theorem dX7_sums_13 : decode cX7_sums 13 = .ok (.ldc2_w 332, 3) := by decide +kernel
theorem dX7_sums_16 : decode cX7_sums 16 = .ok (.lload 5, 2) := by decide +kernel
theorem dX7_sums_18 : decode cX7_sums 18 = .ok (.lmul, 1) := by decide +kernel
theorem dX7_sums_19 : decode cX7_sums 19 = .ok (.aload_n 0, 1) := by decide +kernel
theorem dX7_sums_20 : decode cX7_sums 20 = .ok (.getfield 7, 3) := by decide +kernel
theorem dX7_sums_23 : decode cX7_sums 23 = .ok (.iload_n 3, 1) := by decide +kernel
theorem dX7_sums_24 : decode cX7_sums 24 = .ok (.iload 7, 2) := by decide +kernel
theorem dX7_sums_26 : decode cX7_sums 26 = .ok (.iadd, 1) := by decide +kernel
theorem dX7_sums_27 : decode cX7_sums 27 = .ok (.iaload, 1) := by decide +kernel
theorem dX7_sums_28 : decode cX7_sums 28 = .ok (.i2l, 1) := by decide +kernel
theorem dX7_sums_29 : decode cX7_sums 29 = .ok (.ladd, 1) := by decide +kernel
theorem dX7_sums_30 : decode cX7_sums 30 = .ok (.lstore 5, 2) := by decide +kernel
theorem dX7_sums_32 : decode cX7_sums 32 = .ok (.iinc 7 1, 3) := by decide +kernel
theorem dX7_sums_35 : decode cX7_sums 35 = .ok (.goto (-29), 3) := by decide +kernel
theorem dX7_sums_38 : decode cX7_sums 38 = .ok (.lload 5, 2) := by decide +kernel
theorem dX7_sums_40 : decode cX7_sums 40 = .ok (.lreturn, 1) := by decide +kernel
theorem dX7_digest_0 : decode cX7_digest 0 = .ok (.ldc2_w 334, 3) := by decide +kernel
theorem dX7_digest_3 : decode cX7_digest 3 = .ok (.lstore_n 1, 1) := by decide +kernel
theorem dX7_digest_4 : decode cX7_digest 4 = .ok (.iconst 0, 1) := by decide +kernel
theorem dX7_digest_5 : decode cX7_digest 5 = .ok (.istore_n 3, 1) := by decide +kernel
theorem dX7_digest_6 : decode cX7_digest 6 = .ok (.iload_n 3, 1) := by decide +kernel
theorem dX7_digest_7 : decode cX7_digest 7 = .ok (.bipush 6, 2) := by decide +kernel
theorem dX7_digest_9 : decode cX7_digest 9 = .ok (.if_icmp .ge 22, 3) := by decide +kernel
theorem dX7_digest_12 : decode cX7_digest 12 = .ok (.ldc2_w 332, 3) := by decide +kernel
theorem dX7_digest_15 : decode cX7_digest 15 = .ok (.lload_n 1, 1) := by decide +kernel
theorem dX7_digest_16 : decode cX7_digest 16 = .ok (.lmul, 1) := by decide +kernel
theorem dX7_digest_17 : decode cX7_digest 17 = .ok (.aload_n 0, 1) := by decide +kernel
theorem dX7_digest_18 : decode cX7_digest 18 = .ok (.iload_n 3, 1) := by decide +kernel
theorem dX7_digest_19 : decode cX7_digest 19 = .ok (.invokevirtual 329, 3) := by decide +kernel
theorem dX7_digest_22 : decode cX7_digest 22 = .ok (.i2l, 1) := by decide +kernel
theorem dX7_digest_23 : decode cX7_digest 23 = .ok (.ladd, 1) := by decide +kernel
theorem dX7_digest_24 : decode cX7_digest 24 = .ok (.lstore_n 1, 1) := by decide +kernel
theorem dX7_digest_25 : decode cX7_digest 25 = .ok (.iinc 3 1, 3) := by decide +kernel
theorem dX7_digest_28 : decode cX7_digest 28 = .ok (.goto (-22), 3) := by decide +kernel
theorem dX7_digest_31 : decode cX7_digest 31 = .ok (.aload_n 0, 1) := by decide +kernel
theorem dX7_digest_32 : decode cX7_digest 32 = .ok (.lload_n 1, 1) := by decide +kernel
theorem dX7_digest_33 : decode cX7_digest 33 = .ok (.iconst 4, 1) := by decide +kernel
theorem dX7_digest_34 : decode cX7_digest 34 = .ok (.bipush 12, 2) := by decide +kernel
theorem dX7_digest_36 : decode cX7_digest 36 = .ok (.invokevirtual 336, 3) := by decide +kernel
theorem dX7_digest_39 : decode cX7_digest 39 = .ok (.lstore_n 1, 1) := by decide +kernel
theorem dX7_digest_40 : decode cX7_digest 40 = .ok (.ldc2_w 332, 3) := by decide +kernel
theorem dX7_digest_43 : decode cX7_digest 43 = .ok (.ldc2_w 332, 3) := by decide +kernel
theorem dX7_digest_46 : decode cX7_digest 46 = .ok (.lload_n 1, 1) := by decide +kernel
theorem dX7_digest_47 : decode cX7_digest 47 = .ok (.lmul, 1) := by decide +kernel
theorem dX7_digest_48 : decode cX7_digest 48 = .ok (.aload_n 0, 1) := by decide +kernel
theorem dX7_digest_49 : decode cX7_digest 49 = .ok (.getfield 7, 3) := by decide +kernel
theorem dX7_digest_52 : decode cX7_digest 52 = .ok (.iconst 2, 1) := by decide +kernel
theorem dX7_digest_53 : decode cX7_digest 53 = .ok (.iaload, 1) := by decide +kernel
theorem dX7_digest_54 : decode cX7_digest 54 = .ok (.i2l, 1) := by decide +kernel
theorem dX7_digest_55 : decode cX7_digest 55 = .ok (.ladd, 1) := by decide +kernel
theorem dX7_digest_56 : decode cX7_digest 56 = .ok (.lmul, 1) := by decide +kernel
theorem dX7_digest_57 : decode cX7_digest 57 = .ok (.aload_n 0, 1) := by decide +kernel
theorem dX7_digest_58 : decode cX7_digest 58 = .ok (.getfield 7, 3) := by decide +kernel
theorem dX7_digest_61 : decode cX7_digest 61 = .ok (.iconst 3, 1) := by decide +kernel
theorem dX7_digest_62 : decode cX7_digest 62 = .ok (.iaload, 1) := by decide +kernel
theorem dX7_digest_63 : decode cX7_digest 63 = .ok (.i2l, 1) := by decide +kernel
theorem dX7_digest_64 : decode cX7_digest 64 = .ok (.ladd, 1) := by decide +kernel
theorem dX7_digest_65 : decode cX7_digest 65 = .ok (.lstore_n 1, 1) := by decide +kernel
theorem dX7_digest_66 : decode cX7_digest 66 = .ok (.aload_n 0, 1) := by decide +kernel
theorem dX7_digest_67 : decode cX7_digest 67 = .ok (.lload_n 1, 1) := by decide +kernel
theorem dX7_digest_68 : decode cX7_digest 68 = .ok (.bipush 16, 2) := by decide +kernel
theorem dX7_digest_70 : decode cX7_digest 70 = .ok (.bipush 7, 2) := by decide +kernel
theorem dX7_digest_72 : decode cX7_digest 72 = .ok (.aload_n 0, 1) := by decide +kernel
theorem dX7_digest_73 : decode cX7_digest 73 = .ok (.invokevirtual 64, 3) := by decide +kernel
theorem dX7_digest_76 : decode cX7_digest 76 = .ok (.imul, 1) := by decide +kernel
theorem dX7_digest_77 : decode cX7_digest 77 = .ok (.invokevirtual 336, 3) := by decide +kernel
theorem dX7_digest_80 : decode cX7_digest 80 = .ok (.lstore_n 1, 1) := by decide +kernel
theorem dX7_digest_81 : decode cX7_digest 81 = .ok (.ldc2_w 332, 3) := by decide +kernel
theorem dX7_digest_84 : decode cX7_digest 84 = .ok (.ldc2_w 332, 3) := by decide +kernel
theorem dX7_digest_87 : decode cX7_digest 87 = .ok (.lload_n 1, 1) := by decide +kernel
theorem dX7_digest_88 : decode cX7_digest 88 = .ok (.lmul, 1) := by decide +kernel
theorem dX7_digest_89 : decode cX7_digest 89 = .ok (.aload_n 0, 1) := by decide +kernel
theorem dX7_digest_90 : decode cX7_digest 90 = .ok (.getfield 244, 3) := by decide +kernel
theorem dX7_digest_93 : decode cX7_digest 93 = .ok (.ladd, 1) := by decide +kernel
theorem dX7_digest_94 : decode cX7_digest 94 = .ok (.lmul, 1) := by decide +kernel
theorem dX7_digest_95 : decode cX7_digest 95 = .ok (.aload_n 0, 1) := by decide +kernel
theorem dX7_digest_96 : decode cX7_digest 96 = .ok (.getfield 23, 3) := by decide +kernel
theorem dX7_digest_99 : decode cX7_digest 99 = .ok (.ladd, 1) := by decide +kernel
theorem dX7_digest_100 : decode cX7_digest 100 = .ok (.lreturn, 1) := by decide +kernel
theorem dL_law_0 : decode cL_law 0 = .ok (.new 7, 3) := by decide +kernel
theorem dL_law_3 : decode cL_law 3 = .ok (.dup, 1) := by decide +kernel
theorem dL_law_4 : decode cL_law 4 = .ok (.invokespecial 9, 3) := by decide +kernel
theorem dL_law_7 : decode cL_law 7 = .ok (.astore_n 1, 1) := by decide +kernel
theorem dL_law_8 : decode cL_law 8 = .ok (.new 10, 3) := by decide +kernel
theorem dL_law_11 : decode cL_law 11 = .ok (.dup, 1) := by decide +kernel
theorem dL_law_12 : decode cL_law 12 = .ok (.invokespecial 12, 3) := by decide +kernel
theorem dL_law_15 : decode cL_law 15 = .ok (.astore_n 2, 1) := by decide +kernel
theorem dL_law_16 : decode cL_law 16 = .ok (.iconst 0, 1) := by decide +kernel
theorem dL_law_17 : decode cL_law 17 = .ok (.istore_n 3, 1) := by decide +kernel
theorem dL_law_18 : decode cL_law 18 = .ok (.iload_n 3, 1) := by decide +kernel
theorem dL_law_19 : decode cL_law 19 = .ok (.aload_n 0, 1) := by decide +kernel
theorem dL_law_20 : decode cL_law 20 = .ok (.arraylength, 1) := by decide +kernel
theorem dL_law_21 : decode cL_law 21 = .ok (.bipush 7, 2) := by decide +kernel
theorem dL_law_23 : decode cL_law 23 = .ok (.isub, 1) := by decide +kernel
theorem dL_law_24 : decode cL_law 24 = .ok (.if_icmp .gt 1039, 3) := by decide +kernel
theorem dL_law_27 : decode cL_law 27 = .ok (.aload_n 0, 1) := by decide +kernel
theorem dL_law_28 : decode cL_law 28 = .ok (.iload_n 3, 1) := by decide +kernel
theorem dL_law_29 : decode cL_law 29 = .ok (.iaload, 1) := by decide +kernel
theorem dL_law_30 : decode cL_law 30 = .ok (.bipush 31, 2) := by decide +kernel
theorem dL_law_32 : decode cL_law 32 = .ok (.iand, 1) := by decide +kernel
theorem dL_law_33 : decode cL_law 33 = .ok (.tableswitch 1024 0 31 #[143, 166, 219, 294, 317, 330, 343, 376, 389, 422, 455, 488, 521, 554, 567, 600, 633, 656, 679, 722, 736, 749, 782, 815, 848, 861, 894, 918, 941, 964, 987, 1010], 143) := by decide +kernel
theorem dL_law_176 : decode cL_law 176 = .ok (.aload_n 1, 1) := by decide +kernel
theorem dL_law_177 : decode cL_law 177 = .ok (.aload_n 0, 1) := by decide +kernel
theorem dL_law_178 : decode cL_law 178 = .ok (.iload_n 3, 1) := by decide +kernel
theorem dL_law_179 : decode cL_law 179 = .ok (.iconst 1, 1) := by decide +kernel
theorem dL_law_180 : decode cL_law 180 = .ok (.iadd, 1) := by decide +kernel
theorem dL_law_181 : decode cL_law 181 = .ok (.iaload, 1) := by decide +kernel
theorem dL_law_182 : decode cL_law 182 = .ok (.invokevirtual 13, 3) := by decide +kernel
theorem dL_law_185 : decode cL_law 185 = .ok (.aload_n 2, 1) := by decide +kernel
theorem dL_law_186 : decode cL_law 186 = .ok (.aload_n 0, 1) := by decide +kernel
theorem dL_law_187 : decode cL_law 187 = .ok (.iload_n 3, 1) := by decide +kernel
theorem dL_law_188 : decode cL_law 188 = .ok (.iconst 1, 1) := by decide +kernel
theorem dL_law_189 : decode cL_law 189 = .ok (.iadd, 1) := by decide +kernel
theorem dL_law_190 : decode cL_law 190 = .ok (.iaload, 1) := by decide +kernel
theorem dL_law_191 : decode cL_law 191 = .ok (.invokevirtual 17, 3) := by decide +kernel
theorem dL_law_194 : decode cL_law 194 = .ok (.if_icmp .eq 863, 3) := by decide +kernel
theorem dL_law_197 : decode cL_law 197 = .ok (.iconst 0, 1) := by decide +kernel
theorem dL_law_198 : decode cL_law 198 = .ok (.ireturn, 1) := by decide +kernel
theorem dL_law_199 : decode cL_law 199 = .ok (.aload_n 1, 1) := by decide +kernel
theorem dL_law_200 : decode cL_law 200 = .ok (.aload_n 0, 1) := by decide +kernel
theorem dL_law_201 : decode cL_law 201 = .ok (.iload_n 3, 1) := by decide +kernel
theorem dL_law_202 : decode cL_law 202 = .ok (.iconst 1, 1) := by decide +kernel
theorem dL_law_203 : decode cL_law 203 = .ok (.iadd, 1) := by decide +kernel
theorem dL_law_204 : decode cL_law 204 = .ok (.iaload, 1) := by decide +kernel
theorem dL_law_205 : decode cL_law 205 = .ok (.aload_n 0, 1) := by decide +kernel
theorem dL_law_206 : decode cL_law 206 = .ok (.iload_n 3, 1) := by decide +kernel
theorem dL_law_207 : decode cL_law 207 = .ok (.iconst 2, 1) := by decide +kernel
theorem dL_law_208 : decode cL_law 208 = .ok (.iadd, 1) := by decide +kernel
theorem dL_law_209 : decode cL_law 209 = .ok (.iaload, 1) := by decide +kernel
theorem dL_law_210 : decode cL_law 210 = .ok (.aload_n 0, 1) := by decide +kernel
theorem dL_law_211 : decode cL_law 211 = .ok (.iload_n 3, 1) := by decide +kernel
theorem dL_law_212 : decode cL_law 212 = .ok (.iconst 3, 1) := by decide +kernel
theorem dL_law_213 : decode cL_law 213 = .ok (.iadd, 1) := by decide +kernel
theorem dL_law_214 : decode cL_law 214 = .ok (.iaload, 1) := by decide +kernel
theorem dL_law_215 : decode cL_law 215 = .ok (.aload_n 0, 1) := by decide +kernel
theorem dL_law_216 : decode cL_law 216 = .ok (.iload_n 3, 1) := by decide +kernel
theorem dL_law_217 : decode cL_law 217 = .ok (.iconst 4, 1) := by decide +kernel
theorem dL_law_218 : decode cL_law 218 = .ok (.iadd, 1) := by decide +kernel
theorem dL_law_219 : decode cL_law 219 = .ok (.iaload, 1) := by decide +kernel
theorem dL_law_220 : decode cL_law 220 = .ok (.invokevirtual 18, 3) := by decide +kernel
theorem dL_law_223 : decode cL_law 223 = .ok (.aload_n 2, 1) := by decide +kernel
theorem dL_law_224 : decode cL_law 224 = .ok (.aload_n 0, 1) := by decide +kernel
theorem dL_law_225 : decode cL_law 225 = .ok (.iload_n 3, 1) := by decide +kernel
theorem dL_law_226 : decode cL_law 226 = .ok (.iconst 1, 1) := by decide +kernel
theorem dL_law_227 : decode cL_law 227 = .ok (.iadd, 1) := by decide +kernel
theorem dL_law_228 : decode cL_law 228 = .ok (.iaload, 1) := by decide +kernel
theorem dL_law_229 : decode cL_law 229 = .ok (.aload_n 0, 1) := by decide +kernel
theorem dL_law_230 : decode cL_law 230 = .ok (.iload_n 3, 1) := by decide +kernel
theorem dL_law_231 : decode cL_law 231 = .ok (.iconst 2, 1) := by decide +kernel
theorem dL_law_232 : decode cL_law 232 = .ok (.iadd, 1) := by decide +kernel
theorem dL_law_233 : decode cL_law 233 = .ok (.iaload, 1) := by decide +kernel
theorem dL_law_234 : decode cL_law 234 = .ok (.aload_n 0, 1) := by decide +kernel
theorem dL_law_235 : decode cL_law 235 = .ok (.iload_n 3, 1) := by decide +kernel
theorem dL_law_236 : decode cL_law 236 = .ok (.iconst 3, 1) := by decide +kernel
theorem dL_law_237 : decode cL_law 237 = .ok (.iadd, 1) := by decide +kernel
theorem dL_law_238 : decode cL_law 238 = .ok (.iaload, 1) := by decide +kernel
theorem dL_law_239 : decode cL_law 239 = .ok (.aload_n 0, 1) := by decide +kernel
theorem dL_law_240 : decode cL_law 240 = .ok (.iload_n 3, 1) := by decide +kernel
theorem dL_law_241 : decode cL_law 241 = .ok (.iconst 4, 1) := by decide +kernel
theorem dL_law_242 : decode cL_law 242 = .ok (.iadd, 1) := by decide +kernel
theorem dL_law_243 : decode cL_law 243 = .ok (.iaload, 1) := by decide +kernel
theorem dL_law_244 : decode cL_law 244 = .ok (.invokevirtual 22, 3) := by decide +kernel
theorem dL_law_247 : decode cL_law 247 = .ok (.if_icmp .eq 810, 3) := by decide +kernel
theorem dL_law_250 : decode cL_law 250 = .ok (.iconst 0, 1) := by decide +kernel
theorem dL_law_251 : decode cL_law 251 = .ok (.ireturn, 1) := by decide +kernel
theorem dL_law_252 : decode cL_law 252 = .ok (.aload_n 1, 1) := by decide +kernel
theorem dL_law_253 : decode cL_law 253 = .ok (.aload_n 0, 1) := by decide +kernel
theorem dL_law_254 : decode cL_law 254 = .ok (.iload_n 3, 1) := by decide +kernel
theorem dL_law_255 : decode cL_law 255 = .ok (.iconst 1, 1) := by decide +kernel
theorem dL_law_256 : decode cL_law 256 = .ok (.iadd, 1) := by decide +kernel
theorem dL_law_257 : decode cL_law 257 = .ok (.iaload, 1) := by decide +kernel
theorem dL_law_258 : decode cL_law 258 = .ok (.aload_n 0, 1) := by decide +kernel
theorem dL_law_259 : decode cL_law 259 = .ok (.iload_n 3, 1) := by decide +kernel
theorem dL_law_260 : decode cL_law 260 = .ok (.iconst 2, 1) := by decide +kernel
theorem dL_law_261 : decode cL_law 261 = .ok (.iadd, 1) := by decide +kernel
theorem dL_law_262 : decode cL_law 262 = .ok (.iaload, 1) := by decide +kernel
theorem dL_law_263 : decode cL_law 263 = .ok (.aload_n 0, 1) := by decide +kernel
theorem dL_law_264 : decode cL_law 264 = .ok (.iload_n 3, 1) := by decide +kernel
theorem dL_law_265 : decode cL_law 265 = .ok (.iconst 3, 1) := by decide +kernel
theorem dL_law_266 : decode cL_law 266 = .ok (.iadd, 1) := by decide +kernel
theorem dL_law_267 : decode cL_law 267 = .ok (.iaload, 1) := by decide +kernel
theorem dL_law_268 : decode cL_law 268 = .ok (.aload_n 0, 1) := by decide +kernel
theorem dL_law_269 : decode cL_law 269 = .ok (.iload_n 3, 1) := by decide +kernel
theorem dL_law_270 : decode cL_law 270 = .ok (.iconst 4, 1) := by decide +kernel
theorem dL_law_271 : decode cL_law 271 = .ok (.iadd, 1) := by decide +kernel
theorem dL_law_272 : decode cL_law 272 = .ok (.iaload, 1) := by decide +kernel
theorem dL_law_273 : decode cL_law 273 = .ok (.aload_n 0, 1) := by decide +kernel
theorem dL_law_274 : decode cL_law 274 = .ok (.iload_n 3, 1) := by decide +kernel
theorem dL_law_275 : decode cL_law 275 = .ok (.iconst 5, 1) := by decide +kernel
theorem dL_law_276 : decode cL_law 276 = .ok (.iadd, 1) := by decide +kernel
theorem dL_law_277 : decode cL_law 277 = .ok (.iaload, 1) := by decide +kernel
theorem dL_law_278 : decode cL_law 278 = .ok (.aload_n 0, 1) := by decide +kernel
theorem dL_law_279 : decode cL_law 279 = .ok (.iload_n 3, 1) := by decide +kernel
theorem dL_law_280 : decode cL_law 280 = .ok (.bipush 6, 2) := by decide +kernel
theorem dL_law_282 : decode cL_law 282 = .ok (.iadd, 1) := by decide +kernel
theorem dL_law_283 : decode cL_law 283 = .ok (.iaload, 1) := by decide +kernel
theorem dL_law_284 : decode cL_law 284 = .ok (.invokevirtual 23, 3) := by decide +kernel
theorem dL_law_287 : decode cL_law 287 = .ok (.aload_n 2, 1) := by decide +kernel
theorem dL_law_288 : decode cL_law 288 = .ok (.aload_n 0, 1) := by decide +kernel
theorem dL_law_289 : decode cL_law 289 = .ok (.iload_n 3, 1) := by decide +kernel
theorem dL_law_290 : decode cL_law 290 = .ok (.iconst 1, 1) := by decide +kernel
theorem dL_law_291 : decode cL_law 291 = .ok (.iadd, 1) := by decide +kernel
theorem dL_law_292 : decode cL_law 292 = .ok (.iaload, 1) := by decide +kernel
theorem dL_law_293 : decode cL_law 293 = .ok (.aload_n 0, 1) := by decide +kernel
theorem dL_law_294 : decode cL_law 294 = .ok (.iload_n 3, 1) := by decide +kernel
theorem dL_law_295 : decode cL_law 295 = .ok (.iconst 2, 1) := by decide +kernel
theorem dL_law_296 : decode cL_law 296 = .ok (.iadd, 1) := by decide +kernel
theorem dL_law_297 : decode cL_law 297 = .ok (.iaload, 1) := by decide +kernel
theorem dL_law_298 : decode cL_law 298 = .ok (.aload_n 0, 1) := by decide +kernel
theorem dL_law_299 : decode cL_law 299 = .ok (.iload_n 3, 1) := by decide +kernel
theorem dL_law_300 : decode cL_law 300 = .ok (.iconst 3, 1) := by decide +kernel
theorem dL_law_301 : decode cL_law 301 = .ok (.iadd, 1) := by decide +kernel
theorem dL_law_302 : decode cL_law 302 = .ok (.iaload, 1) := by decide +kernel
theorem dL_law_303 : decode cL_law 303 = .ok (.aload_n 0, 1) := by decide +kernel
theorem dL_law_304 : decode cL_law 304 = .ok (.iload_n 3, 1) := by decide +kernel
theorem dL_law_305 : decode cL_law 305 = .ok (.iconst 4, 1) := by decide +kernel
theorem dL_law_306 : decode cL_law 306 = .ok (.iadd, 1) := by decide +kernel
theorem dL_law_307 : decode cL_law 307 = .ok (.iaload, 1) := by decide +kernel
theorem dL_law_308 : decode cL_law 308 = .ok (.aload_n 0, 1) := by decide +kernel
theorem dL_law_309 : decode cL_law 309 = .ok (.iload_n 3, 1) := by decide +kernel
theorem dL_law_310 : decode cL_law 310 = .ok (.iconst 5, 1) := by decide +kernel
theorem dL_law_311 : decode cL_law 311 = .ok (.iadd, 1) := by decide +kernel
theorem dL_law_312 : decode cL_law 312 = .ok (.iaload, 1) := by decide +kernel
theorem dL_law_313 : decode cL_law 313 = .ok (.aload_n 0, 1) := by decide +kernel
theorem dL_law_314 : decode cL_law 314 = .ok (.iload_n 3, 1) := by decide +kernel
theorem dL_law_315 : decode cL_law 315 = .ok (.bipush 6, 2) := by decide +kernel
theorem dL_law_317 : decode cL_law 317 = .ok (.iadd, 1) := by decide +kernel
theorem dL_law_318 : decode cL_law 318 = .ok (.iaload, 1) := by decide +kernel
theorem dL_law_319 : decode cL_law 319 = .ok (.invokevirtual 27, 3) := by decide +kernel
theorem dL_law_322 : decode cL_law 322 = .ok (.if_icmp .eq 735, 3) := by decide +kernel
theorem dL_law_325 : decode cL_law 325 = .ok (.iconst 0, 1) := by decide +kernel
theorem dL_law_326 : decode cL_law 326 = .ok (.ireturn, 1) := by decide +kernel
theorem dL_law_327 : decode cL_law 327 = .ok (.aload_n 1, 1) := by decide +kernel
theorem dL_law_328 : decode cL_law 328 = .ok (.aload_n 0, 1) := by decide +kernel
theorem dL_law_329 : decode cL_law 329 = .ok (.iload_n 3, 1) := by decide +kernel
theorem dL_law_330 : decode cL_law 330 = .ok (.iconst 1, 1) := by decide +kernel
theorem dL_law_331 : decode cL_law 331 = .ok (.iadd, 1) := by decide +kernel
theorem dL_law_332 : decode cL_law 332 = .ok (.iaload, 1) := by decide +kernel
theorem dL_law_333 : decode cL_law 333 = .ok (.invokevirtual 28, 3) := by decide +kernel
theorem dL_law_336 : decode cL_law 336 = .ok (.aload_n 2, 1) := by decide +kernel
theorem dL_law_337 : decode cL_law 337 = .ok (.aload_n 0, 1) := by decide +kernel
theorem dL_law_338 : decode cL_law 338 = .ok (.iload_n 3, 1) := by decide +kernel
theorem dL_law_339 : decode cL_law 339 = .ok (.iconst 1, 1) := by decide +kernel
theorem dL_law_340 : decode cL_law 340 = .ok (.iadd, 1) := by decide +kernel
theorem dL_law_341 : decode cL_law 341 = .ok (.iaload, 1) := by decide +kernel
theorem dL_law_342 : decode cL_law 342 = .ok (.invokevirtual 31, 3) := by decide +kernel
theorem dL_law_345 : decode cL_law 345 = .ok (.if_icmp .eq 712, 3) := by decide +kernel
theorem dL_law_348 : decode cL_law 348 = .ok (.iconst 0, 1) := by decide +kernel
theorem dL_law_349 : decode cL_law 349 = .ok (.ireturn, 1) := by decide +kernel
theorem dL_law_350 : decode cL_law 350 = .ok (.aload_n 1, 1) := by decide +kernel
theorem dL_law_351 : decode cL_law 351 = .ok (.invokevirtual 32, 3) := by decide +kernel
theorem dL_law_354 : decode cL_law 354 = .ok (.aload_n 2, 1) := by decide +kernel
theorem dL_law_355 : decode cL_law 355 = .ok (.invokevirtual 36, 3) := by decide +kernel
theorem dL_law_358 : decode cL_law 358 = .ok (.if_icmp .eq 699, 3) := by decide +kernel
theorem dL_law_361 : decode cL_law 361 = .ok (.iconst 0, 1) := by decide +kernel
theorem dL_law_362 : decode cL_law 362 = .ok (.ireturn, 1) := by decide +kernel
theorem dL_law_363 : decode cL_law 363 = .ok (.aload_n 1, 1) := by decide +kernel
theorem dL_law_364 : decode cL_law 364 = .ok (.invokevirtual 37, 3) := by decide +kernel
theorem dL_law_367 : decode cL_law 367 = .ok (.aload_n 2, 1) := by decide +kernel
theorem dL_law_368 : decode cL_law 368 = .ok (.invokevirtual 40, 3) := by decide +kernel
theorem dL_law_371 : decode cL_law 371 = .ok (.if_icmp .eq 686, 3) := by decide +kernel
theorem dL_law_374 : decode cL_law 374 = .ok (.iconst 0, 1) := by decide +kernel
theorem dL_law_375 : decode cL_law 375 = .ok (.ireturn, 1) := by decide +kernel
theorem dL_law_376 : decode cL_law 376 = .ok (.aload_n 1, 1) := by decide +kernel
theorem dL_law_377 : decode cL_law 377 = .ok (.aload_n 0, 1) := by decide +kernel
theorem dL_law_378 : decode cL_law 378 = .ok (.iload_n 3, 1) := by decide +kernel
theorem dL_law_379 : decode cL_law 379 = .ok (.iconst 1, 1) := by decide +kernel
theorem dL_law_380 : decode cL_law 380 = .ok (.iadd, 1) := by decide +kernel
theorem dL_law_381 : decode cL_law 381 = .ok (.iaload, 1) := by decide +kernel
theorem dL_law_382 : decode cL_law 382 = .ok (.aload_n 0, 1) := by decide +kernel
theorem dL_law_383 : decode cL_law 383 = .ok (.iload_n 3, 1) := by decide +kernel
theorem dL_law_384 : decode cL_law 384 = .ok (.iconst 2, 1) := by decide +kernel
theorem dL_law_385 : decode cL_law 385 = .ok (.iadd, 1) := by decide +kernel
theorem dL_law_386 : decode cL_law 386 = .ok (.iaload, 1) := by decide +kernel
theorem dL_law_387 : decode cL_law 387 = .ok (.invokevirtual 41, 3) := by decide +kernel
theorem dL_law_390 : decode cL_law 390 = .ok (.aload_n 2, 1) := by decide +kernel
theorem dL_law_391 : decode cL_law 391 = .ok (.aload_n 0, 1) := by decide +kernel
theorem dL_law_392 : decode cL_law 392 = .ok (.iload_n 3, 1) := by decide +kernel
theorem dL_law_393 : decode cL_law 393 = .ok (.iconst 1, 1) := by decide +kernel
theorem dL_law_394 : decode cL_law 394 = .ok (.iadd, 1) := by decide +kernel
theorem dL_law_395 : decode cL_law 395 = .ok (.iaload, 1) := by decide +kernel
theorem dL_law_396 : decode cL_law 396 = .ok (.aload_n 0, 1) := by decide +kernel
theorem dL_law_397 : decode cL_law 397 = .ok (.iload_n 3, 1) := by decide +kernel
theorem dL_law_398 : decode cL_law 398 = .ok (.iconst 2, 1) := by decide +kernel
theorem dL_law_399 : decode cL_law 399 = .ok (.iadd, 1) := by decide +kernel
theorem dL_law_400 : decode cL_law 400 = .ok (.iaload, 1) := by decide +kernel
theorem dL_law_401 : decode cL_law 401 = .ok (.invokevirtual 45, 3) := by decide +kernel
theorem dL_law_404 : decode cL_law 404 = .ok (.if_icmp .eq 653, 3) := by decide +kernel
theorem dL_law_407 : decode cL_law 407 = .ok (.iconst 0, 1) := by decide +kernel
theorem dL_law_408 : decode cL_law 408 = .ok (.ireturn, 1) := by decide +kernel
theorem dL_law_409 : decode cL_law 409 = .ok (.aload_n 1, 1) := by decide +kernel
theorem dL_law_410 : decode cL_law 410 = .ok (.invokevirtual 46, 3) := by decide +kernel
theorem dL_law_413 : decode cL_law 413 = .ok (.aload_n 2, 1) := by decide +kernel
theorem dL_law_414 : decode cL_law 414 = .ok (.invokevirtual 49, 3) := by decide +kernel
theorem dL_law_417 : decode cL_law 417 = .ok (.if_icmp .eq 640, 3) := by decide +kernel
theorem dL_law_420 : decode cL_law 420 = .ok (.iconst 0, 1) := by decide +kernel
theorem dL_law_421 : decode cL_law 421 = .ok (.ireturn, 1) := by decide +kernel
theorem dL_law_422 : decode cL_law 422 = .ok (.aload_n 1, 1) := by decide +kernel
theorem dL_law_423 : decode cL_law 423 = .ok (.aload_n 0, 1) := by decide +kernel
theorem dL_law_424 : decode cL_law 424 = .ok (.iload_n 3, 1) := by decide +kernel
theorem dL_law_425 : decode cL_law 425 = .ok (.iconst 1, 1) := by decide +kernel
theorem dL_law_426 : decode cL_law 426 = .ok (.iadd, 1) := by decide +kernel
theorem dL_law_427 : decode cL_law 427 = .ok (.iaload, 1) := by decide +kernel
theorem dL_law_428 : decode cL_law 428 = .ok (.aload_n 0, 1) := by decide +kernel
theorem dL_law_429 : decode cL_law 429 = .ok (.iload_n 3, 1) := by decide +kernel
theorem dL_law_430 : decode cL_law 430 = .ok (.iconst 2, 1) := by decide +kernel
theorem dL_law_431 : decode cL_law 431 = .ok (.iadd, 1) := by decide +kernel
theorem dL_law_432 : decode cL_law 432 = .ok (.iaload, 1) := by decide +kernel
theorem dL_law_433 : decode cL_law 433 = .ok (.invokevirtual 50, 3) := by decide +kernel
theorem dL_law_436 : decode cL_law 436 = .ok (.aload_n 2, 1) := by decide +kernel
theorem dL_law_437 : decode cL_law 437 = .ok (.aload_n 0, 1) := by decide +kernel
theorem dL_law_438 : decode cL_law 438 = .ok (.iload_n 3, 1) := by decide +kernel
theorem dL_law_439 : decode cL_law 439 = .ok (.iconst 1, 1) := by decide +kernel
theorem dL_law_440 : decode cL_law 440 = .ok (.iadd, 1) := by decide +kernel
theorem dL_law_441 : decode cL_law 441 = .ok (.iaload, 1) := by decide +kernel
theorem dL_law_442 : decode cL_law 442 = .ok (.aload_n 0, 1) := by decide +kernel
theorem dL_law_443 : decode cL_law 443 = .ok (.iload_n 3, 1) := by decide +kernel
theorem dL_law_444 : decode cL_law 444 = .ok (.iconst 2, 1) := by decide +kernel
theorem dL_law_445 : decode cL_law 445 = .ok (.iadd, 1) := by decide +kernel
theorem dL_law_446 : decode cL_law 446 = .ok (.iaload, 1) := by decide +kernel
theorem dL_law_447 : decode cL_law 447 = .ok (.invokevirtual 53, 3) := by decide +kernel
theorem dL_law_450 : decode cL_law 450 = .ok (.if_icmp .eq 607, 3) := by decide +kernel
theorem dL_law_453 : decode cL_law 453 = .ok (.iconst 0, 1) := by decide +kernel
theorem dL_law_454 : decode cL_law 454 = .ok (.ireturn, 1) := by decide +kernel
theorem dL_law_455 : decode cL_law 455 = .ok (.aload_n 1, 1) := by decide +kernel
theorem dL_law_456 : decode cL_law 456 = .ok (.aload_n 0, 1) := by decide +kernel
theorem dL_law_457 : decode cL_law 457 = .ok (.iload_n 3, 1) := by decide +kernel
theorem dL_law_458 : decode cL_law 458 = .ok (.iconst 1, 1) := by decide +kernel
theorem dL_law_459 : decode cL_law 459 = .ok (.iadd, 1) := by decide +kernel
theorem dL_law_460 : decode cL_law 460 = .ok (.iaload, 1) := by decide +kernel
theorem dL_law_461 : decode cL_law 461 = .ok (.aload_n 0, 1) := by decide +kernel
theorem dL_law_462 : decode cL_law 462 = .ok (.iload_n 3, 1) := by decide +kernel
theorem dL_law_463 : decode cL_law 463 = .ok (.iconst 2, 1) := by decide +kernel
theorem dL_law_464 : decode cL_law 464 = .ok (.iadd, 1) := by decide +kernel
theorem dL_law_465 : decode cL_law 465 = .ok (.iaload, 1) := by decide +kernel
theorem dL_law_466 : decode cL_law 466 = .ok (.invokevirtual 54, 3) := by decide +kernel
theorem dL_law_469 : decode cL_law 469 = .ok (.aload_n 2, 1) := by decide +kernel
theorem dL_law_470 : decode cL_law 470 = .ok (.aload_n 0, 1) := by decide +kernel
theorem dL_law_471 : decode cL_law 471 = .ok (.iload_n 3, 1) := by decide +kernel
theorem dL_law_472 : decode cL_law 472 = .ok (.iconst 1, 1) := by decide +kernel
theorem dL_law_473 : decode cL_law 473 = .ok (.iadd, 1) := by decide +kernel
theorem dL_law_474 : decode cL_law 474 = .ok (.iaload, 1) := by decide +kernel
theorem dL_law_475 : decode cL_law 475 = .ok (.aload_n 0, 1) := by decide +kernel
theorem dL_law_476 : decode cL_law 476 = .ok (.iload_n 3, 1) := by decide +kernel
theorem dL_law_477 : decode cL_law 477 = .ok (.iconst 2, 1) := by decide +kernel
theorem dL_law_478 : decode cL_law 478 = .ok (.iadd, 1) := by decide +kernel
theorem dL_law_479 : decode cL_law 479 = .ok (.iaload, 1) := by decide +kernel
theorem dL_law_480 : decode cL_law 480 = .ok (.invokevirtual 57, 3) := by decide +kernel
theorem dL_law_483 : decode cL_law 483 = .ok (.if_icmp .eq 574, 3) := by decide +kernel
theorem dL_law_486 : decode cL_law 486 = .ok (.iconst 0, 1) := by decide +kernel
theorem dL_law_487 : decode cL_law 487 = .ok (.ireturn, 1) := by decide +kernel
theorem dL_law_488 : decode cL_law 488 = .ok (.aload_n 1, 1) := by decide +kernel
theorem dL_law_489 : decode cL_law 489 = .ok (.aload_n 0, 1) := by decide +kernel
theorem dL_law_490 : decode cL_law 490 = .ok (.iload_n 3, 1) := by decide +kernel
theorem dL_law_491 : decode cL_law 491 = .ok (.iconst 1, 1) := by decide +kernel
theorem dL_law_492 : decode cL_law 492 = .ok (.iadd, 1) := by decide +kernel
theorem dL_law_493 : decode cL_law 493 = .ok (.iaload, 1) := by decide +kernel
theorem dL_law_494 : decode cL_law 494 = .ok (.aload_n 0, 1) := by decide +kernel
theorem dL_law_495 : decode cL_law 495 = .ok (.iload_n 3, 1) := by decide +kernel
theorem dL_law_496 : decode cL_law 496 = .ok (.iconst 2, 1) := by decide +kernel
theorem dL_law_497 : decode cL_law 497 = .ok (.iadd, 1) := by decide +kernel
theorem dL_law_498 : decode cL_law 498 = .ok (.iaload, 1) := by decide +kernel
theorem dL_law_499 : decode cL_law 499 = .ok (.invokevirtual 58, 3) := by decide +kernel
theorem dL_law_502 : decode cL_law 502 = .ok (.aload_n 2, 1) := by decide +kernel
theorem dL_law_503 : decode cL_law 503 = .ok (.aload_n 0, 1) := by decide +kernel
theorem dL_law_504 : decode cL_law 504 = .ok (.iload_n 3, 1) := by decide +kernel
theorem dL_law_505 : decode cL_law 505 = .ok (.iconst 1, 1) := by decide +kernel
theorem dL_law_506 : decode cL_law 506 = .ok (.iadd, 1) := by decide +kernel
theorem dL_law_507 : decode cL_law 507 = .ok (.iaload, 1) := by decide +kernel
theorem dL_law_508 : decode cL_law 508 = .ok (.aload_n 0, 1) := by decide +kernel
theorem dL_law_509 : decode cL_law 509 = .ok (.iload_n 3, 1) := by decide +kernel
theorem dL_law_510 : decode cL_law 510 = .ok (.iconst 2, 1) := by decide +kernel
theorem dL_law_511 : decode cL_law 511 = .ok (.iadd, 1) := by decide +kernel
theorem dL_law_512 : decode cL_law 512 = .ok (.iaload, 1) := by decide +kernel
theorem dL_law_513 : decode cL_law 513 = .ok (.invokevirtual 61, 3) := by decide +kernel
theorem dL_law_516 : decode cL_law 516 = .ok (.if_icmp .eq 541, 3) := by decide +kernel
theorem dL_law_519 : decode cL_law 519 = .ok (.iconst 0, 1) := by decide +kernel
theorem dL_law_520 : decode cL_law 520 = .ok (.ireturn, 1) := by decide +kernel
theorem dL_law_521 : decode cL_law 521 = .ok (.aload_n 1, 1) := by decide +kernel
theorem dL_law_522 : decode cL_law 522 = .ok (.aload_n 0, 1) := by decide +kernel
theorem dL_law_523 : decode cL_law 523 = .ok (.iload_n 3, 1) := by decide +kernel
theorem dL_law_524 : decode cL_law 524 = .ok (.iconst 1, 1) := by decide +kernel
theorem dL_law_525 : decode cL_law 525 = .ok (.iadd, 1) := by decide +kernel
theorem dL_law_526 : decode cL_law 526 = .ok (.iaload, 1) := by decide +kernel
theorem dL_law_527 : decode cL_law 527 = .ok (.aload_n 0, 1) := by decide +kernel
theorem dL_law_528 : decode cL_law 528 = .ok (.iload_n 3, 1) := by decide +kernel
theorem dL_law_529 : decode cL_law 529 = .ok (.iconst 2, 1) := by decide +kernel
theorem dL_law_530 : decode cL_law 530 = .ok (.iadd, 1) := by decide +kernel
theorem dL_law_531 : decode cL_law 531 = .ok (.iaload, 1) := by decide +kernel
theorem dL_law_532 : decode cL_law 532 = .ok (.invokevirtual 62, 3) := by decide +kernel
theorem dL_law_535 : decode cL_law 535 = .ok (.aload_n 2, 1) := by decide +kernel
theorem dL_law_536 : decode cL_law 536 = .ok (.aload_n 0, 1) := by decide +kernel
theorem dL_law_537 : decode cL_law 537 = .ok (.iload_n 3, 1) := by decide +kernel
theorem dL_law_538 : decode cL_law 538 = .ok (.iconst 1, 1) := by decide +kernel
theorem dL_law_539 : decode cL_law 539 = .ok (.iadd, 1) := by decide +kernel
theorem dL_law_540 : decode cL_law 540 = .ok (.iaload, 1) := by decide +kernel
theorem dL_law_541 : decode cL_law 541 = .ok (.aload_n 0, 1) := by decide +kernel
theorem dL_law_542 : decode cL_law 542 = .ok (.iload_n 3, 1) := by decide +kernel
theorem dL_law_543 : decode cL_law 543 = .ok (.iconst 2, 1) := by decide +kernel
theorem dL_law_544 : decode cL_law 544 = .ok (.iadd, 1) := by decide +kernel
theorem dL_law_545 : decode cL_law 545 = .ok (.iaload, 1) := by decide +kernel
theorem dL_law_546 : decode cL_law 546 = .ok (.invokevirtual 65, 3) := by decide +kernel
theorem dL_law_549 : decode cL_law 549 = .ok (.if_icmp .eq 508, 3) := by decide +kernel
theorem dL_law_552 : decode cL_law 552 = .ok (.iconst 0, 1) := by decide +kernel
theorem dL_law_553 : decode cL_law 553 = .ok (.ireturn, 1) := by decide +kernel
theorem dL_law_554 : decode cL_law 554 = .ok (.aload_n 1, 1) := by decide +kernel
theorem dL_law_555 : decode cL_law 555 = .ok (.aload_n 0, 1) := by decide +kernel
theorem dL_law_556 : decode cL_law 556 = .ok (.iload_n 3, 1) := by decide +kernel
theorem dL_law_557 : decode cL_law 557 = .ok (.iconst 1, 1) := by decide +kernel
theorem dL_law_558 : decode cL_law 558 = .ok (.iadd, 1) := by decide +kernel
theorem dL_law_559 : decode cL_law 559 = .ok (.iaload, 1) := by decide +kernel
theorem dL_law_560 : decode cL_law 560 = .ok (.aload_n 0, 1) := by decide +kernel
theorem dL_law_561 : decode cL_law 561 = .ok (.iload_n 3, 1) := by decide +kernel
theorem dL_law_562 : decode cL_law 562 = .ok (.iconst 2, 1) := by decide +kernel
theorem dL_law_563 : decode cL_law 563 = .ok (.iadd, 1) := by decide +kernel
theorem dL_law_564 : decode cL_law 564 = .ok (.iaload, 1) := by decide +kernel
theorem dL_law_565 : decode cL_law 565 = .ok (.invokevirtual 66, 3) := by decide +kernel
theorem dL_law_568 : decode cL_law 568 = .ok (.aload_n 2, 1) := by decide +kernel
theorem dL_law_569 : decode cL_law 569 = .ok (.aload_n 0, 1) := by decide +kernel
theorem dL_law_570 : decode cL_law 570 = .ok (.iload_n 3, 1) := by decide +kernel
theorem dL_law_571 : decode cL_law 571 = .ok (.iconst 1, 1) := by decide +kernel
theorem dL_law_572 : decode cL_law 572 = .ok (.iadd, 1) := by decide +kernel
theorem dL_law_573 : decode cL_law 573 = .ok (.iaload, 1) := by decide +kernel
theorem dL_law_574 : decode cL_law 574 = .ok (.aload_n 0, 1) := by decide +kernel
theorem dL_law_575 : decode cL_law 575 = .ok (.iload_n 3, 1) := by decide +kernel
theorem dL_law_576 : decode cL_law 576 = .ok (.iconst 2, 1) := by decide +kernel
theorem dL_law_577 : decode cL_law 577 = .ok (.iadd, 1) := by decide +kernel
theorem dL_law_578 : decode cL_law 578 = .ok (.iaload, 1) := by decide +kernel
theorem dL_law_579 : decode cL_law 579 = .ok (.invokevirtual 69, 3) := by decide +kernel
theorem dL_law_582 : decode cL_law 582 = .ok (.if_icmp .eq 475, 3) := by decide +kernel
theorem dL_law_585 : decode cL_law 585 = .ok (.iconst 0, 1) := by decide +kernel
theorem dL_law_586 : decode cL_law 586 = .ok (.ireturn, 1) := by decide +kernel
theorem dL_law_587 : decode cL_law 587 = .ok (.aload_n 1, 1) := by decide +kernel
theorem dL_law_588 : decode cL_law 588 = .ok (.invokevirtual 70, 3) := by decide +kernel
theorem dL_law_591 : decode cL_law 591 = .ok (.aload_n 2, 1) := by decide +kernel
theorem dL_law_592 : decode cL_law 592 = .ok (.invokevirtual 73, 3) := by decide +kernel
theorem dL_law_595 : decode cL_law 595 = .ok (.if_icmp .eq 462, 3) := by decide +kernel
theorem dL_law_598 : decode cL_law 598 = .ok (.iconst 0, 1) := by decide +kernel
theorem dL_law_599 : decode cL_law 599 = .ok (.ireturn, 1) := by decide +kernel
theorem dL_law_600 : decode cL_law 600 = .ok (.aload_n 1, 1) := by decide +kernel
theorem dL_law_601 : decode cL_law 601 = .ok (.aload_n 0, 1) := by decide +kernel
theorem dL_law_602 : decode cL_law 602 = .ok (.iload_n 3, 1) := by decide +kernel
theorem dL_law_603 : decode cL_law 603 = .ok (.iconst 1, 1) := by decide +kernel
theorem dL_law_604 : decode cL_law 604 = .ok (.iadd, 1) := by decide +kernel
theorem dL_law_605 : decode cL_law 605 = .ok (.iaload, 1) := by decide +kernel
theorem dL_law_606 : decode cL_law 606 = .ok (.aload_n 0, 1) := by decide +kernel
theorem dL_law_607 : decode cL_law 607 = .ok (.iload_n 3, 1) := by decide +kernel
theorem dL_law_608 : decode cL_law 608 = .ok (.iconst 2, 1) := by decide +kernel
theorem dL_law_609 : decode cL_law 609 = .ok (.iadd, 1) := by decide +kernel
theorem dL_law_610 : decode cL_law 610 = .ok (.iaload, 1) := by decide +kernel
theorem dL_law_611 : decode cL_law 611 = .ok (.invokevirtual 74, 3) := by decide +kernel
theorem dL_law_614 : decode cL_law 614 = .ok (.aload_n 2, 1) := by decide +kernel
theorem dL_law_615 : decode cL_law 615 = .ok (.aload_n 0, 1) := by decide +kernel
theorem dL_law_616 : decode cL_law 616 = .ok (.iload_n 3, 1) := by decide +kernel
theorem dL_law_617 : decode cL_law 617 = .ok (.iconst 1, 1) := by decide +kernel
theorem dL_law_618 : decode cL_law 618 = .ok (.iadd, 1) := by decide +kernel
theorem dL_law_619 : decode cL_law 619 = .ok (.iaload, 1) := by decide +kernel
theorem dL_law_620 : decode cL_law 620 = .ok (.aload_n 0, 1) := by decide +kernel
theorem dL_law_621 : decode cL_law 621 = .ok (.iload_n 3, 1) := by decide +kernel
theorem dL_law_622 : decode cL_law 622 = .ok (.iconst 2, 1) := by decide +kernel
theorem dL_law_623 : decode cL_law 623 = .ok (.iadd, 1) := by decide +kernel
theorem dL_law_624 : decode cL_law 624 = .ok (.iaload, 1) := by decide +kernel
theorem dL_law_625 : decode cL_law 625 = .ok (.invokevirtual 77, 3) := by decide +kernel
theorem dL_law_628 : decode cL_law 628 = .ok (.if_icmp .eq 429, 3) := by decide +kernel
theorem dL_law_631 : decode cL_law 631 = .ok (.iconst 0, 1) := by decide +kernel
theorem dL_law_632 : decode cL_law 632 = .ok (.ireturn, 1) := by decide +kernel
theorem dL_law_633 : decode cL_law 633 = .ok (.aload_n 1, 1) := by decide +kernel
theorem dL_law_634 : decode cL_law 634 = .ok (.aload_n 0, 1) := by decide +kernel
theorem dL_law_635 : decode cL_law 635 = .ok (.iload_n 3, 1) := by decide +kernel
theorem dL_law_636 : decode cL_law 636 = .ok (.iconst 1, 1) := by decide +kernel
theorem dL_law_637 : decode cL_law 637 = .ok (.iadd, 1) := by decide +kernel
theorem dL_law_638 : decode cL_law 638 = .ok (.iaload, 1) := by decide +kernel
theorem dL_law_639 : decode cL_law 639 = .ok (.aload_n 0, 1) := by decide +kernel
theorem dL_law_640 : decode cL_law 640 = .ok (.iload_n 3, 1) := by decide +kernel
theorem dL_law_641 : decode cL_law 641 = .ok (.iconst 2, 1) := by decide +kernel
theorem dL_law_642 : decode cL_law 642 = .ok (.iadd, 1) := by decide +kernel
theorem dL_law_643 : decode cL_law 643 = .ok (.iaload, 1) := by decide +kernel
theorem dL_law_644 : decode cL_law 644 = .ok (.invokevirtual 78, 3) := by decide +kernel
theorem dL_law_647 : decode cL_law 647 = .ok (.aload_n 2, 1) := by decide +kernel
theorem dL_law_648 : decode cL_law 648 = .ok (.aload_n 0, 1) := by decide +kernel
theorem dL_law_649 : decode cL_law 649 = .ok (.iload_n 3, 1) := by decide +kernel
theorem dL_law_650 : decode cL_law 650 = .ok (.iconst 1, 1) := by decide +kernel
theorem dL_law_651 : decode cL_law 651 = .ok (.iadd, 1) := by decide +kernel
theorem dL_law_652 : decode cL_law 652 = .ok (.iaload, 1) := by decide +kernel
theorem dL_law_653 : decode cL_law 653 = .ok (.aload_n 0, 1) := by decide +kernel
theorem dL_law_654 : decode cL_law 654 = .ok (.iload_n 3, 1) := by decide +kernel
theorem dL_law_655 : decode cL_law 655 = .ok (.iconst 2, 1) := by decide +kernel
theorem dL_law_656 : decode cL_law 656 = .ok (.iadd, 1) := by decide +kernel
theorem dL_law_657 : decode cL_law 657 = .ok (.iaload, 1) := by decide +kernel
theorem dL_law_658 : decode cL_law 658 = .ok (.invokevirtual 81, 3) := by decide +kernel
theorem dL_law_661 : decode cL_law 661 = .ok (.if_icmp .eq 396, 3) := by decide +kernel
theorem dL_law_664 : decode cL_law 664 = .ok (.iconst 0, 1) := by decide +kernel
theorem dL_law_665 : decode cL_law 665 = .ok (.ireturn, 1) := by decide +kernel
theorem dL_law_666 : decode cL_law 666 = .ok (.aload_n 1, 1) := by decide +kernel
theorem dL_law_667 : decode cL_law 667 = .ok (.aload_n 0, 1) := by decide +kernel
theorem dL_law_668 : decode cL_law 668 = .ok (.iload_n 3, 1) := by decide +kernel
theorem dL_law_669 : decode cL_law 669 = .ok (.iconst 1, 1) := by decide +kernel
theorem dL_law_670 : decode cL_law 670 = .ok (.iadd, 1) := by decide +kernel
theorem dL_law_671 : decode cL_law 671 = .ok (.iaload, 1) := by decide +kernel
theorem dL_law_672 : decode cL_law 672 = .ok (.invokevirtual 82, 3) := by decide +kernel
theorem dL_law_675 : decode cL_law 675 = .ok (.aload_n 2, 1) := by decide +kernel
theorem dL_law_676 : decode cL_law 676 = .ok (.aload_n 0, 1) := by decide +kernel
theorem dL_law_677 : decode cL_law 677 = .ok (.iload_n 3, 1) := by decide +kernel
theorem dL_law_678 : decode cL_law 678 = .ok (.iconst 1, 1) := by decide +kernel
theorem dL_law_679 : decode cL_law 679 = .ok (.iadd, 1) := by decide +kernel
theorem dL_law_680 : decode cL_law 680 = .ok (.iaload, 1) := by decide +kernel
theorem dL_law_681 : decode cL_law 681 = .ok (.invokevirtual 85, 3) := by decide +kernel
theorem dL_law_684 : decode cL_law 684 = .ok (.if_icmp .eq 373, 3) := by decide +kernel
theorem dL_law_687 : decode cL_law 687 = .ok (.iconst 0, 1) := by decide +kernel
theorem dL_law_688 : decode cL_law 688 = .ok (.ireturn, 1) := by decide +kernel
theorem dL_law_689 : decode cL_law 689 = .ok (.aload_n 1, 1) := by decide +kernel
theorem dL_law_690 : decode cL_law 690 = .ok (.aload_n 0, 1) := by decide +kernel
theorem dL_law_691 : decode cL_law 691 = .ok (.iload_n 3, 1) := by decide +kernel
theorem dL_law_692 : decode cL_law 692 = .ok (.iconst 1, 1) := by decide +kernel
theorem dL_law_693 : decode cL_law 693 = .ok (.iadd, 1) := by decide +kernel
theorem dL_law_694 : decode cL_law 694 = .ok (.iaload, 1) := by decide +kernel
theorem dL_law_695 : decode cL_law 695 = .ok (.invokevirtual 86, 3) := by decide +kernel
theorem dL_law_698 : decode cL_law 698 = .ok (.aload_n 2, 1) := by decide +kernel
theorem dL_law_699 : decode cL_law 699 = .ok (.aload_n 0, 1) := by decide +kernel
theorem dL_law_700 : decode cL_law 700 = .ok (.iload_n 3, 1) := by decide +kernel
theorem dL_law_701 : decode cL_law 701 = .ok (.iconst 1, 1) := by decide +kernel
theorem dL_law_702 : decode cL_law 702 = .ok (.iadd, 1) := by decide +kernel
theorem dL_law_703 : decode cL_law 703 = .ok (.iaload, 1) := by decide +kernel
theorem dL_law_704 : decode cL_law 704 = .ok (.invokevirtual 89, 3) := by decide +kernel
theorem dL_law_707 : decode cL_law 707 = .ok (.if_icmp .eq 350, 3) := by decide +kernel
theorem dL_law_710 : decode cL_law 710 = .ok (.iconst 0, 1) := by decide +kernel
theorem dL_law_711 : decode cL_law 711 = .ok (.ireturn, 1) := by decide +kernel
theorem dL_law_712 : decode cL_law 712 = .ok (.aload_n 1, 1) := by decide +kernel
theorem dL_law_713 : decode cL_law 713 = .ok (.aload_n 0, 1) := by decide +kernel
theorem dL_law_714 : decode cL_law 714 = .ok (.iload_n 3, 1) := by decide +kernel
theorem dL_law_715 : decode cL_law 715 = .ok (.iconst 1, 1) := by decide +kernel
theorem dL_law_716 : decode cL_law 716 = .ok (.iadd, 1) := by decide +kernel
theorem dL_law_717 : decode cL_law 717 = .ok (.iaload, 1) := by decide +kernel
theorem dL_law_718 : decode cL_law 718 = .ok (.aload_n 0, 1) := by decide +kernel
theorem dL_law_719 : decode cL_law 719 = .ok (.iload_n 3, 1) := by decide +kernel
theorem dL_law_720 : decode cL_law 720 = .ok (.iconst 2, 1) := by decide +kernel
theorem dL_law_721 : decode cL_law 721 = .ok (.iadd, 1) := by decide +kernel
theorem dL_law_722 : decode cL_law 722 = .ok (.iaload, 1) := by decide +kernel
theorem dL_law_723 : decode cL_law 723 = .ok (.aload_n 0, 1) := by decide +kernel
theorem dL_law_724 : decode cL_law 724 = .ok (.iload_n 3, 1) := by decide +kernel
theorem dL_law_725 : decode cL_law 725 = .ok (.iconst 3, 1) := by decide +kernel
theorem dL_law_726 : decode cL_law 726 = .ok (.iadd, 1) := by decide +kernel
theorem dL_law_727 : decode cL_law 727 = .ok (.iaload, 1) := by decide +kernel
theorem dL_law_728 : decode cL_law 728 = .ok (.invokevirtual 90, 3) := by decide +kernel
theorem dL_law_731 : decode cL_law 731 = .ok (.aload_n 2, 1) := by decide +kernel
theorem dL_law_732 : decode cL_law 732 = .ok (.aload_n 0, 1) := by decide +kernel
theorem dL_law_733 : decode cL_law 733 = .ok (.iload_n 3, 1) := by decide +kernel
theorem dL_law_734 : decode cL_law 734 = .ok (.iconst 1, 1) := by decide +kernel
theorem dL_law_735 : decode cL_law 735 = .ok (.iadd, 1) := by decide +kernel
theorem dL_law_736 : decode cL_law 736 = .ok (.iaload, 1) := by decide +kernel
theorem dL_law_737 : decode cL_law 737 = .ok (.aload_n 0, 1) := by decide +kernel
theorem dL_law_738 : decode cL_law 738 = .ok (.iload_n 3, 1) := by decide +kernel
theorem dL_law_739 : decode cL_law 739 = .ok (.iconst 2, 1) := by decide +kernel
theorem dL_law_740 : decode cL_law 740 = .ok (.iadd, 1) := by decide +kernel
theorem dL_law_741 : decode cL_law 741 = .ok (.iaload, 1) := by decide +kernel
theorem dL_law_742 : decode cL_law 742 = .ok (.aload_n 0, 1) := by decide +kernel
theorem dL_law_743 : decode cL_law 743 = .ok (.iload_n 3, 1) := by decide +kernel
theorem dL_law_744 : decode cL_law 744 = .ok (.iconst 3, 1) := by decide +kernel
theorem dL_law_745 : decode cL_law 745 = .ok (.iadd, 1) := by decide +kernel
theorem dL_law_746 : decode cL_law 746 = .ok (.iaload, 1) := by decide +kernel
theorem dL_law_747 : decode cL_law 747 = .ok (.invokevirtual 94, 3) := by decide +kernel
theorem dL_law_750 : decode cL_law 750 = .ok (.if_icmp .eq 307, 3) := by decide +kernel
theorem dL_law_753 : decode cL_law 753 = .ok (.iconst 0, 1) := by decide +kernel
theorem dL_law_754 : decode cL_law 754 = .ok (.ireturn, 1) := by decide +kernel
theorem dL_law_755 : decode cL_law 755 = .ok (.aload_n 1, 1) := by decide +kernel
theorem dL_law_756 : decode cL_law 756 = .ok (.invokevirtual 95, 3) := by decide +kernel
theorem dL_law_759 : decode cL_law 759 = .ok (.aload_n 2, 1) := by decide +kernel
theorem dL_law_760 : decode cL_law 760 = .ok (.invokevirtual 99, 3) := by decide +kernel
theorem dL_law_763 : decode cL_law 763 = .ok (.lcmp, 1) := by decide +kernel
theorem dL_law_764 : decode cL_law 764 = .ok (.ifCond .eq 293, 3) := by decide +kernel
theorem dL_law_767 : decode cL_law 767 = .ok (.iconst 0, 1) := by decide +kernel
theorem dL_law_768 : decode cL_law 768 = .ok (.ireturn, 1) := by decide +kernel
theorem dL_law_769 : decode cL_law 769 = .ok (.aload_n 1, 1) := by decide +kernel
theorem dL_law_770 : decode cL_law 770 = .ok (.invokevirtual 100, 3) := by decide +kernel
theorem dL_law_773 : decode cL_law 773 = .ok (.aload_n 2, 1) := by decide +kernel
theorem dL_law_774 : decode cL_law 774 = .ok (.invokevirtual 103, 3) := by decide +kernel
theorem dL_law_777 : decode cL_law 777 = .ok (.if_icmp .eq 280, 3) := by decide +kernel
theorem dL_law_780 : decode cL_law 780 = .ok (.iconst 0, 1) := by decide +kernel
theorem dL_law_781 : decode cL_law 781 = .ok (.ireturn, 1) := by decide +kernel
theorem dL_law_782 : decode cL_law 782 = .ok (.aload_n 1, 1) := by decide +kernel
theorem dL_law_783 : decode cL_law 783 = .ok (.aload_n 0, 1) := by decide +kernel
theorem dL_law_784 : decode cL_law 784 = .ok (.iload_n 3, 1) := by decide +kernel
theorem dL_law_785 : decode cL_law 785 = .ok (.iconst 1, 1) := by decide +kernel
theorem dL_law_786 : decode cL_law 786 = .ok (.iadd, 1) := by decide +kernel
theorem dL_law_787 : decode cL_law 787 = .ok (.iaload, 1) := by decide +kernel
theorem dL_law_788 : decode cL_law 788 = .ok (.aload_n 0, 1) := by decide +kernel
theorem dL_law_789 : decode cL_law 789 = .ok (.iload_n 3, 1) := by decide +kernel
theorem dL_law_790 : decode cL_law 790 = .ok (.iconst 2, 1) := by decide +kernel
theorem dL_law_791 : decode cL_law 791 = .ok (.iadd, 1) := by decide +kernel
theorem dL_law_792 : decode cL_law 792 = .ok (.iaload, 1) := by decide +kernel
theorem dL_law_793 : decode cL_law 793 = .ok (.invokevirtual 104, 3) := by decide +kernel
theorem dL_law_796 : decode cL_law 796 = .ok (.aload_n 2, 1) := by decide +kernel
theorem dL_law_797 : decode cL_law 797 = .ok (.aload_n 0, 1) := by decide +kernel
theorem dL_law_798 : decode cL_law 798 = .ok (.iload_n 3, 1) := by decide +kernel
theorem dL_law_799 : decode cL_law 799 = .ok (.iconst 1, 1) := by decide +kernel
theorem dL_law_800 : decode cL_law 800 = .ok (.iadd, 1) := by decide +kernel
theorem dL_law_801 : decode cL_law 801 = .ok (.iaload, 1) := by decide +kernel
theorem dL_law_802 : decode cL_law 802 = .ok (.aload_n 0, 1) := by decide +kernel
theorem dL_law_803 : decode cL_law 803 = .ok (.iload_n 3, 1) := by decide +kernel
theorem dL_law_804 : decode cL_law 804 = .ok (.iconst 2, 1) := by decide +kernel
theorem dL_law_805 : decode cL_law 805 = .ok (.iadd, 1) := by decide +kernel
theorem dL_law_806 : decode cL_law 806 = .ok (.iaload, 1) := by decide +kernel
theorem dL_law_807 : decode cL_law 807 = .ok (.invokevirtual 107, 3) := by decide +kernel
theorem dL_law_810 : decode cL_law 810 = .ok (.if_icmp .eq 247, 3) := by decide +kernel
theorem dL_law_813 : decode cL_law 813 = .ok (.iconst 0, 1) := by decide +kernel
theorem dL_law_814 : decode cL_law 814 = .ok (.ireturn, 1) := by decide +kernel
theorem dL_law_815 : decode cL_law 815 = .ok (.aload_n 1, 1) := by decide +kernel
theorem dL_law_816 : decode cL_law 816 = .ok (.aload_n 0, 1) := by decide +kernel
theorem dL_law_817 : decode cL_law 817 = .ok (.iload_n 3, 1) := by decide +kernel
theorem dL_law_818 : decode cL_law 818 = .ok (.iconst 1, 1) := by decide +kernel
theorem dL_law_819 : decode cL_law 819 = .ok (.iadd, 1) := by decide +kernel
theorem dL_law_820 : decode cL_law 820 = .ok (.iaload, 1) := by decide +kernel
theorem dL_law_821 : decode cL_law 821 = .ok (.aload_n 0, 1) := by decide +kernel
theorem dL_law_822 : decode cL_law 822 = .ok (.iload_n 3, 1) := by decide +kernel
theorem dL_law_823 : decode cL_law 823 = .ok (.iconst 2, 1) := by decide +kernel
theorem dL_law_824 : decode cL_law 824 = .ok (.iadd, 1) := by decide +kernel
theorem dL_law_825 : decode cL_law 825 = .ok (.iaload, 1) := by decide +kernel
theorem dL_law_826 : decode cL_law 826 = .ok (.invokevirtual 108, 3) := by decide +kernel
theorem dL_law_829 : decode cL_law 829 = .ok (.aload_n 2, 1) := by decide +kernel
theorem dL_law_830 : decode cL_law 830 = .ok (.aload_n 0, 1) := by decide +kernel
theorem dL_law_831 : decode cL_law 831 = .ok (.iload_n 3, 1) := by decide +kernel
theorem dL_law_832 : decode cL_law 832 = .ok (.iconst 1, 1) := by decide +kernel
theorem dL_law_833 : decode cL_law 833 = .ok (.iadd, 1) := by decide +kernel
theorem dL_law_834 : decode cL_law 834 = .ok (.iaload, 1) := by decide +kernel
theorem dL_law_835 : decode cL_law 835 = .ok (.aload_n 0, 1) := by decide +kernel
theorem dL_law_836 : decode cL_law 836 = .ok (.iload_n 3, 1) := by decide +kernel
theorem dL_law_837 : decode cL_law 837 = .ok (.iconst 2, 1) := by decide +kernel
theorem dL_law_838 : decode cL_law 838 = .ok (.iadd, 1) := by decide +kernel
theorem dL_law_839 : decode cL_law 839 = .ok (.iaload, 1) := by decide +kernel
theorem dL_law_840 : decode cL_law 840 = .ok (.invokevirtual 111, 3) := by decide +kernel
theorem dL_law_843 : decode cL_law 843 = .ok (.if_icmp .eq 214, 3) := by decide +kernel
theorem dL_law_846 : decode cL_law 846 = .ok (.iconst 0, 1) := by decide +kernel
theorem dL_law_847 : decode cL_law 847 = .ok (.ireturn, 1) := by decide +kernel
theorem dL_law_848 : decode cL_law 848 = .ok (.aload_n 1, 1) := by decide +kernel
theorem dL_law_849 : decode cL_law 849 = .ok (.aload_n 0, 1) := by decide +kernel
theorem dL_law_850 : decode cL_law 850 = .ok (.iload_n 3, 1) := by decide +kernel
theorem dL_law_851 : decode cL_law 851 = .ok (.iconst 1, 1) := by decide +kernel
theorem dL_law_852 : decode cL_law 852 = .ok (.iadd, 1) := by decide +kernel
theorem dL_law_853 : decode cL_law 853 = .ok (.iaload, 1) := by decide +kernel
theorem dL_law_854 : decode cL_law 854 = .ok (.aload_n 0, 1) := by decide +kernel
theorem dL_law_855 : decode cL_law 855 = .ok (.iload_n 3, 1) := by decide +kernel
theorem dL_law_856 : decode cL_law 856 = .ok (.iconst 2, 1) := by decide +kernel
theorem dL_law_857 : decode cL_law 857 = .ok (.iadd, 1) := by decide +kernel
theorem dL_law_858 : decode cL_law 858 = .ok (.iaload, 1) := by decide +kernel
theorem dL_law_859 : decode cL_law 859 = .ok (.invokevirtual 112, 3) := by decide +kernel
theorem dL_law_862 : decode cL_law 862 = .ok (.aload_n 2, 1) := by decide +kernel
theorem dL_law_863 : decode cL_law 863 = .ok (.aload_n 0, 1) := by decide +kernel
theorem dL_law_864 : decode cL_law 864 = .ok (.iload_n 3, 1) := by decide +kernel
theorem dL_law_865 : decode cL_law 865 = .ok (.iconst 1, 1) := by decide +kernel
theorem dL_law_866 : decode cL_law 866 = .ok (.iadd, 1) := by decide +kernel
theorem dL_law_867 : decode cL_law 867 = .ok (.iaload, 1) := by decide +kernel
theorem dL_law_868 : decode cL_law 868 = .ok (.aload_n 0, 1) := by decide +kernel
theorem dL_law_869 : decode cL_law 869 = .ok (.iload_n 3, 1) := by decide +kernel
theorem dL_law_870 : decode cL_law 870 = .ok (.iconst 2, 1) := by decide +kernel
theorem dL_law_871 : decode cL_law 871 = .ok (.iadd, 1) := by decide +kernel
theorem dL_law_872 : decode cL_law 872 = .ok (.iaload, 1) := by decide +kernel
theorem dL_law_873 : decode cL_law 873 = .ok (.invokevirtual 115, 3) := by decide +kernel
theorem dL_law_876 : decode cL_law 876 = .ok (.if_icmp .eq 181, 3) := by decide +kernel
theorem dL_law_879 : decode cL_law 879 = .ok (.iconst 0, 1) := by decide +kernel
theorem dL_law_880 : decode cL_law 880 = .ok (.ireturn, 1) := by decide +kernel
theorem dL_law_881 : decode cL_law 881 = .ok (.aload_n 1, 1) := by decide +kernel
theorem dL_law_882 : decode cL_law 882 = .ok (.invokevirtual 116, 3) := by decide +kernel
theorem dL_law_885 : decode cL_law 885 = .ok (.aload_n 2, 1) := by decide +kernel
theorem dL_law_886 : decode cL_law 886 = .ok (.invokevirtual 119, 3) := by decide +kernel
theorem dL_law_889 : decode cL_law 889 = .ok (.if_icmp .eq 168, 3) := by decide +kernel
theorem dL_law_892 : decode cL_law 892 = .ok (.iconst 0, 1) := by decide +kernel
theorem dL_law_893 : decode cL_law 893 = .ok (.ireturn, 1) := by decide +kernel
theorem dL_law_894 : decode cL_law 894 = .ok (.aload_n 1, 1) := by decide +kernel
theorem dL_law_895 : decode cL_law 895 = .ok (.aload_n 0, 1) := by decide +kernel
theorem dL_law_896 : decode cL_law 896 = .ok (.iload_n 3, 1) := by decide +kernel
theorem dL_law_897 : decode cL_law 897 = .ok (.iconst 1, 1) := by decide +kernel
theorem dL_law_898 : decode cL_law 898 = .ok (.iadd, 1) := by decide +kernel
theorem dL_law_899 : decode cL_law 899 = .ok (.iaload, 1) := by decide +kernel
theorem dL_law_900 : decode cL_law 900 = .ok (.aload_n 0, 1) := by decide +kernel
theorem dL_law_901 : decode cL_law 901 = .ok (.iload_n 3, 1) := by decide +kernel
theorem dL_law_902 : decode cL_law 902 = .ok (.iconst 2, 1) := by decide +kernel
theorem dL_law_903 : decode cL_law 903 = .ok (.iadd, 1) := by decide +kernel
theorem dL_law_904 : decode cL_law 904 = .ok (.iaload, 1) := by decide +kernel
theorem dL_law_905 : decode cL_law 905 = .ok (.invokevirtual 120, 3) := by decide +kernel
theorem dL_law_908 : decode cL_law 908 = .ok (.aload_n 2, 1) := by decide +kernel
theorem dL_law_909 : decode cL_law 909 = .ok (.aload_n 0, 1) := by decide +kernel
theorem dL_law_910 : decode cL_law 910 = .ok (.iload_n 3, 1) := by decide +kernel
theorem dL_law_911 : decode cL_law 911 = .ok (.iconst 1, 1) := by decide +kernel
theorem dL_law_912 : decode cL_law 912 = .ok (.iadd, 1) := by decide +kernel
theorem dL_law_913 : decode cL_law 913 = .ok (.iaload, 1) := by decide +kernel
theorem dL_law_914 : decode cL_law 914 = .ok (.aload_n 0, 1) := by decide +kernel
theorem dL_law_915 : decode cL_law 915 = .ok (.iload_n 3, 1) := by decide +kernel
theorem dL_law_916 : decode cL_law 916 = .ok (.iconst 2, 1) := by decide +kernel
theorem dL_law_917 : decode cL_law 917 = .ok (.iadd, 1) := by decide +kernel
theorem dL_law_918 : decode cL_law 918 = .ok (.iaload, 1) := by decide +kernel
theorem dL_law_919 : decode cL_law 919 = .ok (.invokevirtual 123, 3) := by decide +kernel
theorem dL_law_922 : decode cL_law 922 = .ok (.if_icmp .eq 135, 3) := by decide +kernel
theorem dL_law_925 : decode cL_law 925 = .ok (.iconst 0, 1) := by decide +kernel
theorem dL_law_926 : decode cL_law 926 = .ok (.ireturn, 1) := by decide +kernel
theorem dL_law_927 : decode cL_law 927 = .ok (.aload_n 1, 1) := by decide +kernel
theorem dL_law_928 : decode cL_law 928 = .ok (.aload_n 0, 1) := by decide +kernel
theorem dL_law_929 : decode cL_law 929 = .ok (.iload_n 3, 1) := by decide +kernel
theorem dL_law_930 : decode cL_law 930 = .ok (.iconst 1, 1) := by decide +kernel
theorem dL_law_931 : decode cL_law 931 = .ok (.iadd, 1) := by decide +kernel
theorem dL_law_932 : decode cL_law 932 = .ok (.iaload, 1) := by decide +kernel
theorem dL_law_933 : decode cL_law 933 = .ok (.invokevirtual 124, 3) := by decide +kernel
theorem dL_law_936 : decode cL_law 936 = .ok (.aload_n 2, 1) := by decide +kernel
theorem dL_law_937 : decode cL_law 937 = .ok (.aload_n 0, 1) := by decide +kernel
theorem dL_law_938 : decode cL_law 938 = .ok (.iload_n 3, 1) := by decide +kernel
theorem dL_law_939 : decode cL_law 939 = .ok (.iconst 1, 1) := by decide +kernel
theorem dL_law_940 : decode cL_law 940 = .ok (.iadd, 1) := by decide +kernel
theorem dL_law_941 : decode cL_law 941 = .ok (.iaload, 1) := by decide +kernel
theorem dL_law_942 : decode cL_law 942 = .ok (.invokevirtual 128, 3) := by decide +kernel
theorem dL_law_945 : decode cL_law 945 = .ok (.lcmp, 1) := by decide +kernel
theorem dL_law_946 : decode cL_law 946 = .ok (.ifCond .eq 111, 3) := by decide +kernel
theorem dL_law_949 : decode cL_law 949 = .ok (.iconst 0, 1) := by decide +kernel
theorem dL_law_950 : decode cL_law 950 = .ok (.ireturn, 1) := by decide +kernel
theorem dL_law_951 : decode cL_law 951 = .ok (.aload_n 1, 1) := by decide +kernel
theorem dL_law_952 : decode cL_law 952 = .ok (.aload_n 0, 1) := by decide +kernel
theorem dL_law_953 : decode cL_law 953 = .ok (.iload_n 3, 1) := by decide +kernel
theorem dL_law_954 : decode cL_law 954 = .ok (.iconst 1, 1) := by decide +kernel
theorem dL_law_955 : decode cL_law 955 = .ok (.iadd, 1) := by decide +kernel
theorem dL_law_956 : decode cL_law 956 = .ok (.iaload, 1) := by decide +kernel
theorem dL_law_957 : decode cL_law 957 = .ok (.invokevirtual 129, 3) := by decide +kernel
theorem dL_law_960 : decode cL_law 960 = .ok (.aload_n 2, 1) := by decide +kernel
theorem dL_law_961 : decode cL_law 961 = .ok (.aload_n 0, 1) := by decide +kernel
theorem dL_law_962 : decode cL_law 962 = .ok (.iload_n 3, 1) := by decide +kernel
theorem dL_law_963 : decode cL_law 963 = .ok (.iconst 1, 1) := by decide +kernel
theorem dL_law_964 : decode cL_law 964 = .ok (.iadd, 1) := by decide +kernel
theorem dL_law_965 : decode cL_law 965 = .ok (.iaload, 1) := by decide +kernel
theorem dL_law_966 : decode cL_law 966 = .ok (.invokevirtual 132, 3) := by decide +kernel
theorem dL_law_969 : decode cL_law 969 = .ok (.if_icmp .eq 88, 3) := by decide +kernel
theorem dL_law_972 : decode cL_law 972 = .ok (.iconst 0, 1) := by decide +kernel
theorem dL_law_973 : decode cL_law 973 = .ok (.ireturn, 1) := by decide +kernel
theorem dL_law_974 : decode cL_law 974 = .ok (.aload_n 1, 1) := by decide +kernel
theorem dL_law_975 : decode cL_law 975 = .ok (.aload_n 0, 1) := by decide +kernel
theorem dL_law_976 : decode cL_law 976 = .ok (.iload_n 3, 1) := by decide +kernel
theorem dL_law_977 : decode cL_law 977 = .ok (.iconst 1, 1) := by decide +kernel
theorem dL_law_978 : decode cL_law 978 = .ok (.iadd, 1) := by decide +kernel
theorem dL_law_979 : decode cL_law 979 = .ok (.iaload, 1) := by decide +kernel
theorem dL_law_980 : decode cL_law 980 = .ok (.invokevirtual 133, 3) := by decide +kernel
theorem dL_law_983 : decode cL_law 983 = .ok (.aload_n 2, 1) := by decide +kernel
theorem dL_law_984 : decode cL_law 984 = .ok (.aload_n 0, 1) := by decide +kernel
theorem dL_law_985 : decode cL_law 985 = .ok (.iload_n 3, 1) := by decide +kernel
theorem dL_law_986 : decode cL_law 986 = .ok (.iconst 1, 1) := by decide +kernel
theorem dL_law_987 : decode cL_law 987 = .ok (.iadd, 1) := by decide +kernel
theorem dL_law_988 : decode cL_law 988 = .ok (.iaload, 1) := by decide +kernel
theorem dL_law_989 : decode cL_law 989 = .ok (.invokevirtual 136, 3) := by decide +kernel
theorem dL_law_992 : decode cL_law 992 = .ok (.if_icmp .eq 65, 3) := by decide +kernel
theorem dL_law_995 : decode cL_law 995 = .ok (.iconst 0, 1) := by decide +kernel
theorem dL_law_996 : decode cL_law 996 = .ok (.ireturn, 1) := by decide +kernel
theorem dL_law_997 : decode cL_law 997 = .ok (.aload_n 1, 1) := by decide +kernel
theorem dL_law_998 : decode cL_law 998 = .ok (.aload_n 0, 1) := by decide +kernel
theorem dL_law_999 : decode cL_law 999 = .ok (.iload_n 3, 1) := by decide +kernel
theorem dL_law_1000 : decode cL_law 1000 = .ok (.iconst 1, 1) := by decide +kernel
theorem dL_law_1001 : decode cL_law 1001 = .ok (.iadd, 1) := by decide +kernel
theorem dL_law_1002 : decode cL_law 1002 = .ok (.iaload, 1) := by decide +kernel
theorem dL_law_1003 : decode cL_law 1003 = .ok (.invokevirtual 137, 3) := by decide +kernel
theorem dL_law_1006 : decode cL_law 1006 = .ok (.aload_n 2, 1) := by decide +kernel
theorem dL_law_1007 : decode cL_law 1007 = .ok (.aload_n 0, 1) := by decide +kernel
theorem dL_law_1008 : decode cL_law 1008 = .ok (.iload_n 3, 1) := by decide +kernel
theorem dL_law_1009 : decode cL_law 1009 = .ok (.iconst 1, 1) := by decide +kernel
theorem dL_law_1010 : decode cL_law 1010 = .ok (.iadd, 1) := by decide +kernel
theorem dL_law_1011 : decode cL_law 1011 = .ok (.iaload, 1) := by decide +kernel
theorem dL_law_1012 : decode cL_law 1012 = .ok (.invokevirtual 140, 3) := by decide +kernel
theorem dL_law_1015 : decode cL_law 1015 = .ok (.if_icmp .eq 42, 3) := by decide +kernel
theorem dL_law_1018 : decode cL_law 1018 = .ok (.iconst 0, 1) := by decide +kernel
theorem dL_law_1019 : decode cL_law 1019 = .ok (.ireturn, 1) := by decide +kernel
theorem dL_law_1020 : decode cL_law 1020 = .ok (.aload_n 1, 1) := by decide +kernel
theorem dL_law_1021 : decode cL_law 1021 = .ok (.aload_n 0, 1) := by decide +kernel
theorem dL_law_1022 : decode cL_law 1022 = .ok (.iload_n 3, 1) := by decide +kernel
theorem dL_law_1023 : decode cL_law 1023 = .ok (.iconst 1, 1) := by decide +kernel
theorem dL_law_1024 : decode cL_law 1024 = .ok (.iadd, 1) := by decide +kernel
theorem dL_law_1025 : decode cL_law 1025 = .ok (.iaload, 1) := by decide +kernel
theorem dL_law_1026 : decode cL_law 1026 = .ok (.invokevirtual 141, 3) := by decide +kernel
theorem dL_law_1029 : decode cL_law 1029 = .ok (.aload_n 2, 1) := by decide +kernel
theorem dL_law_1030 : decode cL_law 1030 = .ok (.aload_n 0, 1) := by decide +kernel
theorem dL_law_1031 : decode cL_law 1031 = .ok (.iload_n 3, 1) := by decide +kernel
theorem dL_law_1032 : decode cL_law 1032 = .ok (.iconst 1, 1) := by decide +kernel
theorem dL_law_1033 : decode cL_law 1033 = .ok (.iadd, 1) := by decide +kernel
theorem dL_law_1034 : decode cL_law 1034 = .ok (.iaload, 1) := by decide +kernel
theorem dL_law_1035 : decode cL_law 1035 = .ok (.invokevirtual 144, 3) := by decide +kernel
theorem dL_law_1038 : decode cL_law 1038 = .ok (.if_icmp .eq 19, 3) := by decide +kernel
theorem dL_law_1041 : decode cL_law 1041 = .ok (.iconst 0, 1) := by decide +kernel
theorem dL_law_1042 : decode cL_law 1042 = .ok (.ireturn, 1) := by decide +kernel
theorem dL_law_1043 : decode cL_law 1043 = .ok (.aload_n 1, 1) := by decide +kernel
theorem dL_law_1044 : decode cL_law 1044 = .ok (.invokevirtual 145, 3) := by decide +kernel
theorem dL_law_1047 : decode cL_law 1047 = .ok (.aload_n 2, 1) := by decide +kernel
theorem dL_law_1048 : decode cL_law 1048 = .ok (.invokevirtual 148, 3) := by decide +kernel
theorem dL_law_1051 : decode cL_law 1051 = .ok (.lcmp, 1) := by decide +kernel
theorem dL_law_1052 : decode cL_law 1052 = .ok (.ifCond .eq 5, 3) := by decide +kernel
theorem dL_law_1055 : decode cL_law 1055 = .ok (.iconst 0, 1) := by decide +kernel
theorem dL_law_1056 : decode cL_law 1056 = .ok (.ireturn, 1) := by decide +kernel
theorem dL_law_1057 : decode cL_law 1057 = .ok (.iinc 3 7, 3) := by decide +kernel
theorem dL_law_1060 : decode cL_law 1060 = .ok (.goto (-1042), 3) := by decide +kernel
theorem dL_law_1063 : decode cL_law 1063 = .ok (.iconst 1, 1) := by decide +kernel
theorem dL_law_1064 : decode cL_law 1064 = .ok (.ireturn, 1) := by decide +kernel
end
section
/-! words: one list for all methods -/
def tb : List Cond := lw_tbl.filter goodWord
def qW (y : MethodName) (b : ByteArray) (n : Nat) (r : Option FieldType) : List Cond := Cond.code y b n r :: tb
theorem good_w {y : MethodName} {b : ByteArray} {n : Nat} {r : Option FieldType} (h : Cond.code y b n r ∈ tb) : GoodIn tb (qW y b n r) := by
  intro w hw
  have hm : w ∈ tb := by
    rcases List.mem_cons.mp hw with e | e
    · rw [e]; exact h
    · exact e
  exact ⟨hm, good_of_word (List.mem_filter.mp hm).2⟩
theorem mem_tb {w : Cond} (i : Nat) (h : lw_tbl[i]? = some w) (g : goodWord w = true) : w ∈ tb := List.mem_filter.mpr ⟨List.mem_of_getElem? h, g⟩
/-! contracts -/
def qP (D : va_G) (tys : List (ClassId × FieldType)) (av : List Value) (ws : va_W) (sz : Nat) : Array Value → State → Prop := va_Pc av (fun U => U.heap.size = sz ∧ va_P D vwCl ws U.heap ∧ va_K D vwCl tys U ∧ va_D (fun _ => True) ws)
def qB {S : Type} (D : va_G) (ws : va_W) (sz : Nat) (w2 : S → va_W) : S → State → Prop := fun u t => va_P D vwCl (w2 u) t.heap ∧ va_D (va_A ws sz) (w2 u)
def qQi {S : Type} (D : va_G) (ws : va_W) (sz : Nat) (post : Int32 → S → Prop) (w2 : S → va_W) : Array Value → State → Outcome → State → Prop := va_Qi post (qB D ws sz w2) (va_A ws sz)
def qQl {S : Type} (D : va_G) (ws : va_W) (sz : Nat) (post : Int64 → S → Prop) (w2 : S → va_W) : Array Value → State → Outcome → State → Prop := va_Ql post (qB D ws sz w2) (va_A ws sz)
def qQv {S : Type} (D : va_G) (ws : va_W) (sz : Nat) (post : S → Prop) (w2 : S → va_W) : Array Value → State → Outcome → State → Prop := va_Qv post (qB D ws sz w2) (va_A ws sz)
theorem qP_blind {D : va_G} {tys : List (ClassId × FieldType)} {av : List Value} {ws : va_W} {sz : Nat} : FrameBlind (qP D tys av ws sz) := by
  intro a U g mk q
  obtain ⟨q0, q1, qP, qK, qD⟩ := q
  exact ⟨q0, q1, qP, va_K.moved (u := U) (U := U.calling g mk a) (Vm.Alike.refl U.vm) qK, qD⟩
theorem q_enter {l : Launch} {y : MethodName} {b : ByteArray} {n : Nat} {r : Option FieldType} {rm : Room} {D : va_G} {tys : List (ClassId × FieldType)} {av : List Value} {w0 : va_W} {sz mc ms : Nat} {Qc : Array Value → State → Outcome → State → Prop} (hy : plainName y.cls = true) (hn : (lg_sl av).length ≤ n)
    (body : ∀ (p : Program) (e : Env) (s : State) (m : MethodId) (below : List Frame) (meth : Method) (c : Code) (ls : Array Slot), CallFix p m c b n s av.toArray tb y.cls → meth.sig.returnType = r → meth.locks = false → meth.name = y.name → va_K D vwCl tys s → va_P D vwCl w0 s.heap → va_D (va_A w0 sz) w0 → va_S (va_A w0 sz) s.heap s.heap [] → (∀ q : Nat, s.heap.size ≤ q → va_A w0 sz q) → lv_has ls n (lv_args 0 av) →
      W p l e rm s m av.toArray below meth c s.heap [] 0 0 (MQ below Qc av.toArray s mc ms (va_A w0 sz)) (F0 m 0 ls [])) :
    Met l y (qW y b n r) rm (qP D tys av w0 sz) Qc mc ms (va_A w0 sz) := by
  refine Met.ofW (cc := b) (maxL := n) (ret := r) hy rfl ?_
  intro p e s m args below meth c s₁ B hml hv
  obtain ⟨rfl, hsz, hP, hK, hD0⟩ := hv
  have hts := atoms_spec (ws := qW y b n r) B.pre
  rw [lg_entry_eq]
  exact body p e s m below meth c _ ⟨B.exec, B.bytes, hml, findClass_of_methodNamed B.named, fun w hw => hts w (List.mem_cons_of_mem _ hw)⟩ B.returns B.notSynchronized (name_of_methodNamed B.named B.method).1 hK hP (hD0.self (sz := sz)) va_S.rf (fun q h => Or.inr (by rw [← hsz]; exact h)) (lv_entry av hn)
/-! what a call site knows -/
def LkB (own : String) (index : Nat) (y : MethodName) (b : ByteArray) (n : Nat) (r : Option FieldType) (k : Nat) : Prop :=
  Cond.code y b n r ∈ tb ∧ Cond.methodLink own index y ∈ tb ∧ Cond.initialized y.cls ∈ tb ∧ (y.cls ≠ "java/lang/invoke/MethodHandle" ∧ y.cls ≠ "java/lang/invoke/VarHandle" ∧ (parseMethodDescriptor y.desc).map (fun d => d.parameters.length) = some k)
def LkV (own : String) (index : Nat) (y : MethodName) (b : ByteArray) (n : Nat) (r : Option FieldType) (k : Nat) : Prop :=
  LkB own index y b n r k ∧ Cond.instanceMethod y ∈ tb ∧ Cond.selects y.cls y y ∈ tb
def LkS (own : String) (index : Nat) (y : MethodName) (b : ByteArray) (n : Nat) (r : Option FieldType) (k : Nat) : Prop :=
  LkB own index y b n r k ∧ Cond.static y ∈ tb
def LkI (own : String) (index : Nat) (y : MethodName) (b : ByteArray) (n : Nat) (k : Nat) : Prop :=
  LkB own index y b n none k ∧ y.name = "<init>" ∧ Cond.instanceMethod y ∈ tb
section QC
variable {p : Program} {l : Launch} {e : Env} {R : Room} {s : State} {m : MethodId} {args : Array Value} {below : List Frame} {meth : Method} {c : Code} {H : Heap} {locs : List Loc} {cells slots : Nat} {Q : State → Prop}
variable {cc : ByteArray} {pc nL : Nat} {ls : Array Slot} {own : String} {D : va_G} {tys : List (ClassId × FieldType)} {ws wc wr : va_W} {A : Nat → Prop} {H0 : Heap} {index n k mc ms : Nat} {y : MethodName} {b : ByteArray} {r : Option FieldType} {rm : Room} {As st rest : List Value} {a : Nat} {S : Type} {w2 : S → va_W}
theorem lk_b (hX : CallFix p m c cc nL s args tb own) (hl : LkB own index y b n r k) (hrc : rm.cells = mc) (hrs : rm.slots = ms) (hR : rm.frames + 1 ≤ R.frames ∧ 8 + (n + 11) + rm.locals ≤ R.locals) : CallB R s args own index y b n r (qW y b n r) rm mc ms k :=
  callB_of k hX.2.2.2.2 (good_w hl.1) rfl hrc hrs (hX.2.2.2.2 _ hl.2.2.1) (hX.2.2.2.2 _ hl.2.1) hl.2.2.2 hR
theorem q_preV (hK : va_K D vwCl tys s) (hP : va_P D vwCl ws H) (hD : va_D A ws) (isC : List Nat) (hC : isC.map (fun i => ws[i]?) = wc.map some) (hnC : va_nd isC = true) (hCf : isC.filterMap (fun i => ws[i]?) = wc) : PreS s H (qP D tys As wc H.size) As :=
  ⟨qP_blind, fun U hU hW => ⟨rfl, by rw [hU], by rw [hU]; exact hP.sub isC hCf, va_K.moved hW.alike hK, (hD.sub isC hnC hC).weaken (fun _ _ _ _ => trivial)⟩⟩
theorem q_cf (isC : List Nat) (hC : isC.map (fun i => ws[i]?) = wc.map some) : isC.filterMap (fun i => ws[i]?) = wc := by
  have h : (isC.map (fun i => ws[i]?)).filterMap id = wc := by
    rw [hC, List.filterMap_map]
    simp
  rw [List.filterMap_map] at h
  exact h
theorem q_Vi {post : Int32 → S → Prop} (isC isR : List Nat) (hX : CallFix p m c cc nL s args tb own) (hK : va_K D vwCl tys s) (hP : va_P D vwCl ws H) (hD : va_D A ws) (hS : va_S A H0 H locs) (hA : ∀ q, H0.size ≤ q → A q) (hsz : ls.size = nL)
    (hl : LkV own index y b n r k) (hM : Met l y (qW y b n r) rm (qP D tys (.ref a :: As) wc H.size) (qQi D wc H.size post w2) mc ms (va_A wc H.size))
    (hC : isC.map (fun i => ws[i]?) = wc.map some) (hR : isR.map (fun i => ws[i]?) = wr.map some) (hnC : va_nd isC = true) (hnR : va_nd isR = true) (hdis : ∀ i ∈ isR, i ∉ isC)
    (q0 ci : Nat) {fs : List Value} {T : u_T} {N : Nat} (hq0 : wc[q0]? = some (a, .inr (ci, fs))) (hci : vwCl[ci]? = some (y.cls, T, N)) (hk : As.length = k) (hst : st = As.reverse ++ .ref a :: rest) (hw : (rest.map fun v => v.category).sum ≤ 8) (hrc : rm.cells = mc) (hrs : rm.slots = ms) (hRm : rm.frames + 1 ≤ R.frames ∧ 8 + (n + 11) + rm.locals ≤ R.locals) (hf : cells + mc ≤ R.cells ∧ slots + ms ≤ R.slots) (hdg : decode cc pc = .ok (.invokevirtual index, 3))
    (kk : ∀ (x : Int32) (u : S) (H1 : Heap) (locs1 : List Loc), post x u → va_P D vwCl (wr ++ w2 u) H1 → va_D A (wr ++ w2 u) → va_S A H0 H1 locs1 → W p l e R s m args below meth c H1 locs1 (cells + mc) (slots + ms) Q (F0 m (pc + 3) ls (.int x :: rest))) : W p l e R s m args below meth c H locs cells slots Q (F0 m pc ls st) := by
  subst hst
  have hFc := va_free hD hS hA isC hC
  have hp := q_preV (As := .ref a :: As) hK hP hD isC hC hnC (q_cf isC hC)
  refine va_calli (va_runV (As := As) (rest := rest) hX hM ⟨lk_b hX hl.1 hrc hrs hRm, hX.2.2.2.2 _ hl.2.1, hX.2.2.2.2 _ hl.2.2⟩ ⟨hp.1, va_recv hK (hP.sub isC (q_cf isC hC)) hci hq0, hp.2⟩ rfl hk hsz rfl (lv_room hw) hdg hf) hS (fun q _ h => hFc q h) hFc (fun x u t H1 locs1 ht hvm hpo hB hz1 hk1 hS1 => ?_)
  obtain ⟨hP1, hD1⟩ := hB
  rw [ht] at hP1
  obtain ⟨hP2, hD2⟩ := va_join hP hD isC isR hC hR hnR hdis hk1 hFc hP1 hD1
  exact kk x u H1 locs1 hpo hP2 hD2 hS1
theorem q_Vl {post : Int64 → S → Prop} (isC isR : List Nat) (hX : CallFix p m c cc nL s args tb own) (hK : va_K D vwCl tys s) (hP : va_P D vwCl ws H) (hD : va_D A ws) (hS : va_S A H0 H locs) (hA : ∀ q, H0.size ≤ q → A q) (hsz : ls.size = nL)
    (hl : LkV own index y b n r k) (hM : Met l y (qW y b n r) rm (qP D tys (.ref a :: As) wc H.size) (qQl D wc H.size post w2) mc ms (va_A wc H.size))
    (hC : isC.map (fun i => ws[i]?) = wc.map some) (hR : isR.map (fun i => ws[i]?) = wr.map some) (hnC : va_nd isC = true) (hnR : va_nd isR = true) (hdis : ∀ i ∈ isR, i ∉ isC)
    (q0 ci : Nat) {fs : List Value} {T : u_T} {N : Nat} (hq0 : wc[q0]? = some (a, .inr (ci, fs))) (hci : vwCl[ci]? = some (y.cls, T, N)) (hk : As.length = k) (hst : st = As.reverse ++ .ref a :: rest) (hw : (rest.map fun v => v.category).sum ≤ 8) (hrc : rm.cells = mc) (hrs : rm.slots = ms) (hRm : rm.frames + 1 ≤ R.frames ∧ 8 + (n + 11) + rm.locals ≤ R.locals) (hf : cells + mc ≤ R.cells ∧ slots + ms ≤ R.slots) (hdg : decode cc pc = .ok (.invokevirtual index, 3))
    (kk : ∀ (x : Int64) (u : S) (H1 : Heap) (locs1 : List Loc), post x u → va_P D vwCl (wr ++ w2 u) H1 → va_D A (wr ++ w2 u) → va_S A H0 H1 locs1 → W p l e R s m args below meth c H1 locs1 (cells + mc) (slots + ms) Q (F0 m (pc + 3) ls (.long x :: rest))) : W p l e R s m args below meth c H locs cells slots Q (F0 m pc ls st) := by
  subst hst
  have hFc := va_free hD hS hA isC hC
  have hp := q_preV (As := .ref a :: As) hK hP hD isC hC hnC (q_cf isC hC)
  refine va_calll (va_runV (As := As) (rest := rest) hX hM ⟨lk_b hX hl.1 hrc hrs hRm, hX.2.2.2.2 _ hl.2.1, hX.2.2.2.2 _ hl.2.2⟩ ⟨hp.1, va_recv hK (hP.sub isC (q_cf isC hC)) hci hq0, hp.2⟩ rfl hk hsz rfl (lv_room hw) hdg hf) hS (fun q _ h => hFc q h) hFc (fun x u t H1 locs1 ht hvm hpo hB hz1 hk1 hS1 => ?_)
  obtain ⟨hP1, hD1⟩ := hB
  rw [ht] at hP1
  obtain ⟨hP2, hD2⟩ := va_join hP hD isC isR hC hR hnR hdis hk1 hFc hP1 hD1
  exact kk x u H1 locs1 hpo hP2 hD2 hS1
theorem q_Vv {post : S → Prop} (isC isR : List Nat) (hX : CallFix p m c cc nL s args tb own) (hK : va_K D vwCl tys s) (hP : va_P D vwCl ws H) (hD : va_D A ws) (hS : va_S A H0 H locs) (hA : ∀ q, H0.size ≤ q → A q) (hsz : ls.size = nL)
    (hl : LkV own index y b n r k) (hM : Met l y (qW y b n r) rm (qP D tys (.ref a :: As) wc H.size) (qQv D wc H.size post w2) mc ms (va_A wc H.size))
    (hC : isC.map (fun i => ws[i]?) = wc.map some) (hR : isR.map (fun i => ws[i]?) = wr.map some) (hnC : va_nd isC = true) (hnR : va_nd isR = true) (hdis : ∀ i ∈ isR, i ∉ isC)
    (q0 ci : Nat) {fs : List Value} {T : u_T} {N : Nat} (hq0 : wc[q0]? = some (a, .inr (ci, fs))) (hci : vwCl[ci]? = some (y.cls, T, N)) (hk : As.length = k) (hst : st = As.reverse ++ .ref a :: rest) (hw : (rest.map fun v => v.category).sum ≤ 8) (hrc : rm.cells = mc) (hrs : rm.slots = ms) (hRm : rm.frames + 1 ≤ R.frames ∧ 8 + (n + 11) + rm.locals ≤ R.locals) (hf : cells + mc ≤ R.cells ∧ slots + ms ≤ R.slots) (hdg : decode cc pc = .ok (.invokevirtual index, 3))
    (kk : ∀ (u : S) (H1 : Heap) (locs1 : List Loc), post u → va_P D vwCl (wr ++ w2 u) H1 → va_D A (wr ++ w2 u) → va_S A H0 H1 locs1 → W p l e R s m args below meth c H1 locs1 (cells + mc) (slots + ms) Q (F0 m (pc + 3) ls rest)) : W p l e R s m args below meth c H locs cells slots Q (F0 m pc ls st) := by
  subst hst
  have hFc := va_free hD hS hA isC hC
  have hp := q_preV (As := .ref a :: As) hK hP hD isC hC hnC (q_cf isC hC)
  refine va_callv (va_runV (As := As) (rest := rest) hX hM ⟨lk_b hX hl.1 hrc hrs hRm, hX.2.2.2.2 _ hl.2.1, hX.2.2.2.2 _ hl.2.2⟩ ⟨hp.1, va_recv hK (hP.sub isC (q_cf isC hC)) hci hq0, hp.2⟩ rfl hk hsz rfl (lv_room hw) hdg hf) hS (fun q _ h => hFc q h) hFc (fun u t H1 locs1 ht hvm hpo hB hz1 hk1 hS1 => ?_)
  obtain ⟨hP1, hD1⟩ := hB
  rw [ht] at hP1
  obtain ⟨hP2, hD2⟩ := va_join hP hD isC isR hC hR hnR hdis hk1 hFc hP1 hD1
  exact kk u H1 locs1 hpo hP2 hD2 hS1
theorem q_Si {post : Int32 → S → Prop} (isC isR : List Nat) (hX : CallFix p m c cc nL s args tb own) (hK : va_K D vwCl tys s) (hP : va_P D vwCl ws H) (hD : va_D A ws) (hS : va_S A H0 H locs) (hA : ∀ q, H0.size ≤ q → A q) (hsz : ls.size = nL)
    (hl : LkS own index y b n r k) (hM : Met l y (qW y b n r) rm (qP D tys As wc H.size) (qQi D wc H.size post w2) mc ms (va_A wc H.size))
    (hC : isC.map (fun i => ws[i]?) = wc.map some) (hR : isR.map (fun i => ws[i]?) = wr.map some) (hnC : va_nd isC = true) (hnR : va_nd isR = true) (hdis : ∀ i ∈ isR, i ∉ isC)
    (hk : As.length = k) (hst : st = As.reverse ++ rest) (hw : (rest.map fun v => v.category).sum ≤ 8) (hrc : rm.cells = mc) (hrs : rm.slots = ms) (hRm : rm.frames + 1 ≤ R.frames ∧ 8 + (n + 11) + rm.locals ≤ R.locals) (hf : cells + mc ≤ R.cells ∧ slots + ms ≤ R.slots) (hdg : decode cc pc = .ok (.invokestatic index, 3))
    (kk : ∀ (x : Int32) (u : S) (H1 : Heap) (locs1 : List Loc), post x u → va_P D vwCl (wr ++ w2 u) H1 → va_D A (wr ++ w2 u) → va_S A H0 H1 locs1 → W p l e R s m args below meth c H1 locs1 (cells + mc) (slots + ms) Q (F0 m (pc + 3) ls (.int x :: rest))) : W p l e R s m args below meth c H locs cells slots Q (F0 m pc ls st) := by
  subst hst
  have hFc := va_free hD hS hA isC hC
  have hp := q_preV (As := As) hK hP hD isC hC hnC (q_cf isC hC)
  refine va_calli (va_runS (As := As) (rest := rest) hX hM ⟨lk_b hX hl.1 hrc hrs hRm, hX.2.2.2.2 _ hl.2⟩ hp rfl hk hsz rfl (lv_room hw) hdg hf) hS (fun q _ h => hFc q h) hFc (fun x u t H1 locs1 ht hvm hpo hB hz1 hk1 hS1 => ?_)
  obtain ⟨hP1, hD1⟩ := hB
  rw [ht] at hP1
  obtain ⟨hP2, hD2⟩ := va_join hP hD isC isR hC hR hnR hdis hk1 hFc hP1 hD1
  exact kk x u H1 locs1 hpo hP2 hD2 hS1
theorem q_Sv {post : S → Prop} (isC isR : List Nat) (hX : CallFix p m c cc nL s args tb own) (hK : va_K D vwCl tys s) (hP : va_P D vwCl ws H) (hD : va_D A ws) (hS : va_S A H0 H locs) (hA : ∀ q, H0.size ≤ q → A q) (hsz : ls.size = nL)
    (hl : LkS own index y b n r k) (hM : Met l y (qW y b n r) rm (qP D tys As wc H.size) (qQv D wc H.size post w2) mc ms (va_A wc H.size))
    (hC : isC.map (fun i => ws[i]?) = wc.map some) (hR : isR.map (fun i => ws[i]?) = wr.map some) (hnC : va_nd isC = true) (hnR : va_nd isR = true) (hdis : ∀ i ∈ isR, i ∉ isC)
    (hk : As.length = k) (hst : st = As.reverse ++ rest) (hw : (rest.map fun v => v.category).sum ≤ 8) (hrc : rm.cells = mc) (hrs : rm.slots = ms) (hRm : rm.frames + 1 ≤ R.frames ∧ 8 + (n + 11) + rm.locals ≤ R.locals) (hf : cells + mc ≤ R.cells ∧ slots + ms ≤ R.slots) (hdg : decode cc pc = .ok (.invokestatic index, 3))
    (kk : ∀ (u : S) (H1 : Heap) (locs1 : List Loc), post u → va_P D vwCl (wr ++ w2 u) H1 → va_D A (wr ++ w2 u) → va_S A H0 H1 locs1 → W p l e R s m args below meth c H1 locs1 (cells + mc) (slots + ms) Q (F0 m (pc + 3) ls rest)) : W p l e R s m args below meth c H locs cells slots Q (F0 m pc ls st) := by
  subst hst
  have hFc := va_free hD hS hA isC hC
  have hp := q_preV (As := As) hK hP hD isC hC hnC (q_cf isC hC)
  refine va_callv (va_runS (As := As) (rest := rest) hX hM ⟨lk_b hX hl.1 hrc hrs hRm, hX.2.2.2.2 _ hl.2⟩ hp rfl hk hsz rfl (lv_room hw) hdg hf) hS (fun q _ h => hFc q h) hFc (fun u t H1 locs1 ht hvm hpo hB hz1 hk1 hS1 => ?_)
  obtain ⟨hP1, hD1⟩ := hB
  rw [ht] at hP1
  obtain ⟨hP2, hD2⟩ := va_join hP hD isC isR hC hR hnR hdis hk1 hFc hP1 hD1
  exact kk u H1 locs1 hpo hP2 hD2 hS1
theorem q_Iv {post : S → Prop} (isC isR : List Nat) (hX : CallFix p m c cc nL s args tb own) (hK : va_K D vwCl tys s) (hP : va_P D vwCl ws H) (hD : va_D A ws) (hS : va_S A H0 H locs) (hA : ∀ q, H0.size ≤ q → A q) (hsz : ls.size = nL)
    (hl : LkI own index y b n k) (hM : Met l y (qW y b n none) rm (qP D tys (.ref a :: As) wc H.size) (qQv D wc H.size post w2) mc ms (va_A wc H.size))
    (hC : isC.map (fun i => ws[i]?) = wc.map some) (hR : isR.map (fun i => ws[i]?) = wr.map some) (hnC : va_nd isC = true) (hnR : va_nd isR = true) (hdis : ∀ i ∈ isR, i ∉ isC)
    (hk : As.length = k) (hst : st = As.reverse ++ .ref a :: rest) (hw : (rest.map fun v => v.category).sum ≤ 8) (hrc : rm.cells = mc) (hrs : rm.slots = ms) (hRm : rm.frames + 1 ≤ R.frames ∧ 8 + (n + 11) + rm.locals ≤ R.locals) (hf : cells + mc ≤ R.cells ∧ slots + ms ≤ R.slots) (hdg : decode cc pc = .ok (.invokespecial index, 3))
    (kk : ∀ (u : S) (H1 : Heap) (locs1 : List Loc), post u → va_P D vwCl (wr ++ w2 u) H1 → va_D A (wr ++ w2 u) → va_S A H0 H1 locs1 → W p l e R s m args below meth c H1 locs1 (cells + mc) (slots + ms) Q (F0 m (pc + 3) ls rest)) : W p l e R s m args below meth c H locs cells slots Q (F0 m pc ls st) := by
  subst hst
  have hFc := va_free hD hS hA isC hC
  have hp := q_preV (As := .ref a :: As) hK hP hD isC hC hnC (q_cf isC hC)
  refine va_callv (va_runI (As := As) (rest := rest) hX hM ⟨lk_b hX hl.1 hrc hrs hRm, hl.2.1, hX.2.2.2.2 _ hl.2.2⟩ hp rfl hk hsz rfl (lv_room hw) hdg hf) hS (fun q _ h => hFc q h) hFc (fun u t H1 locs1 ht hvm hpo hB hz1 hk1 hS1 => ?_)
  obtain ⟨hP1, hD1⟩ := hB
  rw [ht] at hP1
  obtain ⟨hP2, hD2⟩ := va_join hP hD isC isR hC hR hnR hdis hk1 hFc hP1 hD1
  exact kk u H1 locs1 hpo hP2 hD2 hS1
/-! ends -/
variable {w0 : va_W} {sz : Nat}
theorem q_iret {post : Int32 → S → Prop} {v : Int32} (hX : CallFix p m c cc nL s args tb own) (hr : meth.sig.returnType = some .int) (hlk : meth.locks = false) (u : S) (hp : post v u) (hP : va_P D vwCl (w2 u) H) (hD : va_D (va_A w0 sz) (w2 u)) (hS : va_S (va_A w0 sz) s.heap H locs) (hdg : decode cc pc = .ok (.ireturn, 1)) : W p l e R s m args below meth c H locs cells slots (MQ below (qQi D w0 sz post w2) args s cells slots (va_A w0 sz)) (F0 m pc ls [.int v]) :=
  W.iret hX.1 hX.2.1 hr (fun t ht hW => ⟨⟨v, u, rfl, hp, by rw [ht]; exact hP, hD⟩, hS.F ht⟩) hS.2.2 hdg hlk
theorem q_zret {post : Int32 → S → Prop} {v : Int32} (hX : CallFix p m c cc nL s args tb own) (hr : meth.sig.returnType = some .boolean) (hlk : meth.locks = false) (hn : narrow .boolean (.int v) = .int v) (u : S) (hp : post v u) (hP : va_P D vwCl (w2 u) H) (hD : va_D (va_A w0 sz) (w2 u)) (hS : va_S (va_A w0 sz) s.heap H locs) (hdg : decode cc pc = .ok (.ireturn, 1)) : W p l e R s m args below meth c H locs cells slots (MQ below (qQi D w0 sz post w2) args s cells slots (va_A w0 sz)) (F0 m pc ls [.int v]) :=
  W.zret hX.1 hX.2.1 hr hn (fun t ht hW => ⟨⟨v, u, rfl, hp, by rw [ht]; exact hP, hD⟩, hS.F ht⟩) hS.2.2 hdg hlk
theorem q_lret {post : Int64 → S → Prop} {v : Int64} (hX : CallFix p m c cc nL s args tb own) (hr : meth.sig.returnType = some .long) (hlk : meth.locks = false) (u : S) (hp : post v u) (hP : va_P D vwCl (w2 u) H) (hD : va_D (va_A w0 sz) (w2 u)) (hS : va_S (va_A w0 sz) s.heap H locs) (hdg : decode cc pc = .ok (.lreturn, 1)) : W p l e R s m args below meth c H locs cells slots (MQ below (qQl D w0 sz post w2) args s cells slots (va_A w0 sz)) (F0 m pc ls [.long v]) :=
  W.lret hX.1 hX.2.1 hr (fun t ht hW => ⟨⟨v, u, rfl, hp, by rw [ht]; exact hP, hD⟩, hS.F ht⟩) hS.2.2 hdg hlk
theorem q_vret {post : S → Prop} (hX : CallFix p m c cc nL s args tb own) (hr : meth.sig.returnType = none) (hlk : meth.locks = false) (u : S) (hp : post u) (hP : va_P D vwCl (w2 u) H) (hD : va_D (va_A w0 sz) (w2 u)) (hS : va_S (va_A w0 sz) s.heap H locs) (hdg : decode cc pc = .ok (.return_, 1)) : W p l e R s m args below meth c H locs cells slots (MQ below (qQv D w0 sz post w2) args s cells slots (va_A w0 sz)) (F0 m pc ls []) :=
  W.vret hX.1 hX.2.1 hr (fun t ht hW => ⟨⟨u, rfl, hp, by rw [ht]; exact hP, hD⟩, hS.F ht⟩) hS.2.2 hdg hlk
/-! a number at the stack's top, by another name -/
theorem q_i {x z : Int32} (h : x = z) (k : W p l e R s m args below meth c H locs cells slots Q (F0 m pc ls (.int z :: rest))) : W p l e R s m args below meth c H locs cells slots Q (F0 m pc ls (.int x :: rest)) := by rw [h]; exact k
theorem q_l {x z : Int64} (h : x = z) (k : W p l e R s m args below meth c H locs cells slots Q (F0 m pc ls (.long z :: rest))) : W p l e R s m args below meth c H locs cells slots Q (F0 m pc ls (.long x :: rest)) := by rw [h]; exact k
end QC
end
section
set_option maxRecDepth 20000 in
theorem kw_86 : Cond.initialized "FourHandsLaw" ∈ tb := mem_tb 86 rfl rfl
set_option maxRecDepth 20000 in
theorem kw_87 : Cond.initialized "FourHands" ∈ tb := mem_tb 87 rfl rfl
set_option maxRecDepth 20000 in
theorem kw_88 : Cond.initialized "FourHands$Piece" ∈ tb := mem_tb 88 rfl rfl
set_option maxRecDepth 20000 in
theorem kw_89 : Cond.initialized "java/util/Arrays" ∈ tb := mem_tb 89 rfl rfl
set_option maxRecDepth 20000 in
theorem kw_90 : Cond.initialized "FourHands$Script" ∈ tb := mem_tb 90 rfl rfl
set_option maxRecDepth 20000 in
theorem kw_91 : Cond.initialized "FourHands$Handing" ∈ tb := mem_tb 91 rfl rfl
set_option maxRecDepth 20000 in
theorem kw_92 : Cond.initialized "FourHands$Fingering" ∈ tb := mem_tb 92 rfl rfl
set_option maxRecDepth 20000 in
theorem kw_93 : Cond.initialized "FourHands$Pedalling" ∈ tb := mem_tb 93 rfl rfl
set_option maxRecDepth 20000 in
theorem kw_94 : Cond.initialized "FourHands$Practising" ∈ tb := mem_tb 94 rfl rfl
set_option maxRecDepth 20000 in
theorem kw_95 : Cond.initialized "FourHandsModel" ∈ tb := mem_tb 95 rfl rfl
set_option maxRecDepth 20000 in
theorem kw_96 : Cond.initialized "java/lang/Math" ∈ tb := mem_tb 96 rfl rfl
set_option maxRecDepth 20000 in
theorem kw_97 : Cond.initialized "java/lang/String" ∈ tb := mem_tb 97 rfl rfl
set_option maxRecDepth 20000 in
theorem kw_98 : Cond.initialized "java/lang/StringLatin1" ∈ tb := mem_tb 98 rfl rfl
set_option maxRecDepth 20000 in
theorem kw_99 : Cond.initialized "jdk/internal/util/Preconditions" ∈ tb := mem_tb 99 rfl rfl
set_option maxRecDepth 20000 in
theorem kw_100 : Cond.initialized "java/lang/StringUTF16" ∈ tb := mem_tb 100 rfl rfl
set_option maxRecDepth 20000 in
theorem kw_101 : Cond.initialized "java/lang/System" ∈ tb := mem_tb 101 rfl rfl
set_option maxRecDepth 20000 in
theorem kw_102 : Cond.initialized "java/lang/Integer" ∈ tb := mem_tb 102 rfl rfl
set_option maxRecDepth 20000 in
theorem kw_103 : Cond.classLink "FourHandsLaw" 7 "FourHands" ∈ tb := mem_tb 103 rfl rfl
set_option maxRecDepth 20000 in
theorem kw_104 : Cond.instantiable "FourHands" 14 ∈ tb := mem_tb 104 rfl rfl
set_option maxRecDepth 20000 in
theorem kw_111 : Cond.classLink "FourHands" 7 "FourHands$Piece" ∈ tb := mem_tb 111 rfl rfl
set_option maxRecDepth 20000 in
theorem kw_112 : Cond.instantiable "FourHands$Piece" 18 ∈ tb := mem_tb 112 rfl rfl
set_option maxRecDepth 20000 in
theorem kw_120 : Cond.fieldLink "FourHands$Piece" 9 "FourHands$Piece" "near" "I" ∈ tb := mem_tb 120 rfl rfl
set_option maxRecDepth 20000 in
theorem kw_121 : Cond.fieldLink "FourHands" 299 "FourHands$Piece" "near" "I" ∈ tb := mem_tb 121 rfl rfl
set_option maxRecDepth 20000 in
theorem kw_122 : Cond.fieldLink "FourHands$Piece" 61 "FourHands$Piece" "notes" "I" ∈ tb := mem_tb 122 rfl rfl
set_option maxRecDepth 20000 in
theorem kw_123 : Cond.fieldLink "FourHands" 70 "FourHands$Piece" "notes" "I" ∈ tb := mem_tb 123 rfl rfl
set_option maxRecDepth 20000 in
theorem kw_124 : Cond.fieldLink "FourHands$Handing" 38 "FourHands$Piece" "notes" "I" ∈ tb := mem_tb 124 rfl rfl
set_option maxRecDepth 20000 in
theorem kw_125 : Cond.fieldLink "FourHands$Pedalling" 28 "FourHands$Piece" "notes" "I" ∈ tb := mem_tb 125 rfl rfl
set_option maxRecDepth 20000 in
theorem kw_126 : Cond.fieldLink "FourHands$Fingering" 39 "FourHands$Piece" "notes" "I" ∈ tb := mem_tb 126 rfl rfl
set_option maxRecDepth 20000 in
theorem kw_127 : Cond.fieldLink "FourHands$Practising" 47 "FourHands$Piece" "notes" "I" ∈ tb := mem_tb 127 rfl rfl
set_option maxRecDepth 20000 in
theorem kw_128 : Cond.fieldLink "FourHands$Script" 58 "FourHands$Piece" "notes" "I" ∈ tb := mem_tb 128 rfl rfl
set_option maxRecDepth 20000 in
theorem kw_129 : Cond.fieldLink "FourHands$Piece" 15 "FourHands$Piece" "keys" "[I" ∈ tb := mem_tb 129 rfl rfl
set_option maxRecDepth 20000 in
theorem kw_130 : Cond.fieldLink "FourHands$Pedalling" 50 "FourHands$Piece" "keys" "[I" ∈ tb := mem_tb 130 rfl rfl
set_option maxRecDepth 20000 in
theorem kw_131 : Cond.fieldLink "FourHands$Fingering" 54 "FourHands$Piece" "keys" "[I" ∈ tb := mem_tb 131 rfl rfl
set_option maxRecDepth 20000 in
theorem kw_132 : Cond.fieldLink "FourHands" 134 "FourHands$Piece" "keys" "[I" ∈ tb := mem_tb 132 rfl rfl
set_option maxRecDepth 20000 in
theorem kw_133 : Cond.fieldLink "FourHands$Piece" 19 "FourHands$Piece" "moments" "[I" ∈ tb := mem_tb 133 rfl rfl
set_option maxRecDepth 20000 in
theorem kw_134 : Cond.fieldLink "FourHands$Pedalling" 38 "FourHands$Piece" "moments" "[I" ∈ tb := mem_tb 134 rfl rfl
set_option maxRecDepth 20000 in
theorem kw_135 : Cond.fieldLink "FourHands$Practising" 56 "FourHands$Piece" "moments" "[I" ∈ tb := mem_tb 135 rfl rfl
set_option maxRecDepth 20000 in
theorem kw_136 : Cond.fieldLink "FourHands$Fingering" 51 "FourHands$Piece" "moments" "[I" ∈ tb := mem_tb 136 rfl rfl
set_option maxRecDepth 20000 in
theorem kw_137 : Cond.fieldLink "FourHands" 137 "FourHands$Piece" "moments" "[I" ∈ tb := mem_tb 137 rfl rfl
set_option maxRecDepth 20000 in
theorem kw_138 : Cond.fieldLink "FourHands$Piece" 22 "FourHands$Piece" "lengths" "[I" ∈ tb := mem_tb 138 rfl rfl
set_option maxRecDepth 20000 in
theorem kw_139 : Cond.fieldLink "FourHands$Pedalling" 44 "FourHands$Piece" "lengths" "[I" ∈ tb := mem_tb 139 rfl rfl
set_option maxRecDepth 20000 in
theorem kw_140 : Cond.fieldLink "FourHands" 140 "FourHands$Piece" "lengths" "[I" ∈ tb := mem_tb 140 rfl rfl
set_option maxRecDepth 20000 in
theorem kw_141 : Cond.fieldLink "FourHands$Piece" 25 "FourHands$Piece" "parts" "[I" ∈ tb := mem_tb 141 rfl rfl
set_option maxRecDepth 20000 in
theorem kw_142 : Cond.fieldLink "FourHands" 143 "FourHands$Piece" "parts" "[I" ∈ tb := mem_tb 142 rfl rfl
set_option maxRecDepth 20000 in
theorem kw_143 : Cond.fieldLink "FourHands$Piece" 28 "FourHands$Piece" "louds" "[I" ∈ tb := mem_tb 143 rfl rfl
set_option maxRecDepth 20000 in
theorem kw_144 : Cond.fieldLink "FourHands" 146 "FourHands$Piece" "louds" "[I" ∈ tb := mem_tb 144 rfl rfl
set_option maxRecDepth 20000 in
theorem kw_145 : Cond.fieldLink "FourHands$Piece" 31 "FourHands$Piece" "hands" "[I" ∈ tb := mem_tb 145 rfl rfl
set_option maxRecDepth 20000 in
theorem kw_146 : Cond.fieldLink "FourHands$Fingering" 44 "FourHands$Piece" "hands" "[I" ∈ tb := mem_tb 146 rfl rfl
set_option maxRecDepth 20000 in
theorem kw_147 : Cond.fieldLink "FourHands$Handing" 53 "FourHands$Piece" "hands" "[I" ∈ tb := mem_tb 147 rfl rfl
set_option maxRecDepth 20000 in
theorem kw_148 : Cond.fieldLink "FourHands" 149 "FourHands$Piece" "hands" "[I" ∈ tb := mem_tb 148 rfl rfl
set_option maxRecDepth 20000 in
theorem kw_149 : Cond.fieldLink "FourHands$Piece" 34 "FourHands$Piece" "lates" "[I" ∈ tb := mem_tb 149 rfl rfl
set_option maxRecDepth 20000 in
theorem kw_150 : Cond.fieldLink "FourHands" 246 "FourHands$Piece" "lates" "[I" ∈ tb := mem_tb 150 rfl rfl
set_option maxRecDepth 20000 in
theorem kw_151 : Cond.fieldLink "FourHands$Piece" 37 "FourHands$Piece" "kinds" "[I" ∈ tb := mem_tb 151 rfl rfl
set_option maxRecDepth 20000 in
theorem kw_152 : Cond.fieldLink "FourHands" 81 "FourHands$Piece" "kinds" "[I" ∈ tb := mem_tb 152 rfl rfl
set_option maxRecDepth 20000 in
theorem kw_153 : Cond.fieldLink "FourHands$Piece" 40 "FourHands$Piece" "reach" "[I" ∈ tb := mem_tb 153 rfl rfl
set_option maxRecDepth 20000 in
theorem kw_154 : Cond.fieldLink "FourHands$Piece" 43 "FourHands$Piece" "speed" "[I" ∈ tb := mem_tb 154 rfl rfl
set_option maxRecDepth 20000 in
theorem kw_155 : Cond.fieldLink "FourHands$Piece" 64 "FourHands$Piece" "pedalFrom" "I" ∈ tb := mem_tb 155 rfl rfl
set_option maxRecDepth 20000 in
theorem kw_156 : Cond.fieldLink "FourHands" 200 "FourHands$Piece" "pedalFrom" "I" ∈ tb := mem_tb 156 rfl rfl
set_option maxRecDepth 20000 in
theorem kw_157 : Cond.fieldLink "FourHands$Piece" 67 "FourHands$Piece" "pedalTo" "I" ∈ tb := mem_tb 157 rfl rfl
set_option maxRecDepth 20000 in
theorem kw_158 : Cond.fieldLink "FourHands" 203 "FourHands$Piece" "pedalTo" "I" ∈ tb := mem_tb 158 rfl rfl
set_option maxRecDepth 20000 in
theorem kw_159 : Cond.fieldLink "FourHands$Piece" 70 "FourHands$Piece" "undos" "I" ∈ tb := mem_tb 159 rfl rfl
set_option maxRecDepth 20000 in
theorem kw_160 : Cond.fieldLink "FourHands" 125 "FourHands$Piece" "undos" "I" ∈ tb := mem_tb 160 rfl rfl
set_option maxRecDepth 20000 in
theorem kw_161 : Cond.fieldLink "FourHands$Piece" 46 "FourHands$Piece" "undoNotes" "[I" ∈ tb := mem_tb 161 rfl rfl
set_option maxRecDepth 20000 in
theorem kw_162 : Cond.fieldLink "FourHands$Piece" 49 "FourHands$Piece" "undoHands" "[I" ∈ tb := mem_tb 162 rfl rfl
set_option maxRecDepth 20000 in
theorem kw_163 : Cond.fieldLink "FourHands$Piece" 52 "FourHands$Piece" "partners" "[I" ∈ tb := mem_tb 163 rfl rfl
set_option maxRecDepth 20000 in
theorem kw_203 : Cond.classLink "FourHands" 23 "FourHands$Script" ∈ tb := mem_tb 203 rfl rfl
set_option maxRecDepth 20000 in
theorem kw_204 : Cond.instantiable "FourHands$Script" 7 ∈ tb := mem_tb 204 rfl rfl
set_option maxRecDepth 20000 in
theorem kw_209 : Cond.fieldLink "FourHands$Script" 9 "FourHands$Script" "bytes" "[I" ∈ tb := mem_tb 209 rfl rfl
set_option maxRecDepth 20000 in
theorem kw_210 : Cond.fieldLink "FourHands$Script" 18 "FourHands$Script" "length" "I" ∈ tb := mem_tb 210 rfl rfl
set_option maxRecDepth 20000 in
theorem kw_211 : Cond.fieldLink "FourHands" 100 "FourHands$Script" "length" "I" ∈ tb := mem_tb 211 rfl rfl
set_option maxRecDepth 20000 in
theorem kw_212 : Cond.fieldLink "FourHands$Script" 22 "FourHands$Script" "next" "I" ∈ tb := mem_tb 212 rfl rfl
set_option maxRecDepth 20000 in
theorem kw_213 : Cond.fieldLink "FourHands$Script" 35 "FourHands$Script" "place" "I" ∈ tb := mem_tb 213 rfl rfl
set_option maxRecDepth 20000 in
theorem kw_214 : Cond.fieldLink "FourHands$Script" 28 "FourHands$Script" "sort" "I" ∈ tb := mem_tb 214 rfl rfl
set_option maxRecDepth 20000 in
theorem kw_215 : Cond.fieldLink "FourHands$Script" 15 "FourHands$Script" "numbers" "[I" ∈ tb := mem_tb 215 rfl rfl
set_option maxRecDepth 20000 in
theorem kw_216 : Cond.fieldLink "FourHands$Script" 44 "FourHands$Script" "told" "I" ∈ tb := mem_tb 216 rfl rfl
set_option maxRecDepth 20000 in
theorem kw_232 : Cond.classLink "FourHands" 30 "FourHands$Handing" ∈ tb := mem_tb 232 rfl rfl
set_option maxRecDepth 20000 in
theorem kw_233 : Cond.instantiable "FourHands$Handing" 5 ∈ tb := mem_tb 233 rfl rfl
set_option maxRecDepth 20000 in
theorem kw_238 : Cond.fieldLink "FourHands$Handing" 28 "FourHands$Handing" "fewest" "I" ∈ tb := mem_tb 238 rfl rfl
set_option maxRecDepth 20000 in
theorem kw_239 : Cond.fieldLink "FourHands" 172 "FourHands$Handing" "fewest" "I" ∈ tb := mem_tb 239 rfl rfl
set_option maxRecDepth 20000 in
theorem kw_240 : Cond.fieldLink "FourHands$Handing" 31 "FourHands$Handing" "changes" "I" ∈ tb := mem_tb 240 rfl rfl
set_option maxRecDepth 20000 in
theorem kw_241 : Cond.fieldLink "FourHands" 175 "FourHands$Handing" "changes" "I" ∈ tb := mem_tb 241 rfl rfl
set_option maxRecDepth 20000 in
theorem kw_242 : Cond.fieldLink "FourHands$Handing" 9 "FourHands$Handing" "row" "[I" ∈ tb := mem_tb 242 rfl rfl
set_option maxRecDepth 20000 in
theorem kw_243 : Cond.fieldLink "FourHands" 178 "FourHands$Handing" "row" "[I" ∈ tb := mem_tb 243 rfl rfl
set_option maxRecDepth 20000 in
theorem kw_244 : Cond.fieldLink "FourHands$Handing" 24 "FourHands$Handing" "all" "I" ∈ tb := mem_tb 244 rfl rfl
set_option maxRecDepth 20000 in
theorem kw_245 : Cond.fieldLink "FourHands$Handing" 15 "FourHands$Handing" "with" "[I" ∈ tb := mem_tb 245 rfl rfl
set_option maxRecDepth 20000 in
theorem kw_257 : Cond.classLink "FourHands" 37 "FourHands$Fingering" ∈ tb := mem_tb 257 rfl rfl
set_option maxRecDepth 20000 in
theorem kw_258 : Cond.instantiable "FourHands$Fingering" 5 ∈ tb := mem_tb 258 rfl rfl
set_option maxRecDepth 20000 in
theorem kw_263 : Cond.fieldLink "FourHands$Fingering" 29 "FourHands$Fingering" "many" "I" ∈ tb := mem_tb 263 rfl rfl
set_option maxRecDepth 20000 in
theorem kw_264 : Cond.fieldLink "FourHands" 196 "FourHands$Fingering" "many" "I" ∈ tb := mem_tb 264 rfl rfl
set_option maxRecDepth 20000 in
theorem kw_265 : Cond.fieldLink "FourHands$Fingering" 25 "FourHands$Fingering" "cost" "I" ∈ tb := mem_tb 265 rfl rfl
set_option maxRecDepth 20000 in
theorem kw_266 : Cond.fieldLink "FourHands" 193 "FourHands$Fingering" "cost" "I" ∈ tb := mem_tb 266 rfl rfl
set_option maxRecDepth 20000 in
theorem kw_267 : Cond.fieldLink "FourHands$Fingering" 9 "FourHands$Fingering" "row" "[I" ∈ tb := mem_tb 267 rfl rfl
set_option maxRecDepth 20000 in
theorem kw_268 : Cond.fieldLink "FourHands" 199 "FourHands$Fingering" "row" "[I" ∈ tb := mem_tb 268 rfl rfl
set_option maxRecDepth 20000 in
theorem kw_269 : Cond.fieldLink "FourHands$Fingering" 15 "FourHands$Fingering" "order" "[I" ∈ tb := mem_tb 269 rfl rfl
set_option maxRecDepth 20000 in
theorem kw_270 : Cond.fieldLink "FourHands$Fingering" 18 "FourHands$Fingering" "least" "[I" ∈ tb := mem_tb 270 rfl rfl
set_option maxRecDepth 20000 in
theorem kw_282 : Cond.classLink "FourHands" 44 "FourHands$Pedalling" ∈ tb := mem_tb 282 rfl rfl
set_option maxRecDepth 20000 in
theorem kw_283 : Cond.instantiable "FourHands$Pedalling" 8 ∈ tb := mem_tb 283 rfl rfl
set_option maxRecDepth 20000 in
theorem kw_288 : Cond.fieldLink "FourHands$Pedalling" 70 "FourHands$Pedalling" "most" "I" ∈ tb := mem_tb 288 rfl rfl
set_option maxRecDepth 20000 in
theorem kw_289 : Cond.fieldLink "FourHands" 218 "FourHands$Pedalling" "most" "I" ∈ tb := mem_tb 289 rfl rfl
set_option maxRecDepth 20000 in
theorem kw_290 : Cond.fieldLink "FourHands$Pedalling" 73 "FourHands$Pedalling" "bestFrom" "I" ∈ tb := mem_tb 290 rfl rfl
set_option maxRecDepth 20000 in
theorem kw_291 : Cond.fieldLink "FourHands" 221 "FourHands$Pedalling" "bestFrom" "I" ∈ tb := mem_tb 291 rfl rfl
set_option maxRecDepth 20000 in
theorem kw_292 : Cond.fieldLink "FourHands$Pedalling" 76 "FourHands$Pedalling" "bestTo" "I" ∈ tb := mem_tb 292 rfl rfl
set_option maxRecDepth 20000 in
theorem kw_293 : Cond.fieldLink "FourHands" 224 "FourHands$Pedalling" "bestTo" "I" ∈ tb := mem_tb 293 rfl rfl
set_option maxRecDepth 20000 in
theorem kw_294 : Cond.fieldLink "FourHands$Pedalling" 9 "FourHands$Pedalling" "ends" "[I" ∈ tb := mem_tb 294 rfl rfl
set_option maxRecDepth 20000 in
theorem kw_295 : Cond.fieldLink "FourHands$Pedalling" 41 "FourHands$Pedalling" "endCount" "I" ∈ tb := mem_tb 295 rfl rfl
set_option maxRecDepth 20000 in
theorem kw_296 : Cond.fieldLink "FourHands$Pedalling" 15 "FourHands$Pedalling" "earlier" "[I" ∈ tb := mem_tb 296 rfl rfl
set_option maxRecDepth 20000 in
theorem kw_297 : Cond.fieldLink "FourHands$Pedalling" 18 "FourHands$Pedalling" "later" "[I" ∈ tb := mem_tb 297 rfl rfl
set_option maxRecDepth 20000 in
theorem kw_298 : Cond.fieldLink "FourHands$Pedalling" 47 "FourHands$Pedalling" "pairCount" "I" ∈ tb := mem_tb 298 rfl rfl
set_option maxRecDepth 20000 in
theorem kw_316 : Cond.classLink "FourHands" 51 "FourHands$Practising" ∈ tb := mem_tb 316 rfl rfl
set_option maxRecDepth 20000 in
theorem kw_317 : Cond.instantiable "FourHands$Practising" 4 ∈ tb := mem_tb 317 rfl rfl
set_option maxRecDepth 20000 in
theorem kw_322 : Cond.fieldLink "FourHands$Practising" 33 "FourHands$Practising" "slips" "I" ∈ tb := mem_tb 322 rfl rfl
set_option maxRecDepth 20000 in
theorem kw_323 : Cond.fieldLink "FourHands" 234 "FourHands$Practising" "slips" "I" ∈ tb := mem_tb 323 rfl rfl
set_option maxRecDepth 20000 in
theorem kw_324 : Cond.fieldLink "FourHands$Practising" 9 "FourHands$Practising" "row" "[I" ∈ tb := mem_tb 324 rfl rfl
set_option maxRecDepth 20000 in
theorem kw_325 : Cond.fieldLink "FourHands" 237 "FourHands$Practising" "row" "[I" ∈ tb := mem_tb 325 rfl rfl
set_option maxRecDepth 20000 in
theorem kw_326 : Cond.fieldLink "FourHands$Practising" 15 "FourHands$Practising" "left" "[I" ∈ tb := mem_tb 326 rfl rfl
set_option maxRecDepth 20000 in
theorem kw_327 : Cond.fieldLink "FourHands$Practising" 18 "FourHands$Practising" "least" "[I" ∈ tb := mem_tb 327 rfl rfl
set_option maxRecDepth 20000 in
theorem kw_337 : Cond.fieldLink "FourHands" 10 "FourHands" "now" "LFourHands$Piece;" ∈ tb := mem_tb 337 rfl rfl
set_option maxRecDepth 20000 in
theorem kw_338 : Cond.fieldLink "FourHands" 16 "FourHands" "spare" "LFourHands$Piece;" ∈ tb := mem_tb 338 rfl rfl
set_option maxRecDepth 20000 in
theorem kw_339 : Cond.fieldLink "FourHands" 19 "FourHands" "images" "[LFourHands$Piece;" ∈ tb := mem_tb 339 rfl rfl
set_option maxRecDepth 20000 in
theorem kw_340 : Cond.fieldLink "FourHands" 26 "FourHands" "script" "LFourHands$Script;" ∈ tb := mem_tb 340 rfl rfl
set_option maxRecDepth 20000 in
theorem kw_341 : Cond.fieldLink "FourHands" 33 "FourHands" "handing" "LFourHands$Handing;" ∈ tb := mem_tb 341 rfl rfl
set_option maxRecDepth 20000 in
theorem kw_342 : Cond.fieldLink "FourHands" 40 "FourHands" "fingering" "LFourHands$Fingering;" ∈ tb := mem_tb 342 rfl rfl
set_option maxRecDepth 20000 in
theorem kw_343 : Cond.fieldLink "FourHands" 47 "FourHands" "pedalling" "LFourHands$Pedalling;" ∈ tb := mem_tb 343 rfl rfl
set_option maxRecDepth 20000 in
theorem kw_344 : Cond.fieldLink "FourHands" 54 "FourHands" "practising" "LFourHands$Practising;" ∈ tb := mem_tb 344 rfl rfl
set_option maxRecDepth 20000 in
theorem kw_345 : Cond.fieldLink "FourHands" 269 "FourHands" "kept" "I" ∈ tb := mem_tb 345 rfl rfl
set_option maxRecDepth 20000 in
theorem kw_346 : Cond.fieldLink "FourHands" 266 "FourHands" "above" "J" ∈ tb := mem_tb 346 rfl rfl
set_option maxRecDepth 20000 in
theorem kw_347 : Cond.fieldLink "FourHands" 58 "FourHands" "below" "J" ∈ tb := mem_tb 347 rfl rfl
set_option maxRecDepth 20000 in
theorem kw_348 : Cond.fieldLink "FourHands" 272 "FourHands" "bads" "I" ∈ tb := mem_tb 348 rfl rfl
set_option maxRecDepth 20000 in
theorem kw_349 : Cond.fieldLink "FourHands" 275 "FourHands" "noes" "I" ∈ tb := mem_tb 349 rfl rfl
set_option maxRecDepth 20000 in
theorem kw_350 : Cond.fieldLink "FourHands" 278 "FourHands" "fulls" "I" ∈ tb := mem_tb 350 rfl rfl
set_option maxRecDepth 20000 in
theorem kw_470 : Cond.fieldLink "java/lang/String" 38 "java/lang/String" "COMPACT_STRINGS" "Z" ∈ tb := mem_tb 470 rfl rfl
set_option maxRecDepth 20000 in
theorem kw_486 : Cond.fieldLink "java/lang/String" 1053 "jdk/internal/util/Preconditions" "SIOOBE_FORMATTER" "Ljava/util/function/BiFunction;" ∈ tb := mem_tb 486 rfl rfl
set_option maxRecDepth 20000 in
theorem kw_504 : Cond.fieldLink "java/lang/StringUTF16" 44 "java/lang/StringUTF16" "$assertionsDisabled" "Z" ∈ tb := mem_tb 504 rfl rfl
set_option maxRecDepth 20000 in
theorem kw_506 : Cond.fieldLink "java/lang/StringUTF16" 59 "java/lang/StringUTF16" "HI_BYTE_SHIFT" "I" ∈ tb := mem_tb 506 rfl rfl
set_option maxRecDepth 20000 in
theorem kw_508 : Cond.fieldLink "java/lang/StringUTF16" 63 "java/lang/StringUTF16" "LO_BYTE_SHIFT" "I" ∈ tb := mem_tb 508 rfl rfl
set_option maxRecDepth 20000 in
theorem kw_688 : Cond.constant "java/lang/Integer" 265 1431655765 ∈ tb := mem_tb 688 rfl rfl
set_option maxRecDepth 20000 in
theorem kw_689 : Cond.constant "java/lang/Integer" 266 858993459 ∈ tb := mem_tb 689 rfl rfl
set_option maxRecDepth 20000 in
theorem kw_690 : Cond.constant "java/lang/Integer" 267 252645135 ∈ tb := mem_tb 690 rfl rfl
set_option maxRecDepth 20000 in
theorem kw_850 : Cond.constant "FourHands" 252 999999 ∈ tb := mem_tb 850 rfl rfl
set_option maxRecDepth 20000 in
theorem kw_851 : Cond.constantLong "FourHands" 253 1103515245 ∈ tb := mem_tb 851 rfl rfl
set_option maxRecDepth 20000 in
theorem kw_852 : Cond.constantLong "FourHands" 255 12345 ∈ tb := mem_tb 852 rfl rfl
set_option maxRecDepth 20000 in
theorem kw_853 : Cond.constantLong "FourHands" 257 2147483648 ∈ tb := mem_tb 853 rfl rfl
set_option maxRecDepth 20000 in
theorem kw_854 : Cond.constantLong "FourHands" 259 65536 ∈ tb := mem_tb 854 rfl rfl
set_option maxRecDepth 20000 in
theorem kw_855 : Cond.constantLong "FourHands" 261 100 ∈ tb := mem_tb 855 rfl rfl
set_option maxRecDepth 20000 in
theorem kw_888 : Cond.constantLong "FourHands" 284 877 ∈ tb := mem_tb 888 rfl rfl
set_option maxRecDepth 20000 in
theorem kw_889 : Cond.constantLong "FourHands" 286 31 ∈ tb := mem_tb 889 rfl rfl
set_option maxRecDepth 20000 in
theorem kw_894 : Cond.constantLong "FourHands$Piece" 122 31 ∈ tb := mem_tb 894 rfl rfl
set_option maxRecDepth 20000 in
theorem kw_895 : Cond.classLink "FourHandsLaw" 10 "FourHandsModel" ∈ tb := mem_tb 895 rfl rfl
set_option maxRecDepth 20000 in
theorem kw_896 : Cond.instantiable "FourHandsModel" 28 ∈ tb := mem_tb 896 rfl rfl
set_option maxRecDepth 20000 in
theorem kw_904 : Cond.fieldLink "FourHandsModel" 7 "FourHandsModel" "now" "[I" ∈ tb := mem_tb 904 rfl rfl
set_option maxRecDepth 20000 in
theorem kw_905 : Cond.fieldLink "FourHandsModel" 13 "FourHandsModel" "kept" "[I" ∈ tb := mem_tb 905 rfl rfl
set_option maxRecDepth 20000 in
theorem kw_906 : Cond.fieldLink "FourHandsModel" 16 "FourHandsModel" "isKept" "[Z" ∈ tb := mem_tb 906 rfl rfl
set_option maxRecDepth 20000 in
theorem kw_907 : Cond.fieldLink "FourHandsModel" 20 "FourHandsModel" "refused" "[I" ∈ tb := mem_tb 907 rfl rfl
set_option maxRecDepth 20000 in
theorem kw_908 : Cond.fieldLink "FourHandsModel" 244 "FourHandsModel" "above" "J" ∈ tb := mem_tb 908 rfl rfl
set_option maxRecDepth 20000 in
theorem kw_909 : Cond.fieldLink "FourHandsModel" 23 "FourHandsModel" "below" "J" ∈ tb := mem_tb 909 rfl rfl
set_option maxRecDepth 20000 in
theorem kw_910 : Cond.fieldLink "FourHandsModel" 163 "FourHandsModel" "fewest" "I" ∈ tb := mem_tb 910 rfl rfl
set_option maxRecDepth 20000 in
theorem kw_911 : Cond.fieldLink "FourHandsModel" 167 "FourHandsModel" "manyGiven" "I" ∈ tb := mem_tb 911 rfl rfl
set_option maxRecDepth 20000 in
theorem kw_912 : Cond.fieldLink "FourHandsModel" 170 "FourHandsModel" "firstGiven" "I" ∈ tb := mem_tb 912 rfl rfl
set_option maxRecDepth 20000 in
theorem kw_913 : Cond.fieldLink "FourHandsModel" 173 "FourHandsModel" "secondGiven" "I" ∈ tb := mem_tb 913 rfl rfl
set_option maxRecDepth 20000 in
theorem kw_914 : Cond.fieldLink "FourHandsModel" 27 "FourHandsModel" "clashWith" "[I" ∈ tb := mem_tb 914 rfl rfl
set_option maxRecDepth 20000 in
theorem kw_915 : Cond.fieldLink "FourHandsModel" 30 "FourHandsModel" "row" "[I" ∈ tb := mem_tb 915 rfl rfl
set_option maxRecDepth 20000 in
theorem kw_916 : Cond.fieldLink "FourHandsModel" 193 "FourHandsModel" "rowLong" "I" ∈ tb := mem_tb 916 rfl rfl
set_option maxRecDepth 20000 in
theorem kw_917 : Cond.fieldLink "FourHandsModel" 33 "FourHandsModel" "least" "[I" ∈ tb := mem_tb 917 rfl rfl
set_option maxRecDepth 20000 in
theorem kw_918 : Cond.fieldLink "FourHandsModel" 36 "FourHandsModel" "slips" "[I" ∈ tb := mem_tb 918 rfl rfl
set_option maxRecDepth 20000 in
theorem kw_919 : Cond.fieldLink "FourHandsModel" 39 "FourHandsModel" "left" "[I" ∈ tb := mem_tb 919 rfl rfl
set_option maxRecDepth 20000 in
theorem kw_920 : Cond.fieldLink "FourHandsModel" 42 "FourHandsModel" "bestRow" "[I" ∈ tb := mem_tb 920 rfl rfl
set_option maxRecDepth 20000 in
theorem kw_921 : Cond.fieldLink "FourHandsModel" 45 "FourHandsModel" "tryRow" "[I" ∈ tb := mem_tb 921 rfl rfl
set_option maxRecDepth 20000 in
theorem kw_922 : Cond.fieldLink "FourHandsModel" 235 "FourHandsModel" "leastSlips" "I" ∈ tb := mem_tb 922 rfl rfl
set_option maxRecDepth 20000 in
theorem kw_923 : Cond.fieldLink "FourHandsModel" 48 "FourHandsModel" "moments" "[I" ∈ tb := mem_tb 923 rfl rfl
set_option maxRecDepth 20000 in
theorem kw_924 : Cond.fieldLink "FourHandsModel" 51 "FourHandsModel" "bytes" "[I" ∈ tb := mem_tb 924 rfl rfl
set_option maxRecDepth 20000 in
theorem kw_925 : Cond.fieldLink "FourHandsModel" 271 "FourHandsModel" "bytesLong" "I" ∈ tb := mem_tb 925 rfl rfl
set_option maxRecDepth 20000 in
theorem kw_926 : Cond.fieldLink "FourHandsModel" 282 "FourHandsModel" "tokenAt" "I" ∈ tb := mem_tb 926 rfl rfl
set_option maxRecDepth 20000 in
theorem kw_927 : Cond.fieldLink "FourHandsModel" 285 "FourHandsModel" "tokenLong" "I" ∈ tb := mem_tb 927 rfl rfl
set_option maxRecDepth 20000 in
theorem kw_928 : Cond.fieldLink "FourHandsModel" 288 "FourHandsModel" "token" "I" ∈ tb := mem_tb 928 rfl rfl
set_option maxRecDepth 20000 in
theorem kw_929 : Cond.fieldLink "FourHandsModel" 291 "FourHandsModel" "value" "I" ∈ tb := mem_tb 929 rfl rfl
set_option maxRecDepth 20000 in
theorem kw_930 : Cond.fieldLink "FourHandsModel" 54 "FourHandsModel" "next" "[I" ∈ tb := mem_tb 930 rfl rfl
set_option maxRecDepth 20000 in
theorem kw_931 : Cond.fieldLink "FourHandsModel" 57 "FourHandsModel" "values" "[I" ∈ tb := mem_tb 931 rfl rfl
set_option maxRecDepth 20000 in
theorem kw_994 : Cond.constantLong "FourHandsModel" 74 9 ∈ tb := mem_tb 994 rfl rfl
set_option maxRecDepth 20000 in
theorem kw_1013 : Cond.constantLong "FourHandsModel" 72 3 ∈ tb := mem_tb 1013 rfl rfl
set_option maxRecDepth 20000 in
theorem kw_1014 : Cond.constantLong "FourHandsModel" 84 5 ∈ tb := mem_tb 1014 rfl rfl
set_option maxRecDepth 20000 in
theorem kw_1015 : Cond.constantLong "FourHandsModel" 86 15 ∈ tb := mem_tb 1015 rfl rfl
set_option maxRecDepth 20000 in
theorem kw_1023 : Cond.constantLong "FourHandsModel" 92 47 ∈ tb := mem_tb 1023 rfl rfl
set_option maxRecDepth 20000 in
theorem kw_1024 : Cond.constantLong "FourHandsModel" 94 63 ∈ tb := mem_tb 1024 rfl rfl
set_option maxRecDepth 20000 in
theorem kw_1025 : Cond.constantLong "FourHandsModel" 96 8 ∈ tb := mem_tb 1025 rfl rfl
set_option maxRecDepth 20000 in
theorem kw_1026 : Cond.constantLong "FourHandsModel" 98 (-1) ∈ tb := mem_tb 1026 rfl rfl
set_option maxRecDepth 20000 in
theorem kw_1113 : Cond.constantLong "FourHandsModel" 158 4 ∈ tb := mem_tb 1113 rfl rfl
set_option maxRecDepth 20000 in
theorem kw_1130 : Cond.constantLong "FourHandsModel" 183 2 ∈ tb := mem_tb 1130 rfl rfl
set_option maxRecDepth 20000 in
theorem kw_1131 : Cond.constant "FourHandsModel" 185 1000000 ∈ tb := mem_tb 1131 rfl rfl
set_option maxRecDepth 20000 in
theorem kw_1175 : Cond.constantLong "FourHandsModel" 210 64 ∈ tb := mem_tb 1175 rfl rfl
set_option maxRecDepth 20000 in
theorem kw_1224 : Cond.constantLong "FourHandsModel" 230 6 ∈ tb := mem_tb 1224 rfl rfl
set_option maxRecDepth 20000 in
theorem kw_1241 : Cond.constantLong "FourHandsModel" 247 20 ∈ tb := mem_tb 1241 rfl rfl
set_option maxRecDepth 20000 in
theorem kw_1262 : Cond.constantLong "FourHandsModel" 257 999999 ∈ tb := mem_tb 1262 rfl rfl
set_option maxRecDepth 20000 in
theorem kw_1263 : Cond.constantLong "FourHandsModel" 259 100 ∈ tb := mem_tb 1263 rfl rfl
set_option maxRecDepth 20000 in
theorem kw_1264 : Cond.constantLong "FourHandsModel" 261 1103515245 ∈ tb := mem_tb 1264 rfl rfl
set_option maxRecDepth 20000 in
theorem kw_1265 : Cond.constantLong "FourHandsModel" 263 12345 ∈ tb := mem_tb 1265 rfl rfl
set_option maxRecDepth 20000 in
theorem kw_1266 : Cond.constantLong "FourHandsModel" 265 2147483648 ∈ tb := mem_tb 1266 rfl rfl
set_option maxRecDepth 20000 in
theorem kw_1267 : Cond.constantLong "FourHandsModel" 267 65536 ∈ tb := mem_tb 1267 rfl rfl
set_option maxRecDepth 20000 in
theorem kw_1272 : Cond.constantLong "FourHandsModel" 269 127 ∈ tb := mem_tb 1272 rfl rfl
set_option maxRecDepth 20000 in
theorem kw_1288 : Cond.constantLong "FourHandsModel" 274 97 ∈ tb := mem_tb 1288 rfl rfl
set_option maxRecDepth 20000 in
theorem kw_1289 : Cond.constantLong "FourHandsModel" 276 122 ∈ tb := mem_tb 1289 rfl rfl
set_option maxRecDepth 20000 in
theorem kw_1293 : Cond.constantLong "FourHandsModel" 278 48 ∈ tb := mem_tb 1293 rfl rfl
set_option maxRecDepth 20000 in
theorem kw_1294 : Cond.constantLong "FourHandsModel" 280 57 ∈ tb := mem_tb 1294 rfl rfl
set_option maxRecDepth 20000 in
theorem kw_1355 : Cond.constantLong "FourHandsModel" 334 877 ∈ tb := mem_tb 1355 rfl rfl
set_option maxRecDepth 20000 in
theorem kw_1356 : Cond.constantLong "FourHandsModel" 332 31 ∈ tb := mem_tb 1356 rfl rfl
set_option maxRecDepth 20000 in
theorem kw_1361 : Cond.fieldLink "java/lang/String" 9 "java/lang/String" "value" "[B" ∈ tb := mem_tb 1361 rfl rfl
set_option maxRecDepth 20000 in
theorem kw_1362 : Cond.fieldLink "java/lang/String" 15 "java/lang/String" "coder" "B" ∈ tb := mem_tb 1362 rfl rfl
set_option maxRecDepth 20000 in
theorem inX0 : ∀ w ∈ u_ws RX0 TX0 5, w ∈ tb := by decide +kernel
set_option maxRecDepth 20000 in
theorem inX1 : ∀ w ∈ u_ws RX1 TX1 5, w ∈ tb := by decide +kernel
set_option maxRecDepth 20000 in
theorem inX2 : ∀ w ∈ u_ws RX2 TX2 8, w ∈ tb := by decide +kernel
set_option maxRecDepth 20000 in
theorem inX3 : ∀ w ∈ u_ws RX3 TX3 18, w ∈ tb := by decide +kernel
set_option maxRecDepth 20000 in
theorem inX4 : ∀ w ∈ u_ws RX4 TX4 4, w ∈ tb := by decide +kernel
set_option maxRecDepth 20000 in
theorem inX5 : ∀ w ∈ u_ws RX5 TX5 7, w ∈ tb := by decide +kernel
set_option maxRecDepth 20000 in
theorem inX6 : ∀ w ∈ u_ws RX6 TX6 14, w ∈ tb := by decide +kernel
set_option maxRecDepth 20000 in
theorem inX7 : ∀ w ∈ u_ws RX7 TX7 28, w ∈ tb := by decide +kernel
set_option maxRecDepth 20000 in
theorem lk_L_9 : LkI RL 9 yX6_init cX6_init 1 0 := ⟨⟨mem_tb 107 rfl rfl, mem_tb 105 rfl rfl, mem_tb 87 rfl rfl, by decide +kernel⟩, rfl, mem_tb 106 rfl rfl⟩
set_option maxRecDepth 20000 in
theorem lk_X6_9 : LkI RX6 9 yX3_init cX3_init 1 0 := ⟨⟨mem_tb 115 rfl rfl, mem_tb 113 rfl rfl, mem_tb 88 rfl rfl, by decide +kernel⟩, rfl, mem_tb 114 rfl rfl⟩
set_option maxRecDepth 20000 in
theorem lk_X3_55 : LkS RX3 55 yJ7_fill_53178 cJ7_fill_53178 4 none 2 := ⟨⟨mem_tb 119 rfl rfl, mem_tb 117 rfl rfl, mem_tb 89 rfl rfl, by decide +kernel⟩, mem_tb 118 rfl rfl⟩
set_option maxRecDepth 20000 in
theorem lk_L_13 : LkV RL 13 yX6_piece cX6_piece 3 (some .int) 1 := ⟨⟨mem_tb 383 rfl rfl, mem_tb 380 rfl rfl, mem_tb 87 rfl rfl, by decide +kernel⟩, mem_tb 381 rfl rfl, mem_tb 382 rfl rfl⟩
set_option maxRecDepth 20000 in
theorem lk_X6_62 : LkS RX6 62 yX6_within cX6_within 3 (some .boolean) 3 := ⟨⟨mem_tb 386 rfl rfl, mem_tb 384 rfl rfl, mem_tb 87 rfl rfl, by decide +kernel⟩, mem_tb 385 rfl rfl⟩
set_option maxRecDepth 20000 in
theorem lk_X6_66 : LkV RX6 66 yX6_refuseBad cX6_refuseBad 2 (some .int) 1 := ⟨⟨mem_tb 390 rfl rfl, mem_tb 387 rfl rfl, mem_tb 87 rfl rfl, by decide +kernel⟩, mem_tb 389 rfl rfl, mem_tb 0 rfl rfl⟩
set_option maxRecDepth 20000 in
theorem lk_X6_74 : LkV RX6 74 yX3_begin cX3_begin 2 none 1 := ⟨⟨mem_tb 394 rfl rfl, mem_tb 391 rfl rfl, mem_tb 88 rfl rfl, by decide +kernel⟩, mem_tb 392 rfl rfl, mem_tb 393 rfl rfl⟩
set_option maxRecDepth 20000 in
theorem lk_X6_78 : LkV RX6 78 yX6_forgetTheRest cX6_forgetTheRest 1 none 0 := ⟨⟨mem_tb 398 rfl rfl, mem_tb 395 rfl rfl, mem_tb 87 rfl rfl, by decide +kernel⟩, mem_tb 397 rfl rfl, mem_tb 1 rfl rfl⟩
set_option maxRecDepth 20000 in
theorem lk_L_18 : LkV RL 18 yX6_hand cX6_hand 6 (some .int) 4 := ⟨⟨mem_tb 402 rfl rfl, mem_tb 399 rfl rfl, mem_tb 87 rfl rfl, by decide +kernel⟩, mem_tb 400 rfl rfl, mem_tb 401 rfl rfl⟩
set_option maxRecDepth 20000 in
theorem lk_X6_85 : LkV RX6 85 yX3_setHand cX3_setHand 5 none 4 := ⟨⟨mem_tb 406 rfl rfl, mem_tb 403 rfl rfl, mem_tb 88 rfl rfl, by decide +kernel⟩, mem_tb 404 rfl rfl, mem_tb 405 rfl rfl⟩
set_option maxRecDepth 20000 in
theorem lk_L_23 : LkV RL 23 yX6_note cX6_note 7 (some .int) 6 := ⟨⟨mem_tb 410 rfl rfl, mem_tb 407 rfl rfl, mem_tb 87 rfl rfl, by decide +kernel⟩, mem_tb 408 rfl rfl, mem_tb 409 rfl rfl⟩
set_option maxRecDepth 20000 in
theorem lk_X6_89 : LkS RX6 89 yX6_longestFrom cX6_longestFrom 1 (some .int) 1 := ⟨⟨mem_tb 413 rfl rfl, mem_tb 411 rfl rfl, mem_tb 87 rfl rfl, by decide +kernel⟩, mem_tb 412 rfl rfl⟩
set_option maxRecDepth 20000 in
theorem lk_X6_263 : LkS RX6 263 yJ9_min_7cf53 cJ9_min_7cf53 2 (some .int) 2 := ⟨⟨mem_tb 416 rfl rfl, mem_tb 414 rfl rfl, mem_tb 96 rfl rfl, by decide +kernel⟩, mem_tb 415 rfl rfl⟩
set_option maxRecDepth 20000 in
theorem lk_X6_92 : LkV RX6 92 yX6_refuseFull cX6_refuseFull 1 (some .int) 0 := ⟨⟨mem_tb 420 rfl rfl, mem_tb 417 rfl rfl, mem_tb 87 rfl rfl, by decide +kernel⟩, mem_tb 419 rfl rfl, mem_tb 2 rfl rfl⟩
set_option maxRecDepth 20000 in
theorem lk_X6_96 : LkV RX6 96 yX3_addNote cX3_addNote 7 none 6 := ⟨⟨mem_tb 424 rfl rfl, mem_tb 421 rfl rfl, mem_tb 88 rfl rfl, by decide +kernel⟩, mem_tb 422 rfl rfl, mem_tb 423 rfl rfl⟩
set_option maxRecDepth 20000 in
theorem lk_L_28 : LkV RL 28 yX6_type cX6_type 2 (some .int) 1 := ⟨⟨mem_tb 428 rfl rfl, mem_tb 425 rfl rfl, mem_tb 87 rfl rfl, by decide +kernel⟩, mem_tb 426 rfl rfl, mem_tb 427 rfl rfl⟩
set_option maxRecDepth 20000 in
theorem lk_X6_103 : LkV RX6 103 yX5_append cX5_append 2 none 1 := ⟨⟨mem_tb 432 rfl rfl, mem_tb 429 rfl rfl, mem_tb 90 rfl rfl, by decide +kernel⟩, mem_tb 430 rfl rfl, mem_tb 431 rfl rfl⟩
set_option maxRecDepth 20000 in
theorem lk_L_32 : LkV RL 32 yX6_clear cX6_clear 2 (some .int) 0 := ⟨⟨mem_tb 436 rfl rfl, mem_tb 433 rfl rfl, mem_tb 87 rfl rfl, by decide +kernel⟩, mem_tb 434 rfl rfl, mem_tb 435 rfl rfl⟩
set_option maxRecDepth 20000 in
theorem lk_L_37 : LkV RL 37 yX6_read cX6_read 2 (some .int) 0 := ⟨⟨mem_tb 440 rfl rfl, mem_tb 437 rfl rfl, mem_tb 87 rfl rfl, by decide +kernel⟩, mem_tb 438 rfl rfl, mem_tb 439 rfl rfl⟩
set_option maxRecDepth 20000 in
theorem lk_X6_106 : LkV RX6 106 yX5_readInto cX5_readInto 3 (some .int) 1 := ⟨⟨mem_tb 444 rfl rfl, mem_tb 441 rfl rfl, mem_tb 90 rfl rfl, by decide +kernel⟩, mem_tb 442 rfl rfl, mem_tb 443 rfl rfl⟩
set_option maxRecDepth 20000 in
theorem lk_X5_25 : LkV RX5 25 yX5_takeToken cX5_takeToken 1 none 0 := ⟨⟨mem_tb 448 rfl rfl, mem_tb 445 rfl rfl, mem_tb 90 rfl rfl, by decide +kernel⟩, mem_tb 447 rfl rfl, mem_tb 3 rfl rfl⟩
set_option maxRecDepth 20000 in
theorem lk_X5_98 : LkV RX5 98 yX5_sortAt cX5_sortAt 3 (some .int) 1 := ⟨⟨mem_tb 452 rfl rfl, mem_tb 449 rfl rfl, mem_tb 90 rfl rfl, by decide +kernel⟩, mem_tb 451 rfl rfl, mem_tb 4 rfl rfl⟩
set_option maxRecDepth 20000 in
theorem lk_X5_31 : LkV RX5 31 yX5_readItem cX5_readItem 3 (some .boolean) 2 := ⟨⟨mem_tb 456 rfl rfl, mem_tb 453 rfl rfl, mem_tb 90 rfl rfl, by decide +kernel⟩, mem_tb 455 rfl rfl, mem_tb 5 rfl rfl⟩
set_option maxRecDepth 20000 in
theorem lk_X5_40 : LkV RX5 40 yX5_isWord cX5_isWord 3 (some .boolean) 1 := ⟨⟨mem_tb 461 rfl rfl, mem_tb 458 rfl rfl, mem_tb 90 rfl rfl, by decide +kernel⟩, mem_tb 460 rfl rfl, mem_tb 6 rfl rfl⟩
set_option maxRecDepth 20000 in
theorem lk_X5_101 : LkV RX5 101 yJ0_length_8abf5 cJ0_length_8abf5 1 (some .int) 0 := ⟨⟨mem_tb 465 rfl rfl, mem_tb 462 rfl rfl, mem_tb 97 rfl rfl, by decide +kernel⟩, mem_tb 463 rfl rfl, mem_tb 464 rfl rfl⟩
set_option maxRecDepth 20000 in
theorem lk_J0_335 : LkV RJ0 335 yJ0_coder_7d493 cJ0_coder_7d493 1 (some .byte) 0 := ⟨⟨mem_tb 469 rfl rfl, mem_tb 466 rfl rfl, mem_tb 97 rfl rfl, by decide +kernel⟩, mem_tb 467 rfl rfl, mem_tb 468 rfl rfl⟩
set_option maxRecDepth 20000 in
theorem lk_X5_105 : LkV RX5 105 yJ0_charAt_5068e cJ0_charAt_5068e 2 (some .char) 1 := ⟨⟨mem_tb 475 rfl rfl, mem_tb 472 rfl rfl, mem_tb 97 rfl rfl, by decide +kernel⟩, mem_tb 473 rfl rfl, mem_tb 474 rfl rfl⟩
set_option maxRecDepth 20000 in
theorem lk_J0_492 : LkV RJ0 492 yJ0_isLatin1_aae02 cJ0_isLatin1_aae02 1 (some .boolean) 0 := ⟨⟨mem_tb 479 rfl rfl, mem_tb 476 rfl rfl, mem_tb 97 rfl rfl, by decide +kernel⟩, mem_tb 477 rfl rfl, mem_tb 478 rfl rfl⟩
set_option maxRecDepth 20000 in
theorem lk_J0_495 : LkS RJ0 495 yJ1_charAt_3b067 cJ1_charAt_3b067 2 (some .char) 2 := ⟨⟨mem_tb 482 rfl rfl, mem_tb 480 rfl rfl, mem_tb 98 rfl rfl, by decide +kernel⟩, mem_tb 481 rfl rfl⟩
set_option maxRecDepth 20000 in
theorem lk_J1_9 : LkS RJ1 9 yJ0_checkIndex_df160 cJ0_checkIndex_df160 2 none 2 := ⟨⟨mem_tb 485 rfl rfl, mem_tb 483 rfl rfl, mem_tb 97 rfl rfl, by decide +kernel⟩, mem_tb 484 rfl rfl⟩
set_option maxRecDepth 20000 in
theorem lk_J0_1059 : LkS RJ0 1059 yJ3_checkIndex_8e157 cJ3_checkIndex_8e157 3 (some .int) 3 := ⟨⟨mem_tb 490 rfl rfl, mem_tb 488 rfl rfl, mem_tb 99 rfl rfl, by decide +kernel⟩, mem_tb 489 rfl rfl⟩
set_option maxRecDepth 20000 in
theorem lk_J0_498 : LkS RJ0 498 yJ2_charAt_3b067 cJ2_charAt_3b067 2 (some .char) 2 := ⟨⟨mem_tb 493 rfl rfl, mem_tb 491 rfl rfl, mem_tb 100 rfl rfl, by decide +kernel⟩, mem_tb 492 rfl rfl⟩
set_option maxRecDepth 20000 in
theorem lk_J2_67 : LkS RJ2 67 yJ2_checkIndex_2214a cJ2_checkIndex_2214a 2 none 2 := ⟨⟨mem_tb 496 rfl rfl, mem_tb 494 rfl rfl, mem_tb 100 rfl rfl, by decide +kernel⟩, mem_tb 495 rfl rfl⟩
set_option maxRecDepth 20000 in
theorem lk_J2_48 : LkS RJ2 48 yJ2_length_9d52b cJ2_length_9d52b 1 (some .int) 1 := ⟨⟨mem_tb 499 rfl rfl, mem_tb 497 rfl rfl, mem_tb 100 rfl rfl, by decide +kernel⟩, mem_tb 498 rfl rfl⟩
set_option maxRecDepth 20000 in
theorem lk_J2_414 : LkS RJ2 414 yJ0_checkIndex_df160 cJ0_checkIndex_df160 2 none 2 := ⟨⟨mem_tb 485 rfl rfl, mem_tb 500 rfl rfl, mem_tb 97 rfl rfl, by decide +kernel⟩, mem_tb 484 rfl rfl⟩
set_option maxRecDepth 20000 in
theorem lk_J2_71 : LkS RJ2 71 yJ2_getChar_3b067 cJ2_getChar_3b067 2 (some .char) 2 := ⟨⟨mem_tb 503 rfl rfl, mem_tb 501 rfl rfl, mem_tb 100 rfl rfl, by decide +kernel⟩, mem_tb 502 rfl rfl⟩
set_option maxRecDepth 20000 in
theorem lk_X5_47 : LkV RX5 47 yX5_readPiece cX5_readPiece 2 (some .boolean) 1 := ⟨⟨mem_tb 513 rfl rfl, mem_tb 510 rfl rfl, mem_tb 90 rfl rfl, by decide +kernel⟩, mem_tb 512 rfl rfl, mem_tb 7 rfl rfl⟩
set_option maxRecDepth 20000 in
theorem lk_X5_66 : LkV RX5 66 yX5_takeNumber cX5_takeNumber 4 (some .boolean) 2 := ⟨⟨mem_tb 517 rfl rfl, mem_tb 514 rfl rfl, mem_tb 90 rfl rfl, by decide +kernel⟩, mem_tb 516 rfl rfl, mem_tb 8 rfl rfl⟩
set_option maxRecDepth 20000 in
theorem lk_X5_90 : LkV RX5 90 yX5_numberValue cX5_numberValue 3 (some .int) 0 := ⟨⟨mem_tb 521 rfl rfl, mem_tb 518 rfl rfl, mem_tb 90 rfl rfl, by decide +kernel⟩, mem_tb 520 rfl rfl, mem_tb 9 rfl rfl⟩
set_option maxRecDepth 20000 in
theorem lk_X5_70 : LkV RX5 70 yX5_takeStop cX5_takeStop 1 (some .boolean) 0 := ⟨⟨mem_tb 526 rfl rfl, mem_tb 523 rfl rfl, mem_tb 90 rfl rfl, by decide +kernel⟩, mem_tb 525 rfl rfl, mem_tb 10 rfl rfl⟩
set_option maxRecDepth 20000 in
theorem lk_X5_74 : LkV RX5 74 yX3_begin cX3_begin 2 none 1 := ⟨⟨mem_tb 394 rfl rfl, mem_tb 527 rfl rfl, mem_tb 88 rfl rfl, by decide +kernel⟩, mem_tb 392 rfl rfl, mem_tb 393 rfl rfl⟩
set_option maxRecDepth 20000 in
theorem lk_X5_53 : LkV RX5 53 yX5_readHand cX5_readHand 2 (some .boolean) 1 := ⟨⟨mem_tb 532 rfl rfl, mem_tb 529 rfl rfl, mem_tb 90 rfl rfl, by decide +kernel⟩, mem_tb 531 rfl rfl, mem_tb 11 rfl rfl⟩
set_option maxRecDepth 20000 in
theorem lk_X5_78 : LkV RX5 78 yX3_setHand cX3_setHand 5 none 4 := ⟨⟨mem_tb 406 rfl rfl, mem_tb 533 rfl rfl, mem_tb 88 rfl rfl, by decide +kernel⟩, mem_tb 404 rfl rfl, mem_tb 405 rfl rfl⟩
set_option maxRecDepth 20000 in
theorem lk_X5_63 : LkV RX5 63 yX5_readNote cX5_readNote 3 (some .boolean) 1 := ⟨⟨mem_tb 538 rfl rfl, mem_tb 535 rfl rfl, mem_tb 90 rfl rfl, by decide +kernel⟩, mem_tb 537 rfl rfl, mem_tb 12 rfl rfl⟩
set_option maxRecDepth 20000 in
theorem lk_X5_86 : LkV RX5 86 yX3_addNote cX3_addNote 7 none 6 := ⟨⟨mem_tb 424 rfl rfl, mem_tb 540 rfl rfl, mem_tb 88 rfl rfl, by decide +kernel⟩, mem_tb 422 rfl rfl, mem_tb 423 rfl rfl⟩
set_option maxRecDepth 20000 in
theorem lk_X6_110 : LkV RX6 110 yX3_copyFrom cX3_copyFrom 2 none 1 := ⟨⟨mem_tb 544 rfl rfl, mem_tb 541 rfl rfl, mem_tb 88 rfl rfl, by decide +kernel⟩, mem_tb 542 rfl rfl, mem_tb 543 rfl rfl⟩
set_option maxRecDepth 20000 in
theorem lk_L_41 : LkV RL 41 yX6_give cX6_give 3 (some .int) 2 := ⟨⟨mem_tb 552 rfl rfl, mem_tb 549 rfl rfl, mem_tb 87 rfl rfl, by decide +kernel⟩, mem_tb 550 rfl rfl, mem_tb 551 rfl rfl⟩
set_option maxRecDepth 20000 in
theorem lk_X6_114 : LkV RX6 114 yX6_isNote cX6_isNote 2 (some .boolean) 1 := ⟨⟨mem_tb 556 rfl rfl, mem_tb 553 rfl rfl, mem_tb 87 rfl rfl, by decide +kernel⟩, mem_tb 555 rfl rfl, mem_tb 13 rfl rfl⟩
set_option maxRecDepth 20000 in
theorem lk_X6_118 : LkV RX6 118 yX3_pass cX3_pass 3 none 2 := ⟨⟨mem_tb 560 rfl rfl, mem_tb 557 rfl rfl, mem_tb 88 rfl rfl, by decide +kernel⟩, mem_tb 558 rfl rfl, mem_tb 559 rfl rfl⟩
set_option maxRecDepth 20000 in
theorem lk_X6_122 : LkV RX6 122 yX3_clashCount cX3_clashCount 4 (some .int) 0 := ⟨⟨mem_tb 564 rfl rfl, mem_tb 561 rfl rfl, mem_tb 88 rfl rfl, by decide +kernel⟩, mem_tb 562 rfl rfl, mem_tb 563 rfl rfl⟩
set_option maxRecDepth 20000 in
theorem lk_X3_112 : LkV RX3 112 yX3_sortOf cX3_sortOf 3 (some .int) 2 := ⟨⟨mem_tb 568 rfl rfl, mem_tb 565 rfl rfl, mem_tb 88 rfl rfl, by decide +kernel⟩, mem_tb 566 rfl rfl, mem_tb 567 rfl rfl⟩
set_option maxRecDepth 20000 in
theorem lk_X3_95 : LkV RX3 95 yX3_sortIf cX3_sortIf 9 (some .int) 4 := ⟨⟨mem_tb 572 rfl rfl, mem_tb 569 rfl rfl, mem_tb 88 rfl rfl, by decide +kernel⟩, mem_tb 570 rfl rfl, mem_tb 571 rfl rfl⟩
set_option maxRecDepth 20000 in
theorem lk_X3_99 : LkS RX3 99 yJ9_abs_0f7a4 cJ9_abs_0f7a4 1 (some .int) 1 := ⟨⟨mem_tb 575 rfl rfl, mem_tb 573 rfl rfl, mem_tb 96 rfl rfl, by decide +kernel⟩, mem_tb 574 rfl rfl⟩
set_option maxRecDepth 20000 in
theorem lk_X3_86 : LkS RX3 86 yJ9_max_7cf53 cJ9_max_7cf53 2 (some .int) 2 := ⟨⟨mem_tb 578 rfl rfl, mem_tb 576 rfl rfl, mem_tb 96 rfl rfl, by decide +kernel⟩, mem_tb 577 rfl rfl⟩
set_option maxRecDepth 20000 in
theorem lk_X3_103 : LkV RX3 103 yX3_moves cX3_moves 2 (some .int) 1 := ⟨⟨mem_tb 582 rfl rfl, mem_tb 579 rfl rfl, mem_tb 88 rfl rfl, by decide +kernel⟩, mem_tb 580 rfl rfl, mem_tb 581 rfl rfl⟩
set_option maxRecDepth 20000 in
theorem lk_X3_92 : LkV RX3 92 yX3_isQuick cX3_isQuick 2 (some .boolean) 1 := ⟨⟨mem_tb 586 rfl rfl, mem_tb 583 rfl rfl, mem_tb 88 rfl rfl, by decide +kernel⟩, mem_tb 585 rfl rfl, mem_tb 14 rfl rfl⟩
set_option maxRecDepth 20000 in
theorem lk_X3_83 : LkV RX3 83 yX3_isStiff cX3_isStiff 2 (some .boolean) 1 := ⟨⟨mem_tb 590 rfl rfl, mem_tb 587 rfl rfl, mem_tb 88 rfl rfl, by decide +kernel⟩, mem_tb 589 rfl rfl, mem_tb 15 rfl rfl⟩
set_option maxRecDepth 20000 in
theorem lk_X3_106 : LkV RX3 106 yX3_reaches cX3_reaches 2 (some .int) 1 := ⟨⟨mem_tb 594 rfl rfl, mem_tb 591 rfl rfl, mem_tb 88 rfl rfl, by decide +kernel⟩, mem_tb 592 rfl rfl, mem_tb 593 rfl rfl⟩
set_option maxRecDepth 20000 in
theorem lk_X3_109 : LkV RX3 109 yX3_keepsOff cX3_keepsOff 2 (some .int) 1 := ⟨⟨mem_tb 598 rfl rfl, mem_tb 595 rfl rfl, mem_tb 88 rfl rfl, by decide +kernel⟩, mem_tb 596 rfl rfl, mem_tb 597 rfl rfl⟩
set_option maxRecDepth 20000 in
theorem lk_L_46 : LkV RL 46 yX6_undo cX6_undo 1 (some .int) 0 := ⟨⟨mem_tb 602 rfl rfl, mem_tb 599 rfl rfl, mem_tb 87 rfl rfl, by decide +kernel⟩, mem_tb 600 rfl rfl, mem_tb 601 rfl rfl⟩
set_option maxRecDepth 20000 in
theorem lk_X6_128 : LkV RX6 128 yX6_refuseNo cX6_refuseNo 2 (some .int) 1 := ⟨⟨mem_tb 606 rfl rfl, mem_tb 603 rfl rfl, mem_tb 87 rfl rfl, by decide +kernel⟩, mem_tb 605 rfl rfl, mem_tb 16 rfl rfl⟩
set_option maxRecDepth 20000 in
theorem lk_X6_131 : LkV RX6 131 yX3_takeBack cX3_takeBack 1 none 0 := ⟨⟨mem_tb 610 rfl rfl, mem_tb 607 rfl rfl, mem_tb 88 rfl rfl, by decide +kernel⟩, mem_tb 608 rfl rfl, mem_tb 609 rfl rfl⟩
set_option maxRecDepth 20000 in
theorem lk_L_50 : LkV RL 50 yX6_of cX6_of 3 (some .int) 2 := ⟨⟨mem_tb 614 rfl rfl, mem_tb 611 rfl rfl, mem_tb 87 rfl rfl, by decide +kernel⟩, mem_tb 612 rfl rfl, mem_tb 613 rfl rfl⟩
set_option maxRecDepth 20000 in
theorem lk_L_54 : LkV RL 54 yX6_about cX6_about 3 (some .int) 2 := ⟨⟨mem_tb 618 rfl rfl, mem_tb 615 rfl rfl, mem_tb 87 rfl rfl, by decide +kernel⟩, mem_tb 616 rfl rfl, mem_tb 617 rfl rfl⟩
set_option maxRecDepth 20000 in
theorem lk_X6_152 : LkV RX6 152 yX3_reaches cX3_reaches 2 (some .int) 1 := ⟨⟨mem_tb 594 rfl rfl, mem_tb 619 rfl rfl, mem_tb 88 rfl rfl, by decide +kernel⟩, mem_tb 592 rfl rfl, mem_tb 593 rfl rfl⟩
set_option maxRecDepth 20000 in
theorem lk_X6_155 : LkV RX6 155 yX3_moves cX3_moves 2 (some .int) 1 := ⟨⟨mem_tb 582 rfl rfl, mem_tb 620 rfl rfl, mem_tb 88 rfl rfl, by decide +kernel⟩, mem_tb 580 rfl rfl, mem_tb 581 rfl rfl⟩
set_option maxRecDepth 20000 in
theorem lk_X6_158 : LkV RX6 158 yX3_keepsOff cX3_keepsOff 2 (some .int) 1 := ⟨⟨mem_tb 598 rfl rfl, mem_tb 621 rfl rfl, mem_tb 88 rfl rfl, by decide +kernel⟩, mem_tb 596 rfl rfl, mem_tb 597 rfl rfl⟩
set_option maxRecDepth 20000 in
theorem lk_X6_161 : LkV RX6 161 yX3_notesOf cX3_notesOf 4 (some .int) 1 := ⟨⟨mem_tb 625 rfl rfl, mem_tb 622 rfl rfl, mem_tb 88 rfl rfl, by decide +kernel⟩, mem_tb 623 rfl rfl, mem_tb 624 rfl rfl⟩
set_option maxRecDepth 20000 in
theorem lk_L_58 : LkV RL 58 yX6_clash cX6_clash 3 (some .int) 2 := ⟨⟨mem_tb 629 rfl rfl, mem_tb 626 rfl rfl, mem_tb 87 rfl rfl, by decide +kernel⟩, mem_tb 627 rfl rfl, mem_tb 628 rfl rfl⟩
set_option maxRecDepth 20000 in
theorem lk_X6_164 : LkV RX6 164 yX3_sortOf cX3_sortOf 3 (some .int) 2 := ⟨⟨mem_tb 568 rfl rfl, mem_tb 630 rfl rfl, mem_tb 88 rfl rfl, by decide +kernel⟩, mem_tb 566 rfl rfl, mem_tb 567 rfl rfl⟩
set_option maxRecDepth 20000 in
theorem lk_L_62 : LkV RL 62 yX6_clashes cX6_clashes 7 (some .int) 2 := ⟨⟨mem_tb 634 rfl rfl, mem_tb 631 rfl rfl, mem_tb 87 rfl rfl, by decide +kernel⟩, mem_tb 632 rfl rfl, mem_tb 633 rfl rfl⟩
set_option maxRecDepth 20000 in
theorem lk_L_66 : LkV RL 66 yX6_given cX6_given 3 (some .int) 2 := ⟨⟨mem_tb 638 rfl rfl, mem_tb 635 rfl rfl, mem_tb 87 rfl rfl, by decide +kernel⟩, mem_tb 636 rfl rfl, mem_tb 637 rfl rfl⟩
set_option maxRecDepth 20000 in
theorem lk_X6_168 : LkV RX6 168 yX1_solve cX1_solve 6 none 2 := ⟨⟨mem_tb 642 rfl rfl, mem_tb 639 rfl rfl, mem_tb 91 rfl rfl, by decide +kernel⟩, mem_tb 640 rfl rfl, mem_tb 641 rfl rfl⟩
set_option maxRecDepth 20000 in
theorem lk_X1_18 : LkV RX1 18 yX3_clashCount cX3_clashCount 4 (some .int) 0 := ⟨⟨mem_tb 564 rfl rfl, mem_tb 643 rfl rfl, mem_tb 88 rfl rfl, by decide +kernel⟩, mem_tb 562 rfl rfl, mem_tb 563 rfl rfl⟩
set_option maxRecDepth 20000 in
theorem lk_X1_34 : LkV RX1 34 yX1_countAll cX1_countAll 4 none 1 := ⟨⟨mem_tb 647 rfl rfl, mem_tb 644 rfl rfl, mem_tb 91 rfl rfl, by decide +kernel⟩, mem_tb 646 rfl rfl, mem_tb 17 rfl rfl⟩
set_option maxRecDepth 20000 in
theorem lk_X1_49 : LkV RX1 49 yX1_countWith cX1_countWith 6 (some .int) 3 := ⟨⟨mem_tb 651 rfl rfl, mem_tb 648 rfl rfl, mem_tb 91 rfl rfl, by decide +kernel⟩, mem_tb 650 rfl rfl, mem_tb 18 rfl rfl⟩
set_option maxRecDepth 20000 in
theorem lk_X1_56 : LkV RX1 56 yX3_sortIf cX3_sortIf 9 (some .int) 4 := ⟨⟨mem_tb 572 rfl rfl, mem_tb 652 rfl rfl, mem_tb 88 rfl rfl, by decide +kernel⟩, mem_tb 570 rfl rfl, mem_tb 571 rfl rfl⟩
set_option maxRecDepth 20000 in
theorem lk_X1_41 : LkV RX1 41 yX1_isChange cX1_isChange 4 (some .boolean) 3 := ⟨⟨mem_tb 656 rfl rfl, mem_tb 653 rfl rfl, mem_tb 91 rfl rfl, by decide +kernel⟩, mem_tb 655 rfl rfl, mem_tb 19 rfl rfl⟩
set_option maxRecDepth 20000 in
theorem lk_X1_60 : LkV RX1 60 yX3_isPlayed cX3_isPlayed 2 (some .boolean) 1 := ⟨⟨mem_tb 660 rfl rfl, mem_tb 657 rfl rfl, mem_tb 88 rfl rfl, by decide +kernel⟩, mem_tb 658 rfl rfl, mem_tb 659 rfl rfl⟩
set_option maxRecDepth 20000 in
theorem lk_X1_45 : LkV RX1 45 yX1_tryRows cX1_tryRows 9 none 4 := ⟨⟨mem_tb 664 rfl rfl, mem_tb 661 rfl rfl, mem_tb 91 rfl rfl, by decide +kernel⟩, mem_tb 663 rfl rfl, mem_tb 20 rfl rfl⟩
set_option maxRecDepth 20000 in
theorem lk_X1_64 : LkV RX1 64 yX1_moreBy cX1_moreBy 4 (some .int) 3 := ⟨⟨mem_tb 668 rfl rfl, mem_tb 665 rfl rfl, mem_tb 91 rfl rfl, by decide +kernel⟩, mem_tb 667 rfl rfl, mem_tb 21 rfl rfl⟩
set_option maxRecDepth 20000 in
theorem lk_X1_67 : LkV RX1 67 yX1_keepIfFewer cX1_keepIfFewer 5 none 4 := ⟨⟨mem_tb 672 rfl rfl, mem_tb 669 rfl rfl, mem_tb 91 rfl rfl, by decide +kernel⟩, mem_tb 671 rfl rfl, mem_tb 22 rfl rfl⟩
set_option maxRecDepth 20000 in
theorem lk_X1_71 : LkV RX1 71 yX1_pairMore cX1_pairMore 7 (some .int) 5 := ⟨⟨mem_tb 676 rfl rfl, mem_tb 673 rfl rfl, mem_tb 91 rfl rfl, by decide +kernel⟩, mem_tb 675 rfl rfl, mem_tb 23 rfl rfl⟩
set_option maxRecDepth 20000 in
theorem lk_L_70 : LkV RL 70 yX6_out cX6_out 5 (some .int) 0 := ⟨⟨mem_tb 680 rfl rfl, mem_tb 677 rfl rfl, mem_tb 87 rfl rfl, by decide +kernel⟩, mem_tb 678 rfl rfl, mem_tb 679 rfl rfl⟩
set_option maxRecDepth 20000 in
theorem lk_X6_181 : LkV RX6 181 yX3_findPartners cX3_findPartners 3 none 0 := ⟨⟨mem_tb 684 rfl rfl, mem_tb 681 rfl rfl, mem_tb 88 rfl rfl, by decide +kernel⟩, mem_tb 682 rfl rfl, mem_tb 683 rfl rfl⟩
set_option maxRecDepth 20000 in
theorem lk_X6_184 : LkS RX6 184 yJ6_bitCount_0f7a4 cJ6_bitCount_0f7a4 1 (some .int) 1 := ⟨⟨mem_tb 687 rfl rfl, mem_tb 685 rfl rfl, mem_tb 102 rfl rfl, by decide +kernel⟩, mem_tb 686 rfl rfl⟩
set_option maxRecDepth 20000 in
theorem lk_X6_189 : LkV RX6 189 yX3_isQuietWithout cX3_isQuietWithout 3 (some .boolean) 1 := ⟨⟨mem_tb 694 rfl rfl, mem_tb 691 rfl rfl, mem_tb 88 rfl rfl, by decide +kernel⟩, mem_tb 692 rfl rfl, mem_tb 693 rfl rfl⟩
set_option maxRecDepth 20000 in
theorem lk_L_74 : LkV RL 74 yX6_fingers cX6_fingers 3 (some .int) 2 := ⟨⟨mem_tb 698 rfl rfl, mem_tb 695 rfl rfl, mem_tb 87 rfl rfl, by decide +kernel⟩, mem_tb 696 rfl rfl, mem_tb 697 rfl rfl⟩
set_option maxRecDepth 20000 in
theorem lk_X6_192 : LkV RX6 192 yX0_solve cX0_solve 5 none 2 := ⟨⟨mem_tb 702 rfl rfl, mem_tb 699 rfl rfl, mem_tb 92 rfl rfl, by decide +kernel⟩, mem_tb 700 rfl rfl, mem_tb 701 rfl rfl⟩
set_option maxRecDepth 20000 in
theorem lk_X0_21 : LkV RX0 21 yX0_sortNotes cX0_sortNotes 5 none 2 := ⟨⟨mem_tb 706 rfl rfl, mem_tb 703 rfl rfl, mem_tb 92 rfl rfl, by decide +kernel⟩, mem_tb 705 rfl rfl, mem_tb 24 rfl rfl⟩
set_option maxRecDepth 20000 in
theorem lk_X0_47 : LkV RX0 47 yX0_isAhead cX0_isAhead 4 (some .boolean) 3 := ⟨⟨mem_tb 710 rfl rfl, mem_tb 707 rfl rfl, mem_tb 92 rfl rfl, by decide +kernel⟩, mem_tb 709 rfl rfl, mem_tb 25 rfl rfl⟩
set_option maxRecDepth 20000 in
theorem lk_X0_32 : LkV RX0 32 yX0_leastFrom cX0_leastFrom 4 (some .int) 3 := ⟨⟨mem_tb 714 rfl rfl, mem_tb 711 rfl rfl, mem_tb 92 rfl rfl, by decide +kernel⟩, mem_tb 713 rfl rfl, mem_tb 26 rfl rfl⟩
set_option maxRecDepth 20000 in
theorem lk_X0_36 : LkV RX0 36 yX0_nextFinger cX0_nextFinger 6 (some .int) 3 := ⟨⟨mem_tb 718 rfl rfl, mem_tb 715 rfl rfl, mem_tb 92 rfl rfl, by decide +kernel⟩, mem_tb 717 rfl rfl, mem_tb 27 rfl rfl⟩
set_option maxRecDepth 20000 in
theorem lk_X0_57 : LkV RX0 57 yX0_costBy cX0_costBy 8 (some .int) 4 := ⟨⟨mem_tb 722 rfl rfl, mem_tb 719 rfl rfl, mem_tb 92 rfl rfl, by decide +kernel⟩, mem_tb 721 rfl rfl, mem_tb 28 rfl rfl⟩
set_option maxRecDepth 20000 in
theorem lk_X0_61 : LkS RX0 61 yJ9_abs_0f7a4 cJ9_abs_0f7a4 1 (some .int) 1 := ⟨⟨mem_tb 575 rfl rfl, mem_tb 723 rfl rfl, mem_tb 96 rfl rfl, by decide +kernel⟩, mem_tb 574 rfl rfl⟩
set_option maxRecDepth 20000 in
theorem lk_L_78 : LkV RL 78 yX6_pedal cX6_pedal 3 (some .int) 2 := ⟨⟨mem_tb 727 rfl rfl, mem_tb 724 rfl rfl, mem_tb 87 rfl rfl, by decide +kernel⟩, mem_tb 725 rfl rfl, mem_tb 726 rfl rfl⟩
set_option maxRecDepth 20000 in
theorem lk_L_82 : LkV RL 82 yX6_blurs cX6_blurs 2 (some .int) 1 := ⟨⟨mem_tb 731 rfl rfl, mem_tb 728 rfl rfl, mem_tb 87 rfl rfl, by decide +kernel⟩, mem_tb 729 rfl rfl, mem_tb 730 rfl rfl⟩
set_option maxRecDepth 20000 in
theorem lk_X6_206 : LkV RX6 206 yX2_gather cX2_gather 2 none 1 := ⟨⟨mem_tb 735 rfl rfl, mem_tb 732 rfl rfl, mem_tb 93 rfl rfl, by decide +kernel⟩, mem_tb 733 rfl rfl, mem_tb 734 rfl rfl⟩
set_option maxRecDepth 20000 in
theorem lk_X2_21 : LkV RX2 21 yX2_gatherEnds cX2_gatherEnds 6 none 1 := ⟨⟨mem_tb 739 rfl rfl, mem_tb 736 rfl rfl, mem_tb 93 rfl rfl, by decide +kernel⟩, mem_tb 738 rfl rfl, mem_tb 29 rfl rfl⟩
set_option maxRecDepth 20000 in
theorem lk_X2_34 : LkV RX2 34 yX3_isPlayed cX3_isPlayed 2 (some .boolean) 1 := ⟨⟨mem_tb 660 rfl rfl, mem_tb 740 rfl rfl, mem_tb 88 rfl rfl, by decide +kernel⟩, mem_tb 658 rfl rfl, mem_tb 659 rfl rfl⟩
set_option maxRecDepth 20000 in
theorem lk_X2_25 : LkV RX2 25 yX2_gatherPairs cX2_gatherPairs 5 none 1 := ⟨⟨mem_tb 744 rfl rfl, mem_tb 741 rfl rfl, mem_tb 93 rfl rfl, by decide +kernel⟩, mem_tb 743 rfl rfl, mem_tb 30 rfl rfl⟩
set_option maxRecDepth 20000 in
theorem lk_X2_53 : LkS RX2 53 yJ9_abs_0f7a4 cJ9_abs_0f7a4 1 (some .int) 1 := ⟨⟨mem_tb 575 rfl rfl, mem_tb 745 rfl rfl, mem_tb 96 rfl rfl, by decide +kernel⟩, mem_tb 574 rfl rfl⟩
set_option maxRecDepth 20000 in
theorem lk_X2_63 : LkS RX2 63 yJ9_min_7cf53 cJ9_min_7cf53 2 (some .int) 2 := ⟨⟨mem_tb 416 rfl rfl, mem_tb 747 rfl rfl, mem_tb 96 rfl rfl, by decide +kernel⟩, mem_tb 415 rfl rfl⟩
set_option maxRecDepth 20000 in
theorem lk_X2_67 : LkS RX2 67 yJ9_max_7cf53 cJ9_max_7cf53 2 (some .int) 2 := ⟨⟨mem_tb 578 rfl rfl, mem_tb 748 rfl rfl, mem_tb 96 rfl rfl, by decide +kernel⟩, mem_tb 577 rfl rfl⟩
set_option maxRecDepth 20000 in
theorem lk_X6_209 : LkV RX6 209 yX2_blurred cX2_blurred 5 (some .int) 2 := ⟨⟨mem_tb 752 rfl rfl, mem_tb 749 rfl rfl, mem_tb 93 rfl rfl, by decide +kernel⟩, mem_tb 750 rfl rfl, mem_tb 751 rfl rfl⟩
set_option maxRecDepth 20000 in
theorem lk_X6_212 : LkV RX6 212 yX2_joined cX2_joined 5 (some .int) 2 := ⟨⟨mem_tb 756 rfl rfl, mem_tb 753 rfl rfl, mem_tb 93 rfl rfl, by decide +kernel⟩, mem_tb 754 rfl rfl, mem_tb 755 rfl rfl⟩
set_option maxRecDepth 20000 in
theorem lk_L_86 : LkV RL 86 yX6_best cX6_best 2 (some .int) 1 := ⟨⟨mem_tb 760 rfl rfl, mem_tb 757 rfl rfl, mem_tb 87 rfl rfl, by decide +kernel⟩, mem_tb 758 rfl rfl, mem_tb 759 rfl rfl⟩
set_option maxRecDepth 20000 in
theorem lk_X6_215 : LkV RX6 215 yX2_findBest cX2_findBest 4 none 0 := ⟨⟨mem_tb 764 rfl rfl, mem_tb 761 rfl rfl, mem_tb 93 rfl rfl, by decide +kernel⟩, mem_tb 762 rfl rfl, mem_tb 763 rfl rfl⟩
set_option maxRecDepth 20000 in
theorem lk_X2_79 : LkV RX2 79 yX2_joined cX2_joined 5 (some .int) 2 := ⟨⟨mem_tb 756 rfl rfl, mem_tb 765 rfl rfl, mem_tb 93 rfl rfl, by decide +kernel⟩, mem_tb 754 rfl rfl, mem_tb 755 rfl rfl⟩
set_option maxRecDepth 20000 in
theorem lk_X2_82 : LkV RX2 82 yX2_blurred cX2_blurred 5 (some .int) 2 := ⟨⟨mem_tb 752 rfl rfl, mem_tb 766 rfl rfl, mem_tb 93 rfl rfl, by decide +kernel⟩, mem_tb 750 rfl rfl, mem_tb 751 rfl rfl⟩
set_option maxRecDepth 20000 in
theorem lk_L_90 : LkV RL 90 yX6_turns cX6_turns 6 (some .int) 3 := ⟨⟨mem_tb 770 rfl rfl, mem_tb 767 rfl rfl, mem_tb 87 rfl rfl, by decide +kernel⟩, mem_tb 768 rfl rfl, mem_tb 769 rfl rfl⟩
set_option maxRecDepth 20000 in
theorem lk_X6_227 : LkV RX6 227 yX6_freeHand cX6_freeHand 6 (some .int) 2 := ⟨⟨mem_tb 774 rfl rfl, mem_tb 771 rfl rfl, mem_tb 87 rfl rfl, by decide +kernel⟩, mem_tb 773 rfl rfl, mem_tb 31 rfl rfl⟩
set_option maxRecDepth 20000 in
theorem lk_X6_292 : LkV RX6 292 yX3_isFree cX3_isFree 4 (some .boolean) 2 := ⟨⟨mem_tb 778 rfl rfl, mem_tb 775 rfl rfl, mem_tb 88 rfl rfl, by decide +kernel⟩, mem_tb 776 rfl rfl, mem_tb 777 rfl rfl⟩
set_option maxRecDepth 20000 in
theorem lk_X3_115 : LkV RX3 115 yX3_sounds cX3_sounds 3 (some .boolean) 2 := ⟨⟨mem_tb 782 rfl rfl, mem_tb 779 rfl rfl, mem_tb 88 rfl rfl, by decide +kernel⟩, mem_tb 780 rfl rfl, mem_tb 781 rfl rfl⟩
set_option maxRecDepth 20000 in
theorem lk_X3_79 : LkV RX3 79 yX3_isPlayed cX3_isPlayed 2 (some .boolean) 1 := ⟨⟨mem_tb 660 rfl rfl, mem_tb 783 rfl rfl, mem_tb 88 rfl rfl, by decide +kernel⟩, mem_tb 658 rfl rfl, mem_tb 659 rfl rfl⟩
set_option maxRecDepth 20000 in
theorem lk_L_95 : LkV RL 95 yX6_covered cX6_covered 4 (some .long) 0 := ⟨⟨mem_tb 787 rfl rfl, mem_tb 784 rfl rfl, mem_tb 87 rfl rfl, by decide +kernel⟩, mem_tb 785 rfl rfl, mem_tb 786 rfl rfl⟩
set_option maxRecDepth 20000 in
theorem lk_X6_230 : LkV RX6 230 yX3_isCovered cX3_isCovered 5 (some .boolean) 1 := ⟨⟨mem_tb 791 rfl rfl, mem_tb 788 rfl rfl, mem_tb 88 rfl rfl, by decide +kernel⟩, mem_tb 789 rfl rfl, mem_tb 790 rfl rfl⟩
set_option maxRecDepth 20000 in
theorem lk_L_100 : LkV RL 100 yX6_places cX6_places 2 (some .int) 0 := ⟨⟨mem_tb 795 rfl rfl, mem_tb 792 rfl rfl, mem_tb 87 rfl rfl, by decide +kernel⟩, mem_tb 793 rfl rfl, mem_tb 794 rfl rfl⟩
set_option maxRecDepth 20000 in
theorem lk_L_104 : LkV RL 104 yX6_practice cX6_practice 3 (some .int) 2 := ⟨⟨mem_tb 799 rfl rfl, mem_tb 796 rfl rfl, mem_tb 87 rfl rfl, by decide +kernel⟩, mem_tb 797 rfl rfl, mem_tb 798 rfl rfl⟩
set_option maxRecDepth 20000 in
theorem lk_X6_233 : LkV RX6 233 yX4_solve cX4_solve 6 none 2 := ⟨⟨mem_tb 803 rfl rfl, mem_tb 800 rfl rfl, mem_tb 94 rfl rfl, by decide +kernel⟩, mem_tb 801 rfl rfl, mem_tb 802 rfl rfl⟩
set_option maxRecDepth 20000 in
theorem lk_X4_21 : LkV RX4 21 yX4_countSlips cX4_countSlips 4 none 1 := ⟨⟨mem_tb 807 rfl rfl, mem_tb 804 rfl rfl, mem_tb 94 rfl rfl, by decide +kernel⟩, mem_tb 806 rfl rfl, mem_tb 32 rfl rfl⟩
set_option maxRecDepth 20000 in
theorem lk_X4_41 : LkS RX4 41 yJ7_fill_53178 cJ7_fill_53178 4 none 2 := ⟨⟨mem_tb 119 rfl rfl, mem_tb 808 rfl rfl, mem_tb 89 rfl rfl, by decide +kernel⟩, mem_tb 118 rfl rfl⟩
set_option maxRecDepth 20000 in
theorem lk_X4_52 : LkV RX4 52 yX3_isPlayed cX3_isPlayed 2 (some .boolean) 1 := ⟨⟨mem_tb 660 rfl rfl, mem_tb 809 rfl rfl, mem_tb 88 rfl rfl, by decide +kernel⟩, mem_tb 658 rfl rfl, mem_tb 659 rfl rfl⟩
set_option maxRecDepth 20000 in
theorem lk_X4_59 : LkV RX4 59 yX3_sortOf cX3_sortOf 3 (some .int) 2 := ⟨⟨mem_tb 568 rfl rfl, mem_tb 810 rfl rfl, mem_tb 88 rfl rfl, by decide +kernel⟩, mem_tb 566 rfl rfl, mem_tb 567 rfl rfl⟩
set_option maxRecDepth 20000 in
theorem lk_X4_62 : LkS RX4 62 yJ9_max_7cf53 cJ9_max_7cf53 2 (some .int) 2 := ⟨⟨mem_tb 578 rfl rfl, mem_tb 811 rfl rfl, mem_tb 96 rfl rfl, by decide +kernel⟩, mem_tb 577 rfl rfl⟩
set_option maxRecDepth 20000 in
theorem lk_X4_25 : LkV RX4 25 yX4_hoursHere cX4_hoursHere 5 (some .int) 2 := ⟨⟨mem_tb 815 rfl rfl, mem_tb 812 rfl rfl, mem_tb 94 rfl rfl, by decide +kernel⟩, mem_tb 814 rfl rfl, mem_tb 33 rfl rfl⟩
set_option maxRecDepth 20000 in
theorem lk_X4_29 : LkV RX4 29 yX4_leaves cX4_leaves 4 (some .int) 3 := ⟨⟨mem_tb 819 rfl rfl, mem_tb 816 rfl rfl, mem_tb 94 rfl rfl, by decide +kernel⟩, mem_tb 818 rfl rfl, mem_tb 34 rfl rfl⟩
set_option maxRecDepth 20000 in
theorem lk_X4_37 : LkV RX4 37 yX4_fillRow cX4_fillRow 6 none 1 := ⟨⟨mem_tb 823 rfl rfl, mem_tb 820 rfl rfl, mem_tb 94 rfl rfl, by decide +kernel⟩, mem_tb 822 rfl rfl, mem_tb 35 rfl rfl⟩
set_option maxRecDepth 20000 in
theorem lk_L_108 : LkV RL 108 yX6_breath cX6_breath 6 (some .int) 2 := ⟨⟨mem_tb 827 rfl rfl, mem_tb 824 rfl rfl, mem_tb 87 rfl rfl, by decide +kernel⟩, mem_tb 825 rfl rfl, mem_tb 826 rfl rfl⟩
set_option maxRecDepth 20000 in
theorem lk_X6_238 : LkS RX6 238 yJ9_abs_0f7a4 cJ9_abs_0f7a4 1 (some .int) 1 := ⟨⟨mem_tb 575 rfl rfl, mem_tb 828 rfl rfl, mem_tb 96 rfl rfl, by decide +kernel⟩, mem_tb 574 rfl rfl⟩
set_option maxRecDepth 20000 in
theorem lk_X6_243 : LkV RX6 243 yX6_setFraction cX6_setFraction 7 none 2 := ⟨⟨mem_tb 832 rfl rfl, mem_tb 829 rfl rfl, mem_tb 87 rfl rfl, by decide +kernel⟩, mem_tb 831 rfl rfl, mem_tb 36 rfl rfl⟩
set_option maxRecDepth 20000 in
theorem lk_L_112 : LkV RL 112 yX6_heard cX6_heard 4 (some .int) 2 := ⟨⟨mem_tb 836 rfl rfl, mem_tb 833 rfl rfl, mem_tb 87 rfl rfl, by decide +kernel⟩, mem_tb 834 rfl rfl, mem_tb 835 rfl rfl⟩
set_option maxRecDepth 20000 in
theorem lk_L_116 : LkV RL 116 yX6_late cX6_late 3 (some .int) 0 := ⟨⟨mem_tb 840 rfl rfl, mem_tb 837 rfl rfl, mem_tb 87 rfl rfl, by decide +kernel⟩, mem_tb 838 rfl rfl, mem_tb 839 rfl rfl⟩
set_option maxRecDepth 20000 in
theorem lk_X6_249 : LkV RX6 249 yX3_isExplainedBy cX3_isExplainedBy 6 (some .boolean) 1 := ⟨⟨mem_tb 844 rfl rfl, mem_tb 841 rfl rfl, mem_tb 88 rfl rfl, by decide +kernel⟩, mem_tb 842 rfl rfl, mem_tb 843 rfl rfl⟩
set_option maxRecDepth 20000 in
theorem lk_X3_119 : LkS RX3 119 yJ9_min_7cf53 cJ9_min_7cf53 2 (some .int) 2 := ⟨⟨mem_tb 416 rfl rfl, mem_tb 845 rfl rfl, mem_tb 96 rfl rfl, by decide +kernel⟩, mem_tb 415 rfl rfl⟩
set_option maxRecDepth 20000 in
theorem lk_L_120 : LkV RL 120 yX6_evening cX6_evening 6 (some .int) 2 := ⟨⟨mem_tb 849 rfl rfl, mem_tb 846 rfl rfl, mem_tb 87 rfl rfl, by decide +kernel⟩, mem_tb 847 rfl rfl, mem_tb 848 rfl rfl⟩
set_option maxRecDepth 20000 in
theorem lk_L_124 : LkV RL 124 yX6_part cX6_part 2 (some .long) 1 := ⟨⟨mem_tb 859 rfl rfl, mem_tb 856 rfl rfl, mem_tb 87 rfl rfl, by decide +kernel⟩, mem_tb 857 rfl rfl, mem_tb 858 rfl rfl⟩
set_option maxRecDepth 20000 in
theorem lk_L_129 : LkV RL 129 yX6_image cX6_image 2 (some .int) 1 := ⟨⟨mem_tb 863 rfl rfl, mem_tb 860 rfl rfl, mem_tb 87 rfl rfl, by decide +kernel⟩, mem_tb 861 rfl rfl, mem_tb 862 rfl rfl⟩
set_option maxRecDepth 20000 in
theorem lk_L_133 : LkV RL 133 yX6_from cX6_from 2 (some .int) 1 := ⟨⟨mem_tb 867 rfl rfl, mem_tb 864 rfl rfl, mem_tb 87 rfl rfl, by decide +kernel⟩, mem_tb 865 rfl rfl, mem_tb 866 rfl rfl⟩
set_option maxRecDepth 20000 in
theorem lk_L_137 : LkV RL 137 yX6_status cX6_status 2 (some .int) 1 := ⟨⟨mem_tb 871 rfl rfl, mem_tb 868 rfl rfl, mem_tb 87 rfl rfl, by decide +kernel⟩, mem_tb 869 rfl rfl, mem_tb 870 rfl rfl⟩
set_option maxRecDepth 20000 in
theorem lk_L_141 : LkV RL 141 yX6_count cX6_count 2 (some .int) 1 := ⟨⟨mem_tb 875 rfl rfl, mem_tb 872 rfl rfl, mem_tb 87 rfl rfl, by decide +kernel⟩, mem_tb 873 rfl rfl, mem_tb 874 rfl rfl⟩
set_option maxRecDepth 20000 in
theorem lk_X6_281 : LkV RX6 281 yX6_howMany cX6_howMany 2 (some .int) 1 := ⟨⟨mem_tb 879 rfl rfl, mem_tb 876 rfl rfl, mem_tb 87 rfl rfl, by decide +kernel⟩, mem_tb 878 rfl rfl, mem_tb 37 rfl rfl⟩
set_option maxRecDepth 20000 in
theorem lk_X6_296 : LkV RX6 296 yX3_playedCount cX3_playedCount 3 (some .int) 0 := ⟨⟨mem_tb 883 rfl rfl, mem_tb 880 rfl rfl, mem_tb 88 rfl rfl, by decide +kernel⟩, mem_tb 881 rfl rfl, mem_tb 882 rfl rfl⟩
set_option maxRecDepth 20000 in
theorem lk_L_145 : LkV RL 145 yX6_digest cX6_digest 4 (some .long) 0 := ⟨⟨mem_tb 887 rfl rfl, mem_tb 884 rfl rfl, mem_tb 87 rfl rfl, by decide +kernel⟩, mem_tb 885 rfl rfl, mem_tb 886 rfl rfl⟩
set_option maxRecDepth 20000 in
theorem lk_X6_288 : LkV RX6 288 yX3_digestFrom cX3_digestFrom 6 (some .long) 1 := ⟨⟨mem_tb 893 rfl rfl, mem_tb 890 rfl rfl, mem_tb 88 rfl rfl, by decide +kernel⟩, mem_tb 891 rfl rfl, mem_tb 892 rfl rfl⟩
set_option maxRecDepth 20000 in
theorem lk_L_12 : LkI RL 12 yX7_init cX7_init 1 0 := ⟨⟨mem_tb 899 rfl rfl, mem_tb 897 rfl rfl, mem_tb 95 rfl rfl, by decide +kernel⟩, rfl, mem_tb 898 rfl rfl⟩
set_option maxRecDepth 20000 in
theorem lk_X7_60 : LkS RX7 60 yX7_begin cX7_begin 3 none 2 := ⟨⟨mem_tb 903 rfl rfl, mem_tb 901 rfl rfl, mem_tb 95 rfl rfl, by decide +kernel⟩, mem_tb 902 rfl rfl⟩
set_option maxRecDepth 20000 in
theorem lk_L_17 : LkV RL 17 yX7_piece cX7_piece 3 (some .int) 1 := ⟨⟨mem_tb 993 rfl rfl, mem_tb 990 rfl rfl, mem_tb 95 rfl rfl, by decide +kernel⟩, mem_tb 991 rfl rfl, mem_tb 992 rfl rfl⟩
set_option maxRecDepth 20000 in
theorem lk_X7_68 : LkS RX7 68 yX7_in cX7_in 6 (some .boolean) 3 := ⟨⟨mem_tb 997 rfl rfl, mem_tb 995 rfl rfl, mem_tb 95 rfl rfl, by decide +kernel⟩, mem_tb 996 rfl rfl⟩
set_option maxRecDepth 20000 in
theorem lk_X7_76 : LkV RX7 76 yX7_bad cX7_bad 2 (some .int) 1 := ⟨⟨mem_tb 1001 rfl rfl, mem_tb 998 rfl rfl, mem_tb 95 rfl rfl, by decide +kernel⟩, mem_tb 1000 rfl rfl, mem_tb 38 rfl rfl⟩
set_option maxRecDepth 20000 in
theorem lk_X7_64 : LkV RX7 64 yX7_notes cX7_notes 1 (some .int) 0 := ⟨⟨mem_tb 1005 rfl rfl, mem_tb 1002 rfl rfl, mem_tb 95 rfl rfl, by decide +kernel⟩, mem_tb 1004 rfl rfl, mem_tb 39 rfl rfl⟩
set_option maxRecDepth 20000 in
theorem lk_L_22 : LkV RL 22 yX7_hand cX7_hand 6 (some .int) 4 := ⟨⟨mem_tb 1009 rfl rfl, mem_tb 1006 rfl rfl, mem_tb 95 rfl rfl, by decide +kernel⟩, mem_tb 1007 rfl rfl, mem_tb 1008 rfl rfl⟩
set_option maxRecDepth 20000 in
theorem lk_X7_80 : LkS RX7 80 yX7_isHand cX7_isHand 1 (some .boolean) 1 := ⟨⟨mem_tb 1012 rfl rfl, mem_tb 1010 rfl rfl, mem_tb 95 rfl rfl, by decide +kernel⟩, mem_tb 1011 rfl rfl⟩
set_option maxRecDepth 20000 in
theorem lk_X7_88 : LkS RX7 88 yX7_layHand cX7_layHand 5 none 5 := ⟨⟨mem_tb 1018 rfl rfl, mem_tb 1016 rfl rfl, mem_tb 95 rfl rfl, by decide +kernel⟩, mem_tb 1017 rfl rfl⟩
set_option maxRecDepth 20000 in
theorem lk_L_27 : LkV RL 27 yX7_note cX7_note 7 (some .int) 6 := ⟨⟨mem_tb 1022 rfl rfl, mem_tb 1019 rfl rfl, mem_tb 95 rfl rfl, by decide +kernel⟩, mem_tb 1020 rfl rfl, mem_tb 1021 rfl rfl⟩
set_option maxRecDepth 20000 in
theorem lk_X7_100 : LkV RX7 100 yX7_full cX7_full 1 (some .int) 0 := ⟨⟨mem_tb 1030 rfl rfl, mem_tb 1027 rfl rfl, mem_tb 95 rfl rfl, by decide +kernel⟩, mem_tb 1029 rfl rfl, mem_tb 40 rfl rfl⟩
set_option maxRecDepth 20000 in
theorem lk_X7_103 : LkS RX7 103 yX7_layNote cX7_layNote 8 none 7 := ⟨⟨mem_tb 1033 rfl rfl, mem_tb 1031 rfl rfl, mem_tb 95 rfl rfl, by decide +kernel⟩, mem_tb 1032 rfl rfl⟩
set_option maxRecDepth 20000 in
theorem lk_L_45 : LkV RL 45 yX7_give cX7_give 3 (some .int) 2 := ⟨⟨mem_tb 1037 rfl rfl, mem_tb 1034 rfl rfl, mem_tb 95 rfl rfl, by decide +kernel⟩, mem_tb 1035 rfl rfl, mem_tb 1036 rfl rfl⟩
set_option maxRecDepth 20000 in
theorem lk_X7_142 : LkV RX7 142 yX7_isNote cX7_isNote 2 (some .boolean) 1 := ⟨⟨mem_tb 1041 rfl rfl, mem_tb 1038 rfl rfl, mem_tb 95 rfl rfl, by decide +kernel⟩, mem_tb 1040 rfl rfl, mem_tb 41 rfl rfl⟩
set_option maxRecDepth 20000 in
theorem lk_X7_145 : LkV RX7 145 yX7_keep cX7_keep 2 none 0 := ⟨⟨mem_tb 1045 rfl rfl, mem_tb 1042 rfl rfl, mem_tb 95 rfl rfl, by decide +kernel⟩, mem_tb 1044 rfl rfl, mem_tb 42 rfl rfl⟩
set_option maxRecDepth 20000 in
theorem lk_X7_110 : LkV RX7 110 yX7_get cX7_get 3 (some .int) 2 := ⟨⟨mem_tb 1049 rfl rfl, mem_tb 1046 rfl rfl, mem_tb 95 rfl rfl, by decide +kernel⟩, mem_tb 1048 rfl rfl, mem_tb 43 rfl rfl⟩
set_option maxRecDepth 20000 in
theorem lk_X7_148 : LkV RX7 148 yX7_setHand cX7_setHand 3 none 2 := ⟨⟨mem_tb 1053 rfl rfl, mem_tb 1050 rfl rfl, mem_tb 95 rfl rfl, by decide +kernel⟩, mem_tb 1052 rfl rfl, mem_tb 44 rfl rfl⟩
set_option maxRecDepth 20000 in
theorem lk_X7_152 : LkV RX7 152 yX7_clashesNow cX7_clashesNow 4 (some .int) 0 := ⟨⟨mem_tb 1057 rfl rfl, mem_tb 1054 rfl rfl, mem_tb 95 rfl rfl, by decide +kernel⟩, mem_tb 1056 rfl rfl, mem_tb 45 rfl rfl⟩
set_option maxRecDepth 20000 in
theorem lk_X7_139 : LkV RX7 139 yX7_clashOf cX7_clashOf 8 (some .int) 2 := ⟨⟨mem_tb 1061 rfl rfl, mem_tb 1058 rfl rfl, mem_tb 95 rfl rfl, by decide +kernel⟩, mem_tb 1060 rfl rfl, mem_tb 46 rfl rfl⟩
set_option maxRecDepth 20000 in
theorem lk_X7_123 : LkV RX7 123 yX7_isPlayed cX7_isPlayed 2 (some .boolean) 1 := ⟨⟨mem_tb 1065 rfl rfl, mem_tb 1062 rfl rfl, mem_tb 95 rfl rfl, by decide +kernel⟩, mem_tb 1064 rfl rfl, mem_tb 47 rfl rfl⟩
set_option maxRecDepth 20000 in
theorem lk_X7_120 : LkS RX7 120 yX7_apart cX7_apart 2 (some .int) 2 := ⟨⟨mem_tb 1068 rfl rfl, mem_tb 1066 rfl rfl, mem_tb 95 rfl rfl, by decide +kernel⟩, mem_tb 1067 rfl rfl⟩
set_option maxRecDepth 20000 in
theorem lk_X7_126 : LkV RX7 126 yX7_soundTogether cX7_soundTogether 3 (some .boolean) 2 := ⟨⟨mem_tb 1072 rfl rfl, mem_tb 1069 rfl rfl, mem_tb 95 rfl rfl, by decide +kernel⟩, mem_tb 1071 rfl rfl, mem_tb 48 rfl rfl⟩
set_option maxRecDepth 20000 in
theorem lk_X7_114 : LkV RX7 114 yX7_endOf cX7_endOf 2 (some .int) 1 := ⟨⟨mem_tb 1076 rfl rfl, mem_tb 1073 rfl rfl, mem_tb 95 rfl rfl, by decide +kernel⟩, mem_tb 1075 rfl rfl, mem_tb 49 rfl rfl⟩
set_option maxRecDepth 20000 in
theorem lk_X7_130 : LkV RX7 130 yX7_byTwo cX7_byTwo 8 (some .int) 2 := ⟨⟨mem_tb 1080 rfl rfl, mem_tb 1077 rfl rfl, mem_tb 95 rfl rfl, by decide +kernel⟩, mem_tb 1079 rfl rfl, mem_tb 50 rfl rfl⟩
set_option maxRecDepth 20000 in
theorem lk_X7_117 : LkV RX7 117 yX7_nearOf cX7_nearOf 3 (some .int) 1 := ⟨⟨mem_tb 1084 rfl rfl, mem_tb 1081 rfl rfl, mem_tb 95 rfl rfl, by decide +kernel⟩, mem_tb 1083 rfl rfl, mem_tb 51 rfl rfl⟩
set_option maxRecDepth 20000 in
theorem lk_X7_107 : LkV RX7 107 yX7_kindOf cX7_kindOf 2 (some .int) 1 := ⟨⟨mem_tb 1088 rfl rfl, mem_tb 1085 rfl rfl, mem_tb 95 rfl rfl, by decide +kernel⟩, mem_tb 1087 rfl rfl, mem_tb 52 rfl rfl⟩
set_option maxRecDepth 20000 in
theorem lk_X7_133 : LkV RX7 133 yX7_reaches cX7_reaches 4 (some .int) 1 := ⟨⟨mem_tb 1092 rfl rfl, mem_tb 1089 rfl rfl, mem_tb 95 rfl rfl, by decide +kernel⟩, mem_tb 1091 rfl rfl, mem_tb 53 rfl rfl⟩
set_option maxRecDepth 20000 in
theorem lk_X7_136 : LkV RX7 136 yX7_moves cX7_moves 3 (some .int) 1 := ⟨⟨mem_tb 1096 rfl rfl, mem_tb 1093 rfl rfl, mem_tb 95 rfl rfl, by decide +kernel⟩, mem_tb 1095 rfl rfl, mem_tb 54 rfl rfl⟩
set_option maxRecDepth 20000 in
theorem lk_L_49 : LkV RL 49 yX7_undo cX7_undo 2 (some .int) 0 := ⟨⟨mem_tb 1100 rfl rfl, mem_tb 1097 rfl rfl, mem_tb 95 rfl rfl, by decide +kernel⟩, mem_tb 1098 rfl rfl, mem_tb 1099 rfl rfl⟩
set_option maxRecDepth 20000 in
theorem lk_X7_155 : LkV RX7 155 yX7_no cX7_no 2 (some .int) 1 := ⟨⟨mem_tb 1104 rfl rfl, mem_tb 1101 rfl rfl, mem_tb 95 rfl rfl, by decide +kernel⟩, mem_tb 1103 rfl rfl, mem_tb 55 rfl rfl⟩
set_option maxRecDepth 20000 in
theorem lk_L_53 : LkV RL 53 yX7_of cX7_of 3 (some .int) 2 := ⟨⟨mem_tb 1108 rfl rfl, mem_tb 1105 rfl rfl, mem_tb 95 rfl rfl, by decide +kernel⟩, mem_tb 1106 rfl rfl, mem_tb 1107 rfl rfl⟩
set_option maxRecDepth 20000 in
theorem lk_L_57 : LkV RL 57 yX7_about cX7_about 3 (some .int) 2 := ⟨⟨mem_tb 1112 rfl rfl, mem_tb 1109 rfl rfl, mem_tb 95 rfl rfl, by decide +kernel⟩, mem_tb 1110 rfl rfl, mem_tb 1111 rfl rfl⟩
set_option maxRecDepth 20000 in
theorem lk_X7_160 : LkV RX7 160 yX7_notesOf cX7_notesOf 4 (some .int) 1 := ⟨⟨mem_tb 1117 rfl rfl, mem_tb 1114 rfl rfl, mem_tb 95 rfl rfl, by decide +kernel⟩, mem_tb 1116 rfl rfl, mem_tb 56 rfl rfl⟩
set_option maxRecDepth 20000 in
theorem lk_L_61 : LkV RL 61 yX7_clash cX7_clash 3 (some .int) 2 := ⟨⟨mem_tb 1121 rfl rfl, mem_tb 1118 rfl rfl, mem_tb 95 rfl rfl, by decide +kernel⟩, mem_tb 1119 rfl rfl, mem_tb 1120 rfl rfl⟩
set_option maxRecDepth 20000 in
theorem lk_L_65 : LkV RL 65 yX7_clashes cX7_clashes 8 (some .int) 2 := ⟨⟨mem_tb 1125 rfl rfl, mem_tb 1122 rfl rfl, mem_tb 95 rfl rfl, by decide +kernel⟩, mem_tb 1123 rfl rfl, mem_tb 1124 rfl rfl⟩
set_option maxRecDepth 20000 in
theorem lk_L_69 : LkV RL 69 yX7_given cX7_given 3 (some .int) 2 := ⟨⟨mem_tb 1129 rfl rfl, mem_tb 1126 rfl rfl, mem_tb 95 rfl rfl, by decide +kernel⟩, mem_tb 1127 rfl rfl, mem_tb 1128 rfl rfl⟩
set_option maxRecDepth 20000 in
theorem lk_X7_179 : LkV RX7 179 yX7_weigh cX7_weigh 5 none 3 := ⟨⟨mem_tb 1135 rfl rfl, mem_tb 1132 rfl rfl, mem_tb 95 rfl rfl, by decide +kernel⟩, mem_tb 1134 rfl rfl, mem_tb 57 rfl rfl⟩
set_option maxRecDepth 20000 in
theorem lk_X7_186 : LkV RX7 186 yX7_tryOne cX7_tryOne 5 none 1 := ⟨⟨mem_tb 1139 rfl rfl, mem_tb 1136 rfl rfl, mem_tb 95 rfl rfl, by decide +kernel⟩, mem_tb 1138 rfl rfl, mem_tb 58 rfl rfl⟩
set_option maxRecDepth 20000 in
theorem lk_X7_176 : LkV RX7 176 yX7_trySecond cX7_trySecond 6 none 2 := ⟨⟨mem_tb 1143 rfl rfl, mem_tb 1140 rfl rfl, mem_tb 95 rfl rfl, by decide +kernel⟩, mem_tb 1142 rfl rfl, mem_tb 59 rfl rfl⟩
set_option maxRecDepth 20000 in
theorem lk_L_73 : LkV RL 73 yX7_out cX7_out 7 (some .int) 0 := ⟨⟨mem_tb 1147 rfl rfl, mem_tb 1144 rfl rfl, mem_tb 95 rfl rfl, by decide +kernel⟩, mem_tb 1145 rfl rfl, mem_tb 1146 rfl rfl⟩
set_option maxRecDepth 20000 in
theorem lk_X7_190 : LkS RX7 190 yX7_bits cX7_bits 3 (some .int) 1 := ⟨⟨mem_tb 1150 rfl rfl, mem_tb 1148 rfl rfl, mem_tb 95 rfl rfl, by decide +kernel⟩, mem_tb 1149 rfl rfl⟩
set_option maxRecDepth 20000 in
theorem lk_L_77 : LkV RL 77 yX7_fingers cX7_fingers 10 (some .int) 2 := ⟨⟨mem_tb 1154 rfl rfl, mem_tb 1151 rfl rfl, mem_tb 95 rfl rfl, by decide +kernel⟩, mem_tb 1152 rfl rfl, mem_tb 1153 rfl rfl⟩
set_option maxRecDepth 20000 in
theorem lk_X7_203 : LkV RX7 203 yX7_layRow cX7_layRow 4 none 1 := ⟨⟨mem_tb 1158 rfl rfl, mem_tb 1155 rfl rfl, mem_tb 95 rfl rfl, by decide +kernel⟩, mem_tb 1157 rfl rfl, mem_tb 60 rfl rfl⟩
set_option maxRecDepth 20000 in
theorem lk_X7_196 : LkV RX7 196 yX7_isAhead cX7_isAhead 5 (some .boolean) 2 := ⟨⟨mem_tb 1162 rfl rfl, mem_tb 1159 rfl rfl, mem_tb 95 rfl rfl, by decide +kernel⟩, mem_tb 1161 rfl rfl, mem_tb 61 rfl rfl⟩
set_option maxRecDepth 20000 in
theorem lk_X7_207 : LkV RX7 207 yX7_onFrom cX7_onFrom 6 (some .int) 2 := ⟨⟨mem_tb 1166 rfl rfl, mem_tb 1163 rfl rfl, mem_tb 95 rfl rfl, by decide +kernel⟩, mem_tb 1165 rfl rfl, mem_tb 62 rfl rfl⟩
set_option maxRecDepth 20000 in
theorem lk_X7_199 : LkV RX7 199 yX7_cost cX7_cost 6 (some .int) 4 := ⟨⟨mem_tb 1170 rfl rfl, mem_tb 1167 rfl rfl, mem_tb 95 rfl rfl, by decide +kernel⟩, mem_tb 1169 rfl rfl, mem_tb 63 rfl rfl⟩
set_option maxRecDepth 20000 in
theorem lk_L_81 : LkV RL 81 yX7_pedal cX7_pedal 3 (some .int) 2 := ⟨⟨mem_tb 1174 rfl rfl, mem_tb 1171 rfl rfl, mem_tb 95 rfl rfl, by decide +kernel⟩, mem_tb 1172 rfl rfl, mem_tb 1173 rfl rfl⟩
set_option maxRecDepth 20000 in
theorem lk_L_85 : LkV RL 85 yX7_blurs cX7_blurs 2 (some .int) 1 := ⟨⟨mem_tb 1179 rfl rfl, mem_tb 1176 rfl rfl, mem_tb 95 rfl rfl, by decide +kernel⟩, mem_tb 1177 rfl rfl, mem_tb 1178 rfl rfl⟩
set_option maxRecDepth 20000 in
theorem lk_X7_215 : LkV RX7 215 yX7_blursBy cX7_blursBy 9 (some .int) 2 := ⟨⟨mem_tb 1183 rfl rfl, mem_tb 1180 rfl rfl, mem_tb 95 rfl rfl, by decide +kernel⟩, mem_tb 1182 rfl rfl, mem_tb 64 rfl rfl⟩
set_option maxRecDepth 20000 in
theorem lk_X7_218 : LkV RX7 218 yX7_joinsBy cX7_joinsBy 6 (some .int) 2 := ⟨⟨mem_tb 1187 rfl rfl, mem_tb 1184 rfl rfl, mem_tb 95 rfl rfl, by decide +kernel⟩, mem_tb 1186 rfl rfl, mem_tb 65 rfl rfl⟩
set_option maxRecDepth 20000 in
theorem lk_X7_212 : LkV RX7 212 yX7_begins cX7_begins 5 (some .boolean) 2 := ⟨⟨mem_tb 1191 rfl rfl, mem_tb 1188 rfl rfl, mem_tb 95 rfl rfl, by decide +kernel⟩, mem_tb 1190 rfl rfl, mem_tb 66 rfl rfl⟩
set_option maxRecDepth 20000 in
theorem lk_L_89 : LkV RL 89 yX7_best cX7_best 7 (some .int) 1 := ⟨⟨mem_tb 1195 rfl rfl, mem_tb 1192 rfl rfl, mem_tb 95 rfl rfl, by decide +kernel⟩, mem_tb 1193 rfl rfl, mem_tb 1194 rfl rfl⟩
set_option maxRecDepth 20000 in
theorem lk_L_94 : LkV RL 94 yX7_turns cX7_turns 7 (some .int) 3 := ⟨⟨mem_tb 1199 rfl rfl, mem_tb 1196 rfl rfl, mem_tb 95 rfl rfl, by decide +kernel⟩, mem_tb 1197 rfl rfl, mem_tb 1198 rfl rfl⟩
set_option maxRecDepth 20000 in
theorem lk_X7_224 : LkV RX7 224 yX7_freeHand cX7_freeHand 4 (some .int) 2 := ⟨⟨mem_tb 1203 rfl rfl, mem_tb 1200 rfl rfl, mem_tb 95 rfl rfl, by decide +kernel⟩, mem_tb 1202 rfl rfl, mem_tb 67 rfl rfl⟩
set_option maxRecDepth 20000 in
theorem lk_X7_221 : LkV RX7 221 yX7_isFree cX7_isFree 5 (some .boolean) 2 := ⟨⟨mem_tb 1207 rfl rfl, mem_tb 1204 rfl rfl, mem_tb 95 rfl rfl, by decide +kernel⟩, mem_tb 1206 rfl rfl, mem_tb 68 rfl rfl⟩
set_option maxRecDepth 20000 in
theorem lk_L_99 : LkV RL 99 yX7_covered cX7_covered 9 (some .long) 0 := ⟨⟨mem_tb 1211 rfl rfl, mem_tb 1208 rfl rfl, mem_tb 95 rfl rfl, by decide +kernel⟩, mem_tb 1209 rfl rfl, mem_tb 1210 rfl rfl⟩
set_option maxRecDepth 20000 in
theorem lk_L_103 : LkV RL 103 yX7_places cX7_places 3 (some .int) 0 := ⟨⟨mem_tb 1215 rfl rfl, mem_tb 1212 rfl rfl, mem_tb 95 rfl rfl, by decide +kernel⟩, mem_tb 1213 rfl rfl, mem_tb 1214 rfl rfl⟩
set_option maxRecDepth 20000 in
theorem lk_X7_227 : LkV RX7 227 yX7_changePlaces cX7_changePlaces 3 none 0 := ⟨⟨mem_tb 1219 rfl rfl, mem_tb 1216 rfl rfl, mem_tb 95 rfl rfl, by decide +kernel⟩, mem_tb 1218 rfl rfl, mem_tb 69 rfl rfl⟩
set_option maxRecDepth 20000 in
theorem lk_L_107 : LkV RL 107 yX7_practice cX7_practice 6 (some .int) 2 := ⟨⟨mem_tb 1223 rfl rfl, mem_tb 1220 rfl rfl, mem_tb 95 rfl rfl, by decide +kernel⟩, mem_tb 1221 rfl rfl, mem_tb 1222 rfl rfl⟩
set_option maxRecDepth 20000 in
theorem lk_X7_232 : LkV RX7 232 yX7_laySlips cX7_laySlips 4 none 0 := ⟨⟨mem_tb 1228 rfl rfl, mem_tb 1225 rfl rfl, mem_tb 95 rfl rfl, by decide +kernel⟩, mem_tb 1227 rfl rfl, mem_tb 70 rfl rfl⟩
set_option maxRecDepth 20000 in
theorem lk_X7_238 : LkV RX7 238 yX7_slipsBy cX7_slipsBy 4 (some .int) 1 := ⟨⟨mem_tb 1232 rfl rfl, mem_tb 1229 rfl rfl, mem_tb 95 rfl rfl, by decide +kernel⟩, mem_tb 1231 rfl rfl, mem_tb 71 rfl rfl⟩
set_option maxRecDepth 20000 in
theorem lk_X7_241 : LkV RX7 241 yX7_nextRow cX7_nextRow 5 (some .boolean) 1 := ⟨⟨mem_tb 1236 rfl rfl, mem_tb 1233 rfl rfl, mem_tb 95 rfl rfl, by decide +kernel⟩, mem_tb 1235 rfl rfl, mem_tb 72 rfl rfl⟩
set_option maxRecDepth 20000 in
theorem lk_L_111 : LkV RL 111 yX7_breath cX7_breath 6 (some .int) 2 := ⟨⟨mem_tb 1240 rfl rfl, mem_tb 1237 rfl rfl, mem_tb 95 rfl rfl, by decide +kernel⟩, mem_tb 1238 rfl rfl, mem_tb 1239 rfl rfl⟩
set_option maxRecDepth 20000 in
theorem lk_X7_249 : LkV RX7 249 yX7_tell cX7_tell 11 none 2 := ⟨⟨mem_tb 1245 rfl rfl, mem_tb 1242 rfl rfl, mem_tb 95 rfl rfl, by decide +kernel⟩, mem_tb 1244 rfl rfl, mem_tb 73 rfl rfl⟩
set_option maxRecDepth 20000 in
theorem lk_L_115 : LkV RL 115 yX7_heard cX7_heard 4 (some .int) 2 := ⟨⟨mem_tb 1249 rfl rfl, mem_tb 1246 rfl rfl, mem_tb 95 rfl rfl, by decide +kernel⟩, mem_tb 1247 rfl rfl, mem_tb 1248 rfl rfl⟩
set_option maxRecDepth 20000 in
theorem lk_L_119 : LkV RL 119 yX7_late cX7_late 4 (some .int) 0 := ⟨⟨mem_tb 1253 rfl rfl, mem_tb 1250 rfl rfl, mem_tb 95 rfl rfl, by decide +kernel⟩, mem_tb 1251 rfl rfl, mem_tb 1252 rfl rfl⟩
set_option maxRecDepth 20000 in
theorem lk_X7_253 : LkV RX7 253 yX7_explains cX7_explains 7 (some .boolean) 3 := ⟨⟨mem_tb 1257 rfl rfl, mem_tb 1254 rfl rfl, mem_tb 95 rfl rfl, by decide +kernel⟩, mem_tb 1256 rfl rfl, mem_tb 74 rfl rfl⟩
set_option maxRecDepth 20000 in
theorem lk_L_123 : LkV RL 123 yX7_evening cX7_evening 7 (some .int) 2 := ⟨⟨mem_tb 1261 rfl rfl, mem_tb 1258 rfl rfl, mem_tb 95 rfl rfl, by decide +kernel⟩, mem_tb 1259 rfl rfl, mem_tb 1260 rfl rfl⟩
set_option maxRecDepth 20000 in
theorem lk_L_31 : LkV RL 31 yX7_type cX7_type 2 (some .int) 1 := ⟨⟨mem_tb 1271 rfl rfl, mem_tb 1268 rfl rfl, mem_tb 95 rfl rfl, by decide +kernel⟩, mem_tb 1269 rfl rfl, mem_tb 1270 rfl rfl⟩
set_option maxRecDepth 20000 in
theorem lk_L_36 : LkV RL 36 yX7_clear cX7_clear 2 (some .int) 0 := ⟨⟨mem_tb 1276 rfl rfl, mem_tb 1273 rfl rfl, mem_tb 95 rfl rfl, by decide +kernel⟩, mem_tb 1274 rfl rfl, mem_tb 1275 rfl rfl⟩
set_option maxRecDepth 20000 in
theorem lk_L_40 : LkV RL 40 yX7_read cX7_read 3 (some .int) 0 := ⟨⟨mem_tb 1280 rfl rfl, mem_tb 1277 rfl rfl, mem_tb 95 rfl rfl, by decide +kernel⟩, mem_tb 1278 rfl rfl, mem_tb 1279 rfl rfl⟩
set_option maxRecDepth 20000 in
theorem lk_X7_300 : LkV RX7 300 yX7_lookAt cX7_lookAt 5 none 1 := ⟨⟨mem_tb 1284 rfl rfl, mem_tb 1281 rfl rfl, mem_tb 95 rfl rfl, by decide +kernel⟩, mem_tb 1283 rfl rfl, mem_tb 75 rfl rfl⟩
set_option maxRecDepth 20000 in
theorem lk_X7_294 : LkS RX7 294 yX7_isSmall cX7_isSmall 1 (some .boolean) 1 := ⟨⟨mem_tb 1287 rfl rfl, mem_tb 1285 rfl rfl, mem_tb 95 rfl rfl, by decide +kernel⟩, mem_tb 1286 rfl rfl⟩
set_option maxRecDepth 20000 in
theorem lk_X7_297 : LkS RX7 297 yX7_isFigure cX7_isFigure 1 (some .boolean) 1 := ⟨⟨mem_tb 1292 rfl rfl, mem_tb 1290 rfl rfl, mem_tb 95 rfl rfl, by decide +kernel⟩, mem_tb 1291 rfl rfl⟩
set_option maxRecDepth 20000 in
theorem lk_X7_320 : LkV RX7 320 yX7_readsFirst cX7_readsFirst 2 (some .boolean) 0 := ⟨⟨mem_tb 1298 rfl rfl, mem_tb 1295 rfl rfl, mem_tb 95 rfl rfl, by decide +kernel⟩, mem_tb 1297 rfl rfl, mem_tb 76 rfl rfl⟩
set_option maxRecDepth 20000 in
theorem lk_X7_306 : LkV RX7 306 yX7_isName cX7_isName 9 (some .boolean) 5 := ⟨⟨mem_tb 1302 rfl rfl, mem_tb 1299 rfl rfl, mem_tb 95 rfl rfl, by decide +kernel⟩, mem_tb 1301 rfl rfl, mem_tb 77 rfl rfl⟩
set_option maxRecDepth 20000 in
theorem lk_X7_303 : LkV RX7 303 yX7_goOn cX7_goOn 1 none 0 := ⟨⟨mem_tb 1306 rfl rfl, mem_tb 1303 rfl rfl, mem_tb 95 rfl rfl, by decide +kernel⟩, mem_tb 1305 rfl rfl, mem_tb 78 rfl rfl⟩
set_option maxRecDepth 20000 in
theorem lk_X7_310 : LkV RX7 310 yX7_takes cX7_takes 4 (some .boolean) 3 := ⟨⟨mem_tb 1310 rfl rfl, mem_tb 1307 rfl rfl, mem_tb 95 rfl rfl, by decide +kernel⟩, mem_tb 1309 rfl rfl, mem_tb 79 rfl rfl⟩
set_option maxRecDepth 20000 in
theorem lk_X7_323 : LkV RX7 323 yX7_readsItem cX7_readsItem 1 (some .boolean) 0 := ⟨⟨mem_tb 1314 rfl rfl, mem_tb 1311 rfl rfl, mem_tb 95 rfl rfl, by decide +kernel⟩, mem_tb 1313 rfl rfl, mem_tb 80 rfl rfl⟩
set_option maxRecDepth 20000 in
theorem lk_X7_313 : LkV RX7 313 yX7_readsHand cX7_readsHand 1 (some .boolean) 0 := ⟨⟨mem_tb 1318 rfl rfl, mem_tb 1315 rfl rfl, mem_tb 95 rfl rfl, by decide +kernel⟩, mem_tb 1317 rfl rfl, mem_tb 81 rfl rfl⟩
set_option maxRecDepth 20000 in
theorem lk_X7_317 : LkV RX7 317 yX7_readsNote cX7_readsNote 1 (some .boolean) 0 := ⟨⟨mem_tb 1322 rfl rfl, mem_tb 1319 rfl rfl, mem_tb 95 rfl rfl, by decide +kernel⟩, mem_tb 1321 rfl rfl, mem_tb 82 rfl rfl⟩
set_option maxRecDepth 20000 in
theorem lk_L_128 : LkV RL 128 yX7_part cX7_part 2 (some .long) 1 := ⟨⟨mem_tb 1326 rfl rfl, mem_tb 1323 rfl rfl, mem_tb 95 rfl rfl, by decide +kernel⟩, mem_tb 1324 rfl rfl, mem_tb 1325 rfl rfl⟩
set_option maxRecDepth 20000 in
theorem lk_L_132 : LkV RL 132 yX7_image cX7_image 3 (some .int) 1 := ⟨⟨mem_tb 1330 rfl rfl, mem_tb 1327 rfl rfl, mem_tb 95 rfl rfl, by decide +kernel⟩, mem_tb 1328 rfl rfl, mem_tb 1329 rfl rfl⟩
set_option maxRecDepth 20000 in
theorem lk_L_136 : LkV RL 136 yX7_from cX7_from 3 (some .int) 1 := ⟨⟨mem_tb 1334 rfl rfl, mem_tb 1331 rfl rfl, mem_tb 95 rfl rfl, by decide +kernel⟩, mem_tb 1332 rfl rfl, mem_tb 1333 rfl rfl⟩
set_option maxRecDepth 20000 in
theorem lk_L_140 : LkV RL 140 yX7_status cX7_status 2 (some .int) 1 := ⟨⟨mem_tb 1338 rfl rfl, mem_tb 1335 rfl rfl, mem_tb 95 rfl rfl, by decide +kernel⟩, mem_tb 1336 rfl rfl, mem_tb 1337 rfl rfl⟩
set_option maxRecDepth 20000 in
theorem lk_L_144 : LkV RL 144 yX7_count cX7_count 2 (some .int) 1 := ⟨⟨mem_tb 1342 rfl rfl, mem_tb 1339 rfl rfl, mem_tb 95 rfl rfl, by decide +kernel⟩, mem_tb 1340 rfl rfl, mem_tb 1341 rfl rfl⟩
set_option maxRecDepth 20000 in
theorem lk_X7_329 : LkV RX7 329 yX7_counted cX7_counted 2 (some .int) 1 := ⟨⟨mem_tb 1346 rfl rfl, mem_tb 1343 rfl rfl, mem_tb 95 rfl rfl, by decide +kernel⟩, mem_tb 1345 rfl rfl, mem_tb 83 rfl rfl⟩
set_option maxRecDepth 20000 in
theorem lk_X7_326 : LkV RX7 326 yX7_played cX7_played 3 (some .int) 0 := ⟨⟨mem_tb 1350 rfl rfl, mem_tb 1347 rfl rfl, mem_tb 95 rfl rfl, by decide +kernel⟩, mem_tb 1349 rfl rfl, mem_tb 84 rfl rfl⟩
set_option maxRecDepth 20000 in
theorem lk_L_148 : LkV RL 148 yX7_digest cX7_digest 4 (some .long) 0 := ⟨⟨mem_tb 1354 rfl rfl, mem_tb 1351 rfl rfl, mem_tb 95 rfl rfl, by decide +kernel⟩, mem_tb 1352 rfl rfl, mem_tb 1353 rfl rfl⟩
set_option maxRecDepth 20000 in
theorem lk_X7_336 : LkV RX7 336 yX7_sums cX7_sums 8 (some .long) 3 := ⟨⟨mem_tb 1360 rfl rfl, mem_tb 1357 rfl rfl, mem_tb 95 rfl rfl, by decide +kernel⟩, mem_tb 1359 rfl rfl, mem_tb 85 rfl rfl⟩
end
section
abbrev TY (cI cZ cP : ClassId) : List (ClassId × FieldType) := [(cI, .int), (cZ, .boolean), (cP, .object RX3)]
theorem vin {i : Int32} {n : Nat} (h : decide (¬ (i < 0 ∨ n ≤ i.toNatClampNeg)) = true) : vp_in i n := by
  unfold vp_in
  exact of_decide_eq_true h
theorem upd_c {v : Int32} {k : Nat} : upd (fun _ => v) k v = fun _ => v := by
  funext j
  unfold upd
  split <;> rfl
theorem no_neg (a : Int32) : ¬ (0 ≤ a ∧ a ≤ (-1)) := by
  intro h
  have h1 := Int32.le_iff_toInt_le.mp h.1
  have h2 := Int32.le_iff_toInt_le.mp h.2
  have e1 : (0 : Int32).toInt = 0 := by decide
  have e2 : (-1 : Int32).toInt = -1 := by decide
  omega
end
section
abbrev w_within (cI cZ cP : ClassId) (p0 : Int32) (p1 : Int32) (p2 : Int32) : va_W := []
set_option maxHeartbeats 4000000 in
set_option maxRecDepth 100000 in
theorem c_within (l : Launch) (D : va_G) (cI cZ cP : ClassId) (p0 : Int32) (p1 : Int32) (p2 : Int32) (sz : Nat) : Met l yX6_within (qW yX6_within cX6_within 3 (some .boolean)) ({ frames := 0, cells := 0, slots := 0, locals := 0 } : Room) (qP D (TY cI cZ cP) [.int p0, .int p1, .int p2] (w_within cI cZ cP p0 p1 p2) sz) (qQi D (w_within cI cZ cP p0 p1 p2) sz (fun (r : Int32) (_ : Unit) => r = if p1 ≤ p0 ∧ p0 ≤ p2 then 1 else 0) (fun _ => [])) 0 0 (va_A (w_within cI cZ cP p0 p1 p2) sz) := by
  refine q_enter (by decide) (Nat.le_of_ble_eq_true rfl) ?_
  intro p e s m below meth c ls hX hr hlk hnm hK hP hD hS hA hl
  obtain ⟨hx, hb, hml, hown, ht⟩ := id hX
  have hl : lv_has ls 3 [(0, .int p0), (1, .int p1), (2, .int p2)] := hl
  refine lv_iload_n hx hb dX6_within_0 rfl (lv_at hl 0 rfl) ?_
  refine lv_iload_n hx hb dX6_within_1 rfl (lv_at hl 1 rfl) ?_
  refine lv_icmp_lt (tgt := 14) hx hb dX6_within_2 (by decide) (fun c_1 => ?_) (fun c_1 => ?_)
  · refine lv_iconst (v := 0) hx hb dX6_within_14 (by decide) ?_
    exact q_zret hX hr hlk (by decide) () (by rw [if_neg (fun h => absurd h.1 (Int32.not_le.mpr c_1))]) (hP.sub [] rfl) (hD.sub [] (by decide) rfl) hS dX6_within_15
  · refine lv_iload_n hx hb dX6_within_5 rfl (lv_at hl 0 rfl) ?_
    refine lv_iload_n hx hb dX6_within_6 rfl (lv_at hl 2 rfl) ?_
    refine lv_icmp_gt (tgt := 14) hx hb dX6_within_7 (by decide) (fun c_2 => ?_) (fun c_2 => ?_)
    · refine lv_iconst (v := 0) hx hb dX6_within_14 (by decide) ?_
      exact q_zret hX hr hlk (by decide) () (by rw [if_neg (fun h => absurd h.2 (Int32.not_le.mpr c_2))]) (hP.sub [] rfl) (hD.sub [] (by decide) rfl) hS dX6_within_15
    · refine lv_iconst (v := 1) hx hb dX6_within_10 (by decide) ?_
      refine lv_goto (tgt := 15) hx hb dX6_within_11 (by decide) ?_
      exact q_zret hX hr hlk (by decide) () (by rw [if_pos ⟨Int32.not_lt.mp c_1, Int32.not_lt.mp c_2⟩]) (hP.sub [] rfl) (hD.sub [] (by decide) rfl) hS dX6_within_15
abbrev w_refuseBad (cI cZ cP : ClassId) (x0 : Nat) (nw : Nat) (sp : Nat) (im : Nat) (sc : Nat) (hg : Nat) (fg : Nat) (pg : Nat) (pr : Nat) (kp : Int32) (ab : Int64) (be : Int64) (bd : Int32) (ns : Int32) (fu : Int32) (p0 : Int32) : va_W := [(x0, .inr (6, [.ref nw, .ref sp, .ref im, .ref sc, .ref hg, .ref fg, .ref pg, .ref pr, .int kp, .long ab, .long be, .int bd, .int ns, .int fu]))]
set_option maxHeartbeats 4000000 in
set_option maxRecDepth 100000 in
theorem c_refuseBad (l : Launch) (D : va_G) (cI cZ cP : ClassId) (x0 : Nat) (nw : Nat) (sp : Nat) (im : Nat) (sc : Nat) (hg : Nat) (fg : Nat) (pg : Nat) (pr : Nat) (kp : Int32) (ab : Int64) (be : Int64) (bd : Int32) (ns : Int32) (fu : Int32) (p0 : Int32) (sz : Nat) : Met l yX6_refuseBad (qW yX6_refuseBad cX6_refuseBad 2 (some .int)) ({ frames := 0, cells := 0, slots := 0, locals := 0 } : Room) (qP D (TY cI cZ cP) [.ref x0, .int p0] (w_refuseBad cI cZ cP x0 nw sp im sc hg fg pg pr kp ab be bd ns fu p0) sz) (qQi D (w_refuseBad cI cZ cP x0 nw sp im sc hg fg pg pr kp ab be bd ns fu p0) sz (fun (r : Int32) (_ : Unit) => r = p0) (fun _ => [])) 0 0 (va_A (w_refuseBad cI cZ cP x0 nw sp im sc hg fg pg pr kp ab be bd ns fu p0) sz) := by
  refine q_enter (by decide) (Nat.le_of_ble_eq_true rfl) ?_
  intro p e s m below meth c ls hX hr hlk hnm hK hP hD hS hA hl
  obtain ⟨hx, hb, hml, hown, ht⟩ := id hX
  have hl : lv_has ls 2 [(0, .ref x0), (1, .int p0)] := hl
  refine lv_aload_n hx hb dX6_refuseBad_0 rfl (lv_at hl 0 rfl) ?_
  refine lv_dup hx hb dX6_refuseBad_1 rfl ?_
  refine va_get (D := D) (ci := 6) (v := .int bd) (C := RX6) (T := TX6) (N := 14) hx hb ht inX6 hown hK hP 0 rfl rfl 11 (Nat.le_of_ble_eq_true rfl) (ht _ kw_348) (fun _ h9 => h9) rfl dX6_refuseBad_2 ?_
  refine lv_iconst (v := 1) hx hb dX6_refuseBad_5 (by decide) ?_
  refine lv_iadd hx hb dX6_refuseBad_6 ?_
  refine va_put (D := D) (ci := 6) (v := .int (bd + 1)) (ty := .int) (C := RX6) (T := TX6) (N := 14) hx hb ht inX6 tyX6 tyX6_ok nmX6 hown hK hP hD hS 0 rfl rfl 11 (Nat.le_of_ble_eq_true rfl) (ht _ kw_348) (fun _ h9 => h9) rfl (by decide +kernel) rfl rfl (Nat.le_of_ble_eq_true rfl) dX6_refuseBad_7 (fun H locs hP hD hS => ?_)
  have hP : va_P D vwCl [(x0, .inr (6, [.ref nw, .ref sp, .ref im, .ref sc, .ref hg, .ref fg, .ref pg, .ref pr, .int kp, .long ab, .long be, .int (bd + 1), .int ns, .int fu]))] H := hP
  have hD : va_D (va_A (w_refuseBad cI cZ cP x0 nw sp im sc hg fg pg pr kp ab be bd ns fu p0) sz) [(x0, .inr (6, [.ref nw, .ref sp, .ref im, .ref sc, .ref hg, .ref fg, .ref pg, .ref pr, .int kp, .long ab, .long be, .int (bd + 1), .int ns, .int fu]))] := hD
  refine lv_iload_n hx hb dX6_refuseBad_10 rfl (lv_at hl 1 rfl) ?_
  exact q_iret hX hr hlk () rfl (hP.sub [] rfl) (hD.sub [] (by decide) rfl) hS dX6_refuseBad_11
abbrev w_refuseNo (cI cZ cP : ClassId) (x0 : Nat) (nw : Nat) (sp : Nat) (im : Nat) (sc : Nat) (hg : Nat) (fg : Nat) (pg : Nat) (pr : Nat) (kp : Int32) (ab : Int64) (be : Int64) (bd : Int32) (ns : Int32) (fu : Int32) (p0 : Int32) : va_W := [(x0, .inr (6, [.ref nw, .ref sp, .ref im, .ref sc, .ref hg, .ref fg, .ref pg, .ref pr, .int kp, .long ab, .long be, .int bd, .int ns, .int fu]))]
set_option maxHeartbeats 4000000 in
set_option maxRecDepth 100000 in
theorem c_refuseNo (l : Launch) (D : va_G) (cI cZ cP : ClassId) (x0 : Nat) (nw : Nat) (sp : Nat) (im : Nat) (sc : Nat) (hg : Nat) (fg : Nat) (pg : Nat) (pr : Nat) (kp : Int32) (ab : Int64) (be : Int64) (bd : Int32) (ns : Int32) (fu : Int32) (p0 : Int32) (sz : Nat) : Met l yX6_refuseNo (qW yX6_refuseNo cX6_refuseNo 2 (some .int)) ({ frames := 0, cells := 0, slots := 0, locals := 0 } : Room) (qP D (TY cI cZ cP) [.ref x0, .int p0] (w_refuseNo cI cZ cP x0 nw sp im sc hg fg pg pr kp ab be bd ns fu p0) sz) (qQi D (w_refuseNo cI cZ cP x0 nw sp im sc hg fg pg pr kp ab be bd ns fu p0) sz (fun (r : Int32) (_ : Unit) => r = p0) (fun _ => [])) 0 0 (va_A (w_refuseNo cI cZ cP x0 nw sp im sc hg fg pg pr kp ab be bd ns fu p0) sz) := by
  refine q_enter (by decide) (Nat.le_of_ble_eq_true rfl) ?_
  intro p e s m below meth c ls hX hr hlk hnm hK hP hD hS hA hl
  obtain ⟨hx, hb, hml, hown, ht⟩ := id hX
  have hl : lv_has ls 2 [(0, .ref x0), (1, .int p0)] := hl
  refine lv_aload_n hx hb dX6_refuseNo_0 rfl (lv_at hl 0 rfl) ?_
  refine lv_dup hx hb dX6_refuseNo_1 rfl ?_
  refine va_get (D := D) (ci := 6) (v := .int ns) (C := RX6) (T := TX6) (N := 14) hx hb ht inX6 hown hK hP 0 rfl rfl 12 (Nat.le_of_ble_eq_true rfl) (ht _ kw_349) (fun _ h9 => h9) rfl dX6_refuseNo_2 ?_
  refine lv_iconst (v := 1) hx hb dX6_refuseNo_5 (by decide) ?_
  refine lv_iadd hx hb dX6_refuseNo_6 ?_
  refine va_put (D := D) (ci := 6) (v := .int (ns + 1)) (ty := .int) (C := RX6) (T := TX6) (N := 14) hx hb ht inX6 tyX6 tyX6_ok nmX6 hown hK hP hD hS 0 rfl rfl 12 (Nat.le_of_ble_eq_true rfl) (ht _ kw_349) (fun _ h9 => h9) rfl (by decide +kernel) rfl rfl (Nat.le_of_ble_eq_true rfl) dX6_refuseNo_7 (fun H locs hP hD hS => ?_)
  have hP : va_P D vwCl [(x0, .inr (6, [.ref nw, .ref sp, .ref im, .ref sc, .ref hg, .ref fg, .ref pg, .ref pr, .int kp, .long ab, .long be, .int bd, .int (ns + 1), .int fu]))] H := hP
  have hD : va_D (va_A (w_refuseNo cI cZ cP x0 nw sp im sc hg fg pg pr kp ab be bd ns fu p0) sz) [(x0, .inr (6, [.ref nw, .ref sp, .ref im, .ref sc, .ref hg, .ref fg, .ref pg, .ref pr, .int kp, .long ab, .long be, .int bd, .int (ns + 1), .int fu]))] := hD
  refine lv_iload_n hx hb dX6_refuseNo_10 rfl (lv_at hl 1 rfl) ?_
  exact q_iret hX hr hlk () rfl (hP.sub [] rfl) (hD.sub [] (by decide) rfl) hS dX6_refuseNo_11
abbrev w_refuseFull (cI cZ cP : ClassId) (x0 : Nat) (nw : Nat) (sp : Nat) (im : Nat) (sc : Nat) (hg : Nat) (fg : Nat) (pg : Nat) (pr : Nat) (kp : Int32) (ab : Int64) (be : Int64) (bd : Int32) (ns : Int32) (fu : Int32) : va_W := [(x0, .inr (6, [.ref nw, .ref sp, .ref im, .ref sc, .ref hg, .ref fg, .ref pg, .ref pr, .int kp, .long ab, .long be, .int bd, .int ns, .int fu]))]
set_option maxHeartbeats 4000000 in
set_option maxRecDepth 100000 in
theorem c_refuseFull (l : Launch) (D : va_G) (cI cZ cP : ClassId) (x0 : Nat) (nw : Nat) (sp : Nat) (im : Nat) (sc : Nat) (hg : Nat) (fg : Nat) (pg : Nat) (pr : Nat) (kp : Int32) (ab : Int64) (be : Int64) (bd : Int32) (ns : Int32) (fu : Int32) (sz : Nat) : Met l yX6_refuseFull (qW yX6_refuseFull cX6_refuseFull 1 (some .int)) ({ frames := 0, cells := 0, slots := 0, locals := 0 } : Room) (qP D (TY cI cZ cP) [.ref x0] (w_refuseFull cI cZ cP x0 nw sp im sc hg fg pg pr kp ab be bd ns fu) sz) (qQi D (w_refuseFull cI cZ cP x0 nw sp im sc hg fg pg pr kp ab be bd ns fu) sz (fun (r : Int32) (_ : Unit) => r = (-4)) (fun _ => [])) 0 0 (va_A (w_refuseFull cI cZ cP x0 nw sp im sc hg fg pg pr kp ab be bd ns fu) sz) := by
  refine q_enter (by decide) (Nat.le_of_ble_eq_true rfl) ?_
  intro p e s m below meth c ls hX hr hlk hnm hK hP hD hS hA hl
  obtain ⟨hx, hb, hml, hown, ht⟩ := id hX
  have hl : lv_has ls 1 [(0, .ref x0)] := hl
  refine lv_aload_n hx hb dX6_refuseFull_0 rfl (lv_at hl 0 rfl) ?_
  refine lv_dup hx hb dX6_refuseFull_1 rfl ?_
  refine va_get (D := D) (ci := 6) (v := .int fu) (C := RX6) (T := TX6) (N := 14) hx hb ht inX6 hown hK hP 0 rfl rfl 13 (Nat.le_of_ble_eq_true rfl) (ht _ kw_350) (fun _ h9 => h9) rfl dX6_refuseFull_2 ?_
  refine lv_iconst (v := 1) hx hb dX6_refuseFull_5 (by decide) ?_
  refine lv_iadd hx hb dX6_refuseFull_6 ?_
  refine va_put (D := D) (ci := 6) (v := .int (fu + 1)) (ty := .int) (C := RX6) (T := TX6) (N := 14) hx hb ht inX6 tyX6 tyX6_ok nmX6 hown hK hP hD hS 0 rfl rfl 13 (Nat.le_of_ble_eq_true rfl) (ht _ kw_350) (fun _ h9 => h9) rfl (by decide +kernel) rfl rfl (Nat.le_of_ble_eq_true rfl) dX6_refuseFull_7 (fun H locs hP hD hS => ?_)
  have hP : va_P D vwCl [(x0, .inr (6, [.ref nw, .ref sp, .ref im, .ref sc, .ref hg, .ref fg, .ref pg, .ref pr, .int kp, .long ab, .long be, .int bd, .int ns, .int (fu + 1)]))] H := hP
  have hD : va_D (va_A (w_refuseFull cI cZ cP x0 nw sp im sc hg fg pg pr kp ab be bd ns fu) sz) [(x0, .inr (6, [.ref nw, .ref sp, .ref im, .ref sc, .ref hg, .ref fg, .ref pg, .ref pr, .int kp, .long ab, .long be, .int bd, .int ns, .int (fu + 1)]))] := hD
  refine lv_bipush (v := (-4)) hx hb dX6_refuseFull_10 (by decide) ?_
  exact q_iret hX hr hlk () rfl (hP.sub [] rfl) (hD.sub [] (by decide) rfl) hS dX6_refuseFull_12
abbrev w_isNote (cI cZ cP : ClassId) (x0 : Nat) (nw : Nat) (sp : Nat) (im : Nat) (sc : Nat) (hg : Nat) (fg : Nat) (pg : Nat) (pr : Nat) (keys : Nat) (moms : Nat) (lens : Nat) (prts : Nat) (luds : Nat) (hnds : Nat) (lats : Nat) (knds : Nat) (rch : Nat) (spd : Nat) (unN : Nat) (unH : Nat) (ptn : Nat) (p0 : Int32) : va_W := [(x0, .inr (6, [.ref nw, .ref sp, .ref im, .ref sc, .ref hg, .ref fg, .ref pg, .ref pr, .int 0, .long 0, .long 1, .int 0, .int 0, .int 0])), (nw, .inr (3, [.int 2, .int 0, .ref keys, .ref moms, .ref lens, .ref prts, .ref luds, .ref hnds, .ref lats, .ref knds, .ref rch, .ref spd, .int 0, .int 0, .int 0, .ref unN, .ref unH, .ref ptn]))]
set_option maxHeartbeats 4000000 in
set_option maxRecDepth 100000 in
theorem c_isNote (l : Launch) (D : va_G) (cI cZ cP : ClassId) (x0 : Nat) (nw : Nat) (sp : Nat) (im : Nat) (sc : Nat) (hg : Nat) (fg : Nat) (pg : Nat) (pr : Nat) (keys : Nat) (moms : Nat) (lens : Nat) (prts : Nat) (luds : Nat) (hnds : Nat) (lats : Nat) (knds : Nat) (rch : Nat) (spd : Nat) (unN : Nat) (unH : Nat) (ptn : Nat) (p0 : Int32) (sz : Nat) : Met l yX6_isNote (qW yX6_isNote cX6_isNote 2 (some .boolean)) ({ frames := 1, cells := 0, slots := 0, locals := 22 } : Room) (qP D (TY cI cZ cP) [.ref x0, .int p0] (w_isNote cI cZ cP x0 nw sp im sc hg fg pg pr keys moms lens prts luds hnds lats knds rch spd unN unH ptn p0) sz) (qQi D (w_isNote cI cZ cP x0 nw sp im sc hg fg pg pr keys moms lens prts luds hnds lats knds rch spd unN unH ptn p0) sz (fun (r : Int32) (_ : Unit) => r = 0) (fun _ => [(x0, .inr (6, [.ref nw, .ref sp, .ref im, .ref sc, .ref hg, .ref fg, .ref pg, .ref pr, .int 0, .long 0, .long 1, .int 0, .int 0, .int 0])), (nw, .inr (3, [.int 2, .int 0, .ref keys, .ref moms, .ref lens, .ref prts, .ref luds, .ref hnds, .ref lats, .ref knds, .ref rch, .ref spd, .int 0, .int 0, .int 0, .ref unN, .ref unH, .ref ptn]))])) 0 0 (va_A (w_isNote cI cZ cP x0 nw sp im sc hg fg pg pr keys moms lens prts luds hnds lats knds rch spd unN unH ptn p0) sz) := by
  refine q_enter (by decide) (Nat.le_of_ble_eq_true rfl) ?_
  intro p e s m below meth c ls hX hr hlk hnm hK hP hD hS hA hl
  obtain ⟨hx, hb, hml, hown, ht⟩ := id hX
  have hl : lv_has ls 2 [(0, .ref x0), (1, .int p0)] := hl
  refine lv_iload_n hx hb dX6_isNote_0 rfl (lv_at hl 1 rfl) ?_
  refine lv_iconst (v := 0) hx hb dX6_isNote_1 (by decide) ?_
  refine lv_aload_n hx hb dX6_isNote_2 rfl (lv_at hl 0 rfl) ?_
  refine va_get (D := D) (ci := 6) (v := .ref nw) (C := RX6) (T := TX6) (N := 14) hx hb ht inX6 hown hK hP 0 rfl rfl 0 (Nat.le_of_ble_eq_true rfl) (ht _ kw_337) (fun _ h9 => h9) rfl dX6_isNote_3 ?_
  refine va_get (D := D) (ci := 3) (v := .int 0) (C := RX3) (T := TX3) (N := 18) hx hb ht inX3 hown hK hP 1 rfl rfl 1 (Nat.le_of_ble_eq_true rfl) (ht _ kw_123) (fun _ h9 => h9) rfl dX6_isNote_6 ?_
  refine lv_iconst (v := 1) hx hb dX6_isNote_9 (by decide) ?_
  refine lv_isub hx hb dX6_isNote_10 ?_
  refine q_i (z := (-1)) (by decide) ?_
  refine q_Si (wr := [(x0, .inr (6, [.ref nw, .ref sp, .ref im, .ref sc, .ref hg, .ref fg, .ref pg, .ref pr, .int 0, .long 0, .long 1, .int 0, .int 0, .int 0])), (nw, .inr (3, [.int 2, .int 0, .ref keys, .ref moms, .ref lens, .ref prts, .ref luds, .ref hnds, .ref lats, .ref knds, .ref rch, .ref spd, .int 0, .int 0, .int 0, .ref unN, .ref unH, .ref ptn]))]) [] [0, 1] hX hK hP hD hS hA hl.1 lk_X6_62 (c_within l D cI cZ cP p0 0 (-1) _) rfl rfl rfl rfl (by decide) rfl rfl (Nat.le_of_ble_eq_true rfl) rfl rfl ⟨Nat.le_of_ble_eq_true rfl, Nat.le_of_ble_eq_true rfl⟩ ⟨Nat.le_of_ble_eq_true rfl, Nat.le_of_ble_eq_true rfl⟩ dX6_isNote_11 (fun x_1 _ H locs h_1 hP hD hS => ?_)
  have hP : va_P D vwCl [(x0, .inr (6, [.ref nw, .ref sp, .ref im, .ref sc, .ref hg, .ref fg, .ref pg, .ref pr, .int 0, .long 0, .long 1, .int 0, .int 0, .int 0])), (nw, .inr (3, [.int 2, .int 0, .ref keys, .ref moms, .ref lens, .ref prts, .ref luds, .ref hnds, .ref lats, .ref knds, .ref rch, .ref spd, .int 0, .int 0, .int 0, .ref unN, .ref unH, .ref ptn]))] H := hP
  have hD : va_D (va_A (w_isNote cI cZ cP x0 nw sp im sc hg fg pg pr keys moms lens prts luds hnds lats knds rch spd unN unH ptn p0) sz) [(x0, .inr (6, [.ref nw, .ref sp, .ref im, .ref sc, .ref hg, .ref fg, .ref pg, .ref pr, .int 0, .long 0, .long 1, .int 0, .int 0, .int 0])), (nw, .inr (3, [.int 2, .int 0, .ref keys, .ref moms, .ref lens, .ref prts, .ref luds, .ref hnds, .ref lats, .ref knds, .ref rch, .ref spd, .int 0, .int 0, .int 0, .ref unN, .ref unH, .ref ptn]))] := hD
  rw [if_neg (no_neg p0)] at h_1; subst h_1
  exact q_zret hX hr hlk (by decide) () rfl (hP.sub [0, 1] rfl) (hD.sub [0, 1] (by decide) rfl) hS dX6_isNote_14
abbrev w_give (cI cZ cP : ClassId) (x0 : Nat) (nw : Nat) (sp : Nat) (im : Nat) (sc : Nat) (hg : Nat) (fg : Nat) (pg : Nat) (pr : Nat) (keys : Nat) (moms : Nat) (lens : Nat) (prts : Nat) (luds : Nat) (hnds : Nat) (lats : Nat) (knds : Nat) (rch : Nat) (spd : Nat) (unN : Nat) (unH : Nat) (ptn : Nat) (p0 : Int32) (p1 : Int32) : va_W := [(x0, .inr (6, [.ref nw, .ref sp, .ref im, .ref sc, .ref hg, .ref fg, .ref pg, .ref pr, .int 0, .long 0, .long 1, .int 0, .int 0, .int 0])), (nw, .inr (3, [.int 2, .int 0, .ref keys, .ref moms, .ref lens, .ref prts, .ref luds, .ref hnds, .ref lats, .ref knds, .ref rch, .ref spd, .int 0, .int 0, .int 0, .ref unN, .ref unH, .ref ptn]))]
set_option maxHeartbeats 4000000 in
set_option maxRecDepth 100000 in
theorem c_give (l : Launch) (D : va_G) (cI cZ cP : ClassId) (x0 : Nat) (nw : Nat) (sp : Nat) (im : Nat) (sc : Nat) (hg : Nat) (fg : Nat) (pg : Nat) (pr : Nat) (keys : Nat) (moms : Nat) (lens : Nat) (prts : Nat) (luds : Nat) (hnds : Nat) (lats : Nat) (knds : Nat) (rch : Nat) (spd : Nat) (unN : Nat) (unH : Nat) (ptn : Nat) (p0 : Int32) (p1 : Int32) (sz : Nat) : Met l yX6_give (qW yX6_give cX6_give 3 (some .int)) ({ frames := 2, cells := 0, slots := 0, locals := 43 } : Room) (qP D (TY cI cZ cP) [.ref x0, .int p0, .int p1] (w_give cI cZ cP x0 nw sp im sc hg fg pg pr keys moms lens prts luds hnds lats knds rch spd unN unH ptn p0 p1) sz) (qQi D (w_give cI cZ cP x0 nw sp im sc hg fg pg pr keys moms lens prts luds hnds lats knds rch spd unN unH ptn p0 p1) sz (fun (r : Int32) (_ : Unit) => r = (-2)) (fun _ => [])) 0 0 (va_A (w_give cI cZ cP x0 nw sp im sc hg fg pg pr keys moms lens prts luds hnds lats knds rch spd unN unH ptn p0 p1) sz) := by
  refine q_enter (by decide) (Nat.le_of_ble_eq_true rfl) ?_
  intro p e s m below meth c ls hX hr hlk hnm hK hP hD hS hA hl
  obtain ⟨hx, hb, hml, hown, ht⟩ := id hX
  have hl : lv_has ls 3 [(0, .ref x0), (1, .int p0), (2, .int p1)] := hl
  refine lv_aload_n hx hb dX6_give_0 rfl (lv_at hl 0 rfl) ?_
  refine lv_iload_n hx hb dX6_give_1 rfl (lv_at hl 1 rfl) ?_
  refine q_Vi (wr := []) [0, 1] [] hX hK hP hD hS hA hl.1 lk_X6_114 (c_isNote l D cI cZ cP x0 nw sp im sc hg fg pg pr keys moms lens prts luds hnds lats knds rch spd unN unH ptn p0 _) rfl rfl rfl rfl (by decide) 0 6 rfl rfl rfl rfl (Nat.le_of_ble_eq_true rfl) rfl rfl ⟨Nat.le_of_ble_eq_true rfl, Nat.le_of_ble_eq_true rfl⟩ ⟨Nat.le_of_ble_eq_true rfl, Nat.le_of_ble_eq_true rfl⟩ dX6_give_2 (fun x_1 _ H locs h_1 hP hD hS => ?_)
  have hP : va_P D vwCl [(x0, .inr (6, [.ref nw, .ref sp, .ref im, .ref sc, .ref hg, .ref fg, .ref pg, .ref pr, .int 0, .long 0, .long 1, .int 0, .int 0, .int 0])), (nw, .inr (3, [.int 2, .int 0, .ref keys, .ref moms, .ref lens, .ref prts, .ref luds, .ref hnds, .ref lats, .ref knds, .ref rch, .ref spd, .int 0, .int 0, .int 0, .ref unN, .ref unH, .ref ptn]))] H := hP
  have hD : va_D (va_A (w_give cI cZ cP x0 nw sp im sc hg fg pg pr keys moms lens prts luds hnds lats knds rch spd unN unH ptn p0 p1) sz) [(x0, .inr (6, [.ref nw, .ref sp, .ref im, .ref sc, .ref hg, .ref fg, .ref pg, .ref pr, .int 0, .long 0, .long 1, .int 0, .int 0, .int 0])), (nw, .inr (3, [.int 2, .int 0, .ref keys, .ref moms, .ref lens, .ref prts, .ref luds, .ref hnds, .ref lats, .ref knds, .ref rch, .ref spd, .int 0, .int 0, .int 0, .ref unN, .ref unH, .ref ptn]))] := hD
  subst h_1
  refine lv_if_eq (tgt := 17) hx hb dX6_give_5 (by decide) (fun _ => ?_) (fun c_2 => absurd (by decide) c_2)
  refine lv_aload_n hx hb dX6_give_17 rfl (lv_at hl 0 rfl) ?_
  refine lv_bipush (v := (-2)) hx hb dX6_give_18 (by decide) ?_
  refine q_Vi (wr := [(nw, .inr (3, [.int 2, .int 0, .ref keys, .ref moms, .ref lens, .ref prts, .ref luds, .ref hnds, .ref lats, .ref knds, .ref rch, .ref spd, .int 0, .int 0, .int 0, .ref unN, .ref unH, .ref ptn]))]) [0] [1] hX hK hP hD hS hA hl.1 lk_X6_66 (c_refuseBad l D cI cZ cP x0 nw sp im sc hg fg pg pr 0 0 1 0 0 0 (-2) _) rfl rfl rfl rfl (by decide) 0 6 rfl rfl rfl rfl (Nat.le_of_ble_eq_true rfl) rfl rfl ⟨Nat.le_of_ble_eq_true rfl, Nat.le_of_ble_eq_true rfl⟩ ⟨Nat.le_of_ble_eq_true rfl, Nat.le_of_ble_eq_true rfl⟩ dX6_give_20 (fun x_3 _ H locs h_3 hP hD hS => ?_)
  have hP : va_P D vwCl [(nw, .inr (3, [.int 2, .int 0, .ref keys, .ref moms, .ref lens, .ref prts, .ref luds, .ref hnds, .ref lats, .ref knds, .ref rch, .ref spd, .int 0, .int 0, .int 0, .ref unN, .ref unH, .ref ptn]))] H := hP
  have hD : va_D (va_A (w_give cI cZ cP x0 nw sp im sc hg fg pg pr keys moms lens prts luds hnds lats knds rch spd unN unH ptn p0 p1) sz) [(nw, .inr (3, [.int 2, .int 0, .ref keys, .ref moms, .ref lens, .ref prts, .ref luds, .ref hnds, .ref lats, .ref knds, .ref rch, .ref spd, .int 0, .int 0, .int 0, .ref unN, .ref unH, .ref ptn]))] := hD
  subst h_3
  exact q_iret hX hr hlk () rfl (hP.sub [] rfl) (hD.sub [] (by decide) rfl) hS dX6_give_23
abbrev w_undo (cI cZ cP : ClassId) (x0 : Nat) (nw : Nat) (sp : Nat) (im : Nat) (sc : Nat) (hg : Nat) (fg : Nat) (pg : Nat) (pr : Nat) (keys : Nat) (moms : Nat) (lens : Nat) (prts : Nat) (luds : Nat) (hnds : Nat) (lats : Nat) (knds : Nat) (rch : Nat) (spd : Nat) (unN : Nat) (unH : Nat) (ptn : Nat) : va_W := [(x0, .inr (6, [.ref nw, .ref sp, .ref im, .ref sc, .ref hg, .ref fg, .ref pg, .ref pr, .int 0, .long 0, .long 1, .int 0, .int 0, .int 0])), (nw, .inr (3, [.int 2, .int 0, .ref keys, .ref moms, .ref lens, .ref prts, .ref luds, .ref hnds, .ref lats, .ref knds, .ref rch, .ref spd, .int 0, .int 0, .int 0, .ref unN, .ref unH, .ref ptn]))]
set_option maxHeartbeats 4000000 in
set_option maxRecDepth 100000 in
theorem c_undo (l : Launch) (D : va_G) (cI cZ cP : ClassId) (x0 : Nat) (nw : Nat) (sp : Nat) (im : Nat) (sc : Nat) (hg : Nat) (fg : Nat) (pg : Nat) (pr : Nat) (keys : Nat) (moms : Nat) (lens : Nat) (prts : Nat) (luds : Nat) (hnds : Nat) (lats : Nat) (knds : Nat) (rch : Nat) (spd : Nat) (unN : Nat) (unH : Nat) (ptn : Nat) (sz : Nat) : Met l yX6_undo (qW yX6_undo cX6_undo 1 (some .int)) ({ frames := 1, cells := 0, slots := 0, locals := 21 } : Room) (qP D (TY cI cZ cP) [.ref x0] (w_undo cI cZ cP x0 nw sp im sc hg fg pg pr keys moms lens prts luds hnds lats knds rch spd unN unH ptn) sz) (qQi D (w_undo cI cZ cP x0 nw sp im sc hg fg pg pr keys moms lens prts luds hnds lats knds rch spd unN unH ptn) sz (fun (r : Int32) (_ : Unit) => r = (-3)) (fun _ => [])) 0 0 (va_A (w_undo cI cZ cP x0 nw sp im sc hg fg pg pr keys moms lens prts luds hnds lats knds rch spd unN unH ptn) sz) := by
  refine q_enter (by decide) (Nat.le_of_ble_eq_true rfl) ?_
  intro p e s m below meth c ls hX hr hlk hnm hK hP hD hS hA hl
  obtain ⟨hx, hb, hml, hown, ht⟩ := id hX
  have hl : lv_has ls 1 [(0, .ref x0)] := hl
  refine lv_aload_n hx hb dX6_undo_0 rfl (lv_at hl 0 rfl) ?_
  refine va_get (D := D) (ci := 6) (v := .ref nw) (C := RX6) (T := TX6) (N := 14) hx hb ht inX6 hown hK hP 0 rfl rfl 0 (Nat.le_of_ble_eq_true rfl) (ht _ kw_337) (fun _ h9 => h9) rfl dX6_undo_1 ?_
  refine va_get (D := D) (ci := 3) (v := .int 0) (C := RX3) (T := TX3) (N := 18) hx hb ht inX3 hown hK hP 1 rfl rfl 14 (Nat.le_of_ble_eq_true rfl) (ht _ kw_160) (fun _ h9 => h9) rfl dX6_undo_4 ?_
  refine lv_if_gt (tgt := 17) hx hb dX6_undo_7 (by decide) (fun c_1 => absurd c_1 (by decide)) (fun _ => ?_)
  refine lv_aload_n hx hb dX6_undo_10 rfl (lv_at hl 0 rfl) ?_
  refine lv_bipush (v := (-3)) hx hb dX6_undo_11 (by decide) ?_
  refine q_Vi (wr := [(nw, .inr (3, [.int 2, .int 0, .ref keys, .ref moms, .ref lens, .ref prts, .ref luds, .ref hnds, .ref lats, .ref knds, .ref rch, .ref spd, .int 0, .int 0, .int 0, .ref unN, .ref unH, .ref ptn]))]) [0] [1] hX hK hP hD hS hA hl.1 lk_X6_128 (c_refuseNo l D cI cZ cP x0 nw sp im sc hg fg pg pr 0 0 1 0 0 0 (-3) _) rfl rfl rfl rfl (by decide) 0 6 rfl rfl rfl rfl (Nat.le_of_ble_eq_true rfl) rfl rfl ⟨Nat.le_of_ble_eq_true rfl, Nat.le_of_ble_eq_true rfl⟩ ⟨Nat.le_of_ble_eq_true rfl, Nat.le_of_ble_eq_true rfl⟩ dX6_undo_13 (fun x_2 _ H locs h_2 hP hD hS => ?_)
  have hP : va_P D vwCl [(nw, .inr (3, [.int 2, .int 0, .ref keys, .ref moms, .ref lens, .ref prts, .ref luds, .ref hnds, .ref lats, .ref knds, .ref rch, .ref spd, .int 0, .int 0, .int 0, .ref unN, .ref unH, .ref ptn]))] H := hP
  have hD : va_D (va_A (w_undo cI cZ cP x0 nw sp im sc hg fg pg pr keys moms lens prts luds hnds lats knds rch spd unN unH ptn) sz) [(nw, .inr (3, [.int 2, .int 0, .ref keys, .ref moms, .ref lens, .ref prts, .ref luds, .ref hnds, .ref lats, .ref knds, .ref rch, .ref spd, .int 0, .int 0, .int 0, .ref unN, .ref unH, .ref ptn]))] := hD
  subst h_2
  exact q_iret hX hr hlk () rfl (hP.sub [] rfl) (hD.sub [] (by decide) rfl) hS dX6_undo_16
abbrev w_of (cI cZ cP : ClassId) (x0 : Nat) (nw : Nat) (sp : Nat) (im : Nat) (sc : Nat) (hg : Nat) (fg : Nat) (pg : Nat) (pr : Nat) (keys : Nat) (moms : Nat) (lens : Nat) (prts : Nat) (luds : Nat) (hnds : Nat) (lats : Nat) (knds : Nat) (rch : Nat) (spd : Nat) (unN : Nat) (unH : Nat) (ptn : Nat) (p0 : Int32) (p1 : Int32) : va_W := [(x0, .inr (6, [.ref nw, .ref sp, .ref im, .ref sc, .ref hg, .ref fg, .ref pg, .ref pr, .int 0, .long 0, .long 1, .int 0, .int 0, .int 0])), (nw, .inr (3, [.int 2, .int 0, .ref keys, .ref moms, .ref lens, .ref prts, .ref luds, .ref hnds, .ref lats, .ref knds, .ref rch, .ref spd, .int 0, .int 0, .int 0, .ref unN, .ref unH, .ref ptn]))]
set_option maxHeartbeats 4000000 in
set_option maxRecDepth 100000 in
theorem c_of (l : Launch) (D : va_G) (cI cZ cP : ClassId) (x0 : Nat) (nw : Nat) (sp : Nat) (im : Nat) (sc : Nat) (hg : Nat) (fg : Nat) (pg : Nat) (pr : Nat) (keys : Nat) (moms : Nat) (lens : Nat) (prts : Nat) (luds : Nat) (hnds : Nat) (lats : Nat) (knds : Nat) (rch : Nat) (spd : Nat) (unN : Nat) (unH : Nat) (ptn : Nat) (p0 : Int32) (p1 : Int32) (sz : Nat) : Met l yX6_of (qW yX6_of cX6_of 3 (some .int)) ({ frames := 2, cells := 0, slots := 0, locals := 43 } : Room) (qP D (TY cI cZ cP) [.ref x0, .int p0, .int p1] (w_of cI cZ cP x0 nw sp im sc hg fg pg pr keys moms lens prts luds hnds lats knds rch spd unN unH ptn p0 p1) sz) (qQi D (w_of cI cZ cP x0 nw sp im sc hg fg pg pr keys moms lens prts luds hnds lats knds rch spd unN unH ptn p0 p1) sz (fun (r : Int32) (_ : Unit) => r = (-10)) (fun _ => [])) 0 0 (va_A (w_of cI cZ cP x0 nw sp im sc hg fg pg pr keys moms lens prts luds hnds lats knds rch spd unN unH ptn p0 p1) sz) := by
  refine q_enter (by decide) (Nat.le_of_ble_eq_true rfl) ?_
  intro p e s m below meth c ls hX hr hlk hnm hK hP hD hS hA hl
  obtain ⟨hx, hb, hml, hown, ht⟩ := id hX
  have hl : lv_has ls 3 [(0, .ref x0), (1, .int p0), (2, .int p1)] := hl
  refine lv_aload_n hx hb dX6_of_0 rfl (lv_at hl 0 rfl) ?_
  refine lv_iload_n hx hb dX6_of_1 rfl (lv_at hl 1 rfl) ?_
  refine q_Vi (wr := []) [0, 1] [] hX hK hP hD hS hA hl.1 lk_X6_114 (c_isNote l D cI cZ cP x0 nw sp im sc hg fg pg pr keys moms lens prts luds hnds lats knds rch spd unN unH ptn p0 _) rfl rfl rfl rfl (by decide) 0 6 rfl rfl rfl rfl (Nat.le_of_ble_eq_true rfl) rfl rfl ⟨Nat.le_of_ble_eq_true rfl, Nat.le_of_ble_eq_true rfl⟩ ⟨Nat.le_of_ble_eq_true rfl, Nat.le_of_ble_eq_true rfl⟩ dX6_of_2 (fun x_1 _ H locs h_1 hP hD hS => ?_)
  have hP : va_P D vwCl [(x0, .inr (6, [.ref nw, .ref sp, .ref im, .ref sc, .ref hg, .ref fg, .ref pg, .ref pr, .int 0, .long 0, .long 1, .int 0, .int 0, .int 0])), (nw, .inr (3, [.int 2, .int 0, .ref keys, .ref moms, .ref lens, .ref prts, .ref luds, .ref hnds, .ref lats, .ref knds, .ref rch, .ref spd, .int 0, .int 0, .int 0, .ref unN, .ref unH, .ref ptn]))] H := hP
  have hD : va_D (va_A (w_of cI cZ cP x0 nw sp im sc hg fg pg pr keys moms lens prts luds hnds lats knds rch spd unN unH ptn p0 p1) sz) [(x0, .inr (6, [.ref nw, .ref sp, .ref im, .ref sc, .ref hg, .ref fg, .ref pg, .ref pr, .int 0, .long 0, .long 1, .int 0, .int 0, .int 0])), (nw, .inr (3, [.int 2, .int 0, .ref keys, .ref moms, .ref lens, .ref prts, .ref luds, .ref hnds, .ref lats, .ref knds, .ref rch, .ref spd, .int 0, .int 0, .int 0, .ref unN, .ref unH, .ref ptn]))] := hD
  subst h_1
  refine lv_if_ne (tgt := 15) hx hb dX6_of_5 (by decide) (fun c_2 => absurd c_2 (by decide)) (fun _ => ?_)
  refine lv_aload_n hx hb dX6_of_8 rfl (lv_at hl 0 rfl) ?_
  refine lv_bipush (v := (-10)) hx hb dX6_of_9 (by decide) ?_
  refine q_Vi (wr := [(nw, .inr (3, [.int 2, .int 0, .ref keys, .ref moms, .ref lens, .ref prts, .ref luds, .ref hnds, .ref lats, .ref knds, .ref rch, .ref spd, .int 0, .int 0, .int 0, .ref unN, .ref unH, .ref ptn]))]) [0] [1] hX hK hP hD hS hA hl.1 lk_X6_66 (c_refuseBad l D cI cZ cP x0 nw sp im sc hg fg pg pr 0 0 1 0 0 0 (-10) _) rfl rfl rfl rfl (by decide) 0 6 rfl rfl rfl rfl (Nat.le_of_ble_eq_true rfl) rfl rfl ⟨Nat.le_of_ble_eq_true rfl, Nat.le_of_ble_eq_true rfl⟩ ⟨Nat.le_of_ble_eq_true rfl, Nat.le_of_ble_eq_true rfl⟩ dX6_of_11 (fun x_3 _ H locs h_3 hP hD hS => ?_)
  have hP : va_P D vwCl [(nw, .inr (3, [.int 2, .int 0, .ref keys, .ref moms, .ref lens, .ref prts, .ref luds, .ref hnds, .ref lats, .ref knds, .ref rch, .ref spd, .int 0, .int 0, .int 0, .ref unN, .ref unH, .ref ptn]))] H := hP
  have hD : va_D (va_A (w_of cI cZ cP x0 nw sp im sc hg fg pg pr keys moms lens prts luds hnds lats knds rch spd unN unH ptn p0 p1) sz) [(nw, .inr (3, [.int 2, .int 0, .ref keys, .ref moms, .ref lens, .ref prts, .ref luds, .ref hnds, .ref lats, .ref knds, .ref rch, .ref spd, .int 0, .int 0, .int 0, .ref unN, .ref unH, .ref ptn]))] := hD
  subst h_3
  exact q_iret hX hr hlk () rfl (hP.sub [] rfl) (hD.sub [] (by decide) rfl) hS dX6_of_14
abbrev w_clash (cI cZ cP : ClassId) (x0 : Nat) (nw : Nat) (sp : Nat) (im : Nat) (sc : Nat) (hg : Nat) (fg : Nat) (pg : Nat) (pr : Nat) (keys : Nat) (moms : Nat) (lens : Nat) (prts : Nat) (luds : Nat) (hnds : Nat) (lats : Nat) (knds : Nat) (rch : Nat) (spd : Nat) (unN : Nat) (unH : Nat) (ptn : Nat) (p0 : Int32) (p1 : Int32) : va_W := [(x0, .inr (6, [.ref nw, .ref sp, .ref im, .ref sc, .ref hg, .ref fg, .ref pg, .ref pr, .int 0, .long 0, .long 1, .int 0, .int 0, .int 0])), (nw, .inr (3, [.int 2, .int 0, .ref keys, .ref moms, .ref lens, .ref prts, .ref luds, .ref hnds, .ref lats, .ref knds, .ref rch, .ref spd, .int 0, .int 0, .int 0, .ref unN, .ref unH, .ref ptn]))]
set_option maxHeartbeats 4000000 in
set_option maxRecDepth 100000 in
theorem c_clash (l : Launch) (D : va_G) (cI cZ cP : ClassId) (x0 : Nat) (nw : Nat) (sp : Nat) (im : Nat) (sc : Nat) (hg : Nat) (fg : Nat) (pg : Nat) (pr : Nat) (keys : Nat) (moms : Nat) (lens : Nat) (prts : Nat) (luds : Nat) (hnds : Nat) (lats : Nat) (knds : Nat) (rch : Nat) (spd : Nat) (unN : Nat) (unH : Nat) (ptn : Nat) (p0 : Int32) (p1 : Int32) (sz : Nat) : Met l yX6_clash (qW yX6_clash cX6_clash 3 (some .int)) ({ frames := 2, cells := 0, slots := 0, locals := 43 } : Room) (qP D (TY cI cZ cP) [.ref x0, .int p0, .int p1] (w_clash cI cZ cP x0 nw sp im sc hg fg pg pr keys moms lens prts luds hnds lats knds rch spd unN unH ptn p0 p1) sz) (qQi D (w_clash cI cZ cP x0 nw sp im sc hg fg pg pr keys moms lens prts luds hnds lats knds rch spd unN unH ptn p0 p1) sz (fun (r : Int32) (_ : Unit) => r = (-2)) (fun _ => [])) 0 0 (va_A (w_clash cI cZ cP x0 nw sp im sc hg fg pg pr keys moms lens prts luds hnds lats knds rch spd unN unH ptn p0 p1) sz) := by
  refine q_enter (by decide) (Nat.le_of_ble_eq_true rfl) ?_
  intro p e s m below meth c ls hX hr hlk hnm hK hP hD hS hA hl
  obtain ⟨hx, hb, hml, hown, ht⟩ := id hX
  have hl : lv_has ls 3 [(0, .ref x0), (1, .int p0), (2, .int p1)] := hl
  refine lv_aload_n hx hb dX6_clash_0 rfl (lv_at hl 0 rfl) ?_
  refine lv_iload_n hx hb dX6_clash_1 rfl (lv_at hl 1 rfl) ?_
  refine q_Vi (wr := []) [0, 1] [] hX hK hP hD hS hA hl.1 lk_X6_114 (c_isNote l D cI cZ cP x0 nw sp im sc hg fg pg pr keys moms lens prts luds hnds lats knds rch spd unN unH ptn p0 _) rfl rfl rfl rfl (by decide) 0 6 rfl rfl rfl rfl (Nat.le_of_ble_eq_true rfl) rfl rfl ⟨Nat.le_of_ble_eq_true rfl, Nat.le_of_ble_eq_true rfl⟩ ⟨Nat.le_of_ble_eq_true rfl, Nat.le_of_ble_eq_true rfl⟩ dX6_clash_2 (fun x_1 _ H locs h_1 hP hD hS => ?_)
  have hP : va_P D vwCl [(x0, .inr (6, [.ref nw, .ref sp, .ref im, .ref sc, .ref hg, .ref fg, .ref pg, .ref pr, .int 0, .long 0, .long 1, .int 0, .int 0, .int 0])), (nw, .inr (3, [.int 2, .int 0, .ref keys, .ref moms, .ref lens, .ref prts, .ref luds, .ref hnds, .ref lats, .ref knds, .ref rch, .ref spd, .int 0, .int 0, .int 0, .ref unN, .ref unH, .ref ptn]))] H := hP
  have hD : va_D (va_A (w_clash cI cZ cP x0 nw sp im sc hg fg pg pr keys moms lens prts luds hnds lats knds rch spd unN unH ptn p0 p1) sz) [(x0, .inr (6, [.ref nw, .ref sp, .ref im, .ref sc, .ref hg, .ref fg, .ref pg, .ref pr, .int 0, .long 0, .long 1, .int 0, .int 0, .int 0])), (nw, .inr (3, [.int 2, .int 0, .ref keys, .ref moms, .ref lens, .ref prts, .ref luds, .ref hnds, .ref lats, .ref knds, .ref rch, .ref spd, .int 0, .int 0, .int 0, .ref unN, .ref unH, .ref ptn]))] := hD
  subst h_1
  refine lv_if_eq (tgt := 21) hx hb dX6_clash_5 (by decide) (fun _ => ?_) (fun c_2 => absurd (by decide) c_2)
  refine lv_aload_n hx hb dX6_clash_21 rfl (lv_at hl 0 rfl) ?_
  refine lv_bipush (v := (-2)) hx hb dX6_clash_22 (by decide) ?_
  refine q_Vi (wr := [(nw, .inr (3, [.int 2, .int 0, .ref keys, .ref moms, .ref lens, .ref prts, .ref luds, .ref hnds, .ref lats, .ref knds, .ref rch, .ref spd, .int 0, .int 0, .int 0, .ref unN, .ref unH, .ref ptn]))]) [0] [1] hX hK hP hD hS hA hl.1 lk_X6_66 (c_refuseBad l D cI cZ cP x0 nw sp im sc hg fg pg pr 0 0 1 0 0 0 (-2) _) rfl rfl rfl rfl (by decide) 0 6 rfl rfl rfl rfl (Nat.le_of_ble_eq_true rfl) rfl rfl ⟨Nat.le_of_ble_eq_true rfl, Nat.le_of_ble_eq_true rfl⟩ ⟨Nat.le_of_ble_eq_true rfl, Nat.le_of_ble_eq_true rfl⟩ dX6_clash_24 (fun x_3 _ H locs h_3 hP hD hS => ?_)
  have hP : va_P D vwCl [(nw, .inr (3, [.int 2, .int 0, .ref keys, .ref moms, .ref lens, .ref prts, .ref luds, .ref hnds, .ref lats, .ref knds, .ref rch, .ref spd, .int 0, .int 0, .int 0, .ref unN, .ref unH, .ref ptn]))] H := hP
  have hD : va_D (va_A (w_clash cI cZ cP x0 nw sp im sc hg fg pg pr keys moms lens prts luds hnds lats knds rch spd unN unH ptn p0 p1) sz) [(nw, .inr (3, [.int 2, .int 0, .ref keys, .ref moms, .ref lens, .ref prts, .ref luds, .ref hnds, .ref lats, .ref knds, .ref rch, .ref spd, .int 0, .int 0, .int 0, .ref unN, .ref unH, .ref ptn]))] := hD
  subst h_3
  exact q_iret hX hr hlk () rfl (hP.sub [] rfl) (hD.sub [] (by decide) rfl) hS dX6_clash_27
abbrev w_heard (cI cZ cP : ClassId) (x0 : Nat) (nw : Nat) (sp : Nat) (im : Nat) (sc : Nat) (hg : Nat) (fg : Nat) (pg : Nat) (pr : Nat) (keys : Nat) (moms : Nat) (lens : Nat) (prts : Nat) (luds : Nat) (hnds : Nat) (lats : Nat) (knds : Nat) (rch : Nat) (spd : Nat) (unN : Nat) (unH : Nat) (ptn : Nat) (p0 : Int32) (p1 : Int32) : va_W := [(x0, .inr (6, [.ref nw, .ref sp, .ref im, .ref sc, .ref hg, .ref fg, .ref pg, .ref pr, .int 0, .long 0, .long 1, .int 0, .int 0, .int 0])), (nw, .inr (3, [.int 2, .int 0, .ref keys, .ref moms, .ref lens, .ref prts, .ref luds, .ref hnds, .ref lats, .ref knds, .ref rch, .ref spd, .int 0, .int 0, .int 0, .ref unN, .ref unH, .ref ptn]))]
set_option maxHeartbeats 4000000 in
set_option maxRecDepth 100000 in
theorem c_heard (l : Launch) (D : va_G) (cI cZ cP : ClassId) (x0 : Nat) (nw : Nat) (sp : Nat) (im : Nat) (sc : Nat) (hg : Nat) (fg : Nat) (pg : Nat) (pr : Nat) (keys : Nat) (moms : Nat) (lens : Nat) (prts : Nat) (luds : Nat) (hnds : Nat) (lats : Nat) (knds : Nat) (rch : Nat) (spd : Nat) (unN : Nat) (unH : Nat) (ptn : Nat) (p0 : Int32) (p1 : Int32) (sz : Nat) : Met l yX6_heard (qW yX6_heard cX6_heard 4 (some .int)) ({ frames := 2, cells := 0, slots := 0, locals := 43 } : Room) (qP D (TY cI cZ cP) [.ref x0, .int p0, .int p1] (w_heard cI cZ cP x0 nw sp im sc hg fg pg pr keys moms lens prts luds hnds lats knds rch spd unN unH ptn p0 p1) sz) (qQi D (w_heard cI cZ cP x0 nw sp im sc hg fg pg pr keys moms lens prts luds hnds lats knds rch spd unN unH ptn p0 p1) sz (fun (r : Int32) (_ : Unit) => r = (-10)) (fun _ => [])) 0 0 (va_A (w_heard cI cZ cP x0 nw sp im sc hg fg pg pr keys moms lens prts luds hnds lats knds rch spd unN unH ptn p0 p1) sz) := by
  refine q_enter (by decide) (Nat.le_of_ble_eq_true rfl) ?_
  intro p e s m below meth c ls hX hr hlk hnm hK hP hD hS hA hl
  obtain ⟨hx, hb, hml, hown, ht⟩ := id hX
  have hl : lv_has ls 4 [(0, .ref x0), (1, .int p0), (2, .int p1)] := hl
  refine lv_aload_n hx hb dX6_heard_0 rfl (lv_at hl 0 rfl) ?_
  refine lv_iload_n hx hb dX6_heard_1 rfl (lv_at hl 1 rfl) ?_
  refine q_Vi (wr := []) [0, 1] [] hX hK hP hD hS hA hl.1 lk_X6_114 (c_isNote l D cI cZ cP x0 nw sp im sc hg fg pg pr keys moms lens prts luds hnds lats knds rch spd unN unH ptn p0 _) rfl rfl rfl rfl (by decide) 0 6 rfl rfl rfl rfl (Nat.le_of_ble_eq_true rfl) rfl rfl ⟨Nat.le_of_ble_eq_true rfl, Nat.le_of_ble_eq_true rfl⟩ ⟨Nat.le_of_ble_eq_true rfl, Nat.le_of_ble_eq_true rfl⟩ dX6_heard_2 (fun x_1 _ H locs h_1 hP hD hS => ?_)
  have hP : va_P D vwCl [(x0, .inr (6, [.ref nw, .ref sp, .ref im, .ref sc, .ref hg, .ref fg, .ref pg, .ref pr, .int 0, .long 0, .long 1, .int 0, .int 0, .int 0])), (nw, .inr (3, [.int 2, .int 0, .ref keys, .ref moms, .ref lens, .ref prts, .ref luds, .ref hnds, .ref lats, .ref knds, .ref rch, .ref spd, .int 0, .int 0, .int 0, .ref unN, .ref unH, .ref ptn]))] H := hP
  have hD : va_D (va_A (w_heard cI cZ cP x0 nw sp im sc hg fg pg pr keys moms lens prts luds hnds lats knds rch spd unN unH ptn p0 p1) sz) [(x0, .inr (6, [.ref nw, .ref sp, .ref im, .ref sc, .ref hg, .ref fg, .ref pg, .ref pr, .int 0, .long 0, .long 1, .int 0, .int 0, .int 0])), (nw, .inr (3, [.int 2, .int 0, .ref keys, .ref moms, .ref lens, .ref prts, .ref luds, .ref hnds, .ref lats, .ref knds, .ref rch, .ref spd, .int 0, .int 0, .int 0, .ref unN, .ref unH, .ref ptn]))] := hD
  subst h_1
  refine lv_if_eq (tgt := 18) hx hb dX6_heard_5 (by decide) (fun _ => ?_) (fun c_2 => absurd (by decide) c_2)
  refine lv_aload_n hx hb dX6_heard_18 rfl (lv_at hl 0 rfl) ?_
  refine lv_bipush (v := (-10)) hx hb dX6_heard_19 (by decide) ?_
  refine q_Vi (wr := [(nw, .inr (3, [.int 2, .int 0, .ref keys, .ref moms, .ref lens, .ref prts, .ref luds, .ref hnds, .ref lats, .ref knds, .ref rch, .ref spd, .int 0, .int 0, .int 0, .ref unN, .ref unH, .ref ptn]))]) [0] [1] hX hK hP hD hS hA hl.1 lk_X6_66 (c_refuseBad l D cI cZ cP x0 nw sp im sc hg fg pg pr 0 0 1 0 0 0 (-10) _) rfl rfl rfl rfl (by decide) 0 6 rfl rfl rfl rfl (Nat.le_of_ble_eq_true rfl) rfl rfl ⟨Nat.le_of_ble_eq_true rfl, Nat.le_of_ble_eq_true rfl⟩ ⟨Nat.le_of_ble_eq_true rfl, Nat.le_of_ble_eq_true rfl⟩ dX6_heard_21 (fun x_3 _ H locs h_3 hP hD hS => ?_)
  have hP : va_P D vwCl [(nw, .inr (3, [.int 2, .int 0, .ref keys, .ref moms, .ref lens, .ref prts, .ref luds, .ref hnds, .ref lats, .ref knds, .ref rch, .ref spd, .int 0, .int 0, .int 0, .ref unN, .ref unH, .ref ptn]))] H := hP
  have hD : va_D (va_A (w_heard cI cZ cP x0 nw sp im sc hg fg pg pr keys moms lens prts luds hnds lats knds rch spd unN unH ptn p0 p1) sz) [(nw, .inr (3, [.int 2, .int 0, .ref keys, .ref moms, .ref lens, .ref prts, .ref luds, .ref hnds, .ref lats, .ref knds, .ref rch, .ref spd, .int 0, .int 0, .int 0, .ref unN, .ref unH, .ref ptn]))] := hD
  subst h_3
  exact q_iret hX hr hlk () rfl (hP.sub [] rfl) (hD.sub [] (by decide) rfl) hS dX6_heard_24
end
