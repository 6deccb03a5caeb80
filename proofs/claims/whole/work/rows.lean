section
-- ===== PART A: goes FIRST, ahead of the names: the tables' words, and 'selects' of the private methods out of them =====
/-- a private method of a class that the tables say can be made, by its rows of tables_1 -/
def lw_okq (q : MethodName × Nat) : Prop := (q.1.cls ≠ "java/lang/invoke/MethodHandle" ∧ q.1.cls ≠ "java/lang/invoke/VarHandle") ∧ Cond.instantiable q.1.cls q.2 ∈ tables_1 ∧ Cond.privateMethod q.1 ∈ tables_1 ∧ Cond.instanceMethod q.1 ∈ tables_1
theorem lw_p0 : lw_okq (⟨"ShipVoices$Ear", "takeOne", "()V"⟩, 6) := ⟨⟨by decide +kernel, by decide +kernel⟩, List.mem_of_getElem? (i := 42) (by decide +kernel), List.mem_of_getElem? (i := 311) (by decide +kernel), List.mem_of_getElem? (i := 312) (by decide +kernel)⟩
theorem lw_p1 : lw_okq (⟨"ShipVoices$Ear", "putBit", "(I)V"⟩, 6) := ⟨⟨by decide +kernel, by decide +kernel⟩, List.mem_of_getElem? (i := 42) (by decide +kernel), List.mem_of_getElem? (i := 315) (by decide +kernel), List.mem_of_getElem? (i := 316) (by decide +kernel)⟩
theorem lw_p2 : lw_okq (⟨"ShipVoices$Ear", "lose", "()V"⟩, 6) := ⟨⟨by decide +kernel, by decide +kernel⟩, List.mem_of_getElem? (i := 42) (by decide +kernel), List.mem_of_getElem? (i := 319) (by decide +kernel), List.mem_of_getElem? (i := 320) (by decide +kernel)⟩
theorem lw_p3 : lw_okq (⟨"ShipVoices$Ear", "endPiece", "()Z"⟩, 6) := ⟨⟨by decide +kernel, by decide +kernel⟩, List.mem_of_getElem? (i := 42) (by decide +kernel), List.mem_of_getElem? (i := 323) (by decide +kernel), List.mem_of_getElem? (i := 324) (by decide +kernel)⟩
theorem lw_p4 : lw_okq (⟨"ShipVoices$Ear", "isChecked", "()Z"⟩, 6) := ⟨⟨by decide +kernel, by decide +kernel⟩, List.mem_of_getElem? (i := 42) (by decide +kernel), List.mem_of_getElem? (i := 327) (by decide +kernel), List.mem_of_getElem? (i := 328) (by decide +kernel)⟩
theorem lw_p5 : lw_okq (⟨"ShipVoices$Ear", "bitAt", "(I)I"⟩, 6) := ⟨⟨by decide +kernel, by decide +kernel⟩, List.mem_of_getElem? (i := 42) (by decide +kernel), List.mem_of_getElem? (i := 332) (by decide +kernel), List.mem_of_getElem? (i := 333) (by decide +kernel)⟩
theorem lw_p6 : lw_okq (⟨"ShipVoices", "readFrame", "(LShipVoices$Ear;I)V"⟩, 13) := ⟨⟨by decide +kernel, by decide +kernel⟩, List.mem_of_getElem? (i := 20) (by decide +kernel), List.mem_of_getElem? (i := 344) (by decide +kernel), List.mem_of_getElem? (i := 345) (by decide +kernel)⟩
theorem lw_p7 : lw_okq (⟨"ShipVoices$Telling", "readAll", "(LShipVoices$Ear;)Z"⟩, 3) := ⟨⟨by decide +kernel, by decide +kernel⟩, List.mem_of_getElem? (i := 67) (by decide +kernel), List.mem_of_getElem? (i := 352) (by decide +kernel), List.mem_of_getElem? (i := 353) (by decide +kernel)⟩
theorem lw_p8 : lw_okq (⟨"ShipVoices$Telling", "bodyBits", "()I"⟩, 3) := ⟨⟨by decide +kernel, by decide +kernel⟩, List.mem_of_getElem? (i := 67) (by decide +kernel), List.mem_of_getElem? (i := 364) (by decide +kernel), List.mem_of_getElem? (i := 365) (by decide +kernel)⟩
theorem lw_p9 : lw_okq (⟨"ShipVoices$Telling", "signed", "(II)I"⟩, 3) := ⟨⟨by decide +kernel, by decide +kernel⟩, List.mem_of_getElem? (i := 67) (by decide +kernel), List.mem_of_getElem? (i := 374) (by decide +kernel), List.mem_of_getElem? (i := 375) (by decide +kernel)⟩
theorem lw_p10 : lw_okq (⟨"ShipVoices$Telling", "isAsTold", "()Z"⟩, 3) := ⟨⟨by decide +kernel, by decide +kernel⟩, List.mem_of_getElem? (i := 67) (by decide +kernel), List.mem_of_getElem? (i := 378) (by decide +kernel), List.mem_of_getElem? (i := 379) (by decide +kernel)⟩
theorem lw_p11 : lw_okq (⟨"ShipVoices$Telling", "setNumbers", "(IIII)V"⟩, 3) := ⟨⟨by decide +kernel, by decide +kernel⟩, List.mem_of_getElem? (i := 67) (by decide +kernel), List.mem_of_getElem? (i := 385) (by decide +kernel), List.mem_of_getElem? (i := 386) (by decide +kernel)⟩
theorem lw_p12 : lw_okq (⟨"ShipVoices$TextBook", "findNewest", "(LShipVoices$Log;II)Z"⟩, 5) := ⟨⟨by decide +kernel, by decide +kernel⟩, List.mem_of_getElem? (i := 133) (by decide +kernel), List.mem_of_getElem? (i := 426) (by decide +kernel), List.mem_of_getElem? (i := 427) (by decide +kernel)⟩
theorem lw_p13 : lw_okq (⟨"ShipVoices$TextBook", "join", "(LShipVoices$Log;II)V"⟩, 5) := ⟨⟨by decide +kernel, by decide +kernel⟩, List.mem_of_getElem? (i := 133) (by decide +kernel), List.mem_of_getElem? (i := 438) (by decide +kernel), List.mem_of_getElem? (i := 439) (by decide +kernel)⟩
theorem lw_p14 : lw_okq (⟨"ShipVoices$Telling", "areInFields", "()Z"⟩, 3) := ⟨⟨by decide +kernel, by decide +kernel⟩, List.mem_of_getElem? (i := 67) (by decide +kernel), List.mem_of_getElem? (i := 457) (by decide +kernel), List.mem_of_getElem? (i := 458) (by decide +kernel)⟩
theorem lw_p15 : lw_okq (⟨"ShipVoices$Telling", "fits", "(II)Z"⟩, 3) := ⟨⟨by decide +kernel, by decide +kernel⟩, List.mem_of_getElem? (i := 67) (by decide +kernel), List.mem_of_getElem? (i := 461) (by decide +kernel), List.mem_of_getElem? (i := 462) (by decide +kernel)⟩
def lw_privs_1 : List (MethodName × Nat) := [(⟨"ShipVoices$Ear", "takeOne", "()V"⟩, 6), (⟨"ShipVoices$Ear", "putBit", "(I)V"⟩, 6), (⟨"ShipVoices$Ear", "lose", "()V"⟩, 6), (⟨"ShipVoices$Ear", "endPiece", "()Z"⟩, 6), (⟨"ShipVoices$Ear", "isChecked", "()Z"⟩, 6), (⟨"ShipVoices$Ear", "bitAt", "(I)I"⟩, 6), (⟨"ShipVoices", "readFrame", "(LShipVoices$Ear;I)V"⟩, 13), (⟨"ShipVoices$Telling", "readAll", "(LShipVoices$Ear;)Z"⟩, 3), (⟨"ShipVoices$Telling", "bodyBits", "()I"⟩, 3), (⟨"ShipVoices$Telling", "signed", "(II)I"⟩, 3), (⟨"ShipVoices$Telling", "isAsTold", "()Z"⟩, 3), (⟨"ShipVoices$Telling", "setNumbers", "(IIII)V"⟩, 3), (⟨"ShipVoices$TextBook", "findNewest", "(LShipVoices$Log;II)Z"⟩, 5), (⟨"ShipVoices$TextBook", "join", "(LShipVoices$Log;II)V"⟩, 5), (⟨"ShipVoices$Telling", "areInFields", "()Z"⟩, 3), (⟨"ShipVoices$Telling", "fits", "(II)Z"⟩, 3)]
theorem lw_r1 : ∀ q ∈ lw_privs_1, lw_okq q := List.forall_mem_cons.mpr ⟨lw_p0, List.forall_mem_cons.mpr ⟨lw_p1, List.forall_mem_cons.mpr ⟨lw_p2, List.forall_mem_cons.mpr ⟨lw_p3, List.forall_mem_cons.mpr ⟨lw_p4, List.forall_mem_cons.mpr ⟨lw_p5, List.forall_mem_cons.mpr ⟨lw_p6, List.forall_mem_cons.mpr ⟨lw_p7, List.forall_mem_cons.mpr ⟨lw_p8, List.forall_mem_cons.mpr ⟨lw_p9, List.forall_mem_cons.mpr ⟨lw_p10, List.forall_mem_cons.mpr ⟨lw_p11, List.forall_mem_cons.mpr ⟨lw_p12, List.forall_mem_cons.mpr ⟨lw_p13, List.forall_mem_cons.mpr ⟨lw_p14, List.forall_mem_cons.mpr ⟨lw_p15, fun _ h => absurd h List.not_mem_nil⟩⟩⟩⟩⟩⟩⟩⟩⟩⟩⟩⟩⟩⟩⟩⟩
theorem lw_p16 : lw_okq (⟨"ShipVoices$Sender", "addBit", "(I)V"⟩, 5) := ⟨⟨by decide +kernel, by decide +kernel⟩, List.mem_of_getElem? (i := 84) (by decide +kernel), List.mem_of_getElem? (i := 469) (by decide +kernel), List.mem_of_getElem? (i := 470) (by decide +kernel)⟩
theorem lw_p17 : lw_okq (⟨"ShipVoices$Sender", "addMark", "()V"⟩, 5) := ⟨⟨by decide +kernel, by decide +kernel⟩, List.mem_of_getElem? (i := 84) (by decide +kernel), List.mem_of_getElem? (i := 473) (by decide +kernel), List.mem_of_getElem? (i := 474) (by decide +kernel)⟩
theorem lw_p18 : lw_okq (⟨"ShipVoices$Sender", "addNumber", "(II)V"⟩, 5) := ⟨⟨by decide +kernel, by decide +kernel⟩, List.mem_of_getElem? (i := 84) (by decide +kernel), List.mem_of_getElem? (i := 478) (by decide +kernel), List.mem_of_getElem? (i := 479) (by decide +kernel)⟩
theorem lw_p19 : lw_okq (⟨"ShipVoices$Sender", "addStuffed", "(I)V"⟩, 5) := ⟨⟨by decide +kernel, by decide +kernel⟩, List.mem_of_getElem? (i := 84) (by decide +kernel), List.mem_of_getElem? (i := 482) (by decide +kernel), List.mem_of_getElem? (i := 483) (by decide +kernel)⟩
theorem lw_p20 : lw_okq (⟨"ShipVoices$Parting", "gather", "(LShipVoices$Log;I)V"⟩, 7) := ⟨⟨by decide +kernel, by decide +kernel⟩, List.mem_of_getElem? (i := 156) (by decide +kernel), List.mem_of_getElem? (i := 507) (by decide +kernel), List.mem_of_getElem? (i := 508) (by decide +kernel)⟩
theorem lw_p21 : lw_okq (⟨"ShipVoices$Parting", "insert", "(LShipVoices$Log;I)V"⟩, 7) := ⟨⟨by decide +kernel, by decide +kernel⟩, List.mem_of_getElem? (i := 156) (by decide +kernel), List.mem_of_getElem? (i := 516) (by decide +kernel), List.mem_of_getElem? (i := 517) (by decide +kernel)⟩
theorem lw_p22 : lw_okq (⟨"ShipVoices$Parting", "allowIfNear", "(LShipVoices$Log;III)V"⟩, 7) := ⟨⟨by decide +kernel, by decide +kernel⟩, List.mem_of_getElem? (i := 156) (by decide +kernel), List.mem_of_getElem? (i := 538) (by decide +kernel), List.mem_of_getElem? (i := 539) (by decide +kernel)⟩
theorem lw_p23 : lw_okq (⟨"ShipVoices$Matching", "isPosition", "(I)Z"⟩, 11) := ⟨⟨by decide +kernel, by decide +kernel⟩, List.mem_of_getElem? (i := 162) (by decide +kernel), List.mem_of_getElem? (i := 546) (by decide +kernel), List.mem_of_getElem? (i := 547) (by decide +kernel)⟩
theorem lw_p24 : lw_okq (⟨"ShipVoices$Matching", "admit", "(I)V"⟩, 11) := ⟨⟨by decide +kernel, by decide +kernel⟩, List.mem_of_getElem? (i := 162) (by decide +kernel), List.mem_of_getElem? (i := 554) (by decide +kernel), List.mem_of_getElem? (i := 555) (by decide +kernel)⟩
theorem lw_p25 : lw_okq (⟨"ShipVoices$Matching", "lookFrom", "(II)I"⟩, 11) := ⟨⟨by decide +kernel, by decide +kernel⟩, List.mem_of_getElem? (i := 162) (by decide +kernel), List.mem_of_getElem? (i := 559) (by decide +kernel), List.mem_of_getElem? (i := 560) (by decide +kernel)⟩
theorem lw_p26 : lw_okq (⟨"ShipVoices$Matching", "price", "(II)J"⟩, 11) := ⟨⟨by decide +kernel, by decide +kernel⟩, List.mem_of_getElem? (i := 162) (by decide +kernel), List.mem_of_getElem? (i := 563) (by decide +kernel), List.mem_of_getElem? (i := 564) (by decide +kernel)⟩
theorem lw_p27 : lw_okq (⟨"ShipVoices$Matching", "isColumn", "(I)Z"⟩, 11) := ⟨⟨by decide +kernel, by decide +kernel⟩, List.mem_of_getElem? (i := 162) (by decide +kernel), List.mem_of_getElem? (i := 568) (by decide +kernel), List.mem_of_getElem? (i := 569) (by decide +kernel)⟩
theorem lw_p28 : lw_okq (⟨"ShipVoices$Matching", "shiftDuals", "(IJ)V"⟩, 11) := ⟨⟨by decide +kernel, by decide +kernel⟩, List.mem_of_getElem? (i := 162) (by decide +kernel), List.mem_of_getElem? (i := 572) (by decide +kernel), List.mem_of_getElem? (i := 573) (by decide +kernel)⟩
theorem lw_p29 : lw_okq (⟨"ShipVoices$Matching", "moveAlong", "(II)V"⟩, 11) := ⟨⟨by decide +kernel, by decide +kernel⟩, List.mem_of_getElem? (i := 162) (by decide +kernel), List.mem_of_getElem? (i := 576) (by decide +kernel), List.mem_of_getElem? (i := 577) (by decide +kernel)⟩
theorem lw_p30 : lw_okq (⟨"ShipVoices$Matching", "place", "(II)V"⟩, 11) := ⟨⟨by decide +kernel, by decide +kernel⟩, List.mem_of_getElem? (i := 162) (by decide +kernel), List.mem_of_getElem? (i := 580) (by decide +kernel), List.mem_of_getElem? (i := 581) (by decide +kernel)⟩
theorem lw_p31 : lw_okq (⟨"ShipVoices$Matching", "fillSpareRows", "()V"⟩, 11) := ⟨⟨by decide +kernel, by decide +kernel⟩, List.mem_of_getElem? (i := 162) (by decide +kernel), List.mem_of_getElem? (i := 584) (by decide +kernel), List.mem_of_getElem? (i := 585) (by decide +kernel)⟩
def lw_privs_2 : List (MethodName × Nat) := [(⟨"ShipVoices$Sender", "addBit", "(I)V"⟩, 5), (⟨"ShipVoices$Sender", "addMark", "()V"⟩, 5), (⟨"ShipVoices$Sender", "addNumber", "(II)V"⟩, 5), (⟨"ShipVoices$Sender", "addStuffed", "(I)V"⟩, 5), (⟨"ShipVoices$Parting", "gather", "(LShipVoices$Log;I)V"⟩, 7), (⟨"ShipVoices$Parting", "insert", "(LShipVoices$Log;I)V"⟩, 7), (⟨"ShipVoices$Parting", "allowIfNear", "(LShipVoices$Log;III)V"⟩, 7), (⟨"ShipVoices$Matching", "isPosition", "(I)Z"⟩, 11), (⟨"ShipVoices$Matching", "admit", "(I)V"⟩, 11), (⟨"ShipVoices$Matching", "lookFrom", "(II)I"⟩, 11), (⟨"ShipVoices$Matching", "price", "(II)J"⟩, 11), (⟨"ShipVoices$Matching", "isColumn", "(I)Z"⟩, 11), (⟨"ShipVoices$Matching", "shiftDuals", "(IJ)V"⟩, 11), (⟨"ShipVoices$Matching", "moveAlong", "(II)V"⟩, 11), (⟨"ShipVoices$Matching", "place", "(II)V"⟩, 11), (⟨"ShipVoices$Matching", "fillSpareRows", "()V"⟩, 11)]
theorem lw_r2 : ∀ q ∈ lw_privs_2, lw_okq q := List.forall_mem_cons.mpr ⟨lw_p16, List.forall_mem_cons.mpr ⟨lw_p17, List.forall_mem_cons.mpr ⟨lw_p18, List.forall_mem_cons.mpr ⟨lw_p19, List.forall_mem_cons.mpr ⟨lw_p20, List.forall_mem_cons.mpr ⟨lw_p21, List.forall_mem_cons.mpr ⟨lw_p22, List.forall_mem_cons.mpr ⟨lw_p23, List.forall_mem_cons.mpr ⟨lw_p24, List.forall_mem_cons.mpr ⟨lw_p25, List.forall_mem_cons.mpr ⟨lw_p26, List.forall_mem_cons.mpr ⟨lw_p27, List.forall_mem_cons.mpr ⟨lw_p28, List.forall_mem_cons.mpr ⟨lw_p29, List.forall_mem_cons.mpr ⟨lw_p30, List.forall_mem_cons.mpr ⟨lw_p31, fun _ h => absurd h List.not_mem_nil⟩⟩⟩⟩⟩⟩⟩⟩⟩⟩⟩⟩⟩⟩⟩⟩
theorem lw_p32 : lw_okq (⟨"ShipVoices$Matching", "settle", "(I)V"⟩, 11) := ⟨⟨by decide +kernel, by decide +kernel⟩, List.mem_of_getElem? (i := 162) (by decide +kernel), List.mem_of_getElem? (i := 588) (by decide +kernel), List.mem_of_getElem? (i := 589) (by decide +kernel)⟩
theorem lw_p33 : lw_okq (⟨"ShipVoices$Matching", "isTight", "(II)Z"⟩, 11) := ⟨⟨by decide +kernel, by decide +kernel⟩, List.mem_of_getElem? (i := 162) (by decide +kernel), List.mem_of_getElem? (i := 592) (by decide +kernel), List.mem_of_getElem? (i := 593) (by decide +kernel)⟩
theorem lw_p34 : lw_okq (⟨"ShipVoices$Matching", "giveColumn", "(II)Z"⟩, 11) := ⟨⟨by decide +kernel, by decide +kernel⟩, List.mem_of_getElem? (i := 162) (by decide +kernel), List.mem_of_getElem? (i := 596) (by decide +kernel), List.mem_of_getElem? (i := 597) (by decide +kernel)⟩
theorem lw_p35 : lw_okq (⟨"ShipVoices$Matching", "lookOnFrom", "(III)I"⟩, 11) := ⟨⟨by decide +kernel, by decide +kernel⟩, List.mem_of_getElem? (i := 162) (by decide +kernel), List.mem_of_getElem? (i := 600) (by decide +kernel), List.mem_of_getElem? (i := 601) (by decide +kernel)⟩
theorem lw_p36 : lw_okq (⟨"ShipVoices$Parting", "drawTracks", "()V"⟩, 7) := ⟨⟨by decide +kernel, by decide +kernel⟩, List.mem_of_getElem? (i := 156) (by decide +kernel), List.mem_of_getElem? (i := 604) (by decide +kernel), List.mem_of_getElem? (i := 605) (by decide +kernel)⟩
theorem lw_p37 : lw_okq (⟨"java/lang/Throwable", "fillInStackTrace", "(I)Ljava/lang/Throwable;"⟩, 6) := ⟨⟨by decide +kernel, by decide +kernel⟩, List.mem_of_getElem? (i := 751) (by decide +kernel), List.mem_of_getElem? (i := 749) (by decide +kernel), List.mem_of_getElem? (i := 750) (by decide +kernel)⟩
theorem lw_p38 : lw_okq (⟨"ShipVoicesModel", "come", "(I)V"⟩, 44) := ⟨⟨by decide +kernel, by decide +kernel⟩, List.mem_of_getElem? (i := 839) (by decide +kernel), List.mem_of_getElem? (i := 985) (by decide +kernel), List.mem_of_getElem? (i := 986) (by decide +kernel)⟩
theorem lw_p39 : lw_okq (⟨"ShipVoicesModel", "hears", "(II)Z"⟩, 44) := ⟨⟨by decide +kernel, by decide +kernel⟩, List.mem_of_getElem? (i := 839) (by decide +kernel), List.mem_of_getElem? (i := 997) (by decide +kernel), List.mem_of_getElem? (i := 998) (by decide +kernel)⟩
theorem lw_p40 : lw_okq (⟨"ShipVoicesModel", "put", "(II)V"⟩, 44) := ⟨⟨by decide +kernel, by decide +kernel⟩, List.mem_of_getElem? (i := 839) (by decide +kernel), List.mem_of_getElem? (i := 1001) (by decide +kernel), List.mem_of_getElem? (i := 1002) (by decide +kernel)⟩
theorem lw_p41 : lw_okq (⟨"ShipVoicesModel", "lose", "(I)V"⟩, 44) := ⟨⟨by decide +kernel, by decide +kernel⟩, List.mem_of_getElem? (i := 839) (by decide +kernel), List.mem_of_getElem? (i := 1005) (by decide +kernel), List.mem_of_getElem? (i := 1006) (by decide +kernel)⟩
theorem lw_p42 : lw_okq (⟨"ShipVoicesModel", "ends", "(II)Z"⟩, 44) := ⟨⟨by decide +kernel, by decide +kernel⟩, List.mem_of_getElem? (i := 839) (by decide +kernel), List.mem_of_getElem? (i := 1009) (by decide +kernel), List.mem_of_getElem? (i := 1010) (by decide +kernel)⟩
theorem lw_p43 : lw_okq (⟨"ShipVoicesModel", "read", "(II)I"⟩, 44) := ⟨⟨by decide +kernel, by decide +kernel⟩, List.mem_of_getElem? (i := 839) (by decide +kernel), List.mem_of_getElem? (i := 1017) (by decide +kernel), List.mem_of_getElem? (i := 1018) (by decide +kernel)⟩
theorem lw_p44 : lw_okq (⟨"ShipVoicesModel", "note", "(II)V"⟩, 44) := ⟨⟨by decide +kernel, by decide +kernel⟩, List.mem_of_getElem? (i := 839) (by decide +kernel), List.mem_of_getElem? (i := 1021) (by decide +kernel), List.mem_of_getElem? (i := 1022) (by decide +kernel)⟩
theorem lw_p45 : lw_okq (⟨"ShipVoicesModel", "fields", "(III)Z"⟩, 44) := ⟨⟨by decide +kernel, by decide +kernel⟩, List.mem_of_getElem? (i := 839) (by decide +kernel), List.mem_of_getElem? (i := 1025) (by decide +kernel), List.mem_of_getElem? (i := 1026) (by decide +kernel)⟩
theorem lw_p46 : lw_okq (⟨"ShipVoicesModel", "join", "(I)V"⟩, 44) := ⟨⟨by decide +kernel, by decide +kernel⟩, List.mem_of_getElem? (i := 839) (by decide +kernel), List.mem_of_getElem? (i := 1035) (by decide +kernel), List.mem_of_getElem? (i := 1036) (by decide +kernel)⟩
theorem lw_p47 : lw_okq (⟨"ShipVoicesModel", "isOf", "(II)Z"⟩, 44) := ⟨⟨by decide +kernel, by decide +kernel⟩, List.mem_of_getElem? (i := 839) (by decide +kernel), List.mem_of_getElem? (i := 1039) (by decide +kernel), List.mem_of_getElem? (i := 1040) (by decide +kernel)⟩
def lw_privs_3 : List (MethodName × Nat) := [(⟨"ShipVoices$Matching", "settle", "(I)V"⟩, 11), (⟨"ShipVoices$Matching", "isTight", "(II)Z"⟩, 11), (⟨"ShipVoices$Matching", "giveColumn", "(II)Z"⟩, 11), (⟨"ShipVoices$Matching", "lookOnFrom", "(III)I"⟩, 11), (⟨"ShipVoices$Parting", "drawTracks", "()V"⟩, 7), (⟨"java/lang/Throwable", "fillInStackTrace", "(I)Ljava/lang/Throwable;"⟩, 6), (⟨"ShipVoicesModel", "come", "(I)V"⟩, 44), (⟨"ShipVoicesModel", "hears", "(II)Z"⟩, 44), (⟨"ShipVoicesModel", "put", "(II)V"⟩, 44), (⟨"ShipVoicesModel", "lose", "(I)V"⟩, 44), (⟨"ShipVoicesModel", "ends", "(II)Z"⟩, 44), (⟨"ShipVoicesModel", "read", "(II)I"⟩, 44), (⟨"ShipVoicesModel", "note", "(II)V"⟩, 44), (⟨"ShipVoicesModel", "fields", "(III)Z"⟩, 44), (⟨"ShipVoicesModel", "join", "(I)V"⟩, 44), (⟨"ShipVoicesModel", "isOf", "(II)Z"⟩, 44)]
theorem lw_r3 : ∀ q ∈ lw_privs_3, lw_okq q := List.forall_mem_cons.mpr ⟨lw_p32, List.forall_mem_cons.mpr ⟨lw_p33, List.forall_mem_cons.mpr ⟨lw_p34, List.forall_mem_cons.mpr ⟨lw_p35, List.forall_mem_cons.mpr ⟨lw_p36, List.forall_mem_cons.mpr ⟨lw_p37, List.forall_mem_cons.mpr ⟨lw_p38, List.forall_mem_cons.mpr ⟨lw_p39, List.forall_mem_cons.mpr ⟨lw_p40, List.forall_mem_cons.mpr ⟨lw_p41, List.forall_mem_cons.mpr ⟨lw_p42, List.forall_mem_cons.mpr ⟨lw_p43, List.forall_mem_cons.mpr ⟨lw_p44, List.forall_mem_cons.mpr ⟨lw_p45, List.forall_mem_cons.mpr ⟨lw_p46, List.forall_mem_cons.mpr ⟨lw_p47, fun _ h => absurd h List.not_mem_nil⟩⟩⟩⟩⟩⟩⟩⟩⟩⟩⟩⟩⟩⟩⟩⟩
theorem lw_p48 : lw_okq (⟨"ShipVoicesModel", "refuse", "()I"⟩, 44) := ⟨⟨by decide +kernel, by decide +kernel⟩, List.mem_of_getElem? (i := 839) (by decide +kernel), List.mem_of_getElem? (i := 1053) (by decide +kernel), List.mem_of_getElem? (i := 1054) (by decide +kernel)⟩
theorem lw_p49 : lw_okq (⟨"ShipVoicesModel", "isClash", "(II)Z"⟩, 44) := ⟨⟨by decide +kernel, by decide +kernel⟩, List.mem_of_getElem? (i := 839) (by decide +kernel), List.mem_of_getElem? (i := 1077) (by decide +kernel), List.mem_of_getElem? (i := 1078) (by decide +kernel)⟩
theorem lw_p50 : lw_okq (⟨"ShipVoicesModel", "clashOf", "(I)I"⟩, 44) := ⟨⟨by decide +kernel, by decide +kernel⟩, List.mem_of_getElem? (i := 839) (by decide +kernel), List.mem_of_getElem? (i := 1085) (by decide +kernel), List.mem_of_getElem? (i := 1086) (by decide +kernel)⟩
theorem lw_p51 : lw_okq (⟨"ShipVoicesModel", "say", "(II)V"⟩, 44) := ⟨⟨by decide +kernel, by decide +kernel⟩, List.mem_of_getElem? (i := 839) (by decide +kernel), List.mem_of_getElem? (i := 1097) (by decide +kernel), List.mem_of_getElem? (i := 1098) (by decide +kernel)⟩
theorem lw_p52 : lw_okq (⟨"ShipVoicesModel", "says", "(IIIII)Z"⟩, 44) := ⟨⟨by decide +kernel, by decide +kernel⟩, List.mem_of_getElem? (i := 839) (by decide +kernel), List.mem_of_getElem? (i := 1101) (by decide +kernel), List.mem_of_getElem? (i := 1102) (by decide +kernel)⟩
theorem lw_p53 : lw_okq (⟨"ShipVoicesModel", "level", "(I)V"⟩, 44) := ⟨⟨by decide +kernel, by decide +kernel⟩, List.mem_of_getElem? (i := 839) (by decide +kernel), List.mem_of_getElem? (i := 1105) (by decide +kernel), List.mem_of_getElem? (i := 1106) (by decide +kernel)⟩
theorem lw_p54 : lw_okq (⟨"ShipVoicesModel", "mark", "()V"⟩, 44) := ⟨⟨by decide +kernel, by decide +kernel⟩, List.mem_of_getElem? (i := 839) (by decide +kernel), List.mem_of_getElem? (i := 1109) (by decide +kernel), List.mem_of_getElem? (i := 1110) (by decide +kernel)⟩
theorem lw_p55 : lw_okq (⟨"ShipVoicesModel", "isAhead", "(II)Z"⟩, 44) := ⟨⟨by decide +kernel, by decide +kernel⟩, List.mem_of_getElem? (i := 839) (by decide +kernel), List.mem_of_getElem? (i := 1121) (by decide +kernel), List.mem_of_getElem? (i := 1122) (by decide +kernel)⟩
theorem lw_p56 : lw_okq (⟨"ShipVoicesModel", "solve", "(I)V"⟩, 44) := ⟨⟨by decide +kernel, by decide +kernel⟩, List.mem_of_getElem? (i := 839) (by decide +kernel), List.mem_of_getElem? (i := 1125) (by decide +kernel), List.mem_of_getElem? (i := 1126) (by decide +kernel)⟩
theorem lw_p57 : lw_okq (⟨"ShipVoicesModel", "raises", "(I)Z"⟩, 44) := ⟨⟨by decide +kernel, by decide +kernel⟩, List.mem_of_getElem? (i := 839) (by decide +kernel), List.mem_of_getElem? (i := 1129) (by decide +kernel), List.mem_of_getElem? (i := 1130) (by decide +kernel)⟩
theorem lw_p58 : lw_okq (⟨"ShipVoicesModel", "lowers", "(IIJ)Z"⟩, 44) := ⟨⟨by decide +kernel, by decide +kernel⟩, List.mem_of_getElem? (i := 839) (by decide +kernel), List.mem_of_getElem? (i := 1134) (by decide +kernel), List.mem_of_getElem? (i := 1135) (by decide +kernel)⟩
theorem lw_p59 : lw_okq (⟨"ShipVoicesModel", "isFree", "(II)Z"⟩, 44) := ⟨⟨by decide +kernel, by decide +kernel⟩, List.mem_of_getElem? (i := 839) (by decide +kernel), List.mem_of_getElem? (i := 1138) (by decide +kernel), List.mem_of_getElem? (i := 1139) (by decide +kernel)⟩
theorem lw_p60 : lw_okq (⟨"ShipVoicesModel", "goesOn", "(II)Z"⟩, 44) := ⟨⟨by decide +kernel, by decide +kernel⟩, List.mem_of_getElem? (i := 839) (by decide +kernel), List.mem_of_getElem? (i := 1142) (by decide +kernel), List.mem_of_getElem? (i := 1143) (by decide +kernel)⟩
theorem lw_p61 : lw_okq (⟨"ShipVoicesModel", "latest", "(I)I"⟩, 44) := ⟨⟨by decide +kernel, by decide +kernel⟩, List.mem_of_getElem? (i := 839) (by decide +kernel), List.mem_of_getElem? (i := 1158) (by decide +kernel), List.mem_of_getElem? (i := 1159) (by decide +kernel)⟩
theorem lw_p62 : lw_okq (⟨"ShipVoicesModel", "gap", "(III)J"⟩, 44) := ⟨⟨by decide +kernel, by decide +kernel⟩, List.mem_of_getElem? (i := 839) (by decide +kernel), List.mem_of_getElem? (i := 1163) (by decide +kernel), List.mem_of_getElem? (i := 1164) (by decide +kernel)⟩
def lw_privs_4 : List (MethodName × Nat) := [(⟨"ShipVoicesModel", "refuse", "()I"⟩, 44), (⟨"ShipVoicesModel", "isClash", "(II)Z"⟩, 44), (⟨"ShipVoicesModel", "clashOf", "(I)I"⟩, 44), (⟨"ShipVoicesModel", "say", "(II)V"⟩, 44), (⟨"ShipVoicesModel", "says", "(IIIII)Z"⟩, 44), (⟨"ShipVoicesModel", "level", "(I)V"⟩, 44), (⟨"ShipVoicesModel", "mark", "()V"⟩, 44), (⟨"ShipVoicesModel", "isAhead", "(II)Z"⟩, 44), (⟨"ShipVoicesModel", "solve", "(I)V"⟩, 44), (⟨"ShipVoicesModel", "raises", "(I)Z"⟩, 44), (⟨"ShipVoicesModel", "lowers", "(IIJ)Z"⟩, 44), (⟨"ShipVoicesModel", "isFree", "(II)Z"⟩, 44), (⟨"ShipVoicesModel", "goesOn", "(II)Z"⟩, 44), (⟨"ShipVoicesModel", "latest", "(I)I"⟩, 44), (⟨"ShipVoicesModel", "gap", "(III)J"⟩, 44)]
theorem lw_r4 : ∀ q ∈ lw_privs_4, lw_okq q := List.forall_mem_cons.mpr ⟨lw_p48, List.forall_mem_cons.mpr ⟨lw_p49, List.forall_mem_cons.mpr ⟨lw_p50, List.forall_mem_cons.mpr ⟨lw_p51, List.forall_mem_cons.mpr ⟨lw_p52, List.forall_mem_cons.mpr ⟨lw_p53, List.forall_mem_cons.mpr ⟨lw_p54, List.forall_mem_cons.mpr ⟨lw_p55, List.forall_mem_cons.mpr ⟨lw_p56, List.forall_mem_cons.mpr ⟨lw_p57, List.forall_mem_cons.mpr ⟨lw_p58, List.forall_mem_cons.mpr ⟨lw_p59, List.forall_mem_cons.mpr ⟨lw_p60, List.forall_mem_cons.mpr ⟨lw_p61, List.forall_mem_cons.mpr ⟨lw_p62, fun _ h => absurd h List.not_mem_nil⟩⟩⟩⟩⟩⟩⟩⟩⟩⟩⟩⟩⟩⟩⟩
def lw_privs : List (MethodName × Nat) := lw_privs_1 ++ (lw_privs_2 ++ (lw_privs_3 ++ (lw_privs_4)))
def lw_tbl : List Cond := k2_sels lw_privs ++ tables_1
theorem lw_privs_ok : ∀ q ∈ lw_privs, lw_okq q := by
  show ∀ q ∈ lw_privs_1 ++ (lw_privs_2 ++ (lw_privs_3 ++ (lw_privs_4))), lw_okq q
  exact List.forall_mem_append.mpr ⟨lw_r1, List.forall_mem_append.mpr ⟨lw_r2, List.forall_mem_append.mpr ⟨lw_r3, lw_r4⟩⟩⟩
-- ===== end of PART A; then your names; then what follows =====
end
section
/-! ===== BEGIN words of one list among another's, by their places ===== -/
theorem goodIn_r {big : List Cond} (ws : List Cond) (ps : List Nat) (hp : ws = ps.filterMap (fun i => big[i]?)) (h : ws.all goodWord = true) : GoodIn big ws := by
  intro w hw
  have h1 := List.all_eq_true.mp h w hw
  rw [hp] at hw
  obtain ⟨i, -, hi⟩ := List.mem_filterMap.mp hw
  have hm : w ∈ big := by first | exact List.mem_of_getElem? hi | exact List.getElem?_mem hi
  exact ⟨hm, good_of_word h1⟩
theorem goodIn_app {big a b : List Cond} (ha : GoodIn big a) (hb : GoodIn big b) : GoodIn big (a ++ b) := fun w h => (List.mem_append.mp h).elim (ha w) (hb w)
theorem goodIn_ca {big a b : List Cond} {c : Cond} (ha : GoodIn big (c :: a)) (hb : GoodIn big b) : GoodIn big (c :: (a ++ b)) := fun w h => (List.mem_cons.mp h).elim (fun e => ha w (List.mem_cons.mpr (Or.inl e))) (fun h => (List.mem_append.mp h).elim (fun h => ha w (List.mem_cons.mpr (Or.inr h))) (hb w))
theorem goodIn_sub {big ws : List Cond} (hm : ∀ w ∈ ws, w ∈ big) (h : ws.all goodWord = true) : GoodIn big ws := fun w hw => ⟨hm w hw, good_of_word (List.all_eq_true.mp h w hw)⟩
/-! ===== END ===== -/

/-! ===== BEGIN exceptions that leave a method, and their catching by the caller (launches without stack traces) ===== -/
section VXA
/-! The laws vx_back, vx_callV, vx_callS, vx_callSW, vx_throw0, vx_throwS follow proofs of the library, with one case more: JvmDerived/Free/Laws.lean (Back.of_free), Shelf42/LK1.lean (callV, callS), Shelf/KitTraced.lean (throwNew0V, throwNewS). -/
/-- where a method has thrown q: the class by its name, the cell, what was written, the world -/
def vx_T (XC : String → State → State → Prop) (st : State) (q : Addr) (t : State) (mc ms : Nat) (free : Addr → Prop) : Prop :=
  ∃ (E : String) (ce : Cell) (L : List Loc), XC E st t ∧ t.heap[q]? = some ce ∧ ce.vm = .none ∧ st.vm.findClass E = some ce.cls ∧ st.WarmedH t.vm ∧ st.sameButNew ({ t with vm := st.vm } : State) L mc ms ∧ ∀ z ∈ L, free z.base
def vx_Q (Qc : Array Value → State → Outcome → State → Prop) (XC : String → State → State → Prop) (mc ms : Nat) (free : Addr → Prop) : Array Value → State → Outcome → State → Prop := fun a st o t =>
  (Qc a st o t ∧ ∃ L, FrameEnd st o t L mc ms ∧ ∀ q ∈ L, free q.base) ∨ ∃ q, o = .threw q ∧ vx_T XC st q t mc ms free
/-- a callee that returns or throws -/
def vx_Met (l : Launch) (y : MethodName) (ws : List Cond) (rm : Room) (Pc : Array Value → State → Prop) (Qc : Array Value → State → Outcome → State → Prop) (XC : String → State → State → Prop) (mc ms : Nat) (free : Addr → Prop) : Prop :=
  MetFree l y (headSpec ws rm) Pc (fun _ _ _ _ _ => True) (vx_Q Qc XC mc ms free)
def vx_Post (XC : String → State → State → Prop) (mc ms : Nat) (free : Addr → Prop) : Pt → Array Value → Addr → Pt → Prop := fun A a q B =>
  ∃ (g : JFrame) (mk : MethodId) (t : State) (L : List Loc) (E : String) (ce : Cell), B.U.heap = t.heap ∧ B.U.vm = t.vm ∧ XC E (A.U.calling g mk a) t ∧ t.heap[q]? = some ce ∧ ce.vm = .none ∧ A.U.vm.findClass E = some ce.cls ∧ B.locs = A.locs ++ L ∧ (∀ z ∈ L, free z.base) ∧ B.cells = A.cells + mc ∧ B.slots = A.slots + ms
def vx_Back (l : Launch) (R : Room) (p : Program) (e : Env) (below : List Frame) (s : State) (sargs : Array Value) (y : MethodName) (len W9 : Nat)
    (Pre : Pt → Array Value → Prop) (Post : Pt → Array Value → Option Value → Pt → Prop) (PostX : Pt → Array Value → Addr → Pt → Prop) : Prop :=
  ∀ (m : MethodId) (meth : Method) (c : Code) (A : Pt) (g : JFrame) (ig : Instr) (mk : MethodId) (a : Array Value),
    Stand p l e R s m sargs below meth c A.U A.locs A.cells A.slots → g.method = m → g.locals.size = c.maxLocals → decode c.code g.pc = .ok (ig, len) →
    2 * g.monitorRoom + (g.stack.map fun v => v.category).sum ≤ W9 → A.U.methodNamed? y = some mk → Pre A a →
    (∃ (v : Option Value) (B : Pt), Stand p l e R s m sargs below meth c B.U B.locs B.cells B.slots ∧ Post A a v B ∧
      Steps p.tables e below (doInvoke e (A.U.setTop g) [] mk a).1 (B.U.setTop { g with pc := g.pc + len, stack := v.toList ++ g.stack })) ∨
    (∃ (q : Addr) (B : Pt), Stand p l e R s m sargs below meth c B.U B.locs B.cells B.slots ∧ PostX A a q B ∧
      Steps p.tables e below (doInvoke e (A.U.setTop g) [] mk a).1 ((B.U.setTop g).pushFrame (.throwing q)))
section Payer
variable {l : Launch} {R : Room} {p : Program} {e : Env} {below : List Frame} {s : State} {sargs : Array Value} {y : MethodName} {len W9 : Nat}
theorem vx_back {ws : List Cond} {rm : Room} {Pc : Array Value → State → Prop} {Qc : Array Value → State → Outcome → State → Prop} {XC : String → State → State → Prop} {mc ms : Nat} {free : Addr → Prop} {bytes : ByteArray} {maxL : Nat} {ret : Option FieldType}
    (hM : vx_Met l y ws rm Pc Qc XC mc ms free) (hblind : FrameBlind Pc) (hrc : rm.cells = mc) (hrs : rm.slots = ms)
    (hframes : rm.frames + 1 ≤ R.frames) (hlocals : W9 + (maxL + 11) + rm.locals ≤ R.locals)
    (hws : ∀ w ∈ ws, ∀ a' U, s.WarmedH U.vm → w.before a' U = true) (hcode : Cond.code y bytes maxL ret ∈ ws) (hinit : ∀ a' U, s.WarmedH U.vm → (Cond.initialized y.cls).before a' U = true) :
    vx_Back l R p e below s sargs y len W9 (PreOf R mc ms Pc) (PostOf Qc mc ms free) (vx_Post XC mc ms free) := by
  intro m meth c A g ig mk a X hg hsize hdg hW hn hp
  have h1 : (headSpec ws rm).pre.before a A.U = true := atoms_intro fun w hw => hws w hw _ _ X.warmed
  have h2 : (Cond.code y bytes maxL ret).before a A.U = true := hws _ hcode _ _ X.warmed
  have h3 : (Cond.initialized y.cls).before a A.U = true := hinit _ _ X.warmed
  have h4 : A.cells + (headSpec ws rm).room.cells ≤ R.cells := by rw [show (headSpec ws rm).room.cells = mc from hrc]; exact hp.1
  have h5 : A.slots + (headSpec ws rm).room.slots ≤ R.slots := by rw [show (headSpec ws rm).room.slots = ms from hrs]; exact hp.2.1
  have hPc : Pc a (A.U.calling g mk a) := hblind _ _ _ _ hp.2.2
  obtain ⟨U, Ls, c0, s0⟩ := A
  dsimp only [Pt.U, Pt.locs, Pt.cells, Pt.slots] at h1 h2 h3 h4 h5 X hn hPc ⊢
  obtain ⟨methY, cY, hmY, hcY, -, hlY, -, -, -, -⟩ := Cond.code_spec hn h2
  obtain ⟨kY, hkY, -⟩ := className_of_methodNamed hn
  have hinitY : kY.init = .initialized := Cond.initialized_spec (findClass_of_methodNamed hn) hkY h3
  have h : At U g.method c below := by rw [hg]; exact X.here
  have hlocals9 : W9 + (maxL + 11) + (headSpec ws rm).room.locals ≤ R.locals := hlocals
  have happ : (headSpec ws rm).appliesLoose y e.platform (U.calling g mk a) = true :=
    Spec.appliesLoose_calling (g := g) h hdg hn hkY hinitY
      (X.room_calling (g := g) (R' := (headSpec ws rm).room) hsize hmY hcY hframes (by rw [hlY]; omega) h4 h5) h1
  obtain ⟨mid, hmid⟩ := h.above
  have hfr : (U.setTop g).frames = (.java g :: mid) ++ below := by rw [State.frames_setTop' g h.top, hmid]; rfl
  obtain ⟨o, s₂, hsteps, -, hend, hq⟩ := Steps.callFree hM p X.admits X.cas X.clock (acts := []) hfr happ hPc trivial
  have hq' : vx_Q Qc XC mc ms free a (U.calling g mk a) o s₂ := hq
  rw [State.frames_setTop' g h.top] at hend
  obtain ⟨g₀, hg0⟩ := Option.isSome_iff_exists.mp h.top
  obtain ⟨r, hr⟩ := State.topJava?_eq_some.mp hg0
  have hr' : (({ U with heap := s₂.heap, slotsUsed := s₂.slotsUsed } : State).setVm s₂.vm).frames = .java g₀ :: r := hr
  rcases hq' with ⟨hqc, L, hfe, hL⟩ | ⟨q, rfl, E, ce, L, hx, hce, hcv, hcl, hW₂, hsm, hL⟩
  · obtain ⟨⟨v, rfl⟩, hW₂, e2, q2, q3, q4, q5, q6⟩ := id hfe
    have e3 : s₂ = ({ (U.calling g mk a).setFrames s₂.frames with heap := s₂.heap, slotsUsed := s₂.slotsUsed } : State).setVm s₂.vm := by
      have : s₂ = ({ s₂ with vm := (U.calling g mk a).vm } : State).setVm s₂.vm := rfl
      rw [e2] at this
      exact this
    obtain ⟨c₂, i₂, len₂, hc₂, hd₂, hf₂⟩ := hend
    have hW' : U.WarmedH s₂.vm := hW₂
    have hcc : c₂ = c := by
      have h1 : s₂.code? g.method = U.code? g.method := by
        rw [State.code?_eq, State.code?_eq, hW'.alike.method?]
      exact Option.some.inj (hc₂.symm.trans (h1.trans h.code))
    subst hcc
    have hlen : len₂ = len := by rw [hdg] at hd₂; cases hd₂; rfl
    subst hlen
    have hs₂ : s₂ = (({ U with heap := s₂.heap, slotsUsed := s₂.slotsUsed } : State).setVm s₂.vm).setTop { g with pc := g.pc + len₂, stack := v.toList ++ g.stack } := by
      refine e3.trans ?_
      rw [hf₂, State.calling_eq h.top, State.setFrames_setFrames, State.setTop_of_frames _ hr', hr]
      rfl
    have hsame : U.sameButNew ({ U with heap := s₂.heap, slotsUsed := s₂.slotsUsed } : State) L mc ms := by
      refine ⟨?_, q2, q3, q4, q5, q6⟩
      obtain ⟨t, ht, -⟩ := State.frames_cons hr
      show ({ U with heap := s₂.heap, slotsUsed := s₂.slotsUsed } : State) = { U.setFrames U.frames with heap := s₂.heap, slotsUsed := s₂.slotsUsed }
      rw [State.setFrames_self ht]
    subst hg
    refine Or.inl ⟨v, ⟨(({ U with heap := s₂.heap, slotsUsed := s₂.slotsUsed } : State).setVm s₂.vm), Ls ++ L, c0 + mc, s0 + ms⟩,
      ⟨X.admits, X.cas, X.clock, X.frames, X.room, X.hears, X.method, X.code, (X.here.setHeapUsed s₂.heap s₂.slotsUsed).setVm hW'.alike, X.tail, State.WarmedH.trans X.warmed hW', X.limits, X.bytes, X.same.trans (hsame.setVm s.vm)⟩,
      ⟨g, mk, s₂, L, rfl, rfl, hqc, rfl, hL, rfl, rfl⟩, ?_⟩
    show Steps p.tables e below _ ((({ U with heap := s₂.heap, slotsUsed := s₂.slotsUsed } : State).setVm s₂.vm).setTop { g with pc := g.pc + len₂, stack := v.toList ++ g.stack })
    rw [← hs₂]
    exact hsteps
  · obtain ⟨e2, q2, q3, q4, q5, q6⟩ := id hsm
    have e3 : s₂ = ({ (U.calling g mk a).setFrames s₂.frames with heap := s₂.heap, slotsUsed := s₂.slotsUsed } : State).setVm s₂.vm := by
      have : s₂ = ({ s₂ with vm := (U.calling g mk a).vm } : State).setVm s₂.vm := rfl
      rw [e2] at this
      exact this
    have hf₂ : s₂.frames = .throwing q :: .java g :: U.frames.tail := hend
    have hW' : U.WarmedH s₂.vm := hW₂
    have hs₂ : s₂ = ((({ U with heap := s₂.heap, slotsUsed := s₂.slotsUsed } : State).setVm s₂.vm).setTop g).pushFrame (.throwing q) := by
      refine e3.trans ?_
      rw [hf₂, State.calling_eq h.top, State.setFrames_setFrames, State.pushFrame, State.frames_setTop _ hr', State.setTop_of_frames _ hr', State.setFrames_setFrames, hr]
      rfl
    have hsame : U.sameButNew ({ U with heap := s₂.heap, slotsUsed := s₂.slotsUsed } : State) L mc ms := by
      refine ⟨?_, q2, q3, q4, q5, q6⟩
      obtain ⟨t, ht, -⟩ := State.frames_cons hr
      show ({ U with heap := s₂.heap, slotsUsed := s₂.slotsUsed } : State) = { U.setFrames U.frames with heap := s₂.heap, slotsUsed := s₂.slotsUsed }
      rw [State.setFrames_self ht]
    subst hg
    refine Or.inr ⟨q, ⟨(({ U with heap := s₂.heap, slotsUsed := s₂.slotsUsed } : State).setVm s₂.vm), Ls ++ L, c0 + mc, s0 + ms⟩,
      ⟨X.admits, X.cas, X.clock, X.frames, X.room, X.hears, X.method, X.code, (X.here.setHeapUsed s₂.heap s₂.slotsUsed).setVm hW'.alike, X.tail, State.WarmedH.trans X.warmed hW', X.limits, X.bytes, X.same.trans (hsame.setVm s.vm)⟩,
      ⟨g, mk, s₂, L, E, ce, rfl, rfl, hx, hce, hcv, hcl, rfl, hL, rfl, rfl⟩, ?_⟩
    show Steps p.tables e below _ (((({ U with heap := s₂.heap, slotsUsed := s₂.slotsUsed } : State).setVm s₂.vm).setTop g).pushFrame (.throwing q))
    rw [← hs₂]
    exact hsteps
end Payer
section Calls
variable {p : Program} {l : Launch} {e : Env} {R : Room} {s : State} {m : MethodId} {args : Array Value} {below : List Frame} {meth : Method} {c : Code} {T : State} {locs : List Loc} {cells slots : Nat}
theorem vx_callV (X : Stand p l e R s m args below meth c T locs cells slots) (hexec : p.tables.exec = Jvm.exec) {own C : String} {index : Nat} {y : MethodName} {bytes : ByteArray} {maxL : Nat} {ret : Option FieldType}
    (hown : s.vm.findClass own = some m.cls) (hlink : (Cond.methodLink own index y).before args s = true) (hinst : (Cond.instanceMethod y).before args s = true) (hsel : (Cond.selects C y y).before args s = true)
    (hcode : (Cond.code y bytes maxL ret).before args s = true) (hy : y.cls ≠ "java/lang/invoke/MethodHandle" ∧ y.cls ≠ "java/lang/invoke/VarHandle")
    {W9 : Nat} {Pre : Pt → Array Value → Prop} {Post : Pt → Array Value → Option Value → Pt → Prop} {PostX : Pt → Array Value → Addr → Pt → Prop} (hK : vx_Back l R p e below s args y 3 W9 Pre Post PostX)
    {b : Addr} {cellB : Cell} (hcell : T.heap[b]? = some cellB) (hobj : cellB.vm.isStatics = false) (hcls : s.vm.findClass C = some cellB.cls)
    {g : JFrame} (hg : g.method = m) (hsize : g.locals.size = c.maxLocals) {argsL rest : List Value} (hlen : ∀ sig, parseMethodDescriptor y.desc = some sig → argsL.length = sig.parameters.length)
    (hstack : g.stack = argsL.reverse ++ .ref b :: rest) (hW : 2 * g.monitorRoom + (rest.map fun v => v.category).sum ≤ W9) (hdg : decode c.code g.pc = .ok (.invokevirtual index, 3))
    (hpre : ∀ vm₁, s.WarmedH vm₁ → Pre ⟨T.setVm vm₁, locs, cells, slots⟩ (Value.ref b :: argsL).toArray) :
    (∃ (v : Option Value) (vm₁ : Vm) (B : Pt), s.WarmedH vm₁ ∧ Stand p l e R s m args below meth c B.U B.locs B.cells B.slots ∧ Post ⟨T.setVm vm₁, locs, cells, slots⟩ (Value.ref b :: argsL).toArray v B ∧
      ∀ target, Steps p.tables e below (B.U.setTop { g with pc := g.pc + 3, stack := v.toList ++ rest }) target → Steps p.tables e below (T.setTop g) target) ∨
    (∃ (q : Addr) (vm₁ : Vm) (B : Pt), s.WarmedH vm₁ ∧ Stand p l e R s m args below meth c B.U B.locs B.cells B.slots ∧ PostX ⟨T.setVm vm₁, locs, cells, slots⟩ (Value.ref b :: argsL).toArray q B ∧
      Steps p.tables e below (T.setTop g) ((B.U.setTop { g with stack := rest }).pushFrame (.throwing q))) := by
  obtain ⟨mk, methM, hnamed, hmethM, hstM, habM⟩ := Cond.instanceMethod_spec hinst
  obtain ⟨methM', cM, hmethM', -, -, -, -, -, -, hsigM⟩ := Cond.code_spec hnamed hcode
  cases hmethM.symm.trans hmethM'
  obtain ⟨c2, r2, m2, q1, q2, q3, q4, kP, hkP, hkPi⟩ := Cond.selects_spec hsel
  cases hcls.symm.trans q1
  cases (State.methodFound?_of_named hnamed hy).symm.trans q2
  cases hnamed.symm.trans q3
  have hselP : selectMethod e.platform s.vm cellB.cls mk = .method mk := by rw [Launch.admits_selectMethod X.admits]; exact q4
  obtain ⟨vm₁, X₁, hstep₁⟩ := X.invokevirtual hexec hown hlink hnamed hmethM hstM hkP hkPi hy (a := b) (cell := cellB) hcell
    (fun z h => by rw [h] at hobj; cases hobj) hselP hmethM habM hkP hkPi (g := g) hg (argsL := argsL) (rest := rest) (hlen _ hsigM) hstack hdg
  rcases hK m meth c ⟨T.setVm vm₁, locs, cells, slots⟩ { g with stack := rest } (.invokevirtual index) mk (Value.ref b :: argsL).toArray X₁ hg hsize hdg hW (X₁.named hnamed) (hpre vm₁ X₁.warmed) with ⟨v, B, X', hpost, hsteps⟩ | ⟨q, B, X', hpost, hsteps⟩
  · exact Or.inl ⟨v, vm₁, B, X₁.warmed, X', hpost, fun target h => hstep₁ _ fun acts => by rw [doInvoke_state]; exact hsteps.trans h⟩
  · exact Or.inr ⟨q, vm₁, B, X₁.warmed, X', hpost, hstep₁ _ fun acts => by rw [doInvoke_state]; exact hsteps⟩
theorem vx_callS (X : Stand p l e R s m args below meth c T locs cells slots) (hexec : p.tables.exec = Jvm.exec) {own : String} {index : Nat} {y : MethodName} {bytes : ByteArray} {maxL : Nat} {ret : Option FieldType}
    (hown : s.vm.findClass own = some m.cls) (hlink : (Cond.methodLink own index y).before args s = true) (hstat : (Cond.static y).before args s = true) (hinit : (Cond.initialized y.cls).before args s = true)
    (hcode : (Cond.code y bytes maxL ret).before args s = true) (hy : y.cls ≠ "java/lang/invoke/MethodHandle" ∧ y.cls ≠ "java/lang/invoke/VarHandle")
    {W9 : Nat} {Pre : Pt → Array Value → Prop} {Post : Pt → Array Value → Option Value → Pt → Prop} {PostX : Pt → Array Value → Addr → Pt → Prop} (hK : vx_Back l R p e below s args y 3 W9 Pre Post PostX)
    {g : JFrame} (hg : g.method = m) (hsize : g.locals.size = c.maxLocals) {argsL rest : List Value} (hlen : ∀ sig, parseMethodDescriptor y.desc = some sig → argsL.length = sig.parameters.length)
    (hstack : g.stack = argsL.reverse ++ rest) (hW : 2 * g.monitorRoom + (rest.map fun v => v.category).sum ≤ W9) (hdg : decode c.code g.pc = .ok (.invokestatic index, 3))
    (hpre : ∀ vm₁, s.WarmedH vm₁ → Pre ⟨T.setVm vm₁, locs, cells, slots⟩ argsL.toArray) :
    (∃ (v : Option Value) (vm₁ : Vm) (B : Pt), s.WarmedH vm₁ ∧ Stand p l e R s m args below meth c B.U B.locs B.cells B.slots ∧ Post ⟨T.setVm vm₁, locs, cells, slots⟩ argsL.toArray v B ∧
      ∀ target, Steps p.tables e below (B.U.setTop { g with pc := g.pc + 3, stack := v.toList ++ rest }) target → Steps p.tables e below (T.setTop g) target) ∨
    (∃ (q : Addr) (vm₁ : Vm) (B : Pt), s.WarmedH vm₁ ∧ Stand p l e R s m args below meth c B.U B.locs B.cells B.slots ∧ PostX ⟨T.setVm vm₁, locs, cells, slots⟩ argsL.toArray q B ∧
      Steps p.tables e below (T.setTop g) ((B.U.setTop { g with stack := rest }).pushFrame (.throwing q))) := by
  obtain ⟨mk, hnamed⟩ := Cond.code_named hcode
  obtain ⟨methM, cM, hmethM, -, -, -, -, -, -, hsigM⟩ := Cond.code_spec hnamed hcode
  have hstatic : methM.isStatic = true := Cond.static_spec hnamed hmethM hstat
  obtain ⟨kP, hkP, -⟩ := className_of_methodNamed hnamed
  have hinitP : kP.init = .initialized := Cond.initialized_spec (findClass_of_methodNamed hnamed) hkP hinit
  obtain ⟨vm₁, X₁, hstep₁⟩ := X.invokestatic hexec hown hlink hnamed hmethM hstatic hkP hinitP hy (g := g) hg (argsL := argsL) (rest := rest) (hlen _ hsigM) hstack hdg
  rcases hK m meth c ⟨T.setVm vm₁, locs, cells, slots⟩ { g with stack := rest } (.invokestatic index) mk argsL.toArray X₁ hg hsize hdg hW (X₁.named hnamed) (hpre vm₁ X₁.warmed) with ⟨v, B, X', hpost, hsteps⟩ | ⟨q, B, X', hpost, hsteps⟩
  · exact Or.inl ⟨v, vm₁, B, X₁.warmed, X', hpost, fun target h => hstep₁ _ fun acts => by rw [doInvoke_state]; exact hsteps.trans h⟩
  · exact Or.inr ⟨q, vm₁, B, X₁.warmed, X', hpost, hstep₁ _ fun acts => by rw [doInvoke_state]; exact hsteps⟩
end Calls
theorem vx_cls {s : State} {T : State} {vm₁ : Vm} {E : String} {k : ClassId} (hW : s.WarmedH vm₁) (h : (T.setVm vm₁).vm.findClass E = some k) : s.vm.findClass E = some k := by
  have h1 : vm₁.findClass E = some k := h
  rw [hW.alike.findClass] at h1
  exact h1
/-- the method's frame g, with q thrown over it -/
def vx_W (p : Program) (l : Launch) (e : Env) (R : Room) (s : State) (m : MethodId) (args : Array Value) (below : List Frame) (meth : Method) (c : Code) (H : Heap) (locs : List Loc) (cells slots : Nat) (Q : State → Prop) (g : JFrame) (q : Addr) : Prop :=
  ∀ T : State, T.heap = H → Stand p l e R s m args below meth c T locs cells slots → ∃ t, Steps p.tables e below ((T.setTop g).pushFrame (.throwing q)) t ∧ Q t
def vx_Run (p : Program) (l : Launch) (e : Env) (R : Room) (s : State) (m : MethodId) (args : Array Value) (below : List Frame) (meth : Method) (c : Code) (H : Heap) (locs : List Loc) (cells slots mc ms : Nat) (g : JFrame) (rest : List Value) (Qa : State → Outcome → State → Prop) (XC : String → State → State → Prop) (free : Addr → Prop) : Prop :=
  ∀ T : State, T.heap = H → Stand p l e R s m args below meth c T locs cells slots →
    (∃ (v : Option Value) (st₀ t T' : State) (L : List Loc), st₀.heap = H ∧ Stand p l e R s m args below meth c T' (locs ++ L) (cells + mc) (slots + ms) ∧ (∀ q ∈ L, free q.base) ∧ T'.heap = t.heap ∧ T'.vm = t.vm ∧ Qa st₀ (.returned v) t ∧
      Goes p e below T g T' { g with pc := g.pc + 3, stack := v.toList ++ rest }) ∨
    (∃ (q : Addr) (st₀ t T' : State) (L : List Loc) (E : String) (ce : Cell), st₀.heap = H ∧ Stand p l e R s m args below meth c T' (locs ++ L) (cells + mc) (slots + ms) ∧ (∀ z ∈ L, free z.base) ∧ T'.heap = t.heap ∧ T'.vm = t.vm ∧ XC E st₀ t ∧ t.heap[q]? = some ce ∧ ce.vm = .none ∧ s.vm.findClass E = some ce.cls ∧
      Steps p.tables e below (T.setTop g) ((T'.setTop { g with stack := rest }).pushFrame (.throwing q)))
def vx_X {S : Type} (px : S → Prop) (B : String → S → State → Prop) (A : Nat → Prop) : String → State → State → Prop := fun E st t => ∃ u : S, px u ∧ B E u t ∧ va_F A st t
section Runs
variable {p : Program} {l : Launch} {e : Env} {R : Room} {s : State} {m : MethodId} {args : Array Value} {below : List Frame} {meth : Method} {c : Code} {H : Heap} {locs : List Loc} {cells slots : Nat}
variable {y : MethodName} {bytes cc : ByteArray} {maxL nL mc ms n index : Nat} {ret : Option FieldType} {ws : List Cond} {rm : Room} {Pc : Array Value → State → Prop} {Qc : Array Value → State → Outcome → State → Prop} {XC : String → State → State → Prop} {free : Addr → Prop} {Ts : List Cond} {own C : String} {b : Addr} {As rest : List Value} {g : JFrame}
theorem vx_callBack (cb : CallB R s args own index y bytes maxL ret ws rm mc ms n) (hM : vx_Met l y ws rm Pc Qc XC mc ms free) (hbl : FrameBlind Pc) : vx_Back l R p e below s args y 3 8 (PreOf R mc ms Pc) (PostOf Qc mc ms free) (vx_Post XC mc ms free) := by
  obtain ⟨hrc, hrs, hfr, hlo, hws, hcw, -, hini, -⟩ := cb
  exact vx_back (bytes := bytes) (maxL := maxL) (ret := ret) hM hbl hrc hrs hfr hlo hws hcw (fun a' U hW => word_at hW (Or.inl (by first | rfl | simp [Cond.onTables, Cond.keeps, Cond.steady])) hini)
theorem vx_runV (S : CallFix p m c cc nL s args Ts own) (hM : vx_Met l y ws rm Pc Qc XC mc ms free) (cw : CallW R s args own C index y bytes maxL ret ws rm mc ms n) (hp : PreV s H C b Pc As)
    (hg : g.method = m) (hn : As.length = n) (hsize : g.locals.size = nL) (hstack : g.stack = As.reverse ++ .ref b :: rest) (hW : 2 * g.monitorRoom + (rest.map fun v => v.category).sum ≤ 8) (hdg : decode cc g.pc = .ok (.invokevirtual index, 3)) (hf : cells + mc ≤ R.cells ∧ slots + ms ≤ R.slots) :
    vx_Run p l e R s m args below meth c H locs cells slots mc ms g rest (Qc (Value.ref b :: As).toArray) XC free := by
  have hK : vx_Back l R p e below s args y 3 8 (PreOf R mc ms Pc) (PostOf Qc mc ms free) (vx_Post XC mc ms free) := vx_callBack cw.1 hM hp.1
  obtain ⟨⟨-, -, -, -, -, -, hcode, -, hy, hlen, hl⟩, hin, hse⟩ := cw
  obtain ⟨hx, hb, hml, ho, -⟩ := S
  obtain ⟨-, ⟨cellB, hcB, hoB, hclB⟩, hPc⟩ := hp
  intro T hT X
  rcases vx_callV X hx (C := C) (bytes := bytes) (maxL := maxL) (ret := ret) ho hl hin hse hcode hy hK (by rw [hT]; exact hcB) hoB hclB hg (hsize.trans hml.symm) (argsL := As) (rest := rest) (fun sig h => hn.trans (hlen sig h)) hstack hW (by rw [hb]; exact hdg)
    (fun vm₁ hW₁ => ⟨hf.1, hf.2, hPc (T.setVm vm₁) hT hW₁⟩) with ⟨v, vm₁, ⟨U', l2, c2, s2⟩, hW₁, X', ⟨g', mk, t, L, e1, e2, hq, h1, hL, h2, h3⟩, st⟩ | ⟨q, vm₁, ⟨U', l2, c2, s2⟩, hW₁, X', ⟨g', mk, t, L, E, ce, e1, e2, hq, hce, hcv, hcl, h1, hL, h2, h3⟩, st⟩
  · dsimp only [Pt.U, Pt.locs, Pt.cells, Pt.slots] at X' e1 e2 h1 h2 h3 st
    subst h1; subst h2; subst h3
    exact Or.inl ⟨v, (T.setVm vm₁).calling g' mk (Value.ref b :: As).toArray, t, U', L, hT, X', hL, e1, e2, hq, st⟩
  · dsimp only [Pt.U, Pt.locs, Pt.cells, Pt.slots] at X' e1 e2 h1 h2 h3 st hcl
    subst h1; subst h2; subst h3
    exact Or.inr ⟨q, (T.setVm vm₁).calling g' mk (Value.ref b :: As).toArray, t, U', L, E, ce, hT, X', hL, e1, e2, hq, hce, hcv, vx_cls hW₁ hcl, st⟩
theorem vx_runS (S : CallFix p m c cc nL s args Ts own) (hM : vx_Met l y ws rm Pc Qc XC mc ms free) (cw : CallB R s args own index y bytes maxL ret ws rm mc ms n ∧ (Cond.static y).before args s = true) (hp : PreS s H Pc As)
    (hg : g.method = m) (hn : As.length = n) (hsize : g.locals.size = nL) (hstack : g.stack = As.reverse ++ rest) (hW : 2 * g.monitorRoom + (rest.map fun v => v.category).sum ≤ 8) (hdg : decode cc g.pc = .ok (.invokestatic index, 3)) (hf : cells + mc ≤ R.cells ∧ slots + ms ≤ R.slots) :
    vx_Run p l e R s m args below meth c H locs cells slots mc ms g rest (Qc As.toArray) XC free := by
  have hK : vx_Back l R p e below s args y 3 8 (PreOf R mc ms Pc) (PostOf Qc mc ms free) (vx_Post XC mc ms free) := vx_callBack cw.1 hM hp.1
  obtain ⟨⟨-, -, -, -, -, -, hcode, hini, hy, hlen, hl⟩, hstt⟩ := cw
  obtain ⟨hx, hb, hml, ho, -⟩ := S
  intro T hT X
  rcases vx_callS X hx (bytes := bytes) (maxL := maxL) (ret := ret) ho hl hstt hini hcode hy hK hg (hsize.trans hml.symm) (argsL := As) (rest := rest) (fun sig h => hn.trans (hlen sig h)) hstack hW (by rw [hb]; exact hdg)
    (fun vm₁ hW₁ => ⟨hf.1, hf.2, hp.2 (T.setVm vm₁) hT hW₁⟩) with ⟨v, vm₁, ⟨U', l2, c2, s2⟩, hW₁, X', ⟨g', mk, t, L, e1, e2, hq, h1, hL, h2, h3⟩, st⟩ | ⟨q, vm₁, ⟨U', l2, c2, s2⟩, hW₁, X', ⟨g', mk, t, L, E, ce, e1, e2, hq, hce, hcv, hcl, h1, hL, h2, h3⟩, st⟩
  · dsimp only [Pt.U, Pt.locs, Pt.cells, Pt.slots] at X' e1 e2 h1 h2 h3 st
    subst h1; subst h2; subst h3
    exact Or.inl ⟨v, (T.setVm vm₁).calling g' mk As.toArray, t, U', L, hT, X', hL, e1, e2, hq, st⟩
  · dsimp only [Pt.U, Pt.locs, Pt.cells, Pt.slots] at X' e1 e2 h1 h2 h3 st hcl
    subst h1; subst h2; subst h3
    exact Or.inr ⟨q, (T.setVm vm₁).calling g' mk As.toArray, t, U', L, E, ce, hT, X', hL, e1, e2, hq, hce, hcv, vx_cls hW₁ hcl, st⟩
end Runs
section Rows
variable {p : Program} {l : Launch} {e : Env} {R : Room} {s : State} {m : MethodId} {args : Array Value} {below : List Frame} {meth : Method} {c : Code} {H : Heap} {locs : List Loc} {cells slots : Nat} {Q : State → Prop}
variable {mc ms : Nat} {free : Addr → Prop} {A0 A1 : Nat → Prop} {H0 : Heap} {a : Array Value} {pc : Nat} {ls : Array Slot} {st0 rest : List Value}
theorem vx_keep {st₀ t T' : State} {L : List Loc} (h0 : st₀.heap = H) (e1 : T'.heap = t.heap) (hS : va_S A0 H0 H locs) (hA : ∀ q, q < H.size → A1 q → A0 q) (hf : ∀ q, free q → A0 q) (hL : ∀ q ∈ L, free q.base) (hF : va_F A1 st₀ t) :
    H.size ≤ T'.heap.size ∧ (∀ q : Nat, q < H.size → ¬ A1 q → T'.heap[q]? = H[q]?) ∧ va_S A0 H0 T'.heap (locs ++ L) := by
  obtain ⟨hz, hk⟩ := hF
  rw [h0] at hz hk
  exact ⟨by rw [e1]; exact hz, fun q h1 h2 => by rw [e1]; exact hk q h1 h2,
    ⟨Nat.le_trans hS.1 (by rw [e1]; exact hz), fun q h1 h2 => by rw [e1, hk q (Nat.lt_of_lt_of_le h1 hS.1) (fun z => h2 (hA q (Nat.lt_of_lt_of_le h1 hS.1) z))]; exact hS.2.1 q h1 h2, fun q hq => by
      rcases List.mem_append.mp hq with h | h
      · exact hS.2.2 q h
      · exact hf _ (hL q h)⟩⟩
theorem vx_calli {S SX : Type} {post : Int32 → S → Prop} {px : SX → Prop} {B : S → State → Prop} {BX : String → SX → State → Prop} {AX : Nat → Prop} (hr : vx_Run p l e R s m args below meth c H locs cells slots mc ms (F0 m pc ls st0) rest (va_Qi post B A1 a) (vx_X px BX AX) free) (hS : va_S A0 H0 H locs) (hA : ∀ q, q < H.size → A1 q → A0 q) (hf : ∀ q, free q → A0 q) (hAX : ∀ q, q < H.size → AX q → A0 q)
    (kx : ∀ (E : String) (ce : Cell) (q9 : Addr) (u : SX) (t : State) (H1 : Heap) (locs1 : List Loc), t.heap = H1 → s.vm.Alike t.vm → px u → BX E u t → H.size ≤ H1.size → (∀ q : Nat, q < H.size → ¬ AX q → H1[q]? = H[q]?) → va_S A0 H0 H1 locs1 → H1[q9]? = some ce → ce.vm = .none → s.vm.findClass E = some ce.cls → vx_W p l e R s m args below meth c H1 locs1 (cells + mc) (slots + ms) Q (F0 m pc ls rest) q9)
    (kk : ∀ (r : Int32) (u : S) (t : State) (H1 : Heap) (locs1 : List Loc), t.heap = H1 → s.vm.Alike t.vm → post r u → B u t → H.size ≤ H1.size → (∀ q : Nat, q < H.size → ¬ A1 q → H1[q]? = H[q]?) → va_S A0 H0 H1 locs1 → W p l e R s m args below meth c H1 locs1 (cells + mc) (slots + ms) Q (F0 m (pc + 3) ls (.int r :: rest))) : W p l e R s m args below meth c H locs cells slots Q (F0 m pc ls st0) := by
  intro T hT X
  rcases hr T hT X with ⟨v, st₀, t, T', L, h0, X', hL, e1, e2, ⟨⟨r, u, hv, hp, hb⟩, hF⟩, st⟩ | ⟨q, st₀, t, T', L, E, ce, h0, X', hL, e1, e2, ⟨u, hp, hb, hF⟩, hce, hcv, hcl, st⟩
  · cases hv
    obtain ⟨k1, k2, k3⟩ := vx_keep h0 e1 hS hA hf hL hF
    obtain ⟨t2, a1, b1⟩ := kk r u t T'.heap (locs ++ L) e1.symm (by rw [← e2]; exact X'.warmed.alike) hp hb k1 k2 k3 T' rfl X'
    exact ⟨t2, st t2 a1, b1⟩
  · obtain ⟨k1, k2, k3⟩ := vx_keep h0 e1 hS hAX hf hL hF
    obtain ⟨t2, a1, b1⟩ := kx E ce q u t T'.heap (locs ++ L) e1.symm (by rw [← e2]; exact X'.warmed.alike) hp hb k1 k2 k3 (by rw [e1]; exact hce) hcv hcl T' rfl X'
    exact ⟨t2, st.trans a1, b1⟩
theorem vx_calll {S SX : Type} {post : Int64 → S → Prop} {px : SX → Prop} {B : S → State → Prop} {BX : String → SX → State → Prop} {AX : Nat → Prop} (hr : vx_Run p l e R s m args below meth c H locs cells slots mc ms (F0 m pc ls st0) rest (va_Ql post B A1 a) (vx_X px BX AX) free) (hS : va_S A0 H0 H locs) (hA : ∀ q, q < H.size → A1 q → A0 q) (hf : ∀ q, free q → A0 q) (hAX : ∀ q, q < H.size → AX q → A0 q)
    (kx : ∀ (E : String) (ce : Cell) (q9 : Addr) (u : SX) (t : State) (H1 : Heap) (locs1 : List Loc), t.heap = H1 → s.vm.Alike t.vm → px u → BX E u t → H.size ≤ H1.size → (∀ q : Nat, q < H.size → ¬ AX q → H1[q]? = H[q]?) → va_S A0 H0 H1 locs1 → H1[q9]? = some ce → ce.vm = .none → s.vm.findClass E = some ce.cls → vx_W p l e R s m args below meth c H1 locs1 (cells + mc) (slots + ms) Q (F0 m pc ls rest) q9)
    (kk : ∀ (r : Int64) (u : S) (t : State) (H1 : Heap) (locs1 : List Loc), t.heap = H1 → s.vm.Alike t.vm → post r u → B u t → H.size ≤ H1.size → (∀ q : Nat, q < H.size → ¬ A1 q → H1[q]? = H[q]?) → va_S A0 H0 H1 locs1 → W p l e R s m args below meth c H1 locs1 (cells + mc) (slots + ms) Q (F0 m (pc + 3) ls (.long r :: rest))) : W p l e R s m args below meth c H locs cells slots Q (F0 m pc ls st0) := by
  intro T hT X
  rcases hr T hT X with ⟨v, st₀, t, T', L, h0, X', hL, e1, e2, ⟨⟨r, u, hv, hp, hb⟩, hF⟩, st⟩ | ⟨q, st₀, t, T', L, E, ce, h0, X', hL, e1, e2, ⟨u, hp, hb, hF⟩, hce, hcv, hcl, st⟩
  · cases hv
    obtain ⟨k1, k2, k3⟩ := vx_keep h0 e1 hS hA hf hL hF
    obtain ⟨t2, a1, b1⟩ := kk r u t T'.heap (locs ++ L) e1.symm (by rw [← e2]; exact X'.warmed.alike) hp hb k1 k2 k3 T' rfl X'
    exact ⟨t2, st t2 a1, b1⟩
  · obtain ⟨k1, k2, k3⟩ := vx_keep h0 e1 hS hAX hf hL hF
    obtain ⟨t2, a1, b1⟩ := kx E ce q u t T'.heap (locs ++ L) e1.symm (by rw [← e2]; exact X'.warmed.alike) hp hb k1 k2 k3 (by rw [e1]; exact hce) hcv hcl T' rfl X'
    exact ⟨t2, st.trans a1, b1⟩
theorem vx_callf {S SX : Type} {post : UInt32 → S → Prop} {px : SX → Prop} {B : S → State → Prop} {BX : String → SX → State → Prop} {AX : Nat → Prop} (hr : vx_Run p l e R s m args below meth c H locs cells slots mc ms (F0 m pc ls st0) rest (va_Qf post B A1 a) (vx_X px BX AX) free) (hS : va_S A0 H0 H locs) (hA : ∀ q, q < H.size → A1 q → A0 q) (hf : ∀ q, free q → A0 q) (hAX : ∀ q, q < H.size → AX q → A0 q)
    (kx : ∀ (E : String) (ce : Cell) (q9 : Addr) (u : SX) (t : State) (H1 : Heap) (locs1 : List Loc), t.heap = H1 → s.vm.Alike t.vm → px u → BX E u t → H.size ≤ H1.size → (∀ q : Nat, q < H.size → ¬ AX q → H1[q]? = H[q]?) → va_S A0 H0 H1 locs1 → H1[q9]? = some ce → ce.vm = .none → s.vm.findClass E = some ce.cls → vx_W p l e R s m args below meth c H1 locs1 (cells + mc) (slots + ms) Q (F0 m pc ls rest) q9)
    (kk : ∀ (r : UInt32) (u : S) (t : State) (H1 : Heap) (locs1 : List Loc), t.heap = H1 → s.vm.Alike t.vm → post r u → B u t → H.size ≤ H1.size → (∀ q : Nat, q < H.size → ¬ A1 q → H1[q]? = H[q]?) → va_S A0 H0 H1 locs1 → W p l e R s m args below meth c H1 locs1 (cells + mc) (slots + ms) Q (F0 m (pc + 3) ls (.float r :: rest))) : W p l e R s m args below meth c H locs cells slots Q (F0 m pc ls st0) := by
  intro T hT X
  rcases hr T hT X with ⟨v, st₀, t, T', L, h0, X', hL, e1, e2, ⟨⟨r, u, hv, hp, hb⟩, hF⟩, st⟩ | ⟨q, st₀, t, T', L, E, ce, h0, X', hL, e1, e2, ⟨u, hp, hb, hF⟩, hce, hcv, hcl, st⟩
  · cases hv
    obtain ⟨k1, k2, k3⟩ := vx_keep h0 e1 hS hA hf hL hF
    obtain ⟨t2, a1, b1⟩ := kk r u t T'.heap (locs ++ L) e1.symm (by rw [← e2]; exact X'.warmed.alike) hp hb k1 k2 k3 T' rfl X'
    exact ⟨t2, st t2 a1, b1⟩
  · obtain ⟨k1, k2, k3⟩ := vx_keep h0 e1 hS hAX hf hL hF
    obtain ⟨t2, a1, b1⟩ := kx E ce q u t T'.heap (locs ++ L) e1.symm (by rw [← e2]; exact X'.warmed.alike) hp hb k1 k2 k3 (by rw [e1]; exact hce) hcv hcl T' rfl X'
    exact ⟨t2, st.trans a1, b1⟩
theorem vx_calld {S SX : Type} {post : UInt64 → S → Prop} {px : SX → Prop} {B : S → State → Prop} {BX : String → SX → State → Prop} {AX : Nat → Prop} (hr : vx_Run p l e R s m args below meth c H locs cells slots mc ms (F0 m pc ls st0) rest (va_Qd post B A1 a) (vx_X px BX AX) free) (hS : va_S A0 H0 H locs) (hA : ∀ q, q < H.size → A1 q → A0 q) (hf : ∀ q, free q → A0 q) (hAX : ∀ q, q < H.size → AX q → A0 q)
    (kx : ∀ (E : String) (ce : Cell) (q9 : Addr) (u : SX) (t : State) (H1 : Heap) (locs1 : List Loc), t.heap = H1 → s.vm.Alike t.vm → px u → BX E u t → H.size ≤ H1.size → (∀ q : Nat, q < H.size → ¬ AX q → H1[q]? = H[q]?) → va_S A0 H0 H1 locs1 → H1[q9]? = some ce → ce.vm = .none → s.vm.findClass E = some ce.cls → vx_W p l e R s m args below meth c H1 locs1 (cells + mc) (slots + ms) Q (F0 m pc ls rest) q9)
    (kk : ∀ (r : UInt64) (u : S) (t : State) (H1 : Heap) (locs1 : List Loc), t.heap = H1 → s.vm.Alike t.vm → post r u → B u t → H.size ≤ H1.size → (∀ q : Nat, q < H.size → ¬ A1 q → H1[q]? = H[q]?) → va_S A0 H0 H1 locs1 → W p l e R s m args below meth c H1 locs1 (cells + mc) (slots + ms) Q (F0 m (pc + 3) ls (.double r :: rest))) : W p l e R s m args below meth c H locs cells slots Q (F0 m pc ls st0) := by
  intro T hT X
  rcases hr T hT X with ⟨v, st₀, t, T', L, h0, X', hL, e1, e2, ⟨⟨r, u, hv, hp, hb⟩, hF⟩, st⟩ | ⟨q, st₀, t, T', L, E, ce, h0, X', hL, e1, e2, ⟨u, hp, hb, hF⟩, hce, hcv, hcl, st⟩
  · cases hv
    obtain ⟨k1, k2, k3⟩ := vx_keep h0 e1 hS hA hf hL hF
    obtain ⟨t2, a1, b1⟩ := kk r u t T'.heap (locs ++ L) e1.symm (by rw [← e2]; exact X'.warmed.alike) hp hb k1 k2 k3 T' rfl X'
    exact ⟨t2, st t2 a1, b1⟩
  · obtain ⟨k1, k2, k3⟩ := vx_keep h0 e1 hS hAX hf hL hF
    obtain ⟨t2, a1, b1⟩ := kx E ce q u t T'.heap (locs ++ L) e1.symm (by rw [← e2]; exact X'.warmed.alike) hp hb k1 k2 k3 (by rw [e1]; exact hce) hcv hcl T' rfl X'
    exact ⟨t2, st.trans a1, b1⟩
theorem vx_callv {S SX : Type} {post : S → Prop} {px : SX → Prop} {B : S → State → Prop} {BX : String → SX → State → Prop} {AX : Nat → Prop} (hr : vx_Run p l e R s m args below meth c H locs cells slots mc ms (F0 m pc ls st0) rest (va_Qv post B A1 a) (vx_X px BX AX) free) (hS : va_S A0 H0 H locs) (hA : ∀ q, q < H.size → A1 q → A0 q) (hf : ∀ q, free q → A0 q) (hAX : ∀ q, q < H.size → AX q → A0 q)
    (kx : ∀ (E : String) (ce : Cell) (q9 : Addr) (u : SX) (t : State) (H1 : Heap) (locs1 : List Loc), t.heap = H1 → s.vm.Alike t.vm → px u → BX E u t → H.size ≤ H1.size → (∀ q : Nat, q < H.size → ¬ AX q → H1[q]? = H[q]?) → va_S A0 H0 H1 locs1 → H1[q9]? = some ce → ce.vm = .none → s.vm.findClass E = some ce.cls → vx_W p l e R s m args below meth c H1 locs1 (cells + mc) (slots + ms) Q (F0 m pc ls rest) q9)
    (kk : ∀ (u : S) (t : State) (H1 : Heap) (locs1 : List Loc), t.heap = H1 → s.vm.Alike t.vm → post u → B u t → H.size ≤ H1.size → (∀ q : Nat, q < H.size → ¬ A1 q → H1[q]? = H[q]?) → va_S A0 H0 H1 locs1 → W p l e R s m args below meth c H1 locs1 (cells + mc) (slots + ms) Q (F0 m (pc + 3) ls (rest))) : W p l e R s m args below meth c H locs cells slots Q (F0 m pc ls st0) := by
  intro T hT X
  rcases hr T hT X with ⟨v, st₀, t, T', L, h0, X', hL, e1, e2, ⟨⟨u, hv, hp, hb⟩, hF⟩, st⟩ | ⟨q, st₀, t, T', L, E, ce, h0, X', hL, e1, e2, ⟨u, hp, hb, hF⟩, hce, hcv, hcl, st⟩
  · cases hv
    obtain ⟨k1, k2, k3⟩ := vx_keep h0 e1 hS hA hf hL hF
    obtain ⟨t2, a1, b1⟩ := kk u t T'.heap (locs ++ L) e1.symm (by rw [← e2]; exact X'.warmed.alike) hp hb k1 k2 k3 T' rfl X'
    exact ⟨t2, st t2 a1, b1⟩
  · obtain ⟨k1, k2, k3⟩ := vx_keep h0 e1 hS hAX hf hL hF
    obtain ⟨t2, a1, b1⟩ := kx E ce q u t T'.heap (locs ++ L) e1.symm (by rw [← e2]; exact X'.warmed.alike) hp hb k1 k2 k3 (by rw [e1]; exact hce) hcv hcl T' rfl X'
    exact ⟨t2, st.trans a1, b1⟩
end Rows
section Ends
variable {p : Program} {l : Launch} {e : Env} {R : Room} {s : State} {m : MethodId} {args : Array Value} {below : List Frame} {meth : Method} {c : Code} {H : Heap} {locs : List Loc} {cells slots : Nat} {Q : State → Prop}
variable {mc ms : Nat} {free : Addr → Prop} {A0 A1 : Nat → Prop} {H0 : Heap} {a : Array Value} {ls : Array Slot} {st0 rest : List Value}
variable {Qc : Array Value → State → Outcome → State → Prop} {XC : String → State → State → Prop}
/-- what a body that may throw owes at its end -/
def vx_MQ (below : List Frame) (Qc : Array Value → State → Outcome → State → Prop) (XC : String → State → State → Prop) (a : Array Value) (s : State) (mc ms : Nat) (free : Addr → Prop) : State → Prop := fun t =>
  ∃ o, t.status = .running ∧ Ended t below o ∧ vx_Q Qc XC mc ms free a s o t
theorem vx_ret {g : JFrame} {mc ms : Nat} (k : W p l e R s m args below meth c H locs cells slots (MQ below Qc args s mc ms free) g) : W p l e R s m args below meth c H locs cells slots (vx_MQ below Qc XC args s mc ms free) g := by
  intro T hT X
  obtain ⟨t, a1, o, b1, b2, b3, b4⟩ := k T hT X
  exact ⟨t, a1, o, b1, b2, Or.inl ⟨b3, b4⟩⟩
/-- not caught here: it goes on to the caller -/
theorem vx_widen {g : JFrame} {q : Addr} {k n : Nat} (h1 : cells ≤ k) (h2 : slots ≤ n) (kk : vx_W p l e R s m args below meth c H locs k n Q g q) : vx_W p l e R s m args below meth c H locs cells slots Q g q := fun T hT X => kk T hT (stand_widen X h1 h2)
theorem vx_out {pc : Nat} {E : String} {ce : Cell} {q : Addr} {mc ms : Nat} (hout : ∀ x ∈ c.exceptionTable.toList, covers x pc = false) (hlocks : meth.locks = false) (hcell : H[q]? = some ce) (hv : ce.vm = .none) (hcl : s.vm.findClass E = some ce.cls)
    (hx : ∀ t : State, t.heap = H → s.vm.Alike t.vm → XC E s t) (hf : ∀ z ∈ locs, free z.base) (hc : cells ≤ mc) (hs : slots ≤ ms) :
    vx_W p l e R s m args below meth c H locs cells slots (vx_MQ below Qc XC args s mc ms free) (F0 m pc ls rest) q := by
  intro T hT X
  obtain ⟨st1, hrun, hend, hW, hsm⟩ := X.leaveThrown q (g := F0 m pc ls rest) rfl rfl rfl hout hlocks
  have hcell9 : (T.setFrames (.throwing q :: below)).heap[q]? = some ce := by
    show T.heap[q]? = some ce
    rw [hT]; exact hcell
  exact ⟨_, st1, .threw q, hrun, hend, Or.inr ⟨q, rfl, E, ce, locs, hx _ hT hW.alike, hcell9, hv, hcl, hW, hsm.mono hc hs, hf⟩⟩
theorem vx_frame {U : State} {k n : Nat} (h : s.sameButNew ({ U with vm := s.vm } : State) locs k n) : s.heap.size ≤ U.heap.size ∧ ∀ q : Nat, q < s.heap.size → (∀ z ∈ locs, z.base ≠ q) → U.heap[q]? = s.heap[q]? := by
  obtain ⟨-, h2, -, -, -, h6⟩ := h
  refine ⟨h2, fun q hq hz => ?_⟩
  obtain ⟨c9, e1, e2, e3, e4⟩ := h6 q _ (Array.getElem?_eq_getElem hq)
  have hs : c9.slots = (s.heap[q]).slots := Array.ext_getElem? fun i => e4 i fun hm => hz _ hm rfl
  have h9 : c9 = s.heap[q] := by
    rw [hs] at e2
    exact e2
  have e5 : U.heap[q]? = some c9 := e1
  rw [e5, h9, Array.getElem?_eq_getElem hq]
/-- the words of a throw but the four that speak of the heap -/
def vx_no (w : Cond) : Bool := decide (w ≠ .isRef (.static Bundle.tN "UNASSIGNED_STACK" Bundle.steD)) && decide (w ≠ .isRef (.static Bundle.tN "SUPPRESSED_SENTINEL" Bundle.listD)) && decide (w ≠ .laysStatic Bundle.tN "UNASSIGNED_STACK" Bundle.steD) && decide (w ≠ .laysStatic Bundle.tN "SUPPRESSED_SENTINEL" Bundle.listD)
def vx_at0 (own : String) (ic : Nat) (X : String) (names : List String) : List Cond := (Bundle.ownAtoms0 own ic X names).filter vx_no
def vx_atS (own : String) (ic : Nat) (X : String) (names : List String) : List Cond := (Bundle.ownAtoms own ic X names).filter vx_no
/-- a word that the tables alone decide, or a good one -/
def vx_ot (w : Cond) : Bool := w.onTables || goodWord w
theorem vx_ot_at {args a' : Array Value} {s U : State} {w : Cond} (hW : s.WarmedH U.vm) (hvm : s.vm = U.vm) (hg : vx_ot w = true) (h : w.before args s = true) : w.before a' U = true := by
  simp only [vx_ot, Bool.or_eq_true] at hg
  rcases hg with hg | hg
  · exact va_tabs hg hvm h
  · exact word_at hW (good_of_word hg) h
/-- a list's words: the good ones out of the method's own list, the others by premises of their own -/
theorem vx_hat {args : Array Value} {s : State} {L B : List Cond} (h1 : ∀ w ∈ L.filter goodWord, w.before args s = true) (h2 : ∀ w ∈ L.filter (fun w => !goodWord w), w ∈ B) (h3 : ∀ w ∈ B, w.before args s = true) : ∀ w ∈ L, w.before args s = true := by
  intro w hw
  by_cases g : goodWord w = true
  · exact h1 w (List.mem_filter.mpr ⟨hw, g⟩)
  · refine h3 w (h2 w (List.mem_filter.mpr ⟨hw, ?_⟩))
    show (!goodWord w) = true
    cases hgw : goodWord w
    · rfl
    · exact absurd hgw g
theorem vx_c {args : Array Value} {s : State} {w : Cond} {B : List Cond} (h : w.before args s = true) (t : ∀ w ∈ B, w.before args s = true) : ∀ w' ∈ w :: B, w'.before args s = true := fun w' h' => (List.mem_cons.mp h').elim (fun e => by rw [e]; exact h) (t w')
theorem vx_n {args : Array Value} {s : State} : ∀ w ∈ ([] : List Cond), w.before args s = true := fun _ h => nomatch h
theorem vx_own {args : Array Value} {s : State} {L : List Cond} (h1 : ∀ w ∈ L.filter vx_no, w.before args s = true)
    (hU : (Cond.isRef (.static Bundle.tN "UNASSIGNED_STACK" Bundle.steD)).before args s = true) (hN : (Cond.isRef (.static Bundle.tN "SUPPRESSED_SENTINEL" Bundle.listD)).before args s = true)
    (lU : (Cond.laysStatic Bundle.tN "UNASSIGNED_STACK" Bundle.steD).before args s = true) (lN : (Cond.laysStatic Bundle.tN "SUPPRESSED_SENTINEL" Bundle.listD).before args s = true) : ∀ w ∈ L, w.before args s = true := by
  intro w hw
  by_cases e1 : w = .isRef (.static Bundle.tN "UNASSIGNED_STACK" Bundle.steD)
  · rw [e1]; exact hU
  · by_cases e2 : w = .isRef (.static Bundle.tN "SUPPRESSED_SENTINEL" Bundle.listD)
    · rw [e2]; exact hN
    · by_cases e3 : w = .laysStatic Bundle.tN "UNASSIGNED_STACK" Bundle.steD
      · rw [e3]; exact lU
      · by_cases e4 : w = .laysStatic Bundle.tN "SUPPRESSED_SENTINEL" Bundle.listD
        · rw [e4]; exact lN
        · exact h1 w (List.mem_filter.mpr ⟨hw, by unfold vx_no; rw [decide_eq_true e1, decide_eq_true e2, decide_eq_true e3, decide_eq_true e4]; rfl⟩)
/-- where a static field lies, its class's statics cell in H -/
def vx_L (C n d : String) (A : Nat → Prop) (U : State) (H : Heap) : Prop := ∃ (c : ClassId) (k : Class) (i : Nat) (f : Field) (a : Nat) (cell : Cell), U.vm.findClass C = some c ∧ U.fieldFound? C n d = some (c, k, i, f) ∧ f.isStatic = true ∧ k.statics = some a ∧ H[a]? = some cell ∧ cell.vm.isStatics = true ∧ cell.cls = c ∧ f.slot < cell.slots.size ∧ k.staticTypes[f.slot]? = some f.type ∧ ¬ A a
theorem vx_L.moved {C n d : String} {A : Nat → Prop} {u U : State} {H : Heap} (hvm : u.vm.Alike U.vm) (h : vx_L C n d A u H) : vx_L C n d A U H := by
  obtain ⟨c, k, i, f, a, cell, h1, h2, h3, h4, h5, h6, h7, h8, h9, h10⟩ := h
  obtain ⟨k', hi', he⟩ := State.fieldFound?_setVm hvm h2
  exact ⟨c, k', i, f, a, cell, by rw [hvm.findClass]; exact h1, hi', h3, by rw [he]; exact h4, h5, h6, h7, h8, by rw [he]; exact h9, h10⟩
theorem vx_L.kept {C n d : String} {A : Nat → Prop} {U : State} {H H1 : Heap} (h : vx_L C n d A U H) (hq : ∀ a : Nat, a < H.size → ¬ A a → H1[a]? = H[a]?) : vx_L C n d A U H1 := by
  obtain ⟨c, k, i, f, a, cell, h1, h2, h3, h4, h5, h6, h7, h8, h9, h10⟩ := h
  exact ⟨c, k, i, f, a, cell, h1, h2, h3, h4, by rw [hq a (Array.getElem?_eq_some_iff.mp h5).1 h10]; exact h5, h6, h7, h8, h9, h10⟩
theorem vx_L.narrow {C n d : String} {A B : Nat → Prop} {U : State} {H : Heap} (h : vx_L C n d A U H) (hAB : ∀ q, B q → A q) : vx_L C n d B U H := by
  obtain ⟨c, k, i, f, a, cell, h1, h2, h3, h4, h5, h6, h7, h8, h9, h10⟩ := h
  exact ⟨c, k, i, f, a, cell, h1, h2, h3, h4, h5, h6, h7, h8, h9, fun z => h10 (hAB _ z)⟩
theorem vx_L.word {C n d : String} {A : Nat → Prop} {s : State} {args : Array Value} (h : vx_L C n d A s s.heap) : (Cond.laysStatic C n d).before args s = true := by
  obtain ⟨c, k, i, f, a, cell, h1, h2, h3, h4, h5, h6, h7, h8, h9, -⟩ := h
  show (Cond.laysStatic C n d).holds args s none s [] = true
  exact Cond.laysStatic_of h1 h2 h3 h4 h5 h6 h7 h8 h9
/-- .. and what it holds: null or some reference -/
def vx_Zq (C n d : String) (A : Nat → Prop) (U : State) (H : Heap) : Prop := va_Zq C n d A U H ∧ vx_L C n d A U H
theorem vx_Zq.moved {C n d : String} {A : Nat → Prop} {u U : State} {H : Heap} (hvm : u.vm.Alike U.vm) (h : vx_Zq C n d A u H) : vx_Zq C n d A U H := ⟨va_Zq.moved hvm h.1, vx_L.moved hvm h.2⟩
theorem vx_Zq.kept {C n d : String} {A : Nat → Prop} {U : State} {H H1 : Heap} (h : vx_Zq C n d A U H) (hq : ∀ a : Nat, a < H.size → ¬ A a → H1[a]? = H[a]?) : vx_Zq C n d A U H1 := ⟨va_Zq.kept h.1 hq, vx_L.kept h.2 hq⟩
theorem vx_Zq.narrow {C n d : String} {A B : Nat → Prop} {U : State} {H : Heap} (h : vx_Zq C n d A U H) (hAB : ∀ q, B q → A q) : vx_Zq C n d B U H := ⟨va_Zq.narrow h.1 hAB, vx_L.narrow h.2 hAB⟩
theorem vx_Zqof {args : Array Value} {s : State} {C n d : String} {A : Nat → Prop} (hl : (Cond.laysStatic C n d).before args s = true) (hini : (Cond.initialized C).before args s = true) (h : (Cond.isRef (.static C n d)).before args s = true) (hA : ∀ a : Nat, a < s.heap.size → ¬ A a) : vx_Zq C n d A s s.heap := by
  refine ⟨va_Zqof hl hini h hA, ?_⟩
  obtain ⟨c, k, i, f, a, cell, h1, h2, h3, h4, h5, h6, h7, h8, h9⟩ := Cond.laysStatic_spec hl
  exact ⟨c, k, i, f, a, cell, h1, h2, h3, h4, h5, h6, h7, h8, h9, hA a (Array.getElem?_eq_some_iff.mp h5).1⟩
theorem vx_isRef {C n d : String} {v : Value} {A : Nat → Prop} {s : State} {args : Array Value} (h : va_Z C n d v A s s.heap) (hv : v.isRef = true) : (Cond.isRef (.static C n d)).before args s = true := by
  obtain ⟨cf, kf, fi, f, a, cell, h1, h2, h3, h4, h5, h6, h7, -⟩ := h
  have he : (Term.static C n d).eval args s none [] s = some v := by
    simp [Term.eval, State.fieldNamed?, h1, h2, h4, h5, h6, h7]
  simp only [Cond.before, Cond.holds, Cond.value, he]
  cases v <;> simp_all [Value.isRef]
theorem vx_isRefq {C n d : String} {A : Nat → Prop} {s : State} {args : Array Value} (h : va_Zq C n d A s s.heap) : (Cond.isRef (.static C n d)).before args s = true := by
  rcases h with h | ⟨t, h⟩
  · exact vx_isRef h rfl
  · exact vx_isRef h rfl
/-- the same frame, seen from here: as if the method were called anew in this heap -/
theorem vx_rebase {T : State} (X : Stand p l e R s m args below meth c T locs cells slots) {R' : Room} (hf : R'.frames ≤ R.frames) (hl : R'.locals ≤ R.locals) (hc : cells + R'.cells ≤ R.cells) (hs : slots + R'.slots ≤ R.slots) :
    Stand p l e R' ((T.setVm s.vm).setFrames (.invoking m args :: below)) m args below meth c T [] 0 0 := by
  have htop : (T.setVm s.vm).topJava?.isSome := X.here.top
  have hF : ((T.setVm s.vm).setFrames (.invoking m args :: below)).frames = .invoking m args :: below := State.frames_setFrames _ (State.cur_lt_of_top htop)
  obtain ⟨g₀, hg0⟩ := Option.isSome_iff_exists.mp htop
  obtain ⟨r, hr⟩ := State.topJava?_eq_some.mp hg0
  have hl9 : e.platform.stackLimits (T.setVm s.vm).me = e.platform.stackLimits s.me := X.limits
  have hb9 : (T.setVm s.vm).me.stackBytes = s.me.stackBytes := X.bytes
  refine ⟨X.admits, X.cas, X.clock, hF, ?_, X.hears, X.method, X.code, X.here, X.tail, X.warmed, ?_, ?_, ?_⟩
  · have h := X.room
    have hU : ((T.setVm s.vm).setFrames (.invoking m args :: below)).localsInUse = s.localsInUse := by
      rw [State.localsInUse_invoking hF (meth := meth) (c := c) X.method X.code, State.localsInUse_invoking X.frames X.method X.code]
    simp only [State.hasRoom, Bool.and_eq_true, decide_eq_true_eq] at h ⊢
    obtain ⟨⟨⟨⟨h1, h2, h3, h4, h5, h6⟩, h7⟩, h8⟩, h9⟩ := h
    rw [X.frames, List.length_cons] at h2 h3
    have q1 := X.heapSize
    have q2 := X.used
    simp only [hF, hU, List.length_cons, State.stackLimits_setFrames, State.stackBytes_setFrames, hl9, hb9]
    refine ⟨⟨⟨⟨by omega, by omega, by omega, by omega, by omega, h6⟩, ?_⟩, ?_⟩, X.book⟩
    · show T.heap.size + R'.cells ≤ e.platform.maxCells
      omega
    · show T.slotsUsed + R'.slots ≤ e.platform.maxSlots
      omega
  · rw [State.stackLimits_setFrames]; rfl
  · rw [State.stackBytes_setFrames]; rfl
  · refine ⟨?_, Nat.le_refl _, Nat.le_refl _, ?_, ?_, fun a c9 h9 => ⟨c9, h9, rfl, rfl, fun _ _ => rfl⟩⟩
    · obtain ⟨t, ht, -⟩ := State.frames_cons hr
      show T.setVm s.vm = { ((T.setVm s.vm).setFrames (.invoking m args :: below)).setFrames (T.setVm s.vm).frames with heap := T.heap, slotsUsed := T.slotsUsed }
      rw [State.setFrames_setFrames, State.setFrames_self ht]
      rfl
    · show T.slotsUsed = T.slotsUsed + ((T.heap.toList.drop T.heap.size).map (·.slots.size)).sum
      rw [List.drop_eq_nil_of_le (Nat.le_of_eq Array.length_toList)]
      rfl
    · show ((T.heap.toList.drop T.heap.size).map (·.slots.size)).sum ≤ 0
      rw [List.drop_eq_nil_of_le (Nat.le_of_eq Array.length_toList)]
      exact Nat.le_refl _
/-- 'throw new E()': new; dup; invokespecial; athrow -/
theorem vx_throw0 {cc : ByteArray} {pc : Nat} (hexec : p.tables.exec = Jvm.exec) (hb : c.code = cc) (hl : l.stackTraces = false) {own cls : String} {names : List String} {ik ic mc ms : Nat} {A : Nat → Prop}
    (hown : s.vm.findClass own = some m.cls) (hcls : Bundle.fit cls = true) (hnames : ∀ n ∈ names, Bundle.fit n = true)
    (hk : (Cond.classLink own ik cls).before args s = true) (hini : (Cond.initialized cls).before args s = true) (hat : ∀ w ∈ vx_at0 own ic cls names, w.before args s = true)
    (hgood : ∀ w ∈ Cond.classLink own ik cls :: Cond.initialized cls :: vx_at0 own ic cls names, vx_ot w = true)
    (hU : vx_Zq Bundle.tN "UNASSIGNED_STACK" Bundle.steD A s s.heap) (hN : vx_Zq Bundle.tN "SUPPRESSED_SENTINEL" Bundle.listD A s s.heap) (hS : va_S A s.heap H locs) (hsize : ls.size = c.maxLocals)
    (d0 : decode cc pc = .ok (.new ik, 3)) (d3 : decode cc (pc + 3) = .ok (.dup, 1)) (d4 : decode cc (pc + 4) = .ok (.invokespecial ic, 3)) (d7 : decode cc (pc + 7) = .ok (.athrow, 1))
    (hout : ∀ x ∈ c.exceptionTable.toList, covers x (pc + 7) = false)
    (hRframes : names.length + 3 < R.frames) (hRlocals : (rest.map fun v => v.category).sum + (13 * (names.length + 1) + 42) ≤ R.locals) (hRcells : cells + 1 ≤ R.cells) (hRslots : slots + 6 ≤ R.slots) (hlocks : meth.locks = false)
    (hx : ∀ t : State, s.vm.Alike t.vm → H.size ≤ t.heap.size → (∀ q : Nat, q < H.size → t.heap[q]? = H[q]?) → XC cls s t)
    (hf : ∀ z ∈ locs, free z.base) (hc : cells + 1 ≤ mc) (hs : slots + 6 ≤ ms) :
    W p l e R s m args below meth c H locs cells slots (vx_MQ below Qc XC args s mc ms free) (F0 m pc ls rest) := by
  intro T hT X
  have htr : e.platform.stackTraces = false := (show e.platform.stackTraces = l.stackTraces by rw [X.admits.platform]).trans hl
  have Y := vx_rebase X (R' := { frames := R.frames, locals := R.locals, cells := 1, slots := 6 }) (Nat.le_refl _) (Nat.le_refl _) hRcells hRslots
  obtain ⟨s', hA⟩ : ∃ z, z = (T.setVm s.vm).setFrames (.invoking m args :: below) := ⟨_, rfl⟩
  rw [← hA] at Y
  have hvm : s'.vm = s.vm := by rw [hA]; rfl
  have hhp : s'.heap = H := by rw [hA]; exact hT
  have hW0 : s.WarmedH s'.vm := by rw [hvm]; exact State.WarmedH.refl s
  have hat' : ∀ w ∈ vx_at0 own ic cls names, w.before args s' = true := fun w hw => vx_ot_at hW0 hvm.symm (hgood w (List.mem_cons_of_mem _ (List.mem_cons_of_mem _ hw))) (hat w hw)
  have hk' : (Cond.classLink own ik cls).before args s' = true := vx_ot_at hW0 hvm.symm (hgood _ List.mem_cons_self) hk
  have hini' : (Cond.initialized cls).before args s' = true := vx_ot_at hW0 hvm.symm (hgood _ (List.mem_cons_of_mem _ List.mem_cons_self)) hini
  have hU' : vx_Zq Bundle.tN "UNASSIGNED_STACK" Bundle.steD A s' s'.heap := by rw [hhp]; exact vx_Zq.moved hW0.alike (hU.kept hS.2.1)
  have hN' : vx_Zq Bundle.tN "SUPPRESSED_SENTINEL" Bundle.listD A s' s'.heap := by rw [hhp]; exact vx_Zq.moved hW0.alike (hN.kept hS.2.1)
  have h : ∀ w ∈ Bundle.ownAtoms0 own ic cls names, w.before args s' = true := vx_own hat' (vx_isRefq hU'.1) (vx_isRefq hN'.1) hU'.2.word hN'.2.word
  have hown' : s'.vm.findClass own = some m.cls := by rw [hvm]; exact hown
  have hins : (Cond.instantiable cls 6).before args s' = true := h _ (by simp [Bundle.ownAtoms0])
  obtain ⟨vm₁, cX, kX, hfX, hkX, -, -, X₁, st1⟩ := Y.newCold hexec (own := own) (C := cls) (index := ik) (n := 6) hown' hk' hins hini'
    (g := F0 m pc ls rest) rfl (by rw [hb]; exact d0) (Nat.le_refl _) (Nat.le_refl _)
  generalize hT1 : (T.setVm vm₁).pushCell { cls := cX, slots := kX.instanceTypes.map defaultValue, vm := .none } = T1 at X₁ st1
  have hcat : (Value.ref T.heap.size).category = 1 := rfl
  have hcellA : T1.heap[T.heap.size]? = some (freshCell cX kX) := by rw [← hT1]; exact State.heap_pushCell_size _ _
  have d3' : decode c.code (pc + 3) = .ok (.dup, 1) := by rw [hb]; exact d3
  obtain ⟨U, hsteps, hrun, hend, hW, hsame, ce, hce, hO⟩ := X₁.ctorThrow0 hexec htr (own := own) (cls := cls) (names := names) (ic := ic) hown' hcls hnames h (fun x hx => nomatch hx) hfX hkX hcellA (by rw [hhp, hT]; exact Nat.le_refl _)
    (g := { method := m, pc := pc + 4, locals := ls, stack := .ref T.heap.size :: .ref T.heap.size :: rest, locked := none }) rfl hsize rfl rfl (rest := rest) rfl
    (by rw [hb]; exact d4) (by rw [hb]; exact d7) hout hRframes (by simp only [List.map_cons, List.sum_cons, hcat]; omega) hlocks
  obtain ⟨f1, f2⟩ := vx_frame hsame
  rw [hhp] at f1 f2
  have hWs : s.WarmedH U.vm := State.WarmedH.trans hW0 hW
  have hcl : s.vm.findClass cls = some ce.cls := by
    have h9 := hO.cls
    rw [hvm] at h9
    exact h9
  have hall : s.sameButNew ({ U with vm := s.vm } : State) locs mc ms := by
    subst hA
    obtain ⟨e1, e2⟩ := hsame
    rw [State.setFrames_setFrames] at e1
    have h2 : (T.setVm s.vm).sameButNew ({ U with vm := s.vm } : State) [] (0 + 1) (0 + 6) := ⟨e1, e2⟩
    have h3 := X.same.trans h2
    rw [List.append_nil] at h3
    exact h3.mono hc hs
  refine ⟨U, ?_, .threw T.heap.size, hrun, hend, Or.inr ⟨T.heap.size, rfl, cls, ce, locs, hx U hWs.alike f1 (fun q hq => f2 q hq (fun z hz => nomatch hz)), hce, hO.vm, hcl, hWs, hall, hf⟩⟩
  refine st1 _ ?_
  show Steps p.tables e below (T1.setTop { method := m, pc := pc + 3, locals := ls, stack := .ref T.heap.size :: rest, locked := none }) _
  jvm_step X₁.here [X₁.here.top, hexec, d3', Value.category]
  exact hsteps
/-- 'throw new E("text")': new; dup; ldc; invokespecial; athrow -/
theorem vx_throwS {cc : ByteArray} {pc : Nat} (hexec : p.tables.exec = Jvm.exec) (hb : c.code = cc) (hl : l.stackTraces = false) {own cls text : String} {names : List String} {ik is ic mc ms sa : Nat} {A : Nat → Prop}
    (hown : s.vm.findClass own = some m.cls) (hcls : Bundle.fit cls = true) (hnames : ∀ n ∈ names, Bundle.fit n = true)
    (hk : (Cond.classLink own ik cls).before args s = true) (hini : (Cond.initialized cls).before args s = true) (hstr : vk_R own is text sa s) (hat : ∀ w ∈ vx_atS own ic cls names, w.before args s = true)
    (hgood : ∀ w ∈ Cond.classLink own ik cls :: Cond.initialized cls :: vx_atS own ic cls names, vx_ot w = true)
    (hU : vx_Zq Bundle.tN "UNASSIGNED_STACK" Bundle.steD A s s.heap) (hN : vx_Zq Bundle.tN "SUPPRESSED_SENTINEL" Bundle.listD A s s.heap) (hS : va_S A s.heap H locs) (hsize : ls.size = c.maxLocals)
    (d0 : decode cc pc = .ok (.new ik, 3)) (d3 : decode cc (pc + 3) = .ok (.dup, 1)) (d4 : decode cc (pc + 4) = .ok (.ldc is, 2)) (d6 : decode cc (pc + 6) = .ok (.invokespecial ic, 3)) (d9 : decode cc (pc + 9) = .ok (.athrow, 1))
    (hout : ∀ x ∈ c.exceptionTable.toList, covers x (pc + 9) = false)
    (hRframes : names.length + 3 < R.frames) (hRlocals : (rest.map fun v => v.category).sum + (13 * (names.length + 1) + 43) ≤ R.locals) (hRcells : cells + 1 ≤ R.cells) (hRslots : slots + 6 ≤ R.slots) (hlocks : meth.locks = false)
    (hx : ∀ t : State, s.vm.Alike t.vm → H.size ≤ t.heap.size → (∀ q : Nat, q < H.size → t.heap[q]? = H[q]?) → XC cls s t)
    (hf : ∀ z ∈ locs, free z.base) (hc : cells + 1 ≤ mc) (hs : slots + 6 ≤ ms) :
    W p l e R s m args below meth c H locs cells slots (vx_MQ below Qc XC args s mc ms free) (F0 m pc ls rest) := by
  intro T hT X
  have htr : e.platform.stackTraces = false := (show e.platform.stackTraces = l.stackTraces by rw [X.admits.platform]).trans hl
  have Y := vx_rebase X (R' := { frames := R.frames, locals := R.locals, cells := 1, slots := 6 }) (Nat.le_refl _) (Nat.le_refl _) hRcells hRslots
  obtain ⟨s', hA⟩ : ∃ z, z = (T.setVm s.vm).setFrames (.invoking m args :: below) := ⟨_, rfl⟩
  rw [← hA] at Y
  have hvm : s'.vm = s.vm := by rw [hA]; rfl
  have hhp : s'.heap = H := by rw [hA]; exact hT
  have hW0 : s.WarmedH s'.vm := by rw [hvm]; exact State.WarmedH.refl s
  have hat' : ∀ w ∈ vx_atS own ic cls names, w.before args s' = true := fun w hw => vx_ot_at hW0 hvm.symm (hgood w (List.mem_cons_of_mem _ (List.mem_cons_of_mem _ hw))) (hat w hw)
  have hk' : (Cond.classLink own ik cls).before args s' = true := vx_ot_at hW0 hvm.symm (hgood _ List.mem_cons_self) hk
  have hini' : (Cond.initialized cls).before args s' = true := vx_ot_at hW0 hvm.symm (hgood _ (List.mem_cons_of_mem _ List.mem_cons_self)) hini
  have hU' : vx_Zq Bundle.tN "UNASSIGNED_STACK" Bundle.steD A s' s'.heap := by rw [hhp]; exact vx_Zq.moved hW0.alike (hU.kept hS.2.1)
  have hN' : vx_Zq Bundle.tN "SUPPRESSED_SENTINEL" Bundle.listD A s' s'.heap := by rw [hhp]; exact vx_Zq.moved hW0.alike (hN.kept hS.2.1)
  have h : ∀ w ∈ Bundle.ownAtoms own ic cls names, w.before args s' = true := vx_own hat' (vx_isRefq hU'.1) (vx_isRefq hN'.1) hU'.2.word hN'.2.word
  have hown' : s'.vm.findClass own = some m.cls := by rw [hvm]; exact hown
  have hins : (Cond.instantiable cls 6).before args s' = true := h _ (by simp [Bundle.ownAtoms])
  obtain ⟨vm₁, cX, kX, hfX, hkX, -, -, X₁, st1⟩ := Y.newCold hexec (own := own) (C := cls) (index := ik) (n := 6) hown' hk' hins hini'
    (g := F0 m pc ls rest) rfl (by rw [hb]; exact d0) (Nat.le_refl _) (Nat.le_refl _)
  generalize hT1 : (T.setVm vm₁).pushCell { cls := cX, slots := kX.instanceTypes.map defaultValue, vm := .none } = T1 at X₁ st1
  have hcat : (Value.ref T.heap.size).category = 1 := rfl
  have hcellA : T1.heap[T.heap.size]? = some (freshCell cX kX) := by rw [← hT1]; exact State.heap_pushCell_size _ _
  have d3' : decode c.code (pc + 3) = .ok (.dup, 1) := by rw [hb]; exact d3
  have d4' : decode c.code (pc + 4) = .ok (.ldc is, 2) := by rw [hb]; exact d4
  have hstr' : vk_R own is text sa s' := vk_R.warm hW0 hstr
  obtain ⟨U, hsteps, hrun, hend, hW, hsame, ce, hce, hO⟩ := X₁.ctorThrowS hexec htr (own := own) (cls := cls) (names := names) (ic := ic) hown' hcls hnames h (fun x hx => nomatch hx) hfX hkX hcellA (by rw [hhp, hT]; exact Nat.le_refl _) (msg := .ref sa) rfl
    (g := { method := m, pc := pc + 6, locals := ls, stack := .ref sa :: .ref T.heap.size :: .ref T.heap.size :: rest, locked := none }) rfl hsize rfl rfl (rest := rest) rfl
    (by rw [hb]; exact d6) (by rw [hb]; exact d9) hout hRframes (by simp only [List.map_cons, List.sum_cons, hcat]; omega) hlocks
  obtain ⟨f1, f2⟩ := vx_frame hsame
  rw [hhp] at f1 f2
  have hWs : s.WarmedH U.vm := State.WarmedH.trans hW0 hW
  have hcl : s.vm.findClass cls = some ce.cls := by
    have h9 := hO.cls
    rw [hvm] at h9
    exact h9
  have hall : s.sameButNew ({ U with vm := s.vm } : State) locs mc ms := by
    subst hA
    obtain ⟨e1, e2⟩ := hsame
    rw [State.setFrames_setFrames] at e1
    have h2 : (T.setVm s.vm).sameButNew ({ U with vm := s.vm } : State) [] (0 + 1) (0 + 6) := ⟨e1, e2⟩
    have h3 := X.same.trans h2
    rw [List.append_nil] at h3
    exact h3.mono hc hs
  refine ⟨U, ?_, .threw T.heap.size, hrun, hend, Or.inr ⟨T.heap.size, rfl, cls, ce, locs, hx U hWs.alike f1 (fun q hq => f2 q hq (fun z hz => nomatch hz)), hce, hO.vm, hcl, hWs, hall, hf⟩⟩
  refine st1 _ ?_
  show Steps p.tables e below (T1.setTop { method := m, pc := pc + 3, locals := ls, stack := .ref T.heap.size :: rest, locked := none }) _
  jvm_step X₁.here [X₁.here.top, hexec, d3', Value.category]
  exact X₁.ldcString hexec (own := own) (text := text) (index := is) (a := sa) hown' hstr'.1 hstr'.2
    (g := { method := m, pc := pc + 4, locals := ls, stack := .ref T.heap.size :: .ref T.heap.size :: rest, locked := none }) rfl d4' _ hsteps
/-- 'throw new E("text")', the text by a wide index -/
theorem vx_throwSW {cc : ByteArray} {pc : Nat} (hexec : p.tables.exec = Jvm.exec) (hb : c.code = cc) (hl : l.stackTraces = false) {own cls text : String} {names : List String} {ik is ic mc ms sa : Nat} {A : Nat → Prop}
    (hown : s.vm.findClass own = some m.cls) (hcls : Bundle.fit cls = true) (hnames : ∀ n ∈ names, Bundle.fit n = true)
    (hk : (Cond.classLink own ik cls).before args s = true) (hini : (Cond.initialized cls).before args s = true) (hstr : vk_R own is text sa s) (hat : ∀ w ∈ vx_atS own ic cls names, w.before args s = true)
    (hgood : ∀ w ∈ Cond.classLink own ik cls :: Cond.initialized cls :: vx_atS own ic cls names, vx_ot w = true)
    (hU : vx_Zq Bundle.tN "UNASSIGNED_STACK" Bundle.steD A s s.heap) (hN : vx_Zq Bundle.tN "SUPPRESSED_SENTINEL" Bundle.listD A s s.heap) (hS : va_S A s.heap H locs) (hsize : ls.size = c.maxLocals)
    (d0 : decode cc pc = .ok (.new ik, 3)) (d3 : decode cc (pc + 3) = .ok (.dup, 1)) (d4 : decode cc (pc + 4) = .ok (.ldc_w is, 3)) (d7 : decode cc (pc + 7) = .ok (.invokespecial ic, 3)) (d10 : decode cc (pc + 10) = .ok (.athrow, 1))
    (hout : ∀ x ∈ c.exceptionTable.toList, covers x (pc + 10) = false)
    (hRframes : names.length + 3 < R.frames) (hRlocals : (rest.map fun v => v.category).sum + (13 * (names.length + 1) + 43) ≤ R.locals) (hRcells : cells + 1 ≤ R.cells) (hRslots : slots + 6 ≤ R.slots) (hlocks : meth.locks = false)
    (hx : ∀ t : State, s.vm.Alike t.vm → H.size ≤ t.heap.size → (∀ q : Nat, q < H.size → t.heap[q]? = H[q]?) → XC cls s t)
    (hf : ∀ z ∈ locs, free z.base) (hc : cells + 1 ≤ mc) (hs : slots + 6 ≤ ms) :
    W p l e R s m args below meth c H locs cells slots (vx_MQ below Qc XC args s mc ms free) (F0 m pc ls rest) := by
  intro T hT X
  have htr : e.platform.stackTraces = false := (show e.platform.stackTraces = l.stackTraces by rw [X.admits.platform]).trans hl
  have Y := vx_rebase X (R' := { frames := R.frames, locals := R.locals, cells := 1, slots := 6 }) (Nat.le_refl _) (Nat.le_refl _) hRcells hRslots
  obtain ⟨s', hA⟩ : ∃ z, z = (T.setVm s.vm).setFrames (.invoking m args :: below) := ⟨_, rfl⟩
  rw [← hA] at Y
  have hvm : s'.vm = s.vm := by rw [hA]; rfl
  have hhp : s'.heap = H := by rw [hA]; exact hT
  have hW0 : s.WarmedH s'.vm := by rw [hvm]; exact State.WarmedH.refl s
  have hat' : ∀ w ∈ vx_atS own ic cls names, w.before args s' = true := fun w hw => vx_ot_at hW0 hvm.symm (hgood w (List.mem_cons_of_mem _ (List.mem_cons_of_mem _ hw))) (hat w hw)
  have hk' : (Cond.classLink own ik cls).before args s' = true := vx_ot_at hW0 hvm.symm (hgood _ List.mem_cons_self) hk
  have hini' : (Cond.initialized cls).before args s' = true := vx_ot_at hW0 hvm.symm (hgood _ (List.mem_cons_of_mem _ List.mem_cons_self)) hini
  have hU' : vx_Zq Bundle.tN "UNASSIGNED_STACK" Bundle.steD A s' s'.heap := by rw [hhp]; exact vx_Zq.moved hW0.alike (hU.kept hS.2.1)
  have hN' : vx_Zq Bundle.tN "SUPPRESSED_SENTINEL" Bundle.listD A s' s'.heap := by rw [hhp]; exact vx_Zq.moved hW0.alike (hN.kept hS.2.1)
  have h : ∀ w ∈ Bundle.ownAtoms own ic cls names, w.before args s' = true := vx_own hat' (vx_isRefq hU'.1) (vx_isRefq hN'.1) hU'.2.word hN'.2.word
  have hown' : s'.vm.findClass own = some m.cls := by rw [hvm]; exact hown
  have hins : (Cond.instantiable cls 6).before args s' = true := h _ (by simp [Bundle.ownAtoms])
  obtain ⟨vm₁, cX, kX, hfX, hkX, -, -, X₁, st1⟩ := Y.newCold hexec (own := own) (C := cls) (index := ik) (n := 6) hown' hk' hins hini'
    (g := F0 m pc ls rest) rfl (by rw [hb]; exact d0) (Nat.le_refl _) (Nat.le_refl _)
  generalize hT1 : (T.setVm vm₁).pushCell { cls := cX, slots := kX.instanceTypes.map defaultValue, vm := .none } = T1 at X₁ st1
  have hcat : (Value.ref T.heap.size).category = 1 := rfl
  have hcellA : T1.heap[T.heap.size]? = some (freshCell cX kX) := by rw [← hT1]; exact State.heap_pushCell_size _ _
  have d3' : decode c.code (pc + 3) = .ok (.dup, 1) := by rw [hb]; exact d3
  have d4' : decode c.code (pc + 4) = .ok (.ldc_w is, 3) := by rw [hb]; exact d4
  have hstr' : vk_R own is text sa s' := vk_R.warm hW0 hstr
  obtain ⟨U, hsteps, hrun, hend, hW, hsame, ce, hce, hO⟩ := X₁.ctorThrowS hexec htr (own := own) (cls := cls) (names := names) (ic := ic) hown' hcls hnames h (fun x hx => nomatch hx) hfX hkX hcellA (by rw [hhp, hT]; exact Nat.le_refl _) (msg := .ref sa) rfl
    (g := { method := m, pc := pc + 7, locals := ls, stack := .ref sa :: .ref T.heap.size :: .ref T.heap.size :: rest, locked := none }) rfl hsize rfl rfl (rest := rest) rfl
    (by rw [hb]; exact d7) (by rw [hb]; exact d10) hout hRframes (by simp only [List.map_cons, List.sum_cons, hcat]; omega) hlocks
  obtain ⟨f1, f2⟩ := vx_frame hsame
  rw [hhp] at f1 f2
  have hWs : s.WarmedH U.vm := State.WarmedH.trans hW0 hW
  have hcl : s.vm.findClass cls = some ce.cls := by
    have h9 := hO.cls
    rw [hvm] at h9
    exact h9
  have hall : s.sameButNew ({ U with vm := s.vm } : State) locs mc ms := by
    subst hA
    obtain ⟨e1, e2⟩ := hsame
    rw [State.setFrames_setFrames] at e1
    have h2 : (T.setVm s.vm).sameButNew ({ U with vm := s.vm } : State) [] (0 + 1) (0 + 6) := ⟨e1, e2⟩
    have h3 := X.same.trans h2
    rw [List.append_nil] at h3
    exact h3.mono hc hs
  refine ⟨U, ?_, .threw T.heap.size, hrun, hend, Or.inr ⟨T.heap.size, rfl, cls, ce, locs, hx U hWs.alike f1 (fun q hq => f2 q hq (fun z hz => nomatch hz)), hce, hO.vm, hcl, hWs, hall, hf⟩⟩
  refine st1 _ ?_
  show Steps p.tables e below (T1.setTop { method := m, pc := pc + 3, locals := ls, stack := .ref T.heap.size :: rest, locked := none }) _
  jvm_step X₁.here [X₁.here.top, hexec, d3', Value.category]
  exact X₁.ldcStringW hexec (own := own) (text := text) (index := is) (a := sa) hown' hstr'.1 hstr'.2
    (g := { method := m, pc := pc + 4, locals := ls, stack := .ref T.heap.size :: .ref T.heap.size :: rest, locked := none }) rfl d4' _ hsteps
end Ends
section Bodies
variable {l : Launch}
theorem vx_ofW {y : MethodName} {ws ws' : List Cond} {rm : Room} {Pc : Array Value → State → Prop} {Qc : Array Value → State → Outcome → State → Prop} {XC : String → State → State → Prop} {mc ms : Nat} {free : Addr → Prop} {cc : ByteArray} {maxL : Nat} {ret : Option FieldType}
    (hy : plainName y.cls = true) (hw : ws = Cond.code y cc maxL ret :: ws')
    (body : ∀ p e s m args below meth c s₁, BodyLoose p l y (headSpec ws rm) cc maxL ret e s m args below meth c s₁ → c.maxLocals = maxL → (∀ x ∈ c.exceptionTable.toList, False) → Pc args s →
      W p l e (headSpec ws rm).room s m args below meth c s.heap [] 0 0 (vx_MQ below Qc XC args s mc ms free) (entryFrame m args maxL)) : vx_Met l y ws rm Pc Qc XC mc ms free := by
  refine MetFree.of_bodyS (code := cc) (maxLocals := maxL) (ret := ret) hy ?_ ?_
  · intro args s m h hn
    obtain ⟨meth, c, h1, h2, h3, h4, h5, h6, -, -⟩ := Cond.code_spec hn (atoms_spec (ws := ws) h _ (by rw [hw]; exact List.mem_cons_self))
    exact ⟨meth, c, h1, h2, h3, h4, h5, h6⟩
  · intro p e s m args below meth c s₁ B hml hP _
    have hh0 : s₁.heap = s.heap := by rw [B.state]; rfl
    have ht : ∀ x ∈ c.exceptionTable.toList, False := by
      obtain ⟨meth9, c9, h1, h2, -, -, -, -, h7, -⟩ := Cond.code_spec B.named (atoms_spec (ws := ws) B.pre _ (by rw [hw]; exact List.mem_cons_self))
      cases Option.some.inj (h1.symm.trans B.method)
      cases Option.some.inj (h2.symm.trans (Stand.of_body B).code)
      intro x hx
      rw [Array.isEmpty_iff.mp h7] at hx
      cases hx
    obtain ⟨t, a1, o, b1, b2, b3⟩ := body p e s m args below meth c s₁ B hml ht hP s₁ hh0 (Stand.of_body B)
    exact ⟨t, o, a1, b1, b2, b3⟩
/-- the table of a body with handlers -/
theorem vx_table {p : Program} {x y : MethodName} {S : Spec} {cc bytes : ByteArray} {maxL maxL' : Nat} {ret ret' : Option FieldType} {e : Env} {s s₁ : State} {m : MethodId} {args : Array Value} {below : List Frame} {meth : Method} {c : Code} {hh : List (Nat × Nat × Nat × Nat)}
    (B : BodyLoose p l y S cc maxL ret e s m args below meth c s₁) (h : (Cond.codeWith y bytes maxL' ret' hh).before args s = true) : c.exceptionTable.toList = tableOf hh := by
  obtain ⟨m9, meth9, c9, hn9, h1, h2, -, -, h6, -⟩ := Cond.codeWith_spec h
  cases Option.some.inj (hn9.symm.trans B.named)
  cases Option.some.inj (h1.symm.trans B.method)
  cases Option.some.inj (h2.symm.trans (Stand.of_body B).code)
  rw [← h6, table_eq]
end Bodies
end VXA

section SvCatch
theorem sv_goLink {Q : Handler → Pre} {E : CtlPost} {e : Env} {d : Bool} {acts : List Action} {s : State} {f : JFrame} {a : Addr} {x : ExceptionTableEntry} {t : List ExceptionTableEntry} {c : ClassId} {cell : Cell} (hx : covers x f.pc = true) (h0 : x.catchType ≠ 0)
    (hl : s.vm.ClassLinks e.platform f.method.cls x.catchType c) (hcell : s.heap[a]? = some cell) (hobj : ∀ k, cell.vm ≠ .statics k)
    (hk : ∃ k, s.vm.classes[cell.cls]? = some k) (hc : ∃ k, s.vm.classes[c]? = some k) (hfit : s.vm.assignable cell.cls c = true) :
    wp (findHandler.go f a (x :: t)) Q E e d acts s ↔ Q (.found x.handlerPc) d acts (s.setVm (s.vm.noted f.method.cls x.catchType (.cls c))) := by
  simp only [covers] at hx
  obtain ⟨ha, ht⟩ := (resolveClass_links e.toSetting hl).op (op := VmOp.resolveClass f.method.cls x.catchType) rfl
  have hal : s.vm.Alike (s.vm.noted f.method.cls x.catchType (.cls c)) := (Vm.Alike.refl s.vm).noted _ _ _
  obtain ⟨k1, hk1⟩ := hk
  obtain ⟨k2, hk2⟩ := hc
  obtain ⟨k1', hk1', -⟩ := hal.2.2 _ _ hk1
  obtain ⟨k2', hk2', -⟩ := hal.2.2 _ _ hk2
  have hfit' : (s.vm.noted f.method.cls x.catchType (.cls c)).assignable cell.cls c = true := by rw [hal.assignable]; exact hfit
  simp [findHandler.go, hx, h0, ha, ht, hcell, hobj, hk1', hk2', hfit', VmOp.dirties, VmOp.acts]
/-- the search for a handler comes to h, and the tables are then vm' -/
def sv_To (e : Env) (s : State) (f : JFrame) (a : Addr) (h : Handler) (vm' : Vm) : Prop :=
  ∀ (Q : Handler → Pre) (E : CtlPost) (d : Bool) (acts : List Action), wp (findHandler f a) Q E e d acts s ↔ Q h d acts (s.setVm vm')
theorem sv_stepTo {e : Env} {s : State} {a : Addr} {f : JFrame} {r : List Frame} {pc : Nat} {vm' : Vm} (hfind : sv_To e s f a (.found pc) vm') :
    (stepThrowing e s a (.java f :: r)).Is ((s.setVm vm').setFrames (.java { f with pc := pc, stack := [.ref a] } :: r)) [] := by
  simp only [stepThrowing, searchFrame, vmDo]
  generalize hr : Sem.go _ e false [] s = res
  obtain ⟨as, rfl, ha⟩ := Sem.eq_ok_of hr (a := Handler.found pc) (s' := s.setVm vm') (acts' := []) (by simp [hfind _ _ _ _])
  exact ⟨rfl, ha⟩
theorem sv_caughtTo {tb : Tables} {e : Env} {s target : State} {g : JFrame} {c : Code} {below : List Frame} {a : Addr} (h : At s g.method c below) {pc : Nat} {vm' : Vm}
    (hfind : sv_To e ((s.setTop g).pushFrame (.throwing a)) g a (.found pc) vm') (hrest : Steps tb e below ((s.setVm vm').setTop { g with pc := pc, stack := [.ref a] }) target) :
    Steps tb e below ((s.setTop g).pushFrame (.throwing a)) target := by
  obtain ⟨hgo, hw⟩ := h.throwing a
  refine Steps.head hgo hw ?_
  rw [stepThread_throwing (frames_entered h.top _), (sv_stepTo (s := (s.setTop g).pushFrame (.throwing a)) hfind).1]
  obtain ⟨g₀, hg⟩ := Option.isSome_iff_exists.mp h.top
  obtain ⟨r, hr⟩ := State.topJava?_eq_some.mp hg
  have hr' : (s.setVm vm').frames = .java g₀ :: r := hr
  have hq : ∀ (u : State) (F G : List Frame), ((u.setFrames F).setVm vm').setFrames G = (u.setVm vm').setFrames G := fun u F G => by
    have h1 : (u.setFrames F).setVm vm' = (u.setVm vm').setFrames F := rfl
    rw [h1, State.setFrames_setFrames]
  rw [State.setTop_of_frames _ hr'] at hrest
  rw [hr, List.tail_cons, State.pushFrame, hq, State.setTop_of_frames _ hr, hq]
  exact hrest
/-- caught by the first row of this method's table -/
theorem sv_catch {p : Program} {l : Launch} {e : Env} {R : Room} {s : State} {m : MethodId} {args : Array Value} {below : List Frame} {meth : Method} {c : Code} {H : Heap} {locs : List Loc} {cells slots : Nat} {Q : State → Prop} {pc : Nat} {ls : Array Slot} {rest : List Value}
    {own name : String} {E : String} {ce : Cell} {q : Addr} (hown : s.vm.findClass own = some m.cls) (x : ExceptionTableEntry) (suf : List ExceptionTableEntry) (hsplit : c.exceptionTable.toList = x :: suf)
    (hx : covers x pc = true) (h0 : x.catchType ≠ 0)
    (hlink : (Cond.classLink own x.catchType name).before args s = true) (hcast : (Cond.castable E name).before args s = true) (hcell : H[q]? = some ce) (hv : ce.vm = .none) (hcl : s.vm.findClass E = some ce.cls)
    (kk : W p l e R s m args below meth c H locs cells slots Q (F0 m x.handlerPc ls [.ref q])) : vx_W p l e R s m args below meth c H locs cells slots Q (F0 m pc ls rest) q := by
  intro T hT X
  have hpl : e.platform.magicAccessors = ({} : Platform).magicAccessors := by rw [X.admits.platform]
  obtain ⟨c3, c4, hc3, hc4, hasg⟩ := Cond.castable_spec hcast
  cases Option.some.inj (hc3.symm.trans hcl)
  obtain ⟨c5, hc5, hcl5⟩ := Cond.classLink_spec hown hlink e.platform hpl
  cases Option.some.inj (hc4.symm.trans hc5)
  obtain ⟨k9, h9, -⟩ := Vm.findClass_spec hcl
  obtain ⟨k0', hk0', -⟩ := X.warmed.alike.2.2 _ _ h9
  obtain ⟨dk, _, _, kt, hd, _, _, _, _, hkt, _, hopen⟩ := hcl5.here
  obtain ⟨kt', hkt', -⟩ := X.warmed.alike.2.2 _ _ hkt
  have hcellT : T.heap[q]? = some ce := by rw [hT]; exact hcell
  have hobj : ∀ k, ce.vm ≠ .statics k := VmData.ne_statics_of (by rw [hv]; rfl)
  have hWn := X.warmed.noted hd hopen (State.rightAt_cls hcl5)
  have hf : sv_To e ((T.setTop (F0 m pc ls rest)).pushFrame (.throwing q)) (F0 m pc ls rest) q (.found x.handlerPc) (T.vm.noted m.cls x.catchType (.cls c4)) := by
    intro Q' E' d' acts'
    rw [Jvm.W.findHandler_eq (meth := meth) (code := c) X.method' X.code, hsplit]
    exact sv_goLink (f := F0 m pc ls rest) hx h0 (X.warmed.classLinks hcl5) hcellT hobj ⟨k0', hk0'⟩ ⟨kt', hkt'⟩ (show T.vm.assignable ce.cls c4 = true by rw [X.warmed.alike.assignable]; exact hasg)
  obtain ⟨t, a1, b1⟩ := kk (T.setVm (T.vm.noted m.cls x.catchType (.cls c4))) hT (X.noted hWn)
  exact ⟨t, sv_caughtTo (g := F0 m pc ls rest) X.here hf a1, b1⟩
end SvCatch
/-! ===== END ===== -/
/-! ===== BEGIN a static call of a method with an exception table ===== -/
section VXS
variable {p : Program} {l : Launch} {e : Env} {R : Room} {s : State} {m : MethodId} {args : Array Value} {below : List Frame} {meth : Method} {c : Code} {T : State} {H : Heap} {locs : List Loc} {cells slots : Nat}
abbrev vx_CSW (R : Room) (s : State) (args : Array Value) (own : String) (index : Nat) (y : MethodName) (bytes : ByteArray) (maxL : Nat) (ret : Option FieldType) (hh : List (Nat × Nat × Nat × Nat)) (ws : List Cond) (rm : Room) (mc ms n : Nat) : Prop :=
  (rm.cells = mc ∧ rm.slots = ms ∧ rm.frames + 1 ≤ R.frames ∧ 8 + (maxL + 11) + rm.locals ≤ R.locals ∧ (∀ w ∈ ws, ∀ (a' : Array Value) (U : State), s.WarmedH U.vm → w.before a' U = true) ∧ Cond.codeWith y bytes maxL ret hh ∈ ws) ∧
  (Cond.codeWith y bytes maxL ret hh).before args s = true ∧ (Cond.initialized y.cls).before args s = true ∧ (y.cls ≠ "java/lang/invoke/MethodHandle" ∧ y.cls ≠ "java/lang/invoke/VarHandle") ∧
  (∀ sig, parseMethodDescriptor y.desc = some sig → n = sig.parameters.length) ∧ (Cond.methodLink own index y).before args s = true ∧ (Cond.static y).before args s = true
theorem vx_cwSW {own : String} {index maxL mc ms : Nat} {y : MethodName} {bytes : ByteArray} {ret : Option FieldType} {hh : List (Nat × Nat × Nat × Nat)} {Ts ws ws' : List Cond} {rm : Room} (n : Nat) (ht : ∀ w ∈ Ts, w.before args s = true) (hT : GoodIn Ts (va_wsS own index y ws)) (hw : ws = Cond.codeWith y bytes maxL ret hh :: ws') (hrc : rm.cells = mc) (hrs : rm.slots = ms)
    (hd : y.cls ≠ "java/lang/invoke/MethodHandle" ∧ y.cls ≠ "java/lang/invoke/VarHandle" ∧ (parseMethodDescriptor y.desc).map (fun d => d.parameters.length) = some n) (hR : rm.frames + 1 ≤ R.frames ∧ 8 + (maxL + 11) + rm.locals ≤ R.locals) :
    vx_CSW R s args own index y bytes maxL ret hh ws rm mc ms n := by
  have ok : ∀ w ∈ va_wsS own index y ws, w.before args s = true := fun w h => ht w (hT w h).1
  have hG : GoodIn Ts ws := fun w h => hT w (by unfold va_wsS; exact List.mem_append_right _ h)
  have hc : Cond.codeWith y bytes maxL ret hh ∈ ws := by rw [hw]; exact List.mem_cons_self
  refine ⟨⟨hrc, hrs, hR.1, hR.2, pay_in ht hG, hc⟩, ht _ (hG _ hc).1, ok _ (by simp [va_wsS]), ⟨hd.1, hd.2.1⟩, fun sig h => ?_, ok _ (by simp [va_wsS]), ok _ (by simp [va_wsS])⟩
  have h2 := hd.2.2
  rw [h] at h2
  exact (Option.some.inj h2).symm
theorem vx_callSW (X : Stand p l e R s m args below meth c T locs cells slots) (hexec : p.tables.exec = Jvm.exec) {own : String} {index : Nat} {y : MethodName} {bytes : ByteArray} {maxL : Nat} {ret : Option FieldType} {hh : List (Nat × Nat × Nat × Nat)}
    (hown : s.vm.findClass own = some m.cls) (hlink : (Cond.methodLink own index y).before args s = true) (hstat : (Cond.static y).before args s = true) (hinit : (Cond.initialized y.cls).before args s = true)
    (hcode : (Cond.codeWith y bytes maxL ret hh).before args s = true) (hy : y.cls ≠ "java/lang/invoke/MethodHandle" ∧ y.cls ≠ "java/lang/invoke/VarHandle")
    {W9 : Nat} {Pre : Pt → Array Value → Prop} {Post : Pt → Array Value → Option Value → Pt → Prop} (hK : Back l R p e below s args y 3 W9 Pre Post)
    {g : JFrame} (hg : g.method = m) (hsize : g.locals.size = c.maxLocals) {argsL rest : List Value} (hlen : ∀ sig, parseMethodDescriptor y.desc = some sig → argsL.length = sig.parameters.length)
    (hstack : g.stack = argsL.reverse ++ rest) (hW : 2 * g.monitorRoom + (rest.map fun v => v.category).sum ≤ W9) (hdg : decode c.code g.pc = .ok (.invokestatic index, 3))
    (hpre : ∀ vm₁, s.WarmedH vm₁ → Pre ⟨T.setVm vm₁, locs, cells, slots⟩ argsL.toArray) :
    ∃ (v : Option Value) (vm₁ : Vm) (B : Pt), s.WarmedH vm₁ ∧ Stand p l e R s m args below meth c B.U B.locs B.cells B.slots ∧ Post ⟨T.setVm vm₁, locs, cells, slots⟩ argsL.toArray v B ∧
      ∀ target, Steps p.tables e below (B.U.setTop { g with pc := g.pc + 3, stack := v.toList ++ rest }) target → Steps p.tables e below (T.setTop g) target := by
  obtain ⟨mk, methM, cM, hnamed, hmethM, -, -, -, -, -, -, hsigM⟩ := Cond.codeWith_spec hcode
  have hstatic : methM.isStatic = true := Cond.static_spec hnamed hmethM hstat
  obtain ⟨kP, hkP, -⟩ := className_of_methodNamed hnamed
  have hinitP : kP.init = .initialized := Cond.initialized_spec (findClass_of_methodNamed hnamed) hkP hinit
  obtain ⟨vm₁, X₁, hstep₁⟩ := X.invokestatic hexec hown hlink hnamed hmethM hstatic hkP hinitP hy (g := g) hg (argsL := argsL) (rest := rest) (hlen _ hsigM) hstack hdg
  obtain ⟨v, B, X', hpost, hsteps⟩ := hK m meth c ⟨T.setVm vm₁, locs, cells, slots⟩ { g with stack := rest } (.invokestatic index) mk argsL.toArray X₁ hg hsize hdg hW (X₁.named hnamed) (hpre vm₁ X₁.warmed)
  exact ⟨v, vm₁, B, X₁.warmed, X', hpost, fun target h => hstep₁ _ fun acts => by rw [doInvoke_state]; exact hsteps.trans h⟩
theorem vx_runSW {y : MethodName} {bytes cc : ByteArray} {maxL nL mc ms n index : Nat} {ret : Option FieldType} {hh : List (Nat × Nat × Nat × Nat)} {ws : List Cond} {rm : Room} {Pc : Array Value → State → Prop} {Qc : Array Value → State → Outcome → State → Prop} {free : Addr → Prop} {Ts : List Cond} {own : String} {As rest : List Value} {g : JFrame}
    (S : CallFix p m c cc nL s args Ts own) (hM : Met l y ws rm Pc Qc mc ms free) (cw : vx_CSW R s args own index y bytes maxL ret hh ws rm mc ms n) (hp : PreS s H Pc As)
    (hg : g.method = m) (hn : As.length = n) (hsize : g.locals.size = nL) (hstack : g.stack = As.reverse ++ rest) (hW : 2 * g.monitorRoom + (rest.map fun v => v.category).sum ≤ 8) (hdg : decode cc g.pc = .ok (.invokestatic index, 3)) (hf : cells + mc ≤ R.cells ∧ slots + ms ≤ R.slots) :
    va_Run p l e R s m args below meth c H locs cells slots mc ms g rest (Qc As.toArray) (free) := by
  obtain ⟨⟨hrc, hrs, hfr, hlo, hws, hcw⟩, hcode, hini, hy, hlen, hl, hstt⟩ := cw
  have hK : Back l R p e below s args y 3 8 (PreOf R mc ms Pc) (PostOf Qc mc ms free) := va_backW (hh := hh) (bytes := bytes) (maxL := maxL) (ret := ret) hM hp.1 hrc hrs hfr hlo hws hcw (fun a' U hW => word_at hW (Or.inl (by first | rfl | simp [Cond.onTables, Cond.keeps, Cond.steady])) hini)
  obtain ⟨hx, hb, hml, ho, -⟩ := S
  intro T hT X
  obtain ⟨v, vm₁, ⟨U', l2, c2, s2⟩, hW₁, X', ⟨g', mk, t, L, e1, e2, hq, h1, hL, h2, h3⟩, st⟩ := vx_callSW X hx (hh := hh) (bytes := bytes) (maxL := maxL) (ret := ret) ho hl hstt hini hcode hy hK hg (hsize.trans hml.symm) (argsL := As) (rest := rest) (fun sig h => hn.trans (hlen sig h)) hstack hW (by rw [hb]; exact hdg)
    (fun vm₁ hW₁ => ⟨hf.1, hf.2, hp.2 (T.setVm vm₁) hT hW₁⟩)
  dsimp only [Pt.U, Pt.locs, Pt.cells, Pt.slots] at X' e1 e2 h1 h2 h3 st
  subst h1; subst h2; subst h3
  exact ⟨v, (T.setVm vm₁).calling g' mk As.toArray, t, U', L, hT, X', hL, e1, e2, hq, st⟩
/-- a thing of a world lies in the heap -/
theorem vx_lt {D : va_G} {cl : List vw_C} {ws : va_W} {H1 : Heap} (h : va_P D cl ws H1) {k : Nat} {q : Nat × va_E} (hk : ws[k]? = some q) : q.1 < H1.size := (h k q hk).lt
end VXS
/-! ===== END ===== -/
/-! ===== BEGIN methods with a table of their own: called by a name, returning or throwing ===== -/
section VXH
/-! vx_backW, vx_callVX, vx_callSX, vx_callVW, vx_runVW, vx_runVX, vx_runSX, vx_ofWH follow the same proofs as their sisters above (Free/Laws.lean, Shelf42/LK1.lean); vx_outP calls Shelf42/NT130.lean (outThrough). -/
section
variable {l : Launch} {R : Room} {p : Program} {e : Env} {below : List Frame} {s : State} {sargs : Array Value} {y : MethodName} {len W9 : Nat}
theorem vx_backW {ws : List Cond} {rm : Room} {Pc : Array Value → State → Prop} {Qc : Array Value → State → Outcome → State → Prop} {XC : String → State → State → Prop} {mc ms : Nat} {free : Addr → Prop} {bytes : ByteArray} {maxL : Nat} {ret : Option FieldType} {hh : List (Nat × Nat × Nat × Nat)}
    (hM : vx_Met l y ws rm Pc Qc XC mc ms free) (hblind : FrameBlind Pc) (hrc : rm.cells = mc) (hrs : rm.slots = ms)
    (hframes : rm.frames + 1 ≤ R.frames) (hlocals : W9 + (maxL + 11) + rm.locals ≤ R.locals)
    (hws : ∀ w ∈ ws, ∀ a' U, s.WarmedH U.vm → w.before a' U = true) (hcode : Cond.codeWith y bytes maxL ret hh ∈ ws) (hinit : ∀ a' U, s.WarmedH U.vm → (Cond.initialized y.cls).before a' U = true) :
    vx_Back l R p e below s sargs y len W9 (PreOf R mc ms Pc) (PostOf Qc mc ms free) (vx_Post XC mc ms free) := by
  intro m meth c A g ig mk a X hg hsize hdg hW hn hp
  have h1 : (headSpec ws rm).pre.before a A.U = true := atoms_intro fun w hw => hws w hw _ _ X.warmed
  have h2 : (Cond.codeWith y bytes maxL ret hh).before a A.U = true := hws _ hcode _ _ X.warmed
  have h3 : (Cond.initialized y.cls).before a A.U = true := hinit _ _ X.warmed
  have h4 : A.cells + (headSpec ws rm).room.cells ≤ R.cells := by rw [show (headSpec ws rm).room.cells = mc from hrc]; exact hp.1
  have h5 : A.slots + (headSpec ws rm).room.slots ≤ R.slots := by rw [show (headSpec ws rm).room.slots = ms from hrs]; exact hp.2.1
  have hPc : Pc a (A.U.calling g mk a) := hblind _ _ _ _ hp.2.2
  obtain ⟨U, Ls, c0, s0⟩ := A
  dsimp only [Pt.U, Pt.locs, Pt.cells, Pt.slots] at h1 h2 h3 h4 h5 X hn hPc ⊢
  obtain ⟨m9, methY, cY, hn9, hmY, hcY, -, hlY, -⟩ := Cond.codeWith_spec h2
  cases Option.some.inj (hn9.symm.trans hn)
  obtain ⟨kY, hkY, -⟩ := className_of_methodNamed hn
  have hinitY : kY.init = .initialized := Cond.initialized_spec (findClass_of_methodNamed hn) hkY h3
  have h : At U g.method c below := by rw [hg]; exact X.here
  have hlocals9 : W9 + (maxL + 11) + (headSpec ws rm).room.locals ≤ R.locals := hlocals
  have happ : (headSpec ws rm).appliesLoose y e.platform (U.calling g mk a) = true :=
    Spec.appliesLoose_calling (g := g) h hdg hn hkY hinitY
      (X.room_calling (g := g) (R' := (headSpec ws rm).room) hsize hmY hcY hframes (by rw [hlY]; omega) h4 h5) h1
  obtain ⟨mid, hmid⟩ := h.above
  have hfr : (U.setTop g).frames = (.java g :: mid) ++ below := by rw [State.frames_setTop' g h.top, hmid]; rfl
  obtain ⟨o, s₂, hsteps, -, hend, hq⟩ := Steps.callFree hM p X.admits X.cas X.clock (acts := []) hfr happ hPc trivial
  have hq' : vx_Q Qc XC mc ms free a (U.calling g mk a) o s₂ := hq
  rw [State.frames_setTop' g h.top] at hend
  obtain ⟨g₀, hg0⟩ := Option.isSome_iff_exists.mp h.top
  obtain ⟨r, hr⟩ := State.topJava?_eq_some.mp hg0
  have hr' : (({ U with heap := s₂.heap, slotsUsed := s₂.slotsUsed } : State).setVm s₂.vm).frames = .java g₀ :: r := hr
  rcases hq' with ⟨hqc, L, hfe, hL⟩ | ⟨q, rfl, E, ce, L, hx, hce, hcv, hcl, hW₂, hsm, hL⟩
  · obtain ⟨⟨v, rfl⟩, hW₂, e2, q2, q3, q4, q5, q6⟩ := id hfe
    have e3 : s₂ = ({ (U.calling g mk a).setFrames s₂.frames with heap := s₂.heap, slotsUsed := s₂.slotsUsed } : State).setVm s₂.vm := by
      have : s₂ = ({ s₂ with vm := (U.calling g mk a).vm } : State).setVm s₂.vm := rfl
      rw [e2] at this
      exact this
    obtain ⟨c₂, i₂, len₂, hc₂, hd₂, hf₂⟩ := hend
    have hW' : U.WarmedH s₂.vm := hW₂
    have hcc : c₂ = c := by
      have h1 : s₂.code? g.method = U.code? g.method := by
        rw [State.code?_eq, State.code?_eq, hW'.alike.method?]
      exact Option.some.inj (hc₂.symm.trans (h1.trans h.code))
    subst hcc
    have hlen : len₂ = len := by rw [hdg] at hd₂; cases hd₂; rfl
    subst hlen
    have hs₂ : s₂ = (({ U with heap := s₂.heap, slotsUsed := s₂.slotsUsed } : State).setVm s₂.vm).setTop { g with pc := g.pc + len₂, stack := v.toList ++ g.stack } := by
      refine e3.trans ?_
      rw [hf₂, State.calling_eq h.top, State.setFrames_setFrames, State.setTop_of_frames _ hr', hr]
      rfl
    have hsame : U.sameButNew ({ U with heap := s₂.heap, slotsUsed := s₂.slotsUsed } : State) L mc ms := by
      refine ⟨?_, q2, q3, q4, q5, q6⟩
      obtain ⟨t, ht, -⟩ := State.frames_cons hr
      show ({ U with heap := s₂.heap, slotsUsed := s₂.slotsUsed } : State) = { U.setFrames U.frames with heap := s₂.heap, slotsUsed := s₂.slotsUsed }
      rw [State.setFrames_self ht]
    subst hg
    refine Or.inl ⟨v, ⟨(({ U with heap := s₂.heap, slotsUsed := s₂.slotsUsed } : State).setVm s₂.vm), Ls ++ L, c0 + mc, s0 + ms⟩,
      ⟨X.admits, X.cas, X.clock, X.frames, X.room, X.hears, X.method, X.code, (X.here.setHeapUsed s₂.heap s₂.slotsUsed).setVm hW'.alike, X.tail, State.WarmedH.trans X.warmed hW', X.limits, X.bytes, X.same.trans (hsame.setVm s.vm)⟩,
      ⟨g, mk, s₂, L, rfl, rfl, hqc, rfl, hL, rfl, rfl⟩, ?_⟩
    show Steps p.tables e below _ ((({ U with heap := s₂.heap, slotsUsed := s₂.slotsUsed } : State).setVm s₂.vm).setTop { g with pc := g.pc + len₂, stack := v.toList ++ g.stack })
    rw [← hs₂]
    exact hsteps
  · obtain ⟨e2, q2, q3, q4, q5, q6⟩ := id hsm
    have e3 : s₂ = ({ (U.calling g mk a).setFrames s₂.frames with heap := s₂.heap, slotsUsed := s₂.slotsUsed } : State).setVm s₂.vm := by
      have : s₂ = ({ s₂ with vm := (U.calling g mk a).vm } : State).setVm s₂.vm := rfl
      rw [e2] at this
      exact this
    have hf₂ : s₂.frames = .throwing q :: .java g :: U.frames.tail := hend
    have hW' : U.WarmedH s₂.vm := hW₂
    have hs₂ : s₂ = ((({ U with heap := s₂.heap, slotsUsed := s₂.slotsUsed } : State).setVm s₂.vm).setTop g).pushFrame (.throwing q) := by
      refine e3.trans ?_
      rw [hf₂, State.calling_eq h.top, State.setFrames_setFrames, State.pushFrame, State.frames_setTop _ hr', State.setTop_of_frames _ hr', State.setFrames_setFrames, hr]
      rfl
    have hsame : U.sameButNew ({ U with heap := s₂.heap, slotsUsed := s₂.slotsUsed } : State) L mc ms := by
      refine ⟨?_, q2, q3, q4, q5, q6⟩
      obtain ⟨t, ht, -⟩ := State.frames_cons hr
      show ({ U with heap := s₂.heap, slotsUsed := s₂.slotsUsed } : State) = { U.setFrames U.frames with heap := s₂.heap, slotsUsed := s₂.slotsUsed }
      rw [State.setFrames_self ht]
    subst hg
    refine Or.inr ⟨q, ⟨(({ U with heap := s₂.heap, slotsUsed := s₂.slotsUsed } : State).setVm s₂.vm), Ls ++ L, c0 + mc, s0 + ms⟩,
      ⟨X.admits, X.cas, X.clock, X.frames, X.room, X.hears, X.method, X.code, (X.here.setHeapUsed s₂.heap s₂.slotsUsed).setVm hW'.alike, X.tail, State.WarmedH.trans X.warmed hW', X.limits, X.bytes, X.same.trans (hsame.setVm s.vm)⟩,
      ⟨g, mk, s₂, L, E, ce, rfl, rfl, hx, hce, hcv, hcl, rfl, hL, rfl, rfl⟩, ?_⟩
    show Steps p.tables e below _ (((({ U with heap := s₂.heap, slotsUsed := s₂.slotsUsed } : State).setVm s₂.vm).setTop g).pushFrame (.throwing q))
    rw [← hs₂]
    exact hsteps
end
variable {p : Program} {l : Launch} {e : Env} {R : Room} {s : State} {m : MethodId} {args : Array Value} {below : List Frame} {meth : Method} {c : Code} {T : State} {H : Heap} {locs : List Loc} {cells slots : Nat}
theorem vx_callVX (X : Stand p l e R s m args below meth c T locs cells slots) (hexec : p.tables.exec = Jvm.exec) {own C : String} {index : Nat} {y : MethodName} {bytes : ByteArray} {maxL : Nat} {ret : Option FieldType} {hh : List (Nat × Nat × Nat × Nat)}
    (hown : s.vm.findClass own = some m.cls) (hlink : (Cond.methodLink own index y).before args s = true) (hinst : (Cond.instanceMethod y).before args s = true) (hsel : (Cond.selects C y y).before args s = true)
    (hcode : (Cond.codeWith y bytes maxL ret hh).before args s = true) (hy : y.cls ≠ "java/lang/invoke/MethodHandle" ∧ y.cls ≠ "java/lang/invoke/VarHandle")
    {W9 : Nat} {Pre : Pt → Array Value → Prop} {Post : Pt → Array Value → Option Value → Pt → Prop} {PostX : Pt → Array Value → Addr → Pt → Prop} (hK : vx_Back l R p e below s args y 3 W9 Pre Post PostX)
    {b : Addr} {cellB : Cell} (hcell : T.heap[b]? = some cellB) (hobj : cellB.vm.isStatics = false) (hcls : s.vm.findClass C = some cellB.cls)
    {g : JFrame} (hg : g.method = m) (hsize : g.locals.size = c.maxLocals) {argsL rest : List Value} (hlen : ∀ sig, parseMethodDescriptor y.desc = some sig → argsL.length = sig.parameters.length)
    (hstack : g.stack = argsL.reverse ++ .ref b :: rest) (hW : 2 * g.monitorRoom + (rest.map fun v => v.category).sum ≤ W9) (hdg : decode c.code g.pc = .ok (.invokevirtual index, 3))
    (hpre : ∀ vm₁, s.WarmedH vm₁ → Pre ⟨T.setVm vm₁, locs, cells, slots⟩ (Value.ref b :: argsL).toArray) :
    (∃ (v : Option Value) (vm₁ : Vm) (B : Pt), s.WarmedH vm₁ ∧ Stand p l e R s m args below meth c B.U B.locs B.cells B.slots ∧ Post ⟨T.setVm vm₁, locs, cells, slots⟩ (Value.ref b :: argsL).toArray v B ∧
      ∀ target, Steps p.tables e below (B.U.setTop { g with pc := g.pc + 3, stack := v.toList ++ rest }) target → Steps p.tables e below (T.setTop g) target) ∨
    (∃ (q : Addr) (vm₁ : Vm) (B : Pt), s.WarmedH vm₁ ∧ Stand p l e R s m args below meth c B.U B.locs B.cells B.slots ∧ PostX ⟨T.setVm vm₁, locs, cells, slots⟩ (Value.ref b :: argsL).toArray q B ∧
      Steps p.tables e below (T.setTop g) ((B.U.setTop { g with stack := rest }).pushFrame (.throwing q))) := by
  obtain ⟨mk, methM, hnamed, hmethM, hstM, habM⟩ := Cond.instanceMethod_spec hinst
  obtain ⟨m8, methM', cM, hn8, hmethM', -, -, -, -, -, -, hsigM⟩ := Cond.codeWith_spec hcode
  cases Option.some.inj (hn8.symm.trans hnamed)
  cases hmethM.symm.trans hmethM'
  obtain ⟨c2, r2, m2, q1, q2, q3, q4, kP, hkP, hkPi⟩ := Cond.selects_spec hsel
  cases hcls.symm.trans q1
  cases (State.methodFound?_of_named hnamed hy).symm.trans q2
  cases hnamed.symm.trans q3
  have hselP : selectMethod e.platform s.vm cellB.cls mk = .method mk := by rw [Launch.admits_selectMethod X.admits]; exact q4
  obtain ⟨vm₁, X₁, hstep₁⟩ := X.invokevirtual hexec hown hlink hnamed hmethM hstM hkP hkPi hy (a := b) (cell := cellB) hcell
    (fun z h => by rw [h] at hobj; cases hobj) hselP hmethM habM hkP hkPi (g := g) hg (argsL := argsL) (rest := rest) (hlen _ hsigM) hstack hdg
  rcases hK m meth c ⟨T.setVm vm₁, locs, cells, slots⟩ { g with stack := rest } (.invokevirtual index) mk (Value.ref b :: argsL).toArray X₁ hg hsize hdg hW (X₁.named hnamed) (hpre vm₁ X₁.warmed) with ⟨v, B, X', hpost, hsteps⟩ | ⟨q, B, X', hpost, hsteps⟩
  · exact Or.inl ⟨v, vm₁, B, X₁.warmed, X', hpost, fun target h => hstep₁ _ fun acts => by rw [doInvoke_state]; exact hsteps.trans h⟩
  · exact Or.inr ⟨q, vm₁, B, X₁.warmed, X', hpost, hstep₁ _ fun acts => by rw [doInvoke_state]; exact hsteps⟩
theorem vx_callSX (X : Stand p l e R s m args below meth c T locs cells slots) (hexec : p.tables.exec = Jvm.exec) {own : String} {index : Nat} {y : MethodName} {bytes : ByteArray} {maxL : Nat} {ret : Option FieldType} {hh : List (Nat × Nat × Nat × Nat)}
    (hown : s.vm.findClass own = some m.cls) (hlink : (Cond.methodLink own index y).before args s = true) (hstat : (Cond.static y).before args s = true) (hinit : (Cond.initialized y.cls).before args s = true)
    (hcode : (Cond.codeWith y bytes maxL ret hh).before args s = true) (hy : y.cls ≠ "java/lang/invoke/MethodHandle" ∧ y.cls ≠ "java/lang/invoke/VarHandle")
    {W9 : Nat} {Pre : Pt → Array Value → Prop} {Post : Pt → Array Value → Option Value → Pt → Prop} {PostX : Pt → Array Value → Addr → Pt → Prop} (hK : vx_Back l R p e below s args y 3 W9 Pre Post PostX)
    {g : JFrame} (hg : g.method = m) (hsize : g.locals.size = c.maxLocals) {argsL rest : List Value} (hlen : ∀ sig, parseMethodDescriptor y.desc = some sig → argsL.length = sig.parameters.length)
    (hstack : g.stack = argsL.reverse ++ rest) (hW : 2 * g.monitorRoom + (rest.map fun v => v.category).sum ≤ W9) (hdg : decode c.code g.pc = .ok (.invokestatic index, 3))
    (hpre : ∀ vm₁, s.WarmedH vm₁ → Pre ⟨T.setVm vm₁, locs, cells, slots⟩ argsL.toArray) :
    (∃ (v : Option Value) (vm₁ : Vm) (B : Pt), s.WarmedH vm₁ ∧ Stand p l e R s m args below meth c B.U B.locs B.cells B.slots ∧ Post ⟨T.setVm vm₁, locs, cells, slots⟩ argsL.toArray v B ∧
      ∀ target, Steps p.tables e below (B.U.setTop { g with pc := g.pc + 3, stack := v.toList ++ rest }) target → Steps p.tables e below (T.setTop g) target) ∨
    (∃ (q : Addr) (vm₁ : Vm) (B : Pt), s.WarmedH vm₁ ∧ Stand p l e R s m args below meth c B.U B.locs B.cells B.slots ∧ PostX ⟨T.setVm vm₁, locs, cells, slots⟩ argsL.toArray q B ∧
      Steps p.tables e below (T.setTop g) ((B.U.setTop { g with stack := rest }).pushFrame (.throwing q))) := by
  obtain ⟨mk, methM, cM, hnamed, hmethM, -, -, -, -, -, -, hsigM⟩ := Cond.codeWith_spec hcode
  have hstatic : methM.isStatic = true := Cond.static_spec hnamed hmethM hstat
  obtain ⟨kP, hkP, -⟩ := className_of_methodNamed hnamed
  have hinitP : kP.init = .initialized := Cond.initialized_spec (findClass_of_methodNamed hnamed) hkP hinit
  obtain ⟨vm₁, X₁, hstep₁⟩ := X.invokestatic hexec hown hlink hnamed hmethM hstatic hkP hinitP hy (g := g) hg (argsL := argsL) (rest := rest) (hlen _ hsigM) hstack hdg
  rcases hK m meth c ⟨T.setVm vm₁, locs, cells, slots⟩ { g with stack := rest } (.invokestatic index) mk argsL.toArray X₁ hg hsize hdg hW (X₁.named hnamed) (hpre vm₁ X₁.warmed) with ⟨v, B, X', hpost, hsteps⟩ | ⟨q, B, X', hpost, hsteps⟩
  · exact Or.inl ⟨v, vm₁, B, X₁.warmed, X', hpost, fun target h => hstep₁ _ fun acts => by rw [doInvoke_state]; exact hsteps.trans h⟩
  · exact Or.inr ⟨q, vm₁, B, X₁.warmed, X', hpost, hstep₁ _ fun acts => by rw [doInvoke_state]; exact hsteps⟩
theorem vx_callVW (X : Stand p l e R s m args below meth c T locs cells slots) (hexec : p.tables.exec = Jvm.exec) {own C : String} {index : Nat} {y : MethodName} {bytes : ByteArray} {maxL : Nat} {ret : Option FieldType} {hh : List (Nat × Nat × Nat × Nat)}
    (hown : s.vm.findClass own = some m.cls) (hlink : (Cond.methodLink own index y).before args s = true) (hinst : (Cond.instanceMethod y).before args s = true) (hsel : (Cond.selects C y y).before args s = true)
    (hcode : (Cond.codeWith y bytes maxL ret hh).before args s = true) (hy : y.cls ≠ "java/lang/invoke/MethodHandle" ∧ y.cls ≠ "java/lang/invoke/VarHandle")
    {W9 : Nat} {Pre : Pt → Array Value → Prop} {Post : Pt → Array Value → Option Value → Pt → Prop} (hK : Back l R p e below s args y 3 W9 Pre Post)
    {b : Addr} {cellB : Cell} (hcell : T.heap[b]? = some cellB) (hobj : cellB.vm.isStatics = false) (hcls : s.vm.findClass C = some cellB.cls)
    {g : JFrame} (hg : g.method = m) (hsize : g.locals.size = c.maxLocals) {argsL rest : List Value} (hlen : ∀ sig, parseMethodDescriptor y.desc = some sig → argsL.length = sig.parameters.length)
    (hstack : g.stack = argsL.reverse ++ .ref b :: rest) (hW : 2 * g.monitorRoom + (rest.map fun v => v.category).sum ≤ W9) (hdg : decode c.code g.pc = .ok (.invokevirtual index, 3))
    (hpre : ∀ vm₁, s.WarmedH vm₁ → Pre ⟨T.setVm vm₁, locs, cells, slots⟩ (Value.ref b :: argsL).toArray) :
    ∃ (v : Option Value) (vm₁ : Vm) (B : Pt), s.WarmedH vm₁ ∧ Stand p l e R s m args below meth c B.U B.locs B.cells B.slots ∧ Post ⟨T.setVm vm₁, locs, cells, slots⟩ (Value.ref b :: argsL).toArray v B ∧
      ∀ target, Steps p.tables e below (B.U.setTop { g with pc := g.pc + 3, stack := v.toList ++ rest }) target → Steps p.tables e below (T.setTop g) target := by
  obtain ⟨mk, methM, hnamed, hmethM, hstM, habM⟩ := Cond.instanceMethod_spec hinst
  obtain ⟨m8, methM', cM, hn8, hmethM', -, -, -, -, -, -, hsigM⟩ := Cond.codeWith_spec hcode
  cases Option.some.inj (hn8.symm.trans hnamed)
  cases hmethM.symm.trans hmethM'
  obtain ⟨c2, r2, m2, q1, q2, q3, q4, kP, hkP, hkPi⟩ := Cond.selects_spec hsel
  cases hcls.symm.trans q1
  cases (State.methodFound?_of_named hnamed hy).symm.trans q2
  cases hnamed.symm.trans q3
  have hselP : selectMethod e.platform s.vm cellB.cls mk = .method mk := by rw [Launch.admits_selectMethod X.admits]; exact q4
  obtain ⟨vm₁, X₁, hstep₁⟩ := X.invokevirtual hexec hown hlink hnamed hmethM hstM hkP hkPi hy (a := b) (cell := cellB) hcell
    (fun z h => by rw [h] at hobj; cases hobj) hselP hmethM habM hkP hkPi (g := g) hg (argsL := argsL) (rest := rest) (hlen _ hsigM) hstack hdg
  obtain ⟨v, B, X', hpost, hsteps⟩ := hK m meth c ⟨T.setVm vm₁, locs, cells, slots⟩ { g with stack := rest } (.invokevirtual index) mk (Value.ref b :: argsL).toArray X₁ hg hsize hdg hW (X₁.named hnamed) (hpre vm₁ X₁.warmed)
  exact ⟨v, vm₁, B, X₁.warmed, X', hpost, fun target h => hstep₁ _ fun acts => by rw [doInvoke_state]; exact hsteps.trans h⟩
abbrev vx_CVW (R : Room) (s : State) (args : Array Value) (own C : String) (index : Nat) (y : MethodName) (bytes : ByteArray) (maxL : Nat) (ret : Option FieldType) (hh : List (Nat × Nat × Nat × Nat)) (ws : List Cond) (rm : Room) (mc ms n : Nat) : Prop :=
  (rm.cells = mc ∧ rm.slots = ms ∧ rm.frames + 1 ≤ R.frames ∧ 8 + (maxL + 11) + rm.locals ≤ R.locals ∧ (∀ w ∈ ws, ∀ (a' : Array Value) (U : State), s.WarmedH U.vm → w.before a' U = true) ∧ Cond.codeWith y bytes maxL ret hh ∈ ws) ∧
  (Cond.codeWith y bytes maxL ret hh).before args s = true ∧ (Cond.initialized y.cls).before args s = true ∧ (y.cls ≠ "java/lang/invoke/MethodHandle" ∧ y.cls ≠ "java/lang/invoke/VarHandle") ∧
  (∀ sig, parseMethodDescriptor y.desc = some sig → n = sig.parameters.length) ∧ (Cond.methodLink own index y).before args s = true ∧ (Cond.instanceMethod y).before args s = true ∧ (Cond.selects C y y).before args s = true
theorem vx_cwVW {own C : String} {index maxL mc ms : Nat} {y : MethodName} {bytes : ByteArray} {ret : Option FieldType} {hh : List (Nat × Nat × Nat × Nat)} {Ts ws ws' : List Cond} {rm : Room} (n : Nat) (ht : ∀ w ∈ Ts, w.before args s = true) (hT : GoodIn Ts (wsV own index C y ws)) (hw : ws = Cond.codeWith y bytes maxL ret hh :: ws') (hrc : rm.cells = mc) (hrs : rm.slots = ms)
    (hd : y.cls = C ∧ y.cls ≠ "java/lang/invoke/MethodHandle" ∧ y.cls ≠ "java/lang/invoke/VarHandle" ∧ (parseMethodDescriptor y.desc).map (fun d => d.parameters.length) = some n) (hR : rm.frames + 1 ≤ R.frames ∧ 8 + (maxL + 11) + rm.locals ≤ R.locals) :
    vx_CVW R s args own C index y bytes maxL ret hh ws rm mc ms n := by
  obtain ⟨hC, hd⟩ := hd
  subst hC
  have ok : ∀ w ∈ wsV own index y.cls y ws, w.before args s = true := fun w h => ht w (hT w h).1
  have hG : GoodIn Ts ws := fun w h => hT w (by unfold wsV; exact List.mem_append_right _ h)
  have hc : Cond.codeWith y bytes maxL ret hh ∈ ws := by rw [hw]; exact List.mem_cons_self
  refine ⟨⟨hrc, hrs, hR.1, hR.2, pay_in ht hG, hc⟩, ht _ (hG _ hc).1, ok _ (by simp [wsV]), ⟨hd.1, hd.2.1⟩, fun sig h => ?_, ok _ (by simp [wsV]), ok _ (by simp [wsV]), ok _ (by simp [wsV])⟩
  have h2 := hd.2.2
  rw [h] at h2
  exact (Option.some.inj h2).symm
theorem vx_runVW {y : MethodName} {bytes cc : ByteArray} {maxL nL mc ms n index : Nat} {ret : Option FieldType} {hh : List (Nat × Nat × Nat × Nat)} {ws : List Cond} {rm : Room} {Pc : Array Value → State → Prop} {Qc : Array Value → State → Outcome → State → Prop} {free : Addr → Prop} {Ts : List Cond} {own C : String} {b : Addr} {As rest : List Value} {g : JFrame}
    (S : CallFix p m c cc nL s args Ts own) (hM : Met l y ws rm Pc Qc mc ms free) (cw : vx_CVW R s args own C index y bytes maxL ret hh ws rm mc ms n) (hp : PreV s H C b Pc As)
    (hg : g.method = m) (hn : As.length = n) (hsize : g.locals.size = nL) (hstack : g.stack = As.reverse ++ .ref b :: rest) (hW : 2 * g.monitorRoom + (rest.map fun v => v.category).sum ≤ 8) (hdg : decode cc g.pc = .ok (.invokevirtual index, 3)) (hf : cells + mc ≤ R.cells ∧ slots + ms ≤ R.slots) :
    va_Run p l e R s m args below meth c H locs cells slots mc ms g rest (Qc (Value.ref b :: As).toArray) free := by
  obtain ⟨⟨hrc, hrs, hfr, hlo, hws, hcw⟩, hcode, hini, hy, hlen, hl, hin, hse⟩ := cw
  have hK : Back l R p e below s args y 3 8 (PreOf R mc ms Pc) (PostOf Qc mc ms free) := va_backW (hh := hh) (bytes := bytes) (maxL := maxL) (ret := ret) hM hp.1 hrc hrs hfr hlo hws hcw (fun a' U hW => word_at hW (Or.inl (by first | rfl | simp [Cond.onTables, Cond.keeps, Cond.steady])) hini)
  obtain ⟨hx, hb, hml, ho, -⟩ := S
  obtain ⟨-, ⟨cellB, hcB, hoB, hclB⟩, hPc⟩ := hp
  intro T hT X
  obtain ⟨v, vm₁, ⟨U', l2, c2, s2⟩, hW₁, X', ⟨g', mk, t, L, e1, e2, hq, h1, hL, h2, h3⟩, st⟩ := vx_callVW X hx (C := C) (hh := hh) (bytes := bytes) (maxL := maxL) (ret := ret) ho hl hin hse hcode hy hK (by rw [hT]; exact hcB) hoB hclB hg (hsize.trans hml.symm) (argsL := As) (rest := rest) (fun sig h => hn.trans (hlen sig h)) hstack hW (by rw [hb]; exact hdg)
    (fun vm₁ hW₁ => ⟨hf.1, hf.2, hPc (T.setVm vm₁) hT hW₁⟩)
  dsimp only [Pt.U, Pt.locs, Pt.cells, Pt.slots] at X' e1 e2 h1 h2 h3 st
  subst h1; subst h2; subst h3
  exact ⟨v, (T.setVm vm₁).calling g' mk (Value.ref b :: As).toArray, t, U', L, hT, X', hL, e1, e2, hq, st⟩
section
variable {y : MethodName} {bytes cc : ByteArray} {maxL nL mc ms n index : Nat} {ret : Option FieldType} {ws : List Cond} {rm : Room} {Pc : Array Value → State → Prop} {Qc : Array Value → State → Outcome → State → Prop} {XC : String → State → State → Prop} {free : Addr → Prop} {Ts : List Cond} {own C : String} {b : Addr} {As rest : List Value} {g : JFrame}
theorem vx_runVX {hh : List (Nat × Nat × Nat × Nat)} (S : CallFix p m c cc nL s args Ts own) (hM : vx_Met l y ws rm Pc Qc XC mc ms free) (cw : vx_CVW R s args own C index y bytes maxL ret hh ws rm mc ms n) (hp : PreV s H C b Pc As)
    (hg : g.method = m) (hn : As.length = n) (hsize : g.locals.size = nL) (hstack : g.stack = As.reverse ++ .ref b :: rest) (hW : 2 * g.monitorRoom + (rest.map fun v => v.category).sum ≤ 8) (hdg : decode cc g.pc = .ok (.invokevirtual index, 3)) (hf : cells + mc ≤ R.cells ∧ slots + ms ≤ R.slots) :
    vx_Run p l e R s m args below meth c H locs cells slots mc ms g rest (Qc (Value.ref b :: As).toArray) XC free := by
  obtain ⟨⟨hrc, hrs, hfr, hlo, hws, hcw⟩, hcode, hini, hy, hlen, hl, hin, hse⟩ := cw
  have hK : vx_Back l R p e below s args y 3 8 (PreOf R mc ms Pc) (PostOf Qc mc ms free) (vx_Post XC mc ms free) := vx_backW (hh := hh) (bytes := bytes) (maxL := maxL) (ret := ret) hM hp.1 hrc hrs hfr hlo hws hcw (fun a' U hW => word_at hW (Or.inl (by first | rfl | simp [Cond.onTables, Cond.keeps, Cond.steady])) hini)
  obtain ⟨hx, hb, hml, ho, -⟩ := S
  obtain ⟨-, ⟨cellB, hcB, hoB, hclB⟩, hPc⟩ := hp
  intro T hT X
  rcases vx_callVX X hx (C := C) (hh := hh) (bytes := bytes) (maxL := maxL) (ret := ret) ho hl hin hse hcode hy hK (by rw [hT]; exact hcB) hoB hclB hg (hsize.trans hml.symm) (argsL := As) (rest := rest) (fun sig h => hn.trans (hlen sig h)) hstack hW (by rw [hb]; exact hdg)
    (fun vm₁ hW₁ => ⟨hf.1, hf.2, hPc (T.setVm vm₁) hT hW₁⟩) with ⟨v, vm₁, ⟨U', l2, c2, s2⟩, hW₁, X', ⟨g', mk, t, L, e1, e2, hq, h1, hL, h2, h3⟩, st⟩ | ⟨q, vm₁, ⟨U', l2, c2, s2⟩, hW₁, X', ⟨g', mk, t, L, E, ce, e1, e2, hq, hce, hcv, hcl, h1, hL, h2, h3⟩, st⟩
  · dsimp only [Pt.U, Pt.locs, Pt.cells, Pt.slots] at X' e1 e2 h1 h2 h3 st
    subst h1; subst h2; subst h3
    exact Or.inl ⟨v, (T.setVm vm₁).calling g' mk (Value.ref b :: As).toArray, t, U', L, hT, X', hL, e1, e2, hq, st⟩
  · dsimp only [Pt.U, Pt.locs, Pt.cells, Pt.slots] at X' e1 e2 h1 h2 h3 st hcl
    subst h1; subst h2; subst h3
    exact Or.inr ⟨q, (T.setVm vm₁).calling g' mk (Value.ref b :: As).toArray, t, U', L, E, ce, hT, X', hL, e1, e2, hq, hce, hcv, vx_cls hW₁ hcl, st⟩
theorem vx_runSX {hh : List (Nat × Nat × Nat × Nat)} (S : CallFix p m c cc nL s args Ts own) (hM : vx_Met l y ws rm Pc Qc XC mc ms free) (cw : vx_CSW R s args own index y bytes maxL ret hh ws rm mc ms n) (hp : PreS s H Pc As)
    (hg : g.method = m) (hn : As.length = n) (hsize : g.locals.size = nL) (hstack : g.stack = As.reverse ++ rest) (hW : 2 * g.monitorRoom + (rest.map fun v => v.category).sum ≤ 8) (hdg : decode cc g.pc = .ok (.invokestatic index, 3)) (hf : cells + mc ≤ R.cells ∧ slots + ms ≤ R.slots) :
    vx_Run p l e R s m args below meth c H locs cells slots mc ms g rest (Qc As.toArray) XC free := by
  obtain ⟨⟨hrc, hrs, hfr, hlo, hws, hcw⟩, hcode, hini, hy, hlen, hl, hstt⟩ := cw
  have hK : vx_Back l R p e below s args y 3 8 (PreOf R mc ms Pc) (PostOf Qc mc ms free) (vx_Post XC mc ms free) := vx_backW (hh := hh) (bytes := bytes) (maxL := maxL) (ret := ret) hM hp.1 hrc hrs hfr hlo hws hcw (fun a' U hW => word_at hW (Or.inl (by first | rfl | simp [Cond.onTables, Cond.keeps, Cond.steady])) hini)
  obtain ⟨hx, hb, hml, ho, -⟩ := S
  intro T hT X
  rcases vx_callSX X hx (hh := hh) (bytes := bytes) (maxL := maxL) (ret := ret) ho hl hstt hini hcode hy hK hg (hsize.trans hml.symm) (argsL := As) (rest := rest) (fun sig h => hn.trans (hlen sig h)) hstack hW (by rw [hb]; exact hdg)
    (fun vm₁ hW₁ => ⟨hf.1, hf.2, hp.2 (T.setVm vm₁) hT hW₁⟩) with ⟨v, vm₁, ⟨U', l2, c2, s2⟩, hW₁, X', ⟨g', mk, t, L, e1, e2, hq, h1, hL, h2, h3⟩, st⟩ | ⟨q, vm₁, ⟨U', l2, c2, s2⟩, hW₁, X', ⟨g', mk, t, L, E, ce, e1, e2, hq, hce, hcv, hcl, h1, hL, h2, h3⟩, st⟩
  · dsimp only [Pt.U, Pt.locs, Pt.cells, Pt.slots] at X' e1 e2 h1 h2 h3 st
    subst h1; subst h2; subst h3
    exact Or.inl ⟨v, (T.setVm vm₁).calling g' mk As.toArray, t, U', L, hT, X', hL, e1, e2, hq, st⟩
  · dsimp only [Pt.U, Pt.locs, Pt.cells, Pt.slots] at X' e1 e2 h1 h2 h3 st hcl
    subst h1; subst h2; subst h3
    exact Or.inr ⟨q, (T.setVm vm₁).calling g' mk As.toArray, t, U', L, E, ce, hT, X', hL, e1, e2, hq, hce, hcv, vx_cls hW₁ hcl, st⟩
end
end VXH
theorem vx_ofWH {l : Launch} {y : MethodName} {ws ws' : List Cond} {rm : Room} {Pc : Array Value → State → Prop} {Qc : Array Value → State → Outcome → State → Prop} {XC : String → State → State → Prop} {mc ms : Nat} {free : Addr → Prop} {cc : ByteArray} {maxL : Nat} {ret : Option FieldType} {hh : List (Nat × Nat × Nat × Nat)}
    (hy : plainName y.cls = true) (hw : ws = Cond.codeWith y cc maxL ret hh :: ws')
    (body : ∀ p e s m args below meth c s₁, BodyLoose p l y (headSpec ws rm) cc maxL ret e s m args below meth c s₁ → c.maxLocals = maxL → Pc args s →
      W p l e (headSpec ws rm).room s m args below meth c s.heap [] 0 0 (vx_MQ below Qc XC args s mc ms free) (entryFrame m args maxL)) : vx_Met l y ws rm Pc Qc XC mc ms free := by
  refine MetFree.of_bodyS (code := cc) (maxLocals := maxL) (ret := ret) hy ?_ ?_
  · intro args s m h hn
    obtain ⟨m9, meth, c, hn9, h1, h2, h3, h4, -, h5, h6, -⟩ := Cond.codeWith_spec (atoms_spec (ws := ws) h _ (by rw [hw]; exact List.mem_cons_self))
    cases hn.symm.trans hn9
    exact ⟨meth, c, h1, h2, h3, h4, h5, h6⟩
  · intro p e s m args below meth c s₁ B hml hP _
    have hh0 : s₁.heap = s.heap := by rw [B.state]; rfl
    obtain ⟨t, a1, o, b1, b2, b3⟩ := body p e s m args below meth c s₁ B hml hP s₁ hh0 (Stand.of_body B)
    exact ⟨t, o, a1, b1, b2, b3⟩
/-! ===== END ===== -/
end
section
def RX0 : String := "ShipVoices$ClashBook"
def TX0 : u_T := fun k => match k with
  | 0 => ("ShipVoices$ClashBook", "made", "[I", true)
  | _ => ("ShipVoices$ClashBook", "total", "I", false)
def tyX0 : Nat → FieldType := fun k => match k with
  | 0 => .array .int
  | _ => .int
theorem nmX0 : ∀ a, a < 2 → ∀ b, b < 2 → a ≠ b → (TX0 a).2.1 ≠ (TX0 b).2.1 := by decide +kernel
theorem tyX0_ok : ∀ k, k < 2 → parseFieldDescriptor (TX0 k).2.2.1 = some (tyX0 k) := by decide +kernel
abbrev cX0_init : ByteArray := prog_2_method_1_code
def yX0_init : MethodName := ⟨RX0, "<init>", "()V"⟩
abbrev cX0_total : ByteArray := prog_2_method_2_code
def yX0_total : MethodName := ⟨RX0, "total", "()I"⟩
abbrev cX0_note : ByteArray := prog_2_method_3_code
def yX0_note : MethodName := ⟨RX0, "note", "(LShipVoices$Log;I)V"⟩
abbrev cX0_laterOf : ByteArray := prog_2_method_4_code
def yX0_laterOf : MethodName := ⟨RX0, "laterOf", "(I)I"⟩
abbrev cX0_earlierOf : ByteArray := prog_2_method_5_code
def yX0_earlierOf : MethodName := ⟨RX0, "earlierOf", "(LShipVoices$Log;II)I"⟩
abbrev cX0_doClash : ByteArray := prog_2_method_6_code
def yX0_doClash : MethodName := ⟨RX0, "doClash", "(LShipVoices$Log;II)Z"⟩
def RX1 : String := "ShipVoices$Ear"
def TX1 : u_T := fun k => match k with
  | 0 => ("ShipVoices$Ear", "bits", "[B", true)
  | 1 => ("ShipVoices$Ear", "level", "I", false)
  | 2 => ("ShipVoices$Ear", "ones", "I", false)
  | 3 => ("ShipVoices$Ear", "put", "I", false)
  | 4 => ("ShipVoices$Ear", "torn", "I", false)
  | _ => ("ShipVoices$Ear", "frame", "I", false)
def tyX1 : Nat → FieldType := fun k => match k with
  | 0 => .array .byte
  | 1 => .int
  | 2 => .int
  | 3 => .int
  | 4 => .int
  | _ => .int
theorem nmX1 : ∀ a, a < 6 → ∀ b, b < 6 → a ≠ b → (TX1 a).2.1 ≠ (TX1 b).2.1 := by decide +kernel
theorem tyX1_ok : ∀ k, k < 6 → parseFieldDescriptor (TX1 k).2.2.1 = some (tyX1 k) := by decide +kernel
abbrev cX1_init : ByteArray := prog_3_method_1_code
def yX1_init : MethodName := ⟨RX1, "<init>", "()V"⟩
abbrev cX1_torn : ByteArray := prog_3_method_2_code
def yX1_torn : MethodName := ⟨RX1, "torn", "()I"⟩
abbrev cX1_bitsPut : ByteArray := prog_3_method_3_code
def yX1_bitsPut : MethodName := ⟨RX1, "bitsPut", "()I"⟩
abbrev cX1_frameBits : ByteArray := prog_3_method_4_code
def yX1_frameBits : MethodName := ⟨RX1, "frameBits", "()I"⟩
abbrev cX1_takeLevel : ByteArray := prog_3_method_5_code
def yX1_takeLevel : MethodName := ⟨RX1, "takeLevel", "(I)Z"⟩
abbrev cX1_number : ByteArray := prog_3_method_6_code
def yX1_number : MethodName := ⟨RX1, "number", "(II)I"⟩
abbrev cX1_bitAt : ByteArray := prog_3_method_7_code
def yX1_bitAt : MethodName := ⟨RX1, "bitAt", "(I)I"⟩
abbrev cX1_takeOne : ByteArray := prog_3_method_8_code
def yX1_takeOne : MethodName := ⟨RX1, "takeOne", "()V"⟩
abbrev cX1_putBit : ByteArray := prog_3_method_9_code
def yX1_putBit : MethodName := ⟨RX1, "putBit", "(I)V"⟩
abbrev cX1_lose : ByteArray := prog_3_method_10_code
def yX1_lose : MethodName := ⟨RX1, "lose", "()V"⟩
abbrev cX1_endPiece : ByteArray := prog_3_method_11_code
def yX1_endPiece : MethodName := ⟨RX1, "endPiece", "()Z"⟩
abbrev cX1_isChecked : ByteArray := prog_3_method_12_code
def yX1_isChecked : MethodName := ⟨RX1, "isChecked", "()Z"⟩
def RX2 : String := "ShipVoices$Log"
def TX2 : u_T := fun k => match k with
  | 0 => ("ShipVoices$Log", "cells", "[I", true)
  | _ => ("ShipVoices$Log", "entries", "I", false)
def tyX2 : Nat → FieldType := fun k => match k with
  | 0 => .array .int
  | _ => .int
theorem nmX2 : ∀ a, a < 2 → ∀ b, b < 2 → a ≠ b → (TX2 a).2.1 ≠ (TX2 b).2.1 := by decide +kernel
theorem tyX2_ok : ∀ k, k < 2 → parseFieldDescriptor (TX2 k).2.2.1 = some (tyX2 k) := by decide +kernel
abbrev cX2_init : ByteArray := prog_4_method_1_code
def yX2_init : MethodName := ⟨RX2, "<init>", "()V"⟩
abbrev cX2_entries : ByteArray := prog_4_method_2_code
def yX2_entries : MethodName := ⟨RX2, "entries", "()I"⟩
abbrev cX2_has : ByteArray := prog_4_method_3_code
def yX2_has : MethodName := ⟨RX2, "has", "(I)Z"⟩
abbrev cX2_cell : ByteArray := prog_4_method_4_code
def yX2_cell : MethodName := ⟨RX2, "cell", "(II)I"⟩
abbrev cX2_add : ByteArray := prog_4_method_5_code
def yX2_add : MethodName := ⟨RX2, "add", "(LShipVoices$Telling;II)I"⟩
abbrev cX2_isOf : ByteArray := prog_4_method_6_code
def yX2_isOf : MethodName := ⟨RX2, "isOf", "(III)Z"⟩
abbrev cX2_latest : ByteArray := prog_4_method_7_code
def yX2_latest : MethodName := ⟨RX2, "latest", "(II)I"⟩
abbrev cX2_howMany : ByteArray := prog_4_method_8_code
def yX2_howMany : MethodName := ⟨RX2, "howMany", "(II)I"⟩
def RX3 : String := "ShipVoices$Matching"
def TX3 : u_T := fun k => match k with
  | 0 => ("ShipVoices$Matching", "squares", "[J", true)
  | 1 => ("ShipVoices$Matching", "rowDual", "[J", true)
  | 2 => ("ShipVoices$Matching", "columnDual", "[J", true)
  | 3 => ("ShipVoices$Matching", "slack", "[J", true)
  | 4 => ("ShipVoices$Matching", "columnOf", "[I", true)
  | 5 => ("ShipVoices$Matching", "rowOf", "[I", true)
  | 6 => ("ShipVoices$Matching", "from", "[I", true)
  | 7 => ("ShipVoices$Matching", "queue", "[I", true)
  | 8 => ("ShipVoices$Matching", "seen", "[Z", true)
  | 9 => ("ShipVoices$Matching", "n", "I", false)
  | _ => ("ShipVoices$Matching", "columns", "I", false)
def tyX3 : Nat → FieldType := fun k => match k with
  | 0 => .array .long
  | 1 => .array .long
  | 2 => .array .long
  | 3 => .array .long
  | 4 => .array .int
  | 5 => .array .int
  | 6 => .array .int
  | 7 => .array .int
  | 8 => .array .boolean
  | 9 => .int
  | _ => .int
theorem nmX3 : ∀ a, a < 11 → ∀ b, b < 11 → a ≠ b → (TX3 a).2.1 ≠ (TX3 b).2.1 := by decide +kernel
theorem tyX3_ok : ∀ k, k < 11 → parseFieldDescriptor (TX3 k).2.2.1 = some (tyX3 k) := by decide +kernel
abbrev cX3_init : ByteArray := prog_5_method_1_code
def yX3_init : MethodName := ⟨RX3, "<init>", "()V"⟩
abbrev cX3_begin : ByteArray := prog_5_method_2_code
def yX3_begin : MethodName := ⟨RX3, "begin", "(I)V"⟩
abbrev cX3_allow : ByteArray := prog_5_method_3_code
def yX3_allow : MethodName := ⟨RX3, "allow", "(IIJ)V"⟩
abbrev cX3_squareOf : ByteArray := prog_5_method_4_code
def yX3_squareOf : MethodName := ⟨RX3, "squareOf", "(II)J"⟩
abbrev cX3_followedBy : ByteArray := prog_5_method_5_code
def yX3_followedBy : MethodName := ⟨RX3, "followedBy", "(I)I"⟩
abbrev cX3_solve : ByteArray := prog_5_method_6_code
def yX3_solve : MethodName := ⟨RX3, "solve", "()V"⟩
abbrev cX3_isPosition : ByteArray := prog_5_method_7_code
def yX3_isPosition : MethodName := ⟨RX3, "isPosition", "(I)Z"⟩
abbrev cX3_isColumn : ByteArray := prog_5_method_8_code
def yX3_isColumn : MethodName := ⟨RX3, "isColumn", "(I)Z"⟩
abbrev cX3_price : ByteArray := prog_5_method_9_code
def yX3_price : MethodName := ⟨RX3, "price", "(II)J"⟩
abbrev cX3_isTight : ByteArray := prog_5_method_10_code
def yX3_isTight : MethodName := ⟨RX3, "isTight", "(II)Z"⟩
abbrev cX3_admit : ByteArray := prog_5_method_11_code
def yX3_admit : MethodName := ⟨RX3, "admit", "(I)V"⟩
abbrev cX3_lookFrom : ByteArray := prog_5_method_12_code
def yX3_lookFrom : MethodName := ⟨RX3, "lookFrom", "(II)I"⟩
abbrev cX3_shiftDuals : ByteArray := prog_5_method_13_code
def yX3_shiftDuals : MethodName := ⟨RX3, "shiftDuals", "(IJ)V"⟩
abbrev cX3_moveAlong : ByteArray := prog_5_method_14_code
def yX3_moveAlong : MethodName := ⟨RX3, "moveAlong", "(II)V"⟩
abbrev cX3_place : ByteArray := prog_5_method_15_code
def yX3_place : MethodName := ⟨RX3, "place", "(II)V"⟩
abbrev cX3_fillSpareRows : ByteArray := prog_5_method_16_code
def yX3_fillSpareRows : MethodName := ⟨RX3, "fillSpareRows", "()V"⟩
abbrev cX3_settle : ByteArray := prog_5_method_17_code
def yX3_settle : MethodName := ⟨RX3, "settle", "(I)V"⟩
abbrev cX3_giveColumn : ByteArray := prog_5_method_18_code
def yX3_giveColumn : MethodName := ⟨RX3, "giveColumn", "(II)Z"⟩
abbrev cX3_lookOnFrom : ByteArray := prog_5_method_19_code
def yX3_lookOnFrom : MethodName := ⟨RX3, "lookOnFrom", "(III)I"⟩
def RX4 : String := "ShipVoices$Meeting"
def TX4 : u_T := fun k => match k with
  | _ => ("ShipVoices$Meeting", "second", "I", false)
def tyX4 : Nat → FieldType := fun k => match k with
  | _ => .int
theorem nmX4 : ∀ a, a < 1 → ∀ b, b < 1 → a ≠ b → (TX4 a).2.1 ≠ (TX4 b).2.1 := by decide +kernel
theorem tyX4_ok : ∀ k, k < 1 → parseFieldDescriptor (TX4 k).2.2.1 = some (tyX4 k) := by decide +kernel
abbrev cX4_init : ByteArray := prog_6_method_1_code
def yX4_init : MethodName := ⟨RX4, "<init>", "()V"⟩
abbrev cX4_second : ByteArray := prog_6_method_2_code
def yX4_second : MethodName := ⟨RX4, "second", "()I"⟩
abbrev cX4_find : ByteArray := prog_6_method_3_code
def yX4_find : MethodName := ⟨RX4, "find", "(LShipVoices$Log;III)J"⟩
abbrev cX4_nearestAfter : ByteArray := prog_6_method_4_code
def yX4_nearestAfter : MethodName := ⟨RX4, "nearestAfter", "(JJJJ)J"⟩
abbrev cX4_along : ByteArray := prog_6_method_5_code
def yX4_along : MethodName := ⟨RX4, "along", "(LShipVoices$Log;IIII)J"⟩
abbrev cX4_square : ByteArray := prog_6_method_6_code
def yX4_square : MethodName := ⟨RX4, "square", "(JJ)J"⟩
def RX5 : String := "ShipVoices$Parting"
def TX5 : u_T := fun k => match k with
  | 0 => ("ShipVoices$Parting", "matching", "LShipVoices$Matching;", true)
  | 1 => ("ShipVoices$Parting", "inLog", "[I", true)
  | 2 => ("ShipVoices$Parting", "follows", "[I", true)
  | 3 => ("ShipVoices$Parting", "track", "[I", true)
  | 4 => ("ShipVoices$Parting", "many", "I", false)
  | 5 => ("ShipVoices$Parting", "tracks", "I", false)
  | _ => ("ShipVoices$Parting", "together", "J", false)
def tyX5 : Nat → FieldType := fun k => match k with
  | 0 => .object "ShipVoices$Matching"
  | 1 => .array .int
  | 2 => .array .int
  | 3 => .array .int
  | 4 => .int
  | 5 => .int
  | _ => .long
theorem nmX5 : ∀ a, a < 7 → ∀ b, b < 7 → a ≠ b → (TX5 a).2.1 ≠ (TX5 b).2.1 := by decide +kernel
theorem tyX5_ok : ∀ k, k < 7 → parseFieldDescriptor (TX5 k).2.2.1 = some (tyX5 k) := by decide +kernel
abbrev cX5_init : ByteArray := prog_7_method_1_code
def yX5_init : MethodName := ⟨RX5, "<init>", "()V"⟩
abbrev cX5_together : ByteArray := prog_7_method_2_code
def yX5_together : MethodName := ⟨RX5, "together", "()J"⟩
abbrev cX5_tellOf : ByteArray := prog_7_method_3_code
def yX5_tellOf : MethodName := ⟨RX5, "tellOf", "(II)I"⟩
abbrev cX5_make : ByteArray := prog_7_method_4_code
def yX5_make : MethodName := ⟨RX5, "make", "(LShipVoices$Log;II)I"⟩
abbrev cX5_gather : ByteArray := prog_7_method_5_code
def yX5_gather : MethodName := ⟨RX5, "gather", "(LShipVoices$Log;I)V"⟩
abbrev cX5_insert : ByteArray := prog_7_method_6_code
def yX5_insert : MethodName := ⟨RX5, "insert", "(LShipVoices$Log;I)V"⟩
abbrev cX5_isAhead : ByteArray := prog_7_method_7_code
def yX5_isAhead : MethodName := ⟨RX5, "isAhead", "(LShipVoices$Log;II)Z"⟩
abbrev cX5_allowIfNear : ByteArray := prog_7_method_8_code
def yX5_allowIfNear : MethodName := ⟨RX5, "allowIfNear", "(LShipVoices$Log;III)V"⟩
abbrev cX5_drawTracks : ByteArray := prog_7_method_9_code
def yX5_drawTracks : MethodName := ⟨RX5, "drawTracks", "()V"⟩
def RX6 : String := "ShipVoices$Sender"
def TX6 : u_T := fun k => match k with
  | 0 => ("ShipVoices$Sender", "out", "[B", true)
  | 1 => ("ShipVoices$Sender", "levels", "I", false)
  | 2 => ("ShipVoices$Sender", "level", "I", false)
  | 3 => ("ShipVoices$Sender", "ones", "I", false)
  | _ => ("ShipVoices$Sender", "check", "I", false)
def tyX6 : Nat → FieldType := fun k => match k with
  | 0 => .array .byte
  | 1 => .int
  | 2 => .int
  | 3 => .int
  | _ => .int
theorem nmX6 : ∀ a, a < 5 → ∀ b, b < 5 → a ≠ b → (TX6 a).2.1 ≠ (TX6 b).2.1 := by decide +kernel
theorem tyX6_ok : ∀ k, k < 5 → parseFieldDescriptor (TX6 k).2.2.1 = some (tyX6 k) := by decide +kernel
abbrev cX6_init : ByteArray := prog_8_method_1_code
def yX6_init : MethodName := ⟨RX6, "<init>", "()V"⟩
abbrev cX6_bytes : ByteArray := prog_8_method_2_code
def yX6_bytes : MethodName := ⟨RX6, "bytes", "()I"⟩
abbrev cX6_byteAt : ByteArray := prog_8_method_3_code
def yX6_byteAt : MethodName := ⟨RX6, "byteAt", "(I)I"⟩
abbrev cX6_tell : ByteArray := prog_8_method_4_code
def yX6_tell : MethodName := ⟨RX6, "tell", "(LShipVoices$Telling;)V"⟩
abbrev cX6_addMark : ByteArray := prog_8_method_5_code
def yX6_addMark : MethodName := ⟨RX6, "addMark", "()V"⟩
abbrev cX6_addNumber : ByteArray := prog_8_method_6_code
def yX6_addNumber : MethodName := ⟨RX6, "addNumber", "(II)V"⟩
abbrev cX6_addStuffed : ByteArray := prog_8_method_7_code
def yX6_addStuffed : MethodName := ⟨RX6, "addStuffed", "(I)V"⟩
abbrev cX6_addBit : ByteArray := prog_8_method_8_code
def yX6_addBit : MethodName := ⟨RX6, "addBit", "(I)V"⟩
def RX7 : String := "ShipVoices$Tape"
def TX7 : u_T := fun k => match k with
  | 0 => ("ShipVoices$Tape", "row", "[B", true)
  | _ => ("ShipVoices$Tape", "used", "I", false)
def tyX7 : Nat → FieldType := fun k => match k with
  | 0 => .array .byte
  | _ => .int
theorem nmX7 : ∀ a, a < 2 → ∀ b, b < 2 → a ≠ b → (TX7 a).2.1 ≠ (TX7 b).2.1 := by decide +kernel
theorem tyX7_ok : ∀ k, k < 2 → parseFieldDescriptor (TX7 k).2.2.1 = some (tyX7 k) := by decide +kernel
abbrev cX7_init : ByteArray := prog_9_method_1_code
def yX7_init : MethodName := ⟨RX7, "<init>", "()V"⟩
abbrev cX7_length : ByteArray := prog_9_method_2_code
def yX7_length : MethodName := ⟨RX7, "length", "()I"⟩
abbrev cX7_hasRoomFor : ByteArray := prog_9_method_3_code
def yX7_hasRoomFor : MethodName := ⟨RX7, "hasRoomFor", "(I)Z"⟩
abbrev cX7_addNumber : ByteArray := prog_9_method_4_code
def yX7_addNumber : MethodName := ⟨RX7, "addNumber", "(I)V"⟩
abbrev cX7_cutTo : ByteArray := prog_9_method_5_code
def yX7_cutTo : MethodName := ⟨RX7, "cutTo", "(I)Z"⟩
abbrev cX7_levelAt : ByteArray := prog_9_method_6_code
def yX7_levelAt : MethodName := ⟨RX7, "levelAt", "(I)I"⟩
def RX8 : String := "ShipVoices$Telling"
def TX8 : u_T := fun k => match k with
  | 0 => ("ShipVoices$Telling", "numbers", "[I", true)
  | 1 => ("ShipVoices$Telling", "kind", "I", false)
  | _ => ("ShipVoices$Telling", "ship", "I", false)
def tyX8 : Nat → FieldType := fun k => match k with
  | 0 => .array .int
  | 1 => .int
  | _ => .int
theorem nmX8 : ∀ a, a < 3 → ∀ b, b < 3 → a ≠ b → (TX8 a).2.1 ≠ (TX8 b).2.1 := by decide +kernel
theorem tyX8_ok : ∀ k, k < 3 → parseFieldDescriptor (TX8 k).2.2.1 = some (tyX8 k) := by decide +kernel
abbrev cX8_init : ByteArray := prog_10_method_1_code
def yX8_init : MethodName := ⟨RX8, "<init>", "()V"⟩
abbrev cX8_kind : ByteArray := prog_10_method_2_code
def yX8_kind : MethodName := ⟨RX8, "kind", "()I"⟩
abbrev cX8_ship : ByteArray := prog_10_method_3_code
def yX8_ship : MethodName := ⟨RX8, "ship", "()I"⟩
abbrev cX8_number : ByteArray := prog_10_method_4_code
def yX8_number : MethodName := ⟨RX8, "number", "(I)I"⟩
abbrev cX8_width : ByteArray := prog_10_method_5_code
def yX8_width : MethodName := ⟨RX8, "width", "(I)I"⟩
abbrev cX8_readFrom : ByteArray := prog_10_method_6_code
def yX8_readFrom : MethodName := ⟨RX8, "readFrom", "(LShipVoices$Ear;)V"⟩
abbrev cX8_readAll : ByteArray := prog_10_method_7_code
def yX8_readAll : MethodName := ⟨RX8, "readAll", "(LShipVoices$Ear;)Z"⟩
abbrev cX8_compose : ByteArray := prog_10_method_8_code
def yX8_compose : MethodName := ⟨RX8, "compose", "(IIIIII)Z"⟩
abbrev cX8_isKind : ByteArray := prog_10_method_9_code
def yX8_isKind : MethodName := ⟨RX8, "isKind", "(I)Z"⟩
abbrev cX8_bodyBits : ByteArray := prog_10_method_10_code
def yX8_bodyBits : MethodName := ⟨RX8, "bodyBits", "()I"⟩
abbrev cX8_setNumbers : ByteArray := prog_10_method_11_code
def yX8_setNumbers : MethodName := ⟨RX8, "setNumbers", "(IIII)V"⟩
abbrev cX8_signed : ByteArray := prog_10_method_12_code
def yX8_signed : MethodName := ⟨RX8, "signed", "(II)I"⟩
abbrev cX8_areInFields : ByteArray := prog_10_method_13_code
def yX8_areInFields : MethodName := ⟨RX8, "areInFields", "()Z"⟩
abbrev cX8_fits : ByteArray := prog_10_method_14_code
def yX8_fits : MethodName := ⟨RX8, "fits", "(II)Z"⟩
abbrev cX8_isAsTold : ByteArray := prog_10_method_15_code
def yX8_isAsTold : MethodName := ⟨RX8, "isAsTold", "()Z"⟩
abbrev cX8_areLetters : ByteArray := prog_10_method_16_code
def yX8_areLetters : MethodName := ⟨RX8, "areLetters", "(II)Z"⟩
def RX9 : String := "ShipVoices$TextBook"
def TX9 : u_T := fun k => match k with
  | 0 => ("ShipVoices$TextBook", "usedUp", "[Z", true)
  | 1 => ("ShipVoices$TextBook", "pieces", "[I", true)
  | 2 => ("ShipVoices$TextBook", "whole", "[I", true)
  | 3 => ("ShipVoices$TextBook", "newest", "[I", true)
  | _ => ("ShipVoices$TextBook", "joined", "I", false)
def tyX9 : Nat → FieldType := fun k => match k with
  | 0 => .array .boolean
  | 1 => .array .int
  | 2 => .array .int
  | 3 => .array .int
  | _ => .int
theorem nmX9 : ∀ a, a < 5 → ∀ b, b < 5 → a ≠ b → (TX9 a).2.1 ≠ (TX9 b).2.1 := by decide +kernel
theorem tyX9_ok : ∀ k, k < 5 → parseFieldDescriptor (TX9 k).2.2.1 = some (tyX9 k) := by decide +kernel
abbrev cX9_init : ByteArray := prog_11_method_1_code
def yX9_init : MethodName := ⟨RX9, "<init>", "()V"⟩
abbrev cX9_joined : ByteArray := prog_11_method_2_code
def yX9_joined : MethodName := ⟨RX9, "joined", "()I"⟩
abbrev cX9_wholeWith : ByteArray := prog_11_method_3_code
def yX9_wholeWith : MethodName := ⟨RX9, "wholeWith", "(I)I"⟩
abbrev cX9_lettersIn : ByteArray := prog_11_method_4_code
def yX9_lettersIn : MethodName := ⟨RX9, "lettersIn", "(LShipVoices$Log;I)I"⟩
abbrev cX9_letterOf : ByteArray := prog_11_method_5_code
def yX9_letterOf : MethodName := ⟨RX9, "letterOf", "(LShipVoices$Log;II)I"⟩
abbrev cX9_note : ByteArray := prog_11_method_6_code
def yX9_note : MethodName := ⟨RX9, "note", "(LShipVoices$Log;I)V"⟩
abbrev cX9_findNewest : ByteArray := prog_11_method_7_code
def yX9_findNewest : MethodName := ⟨RX9, "findNewest", "(LShipVoices$Log;II)Z"⟩
abbrev cX9_join : ByteArray := prog_11_method_8_code
def yX9_join : MethodName := ⟨RX9, "join", "(LShipVoices$Log;II)V"⟩
abbrev cX9_areOfOneText : ByteArray := prog_11_method_9_code
def yX9_areOfOneText : MethodName := ⟨RX9, "areOfOneText", "(LShipVoices$Log;II)Z"⟩
def RX10 : String := "ShipVoices"
def TX10 : u_T := fun k => match k with
  | 0 => ("ShipVoices", "tape", "LShipVoices$Tape;", true)
  | 1 => ("ShipVoices", "ear0", "LShipVoices$Ear;", true)
  | 2 => ("ShipVoices", "ear1", "LShipVoices$Ear;", true)
  | 3 => ("ShipVoices", "telling", "LShipVoices$Telling;", true)
  | 4 => ("ShipVoices", "sender", "LShipVoices$Sender;", true)
  | 5 => ("ShipVoices", "log", "LShipVoices$Log;", true)
  | 6 => ("ShipVoices", "clashBook", "LShipVoices$ClashBook;", true)
  | 7 => ("ShipVoices", "textBook", "LShipVoices$TextBook;", true)
  | 8 => ("ShipVoices", "parting", "LShipVoices$Parting;", true)
  | 9 => ("ShipVoices", "meeting", "LShipVoices$Meeting;", true)
  | 10 => ("ShipVoices", "now", "I", false)
  | 11 => ("ShipVoices", "read", "I", false)
  | _ => ("ShipVoices", "strange", "I", false)
def tyX10 : Nat → FieldType := fun k => match k with
  | 0 => .object "ShipVoices$Tape"
  | 1 => .object "ShipVoices$Ear"
  | 2 => .object "ShipVoices$Ear"
  | 3 => .object "ShipVoices$Telling"
  | 4 => .object "ShipVoices$Sender"
  | 5 => .object "ShipVoices$Log"
  | 6 => .object "ShipVoices$ClashBook"
  | 7 => .object "ShipVoices$TextBook"
  | 8 => .object "ShipVoices$Parting"
  | 9 => .object "ShipVoices$Meeting"
  | 10 => .int
  | 11 => .int
  | _ => .int
theorem nmX10 : ∀ a, a < 13 → ∀ b, b < 13 → a ≠ b → (TX10 a).2.1 ≠ (TX10 b).2.1 := by decide +kernel
theorem tyX10_ok : ∀ k, k < 13 → parseFieldDescriptor (TX10 k).2.2.1 = some (tyX10 k) := by decide +kernel
abbrev cX10_init : ByteArray := prog_1_method_1_code
def yX10_init : MethodName := ⟨RX10, "<init>", "()V"⟩
abbrev cX10_feed : ByteArray := prog_1_method_2_code
def yX10_feed : MethodName := ⟨RX10, "feed", "(IIIII)I"⟩
abbrev cX10_end : ByteArray := prog_1_method_3_code
def yX10_end : MethodName := ⟨RX10, "end", "(I)Z"⟩
abbrev cX10_hear : ByteArray := prog_1_method_4_code
def yX10_hear : MethodName := ⟨RX10, "hear", "(I)I"⟩
abbrev cX10_wait : ByteArray := prog_1_method_5_code
def yX10_wait : MethodName := ⟨RX10, "wait", "(I)Z"⟩
abbrev cX10_build : ByteArray := prog_1_method_6_code
def yX10_build : MethodName := ⟨RX10, "build", "(IIIIII)I"⟩
abbrev cX10_octet : ByteArray := prog_1_method_7_code
def yX10_octet : MethodName := ⟨RX10, "octet", "(I)I"⟩
abbrev cX10_message : ByteArray := prog_1_method_8_code
def yX10_message : MethodName := ⟨RX10, "message", "(II)I"⟩
abbrev cX10_part : ByteArray := prog_1_method_9_code
def yX10_part : MethodName := ⟨RX10, "part", "(II)I"⟩
abbrev cX10_cost : ByteArray := prog_1_method_10_code
def yX10_cost : MethodName := ⟨RX10, "cost", "()J"⟩
abbrev cX10_parted : ByteArray := prog_1_method_11_code
def yX10_parted : MethodName := ⟨RX10, "parted", "(II)I"⟩
abbrev cX10_clashes : ByteArray := prog_1_method_12_code
def yX10_clashes : MethodName := ⟨RX10, "clashes", "()I"⟩
abbrev cX10_clash : ByteArray := prog_1_method_13_code
def yX10_clash : MethodName := ⟨RX10, "clash", "(II)I"⟩
abbrev cX10_texts : ByteArray := prog_1_method_14_code
def yX10_texts : MethodName := ⟨RX10, "texts", "()I"⟩
abbrev cX10_text : ByteArray := prog_1_method_15_code
def yX10_text : MethodName := ⟨RX10, "text", "(II)I"⟩
abbrev cX10_letter : ByteArray := prog_1_method_16_code
def yX10_letter : MethodName := ⟨RX10, "letter", "(II)I"⟩
abbrev cX10_meet : ByteArray := prog_1_method_17_code
def yX10_meet : MethodName := ⟨RX10, "meet", "(II)J"⟩
abbrev cX10_when : ByteArray := prog_1_method_18_code
def yX10_when : MethodName := ⟨RX10, "when", "()I"⟩
abbrev cX10_size : ByteArray := prog_1_method_19_code
def yX10_size : MethodName := ⟨RX10, "size", "(I)I"⟩
abbrev cX10_count : ByteArray := prog_1_method_20_code
def yX10_count : MethodName := ⟨RX10, "count", "(I)I"⟩
abbrev cX10_readFrame : ByteArray := prog_1_method_21_code
def yX10_readFrame : MethodName := ⟨RX10, "readFrame", "(LShipVoices$Ear;I)V"⟩
abbrev cX10_checkAfter : ByteArray := prog_1_method_22_code
def yX10_checkAfter : MethodName := ⟨RX10, "checkAfter", "(II)I"⟩
def RX11 : String := "ShipVoicesModel"
def TX11 : u_T := fun k => match k with
  | 0 => ("ShipVoicesModel", "thrown", "I", false)
  | 1 => ("ShipVoicesModel", "tape", "[I", true)
  | 2 => ("ShipVoicesModel", "taped", "I", false)
  | 3 => ("ShipVoicesModel", "levelOf", "[I", true)
  | 4 => ("ShipVoicesModel", "onesOf", "[I", true)
  | 5 => ("ShipVoicesModel", "putOf", "[I", true)
  | 6 => ("ShipVoicesModel", "bits", "[I", true)
  | 7 => ("ShipVoicesModel", "now", "I", false)
  | 8 => ("ShipVoicesModel", "torn", "I", false)
  | 9 => ("ShipVoicesModel", "log", "[I", true)
  | 10 => ("ShipVoicesModel", "used", "[Z", true)
  | 11 => ("ShipVoicesModel", "logged", "I", false)
  | 12 => ("ShipVoicesModel", "many", "I", false)
  | 13 => ("ShipVoicesModel", "strange", "I", false)
  | 14 => ("ShipVoicesModel", "field", "[I", true)
  | 15 => ("ShipVoicesModel", "textShip", "[I", true)
  | 16 => ("ShipVoicesModel", "textRow", "[I", true)
  | 17 => ("ShipVoicesModel", "textMany", "[I", true)
  | 18 => ("ShipVoicesModel", "textBy", "[I", true)
  | 19 => ("ShipVoicesModel", "textLetters", "[I", true)
  | 20 => ("ShipVoicesModel", "texts", "I", false)
  | 21 => ("ShipVoicesModel", "out", "[I", true)
  | 22 => ("ShipVoicesModel", "word", "[I", true)
  | 23 => ("ShipVoicesModel", "outs", "I", false)
  | 24 => ("ShipVoicesModel", "words", "I", false)
  | 25 => ("ShipVoicesModel", "outLevel", "I", false)
  | 26 => ("ShipVoicesModel", "outOnes", "I", false)
  | 27 => ("ShipVoicesModel", "outBits", "I", false)
  | 28 => ("ShipVoicesModel", "place", "[I", true)
  | 29 => ("ShipVoicesModel", "newPlace", "[I", true)
  | 30 => ("ShipVoicesModel", "follows", "[I", true)
  | 31 => ("ShipVoicesModel", "follower", "[I", true)
  | 32 => ("ShipVoicesModel", "track", "[I", true)
  | 33 => ("ShipVoicesModel", "told", "[I", true)
  | 34 => ("ShipVoicesModel", "price", "[J", true)
  | 35 => ("ShipVoicesModel", "may", "[Z", true)
  | 36 => ("ShipVoicesModel", "fixed", "[Z", true)
  | 37 => ("ShipVoicesModel", "places", "I", false)
  | 38 => ("ShipVoicesModel", "cost", "J", false)
  | 39 => ("ShipVoicesModel", "foundCost", "J", false)
  | 40 => ("ShipVoicesModel", "found", "I", false)
  | 41 => ("ShipVoicesModel", "far", "[J", true)
  | 42 => ("ShipVoicesModel", "via", "[I", true)
  | _ => ("ShipVoicesModel", "when", "I", false)
def tyX11 : Nat → FieldType := fun k => match k with
  | 0 => .int
  | 1 => .array .int
  | 2 => .int
  | 3 => .array .int
  | 4 => .array .int
  | 5 => .array .int
  | 6 => .array .int
  | 7 => .int
  | 8 => .int
  | 9 => .array .int
  | 10 => .array .boolean
  | 11 => .int
  | 12 => .int
  | 13 => .int
  | 14 => .array .int
  | 15 => .array .int
  | 16 => .array .int
  | 17 => .array .int
  | 18 => .array .int
  | 19 => .array .int
  | 20 => .int
  | 21 => .array .int
  | 22 => .array .int
  | 23 => .int
  | 24 => .int
  | 25 => .int
  | 26 => .int
  | 27 => .int
  | 28 => .array .int
  | 29 => .array .int
  | 30 => .array .int
  | 31 => .array .int
  | 32 => .array .int
  | 33 => .array .int
  | 34 => .array .long
  | 35 => .array .boolean
  | 36 => .array .boolean
  | 37 => .int
  | 38 => .long
  | 39 => .long
  | 40 => .int
  | 41 => .array .long
  | 42 => .array .int
  | _ => .int
theorem nmX11 : ∀ a, a < 44 → ∀ b, b < 44 → a ≠ b → (TX11 a).2.1 ≠ (TX11 b).2.1 := by decide +kernel
theorem tyX11_ok : ∀ k, k < 44 → parseFieldDescriptor (TX11 k).2.2.1 = some (tyX11 k) := by decide +kernel
abbrev cX11_init : ByteArray := prog_13_method_1_code
def yX11_init : MethodName := ⟨RX11, "<init>", "()V"⟩
abbrev cX11_thrown : ByteArray := prog_13_method_2_code
def yX11_thrown : MethodName := ⟨RX11, "thrown", "()I"⟩
abbrev cX11_refuse : ByteArray := prog_13_method_3_code
def yX11_refuse : MethodName := ⟨RX11, "refuse", "()I"⟩
abbrev cX11_come : ByteArray := prog_13_method_4_code
def yX11_come : MethodName := ⟨RX11, "come", "(I)V"⟩
abbrev cX11_feed : ByteArray := prog_13_method_5_code
def yX11_feed : MethodName := ⟨RX11, "feed", "(IIIII)I"⟩
abbrev cX11_end : ByteArray := prog_13_method_6_code
def yX11_end : MethodName := ⟨RX11, "end", "(I)Z"⟩
abbrev cX11_doubled : ByteArray := prog_13_method_7_code
def yX11_doubled : MethodName := ⟨RX11, "doubled", "(II)I"⟩
abbrev cX11_read : ByteArray := prog_13_method_8_code
def yX11_read : MethodName := ⟨RX11, "read", "(II)I"⟩
abbrev cX11_lose : ByteArray := prog_13_method_9_code
def yX11_lose : MethodName := ⟨RX11, "lose", "(I)V"⟩
abbrev cX11_put : ByteArray := prog_13_method_10_code
def yX11_put : MethodName := ⟨RX11, "put", "(II)V"⟩
abbrev cX11_hears : ByteArray := prog_13_method_11_code
def yX11_hears : MethodName := ⟨RX11, "hears", "(II)Z"⟩
abbrev cX11_ends : ByteArray := prog_13_method_12_code
def yX11_ends : MethodName := ⟨RX11, "ends", "(II)Z"⟩
abbrev cX11_hear : ByteArray := prog_13_method_13_code
def yX11_hear : MethodName := ⟨RX11, "hear", "(I)I"⟩
abbrev cX11_wait : ByteArray := prog_13_method_14_code
def yX11_wait : MethodName := ⟨RX11, "wait", "(I)Z"⟩
abbrev cX11_signed : ByteArray := prog_13_method_15_code
def yX11_signed : MethodName := ⟨RX11, "signed", "(II)I"⟩
abbrev cX11_areLetters : ByteArray := prog_13_method_16_code
def yX11_areLetters : MethodName := ⟨RX11, "areLetters", "(II)Z"⟩
abbrev cX11_fields : ByteArray := prog_13_method_17_code
def yX11_fields : MethodName := ⟨RX11, "fields", "(III)Z"⟩
abbrev cX11_note : ByteArray := prog_13_method_18_code
def yX11_note : MethodName := ⟨RX11, "note", "(II)V"⟩
abbrev cX11_message : ByteArray := prog_13_method_19_code
def yX11_message : MethodName := ⟨RX11, "message", "(II)I"⟩
abbrev cX11_size : ByteArray := prog_13_method_20_code
def yX11_size : MethodName := ⟨RX11, "size", "(I)I"⟩
abbrev cX11_isOf : ByteArray := prog_13_method_21_code
def yX11_isOf : MethodName := ⟨RX11, "isOf", "(II)Z"⟩
abbrev cX11_join : ByteArray := prog_13_method_22_code
def yX11_join : MethodName := ⟨RX11, "join", "(I)V"⟩
abbrev cX11_texts : ByteArray := prog_13_method_23_code
def yX11_texts : MethodName := ⟨RX11, "texts", "()I"⟩
abbrev cX11_text : ByteArray := prog_13_method_24_code
def yX11_text : MethodName := ⟨RX11, "text", "(II)I"⟩
abbrev cX11_letter : ByteArray := prog_13_method_25_code
def yX11_letter : MethodName := ⟨RX11, "letter", "(II)I"⟩
abbrev cX11_isClash : ByteArray := prog_13_method_26_code
def yX11_isClash : MethodName := ⟨RX11, "isClash", "(II)Z"⟩
abbrev cX11_clashOf : ByteArray := prog_13_method_27_code
def yX11_clashOf : MethodName := ⟨RX11, "clashOf", "(I)I"⟩
abbrev cX11_clashes : ByteArray := prog_13_method_28_code
def yX11_clashes : MethodName := ⟨RX11, "clashes", "()I"⟩
abbrev cX11_clash : ByteArray := prog_13_method_29_code
def yX11_clash : MethodName := ⟨RX11, "clash", "(II)I"⟩
abbrev cX11_say : ByteArray := prog_13_method_30_code
def yX11_say : MethodName := ⟨RX11, "say", "(II)V"⟩
abbrev cX11_level : ByteArray := prog_13_method_31_code
def yX11_level : MethodName := ⟨RX11, "level", "(I)V"⟩
abbrev cX11_mark : ByteArray := prog_13_method_32_code
def yX11_mark : MethodName := ⟨RX11, "mark", "()V"⟩
abbrev cX11_isIn : ByteArray := prog_13_method_33_code
def yX11_isIn : MethodName := ⟨RX11, "isIn", "(III)Z"⟩
abbrev cX11_says : ByteArray := prog_13_method_34_code
def yX11_says : MethodName := ⟨RX11, "says", "(IIIII)Z"⟩
abbrev cX11_build : ByteArray := prog_13_method_35_code
def yX11_build : MethodName := ⟨RX11, "build", "(IIIIII)I"⟩
abbrev cX11_octet : ByteArray := prog_13_method_36_code
def yX11_octet : MethodName := ⟨RX11, "octet", "(I)I"⟩
abbrev cX11_isAhead : ByteArray := prog_13_method_37_code
def yX11_isAhead : MethodName := ⟨RX11, "isAhead", "(II)Z"⟩
abbrev cX11_raises : ByteArray := prog_13_method_38_code
def yX11_raises : MethodName := ⟨RX11, "raises", "(I)Z"⟩
abbrev cX11_lowers : ByteArray := prog_13_method_39_code
def yX11_lowers : MethodName := ⟨RX11, "lowers", "(IIJ)Z"⟩
abbrev cX11_solve : ByteArray := prog_13_method_40_code
def yX11_solve : MethodName := ⟨RX11, "solve", "(I)V"⟩
abbrev cX11_part : ByteArray := prog_13_method_41_code
def yX11_part : MethodName := ⟨RX11, "part", "(II)I"⟩
abbrev cX11_isFree : ByteArray := prog_13_method_42_code
def yX11_isFree : MethodName := ⟨RX11, "isFree", "(II)Z"⟩
abbrev cX11_goesOn : ByteArray := prog_13_method_43_code
def yX11_goesOn : MethodName := ⟨RX11, "goesOn", "(II)Z"⟩
abbrev cX11_cost : ByteArray := prog_13_method_44_code
def yX11_cost : MethodName := ⟨RX11, "cost", "()J"⟩
abbrev cX11_parted : ByteArray := prog_13_method_45_code
def yX11_parted : MethodName := ⟨RX11, "parted", "(II)I"⟩
abbrev cX11_latest : ByteArray := prog_13_method_46_code
def yX11_latest : MethodName := ⟨RX11, "latest", "(I)I"⟩
abbrev cX11_gap : ByteArray := prog_13_method_47_code
def yX11_gap : MethodName := ⟨RX11, "gap", "(III)J"⟩
abbrev cX11_meet : ByteArray := prog_13_method_48_code
def yX11_meet : MethodName := ⟨RX11, "meet", "(II)J"⟩
abbrev cX11_when : ByteArray := prog_13_method_49_code
def yX11_when : MethodName := ⟨RX11, "when", "()I"⟩
abbrev cX11_count : ByteArray := prog_13_method_50_code
def yX11_count : MethodName := ⟨RX11, "count", "(I)I"⟩
def RJ6 : String := "java/lang/Integer"
def TJ6 : u_T := fun k => match k with
  | _ => ("", "", "", false)
def tyJ6 : Nat → FieldType := fun k => match k with
  | _ => .int
theorem nmJ6 : ∀ a, a < 0 → ∀ b, b < 0 → a ≠ b → (TJ6 a).2.1 ≠ (TJ6 b).2.1 := by decide +kernel
theorem tyJ6_ok : ∀ k, k < 0 → parseFieldDescriptor (TJ6 k).2.2.1 = some (tyJ6 k) := by decide +kernel
abbrev cJ6_compare_7cf53 : ByteArray := prog_15_method_40_code
def yJ6_compare_7cf53 : MethodName := ⟨RJ6, "compare", "(II)I"⟩
def RJ9 : String := "java/lang/Math"
def TJ9 : u_T := fun k => match k with
  | _ => ("", "", "", false)
def tyJ9 : Nat → FieldType := fun k => match k with
  | _ => .int
theorem nmJ9 : ∀ a, a < 0 → ∀ b, b < 0 → a ≠ b → (TJ9 a).2.1 ≠ (TJ9 b).2.1 := by decide +kernel
theorem tyJ9_ok : ∀ k, k < 0 → parseFieldDescriptor (TJ9 k).2.2.1 = some (tyJ9 k) := by decide +kernel
abbrev cJ9_floorDiv_f86c9 : ByteArray := prog_16_method_49_code
def yJ9_floorDiv_f86c9 : MethodName := ⟨RJ9, "floorDiv", "(JJ)J"⟩
abbrev cJ9_max_7cf53 : ByteArray := prog_16_method_65_code
def yJ9_max_7cf53 : MethodName := ⟨RJ9, "max", "(II)I"⟩
abbrev cJ9_max_f86c9 : ByteArray := prog_16_method_66_code
def yJ9_max_f86c9 : MethodName := ⟨RJ9, "max", "(JJ)J"⟩
abbrev cJ9_min_7cf53 : ByteArray := prog_16_method_69_code
def yJ9_min_7cf53 : MethodName := ⟨RJ9, "min", "(II)I"⟩
abbrev cJ9_min_f86c9 : ByteArray := prog_16_method_70_code
def yJ9_min_f86c9 : MethodName := ⟨RJ9, "min", "(JJ)J"⟩
def RJ0 : String := "java/lang/String"
def TJ0 : u_T := fun k => match k with
  | _ => ("", "", "", false)
def tyJ0 : Nat → FieldType := fun k => match k with
  | _ => .int
theorem nmJ0 : ∀ a, a < 0 → ∀ b, b < 0 → a ≠ b → (TJ0 a).2.1 ≠ (TJ0 b).2.1 := by decide +kernel
theorem tyJ0_ok : ∀ k, k < 0 → parseFieldDescriptor (TJ0 k).2.2.1 = some (tyJ0 k) := by decide +kernel
def RL : String := "ShipVoicesLaw"
abbrev cL_octet : ByteArray := method_3_code
def yL_octet : MethodName := ⟨RL, "octet", "(LShipVoices;I[J)I"⟩
abbrev cL_message : ByteArray := method_4_code
def yL_message : MethodName := ⟨RL, "message", "(LShipVoices;II[J)I"⟩
abbrev cL_clash : ByteArray := method_5_code
def yL_clash : MethodName := ⟨RL, "clash", "(LShipVoices;II[J)I"⟩
abbrev cL_text : ByteArray := method_6_code
def yL_text : MethodName := ⟨RL, "text", "(LShipVoices;II[J)I"⟩
abbrev cL_letter : ByteArray := method_7_code
def yL_letter : MethodName := ⟨RL, "letter", "(LShipVoices;II[J)I"⟩
abbrev cL_law : ByteArray := code
def yL_law : MethodName := ⟨RL, "law", "([I)Z"⟩
abbrev vwCl : List vw_C := [(RX0, TX0, 2), (RX1, TX1, 6), (RX2, TX2, 2), (RX3, TX3, 11), (RX4, TX4, 1), (RX5, TX5, 7), (RX6, TX6, 5), (RX7, TX7, 2), (RX8, TX8, 3), (RX9, TX9, 5), (RX10, TX10, 13), (RX11, TX11, 44)]
end
section
/-! A static memory over the kit's worlds: all cells are made by the constructors; a state is two functions -/
def GW : List Cond := lw_tbl.filter goodWord
theorem gw_R {w : Cond} (k : Nat) (h : tables_1[k]? = some w) (hg : goodWord w = true) : w ∈ GW := List.mem_filter.mpr ⟨List.mem_append_right _ (List.mem_of_getElem? h), hg⟩
theorem gw_L {w : Cond} (k : Nat) (h : (k2_sels lw_privs)[k]? = some w) (hg : goodWord w = true) : w ∈ GW := List.mem_filter.mpr ⟨List.mem_append_left _ (List.mem_of_getElem? h), hg⟩
theorem gw_all {ws : List Cond} (ps : List Nat) (hp : ws = ps.filterMap (fun i => tables_1[i]?)) (h : ws.all goodWord = true) : ∀ w ∈ ws, w ∈ GW := by
  intro w hw
  have h1 := List.all_eq_true.mp h w hw
  rw [hp] at hw
  obtain ⟨i, -, hi⟩ := List.mem_filterMap.mp hw
  exact gw_R i hi h1
theorem gw_good {w : Cond} (h : w ∈ GW) : (w.onTables && w.keeps) = true ∨ ∃ ty, w = .arrayClass ty := good_of_word (List.mem_filter.mp h).2
abbrev Mem : Type := (Nat → Nat → Int32) × (Nat → Nat → Int64)
def putI (M : Mem) (c k : Nat) (v : Int32) : Mem := (fun a b => if a = c then (if b = k then v else M.1 a b) else M.1 a b, M.2)
def putL (M : Mem) (c k : Nat) (v : Int64) : Mem := (M.1, fun a b => if a = c then (if b = k then v else M.2 a b) else M.2 a b)
/-- dC, dI, addresses, array kinds (0 byte, 1 int, 2 long, 3 boolean), the first address that is ours, the address of WIDTHS -/
abbrev EX : Type := (Nat → ClassId) × (Nat → Nat → Nat) × (Nat → Nat) × (Nat → ClassId) × Nat × Nat
abbrev eD (E : EX) : va_G := (E.1, E.2.1)
abbrev eA (E : EX) : Nat → Nat := E.2.2.1
abbrev eC (E : EX) : Nat → ClassId := E.2.2.2.1
abbrev eB (E : EX) : Nat := E.2.2.2.2.1
abbrev eW (E : EX) : Nat := E.2.2.2.2.2
abbrev SHP : Type := (Nat × Nat) ⊕ (Nat × List Nat)
def shL : List SHP := [
  /- 0 x -/ .inr (10, [3, 5, 7, 9, 11, 13, 15, 17, 22, 36, 0, 0, 0]),
  /- 1 x.tape -/ .inr (7, [4, 0]),
  /- 2 x.tape.row -/ .inl (0, 400),
  /- 3 x.ear0 -/ .inr (1, [6, 0, 0, 0, 0, 0]),
  /- 4 x.ear0.bits -/ .inl (0, 300),
  /- 5 x.ear1 -/ .inr (1, [8, 0, 0, 0, 0, 0]),
  /- 6 x.ear1.bits -/ .inl (0, 300),
  /- 7 x.telling -/ .inr (8, [10, 0, 0]),
  /- 8 x.telling.numbers -/ .inl (1, 4),
  /- 9 x.sender -/ .inr (6, [12, 0, 0, 0, 0]),
  /- 10 x.sender.out -/ .inl (0, 16),
  /- 11 x.log -/ .inr (2, [14, 0]),
  /- 12 x.log.cells -/ .inl (1, 1600),
  /- 13 x.clashBook -/ .inr (0, [16, 0]),
  /- 14 x.clashBook.made -/ .inl (1, 200),
  /- 15 x.textBook -/ .inr (9, [18, 19, 20, 21, 0]),
  /- 16 x.textBook.usedUp -/ .inl (3, 200),
  /- 17 x.textBook.pieces -/ .inl (1, 500),
  /- 18 x.textBook.whole -/ .inl (1, 100),
  /- 19 x.textBook.newest -/ .inl (1, 5),
  /- 20 x.parting -/ .inr (5, [23, 33, 34, 35, 0, 0, 1]),
  /- 21 x.parting.matching -/ .inr (3, [24, 25, 26, 27, 28, 29, 30, 31, 32, 0, 0]),
  /- 22 x.parting.matching.squares -/ .inl (2, 256),
  /- 23 x.parting.matching.rowDual -/ .inl (2, 32),
  /- 24 x.parting.matching.columnDual -/ .inl (2, 32),
  /- 25 x.parting.matching.slack -/ .inl (2, 32),
  /- 26 x.parting.matching.columnOf -/ .inl (1, 32),
  /- 27 x.parting.matching.rowOf -/ .inl (1, 32),
  /- 28 x.parting.matching.from -/ .inl (1, 32),
  /- 29 x.parting.matching.queue -/ .inl (1, 32),
  /- 30 x.parting.matching.seen -/ .inl (3, 32),
  /- 31 x.parting.inLog -/ .inl (1, 16),
  /- 32 x.parting.follows -/ .inl (1, 16),
  /- 33 x.parting.track -/ .inl (1, 16),
  /- 34 x.meeting -/ .inr (4, [0]),
  /- 35 m -/ .inr (11, [0, 38, 0, 39, 40, 41, 42, 0, 0, 43, 44, 0, 0, 0, 45, 46, 47, 48, 49, 50, 0, 51, 52, 0, 0, 0, 0, 0, 53, 54, 55, 56, 57, 58, 59, 60, 61, 0, 1, 1, 0, 62, 63, 0]),
  /- 36 m.tape -/ .inl (1, 400),
  /- 37 m.levelOf -/ .inl (1, 2),
  /- 38 m.onesOf -/ .inl (1, 2),
  /- 39 m.putOf -/ .inl (1, 2),
  /- 40 m.bits -/ .inl (1, 600),
  /- 41 m.log -/ .inl (1, 1600),
  /- 42 m.used -/ .inl (3, 200),
  /- 43 m.field -/ .inl (1, 4),
  /- 44 m.textShip -/ .inl (1, 100),
  /- 45 m.textRow -/ .inl (1, 100),
  /- 46 m.textMany -/ .inl (1, 100),
  /- 47 m.textBy -/ .inl (1, 100),
  /- 48 m.textLetters -/ .inl (1, 500),
  /- 49 m.out -/ .inl (1, 60),
  /- 50 m.word -/ .inl (1, 120),
  /- 51 m.place -/ .inl (1, 16),
  /- 52 m.newPlace -/ .inl (1, 16),
  /- 53 m.follows -/ .inl (1, 16),
  /- 54 m.follower -/ .inl (1, 16),
  /- 55 m.track -/ .inl (1, 16),
  /- 56 m.told -/ .inl (1, 16),
  /- 57 m.price -/ .inl (2, 256),
  /- 58 m.may -/ .inl (3, 256),
  /- 59 m.fixed -/ .inl (3, 16),
  /- 60 m.far -/ .inl (2, 16),
  /- 61 m.via -/ .inl (1, 16),
  /- 62 out -/ .inl (2, 1)]
def fval (E : EX) (M : Mem) (c k : Nat) (kd : Nat) : Value := match kd with
  | 0 => .int (M.1 c k)
  | 1 => .long (M.2 c k)
  | n + 2 => .ref (eA E n)
def cellE (E : EX) (M : Mem) (c : Nat) (h : SHP) : va_E := match h with
  | .inl (t, n) => if t = 2 then .inl (eC E 2, n, .inr (.inl (M.2 c))) else .inl (eC E t, n, .inl (M.1 c))
  | .inr (ci, ks) => .inr (ci, (List.range ks.length).map fun k => fval E M c k (ks.getD k 0))
def pic (E : EX) (M : Mem) : va_W := shL.zipIdx.map fun q => (eA E q.2, cellE E M q.2 q.1)
theorem pic_at {E : EX} {M : Mem} {c : Nat} {h : SHP} (hs : shL[c]? = some h) : (pic E M)[c]? = some (eA E c, cellE E M c h) := by
  unfold pic
  rw [List.getElem?_map, List.getElem?_zipIdx, hs]
  simp
theorem pic_back {E : EX} {M : Mem} {c : Nat} {q : Nat × va_E} (h : (pic E M)[c]? = some q) : ∃ s, shL[c]? = some s ∧ q = (eA E c, cellE E M c s) := by
  cases hs : shL[c]? with
  | none =>
    unfold pic at h
    rw [List.getElem?_map, List.getElem?_zipIdx, hs] at h
    simp at h
  | some s => exact ⟨s, rfl, Option.some.inj (h.symm.trans (pic_at hs))⟩
theorem cellE_congr {E : EX} {M M' : Mem} {c : Nat} {h : SHP} (h1 : M'.1 c = M.1 c) (h2 : M'.2 c = M.2 c) : cellE E M' c h = cellE E M c h := by
  cases h with
  | inl q => simp only [cellE, h1, h2]
  | inr q =>
    simp only [cellE]
    congr 2
    refine List.map_congr_left fun k _ => ?_
    unfold fval
    split <;> simp only [h1, h2]
theorem pic_set {E : EX} {M M' : Mem} {c : Nat} {h : SHP} {x : va_E} (hs : shL[c]? = some h) (hx : cellE E M' c h = x) (ho : ∀ c', c' ≠ c → M'.1 c' = M.1 c' ∧ M'.2 c' = M.2 c') : (pic E M).set c (eA E c, x) = pic E M' := by
  refine List.ext_getElem? fun i => ?_
  rw [List.getElem?_set]
  by_cases hi : c = i
  · subst hi
    rw [if_pos rfl, if_pos (by
      have := pic_at (E := E) (M := M) hs
      exact (List.getElem?_eq_some_iff.mp this).1), pic_at hs, hx]
  · rw [if_neg hi]
    cases hs' : shL[i]? with
    | none =>
      have hn : ∀ N : Mem, (pic E N)[i]? = none := fun N => by
        unfold pic
        rw [List.getElem?_map, List.getElem?_zipIdx, hs']
        rfl
      rw [hn, hn]
    | some s => rw [pic_at hs', pic_at hs', cellE_congr (ho i (fun q => hi q.symm)).1 (ho i (fun q => hi q.symm)).2]
theorem putI_ne1 {M : Mem} {c k c' : Nat} {v : Int32} (h : c' ≠ c) : (putI M c k v).1 c' = M.1 c' := by funext b; simp [putI, h]
theorem putI_2 {M : Mem} {c k : Nat} {v : Int32} : (putI M c k v).2 = M.2 := rfl
theorem putL_1 {M : Mem} {c k : Nat} {v : Int64} : (putL M c k v).1 = M.1 := rfl
theorem putL_ne2 {M : Mem} {c k c' : Nat} {v : Int64} (h : c' ≠ c) : (putL M c k v).2 c' = M.2 c' := by funext b; simp [putL, h]
theorem putI_same {M : Mem} {c k : Nat} {v : Int32} : (putI M c k v).1 c k = v := by simp [putI]
theorem putI_k {M : Mem} {c k k' : Nat} {v : Int32} (h : k' ≠ k) : (putI M c k v).1 c k' = M.1 c k' := by simp [putI, h]
theorem putL_same {M : Mem} {c k : Nat} {v : Int64} : (putL M c k v).2 c k = v := by simp [putL]
theorem putL_k {M : Mem} {c k k' : Nat} {v : Int64} (h : k' ≠ k) : (putL M c k v).2 c k' = M.2 c k' := by simp [putL, h]
theorem putI_upd {M : Mem} {c k : Nat} {v : Int32} : (putI M c k v).1 c = upd (M.1 c) k v := by funext b; simp [putI, upd]
theorem putL_upd {M : Mem} {c k : Nat} {v : Int64} : (putL M c k v).2 c = vp_updL (M.2 c) k v := by funext b; simp [putL, vp_updL]
/-- what may change: everything from the first address of ours on -/
def AE (E : EX) : Nat → Prop := fun q => eB E ≤ q
abbrev tysE (E : EX) : List (ClassId × FieldType) := [(eC E 0, .byte), (eC E 1, .int), (eC E 2, .long), (eC E 3, .boolean)]
def EH (E : EX) : Prop := (∀ i j, i < shL.length → j < shL.length → eA E i = eA E j → i = j) ∧ ∀ i, i < shL.length → eB E ≤ eA E i
theorem EH.D {E : EX} (h : EH E) (M : Mem) : va_D (AE E) (pic E M) := by
  refine ⟨fun i j p q hp hq e => ?_, fun k q hk => ?_⟩
  · obtain ⟨s, hs, rfl⟩ := pic_back hp
    obtain ⟨s', hs', rfl⟩ := pic_back hq
    exact h.1 i j (List.getElem?_eq_some_iff.mp hs).1 (List.getElem?_eq_some_iff.mp hs').1 e
  · obtain ⟨s, hs, rfl⟩ := pic_back hk
    exact h.2 k (List.getElem?_eq_some_iff.mp hs).1
def widL : List Int32 := [16, 16, 8, 8, 15, 15, 8, 0, 31, 0, 0, 0, 3, 3, 3, 20, 12, 3, 0, 0]
def wid (j : Nat) : Int32 := widL.getD j 0
/-- what is there from the start, and stays -/
def SF (E : EX) (U : State) : Prop :=
  va_Z "ShipVoices$Telling" "WIDTHS" "[I" (.ref (eW E)) (AE E) U U.heap ∧ va_T .int (eW E) 20 (fun j => .int (wid j)) (AE E) U U.heap ∧
  vx_Zq Bundle.tN "UNASSIGNED_STACK" Bundle.steD (AE E) U U.heap ∧ vx_Zq Bundle.tN "SUPPRESSED_SENTINEL" Bundle.listD (AE E) U U.heap ∧
  (∃ sa, vk_R "ShipVoices" 126 "no such byte" sa U) ∧ (∃ sa, vk_R "ShipVoices" 137 "no such message" sa U) ∧ (∃ sa, vk_R "ShipVoices" 157 "no such clash" sa U) ∧ (∃ sa, vk_R "ShipVoices" 168 "no such text" sa U) ∧ (∃ sa, vk_R "ShipVoices" 177 "no such letter" sa U)
end
section
/-! the walk over the static memory: G says that from here the method comes to its end Z -/
abbrev MD : Type := String × ByteArray × Nat × Option FieldType × Room
abbrev GX : Type := Program × Launch × Env × Room × State × MethodId × Array Value × List Frame × Method × Code × (State → Prop)
def KH (p : Program) (l : Launch) (R : Room) (s : State) (m : MethodId) (args : Array Value) (meth : Method) (c : Code) (E : EX) (md : MD) : Prop :=
  p.tables.exec = Jvm.exec ∧ c.code = md.2.1 ∧ c.maxLocals = md.2.2.1 ∧ s.vm.findClass md.1 = some m.cls ∧ (∀ w ∈ GW, w.before args s = true) ∧ va_K (eD E) vwCl (tysE E) s ∧ SF E s ∧ EH E ∧ meth.sig.returnType = md.2.2.2.1 ∧ meth.locks = false ∧ R = md.2.2.2.2 ∧ l.stackTraces = false
def G (x : GX) (E : EX) (md : MD) (nc ns pc : Nat) (lv : List (Nat × Value)) (st : List Value) (M : Mem) : Prop :=
  match x with
  | (p, l, e, R, s, m, args, below, meth, c, Z) => KH p l R s m args meth c E md → ∀ (H : Heap) (locs : List Loc) (ls : Array Slot), va_P (eD E) vwCl (pic E M) H → va_S (AE E) s.heap H locs → lv_has ls md.2.2.1 lv → W p l e R s m args below meth c H locs nc ns Z (F0 m pc ls st)
def FG (own : String) (idx c k kd : Nat) : Prop := ∃ (ci : Nat) (ks : List Nat) (C : String) (T : u_T) (N : Nat), shL[c]? = some (.inr (ci, ks)) ∧ ks[k]? = some kd ∧ vwCl[ci]? = some (C, T, N) ∧ k < N ∧ ks.length = N ∧ Cond.fieldLink own idx (T k).1 (T k).2.1 (T k).2.2.1 ∈ GW ∧ ∀ w ∈ u_ws C T N, w ∈ GW
def FP (own : String) (idx c k kd : Nat) (ty : FieldType) : Prop := ∃ (ci : Nat) (ks : List Nat) (C : String) (T : u_T) (N : Nat) (ty0 : Nat → FieldType), shL[c]? = some (.inr (ci, ks)) ∧ ks[k]? = some kd ∧ vwCl[ci]? = some (C, T, N) ∧ k < N ∧ ks.length = N ∧ Cond.fieldLink own idx (T k).1 (T k).2.1 (T k).2.2.1 ∈ GW ∧ (∀ w ∈ u_ws C T N, w ∈ GW) ∧ (∀ k, k < N → parseFieldDescriptor (T k).2.2.1 = some (ty0 k)) ∧ (∀ a, a < N → ∀ b, b < N → a ≠ b → (T a).2.1 ≠ (T b).2.1) ∧ (T k).2.2.2 = false ∧ parseFieldDescriptor (T k).2.2.1 = some ty
theorem fs_at {E : EX} {M : Mem} {c k kd : Nat} {ks : List Nat} (hk : ks[k]? = some kd) : ((List.range ks.length).map fun k => fval E M c k (ks.getD k 0))[k]? = some (fval E M c k kd) := by
  have hl := (List.getElem?_eq_some_iff.mp hk).1
  rw [List.getElem?_map, List.getElem?_range hl]
  simp [List.getD, hk]
theorem fs_set {E : EX} {M M' : Mem} {c k kd : Nat} {ks : List Nat} {v : Value} (hk : ks[k]? = some kd) (hv : fval E M' c k kd = v) (ho : ∀ j kd', j ≠ k → fval E M' c j kd' = fval E M c j kd') : ((List.range ks.length).map fun k => fval E M c k (ks.getD k 0)).set k v = (List.range ks.length).map fun k => fval E M' c k (ks.getD k 0) := by
  refine List.ext_getElem? fun i => ?_
  have hl := (List.getElem?_eq_some_iff.mp hk).1
  rw [List.getElem?_set]
  by_cases hi : k = i
  · subst hi
    rw [if_pos rfl, if_pos (by simpa using hl), fs_at hk, hv]
  · rw [if_neg hi]
    by_cases hb : i < ks.length
    · rw [List.getElem?_map, List.getElem?_map, List.getElem?_range hb]
      show some (fval E M c i (ks.getD i 0)) = some (fval E M' c i (ks.getD i 0))
      rw [ho i _ (fun q => hi q.symm)]
    · have e1 : (List.range ks.length)[i]? = none := by simp; omega
      rw [List.getElem?_map, List.getElem?_map, e1]
      rfl
section Rows
variable {x : GX} {E : EX} {md : MD} {nc ns pc q : Nat} {lv lv' : List (Nat × Value)} {st : List Value} {M : Mem}
theorem g_iadd {a b : Int32} (d : decode md.2.1 pc = .ok (.iadd, 1)) (hq : pc + 1 = q) (k : G x E md nc ns q lv (.int (a + b) :: st) M) : G x E md nc ns pc lv (.int b :: .int a :: st) M := by
  obtain ⟨p, l, e, R, s, m, args, below, meth, c, Z⟩ := x; intro hK H locs ls hP hS hl; subst hq; exact lv_iadd hK.1 hK.2.1 d (k hK H locs ls hP hS hl)
theorem g_isub {a b : Int32} (d : decode md.2.1 pc = .ok (.isub, 1)) (hq : pc + 1 = q) (k : G x E md nc ns q lv (.int (a - b) :: st) M) : G x E md nc ns pc lv (.int b :: .int a :: st) M := by
  obtain ⟨p, l, e, R, s, m, args, below, meth, c, Z⟩ := x; intro hK H locs ls hP hS hl; subst hq; exact lv_isub hK.1 hK.2.1 d (k hK H locs ls hP hS hl)
theorem g_imul {a b : Int32} (d : decode md.2.1 pc = .ok (.imul, 1)) (hq : pc + 1 = q) (k : G x E md nc ns q lv (.int (a * b) :: st) M) : G x E md nc ns pc lv (.int b :: .int a :: st) M := by
  obtain ⟨p, l, e, R, s, m, args, below, meth, c, Z⟩ := x; intro hK H locs ls hP hS hl; subst hq; exact lv_imul hK.1 hK.2.1 d (k hK H locs ls hP hS hl)
theorem g_iand {a b : Int32} (d : decode md.2.1 pc = .ok (.iand, 1)) (hq : pc + 1 = q) (k : G x E md nc ns q lv (.int (a &&& b) :: st) M) : G x E md nc ns pc lv (.int b :: .int a :: st) M := by
  obtain ⟨p, l, e, R, s, m, args, below, meth, c, Z⟩ := x; intro hK H locs ls hP hS hl; subst hq; exact lv_iand hK.1 hK.2.1 d (k hK H locs ls hP hS hl)
theorem g_ior {a b : Int32} (d : decode md.2.1 pc = .ok (.ior, 1)) (hq : pc + 1 = q) (k : G x E md nc ns q lv (.int (a ||| b) :: st) M) : G x E md nc ns pc lv (.int b :: .int a :: st) M := by
  obtain ⟨p, l, e, R, s, m, args, below, meth, c, Z⟩ := x; intro hK H locs ls hP hS hl; subst hq; exact lv_ior hK.1 hK.2.1 d (k hK H locs ls hP hS hl)
theorem g_ixor {a b : Int32} (d : decode md.2.1 pc = .ok (.ixor, 1)) (hq : pc + 1 = q) (k : G x E md nc ns q lv (.int (a ^^^ b) :: st) M) : G x E md nc ns pc lv (.int b :: .int a :: st) M := by
  obtain ⟨p, l, e, R, s, m, args, below, meth, c, Z⟩ := x; intro hK H locs ls hP hS hl; subst hq; exact lv_ixor hK.1 hK.2.1 d (k hK H locs ls hP hS hl)
theorem g_ishl {a b : Int32} (d : decode md.2.1 pc = .ok (.ishl, 1)) (hq : pc + 1 = q) (k : G x E md nc ns q lv (.int (a <<< (b &&& 31)) :: st) M) : G x E md nc ns pc lv (.int b :: .int a :: st) M := by
  obtain ⟨p, l, e, R, s, m, args, below, meth, c, Z⟩ := x; intro hK H locs ls hP hS hl; subst hq; exact lv_ishl hK.1 hK.2.1 d (k hK H locs ls hP hS hl)
theorem g_ishr {a b : Int32} (d : decode md.2.1 pc = .ok (.ishr, 1)) (hq : pc + 1 = q) (k : G x E md nc ns q lv (.int (a >>> (b &&& 31)) :: st) M) : G x E md nc ns pc lv (.int b :: .int a :: st) M := by
  obtain ⟨p, l, e, R, s, m, args, below, meth, c, Z⟩ := x; intro hK H locs ls hP hS hl; subst hq; exact lv_ishr hK.1 hK.2.1 d (k hK H locs ls hP hS hl)
theorem g_ladd {a b : Int64} (d : decode md.2.1 pc = .ok (.ladd, 1)) (hq : pc + 1 = q) (k : G x E md nc ns q lv (.long (a + b) :: st) M) : G x E md nc ns pc lv (.long b :: .long a :: st) M := by
  obtain ⟨p, l, e, R, s, m, args, below, meth, c, Z⟩ := x; intro hK H locs ls hP hS hl; subst hq; exact lv_ladd hK.1 hK.2.1 d (k hK H locs ls hP hS hl)
theorem g_lsub {a b : Int64} (d : decode md.2.1 pc = .ok (.lsub, 1)) (hq : pc + 1 = q) (k : G x E md nc ns q lv (.long (a - b) :: st) M) : G x E md nc ns pc lv (.long b :: .long a :: st) M := by
  obtain ⟨p, l, e, R, s, m, args, below, meth, c, Z⟩ := x; intro hK H locs ls hP hS hl; subst hq; exact lv_lsub hK.1 hK.2.1 d (k hK H locs ls hP hS hl)
theorem g_lmul {a b : Int64} (d : decode md.2.1 pc = .ok (.lmul, 1)) (hq : pc + 1 = q) (k : G x E md nc ns q lv (.long (a * b) :: st) M) : G x E md nc ns pc lv (.long b :: .long a :: st) M := by
  obtain ⟨p, l, e, R, s, m, args, below, meth, c, Z⟩ := x; intro hK H locs ls hP hS hl; subst hq; exact lv_lmul hK.1 hK.2.1 d (k hK H locs ls hP hS hl)
theorem g_lxor {a b : Int64} (d : decode md.2.1 pc = .ok (.lxor, 1)) (hq : pc + 1 = q) (k : G x E md nc ns q lv (.long (a ^^^ b) :: st) M) : G x E md nc ns pc lv (.long b :: .long a :: st) M := by
  obtain ⟨p, l, e, R, s, m, args, below, meth, c, Z⟩ := x; intro hK H locs ls hP hS hl; subst hq; exact lv_lxor hK.1 hK.2.1 d (k hK H locs ls hP hS hl)
theorem g_ineg {a : Int32} (d : decode md.2.1 pc = .ok (.ineg, 1)) (hq : pc + 1 = q) (k : G x E md nc ns q lv (.int (-a) :: st) M) : G x E md nc ns pc lv (.int a :: st) M := by
  obtain ⟨p, l, e, R, s, m, args, below, meth, c, Z⟩ := x; intro hK H locs ls hP hS hl; subst hq; exact lv_ineg hK.1 hK.2.1 d (k hK H locs ls hP hS hl)
theorem g_lneg {a : Int64} (d : decode md.2.1 pc = .ok (.lneg, 1)) (hq : pc + 1 = q) (k : G x E md nc ns q lv (.long (-a) :: st) M) : G x E md nc ns pc lv (.long a :: st) M := by
  obtain ⟨p, l, e, R, s, m, args, below, meth, c, Z⟩ := x; intro hK H locs ls hP hS hl; subst hq; exact lv_lneg hK.1 hK.2.1 d (k hK H locs ls hP hS hl)
theorem g_iushr {a b : Int32} (d : decode md.2.1 pc = .ok (.iushr, 1)) (hq : pc + 1 = q) (k : G x E md nc ns q lv (.int ((a.toUInt32 >>> (b.toUInt32 &&& Int32.toUInt32 31)).toInt32) :: st) M) : G x E md nc ns pc lv (.int b :: .int a :: st) M := by
  obtain ⟨p, l, e, R, s, m, args, below, meth, c, Z⟩ := x; intro hK H locs ls hP hS hl; subst hq; exact lv_iushr hK.1 hK.2.1 d rfl (k hK H locs ls hP hS hl)
theorem g_idiv {a b : Int32} (d : decode md.2.1 pc = .ok (.idiv, 1)) (hne : ¬ b = 0) (hq : pc + 1 = q) (k : G x E md nc ns q lv (.int (a / b) :: st) M) : G x E md nc ns pc lv (.int b :: .int a :: st) M := by
  obtain ⟨p, l, e, R, s, m, args, below, meth, c, Z⟩ := x; intro hK H locs ls hP hS hl; subst hq; exact lv_idiv hK.1 hK.2.1 d hne (k hK H locs ls hP hS hl)
theorem g_irem {a b : Int32} (d : decode md.2.1 pc = .ok (.irem, 1)) (hne : ¬ b = 0) (hq : pc + 1 = q) (k : G x E md nc ns q lv (.int (a - a / b * b) :: st) M) : G x E md nc ns pc lv (.int b :: .int a :: st) M := by
  obtain ⟨p, l, e, R, s, m, args, below, meth, c, Z⟩ := x; intro hK H locs ls hP hS hl; subst hq; exact lv_irem hK.1 hK.2.1 d hne (k hK H locs ls hP hS hl)
theorem g_ldiv {a b : Int64} (d : decode md.2.1 pc = .ok (.ldiv, 1)) (hne : ¬ b = 0) (hq : pc + 1 = q) (k : G x E md nc ns q lv (.long (a / b) :: st) M) : G x E md nc ns pc lv (.long b :: .long a :: st) M := by
  obtain ⟨p, l, e, R, s, m, args, below, meth, c, Z⟩ := x; intro hK H locs ls hP hS hl; subst hq; exact lv_ldiv hK.1 hK.2.1 d hne (k hK H locs ls hP hS hl)
theorem g_i2b {a : Int32} (d : decode md.2.1 pc = .ok (.i2b, 1)) (hq : pc + 1 = q) (k : G x E md nc ns q lv (.int a.toInt8.toInt32 :: st) M) : G x E md nc ns pc lv (.int a :: st) M := by
  obtain ⟨p, l, e, R, s, m, args, below, meth, c, Z⟩ := x; intro hK H locs ls hP hS hl; subst hq; exact lv_i2b hK.1 hK.2.1 d rfl (k hK H locs ls hP hS hl)
theorem g_i2l {a : Int32} (d : decode md.2.1 pc = .ok (.i2l, 1)) (hq : pc + 1 = q) (k : G x E md nc ns q lv (.long a.toInt64 :: st) M) : G x E md nc ns pc lv (.int a :: st) M := by
  obtain ⟨p, l, e, R, s, m, args, below, meth, c, Z⟩ := x; intro hK H locs ls hP hS hl; subst hq; exact lv_i2l hK.1 hK.2.1 d rfl (k hK H locs ls hP hS hl)
theorem g_l2i {a : Int64} (d : decode md.2.1 pc = .ok (.l2i, 1)) (hq : pc + 1 = q) (k : G x E md nc ns q lv (.int a.toInt32 :: st) M) : G x E md nc ns pc lv (.long a :: st) M := by
  obtain ⟨p, l, e, R, s, m, args, below, meth, c, Z⟩ := x; intro hK H locs ls hP hS hl; subst hq; exact lv_l2i hK.1 hK.2.1 d rfl (k hK H locs ls hP hS hl)
theorem g_iconst {n : Int} {v : Int32} (d : decode md.2.1 pc = .ok (.iconst n, 1)) (hv : Int32.ofInt n = v) (hq : pc + 1 = q) (k : G x E md nc ns q lv (.int v :: st) M) : G x E md nc ns pc lv st M := by
  obtain ⟨p, l, e, R, s, m, args, below, meth, c, Z⟩ := x; intro hK H locs ls hP hS hl; subst hq; exact lv_iconst hK.1 hK.2.1 d hv (k hK H locs ls hP hS hl)
theorem g_bipush {n : Int} {v : Int32} (d : decode md.2.1 pc = .ok (.bipush n, 2)) (hv : (Int8.ofInt n).toInt32 = v) (hq : pc + 2 = q) (k : G x E md nc ns q lv (.int v :: st) M) : G x E md nc ns pc lv st M := by
  obtain ⟨p, l, e, R, s, m, args, below, meth, c, Z⟩ := x; intro hK H locs ls hP hS hl; subst hq; exact lv_bipush hK.1 hK.2.1 d hv (k hK H locs ls hP hS hl)
theorem g_sipush {n : Int} {v : Int32} (d : decode md.2.1 pc = .ok (.sipush n, 3)) (hv : (Int16.ofInt n).toInt32 = v) (hq : pc + 3 = q) (k : G x E md nc ns q lv (.int v :: st) M) : G x E md nc ns pc lv st M := by
  obtain ⟨p, l, e, R, s, m, args, below, meth, c, Z⟩ := x; intro hK H locs ls hP hS hl; subst hq; exact lv_sipush hK.1 hK.2.1 d hv (k hK H locs ls hP hS hl)
theorem g_lconst {n : Fin 2} {v : Int64} (d : decode md.2.1 pc = .ok (.lconst n, 1)) (hv : Int64.ofNat (n : Nat) = v) (hq : pc + 1 = q) (k : G x E md nc ns q lv (.long v :: st) M) : G x E md nc ns pc lv st M := by
  obtain ⟨p, l, e, R, s, m, args, below, meth, c, Z⟩ := x; intro hK H locs ls hP hS hl; subst hq; exact lv_lconst hK.1 hK.2.1 d hv (k hK H locs ls hP hS hl)
theorem g_ldc {idx : Nat} {v : Int32} (d : decode md.2.1 pc = .ok (.ldc idx, 2)) (hw : Cond.constant md.1 idx v ∈ GW) (hq : pc + 2 = q) (k : G x E md nc ns q lv (.int v :: st) M) : G x E md nc ns pc lv st M := by
  obtain ⟨p, l, e, R, s, m, args, below, meth, c, Z⟩ := x; intro hK H locs ls hP hS hl; subst hq; exact lv_ldc hK.1 hK.2.1 hK.2.2.2.1 (hK.2.2.2.2.1 _ hw) d (k hK H locs ls hP hS hl)
theorem g_ldc2 {idx : Nat} {v : Int64} (d : decode md.2.1 pc = .ok (.ldc2_w idx, 3)) (hw : Cond.constantLong md.1 idx v ∈ GW) (hq : pc + 3 = q) (k : G x E md nc ns q lv (.long v :: st) M) : G x E md nc ns pc lv st M := by
  obtain ⟨p, l, e, R, s, m, args, below, meth, c, Z⟩ := x; intro hK H locs ls hP hS hl; subst hq; exact lv_ldc2 hK.1 hK.2.1 hK.2.2.2.1 (hK.2.2.2.2.1 _ hw) d (k hK H locs ls hP hS hl)
theorem g_dup {va : Value} (d : decode md.2.1 pc = .ok (.dup, 1)) (hva : va.category = 1) (hq : pc + 1 = q) (k : G x E md nc ns q lv (va :: va :: st) M) : G x E md nc ns pc lv (va :: st) M := by
  obtain ⟨p, l, e, R, s, m, args, below, meth, c, Z⟩ := x; intro hK H locs ls hP hS hl; subst hq; exact lv_dup hK.1 hK.2.1 d hva (k hK H locs ls hP hS hl)
theorem g_dup2 {va vb : Value} (d : decode md.2.1 pc = .ok (.dup2, 1)) (hva : va.category = 1) (hvb : vb.category = 1) (hq : pc + 1 = q) (k : G x E md nc ns q lv (va :: vb :: va :: vb :: st) M) : G x E md nc ns pc lv (va :: vb :: st) M := by
  obtain ⟨p, l, e, R, s, m, args, below, meth, c, Z⟩ := x; intro hK H locs ls hP hS hl; subst hq; exact lv_dup2_11 hK.1 hK.2.1 d hva hvb (k hK H locs ls hP hS hl)
theorem g_pop {va : Value} (d : decode md.2.1 pc = .ok (.pop, 1)) (hva : va.category = 1) (hq : pc + 1 = q) (k : G x E md nc ns q lv st M) : G x E md nc ns pc lv (va :: st) M := by
  obtain ⟨p, l, e, R, s, m, args, below, meth, c, Z⟩ := x; intro hK H locs ls hP hS hl; subst hq; exact lv_pop hK.1 hK.2.1 d hva (k hK H locs ls hP hS hl)
theorem g_iloadn {n : Fin 4} {i k0 : Nat} {v : Int32} (d : decode md.2.1 pc = .ok (.iload_n n, 1)) (hi : (n : Nat) = i) (h : lv[k0]? = some (i, .int v)) (hq : pc + 1 = q) (k : G x E md nc ns q lv (.int v :: st) M) : G x E md nc ns pc lv st M := by
  obtain ⟨p, l, e, R, s, m, args, below, meth, c, Z⟩ := x; intro hK H locs ls hP hS hl; subst hq; exact lv_iload_n hK.1 hK.2.1 d hi (lv_at hl k0 h) (k hK H locs ls hP hS hl)
theorem g_iload {i k0 : Nat} {v : Int32} (d : decode md.2.1 pc = .ok (.iload i, 2)) (h : lv[k0]? = some (i, .int v)) (hq : pc + 2 = q) (k : G x E md nc ns q lv (.int v :: st) M) : G x E md nc ns pc lv st M := by
  obtain ⟨p, l, e, R, s, m, args, below, meth, c, Z⟩ := x; intro hK H locs ls hP hS hl; subst hq; exact lv_iload hK.1 hK.2.1 d (lv_at hl k0 h) (k hK H locs ls hP hS hl)
theorem g_lloadn {n : Fin 4} {i k0 : Nat} {v : Int64} (d : decode md.2.1 pc = .ok (.lload_n n, 1)) (hi : (n : Nat) = i) (h : lv[k0]? = some (i, .long v)) (hq : pc + 1 = q) (k : G x E md nc ns q lv (.long v :: st) M) : G x E md nc ns pc lv st M := by
  obtain ⟨p, l, e, R, s, m, args, below, meth, c, Z⟩ := x; intro hK H locs ls hP hS hl; subst hq; exact lv_lload_n hK.1 hK.2.1 d hi (lv_at hl k0 h) (k hK H locs ls hP hS hl)
theorem g_lload {i k0 : Nat} {v : Int64} (d : decode md.2.1 pc = .ok (.lload i, 2)) (h : lv[k0]? = some (i, .long v)) (hq : pc + 2 = q) (k : G x E md nc ns q lv (.long v :: st) M) : G x E md nc ns pc lv st M := by
  obtain ⟨p, l, e, R, s, m, args, below, meth, c, Z⟩ := x; intro hK H locs ls hP hS hl; subst hq; exact lv_lload hK.1 hK.2.1 d (lv_at hl k0 h) (k hK H locs ls hP hS hl)
theorem g_aloadn {n : Fin 4} {i k0 : Nat} {v : Nat} (d : decode md.2.1 pc = .ok (.aload_n n, 1)) (hi : (n : Nat) = i) (h : lv[k0]? = some (i, .ref v)) (hq : pc + 1 = q) (k : G x E md nc ns q lv (.ref v :: st) M) : G x E md nc ns pc lv st M := by
  obtain ⟨p, l, e, R, s, m, args, below, meth, c, Z⟩ := x; intro hK H locs ls hP hS hl; subst hq; exact lv_aload_n hK.1 hK.2.1 d hi (lv_at hl k0 h) (k hK H locs ls hP hS hl)
theorem g_aload {i k0 : Nat} {v : Nat} (d : decode md.2.1 pc = .ok (.aload i, 2)) (h : lv[k0]? = some (i, .ref v)) (hq : pc + 2 = q) (k : G x E md nc ns q lv (.ref v :: st) M) : G x E md nc ns pc lv st M := by
  obtain ⟨p, l, e, R, s, m, args, below, meth, c, Z⟩ := x; intro hK H locs ls hP hS hl; subst hq; exact lv_aload hK.1 hK.2.1 d (lv_at hl k0 h) (k hK H locs ls hP hS hl)
/-- the locals in another order, or fewer of them -/
theorem g_lv (ks : List Nat) (hl' : lv_pick lv ks = lv') (k : G x E md nc ns pc lv' st M) : G x E md nc ns pc lv st M := by
  obtain ⟨p, l, e, R, s, m, args, below, meth, c, Z⟩ := x; intro hK H locs ls hP hS hl; exact k hK H locs ls hP hS (lv_sub hl ks hl')
def stI (lv : List (Nat × Value)) (i : Nat) (v : Value) : List (Nat × Value) := (i, v) :: lv.filter (fun q => !(q.1 == i) && !(q.1 + 1 == i && q.2.category == 2))
def stL (lv : List (Nat × Value)) (i : Nat) (v : Value) : List (Nat × Value) := (i, v) :: lv.filter (fun q => !(q.1 == i) && (!(q.1 == i + 1) && !(q.1 + 1 == i && q.2.category == 2)))
theorem g_istoren {n : Fin 4} {i : Nat} {v : Int32} (ks : List Nat) (d : decode md.2.1 pc = .ok (.istore_n n, 1)) (hi : (n : Nat) = i) (hn : i < md.2.2.1) (hl' : lv_pick (stI lv i (.int v)) ks = lv') (hq : pc + 1 = q) (k : G x E md nc ns q lv' st M) : G x E md nc ns pc lv (.int v :: st) M := by
  obtain ⟨p, l, e, R, s, m, args, below, meth, c, Z⟩ := x; intro hK H locs ls hP hS hl; subst hq; exact lv_istore_n hK.1 hK.2.1 d hi hl hn rfl (fun ls hl => k hK H locs ls hP hS (lv_sub hl ks hl'))
theorem g_istore {i : Nat} {v : Int32} (ks : List Nat) (d : decode md.2.1 pc = .ok (.istore i, 2)) (hn : i < md.2.2.1) (hl' : lv_pick (stI lv i (.int v)) ks = lv') (hq : pc + 2 = q) (k : G x E md nc ns q lv' st M) : G x E md nc ns pc lv (.int v :: st) M := by
  obtain ⟨p, l, e, R, s, m, args, below, meth, c, Z⟩ := x; intro hK H locs ls hP hS hl; subst hq; exact lv_istore hK.1 hK.2.1 d hl hn rfl (fun ls hl => k hK H locs ls hP hS (lv_sub hl ks hl'))
theorem g_astoren {n : Fin 4} {i : Nat} {v : Nat} (ks : List Nat) (d : decode md.2.1 pc = .ok (.astore_n n, 1)) (hi : (n : Nat) = i) (hn : i < md.2.2.1) (hl' : lv_pick (stI lv i (.ref v)) ks = lv') (hq : pc + 1 = q) (k : G x E md nc ns q lv' st M) : G x E md nc ns pc lv (.ref v :: st) M := by
  obtain ⟨p, l, e, R, s, m, args, below, meth, c, Z⟩ := x; intro hK H locs ls hP hS hl; subst hq; exact lv_astore_n hK.1 hK.2.1 d hi hl hn rfl (fun ls hl => k hK H locs ls hP hS (lv_sub hl ks hl'))
theorem g_astore {i : Nat} {v : Nat} (ks : List Nat) (d : decode md.2.1 pc = .ok (.astore i, 2)) (hn : i < md.2.2.1) (hl' : lv_pick (stI lv i (.ref v)) ks = lv') (hq : pc + 2 = q) (k : G x E md nc ns q lv' st M) : G x E md nc ns pc lv (.ref v :: st) M := by
  obtain ⟨p, l, e, R, s, m, args, below, meth, c, Z⟩ := x; intro hK H locs ls hP hS hl; subst hq; exact lv_astore hK.1 hK.2.1 d hl hn rfl (fun ls hl => k hK H locs ls hP hS (lv_sub hl ks hl'))
theorem g_lstoren {n : Fin 4} {i : Nat} {v : Int64} (ks : List Nat) (d : decode md.2.1 pc = .ok (.lstore_n n, 1)) (hi : (n : Nat) = i) (hn : i + 1 < md.2.2.1) (hl' : lv_pick (stL lv i (.long v)) ks = lv') (hq : pc + 1 = q) (k : G x E md nc ns q lv' st M) : G x E md nc ns pc lv (.long v :: st) M := by
  obtain ⟨p, l, e, R, s, m, args, below, meth, c, Z⟩ := x; intro hK H locs ls hP hS hl; subst hq; exact lv_lstore_n hK.1 hK.2.1 d hi hl hn rfl (fun ls hl => k hK H locs ls hP hS (lv_sub hl ks hl'))
theorem g_lstore {i : Nat} {v : Int64} (ks : List Nat) (d : decode md.2.1 pc = .ok (.lstore i, 2)) (hn : i + 1 < md.2.2.1) (hl' : lv_pick (stL lv i (.long v)) ks = lv') (hq : pc + 2 = q) (k : G x E md nc ns q lv' st M) : G x E md nc ns pc lv (.long v :: st) M := by
  obtain ⟨p, l, e, R, s, m, args, below, meth, c, Z⟩ := x; intro hK H locs ls hP hS hl; subst hq; exact lv_lstore hK.1 hK.2.1 d hl hn rfl (fun ls hl => k hK H locs ls hP hS (lv_sub hl ks hl'))
theorem g_iinc {i k0 : Nat} {n : Int} {v w : Int32} (ks : List Nat) (d : decode md.2.1 pc = .ok (.iinc i n, 3)) (h : lv[k0]? = some (i, .int v)) (hv : v + Int32.ofInt n = w) (hn : i < md.2.2.1) (hl' : lv_pick (stI lv i (.int w)) ks = lv') (hq : pc + 3 = q) (k : G x E md nc ns q lv' st M) : G x E md nc ns pc lv st M := by
  obtain ⟨p, l, e, R, s, m, args, below, meth, c, Z⟩ := x; intro hK H locs ls hP hS hl; subst hq; exact lv_iinc hK.1 hK.2.1 d hl h hv hn rfl (fun ls hl => k hK H locs ls hP hS (lv_sub hl ks hl'))
theorem g_goto {off : Int} {tgt : Nat} (d : decode md.2.1 pc = .ok (.goto off, 3)) (ht : (pc : Int) + off = (tgt : Int)) (k : G x E md nc ns tgt lv st M) : G x E md nc ns pc lv st M := by
  obtain ⟨p, l, e, R, s, m, args, below, meth, c, Z⟩ := x; intro hK H locs ls hP hS hl; exact lv_goto hK.1 hK.2.1 d ht (k hK H locs ls hP hS hl)
theorem g_ic_eq {a b : Int32} {off : Int} {tgt : Nat} (d : decode md.2.1 pc = .ok (.if_icmp .eq off, 3)) (ht : (pc : Int) + off = (tgt : Int)) (hq : pc + 3 = q) (kt : a = b → G x E md nc ns tgt lv st M) (kf : ¬ a = b → G x E md nc ns q lv st M) : G x E md nc ns pc lv (.int b :: .int a :: st) M := by
  obtain ⟨p, l, e, R, s, m, args, below, meth, c, Z⟩ := x; intro hK H locs ls hP hS hl; subst hq; exact lv_icmp_eq hK.1 hK.2.1 d ht (fun h => kt h hK H locs ls hP hS hl) (fun h => kf (by first | exact h | exact Classical.not_not.mp h) hK H locs ls hP hS hl)
theorem g_if_eq {a : Int32} {off : Int} {tgt : Nat} (d : decode md.2.1 pc = .ok (.ifCond .eq off, 3)) (ht : (pc : Int) + off = (tgt : Int)) (hq : pc + 3 = q) (kt : a = 0 → G x E md nc ns tgt lv st M) (kf : ¬ a = 0 → G x E md nc ns q lv st M) : G x E md nc ns pc lv (.int a :: st) M := by
  obtain ⟨p, l, e, R, s, m, args, below, meth, c, Z⟩ := x; intro hK H locs ls hP hS hl; subst hq; exact lv_if_eq hK.1 hK.2.1 d ht (fun h => kt h hK H locs ls hP hS hl) (fun h => kf (by first | exact h | exact Classical.not_not.mp h) hK H locs ls hP hS hl)
theorem g_ic_ne {a b : Int32} {off : Int} {tgt : Nat} (d : decode md.2.1 pc = .ok (.if_icmp .ne off, 3)) (ht : (pc : Int) + off = (tgt : Int)) (hq : pc + 3 = q) (kt : ¬ a = b → G x E md nc ns tgt lv st M) (kf : a = b → G x E md nc ns q lv st M) : G x E md nc ns pc lv (.int b :: .int a :: st) M := by
  obtain ⟨p, l, e, R, s, m, args, below, meth, c, Z⟩ := x; intro hK H locs ls hP hS hl; subst hq; exact lv_icmp_ne hK.1 hK.2.1 d ht (fun h => kt h hK H locs ls hP hS hl) (fun h => kf (by first | exact h | exact Classical.not_not.mp h) hK H locs ls hP hS hl)
theorem g_if_ne {a : Int32} {off : Int} {tgt : Nat} (d : decode md.2.1 pc = .ok (.ifCond .ne off, 3)) (ht : (pc : Int) + off = (tgt : Int)) (hq : pc + 3 = q) (kt : ¬ a = 0 → G x E md nc ns tgt lv st M) (kf : a = 0 → G x E md nc ns q lv st M) : G x E md nc ns pc lv (.int a :: st) M := by
  obtain ⟨p, l, e, R, s, m, args, below, meth, c, Z⟩ := x; intro hK H locs ls hP hS hl; subst hq; exact lv_if_ne hK.1 hK.2.1 d ht (fun h => kt h hK H locs ls hP hS hl) (fun h => kf (by first | exact h | exact Classical.not_not.mp h) hK H locs ls hP hS hl)
theorem g_ic_lt {a b : Int32} {off : Int} {tgt : Nat} (d : decode md.2.1 pc = .ok (.if_icmp .lt off, 3)) (ht : (pc : Int) + off = (tgt : Int)) (hq : pc + 3 = q) (kt : a < b → G x E md nc ns tgt lv st M) (kf : ¬ a < b → G x E md nc ns q lv st M) : G x E md nc ns pc lv (.int b :: .int a :: st) M := by
  obtain ⟨p, l, e, R, s, m, args, below, meth, c, Z⟩ := x; intro hK H locs ls hP hS hl; subst hq; exact lv_icmp_lt hK.1 hK.2.1 d ht (fun h => kt h hK H locs ls hP hS hl) (fun h => kf (by first | exact h | exact Classical.not_not.mp h) hK H locs ls hP hS hl)
theorem g_if_lt {a : Int32} {off : Int} {tgt : Nat} (d : decode md.2.1 pc = .ok (.ifCond .lt off, 3)) (ht : (pc : Int) + off = (tgt : Int)) (hq : pc + 3 = q) (kt : a < 0 → G x E md nc ns tgt lv st M) (kf : ¬ a < 0 → G x E md nc ns q lv st M) : G x E md nc ns pc lv (.int a :: st) M := by
  obtain ⟨p, l, e, R, s, m, args, below, meth, c, Z⟩ := x; intro hK H locs ls hP hS hl; subst hq; exact lv_if_lt hK.1 hK.2.1 d ht (fun h => kt h hK H locs ls hP hS hl) (fun h => kf (by first | exact h | exact Classical.not_not.mp h) hK H locs ls hP hS hl)
theorem g_ic_ge {a b : Int32} {off : Int} {tgt : Nat} (d : decode md.2.1 pc = .ok (.if_icmp .ge off, 3)) (ht : (pc : Int) + off = (tgt : Int)) (hq : pc + 3 = q) (kt : b ≤ a → G x E md nc ns tgt lv st M) (kf : ¬ b ≤ a → G x E md nc ns q lv st M) : G x E md nc ns pc lv (.int b :: .int a :: st) M := by
  obtain ⟨p, l, e, R, s, m, args, below, meth, c, Z⟩ := x; intro hK H locs ls hP hS hl; subst hq; exact lv_icmp_ge hK.1 hK.2.1 d ht (fun h => kt h hK H locs ls hP hS hl) (fun h => kf (by first | exact h | exact Classical.not_not.mp h) hK H locs ls hP hS hl)
theorem g_if_ge {a : Int32} {off : Int} {tgt : Nat} (d : decode md.2.1 pc = .ok (.ifCond .ge off, 3)) (ht : (pc : Int) + off = (tgt : Int)) (hq : pc + 3 = q) (kt : 0 ≤ a → G x E md nc ns tgt lv st M) (kf : ¬ 0 ≤ a → G x E md nc ns q lv st M) : G x E md nc ns pc lv (.int a :: st) M := by
  obtain ⟨p, l, e, R, s, m, args, below, meth, c, Z⟩ := x; intro hK H locs ls hP hS hl; subst hq; exact lv_if_ge hK.1 hK.2.1 d ht (fun h => kt h hK H locs ls hP hS hl) (fun h => kf (by first | exact h | exact Classical.not_not.mp h) hK H locs ls hP hS hl)
theorem g_ic_gt {a b : Int32} {off : Int} {tgt : Nat} (d : decode md.2.1 pc = .ok (.if_icmp .gt off, 3)) (ht : (pc : Int) + off = (tgt : Int)) (hq : pc + 3 = q) (kt : b < a → G x E md nc ns tgt lv st M) (kf : ¬ b < a → G x E md nc ns q lv st M) : G x E md nc ns pc lv (.int b :: .int a :: st) M := by
  obtain ⟨p, l, e, R, s, m, args, below, meth, c, Z⟩ := x; intro hK H locs ls hP hS hl; subst hq; exact lv_icmp_gt hK.1 hK.2.1 d ht (fun h => kt h hK H locs ls hP hS hl) (fun h => kf (by first | exact h | exact Classical.not_not.mp h) hK H locs ls hP hS hl)
theorem g_if_gt {a : Int32} {off : Int} {tgt : Nat} (d : decode md.2.1 pc = .ok (.ifCond .gt off, 3)) (ht : (pc : Int) + off = (tgt : Int)) (hq : pc + 3 = q) (kt : 0 < a → G x E md nc ns tgt lv st M) (kf : ¬ 0 < a → G x E md nc ns q lv st M) : G x E md nc ns pc lv (.int a :: st) M := by
  obtain ⟨p, l, e, R, s, m, args, below, meth, c, Z⟩ := x; intro hK H locs ls hP hS hl; subst hq; exact lv_if_gt hK.1 hK.2.1 d ht (fun h => kt h hK H locs ls hP hS hl) (fun h => kf (by first | exact h | exact Classical.not_not.mp h) hK H locs ls hP hS hl)
theorem g_ic_le {a b : Int32} {off : Int} {tgt : Nat} (d : decode md.2.1 pc = .ok (.if_icmp .le off, 3)) (ht : (pc : Int) + off = (tgt : Int)) (hq : pc + 3 = q) (kt : a ≤ b → G x E md nc ns tgt lv st M) (kf : ¬ a ≤ b → G x E md nc ns q lv st M) : G x E md nc ns pc lv (.int b :: .int a :: st) M := by
  obtain ⟨p, l, e, R, s, m, args, below, meth, c, Z⟩ := x; intro hK H locs ls hP hS hl; subst hq; exact lv_icmp_le hK.1 hK.2.1 d ht (fun h => kt h hK H locs ls hP hS hl) (fun h => kf (by first | exact h | exact Classical.not_not.mp h) hK H locs ls hP hS hl)
theorem g_if_le {a : Int32} {off : Int} {tgt : Nat} (d : decode md.2.1 pc = .ok (.ifCond .le off, 3)) (ht : (pc : Int) + off = (tgt : Int)) (hq : pc + 3 = q) (kt : a ≤ 0 → G x E md nc ns tgt lv st M) (kf : ¬ a ≤ 0 → G x E md nc ns q lv st M) : G x E md nc ns pc lv (.int a :: st) M := by
  obtain ⟨p, l, e, R, s, m, args, below, meth, c, Z⟩ := x; intro hK H locs ls hP hS hl; subst hq; exact lv_if_le hK.1 hK.2.1 d ht (fun h => kt h hK H locs ls hP hS hl) (fun h => kf (by first | exact h | exact Classical.not_not.mp h) hK H locs ls hP hS hl)
theorem g_lcmp {a b : Int64} (d : decode md.2.1 pc = .ok (.lcmp, 1)) (hq : pc + 1 = q) (k : G x E md nc ns q lv (.int (lg_cmp a b) :: st) M) : G x E md nc ns pc lv (.long b :: .long a :: st) M := by
  obtain ⟨p, l, e, R, s, m, args, below, meth, c, Z⟩ := x; intro hK H locs ls hP hS hl; subst hq; exact W.lcmp hK.1 hK.2.1 d (k hK H locs ls hP hS hl)
theorem g_lc_eq {a b : Int64} {off : Int} {tgt q2 : Nat} (d : decode md.2.1 pc = .ok (.lcmp, 1)) (hq : pc + 1 = q) (d2 : decode md.2.1 q = .ok (.ifCond .eq off, 3)) (ht : (q : Int) + off = (tgt : Int)) (hq2 : q + 3 = q2) (kt : a = b → G x E md nc ns tgt lv st M) (kf : ¬ a = b → G x E md nc ns q2 lv st M) : G x E md nc ns pc lv (.long b :: .long a :: st) M :=
  g_lcmp d hq (g_if_eq d2 ht hq2 (fun h => kt ((lg_cmp_eq a b).mp h)) (fun h => kf (fun h2 => h ((lg_cmp_eq a b).mpr h2))))
theorem g_lc_ne {a b : Int64} {off : Int} {tgt q2 : Nat} (d : decode md.2.1 pc = .ok (.lcmp, 1)) (hq : pc + 1 = q) (d2 : decode md.2.1 q = .ok (.ifCond .ne off, 3)) (ht : (q : Int) + off = (tgt : Int)) (hq2 : q + 3 = q2) (kt : ¬ a = b → G x E md nc ns tgt lv st M) (kf : a = b → G x E md nc ns q2 lv st M) : G x E md nc ns pc lv (.long b :: .long a :: st) M :=
  g_lcmp d hq (g_if_ne d2 ht hq2 (fun h => kt (fun h2 => h ((lg_cmp_eq a b).mpr h2))) (fun h => kf ((lg_cmp_eq a b).mp h)))
theorem g_lc_lt {a b : Int64} {off : Int} {tgt q2 : Nat} (d : decode md.2.1 pc = .ok (.lcmp, 1)) (hq : pc + 1 = q) (d2 : decode md.2.1 q = .ok (.ifCond .lt off, 3)) (ht : (q : Int) + off = (tgt : Int)) (hq2 : q + 3 = q2) (kt : a < b → G x E md nc ns tgt lv st M) (kf : ¬ a < b → G x E md nc ns q2 lv st M) : G x E md nc ns pc lv (.long b :: .long a :: st) M :=
  g_lcmp d hq (g_if_lt d2 ht hq2 (fun h => kt ((lg_cmp_lt a b).mp h)) (fun h => kf (fun h2 => h ((lg_cmp_lt a b).mpr h2))))
theorem g_lc_ge {a b : Int64} {off : Int} {tgt q2 : Nat} (d : decode md.2.1 pc = .ok (.lcmp, 1)) (hq : pc + 1 = q) (d2 : decode md.2.1 q = .ok (.ifCond .ge off, 3)) (ht : (q : Int) + off = (tgt : Int)) (hq2 : q + 3 = q2) (kt : b ≤ a → G x E md nc ns tgt lv st M) (kf : ¬ b ≤ a → G x E md nc ns q2 lv st M) : G x E md nc ns pc lv (.long b :: .long a :: st) M :=
  g_lcmp d hq (g_if_ge d2 ht hq2 (fun h => kt ((lg_cmp_ge a b).mp h)) (fun h => kf (fun h2 => h ((lg_cmp_ge a b).mpr h2))))
theorem g_lc_gt {a b : Int64} {off : Int} {tgt q2 : Nat} (d : decode md.2.1 pc = .ok (.lcmp, 1)) (hq : pc + 1 = q) (d2 : decode md.2.1 q = .ok (.ifCond .gt off, 3)) (ht : (q : Int) + off = (tgt : Int)) (hq2 : q + 3 = q2) (kt : b < a → G x E md nc ns tgt lv st M) (kf : ¬ b < a → G x E md nc ns q2 lv st M) : G x E md nc ns pc lv (.long b :: .long a :: st) M :=
  g_lcmp d hq (g_if_gt d2 ht hq2 (fun h => kt ((lg_cmp_gt a b).mp h)) (fun h => kf (fun h2 => h ((lg_cmp_gt a b).mpr h2))))
theorem g_lc_le {a b : Int64} {off : Int} {tgt q2 : Nat} (d : decode md.2.1 pc = .ok (.lcmp, 1)) (hq : pc + 1 = q) (d2 : decode md.2.1 q = .ok (.ifCond .le off, 3)) (ht : (q : Int) + off = (tgt : Int)) (hq2 : q + 3 = q2) (kt : a ≤ b → G x E md nc ns tgt lv st M) (kf : ¬ a ≤ b → G x E md nc ns q2 lv st M) : G x E md nc ns pc lv (.long b :: .long a :: st) M :=
  g_lcmp d hq (g_if_le d2 ht hq2 (fun h => kt ((lg_cmp_le a b).mp h)) (fun h => kf (fun h2 => h ((lg_cmp_le a b).mpr h2))))
theorem g_tin {dflt lo hi : Int} {offs : Array Int} {len : Nat} {v : Int32} {off : Int} {tgt : Nat} (w : Int) (hv : v.toInt = w) (d : decode md.2.1 pc = .ok (.tableswitch dflt lo hi offs, len)) (h1 : ¬ w < lo) (h2 : ¬ hi < w) (ho : offs[(w - lo).toNat]? = some off) (ht : (pc : Int) + off = (tgt : Int)) (k : G x E md nc ns tgt lv st M) : G x E md nc ns pc lv (.int v :: st) M := by
  obtain ⟨p, l, e, R, s, m, args, below, meth, c, Z⟩ := x; intro hK H locs ls hP hS hl; subst hv; exact lv_tableIn hK.1 hK.2.1 d h1 h2 ho ht (k hK H locs ls hP hS hl)
theorem g_tout {dflt lo hi : Int} {offs : Array Int} {len : Nat} {v : Int32} {tgt : Nat} (d : decode md.2.1 pc = .ok (.tableswitch dflt lo hi offs, len)) (h : v.toInt < lo ∨ hi < v.toInt) (ht : (pc : Int) + dflt = (tgt : Int)) (k : G x E md nc ns tgt lv st M) : G x E md nc ns pc lv (.int v :: st) M := by
  obtain ⟨p, l, e, R, s, m, args, below, meth, c, Z⟩ := x; intro hK H locs ls hP hS hl; exact lv_tableOut hK.1 hK.2.1 d h ht (k hK H locs ls hP hS hl)
theorem g_get {idx c k kd : Nat} {v : Value} (hf : FG md.1 idx c k kd) (hv : fval E M c k kd = v) (d : decode md.2.1 pc = .ok (.getfield idx, 3)) (hq : pc + 3 = q) (kk : G x E md nc ns q lv (v :: st) M) : G x E md nc ns pc lv (.ref (eA E c) :: st) M := by
  obtain ⟨p, l, e, R, s, m, args, below, meth, co, Z⟩ := x; intro hK H locs ls hP hS hl; subst hq
  obtain ⟨ci, ks, C, T, N, h1, h2, h3, h4, h5, h6, h7⟩ := hf
  exact va_get hK.1 hK.2.1 hK.2.2.2.2.1 h7 hK.2.2.2.1 hK.2.2.2.2.2.1 hP c (pic_at h1) h3 k h4 (hK.2.2.2.2.1 _ h6) (fun _ h => h) (by rw [← hv]; exact fs_at h2) d (kk hK H locs ls hP hS hl)
theorem g_putI {idx c k : Nat} {v : Int32} (hf : FP md.1 idx c k 0 .int) (d : decode md.2.1 pc = .ok (.putfield idx, 3)) (hq : pc + 3 = q) (kk : G x E md nc ns q lv st (putI M c k v)) : G x E md nc ns pc lv (.int v :: .ref (eA E c) :: st) M := by
  obtain ⟨p, l, e, R, s, m, args, below, meth, co, Z⟩ := x; intro hK H locs ls hP hS hl; subst hq
  obtain ⟨ci, ks, C, T, N, ty0, h1, h2, h3, h4, h5, h6, h7, h8, h9, h10, h11⟩ := hf
  have hD := hK.2.2.2.2.2.2.2.1.D M
  have hset : (pic E M).set c (eA E c, .inr (ci, ((List.range ks.length).map fun k => fval E M c k (ks.getD k 0)).set k (.int v))) = pic E (putI M c k v) := by
    refine pic_set h1 ?_ (fun c' hc => ⟨putI_ne1 hc, rfl⟩)
    show Sum.inr (ci, _) = _
    rw [fs_set (M' := putI M c k v) h2 (by show Value.int _ = _; rw [putI_same]) (fun j kd' hj => by unfold fval; split <;> first | rw [putI_k hj] | rfl)]
  refine va_put hK.1 hK.2.1 hK.2.2.2.2.1 h7 ty0 h8 h9 hK.2.2.2.1 hK.2.2.2.2.2.1 hP hD hS c (pic_at h1) h3 k h4 (hK.2.2.2.2.1 _ h6) (fun _ h => h) h10 h11 rfl rfl (by rw [List.length_map, List.length_range, h5]; exact h4) d (fun H1 locs1 hP1 hD1 hS1 => ?_)
  rw [hset] at hP1
  exact kk hK H1 locs1 ls hP1 hS1 hl
theorem g_putL {idx c k : Nat} {v : Int64} (hf : FP md.1 idx c k 1 .long) (d : decode md.2.1 pc = .ok (.putfield idx, 3)) (hq : pc + 3 = q) (kk : G x E md nc ns q lv st (putL M c k v)) : G x E md nc ns pc lv (.long v :: .ref (eA E c) :: st) M := by
  obtain ⟨p, l, e, R, s, m, args, below, meth, co, Z⟩ := x; intro hK H locs ls hP hS hl; subst hq
  obtain ⟨ci, ks, C, T, N, ty0, h1, h2, h3, h4, h5, h6, h7, h8, h9, h10, h11⟩ := hf
  have hD := hK.2.2.2.2.2.2.2.1.D M
  have hset : (pic E M).set c (eA E c, .inr (ci, ((List.range ks.length).map fun k => fval E M c k (ks.getD k 0)).set k (.long v))) = pic E (putL M c k v) := by
    refine pic_set h1 ?_ (fun c' hc => ⟨rfl, putL_ne2 hc⟩)
    show Sum.inr (ci, _) = _
    rw [fs_set (M' := putL M c k v) h2 (by show Value.long _ = _; rw [putL_same]) (fun j kd' hj => by unfold fval; split <;> first | rw [putL_k hj] | rfl)]
  refine va_put hK.1 hK.2.1 hK.2.2.2.2.1 h7 ty0 h8 h9 hK.2.2.2.1 hK.2.2.2.2.2.1 hP hD hS c (pic_at h1) h3 k h4 (hK.2.2.2.2.1 _ h6) (fun _ h => h) h10 h11 rfl rfl (by rw [List.length_map, List.length_range, h5]; exact h4) d (fun H1 locs1 hP1 hD1 hS1 => ?_)
  rw [hset] at hP1
  exact kk hK H1 locs1 ls hP1 hS1 hl
theorem parr_at {c t n : Nat} (h : shL[c]? = some (.inl (t, n))) (ht : t ≠ 2) : (pic E M)[c]? = some (eA E c, .inl (eC E t, n, .inl (M.1 c))) := by
  rw [pic_at h]; simp [cellE, ht]
theorem parr_atL {c n : Nat} (h : shL[c]? = some (.inl (2, n))) : (pic E M)[c]? = some (eA E c, .inl (eC E 2, n, .inr (.inl (M.2 c)))) := by
  rw [pic_at h]; simp [cellE]
theorem parr_set {c t n k : Nat} {v : Int32} (h : shL[c]? = some (.inl (t, n))) (ht : t ≠ 2) : (pic E M).set c (eA E c, .inl (eC E t, n, .inl (upd (M.1 c) k v))) = pic E (putI M c k v) :=
  pic_set h (by simp [cellE, ht, putI_upd]) (fun c' hc => ⟨putI_ne1 hc, rfl⟩)
theorem parr_setL {c n k : Nat} {v : Int64} (h : shL[c]? = some (.inl (2, n))) : (pic E M).set c (eA E c, .inl (eC E 2, n, .inr (.inl (vp_updL (M.2 c) k v)))) = pic E (putL M c k v) :=
  pic_set h (by simp [cellE, putL_upd]) (fun c' hc => ⟨rfl, putL_ne2 hc⟩)
theorem g_iald {c n : Nat} {i : Int32} (h : shL[c]? = some (.inl (1, n))) (hin : vp_in i n) (d : decode md.2.1 pc = .ok (.iaload, 1)) (hq : pc + 1 = q) (k : G x E md nc ns q lv (.int (M.1 c i.toNatClampNeg) :: st) M) : G x E md nc ns pc lv (.int i :: .ref (eA E c) :: st) M := by
  obtain ⟨p, l, e, R, s, m, args, below, meth, co, Z⟩ := x; intro hK H locs ls hP hS hl; subst hq; exact va_iald hK.1 hK.2.1 hK.2.2.2.2.2.1 hP c 1 (parr_at h (by decide)) rfl hin d (k hK H locs ls hP hS hl)
theorem g_bald {c n : Nat} {i : Int32} (h : shL[c]? = some (.inl (0, n))) (hin : vp_in i n) (d : decode md.2.1 pc = .ok (.baload, 1)) (hq : pc + 1 = q) (k : G x E md nc ns q lv (.int (M.1 c i.toNatClampNeg) :: st) M) : G x E md nc ns pc lv (.int i :: .ref (eA E c) :: st) M := by
  obtain ⟨p, l, e, R, s, m, args, below, meth, co, Z⟩ := x; intro hK H locs ls hP hS hl; subst hq; exact va_bald hK.1 hK.2.1 hK.2.2.2.2.2.1 hP c 0 (parr_at h (by decide)) rfl hin d (k hK H locs ls hP hS hl)
theorem g_zald {c n : Nat} {i : Int32} (h : shL[c]? = some (.inl (3, n))) (hin : vp_in i n) (d : decode md.2.1 pc = .ok (.baload, 1)) (hq : pc + 1 = q) (k : G x E md nc ns q lv (.int (M.1 c i.toNatClampNeg) :: st) M) : G x E md nc ns pc lv (.int i :: .ref (eA E c) :: st) M := by
  obtain ⟨p, l, e, R, s, m, args, below, meth, co, Z⟩ := x; intro hK H locs ls hP hS hl; subst hq; exact va_zald hK.1 hK.2.1 hK.2.2.2.2.2.1 hP c 3 (parr_at h (by decide)) rfl hin d (k hK H locs ls hP hS hl)
theorem g_lald {c n : Nat} {i : Int32} (h : shL[c]? = some (.inl (2, n))) (hin : vp_in i n) (d : decode md.2.1 pc = .ok (.laload, 1)) (hq : pc + 1 = q) (k : G x E md nc ns q lv (.long (M.2 c i.toNatClampNeg) :: st) M) : G x E md nc ns pc lv (.int i :: .ref (eA E c) :: st) M := by
  obtain ⟨p, l, e, R, s, m, args, below, meth, co, Z⟩ := x; intro hK H locs ls hP hS hl; subst hq; exact va_lald hK.1 hK.2.1 hK.2.2.2.2.2.1 hP c 2 (parr_atL h) rfl hin d (k hK H locs ls hP hS hl)
theorem g_iast {c n : Nat} {i v : Int32} (h : shL[c]? = some (.inl (1, n))) (hin : vp_in i n) (d : decode md.2.1 pc = .ok (.iastore, 1)) (hq : pc + 1 = q) (k : G x E md nc ns q lv st (putI M c i.toNatClampNeg v)) : G x E md nc ns pc lv (.int v :: .int i :: .ref (eA E c) :: st) M := by
  obtain ⟨p, l, e, R, s, m, args, below, meth, co, Z⟩ := x; intro hK H locs ls hP hS hl; subst hq
  refine va_iast hK.1 hK.2.1 hK.2.2.2.2.2.1 hP (hK.2.2.2.2.2.2.2.1.D M) hS c 1 (parr_at h (by decide)) rfl hin d (fun H1 locs1 hP1 hD1 hS1 => ?_)
  rw [parr_set h (by decide)] at hP1
  exact k hK H1 locs1 ls hP1 hS1 hl
theorem g_bast {c n : Nat} {i v w : Int32} (h : shL[c]? = some (.inl (0, n))) (hin : vp_in i n) (hw : vp_nar .byte v = w) (d : decode md.2.1 pc = .ok (.bastore, 1)) (hq : pc + 1 = q) (k : G x E md nc ns q lv st (putI M c i.toNatClampNeg w)) : G x E md nc ns pc lv (.int v :: .int i :: .ref (eA E c) :: st) M := by
  obtain ⟨p, l, e, R, s, m, args, below, meth, co, Z⟩ := x; intro hK H locs ls hP hS hl; subst hq; subst hw
  refine va_bast hK.1 hK.2.1 hK.2.2.2.2.2.1 hP (hK.2.2.2.2.2.2.2.1.D M) hS c 0 (parr_at h (by decide)) rfl hin d (fun H1 locs1 hP1 hD1 hS1 => ?_)
  rw [parr_set h (by decide)] at hP1
  exact k hK H1 locs1 ls hP1 hS1 hl
theorem g_zast {c n : Nat} {i v w : Int32} (h : shL[c]? = some (.inl (3, n))) (hin : vp_in i n) (hw : vp_nar .boolean v = w) (d : decode md.2.1 pc = .ok (.bastore, 1)) (hq : pc + 1 = q) (k : G x E md nc ns q lv st (putI M c i.toNatClampNeg w)) : G x E md nc ns pc lv (.int v :: .int i :: .ref (eA E c) :: st) M := by
  obtain ⟨p, l, e, R, s, m, args, below, meth, co, Z⟩ := x; intro hK H locs ls hP hS hl; subst hq; subst hw
  refine va_zast hK.1 hK.2.1 hK.2.2.2.2.2.1 hP (hK.2.2.2.2.2.2.2.1.D M) hS c 3 (parr_at h (by decide)) rfl hin d (fun H1 locs1 hP1 hD1 hS1 => ?_)
  rw [parr_set h (by decide)] at hP1
  exact k hK H1 locs1 ls hP1 hS1 hl
theorem g_last {c n : Nat} {i : Int32} {v : Int64} (h : shL[c]? = some (.inl (2, n))) (hin : vp_in i n) (d : decode md.2.1 pc = .ok (.lastore, 1)) (hq : pc + 1 = q) (k : G x E md nc ns q lv st (putL M c i.toNatClampNeg v)) : G x E md nc ns pc lv (.long v :: .int i :: .ref (eA E c) :: st) M := by
  obtain ⟨p, l, e, R, s, m, args, below, meth, co, Z⟩ := x; intro hK H locs ls hP hS hl; subst hq
  refine va_last hK.1 hK.2.1 hK.2.2.2.2.2.1 hP (hK.2.2.2.2.2.2.2.1.D M) hS c 2 (parr_atL h) rfl hin d (fun H1 locs1 hP1 hD1 hS1 => ?_)
  rw [parr_setL h] at hP1
  exact k hK H1 locs1 ls hP1 hS1 hl
theorem g_alen {c t n : Nat} {v : Int32} (h : shL[c]? = some (.inl (t, n))) (ht : t < 4) (hv : Int32.ofNat n = v) (d : decode md.2.1 pc = .ok (.arraylength, 1)) (hq : pc + 1 = q) (k : G x E md nc ns q lv (.int v :: st) M) : G x E md nc ns pc lv (.ref (eA E c) :: st) M := by
  obtain ⟨p, l, e, R, s, m, args, below, meth, co, Z⟩ := x; intro hK H locs ls hP hS hl; subst hq
  rcases (show t = 0 ∨ t = 1 ∨ t = 2 ∨ t = 3 by omega) with rfl | rfl | rfl | rfl
  · exact va_alen hK.1 hK.2.1 hK.2.2.2.2.2.1 hP c 0 (parr_at h (by decide)) rfl hv d (k hK H locs ls hP hS hl)
  · exact va_alen hK.1 hK.2.1 hK.2.2.2.2.2.1 hP c 1 (parr_at h (by decide)) rfl hv d (k hK H locs ls hP hS hl)
  · exact va_alen hK.1 hK.2.1 hK.2.2.2.2.2.1 hP c 2 (parr_atL h) rfl hv d (k hK H locs ls hP hS hl)
  · exact va_alen hK.1 hK.2.1 hK.2.2.2.2.2.1 hP c 3 (parr_at h (by decide)) rfl hv d (k hK H locs ls hP hS hl)
theorem g_wid {idx : Nat} (hw : Cond.fieldLink md.1 idx "ShipVoices$Telling" "WIDTHS" "[I" ∈ GW) (d : decode md.2.1 pc = .ok (.getstatic idx, 3)) (hq : pc + 3 = q) (k : G x E md nc ns q lv (.ref (eW E) :: st) M) : G x E md nc ns pc lv st M := by
  obtain ⟨p, l, e, R, s, m, args, below, meth, co, Z⟩ := x; intro hK H locs ls hP hS hl; subst hq
  exact va_gets hK.1 hK.2.1 hK.2.2.2.2.2.2.1.1 hS hK.2.2.2.1 (hK.2.2.2.2.1 _ hw) (fun _ h => h) d (k hK H locs ls hP hS hl)
theorem g_widlen (d : decode md.2.1 pc = .ok (.arraylength, 1)) (hq : pc + 1 = q) (k : G x E md nc ns q lv (.int 20 :: st) M) : G x E md nc ns pc lv (.ref (eW E) :: st) M := by
  obtain ⟨p, l, e, R, s, m, args, below, meth, co, Z⟩ := x; intro hK H locs ls hP hS hl; subst hq
  exact va_tlen hK.1 hK.2.1 hK.2.2.2.2.2.2.1.2.1 hS rfl d (k hK H locs ls hP hS hl)
theorem g_widld {i : Int32} (hin : vp_in i 20) (d : decode md.2.1 pc = .ok (.iaload, 1)) (hq : pc + 1 = q) (k : G x E md nc ns q lv (.int (wid i.toNatClampNeg) :: st) M) : G x E md nc ns pc lv (.int i :: .ref (eW E) :: st) M := by
  obtain ⟨p, l, e, R, s, m, args, below, meth, co, Z⟩ := x; intro hK H locs ls hP hS hl; subst hq
  exact va_ti hK.1 hK.2.1 hK.2.2.2.2.2.2.1.2.1 hS hin rfl d (k hK H locs ls hP hS hl)
end Rows
end
section
/-! contracts and calls -/
theorem SF.blind {E : EX} {U : State} {g : JFrame} {mk : MethodId} {a : Array Value} (h : SF E U) : SF E (U.calling g mk a) := by
  obtain ⟨h1, h2, h3, h4, ⟨a5, h5⟩, ⟨a6, h6⟩, ⟨a7, h7⟩, ⟨a8, h8⟩, ⟨a9, h9⟩⟩ := h
  have hv : U.vm.Alike (U.calling g mk a).vm := Vm.Alike.refl U.vm
  exact ⟨h1.moved hv, h2.moved hv, h3.moved hv, h4.moved hv, ⟨a5, h5.same rfl⟩, ⟨a6, h6.same rfl⟩, ⟨a7, h7.same rfl⟩, ⟨a8, h8.same rfl⟩, ⟨a9, h9.same rfl⟩⟩
theorem SF.at {E : EX} {s U : State} {locs : List Loc} (h : SF E s) (hW : s.WarmedH U.vm) (hS : va_S (AE E) s.heap U.heap locs) : SF E U := by
  obtain ⟨h1, h2, h3, h4, ⟨a5, h5⟩, ⟨a6, h6⟩, ⟨a7, h7⟩, ⟨a8, h8⟩, ⟨a9, h9⟩⟩ := h
  have hv := hW.alike
  exact ⟨(h1.kept hS.2.1).moved hv, (h2.kept hS.2.1).moved hv, (h3.kept hS.2.1).moved hv, (h4.kept hS.2.1).moved hv, ⟨a5, h5.warm hW⟩, ⟨a6, h6.warm hW⟩, ⟨a7, h7.warm hW⟩, ⟨a8, h8.warm hW⟩, ⟨a9, h9.warm hW⟩⟩
def PreW (E : EX) (M : Mem) (U : State) : Prop := va_P (eD E) vwCl (pic E M) U.heap ∧ va_K (eD E) vwCl (tysE E) U ∧ SF E U
def PostW (E : EX) (M : Mem) (t : State) : Prop := va_P (eD E) vwCl (pic E M) t.heap
def nb (r : Int32) : Prop := narrow .boolean (.int r) = .int r
def CI (y : MethodName) (cc : ByteArray) (nL : Nat) (ret : Option FieldType) (rm : Room) (E : EX) (av : List Value) (M : Mem) (Q : Int32 → Mem → Prop) : Prop :=
  ∀ l : Launch, l.stackTraces = false → Met l y (.code y cc nL ret :: GW) rm (va_Pc av (PreW E M)) (va_Qi Q (PostW E) (AE E)) 0 0 (AE E)
def CL (y : MethodName) (cc : ByteArray) (nL : Nat) (ret : Option FieldType) (rm : Room) (E : EX) (av : List Value) (M : Mem) (Q : Int64 → Mem → Prop) : Prop :=
  ∀ l : Launch, l.stackTraces = false → Met l y (.code y cc nL ret :: GW) rm (va_Pc av (PreW E M)) (va_Ql Q (PostW E) (AE E)) 0 0 (AE E)
def CU (y : MethodName) (cc : ByteArray) (nL : Nat) (ret : Option FieldType) (rm : Room) (E : EX) (av : List Value) (M : Mem) (Q : Mem → Prop) : Prop :=
  ∀ l : Launch, l.stackTraces = false → Met l y (.code y cc nL ret :: GW) rm (va_Pc av (PreW E M)) (va_Qv Q (PostW E) (AE E)) 0 0 (AE E)
def ZI (x : GX) (E : EX) (Q : Int32 → Mem → Prop) : Prop := match x with
  | (_, _, _, _, s, _, args, below, _, _, Z) => Z = MQ below (va_Qi Q (PostW E) (AE E)) args s 0 0 (AE E)
def ZL (x : GX) (E : EX) (Q : Int64 → Mem → Prop) : Prop := match x with
  | (_, _, _, _, s, _, args, below, _, _, Z) => Z = MQ below (va_Ql Q (PostW E) (AE E)) args s 0 0 (AE E)
def ZU (x : GX) (E : EX) (Q : Mem → Prop) : Prop := match x with
  | (_, _, _, _, s, _, args, below, _, _, Z) => Z = MQ below (va_Qv Q (PostW E) (AE E)) args s 0 0 (AE E)
section Contracts
variable {y : MethodName} {cc : ByteArray} {nL : Nat} {ret : Option FieldType} {rm : Room} {E : EX} {av : List Value} {M : Mem}
theorem CI.of {Q : Int32 → Mem → Prop} (hE : EH E) (hy : plainName y.cls = true) (hlen : (lg_sl av).length ≤ nL) (body : ∀ x, ZI x E Q → G x E (y.cls, cc, nL, ret, rm) 0 0 0 (lv_args 0 av) [] M) : CI y cc nL ret rm E av M Q := by
  intro l hl
  refine Met.ofW (cc := cc) (maxL := nL) (ret := ret) hy rfl ?_
  intro p e s m args below meth c s₁ B hml hv
  obtain ⟨rfl, hP, hK, hF⟩ := hv
  rw [lg_entry_eq]
  exact body (p, l, e, rm, s, m, _, below, meth, c, MQ below (va_Qi Q (PostW E) (AE E)) _ s 0 0 (AE E)) rfl ⟨B.exec, B.bytes, hml, findClass_of_methodNamed B.named, fun w h => atoms_spec (ws := .code y cc nL ret :: GW) B.pre w (List.mem_cons_of_mem _ h), hK, hF, hE, B.returns, B.notSynchronized, rfl, hl⟩ s.heap [] _ hP va_S.rf (lv_entry av hlen)
theorem CL.of {Q : Int64 → Mem → Prop} (hE : EH E) (hy : plainName y.cls = true) (hlen : (lg_sl av).length ≤ nL) (body : ∀ x, ZL x E Q → G x E (y.cls, cc, nL, ret, rm) 0 0 0 (lv_args 0 av) [] M) : CL y cc nL ret rm E av M Q := by
  intro l hl
  refine Met.ofW (cc := cc) (maxL := nL) (ret := ret) hy rfl ?_
  intro p e s m args below meth c s₁ B hml hv
  obtain ⟨rfl, hP, hK, hF⟩ := hv
  rw [lg_entry_eq]
  exact body (p, l, e, rm, s, m, _, below, meth, c, MQ below (va_Ql Q (PostW E) (AE E)) _ s 0 0 (AE E)) rfl ⟨B.exec, B.bytes, hml, findClass_of_methodNamed B.named, fun w h => atoms_spec (ws := .code y cc nL ret :: GW) B.pre w (List.mem_cons_of_mem _ h), hK, hF, hE, B.returns, B.notSynchronized, rfl, hl⟩ s.heap [] _ hP va_S.rf (lv_entry av hlen)
theorem CU.of {Q : Mem → Prop} (hE : EH E) (hy : plainName y.cls = true) (hlen : (lg_sl av).length ≤ nL) (body : ∀ x, ZU x E Q → G x E (y.cls, cc, nL, ret, rm) 0 0 0 (lv_args 0 av) [] M) : CU y cc nL ret rm E av M Q := by
  intro l hl
  refine Met.ofW (cc := cc) (maxL := nL) (ret := ret) hy rfl ?_
  intro p e s m args below meth c s₁ B hml hv
  obtain ⟨rfl, hP, hK, hF⟩ := hv
  rw [lg_entry_eq]
  exact body (p, l, e, rm, s, m, _, below, meth, c, MQ below (va_Qv Q (PostW E) (AE E)) _ s 0 0 (AE E)) rfl ⟨B.exec, B.bytes, hml, findClass_of_methodNamed B.named, fun w h => atoms_spec (ws := .code y cc nL ret :: GW) B.pre w (List.mem_cons_of_mem _ h), hK, hF, hE, B.returns, B.notSynchronized, rfl, hl⟩ s.heap [] _ hP va_S.rf (lv_entry av hlen)
end Contracts
section Rets
variable {x : GX} {E : EX} {md : MD} {pc q : Nat} {lv lv' : List (Nat × Value)} {st : List Value} {M : Mem}
theorem g_iret {Q : Int32 → Mem → Prop} {v : Int32} (hz : ZI x E Q) (hr : md.2.2.2.1 = some .int) (d : decode md.2.1 pc = .ok (.ireturn, 1)) (h : Q v M) : G x E md 0 0 pc lv [.int v] M := by
  obtain ⟨p, l, e, R, s, m, args, below, meth, c, Z⟩ := x; intro hK H locs ls hP hS hl
  have hz : Z = _ := hz
  subst hz
  exact W.iret hK.1 hK.2.1 (hK.2.2.2.2.2.2.2.2.1.trans hr) (fun t ht hW => ⟨⟨v, M, rfl, h, by show va_P _ _ _ t.heap; rw [ht]; exact hP⟩, hS.F ht⟩) hS.2.2 d (hlocks := hK.2.2.2.2.2.2.2.2.2.1)
theorem g_zret {Q : Int32 → Mem → Prop} {v : Int32} (hz : ZI x E (fun r M => nb r ∧ Q r M)) (hr : md.2.2.2.1 = some .boolean) (hn : nb v) (d : decode md.2.1 pc = .ok (.ireturn, 1)) (h : Q v M) : G x E md 0 0 pc lv [.int v] M := by
  obtain ⟨p, l, e, R, s, m, args, below, meth, c, Z⟩ := x; intro hK H locs ls hP hS hl
  have hz : Z = _ := hz
  subst hz
  exact W.zret hK.1 hK.2.1 (hK.2.2.2.2.2.2.2.2.1.trans hr) hn (fun t ht hW => ⟨⟨v, M, rfl, ⟨hn, h⟩, by show va_P _ _ _ t.heap; rw [ht]; exact hP⟩, hS.F ht⟩) hS.2.2 d (hlocks := hK.2.2.2.2.2.2.2.2.2.1)
theorem g_lret {Q : Int64 → Mem → Prop} {v : Int64} (hz : ZL x E Q) (hr : md.2.2.2.1 = some .long) (d : decode md.2.1 pc = .ok (.lreturn, 1)) (h : Q v M) : G x E md 0 0 pc lv [.long v] M := by
  obtain ⟨p, l, e, R, s, m, args, below, meth, c, Z⟩ := x; intro hK H locs ls hP hS hl
  have hz : Z = _ := hz
  subst hz
  exact W.lret hK.1 hK.2.1 (hK.2.2.2.2.2.2.2.2.1.trans hr) (fun t ht hW => ⟨⟨v, M, rfl, h, by show va_P _ _ _ t.heap; rw [ht]; exact hP⟩, hS.F ht⟩) hS.2.2 d (hlocks := hK.2.2.2.2.2.2.2.2.2.1)
theorem g_vret {Q : Mem → Prop} (hz : ZU x E Q) (hr : md.2.2.2.1 = none) (d : decode md.2.1 pc = .ok (.return_, 1)) (h : Q M) : G x E md 0 0 pc lv [] M := by
  obtain ⟨p, l, e, R, s, m, args, below, meth, c, Z⟩ := x; intro hK H locs ls hP hS hl
  have hz : Z = _ := hz
  subst hz
  exact W.vret hK.1 hK.2.1 (hK.2.2.2.2.2.2.2.2.1.trans hr) (fun t ht hW => ⟨⟨M, rfl, h, by show va_P _ _ _ t.heap; rw [ht]; exact hP⟩, hS.F ht⟩) hS.2.2 d (hlocks := hK.2.2.2.2.2.2.2.2.2.1)
end Rets
def RC (c : Nat) (C : String) : Prop := ∃ (ci : Nat) (ks : List Nat) (T : u_T) (N : Nat), shL[c]? = some (.inr (ci, ks)) ∧ vwCl[ci]? = some (C, T, N)
/-- the words of a virtual call -/
def CV (own : String) (idx : Nat) (y : MethodName) (cc : ByteArray) (nL : Nat) (ret : Option FieldType) (n : Nat) : Prop :=
  .methodLink own idx y ∈ GW ∧ .instanceMethod y ∈ GW ∧ .selects y.cls y y ∈ GW ∧ .initialized y.cls ∈ GW ∧ .code y cc nL ret ∈ GW ∧ (y.cls ≠ "java/lang/invoke/MethodHandle" ∧ y.cls ≠ "java/lang/invoke/VarHandle") ∧ (parseMethodDescriptor y.desc).map (fun d => d.parameters.length) = some n
def CS (own : String) (idx : Nat) (y : MethodName) (cc : ByteArray) (nL : Nat) (ret : Option FieldType) (n : Nat) : Prop :=
  .methodLink own idx y ∈ GW ∧ .static y ∈ GW ∧ .initialized y.cls ∈ GW ∧ .code y cc nL ret ∈ GW ∧ (y.cls ≠ "java/lang/invoke/MethodHandle" ∧ y.cls ≠ "java/lang/invoke/VarHandle") ∧ (parseMethodDescriptor y.desc).map (fun d => d.parameters.length) = some n
def CN (own : String) (idx : Nat) (y : MethodName) (host : String) (cc : ByteArray) (nL : Nat) (ret : Option FieldType) (n : Nat) : Prop :=
  .methodLinkNest own idx y host ∈ GW ∧ .static y ∈ GW ∧ .initialized y.cls ∈ GW ∧ .code y cc nL ret ∈ GW ∧ (y.cls ≠ "java/lang/invoke/MethodHandle" ∧ y.cls ≠ "java/lang/invoke/VarHandle") ∧ (parseMethodDescriptor y.desc).map (fun d => d.parameters.length) = some n
/-- the callee's room within the caller's -/
def RM (rm big : Room) (nL nc ns : Nat) : Prop := rm.cells = 0 ∧ rm.slots = 0 ∧ rm.frames + 1 ≤ big.frames ∧ 8 + (nL + 11) + rm.locals ≤ big.locals ∧ nc ≤ big.cells ∧ ns ≤ big.slots
theorem sig_n {d : String} {n : Nat} (h : (parseMethodDescriptor d).map (fun d => d.parameters.length) = some n) : ∀ sig, parseMethodDescriptor d = some sig → n = sig.parameters.length := by
  intro sig hs
  rw [hs] at h
  exact (Option.some.inj h).symm
theorem hws_of {args : Array Value} {s : State} {c0 : Cond} (hts : ∀ w ∈ GW, w.before args s = true) (h0 : c0 ∈ GW) : ∀ w ∈ c0 :: GW, ∀ (a' : Array Value) (U : State), s.WarmedH U.vm → w.before a' U = true := by
  intro w hw a' U hW
  have hm : w ∈ GW := by
    rcases List.mem_cons.mp hw with rfl | h
    · exact h0
    · exact h
  exact word_at hW (gw_good hm) (hts w hm)
theorem pre_blind {E : EX} {av : List Value} {M : Mem} : FrameBlind (va_Pc av (PreW E M)) := fun a U g mk h => ⟨h.1, h.2.1, va_K.moved (u := U) (U := U.calling g mk a) (Vm.Alike.refl U.vm) h.2.2.1, SF.blind h.2.2.2⟩
section CallRows
variable {x : GX} {E : EX} {md : MD} {nc ns pc q : Nat} {lv lv' : List (Nat × Value)} {st rest As : List Value} {M : Mem} {idx n c nL : Nat} {y : MethodName} {cc : ByteArray} {ret : Option FieldType} {rm : Room}
theorem run_V {p : Program} {l : Launch} {e : Env} {R : Room} {s : State} {m : MethodId} {args : Array Value} {below : List Frame} {meth : Method} {co : Code} {H : Heap} {locs : List Loc} {ls : Array Slot} {Qc : Array Value → State → Outcome → State → Prop}
    (hK : KH p l R s m args meth co E md) (hP : va_P (eD E) vwCl (pic E M) H) (hS : va_S (AE E) s.heap H locs) (hl : lv_has ls md.2.2.1 lv)
    (hw : CV md.1 idx y cc nL ret n) (hs : RC c y.cls) (hM : Met l y (.code y cc nL ret :: GW) rm (va_Pc (.ref (eA E c) :: As) (PreW E M)) Qc 0 0 (AE E)) (hn : As.length = n) (hst : st = As.reverse ++ .ref (eA E c) :: rest) (hR : RM rm md.2.2.2.2 nL nc ns) (hrest : (rest.map fun v => v.category).sum ≤ 8) (d : decode md.2.1 pc = .ok (.invokevirtual idx, 3)) :
    va_Run p l e R s m args below meth co H locs nc ns 0 0 (F0 m pc ls st) rest (Qc (Value.ref (eA E c) :: As).toArray) (AE E) := by
  obtain ⟨hx, hb, hml, hown, hts, hKK, hF, hE, hr, hlk, hRR, hl9⟩ := hK
  obtain ⟨w1, w2, w3, w4, w5, w6, w7⟩ := hw
  obtain ⟨ci, ks, T, N, s1, s2⟩ := hs
  subst hRR
  refine va_runV ⟨hx, hb, hml, hown, hts⟩ hM ⟨⟨hR.1, hR.2.1, hR.2.2.1, hR.2.2.2.1, hws_of hts w5, List.mem_cons_self, hts _ w5, hts _ w4, w6, sig_n w7, hts _ w1⟩, hts _ w2, hts _ w3⟩ ⟨pre_blind, va_recv hKK hP s2 (pic_at s1), fun U hU hW => ⟨rfl, by rw [hU]; exact hP, va_K.moved hW.alike hKK, hF.at hW (by rw [hU]; exact hS)⟩⟩ rfl hn (by exact hl.1) hst (lv_room hrest) d ⟨hR.2.2.2.2.1, hR.2.2.2.2.2⟩
theorem run_S {p : Program} {l : Launch} {e : Env} {R : Room} {s : State} {m : MethodId} {args : Array Value} {below : List Frame} {meth : Method} {co : Code} {H : Heap} {locs : List Loc} {ls : Array Slot} {Qc : Array Value → State → Outcome → State → Prop}
    (hK : KH p l R s m args meth co E md) (hP : va_P (eD E) vwCl (pic E M) H) (hS : va_S (AE E) s.heap H locs) (hl : lv_has ls md.2.2.1 lv)
    (hw : CS md.1 idx y cc nL ret n) (hM : Met l y (.code y cc nL ret :: GW) rm (va_Pc As (PreW E M)) Qc 0 0 (AE E)) (hn : As.length = n) (hst : st = As.reverse ++ rest) (hR : RM rm md.2.2.2.2 nL nc ns) (hrest : (rest.map fun v => v.category).sum ≤ 8) (d : decode md.2.1 pc = .ok (.invokestatic idx, 3)) :
    va_Run p l e R s m args below meth co H locs nc ns 0 0 (F0 m pc ls st) rest (Qc As.toArray) (AE E) := by
  obtain ⟨hx, hb, hml, hown, hts, hKK, hF, hE, hr, hlk, hRR, hl9⟩ := hK
  obtain ⟨w1, w2, w4, w5, w6, w7⟩ := hw
  subst hRR
  refine va_runS ⟨hx, hb, hml, hown, hts⟩ hM ⟨⟨hR.1, hR.2.1, hR.2.2.1, hR.2.2.2.1, hws_of hts w5, List.mem_cons_self, hts _ w5, hts _ w4, w6, sig_n w7, hts _ w1⟩, hts _ w2⟩ ⟨pre_blind, fun U hU hW => ⟨rfl, by rw [hU]; exact hP, va_K.moved hW.alike hKK, hF.at hW (by rw [hU]; exact hS)⟩⟩ rfl hn (by exact hl.1) hst (lv_room hrest) d ⟨hR.2.2.2.2.1, hR.2.2.2.2.2⟩
theorem run_N {host : String} {p : Program} {l : Launch} {e : Env} {R : Room} {s : State} {m : MethodId} {args : Array Value} {below : List Frame} {meth : Method} {co : Code} {H : Heap} {locs : List Loc} {ls : Array Slot} {Qc : Array Value → State → Outcome → State → Prop}
    (hK : KH p l R s m args meth co E md) (hP : va_P (eD E) vwCl (pic E M) H) (hS : va_S (AE E) s.heap H locs) (hl : lv_has ls md.2.2.1 lv)
    (hw : CN md.1 idx y host cc nL ret n) (hM : Met l y (.code y cc nL ret :: GW) rm (va_Pc As (PreW E M)) Qc 0 0 (AE E)) (hn : As.length = n) (hst : st = As.reverse ++ rest) (hR : RM rm md.2.2.2.2 nL nc ns) (hrest : (rest.map fun v => v.category).sum ≤ 8) (d : decode md.2.1 pc = .ok (.invokestatic idx, 3)) :
    va_Run p l e R s m args below meth co H locs nc ns 0 0 (F0 m pc ls st) rest (Qc As.toArray) (AE E) := by
  obtain ⟨hx, hb, hml, hown, hts, hKK, hF, hE, hr, hlk, hRR, hl9⟩ := hK
  obtain ⟨w1, w2, w4, w5, w6, w7⟩ := hw
  subst hRR
  refine va_runSN ⟨hx, hb, hml, hown, hts⟩ hM ⟨⟨⟨hR.1, hR.2.1, hR.2.2.1, hR.2.2.2.1, hws_of hts w5, List.mem_cons_self⟩, hts _ w5, hts _ w4, w6, sig_n w7, hts _ w1⟩, hts _ w2, trivial⟩ ⟨pre_blind, fun U hU hW => ⟨rfl, by rw [hU]; exact hP, va_K.moved hW.alike hKK, hF.at hW (by rw [hU]; exact hS)⟩⟩ rfl hn (by exact hl.1) hst (lv_room hrest) d ⟨hR.2.2.2.2.1, hR.2.2.2.2.2⟩
theorem g_calli {Q : Int32 → Mem → Prop} (As rest : List Value) (hw : CV md.1 idx y cc nL ret n) (hs : RC c y.cls) (hC : CI y cc nL ret rm E (.ref (eA E c) :: As) M Q) (hn : As.length = n) (hst : st = As.reverse ++ .ref (eA E c) :: rest) (hR : RM rm md.2.2.2.2 nL nc ns) (hrest : (rest.map fun v => v.category).sum ≤ 8) (d : decode md.2.1 pc = .ok (.invokevirtual idx, 3)) (hq : pc + 3 = q) (k : ∀ r M1, Q r M1 → G x E md nc ns q lv (.int r :: rest) M1) : G x E md nc ns pc lv st M := by
  obtain ⟨p, l, e, R, s, m, args, below, meth, co, Z⟩ := x; intro hK H locs ls hP hS hl; subst hq
  refine va_calli (run_V hK hP hS hl hw hs (hC l hK.2.2.2.2.2.2.2.2.2.2.2) hn hst hR hrest d) hS (fun q _ h => h) (fun q h => h) (fun r u t H1 locs1 ht hvm hp hB hz1 hk1 hS1 => ?_)
  exact k r u hp hK H1 locs1 ls (by rw [← ht]; exact hB) hS1 hl
theorem g_calll {Q : Int64 → Mem → Prop} (As rest : List Value) (hw : CV md.1 idx y cc nL ret n) (hs : RC c y.cls) (hC : CL y cc nL ret rm E (.ref (eA E c) :: As) M Q) (hn : As.length = n) (hst : st = As.reverse ++ .ref (eA E c) :: rest) (hR : RM rm md.2.2.2.2 nL nc ns) (hrest : (rest.map fun v => v.category).sum ≤ 8) (d : decode md.2.1 pc = .ok (.invokevirtual idx, 3)) (hq : pc + 3 = q) (k : ∀ r M1, Q r M1 → G x E md nc ns q lv (.long r :: rest) M1) : G x E md nc ns pc lv st M := by
  obtain ⟨p, l, e, R, s, m, args, below, meth, co, Z⟩ := x; intro hK H locs ls hP hS hl; subst hq
  refine va_calll (run_V hK hP hS hl hw hs (hC l hK.2.2.2.2.2.2.2.2.2.2.2) hn hst hR hrest d) hS (fun q _ h => h) (fun q h => h) (fun r u t H1 locs1 ht hvm hp hB hz1 hk1 hS1 => ?_)
  exact k r u hp hK H1 locs1 ls (by rw [← ht]; exact hB) hS1 hl
theorem g_callv {Q : Mem → Prop} (As rest : List Value) (hw : CV md.1 idx y cc nL ret n) (hs : RC c y.cls) (hC : CU y cc nL ret rm E (.ref (eA E c) :: As) M Q) (hn : As.length = n) (hst : st = As.reverse ++ .ref (eA E c) :: rest) (hR : RM rm md.2.2.2.2 nL nc ns) (hrest : (rest.map fun v => v.category).sum ≤ 8) (d : decode md.2.1 pc = .ok (.invokevirtual idx, 3)) (hq : pc + 3 = q) (k : ∀ M1, Q M1 → G x E md nc ns q lv rest M1) : G x E md nc ns pc lv st M := by
  obtain ⟨p, l, e, R, s, m, args, below, meth, co, Z⟩ := x; intro hK H locs ls hP hS hl; subst hq
  refine va_callv (run_V hK hP hS hl hw hs (hC l hK.2.2.2.2.2.2.2.2.2.2.2) hn hst hR hrest d) hS (fun q _ h => h) (fun q h => h) (fun u t H1 locs1 ht hvm hp hB hz1 hk1 hS1 => ?_)
  exact k u hp hK H1 locs1 ls (by rw [← ht]; exact hB) hS1 hl
theorem g_scalli {Q : Int32 → Mem → Prop} (As rest : List Value) (hw : CS md.1 idx y cc nL ret n) (hC : CI y cc nL ret rm E As M Q) (hn : As.length = n) (hst : st = As.reverse ++ rest) (hR : RM rm md.2.2.2.2 nL nc ns) (hrest : (rest.map fun v => v.category).sum ≤ 8) (d : decode md.2.1 pc = .ok (.invokestatic idx, 3)) (hq : pc + 3 = q) (k : ∀ r M1, Q r M1 → G x E md nc ns q lv (.int r :: rest) M1) : G x E md nc ns pc lv st M := by
  obtain ⟨p, l, e, R, s, m, args, below, meth, co, Z⟩ := x; intro hK H locs ls hP hS hl; subst hq
  refine va_calli (run_S hK hP hS hl hw (hC l hK.2.2.2.2.2.2.2.2.2.2.2) hn hst hR hrest d) hS (fun q _ h => h) (fun q h => h) (fun r u t H1 locs1 ht hvm hp hB hz1 hk1 hS1 => ?_)
  exact k r u hp hK H1 locs1 ls (by rw [← ht]; exact hB) hS1 hl
theorem g_scalll {Q : Int64 → Mem → Prop} (As rest : List Value) (hw : CS md.1 idx y cc nL ret n) (hC : CL y cc nL ret rm E As M Q) (hn : As.length = n) (hst : st = As.reverse ++ rest) (hR : RM rm md.2.2.2.2 nL nc ns) (hrest : (rest.map fun v => v.category).sum ≤ 8) (d : decode md.2.1 pc = .ok (.invokestatic idx, 3)) (hq : pc + 3 = q) (k : ∀ r M1, Q r M1 → G x E md nc ns q lv (.long r :: rest) M1) : G x E md nc ns pc lv st M := by
  obtain ⟨p, l, e, R, s, m, args, below, meth, co, Z⟩ := x; intro hK H locs ls hP hS hl; subst hq
  refine va_calll (run_S hK hP hS hl hw (hC l hK.2.2.2.2.2.2.2.2.2.2.2) hn hst hR hrest d) hS (fun q _ h => h) (fun q h => h) (fun r u t H1 locs1 ht hvm hp hB hz1 hk1 hS1 => ?_)
  exact k r u hp hK H1 locs1 ls (by rw [← ht]; exact hB) hS1 hl
theorem g_scallv {Q : Mem → Prop} (As rest : List Value) (hw : CS md.1 idx y cc nL ret n) (hC : CU y cc nL ret rm E As M Q) (hn : As.length = n) (hst : st = As.reverse ++ rest) (hR : RM rm md.2.2.2.2 nL nc ns) (hrest : (rest.map fun v => v.category).sum ≤ 8) (d : decode md.2.1 pc = .ok (.invokestatic idx, 3)) (hq : pc + 3 = q) (k : ∀ M1, Q M1 → G x E md nc ns q lv rest M1) : G x E md nc ns pc lv st M := by
  obtain ⟨p, l, e, R, s, m, args, below, meth, co, Z⟩ := x; intro hK H locs ls hP hS hl; subst hq
  refine va_callv (run_S hK hP hS hl hw (hC l hK.2.2.2.2.2.2.2.2.2.2.2) hn hst hR hrest d) hS (fun q _ h => h) (fun q h => h) (fun u t H1 locs1 ht hvm hp hB hz1 hk1 hS1 => ?_)
  exact k u hp hK H1 locs1 ls (by rw [← ht]; exact hB) hS1 hl
theorem g_ncalli {host : String} {Q : Int32 → Mem → Prop} (As rest : List Value) (hw : CN md.1 idx y host cc nL ret n) (hC : CI y cc nL ret rm E As M Q) (hn : As.length = n) (hst : st = As.reverse ++ rest) (hR : RM rm md.2.2.2.2 nL nc ns) (hrest : (rest.map fun v => v.category).sum ≤ 8) (d : decode md.2.1 pc = .ok (.invokestatic idx, 3)) (hq : pc + 3 = q) (k : ∀ r M1, Q r M1 → G x E md nc ns q lv (.int r :: rest) M1) : G x E md nc ns pc lv st M := by
  obtain ⟨p, l, e, R, s, m, args, below, meth, co, Z⟩ := x; intro hK H locs ls hP hS hl; subst hq
  refine va_calli (run_N hK hP hS hl hw (hC l hK.2.2.2.2.2.2.2.2.2.2.2) hn hst hR hrest d) hS (fun q _ h => h) (fun q h => h) (fun r u t H1 locs1 ht hvm hp hB hz1 hk1 hS1 => ?_)
  exact k r u hp hK H1 locs1 ls (by rw [← ht]; exact hB) hS1 hl
theorem g_ncalll {host : String} {Q : Int64 → Mem → Prop} (As rest : List Value) (hw : CN md.1 idx y host cc nL ret n) (hC : CL y cc nL ret rm E As M Q) (hn : As.length = n) (hst : st = As.reverse ++ rest) (hR : RM rm md.2.2.2.2 nL nc ns) (hrest : (rest.map fun v => v.category).sum ≤ 8) (d : decode md.2.1 pc = .ok (.invokestatic idx, 3)) (hq : pc + 3 = q) (k : ∀ r M1, Q r M1 → G x E md nc ns q lv (.long r :: rest) M1) : G x E md nc ns pc lv st M := by
  obtain ⟨p, l, e, R, s, m, args, below, meth, co, Z⟩ := x; intro hK H locs ls hP hS hl; subst hq
  refine va_calll (run_N hK hP hS hl hw (hC l hK.2.2.2.2.2.2.2.2.2.2.2) hn hst hR hrest d) hS (fun q _ h => h) (fun q h => h) (fun r u t H1 locs1 ht hvm hp hB hz1 hk1 hS1 => ?_)
  exact k r u hp hK H1 locs1 ls (by rw [← ht]; exact hB) hS1 hl
theorem g_ncallv {host : String} {Q : Mem → Prop} (As rest : List Value) (hw : CN md.1 idx y host cc nL ret n) (hC : CU y cc nL ret rm E As M Q) (hn : As.length = n) (hst : st = As.reverse ++ rest) (hR : RM rm md.2.2.2.2 nL nc ns) (hrest : (rest.map fun v => v.category).sum ≤ 8) (d : decode md.2.1 pc = .ok (.invokestatic idx, 3)) (hq : pc + 3 = q) (k : ∀ M1, Q M1 → G x E md nc ns q lv rest M1) : G x E md nc ns pc lv st M := by
  obtain ⟨p, l, e, R, s, m, args, below, meth, co, Z⟩ := x; intro hK H locs ls hP hS hl; subst hq
  refine va_callv (run_N hK hP hS hl hw (hC l hK.2.2.2.2.2.2.2.2.2.2.2) hn hst hR hrest d) hS (fun q _ h => h) (fun q h => h) (fun u t H1 locs1 ht hvm hp hB hz1 hk1 hS1 => ?_)
  exact k u hp hK H1 locs1 ls (by rw [← ht]; exact hB) hS1 hl
end CallRows
end
