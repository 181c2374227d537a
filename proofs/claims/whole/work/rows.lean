section
-- ===== PART A: goes FIRST, ahead of the names: the tables' words, and 'selects' of the private methods out of them =====
/-- a private method of a class that the tables say can be made, by its rows of tables_1 -/
def lw_okq (q : MethodName × Nat) : Prop := (q.1.cls ≠ "java/lang/invoke/MethodHandle" ∧ q.1.cls ≠ "java/lang/invoke/VarHandle") ∧ Cond.instantiable q.1.cls q.2 ∈ tables_1 ∧ Cond.privateMethod q.1 ∈ tables_1 ∧ Cond.instanceMethod q.1 ∈ tables_1
theorem lw_p0 : lw_okq (⟨"PhosphorHush", "prepare", "()V"⟩, 6) := ⟨⟨by decide +kernel, by decide +kernel⟩, List.mem_of_getElem? (i := 16) (by decide +kernel), List.mem_of_getElem? (i := 143) (by decide +kernel), List.mem_of_getElem? (i := 144) (by decide +kernel)⟩
theorem lw_p1 : lw_okq (⟨"PhosphorHush", "finish", "(I)I"⟩, 6) := ⟨⟨by decide +kernel, by decide +kernel⟩, List.mem_of_getElem? (i := 16) (by decide +kernel), List.mem_of_getElem? (i := 166) (by decide +kernel), List.mem_of_getElem? (i := 167) (by decide +kernel)⟩
theorem lw_p2 : lw_okq (⟨"PhosphorHush", "dropOldest", "()V"⟩, 6) := ⟨⟨by decide +kernel, by decide +kernel⟩, List.mem_of_getElem? (i := 16) (by decide +kernel), List.mem_of_getElem? (i := 170) (by decide +kernel), List.mem_of_getElem? (i := 171) (by decide +kernel)⟩
theorem lw_p3 : lw_okq (⟨"PhosphorHush$Screen", "swap", "(II)V"⟩, 5) := ⟨⟨by decide +kernel, by decide +kernel⟩, List.mem_of_getElem? (i := 30) (by decide +kernel), List.mem_of_getElem? (i := 216) (by decide +kernel), List.mem_of_getElem? (i := 217) (by decide +kernel)⟩
theorem lw_p4 : lw_okq (⟨"PhosphorHush$Screen", "rank", "(III)I"⟩, 5) := ⟨⟨by decide +kernel, by decide +kernel⟩, List.mem_of_getElem? (i := 30) (by decide +kernel), List.mem_of_getElem? (i := 242) (by decide +kernel), List.mem_of_getElem? (i := 243) (by decide +kernel)⟩
theorem lw_p5 : lw_okq (⟨"PhosphorHush$Program", "moveTo", "(I)V"⟩, 4) := ⟨⟨by decide +kernel, by decide +kernel⟩, List.mem_of_getElem? (i := 74) (by decide +kernel), List.mem_of_getElem? (i := 320) (by decide +kernel), List.mem_of_getElem? (i := 321) (by decide +kernel)⟩
theorem lw_p6 : lw_okq (⟨"PhosphorHush$Program", "readWord", "()I"⟩, 4) := ⟨⟨by decide +kernel, by decide +kernel⟩, List.mem_of_getElem? (i := 74) (by decide +kernel), List.mem_of_getElem? (i := 324) (by decide +kernel), List.mem_of_getElem? (i := 325) (by decide +kernel)⟩
theorem lw_p7 : lw_okq (⟨"PhosphorHush$Program", "isWord", "(ILjava/lang/String;)Z"⟩, 4) := ⟨⟨by decide +kernel, by decide +kernel⟩, List.mem_of_getElem? (i := 74) (by decide +kernel), List.mem_of_getElem? (i := 338) (by decide +kernel), List.mem_of_getElem? (i := 339) (by decide +kernel)⟩
theorem lw_p8 : lw_okq (⟨"PhosphorHush$Program", "readNumbers", "(I)Z"⟩, 4) := ⟨⟨by decide +kernel, by decide +kernel⟩, List.mem_of_getElem? (i := 74) (by decide +kernel), List.mem_of_getElem? (i := 393) (by decide +kernel), List.mem_of_getElem? (i := 394) (by decide +kernel)⟩
theorem lw_p9 : lw_okq (⟨"PhosphorHush$Program", "readNumber", "()I"⟩, 4) := ⟨⟨by decide +kernel, by decide +kernel⟩, List.mem_of_getElem? (i := 74) (by decide +kernel), List.mem_of_getElem? (i := 397) (by decide +kernel), List.mem_of_getElem? (i := 398) (by decide +kernel)⟩
theorem lw_p10 : lw_okq (⟨"PhosphorHush$Program", "readEnd", "()Z"⟩, 4) := ⟨⟨by decide +kernel, by decide +kernel⟩, List.mem_of_getElem? (i := 74) (by decide +kernel), List.mem_of_getElem? (i := 401) (by decide +kernel), List.mem_of_getElem? (i := 402) (by decide +kernel)⟩
theorem lw_p11 : lw_okq (⟨"PhosphorHush$Program", "carryOut", "(ILPhosphorHush$Screen;)I"⟩, 4) := ⟨⟨by decide +kernel, by decide +kernel⟩, List.mem_of_getElem? (i := 74) (by decide +kernel), List.mem_of_getElem? (i := 405) (by decide +kernel), List.mem_of_getElem? (i := 406) (by decide +kernel)⟩
theorem lw_p12 : lw_okq (⟨"PhosphorHush$Screen", "seen", "(III)J"⟩, 5) := ⟨⟨by decide +kernel, by decide +kernel⟩, List.mem_of_getElem? (i := 30) (by decide +kernel), List.mem_of_getElem? (i := 426) (by decide +kernel), List.mem_of_getElem? (i := 427) (by decide +kernel)⟩
theorem lw_p13 : lw_okq (⟨"PhosphorHush$Screen", "sumOver", "(III)I"⟩, 5) := ⟨⟨by decide +kernel, by decide +kernel⟩, List.mem_of_getElem? (i := 30) (by decide +kernel), List.mem_of_getElem? (i := 430) (by decide +kernel), List.mem_of_getElem? (i := 431) (by decide +kernel)⟩
theorem lw_p14 : lw_okq (⟨"PhosphorHush$Screen", "next", "(I)I"⟩, 5) := ⟨⟨by decide +kernel, by decide +kernel⟩, List.mem_of_getElem? (i := 30) (by decide +kernel), List.mem_of_getElem? (i := 443) (by decide +kernel), List.mem_of_getElem? (i := 444) (by decide +kernel)⟩
theorem lw_p15 : lw_okq (⟨"PhosphorHush$Screen", "startInFrame", "()I"⟩, 5) := ⟨⟨by decide +kernel, by decide +kernel⟩, List.mem_of_getElem? (i := 30) (by decide +kernel), List.mem_of_getElem? (i := 454) (by decide +kernel), List.mem_of_getElem? (i := 455) (by decide +kernel)⟩
def lw_privs_1 : List (MethodName × Nat) := [(⟨"PhosphorHush", "prepare", "()V"⟩, 6), (⟨"PhosphorHush", "finish", "(I)I"⟩, 6), (⟨"PhosphorHush", "dropOldest", "()V"⟩, 6), (⟨"PhosphorHush$Screen", "swap", "(II)V"⟩, 5), (⟨"PhosphorHush$Screen", "rank", "(III)I"⟩, 5), (⟨"PhosphorHush$Program", "moveTo", "(I)V"⟩, 4), (⟨"PhosphorHush$Program", "readWord", "()I"⟩, 4), (⟨"PhosphorHush$Program", "isWord", "(ILjava/lang/String;)Z"⟩, 4), (⟨"PhosphorHush$Program", "readNumbers", "(I)Z"⟩, 4), (⟨"PhosphorHush$Program", "readNumber", "()I"⟩, 4), (⟨"PhosphorHush$Program", "readEnd", "()Z"⟩, 4), (⟨"PhosphorHush$Program", "carryOut", "(ILPhosphorHush$Screen;)I"⟩, 4), (⟨"PhosphorHush$Screen", "seen", "(III)J"⟩, 5), (⟨"PhosphorHush$Screen", "sumOver", "(III)I"⟩, 5), (⟨"PhosphorHush$Screen", "next", "(I)I"⟩, 5), (⟨"PhosphorHush$Screen", "startInFrame", "()I"⟩, 5)]
theorem lw_r1 : ∀ q ∈ lw_privs_1, lw_okq q := List.forall_mem_cons.mpr ⟨lw_p0, List.forall_mem_cons.mpr ⟨lw_p1, List.forall_mem_cons.mpr ⟨lw_p2, List.forall_mem_cons.mpr ⟨lw_p3, List.forall_mem_cons.mpr ⟨lw_p4, List.forall_mem_cons.mpr ⟨lw_p5, List.forall_mem_cons.mpr ⟨lw_p6, List.forall_mem_cons.mpr ⟨lw_p7, List.forall_mem_cons.mpr ⟨lw_p8, List.forall_mem_cons.mpr ⟨lw_p9, List.forall_mem_cons.mpr ⟨lw_p10, List.forall_mem_cons.mpr ⟨lw_p11, List.forall_mem_cons.mpr ⟨lw_p12, List.forall_mem_cons.mpr ⟨lw_p13, List.forall_mem_cons.mpr ⟨lw_p14, List.forall_mem_cons.mpr ⟨lw_p15, fun _ h => absurd h List.not_mem_nil⟩⟩⟩⟩⟩⟩⟩⟩⟩⟩⟩⟩⟩⟩⟩⟩
theorem lw_p16 : lw_okq (⟨"PhosphorHush", "settingCount", "(I)I"⟩, 6) := ⟨⟨by decide +kernel, by decide +kernel⟩, List.mem_of_getElem? (i := 16) (by decide +kernel), List.mem_of_getElem? (i := 475) (by decide +kernel), List.mem_of_getElem? (i := 476) (by decide +kernel)⟩
theorem lw_p17 : lw_okq (⟨"PhosphorHush$Screen", "countSeen", "(I[I)V"⟩, 5) := ⟨⟨by decide +kernel, by decide +kernel⟩, List.mem_of_getElem? (i := 30) (by decide +kernel), List.mem_of_getElem? (i := 530) (by decide +kernel), List.mem_of_getElem? (i := 531) (by decide +kernel)⟩
theorem lw_p18 : lw_okq (⟨"PhosphorHush$Travel", "listSpots", "()V"⟩, 6) := ⟨⟨by decide +kernel, by decide +kernel⟩, List.mem_of_getElem? (i := 94) (by decide +kernel), List.mem_of_getElem? (i := 546) (by decide +kernel), List.mem_of_getElem? (i := 547) (by decide +kernel)⟩
theorem lw_p19 : lw_okq (⟨"PhosphorHush$Travel", "fillRest", "()V"⟩, 6) := ⟨⟨by decide +kernel, by decide +kernel⟩, List.mem_of_getElem? (i := 94) (by decide +kernel), List.mem_of_getElem? (i := 551) (by decide +kernel), List.mem_of_getElem? (i := 552) (by decide +kernel)⟩
theorem lw_p20 : lw_okq (⟨"PhosphorHush$Travel", "leastFrom", "(II)I"⟩, 6) := ⟨⟨by decide +kernel, by decide +kernel⟩, List.mem_of_getElem? (i := 94) (by decide +kernel), List.mem_of_getElem? (i := 555) (by decide +kernel), List.mem_of_getElem? (i := 556) (by decide +kernel)⟩
theorem lw_p21 : lw_okq (⟨"PhosphorHush$Travel", "bestStep", "(II)I"⟩, 6) := ⟨⟨by decide +kernel, by decide +kernel⟩, List.mem_of_getElem? (i := 94) (by decide +kernel), List.mem_of_getElem? (i := 559) (by decide +kernel), List.mem_of_getElem? (i := 560) (by decide +kernel)⟩
theorem lw_p22 : lw_okq (⟨"PhosphorHush$Travel", "travelBy", "(III)I"⟩, 6) := ⟨⟨by decide +kernel, by decide +kernel⟩, List.mem_of_getElem? (i := 94) (by decide +kernel), List.mem_of_getElem? (i := 563) (by decide +kernel), List.mem_of_getElem? (i := 564) (by decide +kernel)⟩
theorem lw_p23 : lw_okq (⟨"PhosphorHush$Travel", "follow", "()V"⟩, 6) := ⟨⟨by decide +kernel, by decide +kernel⟩, List.mem_of_getElem? (i := 94) (by decide +kernel), List.mem_of_getElem? (i := 568) (by decide +kernel), List.mem_of_getElem? (i := 569) (by decide +kernel)⟩
theorem lw_p24 : lw_okq (⟨"PhosphorHushModel", "act", "()V"⟩, 14) := ⟨⟨by decide +kernel, by decide +kernel⟩, List.mem_of_getElem? (i := 594) (by decide +kernel), List.mem_of_getElem? (i := 657) (by decide +kernel), List.mem_of_getElem? (i := 658) (by decide +kernel)⟩
theorem lw_p25 : lw_okq (⟨"PhosphorHushModel", "kindCode", "(II)I"⟩, 14) := ⟨⟨by decide +kernel, by decide +kernel⟩, List.mem_of_getElem? (i := 594) (by decide +kernel), List.mem_of_getElem? (i := 665) (by decide +kernel), List.mem_of_getElem? (i := 666) (by decide +kernel)⟩
theorem lw_p26 : lw_okq (⟨"PhosphorHushModel", "kindNow", "(II)I"⟩, 14) := ⟨⟨by decide +kernel, by decide +kernel⟩, List.mem_of_getElem? (i := 594) (by decide +kernel), List.mem_of_getElem? (i := 672) (by decide +kernel), List.mem_of_getElem? (i := 673) (by decide +kernel)⟩
theorem lw_p27 : lw_okq (⟨"PhosphorHushModel", "lightCode", "(I)I"⟩, 14) := ⟨⟨by decide +kernel, by decide +kernel⟩, List.mem_of_getElem? (i := 594) (by decide +kernel), List.mem_of_getElem? (i := 680) (by decide +kernel), List.mem_of_getElem? (i := 681) (by decide +kernel)⟩
theorem lw_p28 : lw_okq (⟨"PhosphorHushModel", "positionOf", "(I)I"⟩, 14) := ⟨⟨by decide +kernel, by decide +kernel⟩, List.mem_of_getElem? (i := 594) (by decide +kernel), List.mem_of_getElem? (i := 684) (by decide +kernel), List.mem_of_getElem? (i := 685) (by decide +kernel)⟩
theorem lw_p29 : lw_okq (⟨"PhosphorHushModel", "spotAt", "(I)I"⟩, 14) := ⟨⟨by decide +kernel, by decide +kernel⟩, List.mem_of_getElem? (i := 594) (by decide +kernel), List.mem_of_getElem? (i := 688) (by decide +kernel), List.mem_of_getElem? (i := 689) (by decide +kernel)⟩
theorem lw_p30 : lw_okq (⟨"PhosphorHushModel", "lightNow", "(I)I"⟩, 14) := ⟨⟨by decide +kernel, by decide +kernel⟩, List.mem_of_getElem? (i := 594) (by decide +kernel), List.mem_of_getElem? (i := 692) (by decide +kernel), List.mem_of_getElem? (i := 693) (by decide +kernel)⟩
theorem lw_p31 : lw_okq (⟨"PhosphorHushModel", "darkCode", "(I)I"⟩, 14) := ⟨⟨by decide +kernel, by decide +kernel⟩, List.mem_of_getElem? (i := 594) (by decide +kernel), List.mem_of_getElem? (i := 700) (by decide +kernel), List.mem_of_getElem? (i := 701) (by decide +kernel)⟩
def lw_privs_2 : List (MethodName × Nat) := [(⟨"PhosphorHush", "settingCount", "(I)I"⟩, 6), (⟨"PhosphorHush$Screen", "countSeen", "(I[I)V"⟩, 5), (⟨"PhosphorHush$Travel", "listSpots", "()V"⟩, 6), (⟨"PhosphorHush$Travel", "fillRest", "()V"⟩, 6), (⟨"PhosphorHush$Travel", "leastFrom", "(II)I"⟩, 6), (⟨"PhosphorHush$Travel", "bestStep", "(II)I"⟩, 6), (⟨"PhosphorHush$Travel", "travelBy", "(III)I"⟩, 6), (⟨"PhosphorHush$Travel", "follow", "()V"⟩, 6), (⟨"PhosphorHushModel", "act", "()V"⟩, 14), (⟨"PhosphorHushModel", "kindCode", "(II)I"⟩, 14), (⟨"PhosphorHushModel", "kindNow", "(II)I"⟩, 14), (⟨"PhosphorHushModel", "lightCode", "(I)I"⟩, 14), (⟨"PhosphorHushModel", "positionOf", "(I)I"⟩, 14), (⟨"PhosphorHushModel", "spotAt", "(I)I"⟩, 14), (⟨"PhosphorHushModel", "lightNow", "(I)I"⟩, 14), (⟨"PhosphorHushModel", "darkCode", "(I)I"⟩, 14)]
theorem lw_r2 : ∀ q ∈ lw_privs_2, lw_okq q := List.forall_mem_cons.mpr ⟨lw_p16, List.forall_mem_cons.mpr ⟨lw_p17, List.forall_mem_cons.mpr ⟨lw_p18, List.forall_mem_cons.mpr ⟨lw_p19, List.forall_mem_cons.mpr ⟨lw_p20, List.forall_mem_cons.mpr ⟨lw_p21, List.forall_mem_cons.mpr ⟨lw_p22, List.forall_mem_cons.mpr ⟨lw_p23, List.forall_mem_cons.mpr ⟨lw_p24, List.forall_mem_cons.mpr ⟨lw_p25, List.forall_mem_cons.mpr ⟨lw_p26, List.forall_mem_cons.mpr ⟨lw_p27, List.forall_mem_cons.mpr ⟨lw_p28, List.forall_mem_cons.mpr ⟨lw_p29, List.forall_mem_cons.mpr ⟨lw_p30, List.forall_mem_cons.mpr ⟨lw_p31, fun _ h => absurd h List.not_mem_nil⟩⟩⟩⟩⟩⟩⟩⟩⟩⟩⟩⟩⟩⟩⟩⟩
theorem lw_p32 : lw_okq (⟨"PhosphorHushModel", "darkNow", "(I)I"⟩, 14) := ⟨⟨by decide +kernel, by decide +kernel⟩, List.mem_of_getElem? (i := 594) (by decide +kernel), List.mem_of_getElem? (i := 704) (by decide +kernel), List.mem_of_getElem? (i := 705) (by decide +kernel)⟩
theorem lw_p33 : lw_okq (⟨"PhosphorHushModel", "swapCode", "(II)I"⟩, 14) := ⟨⟨by decide +kernel, by decide +kernel⟩, List.mem_of_getElem? (i := 594) (by decide +kernel), List.mem_of_getElem? (i := 712) (by decide +kernel), List.mem_of_getElem? (i := 713) (by decide +kernel)⟩
theorem lw_p34 : lw_okq (⟨"PhosphorHushModel", "swapNow", "(II)I"⟩, 14) := ⟨⟨by decide +kernel, by decide +kernel⟩, List.mem_of_getElem? (i := 594) (by decide +kernel), List.mem_of_getElem? (i := 716) (by decide +kernel), List.mem_of_getElem? (i := 717) (by decide +kernel)⟩
theorem lw_p35 : lw_okq (⟨"PhosphorHushModel", "changePlaces", "(II)V"⟩, 14) := ⟨⟨by decide +kernel, by decide +kernel⟩, List.mem_of_getElem? (i := 594) (by decide +kernel), List.mem_of_getElem? (i := 720) (by decide +kernel), List.mem_of_getElem? (i := 721) (by decide +kernel)⟩
theorem lw_p36 : lw_okq (⟨"PhosphorHushModel", "litMany", "()I"⟩, 14) := ⟨⟨by decide +kernel, by decide +kernel⟩, List.mem_of_getElem? (i := 594) (by decide +kernel), List.mem_of_getElem? (i := 724) (by decide +kernel), List.mem_of_getElem? (i := 725) (by decide +kernel)⟩
theorem lw_p37 : lw_okq (⟨"PhosphorHushModel", "beam", "()V"⟩, 14) := ⟨⟨by decide +kernel, by decide +kernel⟩, List.mem_of_getElem? (i := 594) (by decide +kernel), List.mem_of_getElem? (i := 728) (by decide +kernel), List.mem_of_getElem? (i := 729) (by decide +kernel)⟩
theorem lw_p38 : lw_okq (⟨"PhosphorHushModel", "sortCode", "(I)I"⟩, 14) := ⟨⟨by decide +kernel, by decide +kernel⟩, List.mem_of_getElem? (i := 594) (by decide +kernel), List.mem_of_getElem? (i := 742) (by decide +kernel), List.mem_of_getElem? (i := 743) (by decide +kernel)⟩
theorem lw_p39 : lw_okq (⟨"PhosphorHushModel", "sortNow", "(I)I"⟩, 14) := ⟨⟨by decide +kernel, by decide +kernel⟩, List.mem_of_getElem? (i := 594) (by decide +kernel), List.mem_of_getElem? (i := 746) (by decide +kernel), List.mem_of_getElem? (i := 747) (by decide +kernel)⟩
theorem lw_p40 : lw_okq (⟨"PhosphorHushModel", "keyOf", "(III)I"⟩, 14) := ⟨⟨by decide +kernel, by decide +kernel⟩, List.mem_of_getElem? (i := 594) (by decide +kernel), List.mem_of_getElem? (i := 750) (by decide +kernel), List.mem_of_getElem? (i := 751) (by decide +kernel)⟩
theorem lw_p41 : lw_okq (⟨"PhosphorHushModel", "drawNow", "(III)I"⟩, 14) := ⟨⟨by decide +kernel, by decide +kernel⟩, List.mem_of_getElem? (i := 594) (by decide +kernel), List.mem_of_getElem? (i := 770) (by decide +kernel), List.mem_of_getElem? (i := 771) (by decide +kernel)⟩
theorem lw_p42 : lw_okq (⟨"PhosphorHushModel", "inPicture", "(I)I"⟩, 14) := ⟨⟨by decide +kernel, by decide +kernel⟩, List.mem_of_getElem? (i := 594) (by decide +kernel), List.mem_of_getElem? (i := 774) (by decide +kernel), List.mem_of_getElem? (i := 775) (by decide +kernel)⟩
theorem lw_p43 : lw_okq (⟨"PhosphorHushModel", "next", "()V"⟩, 14) := ⟨⟨by decide +kernel, by decide +kernel⟩, List.mem_of_getElem? (i := 594) (by decide +kernel), List.mem_of_getElem? (i := 805) (by decide +kernel), List.mem_of_getElem? (i := 806) (by decide +kernel)⟩
theorem lw_p44 : lw_okq (⟨"PhosphorHushModel", "sign", "(I)I"⟩, 14) := ⟨⟨by decide +kernel, by decide +kernel⟩, List.mem_of_getElem? (i := 594) (by decide +kernel), List.mem_of_getElem? (i := 809) (by decide +kernel), List.mem_of_getElem? (i := 810) (by decide +kernel)⟩
theorem lw_p45 : lw_okq (⟨"PhosphorHushModel", "command", "()I"⟩, 14) := ⟨⟨by decide +kernel, by decide +kernel⟩, List.mem_of_getElem? (i := 594) (by decide +kernel), List.mem_of_getElem? (i := 813) (by decide +kernel), List.mem_of_getElem? (i := 814) (by decide +kernel)⟩
theorem lw_p46 : lw_okq (⟨"PhosphorHushModel", "wordHere", "()I"⟩, 14) := ⟨⟨by decide +kernel, by decide +kernel⟩, List.mem_of_getElem? (i := 594) (by decide +kernel), List.mem_of_getElem? (i := 817) (by decide +kernel), List.mem_of_getElem? (i := 818) (by decide +kernel)⟩
theorem lw_p47 : lw_okq (⟨"PhosphorHushModel", "isWord", "(I)Z"⟩, 14) := ⟨⟨by decide +kernel, by decide +kernel⟩, List.mem_of_getElem? (i := 594) (by decide +kernel), List.mem_of_getElem? (i := 821) (by decide +kernel), List.mem_of_getElem? (i := 822) (by decide +kernel)⟩
def lw_privs_3 : List (MethodName × Nat) := [(⟨"PhosphorHushModel", "darkNow", "(I)I"⟩, 14), (⟨"PhosphorHushModel", "swapCode", "(II)I"⟩, 14), (⟨"PhosphorHushModel", "swapNow", "(II)I"⟩, 14), (⟨"PhosphorHushModel", "changePlaces", "(II)V"⟩, 14), (⟨"PhosphorHushModel", "litMany", "()I"⟩, 14), (⟨"PhosphorHushModel", "beam", "()V"⟩, 14), (⟨"PhosphorHushModel", "sortCode", "(I)I"⟩, 14), (⟨"PhosphorHushModel", "sortNow", "(I)I"⟩, 14), (⟨"PhosphorHushModel", "keyOf", "(III)I"⟩, 14), (⟨"PhosphorHushModel", "drawNow", "(III)I"⟩, 14), (⟨"PhosphorHushModel", "inPicture", "(I)I"⟩, 14), (⟨"PhosphorHushModel", "next", "()V"⟩, 14), (⟨"PhosphorHushModel", "sign", "(I)I"⟩, 14), (⟨"PhosphorHushModel", "command", "()I"⟩, 14), (⟨"PhosphorHushModel", "wordHere", "()I"⟩, 14), (⟨"PhosphorHushModel", "isWord", "(I)Z"⟩, 14)]
theorem lw_r3 : ∀ q ∈ lw_privs_3, lw_okq q := List.forall_mem_cons.mpr ⟨lw_p32, List.forall_mem_cons.mpr ⟨lw_p33, List.forall_mem_cons.mpr ⟨lw_p34, List.forall_mem_cons.mpr ⟨lw_p35, List.forall_mem_cons.mpr ⟨lw_p36, List.forall_mem_cons.mpr ⟨lw_p37, List.forall_mem_cons.mpr ⟨lw_p38, List.forall_mem_cons.mpr ⟨lw_p39, List.forall_mem_cons.mpr ⟨lw_p40, List.forall_mem_cons.mpr ⟨lw_p41, List.forall_mem_cons.mpr ⟨lw_p42, List.forall_mem_cons.mpr ⟨lw_p43, List.forall_mem_cons.mpr ⟨lw_p44, List.forall_mem_cons.mpr ⟨lw_p45, List.forall_mem_cons.mpr ⟨lw_p46, List.forall_mem_cons.mpr ⟨lw_p47, fun _ h => absurd h List.not_mem_nil⟩⟩⟩⟩⟩⟩⟩⟩⟩⟩⟩⟩⟩⟩⟩⟩
theorem lw_p48 : lw_okq (⟨"PhosphorHushModel", "fail", "(I)V"⟩, 14) := ⟨⟨by decide +kernel, by decide +kernel⟩, List.mem_of_getElem? (i := 594) (by decide +kernel), List.mem_of_getElem? (i := 831) (by decide +kernel), List.mem_of_getElem? (i := 832) (by decide +kernel)⟩
theorem lw_p49 : lw_okq (⟨"PhosphorHushModel", "readNumber", "(I)V"⟩, 14) := ⟨⟨by decide +kernel, by decide +kernel⟩, List.mem_of_getElem? (i := 594) (by decide +kernel), List.mem_of_getElem? (i := 835) (by decide +kernel), List.mem_of_getElem? (i := 836) (by decide +kernel)⟩
theorem lw_p50 : lw_okq (⟨"PhosphorHushModel", "codeOf", "(III)I"⟩, 14) := ⟨⟨by decide +kernel, by decide +kernel⟩, List.mem_of_getElem? (i := 594) (by decide +kernel), List.mem_of_getElem? (i := 839) (by decide +kernel), List.mem_of_getElem? (i := 840) (by decide +kernel)⟩
theorem lw_p51 : lw_okq (⟨"PhosphorHushModel", "carry", "(III)I"⟩, 14) := ⟨⟨by decide +kernel, by decide +kernel⟩, List.mem_of_getElem? (i := 594) (by decide +kernel), List.mem_of_getElem? (i := 843) (by decide +kernel), List.mem_of_getElem? (i := 844) (by decide +kernel)⟩
theorem lw_p52 : lw_okq (⟨"PhosphorHushModel", "seenBy", "(I)I"⟩, 14) := ⟨⟨by decide +kernel, by decide +kernel⟩, List.mem_of_getElem? (i := 594) (by decide +kernel), List.mem_of_getElem? (i := 851) (by decide +kernel), List.mem_of_getElem? (i := 852) (by decide +kernel)⟩
theorem lw_p53 : lw_okq (⟨"PhosphorHushModel", "isEyed", "(I)Z"⟩, 14) := ⟨⟨by decide +kernel, by decide +kernel⟩, List.mem_of_getElem? (i := 594) (by decide +kernel), List.mem_of_getElem? (i := 855) (by decide +kernel), List.mem_of_getElem? (i := 856) (by decide +kernel)⟩
theorem lw_p54 : lw_okq (⟨"PhosphorHushModel", "eyeMean", "(I)I"⟩, 14) := ⟨⟨by decide +kernel, by decide +kernel⟩, List.mem_of_getElem? (i := 594) (by decide +kernel), List.mem_of_getElem? (i := 859) (by decide +kernel), List.mem_of_getElem? (i := 860) (by decide +kernel)⟩
theorem lw_p55 : lw_okq (⟨"PhosphorHushModel", "brightnessAt", "(II)I"⟩, 14) := ⟨⟨by decide +kernel, by decide +kernel⟩, List.mem_of_getElem? (i := 594) (by decide +kernel), List.mem_of_getElem? (i := 863) (by decide +kernel), List.mem_of_getElem? (i := 864) (by decide +kernel)⟩
theorem lw_p56 : lw_okq (⟨"PhosphorHushModel", "isShotNow", "(I)Z"⟩, 14) := ⟨⟨by decide +kernel, by decide +kernel⟩, List.mem_of_getElem? (i := 594) (by decide +kernel), List.mem_of_getElem? (i := 867) (by decide +kernel), List.mem_of_getElem? (i := 868) (by decide +kernel)⟩
theorem lw_p57 : lw_okq (⟨"PhosphorHushModel", "isShot", "(III)Z"⟩, 14) := ⟨⟨by decide +kernel, by decide +kernel⟩, List.mem_of_getElem? (i := 594) (by decide +kernel), List.mem_of_getElem? (i := 871) (by decide +kernel), List.mem_of_getElem? (i := 872) (by decide +kernel)⟩
theorem lw_p58 : lw_okq (⟨"PhosphorHushModel", "shutterMean", "(III)I"⟩, 14) := ⟨⟨by decide +kernel, by decide +kernel⟩, List.mem_of_getElem? (i := 594) (by decide +kernel), List.mem_of_getElem? (i := 875) (by decide +kernel), List.mem_of_getElem? (i := 876) (by decide +kernel)⟩
theorem lw_p59 : lw_okq (⟨"PhosphorHushModel", "wrongBy", "(I)I"⟩, 14) := ⟨⟨by decide +kernel, by decide +kernel⟩, List.mem_of_getElem? (i := 594) (by decide +kernel), List.mem_of_getElem? (i := 879) (by decide +kernel), List.mem_of_getElem? (i := 880) (by decide +kernel)⟩
theorem lw_p60 : lw_okq (⟨"PhosphorHushModel", "isWrong", "(II)Z"⟩, 14) := ⟨⟨by decide +kernel, by decide +kernel⟩, List.mem_of_getElem? (i := 594) (by decide +kernel), List.mem_of_getElem? (i := 883) (by decide +kernel), List.mem_of_getElem? (i := 884) (by decide +kernel)⟩
theorem lw_p61 : lw_okq (⟨"PhosphorHushModel", "travel", "()I"⟩, 14) := ⟨⟨by decide +kernel, by decide +kernel⟩, List.mem_of_getElem? (i := 594) (by decide +kernel), List.mem_of_getElem? (i := 887) (by decide +kernel), List.mem_of_getElem? (i := 888) (by decide +kernel)⟩
theorem lw_p62 : lw_okq (⟨"PhosphorHushModel", "lastLit", "()I"⟩, 14) := ⟨⟨by decide +kernel, by decide +kernel⟩, List.mem_of_getElem? (i := 594) (by decide +kernel), List.mem_of_getElem? (i := 891) (by decide +kernel), List.mem_of_getElem? (i := 892) (by decide +kernel)⟩
theorem lw_p63 : lw_okq (⟨"PhosphorHushModel", "flickerOf", "(I)I"⟩, 14) := ⟨⟨by decide +kernel, by decide +kernel⟩, List.mem_of_getElem? (i := 594) (by decide +kernel), List.mem_of_getElem? (i := 899) (by decide +kernel), List.mem_of_getElem? (i := 900) (by decide +kernel)⟩
def lw_privs_4 : List (MethodName × Nat) := [(⟨"PhosphorHushModel", "fail", "(I)V"⟩, 14), (⟨"PhosphorHushModel", "readNumber", "(I)V"⟩, 14), (⟨"PhosphorHushModel", "codeOf", "(III)I"⟩, 14), (⟨"PhosphorHushModel", "carry", "(III)I"⟩, 14), (⟨"PhosphorHushModel", "seenBy", "(I)I"⟩, 14), (⟨"PhosphorHushModel", "isEyed", "(I)Z"⟩, 14), (⟨"PhosphorHushModel", "eyeMean", "(I)I"⟩, 14), (⟨"PhosphorHushModel", "brightnessAt", "(II)I"⟩, 14), (⟨"PhosphorHushModel", "isShotNow", "(I)Z"⟩, 14), (⟨"PhosphorHushModel", "isShot", "(III)Z"⟩, 14), (⟨"PhosphorHushModel", "shutterMean", "(III)I"⟩, 14), (⟨"PhosphorHushModel", "wrongBy", "(I)I"⟩, 14), (⟨"PhosphorHushModel", "isWrong", "(II)Z"⟩, 14), (⟨"PhosphorHushModel", "travel", "()I"⟩, 14), (⟨"PhosphorHushModel", "lastLit", "()I"⟩, 14), (⟨"PhosphorHushModel", "flickerOf", "(I)I"⟩, 14)]
theorem lw_r4 : ∀ q ∈ lw_privs_4, lw_okq q := List.forall_mem_cons.mpr ⟨lw_p48, List.forall_mem_cons.mpr ⟨lw_p49, List.forall_mem_cons.mpr ⟨lw_p50, List.forall_mem_cons.mpr ⟨lw_p51, List.forall_mem_cons.mpr ⟨lw_p52, List.forall_mem_cons.mpr ⟨lw_p53, List.forall_mem_cons.mpr ⟨lw_p54, List.forall_mem_cons.mpr ⟨lw_p55, List.forall_mem_cons.mpr ⟨lw_p56, List.forall_mem_cons.mpr ⟨lw_p57, List.forall_mem_cons.mpr ⟨lw_p58, List.forall_mem_cons.mpr ⟨lw_p59, List.forall_mem_cons.mpr ⟨lw_p60, List.forall_mem_cons.mpr ⟨lw_p61, List.forall_mem_cons.mpr ⟨lw_p62, List.forall_mem_cons.mpr ⟨lw_p63, fun _ h => absurd h List.not_mem_nil⟩⟩⟩⟩⟩⟩⟩⟩⟩⟩⟩⟩⟩⟩⟩⟩
theorem lw_p64 : lw_okq (⟨"PhosphorHushModel", "wrongFor", "(II)I"⟩, 14) := ⟨⟨by decide +kernel, by decide +kernel⟩, List.mem_of_getElem? (i := 594) (by decide +kernel), List.mem_of_getElem? (i := 919) (by decide +kernel), List.mem_of_getElem? (i := 920) (by decide +kernel)⟩
theorem lw_p65 : lw_okq (⟨"PhosphorHushModel", "reckonWays", "()V"⟩, 14) := ⟨⟨by decide +kernel, by decide +kernel⟩, List.mem_of_getElem? (i := 594) (by decide +kernel), List.mem_of_getElem? (i := 927) (by decide +kernel), List.mem_of_getElem? (i := 928) (by decide +kernel)⟩
theorem lw_p66 : lw_okq (⟨"PhosphorHushModel", "lastTick", "()I"⟩, 14) := ⟨⟨by decide +kernel, by decide +kernel⟩, List.mem_of_getElem? (i := 594) (by decide +kernel), List.mem_of_getElem? (i := 944) (by decide +kernel), List.mem_of_getElem? (i := 945) (by decide +kernel)⟩
def lw_privs_5 : List (MethodName × Nat) := [(⟨"PhosphorHushModel", "wrongFor", "(II)I"⟩, 14), (⟨"PhosphorHushModel", "reckonWays", "()V"⟩, 14), (⟨"PhosphorHushModel", "lastTick", "()I"⟩, 14)]
theorem lw_r5 : ∀ q ∈ lw_privs_5, lw_okq q := List.forall_mem_cons.mpr ⟨lw_p64, List.forall_mem_cons.mpr ⟨lw_p65, List.forall_mem_cons.mpr ⟨lw_p66, fun _ h => absurd h List.not_mem_nil⟩⟩⟩
def lw_privs : List (MethodName × Nat) := lw_privs_1 ++ (lw_privs_2 ++ (lw_privs_3 ++ (lw_privs_4 ++ (lw_privs_5))))
def lw_tbl : List Cond := k2_sels lw_privs ++ tables_1
theorem lw_privs_ok : ∀ q ∈ lw_privs, lw_okq q := by
  show ∀ q ∈ lw_privs_1 ++ (lw_privs_2 ++ (lw_privs_3 ++ (lw_privs_4 ++ (lw_privs_5)))), lw_okq q
  exact List.forall_mem_append.mpr ⟨lw_r1, List.forall_mem_append.mpr ⟨lw_r2, List.forall_mem_append.mpr ⟨lw_r3, List.forall_mem_append.mpr ⟨lw_r4, lw_r5⟩⟩⟩⟩
-- ===== end of PART A; then your names; then what follows =====
end
section
/-! ===== BEGIN words of one list among another's, by their places ===== -/
theorem goodIn_r {big : List Cond} (ws : List Cond) (ps : List Nat) (hp : ws = ps.filterMap (fun i => big[i]?)) (h : ws.all goodWord = true) : GoodIn big ws := by
  intro w hw
  have h1 := List.all_eq_true.mp h w hw
  rw [hp] at hw
  obtain ⟨i, -, hi⟩ := List.mem_filterMap.mp hw
  have hm : w ∈ big := by first | exact List.mem_of_getElem? hi | exact List.getElem?_mem hi
  exact ⟨hm, good_of_word h1⟩
theorem goodIn_app {big a b : List Cond} (ha : GoodIn big a) (hb : GoodIn big b) : GoodIn big (a ++ b) := fun w h => (List.mem_append.mp h).elim (ha w) (hb w)
theorem goodIn_ca {big a b : List Cond} {c : Cond} (ha : GoodIn big (c :: a)) (hb : GoodIn big b) : GoodIn big (c :: (a ++ b)) := fun w h => (List.mem_cons.mp h).elim (fun e => ha w (List.mem_cons.mpr (Or.inl e))) (fun h => (List.mem_append.mp h).elim (fun h => ha w (List.mem_cons.mpr (Or.inr h))) (hb w))
theorem goodIn_sub {big ws : List Cond} (hm : ∀ w ∈ ws, w ∈ big) (h : ws.all goodWord = true) : GoodIn big ws := fun w hw => ⟨hm w hw, good_of_word (List.all_eq_true.mp h w hw)⟩
/-! ===== END ===== -/

/-! ===== BEGIN printed: names, fields, word lists, decode rows ===== -/
def RX0 : String := "PhosphorHush$Program"
def TX0 : u_T := fun k => match k with
  | 0 => ("PhosphorHush$Program", "text", "[C", true)
  | 1 => ("PhosphorHush$Program", "length", "I", false)
  | 2 => ("PhosphorHush$Program", "place", "I", false)
  | _ => ("PhosphorHush$Program", "numbers", "[I", true)
def tyX0 : Nat → FieldType := fun k => match k with
  | 0 => .array .char
  | 1 => .int
  | 2 => .int
  | _ => .array .int
abbrev wsX00 : List Cond := u_ws RX0 TX0 4
theorem nmX0 : ∀ a, a < 4 → ∀ b, b < 4 → a ≠ b → (TX0 a).2.1 ≠ (TX0 b).2.1 := by decide +kernel
theorem tyX0_ok : ∀ k, k < 4 → parseFieldDescriptor (TX0 k).2.2.1 = some (tyX0 k) := by decide +kernel
abbrev cX0_init : ByteArray := prog_2_method_1_code
def yX0_init : MethodName := ⟨RX0, "<init>", "()V"⟩
abbrev cX0_size : ByteArray := prog_2_method_2_code
def yX0_size : MethodName := ⟨RX0, "size", "()I"⟩
abbrev cX0_addCharacter : ByteArray := prog_2_method_3_code
def yX0_addCharacter : MethodName := ⟨RX0, "addCharacter", "(I)I"⟩
abbrev cX0_empty : ByteArray := prog_2_method_4_code
def yX0_empty : MethodName := ⟨RX0, "empty", "()I"⟩
abbrev cX0_runOn : ByteArray := prog_2_method_5_code
def yX0_runOn : MethodName := ⟨RX0, "runOn", "(LPhosphorHush$Screen;)I"⟩
abbrev cX0_moveTo : ByteArray := prog_2_method_6_code
def yX0_moveTo : MethodName := ⟨RX0, "moveTo", "(I)V"⟩
abbrev cX0_readWord : ByteArray := prog_2_method_7_code
def yX0_readWord : MethodName := ⟨RX0, "readWord", "()I"⟩
abbrev cX0_isWord : ByteArray := prog_2_method_8_code
def yX0_isWord : MethodName := ⟨RX0, "isWord", "(ILjava/lang/String;)Z"⟩
abbrev cX0_readNumbers : ByteArray := prog_2_method_9_code
def yX0_readNumbers : MethodName := ⟨RX0, "readNumbers", "(I)Z"⟩
abbrev cX0_readNumber : ByteArray := prog_2_method_10_code
def yX0_readNumber : MethodName := ⟨RX0, "readNumber", "()I"⟩
abbrev cX0_readEnd : ByteArray := prog_2_method_11_code
def yX0_readEnd : MethodName := ⟨RX0, "readEnd", "()Z"⟩
abbrev cX0_wordOf : ByteArray := prog_2_method_12_code
def yX0_wordOf : MethodName := ⟨RX0, "wordOf", "(I)Ljava/lang/String;"⟩
abbrev cX0_numbersOf : ByteArray := prog_2_method_13_code
def yX0_numbersOf : MethodName := ⟨RX0, "numbersOf", "(I)I"⟩
abbrev cX0_carryOut : ByteArray := prog_2_method_14_code
def yX0_carryOut : MethodName := ⟨RX0, "carryOut", "(ILPhosphorHush$Screen;)I"⟩
def RX1 : String := "PhosphorHush$Screen"
def TX1 : u_T := fun k => match k with
  | 0 => ("PhosphorHush$Screen", "phosphors", "[I", true)
  | 1 => ("PhosphorHush$Screen", "order", "[I", true)
  | 2 => ("PhosphorHush$Screen", "size", "I", false)
  | 3 => ("PhosphorHush$Screen", "pictures", "[J", true)
  | _ => ("PhosphorHush$Screen", "settings", "[I", true)
def tyX1 : Nat → FieldType := fun k => match k with
  | 0 => .array .int
  | 1 => .array .int
  | 2 => .int
  | 3 => .array .long
  | _ => .array .int
abbrev wsX10 : List Cond := u_ws RX1 TX1 5
theorem nmX1 : ∀ a, a < 5 → ∀ b, b < 5 → a ≠ b → (TX1 a).2.1 ≠ (TX1 b).2.1 := by decide +kernel
theorem tyX1_ok : ∀ k, k < 5 → parseFieldDescriptor (TX1 k).2.2.1 = some (tyX1 k) := by decide +kernel
abbrev cX1_init : ByteArray := prog_3_method_1_code
def yX1_init : MethodName := ⟨RX1, "<init>", "()V"⟩
abbrev cX1_copyFrom : ByteArray := prog_3_method_2_code
def yX1_copyFrom : MethodName := ⟨RX1, "copyFrom", "(LPhosphorHush$Screen;)V"⟩
abbrev cX1_putSetting : ByteArray := prog_3_method_3_code
def yX1_putSetting : MethodName := ⟨RX1, "putSetting", "(II)I"⟩
abbrev cX1_putPhosphor : ByteArray := prog_3_method_4_code
def yX1_putPhosphor : MethodName := ⟨RX1, "putPhosphor", "(II)I"⟩
abbrev cX1_addSpot : ByteArray := prog_3_method_5_code
def yX1_addSpot : MethodName := ⟨RX1, "addSpot", "(I)I"⟩
abbrev cX1_removeSpot : ByteArray := prog_3_method_6_code
def yX1_removeSpot : MethodName := ⟨RX1, "removeSpot", "(I)I"⟩
abbrev cX1_swapPositions : ByteArray := prog_3_method_7_code
def yX1_swapPositions : MethodName := ⟨RX1, "swapPositions", "(II)I"⟩
abbrev cX1_swap : ByteArray := prog_3_method_8_code
def yX1_swap : MethodName := ⟨RX1, "swap", "(II)V"⟩
abbrev cX1_arrange : ByteArray := prog_3_method_9_code
def yX1_arrange : MethodName := ⟨RX1, "arrange", "(I)I"⟩
abbrev cX1_rank : ByteArray := prog_3_method_10_code
def yX1_rank : MethodName := ⟨RX1, "rank", "(III)I"⟩
abbrev cX1_paint : ByteArray := prog_3_method_11_code
def yX1_paint : MethodName := ⟨RX1, "paint", "(III)I"⟩
abbrev cX1_positionOf : ByteArray := prog_3_method_12_code
def yX1_positionOf : MethodName := ⟨RX1, "positionOf", "(I)I"⟩
abbrev cX1_spotsOfOrder : ByteArray := prog_3_method_13_code
def yX1_spotsOfOrder : MethodName := ⟨RX1, "spotsOfOrder", "()J"⟩
abbrev cX1_sumOfWays : ByteArray := prog_3_method_14_code
def yX1_sumOfWays : MethodName := ⟨RX1, "sumOfWays", "()I"⟩
abbrev cX1_arrival : ByteArray := prog_3_method_15_code
def yX1_arrival : MethodName := ⟨RX1, "arrival", "(I)I"⟩
abbrev cX1_litSize : ByteArray := prog_3_method_16_code
def yX1_litSize : MethodName := ⟨RX1, "litSize", "()I"⟩
abbrev cX1_litTick : ByteArray := prog_3_method_17_code
def yX1_litTick : MethodName := ⟨RX1, "litTick", "(I)I"⟩
abbrev cX1_shine : ByteArray := prog_3_method_18_code
def yX1_shine : MethodName := ⟨RX1, "shine", "(III)I"⟩
abbrev cX1_sumOver : ByteArray := prog_3_method_19_code
def yX1_sumOver : MethodName := ⟨RX1, "sumOver", "(III)I"⟩
abbrev cX1_next : ByteArray := prog_3_method_20_code
def yX1_next : MethodName := ⟨RX1, "next", "(I)I"⟩
abbrev cX1_startInFrame : ByteArray := prog_3_method_21_code
def yX1_startInFrame : MethodName := ⟨RX1, "startInFrame", "()I"⟩
abbrev cX1_mean : ByteArray := prog_3_method_22_code
def yX1_mean : MethodName := ⟨RX1, "mean", "(II)I"⟩
abbrev cX1_eyeMean : ByteArray := prog_3_method_23_code
def yX1_eyeMean : MethodName := ⟨RX1, "eyeMean", "(I)I"⟩
abbrev cX1_shutterMean : ByteArray := prog_3_method_24_code
def yX1_shutterMean : MethodName := ⟨RX1, "shutterMean", "(II)I"⟩
abbrev cX1_flicker : ByteArray := prog_3_method_25_code
def yX1_flicker : MethodName := ⟨RX1, "flicker", "(I)I"⟩
abbrev cX1_seenByEye : ByteArray := prog_3_method_26_code
def yX1_seenByEye : MethodName := ⟨RX1, "seenByEye", "()J"⟩
abbrev cX1_seenByShutter : ByteArray := prog_3_method_27_code
def yX1_seenByShutter : MethodName := ⟨RX1, "seenByShutter", "(I)J"⟩
abbrev cX1_seen : ByteArray := prog_3_method_28_code
def yX1_seen : MethodName := ⟨RX1, "seen", "(III)J"⟩
abbrev cX1_wrong : ByteArray := prog_3_method_29_code
def yX1_wrong : MethodName := ⟨RX1, "wrong", "(IJ)J"⟩
abbrev cX1_countWrong : ByteArray := prog_3_method_30_code
def yX1_countWrong : MethodName := ⟨RX1, "countWrong", "([I)V"⟩
abbrev cX1_countSeen : ByteArray := prog_3_method_31_code
def yX1_countSeen : MethodName := ⟨RX1, "countSeen", "(I[I)V"⟩
def RX2 : String := "PhosphorHush$State"
def TX2 : u_T := fun k => match k with
  | 0 => ("PhosphorHush$State", "shown", "LPhosphorHush$Screen;", true)
  | 1 => ("PhosphorHush$State", "slots", "[LPhosphorHush$Screen;", true)
  | _ => ("PhosphorHush$State", "taken", "[Z", true)
def tyX2 : Nat → FieldType := fun k => match k with
  | 0 => .object "PhosphorHush$Screen"
  | 1 => .array (.object "PhosphorHush$Screen")
  | _ => .array .boolean
abbrev wsX20 : List Cond := u_ws RX2 TX2 3
theorem nmX2 : ∀ a, a < 3 → ∀ b, b < 3 → a ≠ b → (TX2 a).2.1 ≠ (TX2 b).2.1 := by decide +kernel
theorem tyX2_ok : ∀ k, k < 3 → parseFieldDescriptor (TX2 k).2.2.1 = some (tyX2 k) := by decide +kernel
abbrev cX2_init : ByteArray := prog_4_method_1_code
def yX2_init : MethodName := ⟨RX2, "<init>", "()V"⟩
abbrev cX2_copyFrom : ByteArray := prog_4_method_2_code
def yX2_copyFrom : MethodName := ⟨RX2, "copyFrom", "(LPhosphorHush$State;)V"⟩
abbrev cX2_isSlot : ByteArray := prog_4_method_3_code
def yX2_isSlot : MethodName := ⟨RX2, "isSlot", "(I)Z"⟩
abbrev cX2_keepSnapshot : ByteArray := prog_4_method_4_code
def yX2_keepSnapshot : MethodName := ⟨RX2, "keepSnapshot", "(I)I"⟩
abbrev cX2_showSnapshot : ByteArray := prog_4_method_5_code
def yX2_showSnapshot : MethodName := ⟨RX2, "showSnapshot", "(I)I"⟩
abbrev cX2_snapshots : ByteArray := prog_4_method_6_code
def yX2_snapshots : MethodName := ⟨RX2, "snapshots", "()I"⟩
def RX3 : String := "PhosphorHush$Travel"
def TX3 : u_T := fun k => match k with
  | 0 => ("PhosphorHush$Travel", "planned", "J", false)
  | 1 => ("PhosphorHush$Travel", "spots", "[I", true)
  | 2 => ("PhosphorHush$Travel", "size", "I", false)
  | 3 => ("PhosphorHush$Travel", "rest", "[I", true)
  | 4 => ("PhosphorHush$Travel", "stops", "[I", true)
  | _ => ("PhosphorHush$Travel", "sum", "I", false)
def tyX3 : Nat → FieldType := fun k => match k with
  | 0 => .long
  | 1 => .array .int
  | 2 => .int
  | 3 => .array .int
  | 4 => .array .int
  | _ => .int
abbrev wsX30 : List Cond := u_ws RX3 TX3 6
theorem nmX3 : ∀ a, a < 6 → ∀ b, b < 6 → a ≠ b → (TX3 a).2.1 ≠ (TX3 b).2.1 := by decide +kernel
theorem tyX3_ok : ∀ k, k < 6 → parseFieldDescriptor (TX3 k).2.2.1 = some (tyX3 k) := by decide +kernel
abbrev cX3_init : ByteArray := prog_5_method_1_code
def yX3_init : MethodName := ⟨RX3, "<init>", "()V"⟩
abbrev cX3_plan : ByteArray := prog_5_method_2_code
def yX3_plan : MethodName := ⟨RX3, "plan", "(J)V"⟩
abbrev cX3_sumOfWays : ByteArray := prog_5_method_3_code
def yX3_sumOfWays : MethodName := ⟨RX3, "sumOfWays", "()I"⟩
abbrev cX3_stop : ByteArray := prog_5_method_4_code
def yX3_stop : MethodName := ⟨RX3, "stop", "(I)I"⟩
abbrev cX3_listSpots : ByteArray := prog_5_method_5_code
def yX3_listSpots : MethodName := ⟨RX3, "listSpots", "()V"⟩
abbrev cX3_fillRest : ByteArray := prog_5_method_6_code
def yX3_fillRest : MethodName := ⟨RX3, "fillRest", "()V"⟩
abbrev cX3_leastFrom : ByteArray := prog_5_method_7_code
def yX3_leastFrom : MethodName := ⟨RX3, "leastFrom", "(II)I"⟩
abbrev cX3_travelBy : ByteArray := prog_5_method_8_code
def yX3_travelBy : MethodName := ⟨RX3, "travelBy", "(III)I"⟩
abbrev cX3_bestStep : ByteArray := prog_5_method_9_code
def yX3_bestStep : MethodName := ⟨RX3, "bestStep", "(II)I"⟩
abbrev cX3_follow : ByteArray := prog_5_method_10_code
def yX3_follow : MethodName := ⟨RX3, "follow", "()V"⟩
def RX4 : String := "PhosphorHush"
def TX4 : u_T := fun k => match k with
  | 0 => ("PhosphorHush", "now", "LPhosphorHush$State;", true)
  | 1 => ("PhosphorHush", "history", "[LPhosphorHush$State;", true)
  | 2 => ("PhosphorHush", "kept", "I", false)
  | 3 => ("PhosphorHush", "program", "LPhosphorHush$Program;", true)
  | 4 => ("PhosphorHush", "travel", "LPhosphorHush$Travel;", true)
  | _ => ("PhosphorHush", "wrongAt", "[I", true)
def tyX4 : Nat → FieldType := fun k => match k with
  | 0 => .object "PhosphorHush$State"
  | 1 => .array (.object "PhosphorHush$State")
  | 2 => .int
  | 3 => .object "PhosphorHush$Program"
  | 4 => .object "PhosphorHush$Travel"
  | _ => .array .int
abbrev wsX40 : List Cond := u_ws RX4 TX4 6
theorem nmX4 : ∀ a, a < 6 → ∀ b, b < 6 → a ≠ b → (TX4 a).2.1 ≠ (TX4 b).2.1 := by decide +kernel
theorem tyX4_ok : ∀ k, k < 6 → parseFieldDescriptor (TX4 k).2.2.1 = some (tyX4 k) := by decide +kernel
abbrev cX4_init : ByteArray := prog_1_method_1_code
def yX4_init : MethodName := ⟨RX4, "<init>", "()V"⟩
abbrev cX4_set : ByteArray := prog_1_method_2_code
def yX4_set : MethodName := ⟨RX4, "set", "(II)I"⟩
abbrev cX4_setPhosphor : ByteArray := prog_1_method_3_code
def yX4_setPhosphor : MethodName := ⟨RX4, "setPhosphor", "(II)I"⟩
abbrev cX4_light : ByteArray := prog_1_method_4_code
def yX4_light : MethodName := ⟨RX4, "light", "(I)I"⟩
abbrev cX4_darken : ByteArray := prog_1_method_5_code
def yX4_darken : MethodName := ⟨RX4, "darken", "(I)I"⟩
abbrev cX4_exchange : ByteArray := prog_1_method_6_code
def yX4_exchange : MethodName := ⟨RX4, "exchange", "(II)I"⟩
abbrev cX4_sort : ByteArray := prog_1_method_7_code
def yX4_sort : MethodName := ⟨RX4, "sort", "(I)I"⟩
abbrev cX4_draw : ByteArray := prog_1_method_8_code
def yX4_draw : MethodName := ⟨RX4, "draw", "(III)I"⟩
abbrev cX4_take : ByteArray := prog_1_method_9_code
def yX4_take : MethodName := ⟨RX4, "take", "(I)I"⟩
abbrev cX4_restore : ByteArray := prog_1_method_10_code
def yX4_restore : MethodName := ⟨RX4, "restore", "(I)I"⟩
abbrev cX4_undo : ByteArray := prog_1_method_11_code
def yX4_undo : MethodName := ⟨RX4, "undo", "()I"⟩
abbrev cX4_append : ByteArray := prog_1_method_12_code
def yX4_append : MethodName := ⟨RX4, "append", "(I)I"⟩
abbrev cX4_clearText : ByteArray := prog_1_method_13_code
def yX4_clearText : MethodName := ⟨RX4, "clearText", "()I"⟩
abbrev cX4_run : ByteArray := prog_1_method_14_code
def yX4_run : MethodName := ⟨RX4, "run", "()I"⟩
abbrev cX4_count : ByteArray := prog_1_method_15_code
def yX4_count : MethodName := ⟨RX4, "count", "(I)I"⟩
abbrev cX4_spot : ByteArray := prog_1_method_16_code
def yX4_spot : MethodName := ⟨RX4, "spot", "(II)I"⟩
abbrev cX4_at : ByteArray := prog_1_method_17_code
def yX4_at : MethodName := ⟨RX4, "at", "(I)I"⟩
abbrev cX4_brightness : ByteArray := prog_1_method_18_code
def yX4_brightness : MethodName := ⟨RX4, "brightness", "(II)I"⟩
abbrev cX4_firstWrong : ByteArray := prog_1_method_19_code
def yX4_firstWrong : MethodName := ⟨RX4, "firstWrong", "(I)I"⟩
abbrev cX4_bestStart : ByteArray := prog_1_method_20_code
def yX4_bestStart : MethodName := ⟨RX4, "bestStart", "(I)I"⟩
abbrev cX4_leastTravel : ByteArray := prog_1_method_21_code
def yX4_leastTravel : MethodName := ⟨RX4, "leastTravel", "(I)I"⟩
abbrev cX4_longest : ByteArray := prog_1_method_22_code
def yX4_longest : MethodName := ⟨RX4, "longest", "()I"⟩
abbrev cX4_ticks : ByteArray := prog_1_method_23_code
def yX4_ticks : MethodName := ⟨RX4, "ticks", "(II)I"⟩
abbrev cX4_shortestPeriod : ByteArray := prog_1_method_24_code
def yX4_shortestPeriod : MethodName := ⟨RX4, "shortestPeriod", "()I"⟩
abbrev cX4_prepare : ByteArray := prog_1_method_25_code
def yX4_prepare : MethodName := ⟨RX4, "prepare", "()V"⟩
abbrev cX4_finish : ByteArray := prog_1_method_26_code
def yX4_finish : MethodName := ⟨RX4, "finish", "(I)I"⟩
abbrev cX4_dropOldest : ByteArray := prog_1_method_27_code
def yX4_dropOldest : MethodName := ⟨RX4, "dropOldest", "()V"⟩
abbrev cX4_settingCount : ByteArray := prog_1_method_28_code
def yX4_settingCount : MethodName := ⟨RX4, "settingCount", "(I)I"⟩
abbrev cX4_isSpot : ByteArray := prog_1_method_29_code
def yX4_isSpot : MethodName := ⟨RX4, "isSpot", "(I)Z"⟩
abbrev cX4_isPhosphor : ByteArray := prog_1_method_30_code
def yX4_isPhosphor : MethodName := ⟨RX4, "isPhosphor", "(I)Z"⟩
abbrev cX4_way : ByteArray := prog_1_method_31_code
def yX4_way : MethodName := ⟨RX4, "way", "(II)I"⟩
abbrev cX4_bit : ByteArray := prog_1_method_32_code
def yX4_bit : MethodName := ⟨RX4, "bit", "(JI)I"⟩
abbrev cX4_firstOf : ByteArray := prog_1_method_33_code
def yX4_firstOf : MethodName := ⟨RX4, "firstOf", "(J)I"⟩
abbrev cX4_glow : ByteArray := prog_1_method_34_code
def yX4_glow : MethodName := ⟨RX4, "glow", "(II)I"⟩
abbrev cX4_ticksAbove : ByteArray := prog_1_method_35_code
def yX4_ticksAbove : MethodName := ⟨RX4, "ticksAbove", "(II)I"⟩
def RX5 : String := "PhosphorHushModel"
def TX5 : u_T := fun k => match k with
  | 0 => ("PhosphorHushModel", "thrown", "I", false)
  | 1 => ("PhosphorHushModel", "s", "[I", true)
  | 2 => ("PhosphorHushModel", "aside", "[I", true)
  | 3 => ("PhosphorHushModel", "saved", "[I", true)
  | 4 => ("PhosphorHushModel", "savedMany", "I", false)
  | 5 => ("PhosphorHushModel", "text", "[I", true)
  | 6 => ("PhosphorHushModel", "length", "I", false)
  | 7 => ("PhosphorHushModel", "numbers", "[I", true)
  | 8 => ("PhosphorHushModel", "lit", "[I", true)
  | 9 => ("PhosphorHushModel", "rest", "[I", true)
  | 10 => ("PhosphorHushModel", "token", "I", false)
  | 11 => ("PhosphorHushModel", "from", "I", false)
  | 12 => ("PhosphorHushModel", "till", "I", false)
  | _ => ("PhosphorHushModel", "fault", "I", false)
def tyX5 : Nat → FieldType := fun k => match k with
  | 0 => .int
  | 1 => .array .int
  | 2 => .array .int
  | 3 => .array .int
  | 4 => .int
  | 5 => .array .int
  | 6 => .int
  | 7 => .array .int
  | 8 => .array .int
  | 9 => .array .int
  | 10 => .int
  | 11 => .int
  | 12 => .int
  | _ => .int
abbrev wsX50 : List Cond := u_ws RX5 TX5 14
theorem nmX5 : ∀ a, a < 14 → ∀ b, b < 14 → a ≠ b → (TX5 a).2.1 ≠ (TX5 b).2.1 := by decide +kernel
theorem tyX5_ok : ∀ k, k < 14 → parseFieldDescriptor (TX5 k).2.2.1 = some (tyX5 k) := by decide +kernel
abbrev cX5_init : ByteArray := prog_7_method_1_code
def yX5_init : MethodName := ⟨RX5, "<init>", "()V"⟩
abbrev cX5_in : ByteArray := prog_7_method_3_code
def yX5_in : MethodName := ⟨RX5, "in", "(III)Z"⟩
abbrev cX5_isSpot : ByteArray := prog_7_method_4_code
def yX5_isSpot : MethodName := ⟨RX5, "isSpot", "(I)Z"⟩
abbrev cX5_isBit : ByteArray := prog_7_method_5_code
def yX5_isBit : MethodName := ⟨RX5, "isBit", "(I)Z"⟩
abbrev cX5_size : ByteArray := prog_7_method_6_code
def yX5_size : MethodName := ⟨RX5, "size", "(I)I"⟩
abbrev cX5_act : ByteArray := prog_7_method_7_code
def yX5_act : MethodName := ⟨RX5, "act", "()V"⟩
abbrev cX5_way : ByteArray := prog_7_method_8_code
def yX5_way : MethodName := ⟨RX5, "way", "(II)I"⟩
abbrev cX5_halved : ByteArray := prog_7_method_9_code
def yX5_halved : MethodName := ⟨RX5, "halved", "(I)I"⟩
abbrev cX5_fading : ByteArray := prog_7_method_10_code
def yX5_fading : MethodName := ⟨RX5, "fading", "(II)I"⟩
abbrev cX5_spotAt : ByteArray := prog_7_method_11_code
def yX5_spotAt : MethodName := ⟨RX5, "spotAt", "(I)I"⟩
abbrev cX5_lastTick : ByteArray := prog_7_method_12_code
def yX5_lastTick : MethodName := ⟨RX5, "lastTick", "()I"⟩
abbrev cX5_beam : ByteArray := prog_7_method_13_code
def yX5_beam : MethodName := ⟨RX5, "beam", "()V"⟩
abbrev cX5_brightnessAt : ByteArray := prog_7_method_14_code
def yX5_brightnessAt : MethodName := ⟨RX5, "brightnessAt", "(II)I"⟩
abbrev cX5_eyeMean : ByteArray := prog_7_method_15_code
def yX5_eyeMean : MethodName := ⟨RX5, "eyeMean", "(I)I"⟩
abbrev cX5_shutterMean : ByteArray := prog_7_method_16_code
def yX5_shutterMean : MethodName := ⟨RX5, "shutterMean", "(III)I"⟩
abbrev cX5_isEyed : ByteArray := prog_7_method_17_code
def yX5_isEyed : MethodName := ⟨RX5, "isEyed", "(I)Z"⟩
abbrev cX5_isShot : ByteArray := prog_7_method_18_code
def yX5_isShot : MethodName := ⟨RX5, "isShot", "(III)Z"⟩
abbrev cX5_isShotNow : ByteArray := prog_7_method_19_code
def yX5_isShotNow : MethodName := ⟨RX5, "isShotNow", "(I)Z"⟩
abbrev cX5_wrongFor : ByteArray := prog_7_method_20_code
def yX5_wrongFor : MethodName := ⟨RX5, "wrongFor", "(II)I"⟩
abbrev cX5_isWrong : ByteArray := prog_7_method_21_code
def yX5_isWrong : MethodName := ⟨RX5, "isWrong", "(II)Z"⟩
abbrev cX5_litMany : ByteArray := prog_7_method_22_code
def yX5_litMany : MethodName := ⟨RX5, "litMany", "()I"⟩
abbrev cX5_leastOf : ByteArray := prog_7_method_23_code
def yX5_leastOf : MethodName := ⟨RX5, "leastOf", "(I)I"⟩
abbrev cX5_mostOf : ByteArray := prog_7_method_24_code
def yX5_mostOf : MethodName := ⟨RX5, "mostOf", "(I)I"⟩
abbrev cX5_set : ByteArray := prog_7_method_25_code
def yX5_set : MethodName := ⟨RX5, "set", "(II)I"⟩
abbrev cX5_kindCode : ByteArray := prog_7_method_26_code
def yX5_kindCode : MethodName := ⟨RX5, "kindCode", "(II)I"⟩
abbrev cX5_kindNow : ByteArray := prog_7_method_27_code
def yX5_kindNow : MethodName := ⟨RX5, "kindNow", "(II)I"⟩
abbrev cX5_setPhosphor : ByteArray := prog_7_method_28_code
def yX5_setPhosphor : MethodName := ⟨RX5, "setPhosphor", "(II)I"⟩
abbrev cX5_positionOf : ByteArray := prog_7_method_29_code
def yX5_positionOf : MethodName := ⟨RX5, "positionOf", "(I)I"⟩
abbrev cX5_lightCode : ByteArray := prog_7_method_30_code
def yX5_lightCode : MethodName := ⟨RX5, "lightCode", "(I)I"⟩
abbrev cX5_lightNow : ByteArray := prog_7_method_31_code
def yX5_lightNow : MethodName := ⟨RX5, "lightNow", "(I)I"⟩
abbrev cX5_light : ByteArray := prog_7_method_32_code
def yX5_light : MethodName := ⟨RX5, "light", "(I)I"⟩
abbrev cX5_darkCode : ByteArray := prog_7_method_33_code
def yX5_darkCode : MethodName := ⟨RX5, "darkCode", "(I)I"⟩
abbrev cX5_darkNow : ByteArray := prog_7_method_34_code
def yX5_darkNow : MethodName := ⟨RX5, "darkNow", "(I)I"⟩
abbrev cX5_darken : ByteArray := prog_7_method_35_code
def yX5_darken : MethodName := ⟨RX5, "darken", "(I)I"⟩
abbrev cX5_swapCode : ByteArray := prog_7_method_36_code
def yX5_swapCode : MethodName := ⟨RX5, "swapCode", "(II)I"⟩
abbrev cX5_changePlaces : ByteArray := prog_7_method_37_code
def yX5_changePlaces : MethodName := ⟨RX5, "changePlaces", "(II)V"⟩
abbrev cX5_swapNow : ByteArray := prog_7_method_38_code
def yX5_swapNow : MethodName := ⟨RX5, "swapNow", "(II)I"⟩
abbrev cX5_exchange : ByteArray := prog_7_method_39_code
def yX5_exchange : MethodName := ⟨RX5, "exchange", "(II)I"⟩
abbrev cX5_darkTick : ByteArray := prog_7_method_40_code
def yX5_darkTick : MethodName := ⟨RX5, "darkTick", "(I)I"⟩
abbrev cX5_keyOf : ByteArray := prog_7_method_41_code
def yX5_keyOf : MethodName := ⟨RX5, "keyOf", "(III)I"⟩
abbrev cX5_sortCode : ByteArray := prog_7_method_42_code
def yX5_sortCode : MethodName := ⟨RX5, "sortCode", "(I)I"⟩
abbrev cX5_sortNow : ByteArray := prog_7_method_43_code
def yX5_sortNow : MethodName := ⟨RX5, "sortNow", "(I)I"⟩
abbrev cX5_sort : ByteArray := prog_7_method_44_code
def yX5_sort : MethodName := ⟨RX5, "sort", "(I)I"⟩
abbrev cX5_inPicture : ByteArray := prog_7_method_45_code
def yX5_inPicture : MethodName := ⟨RX5, "inPicture", "(I)I"⟩
abbrev cX5_drawNow : ByteArray := prog_7_method_46_code
def yX5_drawNow : MethodName := ⟨RX5, "drawNow", "(III)I"⟩
abbrev cX5_draw : ByteArray := prog_7_method_47_code
def yX5_draw : MethodName := ⟨RX5, "draw", "(III)I"⟩
abbrev cX5_slotAt : ByteArray := prog_7_method_48_code
def yX5_slotAt : MethodName := ⟨RX5, "slotAt", "(I)I"⟩
abbrev cX5_take : ByteArray := prog_7_method_49_code
def yX5_take : MethodName := ⟨RX5, "take", "(I)I"⟩
abbrev cX5_restore : ByteArray := prog_7_method_50_code
def yX5_restore : MethodName := ⟨RX5, "restore", "(I)I"⟩
abbrev cX5_undo : ByteArray := prog_7_method_51_code
def yX5_undo : MethodName := ⟨RX5, "undo", "()I"⟩
abbrev cX5_append : ByteArray := prog_7_method_52_code
def yX5_append : MethodName := ⟨RX5, "append", "(I)I"⟩
abbrev cX5_clearText : ByteArray := prog_7_method_53_code
def yX5_clearText : MethodName := ⟨RX5, "clearText", "()I"⟩
abbrev cX5_sign : ByteArray := prog_7_method_54_code
def yX5_sign : MethodName := ⟨RX5, "sign", "(I)I"⟩
abbrev cX5_next : ByteArray := prog_7_method_55_code
def yX5_next : MethodName := ⟨RX5, "next", "()V"⟩
abbrev cX5_fail : ByteArray := prog_7_method_56_code
def yX5_fail : MethodName := ⟨RX5, "fail", "(I)V"⟩
abbrev cX5_spelled : ByteArray := prog_7_method_57_code
def yX5_spelled : MethodName := ⟨RX5, "spelled", "(IIIIIII)I"⟩
abbrev cX5_letterOf : ByteArray := prog_7_method_58_code
def yX5_letterOf : MethodName := ⟨RX5, "letterOf", "(II)I"⟩
abbrev cX5_isWord : ByteArray := prog_7_method_59_code
def yX5_isWord : MethodName := ⟨RX5, "isWord", "(I)Z"⟩
abbrev cX5_wordHere : ByteArray := prog_7_method_60_code
def yX5_wordHere : MethodName := ⟨RX5, "wordHere", "()I"⟩
abbrev cX5_readNumber : ByteArray := prog_7_method_61_code
def yX5_readNumber : MethodName := ⟨RX5, "readNumber", "(I)V"⟩
abbrev cX5_codeOf : ByteArray := prog_7_method_62_code
def yX5_codeOf : MethodName := ⟨RX5, "codeOf", "(III)I"⟩
abbrev cX5_carry : ByteArray := prog_7_method_63_code
def yX5_carry : MethodName := ⟨RX5, "carry", "(III)I"⟩
abbrev cX5_command : ByteArray := prog_7_method_64_code
def yX5_command : MethodName := ⟨RX5, "command", "()I"⟩
abbrev cX5_run : ByteArray := prog_7_method_65_code
def yX5_run : MethodName := ⟨RX5, "run", "()I"⟩
abbrev cX5_travel : ByteArray := prog_7_method_66_code
def yX5_travel : MethodName := ⟨RX5, "travel", "()I"⟩
abbrev cX5_seenBy : ByteArray := prog_7_method_67_code
def yX5_seenBy : MethodName := ⟨RX5, "seenBy", "(I)I"⟩
abbrev cX5_wrongBy : ByteArray := prog_7_method_68_code
def yX5_wrongBy : MethodName := ⟨RX5, "wrongBy", "(I)I"⟩
abbrev cX5_lastLit : ByteArray := prog_7_method_69_code
def yX5_lastLit : MethodName := ⟨RX5, "lastLit", "()I"⟩
abbrev cX5_count : ByteArray := prog_7_method_70_code
def yX5_count : MethodName := ⟨RX5, "count", "(I)I"⟩
abbrev cX5_flickerOf : ByteArray := prog_7_method_71_code
def yX5_flickerOf : MethodName := ⟨RX5, "flickerOf", "(I)I"⟩
abbrev cX5_spot : ByteArray := prog_7_method_72_code
def yX5_spot : MethodName := ⟨RX5, "spot", "(II)I"⟩
abbrev cX5_at : ByteArray := prog_7_method_73_code
def yX5_at : MethodName := ⟨RX5, "at", "(I)I"⟩
abbrev cX5_brightness : ByteArray := prog_7_method_74_code
def yX5_brightness : MethodName := ⟨RX5, "brightness", "(II)I"⟩
abbrev cX5_firstWrong : ByteArray := prog_7_method_75_code
def yX5_firstWrong : MethodName := ⟨RX5, "firstWrong", "(I)I"⟩
abbrev cX5_bestStart : ByteArray := prog_7_method_76_code
def yX5_bestStart : MethodName := ⟨RX5, "bestStart", "(I)I"⟩
abbrev cX5_reckonWays : ByteArray := prog_7_method_77_code
def yX5_reckonWays : MethodName := ⟨RX5, "reckonWays", "()V"⟩
abbrev cX5_leastTravel : ByteArray := prog_7_method_78_code
def yX5_leastTravel : MethodName := ⟨RX5, "leastTravel", "(I)I"⟩
abbrev cX5_longest : ByteArray := prog_7_method_79_code
def yX5_longest : MethodName := ⟨RX5, "longest", "()I"⟩
abbrev cX5_ticks : ByteArray := prog_7_method_80_code
def yX5_ticks : MethodName := ⟨RX5, "ticks", "(II)I"⟩
abbrev cX5_shortestPeriod : ByteArray := prog_7_method_81_code
def yX5_shortestPeriod : MethodName := ⟨RX5, "shortestPeriod", "()I"⟩
def RJx145de : String := "java/io/Serializable"
def TJx145de : u_T := fun k => match k with
  | _ => ("", "", "", false)
def tyJx145de : Nat → FieldType := fun k => match k with
  | _ => .int
abbrev wsJx145de0 : List Cond := u_ws RJx145de TJx145de 0
theorem nmJx145de : ∀ a, a < 0 → ∀ b, b < 0 → a ≠ b → (TJx145de a).2.1 ≠ (TJx145de b).2.1 := by decide +kernel
theorem tyJx145de_ok : ∀ k, k < 0 → parseFieldDescriptor (TJx145de k).2.2.1 = some (tyJx145de k) := by decide +kernel
def RJx9f9b0 : String := "java/lang/CharSequence"
def TJx9f9b0 : u_T := fun k => match k with
  | _ => ("", "", "", false)
def tyJx9f9b0 : Nat → FieldType := fun k => match k with
  | _ => .int
abbrev wsJx9f9b00 : List Cond := u_ws RJx9f9b0 TJx9f9b0 0
theorem nmJx9f9b0 : ∀ a, a < 0 → ∀ b, b < 0 → a ≠ b → (TJx9f9b0 a).2.1 ≠ (TJx9f9b0 b).2.1 := by decide +kernel
theorem tyJx9f9b0_ok : ∀ k, k < 0 → parseFieldDescriptor (TJx9f9b0 k).2.2.1 = some (tyJx9f9b0 k) := by decide +kernel
def RJxb160c : String := "java/lang/Comparable"
def TJxb160c : u_T := fun k => match k with
  | _ => ("", "", "", false)
def tyJxb160c : Nat → FieldType := fun k => match k with
  | _ => .int
abbrev wsJxb160c0 : List Cond := u_ws RJxb160c TJxb160c 0
theorem nmJxb160c : ∀ a, a < 0 → ∀ b, b < 0 → a ≠ b → (TJxb160c a).2.1 ≠ (TJxb160c b).2.1 := by decide +kernel
theorem tyJxb160c_ok : ∀ k, k < 0 → parseFieldDescriptor (TJxb160c k).2.2.1 = some (tyJxb160c k) := by decide +kernel
def RJ13 : String := "java/lang/Long"
def TJ13 : u_T := fun k => match k with
  | _ => ("", "", "", false)
def tyJ13 : Nat → FieldType := fun k => match k with
  | _ => .int
abbrev wsJ130 : List Cond := u_ws RJ13 TJ13 0
theorem nmJ13 : ∀ a, a < 0 → ∀ b, b < 0 → a ≠ b → (TJ13 a).2.1 ≠ (TJ13 b).2.1 := by decide +kernel
theorem tyJ13_ok : ∀ k, k < 0 → parseFieldDescriptor (TJ13 k).2.2.1 = some (tyJ13 k) := by decide +kernel
abbrev cJ13_bitCount_95d88 : ByteArray := prog_8_method_50_code
def yJ13_bitCount_95d88 : MethodName := ⟨RJ13, "bitCount", "(J)I"⟩
def RJ9 : String := "java/lang/Math"
def TJ9 : u_T := fun k => match k with
  | _ => ("", "", "", false)
def tyJ9 : Nat → FieldType := fun k => match k with
  | _ => .int
abbrev wsJ90 : List Cond := u_ws RJ9 TJ9 0
theorem nmJ9 : ∀ a, a < 0 → ∀ b, b < 0 → a ≠ b → (TJ9 a).2.1 ≠ (TJ9 b).2.1 := by decide +kernel
theorem tyJ9_ok : ∀ k, k < 0 → parseFieldDescriptor (TJ9 k).2.2.1 = some (tyJ9 k) := by decide +kernel
abbrev cJ9_abs_0f7a4 : ByteArray := prog_9_method_59_code
def yJ9_abs_0f7a4 : MethodName := ⟨RJ9, "abs", "(I)I"⟩
abbrev cJ9_max_7cf53 : ByteArray := prog_9_method_65_code
def yJ9_max_7cf53 : MethodName := ⟨RJ9, "max", "(II)I"⟩
abbrev cJ9_min_7cf53 : ByteArray := prog_9_method_69_code
def yJ9_min_7cf53 : MethodName := ⟨RJ9, "min", "(II)I"⟩
def RJ0 : String := "java/lang/String"
def TJ0 : u_T := fun k => match k with
  | _ => ("", "", "", false)
def tyJ0 : Nat → FieldType := fun k => match k with
  | _ => .int
abbrev wsJ00 : List Cond := u_ws RJ0 TJ0 0
theorem nmJ0 : ∀ a, a < 0 → ∀ b, b < 0 → a ≠ b → (TJ0 a).2.1 ≠ (TJ0 b).2.1 := by decide +kernel
theorem tyJ0_ok : ∀ k, k < 0 → parseFieldDescriptor (TJ0 k).2.2.1 = some (tyJ0 k) := by decide +kernel
abbrev cJ0_length_8abf5 : ByteArray := prog_10_method_54_code
def yJ0_length_8abf5 : MethodName := ⟨RJ0, "length", "()I"⟩
abbrev cJ0_charAt_5068e : ByteArray := prog_10_method_56_code
def yJ0_charAt_5068e : MethodName := ⟨RJ0, "charAt", "(I)C"⟩
abbrev cJ0_coder_7d493 : ByteArray := prog_10_method_152_code
def yJ0_coder_7d493 : MethodName := ⟨RJ0, "coder", "()B"⟩
abbrev cJ0_isLatin1_aae02 : ByteArray := prog_10_method_154_code
def yJ0_isLatin1_aae02 : MethodName := ⟨RJ0, "isLatin1", "()Z"⟩
abbrev cJ0_checkIndex_df160 : ByteArray := prog_10_method_155_code
def yJ0_checkIndex_df160 : MethodName := ⟨RJ0, "checkIndex", "(II)V"⟩
def RJ1 : String := "java/lang/StringLatin1"
def TJ1 : u_T := fun k => match k with
  | _ => ("", "", "", false)
def tyJ1 : Nat → FieldType := fun k => match k with
  | _ => .int
abbrev wsJ10 : List Cond := u_ws RJ1 TJ1 0
theorem nmJ1 : ∀ a, a < 0 → ∀ b, b < 0 → a ≠ b → (TJ1 a).2.1 ≠ (TJ1 b).2.1 := by decide +kernel
theorem tyJ1_ok : ∀ k, k < 0 → parseFieldDescriptor (TJ1 k).2.2.1 = some (tyJ1 k) := by decide +kernel
abbrev cJ1_charAt_3b067 : ByteArray := prog_11_method_2_code
def yJ1_charAt_3b067 : MethodName := ⟨RJ1, "charAt", "([BI)C"⟩
def RJ2 : String := "java/lang/StringUTF16"
def TJ2 : u_T := fun k => match k with
  | _ => ("", "", "", false)
def tyJ2 : Nat → FieldType := fun k => match k with
  | _ => .int
abbrev wsJ20 : List Cond := u_ws RJ2 TJ2 0
theorem nmJ2 : ∀ a, a < 0 → ∀ b, b < 0 → a ≠ b → (TJ2 a).2.1 ≠ (TJ2 b).2.1 := by decide +kernel
theorem tyJ2_ok : ∀ k, k < 0 → parseFieldDescriptor (TJ2 k).2.2.1 = some (tyJ2 k) := by decide +kernel
abbrev cJ2_getChar_3b067 : ByteArray := prog_12_method_5_code
def yJ2_getChar_3b067 : MethodName := ⟨RJ2, "getChar", "([BI)C"⟩
abbrev cJ2_length_9d52b : ByteArray := prog_12_method_6_code
def yJ2_length_9d52b : MethodName := ⟨RJ2, "length", "([B)I"⟩
abbrev cJ2_charAt_3b067 : ByteArray := prog_12_method_83_code
def yJ2_charAt_3b067 : MethodName := ⟨RJ2, "charAt", "([BI)C"⟩
abbrev cJ2_checkIndex_2214a : ByteArray := prog_12_method_91_code
def yJ2_checkIndex_2214a : MethodName := ⟨RJ2, "checkIndex", "(I[B)V"⟩
def RJ10 : String := "java/lang/System"
def TJ10 : u_T := fun k => match k with
  | _ => ("", "", "", false)
def tyJ10 : Nat → FieldType := fun k => match k with
  | _ => .int
abbrev wsJ100 : List Cond := u_ws RJ10 TJ10 0
theorem nmJ10 : ∀ a, a < 0 → ∀ b, b < 0 → a ≠ b → (TJ10 a).2.1 ≠ (TJ10 b).2.1 := by decide +kernel
theorem tyJ10_ok : ∀ k, k < 0 → parseFieldDescriptor (TJ10 k).2.2.1 = some (tyJ10 k) := by decide +kernel
def RJxfd54e : String := "java/lang/constant/Constable"
def TJxfd54e : u_T := fun k => match k with
  | _ => ("", "", "", false)
def tyJxfd54e : Nat → FieldType := fun k => match k with
  | _ => .int
abbrev wsJxfd54e0 : List Cond := u_ws RJxfd54e TJxfd54e 0
theorem nmJxfd54e : ∀ a, a < 0 → ∀ b, b < 0 → a ≠ b → (TJxfd54e a).2.1 ≠ (TJxfd54e b).2.1 := by decide +kernel
theorem tyJxfd54e_ok : ∀ k, k < 0 → parseFieldDescriptor (TJxfd54e k).2.2.1 = some (tyJxfd54e k) := by decide +kernel
def RJx3cf43 : String := "java/lang/constant/ConstantDesc"
def TJx3cf43 : u_T := fun k => match k with
  | _ => ("", "", "", false)
def tyJx3cf43 : Nat → FieldType := fun k => match k with
  | _ => .int
abbrev wsJx3cf430 : List Cond := u_ws RJx3cf43 TJx3cf43 0
theorem nmJx3cf43 : ∀ a, a < 0 → ∀ b, b < 0 → a ≠ b → (TJx3cf43 a).2.1 ≠ (TJx3cf43 b).2.1 := by decide +kernel
theorem tyJx3cf43_ok : ∀ k, k < 0 → parseFieldDescriptor (TJx3cf43 k).2.2.1 = some (tyJx3cf43 k) := by decide +kernel
def RJ7 : String := "java/util/Arrays"
def TJ7 : u_T := fun k => match k with
  | _ => ("", "", "", false)
def tyJ7 : Nat → FieldType := fun k => match k with
  | _ => .int
abbrev wsJ70 : List Cond := u_ws RJ7 TJ7 0
theorem nmJ7 : ∀ a, a < 0 → ∀ b, b < 0 → a ≠ b → (TJ7 a).2.1 ≠ (TJ7 b).2.1 := by decide +kernel
theorem tyJ7_ok : ∀ k, k < 0 → parseFieldDescriptor (TJ7 k).2.2.1 = some (tyJ7 k) := by decide +kernel
abbrev cJ7_fill_53178 : ByteArray := prog_14_method_103_code
def yJ7_fill_53178 : MethodName := ⟨RJ7, "fill", "([II)V"⟩
def RJ3 : String := "jdk/internal/util/Preconditions"
def TJ3 : u_T := fun k => match k with
  | _ => ("", "", "", false)
def tyJ3 : Nat → FieldType := fun k => match k with
  | _ => .int
abbrev wsJ30 : List Cond := u_ws RJ3 TJ3 0
theorem nmJ3 : ∀ a, a < 0 → ∀ b, b < 0 → a ≠ b → (TJ3 a).2.1 ≠ (TJ3 b).2.1 := by decide +kernel
theorem tyJ3_ok : ∀ k, k < 0 → parseFieldDescriptor (TJ3 k).2.2.1 = some (tyJ3 k) := by decide +kernel
abbrev cJ3_checkIndex_8e157 : ByteArray := prog_15_method_11_code
def yJ3_checkIndex_8e157 : MethodName := ⟨RJ3, "checkIndex", "(IILjava/util/function/BiFunction;)I"⟩
def RL : String := "PhosphorHushLaw"
abbrev cL_law : ByteArray := code
def yL_law : MethodName := ⟨RL, "law", "([I)Z"⟩
def wsX0_init : List Cond := .code yX0_init cX0_init 1 none :: ([.methodLink RX0 3 objectInit, .instanceMethod objectInit, .code objectInit ⟨#[0xb1]⟩ 1 none, .arrayClass .char, .fieldLink RX0 9 "PhosphorHush$Program" "text" "[C", .arrayClass .int, .fieldLink RX0 15 "PhosphorHush$Program" "numbers" "[I"] ++ wsX00)
def wsX0_size : List Cond := .code yX0_size cX0_size 1 (some .int) :: ([.fieldLink RX0 19 "PhosphorHush$Program" "length" "I"] ++ wsX00)
def wsX0_addCharacter : List Cond := .code yX0_addCharacter cX0_addCharacter 2 (some .int) :: ([.fieldLink RX0 19 "PhosphorHush$Program" "length" "I", .fieldLink RX0 9 "PhosphorHush$Program" "text" "[C"] ++ wsX00)
def wsX0_empty : List Cond := .code yX0_empty cX0_empty 2 (some .int) :: ([.fieldLink RX0 19 "PhosphorHush$Program" "length" "I"] ++ wsX00)
def wsX0_moveTo : List Cond := .code yX0_moveTo cX0_moveTo 2 none :: ([.fieldLink RX0 27 "PhosphorHush$Program" "place" "I", .fieldLink RX0 19 "PhosphorHush$Program" "length" "I", .fieldLink RX0 9 "PhosphorHush$Program" "text" "[C"] ++ wsX00)
def wsX0_wordOf : List Cond := .code yX0_wordOf cX0_wordOf 1 (some (.object "java/lang/String")) :: ([])
def wsJ0_coder_7d493 : List Cond := .code yJ0_coder_7d493 cJ0_coder_7d493 1 (some .byte) :: ([.fieldLink RJ0 38 "java/lang/String" "COMPACT_STRINGS" "Z", .fieldLink RJ0 15 "java/lang/String" "coder" "B"])
def wsJ0_length_8abf5 : List Cond := .code yJ0_length_8abf5 cJ0_length_8abf5 1 (some .int) :: ([.fieldLink RJ0 9 "java/lang/String" "value" "[B", .methodLink RJ0 335 yJ0_coder_7d493, .instanceMethod yJ0_coder_7d493, .selects RJ0 yJ0_coder_7d493 yJ0_coder_7d493, .initialized RJ0, .code yJ0_coder_7d493 cJ0_coder_7d493 1 (some .byte), .fieldLink RJ0 38 "java/lang/String" "COMPACT_STRINGS" "Z", .fieldLink RJ0 15 "java/lang/String" "coder" "B"])
def wsJ0_isLatin1_aae02 : List Cond := .code yJ0_isLatin1_aae02 cJ0_isLatin1_aae02 1 (some .boolean) :: ([.fieldLink RJ0 38 "java/lang/String" "COMPACT_STRINGS" "Z", .fieldLink RJ0 15 "java/lang/String" "coder" "B"])
def wsJ3_checkIndex_8e157 : List Cond := .code yJ3_checkIndex_8e157 cJ3_checkIndex_8e157 3 (some .int) :: ([])
def wsJ0_checkIndex_df160 : List Cond := .code yJ0_checkIndex_df160 cJ0_checkIndex_df160 2 none :: ([.fieldLink RJ0 1053 "jdk/internal/util/Preconditions" "SIOOBE_FORMATTER" "Ljava/util/function/BiFunction;", .methodLink RJ0 1059 yJ3_checkIndex_8e157, .static yJ3_checkIndex_8e157, .initialized RJ3, .code yJ3_checkIndex_8e157 cJ3_checkIndex_8e157 3 (some .int)])
def wsJ1_charAt_3b067 : List Cond := .code yJ1_charAt_3b067 cJ1_charAt_3b067 2 (some .char) :: ([.methodLink RJ1 9 yJ0_checkIndex_df160, .static yJ0_checkIndex_df160, .initialized RJ0, .code yJ0_checkIndex_df160 cJ0_checkIndex_df160 2 none, .fieldLink RJ0 1053 "jdk/internal/util/Preconditions" "SIOOBE_FORMATTER" "Ljava/util/function/BiFunction;", .methodLink RJ0 1059 yJ3_checkIndex_8e157, .static yJ3_checkIndex_8e157, .initialized RJ3, .code yJ3_checkIndex_8e157 cJ3_checkIndex_8e157 3 (some .int)])
def wsJ2_length_9d52b : List Cond := .code yJ2_length_9d52b cJ2_length_9d52b 1 (some .int) :: ([])
def wsJ2_checkIndex_2214a : List Cond := .code yJ2_checkIndex_2214a cJ2_checkIndex_2214a 2 none :: ([.methodLink RJ2 48 yJ2_length_9d52b, .static yJ2_length_9d52b, .initialized RJ2, .code yJ2_length_9d52b cJ2_length_9d52b 1 (some .int), .methodLink RJ2 414 yJ0_checkIndex_df160, .static yJ0_checkIndex_df160, .initialized RJ0, .code yJ0_checkIndex_df160 cJ0_checkIndex_df160 2 none, .fieldLink RJ0 1053 "jdk/internal/util/Preconditions" "SIOOBE_FORMATTER" "Ljava/util/function/BiFunction;", .methodLink RJ0 1059 yJ3_checkIndex_8e157, .static yJ3_checkIndex_8e157, .initialized RJ3, .code yJ3_checkIndex_8e157 cJ3_checkIndex_8e157 3 (some .int)])
def wsJ2_getChar_3b067 : List Cond := .code yJ2_getChar_3b067 cJ2_getChar_3b067 2 (some .char) :: ([.fieldLink RJ2 44 "java/lang/StringUTF16" "$assertionsDisabled" "Z", .fieldLink RJ2 59 "java/lang/StringUTF16" "HI_BYTE_SHIFT" "I", .fieldLink RJ2 63 "java/lang/StringUTF16" "LO_BYTE_SHIFT" "I", .methodLink RJ2 48 yJ2_length_9d52b, .static yJ2_length_9d52b, .initialized RJ2, .code yJ2_length_9d52b cJ2_length_9d52b 1 (some .int)])
def wsJ2_charAt_3b067 : List Cond := .code yJ2_charAt_3b067 cJ2_charAt_3b067 2 (some .char) :: ([.methodLink RJ2 67 yJ2_checkIndex_2214a, .static yJ2_checkIndex_2214a, .initialized RJ2, .code yJ2_checkIndex_2214a cJ2_checkIndex_2214a 2 none, .methodLink RJ2 48 yJ2_length_9d52b, .static yJ2_length_9d52b, .code yJ2_length_9d52b cJ2_length_9d52b 1 (some .int), .methodLink RJ2 414 yJ0_checkIndex_df160, .static yJ0_checkIndex_df160, .initialized RJ0, .code yJ0_checkIndex_df160 cJ0_checkIndex_df160 2 none, .fieldLink RJ0 1053 "jdk/internal/util/Preconditions" "SIOOBE_FORMATTER" "Ljava/util/function/BiFunction;", .methodLink RJ0 1059 yJ3_checkIndex_8e157, .static yJ3_checkIndex_8e157, .initialized RJ3, .code yJ3_checkIndex_8e157 cJ3_checkIndex_8e157 3 (some .int), .methodLink RJ2 71 yJ2_getChar_3b067, .static yJ2_getChar_3b067, .code yJ2_getChar_3b067 cJ2_getChar_3b067 2 (some .char), .fieldLink RJ2 44 "java/lang/StringUTF16" "$assertionsDisabled" "Z", .fieldLink RJ2 59 "java/lang/StringUTF16" "HI_BYTE_SHIFT" "I", .fieldLink RJ2 63 "java/lang/StringUTF16" "LO_BYTE_SHIFT" "I"])
def wsJ0_charAt_5068e_r1 : List Cond := [Cond.fieldLink RJ0 9 "java/lang/String" "value" "[B", Cond.methodLink RJ0 492 yJ0_isLatin1_aae02, Cond.instanceMethod yJ0_isLatin1_aae02, Cond.selects RJ0 yJ0_isLatin1_aae02 yJ0_isLatin1_aae02, Cond.initialized RJ0, Cond.code yJ0_isLatin1_aae02 cJ0_isLatin1_aae02 1 (some .boolean), Cond.fieldLink RJ0 38 "java/lang/String" "COMPACT_STRINGS" "Z", Cond.fieldLink RJ0 15 "java/lang/String" "coder" "B", Cond.methodLink RJ0 495 yJ1_charAt_3b067, Cond.static yJ1_charAt_3b067, Cond.initialized RJ1, Cond.code yJ1_charAt_3b067 cJ1_charAt_3b067 2 (some .char), Cond.methodLink RJ1 9 yJ0_checkIndex_df160, Cond.static yJ0_checkIndex_df160, Cond.code yJ0_checkIndex_df160 cJ0_checkIndex_df160 2 none, Cond.fieldLink RJ0 1053 "jdk/internal/util/Preconditions" "SIOOBE_FORMATTER" "Ljava/util/function/BiFunction;", Cond.methodLink RJ0 1059 yJ3_checkIndex_8e157, Cond.static yJ3_checkIndex_8e157, Cond.initialized RJ3, Cond.code yJ3_checkIndex_8e157 cJ3_checkIndex_8e157 3 (some .int), Cond.methodLink RJ0 498 yJ2_charAt_3b067, Cond.static yJ2_charAt_3b067, Cond.initialized RJ2, Cond.code yJ2_charAt_3b067 cJ2_charAt_3b067 2 (some .char)]
def wsJ0_charAt_5068e_r2 : List Cond := [Cond.methodLink RJ2 67 yJ2_checkIndex_2214a, Cond.static yJ2_checkIndex_2214a, Cond.code yJ2_checkIndex_2214a cJ2_checkIndex_2214a 2 none, Cond.methodLink RJ2 48 yJ2_length_9d52b, Cond.static yJ2_length_9d52b, Cond.code yJ2_length_9d52b cJ2_length_9d52b 1 (some .int), Cond.methodLink RJ2 414 yJ0_checkIndex_df160, Cond.methodLink RJ2 71 yJ2_getChar_3b067, Cond.static yJ2_getChar_3b067, Cond.code yJ2_getChar_3b067 cJ2_getChar_3b067 2 (some .char), Cond.fieldLink RJ2 44 "java/lang/StringUTF16" "$assertionsDisabled" "Z", Cond.fieldLink RJ2 59 "java/lang/StringUTF16" "HI_BYTE_SHIFT" "I", Cond.fieldLink RJ2 63 "java/lang/StringUTF16" "LO_BYTE_SHIFT" "I"]
def wsJ0_charAt_5068e : List Cond := .code yJ0_charAt_5068e cJ0_charAt_5068e 2 (some .char) :: ((wsJ0_charAt_5068e_r1 ++ wsJ0_charAt_5068e_r2))
def wsX0_isWord_r1 : List Cond := [Cond.fieldLink RX0 27 "PhosphorHush$Program" "place" "I", Cond.fieldLink RX0 9 "PhosphorHush$Program" "text" "[C", Cond.methodLink RX0 58 yJ0_length_8abf5, Cond.instanceMethod yJ0_length_8abf5, Cond.selects RJ0 yJ0_length_8abf5 yJ0_length_8abf5, Cond.initialized RJ0, Cond.code yJ0_length_8abf5 cJ0_length_8abf5 1 (some .int), Cond.fieldLink RJ0 9 "java/lang/String" "value" "[B", Cond.methodLink RJ0 335 yJ0_coder_7d493, Cond.instanceMethod yJ0_coder_7d493, Cond.selects RJ0 yJ0_coder_7d493 yJ0_coder_7d493, Cond.code yJ0_coder_7d493 cJ0_coder_7d493 1 (some .byte), Cond.fieldLink RJ0 38 "java/lang/String" "COMPACT_STRINGS" "Z", Cond.fieldLink RJ0 15 "java/lang/String" "coder" "B", Cond.methodLink RX0 62 yJ0_charAt_5068e, Cond.instanceMethod yJ0_charAt_5068e, Cond.selects RJ0 yJ0_charAt_5068e yJ0_charAt_5068e, Cond.code yJ0_charAt_5068e cJ0_charAt_5068e 2 (some .char), Cond.methodLink RJ0 492 yJ0_isLatin1_aae02, Cond.instanceMethod yJ0_isLatin1_aae02, Cond.selects RJ0 yJ0_isLatin1_aae02 yJ0_isLatin1_aae02, Cond.code yJ0_isLatin1_aae02 cJ0_isLatin1_aae02 1 (some .boolean), Cond.methodLink RJ0 495 yJ1_charAt_3b067, Cond.static yJ1_charAt_3b067]
def wsX0_isWord_r2 : List Cond := [Cond.initialized RJ1, Cond.code yJ1_charAt_3b067 cJ1_charAt_3b067 2 (some .char), Cond.methodLink RJ1 9 yJ0_checkIndex_df160, Cond.static yJ0_checkIndex_df160, Cond.code yJ0_checkIndex_df160 cJ0_checkIndex_df160 2 none, Cond.fieldLink RJ0 1053 "jdk/internal/util/Preconditions" "SIOOBE_FORMATTER" "Ljava/util/function/BiFunction;", Cond.methodLink RJ0 1059 yJ3_checkIndex_8e157, Cond.static yJ3_checkIndex_8e157, Cond.initialized RJ3, Cond.code yJ3_checkIndex_8e157 cJ3_checkIndex_8e157 3 (some .int), Cond.methodLink RJ0 498 yJ2_charAt_3b067, Cond.static yJ2_charAt_3b067, Cond.initialized RJ2, Cond.code yJ2_charAt_3b067 cJ2_charAt_3b067 2 (some .char), Cond.methodLink RJ2 67 yJ2_checkIndex_2214a, Cond.static yJ2_checkIndex_2214a, Cond.code yJ2_checkIndex_2214a cJ2_checkIndex_2214a 2 none, Cond.methodLink RJ2 48 yJ2_length_9d52b, Cond.static yJ2_length_9d52b, Cond.code yJ2_length_9d52b cJ2_length_9d52b 1 (some .int), Cond.methodLink RJ2 414 yJ0_checkIndex_df160, Cond.methodLink RJ2 71 yJ2_getChar_3b067, Cond.static yJ2_getChar_3b067, Cond.code yJ2_getChar_3b067 cJ2_getChar_3b067 2 (some .char)]
def wsX0_isWord_r3 : List Cond := [Cond.fieldLink RJ2 44 "java/lang/StringUTF16" "$assertionsDisabled" "Z", Cond.fieldLink RJ2 59 "java/lang/StringUTF16" "HI_BYTE_SHIFT" "I", Cond.fieldLink RJ2 63 "java/lang/StringUTF16" "LO_BYTE_SHIFT" "I"]
def wsX0_isWord : List Cond := .code yX0_isWord cX0_isWord 4 (some .boolean) :: ((wsX0_isWord_r1 ++ (wsX0_isWord_r2 ++ wsX0_isWord_r3)) ++ wsX00)
def wsX0_readWord_r1 : List Cond := [Cond.fieldLink RX0 27 "PhosphorHush$Program" "place" "I", Cond.fieldLink RX0 19 "PhosphorHush$Program" "length" "I", Cond.fieldLink RX0 9 "PhosphorHush$Program" "text" "[C", Cond.methodLink RX0 50 yX0_wordOf, Cond.static yX0_wordOf, Cond.initialized RX0, Cond.code yX0_wordOf cX0_wordOf 1 (some (.object "java/lang/String")), Cond.methodLink RX0 54 yX0_isWord, Cond.instanceMethod yX0_isWord, Cond.selects RX0 yX0_isWord yX0_isWord, Cond.code yX0_isWord cX0_isWord 4 (some .boolean), Cond.methodLink RX0 58 yJ0_length_8abf5, Cond.instanceMethod yJ0_length_8abf5, Cond.selects RJ0 yJ0_length_8abf5 yJ0_length_8abf5, Cond.initialized RJ0, Cond.code yJ0_length_8abf5 cJ0_length_8abf5 1 (some .int), Cond.fieldLink RJ0 9 "java/lang/String" "value" "[B", Cond.methodLink RJ0 335 yJ0_coder_7d493, Cond.instanceMethod yJ0_coder_7d493, Cond.selects RJ0 yJ0_coder_7d493 yJ0_coder_7d493, Cond.code yJ0_coder_7d493 cJ0_coder_7d493 1 (some .byte), Cond.fieldLink RJ0 38 "java/lang/String" "COMPACT_STRINGS" "Z", Cond.fieldLink RJ0 15 "java/lang/String" "coder" "B", Cond.methodLink RX0 62 yJ0_charAt_5068e]
def wsX0_readWord_r2 : List Cond := [Cond.instanceMethod yJ0_charAt_5068e, Cond.selects RJ0 yJ0_charAt_5068e yJ0_charAt_5068e, Cond.code yJ0_charAt_5068e cJ0_charAt_5068e 2 (some .char), Cond.methodLink RJ0 492 yJ0_isLatin1_aae02, Cond.instanceMethod yJ0_isLatin1_aae02, Cond.selects RJ0 yJ0_isLatin1_aae02 yJ0_isLatin1_aae02, Cond.code yJ0_isLatin1_aae02 cJ0_isLatin1_aae02 1 (some .boolean), Cond.methodLink RJ0 495 yJ1_charAt_3b067, Cond.static yJ1_charAt_3b067, Cond.initialized RJ1, Cond.code yJ1_charAt_3b067 cJ1_charAt_3b067 2 (some .char), Cond.methodLink RJ1 9 yJ0_checkIndex_df160, Cond.static yJ0_checkIndex_df160, Cond.code yJ0_checkIndex_df160 cJ0_checkIndex_df160 2 none, Cond.fieldLink RJ0 1053 "jdk/internal/util/Preconditions" "SIOOBE_FORMATTER" "Ljava/util/function/BiFunction;", Cond.methodLink RJ0 1059 yJ3_checkIndex_8e157, Cond.static yJ3_checkIndex_8e157, Cond.initialized RJ3, Cond.code yJ3_checkIndex_8e157 cJ3_checkIndex_8e157 3 (some .int), Cond.methodLink RJ0 498 yJ2_charAt_3b067, Cond.static yJ2_charAt_3b067, Cond.initialized RJ2, Cond.code yJ2_charAt_3b067 cJ2_charAt_3b067 2 (some .char), Cond.methodLink RJ2 67 yJ2_checkIndex_2214a]
def wsX0_readWord_r3 : List Cond := [Cond.static yJ2_checkIndex_2214a, Cond.code yJ2_checkIndex_2214a cJ2_checkIndex_2214a 2 none, Cond.methodLink RJ2 48 yJ2_length_9d52b, Cond.static yJ2_length_9d52b, Cond.code yJ2_length_9d52b cJ2_length_9d52b 1 (some .int), Cond.methodLink RJ2 414 yJ0_checkIndex_df160, Cond.methodLink RJ2 71 yJ2_getChar_3b067, Cond.static yJ2_getChar_3b067, Cond.code yJ2_getChar_3b067 cJ2_getChar_3b067 2 (some .char), Cond.fieldLink RJ2 44 "java/lang/StringUTF16" "$assertionsDisabled" "Z", Cond.fieldLink RJ2 59 "java/lang/StringUTF16" "HI_BYTE_SHIFT" "I", Cond.fieldLink RJ2 63 "java/lang/StringUTF16" "LO_BYTE_SHIFT" "I", Cond.methodLink RX0 23 yX0_moveTo, Cond.instanceMethod yX0_moveTo, Cond.selects RX0 yX0_moveTo yX0_moveTo, Cond.code yX0_moveTo cX0_moveTo 2 none]
def wsX0_readWord : List Cond := .code yX0_readWord cX0_readWord 3 (some .int) :: ((wsX0_readWord_r1 ++ (wsX0_readWord_r2 ++ wsX0_readWord_r3)) ++ wsX00)
def wsX0_numbersOf : List Cond := .code yX0_numbersOf cX0_numbersOf 1 (some .int) :: ([])
def wsX0_readNumber : List Cond := .code yX0_readNumber cX0_readNumber 4 (some .int) :: ([.fieldLink RX0 27 "PhosphorHush$Program" "place" "I", .fieldLink RX0 19 "PhosphorHush$Program" "length" "I", .fieldLink RX0 9 "PhosphorHush$Program" "text" "[C", .methodLink RX0 23 yX0_moveTo, .instanceMethod yX0_moveTo, .selects RX0 yX0_moveTo yX0_moveTo, .initialized RX0, .code yX0_moveTo cX0_moveTo 2 none] ++ wsX00)
def wsX0_readNumbers : List Cond := .code yX0_readNumbers cX0_readNumbers 4 (some .boolean) :: ([.fieldLink RX0 15 "PhosphorHush$Program" "numbers" "[I", .methodLink RX0 66 yX0_readNumber, .instanceMethod yX0_readNumber, .selects RX0 yX0_readNumber yX0_readNumber, .initialized RX0, .code yX0_readNumber cX0_readNumber 4 (some .int), .fieldLink RX0 27 "PhosphorHush$Program" "place" "I", .fieldLink RX0 19 "PhosphorHush$Program" "length" "I", .fieldLink RX0 9 "PhosphorHush$Program" "text" "[C", .methodLink RX0 23 yX0_moveTo, .instanceMethod yX0_moveTo, .selects RX0 yX0_moveTo yX0_moveTo, .code yX0_moveTo cX0_moveTo 2 none] ++ wsX00)
def wsX0_readEnd : List Cond := .code yX0_readEnd cX0_readEnd 1 (some .boolean) :: ([.fieldLink RX0 27 "PhosphorHush$Program" "place" "I", .fieldLink RX0 19 "PhosphorHush$Program" "length" "I", .fieldLink RX0 9 "PhosphorHush$Program" "text" "[C", .methodLink RX0 23 yX0_moveTo, .instanceMethod yX0_moveTo, .selects RX0 yX0_moveTo yX0_moveTo, .initialized RX0, .code yX0_moveTo cX0_moveTo 2 none] ++ wsX00)
def wsX4_isSpot : List Cond := .code yX4_isSpot cX4_isSpot 1 (some .boolean) :: ([])
def wsX1_positionOf : List Cond := .code yX1_positionOf cX1_positionOf 3 (some .int) :: ([.fieldLink RX1 31 "PhosphorHush$Screen" "size" "I", .fieldLink RX1 15 "PhosphorHush$Screen" "order" "[I"] ++ wsX10)
def wsX1_addSpot : List Cond := .code yX1_addSpot cX1_addSpot 2 (some .int) :: ([.fieldLink RX1 31 "PhosphorHush$Screen" "size" "I", .fieldLink RX1 15 "PhosphorHush$Screen" "order" "[I", .static yX4_isSpot, .initialized RX4, .code yX4_isSpot cX4_isSpot 1 (some .boolean), .methodLink RX1 48 yX1_positionOf, .instanceMethod yX1_positionOf, .selects RX1 yX1_positionOf yX1_positionOf, .initialized RX1, .code yX1_positionOf cX1_positionOf 3 (some .int)] ++ wsX10)
def wsX1_removeSpot : List Cond := .code yX1_removeSpot cX1_removeSpot 4 (some .int) :: ([.fieldLink RX1 31 "PhosphorHush$Screen" "size" "I", .fieldLink RX1 15 "PhosphorHush$Screen" "order" "[I", .static yX4_isSpot, .initialized RX4, .code yX4_isSpot cX4_isSpot 1 (some .boolean), .methodLink RX1 48 yX1_positionOf, .instanceMethod yX1_positionOf, .selects RX1 yX1_positionOf yX1_positionOf, .initialized RX1, .code yX1_positionOf cX1_positionOf 3 (some .int)] ++ wsX10)
def wsX4_isPhosphor : List Cond := .code yX4_isPhosphor cX4_isPhosphor 1 (some .boolean) :: ([])
def wsX1_putPhosphor : List Cond := .code yX1_putPhosphor cX1_putPhosphor 4 (some .int) :: ([.fieldLink RX1 9 "PhosphorHush$Screen" "phosphors" "[I", .static yX4_isSpot, .initialized RX4, .code yX4_isSpot cX4_isSpot 1 (some .boolean), .static yX4_isPhosphor, .code yX4_isPhosphor cX4_isPhosphor 1 (some .boolean)] ++ wsX10)
def wsJ13_bitCount_95d88 : List Cond := .code yJ13_bitCount_95d88 cJ13_bitCount_95d88 2 (some .int) :: ([.constantLong RJ13 314 (6148914691236517205), .constantLong RJ13 316 (3689348814741910323), .constantLong RJ13 318 (1085102592571150095)])
def wsX1_paint : List Cond := .code yX1_paint cX1_paint 4 (some .int) :: ([.fieldLink RX1 18 "PhosphorHush$Screen" "pictures" "[J", .constantLong RX1 75 (-1), .static yX4_isSpot, .initialized RX4, .code yX4_isSpot cX4_isSpot 1 (some .boolean), .methodLink RX1 77 yJ13_bitCount_95d88, .static yJ13_bitCount_95d88, .initialized RJ13, .code yJ13_bitCount_95d88 cJ13_bitCount_95d88 2 (some .int), .constantLong RJ13 314 (6148914691236517205), .constantLong RJ13 316 (3689348814741910323), .constantLong RJ13 318 (1085102592571150095)] ++ wsX10)
def wsX4_bit : List Cond := .code yX4_bit cX4_bit 3 (some .int) :: ([])
def wsX4_way : List Cond := .code yX4_way cX4_way 2 (some .int) :: ([.methodLink RX4 208 Lib.Math.abs.name, .static Lib.Math.abs.name, .initialized "java/lang/Math", .code Lib.Math.abs.name Lib.Math.abs.code 1 (some .int)])
def wsX4_glow : List Cond := .code yX4_glow cX4_glow 2 (some .int) :: ([.methodLink RX4 200 Lib.Math.max.name, .static Lib.Math.max.name, .initialized "java/lang/Math", .code Lib.Math.max.name Lib.Math.max.code 2 (some .int)])
def wsX4_ticksAbove : List Cond := .code yX4_ticksAbove cX4_ticksAbove 3 (some .int) :: ([.methodLink RX4 211 yX4_glow, .static yX4_glow, .initialized RX4, .code yX4_glow cX4_glow 2 (some .int), .methodLink RX4 200 Lib.Math.max.name, .static Lib.Math.max.name, .initialized "java/lang/Math", .code Lib.Math.max.name Lib.Math.max.code 2 (some .int)])
def wsX1_rank : List Cond := .code yX1_rank cX1_rank 4 (some .int) :: ([.fieldLink RX1 18 "PhosphorHush$Screen" "pictures" "[J", .fieldLink RX1 9 "PhosphorHush$Screen" "phosphors" "[I", .static yX4_bit, .initialized RX4, .code yX4_bit cX4_bit 3 (some .int), .static yX4_way, .code yX4_way cX4_way 2 (some .int), .methodLink RX4 208 Lib.Math.abs.name, .static Lib.Math.abs.name, .initialized "java/lang/Math", .code Lib.Math.abs.name Lib.Math.abs.code 1 (some .int), .static yX4_ticksAbove, .code yX4_ticksAbove cX4_ticksAbove 3 (some .int), .methodLink RX4 211 yX4_glow, .static yX4_glow, .code yX4_glow cX4_glow 2 (some .int), .methodLink RX4 200 Lib.Math.max.name, .static Lib.Math.max.name, .code Lib.Math.max.name Lib.Math.max.code 2 (some .int)] ++ wsX10)
def wsX1_swap : List Cond := .code yX1_swap cX1_swap 4 none :: ([.fieldLink RX1 15 "PhosphorHush$Screen" "order" "[I"] ++ wsX10)
def wsX1_arrival : List Cond := .code yX1_arrival cX1_arrival 5 (some .int) :: ([.fieldLink RX1 31 "PhosphorHush$Screen" "size" "I", .fieldLink RX1 15 "PhosphorHush$Screen" "order" "[I", .fieldLink RX1 22 "PhosphorHush$Screen" "settings" "[I", .static yX4_way, .initialized RX4, .code yX4_way cX4_way 2 (some .int), .methodLink RX4 208 Lib.Math.abs.name, .static Lib.Math.abs.name, .initialized "java/lang/Math", .code Lib.Math.abs.name Lib.Math.abs.code 1 (some .int)] ++ wsX10)
def wsX1_litSize : List Cond := .code yX1_litSize cX1_litSize 2 (some .int) :: ([.fieldLink RX1 31 "PhosphorHush$Screen" "size" "I", .fieldLink RX1 22 "PhosphorHush$Screen" "settings" "[I", .methodLink RX1 83 yX1_arrival, .instanceMethod yX1_arrival, .selects RX1 yX1_arrival yX1_arrival, .initialized RX1, .code yX1_arrival cX1_arrival 5 (some .int), .fieldLink RX1 15 "PhosphorHush$Screen" "order" "[I", .static yX4_way, .initialized RX4, .code yX4_way cX4_way 2 (some .int), .methodLink RX4 208 Lib.Math.abs.name, .static Lib.Math.abs.name, .initialized "java/lang/Math", .code Lib.Math.abs.name Lib.Math.abs.code 1 (some .int)] ++ wsX10)
def wsX1_arrange_r1 : List Cond := [Cond.fieldLink RX1 31 "PhosphorHush$Screen" "size" "I", Cond.fieldLink RX1 15 "PhosphorHush$Screen" "order" "[I", Cond.methodLink RX1 60 yX1_rank, Cond.instanceMethod yX1_rank, Cond.selects RX1 yX1_rank yX1_rank, Cond.initialized RX1, Cond.code yX1_rank cX1_rank 4 (some .int), Cond.fieldLink RX1 18 "PhosphorHush$Screen" "pictures" "[J", Cond.fieldLink RX1 9 "PhosphorHush$Screen" "phosphors" "[I", Cond.static yX4_bit, Cond.initialized RX4, Cond.code yX4_bit cX4_bit 3 (some .int), Cond.static yX4_way, Cond.code yX4_way cX4_way 2 (some .int), Cond.methodLink RX4 208 Lib.Math.abs.name, Cond.static Lib.Math.abs.name, Cond.initialized "java/lang/Math", Cond.code Lib.Math.abs.name Lib.Math.abs.code 1 (some .int), Cond.static yX4_ticksAbove, Cond.code yX4_ticksAbove cX4_ticksAbove 3 (some .int), Cond.methodLink RX4 211 yX4_glow, Cond.static yX4_glow, Cond.code yX4_glow cX4_glow 2 (some .int), Cond.methodLink RX4 200 Lib.Math.max.name]
def wsX1_arrange_r2 : List Cond := [Cond.static Lib.Math.max.name, Cond.code Lib.Math.max.name Lib.Math.max.code 2 (some .int), Cond.methodLink RX1 52 yX1_swap, Cond.instanceMethod yX1_swap, Cond.selects RX1 yX1_swap yX1_swap, Cond.code yX1_swap cX1_swap 4 none, Cond.methodLink RX1 56 yX1_litSize, Cond.instanceMethod yX1_litSize, Cond.selects RX1 yX1_litSize yX1_litSize, Cond.code yX1_litSize cX1_litSize 2 (some .int), Cond.fieldLink RX1 22 "PhosphorHush$Screen" "settings" "[I", Cond.methodLink RX1 83 yX1_arrival, Cond.instanceMethod yX1_arrival, Cond.selects RX1 yX1_arrival yX1_arrival, Cond.code yX1_arrival cX1_arrival 5 (some .int)]
def wsX1_arrange : List Cond := .code yX1_arrange cX1_arrange 6 (some .int) :: ((wsX1_arrange_r1 ++ wsX1_arrange_r2) ++ wsX10)
def wsX1_swapPositions : List Cond := .code yX1_swapPositions cX1_swapPositions 3 (some .int) :: ([.fieldLink RX1 31 "PhosphorHush$Screen" "size" "I", .methodLink RX1 52 yX1_swap, .instanceMethod yX1_swap, .selects RX1 yX1_swap yX1_swap, .initialized RX1, .code yX1_swap cX1_swap 4 none, .fieldLink RX1 15 "PhosphorHush$Screen" "order" "[I", .methodLink RX1 56 yX1_litSize, .instanceMethod yX1_litSize, .selects RX1 yX1_litSize yX1_litSize, .code yX1_litSize cX1_litSize 2 (some .int), .fieldLink RX1 22 "PhosphorHush$Screen" "settings" "[I", .methodLink RX1 83 yX1_arrival, .instanceMethod yX1_arrival, .selects RX1 yX1_arrival yX1_arrival, .code yX1_arrival cX1_arrival 5 (some .int), .static yX4_way, .initialized RX4, .code yX4_way cX4_way 2 (some .int), .methodLink RX4 208 Lib.Math.abs.name, .static Lib.Math.abs.name, .initialized "java/lang/Math", .code Lib.Math.abs.name Lib.Math.abs.code 1 (some .int)] ++ wsX10)
def wsX0_carryOut_r1 : List Cond := [Cond.fieldLink RX0 15 "PhosphorHush$Program" "numbers" "[I", Cond.methodLink RX0 83 yX1_addSpot, Cond.instanceMethod yX1_addSpot, Cond.selects RX1 yX1_addSpot yX1_addSpot, Cond.initialized RX1, Cond.code yX1_addSpot cX1_addSpot 2 (some .int), Cond.fieldLink RX1 31 "PhosphorHush$Screen" "size" "I", Cond.fieldLink RX1 15 "PhosphorHush$Screen" "order" "[I", Cond.static yX4_isSpot, Cond.initialized RX4, Cond.code yX4_isSpot cX4_isSpot 1 (some .boolean), Cond.methodLink RX1 48 yX1_positionOf, Cond.instanceMethod yX1_positionOf, Cond.selects RX1 yX1_positionOf yX1_positionOf, Cond.code yX1_positionOf cX1_positionOf 3 (some .int), Cond.methodLink RX0 88 yX1_removeSpot, Cond.instanceMethod yX1_removeSpot, Cond.selects RX1 yX1_removeSpot yX1_removeSpot, Cond.code yX1_removeSpot cX1_removeSpot 4 (some .int), Cond.methodLink RX0 91 yX1_putPhosphor, Cond.instanceMethod yX1_putPhosphor, Cond.selects RX1 yX1_putPhosphor yX1_putPhosphor, Cond.code yX1_putPhosphor cX1_putPhosphor 4 (some .int), Cond.fieldLink RX1 9 "PhosphorHush$Screen" "phosphors" "[I"]
def wsX0_carryOut_r2 : List Cond := [Cond.static yX4_isPhosphor, Cond.code yX4_isPhosphor cX4_isPhosphor 1 (some .boolean), Cond.methodLink RX0 95 yX1_paint, Cond.instanceMethod yX1_paint, Cond.selects RX1 yX1_paint yX1_paint, Cond.code yX1_paint cX1_paint 4 (some .int), Cond.fieldLink RX1 18 "PhosphorHush$Screen" "pictures" "[J", Cond.constantLong RX1 75 (-1), Cond.methodLink RX1 77 yJ13_bitCount_95d88, Cond.static yJ13_bitCount_95d88, Cond.initialized RJ13, Cond.code yJ13_bitCount_95d88 cJ13_bitCount_95d88 2 (some .int), Cond.constantLong RJ13 314 (6148914691236517205), Cond.constantLong RJ13 316 (3689348814741910323), Cond.constantLong RJ13 318 (1085102592571150095), Cond.methodLink RX0 99 yX1_arrange, Cond.instanceMethod yX1_arrange, Cond.selects RX1 yX1_arrange yX1_arrange, Cond.code yX1_arrange cX1_arrange 6 (some .int), Cond.methodLink RX1 60 yX1_rank, Cond.instanceMethod yX1_rank, Cond.selects RX1 yX1_rank yX1_rank, Cond.code yX1_rank cX1_rank 4 (some .int), Cond.static yX4_bit]
def wsX0_carryOut_r3 : List Cond := [Cond.code yX4_bit cX4_bit 3 (some .int), Cond.static yX4_way, Cond.code yX4_way cX4_way 2 (some .int), Cond.methodLink RX4 208 Lib.Math.abs.name, Cond.static Lib.Math.abs.name, Cond.initialized "java/lang/Math", Cond.code Lib.Math.abs.name Lib.Math.abs.code 1 (some .int), Cond.static yX4_ticksAbove, Cond.code yX4_ticksAbove cX4_ticksAbove 3 (some .int), Cond.methodLink RX4 211 yX4_glow, Cond.static yX4_glow, Cond.code yX4_glow cX4_glow 2 (some .int), Cond.methodLink RX4 200 Lib.Math.max.name, Cond.static Lib.Math.max.name, Cond.code Lib.Math.max.name Lib.Math.max.code 2 (some .int), Cond.methodLink RX1 52 yX1_swap, Cond.instanceMethod yX1_swap, Cond.selects RX1 yX1_swap yX1_swap, Cond.code yX1_swap cX1_swap 4 none, Cond.methodLink RX1 56 yX1_litSize, Cond.instanceMethod yX1_litSize, Cond.selects RX1 yX1_litSize yX1_litSize, Cond.code yX1_litSize cX1_litSize 2 (some .int), Cond.fieldLink RX1 22 "PhosphorHush$Screen" "settings" "[I"]
def wsX0_carryOut_r4 : List Cond := [Cond.methodLink RX1 83 yX1_arrival, Cond.instanceMethod yX1_arrival, Cond.selects RX1 yX1_arrival yX1_arrival, Cond.code yX1_arrival cX1_arrival 5 (some .int), Cond.methodLink RX0 102 yX1_swapPositions, Cond.instanceMethod yX1_swapPositions, Cond.selects RX1 yX1_swapPositions yX1_swapPositions, Cond.code yX1_swapPositions cX1_swapPositions 3 (some .int)]
def wsX0_carryOut : List Cond := .code yX0_carryOut cX0_carryOut 3 (some .int) :: ((wsX0_carryOut_r1 ++ (wsX0_carryOut_r2 ++ (wsX0_carryOut_r3 ++ wsX0_carryOut_r4))) ++ wsX00 ++ wsX10)
def wsX0_runOn_r1 : List Cond := [Cond.fieldLink RX0 27 "PhosphorHush$Program" "place" "I", Cond.fieldLink RX0 19 "PhosphorHush$Program" "length" "I", Cond.methodLink RX0 23 yX0_moveTo, Cond.instanceMethod yX0_moveTo, Cond.selects RX0 yX0_moveTo yX0_moveTo, Cond.initialized RX0, Cond.code yX0_moveTo cX0_moveTo 2 none, Cond.fieldLink RX0 9 "PhosphorHush$Program" "text" "[C", Cond.methodLink RX0 30 yX0_readWord, Cond.instanceMethod yX0_readWord, Cond.selects RX0 yX0_readWord yX0_readWord, Cond.code yX0_readWord cX0_readWord 3 (some .int), Cond.methodLink RX0 50 yX0_wordOf, Cond.static yX0_wordOf, Cond.code yX0_wordOf cX0_wordOf 1 (some (.object "java/lang/String")), Cond.methodLink RX0 54 yX0_isWord, Cond.instanceMethod yX0_isWord, Cond.selects RX0 yX0_isWord yX0_isWord, Cond.code yX0_isWord cX0_isWord 4 (some .boolean), Cond.methodLink RX0 58 yJ0_length_8abf5, Cond.instanceMethod yJ0_length_8abf5, Cond.selects RJ0 yJ0_length_8abf5 yJ0_length_8abf5, Cond.initialized RJ0, Cond.code yJ0_length_8abf5 cJ0_length_8abf5 1 (some .int)]
def wsX0_runOn_r2 : List Cond := [Cond.fieldLink RJ0 9 "java/lang/String" "value" "[B", Cond.methodLink RJ0 335 yJ0_coder_7d493, Cond.instanceMethod yJ0_coder_7d493, Cond.selects RJ0 yJ0_coder_7d493 yJ0_coder_7d493, Cond.code yJ0_coder_7d493 cJ0_coder_7d493 1 (some .byte), Cond.fieldLink RJ0 38 "java/lang/String" "COMPACT_STRINGS" "Z", Cond.fieldLink RJ0 15 "java/lang/String" "coder" "B", Cond.methodLink RX0 62 yJ0_charAt_5068e, Cond.instanceMethod yJ0_charAt_5068e, Cond.selects RJ0 yJ0_charAt_5068e yJ0_charAt_5068e, Cond.code yJ0_charAt_5068e cJ0_charAt_5068e 2 (some .char), Cond.methodLink RJ0 492 yJ0_isLatin1_aae02, Cond.instanceMethod yJ0_isLatin1_aae02, Cond.selects RJ0 yJ0_isLatin1_aae02 yJ0_isLatin1_aae02, Cond.code yJ0_isLatin1_aae02 cJ0_isLatin1_aae02 1 (some .boolean), Cond.methodLink RJ0 495 yJ1_charAt_3b067, Cond.static yJ1_charAt_3b067, Cond.initialized RJ1, Cond.code yJ1_charAt_3b067 cJ1_charAt_3b067 2 (some .char), Cond.methodLink RJ1 9 yJ0_checkIndex_df160, Cond.static yJ0_checkIndex_df160, Cond.code yJ0_checkIndex_df160 cJ0_checkIndex_df160 2 none, Cond.fieldLink RJ0 1053 "jdk/internal/util/Preconditions" "SIOOBE_FORMATTER" "Ljava/util/function/BiFunction;", Cond.methodLink RJ0 1059 yJ3_checkIndex_8e157]
def wsX0_runOn_r3 : List Cond := [Cond.static yJ3_checkIndex_8e157, Cond.initialized RJ3, Cond.code yJ3_checkIndex_8e157 cJ3_checkIndex_8e157 3 (some .int), Cond.methodLink RJ0 498 yJ2_charAt_3b067, Cond.static yJ2_charAt_3b067, Cond.initialized RJ2, Cond.code yJ2_charAt_3b067 cJ2_charAt_3b067 2 (some .char), Cond.methodLink RJ2 67 yJ2_checkIndex_2214a, Cond.static yJ2_checkIndex_2214a, Cond.code yJ2_checkIndex_2214a cJ2_checkIndex_2214a 2 none, Cond.methodLink RJ2 48 yJ2_length_9d52b, Cond.static yJ2_length_9d52b, Cond.code yJ2_length_9d52b cJ2_length_9d52b 1 (some .int), Cond.methodLink RJ2 414 yJ0_checkIndex_df160, Cond.methodLink RJ2 71 yJ2_getChar_3b067, Cond.static yJ2_getChar_3b067, Cond.code yJ2_getChar_3b067 cJ2_getChar_3b067 2 (some .char), Cond.fieldLink RJ2 44 "java/lang/StringUTF16" "$assertionsDisabled" "Z", Cond.fieldLink RJ2 59 "java/lang/StringUTF16" "HI_BYTE_SHIFT" "I", Cond.fieldLink RJ2 63 "java/lang/StringUTF16" "LO_BYTE_SHIFT" "I", Cond.methodLink RX0 34 yX0_numbersOf, Cond.static yX0_numbersOf, Cond.code yX0_numbersOf cX0_numbersOf 1 (some .int), Cond.methodLink RX0 38 yX0_readNumbers]
def wsX0_runOn_r4 : List Cond := [Cond.instanceMethod yX0_readNumbers, Cond.selects RX0 yX0_readNumbers yX0_readNumbers, Cond.code yX0_readNumbers cX0_readNumbers 4 (some .boolean), Cond.fieldLink RX0 15 "PhosphorHush$Program" "numbers" "[I", Cond.methodLink RX0 66 yX0_readNumber, Cond.instanceMethod yX0_readNumber, Cond.selects RX0 yX0_readNumber yX0_readNumber, Cond.code yX0_readNumber cX0_readNumber 4 (some .int), Cond.methodLink RX0 42 yX0_readEnd, Cond.instanceMethod yX0_readEnd, Cond.selects RX0 yX0_readEnd yX0_readEnd, Cond.code yX0_readEnd cX0_readEnd 1 (some .boolean), Cond.methodLink RX0 46 yX0_carryOut, Cond.instanceMethod yX0_carryOut, Cond.selects RX0 yX0_carryOut yX0_carryOut, Cond.code yX0_carryOut cX0_carryOut 3 (some .int), Cond.methodLink RX0 83 yX1_addSpot, Cond.instanceMethod yX1_addSpot, Cond.selects RX1 yX1_addSpot yX1_addSpot, Cond.initialized RX1, Cond.code yX1_addSpot cX1_addSpot 2 (some .int), Cond.fieldLink RX1 31 "PhosphorHush$Screen" "size" "I", Cond.fieldLink RX1 15 "PhosphorHush$Screen" "order" "[I", Cond.static yX4_isSpot]
def wsX0_runOn_r5 : List Cond := [Cond.initialized RX4, Cond.code yX4_isSpot cX4_isSpot 1 (some .boolean), Cond.methodLink RX1 48 yX1_positionOf, Cond.instanceMethod yX1_positionOf, Cond.selects RX1 yX1_positionOf yX1_positionOf, Cond.code yX1_positionOf cX1_positionOf 3 (some .int), Cond.methodLink RX0 88 yX1_removeSpot, Cond.instanceMethod yX1_removeSpot, Cond.selects RX1 yX1_removeSpot yX1_removeSpot, Cond.code yX1_removeSpot cX1_removeSpot 4 (some .int), Cond.methodLink RX0 91 yX1_putPhosphor, Cond.instanceMethod yX1_putPhosphor, Cond.selects RX1 yX1_putPhosphor yX1_putPhosphor, Cond.code yX1_putPhosphor cX1_putPhosphor 4 (some .int), Cond.fieldLink RX1 9 "PhosphorHush$Screen" "phosphors" "[I", Cond.static yX4_isPhosphor, Cond.code yX4_isPhosphor cX4_isPhosphor 1 (some .boolean), Cond.methodLink RX0 95 yX1_paint, Cond.instanceMethod yX1_paint, Cond.selects RX1 yX1_paint yX1_paint, Cond.code yX1_paint cX1_paint 4 (some .int), Cond.fieldLink RX1 18 "PhosphorHush$Screen" "pictures" "[J", Cond.constantLong RX1 75 (-1), Cond.methodLink RX1 77 yJ13_bitCount_95d88]
def wsX0_runOn_r6 : List Cond := [Cond.static yJ13_bitCount_95d88, Cond.initialized RJ13, Cond.code yJ13_bitCount_95d88 cJ13_bitCount_95d88 2 (some .int), Cond.constantLong RJ13 314 (6148914691236517205), Cond.constantLong RJ13 316 (3689348814741910323), Cond.constantLong RJ13 318 (1085102592571150095), Cond.methodLink RX0 99 yX1_arrange, Cond.instanceMethod yX1_arrange, Cond.selects RX1 yX1_arrange yX1_arrange, Cond.code yX1_arrange cX1_arrange 6 (some .int), Cond.methodLink RX1 60 yX1_rank, Cond.instanceMethod yX1_rank, Cond.selects RX1 yX1_rank yX1_rank, Cond.code yX1_rank cX1_rank 4 (some .int), Cond.static yX4_bit, Cond.code yX4_bit cX4_bit 3 (some .int), Cond.static yX4_way, Cond.code yX4_way cX4_way 2 (some .int), Cond.methodLink RX4 208 Lib.Math.abs.name, Cond.static Lib.Math.abs.name, Cond.initialized "java/lang/Math", Cond.code Lib.Math.abs.name Lib.Math.abs.code 1 (some .int), Cond.static yX4_ticksAbove, Cond.code yX4_ticksAbove cX4_ticksAbove 3 (some .int)]
def wsX0_runOn_r7 : List Cond := [Cond.methodLink RX4 211 yX4_glow, Cond.static yX4_glow, Cond.code yX4_glow cX4_glow 2 (some .int), Cond.methodLink RX4 200 Lib.Math.max.name, Cond.static Lib.Math.max.name, Cond.code Lib.Math.max.name Lib.Math.max.code 2 (some .int), Cond.methodLink RX1 52 yX1_swap, Cond.instanceMethod yX1_swap, Cond.selects RX1 yX1_swap yX1_swap, Cond.code yX1_swap cX1_swap 4 none, Cond.methodLink RX1 56 yX1_litSize, Cond.instanceMethod yX1_litSize, Cond.selects RX1 yX1_litSize yX1_litSize, Cond.code yX1_litSize cX1_litSize 2 (some .int), Cond.fieldLink RX1 22 "PhosphorHush$Screen" "settings" "[I", Cond.methodLink RX1 83 yX1_arrival, Cond.instanceMethod yX1_arrival, Cond.selects RX1 yX1_arrival yX1_arrival, Cond.code yX1_arrival cX1_arrival 5 (some .int), Cond.methodLink RX0 102 yX1_swapPositions, Cond.instanceMethod yX1_swapPositions, Cond.selects RX1 yX1_swapPositions yX1_swapPositions, Cond.code yX1_swapPositions cX1_swapPositions 3 (some .int)]
def wsX0_runOn : List Cond := .code yX0_runOn cX0_runOn 5 (some .int) :: ((wsX0_runOn_r1 ++ (wsX0_runOn_r2 ++ (wsX0_runOn_r3 ++ (wsX0_runOn_r4 ++ (wsX0_runOn_r5 ++ (wsX0_runOn_r6 ++ wsX0_runOn_r7)))))) ++ wsX00 ++ wsX10)
def wsX1_init : List Cond := .code yX1_init cX1_init 1 none :: ([.methodLink RX1 3 objectInit, .instanceMethod objectInit, .code objectInit ⟨#[0xb1]⟩ 1 none, .arrayClass .int, .fieldLink RX1 9 "PhosphorHush$Screen" "phosphors" "[I", .fieldLink RX1 15 "PhosphorHush$Screen" "order" "[I", .arrayClass .long, .fieldLink RX1 18 "PhosphorHush$Screen" "pictures" "[J", .fieldLink RX1 22 "PhosphorHush$Screen" "settings" "[I"] ++ wsX10)
def wsX1_copyFrom : List Cond := .code yX1_copyFrom cX1_copyFrom 2 none :: ([.fieldLink RX1 9 "PhosphorHush$Screen" "phosphors" "[I", .methodLink RX1 25 arraycopyName, .native arraycopyName, .static arraycopyName, .initialized "java/lang/System", .fieldLink RX1 15 "PhosphorHush$Screen" "order" "[I", .fieldLink RX1 31 "PhosphorHush$Screen" "size" "I", .fieldLink RX1 18 "PhosphorHush$Screen" "pictures" "[J", .fieldLink RX1 22 "PhosphorHush$Screen" "settings" "[I"] ++ wsX10)
def wsX1_putSetting : List Cond := .code yX1_putSetting cX1_putSetting 4 (some .int) :: ([.fieldLink RX1 35 "PhosphorHush$Screen" "LEAST" "[I", .fieldLink RX1 38 "PhosphorHush$Screen" "MOST" "[I", .fieldLink RX1 22 "PhosphorHush$Screen" "settings" "[I"] ++ wsX10)
def wsX1_spotsOfOrder : List Cond := .code yX1_spotsOfOrder cX1_spotsOfOrder 4 (some .long) :: ([.fieldLink RX1 31 "PhosphorHush$Screen" "size" "I", .fieldLink RX1 15 "PhosphorHush$Screen" "order" "[I"] ++ wsX10)
def wsX1_sumOfWays : List Cond := .code yX1_sumOfWays cX1_sumOfWays 4 (some .int) :: ([.fieldLink RX1 31 "PhosphorHush$Screen" "size" "I", .fieldLink RX1 15 "PhosphorHush$Screen" "order" "[I", .static yX4_way, .initialized RX4, .code yX4_way cX4_way 2 (some .int), .methodLink RX4 208 Lib.Math.abs.name, .static Lib.Math.abs.name, .initialized "java/lang/Math", .code Lib.Math.abs.name Lib.Math.abs.code 1 (some .int)] ++ wsX10)
def wsX1_litTick : List Cond := .code yX1_litTick cX1_litTick 3 (some .int) :: ([.fieldLink RX1 22 "PhosphorHush$Screen" "settings" "[I", .methodLink RX1 48 yX1_positionOf, .instanceMethod yX1_positionOf, .selects RX1 yX1_positionOf yX1_positionOf, .initialized RX1, .code yX1_positionOf cX1_positionOf 3 (some .int), .fieldLink RX1 31 "PhosphorHush$Screen" "size" "I", .fieldLink RX1 15 "PhosphorHush$Screen" "order" "[I", .methodLink RX1 83 yX1_arrival, .instanceMethod yX1_arrival, .selects RX1 yX1_arrival yX1_arrival, .code yX1_arrival cX1_arrival 5 (some .int), .static yX4_way, .initialized RX4, .code yX4_way cX4_way 2 (some .int), .methodLink RX4 208 Lib.Math.abs.name, .static Lib.Math.abs.name, .initialized "java/lang/Math", .code Lib.Math.abs.name Lib.Math.abs.code 1 (some .int)] ++ wsX10)
def wsX1_shine : List Cond := .code yX1_shine cX1_shine 5 (some .int) :: ([.fieldLink RX1 9 "PhosphorHush$Screen" "phosphors" "[I", .fieldLink RX1 22 "PhosphorHush$Screen" "settings" "[I", .static yX4_glow, .initialized RX4, .code yX4_glow cX4_glow 2 (some .int), .methodLink RX4 200 Lib.Math.max.name, .static Lib.Math.max.name, .initialized "java/lang/Math", .code Lib.Math.max.name Lib.Math.max.code 2 (some .int)] ++ wsX10)
def wsX1_next : List Cond := .code yX1_next cX1_next 2 (some .int) :: ([.fieldLink RX1 22 "PhosphorHush$Screen" "settings" "[I"] ++ wsX10)
def wsX1_sumOver_r1 : List Cond := [Cond.methodLink RX1 89 yX1_litTick, Cond.instanceMethod yX1_litTick, Cond.selects RX1 yX1_litTick yX1_litTick, Cond.initialized RX1, Cond.code yX1_litTick cX1_litTick 3 (some .int), Cond.fieldLink RX1 22 "PhosphorHush$Screen" "settings" "[I", Cond.methodLink RX1 48 yX1_positionOf, Cond.instanceMethod yX1_positionOf, Cond.selects RX1 yX1_positionOf yX1_positionOf, Cond.code yX1_positionOf cX1_positionOf 3 (some .int), Cond.fieldLink RX1 31 "PhosphorHush$Screen" "size" "I", Cond.fieldLink RX1 15 "PhosphorHush$Screen" "order" "[I", Cond.methodLink RX1 83 yX1_arrival, Cond.instanceMethod yX1_arrival, Cond.selects RX1 yX1_arrival yX1_arrival, Cond.code yX1_arrival cX1_arrival 5 (some .int), Cond.static yX4_way, Cond.initialized RX4, Cond.code yX4_way cX4_way 2 (some .int), Cond.methodLink RX4 208 Lib.Math.abs.name, Cond.static Lib.Math.abs.name, Cond.initialized "java/lang/Math", Cond.code Lib.Math.abs.name Lib.Math.abs.code 1 (some .int), Cond.methodLink RX1 92 yX1_shine]
def wsX1_sumOver_r2 : List Cond := [Cond.instanceMethod yX1_shine, Cond.selects RX1 yX1_shine yX1_shine, Cond.code yX1_shine cX1_shine 5 (some .int), Cond.fieldLink RX1 9 "PhosphorHush$Screen" "phosphors" "[I", Cond.static yX4_glow, Cond.code yX4_glow cX4_glow 2 (some .int), Cond.methodLink RX4 200 Lib.Math.max.name, Cond.static Lib.Math.max.name, Cond.code Lib.Math.max.name Lib.Math.max.code 2 (some .int), Cond.methodLink RX1 95 yX1_next, Cond.instanceMethod yX1_next, Cond.selects RX1 yX1_next yX1_next, Cond.code yX1_next cX1_next 2 (some .int)]
def wsX1_sumOver : List Cond := .code yX1_sumOver cX1_sumOver 8 (some .int) :: ((wsX1_sumOver_r1 ++ wsX1_sumOver_r2) ++ wsX10)
def wsX1_startInFrame : List Cond := .code yX1_startInFrame cX1_startInFrame 2 (some .int) :: ([.fieldLink RX1 22 "PhosphorHush$Screen" "settings" "[I"] ++ wsX10)
def wsX1_mean : List Cond := .code yX1_mean cX1_mean 2 (some .int) :: ([])
def wsX1_eyeMean_r1 : List Cond := [Cond.fieldLink RX1 22 "PhosphorHush$Screen" "settings" "[I", Cond.methodLink RX1 98 yX1_sumOver, Cond.instanceMethod yX1_sumOver, Cond.selects RX1 yX1_sumOver yX1_sumOver, Cond.initialized RX1, Cond.code yX1_sumOver cX1_sumOver 8 (some .int), Cond.methodLink RX1 89 yX1_litTick, Cond.instanceMethod yX1_litTick, Cond.selects RX1 yX1_litTick yX1_litTick, Cond.code yX1_litTick cX1_litTick 3 (some .int), Cond.methodLink RX1 48 yX1_positionOf, Cond.instanceMethod yX1_positionOf, Cond.selects RX1 yX1_positionOf yX1_positionOf, Cond.code yX1_positionOf cX1_positionOf 3 (some .int), Cond.fieldLink RX1 31 "PhosphorHush$Screen" "size" "I", Cond.fieldLink RX1 15 "PhosphorHush$Screen" "order" "[I", Cond.methodLink RX1 83 yX1_arrival, Cond.instanceMethod yX1_arrival, Cond.selects RX1 yX1_arrival yX1_arrival, Cond.code yX1_arrival cX1_arrival 5 (some .int), Cond.static yX4_way, Cond.initialized RX4, Cond.code yX4_way cX4_way 2 (some .int), Cond.methodLink RX4 208 Lib.Math.abs.name]
def wsX1_eyeMean_r2 : List Cond := [Cond.static Lib.Math.abs.name, Cond.initialized "java/lang/Math", Cond.code Lib.Math.abs.name Lib.Math.abs.code 1 (some .int), Cond.methodLink RX1 92 yX1_shine, Cond.instanceMethod yX1_shine, Cond.selects RX1 yX1_shine yX1_shine, Cond.code yX1_shine cX1_shine 5 (some .int), Cond.fieldLink RX1 9 "PhosphorHush$Screen" "phosphors" "[I", Cond.static yX4_glow, Cond.code yX4_glow cX4_glow 2 (some .int), Cond.methodLink RX4 200 Lib.Math.max.name, Cond.static Lib.Math.max.name, Cond.code Lib.Math.max.name Lib.Math.max.code 2 (some .int), Cond.methodLink RX1 95 yX1_next, Cond.instanceMethod yX1_next, Cond.selects RX1 yX1_next yX1_next, Cond.code yX1_next cX1_next 2 (some .int), Cond.methodLink RX1 101 yX1_mean, Cond.static yX1_mean, Cond.code yX1_mean cX1_mean 2 (some .int)]
def wsX1_eyeMean : List Cond := .code yX1_eyeMean cX1_eyeMean 2 (some .int) :: ((wsX1_eyeMean_r1 ++ wsX1_eyeMean_r2) ++ wsX10)
def wsX1_shutterMean_r1 : List Cond := [Cond.methodLink RX1 104 yX1_startInFrame, Cond.instanceMethod yX1_startInFrame, Cond.selects RX1 yX1_startInFrame yX1_startInFrame, Cond.initialized RX1, Cond.code yX1_startInFrame cX1_startInFrame 2 (some .int), Cond.fieldLink RX1 22 "PhosphorHush$Screen" "settings" "[I", Cond.methodLink RX1 98 yX1_sumOver, Cond.instanceMethod yX1_sumOver, Cond.selects RX1 yX1_sumOver yX1_sumOver, Cond.code yX1_sumOver cX1_sumOver 8 (some .int), Cond.methodLink RX1 89 yX1_litTick, Cond.instanceMethod yX1_litTick, Cond.selects RX1 yX1_litTick yX1_litTick, Cond.code yX1_litTick cX1_litTick 3 (some .int), Cond.methodLink RX1 48 yX1_positionOf, Cond.instanceMethod yX1_positionOf, Cond.selects RX1 yX1_positionOf yX1_positionOf, Cond.code yX1_positionOf cX1_positionOf 3 (some .int), Cond.fieldLink RX1 31 "PhosphorHush$Screen" "size" "I", Cond.fieldLink RX1 15 "PhosphorHush$Screen" "order" "[I", Cond.methodLink RX1 83 yX1_arrival, Cond.instanceMethod yX1_arrival, Cond.selects RX1 yX1_arrival yX1_arrival, Cond.code yX1_arrival cX1_arrival 5 (some .int)]
def wsX1_shutterMean_r2 : List Cond := [Cond.static yX4_way, Cond.initialized RX4, Cond.code yX4_way cX4_way 2 (some .int), Cond.methodLink RX4 208 Lib.Math.abs.name, Cond.static Lib.Math.abs.name, Cond.initialized "java/lang/Math", Cond.code Lib.Math.abs.name Lib.Math.abs.code 1 (some .int), Cond.methodLink RX1 92 yX1_shine, Cond.instanceMethod yX1_shine, Cond.selects RX1 yX1_shine yX1_shine, Cond.code yX1_shine cX1_shine 5 (some .int), Cond.fieldLink RX1 9 "PhosphorHush$Screen" "phosphors" "[I", Cond.static yX4_glow, Cond.code yX4_glow cX4_glow 2 (some .int), Cond.methodLink RX4 200 Lib.Math.max.name, Cond.static Lib.Math.max.name, Cond.code Lib.Math.max.name Lib.Math.max.code 2 (some .int), Cond.methodLink RX1 95 yX1_next, Cond.instanceMethod yX1_next, Cond.selects RX1 yX1_next yX1_next, Cond.code yX1_next cX1_next 2 (some .int), Cond.methodLink RX1 101 yX1_mean, Cond.static yX1_mean, Cond.code yX1_mean cX1_mean 2 (some .int)]
def wsX1_shutterMean : List Cond := .code yX1_shutterMean cX1_shutterMean 3 (some .int) :: ((wsX1_shutterMean_r1 ++ wsX1_shutterMean_r2) ++ wsX10)
def wsX1_flicker_r1 : List Cond := [Cond.fieldLink RX1 22 "PhosphorHush$Screen" "settings" "[I", Cond.methodLink RX1 107 Lib.Math.max.name, Cond.static Lib.Math.max.name, Cond.initialized "java/lang/Math", Cond.code Lib.Math.max.name Lib.Math.max.code 2 (some .int), Cond.methodLink RX1 112 Lib.Math.min.name, Cond.static Lib.Math.min.name, Cond.code Lib.Math.min.name Lib.Math.min.code 2 (some .int), Cond.methodLink RX1 89 yX1_litTick, Cond.instanceMethod yX1_litTick, Cond.selects RX1 yX1_litTick yX1_litTick, Cond.initialized RX1, Cond.code yX1_litTick cX1_litTick 3 (some .int), Cond.methodLink RX1 48 yX1_positionOf, Cond.instanceMethod yX1_positionOf, Cond.selects RX1 yX1_positionOf yX1_positionOf, Cond.code yX1_positionOf cX1_positionOf 3 (some .int), Cond.fieldLink RX1 31 "PhosphorHush$Screen" "size" "I", Cond.fieldLink RX1 15 "PhosphorHush$Screen" "order" "[I", Cond.methodLink RX1 83 yX1_arrival, Cond.instanceMethod yX1_arrival, Cond.selects RX1 yX1_arrival yX1_arrival, Cond.code yX1_arrival cX1_arrival 5 (some .int), Cond.static yX4_way]
def wsX1_flicker_r2 : List Cond := [Cond.initialized RX4, Cond.code yX4_way cX4_way 2 (some .int), Cond.methodLink RX4 208 Lib.Math.abs.name, Cond.static Lib.Math.abs.name, Cond.code Lib.Math.abs.name Lib.Math.abs.code 1 (some .int), Cond.methodLink RX1 92 yX1_shine, Cond.instanceMethod yX1_shine, Cond.selects RX1 yX1_shine yX1_shine, Cond.code yX1_shine cX1_shine 5 (some .int), Cond.fieldLink RX1 9 "PhosphorHush$Screen" "phosphors" "[I", Cond.static yX4_glow, Cond.code yX4_glow cX4_glow 2 (some .int), Cond.methodLink RX4 200 Lib.Math.max.name]
def wsX1_flicker : List Cond := .code yX1_flicker cX1_flicker 7 (some .int) :: ((wsX1_flicker_r1 ++ wsX1_flicker_r2) ++ wsX10)
def wsX1_seen_r1 : List Cond := [Cond.fieldLink RX1 31 "PhosphorHush$Screen" "size" "I", Cond.fieldLink RX1 15 "PhosphorHush$Screen" "order" "[I", Cond.methodLink RX1 98 yX1_sumOver, Cond.instanceMethod yX1_sumOver, Cond.selects RX1 yX1_sumOver yX1_sumOver, Cond.initialized RX1, Cond.code yX1_sumOver cX1_sumOver 8 (some .int), Cond.methodLink RX1 89 yX1_litTick, Cond.instanceMethod yX1_litTick, Cond.selects RX1 yX1_litTick yX1_litTick, Cond.code yX1_litTick cX1_litTick 3 (some .int), Cond.fieldLink RX1 22 "PhosphorHush$Screen" "settings" "[I", Cond.methodLink RX1 48 yX1_positionOf, Cond.instanceMethod yX1_positionOf, Cond.selects RX1 yX1_positionOf yX1_positionOf, Cond.code yX1_positionOf cX1_positionOf 3 (some .int), Cond.methodLink RX1 83 yX1_arrival, Cond.instanceMethod yX1_arrival, Cond.selects RX1 yX1_arrival yX1_arrival, Cond.code yX1_arrival cX1_arrival 5 (some .int), Cond.static yX4_way, Cond.initialized RX4, Cond.code yX4_way cX4_way 2 (some .int), Cond.methodLink RX4 208 Lib.Math.abs.name]
def wsX1_seen_r2 : List Cond := [Cond.static Lib.Math.abs.name, Cond.initialized "java/lang/Math", Cond.code Lib.Math.abs.name Lib.Math.abs.code 1 (some .int), Cond.methodLink RX1 92 yX1_shine, Cond.instanceMethod yX1_shine, Cond.selects RX1 yX1_shine yX1_shine, Cond.code yX1_shine cX1_shine 5 (some .int), Cond.fieldLink RX1 9 "PhosphorHush$Screen" "phosphors" "[I", Cond.static yX4_glow, Cond.code yX4_glow cX4_glow 2 (some .int), Cond.methodLink RX4 200 Lib.Math.max.name, Cond.static Lib.Math.max.name, Cond.code Lib.Math.max.name Lib.Math.max.code 2 (some .int), Cond.methodLink RX1 95 yX1_next, Cond.instanceMethod yX1_next, Cond.selects RX1 yX1_next yX1_next, Cond.code yX1_next cX1_next 2 (some .int), Cond.methodLink RX1 101 yX1_mean, Cond.static yX1_mean, Cond.code yX1_mean cX1_mean 2 (some .int)]
def wsX1_seen : List Cond := .code yX1_seen cX1_seen 7 (some .long) :: ((wsX1_seen_r1 ++ wsX1_seen_r2) ++ wsX10)
def wsX1_seenByEye_r1 : List Cond := [Cond.fieldLink RX1 22 "PhosphorHush$Screen" "settings" "[I", Cond.methodLink RX1 115 yX1_seen, Cond.instanceMethod yX1_seen, Cond.selects RX1 yX1_seen yX1_seen, Cond.initialized RX1, Cond.code yX1_seen cX1_seen 7 (some .long), Cond.fieldLink RX1 31 "PhosphorHush$Screen" "size" "I", Cond.fieldLink RX1 15 "PhosphorHush$Screen" "order" "[I", Cond.methodLink RX1 98 yX1_sumOver, Cond.instanceMethod yX1_sumOver, Cond.selects RX1 yX1_sumOver yX1_sumOver, Cond.code yX1_sumOver cX1_sumOver 8 (some .int), Cond.methodLink RX1 89 yX1_litTick, Cond.instanceMethod yX1_litTick, Cond.selects RX1 yX1_litTick yX1_litTick, Cond.code yX1_litTick cX1_litTick 3 (some .int), Cond.methodLink RX1 48 yX1_positionOf, Cond.instanceMethod yX1_positionOf, Cond.selects RX1 yX1_positionOf yX1_positionOf, Cond.code yX1_positionOf cX1_positionOf 3 (some .int), Cond.methodLink RX1 83 yX1_arrival, Cond.instanceMethod yX1_arrival, Cond.selects RX1 yX1_arrival yX1_arrival, Cond.code yX1_arrival cX1_arrival 5 (some .int)]
def wsX1_seenByEye_r2 : List Cond := [Cond.static yX4_way, Cond.initialized RX4, Cond.code yX4_way cX4_way 2 (some .int), Cond.methodLink RX4 208 Lib.Math.abs.name, Cond.static Lib.Math.abs.name, Cond.initialized "java/lang/Math", Cond.code Lib.Math.abs.name Lib.Math.abs.code 1 (some .int), Cond.methodLink RX1 92 yX1_shine, Cond.instanceMethod yX1_shine, Cond.selects RX1 yX1_shine yX1_shine, Cond.code yX1_shine cX1_shine 5 (some .int), Cond.fieldLink RX1 9 "PhosphorHush$Screen" "phosphors" "[I", Cond.static yX4_glow, Cond.code yX4_glow cX4_glow 2 (some .int), Cond.methodLink RX4 200 Lib.Math.max.name, Cond.static Lib.Math.max.name, Cond.code Lib.Math.max.name Lib.Math.max.code 2 (some .int), Cond.methodLink RX1 95 yX1_next, Cond.instanceMethod yX1_next, Cond.selects RX1 yX1_next yX1_next, Cond.code yX1_next cX1_next 2 (some .int), Cond.methodLink RX1 101 yX1_mean, Cond.static yX1_mean, Cond.code yX1_mean cX1_mean 2 (some .int)]
def wsX1_seenByEye : List Cond := .code yX1_seenByEye cX1_seenByEye 1 (some .long) :: ((wsX1_seenByEye_r1 ++ wsX1_seenByEye_r2) ++ wsX10)
def wsX1_seenByShutter_r1 : List Cond := [Cond.fieldLink RX1 22 "PhosphorHush$Screen" "settings" "[I", Cond.methodLink RX1 104 yX1_startInFrame, Cond.instanceMethod yX1_startInFrame, Cond.selects RX1 yX1_startInFrame yX1_startInFrame, Cond.initialized RX1, Cond.code yX1_startInFrame cX1_startInFrame 2 (some .int), Cond.methodLink RX1 115 yX1_seen, Cond.instanceMethod yX1_seen, Cond.selects RX1 yX1_seen yX1_seen, Cond.code yX1_seen cX1_seen 7 (some .long), Cond.fieldLink RX1 31 "PhosphorHush$Screen" "size" "I", Cond.fieldLink RX1 15 "PhosphorHush$Screen" "order" "[I", Cond.methodLink RX1 98 yX1_sumOver, Cond.instanceMethod yX1_sumOver, Cond.selects RX1 yX1_sumOver yX1_sumOver, Cond.code yX1_sumOver cX1_sumOver 8 (some .int), Cond.methodLink RX1 89 yX1_litTick, Cond.instanceMethod yX1_litTick, Cond.selects RX1 yX1_litTick yX1_litTick, Cond.code yX1_litTick cX1_litTick 3 (some .int), Cond.methodLink RX1 48 yX1_positionOf, Cond.instanceMethod yX1_positionOf, Cond.selects RX1 yX1_positionOf yX1_positionOf, Cond.code yX1_positionOf cX1_positionOf 3 (some .int)]
def wsX1_seenByShutter_r2 : List Cond := [Cond.methodLink RX1 83 yX1_arrival, Cond.instanceMethod yX1_arrival, Cond.selects RX1 yX1_arrival yX1_arrival, Cond.code yX1_arrival cX1_arrival 5 (some .int), Cond.static yX4_way, Cond.initialized RX4, Cond.code yX4_way cX4_way 2 (some .int), Cond.methodLink RX4 208 Lib.Math.abs.name, Cond.static Lib.Math.abs.name, Cond.initialized "java/lang/Math", Cond.code Lib.Math.abs.name Lib.Math.abs.code 1 (some .int), Cond.methodLink RX1 92 yX1_shine, Cond.instanceMethod yX1_shine, Cond.selects RX1 yX1_shine yX1_shine, Cond.code yX1_shine cX1_shine 5 (some .int), Cond.fieldLink RX1 9 "PhosphorHush$Screen" "phosphors" "[I", Cond.static yX4_glow, Cond.code yX4_glow cX4_glow 2 (some .int), Cond.methodLink RX4 200 Lib.Math.max.name, Cond.static Lib.Math.max.name, Cond.code Lib.Math.max.name Lib.Math.max.code 2 (some .int), Cond.methodLink RX1 95 yX1_next, Cond.instanceMethod yX1_next, Cond.selects RX1 yX1_next yX1_next]
def wsX1_seenByShutter_r3 : List Cond := [Cond.code yX1_next cX1_next 2 (some .int), Cond.methodLink RX1 101 yX1_mean, Cond.static yX1_mean, Cond.code yX1_mean cX1_mean 2 (some .int)]
def wsX1_seenByShutter : List Cond := .code yX1_seenByShutter cX1_seenByShutter 2 (some .long) :: ((wsX1_seenByShutter_r1 ++ (wsX1_seenByShutter_r2 ++ wsX1_seenByShutter_r3)) ++ wsX10)
def wsX1_wrong : List Cond := .code yX1_wrong cX1_wrong 4 (some .long) :: ([.fieldLink RX1 18 "PhosphorHush$Screen" "pictures" "[J"] ++ wsX10)
def wsJ7_fill_53178 : List Cond := .code yJ7_fill_53178 cJ7_fill_53178 4 none :: ([])
def wsX1_countSeen_r1 : List Cond := [Cond.fieldLink RX1 18 "PhosphorHush$Screen" "pictures" "[J", Cond.fieldLink RX1 22 "PhosphorHush$Screen" "settings" "[I", Cond.static yX4_bit, Cond.initialized RX4, Cond.code yX4_bit cX4_bit 3 (some .int), Cond.methodLink RX1 89 yX1_litTick, Cond.instanceMethod yX1_litTick, Cond.selects RX1 yX1_litTick yX1_litTick, Cond.initialized RX1, Cond.code yX1_litTick cX1_litTick 3 (some .int), Cond.methodLink RX1 48 yX1_positionOf, Cond.instanceMethod yX1_positionOf, Cond.selects RX1 yX1_positionOf yX1_positionOf, Cond.code yX1_positionOf cX1_positionOf 3 (some .int), Cond.fieldLink RX1 31 "PhosphorHush$Screen" "size" "I", Cond.fieldLink RX1 15 "PhosphorHush$Screen" "order" "[I", Cond.methodLink RX1 83 yX1_arrival, Cond.instanceMethod yX1_arrival, Cond.selects RX1 yX1_arrival yX1_arrival, Cond.code yX1_arrival cX1_arrival 5 (some .int), Cond.static yX4_way, Cond.code yX4_way cX4_way 2 (some .int), Cond.methodLink RX4 208 Lib.Math.abs.name, Cond.static Lib.Math.abs.name]
def wsX1_countSeen_r2 : List Cond := [Cond.initialized "java/lang/Math", Cond.code Lib.Math.abs.name Lib.Math.abs.code 1 (some .int), Cond.methodLink RX1 98 yX1_sumOver, Cond.instanceMethod yX1_sumOver, Cond.selects RX1 yX1_sumOver yX1_sumOver, Cond.code yX1_sumOver cX1_sumOver 8 (some .int), Cond.methodLink RX1 92 yX1_shine, Cond.instanceMethod yX1_shine, Cond.selects RX1 yX1_shine yX1_shine, Cond.code yX1_shine cX1_shine 5 (some .int), Cond.fieldLink RX1 9 "PhosphorHush$Screen" "phosphors" "[I", Cond.static yX4_glow, Cond.code yX4_glow cX4_glow 2 (some .int), Cond.methodLink RX4 200 Lib.Math.max.name, Cond.static Lib.Math.max.name, Cond.code Lib.Math.max.name Lib.Math.max.code 2 (some .int), Cond.methodLink RX1 95 yX1_next, Cond.instanceMethod yX1_next, Cond.selects RX1 yX1_next yX1_next, Cond.code yX1_next cX1_next 2 (some .int), Cond.methodLink RX1 101 yX1_mean, Cond.static yX1_mean, Cond.code yX1_mean cX1_mean 2 (some .int)]
def wsX1_countSeen : List Cond := .code yX1_countSeen cX1_countSeen 9 none :: ((wsX1_countSeen_r1 ++ wsX1_countSeen_r2) ++ wsX10)
def wsX1_countWrong_r1 : List Cond := [Cond.fieldLink RX1 18 "PhosphorHush$Screen" "pictures" "[J", Cond.fieldLink RX1 31 "PhosphorHush$Screen" "size" "I", Cond.fieldLink RX1 15 "PhosphorHush$Screen" "order" "[I", Cond.methodLink RX1 77 yJ13_bitCount_95d88, Cond.static yJ13_bitCount_95d88, Cond.initialized RJ13, Cond.code yJ13_bitCount_95d88 cJ13_bitCount_95d88 2 (some .int), Cond.constantLong RJ13 314 (6148914691236517205), Cond.constantLong RJ13 316 (3689348814741910323), Cond.constantLong RJ13 318 (1085102592571150095), Cond.methodLink RX1 119 yJ7_fill_53178, Cond.static yJ7_fill_53178, Cond.initialized RJ7, Cond.code yJ7_fill_53178 cJ7_fill_53178 4 none, Cond.methodLink RX1 125 yX1_countSeen, Cond.instanceMethod yX1_countSeen, Cond.selects RX1 yX1_countSeen yX1_countSeen, Cond.initialized RX1, Cond.code yX1_countSeen cX1_countSeen 9 none, Cond.fieldLink RX1 22 "PhosphorHush$Screen" "settings" "[I", Cond.static yX4_bit, Cond.initialized RX4, Cond.code yX4_bit cX4_bit 3 (some .int), Cond.methodLink RX1 89 yX1_litTick]
def wsX1_countWrong_r2 : List Cond := [Cond.instanceMethod yX1_litTick, Cond.selects RX1 yX1_litTick yX1_litTick, Cond.code yX1_litTick cX1_litTick 3 (some .int), Cond.methodLink RX1 48 yX1_positionOf, Cond.instanceMethod yX1_positionOf, Cond.selects RX1 yX1_positionOf yX1_positionOf, Cond.code yX1_positionOf cX1_positionOf 3 (some .int), Cond.methodLink RX1 83 yX1_arrival, Cond.instanceMethod yX1_arrival, Cond.selects RX1 yX1_arrival yX1_arrival, Cond.code yX1_arrival cX1_arrival 5 (some .int), Cond.static yX4_way, Cond.code yX4_way cX4_way 2 (some .int), Cond.methodLink RX4 208 Lib.Math.abs.name, Cond.static Lib.Math.abs.name, Cond.initialized "java/lang/Math", Cond.code Lib.Math.abs.name Lib.Math.abs.code 1 (some .int), Cond.methodLink RX1 98 yX1_sumOver, Cond.instanceMethod yX1_sumOver, Cond.selects RX1 yX1_sumOver yX1_sumOver, Cond.code yX1_sumOver cX1_sumOver 8 (some .int), Cond.methodLink RX1 92 yX1_shine, Cond.instanceMethod yX1_shine, Cond.selects RX1 yX1_shine yX1_shine]
def wsX1_countWrong_r3 : List Cond := [Cond.code yX1_shine cX1_shine 5 (some .int), Cond.fieldLink RX1 9 "PhosphorHush$Screen" "phosphors" "[I", Cond.static yX4_glow, Cond.code yX4_glow cX4_glow 2 (some .int), Cond.methodLink RX4 200 Lib.Math.max.name, Cond.static Lib.Math.max.name, Cond.code Lib.Math.max.name Lib.Math.max.code 2 (some .int), Cond.methodLink RX1 95 yX1_next, Cond.instanceMethod yX1_next, Cond.selects RX1 yX1_next yX1_next, Cond.code yX1_next cX1_next 2 (some .int), Cond.methodLink RX1 101 yX1_mean, Cond.static yX1_mean, Cond.code yX1_mean cX1_mean 2 (some .int)]
def wsX1_countWrong : List Cond := .code yX1_countWrong cX1_countWrong 3 none :: ((wsX1_countWrong_r1 ++ (wsX1_countWrong_r2 ++ wsX1_countWrong_r3)) ++ wsX10)
def wsX2_init : List Cond := .code yX2_init cX2_init 2 none :: ([.methodLink RX2 3 objectInit, .instanceMethod objectInit, .code objectInit ⟨#[0xb1]⟩ 1 none, .classLink RX2 9 RX1, .instantiable RX1 5, .initialized RX1, .fieldLink RX2 12 "PhosphorHush$State" "shown" "LPhosphorHush$Screen;", .fieldLink RX2 18 "PhosphorHush$State" "slots" "[LPhosphorHush$Screen;", .arrayClass .boolean, .fieldLink RX2 22 "PhosphorHush$State" "taken" "[Z", .instanceMethod yX1_init, .code yX1_init cX1_init 1 none, .methodLink RX1 3 objectInit, .arrayClass .int, .fieldLink RX1 9 "PhosphorHush$Screen" "phosphors" "[I", .fieldLink RX1 15 "PhosphorHush$Screen" "order" "[I", .arrayClass .long, .fieldLink RX1 18 "PhosphorHush$Screen" "pictures" "[J", .fieldLink RX1 22 "PhosphorHush$Screen" "settings" "[I"] ++ wsX10 ++ wsX20)
def wsX2_copyFrom : List Cond := .code yX2_copyFrom cX2_copyFrom 3 none :: ([.fieldLink RX2 12 "PhosphorHush$State" "shown" "LPhosphorHush$Screen;", .fieldLink RX2 18 "PhosphorHush$State" "slots" "[LPhosphorHush$Screen;", .fieldLink RX2 22 "PhosphorHush$State" "taken" "[Z", .methodLink RX2 26 yX1_copyFrom, .instanceMethod yX1_copyFrom, .selects RX1 yX1_copyFrom yX1_copyFrom, .initialized RX1, .code yX1_copyFrom cX1_copyFrom 2 none, .fieldLink RX1 9 "PhosphorHush$Screen" "phosphors" "[I", .methodLink RX1 25 arraycopyName, .native arraycopyName, .static arraycopyName, .initialized "java/lang/System", .fieldLink RX1 15 "PhosphorHush$Screen" "order" "[I", .fieldLink RX1 31 "PhosphorHush$Screen" "size" "I", .fieldLink RX1 18 "PhosphorHush$Screen" "pictures" "[J", .fieldLink RX1 22 "PhosphorHush$Screen" "settings" "[I"] ++ wsX20 ++ wsX10)
def wsX2_isSlot : List Cond := .code yX2_isSlot cX2_isSlot 1 (some .boolean) :: ([])
def wsX2_keepSnapshot : List Cond := .code yX2_keepSnapshot cX2_keepSnapshot 2 (some .int) :: ([.fieldLink RX2 18 "PhosphorHush$State" "slots" "[LPhosphorHush$Screen;", .fieldLink RX2 12 "PhosphorHush$State" "shown" "LPhosphorHush$Screen;", .fieldLink RX2 22 "PhosphorHush$State" "taken" "[Z", .fieldLink RX2 34 "PhosphorHush$Screen" "size" "I", .methodLink RX2 30 yX2_isSlot, .static yX2_isSlot, .initialized RX2, .code yX2_isSlot cX2_isSlot 1 (some .boolean), .methodLink RX2 26 yX1_copyFrom, .instanceMethod yX1_copyFrom, .selects RX1 yX1_copyFrom yX1_copyFrom, .initialized RX1, .code yX1_copyFrom cX1_copyFrom 2 none, .fieldLink RX1 9 "PhosphorHush$Screen" "phosphors" "[I", .methodLink RX1 25 arraycopyName, .native arraycopyName, .static arraycopyName, .initialized "java/lang/System", .fieldLink RX1 15 "PhosphorHush$Screen" "order" "[I", .fieldLink RX1 31 "PhosphorHush$Screen" "size" "I", .fieldLink RX1 18 "PhosphorHush$Screen" "pictures" "[J", .fieldLink RX1 22 "PhosphorHush$Screen" "settings" "[I"] ++ wsX20 ++ wsX10)
def wsX2_showSnapshot : List Cond := .code yX2_showSnapshot cX2_showSnapshot 2 (some .int) :: ([.fieldLink RX2 22 "PhosphorHush$State" "taken" "[Z", .fieldLink RX2 12 "PhosphorHush$State" "shown" "LPhosphorHush$Screen;", .fieldLink RX2 18 "PhosphorHush$State" "slots" "[LPhosphorHush$Screen;", .fieldLink RX2 34 "PhosphorHush$Screen" "size" "I", .methodLink RX2 30 yX2_isSlot, .static yX2_isSlot, .initialized RX2, .code yX2_isSlot cX2_isSlot 1 (some .boolean), .methodLink RX2 26 yX1_copyFrom, .instanceMethod yX1_copyFrom, .selects RX1 yX1_copyFrom yX1_copyFrom, .initialized RX1, .code yX1_copyFrom cX1_copyFrom 2 none, .fieldLink RX1 9 "PhosphorHush$Screen" "phosphors" "[I", .methodLink RX1 25 arraycopyName, .native arraycopyName, .static arraycopyName, .initialized "java/lang/System", .fieldLink RX1 15 "PhosphorHush$Screen" "order" "[I", .fieldLink RX1 31 "PhosphorHush$Screen" "size" "I", .fieldLink RX1 18 "PhosphorHush$Screen" "pictures" "[J", .fieldLink RX1 22 "PhosphorHush$Screen" "settings" "[I"] ++ wsX20 ++ wsX10)
def wsX2_snapshots : List Cond := .code yX2_snapshots cX2_snapshots 3 (some .int) :: ([.fieldLink RX2 22 "PhosphorHush$State" "taken" "[Z"] ++ wsX20)
def wsX3_init : List Cond := .code yX3_init cX3_init 1 none :: ([.methodLink RX3 3 objectInit, .instanceMethod objectInit, .code objectInit ⟨#[0xb1]⟩ 1 none, .arrayClass .int, .fieldLink RX3 9 "PhosphorHush$Travel" "spots" "[I", .constant RX3 15 (49152), .fieldLink RX3 16 "PhosphorHush$Travel" "rest" "[I", .fieldLink RX3 19 "PhosphorHush$Travel" "stops" "[I"] ++ wsX30)
def wsX3_listSpots : List Cond := .code yX3_listSpots cX3_listSpots 2 none :: ([.fieldLink RX3 39 "PhosphorHush$Travel" "size" "I", .fieldLink RX3 22 "PhosphorHush$Travel" "planned" "J", .fieldLink RX3 9 "PhosphorHush$Travel" "spots" "[I", .static yX4_bit, .initialized RX4, .code yX4_bit cX4_bit 3 (some .int)] ++ wsX30)
def wsX3_travelBy : List Cond := .code yX3_travelBy cX3_travelBy 4 (some .int) :: ([.fieldLink RX3 9 "PhosphorHush$Travel" "spots" "[I", .fieldLink RX3 16 "PhosphorHush$Travel" "rest" "[I", .static yX4_way, .initialized RX4, .code yX4_way cX4_way 2 (some .int), .methodLink RX4 208 Lib.Math.abs.name, .static Lib.Math.abs.name, .initialized "java/lang/Math", .code Lib.Math.abs.name Lib.Math.abs.code 1 (some .int)] ++ wsX30)
def wsX3_bestStep : List Cond := .code yX3_bestStep cX3_bestStep 7 (some .int) :: ([.fieldLink RX3 39 "PhosphorHush$Travel" "size" "I", .methodLink RX3 53 yX3_travelBy, .instanceMethod yX3_travelBy, .selects RX3 yX3_travelBy yX3_travelBy, .initialized RX3, .code yX3_travelBy cX3_travelBy 4 (some .int), .fieldLink RX3 9 "PhosphorHush$Travel" "spots" "[I", .fieldLink RX3 16 "PhosphorHush$Travel" "rest" "[I", .static yX4_way, .initialized RX4, .code yX4_way cX4_way 2 (some .int), .methodLink RX4 208 Lib.Math.abs.name, .static Lib.Math.abs.name, .initialized "java/lang/Math", .code Lib.Math.abs.name Lib.Math.abs.code 1 (some .int)] ++ wsX30)
def wsX3_leastFrom : List Cond := .code yX3_leastFrom cX3_leastFrom 4 (some .int) :: ([.methodLink RX3 50 yX3_bestStep, .instanceMethod yX3_bestStep, .selects RX3 yX3_bestStep yX3_bestStep, .initialized RX3, .code yX3_bestStep cX3_bestStep 7 (some .int), .fieldLink RX3 39 "PhosphorHush$Travel" "size" "I", .methodLink RX3 53 yX3_travelBy, .instanceMethod yX3_travelBy, .selects RX3 yX3_travelBy yX3_travelBy, .code yX3_travelBy cX3_travelBy 4 (some .int), .fieldLink RX3 9 "PhosphorHush$Travel" "spots" "[I", .fieldLink RX3 16 "PhosphorHush$Travel" "rest" "[I", .static yX4_way, .initialized RX4, .code yX4_way cX4_way 2 (some .int), .methodLink RX4 208 Lib.Math.abs.name, .static Lib.Math.abs.name, .initialized "java/lang/Math", .code Lib.Math.abs.name Lib.Math.abs.code 1 (some .int)] ++ wsX30)
def wsX3_fillRest : List Cond := .code yX3_fillRest cX3_fillRest 3 none :: ([.fieldLink RX3 39 "PhosphorHush$Travel" "size" "I", .fieldLink RX3 16 "PhosphorHush$Travel" "rest" "[I", .fieldLink RX3 9 "PhosphorHush$Travel" "spots" "[I", .methodLink RX3 46 yX3_leastFrom, .instanceMethod yX3_leastFrom, .selects RX3 yX3_leastFrom yX3_leastFrom, .initialized RX3, .code yX3_leastFrom cX3_leastFrom 4 (some .int), .methodLink RX3 50 yX3_bestStep, .instanceMethod yX3_bestStep, .selects RX3 yX3_bestStep yX3_bestStep, .code yX3_bestStep cX3_bestStep 7 (some .int), .methodLink RX3 53 yX3_travelBy, .instanceMethod yX3_travelBy, .selects RX3 yX3_travelBy yX3_travelBy, .code yX3_travelBy cX3_travelBy 4 (some .int), .static yX4_way, .initialized RX4, .code yX4_way cX4_way 2 (some .int), .methodLink RX4 208 Lib.Math.abs.name, .static Lib.Math.abs.name, .initialized "java/lang/Math", .code Lib.Math.abs.name Lib.Math.abs.code 1 (some .int)] ++ wsX30)
def wsX3_follow : List Cond := .code yX3_follow cX3_follow 5 none :: ([.fieldLink RX3 35 "PhosphorHush$Travel" "sum" "I", .fieldLink RX3 39 "PhosphorHush$Travel" "size" "I", .fieldLink RX3 19 "PhosphorHush$Travel" "stops" "[I", .fieldLink RX3 9 "PhosphorHush$Travel" "spots" "[I", .methodLink RX3 50 yX3_bestStep, .instanceMethod yX3_bestStep, .selects RX3 yX3_bestStep yX3_bestStep, .initialized RX3, .code yX3_bestStep cX3_bestStep 7 (some .int), .methodLink RX3 53 yX3_travelBy, .instanceMethod yX3_travelBy, .selects RX3 yX3_travelBy yX3_travelBy, .code yX3_travelBy cX3_travelBy 4 (some .int), .fieldLink RX3 16 "PhosphorHush$Travel" "rest" "[I", .static yX4_way, .initialized RX4, .code yX4_way cX4_way 2 (some .int), .methodLink RX4 208 Lib.Math.abs.name, .static Lib.Math.abs.name, .initialized "java/lang/Math", .code Lib.Math.abs.name Lib.Math.abs.code 1 (some .int)] ++ wsX30)
def wsX3_plan_r1 : List Cond := [Cond.fieldLink RX3 22 "PhosphorHush$Travel" "planned" "J", Cond.methodLink RX3 26 yX3_listSpots, Cond.instanceMethod yX3_listSpots, Cond.selects RX3 yX3_listSpots yX3_listSpots, Cond.initialized RX3, Cond.code yX3_listSpots cX3_listSpots 2 none, Cond.fieldLink RX3 39 "PhosphorHush$Travel" "size" "I", Cond.fieldLink RX3 9 "PhosphorHush$Travel" "spots" "[I", Cond.static yX4_bit, Cond.initialized RX4, Cond.code yX4_bit cX4_bit 3 (some .int), Cond.methodLink RX3 29 yX3_fillRest, Cond.instanceMethod yX3_fillRest, Cond.selects RX3 yX3_fillRest yX3_fillRest, Cond.code yX3_fillRest cX3_fillRest 3 none, Cond.fieldLink RX3 16 "PhosphorHush$Travel" "rest" "[I", Cond.methodLink RX3 46 yX3_leastFrom, Cond.instanceMethod yX3_leastFrom, Cond.selects RX3 yX3_leastFrom yX3_leastFrom, Cond.code yX3_leastFrom cX3_leastFrom 4 (some .int), Cond.methodLink RX3 50 yX3_bestStep, Cond.instanceMethod yX3_bestStep, Cond.selects RX3 yX3_bestStep yX3_bestStep, Cond.code yX3_bestStep cX3_bestStep 7 (some .int)]
def wsX3_plan_r2 : List Cond := [Cond.methodLink RX3 53 yX3_travelBy, Cond.instanceMethod yX3_travelBy, Cond.selects RX3 yX3_travelBy yX3_travelBy, Cond.code yX3_travelBy cX3_travelBy 4 (some .int), Cond.static yX4_way, Cond.code yX4_way cX4_way 2 (some .int), Cond.methodLink RX4 208 Lib.Math.abs.name, Cond.static Lib.Math.abs.name, Cond.initialized "java/lang/Math", Cond.code Lib.Math.abs.name Lib.Math.abs.code 1 (some .int), Cond.methodLink RX3 32 yX3_follow, Cond.instanceMethod yX3_follow, Cond.selects RX3 yX3_follow yX3_follow, Cond.code yX3_follow cX3_follow 5 none, Cond.fieldLink RX3 35 "PhosphorHush$Travel" "sum" "I", Cond.fieldLink RX3 19 "PhosphorHush$Travel" "stops" "[I"]
def wsX3_plan : List Cond := .code yX3_plan cX3_plan 3 none :: ((wsX3_plan_r1 ++ wsX3_plan_r2) ++ wsX30)
def wsX3_sumOfWays : List Cond := .code yX3_sumOfWays cX3_sumOfWays 1 (some .int) :: ([.fieldLink RX3 35 "PhosphorHush$Travel" "sum" "I"] ++ wsX30)
def wsX3_stop : List Cond := .code yX3_stop cX3_stop 2 (some .int) :: ([.fieldLink RX3 39 "PhosphorHush$Travel" "size" "I", .fieldLink RX3 19 "PhosphorHush$Travel" "stops" "[I"] ++ wsX30)
def wsX4_init_r1 : List Cond := [Cond.methodLink RX4 1 objectInit, Cond.instanceMethod objectInit, Cond.code objectInit ⟨#[0xb1]⟩ 1 none, Cond.classLink RX4 7 RX2, Cond.instantiable RX2 3, Cond.initialized RX2, Cond.fieldLink RX4 10 "PhosphorHush" "now" "LPhosphorHush$State;", Cond.fieldLink RX4 16 "PhosphorHush" "history" "[LPhosphorHush$State;", Cond.classLink RX4 20 RX0, Cond.instantiable RX0 4, Cond.initialized RX0, Cond.fieldLink RX4 23 "PhosphorHush" "program" "LPhosphorHush$Program;", Cond.classLink RX4 27 RX3, Cond.instantiable RX3 6, Cond.initialized RX3, Cond.fieldLink RX4 30 "PhosphorHush" "travel" "LPhosphorHush$Travel;", Cond.arrayClass .int, Cond.fieldLink RX4 34 "PhosphorHush" "wrongAt" "[I", Cond.methodLink RX4 9 yX2_init, Cond.instanceMethod yX2_init, Cond.code yX2_init cX2_init 2 none, Cond.methodLink RX2 3 objectInit, Cond.classLink RX2 9 RX1, Cond.instantiable RX1 5]
def wsX4_init_r2 : List Cond := [Cond.initialized RX1, Cond.fieldLink RX2 12 "PhosphorHush$State" "shown" "LPhosphorHush$Screen;", Cond.fieldLink RX2 18 "PhosphorHush$State" "slots" "[LPhosphorHush$Screen;", Cond.arrayClass .boolean, Cond.fieldLink RX2 22 "PhosphorHush$State" "taken" "[Z", Cond.instanceMethod yX1_init, Cond.code yX1_init cX1_init 1 none, Cond.methodLink RX1 3 objectInit, Cond.fieldLink RX1 9 "PhosphorHush$Screen" "phosphors" "[I", Cond.fieldLink RX1 15 "PhosphorHush$Screen" "order" "[I", Cond.arrayClass .long, Cond.fieldLink RX1 18 "PhosphorHush$Screen" "pictures" "[J", Cond.fieldLink RX1 22 "PhosphorHush$Screen" "settings" "[I", Cond.instanceMethod yX0_init, Cond.code yX0_init cX0_init 1 none, Cond.methodLink RX0 3 objectInit, Cond.arrayClass .char, Cond.fieldLink RX0 9 "PhosphorHush$Program" "text" "[C", Cond.fieldLink RX0 15 "PhosphorHush$Program" "numbers" "[I", Cond.instanceMethod yX3_init, Cond.code yX3_init cX3_init 1 none, Cond.methodLink RX3 3 objectInit, Cond.fieldLink RX3 9 "PhosphorHush$Travel" "spots" "[I", Cond.constant RX3 15 (49152)]
def wsX4_init_r3 : List Cond := [Cond.fieldLink RX3 16 "PhosphorHush$Travel" "rest" "[I", Cond.fieldLink RX3 19 "PhosphorHush$Travel" "stops" "[I"]
def wsX4_init : List Cond := .code yX4_init cX4_init 2 none :: ((wsX4_init_r1 ++ (wsX4_init_r2 ++ wsX4_init_r3)) ++ wsX20 ++ wsX40 ++ wsX00 ++ wsX30 ++ wsX10)
def wsX4_prepare_r1 : List Cond := [Cond.fieldLink RX4 16 "PhosphorHush" "history" "[LPhosphorHush$State;", Cond.fieldLink RX4 80 "PhosphorHush" "kept" "I", Cond.fieldLink RX4 10 "PhosphorHush" "now" "LPhosphorHush$State;", Cond.methodLink RX4 84 yX2_copyFrom, Cond.instanceMethod yX2_copyFrom, Cond.selects RX2 yX2_copyFrom yX2_copyFrom, Cond.initialized RX2, Cond.code yX2_copyFrom cX2_copyFrom 3 none, Cond.fieldLink RX2 12 "PhosphorHush$State" "shown" "LPhosphorHush$Screen;", Cond.fieldLink RX2 18 "PhosphorHush$State" "slots" "[LPhosphorHush$Screen;", Cond.fieldLink RX2 22 "PhosphorHush$State" "taken" "[Z", Cond.methodLink RX2 26 yX1_copyFrom, Cond.instanceMethod yX1_copyFrom, Cond.selects RX1 yX1_copyFrom yX1_copyFrom, Cond.initialized RX1, Cond.code yX1_copyFrom cX1_copyFrom 2 none, Cond.fieldLink RX1 9 "PhosphorHush$Screen" "phosphors" "[I", Cond.methodLink RX1 25 arraycopyName, Cond.native arraycopyName, Cond.static arraycopyName, Cond.initialized "java/lang/System", Cond.fieldLink RX1 15 "PhosphorHush$Screen" "order" "[I", Cond.fieldLink RX1 31 "PhosphorHush$Screen" "size" "I", Cond.fieldLink RX1 18 "PhosphorHush$Screen" "pictures" "[J"]
def wsX4_prepare_r2 : List Cond := [Cond.fieldLink RX1 22 "PhosphorHush$Screen" "settings" "[I"]
def wsX4_prepare : List Cond := .code yX4_prepare cX4_prepare 1 none :: ((wsX4_prepare_r1 ++ wsX4_prepare_r2) ++ wsX40 ++ wsX20 ++ wsX10)
def wsX4_dropOldest : List Cond := .code yX4_dropOldest cX4_dropOldest 3 none :: ([.fieldLink RX4 16 "PhosphorHush" "history" "[LPhosphorHush$State;"] ++ wsX40)
def wsX4_finish : List Cond := .code yX4_finish cX4_finish 2 (some .int) :: ([.fieldLink RX4 80 "PhosphorHush" "kept" "I", .methodLink RX4 205 yX4_dropOldest, .instanceMethod yX4_dropOldest, .selects RX4 yX4_dropOldest yX4_dropOldest, .initialized RX4, .code yX4_dropOldest cX4_dropOldest 3 none, .fieldLink RX4 16 "PhosphorHush" "history" "[LPhosphorHush$State;"] ++ wsX40)
def wsX4_set_r1 : List Cond := [Cond.fieldLink RX4 10 "PhosphorHush" "now" "LPhosphorHush$State;", Cond.fieldLink RX4 41 "PhosphorHush$State" "shown" "LPhosphorHush$Screen;", Cond.methodLink RX4 38 yX4_prepare, Cond.instanceMethod yX4_prepare, Cond.selects RX4 yX4_prepare yX4_prepare, Cond.initialized RX4, Cond.code yX4_prepare cX4_prepare 1 none, Cond.fieldLink RX4 16 "PhosphorHush" "history" "[LPhosphorHush$State;", Cond.fieldLink RX4 80 "PhosphorHush" "kept" "I", Cond.methodLink RX4 84 yX2_copyFrom, Cond.instanceMethod yX2_copyFrom, Cond.selects RX2 yX2_copyFrom yX2_copyFrom, Cond.initialized RX2, Cond.code yX2_copyFrom cX2_copyFrom 3 none, Cond.fieldLink RX2 12 "PhosphorHush$State" "shown" "LPhosphorHush$Screen;", Cond.fieldLink RX2 18 "PhosphorHush$State" "slots" "[LPhosphorHush$Screen;", Cond.fieldLink RX2 22 "PhosphorHush$State" "taken" "[Z", Cond.methodLink RX2 26 yX1_copyFrom, Cond.instanceMethod yX1_copyFrom, Cond.selects RX1 yX1_copyFrom yX1_copyFrom, Cond.initialized RX1, Cond.code yX1_copyFrom cX1_copyFrom 2 none, Cond.fieldLink RX1 9 "PhosphorHush$Screen" "phosphors" "[I", Cond.methodLink RX1 25 arraycopyName]
def wsX4_set_r2 : List Cond := [Cond.native arraycopyName, Cond.static arraycopyName, Cond.initialized "java/lang/System", Cond.fieldLink RX1 15 "PhosphorHush$Screen" "order" "[I", Cond.fieldLink RX1 31 "PhosphorHush$Screen" "size" "I", Cond.fieldLink RX1 18 "PhosphorHush$Screen" "pictures" "[J", Cond.fieldLink RX1 22 "PhosphorHush$Screen" "settings" "[I", Cond.methodLink RX4 45 yX1_putSetting, Cond.instanceMethod yX1_putSetting, Cond.selects RX1 yX1_putSetting yX1_putSetting, Cond.code yX1_putSetting cX1_putSetting 4 (some .int), Cond.fieldLink RX1 35 "PhosphorHush$Screen" "LEAST" "[I", Cond.fieldLink RX1 38 "PhosphorHush$Screen" "MOST" "[I", Cond.methodLink RX4 51 yX4_finish, Cond.instanceMethod yX4_finish, Cond.selects RX4 yX4_finish yX4_finish, Cond.code yX4_finish cX4_finish 2 (some .int), Cond.methodLink RX4 205 yX4_dropOldest, Cond.instanceMethod yX4_dropOldest, Cond.selects RX4 yX4_dropOldest yX4_dropOldest, Cond.code yX4_dropOldest cX4_dropOldest 3 none]
def wsX4_set : List Cond := .code yX4_set cX4_set 3 (some .int) :: ((wsX4_set_r1 ++ wsX4_set_r2) ++ wsX40 ++ wsX20 ++ wsX10)
def wsX4_setPhosphor_r1 : List Cond := [Cond.fieldLink RX4 10 "PhosphorHush" "now" "LPhosphorHush$State;", Cond.fieldLink RX4 41 "PhosphorHush$State" "shown" "LPhosphorHush$Screen;", Cond.methodLink RX4 38 yX4_prepare, Cond.instanceMethod yX4_prepare, Cond.selects RX4 yX4_prepare yX4_prepare, Cond.initialized RX4, Cond.code yX4_prepare cX4_prepare 1 none, Cond.fieldLink RX4 16 "PhosphorHush" "history" "[LPhosphorHush$State;", Cond.fieldLink RX4 80 "PhosphorHush" "kept" "I", Cond.methodLink RX4 84 yX2_copyFrom, Cond.instanceMethod yX2_copyFrom, Cond.selects RX2 yX2_copyFrom yX2_copyFrom, Cond.initialized RX2, Cond.code yX2_copyFrom cX2_copyFrom 3 none, Cond.fieldLink RX2 12 "PhosphorHush$State" "shown" "LPhosphorHush$Screen;", Cond.fieldLink RX2 18 "PhosphorHush$State" "slots" "[LPhosphorHush$Screen;", Cond.fieldLink RX2 22 "PhosphorHush$State" "taken" "[Z", Cond.methodLink RX2 26 yX1_copyFrom, Cond.instanceMethod yX1_copyFrom, Cond.selects RX1 yX1_copyFrom yX1_copyFrom, Cond.initialized RX1, Cond.code yX1_copyFrom cX1_copyFrom 2 none, Cond.fieldLink RX1 9 "PhosphorHush$Screen" "phosphors" "[I", Cond.methodLink RX1 25 arraycopyName]
def wsX4_setPhosphor_r2 : List Cond := [Cond.native arraycopyName, Cond.static arraycopyName, Cond.initialized "java/lang/System", Cond.fieldLink RX1 15 "PhosphorHush$Screen" "order" "[I", Cond.fieldLink RX1 31 "PhosphorHush$Screen" "size" "I", Cond.fieldLink RX1 18 "PhosphorHush$Screen" "pictures" "[J", Cond.fieldLink RX1 22 "PhosphorHush$Screen" "settings" "[I", Cond.methodLink RX4 55 yX1_putPhosphor, Cond.instanceMethod yX1_putPhosphor, Cond.selects RX1 yX1_putPhosphor yX1_putPhosphor, Cond.code yX1_putPhosphor cX1_putPhosphor 4 (some .int), Cond.static yX4_isSpot, Cond.code yX4_isSpot cX4_isSpot 1 (some .boolean), Cond.static yX4_isPhosphor, Cond.code yX4_isPhosphor cX4_isPhosphor 1 (some .boolean), Cond.methodLink RX4 51 yX4_finish, Cond.instanceMethod yX4_finish, Cond.selects RX4 yX4_finish yX4_finish, Cond.code yX4_finish cX4_finish 2 (some .int), Cond.methodLink RX4 205 yX4_dropOldest, Cond.instanceMethod yX4_dropOldest, Cond.selects RX4 yX4_dropOldest yX4_dropOldest, Cond.code yX4_dropOldest cX4_dropOldest 3 none]
def wsX4_setPhosphor : List Cond := .code yX4_setPhosphor cX4_setPhosphor 3 (some .int) :: ((wsX4_setPhosphor_r1 ++ wsX4_setPhosphor_r2) ++ wsX40 ++ wsX20 ++ wsX10)
def wsX4_light_r1 : List Cond := [Cond.fieldLink RX4 10 "PhosphorHush" "now" "LPhosphorHush$State;", Cond.fieldLink RX4 41 "PhosphorHush$State" "shown" "LPhosphorHush$Screen;", Cond.methodLink RX4 38 yX4_prepare, Cond.instanceMethod yX4_prepare, Cond.selects RX4 yX4_prepare yX4_prepare, Cond.initialized RX4, Cond.code yX4_prepare cX4_prepare 1 none, Cond.fieldLink RX4 16 "PhosphorHush" "history" "[LPhosphorHush$State;", Cond.fieldLink RX4 80 "PhosphorHush" "kept" "I", Cond.methodLink RX4 84 yX2_copyFrom, Cond.instanceMethod yX2_copyFrom, Cond.selects RX2 yX2_copyFrom yX2_copyFrom, Cond.initialized RX2, Cond.code yX2_copyFrom cX2_copyFrom 3 none, Cond.fieldLink RX2 12 "PhosphorHush$State" "shown" "LPhosphorHush$Screen;", Cond.fieldLink RX2 18 "PhosphorHush$State" "slots" "[LPhosphorHush$Screen;", Cond.fieldLink RX2 22 "PhosphorHush$State" "taken" "[Z", Cond.methodLink RX2 26 yX1_copyFrom, Cond.instanceMethod yX1_copyFrom, Cond.selects RX1 yX1_copyFrom yX1_copyFrom, Cond.initialized RX1, Cond.code yX1_copyFrom cX1_copyFrom 2 none, Cond.fieldLink RX1 9 "PhosphorHush$Screen" "phosphors" "[I", Cond.methodLink RX1 25 arraycopyName]
def wsX4_light_r2 : List Cond := [Cond.native arraycopyName, Cond.static arraycopyName, Cond.initialized "java/lang/System", Cond.fieldLink RX1 15 "PhosphorHush$Screen" "order" "[I", Cond.fieldLink RX1 31 "PhosphorHush$Screen" "size" "I", Cond.fieldLink RX1 18 "PhosphorHush$Screen" "pictures" "[J", Cond.fieldLink RX1 22 "PhosphorHush$Screen" "settings" "[I", Cond.methodLink RX4 58 yX1_addSpot, Cond.instanceMethod yX1_addSpot, Cond.selects RX1 yX1_addSpot yX1_addSpot, Cond.code yX1_addSpot cX1_addSpot 2 (some .int), Cond.static yX4_isSpot, Cond.code yX4_isSpot cX4_isSpot 1 (some .boolean), Cond.methodLink RX1 48 yX1_positionOf, Cond.instanceMethod yX1_positionOf, Cond.selects RX1 yX1_positionOf yX1_positionOf, Cond.code yX1_positionOf cX1_positionOf 3 (some .int), Cond.methodLink RX4 51 yX4_finish, Cond.instanceMethod yX4_finish, Cond.selects RX4 yX4_finish yX4_finish, Cond.code yX4_finish cX4_finish 2 (some .int), Cond.methodLink RX4 205 yX4_dropOldest, Cond.instanceMethod yX4_dropOldest, Cond.selects RX4 yX4_dropOldest yX4_dropOldest]
def wsX4_light_r3 : List Cond := [Cond.code yX4_dropOldest cX4_dropOldest 3 none]
def wsX4_light : List Cond := .code yX4_light cX4_light 2 (some .int) :: ((wsX4_light_r1 ++ (wsX4_light_r2 ++ wsX4_light_r3)) ++ wsX40 ++ wsX20 ++ wsX10)
def wsX4_darken_r1 : List Cond := [Cond.fieldLink RX4 10 "PhosphorHush" "now" "LPhosphorHush$State;", Cond.fieldLink RX4 41 "PhosphorHush$State" "shown" "LPhosphorHush$Screen;", Cond.methodLink RX4 38 yX4_prepare, Cond.instanceMethod yX4_prepare, Cond.selects RX4 yX4_prepare yX4_prepare, Cond.initialized RX4, Cond.code yX4_prepare cX4_prepare 1 none, Cond.fieldLink RX4 16 "PhosphorHush" "history" "[LPhosphorHush$State;", Cond.fieldLink RX4 80 "PhosphorHush" "kept" "I", Cond.methodLink RX4 84 yX2_copyFrom, Cond.instanceMethod yX2_copyFrom, Cond.selects RX2 yX2_copyFrom yX2_copyFrom, Cond.initialized RX2, Cond.code yX2_copyFrom cX2_copyFrom 3 none, Cond.fieldLink RX2 12 "PhosphorHush$State" "shown" "LPhosphorHush$Screen;", Cond.fieldLink RX2 18 "PhosphorHush$State" "slots" "[LPhosphorHush$Screen;", Cond.fieldLink RX2 22 "PhosphorHush$State" "taken" "[Z", Cond.methodLink RX2 26 yX1_copyFrom, Cond.instanceMethod yX1_copyFrom, Cond.selects RX1 yX1_copyFrom yX1_copyFrom, Cond.initialized RX1, Cond.code yX1_copyFrom cX1_copyFrom 2 none, Cond.fieldLink RX1 9 "PhosphorHush$Screen" "phosphors" "[I", Cond.methodLink RX1 25 arraycopyName]
def wsX4_darken_r2 : List Cond := [Cond.native arraycopyName, Cond.static arraycopyName, Cond.initialized "java/lang/System", Cond.fieldLink RX1 15 "PhosphorHush$Screen" "order" "[I", Cond.fieldLink RX1 31 "PhosphorHush$Screen" "size" "I", Cond.fieldLink RX1 18 "PhosphorHush$Screen" "pictures" "[J", Cond.fieldLink RX1 22 "PhosphorHush$Screen" "settings" "[I", Cond.methodLink RX4 61 yX1_removeSpot, Cond.instanceMethod yX1_removeSpot, Cond.selects RX1 yX1_removeSpot yX1_removeSpot, Cond.code yX1_removeSpot cX1_removeSpot 4 (some .int), Cond.static yX4_isSpot, Cond.code yX4_isSpot cX4_isSpot 1 (some .boolean), Cond.methodLink RX1 48 yX1_positionOf, Cond.instanceMethod yX1_positionOf, Cond.selects RX1 yX1_positionOf yX1_positionOf, Cond.code yX1_positionOf cX1_positionOf 3 (some .int), Cond.methodLink RX4 51 yX4_finish, Cond.instanceMethod yX4_finish, Cond.selects RX4 yX4_finish yX4_finish, Cond.code yX4_finish cX4_finish 2 (some .int), Cond.methodLink RX4 205 yX4_dropOldest, Cond.instanceMethod yX4_dropOldest, Cond.selects RX4 yX4_dropOldest yX4_dropOldest]
def wsX4_darken_r3 : List Cond := [Cond.code yX4_dropOldest cX4_dropOldest 3 none]
def wsX4_darken : List Cond := .code yX4_darken cX4_darken 2 (some .int) :: ((wsX4_darken_r1 ++ (wsX4_darken_r2 ++ wsX4_darken_r3)) ++ wsX40 ++ wsX20 ++ wsX10)
def wsX4_exchange_r1 : List Cond := [Cond.fieldLink RX4 10 "PhosphorHush" "now" "LPhosphorHush$State;", Cond.fieldLink RX4 41 "PhosphorHush$State" "shown" "LPhosphorHush$Screen;", Cond.methodLink RX4 38 yX4_prepare, Cond.instanceMethod yX4_prepare, Cond.selects RX4 yX4_prepare yX4_prepare, Cond.initialized RX4, Cond.code yX4_prepare cX4_prepare 1 none, Cond.fieldLink RX4 16 "PhosphorHush" "history" "[LPhosphorHush$State;", Cond.fieldLink RX4 80 "PhosphorHush" "kept" "I", Cond.methodLink RX4 84 yX2_copyFrom, Cond.instanceMethod yX2_copyFrom, Cond.selects RX2 yX2_copyFrom yX2_copyFrom, Cond.initialized RX2, Cond.code yX2_copyFrom cX2_copyFrom 3 none, Cond.fieldLink RX2 12 "PhosphorHush$State" "shown" "LPhosphorHush$Screen;", Cond.fieldLink RX2 18 "PhosphorHush$State" "slots" "[LPhosphorHush$Screen;", Cond.fieldLink RX2 22 "PhosphorHush$State" "taken" "[Z", Cond.methodLink RX2 26 yX1_copyFrom, Cond.instanceMethod yX1_copyFrom, Cond.selects RX1 yX1_copyFrom yX1_copyFrom, Cond.initialized RX1, Cond.code yX1_copyFrom cX1_copyFrom 2 none, Cond.fieldLink RX1 9 "PhosphorHush$Screen" "phosphors" "[I", Cond.methodLink RX1 25 arraycopyName]
def wsX4_exchange_r2 : List Cond := [Cond.native arraycopyName, Cond.static arraycopyName, Cond.initialized "java/lang/System", Cond.fieldLink RX1 15 "PhosphorHush$Screen" "order" "[I", Cond.fieldLink RX1 31 "PhosphorHush$Screen" "size" "I", Cond.fieldLink RX1 18 "PhosphorHush$Screen" "pictures" "[J", Cond.fieldLink RX1 22 "PhosphorHush$Screen" "settings" "[I", Cond.methodLink RX4 64 yX1_swapPositions, Cond.instanceMethod yX1_swapPositions, Cond.selects RX1 yX1_swapPositions yX1_swapPositions, Cond.code yX1_swapPositions cX1_swapPositions 3 (some .int), Cond.methodLink RX1 52 yX1_swap, Cond.instanceMethod yX1_swap, Cond.selects RX1 yX1_swap yX1_swap, Cond.code yX1_swap cX1_swap 4 none, Cond.methodLink RX1 56 yX1_litSize, Cond.instanceMethod yX1_litSize, Cond.selects RX1 yX1_litSize yX1_litSize, Cond.code yX1_litSize cX1_litSize 2 (some .int), Cond.methodLink RX1 83 yX1_arrival, Cond.instanceMethod yX1_arrival, Cond.selects RX1 yX1_arrival yX1_arrival, Cond.code yX1_arrival cX1_arrival 5 (some .int), Cond.static yX4_way]
def wsX4_exchange_r3 : List Cond := [Cond.code yX4_way cX4_way 2 (some .int), Cond.methodLink RX4 208 Lib.Math.abs.name, Cond.static Lib.Math.abs.name, Cond.initialized "java/lang/Math", Cond.code Lib.Math.abs.name Lib.Math.abs.code 1 (some .int), Cond.methodLink RX4 51 yX4_finish, Cond.instanceMethod yX4_finish, Cond.selects RX4 yX4_finish yX4_finish, Cond.code yX4_finish cX4_finish 2 (some .int), Cond.methodLink RX4 205 yX4_dropOldest, Cond.instanceMethod yX4_dropOldest, Cond.selects RX4 yX4_dropOldest yX4_dropOldest, Cond.code yX4_dropOldest cX4_dropOldest 3 none]
def wsX4_exchange : List Cond := .code yX4_exchange cX4_exchange 3 (some .int) :: ((wsX4_exchange_r1 ++ (wsX4_exchange_r2 ++ wsX4_exchange_r3)) ++ wsX40 ++ wsX20 ++ wsX10)
def wsX4_sort_r1 : List Cond := [Cond.fieldLink RX4 10 "PhosphorHush" "now" "LPhosphorHush$State;", Cond.fieldLink RX4 41 "PhosphorHush$State" "shown" "LPhosphorHush$Screen;", Cond.methodLink RX4 38 yX4_prepare, Cond.instanceMethod yX4_prepare, Cond.selects RX4 yX4_prepare yX4_prepare, Cond.initialized RX4, Cond.code yX4_prepare cX4_prepare 1 none, Cond.fieldLink RX4 16 "PhosphorHush" "history" "[LPhosphorHush$State;", Cond.fieldLink RX4 80 "PhosphorHush" "kept" "I", Cond.methodLink RX4 84 yX2_copyFrom, Cond.instanceMethod yX2_copyFrom, Cond.selects RX2 yX2_copyFrom yX2_copyFrom, Cond.initialized RX2, Cond.code yX2_copyFrom cX2_copyFrom 3 none, Cond.fieldLink RX2 12 "PhosphorHush$State" "shown" "LPhosphorHush$Screen;", Cond.fieldLink RX2 18 "PhosphorHush$State" "slots" "[LPhosphorHush$Screen;", Cond.fieldLink RX2 22 "PhosphorHush$State" "taken" "[Z", Cond.methodLink RX2 26 yX1_copyFrom, Cond.instanceMethod yX1_copyFrom, Cond.selects RX1 yX1_copyFrom yX1_copyFrom, Cond.initialized RX1, Cond.code yX1_copyFrom cX1_copyFrom 2 none, Cond.fieldLink RX1 9 "PhosphorHush$Screen" "phosphors" "[I", Cond.methodLink RX1 25 arraycopyName]
def wsX4_sort_r2 : List Cond := [Cond.native arraycopyName, Cond.static arraycopyName, Cond.initialized "java/lang/System", Cond.fieldLink RX1 15 "PhosphorHush$Screen" "order" "[I", Cond.fieldLink RX1 31 "PhosphorHush$Screen" "size" "I", Cond.fieldLink RX1 18 "PhosphorHush$Screen" "pictures" "[J", Cond.fieldLink RX1 22 "PhosphorHush$Screen" "settings" "[I", Cond.methodLink RX4 67 yX1_arrange, Cond.instanceMethod yX1_arrange, Cond.selects RX1 yX1_arrange yX1_arrange, Cond.code yX1_arrange cX1_arrange 6 (some .int), Cond.methodLink RX1 60 yX1_rank, Cond.instanceMethod yX1_rank, Cond.selects RX1 yX1_rank yX1_rank, Cond.code yX1_rank cX1_rank 4 (some .int), Cond.static yX4_bit, Cond.code yX4_bit cX4_bit 3 (some .int), Cond.static yX4_way, Cond.code yX4_way cX4_way 2 (some .int), Cond.methodLink RX4 208 Lib.Math.abs.name, Cond.static Lib.Math.abs.name, Cond.initialized "java/lang/Math", Cond.code Lib.Math.abs.name Lib.Math.abs.code 1 (some .int), Cond.static yX4_ticksAbove]
def wsX4_sort_r3 : List Cond := [Cond.code yX4_ticksAbove cX4_ticksAbove 3 (some .int), Cond.methodLink RX4 211 yX4_glow, Cond.static yX4_glow, Cond.code yX4_glow cX4_glow 2 (some .int), Cond.methodLink RX4 200 Lib.Math.max.name, Cond.static Lib.Math.max.name, Cond.code Lib.Math.max.name Lib.Math.max.code 2 (some .int), Cond.methodLink RX1 52 yX1_swap, Cond.instanceMethod yX1_swap, Cond.selects RX1 yX1_swap yX1_swap, Cond.code yX1_swap cX1_swap 4 none, Cond.methodLink RX1 56 yX1_litSize, Cond.instanceMethod yX1_litSize, Cond.selects RX1 yX1_litSize yX1_litSize, Cond.code yX1_litSize cX1_litSize 2 (some .int), Cond.methodLink RX1 83 yX1_arrival, Cond.instanceMethod yX1_arrival, Cond.selects RX1 yX1_arrival yX1_arrival, Cond.code yX1_arrival cX1_arrival 5 (some .int), Cond.methodLink RX4 51 yX4_finish, Cond.instanceMethod yX4_finish, Cond.selects RX4 yX4_finish yX4_finish, Cond.code yX4_finish cX4_finish 2 (some .int), Cond.methodLink RX4 205 yX4_dropOldest]
def wsX4_sort_r4 : List Cond := [Cond.instanceMethod yX4_dropOldest, Cond.selects RX4 yX4_dropOldest yX4_dropOldest, Cond.code yX4_dropOldest cX4_dropOldest 3 none]
def wsX4_sort : List Cond := .code yX4_sort cX4_sort 2 (some .int) :: ((wsX4_sort_r1 ++ (wsX4_sort_r2 ++ (wsX4_sort_r3 ++ wsX4_sort_r4))) ++ wsX40 ++ wsX20 ++ wsX10)
def wsX4_draw_r1 : List Cond := [Cond.fieldLink RX4 10 "PhosphorHush" "now" "LPhosphorHush$State;", Cond.fieldLink RX4 41 "PhosphorHush$State" "shown" "LPhosphorHush$Screen;", Cond.methodLink RX4 38 yX4_prepare, Cond.instanceMethod yX4_prepare, Cond.selects RX4 yX4_prepare yX4_prepare, Cond.initialized RX4, Cond.code yX4_prepare cX4_prepare 1 none, Cond.fieldLink RX4 16 "PhosphorHush" "history" "[LPhosphorHush$State;", Cond.fieldLink RX4 80 "PhosphorHush" "kept" "I", Cond.methodLink RX4 84 yX2_copyFrom, Cond.instanceMethod yX2_copyFrom, Cond.selects RX2 yX2_copyFrom yX2_copyFrom, Cond.initialized RX2, Cond.code yX2_copyFrom cX2_copyFrom 3 none, Cond.fieldLink RX2 12 "PhosphorHush$State" "shown" "LPhosphorHush$Screen;", Cond.fieldLink RX2 18 "PhosphorHush$State" "slots" "[LPhosphorHush$Screen;", Cond.fieldLink RX2 22 "PhosphorHush$State" "taken" "[Z", Cond.methodLink RX2 26 yX1_copyFrom, Cond.instanceMethod yX1_copyFrom, Cond.selects RX1 yX1_copyFrom yX1_copyFrom, Cond.initialized RX1, Cond.code yX1_copyFrom cX1_copyFrom 2 none, Cond.fieldLink RX1 9 "PhosphorHush$Screen" "phosphors" "[I", Cond.methodLink RX1 25 arraycopyName]
def wsX4_draw_r2 : List Cond := [Cond.native arraycopyName, Cond.static arraycopyName, Cond.initialized "java/lang/System", Cond.fieldLink RX1 15 "PhosphorHush$Screen" "order" "[I", Cond.fieldLink RX1 31 "PhosphorHush$Screen" "size" "I", Cond.fieldLink RX1 18 "PhosphorHush$Screen" "pictures" "[J", Cond.fieldLink RX1 22 "PhosphorHush$Screen" "settings" "[I", Cond.methodLink RX4 70 yX1_paint, Cond.instanceMethod yX1_paint, Cond.selects RX1 yX1_paint yX1_paint, Cond.code yX1_paint cX1_paint 4 (some .int), Cond.constantLong RX1 75 (-1), Cond.static yX4_isSpot, Cond.code yX4_isSpot cX4_isSpot 1 (some .boolean), Cond.methodLink RX1 77 yJ13_bitCount_95d88, Cond.static yJ13_bitCount_95d88, Cond.initialized RJ13, Cond.code yJ13_bitCount_95d88 cJ13_bitCount_95d88 2 (some .int), Cond.constantLong RJ13 314 (6148914691236517205), Cond.constantLong RJ13 316 (3689348814741910323), Cond.constantLong RJ13 318 (1085102592571150095), Cond.methodLink RX4 51 yX4_finish, Cond.instanceMethod yX4_finish, Cond.selects RX4 yX4_finish yX4_finish]
def wsX4_draw_r3 : List Cond := [Cond.code yX4_finish cX4_finish 2 (some .int), Cond.methodLink RX4 205 yX4_dropOldest, Cond.instanceMethod yX4_dropOldest, Cond.selects RX4 yX4_dropOldest yX4_dropOldest, Cond.code yX4_dropOldest cX4_dropOldest 3 none]
def wsX4_draw : List Cond := .code yX4_draw cX4_draw 4 (some .int) :: ((wsX4_draw_r1 ++ (wsX4_draw_r2 ++ wsX4_draw_r3)) ++ wsX40 ++ wsX20 ++ wsX10)
def wsX4_take_r1 : List Cond := [Cond.fieldLink RX4 10 "PhosphorHush" "now" "LPhosphorHush$State;", Cond.methodLink RX4 38 yX4_prepare, Cond.instanceMethod yX4_prepare, Cond.selects RX4 yX4_prepare yX4_prepare, Cond.initialized RX4, Cond.code yX4_prepare cX4_prepare 1 none, Cond.fieldLink RX4 16 "PhosphorHush" "history" "[LPhosphorHush$State;", Cond.fieldLink RX4 80 "PhosphorHush" "kept" "I", Cond.methodLink RX4 84 yX2_copyFrom, Cond.instanceMethod yX2_copyFrom, Cond.selects RX2 yX2_copyFrom yX2_copyFrom, Cond.initialized RX2, Cond.code yX2_copyFrom cX2_copyFrom 3 none, Cond.fieldLink RX2 12 "PhosphorHush$State" "shown" "LPhosphorHush$Screen;", Cond.fieldLink RX2 18 "PhosphorHush$State" "slots" "[LPhosphorHush$Screen;", Cond.fieldLink RX2 22 "PhosphorHush$State" "taken" "[Z", Cond.methodLink RX2 26 yX1_copyFrom, Cond.instanceMethod yX1_copyFrom, Cond.selects RX1 yX1_copyFrom yX1_copyFrom, Cond.initialized RX1, Cond.code yX1_copyFrom cX1_copyFrom 2 none, Cond.fieldLink RX1 9 "PhosphorHush$Screen" "phosphors" "[I", Cond.methodLink RX1 25 arraycopyName, Cond.native arraycopyName]
def wsX4_take_r2 : List Cond := [Cond.static arraycopyName, Cond.initialized "java/lang/System", Cond.fieldLink RX1 15 "PhosphorHush$Screen" "order" "[I", Cond.fieldLink RX1 31 "PhosphorHush$Screen" "size" "I", Cond.fieldLink RX1 18 "PhosphorHush$Screen" "pictures" "[J", Cond.fieldLink RX1 22 "PhosphorHush$Screen" "settings" "[I", Cond.methodLink RX4 74 yX2_keepSnapshot, Cond.instanceMethod yX2_keepSnapshot, Cond.selects RX2 yX2_keepSnapshot yX2_keepSnapshot, Cond.code yX2_keepSnapshot cX2_keepSnapshot 2 (some .int), Cond.fieldLink RX2 34 "PhosphorHush$Screen" "size" "I", Cond.methodLink RX2 30 yX2_isSlot, Cond.static yX2_isSlot, Cond.code yX2_isSlot cX2_isSlot 1 (some .boolean), Cond.methodLink RX4 51 yX4_finish, Cond.instanceMethod yX4_finish, Cond.selects RX4 yX4_finish yX4_finish, Cond.code yX4_finish cX4_finish 2 (some .int), Cond.methodLink RX4 205 yX4_dropOldest, Cond.instanceMethod yX4_dropOldest, Cond.selects RX4 yX4_dropOldest yX4_dropOldest, Cond.code yX4_dropOldest cX4_dropOldest 3 none]
def wsX4_take : List Cond := .code yX4_take cX4_take 2 (some .int) :: ((wsX4_take_r1 ++ wsX4_take_r2) ++ wsX40 ++ wsX20 ++ wsX10)
def wsX4_restore_r1 : List Cond := [Cond.fieldLink RX4 10 "PhosphorHush" "now" "LPhosphorHush$State;", Cond.methodLink RX4 38 yX4_prepare, Cond.instanceMethod yX4_prepare, Cond.selects RX4 yX4_prepare yX4_prepare, Cond.initialized RX4, Cond.code yX4_prepare cX4_prepare 1 none, Cond.fieldLink RX4 16 "PhosphorHush" "history" "[LPhosphorHush$State;", Cond.fieldLink RX4 80 "PhosphorHush" "kept" "I", Cond.methodLink RX4 84 yX2_copyFrom, Cond.instanceMethod yX2_copyFrom, Cond.selects RX2 yX2_copyFrom yX2_copyFrom, Cond.initialized RX2, Cond.code yX2_copyFrom cX2_copyFrom 3 none, Cond.fieldLink RX2 12 "PhosphorHush$State" "shown" "LPhosphorHush$Screen;", Cond.fieldLink RX2 18 "PhosphorHush$State" "slots" "[LPhosphorHush$Screen;", Cond.fieldLink RX2 22 "PhosphorHush$State" "taken" "[Z", Cond.methodLink RX2 26 yX1_copyFrom, Cond.instanceMethod yX1_copyFrom, Cond.selects RX1 yX1_copyFrom yX1_copyFrom, Cond.initialized RX1, Cond.code yX1_copyFrom cX1_copyFrom 2 none, Cond.fieldLink RX1 9 "PhosphorHush$Screen" "phosphors" "[I", Cond.methodLink RX1 25 arraycopyName, Cond.native arraycopyName]
def wsX4_restore_r2 : List Cond := [Cond.static arraycopyName, Cond.initialized "java/lang/System", Cond.fieldLink RX1 15 "PhosphorHush$Screen" "order" "[I", Cond.fieldLink RX1 31 "PhosphorHush$Screen" "size" "I", Cond.fieldLink RX1 18 "PhosphorHush$Screen" "pictures" "[J", Cond.fieldLink RX1 22 "PhosphorHush$Screen" "settings" "[I", Cond.methodLink RX4 77 yX2_showSnapshot, Cond.instanceMethod yX2_showSnapshot, Cond.selects RX2 yX2_showSnapshot yX2_showSnapshot, Cond.code yX2_showSnapshot cX2_showSnapshot 2 (some .int), Cond.fieldLink RX2 34 "PhosphorHush$Screen" "size" "I", Cond.methodLink RX2 30 yX2_isSlot, Cond.static yX2_isSlot, Cond.code yX2_isSlot cX2_isSlot 1 (some .boolean), Cond.methodLink RX4 51 yX4_finish, Cond.instanceMethod yX4_finish, Cond.selects RX4 yX4_finish yX4_finish, Cond.code yX4_finish cX4_finish 2 (some .int), Cond.methodLink RX4 205 yX4_dropOldest, Cond.instanceMethod yX4_dropOldest, Cond.selects RX4 yX4_dropOldest yX4_dropOldest, Cond.code yX4_dropOldest cX4_dropOldest 3 none]
def wsX4_restore : List Cond := .code yX4_restore cX4_restore 2 (some .int) :: ((wsX4_restore_r1 ++ wsX4_restore_r2) ++ wsX40 ++ wsX20 ++ wsX10)
def wsX4_undo_r1 : List Cond := [Cond.fieldLink RX4 80 "PhosphorHush" "kept" "I", Cond.fieldLink RX4 10 "PhosphorHush" "now" "LPhosphorHush$State;", Cond.fieldLink RX4 16 "PhosphorHush" "history" "[LPhosphorHush$State;", Cond.methodLink RX4 84 yX2_copyFrom, Cond.instanceMethod yX2_copyFrom, Cond.selects RX2 yX2_copyFrom yX2_copyFrom, Cond.initialized RX2, Cond.code yX2_copyFrom cX2_copyFrom 3 none, Cond.fieldLink RX2 12 "PhosphorHush$State" "shown" "LPhosphorHush$Screen;", Cond.fieldLink RX2 18 "PhosphorHush$State" "slots" "[LPhosphorHush$Screen;", Cond.fieldLink RX2 22 "PhosphorHush$State" "taken" "[Z", Cond.methodLink RX2 26 yX1_copyFrom, Cond.instanceMethod yX1_copyFrom, Cond.selects RX1 yX1_copyFrom yX1_copyFrom, Cond.initialized RX1, Cond.code yX1_copyFrom cX1_copyFrom 2 none, Cond.fieldLink RX1 9 "PhosphorHush$Screen" "phosphors" "[I", Cond.methodLink RX1 25 arraycopyName, Cond.native arraycopyName, Cond.static arraycopyName, Cond.initialized "java/lang/System", Cond.fieldLink RX1 15 "PhosphorHush$Screen" "order" "[I", Cond.fieldLink RX1 31 "PhosphorHush$Screen" "size" "I", Cond.fieldLink RX1 18 "PhosphorHush$Screen" "pictures" "[J"]
def wsX4_undo_r2 : List Cond := [Cond.fieldLink RX1 22 "PhosphorHush$Screen" "settings" "[I"]
def wsX4_undo : List Cond := .code yX4_undo cX4_undo 1 (some .int) :: ((wsX4_undo_r1 ++ wsX4_undo_r2) ++ wsX40 ++ wsX20 ++ wsX10)
def wsX4_append : List Cond := .code yX4_append cX4_append 2 (some .int) :: ([.fieldLink RX4 23 "PhosphorHush" "program" "LPhosphorHush$Program;", .methodLink RX4 88 yX0_addCharacter, .instanceMethod yX0_addCharacter, .selects RX0 yX0_addCharacter yX0_addCharacter, .initialized RX0, .code yX0_addCharacter cX0_addCharacter 2 (some .int), .fieldLink RX0 19 "PhosphorHush$Program" "length" "I", .fieldLink RX0 9 "PhosphorHush$Program" "text" "[C"] ++ wsX40 ++ wsX00)
def wsX4_clearText : List Cond := .code yX4_clearText cX4_clearText 1 (some .int) :: ([.fieldLink RX4 23 "PhosphorHush" "program" "LPhosphorHush$Program;", .methodLink RX4 91 yX0_empty, .instanceMethod yX0_empty, .selects RX0 yX0_empty yX0_empty, .initialized RX0, .code yX0_empty cX0_empty 2 (some .int), .fieldLink RX0 19 "PhosphorHush$Program" "length" "I"] ++ wsX40 ++ wsX00)
def wsX4_run_r1 : List Cond := [Cond.fieldLink RX4 23 "PhosphorHush" "program" "LPhosphorHush$Program;", Cond.fieldLink RX4 10 "PhosphorHush" "now" "LPhosphorHush$State;", Cond.fieldLink RX4 41 "PhosphorHush$State" "shown" "LPhosphorHush$Screen;", Cond.fieldLink RX4 16 "PhosphorHush" "history" "[LPhosphorHush$State;", Cond.fieldLink RX4 80 "PhosphorHush" "kept" "I", Cond.methodLink RX4 38 yX4_prepare, Cond.instanceMethod yX4_prepare, Cond.selects RX4 yX4_prepare yX4_prepare, Cond.initialized RX4, Cond.code yX4_prepare cX4_prepare 1 none, Cond.methodLink RX4 84 yX2_copyFrom, Cond.instanceMethod yX2_copyFrom, Cond.selects RX2 yX2_copyFrom yX2_copyFrom, Cond.initialized RX2, Cond.code yX2_copyFrom cX2_copyFrom 3 none, Cond.fieldLink RX2 12 "PhosphorHush$State" "shown" "LPhosphorHush$Screen;", Cond.fieldLink RX2 18 "PhosphorHush$State" "slots" "[LPhosphorHush$Screen;", Cond.fieldLink RX2 22 "PhosphorHush$State" "taken" "[Z", Cond.methodLink RX2 26 yX1_copyFrom, Cond.instanceMethod yX1_copyFrom, Cond.selects RX1 yX1_copyFrom yX1_copyFrom, Cond.initialized RX1, Cond.code yX1_copyFrom cX1_copyFrom 2 none, Cond.fieldLink RX1 9 "PhosphorHush$Screen" "phosphors" "[I"]
def wsX4_run_r2 : List Cond := [Cond.methodLink RX1 25 arraycopyName, Cond.native arraycopyName, Cond.static arraycopyName, Cond.initialized "java/lang/System", Cond.fieldLink RX1 15 "PhosphorHush$Screen" "order" "[I", Cond.fieldLink RX1 31 "PhosphorHush$Screen" "size" "I", Cond.fieldLink RX1 18 "PhosphorHush$Screen" "pictures" "[J", Cond.fieldLink RX1 22 "PhosphorHush$Screen" "settings" "[I", Cond.methodLink RX4 95 yX0_runOn, Cond.instanceMethod yX0_runOn, Cond.selects RX0 yX0_runOn yX0_runOn, Cond.initialized RX0, Cond.code yX0_runOn cX0_runOn 5 (some .int), Cond.fieldLink RX0 27 "PhosphorHush$Program" "place" "I", Cond.fieldLink RX0 19 "PhosphorHush$Program" "length" "I", Cond.methodLink RX0 23 yX0_moveTo, Cond.instanceMethod yX0_moveTo, Cond.selects RX0 yX0_moveTo yX0_moveTo, Cond.code yX0_moveTo cX0_moveTo 2 none, Cond.fieldLink RX0 9 "PhosphorHush$Program" "text" "[C", Cond.methodLink RX0 30 yX0_readWord, Cond.instanceMethod yX0_readWord, Cond.selects RX0 yX0_readWord yX0_readWord, Cond.code yX0_readWord cX0_readWord 3 (some .int)]
def wsX4_run_r3 : List Cond := [Cond.methodLink RX0 50 yX0_wordOf, Cond.static yX0_wordOf, Cond.code yX0_wordOf cX0_wordOf 1 (some (.object "java/lang/String")), Cond.methodLink RX0 54 yX0_isWord, Cond.instanceMethod yX0_isWord, Cond.selects RX0 yX0_isWord yX0_isWord, Cond.code yX0_isWord cX0_isWord 4 (some .boolean), Cond.methodLink RX0 58 yJ0_length_8abf5, Cond.instanceMethod yJ0_length_8abf5, Cond.selects RJ0 yJ0_length_8abf5 yJ0_length_8abf5, Cond.initialized RJ0, Cond.code yJ0_length_8abf5 cJ0_length_8abf5 1 (some .int), Cond.fieldLink RJ0 9 "java/lang/String" "value" "[B", Cond.methodLink RJ0 335 yJ0_coder_7d493, Cond.instanceMethod yJ0_coder_7d493, Cond.selects RJ0 yJ0_coder_7d493 yJ0_coder_7d493, Cond.code yJ0_coder_7d493 cJ0_coder_7d493 1 (some .byte), Cond.fieldLink RJ0 38 "java/lang/String" "COMPACT_STRINGS" "Z", Cond.fieldLink RJ0 15 "java/lang/String" "coder" "B", Cond.methodLink RX0 62 yJ0_charAt_5068e, Cond.instanceMethod yJ0_charAt_5068e, Cond.selects RJ0 yJ0_charAt_5068e yJ0_charAt_5068e, Cond.code yJ0_charAt_5068e cJ0_charAt_5068e 2 (some .char), Cond.methodLink RJ0 492 yJ0_isLatin1_aae02]
def wsX4_run_r4 : List Cond := [Cond.instanceMethod yJ0_isLatin1_aae02, Cond.selects RJ0 yJ0_isLatin1_aae02 yJ0_isLatin1_aae02, Cond.code yJ0_isLatin1_aae02 cJ0_isLatin1_aae02 1 (some .boolean), Cond.methodLink RJ0 495 yJ1_charAt_3b067, Cond.static yJ1_charAt_3b067, Cond.initialized RJ1, Cond.code yJ1_charAt_3b067 cJ1_charAt_3b067 2 (some .char), Cond.methodLink RJ1 9 yJ0_checkIndex_df160, Cond.static yJ0_checkIndex_df160, Cond.code yJ0_checkIndex_df160 cJ0_checkIndex_df160 2 none, Cond.fieldLink RJ0 1053 "jdk/internal/util/Preconditions" "SIOOBE_FORMATTER" "Ljava/util/function/BiFunction;", Cond.methodLink RJ0 1059 yJ3_checkIndex_8e157, Cond.static yJ3_checkIndex_8e157, Cond.initialized RJ3, Cond.code yJ3_checkIndex_8e157 cJ3_checkIndex_8e157 3 (some .int), Cond.methodLink RJ0 498 yJ2_charAt_3b067, Cond.static yJ2_charAt_3b067, Cond.initialized RJ2, Cond.code yJ2_charAt_3b067 cJ2_charAt_3b067 2 (some .char), Cond.methodLink RJ2 67 yJ2_checkIndex_2214a, Cond.static yJ2_checkIndex_2214a, Cond.code yJ2_checkIndex_2214a cJ2_checkIndex_2214a 2 none, Cond.methodLink RJ2 48 yJ2_length_9d52b, Cond.static yJ2_length_9d52b]
def wsX4_run_r5 : List Cond := [Cond.code yJ2_length_9d52b cJ2_length_9d52b 1 (some .int), Cond.methodLink RJ2 414 yJ0_checkIndex_df160, Cond.methodLink RJ2 71 yJ2_getChar_3b067, Cond.static yJ2_getChar_3b067, Cond.code yJ2_getChar_3b067 cJ2_getChar_3b067 2 (some .char), Cond.fieldLink RJ2 44 "java/lang/StringUTF16" "$assertionsDisabled" "Z", Cond.fieldLink RJ2 59 "java/lang/StringUTF16" "HI_BYTE_SHIFT" "I", Cond.fieldLink RJ2 63 "java/lang/StringUTF16" "LO_BYTE_SHIFT" "I", Cond.methodLink RX0 34 yX0_numbersOf, Cond.static yX0_numbersOf, Cond.code yX0_numbersOf cX0_numbersOf 1 (some .int), Cond.methodLink RX0 38 yX0_readNumbers, Cond.instanceMethod yX0_readNumbers, Cond.selects RX0 yX0_readNumbers yX0_readNumbers, Cond.code yX0_readNumbers cX0_readNumbers 4 (some .boolean), Cond.fieldLink RX0 15 "PhosphorHush$Program" "numbers" "[I", Cond.methodLink RX0 66 yX0_readNumber, Cond.instanceMethod yX0_readNumber, Cond.selects RX0 yX0_readNumber yX0_readNumber, Cond.code yX0_readNumber cX0_readNumber 4 (some .int), Cond.methodLink RX0 42 yX0_readEnd, Cond.instanceMethod yX0_readEnd, Cond.selects RX0 yX0_readEnd yX0_readEnd, Cond.code yX0_readEnd cX0_readEnd 1 (some .boolean)]
def wsX4_run_r6 : List Cond := [Cond.methodLink RX0 46 yX0_carryOut, Cond.instanceMethod yX0_carryOut, Cond.selects RX0 yX0_carryOut yX0_carryOut, Cond.code yX0_carryOut cX0_carryOut 3 (some .int), Cond.methodLink RX0 83 yX1_addSpot, Cond.instanceMethod yX1_addSpot, Cond.selects RX1 yX1_addSpot yX1_addSpot, Cond.code yX1_addSpot cX1_addSpot 2 (some .int), Cond.static yX4_isSpot, Cond.code yX4_isSpot cX4_isSpot 1 (some .boolean), Cond.methodLink RX1 48 yX1_positionOf, Cond.instanceMethod yX1_positionOf, Cond.selects RX1 yX1_positionOf yX1_positionOf, Cond.code yX1_positionOf cX1_positionOf 3 (some .int), Cond.methodLink RX0 88 yX1_removeSpot, Cond.instanceMethod yX1_removeSpot, Cond.selects RX1 yX1_removeSpot yX1_removeSpot, Cond.code yX1_removeSpot cX1_removeSpot 4 (some .int), Cond.methodLink RX0 91 yX1_putPhosphor, Cond.instanceMethod yX1_putPhosphor, Cond.selects RX1 yX1_putPhosphor yX1_putPhosphor, Cond.code yX1_putPhosphor cX1_putPhosphor 4 (some .int), Cond.static yX4_isPhosphor, Cond.code yX4_isPhosphor cX4_isPhosphor 1 (some .boolean)]
def wsX4_run_r7 : List Cond := [Cond.methodLink RX0 95 yX1_paint, Cond.instanceMethod yX1_paint, Cond.selects RX1 yX1_paint yX1_paint, Cond.code yX1_paint cX1_paint 4 (some .int), Cond.constantLong RX1 75 (-1), Cond.methodLink RX1 77 yJ13_bitCount_95d88, Cond.static yJ13_bitCount_95d88, Cond.initialized RJ13, Cond.code yJ13_bitCount_95d88 cJ13_bitCount_95d88 2 (some .int), Cond.constantLong RJ13 314 (6148914691236517205), Cond.constantLong RJ13 316 (3689348814741910323), Cond.constantLong RJ13 318 (1085102592571150095), Cond.methodLink RX0 99 yX1_arrange, Cond.instanceMethod yX1_arrange, Cond.selects RX1 yX1_arrange yX1_arrange, Cond.code yX1_arrange cX1_arrange 6 (some .int), Cond.methodLink RX1 60 yX1_rank, Cond.instanceMethod yX1_rank, Cond.selects RX1 yX1_rank yX1_rank, Cond.code yX1_rank cX1_rank 4 (some .int), Cond.static yX4_bit, Cond.code yX4_bit cX4_bit 3 (some .int), Cond.static yX4_way, Cond.code yX4_way cX4_way 2 (some .int)]
def wsX4_run_r8 : List Cond := [Cond.methodLink RX4 208 Lib.Math.abs.name, Cond.static Lib.Math.abs.name, Cond.initialized "java/lang/Math", Cond.code Lib.Math.abs.name Lib.Math.abs.code 1 (some .int), Cond.static yX4_ticksAbove, Cond.code yX4_ticksAbove cX4_ticksAbove 3 (some .int), Cond.methodLink RX4 211 yX4_glow, Cond.static yX4_glow, Cond.code yX4_glow cX4_glow 2 (some .int), Cond.methodLink RX4 200 Lib.Math.max.name, Cond.static Lib.Math.max.name, Cond.code Lib.Math.max.name Lib.Math.max.code 2 (some .int), Cond.methodLink RX1 52 yX1_swap, Cond.instanceMethod yX1_swap, Cond.selects RX1 yX1_swap yX1_swap, Cond.code yX1_swap cX1_swap 4 none, Cond.methodLink RX1 56 yX1_litSize, Cond.instanceMethod yX1_litSize, Cond.selects RX1 yX1_litSize yX1_litSize, Cond.code yX1_litSize cX1_litSize 2 (some .int), Cond.methodLink RX1 83 yX1_arrival, Cond.instanceMethod yX1_arrival, Cond.selects RX1 yX1_arrival yX1_arrival, Cond.code yX1_arrival cX1_arrival 5 (some .int)]
def wsX4_run_r9 : List Cond := [Cond.methodLink RX0 102 yX1_swapPositions, Cond.instanceMethod yX1_swapPositions, Cond.selects RX1 yX1_swapPositions yX1_swapPositions, Cond.code yX1_swapPositions cX1_swapPositions 3 (some .int), Cond.methodLink RX4 91 yX0_empty, Cond.instanceMethod yX0_empty, Cond.selects RX0 yX0_empty yX0_empty, Cond.code yX0_empty cX0_empty 2 (some .int), Cond.methodLink RX4 51 yX4_finish, Cond.instanceMethod yX4_finish, Cond.selects RX4 yX4_finish yX4_finish, Cond.code yX4_finish cX4_finish 2 (some .int), Cond.methodLink RX4 205 yX4_dropOldest, Cond.instanceMethod yX4_dropOldest, Cond.selects RX4 yX4_dropOldest yX4_dropOldest, Cond.code yX4_dropOldest cX4_dropOldest 3 none]
def wsX4_run : List Cond := .code yX4_run cX4_run 2 (some .int) :: ((wsX4_run_r1 ++ (wsX4_run_r2 ++ (wsX4_run_r3 ++ (wsX4_run_r4 ++ (wsX4_run_r5 ++ (wsX4_run_r6 ++ (wsX4_run_r7 ++ (wsX4_run_r8 ++ wsX4_run_r9)))))))) ++ wsX40 ++ wsX20 ++ wsX10 ++ wsX00)
def wsX4_settingCount : List Cond := .code yX4_settingCount cX4_settingCount 2 (some .int) :: ([.fieldLink RX4 10 "PhosphorHush" "now" "LPhosphorHush$State;", .fieldLink RX4 41 "PhosphorHush$State" "shown" "LPhosphorHush$Screen;", .fieldLink RX4 99 "PhosphorHush$Screen" "settings" "[I"] ++ wsX40 ++ wsX20 ++ wsX10)
def wsX4_count_r1 : List Cond := [Cond.fieldLink RX4 10 "PhosphorHush" "now" "LPhosphorHush$State;", Cond.fieldLink RX4 41 "PhosphorHush$State" "shown" "LPhosphorHush$Screen;", Cond.fieldLink RX4 99 "PhosphorHush$Screen" "settings" "[I", Cond.fieldLink RX4 102 "PhosphorHush$Screen" "size" "I", Cond.fieldLink RX4 108 "PhosphorHush$Screen" "pictures" "[J", Cond.fieldLink RX4 80 "PhosphorHush" "kept" "I", Cond.fieldLink RX4 23 "PhosphorHush" "program" "LPhosphorHush$Program;", Cond.methodLink RX4 105 yX1_litSize, Cond.instanceMethod yX1_litSize, Cond.selects RX1 yX1_litSize yX1_litSize, Cond.initialized RX1, Cond.code yX1_litSize cX1_litSize 2 (some .int), Cond.fieldLink RX1 31 "PhosphorHush$Screen" "size" "I", Cond.fieldLink RX1 22 "PhosphorHush$Screen" "settings" "[I", Cond.methodLink RX1 83 yX1_arrival, Cond.instanceMethod yX1_arrival, Cond.selects RX1 yX1_arrival yX1_arrival, Cond.code yX1_arrival cX1_arrival 5 (some .int), Cond.fieldLink RX1 15 "PhosphorHush$Screen" "order" "[I", Cond.static yX4_way, Cond.initialized RX4, Cond.code yX4_way cX4_way 2 (some .int), Cond.methodLink RX4 208 Lib.Math.abs.name, Cond.static Lib.Math.abs.name]
def wsX4_count_r2 : List Cond := [Cond.initialized "java/lang/Math", Cond.code Lib.Math.abs.name Lib.Math.abs.code 1 (some .int), Cond.methodLink RX4 112 yJ13_bitCount_95d88, Cond.static yJ13_bitCount_95d88, Cond.initialized RJ13, Cond.code yJ13_bitCount_95d88 cJ13_bitCount_95d88 2 (some .int), Cond.constantLong RJ13 314 (6148914691236517205), Cond.constantLong RJ13 316 (3689348814741910323), Cond.constantLong RJ13 318 (1085102592571150095), Cond.methodLink RX4 118 yX1_seenByEye, Cond.instanceMethod yX1_seenByEye, Cond.selects RX1 yX1_seenByEye yX1_seenByEye, Cond.code yX1_seenByEye cX1_seenByEye 1 (some .long), Cond.methodLink RX1 115 yX1_seen, Cond.instanceMethod yX1_seen, Cond.selects RX1 yX1_seen yX1_seen, Cond.code yX1_seen cX1_seen 7 (some .long), Cond.methodLink RX1 98 yX1_sumOver, Cond.instanceMethod yX1_sumOver, Cond.selects RX1 yX1_sumOver yX1_sumOver, Cond.code yX1_sumOver cX1_sumOver 8 (some .int), Cond.methodLink RX1 89 yX1_litTick, Cond.instanceMethod yX1_litTick, Cond.selects RX1 yX1_litTick yX1_litTick]
def wsX4_count_r3 : List Cond := [Cond.code yX1_litTick cX1_litTick 3 (some .int), Cond.methodLink RX1 48 yX1_positionOf, Cond.instanceMethod yX1_positionOf, Cond.selects RX1 yX1_positionOf yX1_positionOf, Cond.code yX1_positionOf cX1_positionOf 3 (some .int), Cond.methodLink RX1 92 yX1_shine, Cond.instanceMethod yX1_shine, Cond.selects RX1 yX1_shine yX1_shine, Cond.code yX1_shine cX1_shine 5 (some .int), Cond.fieldLink RX1 9 "PhosphorHush$Screen" "phosphors" "[I", Cond.static yX4_glow, Cond.code yX4_glow cX4_glow 2 (some .int), Cond.methodLink RX4 200 Lib.Math.max.name, Cond.static Lib.Math.max.name, Cond.code Lib.Math.max.name Lib.Math.max.code 2 (some .int), Cond.methodLink RX1 95 yX1_next, Cond.instanceMethod yX1_next, Cond.selects RX1 yX1_next yX1_next, Cond.code yX1_next cX1_next 2 (some .int), Cond.methodLink RX1 101 yX1_mean, Cond.static yX1_mean, Cond.code yX1_mean cX1_mean 2 (some .int), Cond.methodLink RX4 122 yX1_seenByShutter, Cond.instanceMethod yX1_seenByShutter]
def wsX4_count_r4 : List Cond := [Cond.selects RX1 yX1_seenByShutter yX1_seenByShutter, Cond.code yX1_seenByShutter cX1_seenByShutter 2 (some .long), Cond.methodLink RX1 104 yX1_startInFrame, Cond.instanceMethod yX1_startInFrame, Cond.selects RX1 yX1_startInFrame yX1_startInFrame, Cond.code yX1_startInFrame cX1_startInFrame 2 (some .int), Cond.methodLink RX4 126 yX1_wrong, Cond.instanceMethod yX1_wrong, Cond.selects RX1 yX1_wrong yX1_wrong, Cond.code yX1_wrong cX1_wrong 4 (some .long), Cond.fieldLink RX1 18 "PhosphorHush$Screen" "pictures" "[J", Cond.methodLink RX4 130 yX1_sumOfWays, Cond.instanceMethod yX1_sumOfWays, Cond.selects RX1 yX1_sumOfWays yX1_sumOfWays, Cond.code yX1_sumOfWays cX1_sumOfWays 4 (some .int), Cond.methodLink RX4 133 yX1_arrival, Cond.methodLink RX4 136 yX2_snapshots, Cond.instanceMethod yX2_snapshots, Cond.selects RX2 yX2_snapshots yX2_snapshots, Cond.initialized RX2, Cond.code yX2_snapshots cX2_snapshots 3 (some .int), Cond.fieldLink RX2 22 "PhosphorHush$State" "taken" "[Z", Cond.methodLink RX4 139 yX0_size, Cond.instanceMethod yX0_size]
def wsX4_count_r5 : List Cond := [Cond.selects RX0 yX0_size yX0_size, Cond.initialized RX0, Cond.code yX0_size cX0_size 1 (some .int), Cond.fieldLink RX0 19 "PhosphorHush$Program" "length" "I", Cond.methodLink RX4 141 yX4_settingCount, Cond.instanceMethod yX4_settingCount, Cond.selects RX4 yX4_settingCount yX4_settingCount, Cond.code yX4_settingCount cX4_settingCount 2 (some .int)]
def wsX4_count : List Cond := .code yX4_count cX4_count 4 (some .int) :: ((wsX4_count_r1 ++ (wsX4_count_r2 ++ (wsX4_count_r3 ++ (wsX4_count_r4 ++ wsX4_count_r5)))) ++ wsX40 ++ wsX20 ++ wsX10 ++ wsX00)
def wsX4_spot_r1 : List Cond := [Cond.fieldLink RX4 10 "PhosphorHush" "now" "LPhosphorHush$State;", Cond.fieldLink RX4 41 "PhosphorHush$State" "shown" "LPhosphorHush$Screen;", Cond.fieldLink RX4 148 "PhosphorHush$Screen" "phosphors" "[I", Cond.fieldLink RX4 108 "PhosphorHush$Screen" "pictures" "[J", Cond.fieldLink RX4 99 "PhosphorHush$Screen" "settings" "[I", Cond.methodLink RX4 144 yX4_isSpot, Cond.static yX4_isSpot, Cond.initialized RX4, Cond.code yX4_isSpot cX4_isSpot 1 (some .boolean), Cond.methodLink RX4 151 yX4_bit, Cond.static yX4_bit, Cond.code yX4_bit cX4_bit 3 (some .int), Cond.methodLink RX4 155 yX1_positionOf, Cond.instanceMethod yX1_positionOf, Cond.selects RX1 yX1_positionOf yX1_positionOf, Cond.initialized RX1, Cond.code yX1_positionOf cX1_positionOf 3 (some .int), Cond.fieldLink RX1 31 "PhosphorHush$Screen" "size" "I", Cond.fieldLink RX1 15 "PhosphorHush$Screen" "order" "[I", Cond.methodLink RX4 158 yX1_litTick, Cond.instanceMethod yX1_litTick, Cond.selects RX1 yX1_litTick yX1_litTick, Cond.code yX1_litTick cX1_litTick 3 (some .int), Cond.fieldLink RX1 22 "PhosphorHush$Screen" "settings" "[I"]
def wsX4_spot_r2 : List Cond := [Cond.methodLink RX1 48 yX1_positionOf, Cond.methodLink RX1 83 yX1_arrival, Cond.instanceMethod yX1_arrival, Cond.selects RX1 yX1_arrival yX1_arrival, Cond.code yX1_arrival cX1_arrival 5 (some .int), Cond.static yX4_way, Cond.code yX4_way cX4_way 2 (some .int), Cond.methodLink RX4 208 Lib.Math.abs.name, Cond.static Lib.Math.abs.name, Cond.initialized "java/lang/Math", Cond.code Lib.Math.abs.name Lib.Math.abs.code 1 (some .int), Cond.methodLink RX4 118 yX1_seenByEye, Cond.instanceMethod yX1_seenByEye, Cond.selects RX1 yX1_seenByEye yX1_seenByEye, Cond.code yX1_seenByEye cX1_seenByEye 1 (some .long), Cond.methodLink RX1 115 yX1_seen, Cond.instanceMethod yX1_seen, Cond.selects RX1 yX1_seen yX1_seen, Cond.code yX1_seen cX1_seen 7 (some .long), Cond.methodLink RX1 98 yX1_sumOver, Cond.instanceMethod yX1_sumOver, Cond.selects RX1 yX1_sumOver yX1_sumOver, Cond.code yX1_sumOver cX1_sumOver 8 (some .int), Cond.methodLink RX1 89 yX1_litTick]
def wsX4_spot_r3 : List Cond := [Cond.methodLink RX1 92 yX1_shine, Cond.instanceMethod yX1_shine, Cond.selects RX1 yX1_shine yX1_shine, Cond.code yX1_shine cX1_shine 5 (some .int), Cond.fieldLink RX1 9 "PhosphorHush$Screen" "phosphors" "[I", Cond.static yX4_glow, Cond.code yX4_glow cX4_glow 2 (some .int), Cond.methodLink RX4 200 Lib.Math.max.name, Cond.static Lib.Math.max.name, Cond.code Lib.Math.max.name Lib.Math.max.code 2 (some .int), Cond.methodLink RX1 95 yX1_next, Cond.instanceMethod yX1_next, Cond.selects RX1 yX1_next yX1_next, Cond.code yX1_next cX1_next 2 (some .int), Cond.methodLink RX1 101 yX1_mean, Cond.static yX1_mean, Cond.code yX1_mean cX1_mean 2 (some .int), Cond.methodLink RX4 122 yX1_seenByShutter, Cond.instanceMethod yX1_seenByShutter, Cond.selects RX1 yX1_seenByShutter yX1_seenByShutter, Cond.code yX1_seenByShutter cX1_seenByShutter 2 (some .long), Cond.methodLink RX1 104 yX1_startInFrame, Cond.instanceMethod yX1_startInFrame, Cond.selects RX1 yX1_startInFrame yX1_startInFrame]
def wsX4_spot_r4 : List Cond := [Cond.code yX1_startInFrame cX1_startInFrame 2 (some .int), Cond.methodLink RX4 161 yX1_eyeMean, Cond.instanceMethod yX1_eyeMean, Cond.selects RX1 yX1_eyeMean yX1_eyeMean, Cond.code yX1_eyeMean cX1_eyeMean 2 (some .int), Cond.methodLink RX4 164 yX1_shutterMean, Cond.instanceMethod yX1_shutterMean, Cond.selects RX1 yX1_shutterMean yX1_shutterMean, Cond.code yX1_shutterMean cX1_shutterMean 3 (some .int), Cond.methodLink RX4 167 yX1_flicker, Cond.instanceMethod yX1_flicker, Cond.selects RX1 yX1_flicker yX1_flicker, Cond.code yX1_flicker cX1_flicker 7 (some .int), Cond.methodLink RX1 107 Lib.Math.max.name, Cond.methodLink RX1 112 Lib.Math.min.name, Cond.static Lib.Math.min.name, Cond.code Lib.Math.min.name Lib.Math.min.code 2 (some .int)]
def wsX4_spot : List Cond := .code yX4_spot cX4_spot 4 (some .int) :: ((wsX4_spot_r1 ++ (wsX4_spot_r2 ++ (wsX4_spot_r3 ++ wsX4_spot_r4))) ++ wsX40 ++ wsX20 ++ wsX10)
def wsX4_at : List Cond := .code yX4_at cX4_at 2 (some .int) :: ([.fieldLink RX4 10 "PhosphorHush" "now" "LPhosphorHush$State;", .fieldLink RX4 41 "PhosphorHush$State" "shown" "LPhosphorHush$Screen;", .fieldLink RX4 102 "PhosphorHush$Screen" "size" "I", .fieldLink RX4 170 "PhosphorHush$Screen" "order" "[I"] ++ wsX40 ++ wsX20 ++ wsX10)
def wsX4_brightness_r1 : List Cond := [Cond.fieldLink RX4 10 "PhosphorHush" "now" "LPhosphorHush$State;", Cond.fieldLink RX4 41 "PhosphorHush$State" "shown" "LPhosphorHush$Screen;", Cond.fieldLink RX4 99 "PhosphorHush$Screen" "settings" "[I", Cond.methodLink RX4 144 yX4_isSpot, Cond.static yX4_isSpot, Cond.initialized RX4, Cond.code yX4_isSpot cX4_isSpot 1 (some .boolean), Cond.methodLink RX4 158 yX1_litTick, Cond.instanceMethod yX1_litTick, Cond.selects RX1 yX1_litTick yX1_litTick, Cond.initialized RX1, Cond.code yX1_litTick cX1_litTick 3 (some .int), Cond.fieldLink RX1 22 "PhosphorHush$Screen" "settings" "[I", Cond.methodLink RX1 48 yX1_positionOf, Cond.instanceMethod yX1_positionOf, Cond.selects RX1 yX1_positionOf yX1_positionOf, Cond.code yX1_positionOf cX1_positionOf 3 (some .int), Cond.fieldLink RX1 31 "PhosphorHush$Screen" "size" "I", Cond.fieldLink RX1 15 "PhosphorHush$Screen" "order" "[I", Cond.methodLink RX1 83 yX1_arrival, Cond.instanceMethod yX1_arrival, Cond.selects RX1 yX1_arrival yX1_arrival, Cond.code yX1_arrival cX1_arrival 5 (some .int), Cond.static yX4_way]
def wsX4_brightness_r2 : List Cond := [Cond.code yX4_way cX4_way 2 (some .int), Cond.methodLink RX4 208 Lib.Math.abs.name, Cond.static Lib.Math.abs.name, Cond.initialized "java/lang/Math", Cond.code Lib.Math.abs.name Lib.Math.abs.code 1 (some .int), Cond.methodLink RX4 173 yX1_shine, Cond.instanceMethod yX1_shine, Cond.selects RX1 yX1_shine yX1_shine, Cond.code yX1_shine cX1_shine 5 (some .int), Cond.fieldLink RX1 9 "PhosphorHush$Screen" "phosphors" "[I", Cond.static yX4_glow, Cond.code yX4_glow cX4_glow 2 (some .int), Cond.methodLink RX4 200 Lib.Math.max.name, Cond.static Lib.Math.max.name, Cond.code Lib.Math.max.name Lib.Math.max.code 2 (some .int)]
def wsX4_brightness : List Cond := .code yX4_brightness cX4_brightness 4 (some .int) :: ((wsX4_brightness_r1 ++ wsX4_brightness_r2) ++ wsX40 ++ wsX20 ++ wsX10)
def wsX4_firstOf : List Cond := .code yX4_firstOf cX4_firstOf 3 (some .int) :: ([.methodLink RX4 151 yX4_bit, .static yX4_bit, .initialized RX4, .code yX4_bit cX4_bit 3 (some .int)])
def wsX4_firstWrong_r1 : List Cond := [Cond.fieldLink RX4 10 "PhosphorHush" "now" "LPhosphorHush$State;", Cond.fieldLink RX4 41 "PhosphorHush$State" "shown" "LPhosphorHush$Screen;", Cond.fieldLink RX4 99 "PhosphorHush$Screen" "settings" "[I", Cond.methodLink RX4 118 yX1_seenByEye, Cond.instanceMethod yX1_seenByEye, Cond.selects RX1 yX1_seenByEye yX1_seenByEye, Cond.initialized RX1, Cond.code yX1_seenByEye cX1_seenByEye 1 (some .long), Cond.fieldLink RX1 22 "PhosphorHush$Screen" "settings" "[I", Cond.methodLink RX1 115 yX1_seen, Cond.instanceMethod yX1_seen, Cond.selects RX1 yX1_seen yX1_seen, Cond.code yX1_seen cX1_seen 7 (some .long), Cond.fieldLink RX1 31 "PhosphorHush$Screen" "size" "I", Cond.fieldLink RX1 15 "PhosphorHush$Screen" "order" "[I", Cond.methodLink RX1 98 yX1_sumOver, Cond.instanceMethod yX1_sumOver, Cond.selects RX1 yX1_sumOver yX1_sumOver, Cond.code yX1_sumOver cX1_sumOver 8 (some .int), Cond.methodLink RX1 89 yX1_litTick, Cond.instanceMethod yX1_litTick, Cond.selects RX1 yX1_litTick yX1_litTick, Cond.code yX1_litTick cX1_litTick 3 (some .int), Cond.methodLink RX1 48 yX1_positionOf]
def wsX4_firstWrong_r2 : List Cond := [Cond.instanceMethod yX1_positionOf, Cond.selects RX1 yX1_positionOf yX1_positionOf, Cond.code yX1_positionOf cX1_positionOf 3 (some .int), Cond.methodLink RX1 83 yX1_arrival, Cond.instanceMethod yX1_arrival, Cond.selects RX1 yX1_arrival yX1_arrival, Cond.code yX1_arrival cX1_arrival 5 (some .int), Cond.static yX4_way, Cond.initialized RX4, Cond.code yX4_way cX4_way 2 (some .int), Cond.methodLink RX4 208 Lib.Math.abs.name, Cond.static Lib.Math.abs.name, Cond.initialized "java/lang/Math", Cond.code Lib.Math.abs.name Lib.Math.abs.code 1 (some .int), Cond.methodLink RX1 92 yX1_shine, Cond.instanceMethod yX1_shine, Cond.selects RX1 yX1_shine yX1_shine, Cond.code yX1_shine cX1_shine 5 (some .int), Cond.fieldLink RX1 9 "PhosphorHush$Screen" "phosphors" "[I", Cond.static yX4_glow, Cond.code yX4_glow cX4_glow 2 (some .int), Cond.methodLink RX4 200 Lib.Math.max.name, Cond.static Lib.Math.max.name, Cond.code Lib.Math.max.name Lib.Math.max.code 2 (some .int)]
def wsX4_firstWrong_r3 : List Cond := [Cond.methodLink RX1 95 yX1_next, Cond.instanceMethod yX1_next, Cond.selects RX1 yX1_next yX1_next, Cond.code yX1_next cX1_next 2 (some .int), Cond.methodLink RX1 101 yX1_mean, Cond.static yX1_mean, Cond.code yX1_mean cX1_mean 2 (some .int), Cond.methodLink RX4 126 yX1_wrong, Cond.instanceMethod yX1_wrong, Cond.selects RX1 yX1_wrong yX1_wrong, Cond.code yX1_wrong cX1_wrong 4 (some .long), Cond.fieldLink RX1 18 "PhosphorHush$Screen" "pictures" "[J", Cond.methodLink RX4 176 yX4_firstOf, Cond.static yX4_firstOf, Cond.code yX4_firstOf cX4_firstOf 3 (some .int), Cond.methodLink RX4 151 yX4_bit, Cond.static yX4_bit, Cond.code yX4_bit cX4_bit 3 (some .int), Cond.methodLink RX4 122 yX1_seenByShutter, Cond.instanceMethod yX1_seenByShutter, Cond.selects RX1 yX1_seenByShutter yX1_seenByShutter, Cond.code yX1_seenByShutter cX1_seenByShutter 2 (some .long), Cond.methodLink RX1 104 yX1_startInFrame, Cond.instanceMethod yX1_startInFrame]
def wsX4_firstWrong_r4 : List Cond := [Cond.selects RX1 yX1_startInFrame yX1_startInFrame, Cond.code yX1_startInFrame cX1_startInFrame 2 (some .int)]
def wsX4_firstWrong : List Cond := .code yX4_firstWrong cX4_firstWrong 3 (some .int) :: ((wsX4_firstWrong_r1 ++ (wsX4_firstWrong_r2 ++ (wsX4_firstWrong_r3 ++ wsX4_firstWrong_r4))) ++ wsX40 ++ wsX20 ++ wsX10)
def wsX4_bestStart_r1 : List Cond := [Cond.fieldLink RX4 10 "PhosphorHush" "now" "LPhosphorHush$State;", Cond.fieldLink RX4 41 "PhosphorHush$State" "shown" "LPhosphorHush$Screen;", Cond.fieldLink RX4 34 "PhosphorHush" "wrongAt" "[I", Cond.fieldLink RX4 99 "PhosphorHush$Screen" "settings" "[I", Cond.methodLink RX4 179 yX1_countWrong, Cond.instanceMethod yX1_countWrong, Cond.selects RX1 yX1_countWrong yX1_countWrong, Cond.initialized RX1, Cond.code yX1_countWrong cX1_countWrong 3 none, Cond.fieldLink RX1 18 "PhosphorHush$Screen" "pictures" "[J", Cond.fieldLink RX1 31 "PhosphorHush$Screen" "size" "I", Cond.fieldLink RX1 15 "PhosphorHush$Screen" "order" "[I", Cond.methodLink RX1 77 yJ13_bitCount_95d88, Cond.static yJ13_bitCount_95d88, Cond.initialized RJ13, Cond.code yJ13_bitCount_95d88 cJ13_bitCount_95d88 2 (some .int), Cond.constantLong RJ13 314 (6148914691236517205), Cond.constantLong RJ13 316 (3689348814741910323), Cond.constantLong RJ13 318 (1085102592571150095), Cond.methodLink RX1 119 yJ7_fill_53178, Cond.static yJ7_fill_53178, Cond.initialized RJ7, Cond.code yJ7_fill_53178 cJ7_fill_53178 4 none, Cond.methodLink RX1 125 yX1_countSeen]
def wsX4_bestStart_r2 : List Cond := [Cond.instanceMethod yX1_countSeen, Cond.selects RX1 yX1_countSeen yX1_countSeen, Cond.code yX1_countSeen cX1_countSeen 9 none, Cond.fieldLink RX1 22 "PhosphorHush$Screen" "settings" "[I", Cond.static yX4_bit, Cond.initialized RX4, Cond.code yX4_bit cX4_bit 3 (some .int), Cond.methodLink RX1 89 yX1_litTick, Cond.instanceMethod yX1_litTick, Cond.selects RX1 yX1_litTick yX1_litTick, Cond.code yX1_litTick cX1_litTick 3 (some .int), Cond.methodLink RX1 48 yX1_positionOf, Cond.instanceMethod yX1_positionOf, Cond.selects RX1 yX1_positionOf yX1_positionOf, Cond.code yX1_positionOf cX1_positionOf 3 (some .int), Cond.methodLink RX1 83 yX1_arrival, Cond.instanceMethod yX1_arrival, Cond.selects RX1 yX1_arrival yX1_arrival, Cond.code yX1_arrival cX1_arrival 5 (some .int), Cond.static yX4_way, Cond.code yX4_way cX4_way 2 (some .int), Cond.methodLink RX4 208 Lib.Math.abs.name, Cond.static Lib.Math.abs.name, Cond.initialized "java/lang/Math"]
def wsX4_bestStart_r3 : List Cond := [Cond.code Lib.Math.abs.name Lib.Math.abs.code 1 (some .int), Cond.methodLink RX1 98 yX1_sumOver, Cond.instanceMethod yX1_sumOver, Cond.selects RX1 yX1_sumOver yX1_sumOver, Cond.code yX1_sumOver cX1_sumOver 8 (some .int), Cond.methodLink RX1 92 yX1_shine, Cond.instanceMethod yX1_shine, Cond.selects RX1 yX1_shine yX1_shine, Cond.code yX1_shine cX1_shine 5 (some .int), Cond.fieldLink RX1 9 "PhosphorHush$Screen" "phosphors" "[I", Cond.static yX4_glow, Cond.code yX4_glow cX4_glow 2 (some .int), Cond.methodLink RX4 200 Lib.Math.max.name, Cond.static Lib.Math.max.name, Cond.code Lib.Math.max.name Lib.Math.max.code 2 (some .int), Cond.methodLink RX1 95 yX1_next, Cond.instanceMethod yX1_next, Cond.selects RX1 yX1_next yX1_next, Cond.code yX1_next cX1_next 2 (some .int), Cond.methodLink RX1 101 yX1_mean, Cond.static yX1_mean, Cond.code yX1_mean cX1_mean 2 (some .int)]
def wsX4_bestStart : List Cond := .code yX4_bestStart cX4_bestStart 4 (some .int) :: ((wsX4_bestStart_r1 ++ (wsX4_bestStart_r2 ++ wsX4_bestStart_r3)) ++ wsX40 ++ wsX20 ++ wsX10)
def wsX4_leastTravel_r1 : List Cond := [Cond.fieldLink RX4 30 "PhosphorHush" "travel" "LPhosphorHush$Travel;", Cond.fieldLink RX4 10 "PhosphorHush" "now" "LPhosphorHush$State;", Cond.fieldLink RX4 41 "PhosphorHush$State" "shown" "LPhosphorHush$Screen;", Cond.methodLink RX4 183 yX1_spotsOfOrder, Cond.instanceMethod yX1_spotsOfOrder, Cond.selects RX1 yX1_spotsOfOrder yX1_spotsOfOrder, Cond.initialized RX1, Cond.code yX1_spotsOfOrder cX1_spotsOfOrder 4 (some .long), Cond.fieldLink RX1 31 "PhosphorHush$Screen" "size" "I", Cond.fieldLink RX1 15 "PhosphorHush$Screen" "order" "[I", Cond.methodLink RX4 186 yX3_plan, Cond.instanceMethod yX3_plan, Cond.selects RX3 yX3_plan yX3_plan, Cond.initialized RX3, Cond.code yX3_plan cX3_plan 3 none, Cond.fieldLink RX3 22 "PhosphorHush$Travel" "planned" "J", Cond.methodLink RX3 26 yX3_listSpots, Cond.instanceMethod yX3_listSpots, Cond.selects RX3 yX3_listSpots yX3_listSpots, Cond.code yX3_listSpots cX3_listSpots 2 none, Cond.fieldLink RX3 39 "PhosphorHush$Travel" "size" "I", Cond.fieldLink RX3 9 "PhosphorHush$Travel" "spots" "[I", Cond.static yX4_bit, Cond.initialized RX4]
def wsX4_leastTravel_r2 : List Cond := [Cond.code yX4_bit cX4_bit 3 (some .int), Cond.methodLink RX3 29 yX3_fillRest, Cond.instanceMethod yX3_fillRest, Cond.selects RX3 yX3_fillRest yX3_fillRest, Cond.code yX3_fillRest cX3_fillRest 3 none, Cond.fieldLink RX3 16 "PhosphorHush$Travel" "rest" "[I", Cond.methodLink RX3 46 yX3_leastFrom, Cond.instanceMethod yX3_leastFrom, Cond.selects RX3 yX3_leastFrom yX3_leastFrom, Cond.code yX3_leastFrom cX3_leastFrom 4 (some .int), Cond.methodLink RX3 50 yX3_bestStep, Cond.instanceMethod yX3_bestStep, Cond.selects RX3 yX3_bestStep yX3_bestStep, Cond.code yX3_bestStep cX3_bestStep 7 (some .int), Cond.methodLink RX3 53 yX3_travelBy, Cond.instanceMethod yX3_travelBy, Cond.selects RX3 yX3_travelBy yX3_travelBy, Cond.code yX3_travelBy cX3_travelBy 4 (some .int), Cond.static yX4_way, Cond.code yX4_way cX4_way 2 (some .int), Cond.methodLink RX4 208 Lib.Math.abs.name, Cond.static Lib.Math.abs.name, Cond.initialized "java/lang/Math", Cond.code Lib.Math.abs.name Lib.Math.abs.code 1 (some .int)]
def wsX4_leastTravel_r3 : List Cond := [Cond.methodLink RX3 32 yX3_follow, Cond.instanceMethod yX3_follow, Cond.selects RX3 yX3_follow yX3_follow, Cond.code yX3_follow cX3_follow 5 none, Cond.fieldLink RX3 35 "PhosphorHush$Travel" "sum" "I", Cond.fieldLink RX3 19 "PhosphorHush$Travel" "stops" "[I", Cond.methodLink RX4 190 yX3_sumOfWays, Cond.instanceMethod yX3_sumOfWays, Cond.selects RX3 yX3_sumOfWays yX3_sumOfWays, Cond.code yX3_sumOfWays cX3_sumOfWays 1 (some .int), Cond.methodLink RX4 191 yX3_stop, Cond.instanceMethod yX3_stop, Cond.selects RX3 yX3_stop yX3_stop, Cond.code yX3_stop cX3_stop 2 (some .int)]
def wsX4_leastTravel : List Cond := .code yX4_leastTravel cX4_leastTravel 2 (some .int) :: ((wsX4_leastTravel_r1 ++ (wsX4_leastTravel_r2 ++ wsX4_leastTravel_r3)) ++ wsX40 ++ wsX20 ++ wsX10 ++ wsX30)
def wsX4_longest_r1 : List Cond := [Cond.fieldLink RX4 10 "PhosphorHush" "now" "LPhosphorHush$State;", Cond.fieldLink RX4 41 "PhosphorHush$State" "shown" "LPhosphorHush$Screen;", Cond.methodLink RX4 122 yX1_seenByShutter, Cond.instanceMethod yX1_seenByShutter, Cond.selects RX1 yX1_seenByShutter yX1_seenByShutter, Cond.initialized RX1, Cond.code yX1_seenByShutter cX1_seenByShutter 2 (some .long), Cond.fieldLink RX1 22 "PhosphorHush$Screen" "settings" "[I", Cond.methodLink RX1 104 yX1_startInFrame, Cond.instanceMethod yX1_startInFrame, Cond.selects RX1 yX1_startInFrame yX1_startInFrame, Cond.code yX1_startInFrame cX1_startInFrame 2 (some .int), Cond.methodLink RX1 115 yX1_seen, Cond.instanceMethod yX1_seen, Cond.selects RX1 yX1_seen yX1_seen, Cond.code yX1_seen cX1_seen 7 (some .long), Cond.fieldLink RX1 31 "PhosphorHush$Screen" "size" "I", Cond.fieldLink RX1 15 "PhosphorHush$Screen" "order" "[I", Cond.methodLink RX1 98 yX1_sumOver, Cond.instanceMethod yX1_sumOver, Cond.selects RX1 yX1_sumOver yX1_sumOver, Cond.code yX1_sumOver cX1_sumOver 8 (some .int), Cond.methodLink RX1 89 yX1_litTick, Cond.instanceMethod yX1_litTick]
def wsX4_longest_r2 : List Cond := [Cond.selects RX1 yX1_litTick yX1_litTick, Cond.code yX1_litTick cX1_litTick 3 (some .int), Cond.methodLink RX1 48 yX1_positionOf, Cond.instanceMethod yX1_positionOf, Cond.selects RX1 yX1_positionOf yX1_positionOf, Cond.code yX1_positionOf cX1_positionOf 3 (some .int), Cond.methodLink RX1 83 yX1_arrival, Cond.instanceMethod yX1_arrival, Cond.selects RX1 yX1_arrival yX1_arrival, Cond.code yX1_arrival cX1_arrival 5 (some .int), Cond.static yX4_way, Cond.initialized RX4, Cond.code yX4_way cX4_way 2 (some .int), Cond.methodLink RX4 208 Lib.Math.abs.name, Cond.static Lib.Math.abs.name, Cond.initialized "java/lang/Math", Cond.code Lib.Math.abs.name Lib.Math.abs.code 1 (some .int), Cond.methodLink RX1 92 yX1_shine, Cond.instanceMethod yX1_shine, Cond.selects RX1 yX1_shine yX1_shine, Cond.code yX1_shine cX1_shine 5 (some .int), Cond.fieldLink RX1 9 "PhosphorHush$Screen" "phosphors" "[I", Cond.static yX4_glow, Cond.code yX4_glow cX4_glow 2 (some .int)]
def wsX4_longest_r3 : List Cond := [Cond.methodLink RX4 200 Lib.Math.max.name, Cond.static Lib.Math.max.name, Cond.code Lib.Math.max.name Lib.Math.max.code 2 (some .int), Cond.methodLink RX1 95 yX1_next, Cond.instanceMethod yX1_next, Cond.selects RX1 yX1_next yX1_next, Cond.code yX1_next cX1_next 2 (some .int), Cond.methodLink RX1 101 yX1_mean, Cond.static yX1_mean, Cond.code yX1_mean cX1_mean 2 (some .int), Cond.methodLink RX4 126 yX1_wrong, Cond.instanceMethod yX1_wrong, Cond.selects RX1 yX1_wrong yX1_wrong, Cond.code yX1_wrong cX1_wrong 4 (some .long), Cond.fieldLink RX1 18 "PhosphorHush$Screen" "pictures" "[J"]
def wsX4_longest : List Cond := .code yX4_longest cX4_longest 2 (some .int) :: ((wsX4_longest_r1 ++ (wsX4_longest_r2 ++ wsX4_longest_r3)) ++ wsX40 ++ wsX20 ++ wsX10)
def wsX4_ticks : List Cond := .code yX4_ticks cX4_ticks 3 (some .int) :: ([.methodLink RX4 194 yX4_isPhosphor, .static yX4_isPhosphor, .initialized RX4, .code yX4_isPhosphor cX4_isPhosphor 1 (some .boolean), .methodLink RX4 197 yX4_ticksAbove, .static yX4_ticksAbove, .code yX4_ticksAbove cX4_ticksAbove 3 (some .int), .methodLink RX4 211 yX4_glow, .static yX4_glow, .code yX4_glow cX4_glow 2 (some .int), .methodLink RX4 200 Lib.Math.max.name, .static Lib.Math.max.name, .initialized "java/lang/Math", .code Lib.Math.max.name Lib.Math.max.code 2 (some .int)])
def wsX4_shortestPeriod : List Cond := .code yX4_shortestPeriod cX4_shortestPeriod 2 (some .int) :: ([.fieldLink RX4 10 "PhosphorHush" "now" "LPhosphorHush$State;", .fieldLink RX4 41 "PhosphorHush$State" "shown" "LPhosphorHush$Screen;", .fieldLink RX4 102 "PhosphorHush$Screen" "size" "I", .methodLink RX4 200 Lib.Math.max.name, .static Lib.Math.max.name, .initialized "java/lang/Math", .code Lib.Math.max.name Lib.Math.max.code 2 (some .int), .methodLink RX4 133 yX1_arrival, .instanceMethod yX1_arrival, .selects RX1 yX1_arrival yX1_arrival, .initialized RX1, .code yX1_arrival cX1_arrival 5 (some .int), .fieldLink RX1 31 "PhosphorHush$Screen" "size" "I", .fieldLink RX1 15 "PhosphorHush$Screen" "order" "[I", .fieldLink RX1 22 "PhosphorHush$Screen" "settings" "[I", .static yX4_way, .initialized RX4, .code yX4_way cX4_way 2 (some .int), .methodLink RX4 208 Lib.Math.abs.name, .static Lib.Math.abs.name, .code Lib.Math.abs.name Lib.Math.abs.code 1 (some .int)] ++ wsX40 ++ wsX20 ++ wsX10)
def wsX5_init : List Cond := .code yX5_init cX5_init 1 none :: ([.methodLink RX5 1 objectInit, .instanceMethod objectInit, .code objectInit ⟨#[0xb1]⟩ 1 none, .arrayClass .int, .fieldLink RX5 7 "PhosphorHushModel" "s" "[I", .fieldLink RX5 13 "PhosphorHushModel" "aside" "[I", .fieldLink RX5 16 "PhosphorHushModel" "saved" "[I", .fieldLink RX5 19 "PhosphorHushModel" "text" "[I", .fieldLink RX5 22 "PhosphorHushModel" "numbers" "[I", .fieldLink RX5 25 "PhosphorHushModel" "lit" "[I", .constant RX5 28 (49152), .fieldLink RX5 29 "PhosphorHushModel" "rest" "[I", .fieldLink RX5 32 "PhosphorHushModel" "thrown" "I"] ++ wsX50)
def wsX5_in : List Cond := .code yX5_in cX5_in 3 (some .boolean) :: ([])
def wsX5_isSpot : List Cond := .code yX5_isSpot cX5_isSpot 1 (some .boolean) :: ([.methodLink RX5 36 yX5_in, .static yX5_in, .initialized RX5, .code yX5_in cX5_in 3 (some .boolean)])
def wsX5_isBit : List Cond := .code yX5_isBit cX5_isBit 1 (some .boolean) :: ([.methodLink RX5 36 yX5_in, .static yX5_in, .initialized RX5, .code yX5_in cX5_in 3 (some .boolean)])
def wsX5_size : List Cond := .code yX5_size cX5_size 1 (some .int) :: ([])
def wsX5_act : List Cond := .code yX5_act cX5_act 2 none :: ([.fieldLink RX5 40 "PhosphorHushModel" "savedMany" "I", .fieldLink RX5 16 "PhosphorHushModel" "saved" "[I", .fieldLink RX5 7 "PhosphorHushModel" "s" "[I"] ++ wsX50)
def wsX5_way : List Cond := .code yX5_way cX5_way 2 (some .int) :: ([.methodLink RX5 43 yX5_size, .static yX5_size, .initialized RX5, .code yX5_size cX5_size 1 (some .int)])
def wsX5_halved : List Cond := .code yX5_halved cX5_halved 3 (some .int) :: ([])
def wsX5_fading : List Cond := .code yX5_fading cX5_fading 3 (some .int) :: ([.methodLink RX5 47 yX5_halved, .static yX5_halved, .initialized RX5, .code yX5_halved cX5_halved 3 (some .int)])
def wsX5_spotAt : List Cond := .code yX5_spotAt cX5_spotAt 2 (some .int) :: ([.fieldLink RX5 7 "PhosphorHushModel" "s" "[I"] ++ wsX50)
def wsX5_lastTick : List Cond := .code yX5_lastTick cX5_lastTick 4 (some .int) :: ([.fieldLink RX5 7 "PhosphorHushModel" "s" "[I", .methodLink RX5 50 yX5_spotAt, .instanceMethod yX5_spotAt, .selects RX5 yX5_spotAt yX5_spotAt, .initialized RX5, .code yX5_spotAt cX5_spotAt 2 (some .int), .methodLink RX5 53 yX5_way, .static yX5_way, .code yX5_way cX5_way 2 (some .int), .methodLink RX5 43 yX5_size, .static yX5_size, .code yX5_size cX5_size 1 (some .int)] ++ wsX50)
def wsX5_beam : List Cond := .code yX5_beam cX5_beam 4 none :: ([.fieldLink RX5 25 "PhosphorHushModel" "lit" "[I", .fieldLink RX5 7 "PhosphorHushModel" "s" "[I", .methodLink RX5 50 yX5_spotAt, .instanceMethod yX5_spotAt, .selects RX5 yX5_spotAt yX5_spotAt, .initialized RX5, .code yX5_spotAt cX5_spotAt 2 (some .int), .methodLink RX5 53 yX5_way, .static yX5_way, .code yX5_way cX5_way 2 (some .int), .methodLink RX5 43 yX5_size, .static yX5_size, .code yX5_size cX5_size 1 (some .int)] ++ wsX50)
def wsX5_brightnessAt : List Cond := .code yX5_brightnessAt cX5_brightnessAt 4 (some .int) :: ([.fieldLink RX5 25 "PhosphorHushModel" "lit" "[I", .fieldLink RX5 7 "PhosphorHushModel" "s" "[I", .methodLink RX5 57 yX5_fading, .static yX5_fading, .initialized RX5, .code yX5_fading cX5_fading 3 (some .int), .methodLink RX5 47 yX5_halved, .static yX5_halved, .code yX5_halved cX5_halved 3 (some .int)] ++ wsX50)
def wsX5_eyeMean : List Cond := .code yX5_eyeMean cX5_eyeMean 4 (some .int) :: ([.fieldLink RX5 7 "PhosphorHushModel" "s" "[I", .methodLink RX5 60 yX5_brightnessAt, .instanceMethod yX5_brightnessAt, .selects RX5 yX5_brightnessAt yX5_brightnessAt, .initialized RX5, .code yX5_brightnessAt cX5_brightnessAt 4 (some .int), .fieldLink RX5 25 "PhosphorHushModel" "lit" "[I", .methodLink RX5 57 yX5_fading, .static yX5_fading, .code yX5_fading cX5_fading 3 (some .int), .methodLink RX5 47 yX5_halved, .static yX5_halved, .code yX5_halved cX5_halved 3 (some .int)] ++ wsX50)
def wsX5_shutterMean : List Cond := .code yX5_shutterMean cX5_shutterMean 6 (some .int) :: ([.fieldLink RX5 7 "PhosphorHushModel" "s" "[I", .methodLink RX5 60 yX5_brightnessAt, .instanceMethod yX5_brightnessAt, .selects RX5 yX5_brightnessAt yX5_brightnessAt, .initialized RX5, .code yX5_brightnessAt cX5_brightnessAt 4 (some .int), .fieldLink RX5 25 "PhosphorHushModel" "lit" "[I", .methodLink RX5 57 yX5_fading, .static yX5_fading, .code yX5_fading cX5_fading 3 (some .int), .methodLink RX5 47 yX5_halved, .static yX5_halved, .code yX5_halved cX5_halved 3 (some .int)] ++ wsX50)
def wsX5_isEyed : List Cond := .code yX5_isEyed cX5_isEyed 2 (some .boolean) :: ([.fieldLink RX5 25 "PhosphorHushModel" "lit" "[I", .fieldLink RX5 7 "PhosphorHushModel" "s" "[I", .methodLink RX5 63 yX5_eyeMean, .instanceMethod yX5_eyeMean, .selects RX5 yX5_eyeMean yX5_eyeMean, .initialized RX5, .code yX5_eyeMean cX5_eyeMean 4 (some .int), .methodLink RX5 60 yX5_brightnessAt, .instanceMethod yX5_brightnessAt, .selects RX5 yX5_brightnessAt yX5_brightnessAt, .code yX5_brightnessAt cX5_brightnessAt 4 (some .int), .methodLink RX5 57 yX5_fading, .static yX5_fading, .code yX5_fading cX5_fading 3 (some .int), .methodLink RX5 47 yX5_halved, .static yX5_halved, .code yX5_halved cX5_halved 3 (some .int)] ++ wsX50)
def wsX5_isShot : List Cond := .code yX5_isShot cX5_isShot 4 (some .boolean) :: ([.fieldLink RX5 25 "PhosphorHushModel" "lit" "[I", .fieldLink RX5 7 "PhosphorHushModel" "s" "[I", .methodLink RX5 66 yX5_shutterMean, .instanceMethod yX5_shutterMean, .selects RX5 yX5_shutterMean yX5_shutterMean, .initialized RX5, .code yX5_shutterMean cX5_shutterMean 6 (some .int), .methodLink RX5 60 yX5_brightnessAt, .instanceMethod yX5_brightnessAt, .selects RX5 yX5_brightnessAt yX5_brightnessAt, .code yX5_brightnessAt cX5_brightnessAt 4 (some .int), .methodLink RX5 57 yX5_fading, .static yX5_fading, .code yX5_fading cX5_fading 3 (some .int), .methodLink RX5 47 yX5_halved, .static yX5_halved, .code yX5_halved cX5_halved 3 (some .int)] ++ wsX50)
def wsX5_isShotNow : List Cond := .code yX5_isShotNow cX5_isShotNow 2 (some .boolean) :: ([.fieldLink RX5 7 "PhosphorHushModel" "s" "[I", .methodLink RX5 70 yX5_isShot, .instanceMethod yX5_isShot, .selects RX5 yX5_isShot yX5_isShot, .initialized RX5, .code yX5_isShot cX5_isShot 4 (some .boolean), .fieldLink RX5 25 "PhosphorHushModel" "lit" "[I", .methodLink RX5 66 yX5_shutterMean, .instanceMethod yX5_shutterMean, .selects RX5 yX5_shutterMean yX5_shutterMean, .code yX5_shutterMean cX5_shutterMean 6 (some .int), .methodLink RX5 60 yX5_brightnessAt, .instanceMethod yX5_brightnessAt, .selects RX5 yX5_brightnessAt yX5_brightnessAt, .code yX5_brightnessAt cX5_brightnessAt 4 (some .int), .methodLink RX5 57 yX5_fading, .static yX5_fading, .code yX5_fading cX5_fading 3 (some .int), .methodLink RX5 47 yX5_halved, .static yX5_halved, .code yX5_halved cX5_halved 3 (some .int)] ++ wsX50)
def wsX5_wrongFor : List Cond := .code yX5_wrongFor cX5_wrongFor 5 (some .int) :: ([.fieldLink RX5 7 "PhosphorHushModel" "s" "[I", .methodLink RX5 70 yX5_isShot, .instanceMethod yX5_isShot, .selects RX5 yX5_isShot yX5_isShot, .initialized RX5, .code yX5_isShot cX5_isShot 4 (some .boolean), .fieldLink RX5 25 "PhosphorHushModel" "lit" "[I", .methodLink RX5 66 yX5_shutterMean, .instanceMethod yX5_shutterMean, .selects RX5 yX5_shutterMean yX5_shutterMean, .code yX5_shutterMean cX5_shutterMean 6 (some .int), .methodLink RX5 60 yX5_brightnessAt, .instanceMethod yX5_brightnessAt, .selects RX5 yX5_brightnessAt yX5_brightnessAt, .code yX5_brightnessAt cX5_brightnessAt 4 (some .int), .methodLink RX5 57 yX5_fading, .static yX5_fading, .code yX5_fading cX5_fading 3 (some .int), .methodLink RX5 47 yX5_halved, .static yX5_halved, .code yX5_halved cX5_halved 3 (some .int)] ++ wsX50)
def wsX5_isWrong_r1 : List Cond := [Cond.fieldLink RX5 7 "PhosphorHushModel" "s" "[I", Cond.methodLink RX5 73 yX5_isEyed, Cond.instanceMethod yX5_isEyed, Cond.selects RX5 yX5_isEyed yX5_isEyed, Cond.initialized RX5, Cond.code yX5_isEyed cX5_isEyed 2 (some .boolean), Cond.fieldLink RX5 25 "PhosphorHushModel" "lit" "[I", Cond.methodLink RX5 63 yX5_eyeMean, Cond.instanceMethod yX5_eyeMean, Cond.selects RX5 yX5_eyeMean yX5_eyeMean, Cond.code yX5_eyeMean cX5_eyeMean 4 (some .int), Cond.methodLink RX5 60 yX5_brightnessAt, Cond.instanceMethod yX5_brightnessAt, Cond.selects RX5 yX5_brightnessAt yX5_brightnessAt, Cond.code yX5_brightnessAt cX5_brightnessAt 4 (some .int), Cond.methodLink RX5 57 yX5_fading, Cond.static yX5_fading, Cond.code yX5_fading cX5_fading 3 (some .int), Cond.methodLink RX5 47 yX5_halved, Cond.static yX5_halved, Cond.code yX5_halved cX5_halved 3 (some .int), Cond.methodLink RX5 77 yX5_isShotNow, Cond.instanceMethod yX5_isShotNow, Cond.selects RX5 yX5_isShotNow yX5_isShotNow]
def wsX5_isWrong_r2 : List Cond := [Cond.code yX5_isShotNow cX5_isShotNow 2 (some .boolean), Cond.methodLink RX5 70 yX5_isShot, Cond.instanceMethod yX5_isShot, Cond.selects RX5 yX5_isShot yX5_isShot, Cond.code yX5_isShot cX5_isShot 4 (some .boolean), Cond.methodLink RX5 66 yX5_shutterMean, Cond.instanceMethod yX5_shutterMean, Cond.selects RX5 yX5_shutterMean yX5_shutterMean, Cond.code yX5_shutterMean cX5_shutterMean 6 (some .int)]
def wsX5_isWrong : List Cond := .code yX5_isWrong cX5_isWrong 3 (some .boolean) :: ((wsX5_isWrong_r1 ++ wsX5_isWrong_r2) ++ wsX50)
def wsX5_litMany : List Cond := .code yX5_litMany cX5_litMany 3 (some .int) :: ([.fieldLink RX5 25 "PhosphorHushModel" "lit" "[I", .methodLink RX5 80 yX5_beam, .instanceMethod yX5_beam, .selects RX5 yX5_beam yX5_beam, .initialized RX5, .code yX5_beam cX5_beam 4 none, .fieldLink RX5 7 "PhosphorHushModel" "s" "[I", .methodLink RX5 50 yX5_spotAt, .instanceMethod yX5_spotAt, .selects RX5 yX5_spotAt yX5_spotAt, .code yX5_spotAt cX5_spotAt 2 (some .int), .methodLink RX5 53 yX5_way, .static yX5_way, .code yX5_way cX5_way 2 (some .int), .methodLink RX5 43 yX5_size, .static yX5_size, .code yX5_size cX5_size 1 (some .int)] ++ wsX50)
def wsX5_leastOf : List Cond := .code yX5_leastOf cX5_leastOf 1 (some .int) :: ([])
def wsX5_mostOf : List Cond := .code yX5_mostOf cX5_mostOf 1 (some .int) :: ([])
def wsX5_set : List Cond := .code yX5_set cX5_set 4 (some .int) :: ([.fieldLink RX5 32 "PhosphorHushModel" "thrown" "I", .fieldLink RX5 7 "PhosphorHushModel" "s" "[I", .methodLink RX5 36 yX5_in, .static yX5_in, .initialized RX5, .code yX5_in cX5_in 3 (some .boolean), .methodLink RX5 83 yX5_leastOf, .static yX5_leastOf, .code yX5_leastOf cX5_leastOf 1 (some .int), .methodLink RX5 86 yX5_mostOf, .static yX5_mostOf, .code yX5_mostOf cX5_mostOf 1 (some .int), .methodLink RX5 89 yX5_act, .instanceMethod yX5_act, .selects RX5 yX5_act yX5_act, .code yX5_act cX5_act 2 none, .fieldLink RX5 40 "PhosphorHushModel" "savedMany" "I", .fieldLink RX5 16 "PhosphorHushModel" "saved" "[I"] ++ wsX50)
def wsX5_kindCode : List Cond := .code yX5_kindCode cX5_kindCode 3 (some .int) :: ([.methodLink RX5 92 yX5_isSpot, .static yX5_isSpot, .initialized RX5, .code yX5_isSpot cX5_isSpot 1 (some .boolean), .methodLink RX5 36 yX5_in, .static yX5_in, .code yX5_in cX5_in 3 (some .boolean)])
def wsX5_kindNow : List Cond := .code yX5_kindNow cX5_kindNow 4 (some .int) :: ([.fieldLink RX5 7 "PhosphorHushModel" "s" "[I"] ++ wsX50)
def wsX5_setPhosphor : List Cond := .code yX5_setPhosphor cX5_setPhosphor 4 (some .int) :: ([.fieldLink RX5 32 "PhosphorHushModel" "thrown" "I", .methodLink RX5 95 yX5_kindCode, .instanceMethod yX5_kindCode, .selects RX5 yX5_kindCode yX5_kindCode, .initialized RX5, .code yX5_kindCode cX5_kindCode 3 (some .int), .methodLink RX5 92 yX5_isSpot, .static yX5_isSpot, .code yX5_isSpot cX5_isSpot 1 (some .boolean), .methodLink RX5 36 yX5_in, .static yX5_in, .code yX5_in cX5_in 3 (some .boolean), .methodLink RX5 89 yX5_act, .instanceMethod yX5_act, .selects RX5 yX5_act yX5_act, .code yX5_act cX5_act 2 none, .fieldLink RX5 40 "PhosphorHushModel" "savedMany" "I", .fieldLink RX5 16 "PhosphorHushModel" "saved" "[I", .fieldLink RX5 7 "PhosphorHushModel" "s" "[I", .methodLink RX5 98 yX5_kindNow, .instanceMethod yX5_kindNow, .selects RX5 yX5_kindNow yX5_kindNow, .code yX5_kindNow cX5_kindNow 4 (some .int)] ++ wsX50)
def wsX5_positionOf : List Cond := .code yX5_positionOf cX5_positionOf 4 (some .int) :: ([.fieldLink RX5 7 "PhosphorHushModel" "s" "[I", .methodLink RX5 50 yX5_spotAt, .instanceMethod yX5_spotAt, .selects RX5 yX5_spotAt yX5_spotAt, .initialized RX5, .code yX5_spotAt cX5_spotAt 2 (some .int)] ++ wsX50)
def wsX5_lightCode : List Cond := .code yX5_lightCode cX5_lightCode 2 (some .int) :: ([.fieldLink RX5 7 "PhosphorHushModel" "s" "[I", .methodLink RX5 92 yX5_isSpot, .static yX5_isSpot, .initialized RX5, .code yX5_isSpot cX5_isSpot 1 (some .boolean), .methodLink RX5 36 yX5_in, .static yX5_in, .code yX5_in cX5_in 3 (some .boolean), .methodLink RX5 101 yX5_positionOf, .instanceMethod yX5_positionOf, .selects RX5 yX5_positionOf yX5_positionOf, .code yX5_positionOf cX5_positionOf 4 (some .int), .methodLink RX5 50 yX5_spotAt, .instanceMethod yX5_spotAt, .selects RX5 yX5_spotAt yX5_spotAt, .code yX5_spotAt cX5_spotAt 2 (some .int)] ++ wsX50)
def wsX5_lightNow : List Cond := .code yX5_lightNow cX5_lightNow 2 (some .int) :: ([.fieldLink RX5 7 "PhosphorHushModel" "s" "[I"] ++ wsX50)
def wsX5_light_r1 : List Cond := [Cond.fieldLink RX5 32 "PhosphorHushModel" "thrown" "I", Cond.methodLink RX5 104 yX5_lightCode, Cond.instanceMethod yX5_lightCode, Cond.selects RX5 yX5_lightCode yX5_lightCode, Cond.initialized RX5, Cond.code yX5_lightCode cX5_lightCode 2 (some .int), Cond.fieldLink RX5 7 "PhosphorHushModel" "s" "[I", Cond.methodLink RX5 92 yX5_isSpot, Cond.static yX5_isSpot, Cond.code yX5_isSpot cX5_isSpot 1 (some .boolean), Cond.methodLink RX5 36 yX5_in, Cond.static yX5_in, Cond.code yX5_in cX5_in 3 (some .boolean), Cond.methodLink RX5 101 yX5_positionOf, Cond.instanceMethod yX5_positionOf, Cond.selects RX5 yX5_positionOf yX5_positionOf, Cond.code yX5_positionOf cX5_positionOf 4 (some .int), Cond.methodLink RX5 50 yX5_spotAt, Cond.instanceMethod yX5_spotAt, Cond.selects RX5 yX5_spotAt yX5_spotAt, Cond.code yX5_spotAt cX5_spotAt 2 (some .int), Cond.methodLink RX5 89 yX5_act, Cond.instanceMethod yX5_act, Cond.selects RX5 yX5_act yX5_act]
def wsX5_light_r2 : List Cond := [Cond.code yX5_act cX5_act 2 none, Cond.fieldLink RX5 40 "PhosphorHushModel" "savedMany" "I", Cond.fieldLink RX5 16 "PhosphorHushModel" "saved" "[I", Cond.methodLink RX5 107 yX5_lightNow, Cond.instanceMethod yX5_lightNow, Cond.selects RX5 yX5_lightNow yX5_lightNow, Cond.code yX5_lightNow cX5_lightNow 2 (some .int)]
def wsX5_light : List Cond := .code yX5_light cX5_light 3 (some .int) :: ((wsX5_light_r1 ++ wsX5_light_r2) ++ wsX50)
def wsX5_darkCode : List Cond := .code yX5_darkCode cX5_darkCode 2 (some .int) :: ([.methodLink RX5 92 yX5_isSpot, .static yX5_isSpot, .initialized RX5, .code yX5_isSpot cX5_isSpot 1 (some .boolean), .methodLink RX5 36 yX5_in, .static yX5_in, .code yX5_in cX5_in 3 (some .boolean), .methodLink RX5 101 yX5_positionOf, .instanceMethod yX5_positionOf, .selects RX5 yX5_positionOf yX5_positionOf, .code yX5_positionOf cX5_positionOf 4 (some .int), .fieldLink RX5 7 "PhosphorHushModel" "s" "[I", .methodLink RX5 50 yX5_spotAt, .instanceMethod yX5_spotAt, .selects RX5 yX5_spotAt yX5_spotAt, .code yX5_spotAt cX5_spotAt 2 (some .int)] ++ wsX50)
def wsX5_darkNow : List Cond := .code yX5_darkNow cX5_darkNow 4 (some .int) :: ([.fieldLink RX5 7 "PhosphorHushModel" "s" "[I", .methodLink RX5 101 yX5_positionOf, .instanceMethod yX5_positionOf, .selects RX5 yX5_positionOf yX5_positionOf, .initialized RX5, .code yX5_positionOf cX5_positionOf 4 (some .int), .methodLink RX5 50 yX5_spotAt, .instanceMethod yX5_spotAt, .selects RX5 yX5_spotAt yX5_spotAt, .code yX5_spotAt cX5_spotAt 2 (some .int)] ++ wsX50)
def wsX5_darken_r1 : List Cond := [Cond.fieldLink RX5 32 "PhosphorHushModel" "thrown" "I", Cond.methodLink RX5 110 yX5_darkCode, Cond.instanceMethod yX5_darkCode, Cond.selects RX5 yX5_darkCode yX5_darkCode, Cond.initialized RX5, Cond.code yX5_darkCode cX5_darkCode 2 (some .int), Cond.methodLink RX5 92 yX5_isSpot, Cond.static yX5_isSpot, Cond.code yX5_isSpot cX5_isSpot 1 (some .boolean), Cond.methodLink RX5 36 yX5_in, Cond.static yX5_in, Cond.code yX5_in cX5_in 3 (some .boolean), Cond.methodLink RX5 101 yX5_positionOf, Cond.instanceMethod yX5_positionOf, Cond.selects RX5 yX5_positionOf yX5_positionOf, Cond.code yX5_positionOf cX5_positionOf 4 (some .int), Cond.fieldLink RX5 7 "PhosphorHushModel" "s" "[I", Cond.methodLink RX5 50 yX5_spotAt, Cond.instanceMethod yX5_spotAt, Cond.selects RX5 yX5_spotAt yX5_spotAt, Cond.code yX5_spotAt cX5_spotAt 2 (some .int), Cond.methodLink RX5 89 yX5_act, Cond.instanceMethod yX5_act, Cond.selects RX5 yX5_act yX5_act]
def wsX5_darken_r2 : List Cond := [Cond.code yX5_act cX5_act 2 none, Cond.fieldLink RX5 40 "PhosphorHushModel" "savedMany" "I", Cond.fieldLink RX5 16 "PhosphorHushModel" "saved" "[I", Cond.methodLink RX5 113 yX5_darkNow, Cond.instanceMethod yX5_darkNow, Cond.selects RX5 yX5_darkNow yX5_darkNow, Cond.code yX5_darkNow cX5_darkNow 4 (some .int)]
def wsX5_darken : List Cond := .code yX5_darken cX5_darken 3 (some .int) :: ((wsX5_darken_r1 ++ wsX5_darken_r2) ++ wsX50)
def wsX5_swapCode : List Cond := .code yX5_swapCode cX5_swapCode 3 (some .int) :: ([.fieldLink RX5 7 "PhosphorHushModel" "s" "[I", .methodLink RX5 36 yX5_in, .static yX5_in, .initialized RX5, .code yX5_in cX5_in 3 (some .boolean)] ++ wsX50)
def wsX5_changePlaces : List Cond := .code yX5_changePlaces cX5_changePlaces 4 none :: ([.fieldLink RX5 7 "PhosphorHushModel" "s" "[I"] ++ wsX50)
def wsX5_swapNow_r1 : List Cond := [Cond.methodLink RX5 116 yX5_changePlaces, Cond.instanceMethod yX5_changePlaces, Cond.selects RX5 yX5_changePlaces yX5_changePlaces, Cond.initialized RX5, Cond.code yX5_changePlaces cX5_changePlaces 4 none, Cond.fieldLink RX5 7 "PhosphorHushModel" "s" "[I", Cond.methodLink RX5 120 yX5_litMany, Cond.instanceMethod yX5_litMany, Cond.selects RX5 yX5_litMany yX5_litMany, Cond.code yX5_litMany cX5_litMany 3 (some .int), Cond.fieldLink RX5 25 "PhosphorHushModel" "lit" "[I", Cond.methodLink RX5 80 yX5_beam, Cond.instanceMethod yX5_beam, Cond.selects RX5 yX5_beam yX5_beam, Cond.code yX5_beam cX5_beam 4 none, Cond.methodLink RX5 50 yX5_spotAt, Cond.instanceMethod yX5_spotAt, Cond.selects RX5 yX5_spotAt yX5_spotAt, Cond.code yX5_spotAt cX5_spotAt 2 (some .int), Cond.methodLink RX5 53 yX5_way, Cond.static yX5_way, Cond.code yX5_way cX5_way 2 (some .int), Cond.methodLink RX5 43 yX5_size, Cond.static yX5_size]
def wsX5_swapNow_r2 : List Cond := [Cond.code yX5_size cX5_size 1 (some .int)]
def wsX5_swapNow : List Cond := .code yX5_swapNow cX5_swapNow 3 (some .int) :: ((wsX5_swapNow_r1 ++ wsX5_swapNow_r2) ++ wsX50)
def wsX5_exchange_r1 : List Cond := [Cond.fieldLink RX5 32 "PhosphorHushModel" "thrown" "I", Cond.methodLink RX5 124 yX5_swapCode, Cond.instanceMethod yX5_swapCode, Cond.selects RX5 yX5_swapCode yX5_swapCode, Cond.initialized RX5, Cond.code yX5_swapCode cX5_swapCode 3 (some .int), Cond.fieldLink RX5 7 "PhosphorHushModel" "s" "[I", Cond.methodLink RX5 36 yX5_in, Cond.static yX5_in, Cond.code yX5_in cX5_in 3 (some .boolean), Cond.methodLink RX5 89 yX5_act, Cond.instanceMethod yX5_act, Cond.selects RX5 yX5_act yX5_act, Cond.code yX5_act cX5_act 2 none, Cond.fieldLink RX5 40 "PhosphorHushModel" "savedMany" "I", Cond.fieldLink RX5 16 "PhosphorHushModel" "saved" "[I", Cond.methodLink RX5 127 yX5_swapNow, Cond.instanceMethod yX5_swapNow, Cond.selects RX5 yX5_swapNow yX5_swapNow, Cond.code yX5_swapNow cX5_swapNow 3 (some .int), Cond.methodLink RX5 116 yX5_changePlaces, Cond.instanceMethod yX5_changePlaces, Cond.selects RX5 yX5_changePlaces yX5_changePlaces, Cond.code yX5_changePlaces cX5_changePlaces 4 none]
def wsX5_exchange_r2 : List Cond := [Cond.methodLink RX5 120 yX5_litMany, Cond.instanceMethod yX5_litMany, Cond.selects RX5 yX5_litMany yX5_litMany, Cond.code yX5_litMany cX5_litMany 3 (some .int), Cond.fieldLink RX5 25 "PhosphorHushModel" "lit" "[I", Cond.methodLink RX5 80 yX5_beam, Cond.instanceMethod yX5_beam, Cond.selects RX5 yX5_beam yX5_beam, Cond.code yX5_beam cX5_beam 4 none, Cond.methodLink RX5 50 yX5_spotAt, Cond.instanceMethod yX5_spotAt, Cond.selects RX5 yX5_spotAt yX5_spotAt, Cond.code yX5_spotAt cX5_spotAt 2 (some .int), Cond.methodLink RX5 53 yX5_way, Cond.static yX5_way, Cond.code yX5_way cX5_way 2 (some .int), Cond.methodLink RX5 43 yX5_size, Cond.static yX5_size, Cond.code yX5_size cX5_size 1 (some .int)]
def wsX5_exchange : List Cond := .code yX5_exchange cX5_exchange 4 (some .int) :: ((wsX5_exchange_r1 ++ wsX5_exchange_r2) ++ wsX50)
def wsX5_darkTick : List Cond := .code yX5_darkTick cX5_darkTick 2 (some .int) :: ([.methodLink RX5 57 yX5_fading, .static yX5_fading, .initialized RX5, .code yX5_fading cX5_fading 3 (some .int), .methodLink RX5 47 yX5_halved, .static yX5_halved, .code yX5_halved cX5_halved 3 (some .int)])
def wsX5_keyOf : List Cond := .code yX5_keyOf cX5_keyOf 4 (some .int) :: ([.fieldLink RX5 7 "PhosphorHushModel" "s" "[I", .methodLink RX5 53 yX5_way, .static yX5_way, .initialized RX5, .code yX5_way cX5_way 2 (some .int), .methodLink RX5 43 yX5_size, .static yX5_size, .code yX5_size cX5_size 1 (some .int), .methodLink RX5 130 yX5_darkTick, .static yX5_darkTick, .code yX5_darkTick cX5_darkTick 2 (some .int), .methodLink RX5 57 yX5_fading, .static yX5_fading, .code yX5_fading cX5_fading 3 (some .int), .methodLink RX5 47 yX5_halved, .static yX5_halved, .code yX5_halved cX5_halved 3 (some .int)] ++ wsX50)
def wsX5_sortCode : List Cond := .code yX5_sortCode cX5_sortCode 2 (some .int) :: ([.methodLink RX5 36 yX5_in, .static yX5_in, .initialized RX5, .code yX5_in cX5_in 3 (some .boolean)])
def wsX5_sortNow_r1 : List Cond := [Cond.fieldLink RX5 7 "PhosphorHushModel" "s" "[I", Cond.methodLink RX5 50 yX5_spotAt, Cond.instanceMethod yX5_spotAt, Cond.selects RX5 yX5_spotAt yX5_spotAt, Cond.initialized RX5, Cond.code yX5_spotAt cX5_spotAt 2 (some .int), Cond.methodLink RX5 133 yX5_keyOf, Cond.instanceMethod yX5_keyOf, Cond.selects RX5 yX5_keyOf yX5_keyOf, Cond.code yX5_keyOf cX5_keyOf 4 (some .int), Cond.methodLink RX5 53 yX5_way, Cond.static yX5_way, Cond.code yX5_way cX5_way 2 (some .int), Cond.methodLink RX5 43 yX5_size, Cond.static yX5_size, Cond.code yX5_size cX5_size 1 (some .int), Cond.methodLink RX5 130 yX5_darkTick, Cond.static yX5_darkTick, Cond.code yX5_darkTick cX5_darkTick 2 (some .int), Cond.methodLink RX5 57 yX5_fading, Cond.static yX5_fading, Cond.code yX5_fading cX5_fading 3 (some .int), Cond.methodLink RX5 47 yX5_halved, Cond.static yX5_halved]
def wsX5_sortNow_r2 : List Cond := [Cond.code yX5_halved cX5_halved 3 (some .int), Cond.methodLink RX5 116 yX5_changePlaces, Cond.instanceMethod yX5_changePlaces, Cond.selects RX5 yX5_changePlaces yX5_changePlaces, Cond.code yX5_changePlaces cX5_changePlaces 4 none, Cond.methodLink RX5 120 yX5_litMany, Cond.instanceMethod yX5_litMany, Cond.selects RX5 yX5_litMany yX5_litMany, Cond.code yX5_litMany cX5_litMany 3 (some .int), Cond.fieldLink RX5 25 "PhosphorHushModel" "lit" "[I", Cond.methodLink RX5 80 yX5_beam, Cond.instanceMethod yX5_beam, Cond.selects RX5 yX5_beam yX5_beam, Cond.code yX5_beam cX5_beam 4 none]
def wsX5_sortNow : List Cond := .code yX5_sortNow cX5_sortNow 6 (some .int) :: ((wsX5_sortNow_r1 ++ wsX5_sortNow_r2) ++ wsX50)
def wsX5_sort_r1 : List Cond := [Cond.fieldLink RX5 32 "PhosphorHushModel" "thrown" "I", Cond.methodLink RX5 136 yX5_sortCode, Cond.instanceMethod yX5_sortCode, Cond.selects RX5 yX5_sortCode yX5_sortCode, Cond.initialized RX5, Cond.code yX5_sortCode cX5_sortCode 2 (some .int), Cond.methodLink RX5 36 yX5_in, Cond.static yX5_in, Cond.code yX5_in cX5_in 3 (some .boolean), Cond.methodLink RX5 89 yX5_act, Cond.instanceMethod yX5_act, Cond.selects RX5 yX5_act yX5_act, Cond.code yX5_act cX5_act 2 none, Cond.fieldLink RX5 40 "PhosphorHushModel" "savedMany" "I", Cond.fieldLink RX5 16 "PhosphorHushModel" "saved" "[I", Cond.fieldLink RX5 7 "PhosphorHushModel" "s" "[I", Cond.methodLink RX5 139 yX5_sortNow, Cond.instanceMethod yX5_sortNow, Cond.selects RX5 yX5_sortNow yX5_sortNow, Cond.code yX5_sortNow cX5_sortNow 6 (some .int), Cond.methodLink RX5 50 yX5_spotAt, Cond.instanceMethod yX5_spotAt, Cond.selects RX5 yX5_spotAt yX5_spotAt, Cond.code yX5_spotAt cX5_spotAt 2 (some .int)]
def wsX5_sort_r2 : List Cond := [Cond.methodLink RX5 133 yX5_keyOf, Cond.instanceMethod yX5_keyOf, Cond.selects RX5 yX5_keyOf yX5_keyOf, Cond.code yX5_keyOf cX5_keyOf 4 (some .int), Cond.methodLink RX5 53 yX5_way, Cond.static yX5_way, Cond.code yX5_way cX5_way 2 (some .int), Cond.methodLink RX5 43 yX5_size, Cond.static yX5_size, Cond.code yX5_size cX5_size 1 (some .int), Cond.methodLink RX5 130 yX5_darkTick, Cond.static yX5_darkTick, Cond.code yX5_darkTick cX5_darkTick 2 (some .int), Cond.methodLink RX5 57 yX5_fading, Cond.static yX5_fading, Cond.code yX5_fading cX5_fading 3 (some .int), Cond.methodLink RX5 47 yX5_halved, Cond.static yX5_halved, Cond.code yX5_halved cX5_halved 3 (some .int), Cond.methodLink RX5 116 yX5_changePlaces, Cond.instanceMethod yX5_changePlaces, Cond.selects RX5 yX5_changePlaces yX5_changePlaces, Cond.code yX5_changePlaces cX5_changePlaces 4 none, Cond.methodLink RX5 120 yX5_litMany]
def wsX5_sort_r3 : List Cond := [Cond.instanceMethod yX5_litMany, Cond.selects RX5 yX5_litMany yX5_litMany, Cond.code yX5_litMany cX5_litMany 3 (some .int), Cond.fieldLink RX5 25 "PhosphorHushModel" "lit" "[I", Cond.methodLink RX5 80 yX5_beam, Cond.instanceMethod yX5_beam, Cond.selects RX5 yX5_beam yX5_beam, Cond.code yX5_beam cX5_beam 4 none]
def wsX5_sort : List Cond := .code yX5_sort cX5_sort 3 (some .int) :: ((wsX5_sort_r1 ++ (wsX5_sort_r2 ++ wsX5_sort_r3)) ++ wsX50)
def wsX5_inPicture : List Cond := .code yX5_inPicture cX5_inPicture 4 (some .int) :: ([.fieldLink RX5 7 "PhosphorHushModel" "s" "[I"] ++ wsX50)
def wsX5_drawNow : List Cond := .code yX5_drawNow cX5_drawNow 4 (some .int) :: ([.fieldLink RX5 7 "PhosphorHushModel" "s" "[I", .methodLink RX5 142 yX5_inPicture, .instanceMethod yX5_inPicture, .selects RX5 yX5_inPicture yX5_inPicture, .initialized RX5, .code yX5_inPicture cX5_inPicture 4 (some .int)] ++ wsX50)
def wsX5_draw_r1 : List Cond := [Cond.fieldLink RX5 32 "PhosphorHushModel" "thrown" "I", Cond.methodLink RX5 145 yX5_isBit, Cond.static yX5_isBit, Cond.initialized RX5, Cond.code yX5_isBit cX5_isBit 1 (some .boolean), Cond.methodLink RX5 36 yX5_in, Cond.static yX5_in, Cond.code yX5_in cX5_in 3 (some .boolean), Cond.methodLink RX5 92 yX5_isSpot, Cond.static yX5_isSpot, Cond.code yX5_isSpot cX5_isSpot 1 (some .boolean), Cond.methodLink RX5 89 yX5_act, Cond.instanceMethod yX5_act, Cond.selects RX5 yX5_act yX5_act, Cond.code yX5_act cX5_act 2 none, Cond.fieldLink RX5 40 "PhosphorHushModel" "savedMany" "I", Cond.fieldLink RX5 16 "PhosphorHushModel" "saved" "[I", Cond.fieldLink RX5 7 "PhosphorHushModel" "s" "[I", Cond.methodLink RX5 148 yX5_drawNow, Cond.instanceMethod yX5_drawNow, Cond.selects RX5 yX5_drawNow yX5_drawNow, Cond.code yX5_drawNow cX5_drawNow 4 (some .int), Cond.methodLink RX5 142 yX5_inPicture, Cond.instanceMethod yX5_inPicture]
def wsX5_draw_r2 : List Cond := [Cond.selects RX5 yX5_inPicture yX5_inPicture, Cond.code yX5_inPicture cX5_inPicture 4 (some .int)]
def wsX5_draw : List Cond := .code yX5_draw cX5_draw 4 (some .int) :: ((wsX5_draw_r1 ++ wsX5_draw_r2) ++ wsX50)
def wsX5_slotAt : List Cond := .code yX5_slotAt cX5_slotAt 1 (some .int) :: ([])
def wsX5_take : List Cond := .code yX5_take cX5_take 3 (some .int) :: ([.fieldLink RX5 32 "PhosphorHushModel" "thrown" "I", .fieldLink RX5 7 "PhosphorHushModel" "s" "[I", .methodLink RX5 145 yX5_isBit, .static yX5_isBit, .initialized RX5, .code yX5_isBit cX5_isBit 1 (some .boolean), .methodLink RX5 36 yX5_in, .static yX5_in, .code yX5_in cX5_in 3 (some .boolean), .methodLink RX5 89 yX5_act, .instanceMethod yX5_act, .selects RX5 yX5_act yX5_act, .code yX5_act cX5_act 2 none, .fieldLink RX5 40 "PhosphorHushModel" "savedMany" "I", .fieldLink RX5 16 "PhosphorHushModel" "saved" "[I", .methodLink RX5 151 yX5_slotAt, .static yX5_slotAt, .code yX5_slotAt cX5_slotAt 1 (some .int)] ++ wsX50)
def wsX5_restore : List Cond := .code yX5_restore cX5_restore 3 (some .int) :: ([.fieldLink RX5 32 "PhosphorHushModel" "thrown" "I", .fieldLink RX5 7 "PhosphorHushModel" "s" "[I", .methodLink RX5 145 yX5_isBit, .static yX5_isBit, .initialized RX5, .code yX5_isBit cX5_isBit 1 (some .boolean), .methodLink RX5 36 yX5_in, .static yX5_in, .code yX5_in cX5_in 3 (some .boolean), .methodLink RX5 151 yX5_slotAt, .static yX5_slotAt, .code yX5_slotAt cX5_slotAt 1 (some .int), .methodLink RX5 89 yX5_act, .instanceMethod yX5_act, .selects RX5 yX5_act yX5_act, .code yX5_act cX5_act 2 none, .fieldLink RX5 40 "PhosphorHushModel" "savedMany" "I", .fieldLink RX5 16 "PhosphorHushModel" "saved" "[I"] ++ wsX50)
def wsX5_undo : List Cond := .code yX5_undo cX5_undo 2 (some .int) :: ([.fieldLink RX5 32 "PhosphorHushModel" "thrown" "I", .fieldLink RX5 40 "PhosphorHushModel" "savedMany" "I", .fieldLink RX5 7 "PhosphorHushModel" "s" "[I", .fieldLink RX5 16 "PhosphorHushModel" "saved" "[I"] ++ wsX50)
def wsX5_append : List Cond := .code yX5_append cX5_append 2 (some .int) :: ([.fieldLink RX5 32 "PhosphorHushModel" "thrown" "I", .fieldLink RX5 154 "PhosphorHushModel" "length" "I", .fieldLink RX5 19 "PhosphorHushModel" "text" "[I", .methodLink RX5 36 yX5_in, .static yX5_in, .initialized RX5, .code yX5_in cX5_in 3 (some .boolean)] ++ wsX50)
def wsX5_clearText : List Cond := .code yX5_clearText cX5_clearText 2 (some .int) :: ([.fieldLink RX5 32 "PhosphorHushModel" "thrown" "I", .fieldLink RX5 154 "PhosphorHushModel" "length" "I"] ++ wsX50)
def wsX5_sign : List Cond := .code yX5_sign cX5_sign 2 (some .int) :: ([.fieldLink RX5 154 "PhosphorHushModel" "length" "I", .fieldLink RX5 19 "PhosphorHushModel" "text" "[I"] ++ wsX50)
def wsX5_next : List Cond := .code yX5_next cX5_next 1 none :: ([.fieldLink RX5 157 "PhosphorHushModel" "till" "I", .fieldLink RX5 160 "PhosphorHushModel" "from" "I", .fieldLink RX5 166 "PhosphorHushModel" "token" "I", .fieldLink RX5 154 "PhosphorHushModel" "length" "I", .methodLink RX5 163 yX5_sign, .instanceMethod yX5_sign, .selects RX5 yX5_sign yX5_sign, .initialized RX5, .code yX5_sign cX5_sign 2 (some .int), .fieldLink RX5 19 "PhosphorHushModel" "text" "[I", .methodLink RX5 36 yX5_in, .static yX5_in, .code yX5_in cX5_in 3 (some .boolean)] ++ wsX50)
def wsX5_fail : List Cond := .code yX5_fail cX5_fail 2 none :: ([.fieldLink RX5 169 "PhosphorHushModel" "fault" "I"] ++ wsX50)
def wsX5_spelled : List Cond := .code yX5_spelled cX5_spelled 7 (some .int) :: ([])
def wsX5_letterOf : List Cond := .code yX5_letterOf cX5_letterOf 2 (some .int) :: ([.methodLink RX5 172 yX5_spelled, .static yX5_spelled, .initialized RX5, .code yX5_spelled cX5_spelled 7 (some .int)])
def wsX5_isWord : List Cond := .code yX5_isWord cX5_isWord 4 (some .boolean) :: ([.fieldLink RX5 157 "PhosphorHushModel" "till" "I", .fieldLink RX5 160 "PhosphorHushModel" "from" "I", .methodLink RX5 176 yX5_letterOf, .static yX5_letterOf, .initialized RX5, .code yX5_letterOf cX5_letterOf 2 (some .int), .methodLink RX5 172 yX5_spelled, .static yX5_spelled, .code yX5_spelled cX5_spelled 7 (some .int), .methodLink RX5 163 yX5_sign, .instanceMethod yX5_sign, .selects RX5 yX5_sign yX5_sign, .code yX5_sign cX5_sign 2 (some .int), .fieldLink RX5 154 "PhosphorHushModel" "length" "I", .fieldLink RX5 19 "PhosphorHushModel" "text" "[I"] ++ wsX50)
def wsX5_wordHere : List Cond := .code yX5_wordHere cX5_wordHere 2 (some .int) :: ([.fieldLink RX5 166 "PhosphorHushModel" "token" "I", .methodLink RX5 179 yX5_isWord, .instanceMethod yX5_isWord, .selects RX5 yX5_isWord yX5_isWord, .initialized RX5, .code yX5_isWord cX5_isWord 4 (some .boolean), .fieldLink RX5 157 "PhosphorHushModel" "till" "I", .fieldLink RX5 160 "PhosphorHushModel" "from" "I", .methodLink RX5 176 yX5_letterOf, .static yX5_letterOf, .code yX5_letterOf cX5_letterOf 2 (some .int), .methodLink RX5 172 yX5_spelled, .static yX5_spelled, .code yX5_spelled cX5_spelled 7 (some .int), .methodLink RX5 163 yX5_sign, .instanceMethod yX5_sign, .selects RX5 yX5_sign yX5_sign, .code yX5_sign cX5_sign 2 (some .int), .fieldLink RX5 154 "PhosphorHushModel" "length" "I", .fieldLink RX5 19 "PhosphorHushModel" "text" "[I"] ++ wsX50)
def wsX5_readNumber : List Cond := .code yX5_readNumber cX5_readNumber 4 none :: ([.fieldLink RX5 166 "PhosphorHushModel" "token" "I", .fieldLink RX5 157 "PhosphorHushModel" "till" "I", .fieldLink RX5 160 "PhosphorHushModel" "from" "I", .fieldLink RX5 22 "PhosphorHushModel" "numbers" "[I", .methodLink RX5 163 yX5_sign, .instanceMethod yX5_sign, .selects RX5 yX5_sign yX5_sign, .initialized RX5, .code yX5_sign cX5_sign 2 (some .int), .fieldLink RX5 154 "PhosphorHushModel" "length" "I", .fieldLink RX5 19 "PhosphorHushModel" "text" "[I", .methodLink RX5 182 yX5_fail, .instanceMethod yX5_fail, .selects RX5 yX5_fail yX5_fail, .code yX5_fail cX5_fail 2 none, .fieldLink RX5 169 "PhosphorHushModel" "fault" "I", .methodLink RX5 186 yX5_next, .instanceMethod yX5_next, .selects RX5 yX5_next yX5_next, .code yX5_next cX5_next 1 none, .methodLink RX5 36 yX5_in, .static yX5_in, .code yX5_in cX5_in 3 (some .boolean)] ++ wsX50)
def wsX5_codeOf_r1 : List Cond := [Cond.methodLink RX5 104 yX5_lightCode, Cond.instanceMethod yX5_lightCode, Cond.selects RX5 yX5_lightCode yX5_lightCode, Cond.initialized RX5, Cond.code yX5_lightCode cX5_lightCode 2 (some .int), Cond.fieldLink RX5 7 "PhosphorHushModel" "s" "[I", Cond.methodLink RX5 92 yX5_isSpot, Cond.static yX5_isSpot, Cond.code yX5_isSpot cX5_isSpot 1 (some .boolean), Cond.methodLink RX5 36 yX5_in, Cond.static yX5_in, Cond.code yX5_in cX5_in 3 (some .boolean), Cond.methodLink RX5 101 yX5_positionOf, Cond.instanceMethod yX5_positionOf, Cond.selects RX5 yX5_positionOf yX5_positionOf, Cond.code yX5_positionOf cX5_positionOf 4 (some .int), Cond.methodLink RX5 50 yX5_spotAt, Cond.instanceMethod yX5_spotAt, Cond.selects RX5 yX5_spotAt yX5_spotAt, Cond.code yX5_spotAt cX5_spotAt 2 (some .int), Cond.methodLink RX5 110 yX5_darkCode, Cond.instanceMethod yX5_darkCode, Cond.selects RX5 yX5_darkCode yX5_darkCode, Cond.code yX5_darkCode cX5_darkCode 2 (some .int)]
def wsX5_codeOf_r2 : List Cond := [Cond.methodLink RX5 95 yX5_kindCode, Cond.instanceMethod yX5_kindCode, Cond.selects RX5 yX5_kindCode yX5_kindCode, Cond.code yX5_kindCode cX5_kindCode 3 (some .int), Cond.methodLink RX5 136 yX5_sortCode, Cond.instanceMethod yX5_sortCode, Cond.selects RX5 yX5_sortCode yX5_sortCode, Cond.code yX5_sortCode cX5_sortCode 2 (some .int), Cond.methodLink RX5 124 yX5_swapCode, Cond.instanceMethod yX5_swapCode, Cond.selects RX5 yX5_swapCode yX5_swapCode, Cond.code yX5_swapCode cX5_swapCode 3 (some .int)]
def wsX5_codeOf : List Cond := .code yX5_codeOf cX5_codeOf 4 (some .int) :: ((wsX5_codeOf_r1 ++ wsX5_codeOf_r2) ++ wsX50)
def wsX5_carry_r1 : List Cond := [Cond.methodLink RX5 107 yX5_lightNow, Cond.instanceMethod yX5_lightNow, Cond.selects RX5 yX5_lightNow yX5_lightNow, Cond.initialized RX5, Cond.code yX5_lightNow cX5_lightNow 2 (some .int), Cond.fieldLink RX5 7 "PhosphorHushModel" "s" "[I", Cond.methodLink RX5 113 yX5_darkNow, Cond.instanceMethod yX5_darkNow, Cond.selects RX5 yX5_darkNow yX5_darkNow, Cond.code yX5_darkNow cX5_darkNow 4 (some .int), Cond.methodLink RX5 101 yX5_positionOf, Cond.instanceMethod yX5_positionOf, Cond.selects RX5 yX5_positionOf yX5_positionOf, Cond.code yX5_positionOf cX5_positionOf 4 (some .int), Cond.methodLink RX5 50 yX5_spotAt, Cond.instanceMethod yX5_spotAt, Cond.selects RX5 yX5_spotAt yX5_spotAt, Cond.code yX5_spotAt cX5_spotAt 2 (some .int), Cond.methodLink RX5 98 yX5_kindNow, Cond.instanceMethod yX5_kindNow, Cond.selects RX5 yX5_kindNow yX5_kindNow, Cond.code yX5_kindNow cX5_kindNow 4 (some .int), Cond.methodLink RX5 139 yX5_sortNow, Cond.instanceMethod yX5_sortNow]
def wsX5_carry_r2 : List Cond := [Cond.selects RX5 yX5_sortNow yX5_sortNow, Cond.code yX5_sortNow cX5_sortNow 6 (some .int), Cond.methodLink RX5 133 yX5_keyOf, Cond.instanceMethod yX5_keyOf, Cond.selects RX5 yX5_keyOf yX5_keyOf, Cond.code yX5_keyOf cX5_keyOf 4 (some .int), Cond.methodLink RX5 53 yX5_way, Cond.static yX5_way, Cond.code yX5_way cX5_way 2 (some .int), Cond.methodLink RX5 43 yX5_size, Cond.static yX5_size, Cond.code yX5_size cX5_size 1 (some .int), Cond.methodLink RX5 130 yX5_darkTick, Cond.static yX5_darkTick, Cond.code yX5_darkTick cX5_darkTick 2 (some .int), Cond.methodLink RX5 57 yX5_fading, Cond.static yX5_fading, Cond.code yX5_fading cX5_fading 3 (some .int), Cond.methodLink RX5 47 yX5_halved, Cond.static yX5_halved, Cond.code yX5_halved cX5_halved 3 (some .int), Cond.methodLink RX5 116 yX5_changePlaces, Cond.instanceMethod yX5_changePlaces, Cond.selects RX5 yX5_changePlaces yX5_changePlaces]
def wsX5_carry_r3 : List Cond := [Cond.code yX5_changePlaces cX5_changePlaces 4 none, Cond.methodLink RX5 120 yX5_litMany, Cond.instanceMethod yX5_litMany, Cond.selects RX5 yX5_litMany yX5_litMany, Cond.code yX5_litMany cX5_litMany 3 (some .int), Cond.fieldLink RX5 25 "PhosphorHushModel" "lit" "[I", Cond.methodLink RX5 80 yX5_beam, Cond.instanceMethod yX5_beam, Cond.selects RX5 yX5_beam yX5_beam, Cond.code yX5_beam cX5_beam 4 none, Cond.methodLink RX5 127 yX5_swapNow, Cond.instanceMethod yX5_swapNow, Cond.selects RX5 yX5_swapNow yX5_swapNow, Cond.code yX5_swapNow cX5_swapNow 3 (some .int), Cond.methodLink RX5 148 yX5_drawNow, Cond.instanceMethod yX5_drawNow, Cond.selects RX5 yX5_drawNow yX5_drawNow, Cond.code yX5_drawNow cX5_drawNow 4 (some .int), Cond.methodLink RX5 142 yX5_inPicture, Cond.instanceMethod yX5_inPicture, Cond.selects RX5 yX5_inPicture yX5_inPicture, Cond.code yX5_inPicture cX5_inPicture 4 (some .int)]
def wsX5_carry : List Cond := .code yX5_carry cX5_carry 4 (some .int) :: ((wsX5_carry_r1 ++ (wsX5_carry_r2 ++ wsX5_carry_r3)) ++ wsX50)
def wsX5_command_r1 : List Cond := [Cond.fieldLink RX5 160 "PhosphorHushModel" "from" "I", Cond.fieldLink RX5 169 "PhosphorHushModel" "fault" "I", Cond.fieldLink RX5 166 "PhosphorHushModel" "token" "I", Cond.fieldLink RX5 22 "PhosphorHushModel" "numbers" "[I", Cond.methodLink RX5 189 yX5_wordHere, Cond.instanceMethod yX5_wordHere, Cond.selects RX5 yX5_wordHere yX5_wordHere, Cond.initialized RX5, Cond.code yX5_wordHere cX5_wordHere 2 (some .int), Cond.methodLink RX5 179 yX5_isWord, Cond.instanceMethod yX5_isWord, Cond.selects RX5 yX5_isWord yX5_isWord, Cond.code yX5_isWord cX5_isWord 4 (some .boolean), Cond.fieldLink RX5 157 "PhosphorHushModel" "till" "I", Cond.methodLink RX5 176 yX5_letterOf, Cond.static yX5_letterOf, Cond.code yX5_letterOf cX5_letterOf 2 (some .int), Cond.methodLink RX5 172 yX5_spelled, Cond.static yX5_spelled, Cond.code yX5_spelled cX5_spelled 7 (some .int), Cond.methodLink RX5 163 yX5_sign, Cond.instanceMethod yX5_sign, Cond.selects RX5 yX5_sign yX5_sign, Cond.code yX5_sign cX5_sign 2 (some .int)]
def wsX5_command_r2 : List Cond := [Cond.fieldLink RX5 154 "PhosphorHushModel" "length" "I", Cond.fieldLink RX5 19 "PhosphorHushModel" "text" "[I", Cond.methodLink RX5 182 yX5_fail, Cond.instanceMethod yX5_fail, Cond.selects RX5 yX5_fail yX5_fail, Cond.code yX5_fail cX5_fail 2 none, Cond.methodLink RX5 186 yX5_next, Cond.instanceMethod yX5_next, Cond.selects RX5 yX5_next yX5_next, Cond.code yX5_next cX5_next 1 none, Cond.methodLink RX5 36 yX5_in, Cond.static yX5_in, Cond.code yX5_in cX5_in 3 (some .boolean), Cond.methodLink RX5 192 yX5_readNumber, Cond.instanceMethod yX5_readNumber, Cond.selects RX5 yX5_readNumber yX5_readNumber, Cond.code yX5_readNumber cX5_readNumber 4 none, Cond.methodLink RX5 195 yX5_codeOf, Cond.instanceMethod yX5_codeOf, Cond.selects RX5 yX5_codeOf yX5_codeOf, Cond.code yX5_codeOf cX5_codeOf 4 (some .int), Cond.methodLink RX5 104 yX5_lightCode, Cond.instanceMethod yX5_lightCode, Cond.selects RX5 yX5_lightCode yX5_lightCode]
def wsX5_command_r3 : List Cond := [Cond.code yX5_lightCode cX5_lightCode 2 (some .int), Cond.fieldLink RX5 7 "PhosphorHushModel" "s" "[I", Cond.methodLink RX5 92 yX5_isSpot, Cond.static yX5_isSpot, Cond.code yX5_isSpot cX5_isSpot 1 (some .boolean), Cond.methodLink RX5 101 yX5_positionOf, Cond.instanceMethod yX5_positionOf, Cond.selects RX5 yX5_positionOf yX5_positionOf, Cond.code yX5_positionOf cX5_positionOf 4 (some .int), Cond.methodLink RX5 50 yX5_spotAt, Cond.instanceMethod yX5_spotAt, Cond.selects RX5 yX5_spotAt yX5_spotAt, Cond.code yX5_spotAt cX5_spotAt 2 (some .int), Cond.methodLink RX5 110 yX5_darkCode, Cond.instanceMethod yX5_darkCode, Cond.selects RX5 yX5_darkCode yX5_darkCode, Cond.code yX5_darkCode cX5_darkCode 2 (some .int), Cond.methodLink RX5 95 yX5_kindCode, Cond.instanceMethod yX5_kindCode, Cond.selects RX5 yX5_kindCode yX5_kindCode, Cond.code yX5_kindCode cX5_kindCode 3 (some .int), Cond.methodLink RX5 136 yX5_sortCode, Cond.instanceMethod yX5_sortCode, Cond.selects RX5 yX5_sortCode yX5_sortCode]
def wsX5_command_r4 : List Cond := [Cond.code yX5_sortCode cX5_sortCode 2 (some .int), Cond.methodLink RX5 124 yX5_swapCode, Cond.instanceMethod yX5_swapCode, Cond.selects RX5 yX5_swapCode yX5_swapCode, Cond.code yX5_swapCode cX5_swapCode 3 (some .int), Cond.methodLink RX5 198 yX5_carry, Cond.instanceMethod yX5_carry, Cond.selects RX5 yX5_carry yX5_carry, Cond.code yX5_carry cX5_carry 4 (some .int), Cond.methodLink RX5 107 yX5_lightNow, Cond.instanceMethod yX5_lightNow, Cond.selects RX5 yX5_lightNow yX5_lightNow, Cond.code yX5_lightNow cX5_lightNow 2 (some .int), Cond.methodLink RX5 113 yX5_darkNow, Cond.instanceMethod yX5_darkNow, Cond.selects RX5 yX5_darkNow yX5_darkNow, Cond.code yX5_darkNow cX5_darkNow 4 (some .int), Cond.methodLink RX5 98 yX5_kindNow, Cond.instanceMethod yX5_kindNow, Cond.selects RX5 yX5_kindNow yX5_kindNow, Cond.code yX5_kindNow cX5_kindNow 4 (some .int), Cond.methodLink RX5 139 yX5_sortNow, Cond.instanceMethod yX5_sortNow, Cond.selects RX5 yX5_sortNow yX5_sortNow]
def wsX5_command_r5 : List Cond := [Cond.code yX5_sortNow cX5_sortNow 6 (some .int), Cond.methodLink RX5 133 yX5_keyOf, Cond.instanceMethod yX5_keyOf, Cond.selects RX5 yX5_keyOf yX5_keyOf, Cond.code yX5_keyOf cX5_keyOf 4 (some .int), Cond.methodLink RX5 53 yX5_way, Cond.static yX5_way, Cond.code yX5_way cX5_way 2 (some .int), Cond.methodLink RX5 43 yX5_size, Cond.static yX5_size, Cond.code yX5_size cX5_size 1 (some .int), Cond.methodLink RX5 130 yX5_darkTick, Cond.static yX5_darkTick, Cond.code yX5_darkTick cX5_darkTick 2 (some .int), Cond.methodLink RX5 57 yX5_fading, Cond.static yX5_fading, Cond.code yX5_fading cX5_fading 3 (some .int), Cond.methodLink RX5 47 yX5_halved, Cond.static yX5_halved, Cond.code yX5_halved cX5_halved 3 (some .int), Cond.methodLink RX5 116 yX5_changePlaces, Cond.instanceMethod yX5_changePlaces, Cond.selects RX5 yX5_changePlaces yX5_changePlaces, Cond.code yX5_changePlaces cX5_changePlaces 4 none]
def wsX5_command_r6 : List Cond := [Cond.methodLink RX5 120 yX5_litMany, Cond.instanceMethod yX5_litMany, Cond.selects RX5 yX5_litMany yX5_litMany, Cond.code yX5_litMany cX5_litMany 3 (some .int), Cond.fieldLink RX5 25 "PhosphorHushModel" "lit" "[I", Cond.methodLink RX5 80 yX5_beam, Cond.instanceMethod yX5_beam, Cond.selects RX5 yX5_beam yX5_beam, Cond.code yX5_beam cX5_beam 4 none, Cond.methodLink RX5 127 yX5_swapNow, Cond.instanceMethod yX5_swapNow, Cond.selects RX5 yX5_swapNow yX5_swapNow, Cond.code yX5_swapNow cX5_swapNow 3 (some .int), Cond.methodLink RX5 148 yX5_drawNow, Cond.instanceMethod yX5_drawNow, Cond.selects RX5 yX5_drawNow yX5_drawNow, Cond.code yX5_drawNow cX5_drawNow 4 (some .int), Cond.methodLink RX5 142 yX5_inPicture, Cond.instanceMethod yX5_inPicture, Cond.selects RX5 yX5_inPicture yX5_inPicture, Cond.code yX5_inPicture cX5_inPicture 4 (some .int)]
def wsX5_command : List Cond := .code yX5_command cX5_command 5 (some .int) :: ((wsX5_command_r1 ++ (wsX5_command_r2 ++ (wsX5_command_r3 ++ (wsX5_command_r4 ++ (wsX5_command_r5 ++ wsX5_command_r6))))) ++ wsX50)
def wsX5_run_r1 : List Cond := [Cond.fieldLink RX5 32 "PhosphorHushModel" "thrown" "I", Cond.fieldLink RX5 13 "PhosphorHushModel" "aside" "[I", Cond.fieldLink RX5 7 "PhosphorHushModel" "s" "[I", Cond.fieldLink RX5 157 "PhosphorHushModel" "till" "I", Cond.fieldLink RX5 169 "PhosphorHushModel" "fault" "I", Cond.fieldLink RX5 166 "PhosphorHushModel" "token" "I", Cond.fieldLink RX5 154 "PhosphorHushModel" "length" "I", Cond.methodLink RX5 186 yX5_next, Cond.instanceMethod yX5_next, Cond.selects RX5 yX5_next yX5_next, Cond.initialized RX5, Cond.code yX5_next cX5_next 1 none, Cond.fieldLink RX5 160 "PhosphorHushModel" "from" "I", Cond.methodLink RX5 163 yX5_sign, Cond.instanceMethod yX5_sign, Cond.selects RX5 yX5_sign yX5_sign, Cond.code yX5_sign cX5_sign 2 (some .int), Cond.fieldLink RX5 19 "PhosphorHushModel" "text" "[I", Cond.methodLink RX5 36 yX5_in, Cond.static yX5_in, Cond.code yX5_in cX5_in 3 (some .boolean), Cond.methodLink RX5 201 yX5_command, Cond.instanceMethod yX5_command, Cond.selects RX5 yX5_command yX5_command]
def wsX5_run_r2 : List Cond := [Cond.code yX5_command cX5_command 5 (some .int), Cond.fieldLink RX5 22 "PhosphorHushModel" "numbers" "[I", Cond.methodLink RX5 189 yX5_wordHere, Cond.instanceMethod yX5_wordHere, Cond.selects RX5 yX5_wordHere yX5_wordHere, Cond.code yX5_wordHere cX5_wordHere 2 (some .int), Cond.methodLink RX5 179 yX5_isWord, Cond.instanceMethod yX5_isWord, Cond.selects RX5 yX5_isWord yX5_isWord, Cond.code yX5_isWord cX5_isWord 4 (some .boolean), Cond.methodLink RX5 176 yX5_letterOf, Cond.static yX5_letterOf, Cond.code yX5_letterOf cX5_letterOf 2 (some .int), Cond.methodLink RX5 172 yX5_spelled, Cond.static yX5_spelled, Cond.code yX5_spelled cX5_spelled 7 (some .int), Cond.methodLink RX5 182 yX5_fail, Cond.instanceMethod yX5_fail, Cond.selects RX5 yX5_fail yX5_fail, Cond.code yX5_fail cX5_fail 2 none, Cond.methodLink RX5 192 yX5_readNumber, Cond.instanceMethod yX5_readNumber, Cond.selects RX5 yX5_readNumber yX5_readNumber, Cond.code yX5_readNumber cX5_readNumber 4 none]
def wsX5_run_r3 : List Cond := [Cond.methodLink RX5 195 yX5_codeOf, Cond.instanceMethod yX5_codeOf, Cond.selects RX5 yX5_codeOf yX5_codeOf, Cond.code yX5_codeOf cX5_codeOf 4 (some .int), Cond.methodLink RX5 104 yX5_lightCode, Cond.instanceMethod yX5_lightCode, Cond.selects RX5 yX5_lightCode yX5_lightCode, Cond.code yX5_lightCode cX5_lightCode 2 (some .int), Cond.methodLink RX5 92 yX5_isSpot, Cond.static yX5_isSpot, Cond.code yX5_isSpot cX5_isSpot 1 (some .boolean), Cond.methodLink RX5 101 yX5_positionOf, Cond.instanceMethod yX5_positionOf, Cond.selects RX5 yX5_positionOf yX5_positionOf, Cond.code yX5_positionOf cX5_positionOf 4 (some .int), Cond.methodLink RX5 50 yX5_spotAt, Cond.instanceMethod yX5_spotAt, Cond.selects RX5 yX5_spotAt yX5_spotAt, Cond.code yX5_spotAt cX5_spotAt 2 (some .int), Cond.methodLink RX5 110 yX5_darkCode, Cond.instanceMethod yX5_darkCode, Cond.selects RX5 yX5_darkCode yX5_darkCode, Cond.code yX5_darkCode cX5_darkCode 2 (some .int), Cond.methodLink RX5 95 yX5_kindCode]
def wsX5_run_r4 : List Cond := [Cond.instanceMethod yX5_kindCode, Cond.selects RX5 yX5_kindCode yX5_kindCode, Cond.code yX5_kindCode cX5_kindCode 3 (some .int), Cond.methodLink RX5 136 yX5_sortCode, Cond.instanceMethod yX5_sortCode, Cond.selects RX5 yX5_sortCode yX5_sortCode, Cond.code yX5_sortCode cX5_sortCode 2 (some .int), Cond.methodLink RX5 124 yX5_swapCode, Cond.instanceMethod yX5_swapCode, Cond.selects RX5 yX5_swapCode yX5_swapCode, Cond.code yX5_swapCode cX5_swapCode 3 (some .int), Cond.methodLink RX5 198 yX5_carry, Cond.instanceMethod yX5_carry, Cond.selects RX5 yX5_carry yX5_carry, Cond.code yX5_carry cX5_carry 4 (some .int), Cond.methodLink RX5 107 yX5_lightNow, Cond.instanceMethod yX5_lightNow, Cond.selects RX5 yX5_lightNow yX5_lightNow, Cond.code yX5_lightNow cX5_lightNow 2 (some .int), Cond.methodLink RX5 113 yX5_darkNow, Cond.instanceMethod yX5_darkNow, Cond.selects RX5 yX5_darkNow yX5_darkNow, Cond.code yX5_darkNow cX5_darkNow 4 (some .int), Cond.methodLink RX5 98 yX5_kindNow]
def wsX5_run_r5 : List Cond := [Cond.instanceMethod yX5_kindNow, Cond.selects RX5 yX5_kindNow yX5_kindNow, Cond.code yX5_kindNow cX5_kindNow 4 (some .int), Cond.methodLink RX5 139 yX5_sortNow, Cond.instanceMethod yX5_sortNow, Cond.selects RX5 yX5_sortNow yX5_sortNow, Cond.code yX5_sortNow cX5_sortNow 6 (some .int), Cond.methodLink RX5 133 yX5_keyOf, Cond.instanceMethod yX5_keyOf, Cond.selects RX5 yX5_keyOf yX5_keyOf, Cond.code yX5_keyOf cX5_keyOf 4 (some .int), Cond.methodLink RX5 53 yX5_way, Cond.static yX5_way, Cond.code yX5_way cX5_way 2 (some .int), Cond.methodLink RX5 43 yX5_size, Cond.static yX5_size, Cond.code yX5_size cX5_size 1 (some .int), Cond.methodLink RX5 130 yX5_darkTick, Cond.static yX5_darkTick, Cond.code yX5_darkTick cX5_darkTick 2 (some .int), Cond.methodLink RX5 57 yX5_fading, Cond.static yX5_fading, Cond.code yX5_fading cX5_fading 3 (some .int), Cond.methodLink RX5 47 yX5_halved]
def wsX5_run_r6 : List Cond := [Cond.static yX5_halved, Cond.code yX5_halved cX5_halved 3 (some .int), Cond.methodLink RX5 116 yX5_changePlaces, Cond.instanceMethod yX5_changePlaces, Cond.selects RX5 yX5_changePlaces yX5_changePlaces, Cond.code yX5_changePlaces cX5_changePlaces 4 none, Cond.methodLink RX5 120 yX5_litMany, Cond.instanceMethod yX5_litMany, Cond.selects RX5 yX5_litMany yX5_litMany, Cond.code yX5_litMany cX5_litMany 3 (some .int), Cond.fieldLink RX5 25 "PhosphorHushModel" "lit" "[I", Cond.methodLink RX5 80 yX5_beam, Cond.instanceMethod yX5_beam, Cond.selects RX5 yX5_beam yX5_beam, Cond.code yX5_beam cX5_beam 4 none, Cond.methodLink RX5 127 yX5_swapNow, Cond.instanceMethod yX5_swapNow, Cond.selects RX5 yX5_swapNow yX5_swapNow, Cond.code yX5_swapNow cX5_swapNow 3 (some .int), Cond.methodLink RX5 148 yX5_drawNow, Cond.instanceMethod yX5_drawNow, Cond.selects RX5 yX5_drawNow yX5_drawNow, Cond.code yX5_drawNow cX5_drawNow 4 (some .int), Cond.methodLink RX5 142 yX5_inPicture]
def wsX5_run_r7 : List Cond := [Cond.instanceMethod yX5_inPicture, Cond.selects RX5 yX5_inPicture yX5_inPicture, Cond.code yX5_inPicture cX5_inPicture 4 (some .int), Cond.methodLink RX5 89 yX5_act, Cond.instanceMethod yX5_act, Cond.selects RX5 yX5_act yX5_act, Cond.code yX5_act cX5_act 2 none, Cond.fieldLink RX5 40 "PhosphorHushModel" "savedMany" "I", Cond.fieldLink RX5 16 "PhosphorHushModel" "saved" "[I"]
def wsX5_run : List Cond := .code yX5_run cX5_run 4 (some .int) :: ((wsX5_run_r1 ++ (wsX5_run_r2 ++ (wsX5_run_r3 ++ (wsX5_run_r4 ++ (wsX5_run_r5 ++ (wsX5_run_r6 ++ wsX5_run_r7)))))) ++ wsX50)
def wsX5_travel : List Cond := .code yX5_travel cX5_travel 4 (some .int) :: ([.fieldLink RX5 7 "PhosphorHushModel" "s" "[I", .methodLink RX5 50 yX5_spotAt, .instanceMethod yX5_spotAt, .selects RX5 yX5_spotAt yX5_spotAt, .initialized RX5, .code yX5_spotAt cX5_spotAt 2 (some .int), .methodLink RX5 53 yX5_way, .static yX5_way, .code yX5_way cX5_way 2 (some .int), .methodLink RX5 43 yX5_size, .static yX5_size, .code yX5_size cX5_size 1 (some .int)] ++ wsX50)
def wsX5_seenBy_r1 : List Cond := [Cond.methodLink RX5 73 yX5_isEyed, Cond.instanceMethod yX5_isEyed, Cond.selects RX5 yX5_isEyed yX5_isEyed, Cond.initialized RX5, Cond.code yX5_isEyed cX5_isEyed 2 (some .boolean), Cond.fieldLink RX5 25 "PhosphorHushModel" "lit" "[I", Cond.fieldLink RX5 7 "PhosphorHushModel" "s" "[I", Cond.methodLink RX5 63 yX5_eyeMean, Cond.instanceMethod yX5_eyeMean, Cond.selects RX5 yX5_eyeMean yX5_eyeMean, Cond.code yX5_eyeMean cX5_eyeMean 4 (some .int), Cond.methodLink RX5 60 yX5_brightnessAt, Cond.instanceMethod yX5_brightnessAt, Cond.selects RX5 yX5_brightnessAt yX5_brightnessAt, Cond.code yX5_brightnessAt cX5_brightnessAt 4 (some .int), Cond.methodLink RX5 57 yX5_fading, Cond.static yX5_fading, Cond.code yX5_fading cX5_fading 3 (some .int), Cond.methodLink RX5 47 yX5_halved, Cond.static yX5_halved, Cond.code yX5_halved cX5_halved 3 (some .int), Cond.methodLink RX5 77 yX5_isShotNow, Cond.instanceMethod yX5_isShotNow, Cond.selects RX5 yX5_isShotNow yX5_isShotNow]
def wsX5_seenBy_r2 : List Cond := [Cond.code yX5_isShotNow cX5_isShotNow 2 (some .boolean), Cond.methodLink RX5 70 yX5_isShot, Cond.instanceMethod yX5_isShot, Cond.selects RX5 yX5_isShot yX5_isShot, Cond.code yX5_isShot cX5_isShot 4 (some .boolean), Cond.methodLink RX5 66 yX5_shutterMean, Cond.instanceMethod yX5_shutterMean, Cond.selects RX5 yX5_shutterMean yX5_shutterMean, Cond.code yX5_shutterMean cX5_shutterMean 6 (some .int)]
def wsX5_seenBy : List Cond := .code yX5_seenBy cX5_seenBy 4 (some .int) :: ((wsX5_seenBy_r1 ++ wsX5_seenBy_r2) ++ wsX50)
def wsX5_wrongBy_r1 : List Cond := [Cond.methodLink RX5 204 yX5_isWrong, Cond.instanceMethod yX5_isWrong, Cond.selects RX5 yX5_isWrong yX5_isWrong, Cond.initialized RX5, Cond.code yX5_isWrong cX5_isWrong 3 (some .boolean), Cond.fieldLink RX5 7 "PhosphorHushModel" "s" "[I", Cond.methodLink RX5 73 yX5_isEyed, Cond.instanceMethod yX5_isEyed, Cond.selects RX5 yX5_isEyed yX5_isEyed, Cond.code yX5_isEyed cX5_isEyed 2 (some .boolean), Cond.fieldLink RX5 25 "PhosphorHushModel" "lit" "[I", Cond.methodLink RX5 63 yX5_eyeMean, Cond.instanceMethod yX5_eyeMean, Cond.selects RX5 yX5_eyeMean yX5_eyeMean, Cond.code yX5_eyeMean cX5_eyeMean 4 (some .int), Cond.methodLink RX5 60 yX5_brightnessAt, Cond.instanceMethod yX5_brightnessAt, Cond.selects RX5 yX5_brightnessAt yX5_brightnessAt, Cond.code yX5_brightnessAt cX5_brightnessAt 4 (some .int), Cond.methodLink RX5 57 yX5_fading, Cond.static yX5_fading, Cond.code yX5_fading cX5_fading 3 (some .int), Cond.methodLink RX5 47 yX5_halved, Cond.static yX5_halved]
def wsX5_wrongBy_r2 : List Cond := [Cond.code yX5_halved cX5_halved 3 (some .int), Cond.methodLink RX5 77 yX5_isShotNow, Cond.instanceMethod yX5_isShotNow, Cond.selects RX5 yX5_isShotNow yX5_isShotNow, Cond.code yX5_isShotNow cX5_isShotNow 2 (some .boolean), Cond.methodLink RX5 70 yX5_isShot, Cond.instanceMethod yX5_isShot, Cond.selects RX5 yX5_isShot yX5_isShot, Cond.code yX5_isShot cX5_isShot 4 (some .boolean), Cond.methodLink RX5 66 yX5_shutterMean, Cond.instanceMethod yX5_shutterMean, Cond.selects RX5 yX5_shutterMean yX5_shutterMean, Cond.code yX5_shutterMean cX5_shutterMean 6 (some .int)]
def wsX5_wrongBy : List Cond := .code yX5_wrongBy cX5_wrongBy 4 (some .int) :: ((wsX5_wrongBy_r1 ++ wsX5_wrongBy_r2) ++ wsX50)
def wsX5_lastLit : List Cond := .code yX5_lastLit cX5_lastLit 3 (some .int) :: ([.fieldLink RX5 25 "PhosphorHushModel" "lit" "[I"] ++ wsX50)
def wsX5_count_r1 : List Cond := [Cond.fieldLink RX5 32 "PhosphorHushModel" "thrown" "I", Cond.fieldLink RX5 7 "PhosphorHushModel" "s" "[I", Cond.fieldLink RX5 40 "PhosphorHushModel" "savedMany" "I", Cond.fieldLink RX5 154 "PhosphorHushModel" "length" "I", Cond.methodLink RX5 36 yX5_in, Cond.static yX5_in, Cond.initialized RX5, Cond.code yX5_in cX5_in 3 (some .boolean), Cond.methodLink RX5 120 yX5_litMany, Cond.instanceMethod yX5_litMany, Cond.selects RX5 yX5_litMany yX5_litMany, Cond.code yX5_litMany cX5_litMany 3 (some .int), Cond.fieldLink RX5 25 "PhosphorHushModel" "lit" "[I", Cond.methodLink RX5 80 yX5_beam, Cond.instanceMethod yX5_beam, Cond.selects RX5 yX5_beam yX5_beam, Cond.code yX5_beam cX5_beam 4 none, Cond.methodLink RX5 50 yX5_spotAt, Cond.instanceMethod yX5_spotAt, Cond.selects RX5 yX5_spotAt yX5_spotAt, Cond.code yX5_spotAt cX5_spotAt 2 (some .int), Cond.methodLink RX5 53 yX5_way, Cond.static yX5_way, Cond.code yX5_way cX5_way 2 (some .int)]
def wsX5_count_r2 : List Cond := [Cond.methodLink RX5 43 yX5_size, Cond.static yX5_size, Cond.code yX5_size cX5_size 1 (some .int), Cond.methodLink RX5 142 yX5_inPicture, Cond.instanceMethod yX5_inPicture, Cond.selects RX5 yX5_inPicture yX5_inPicture, Cond.code yX5_inPicture cX5_inPicture 4 (some .int), Cond.methodLink RX5 208 yX5_seenBy, Cond.instanceMethod yX5_seenBy, Cond.selects RX5 yX5_seenBy yX5_seenBy, Cond.code yX5_seenBy cX5_seenBy 4 (some .int), Cond.methodLink RX5 73 yX5_isEyed, Cond.instanceMethod yX5_isEyed, Cond.selects RX5 yX5_isEyed yX5_isEyed, Cond.code yX5_isEyed cX5_isEyed 2 (some .boolean), Cond.methodLink RX5 63 yX5_eyeMean, Cond.instanceMethod yX5_eyeMean, Cond.selects RX5 yX5_eyeMean yX5_eyeMean, Cond.code yX5_eyeMean cX5_eyeMean 4 (some .int), Cond.methodLink RX5 60 yX5_brightnessAt, Cond.instanceMethod yX5_brightnessAt, Cond.selects RX5 yX5_brightnessAt yX5_brightnessAt, Cond.code yX5_brightnessAt cX5_brightnessAt 4 (some .int), Cond.methodLink RX5 57 yX5_fading]
def wsX5_count_r3 : List Cond := [Cond.static yX5_fading, Cond.code yX5_fading cX5_fading 3 (some .int), Cond.methodLink RX5 47 yX5_halved, Cond.static yX5_halved, Cond.code yX5_halved cX5_halved 3 (some .int), Cond.methodLink RX5 77 yX5_isShotNow, Cond.instanceMethod yX5_isShotNow, Cond.selects RX5 yX5_isShotNow yX5_isShotNow, Cond.code yX5_isShotNow cX5_isShotNow 2 (some .boolean), Cond.methodLink RX5 70 yX5_isShot, Cond.instanceMethod yX5_isShot, Cond.selects RX5 yX5_isShot yX5_isShot, Cond.code yX5_isShot cX5_isShot 4 (some .boolean), Cond.methodLink RX5 66 yX5_shutterMean, Cond.instanceMethod yX5_shutterMean, Cond.selects RX5 yX5_shutterMean yX5_shutterMean, Cond.code yX5_shutterMean cX5_shutterMean 6 (some .int), Cond.methodLink RX5 211 yX5_wrongBy, Cond.instanceMethod yX5_wrongBy, Cond.selects RX5 yX5_wrongBy yX5_wrongBy, Cond.code yX5_wrongBy cX5_wrongBy 4 (some .int), Cond.methodLink RX5 204 yX5_isWrong, Cond.instanceMethod yX5_isWrong, Cond.selects RX5 yX5_isWrong yX5_isWrong]
def wsX5_count_r4 : List Cond := [Cond.code yX5_isWrong cX5_isWrong 3 (some .boolean), Cond.methodLink RX5 214 yX5_travel, Cond.instanceMethod yX5_travel, Cond.selects RX5 yX5_travel yX5_travel, Cond.code yX5_travel cX5_travel 4 (some .int), Cond.methodLink RX5 217 yX5_lastLit, Cond.instanceMethod yX5_lastLit, Cond.selects RX5 yX5_lastLit yX5_lastLit, Cond.code yX5_lastLit cX5_lastLit 3 (some .int), Cond.methodLink RX5 151 yX5_slotAt, Cond.static yX5_slotAt, Cond.code yX5_slotAt cX5_slotAt 1 (some .int)]
def wsX5_count : List Cond := .code yX5_count cX5_count 3 (some .int) :: ((wsX5_count_r1 ++ (wsX5_count_r2 ++ (wsX5_count_r3 ++ wsX5_count_r4))) ++ wsX50)
def wsX5_flickerOf : List Cond := .code yX5_flickerOf cX5_flickerOf 6 (some .int) :: ([.fieldLink RX5 7 "PhosphorHushModel" "s" "[I", .methodLink RX5 60 yX5_brightnessAt, .instanceMethod yX5_brightnessAt, .selects RX5 yX5_brightnessAt yX5_brightnessAt, .initialized RX5, .code yX5_brightnessAt cX5_brightnessAt 4 (some .int), .fieldLink RX5 25 "PhosphorHushModel" "lit" "[I", .methodLink RX5 57 yX5_fading, .static yX5_fading, .code yX5_fading cX5_fading 3 (some .int), .methodLink RX5 47 yX5_halved, .static yX5_halved, .code yX5_halved cX5_halved 3 (some .int)] ++ wsX50)
def wsX5_spot_r1 : List Cond := [Cond.fieldLink RX5 32 "PhosphorHushModel" "thrown" "I", Cond.fieldLink RX5 7 "PhosphorHushModel" "s" "[I", Cond.fieldLink RX5 25 "PhosphorHushModel" "lit" "[I", Cond.methodLink RX5 92 yX5_isSpot, Cond.static yX5_isSpot, Cond.initialized RX5, Cond.code yX5_isSpot cX5_isSpot 1 (some .boolean), Cond.methodLink RX5 36 yX5_in, Cond.static yX5_in, Cond.code yX5_in cX5_in 3 (some .boolean), Cond.methodLink RX5 80 yX5_beam, Cond.instanceMethod yX5_beam, Cond.selects RX5 yX5_beam yX5_beam, Cond.code yX5_beam cX5_beam 4 none, Cond.methodLink RX5 50 yX5_spotAt, Cond.instanceMethod yX5_spotAt, Cond.selects RX5 yX5_spotAt yX5_spotAt, Cond.code yX5_spotAt cX5_spotAt 2 (some .int), Cond.methodLink RX5 53 yX5_way, Cond.static yX5_way, Cond.code yX5_way cX5_way 2 (some .int), Cond.methodLink RX5 43 yX5_size, Cond.static yX5_size, Cond.code yX5_size cX5_size 1 (some .int)]
def wsX5_spot_r2 : List Cond := [Cond.methodLink RX5 101 yX5_positionOf, Cond.instanceMethod yX5_positionOf, Cond.selects RX5 yX5_positionOf yX5_positionOf, Cond.code yX5_positionOf cX5_positionOf 4 (some .int), Cond.methodLink RX5 73 yX5_isEyed, Cond.instanceMethod yX5_isEyed, Cond.selects RX5 yX5_isEyed yX5_isEyed, Cond.code yX5_isEyed cX5_isEyed 2 (some .boolean), Cond.methodLink RX5 63 yX5_eyeMean, Cond.instanceMethod yX5_eyeMean, Cond.selects RX5 yX5_eyeMean yX5_eyeMean, Cond.code yX5_eyeMean cX5_eyeMean 4 (some .int), Cond.methodLink RX5 60 yX5_brightnessAt, Cond.instanceMethod yX5_brightnessAt, Cond.selects RX5 yX5_brightnessAt yX5_brightnessAt, Cond.code yX5_brightnessAt cX5_brightnessAt 4 (some .int), Cond.methodLink RX5 57 yX5_fading, Cond.static yX5_fading, Cond.code yX5_fading cX5_fading 3 (some .int), Cond.methodLink RX5 47 yX5_halved, Cond.static yX5_halved, Cond.code yX5_halved cX5_halved 3 (some .int), Cond.methodLink RX5 77 yX5_isShotNow, Cond.instanceMethod yX5_isShotNow]
def wsX5_spot_r3 : List Cond := [Cond.selects RX5 yX5_isShotNow yX5_isShotNow, Cond.code yX5_isShotNow cX5_isShotNow 2 (some .boolean), Cond.methodLink RX5 70 yX5_isShot, Cond.instanceMethod yX5_isShot, Cond.selects RX5 yX5_isShot yX5_isShot, Cond.code yX5_isShot cX5_isShot 4 (some .boolean), Cond.methodLink RX5 66 yX5_shutterMean, Cond.instanceMethod yX5_shutterMean, Cond.selects RX5 yX5_shutterMean yX5_shutterMean, Cond.code yX5_shutterMean cX5_shutterMean 6 (some .int), Cond.methodLink RX5 220 yX5_flickerOf, Cond.instanceMethod yX5_flickerOf, Cond.selects RX5 yX5_flickerOf yX5_flickerOf, Cond.code yX5_flickerOf cX5_flickerOf 6 (some .int)]
def wsX5_spot : List Cond := .code yX5_spot cX5_spot 3 (some .int) :: ((wsX5_spot_r1 ++ (wsX5_spot_r2 ++ wsX5_spot_r3)) ++ wsX50)
def wsX5_at : List Cond := .code yX5_at cX5_at 2 (some .int) :: ([.fieldLink RX5 32 "PhosphorHushModel" "thrown" "I", .fieldLink RX5 7 "PhosphorHushModel" "s" "[I", .methodLink RX5 50 yX5_spotAt, .instanceMethod yX5_spotAt, .selects RX5 yX5_spotAt yX5_spotAt, .initialized RX5, .code yX5_spotAt cX5_spotAt 2 (some .int)] ++ wsX50)
def wsX5_brightness_r1 : List Cond := [Cond.fieldLink RX5 32 "PhosphorHushModel" "thrown" "I", Cond.fieldLink RX5 7 "PhosphorHushModel" "s" "[I", Cond.methodLink RX5 92 yX5_isSpot, Cond.static yX5_isSpot, Cond.initialized RX5, Cond.code yX5_isSpot cX5_isSpot 1 (some .boolean), Cond.methodLink RX5 36 yX5_in, Cond.static yX5_in, Cond.code yX5_in cX5_in 3 (some .boolean), Cond.methodLink RX5 80 yX5_beam, Cond.instanceMethod yX5_beam, Cond.selects RX5 yX5_beam yX5_beam, Cond.code yX5_beam cX5_beam 4 none, Cond.fieldLink RX5 25 "PhosphorHushModel" "lit" "[I", Cond.methodLink RX5 50 yX5_spotAt, Cond.instanceMethod yX5_spotAt, Cond.selects RX5 yX5_spotAt yX5_spotAt, Cond.code yX5_spotAt cX5_spotAt 2 (some .int), Cond.methodLink RX5 53 yX5_way, Cond.static yX5_way, Cond.code yX5_way cX5_way 2 (some .int), Cond.methodLink RX5 43 yX5_size, Cond.static yX5_size, Cond.code yX5_size cX5_size 1 (some .int)]
def wsX5_brightness_r2 : List Cond := [Cond.methodLink RX5 60 yX5_brightnessAt, Cond.instanceMethod yX5_brightnessAt, Cond.selects RX5 yX5_brightnessAt yX5_brightnessAt, Cond.code yX5_brightnessAt cX5_brightnessAt 4 (some .int), Cond.methodLink RX5 57 yX5_fading, Cond.static yX5_fading, Cond.code yX5_fading cX5_fading 3 (some .int), Cond.methodLink RX5 47 yX5_halved, Cond.static yX5_halved, Cond.code yX5_halved cX5_halved 3 (some .int)]
def wsX5_brightness : List Cond := .code yX5_brightness cX5_brightness 3 (some .int) :: ((wsX5_brightness_r1 ++ wsX5_brightness_r2) ++ wsX50)
def wsX5_firstWrong_r1 : List Cond := [Cond.fieldLink RX5 32 "PhosphorHushModel" "thrown" "I", Cond.methodLink RX5 145 yX5_isBit, Cond.static yX5_isBit, Cond.initialized RX5, Cond.code yX5_isBit cX5_isBit 1 (some .boolean), Cond.methodLink RX5 36 yX5_in, Cond.static yX5_in, Cond.code yX5_in cX5_in 3 (some .boolean), Cond.methodLink RX5 80 yX5_beam, Cond.instanceMethod yX5_beam, Cond.selects RX5 yX5_beam yX5_beam, Cond.code yX5_beam cX5_beam 4 none, Cond.fieldLink RX5 25 "PhosphorHushModel" "lit" "[I", Cond.fieldLink RX5 7 "PhosphorHushModel" "s" "[I", Cond.methodLink RX5 50 yX5_spotAt, Cond.instanceMethod yX5_spotAt, Cond.selects RX5 yX5_spotAt yX5_spotAt, Cond.code yX5_spotAt cX5_spotAt 2 (some .int), Cond.methodLink RX5 53 yX5_way, Cond.static yX5_way, Cond.code yX5_way cX5_way 2 (some .int), Cond.methodLink RX5 43 yX5_size, Cond.static yX5_size, Cond.code yX5_size cX5_size 1 (some .int)]
def wsX5_firstWrong_r2 : List Cond := [Cond.methodLink RX5 204 yX5_isWrong, Cond.instanceMethod yX5_isWrong, Cond.selects RX5 yX5_isWrong yX5_isWrong, Cond.code yX5_isWrong cX5_isWrong 3 (some .boolean), Cond.methodLink RX5 73 yX5_isEyed, Cond.instanceMethod yX5_isEyed, Cond.selects RX5 yX5_isEyed yX5_isEyed, Cond.code yX5_isEyed cX5_isEyed 2 (some .boolean), Cond.methodLink RX5 63 yX5_eyeMean, Cond.instanceMethod yX5_eyeMean, Cond.selects RX5 yX5_eyeMean yX5_eyeMean, Cond.code yX5_eyeMean cX5_eyeMean 4 (some .int), Cond.methodLink RX5 60 yX5_brightnessAt, Cond.instanceMethod yX5_brightnessAt, Cond.selects RX5 yX5_brightnessAt yX5_brightnessAt, Cond.code yX5_brightnessAt cX5_brightnessAt 4 (some .int), Cond.methodLink RX5 57 yX5_fading, Cond.static yX5_fading, Cond.code yX5_fading cX5_fading 3 (some .int), Cond.methodLink RX5 47 yX5_halved, Cond.static yX5_halved, Cond.code yX5_halved cX5_halved 3 (some .int), Cond.methodLink RX5 77 yX5_isShotNow, Cond.instanceMethod yX5_isShotNow]
def wsX5_firstWrong_r3 : List Cond := [Cond.selects RX5 yX5_isShotNow yX5_isShotNow, Cond.code yX5_isShotNow cX5_isShotNow 2 (some .boolean), Cond.methodLink RX5 70 yX5_isShot, Cond.instanceMethod yX5_isShot, Cond.selects RX5 yX5_isShot yX5_isShot, Cond.code yX5_isShot cX5_isShot 4 (some .boolean), Cond.methodLink RX5 66 yX5_shutterMean, Cond.instanceMethod yX5_shutterMean, Cond.selects RX5 yX5_shutterMean yX5_shutterMean, Cond.code yX5_shutterMean cX5_shutterMean 6 (some .int)]
def wsX5_firstWrong : List Cond := .code yX5_firstWrong cX5_firstWrong 3 (some .int) :: ((wsX5_firstWrong_r1 ++ (wsX5_firstWrong_r2 ++ wsX5_firstWrong_r3)) ++ wsX50)
def wsX5_bestStart_r1 : List Cond := [Cond.fieldLink RX5 32 "PhosphorHushModel" "thrown" "I", Cond.fieldLink RX5 7 "PhosphorHushModel" "s" "[I", Cond.methodLink RX5 145 yX5_isBit, Cond.static yX5_isBit, Cond.initialized RX5, Cond.code yX5_isBit cX5_isBit 1 (some .boolean), Cond.methodLink RX5 36 yX5_in, Cond.static yX5_in, Cond.code yX5_in cX5_in 3 (some .boolean), Cond.methodLink RX5 80 yX5_beam, Cond.instanceMethod yX5_beam, Cond.selects RX5 yX5_beam yX5_beam, Cond.code yX5_beam cX5_beam 4 none, Cond.fieldLink RX5 25 "PhosphorHushModel" "lit" "[I", Cond.methodLink RX5 50 yX5_spotAt, Cond.instanceMethod yX5_spotAt, Cond.selects RX5 yX5_spotAt yX5_spotAt, Cond.code yX5_spotAt cX5_spotAt 2 (some .int), Cond.methodLink RX5 53 yX5_way, Cond.static yX5_way, Cond.code yX5_way cX5_way 2 (some .int), Cond.methodLink RX5 43 yX5_size, Cond.static yX5_size, Cond.code yX5_size cX5_size 1 (some .int)]
def wsX5_bestStart_r2 : List Cond := [Cond.methodLink RX5 223 yX5_wrongFor, Cond.instanceMethod yX5_wrongFor, Cond.selects RX5 yX5_wrongFor yX5_wrongFor, Cond.code yX5_wrongFor cX5_wrongFor 5 (some .int), Cond.methodLink RX5 70 yX5_isShot, Cond.instanceMethod yX5_isShot, Cond.selects RX5 yX5_isShot yX5_isShot, Cond.code yX5_isShot cX5_isShot 4 (some .boolean), Cond.methodLink RX5 66 yX5_shutterMean, Cond.instanceMethod yX5_shutterMean, Cond.selects RX5 yX5_shutterMean yX5_shutterMean, Cond.code yX5_shutterMean cX5_shutterMean 6 (some .int), Cond.methodLink RX5 60 yX5_brightnessAt, Cond.instanceMethod yX5_brightnessAt, Cond.selects RX5 yX5_brightnessAt yX5_brightnessAt, Cond.code yX5_brightnessAt cX5_brightnessAt 4 (some .int), Cond.methodLink RX5 57 yX5_fading, Cond.static yX5_fading, Cond.code yX5_fading cX5_fading 3 (some .int), Cond.methodLink RX5 47 yX5_halved, Cond.static yX5_halved, Cond.code yX5_halved cX5_halved 3 (some .int)]
def wsX5_bestStart : List Cond := .code yX5_bestStart cX5_bestStart 6 (some .int) :: ((wsX5_bestStart_r1 ++ wsX5_bestStart_r2) ++ wsX50)
def wsX5_reckonWays : List Cond := .code yX5_reckonWays cX5_reckonWays 7 none :: ([.fieldLink RX5 7 "PhosphorHushModel" "s" "[I", .constant RX5 226 (100000), .fieldLink RX5 29 "PhosphorHushModel" "rest" "[I", .methodLink RX5 50 yX5_spotAt, .instanceMethod yX5_spotAt, .selects RX5 yX5_spotAt yX5_spotAt, .initialized RX5, .code yX5_spotAt cX5_spotAt 2 (some .int), .methodLink RX5 53 yX5_way, .static yX5_way, .code yX5_way cX5_way 2 (some .int), .methodLink RX5 43 yX5_size, .static yX5_size, .code yX5_size cX5_size 1 (some .int)] ++ wsX50)
def wsX5_leastTravel : List Cond := .code yX5_leastTravel cX5_leastTravel 11 (some .int) :: ([.fieldLink RX5 32 "PhosphorHushModel" "thrown" "I", .fieldLink RX5 7 "PhosphorHushModel" "s" "[I", .constant RX5 226 (100000), .fieldLink RX5 29 "PhosphorHushModel" "rest" "[I", .methodLink RX5 227 yX5_reckonWays, .instanceMethod yX5_reckonWays, .selects RX5 yX5_reckonWays yX5_reckonWays, .initialized RX5, .code yX5_reckonWays cX5_reckonWays 7 none, .methodLink RX5 50 yX5_spotAt, .instanceMethod yX5_spotAt, .selects RX5 yX5_spotAt yX5_spotAt, .code yX5_spotAt cX5_spotAt 2 (some .int), .methodLink RX5 53 yX5_way, .static yX5_way, .code yX5_way cX5_way 2 (some .int), .methodLink RX5 43 yX5_size, .static yX5_size, .code yX5_size cX5_size 1 (some .int)] ++ wsX50)
def wsX5_longest_r1 : List Cond := [Cond.fieldLink RX5 32 "PhosphorHushModel" "thrown" "I", Cond.fieldLink RX5 7 "PhosphorHushModel" "s" "[I", Cond.methodLink RX5 80 yX5_beam, Cond.instanceMethod yX5_beam, Cond.selects RX5 yX5_beam yX5_beam, Cond.initialized RX5, Cond.code yX5_beam cX5_beam 4 none, Cond.fieldLink RX5 25 "PhosphorHushModel" "lit" "[I", Cond.methodLink RX5 50 yX5_spotAt, Cond.instanceMethod yX5_spotAt, Cond.selects RX5 yX5_spotAt yX5_spotAt, Cond.code yX5_spotAt cX5_spotAt 2 (some .int), Cond.methodLink RX5 53 yX5_way, Cond.static yX5_way, Cond.code yX5_way cX5_way 2 (some .int), Cond.methodLink RX5 43 yX5_size, Cond.static yX5_size, Cond.code yX5_size cX5_size 1 (some .int), Cond.methodLink RX5 223 yX5_wrongFor, Cond.instanceMethod yX5_wrongFor, Cond.selects RX5 yX5_wrongFor yX5_wrongFor, Cond.code yX5_wrongFor cX5_wrongFor 5 (some .int), Cond.methodLink RX5 70 yX5_isShot, Cond.instanceMethod yX5_isShot]
def wsX5_longest_r2 : List Cond := [Cond.selects RX5 yX5_isShot yX5_isShot, Cond.code yX5_isShot cX5_isShot 4 (some .boolean), Cond.methodLink RX5 66 yX5_shutterMean, Cond.instanceMethod yX5_shutterMean, Cond.selects RX5 yX5_shutterMean yX5_shutterMean, Cond.code yX5_shutterMean cX5_shutterMean 6 (some .int), Cond.methodLink RX5 60 yX5_brightnessAt, Cond.instanceMethod yX5_brightnessAt, Cond.selects RX5 yX5_brightnessAt yX5_brightnessAt, Cond.code yX5_brightnessAt cX5_brightnessAt 4 (some .int), Cond.methodLink RX5 57 yX5_fading, Cond.static yX5_fading, Cond.code yX5_fading cX5_fading 3 (some .int), Cond.methodLink RX5 47 yX5_halved, Cond.static yX5_halved, Cond.code yX5_halved cX5_halved 3 (some .int)]
def wsX5_longest : List Cond := .code yX5_longest cX5_longest 2 (some .int) :: ((wsX5_longest_r1 ++ wsX5_longest_r2) ++ wsX50)
def wsX5_ticks : List Cond := .code yX5_ticks cX5_ticks 4 (some .int) :: ([.fieldLink RX5 32 "PhosphorHushModel" "thrown" "I", .methodLink RX5 36 yX5_in, .static yX5_in, .initialized RX5, .code yX5_in cX5_in 3 (some .boolean), .methodLink RX5 57 yX5_fading, .static yX5_fading, .code yX5_fading cX5_fading 3 (some .int), .methodLink RX5 47 yX5_halved, .static yX5_halved, .code yX5_halved cX5_halved 3 (some .int)] ++ wsX50)
def wsX5_shortestPeriod : List Cond := .code yX5_shortestPeriod cX5_shortestPeriod 2 (some .int) :: ([.fieldLink RX5 32 "PhosphorHushModel" "thrown" "I", .methodLink RX5 230 yX5_lastTick, .instanceMethod yX5_lastTick, .selects RX5 yX5_lastTick yX5_lastTick, .initialized RX5, .code yX5_lastTick cX5_lastTick 4 (some .int), .fieldLink RX5 7 "PhosphorHushModel" "s" "[I", .methodLink RX5 50 yX5_spotAt, .instanceMethod yX5_spotAt, .selects RX5 yX5_spotAt yX5_spotAt, .code yX5_spotAt cX5_spotAt 2 (some .int), .methodLink RX5 53 yX5_way, .static yX5_way, .code yX5_way cX5_way 2 (some .int), .methodLink RX5 43 yX5_size, .static yX5_size, .code yX5_size cX5_size 1 (some .int)] ++ wsX50)
def wsJ9_abs_0f7a4 : List Cond := .code yJ9_abs_0f7a4 cJ9_abs_0f7a4 1 (some .int) :: ([])
def wsJ9_max_7cf53 : List Cond := .code yJ9_max_7cf53 cJ9_max_7cf53 2 (some .int) :: ([])
def wsJ9_min_7cf53 : List Cond := .code yJ9_min_7cf53 cJ9_min_7cf53 2 (some .int) :: ([])
def wsL_law_r1 : List Cond := [Cond.classLink RL 7 RX4, Cond.instantiable RX4 6, Cond.initialized RX4, Cond.classLink RL 10 RX5, Cond.instantiable RX5 14, Cond.initialized RX5, Cond.methodLink RL 9 yX4_init, Cond.instanceMethod yX4_init, Cond.code yX4_init cX4_init 2 none, Cond.methodLink RX4 1 objectInit, Cond.instanceMethod objectInit, Cond.code objectInit ⟨#[0xb1]⟩ 1 none, Cond.classLink RX4 7 RX2, Cond.instantiable RX2 3, Cond.initialized RX2, Cond.fieldLink RX4 10 "PhosphorHush" "now" "LPhosphorHush$State;", Cond.fieldLink RX4 16 "PhosphorHush" "history" "[LPhosphorHush$State;", Cond.classLink RX4 20 RX0, Cond.instantiable RX0 4, Cond.initialized RX0, Cond.fieldLink RX4 23 "PhosphorHush" "program" "LPhosphorHush$Program;", Cond.classLink RX4 27 RX3, Cond.instantiable RX3 6, Cond.initialized RX3]
def wsL_law_r2 : List Cond := [Cond.fieldLink RX4 30 "PhosphorHush" "travel" "LPhosphorHush$Travel;", Cond.arrayClass .int, Cond.fieldLink RX4 34 "PhosphorHush" "wrongAt" "[I", Cond.methodLink RX4 9 yX2_init, Cond.instanceMethod yX2_init, Cond.code yX2_init cX2_init 2 none, Cond.methodLink RX2 3 objectInit, Cond.classLink RX2 9 RX1, Cond.instantiable RX1 5, Cond.initialized RX1, Cond.fieldLink RX2 12 "PhosphorHush$State" "shown" "LPhosphorHush$Screen;", Cond.fieldLink RX2 18 "PhosphorHush$State" "slots" "[LPhosphorHush$Screen;", Cond.arrayClass .boolean, Cond.fieldLink RX2 22 "PhosphorHush$State" "taken" "[Z", Cond.instanceMethod yX1_init, Cond.code yX1_init cX1_init 1 none, Cond.methodLink RX1 3 objectInit, Cond.fieldLink RX1 9 "PhosphorHush$Screen" "phosphors" "[I", Cond.fieldLink RX1 15 "PhosphorHush$Screen" "order" "[I", Cond.arrayClass .long, Cond.fieldLink RX1 18 "PhosphorHush$Screen" "pictures" "[J", Cond.fieldLink RX1 22 "PhosphorHush$Screen" "settings" "[I", Cond.instanceMethod yX0_init, Cond.code yX0_init cX0_init 1 none]
def wsL_law_r3 : List Cond := [Cond.methodLink RX0 3 objectInit, Cond.arrayClass .char, Cond.fieldLink RX0 9 "PhosphorHush$Program" "text" "[C", Cond.fieldLink RX0 15 "PhosphorHush$Program" "numbers" "[I", Cond.instanceMethod yX3_init, Cond.code yX3_init cX3_init 1 none, Cond.methodLink RX3 3 objectInit, Cond.fieldLink RX3 9 "PhosphorHush$Travel" "spots" "[I", Cond.constant RX3 15 (49152), Cond.fieldLink RX3 16 "PhosphorHush$Travel" "rest" "[I", Cond.fieldLink RX3 19 "PhosphorHush$Travel" "stops" "[I", Cond.methodLink RL 12 yX5_init, Cond.instanceMethod yX5_init, Cond.code yX5_init cX5_init 1 none, Cond.methodLink RX5 1 objectInit, Cond.fieldLink RX5 7 "PhosphorHushModel" "s" "[I", Cond.fieldLink RX5 13 "PhosphorHushModel" "aside" "[I", Cond.fieldLink RX5 16 "PhosphorHushModel" "saved" "[I", Cond.fieldLink RX5 19 "PhosphorHushModel" "text" "[I", Cond.fieldLink RX5 22 "PhosphorHushModel" "numbers" "[I", Cond.fieldLink RX5 25 "PhosphorHushModel" "lit" "[I", Cond.constant RX5 28 (49152), Cond.fieldLink RX5 29 "PhosphorHushModel" "rest" "[I", Cond.fieldLink RX5 32 "PhosphorHushModel" "thrown" "I"]
def wsL_law_r4 : List Cond := [Cond.methodLink RL 13 yX4_set, Cond.instanceMethod yX4_set, Cond.selects RX4 yX4_set yX4_set, Cond.code yX4_set cX4_set 3 (some .int), Cond.fieldLink RX4 41 "PhosphorHush$State" "shown" "LPhosphorHush$Screen;", Cond.methodLink RX4 38 yX4_prepare, Cond.instanceMethod yX4_prepare, Cond.selects RX4 yX4_prepare yX4_prepare, Cond.code yX4_prepare cX4_prepare 1 none, Cond.fieldLink RX4 80 "PhosphorHush" "kept" "I", Cond.methodLink RX4 84 yX2_copyFrom, Cond.instanceMethod yX2_copyFrom, Cond.selects RX2 yX2_copyFrom yX2_copyFrom, Cond.code yX2_copyFrom cX2_copyFrom 3 none, Cond.methodLink RX2 26 yX1_copyFrom, Cond.instanceMethod yX1_copyFrom, Cond.selects RX1 yX1_copyFrom yX1_copyFrom, Cond.code yX1_copyFrom cX1_copyFrom 2 none, Cond.methodLink RX1 25 arraycopyName, Cond.native arraycopyName, Cond.static arraycopyName, Cond.initialized "java/lang/System", Cond.fieldLink RX1 31 "PhosphorHush$Screen" "size" "I", Cond.methodLink RX4 45 yX1_putSetting]
def wsL_law_r5 : List Cond := [Cond.instanceMethod yX1_putSetting, Cond.selects RX1 yX1_putSetting yX1_putSetting, Cond.code yX1_putSetting cX1_putSetting 4 (some .int), Cond.fieldLink RX1 35 "PhosphorHush$Screen" "LEAST" "[I", Cond.fieldLink RX1 38 "PhosphorHush$Screen" "MOST" "[I", Cond.methodLink RX4 51 yX4_finish, Cond.instanceMethod yX4_finish, Cond.selects RX4 yX4_finish yX4_finish, Cond.code yX4_finish cX4_finish 2 (some .int), Cond.methodLink RX4 205 yX4_dropOldest, Cond.instanceMethod yX4_dropOldest, Cond.selects RX4 yX4_dropOldest yX4_dropOldest, Cond.code yX4_dropOldest cX4_dropOldest 3 none, Cond.methodLink RL 17 yX5_set, Cond.instanceMethod yX5_set, Cond.selects RX5 yX5_set yX5_set, Cond.code yX5_set cX5_set 4 (some .int), Cond.methodLink RX5 36 yX5_in, Cond.static yX5_in, Cond.code yX5_in cX5_in 3 (some .boolean), Cond.methodLink RX5 83 yX5_leastOf, Cond.static yX5_leastOf, Cond.code yX5_leastOf cX5_leastOf 1 (some .int), Cond.methodLink RX5 86 yX5_mostOf]
def wsL_law_r6 : List Cond := [Cond.static yX5_mostOf, Cond.code yX5_mostOf cX5_mostOf 1 (some .int), Cond.methodLink RX5 89 yX5_act, Cond.instanceMethod yX5_act, Cond.selects RX5 yX5_act yX5_act, Cond.code yX5_act cX5_act 2 none, Cond.fieldLink RX5 40 "PhosphorHushModel" "savedMany" "I", Cond.methodLink RL 18 yX4_setPhosphor, Cond.instanceMethod yX4_setPhosphor, Cond.selects RX4 yX4_setPhosphor yX4_setPhosphor, Cond.code yX4_setPhosphor cX4_setPhosphor 3 (some .int), Cond.methodLink RX4 55 yX1_putPhosphor, Cond.instanceMethod yX1_putPhosphor, Cond.selects RX1 yX1_putPhosphor yX1_putPhosphor, Cond.code yX1_putPhosphor cX1_putPhosphor 4 (some .int), Cond.static yX4_isSpot, Cond.code yX4_isSpot cX4_isSpot 1 (some .boolean), Cond.static yX4_isPhosphor, Cond.code yX4_isPhosphor cX4_isPhosphor 1 (some .boolean), Cond.methodLink RL 21 yX5_setPhosphor, Cond.instanceMethod yX5_setPhosphor, Cond.selects RX5 yX5_setPhosphor yX5_setPhosphor, Cond.code yX5_setPhosphor cX5_setPhosphor 4 (some .int), Cond.methodLink RX5 95 yX5_kindCode]
def wsL_law_r7 : List Cond := [Cond.instanceMethod yX5_kindCode, Cond.selects RX5 yX5_kindCode yX5_kindCode, Cond.code yX5_kindCode cX5_kindCode 3 (some .int), Cond.methodLink RX5 92 yX5_isSpot, Cond.static yX5_isSpot, Cond.code yX5_isSpot cX5_isSpot 1 (some .boolean), Cond.methodLink RX5 98 yX5_kindNow, Cond.instanceMethod yX5_kindNow, Cond.selects RX5 yX5_kindNow yX5_kindNow, Cond.code yX5_kindNow cX5_kindNow 4 (some .int), Cond.methodLink RL 22 yX4_light, Cond.instanceMethod yX4_light, Cond.selects RX4 yX4_light yX4_light, Cond.code yX4_light cX4_light 2 (some .int), Cond.methodLink RX4 58 yX1_addSpot, Cond.instanceMethod yX1_addSpot, Cond.selects RX1 yX1_addSpot yX1_addSpot, Cond.code yX1_addSpot cX1_addSpot 2 (some .int), Cond.methodLink RX1 48 yX1_positionOf, Cond.instanceMethod yX1_positionOf, Cond.selects RX1 yX1_positionOf yX1_positionOf, Cond.code yX1_positionOf cX1_positionOf 3 (some .int), Cond.methodLink RL 26 yX5_light, Cond.instanceMethod yX5_light]
def wsL_law_r8 : List Cond := [Cond.selects RX5 yX5_light yX5_light, Cond.code yX5_light cX5_light 3 (some .int), Cond.methodLink RX5 104 yX5_lightCode, Cond.instanceMethod yX5_lightCode, Cond.selects RX5 yX5_lightCode yX5_lightCode, Cond.code yX5_lightCode cX5_lightCode 2 (some .int), Cond.methodLink RX5 101 yX5_positionOf, Cond.instanceMethod yX5_positionOf, Cond.selects RX5 yX5_positionOf yX5_positionOf, Cond.code yX5_positionOf cX5_positionOf 4 (some .int), Cond.methodLink RX5 50 yX5_spotAt, Cond.instanceMethod yX5_spotAt, Cond.selects RX5 yX5_spotAt yX5_spotAt, Cond.code yX5_spotAt cX5_spotAt 2 (some .int), Cond.methodLink RX5 107 yX5_lightNow, Cond.instanceMethod yX5_lightNow, Cond.selects RX5 yX5_lightNow yX5_lightNow, Cond.code yX5_lightNow cX5_lightNow 2 (some .int), Cond.methodLink RL 27 yX4_darken, Cond.instanceMethod yX4_darken, Cond.selects RX4 yX4_darken yX4_darken, Cond.code yX4_darken cX4_darken 2 (some .int), Cond.methodLink RX4 61 yX1_removeSpot, Cond.instanceMethod yX1_removeSpot]
def wsL_law_r9 : List Cond := [Cond.selects RX1 yX1_removeSpot yX1_removeSpot, Cond.code yX1_removeSpot cX1_removeSpot 4 (some .int), Cond.methodLink RL 30 yX5_darken, Cond.instanceMethod yX5_darken, Cond.selects RX5 yX5_darken yX5_darken, Cond.code yX5_darken cX5_darken 3 (some .int), Cond.methodLink RX5 110 yX5_darkCode, Cond.instanceMethod yX5_darkCode, Cond.selects RX5 yX5_darkCode yX5_darkCode, Cond.code yX5_darkCode cX5_darkCode 2 (some .int), Cond.methodLink RX5 113 yX5_darkNow, Cond.instanceMethod yX5_darkNow, Cond.selects RX5 yX5_darkNow yX5_darkNow, Cond.code yX5_darkNow cX5_darkNow 4 (some .int), Cond.methodLink RL 31 yX4_exchange, Cond.instanceMethod yX4_exchange, Cond.selects RX4 yX4_exchange yX4_exchange, Cond.code yX4_exchange cX4_exchange 3 (some .int), Cond.methodLink RX4 64 yX1_swapPositions, Cond.instanceMethod yX1_swapPositions, Cond.selects RX1 yX1_swapPositions yX1_swapPositions, Cond.code yX1_swapPositions cX1_swapPositions 3 (some .int), Cond.methodLink RX1 52 yX1_swap, Cond.instanceMethod yX1_swap]
def wsL_law_r10 : List Cond := [Cond.selects RX1 yX1_swap yX1_swap, Cond.code yX1_swap cX1_swap 4 none, Cond.methodLink RX1 56 yX1_litSize, Cond.instanceMethod yX1_litSize, Cond.selects RX1 yX1_litSize yX1_litSize, Cond.code yX1_litSize cX1_litSize 2 (some .int), Cond.methodLink RX1 83 yX1_arrival, Cond.instanceMethod yX1_arrival, Cond.selects RX1 yX1_arrival yX1_arrival, Cond.code yX1_arrival cX1_arrival 5 (some .int), Cond.static yX4_way, Cond.code yX4_way cX4_way 2 (some .int), Cond.methodLink RX4 208 Lib.Math.abs.name, Cond.static Lib.Math.abs.name, Cond.initialized "java/lang/Math", Cond.code Lib.Math.abs.name Lib.Math.abs.code 1 (some .int), Cond.methodLink RL 34 yX5_exchange, Cond.instanceMethod yX5_exchange, Cond.selects RX5 yX5_exchange yX5_exchange, Cond.code yX5_exchange cX5_exchange 4 (some .int), Cond.methodLink RX5 124 yX5_swapCode, Cond.instanceMethod yX5_swapCode, Cond.selects RX5 yX5_swapCode yX5_swapCode, Cond.code yX5_swapCode cX5_swapCode 3 (some .int)]
def wsL_law_r11 : List Cond := [Cond.methodLink RX5 127 yX5_swapNow, Cond.instanceMethod yX5_swapNow, Cond.selects RX5 yX5_swapNow yX5_swapNow, Cond.code yX5_swapNow cX5_swapNow 3 (some .int), Cond.methodLink RX5 116 yX5_changePlaces, Cond.instanceMethod yX5_changePlaces, Cond.selects RX5 yX5_changePlaces yX5_changePlaces, Cond.code yX5_changePlaces cX5_changePlaces 4 none, Cond.methodLink RX5 120 yX5_litMany, Cond.instanceMethod yX5_litMany, Cond.selects RX5 yX5_litMany yX5_litMany, Cond.code yX5_litMany cX5_litMany 3 (some .int), Cond.methodLink RX5 80 yX5_beam, Cond.instanceMethod yX5_beam, Cond.selects RX5 yX5_beam yX5_beam, Cond.code yX5_beam cX5_beam 4 none, Cond.methodLink RX5 53 yX5_way, Cond.static yX5_way, Cond.code yX5_way cX5_way 2 (some .int), Cond.methodLink RX5 43 yX5_size, Cond.static yX5_size, Cond.code yX5_size cX5_size 1 (some .int), Cond.methodLink RL 35 yX4_sort, Cond.instanceMethod yX4_sort]
def wsL_law_r12 : List Cond := [Cond.selects RX4 yX4_sort yX4_sort, Cond.code yX4_sort cX4_sort 2 (some .int), Cond.methodLink RX4 67 yX1_arrange, Cond.instanceMethod yX1_arrange, Cond.selects RX1 yX1_arrange yX1_arrange, Cond.code yX1_arrange cX1_arrange 6 (some .int), Cond.methodLink RX1 60 yX1_rank, Cond.instanceMethod yX1_rank, Cond.selects RX1 yX1_rank yX1_rank, Cond.code yX1_rank cX1_rank 4 (some .int), Cond.static yX4_bit, Cond.code yX4_bit cX4_bit 3 (some .int), Cond.static yX4_ticksAbove, Cond.code yX4_ticksAbove cX4_ticksAbove 3 (some .int), Cond.methodLink RX4 211 yX4_glow, Cond.static yX4_glow, Cond.code yX4_glow cX4_glow 2 (some .int), Cond.methodLink RX4 200 Lib.Math.max.name, Cond.static Lib.Math.max.name, Cond.code Lib.Math.max.name Lib.Math.max.code 2 (some .int), Cond.methodLink RL 38 yX5_sort, Cond.instanceMethod yX5_sort, Cond.selects RX5 yX5_sort yX5_sort, Cond.code yX5_sort cX5_sort 3 (some .int)]
def wsL_law_r13 : List Cond := [Cond.methodLink RX5 136 yX5_sortCode, Cond.instanceMethod yX5_sortCode, Cond.selects RX5 yX5_sortCode yX5_sortCode, Cond.code yX5_sortCode cX5_sortCode 2 (some .int), Cond.methodLink RX5 139 yX5_sortNow, Cond.instanceMethod yX5_sortNow, Cond.selects RX5 yX5_sortNow yX5_sortNow, Cond.code yX5_sortNow cX5_sortNow 6 (some .int), Cond.methodLink RX5 133 yX5_keyOf, Cond.instanceMethod yX5_keyOf, Cond.selects RX5 yX5_keyOf yX5_keyOf, Cond.code yX5_keyOf cX5_keyOf 4 (some .int), Cond.methodLink RX5 130 yX5_darkTick, Cond.static yX5_darkTick, Cond.code yX5_darkTick cX5_darkTick 2 (some .int), Cond.methodLink RX5 57 yX5_fading, Cond.static yX5_fading, Cond.code yX5_fading cX5_fading 3 (some .int), Cond.methodLink RX5 47 yX5_halved, Cond.static yX5_halved, Cond.code yX5_halved cX5_halved 3 (some .int), Cond.methodLink RL 39 yX4_draw, Cond.instanceMethod yX4_draw, Cond.selects RX4 yX4_draw yX4_draw]
def wsL_law_r14 : List Cond := [Cond.code yX4_draw cX4_draw 4 (some .int), Cond.methodLink RX4 70 yX1_paint, Cond.instanceMethod yX1_paint, Cond.selects RX1 yX1_paint yX1_paint, Cond.code yX1_paint cX1_paint 4 (some .int), Cond.constantLong RX1 75 (-1), Cond.methodLink RX1 77 yJ13_bitCount_95d88, Cond.static yJ13_bitCount_95d88, Cond.initialized RJ13, Cond.code yJ13_bitCount_95d88 cJ13_bitCount_95d88 2 (some .int), Cond.constantLong RJ13 314 (6148914691236517205), Cond.constantLong RJ13 316 (3689348814741910323), Cond.constantLong RJ13 318 (1085102592571150095), Cond.methodLink RL 43 yX5_draw, Cond.instanceMethod yX5_draw, Cond.selects RX5 yX5_draw yX5_draw, Cond.code yX5_draw cX5_draw 4 (some .int), Cond.methodLink RX5 145 yX5_isBit, Cond.static yX5_isBit, Cond.code yX5_isBit cX5_isBit 1 (some .boolean), Cond.methodLink RX5 148 yX5_drawNow, Cond.instanceMethod yX5_drawNow, Cond.selects RX5 yX5_drawNow yX5_drawNow, Cond.code yX5_drawNow cX5_drawNow 4 (some .int)]
def wsL_law_r15 : List Cond := [Cond.methodLink RX5 142 yX5_inPicture, Cond.instanceMethod yX5_inPicture, Cond.selects RX5 yX5_inPicture yX5_inPicture, Cond.code yX5_inPicture cX5_inPicture 4 (some .int), Cond.methodLink RL 44 yX4_take, Cond.instanceMethod yX4_take, Cond.selects RX4 yX4_take yX4_take, Cond.code yX4_take cX4_take 2 (some .int), Cond.methodLink RX4 74 yX2_keepSnapshot, Cond.instanceMethod yX2_keepSnapshot, Cond.selects RX2 yX2_keepSnapshot yX2_keepSnapshot, Cond.code yX2_keepSnapshot cX2_keepSnapshot 2 (some .int), Cond.fieldLink RX2 34 "PhosphorHush$Screen" "size" "I", Cond.methodLink RX2 30 yX2_isSlot, Cond.static yX2_isSlot, Cond.code yX2_isSlot cX2_isSlot 1 (some .boolean), Cond.methodLink RL 47 yX5_take, Cond.instanceMethod yX5_take, Cond.selects RX5 yX5_take yX5_take, Cond.code yX5_take cX5_take 3 (some .int), Cond.methodLink RX5 151 yX5_slotAt, Cond.static yX5_slotAt, Cond.code yX5_slotAt cX5_slotAt 1 (some .int), Cond.methodLink RL 48 yX4_restore]
def wsL_law_r16 : List Cond := [Cond.instanceMethod yX4_restore, Cond.selects RX4 yX4_restore yX4_restore, Cond.code yX4_restore cX4_restore 2 (some .int), Cond.methodLink RX4 77 yX2_showSnapshot, Cond.instanceMethod yX2_showSnapshot, Cond.selects RX2 yX2_showSnapshot yX2_showSnapshot, Cond.code yX2_showSnapshot cX2_showSnapshot 2 (some .int), Cond.methodLink RL 51 yX5_restore, Cond.instanceMethod yX5_restore, Cond.selects RX5 yX5_restore yX5_restore, Cond.code yX5_restore cX5_restore 3 (some .int), Cond.methodLink RL 52 yX4_undo, Cond.instanceMethod yX4_undo, Cond.selects RX4 yX4_undo yX4_undo, Cond.code yX4_undo cX4_undo 1 (some .int), Cond.methodLink RL 56 yX5_undo, Cond.instanceMethod yX5_undo, Cond.selects RX5 yX5_undo yX5_undo, Cond.code yX5_undo cX5_undo 2 (some .int), Cond.methodLink RL 57 yX4_append, Cond.instanceMethod yX4_append, Cond.selects RX4 yX4_append yX4_append, Cond.code yX4_append cX4_append 2 (some .int), Cond.methodLink RX4 88 yX0_addCharacter]
def wsL_law_r17 : List Cond := [Cond.instanceMethod yX0_addCharacter, Cond.selects RX0 yX0_addCharacter yX0_addCharacter, Cond.code yX0_addCharacter cX0_addCharacter 2 (some .int), Cond.fieldLink RX0 19 "PhosphorHush$Program" "length" "I", Cond.methodLink RL 60 yX5_append, Cond.instanceMethod yX5_append, Cond.selects RX5 yX5_append yX5_append, Cond.code yX5_append cX5_append 2 (some .int), Cond.fieldLink RX5 154 "PhosphorHushModel" "length" "I", Cond.methodLink RL 61 yX4_clearText, Cond.instanceMethod yX4_clearText, Cond.selects RX4 yX4_clearText yX4_clearText, Cond.code yX4_clearText cX4_clearText 1 (some .int), Cond.methodLink RX4 91 yX0_empty, Cond.instanceMethod yX0_empty, Cond.selects RX0 yX0_empty yX0_empty, Cond.code yX0_empty cX0_empty 2 (some .int), Cond.methodLink RL 64 yX5_clearText, Cond.instanceMethod yX5_clearText, Cond.selects RX5 yX5_clearText yX5_clearText, Cond.code yX5_clearText cX5_clearText 2 (some .int), Cond.methodLink RL 65 yX4_run, Cond.instanceMethod yX4_run, Cond.selects RX4 yX4_run yX4_run]
def wsL_law_r18 : List Cond := [Cond.code yX4_run cX4_run 2 (some .int), Cond.methodLink RX4 95 yX0_runOn, Cond.instanceMethod yX0_runOn, Cond.selects RX0 yX0_runOn yX0_runOn, Cond.code yX0_runOn cX0_runOn 5 (some .int), Cond.fieldLink RX0 27 "PhosphorHush$Program" "place" "I", Cond.methodLink RX0 23 yX0_moveTo, Cond.instanceMethod yX0_moveTo, Cond.selects RX0 yX0_moveTo yX0_moveTo, Cond.code yX0_moveTo cX0_moveTo 2 none, Cond.methodLink RX0 30 yX0_readWord, Cond.instanceMethod yX0_readWord, Cond.selects RX0 yX0_readWord yX0_readWord, Cond.code yX0_readWord cX0_readWord 3 (some .int), Cond.methodLink RX0 50 yX0_wordOf, Cond.static yX0_wordOf, Cond.code yX0_wordOf cX0_wordOf 1 (some (.object "java/lang/String")), Cond.methodLink RX0 54 yX0_isWord, Cond.instanceMethod yX0_isWord, Cond.selects RX0 yX0_isWord yX0_isWord, Cond.code yX0_isWord cX0_isWord 4 (some .boolean), Cond.methodLink RX0 58 yJ0_length_8abf5, Cond.instanceMethod yJ0_length_8abf5, Cond.selects RJ0 yJ0_length_8abf5 yJ0_length_8abf5]
def wsL_law_r19 : List Cond := [Cond.initialized RJ0, Cond.code yJ0_length_8abf5 cJ0_length_8abf5 1 (some .int), Cond.fieldLink RJ0 9 "java/lang/String" "value" "[B", Cond.methodLink RJ0 335 yJ0_coder_7d493, Cond.instanceMethod yJ0_coder_7d493, Cond.selects RJ0 yJ0_coder_7d493 yJ0_coder_7d493, Cond.code yJ0_coder_7d493 cJ0_coder_7d493 1 (some .byte), Cond.fieldLink RJ0 38 "java/lang/String" "COMPACT_STRINGS" "Z", Cond.fieldLink RJ0 15 "java/lang/String" "coder" "B", Cond.methodLink RX0 62 yJ0_charAt_5068e, Cond.instanceMethod yJ0_charAt_5068e, Cond.selects RJ0 yJ0_charAt_5068e yJ0_charAt_5068e, Cond.code yJ0_charAt_5068e cJ0_charAt_5068e 2 (some .char), Cond.methodLink RJ0 492 yJ0_isLatin1_aae02, Cond.instanceMethod yJ0_isLatin1_aae02, Cond.selects RJ0 yJ0_isLatin1_aae02 yJ0_isLatin1_aae02, Cond.code yJ0_isLatin1_aae02 cJ0_isLatin1_aae02 1 (some .boolean), Cond.methodLink RJ0 495 yJ1_charAt_3b067, Cond.static yJ1_charAt_3b067, Cond.initialized RJ1, Cond.code yJ1_charAt_3b067 cJ1_charAt_3b067 2 (some .char), Cond.methodLink RJ1 9 yJ0_checkIndex_df160, Cond.static yJ0_checkIndex_df160, Cond.code yJ0_checkIndex_df160 cJ0_checkIndex_df160 2 none]
def wsL_law_r20 : List Cond := [Cond.fieldLink RJ0 1053 "jdk/internal/util/Preconditions" "SIOOBE_FORMATTER" "Ljava/util/function/BiFunction;", Cond.methodLink RJ0 1059 yJ3_checkIndex_8e157, Cond.static yJ3_checkIndex_8e157, Cond.initialized RJ3, Cond.code yJ3_checkIndex_8e157 cJ3_checkIndex_8e157 3 (some .int), Cond.methodLink RJ0 498 yJ2_charAt_3b067, Cond.static yJ2_charAt_3b067, Cond.initialized RJ2, Cond.code yJ2_charAt_3b067 cJ2_charAt_3b067 2 (some .char), Cond.methodLink RJ2 67 yJ2_checkIndex_2214a, Cond.static yJ2_checkIndex_2214a, Cond.code yJ2_checkIndex_2214a cJ2_checkIndex_2214a 2 none, Cond.methodLink RJ2 48 yJ2_length_9d52b, Cond.static yJ2_length_9d52b, Cond.code yJ2_length_9d52b cJ2_length_9d52b 1 (some .int), Cond.methodLink RJ2 414 yJ0_checkIndex_df160, Cond.methodLink RJ2 71 yJ2_getChar_3b067, Cond.static yJ2_getChar_3b067, Cond.code yJ2_getChar_3b067 cJ2_getChar_3b067 2 (some .char), Cond.fieldLink RJ2 44 "java/lang/StringUTF16" "$assertionsDisabled" "Z", Cond.fieldLink RJ2 59 "java/lang/StringUTF16" "HI_BYTE_SHIFT" "I", Cond.fieldLink RJ2 63 "java/lang/StringUTF16" "LO_BYTE_SHIFT" "I", Cond.methodLink RX0 34 yX0_numbersOf, Cond.static yX0_numbersOf]
def wsL_law_r21 : List Cond := [Cond.code yX0_numbersOf cX0_numbersOf 1 (some .int), Cond.methodLink RX0 38 yX0_readNumbers, Cond.instanceMethod yX0_readNumbers, Cond.selects RX0 yX0_readNumbers yX0_readNumbers, Cond.code yX0_readNumbers cX0_readNumbers 4 (some .boolean), Cond.methodLink RX0 66 yX0_readNumber, Cond.instanceMethod yX0_readNumber, Cond.selects RX0 yX0_readNumber yX0_readNumber, Cond.code yX0_readNumber cX0_readNumber 4 (some .int), Cond.methodLink RX0 42 yX0_readEnd, Cond.instanceMethod yX0_readEnd, Cond.selects RX0 yX0_readEnd yX0_readEnd, Cond.code yX0_readEnd cX0_readEnd 1 (some .boolean), Cond.methodLink RX0 46 yX0_carryOut, Cond.instanceMethod yX0_carryOut, Cond.selects RX0 yX0_carryOut yX0_carryOut, Cond.code yX0_carryOut cX0_carryOut 3 (some .int), Cond.methodLink RX0 83 yX1_addSpot, Cond.methodLink RX0 88 yX1_removeSpot, Cond.methodLink RX0 91 yX1_putPhosphor, Cond.methodLink RX0 95 yX1_paint, Cond.methodLink RX0 99 yX1_arrange, Cond.methodLink RX0 102 yX1_swapPositions, Cond.methodLink RL 68 yX5_run]
def wsL_law_r22 : List Cond := [Cond.instanceMethod yX5_run, Cond.selects RX5 yX5_run yX5_run, Cond.code yX5_run cX5_run 4 (some .int), Cond.fieldLink RX5 157 "PhosphorHushModel" "till" "I", Cond.fieldLink RX5 169 "PhosphorHushModel" "fault" "I", Cond.fieldLink RX5 166 "PhosphorHushModel" "token" "I", Cond.methodLink RX5 186 yX5_next, Cond.instanceMethod yX5_next, Cond.selects RX5 yX5_next yX5_next, Cond.code yX5_next cX5_next 1 none, Cond.fieldLink RX5 160 "PhosphorHushModel" "from" "I", Cond.methodLink RX5 163 yX5_sign, Cond.instanceMethod yX5_sign, Cond.selects RX5 yX5_sign yX5_sign, Cond.code yX5_sign cX5_sign 2 (some .int), Cond.methodLink RX5 201 yX5_command, Cond.instanceMethod yX5_command, Cond.selects RX5 yX5_command yX5_command, Cond.code yX5_command cX5_command 5 (some .int), Cond.methodLink RX5 189 yX5_wordHere, Cond.instanceMethod yX5_wordHere, Cond.selects RX5 yX5_wordHere yX5_wordHere, Cond.code yX5_wordHere cX5_wordHere 2 (some .int), Cond.methodLink RX5 179 yX5_isWord]
def wsL_law_r23 : List Cond := [Cond.instanceMethod yX5_isWord, Cond.selects RX5 yX5_isWord yX5_isWord, Cond.code yX5_isWord cX5_isWord 4 (some .boolean), Cond.methodLink RX5 176 yX5_letterOf, Cond.static yX5_letterOf, Cond.code yX5_letterOf cX5_letterOf 2 (some .int), Cond.methodLink RX5 172 yX5_spelled, Cond.static yX5_spelled, Cond.code yX5_spelled cX5_spelled 7 (some .int), Cond.methodLink RX5 182 yX5_fail, Cond.instanceMethod yX5_fail, Cond.selects RX5 yX5_fail yX5_fail, Cond.code yX5_fail cX5_fail 2 none, Cond.methodLink RX5 192 yX5_readNumber, Cond.instanceMethod yX5_readNumber, Cond.selects RX5 yX5_readNumber yX5_readNumber, Cond.code yX5_readNumber cX5_readNumber 4 none, Cond.methodLink RX5 195 yX5_codeOf, Cond.instanceMethod yX5_codeOf, Cond.selects RX5 yX5_codeOf yX5_codeOf, Cond.code yX5_codeOf cX5_codeOf 4 (some .int), Cond.methodLink RX5 198 yX5_carry, Cond.instanceMethod yX5_carry, Cond.selects RX5 yX5_carry yX5_carry]
def wsL_law_r24 : List Cond := [Cond.code yX5_carry cX5_carry 4 (some .int), Cond.methodLink RL 69 yX4_count, Cond.instanceMethod yX4_count, Cond.selects RX4 yX4_count yX4_count, Cond.code yX4_count cX4_count 4 (some .int), Cond.fieldLink RX4 99 "PhosphorHush$Screen" "settings" "[I", Cond.fieldLink RX4 102 "PhosphorHush$Screen" "size" "I", Cond.fieldLink RX4 108 "PhosphorHush$Screen" "pictures" "[J", Cond.methodLink RX4 105 yX1_litSize, Cond.methodLink RX4 112 yJ13_bitCount_95d88, Cond.methodLink RX4 118 yX1_seenByEye, Cond.instanceMethod yX1_seenByEye, Cond.selects RX1 yX1_seenByEye yX1_seenByEye, Cond.code yX1_seenByEye cX1_seenByEye 1 (some .long), Cond.methodLink RX1 115 yX1_seen, Cond.instanceMethod yX1_seen, Cond.selects RX1 yX1_seen yX1_seen, Cond.code yX1_seen cX1_seen 7 (some .long), Cond.methodLink RX1 98 yX1_sumOver, Cond.instanceMethod yX1_sumOver, Cond.selects RX1 yX1_sumOver yX1_sumOver, Cond.code yX1_sumOver cX1_sumOver 8 (some .int), Cond.methodLink RX1 89 yX1_litTick, Cond.instanceMethod yX1_litTick]
def wsL_law_r25 : List Cond := [Cond.selects RX1 yX1_litTick yX1_litTick, Cond.code yX1_litTick cX1_litTick 3 (some .int), Cond.methodLink RX1 92 yX1_shine, Cond.instanceMethod yX1_shine, Cond.selects RX1 yX1_shine yX1_shine, Cond.code yX1_shine cX1_shine 5 (some .int), Cond.methodLink RX1 95 yX1_next, Cond.instanceMethod yX1_next, Cond.selects RX1 yX1_next yX1_next, Cond.code yX1_next cX1_next 2 (some .int), Cond.methodLink RX1 101 yX1_mean, Cond.static yX1_mean, Cond.code yX1_mean cX1_mean 2 (some .int), Cond.methodLink RX4 122 yX1_seenByShutter, Cond.instanceMethod yX1_seenByShutter, Cond.selects RX1 yX1_seenByShutter yX1_seenByShutter, Cond.code yX1_seenByShutter cX1_seenByShutter 2 (some .long), Cond.methodLink RX1 104 yX1_startInFrame, Cond.instanceMethod yX1_startInFrame, Cond.selects RX1 yX1_startInFrame yX1_startInFrame, Cond.code yX1_startInFrame cX1_startInFrame 2 (some .int), Cond.methodLink RX4 126 yX1_wrong, Cond.instanceMethod yX1_wrong, Cond.selects RX1 yX1_wrong yX1_wrong]
def wsL_law_r26 : List Cond := [Cond.code yX1_wrong cX1_wrong 4 (some .long), Cond.methodLink RX4 130 yX1_sumOfWays, Cond.instanceMethod yX1_sumOfWays, Cond.selects RX1 yX1_sumOfWays yX1_sumOfWays, Cond.code yX1_sumOfWays cX1_sumOfWays 4 (some .int), Cond.methodLink RX4 133 yX1_arrival, Cond.methodLink RX4 136 yX2_snapshots, Cond.instanceMethod yX2_snapshots, Cond.selects RX2 yX2_snapshots yX2_snapshots, Cond.code yX2_snapshots cX2_snapshots 3 (some .int), Cond.methodLink RX4 139 yX0_size, Cond.instanceMethod yX0_size, Cond.selects RX0 yX0_size yX0_size, Cond.code yX0_size cX0_size 1 (some .int), Cond.methodLink RX4 141 yX4_settingCount, Cond.instanceMethod yX4_settingCount, Cond.selects RX4 yX4_settingCount yX4_settingCount, Cond.code yX4_settingCount cX4_settingCount 2 (some .int), Cond.methodLink RL 72 yX5_count, Cond.instanceMethod yX5_count, Cond.selects RX5 yX5_count yX5_count, Cond.code yX5_count cX5_count 3 (some .int), Cond.methodLink RX5 208 yX5_seenBy, Cond.instanceMethod yX5_seenBy]
def wsL_law_r27 : List Cond := [Cond.selects RX5 yX5_seenBy yX5_seenBy, Cond.code yX5_seenBy cX5_seenBy 4 (some .int), Cond.methodLink RX5 73 yX5_isEyed, Cond.instanceMethod yX5_isEyed, Cond.selects RX5 yX5_isEyed yX5_isEyed, Cond.code yX5_isEyed cX5_isEyed 2 (some .boolean), Cond.methodLink RX5 63 yX5_eyeMean, Cond.instanceMethod yX5_eyeMean, Cond.selects RX5 yX5_eyeMean yX5_eyeMean, Cond.code yX5_eyeMean cX5_eyeMean 4 (some .int), Cond.methodLink RX5 60 yX5_brightnessAt, Cond.instanceMethod yX5_brightnessAt, Cond.selects RX5 yX5_brightnessAt yX5_brightnessAt, Cond.code yX5_brightnessAt cX5_brightnessAt 4 (some .int), Cond.methodLink RX5 77 yX5_isShotNow, Cond.instanceMethod yX5_isShotNow, Cond.selects RX5 yX5_isShotNow yX5_isShotNow, Cond.code yX5_isShotNow cX5_isShotNow 2 (some .boolean), Cond.methodLink RX5 70 yX5_isShot, Cond.instanceMethod yX5_isShot, Cond.selects RX5 yX5_isShot yX5_isShot, Cond.code yX5_isShot cX5_isShot 4 (some .boolean), Cond.methodLink RX5 66 yX5_shutterMean, Cond.instanceMethod yX5_shutterMean]
def wsL_law_r28 : List Cond := [Cond.selects RX5 yX5_shutterMean yX5_shutterMean, Cond.code yX5_shutterMean cX5_shutterMean 6 (some .int), Cond.methodLink RX5 211 yX5_wrongBy, Cond.instanceMethod yX5_wrongBy, Cond.selects RX5 yX5_wrongBy yX5_wrongBy, Cond.code yX5_wrongBy cX5_wrongBy 4 (some .int), Cond.methodLink RX5 204 yX5_isWrong, Cond.instanceMethod yX5_isWrong, Cond.selects RX5 yX5_isWrong yX5_isWrong, Cond.code yX5_isWrong cX5_isWrong 3 (some .boolean), Cond.methodLink RX5 214 yX5_travel, Cond.instanceMethod yX5_travel, Cond.selects RX5 yX5_travel yX5_travel, Cond.code yX5_travel cX5_travel 4 (some .int), Cond.methodLink RX5 217 yX5_lastLit, Cond.instanceMethod yX5_lastLit, Cond.selects RX5 yX5_lastLit yX5_lastLit, Cond.code yX5_lastLit cX5_lastLit 3 (some .int), Cond.methodLink RL 73 yX4_spot, Cond.instanceMethod yX4_spot, Cond.selects RX4 yX4_spot yX4_spot, Cond.code yX4_spot cX4_spot 4 (some .int), Cond.fieldLink RX4 148 "PhosphorHush$Screen" "phosphors" "[I", Cond.methodLink RX4 144 yX4_isSpot]
def wsL_law_r29 : List Cond := [Cond.methodLink RX4 151 yX4_bit, Cond.methodLink RX4 155 yX1_positionOf, Cond.methodLink RX4 158 yX1_litTick, Cond.methodLink RX4 161 yX1_eyeMean, Cond.instanceMethod yX1_eyeMean, Cond.selects RX1 yX1_eyeMean yX1_eyeMean, Cond.code yX1_eyeMean cX1_eyeMean 2 (some .int), Cond.methodLink RX4 164 yX1_shutterMean, Cond.instanceMethod yX1_shutterMean, Cond.selects RX1 yX1_shutterMean yX1_shutterMean, Cond.code yX1_shutterMean cX1_shutterMean 3 (some .int), Cond.methodLink RX4 167 yX1_flicker, Cond.instanceMethod yX1_flicker, Cond.selects RX1 yX1_flicker yX1_flicker, Cond.code yX1_flicker cX1_flicker 7 (some .int), Cond.methodLink RX1 107 Lib.Math.max.name, Cond.methodLink RX1 112 Lib.Math.min.name, Cond.static Lib.Math.min.name, Cond.code Lib.Math.min.name Lib.Math.min.code 2 (some .int), Cond.methodLink RL 76 yX5_spot, Cond.instanceMethod yX5_spot, Cond.selects RX5 yX5_spot yX5_spot, Cond.code yX5_spot cX5_spot 3 (some .int), Cond.methodLink RX5 220 yX5_flickerOf]
def wsL_law_r30 : List Cond := [Cond.instanceMethod yX5_flickerOf, Cond.selects RX5 yX5_flickerOf yX5_flickerOf, Cond.code yX5_flickerOf cX5_flickerOf 6 (some .int), Cond.methodLink RL 77 yX4_at, Cond.instanceMethod yX4_at, Cond.selects RX4 yX4_at yX4_at, Cond.code yX4_at cX4_at 2 (some .int), Cond.fieldLink RX4 170 "PhosphorHush$Screen" "order" "[I", Cond.methodLink RL 80 yX5_at, Cond.instanceMethod yX5_at, Cond.selects RX5 yX5_at yX5_at, Cond.code yX5_at cX5_at 2 (some .int), Cond.methodLink RL 81 yX4_brightness, Cond.instanceMethod yX4_brightness, Cond.selects RX4 yX4_brightness yX4_brightness, Cond.code yX4_brightness cX4_brightness 4 (some .int), Cond.methodLink RX4 173 yX1_shine, Cond.methodLink RL 84 yX5_brightness, Cond.instanceMethod yX5_brightness, Cond.selects RX5 yX5_brightness yX5_brightness, Cond.code yX5_brightness cX5_brightness 3 (some .int), Cond.methodLink RL 85 yX4_firstWrong, Cond.instanceMethod yX4_firstWrong, Cond.selects RX4 yX4_firstWrong yX4_firstWrong]
def wsL_law_r31 : List Cond := [Cond.code yX4_firstWrong cX4_firstWrong 3 (some .int), Cond.methodLink RX4 176 yX4_firstOf, Cond.static yX4_firstOf, Cond.code yX4_firstOf cX4_firstOf 3 (some .int), Cond.methodLink RL 88 yX5_firstWrong, Cond.instanceMethod yX5_firstWrong, Cond.selects RX5 yX5_firstWrong yX5_firstWrong, Cond.code yX5_firstWrong cX5_firstWrong 3 (some .int), Cond.methodLink RL 89 yX4_bestStart, Cond.instanceMethod yX4_bestStart, Cond.selects RX4 yX4_bestStart yX4_bestStart, Cond.code yX4_bestStart cX4_bestStart 4 (some .int), Cond.methodLink RX4 179 yX1_countWrong, Cond.instanceMethod yX1_countWrong, Cond.selects RX1 yX1_countWrong yX1_countWrong, Cond.code yX1_countWrong cX1_countWrong 3 none, Cond.methodLink RX1 119 yJ7_fill_53178, Cond.static yJ7_fill_53178, Cond.initialized RJ7, Cond.code yJ7_fill_53178 cJ7_fill_53178 4 none, Cond.methodLink RX1 125 yX1_countSeen, Cond.instanceMethod yX1_countSeen, Cond.selects RX1 yX1_countSeen yX1_countSeen, Cond.code yX1_countSeen cX1_countSeen 9 none]
def wsL_law_r32 : List Cond := [Cond.methodLink RL 92 yX5_bestStart, Cond.instanceMethod yX5_bestStart, Cond.selects RX5 yX5_bestStart yX5_bestStart, Cond.code yX5_bestStart cX5_bestStart 6 (some .int), Cond.methodLink RX5 223 yX5_wrongFor, Cond.instanceMethod yX5_wrongFor, Cond.selects RX5 yX5_wrongFor yX5_wrongFor, Cond.code yX5_wrongFor cX5_wrongFor 5 (some .int), Cond.methodLink RL 93 yX4_leastTravel, Cond.instanceMethod yX4_leastTravel, Cond.selects RX4 yX4_leastTravel yX4_leastTravel, Cond.code yX4_leastTravel cX4_leastTravel 2 (some .int), Cond.methodLink RX4 183 yX1_spotsOfOrder, Cond.instanceMethod yX1_spotsOfOrder, Cond.selects RX1 yX1_spotsOfOrder yX1_spotsOfOrder, Cond.code yX1_spotsOfOrder cX1_spotsOfOrder 4 (some .long), Cond.methodLink RX4 186 yX3_plan, Cond.instanceMethod yX3_plan, Cond.selects RX3 yX3_plan yX3_plan, Cond.code yX3_plan cX3_plan 3 none, Cond.fieldLink RX3 22 "PhosphorHush$Travel" "planned" "J", Cond.methodLink RX3 26 yX3_listSpots, Cond.instanceMethod yX3_listSpots, Cond.selects RX3 yX3_listSpots yX3_listSpots]
def wsL_law_r33 : List Cond := [Cond.code yX3_listSpots cX3_listSpots 2 none, Cond.fieldLink RX3 39 "PhosphorHush$Travel" "size" "I", Cond.methodLink RX3 29 yX3_fillRest, Cond.instanceMethod yX3_fillRest, Cond.selects RX3 yX3_fillRest yX3_fillRest, Cond.code yX3_fillRest cX3_fillRest 3 none, Cond.methodLink RX3 46 yX3_leastFrom, Cond.instanceMethod yX3_leastFrom, Cond.selects RX3 yX3_leastFrom yX3_leastFrom, Cond.code yX3_leastFrom cX3_leastFrom 4 (some .int), Cond.methodLink RX3 50 yX3_bestStep, Cond.instanceMethod yX3_bestStep, Cond.selects RX3 yX3_bestStep yX3_bestStep, Cond.code yX3_bestStep cX3_bestStep 7 (some .int), Cond.methodLink RX3 53 yX3_travelBy, Cond.instanceMethod yX3_travelBy, Cond.selects RX3 yX3_travelBy yX3_travelBy, Cond.code yX3_travelBy cX3_travelBy 4 (some .int), Cond.methodLink RX3 32 yX3_follow, Cond.instanceMethod yX3_follow, Cond.selects RX3 yX3_follow yX3_follow, Cond.code yX3_follow cX3_follow 5 none, Cond.fieldLink RX3 35 "PhosphorHush$Travel" "sum" "I", Cond.methodLink RX4 190 yX3_sumOfWays]
def wsL_law_r34 : List Cond := [Cond.instanceMethod yX3_sumOfWays, Cond.selects RX3 yX3_sumOfWays yX3_sumOfWays, Cond.code yX3_sumOfWays cX3_sumOfWays 1 (some .int), Cond.methodLink RX4 191 yX3_stop, Cond.instanceMethod yX3_stop, Cond.selects RX3 yX3_stop yX3_stop, Cond.code yX3_stop cX3_stop 2 (some .int), Cond.methodLink RL 96 yX5_leastTravel, Cond.instanceMethod yX5_leastTravel, Cond.selects RX5 yX5_leastTravel yX5_leastTravel, Cond.code yX5_leastTravel cX5_leastTravel 11 (some .int), Cond.constant RX5 226 (100000), Cond.methodLink RX5 227 yX5_reckonWays, Cond.instanceMethod yX5_reckonWays, Cond.selects RX5 yX5_reckonWays yX5_reckonWays, Cond.code yX5_reckonWays cX5_reckonWays 7 none, Cond.methodLink RL 97 yX4_longest, Cond.instanceMethod yX4_longest, Cond.selects RX4 yX4_longest yX4_longest, Cond.code yX4_longest cX4_longest 2 (some .int), Cond.methodLink RL 100 yX5_longest, Cond.instanceMethod yX5_longest, Cond.selects RX5 yX5_longest yX5_longest, Cond.code yX5_longest cX5_longest 2 (some .int)]
def wsL_law_r35 : List Cond := [Cond.methodLink RL 101 yX4_ticks, Cond.instanceMethod yX4_ticks, Cond.selects RX4 yX4_ticks yX4_ticks, Cond.code yX4_ticks cX4_ticks 3 (some .int), Cond.methodLink RX4 194 yX4_isPhosphor, Cond.methodLink RX4 197 yX4_ticksAbove, Cond.methodLink RL 104 yX5_ticks, Cond.instanceMethod yX5_ticks, Cond.selects RX5 yX5_ticks yX5_ticks, Cond.code yX5_ticks cX5_ticks 4 (some .int), Cond.methodLink RL 105 yX4_shortestPeriod, Cond.instanceMethod yX4_shortestPeriod, Cond.selects RX4 yX4_shortestPeriod yX4_shortestPeriod, Cond.code yX4_shortestPeriod cX4_shortestPeriod 2 (some .int), Cond.methodLink RL 108 yX5_shortestPeriod, Cond.instanceMethod yX5_shortestPeriod, Cond.selects RX5 yX5_shortestPeriod yX5_shortestPeriod, Cond.code yX5_shortestPeriod cX5_shortestPeriod 2 (some .int), Cond.methodLink RX5 230 yX5_lastTick, Cond.instanceMethod yX5_lastTick, Cond.selects RX5 yX5_lastTick yX5_lastTick, Cond.code yX5_lastTick cX5_lastTick 4 (some .int)]
def wsL_law : List Cond := (wsL_law_r1 ++ (wsL_law_r2 ++ (wsL_law_r3 ++ (wsL_law_r4 ++ (wsL_law_r5 ++ (wsL_law_r6 ++ (wsL_law_r7 ++ (wsL_law_r8 ++ (wsL_law_r9 ++ (wsL_law_r10 ++ (wsL_law_r11 ++ (wsL_law_r12 ++ (wsL_law_r13 ++ (wsL_law_r14 ++ (wsL_law_r15 ++ (wsL_law_r16 ++ (wsL_law_r17 ++ (wsL_law_r18 ++ (wsL_law_r19 ++ (wsL_law_r20 ++ (wsL_law_r21 ++ (wsL_law_r22 ++ (wsL_law_r23 ++ (wsL_law_r24 ++ (wsL_law_r25 ++ (wsL_law_r26 ++ (wsL_law_r27 ++ (wsL_law_r28 ++ (wsL_law_r29 ++ (wsL_law_r30 ++ (wsL_law_r31 ++ (wsL_law_r32 ++ (wsL_law_r33 ++ (wsL_law_r34 ++ wsL_law_r35)))))))))))))))))))))))))))))))))) ++ wsX40 ++ wsX50 ++ wsX20 ++ wsX00 ++ wsX30 ++ wsX10 ++ ([] : List Cond)
theorem inlX0 : ∀ w ∈ wsX00, w ∈ wsL_law := fun _ h => List.mem_append_left _ (List.mem_append_left _ (List.mem_append_left _ (List.mem_append_right _ h)))
theorem inlX1 : ∀ w ∈ wsX10, w ∈ wsL_law := fun _ h => List.mem_append_left _ (List.mem_append_right _ h)
theorem inlX2 : ∀ w ∈ wsX20, w ∈ wsL_law := fun _ h => List.mem_append_left _ (List.mem_append_left _ (List.mem_append_left _ (List.mem_append_left _ (List.mem_append_right _ h))))
theorem inlX3 : ∀ w ∈ wsX30, w ∈ wsL_law := fun _ h => List.mem_append_left _ (List.mem_append_left _ (List.mem_append_right _ h))
theorem inlX4 : ∀ w ∈ wsX40, w ∈ wsL_law := fun _ h => List.mem_append_left _ (List.mem_append_left _ (List.mem_append_left _ (List.mem_append_left _ (List.mem_append_left _ (List.mem_append_left _ (List.mem_append_right _ h))))))
theorem inlX5 : ∀ w ∈ wsX50, w ∈ wsL_law := fun _ h => List.mem_append_left _ (List.mem_append_left _ (List.mem_append_left _ (List.mem_append_left _ (List.mem_append_left _ (List.mem_append_right _ h)))))
theorem inJx145de : ∀ w ∈ wsJx145de0, w ∈ lw_tbl := by decide +kernel
theorem inJx9f9b0 : ∀ w ∈ wsJx9f9b00, w ∈ lw_tbl := by decide +kernel
theorem inJxb160c : ∀ w ∈ wsJxb160c0, w ∈ lw_tbl := by decide +kernel
theorem inJ13 : ∀ w ∈ wsJ130, w ∈ lw_tbl := by decide +kernel
theorem inJ9 : ∀ w ∈ wsJ90, w ∈ lw_tbl := by decide +kernel
theorem inJ0 : ∀ w ∈ wsJ00, w ∈ lw_tbl := by decide +kernel
theorem inJ1 : ∀ w ∈ wsJ10, w ∈ lw_tbl := by decide +kernel
theorem inJ2 : ∀ w ∈ wsJ20, w ∈ lw_tbl := by decide +kernel
theorem inJ10 : ∀ w ∈ wsJ100, w ∈ lw_tbl := by decide +kernel
theorem inJxfd54e : ∀ w ∈ wsJxfd54e0, w ∈ lw_tbl := by decide +kernel
theorem inJx3cf43 : ∀ w ∈ wsJx3cf430, w ∈ lw_tbl := by decide +kernel
theorem inJ7 : ∀ w ∈ wsJ70, w ∈ lw_tbl := by decide +kernel
theorem inJ3 : ∀ w ∈ wsJ30, w ∈ lw_tbl := by decide +kernel
theorem dX0_init_0 : decode cX0_init 0 = .ok (.aload_n 0, 1) := by decide +kernel
theorem dX0_init_1 : decode cX0_init 1 = .ok (.invokespecial 3, 3) := by decide +kernel
theorem dX0_init_4 : decode cX0_init 4 = .ok (.aload_n 0, 1) := by decide +kernel
theorem dX0_init_5 : decode cX0_init 5 = .ok (.sipush 140, 3) := by decide +kernel
theorem dX0_init_8 : decode cX0_init 8 = .ok (.newarray .char, 2) := by decide +kernel
theorem dX0_init_10 : decode cX0_init 10 = .ok (.putfield 9, 3) := by decide +kernel
theorem dX0_init_13 : decode cX0_init 13 = .ok (.aload_n 0, 1) := by decide +kernel
theorem dX0_init_14 : decode cX0_init 14 = .ok (.iconst 2, 1) := by decide +kernel
theorem dX0_init_15 : decode cX0_init 15 = .ok (.newarray .int, 2) := by decide +kernel
theorem dX0_init_17 : decode cX0_init 17 = .ok (.putfield 15, 3) := by decide +kernel
theorem dX0_init_20 : decode cX0_init 20 = .ok (.return_, 1) := by decide +kernel
theorem dX0_size_0 : decode cX0_size 0 = .ok (.aload_n 0, 1) := by decide +kernel
theorem dX0_size_1 : decode cX0_size 1 = .ok (.getfield 19, 3) := by decide +kernel
theorem dX0_size_4 : decode cX0_size 4 = .ok (.ireturn, 1) := by decide +kernel
theorem dX0_addCharacter_0 : decode cX0_addCharacter 0 = .ok (.iload_n 1, 1) := by decide +kernel
theorem dX0_addCharacter_1 : decode cX0_addCharacter 1 = .ok (.iconst 1, 1) := by decide +kernel
theorem dX0_addCharacter_2 : decode cX0_addCharacter 2 = .ok (.if_icmp .lt 10, 3) := by decide +kernel
theorem dX0_addCharacter_5 : decode cX0_addCharacter 5 = .ok (.iload_n 1, 1) := by decide +kernel
theorem dX0_addCharacter_6 : decode cX0_addCharacter 6 = .ok (.sipush 255, 3) := by decide +kernel
theorem dX0_addCharacter_9 : decode cX0_addCharacter 9 = .ok (.if_icmp .le 5, 3) := by decide +kernel
theorem dX0_addCharacter_12 : decode cX0_addCharacter 12 = .ok (.iconst (-1), 1) := by decide +kernel
theorem dX0_addCharacter_13 : decode cX0_addCharacter 13 = .ok (.ireturn, 1) := by decide +kernel
theorem dX0_addCharacter_14 : decode cX0_addCharacter 14 = .ok (.aload_n 0, 1) := by decide +kernel
theorem dX0_addCharacter_15 : decode cX0_addCharacter 15 = .ok (.getfield 19, 3) := by decide +kernel
theorem dX0_addCharacter_18 : decode cX0_addCharacter 18 = .ok (.sipush 140, 3) := by decide +kernel
theorem dX0_addCharacter_21 : decode cX0_addCharacter 21 = .ok (.if_icmp .lt 6, 3) := by decide +kernel
theorem dX0_addCharacter_24 : decode cX0_addCharacter 24 = .ok (.bipush (-3), 2) := by decide +kernel
theorem dX0_addCharacter_26 : decode cX0_addCharacter 26 = .ok (.ireturn, 1) := by decide +kernel
theorem dX0_addCharacter_27 : decode cX0_addCharacter 27 = .ok (.aload_n 0, 1) := by decide +kernel
theorem dX0_addCharacter_28 : decode cX0_addCharacter 28 = .ok (.getfield 9, 3) := by decide +kernel
theorem dX0_addCharacter_31 : decode cX0_addCharacter 31 = .ok (.aload_n 0, 1) := by decide +kernel
theorem dX0_addCharacter_32 : decode cX0_addCharacter 32 = .ok (.getfield 19, 3) := by decide +kernel
theorem dX0_addCharacter_35 : decode cX0_addCharacter 35 = .ok (.iload_n 1, 1) := by decide +kernel
theorem dX0_addCharacter_36 : decode cX0_addCharacter 36 = .ok (.i2c, 1) := by decide +kernel
theorem dX0_addCharacter_37 : decode cX0_addCharacter 37 = .ok (.castore, 1) := by decide +kernel
theorem dX0_addCharacter_38 : decode cX0_addCharacter 38 = .ok (.aload_n 0, 1) := by decide +kernel
theorem dX0_addCharacter_39 : decode cX0_addCharacter 39 = .ok (.dup, 1) := by decide +kernel
theorem dX0_addCharacter_40 : decode cX0_addCharacter 40 = .ok (.getfield 19, 3) := by decide +kernel
theorem dX0_addCharacter_43 : decode cX0_addCharacter 43 = .ok (.iconst 1, 1) := by decide +kernel
theorem dX0_addCharacter_44 : decode cX0_addCharacter 44 = .ok (.iadd, 1) := by decide +kernel
theorem dX0_addCharacter_45 : decode cX0_addCharacter 45 = .ok (.putfield 19, 3) := by decide +kernel
theorem dX0_addCharacter_48 : decode cX0_addCharacter 48 = .ok (.aload_n 0, 1) := by decide +kernel
theorem dX0_addCharacter_49 : decode cX0_addCharacter 49 = .ok (.getfield 19, 3) := by decide +kernel
theorem dX0_addCharacter_52 : decode cX0_addCharacter 52 = .ok (.ireturn, 1) := by decide +kernel
theorem dX0_empty_0 : decode cX0_empty 0 = .ok (.aload_n 0, 1) := by decide +kernel
theorem dX0_empty_1 : decode cX0_empty 1 = .ok (.getfield 19, 3) := by decide +kernel
theorem dX0_empty_4 : decode cX0_empty 4 = .ok (.istore_n 1, 1) := by decide +kernel
theorem dX0_empty_5 : decode cX0_empty 5 = .ok (.aload_n 0, 1) := by decide +kernel
theorem dX0_empty_6 : decode cX0_empty 6 = .ok (.iconst 0, 1) := by decide +kernel
theorem dX0_empty_7 : decode cX0_empty 7 = .ok (.putfield 19, 3) := by decide +kernel
theorem dX0_empty_10 : decode cX0_empty 10 = .ok (.iload_n 1, 1) := by decide +kernel
theorem dX0_empty_11 : decode cX0_empty 11 = .ok (.ireturn, 1) := by decide +kernel
set_option maxRecDepth 20000 in
theorem ggX0_runOn_X0_moveTo : GoodIn wsX0_runOn wsX0_moveTo := goodIn_r _ [7, 1, 2, 8, 168, 169, 170, 171] (by decide +kernel) (by decide +kernel)
set_option maxRecDepth 20000 in
theorem gX0_runOn_X0_moveTo : GoodIn wsX0_runOn (wsV RX0 23 RX0 yX0_moveTo wsX0_moveTo) := goodIn_app (goodIn_of _ (by decide +kernel)) ggX0_runOn_X0_moveTo
set_option maxRecDepth 20000 in
theorem ggX0_runOn_X0_readWord : GoodIn wsX0_runOn wsX0_readWord := goodIn_r _ [12, 1, 2, 8, 13, 14, 6, 15, 16, 17, 18, 19, 20, 21, 22, 23, 24, 25, 26, 27, 28, 29, 30, 31, 32, 33, 34, 35, 36, 37, 38, 39, 40, 41, 42, 43, 44, 45, 46, 47, 48, 49, 50, 51, 52, 53, 54, 55, 56, 57, 58, 59, 60, 61, 62, 63, 64, 65, 66, 67, 68, 3, 4, 5, 7, 168, 169, 170, 171] (by decide +kernel) (by decide +kernel)
set_option maxRecDepth 20000 in
theorem gX0_runOn_X0_readWord : GoodIn wsX0_runOn (wsV RX0 30 RX0 yX0_readWord wsX0_readWord) := goodIn_app (goodIn_of _ (by decide +kernel)) ggX0_runOn_X0_readWord
set_option maxRecDepth 20000 in
theorem ggX0_runOn_X0_numbersOf : GoodIn wsX0_runOn wsX0_numbersOf := goodIn_r _ [71] (by decide +kernel) (by decide +kernel)
set_option maxRecDepth 20000 in
theorem gX0_runOn_X0_numbersOf : GoodIn wsX0_runOn (va_wsS RX0 34 yX0_numbersOf wsX0_numbersOf) := goodIn_app (goodIn_of _ (by decide +kernel)) ggX0_runOn_X0_numbersOf
set_option maxRecDepth 20000 in
theorem ggX0_runOn_X0_readNumbers : GoodIn wsX0_runOn wsX0_readNumbers := goodIn_r _ [75, 76, 77, 78, 79, 6, 80, 1, 2, 8, 3, 4, 5, 7, 168, 169, 170, 171] (by decide +kernel) (by decide +kernel)
set_option maxRecDepth 20000 in
theorem gX0_runOn_X0_readNumbers : GoodIn wsX0_runOn (wsV RX0 38 RX0 yX0_readNumbers wsX0_readNumbers) := goodIn_app (goodIn_of _ (by decide +kernel)) ggX0_runOn_X0_readNumbers
set_option maxRecDepth 20000 in
theorem ggX0_runOn_X0_readEnd : GoodIn wsX0_runOn wsX0_readEnd := goodIn_r _ [84, 1, 2, 8, 3, 4, 5, 6, 7, 168, 169, 170, 171] (by decide +kernel) (by decide +kernel)
set_option maxRecDepth 20000 in
theorem gX0_runOn_X0_readEnd : GoodIn wsX0_runOn (wsV RX0 42 RX0 yX0_readEnd wsX0_readEnd) := goodIn_app (goodIn_of _ (by decide +kernel)) ggX0_runOn_X0_readEnd
set_option maxRecDepth 20000 in
theorem ggX0_runOn_X0_carryOut : GoodIn wsX0_runOn wsX0_carryOut := goodIn_r _ [88, 76, 89, 90, 91, 92, 93, 94, 95, 96, 97, 98, 99, 100, 101, 102, 103, 104, 105, 106, 107, 108, 109, 110, 111, 112, 113, 114, 115, 116, 117, 118, 119, 120, 121, 122, 123, 124, 125, 126, 127, 128, 129, 130, 131, 132, 133, 134, 135, 136, 137, 138, 139, 140, 141, 142, 143, 144, 145, 146, 147, 148, 149, 150, 151, 152, 153, 154, 155, 156, 157, 158, 159, 160, 161, 162, 163, 164, 165, 166, 167, 168, 169, 170, 171, 172, 173, 174, 175, 176] (by decide +kernel) (by decide +kernel)
set_option maxRecDepth 20000 in
theorem gX0_runOn_X0_carryOut : GoodIn wsX0_runOn (wsV RX0 46 RX0 yX0_carryOut wsX0_carryOut) := goodIn_app (goodIn_of _ (by decide +kernel)) ggX0_runOn_X0_carryOut
theorem dX0_runOn_0 : decode cX0_runOn 0 = .ok (.iconst 0, 1) := by decide +kernel
theorem dX0_runOn_1 : decode cX0_runOn 1 = .ok (.istore_n 2, 1) := by decide +kernel
theorem dX0_runOn_2 : decode cX0_runOn 2 = .ok (.aload_n 0, 1) := by decide +kernel
theorem dX0_runOn_3 : decode cX0_runOn 3 = .ok (.iconst 0, 1) := by decide +kernel
theorem dX0_runOn_4 : decode cX0_runOn 4 = .ok (.invokevirtual 23, 3) := by decide +kernel
theorem dX0_runOn_7 : decode cX0_runOn 7 = .ok (.aload_n 0, 1) := by decide +kernel
theorem dX0_runOn_8 : decode cX0_runOn 8 = .ok (.getfield 27, 3) := by decide +kernel
theorem dX0_runOn_11 : decode cX0_runOn 11 = .ok (.aload_n 0, 1) := by decide +kernel
theorem dX0_runOn_12 : decode cX0_runOn 12 = .ok (.getfield 19, 3) := by decide +kernel
theorem dX0_runOn_15 : decode cX0_runOn 15 = .ok (.if_icmp .ge 76, 3) := by decide +kernel
theorem dX0_runOn_18 : decode cX0_runOn 18 = .ok (.iload_n 2, 1) := by decide +kernel
theorem dX0_runOn_19 : decode cX0_runOn 19 = .ok (.sipush 140, 3) := by decide +kernel
theorem dX0_runOn_22 : decode cX0_runOn 22 = .ok (.if_icmp .ge 69, 3) := by decide +kernel
theorem dX0_runOn_25 : decode cX0_runOn 25 = .ok (.aload_n 0, 1) := by decide +kernel
theorem dX0_runOn_26 : decode cX0_runOn 26 = .ok (.getfield 27, 3) := by decide +kernel
theorem dX0_runOn_29 : decode cX0_runOn 29 = .ok (.istore_n 3, 1) := by decide +kernel
theorem dX0_runOn_30 : decode cX0_runOn 30 = .ok (.aload_n 0, 1) := by decide +kernel
theorem dX0_runOn_31 : decode cX0_runOn 31 = .ok (.invokevirtual 30, 3) := by decide +kernel
theorem dX0_runOn_34 : decode cX0_runOn 34 = .ok (.istore 4, 2) := by decide +kernel
theorem dX0_runOn_36 : decode cX0_runOn 36 = .ok (.iload 4, 2) := by decide +kernel
theorem dX0_runOn_38 : decode cX0_runOn 38 = .ok (.ifCond .lt 22, 3) := by decide +kernel
theorem dX0_runOn_41 : decode cX0_runOn 41 = .ok (.aload_n 0, 1) := by decide +kernel
theorem dX0_runOn_42 : decode cX0_runOn 42 = .ok (.iload 4, 2) := by decide +kernel
theorem dX0_runOn_44 : decode cX0_runOn 44 = .ok (.invokestatic 34, 3) := by decide +kernel
theorem dX0_runOn_47 : decode cX0_runOn 47 = .ok (.invokevirtual 38, 3) := by decide +kernel
theorem dX0_runOn_50 : decode cX0_runOn 50 = .ok (.ifCond .eq 10, 3) := by decide +kernel
theorem dX0_runOn_53 : decode cX0_runOn 53 = .ok (.aload_n 0, 1) := by decide +kernel
theorem dX0_runOn_54 : decode cX0_runOn 54 = .ok (.invokevirtual 42, 3) := by decide +kernel
theorem dX0_runOn_57 : decode cX0_runOn 57 = .ok (.ifCond .ne 12, 3) := by decide +kernel
theorem dX0_runOn_60 : decode cX0_runOn 60 = .ok (.sipush (-1000), 3) := by decide +kernel
theorem dX0_runOn_63 : decode cX0_runOn 63 = .ok (.aload_n 0, 1) := by decide +kernel
theorem dX0_runOn_64 : decode cX0_runOn 64 = .ok (.getfield 27, 3) := by decide +kernel
theorem dX0_runOn_67 : decode cX0_runOn 67 = .ok (.isub, 1) := by decide +kernel
theorem dX0_runOn_68 : decode cX0_runOn 68 = .ok (.ireturn, 1) := by decide +kernel
theorem dX0_runOn_69 : decode cX0_runOn 69 = .ok (.aload_n 0, 1) := by decide +kernel
theorem dX0_runOn_70 : decode cX0_runOn 70 = .ok (.iload 4, 2) := by decide +kernel
theorem dX0_runOn_72 : decode cX0_runOn 72 = .ok (.aload_n 1, 1) := by decide +kernel
theorem dX0_runOn_73 : decode cX0_runOn 73 = .ok (.invokevirtual 46, 3) := by decide +kernel
theorem dX0_runOn_76 : decode cX0_runOn 76 = .ok (.ifCond .ge 9, 3) := by decide +kernel
theorem dX0_runOn_79 : decode cX0_runOn 79 = .ok (.sipush (-1000), 3) := by decide +kernel
theorem dX0_runOn_82 : decode cX0_runOn 82 = .ok (.iload_n 3, 1) := by decide +kernel
theorem dX0_runOn_83 : decode cX0_runOn 83 = .ok (.isub, 1) := by decide +kernel
theorem dX0_runOn_84 : decode cX0_runOn 84 = .ok (.ireturn, 1) := by decide +kernel
theorem dX0_runOn_85 : decode cX0_runOn 85 = .ok (.iinc 2 1, 3) := by decide +kernel
theorem dX0_runOn_88 : decode cX0_runOn 88 = .ok (.goto (-81), 3) := by decide +kernel
theorem dX0_runOn_91 : decode cX0_runOn 91 = .ok (.iload_n 2, 1) := by decide +kernel
theorem dX0_runOn_92 : decode cX0_runOn 92 = .ok (.ireturn, 1) := by decide +kernel
theorem dX0_moveTo_0 : decode cX0_moveTo 0 = .ok (.aload_n 0, 1) := by decide +kernel
theorem dX0_moveTo_1 : decode cX0_moveTo 1 = .ok (.iload_n 1, 1) := by decide +kernel
theorem dX0_moveTo_2 : decode cX0_moveTo 2 = .ok (.putfield 27, 3) := by decide +kernel
theorem dX0_moveTo_5 : decode cX0_moveTo 5 = .ok (.aload_n 0, 1) := by decide +kernel
theorem dX0_moveTo_6 : decode cX0_moveTo 6 = .ok (.getfield 27, 3) := by decide +kernel
theorem dX0_moveTo_9 : decode cX0_moveTo 9 = .ok (.aload_n 0, 1) := by decide +kernel
theorem dX0_moveTo_10 : decode cX0_moveTo 10 = .ok (.getfield 19, 3) := by decide +kernel
theorem dX0_moveTo_13 : decode cX0_moveTo 13 = .ok (.if_icmp .ge 30, 3) := by decide +kernel
theorem dX0_moveTo_16 : decode cX0_moveTo 16 = .ok (.aload_n 0, 1) := by decide +kernel
theorem dX0_moveTo_17 : decode cX0_moveTo 17 = .ok (.getfield 9, 3) := by decide +kernel
theorem dX0_moveTo_20 : decode cX0_moveTo 20 = .ok (.aload_n 0, 1) := by decide +kernel
theorem dX0_moveTo_21 : decode cX0_moveTo 21 = .ok (.getfield 27, 3) := by decide +kernel
theorem dX0_moveTo_24 : decode cX0_moveTo 24 = .ok (.caload, 1) := by decide +kernel
theorem dX0_moveTo_25 : decode cX0_moveTo 25 = .ok (.bipush 32, 2) := by decide +kernel
theorem dX0_moveTo_27 : decode cX0_moveTo 27 = .ok (.if_icmp .ne 16, 3) := by decide +kernel
theorem dX0_moveTo_30 : decode cX0_moveTo 30 = .ok (.aload_n 0, 1) := by decide +kernel
theorem dX0_moveTo_31 : decode cX0_moveTo 31 = .ok (.dup, 1) := by decide +kernel
theorem dX0_moveTo_32 : decode cX0_moveTo 32 = .ok (.getfield 27, 3) := by decide +kernel
theorem dX0_moveTo_35 : decode cX0_moveTo 35 = .ok (.iconst 1, 1) := by decide +kernel
theorem dX0_moveTo_36 : decode cX0_moveTo 36 = .ok (.iadd, 1) := by decide +kernel
theorem dX0_moveTo_37 : decode cX0_moveTo 37 = .ok (.putfield 27, 3) := by decide +kernel
theorem dX0_moveTo_40 : decode cX0_moveTo 40 = .ok (.goto (-35), 3) := by decide +kernel
theorem dX0_moveTo_43 : decode cX0_moveTo 43 = .ok (.return_, 1) := by decide +kernel
set_option maxRecDepth 20000 in
theorem ggX0_readWord_X0_wordOf : GoodIn wsX0_readWord wsX0_wordOf := goodIn_r _ [7] (by decide +kernel) (by decide +kernel)
set_option maxRecDepth 20000 in
theorem gX0_readWord_X0_wordOf : GoodIn wsX0_readWord (va_wsS RX0 50 yX0_wordOf wsX0_wordOf) := goodIn_app (goodIn_of _ (by decide +kernel)) ggX0_readWord_X0_wordOf
set_option maxRecDepth 20000 in
theorem ggX0_readWord_X0_isWord : GoodIn wsX0_readWord wsX0_isWord := goodIn_r _ [11, 1, 3, 12, 13, 14, 15, 16, 17, 18, 19, 20, 21, 22, 23, 24, 25, 26, 27, 28, 29, 30, 31, 32, 33, 34, 35, 36, 37, 38, 39, 40, 41, 42, 43, 44, 45, 46, 47, 48, 49, 50, 51, 52, 53, 54, 55, 56, 57, 58, 59, 60, 65, 66, 67, 68] (by decide +kernel) (by decide +kernel)
set_option maxRecDepth 20000 in
theorem gX0_readWord_X0_isWord : GoodIn wsX0_readWord (wsV RX0 54 RX0 yX0_isWord wsX0_isWord) := goodIn_app (goodIn_of _ (by decide +kernel)) ggX0_readWord_X0_isWord
set_option maxRecDepth 20000 in
theorem ggX0_readWord_X0_moveTo : GoodIn wsX0_readWord wsX0_moveTo := goodIn_r _ [64, 1, 2, 3, 65, 66, 67, 68] (by decide +kernel) (by decide +kernel)
set_option maxRecDepth 20000 in
theorem gX0_readWord_X0_moveTo : GoodIn wsX0_readWord (wsV RX0 23 RX0 yX0_moveTo wsX0_moveTo) := goodIn_app (goodIn_of _ (by decide +kernel)) ggX0_readWord_X0_moveTo
theorem dX0_readWord_0 : decode cX0_readWord 0 = .ok (.aload_n 0, 1) := by decide +kernel
theorem dX0_readWord_1 : decode cX0_readWord 1 = .ok (.getfield 27, 3) := by decide +kernel
theorem dX0_readWord_4 : decode cX0_readWord 4 = .ok (.istore_n 1, 1) := by decide +kernel
theorem dX0_readWord_5 : decode cX0_readWord 5 = .ok (.iload_n 1, 1) := by decide +kernel
theorem dX0_readWord_6 : decode cX0_readWord 6 = .ok (.aload_n 0, 1) := by decide +kernel
theorem dX0_readWord_7 : decode cX0_readWord 7 = .ok (.getfield 19, 3) := by decide +kernel
theorem dX0_readWord_10 : decode cX0_readWord 10 = .ok (.if_icmp .ge 31, 3) := by decide +kernel
theorem dX0_readWord_13 : decode cX0_readWord 13 = .ok (.aload_n 0, 1) := by decide +kernel
theorem dX0_readWord_14 : decode cX0_readWord 14 = .ok (.getfield 9, 3) := by decide +kernel
theorem dX0_readWord_17 : decode cX0_readWord 17 = .ok (.iload_n 1, 1) := by decide +kernel
theorem dX0_readWord_18 : decode cX0_readWord 18 = .ok (.caload, 1) := by decide +kernel
theorem dX0_readWord_19 : decode cX0_readWord 19 = .ok (.bipush 97, 2) := by decide +kernel
theorem dX0_readWord_21 : decode cX0_readWord 21 = .ok (.if_icmp .lt 20, 3) := by decide +kernel
theorem dX0_readWord_24 : decode cX0_readWord 24 = .ok (.aload_n 0, 1) := by decide +kernel
theorem dX0_readWord_25 : decode cX0_readWord 25 = .ok (.getfield 9, 3) := by decide +kernel
theorem dX0_readWord_28 : decode cX0_readWord 28 = .ok (.iload_n 1, 1) := by decide +kernel
theorem dX0_readWord_29 : decode cX0_readWord 29 = .ok (.caload, 1) := by decide +kernel
theorem dX0_readWord_30 : decode cX0_readWord 30 = .ok (.bipush 122, 2) := by decide +kernel
theorem dX0_readWord_32 : decode cX0_readWord 32 = .ok (.if_icmp .gt 9, 3) := by decide +kernel
theorem dX0_readWord_35 : decode cX0_readWord 35 = .ok (.iinc 1 1, 3) := by decide +kernel
theorem dX0_readWord_38 : decode cX0_readWord 38 = .ok (.goto (-33), 3) := by decide +kernel
theorem dX0_readWord_41 : decode cX0_readWord 41 = .ok (.iconst 0, 1) := by decide +kernel
theorem dX0_readWord_42 : decode cX0_readWord 42 = .ok (.istore_n 2, 1) := by decide +kernel
theorem dX0_readWord_43 : decode cX0_readWord 43 = .ok (.iload_n 2, 1) := by decide +kernel
theorem dX0_readWord_44 : decode cX0_readWord 44 = .ok (.bipush 7, 2) := by decide +kernel
theorem dX0_readWord_46 : decode cX0_readWord 46 = .ok (.if_icmp .ge 28, 3) := by decide +kernel
theorem dX0_readWord_49 : decode cX0_readWord 49 = .ok (.aload_n 0, 1) := by decide +kernel
theorem dX0_readWord_50 : decode cX0_readWord 50 = .ok (.iload_n 1, 1) := by decide +kernel
theorem dX0_readWord_51 : decode cX0_readWord 51 = .ok (.iload_n 2, 1) := by decide +kernel
theorem dX0_readWord_52 : decode cX0_readWord 52 = .ok (.invokestatic 50, 3) := by decide +kernel
theorem dX0_readWord_55 : decode cX0_readWord 55 = .ok (.invokevirtual 54, 3) := by decide +kernel
theorem dX0_readWord_58 : decode cX0_readWord 58 = .ok (.ifCond .eq 10, 3) := by decide +kernel
theorem dX0_readWord_61 : decode cX0_readWord 61 = .ok (.aload_n 0, 1) := by decide +kernel
theorem dX0_readWord_62 : decode cX0_readWord 62 = .ok (.iload_n 1, 1) := by decide +kernel
theorem dX0_readWord_63 : decode cX0_readWord 63 = .ok (.invokevirtual 23, 3) := by decide +kernel
theorem dX0_readWord_66 : decode cX0_readWord 66 = .ok (.iload_n 2, 1) := by decide +kernel
theorem dX0_readWord_67 : decode cX0_readWord 67 = .ok (.ireturn, 1) := by decide +kernel
theorem dX0_readWord_68 : decode cX0_readWord 68 = .ok (.iinc 2 1, 3) := by decide +kernel
theorem dX0_readWord_71 : decode cX0_readWord 71 = .ok (.goto (-28), 3) := by decide +kernel
theorem dX0_readWord_74 : decode cX0_readWord 74 = .ok (.iconst (-1), 1) := by decide +kernel
theorem dX0_readWord_75 : decode cX0_readWord 75 = .ok (.ireturn, 1) := by decide +kernel
set_option maxRecDepth 20000 in
theorem ggX0_isWord_J0_length_8abf5 : GoodIn wsX0_isWord wsJ0_length_8abf5 := goodIn_r _ [7, 8, 9, 10, 11, 6, 12, 13, 14] (by decide +kernel) (by decide +kernel)
set_option maxRecDepth 20000 in
theorem gX0_isWord_J0_length_8abf5 : GoodIn wsX0_isWord (wsV RX0 58 RJ0 yJ0_length_8abf5 wsJ0_length_8abf5) := goodIn_app (goodIn_of _ (by decide +kernel)) ggX0_isWord_J0_length_8abf5
set_option maxRecDepth 20000 in
theorem ggX0_isWord_J0_charAt_5068e : GoodIn wsX0_isWord wsJ0_charAt_5068e := goodIn_r _ [18, 8, 19, 20, 21, 6, 22, 13, 14, 23, 24, 25, 26, 27, 28, 29, 30, 31, 32, 33, 34, 35, 36, 37, 38, 39, 40, 41, 42, 43, 44, 45, 46, 47, 48, 49, 50, 51] (by decide +kernel) (by decide +kernel)
set_option maxRecDepth 20000 in
theorem gX0_isWord_J0_charAt_5068e : GoodIn wsX0_isWord (wsV RX0 62 RJ0 yJ0_charAt_5068e wsJ0_charAt_5068e) := goodIn_app (goodIn_of _ (by decide +kernel)) ggX0_isWord_J0_charAt_5068e
theorem dX0_isWord_0 : decode cX0_isWord 0 = .ok (.iload_n 1, 1) := by decide +kernel
theorem dX0_isWord_1 : decode cX0_isWord 1 = .ok (.aload_n 0, 1) := by decide +kernel
theorem dX0_isWord_2 : decode cX0_isWord 2 = .ok (.getfield 27, 3) := by decide +kernel
theorem dX0_isWord_5 : decode cX0_isWord 5 = .ok (.isub, 1) := by decide +kernel
theorem dX0_isWord_6 : decode cX0_isWord 6 = .ok (.aload_n 2, 1) := by decide +kernel
theorem dX0_isWord_7 : decode cX0_isWord 7 = .ok (.invokevirtual 58, 3) := by decide +kernel
theorem dX0_isWord_10 : decode cX0_isWord 10 = .ok (.if_icmp .eq 5, 3) := by decide +kernel
theorem dX0_isWord_13 : decode cX0_isWord 13 = .ok (.iconst 0, 1) := by decide +kernel
theorem dX0_isWord_14 : decode cX0_isWord 14 = .ok (.ireturn, 1) := by decide +kernel
theorem dX0_isWord_15 : decode cX0_isWord 15 = .ok (.iconst 0, 1) := by decide +kernel
theorem dX0_isWord_16 : decode cX0_isWord 16 = .ok (.istore_n 3, 1) := by decide +kernel
theorem dX0_isWord_17 : decode cX0_isWord 17 = .ok (.iload_n 3, 1) := by decide +kernel
theorem dX0_isWord_18 : decode cX0_isWord 18 = .ok (.aload_n 2, 1) := by decide +kernel
theorem dX0_isWord_19 : decode cX0_isWord 19 = .ok (.invokevirtual 58, 3) := by decide +kernel
theorem dX0_isWord_22 : decode cX0_isWord 22 = .ok (.if_icmp .ge 30, 3) := by decide +kernel
theorem dX0_isWord_25 : decode cX0_isWord 25 = .ok (.aload_n 0, 1) := by decide +kernel
theorem dX0_isWord_26 : decode cX0_isWord 26 = .ok (.getfield 9, 3) := by decide +kernel
theorem dX0_isWord_29 : decode cX0_isWord 29 = .ok (.aload_n 0, 1) := by decide +kernel
theorem dX0_isWord_30 : decode cX0_isWord 30 = .ok (.getfield 27, 3) := by decide +kernel
theorem dX0_isWord_33 : decode cX0_isWord 33 = .ok (.iload_n 3, 1) := by decide +kernel
theorem dX0_isWord_34 : decode cX0_isWord 34 = .ok (.iadd, 1) := by decide +kernel
theorem dX0_isWord_35 : decode cX0_isWord 35 = .ok (.caload, 1) := by decide +kernel
theorem dX0_isWord_36 : decode cX0_isWord 36 = .ok (.aload_n 2, 1) := by decide +kernel
theorem dX0_isWord_37 : decode cX0_isWord 37 = .ok (.iload_n 3, 1) := by decide +kernel
theorem dX0_isWord_38 : decode cX0_isWord 38 = .ok (.invokevirtual 62, 3) := by decide +kernel
theorem dX0_isWord_41 : decode cX0_isWord 41 = .ok (.if_icmp .eq 5, 3) := by decide +kernel
theorem dX0_isWord_44 : decode cX0_isWord 44 = .ok (.iconst 0, 1) := by decide +kernel
theorem dX0_isWord_45 : decode cX0_isWord 45 = .ok (.ireturn, 1) := by decide +kernel
theorem dX0_isWord_46 : decode cX0_isWord 46 = .ok (.iinc 3 1, 3) := by decide +kernel
theorem dX0_isWord_49 : decode cX0_isWord 49 = .ok (.goto (-32), 3) := by decide +kernel
theorem dX0_isWord_52 : decode cX0_isWord 52 = .ok (.iconst 1, 1) := by decide +kernel
theorem dX0_isWord_53 : decode cX0_isWord 53 = .ok (.ireturn, 1) := by decide +kernel
set_option maxRecDepth 20000 in
theorem ggX0_readNumbers_X0_readNumber : GoodIn wsX0_readNumbers wsX0_readNumber := goodIn_r _ [6, 7, 8, 9, 10, 11, 12, 5, 13, 14, 15, 16, 17] (by decide +kernel) (by decide +kernel)
set_option maxRecDepth 20000 in
theorem gX0_readNumbers_X0_readNumber : GoodIn wsX0_readNumbers (wsV RX0 66 RX0 yX0_readNumber wsX0_readNumber) := goodIn_app (goodIn_of _ (by decide +kernel)) ggX0_readNumbers_X0_readNumber
theorem dX0_readNumbers_0 : decode cX0_readNumbers 0 = .ok (.iconst 0, 1) := by decide +kernel
theorem dX0_readNumbers_1 : decode cX0_readNumbers 1 = .ok (.istore_n 2, 1) := by decide +kernel
theorem dX0_readNumbers_2 : decode cX0_readNumbers 2 = .ok (.iload_n 2, 1) := by decide +kernel
theorem dX0_readNumbers_3 : decode cX0_readNumbers 3 = .ok (.iload_n 1, 1) := by decide +kernel
theorem dX0_readNumbers_4 : decode cX0_readNumbers 4 = .ok (.if_icmp .ge 32, 3) := by decide +kernel
theorem dX0_readNumbers_7 : decode cX0_readNumbers 7 = .ok (.iload_n 2, 1) := by decide +kernel
theorem dX0_readNumbers_8 : decode cX0_readNumbers 8 = .ok (.iconst 2, 1) := by decide +kernel
theorem dX0_readNumbers_9 : decode cX0_readNumbers 9 = .ok (.if_icmp .ge 27, 3) := by decide +kernel
theorem dX0_readNumbers_12 : decode cX0_readNumbers 12 = .ok (.aload_n 0, 1) := by decide +kernel
theorem dX0_readNumbers_13 : decode cX0_readNumbers 13 = .ok (.invokevirtual 66, 3) := by decide +kernel
theorem dX0_readNumbers_16 : decode cX0_readNumbers 16 = .ok (.istore_n 3, 1) := by decide +kernel
theorem dX0_readNumbers_17 : decode cX0_readNumbers 17 = .ok (.iload_n 3, 1) := by decide +kernel
theorem dX0_readNumbers_18 : decode cX0_readNumbers 18 = .ok (.ifCond .ge 5, 3) := by decide +kernel
theorem dX0_readNumbers_21 : decode cX0_readNumbers 21 = .ok (.iconst 0, 1) := by decide +kernel
theorem dX0_readNumbers_22 : decode cX0_readNumbers 22 = .ok (.ireturn, 1) := by decide +kernel
theorem dX0_readNumbers_23 : decode cX0_readNumbers 23 = .ok (.aload_n 0, 1) := by decide +kernel
theorem dX0_readNumbers_24 : decode cX0_readNumbers 24 = .ok (.getfield 15, 3) := by decide +kernel
theorem dX0_readNumbers_27 : decode cX0_readNumbers 27 = .ok (.iload_n 2, 1) := by decide +kernel
theorem dX0_readNumbers_28 : decode cX0_readNumbers 28 = .ok (.iload_n 3, 1) := by decide +kernel
theorem dX0_readNumbers_29 : decode cX0_readNumbers 29 = .ok (.iastore, 1) := by decide +kernel
theorem dX0_readNumbers_30 : decode cX0_readNumbers 30 = .ok (.iinc 2 1, 3) := by decide +kernel
theorem dX0_readNumbers_33 : decode cX0_readNumbers 33 = .ok (.goto (-31), 3) := by decide +kernel
theorem dX0_readNumbers_36 : decode cX0_readNumbers 36 = .ok (.iconst 1, 1) := by decide +kernel
theorem dX0_readNumbers_37 : decode cX0_readNumbers 37 = .ok (.ireturn, 1) := by decide +kernel
set_option maxRecDepth 20000 in
theorem ggX0_readNumber_X0_moveTo : GoodIn wsX0_readNumber wsX0_moveTo := goodIn_r _ [8, 1, 2, 3, 9, 10, 11, 12] (by decide +kernel) (by decide +kernel)
set_option maxRecDepth 20000 in
theorem gX0_readNumber_X0_moveTo : GoodIn wsX0_readNumber (wsV RX0 23 RX0 yX0_moveTo wsX0_moveTo) := goodIn_app (goodIn_of _ (by decide +kernel)) ggX0_readNumber_X0_moveTo
theorem dX0_readNumber_0 : decode cX0_readNumber 0 = .ok (.iconst 0, 1) := by decide +kernel
theorem dX0_readNumber_1 : decode cX0_readNumber 1 = .ok (.istore_n 1, 1) := by decide +kernel
theorem dX0_readNumber_2 : decode cX0_readNumber 2 = .ok (.aload_n 0, 1) := by decide +kernel
theorem dX0_readNumber_3 : decode cX0_readNumber 3 = .ok (.getfield 27, 3) := by decide +kernel
theorem dX0_readNumber_6 : decode cX0_readNumber 6 = .ok (.istore_n 2, 1) := by decide +kernel
theorem dX0_readNumber_7 : decode cX0_readNumber 7 = .ok (.iload_n 2, 1) := by decide +kernel
theorem dX0_readNumber_8 : decode cX0_readNumber 8 = .ok (.aload_n 0, 1) := by decide +kernel
theorem dX0_readNumber_9 : decode cX0_readNumber 9 = .ok (.getfield 19, 3) := by decide +kernel
theorem dX0_readNumber_12 : decode cX0_readNumber 12 = .ok (.if_icmp .ge 56, 3) := by decide +kernel
theorem dX0_readNumber_15 : decode cX0_readNumber 15 = .ok (.aload_n 0, 1) := by decide +kernel
theorem dX0_readNumber_16 : decode cX0_readNumber 16 = .ok (.getfield 9, 3) := by decide +kernel
theorem dX0_readNumber_19 : decode cX0_readNumber 19 = .ok (.iload_n 2, 1) := by decide +kernel
theorem dX0_readNumber_20 : decode cX0_readNumber 20 = .ok (.caload, 1) := by decide +kernel
theorem dX0_readNumber_21 : decode cX0_readNumber 21 = .ok (.bipush 48, 2) := by decide +kernel
theorem dX0_readNumber_23 : decode cX0_readNumber 23 = .ok (.if_icmp .lt 45, 3) := by decide +kernel
theorem dX0_readNumber_26 : decode cX0_readNumber 26 = .ok (.aload_n 0, 1) := by decide +kernel
theorem dX0_readNumber_27 : decode cX0_readNumber 27 = .ok (.getfield 9, 3) := by decide +kernel
theorem dX0_readNumber_30 : decode cX0_readNumber 30 = .ok (.iload_n 2, 1) := by decide +kernel
theorem dX0_readNumber_31 : decode cX0_readNumber 31 = .ok (.caload, 1) := by decide +kernel
theorem dX0_readNumber_32 : decode cX0_readNumber 32 = .ok (.bipush 57, 2) := by decide +kernel
theorem dX0_readNumber_34 : decode cX0_readNumber 34 = .ok (.if_icmp .gt 34, 3) := by decide +kernel
theorem dX0_readNumber_37 : decode cX0_readNumber 37 = .ok (.iload_n 2, 1) := by decide +kernel
theorem dX0_readNumber_38 : decode cX0_readNumber 38 = .ok (.aload_n 0, 1) := by decide +kernel
theorem dX0_readNumber_39 : decode cX0_readNumber 39 = .ok (.getfield 27, 3) := by decide +kernel
theorem dX0_readNumber_42 : decode cX0_readNumber 42 = .ok (.isub, 1) := by decide +kernel
theorem dX0_readNumber_43 : decode cX0_readNumber 43 = .ok (.iconst 4, 1) := by decide +kernel
theorem dX0_readNumber_44 : decode cX0_readNumber 44 = .ok (.if_icmp .ge 18, 3) := by decide +kernel
theorem dX0_readNumber_47 : decode cX0_readNumber 47 = .ok (.iload_n 1, 1) := by decide +kernel
theorem dX0_readNumber_48 : decode cX0_readNumber 48 = .ok (.bipush 10, 2) := by decide +kernel
theorem dX0_readNumber_50 : decode cX0_readNumber 50 = .ok (.imul, 1) := by decide +kernel
theorem dX0_readNumber_51 : decode cX0_readNumber 51 = .ok (.aload_n 0, 1) := by decide +kernel
theorem dX0_readNumber_52 : decode cX0_readNumber 52 = .ok (.getfield 9, 3) := by decide +kernel
theorem dX0_readNumber_55 : decode cX0_readNumber 55 = .ok (.iload_n 2, 1) := by decide +kernel
theorem dX0_readNumber_56 : decode cX0_readNumber 56 = .ok (.caload, 1) := by decide +kernel
theorem dX0_readNumber_57 : decode cX0_readNumber 57 = .ok (.iadd, 1) := by decide +kernel
theorem dX0_readNumber_58 : decode cX0_readNumber 58 = .ok (.bipush 48, 2) := by decide +kernel
theorem dX0_readNumber_60 : decode cX0_readNumber 60 = .ok (.isub, 1) := by decide +kernel
theorem dX0_readNumber_61 : decode cX0_readNumber 61 = .ok (.istore_n 1, 1) := by decide +kernel
theorem dX0_readNumber_62 : decode cX0_readNumber 62 = .ok (.iinc 2 1, 3) := by decide +kernel
theorem dX0_readNumber_65 : decode cX0_readNumber 65 = .ok (.goto (-58), 3) := by decide +kernel
theorem dX0_readNumber_68 : decode cX0_readNumber 68 = .ok (.iload_n 2, 1) := by decide +kernel
theorem dX0_readNumber_69 : decode cX0_readNumber 69 = .ok (.aload_n 0, 1) := by decide +kernel
theorem dX0_readNumber_70 : decode cX0_readNumber 70 = .ok (.getfield 27, 3) := by decide +kernel
theorem dX0_readNumber_73 : decode cX0_readNumber 73 = .ok (.isub, 1) := by decide +kernel
theorem dX0_readNumber_74 : decode cX0_readNumber 74 = .ok (.istore_n 3, 1) := by decide +kernel
theorem dX0_readNumber_75 : decode cX0_readNumber 75 = .ok (.iload_n 3, 1) := by decide +kernel
theorem dX0_readNumber_76 : decode cX0_readNumber 76 = .ok (.iconst 1, 1) := by decide +kernel
theorem dX0_readNumber_77 : decode cX0_readNumber 77 = .ok (.if_icmp .lt 27, 3) := by decide +kernel
theorem dX0_readNumber_80 : decode cX0_readNumber 80 = .ok (.iload_n 3, 1) := by decide +kernel
theorem dX0_readNumber_81 : decode cX0_readNumber 81 = .ok (.iconst 4, 1) := by decide +kernel
theorem dX0_readNumber_82 : decode cX0_readNumber 82 = .ok (.if_icmp .gt 22, 3) := by decide +kernel
theorem dX0_readNumber_85 : decode cX0_readNumber 85 = .ok (.iload_n 3, 1) := by decide +kernel
theorem dX0_readNumber_86 : decode cX0_readNumber 86 = .ok (.iconst 1, 1) := by decide +kernel
theorem dX0_readNumber_87 : decode cX0_readNumber 87 = .ok (.if_icmp .le 19, 3) := by decide +kernel
theorem dX0_readNumber_90 : decode cX0_readNumber 90 = .ok (.aload_n 0, 1) := by decide +kernel
theorem dX0_readNumber_91 : decode cX0_readNumber 91 = .ok (.getfield 9, 3) := by decide +kernel
theorem dX0_readNumber_94 : decode cX0_readNumber 94 = .ok (.aload_n 0, 1) := by decide +kernel
theorem dX0_readNumber_95 : decode cX0_readNumber 95 = .ok (.getfield 27, 3) := by decide +kernel
theorem dX0_readNumber_98 : decode cX0_readNumber 98 = .ok (.caload, 1) := by decide +kernel
theorem dX0_readNumber_99 : decode cX0_readNumber 99 = .ok (.bipush 48, 2) := by decide +kernel
theorem dX0_readNumber_101 : decode cX0_readNumber 101 = .ok (.if_icmp .ne 5, 3) := by decide +kernel
theorem dX0_readNumber_104 : decode cX0_readNumber 104 = .ok (.iconst (-1), 1) := by decide +kernel
theorem dX0_readNumber_105 : decode cX0_readNumber 105 = .ok (.ireturn, 1) := by decide +kernel
theorem dX0_readNumber_106 : decode cX0_readNumber 106 = .ok (.aload_n 0, 1) := by decide +kernel
theorem dX0_readNumber_107 : decode cX0_readNumber 107 = .ok (.iload_n 2, 1) := by decide +kernel
theorem dX0_readNumber_108 : decode cX0_readNumber 108 = .ok (.invokevirtual 23, 3) := by decide +kernel
theorem dX0_readNumber_111 : decode cX0_readNumber 111 = .ok (.iload_n 1, 1) := by decide +kernel
theorem dX0_readNumber_112 : decode cX0_readNumber 112 = .ok (.ireturn, 1) := by decide +kernel
set_option maxRecDepth 20000 in
theorem ggX0_readEnd_X0_moveTo : GoodIn wsX0_readEnd wsX0_moveTo := goodIn_r _ [8, 1, 2, 3, 9, 10, 11, 12] (by decide +kernel) (by decide +kernel)
set_option maxRecDepth 20000 in
theorem gX0_readEnd_X0_moveTo : GoodIn wsX0_readEnd (wsV RX0 23 RX0 yX0_moveTo wsX0_moveTo) := goodIn_app (goodIn_of _ (by decide +kernel)) ggX0_readEnd_X0_moveTo
theorem dX0_readEnd_0 : decode cX0_readEnd 0 = .ok (.aload_n 0, 1) := by decide +kernel
theorem dX0_readEnd_1 : decode cX0_readEnd 1 = .ok (.getfield 27, 3) := by decide +kernel
theorem dX0_readEnd_4 : decode cX0_readEnd 4 = .ok (.aload_n 0, 1) := by decide +kernel
theorem dX0_readEnd_5 : decode cX0_readEnd 5 = .ok (.getfield 19, 3) := by decide +kernel
theorem dX0_readEnd_8 : decode cX0_readEnd 8 = .ok (.if_icmp .ge 17, 3) := by decide +kernel
theorem dX0_readEnd_11 : decode cX0_readEnd 11 = .ok (.aload_n 0, 1) := by decide +kernel
theorem dX0_readEnd_12 : decode cX0_readEnd 12 = .ok (.getfield 9, 3) := by decide +kernel
theorem dX0_readEnd_15 : decode cX0_readEnd 15 = .ok (.aload_n 0, 1) := by decide +kernel
theorem dX0_readEnd_16 : decode cX0_readEnd 16 = .ok (.getfield 27, 3) := by decide +kernel
theorem dX0_readEnd_19 : decode cX0_readEnd 19 = .ok (.caload, 1) := by decide +kernel
theorem dX0_readEnd_20 : decode cX0_readEnd 20 = .ok (.bipush 59, 2) := by decide +kernel
theorem dX0_readEnd_22 : decode cX0_readEnd 22 = .ok (.if_icmp .eq 5, 3) := by decide +kernel
theorem dX0_readEnd_25 : decode cX0_readEnd 25 = .ok (.iconst 0, 1) := by decide +kernel
theorem dX0_readEnd_26 : decode cX0_readEnd 26 = .ok (.ireturn, 1) := by decide +kernel
theorem dX0_readEnd_27 : decode cX0_readEnd 27 = .ok (.aload_n 0, 1) := by decide +kernel
theorem dX0_readEnd_28 : decode cX0_readEnd 28 = .ok (.aload_n 0, 1) := by decide +kernel
theorem dX0_readEnd_29 : decode cX0_readEnd 29 = .ok (.getfield 27, 3) := by decide +kernel
theorem dX0_readEnd_32 : decode cX0_readEnd 32 = .ok (.iconst 1, 1) := by decide +kernel
theorem dX0_readEnd_33 : decode cX0_readEnd 33 = .ok (.iadd, 1) := by decide +kernel
theorem dX0_readEnd_34 : decode cX0_readEnd 34 = .ok (.invokevirtual 23, 3) := by decide +kernel
theorem dX0_readEnd_37 : decode cX0_readEnd 37 = .ok (.iconst 1, 1) := by decide +kernel
theorem dX0_readEnd_38 : decode cX0_readEnd 38 = .ok (.ireturn, 1) := by decide +kernel
theorem dX0_wordOf_0 : decode cX0_wordOf 0 = .ok (.iload_n 0, 1) := by decide +kernel
theorem dX0_wordOf_1 : decode cX0_wordOf 1 = .ok (.tableswitch 57 0 5 #[39, 42, 45, 48, 51, 54], 39) := by decide +kernel
theorem dX0_wordOf_40 : decode cX0_wordOf 40 = .ok (.ldc 69, 2) := by decide +kernel
theorem dX0_wordOf_42 : decode cX0_wordOf 42 = .ok (.areturn, 1) := by decide +kernel
theorem dX0_wordOf_43 : decode cX0_wordOf 43 = .ok (.ldc 71, 2) := by decide +kernel
theorem dX0_wordOf_45 : decode cX0_wordOf 45 = .ok (.areturn, 1) := by decide +kernel
theorem dX0_wordOf_46 : decode cX0_wordOf 46 = .ok (.ldc 73, 2) := by decide +kernel
theorem dX0_wordOf_48 : decode cX0_wordOf 48 = .ok (.areturn, 1) := by decide +kernel
theorem dX0_wordOf_49 : decode cX0_wordOf 49 = .ok (.ldc 75, 2) := by decide +kernel
theorem dX0_wordOf_51 : decode cX0_wordOf 51 = .ok (.areturn, 1) := by decide +kernel
theorem dX0_wordOf_52 : decode cX0_wordOf 52 = .ok (.ldc 77, 2) := by decide +kernel
theorem dX0_wordOf_54 : decode cX0_wordOf 54 = .ok (.areturn, 1) := by decide +kernel
theorem dX0_wordOf_55 : decode cX0_wordOf 55 = .ok (.ldc 79, 2) := by decide +kernel
theorem dX0_wordOf_57 : decode cX0_wordOf 57 = .ok (.areturn, 1) := by decide +kernel
theorem dX0_wordOf_58 : decode cX0_wordOf 58 = .ok (.ldc 81, 2) := by decide +kernel
theorem dX0_wordOf_60 : decode cX0_wordOf 60 = .ok (.areturn, 1) := by decide +kernel
theorem dX0_numbersOf_0 : decode cX0_numbersOf 0 = .ok (.iload_n 0, 1) := by decide +kernel
theorem dX0_numbersOf_1 : decode cX0_numbersOf 1 = .ok (.iconst 2, 1) := by decide +kernel
theorem dX0_numbersOf_2 : decode cX0_numbersOf 2 = .ok (.if_icmp .eq 9, 3) := by decide +kernel
theorem dX0_numbersOf_5 : decode cX0_numbersOf 5 = .ok (.iload_n 0, 1) := by decide +kernel
theorem dX0_numbersOf_6 : decode cX0_numbersOf 6 = .ok (.bipush 6, 2) := by decide +kernel
theorem dX0_numbersOf_8 : decode cX0_numbersOf 8 = .ok (.if_icmp .ne 7, 3) := by decide +kernel
theorem dX0_numbersOf_11 : decode cX0_numbersOf 11 = .ok (.iconst 2, 1) := by decide +kernel
theorem dX0_numbersOf_12 : decode cX0_numbersOf 12 = .ok (.goto 4, 3) := by decide +kernel
theorem dX0_numbersOf_15 : decode cX0_numbersOf 15 = .ok (.iconst 1, 1) := by decide +kernel
theorem dX0_numbersOf_16 : decode cX0_numbersOf 16 = .ok (.ireturn, 1) := by decide +kernel
set_option maxRecDepth 20000 in
theorem ggX0_carryOut_X1_addSpot : GoodIn wsX0_carryOut wsX1_addSpot := goodIn_r _ [6, 7, 8, 9, 10, 11, 12, 13, 14, 5, 15, 85, 86, 87, 88, 89] (by decide +kernel) (by decide +kernel)
set_option maxRecDepth 20000 in
theorem gX0_carryOut_X1_addSpot : GoodIn wsX0_carryOut (wsV RX0 83 RX1 yX1_addSpot wsX1_addSpot) := goodIn_app (goodIn_of _ (by decide +kernel)) ggX0_carryOut_X1_addSpot
set_option maxRecDepth 20000 in
theorem ggX0_carryOut_X1_removeSpot : GoodIn wsX0_carryOut wsX1_removeSpot := goodIn_r _ [19, 7, 8, 9, 10, 11, 12, 13, 14, 5, 15, 85, 86, 87, 88, 89] (by decide +kernel) (by decide +kernel)
set_option maxRecDepth 20000 in
theorem gX0_carryOut_X1_removeSpot : GoodIn wsX0_carryOut (wsV RX0 88 RX1 yX1_removeSpot wsX1_removeSpot) := goodIn_app (goodIn_of _ (by decide +kernel)) ggX0_carryOut_X1_removeSpot
set_option maxRecDepth 20000 in
theorem ggX0_carryOut_X1_putPhosphor : GoodIn wsX0_carryOut wsX1_putPhosphor := goodIn_r _ [23, 24, 9, 10, 11, 25, 26, 85, 86, 87, 88, 89] (by decide +kernel) (by decide +kernel)
set_option maxRecDepth 20000 in
theorem gX0_carryOut_X1_putPhosphor : GoodIn wsX0_carryOut (wsV RX0 91 RX1 yX1_putPhosphor wsX1_putPhosphor) := goodIn_app (goodIn_of _ (by decide +kernel)) ggX0_carryOut_X1_putPhosphor
set_option maxRecDepth 20000 in
theorem ggX0_carryOut_X1_paint : GoodIn wsX0_carryOut wsX1_paint := goodIn_r _ [30, 31, 32, 9, 10, 11, 33, 34, 35, 36, 37, 38, 39, 85, 86, 87, 88, 89] (by decide +kernel) (by decide +kernel)
set_option maxRecDepth 20000 in
theorem gX0_carryOut_X1_paint : GoodIn wsX0_carryOut (wsV RX0 95 RX1 yX1_paint wsX1_paint) := goodIn_app (goodIn_of _ (by decide +kernel)) ggX0_carryOut_X1_paint
set_option maxRecDepth 20000 in
theorem ggX0_carryOut_X1_arrange : GoodIn wsX0_carryOut wsX1_arrange := goodIn_r _ [43, 7, 8, 44, 45, 46, 5, 47, 31, 24, 48, 10, 49, 50, 51, 52, 53, 54, 55, 56, 57, 58, 59, 60, 61, 62, 63, 64, 65, 66, 67, 68, 69, 70, 71, 72, 73, 74, 75, 76, 85, 86, 87, 88, 89] (by decide +kernel) (by decide +kernel)
set_option maxRecDepth 20000 in
theorem gX0_carryOut_X1_arrange : GoodIn wsX0_carryOut (wsV RX0 99 RX1 yX1_arrange wsX1_arrange) := goodIn_app (goodIn_of _ (by decide +kernel)) ggX0_carryOut_X1_arrange
set_option maxRecDepth 20000 in
theorem ggX0_carryOut_X1_swapPositions : GoodIn wsX0_carryOut wsX1_swapPositions := goodIn_r _ [80, 7, 64, 65, 66, 5, 67, 8, 68, 69, 70, 71, 72, 73, 74, 75, 76, 50, 10, 51, 52, 53, 54, 55, 85, 86, 87, 88, 89] (by decide +kernel) (by decide +kernel)
set_option maxRecDepth 20000 in
theorem gX0_carryOut_X1_swapPositions : GoodIn wsX0_carryOut (wsV RX0 102 RX1 yX1_swapPositions wsX1_swapPositions) := goodIn_app (goodIn_of _ (by decide +kernel)) ggX0_carryOut_X1_swapPositions
theorem dX0_carryOut_0 : decode cX0_carryOut 0 = .ok (.iload_n 1, 1) := by decide +kernel
theorem dX0_carryOut_1 : decode cX0_carryOut 1 = .ok (.tableswitch 115 0 5 #[39, 50, 61, 78, 91, 104], 39) := by decide +kernel
theorem dX0_carryOut_40 : decode cX0_carryOut 40 = .ok (.aload_n 2, 1) := by decide +kernel
theorem dX0_carryOut_41 : decode cX0_carryOut 41 = .ok (.aload_n 0, 1) := by decide +kernel
theorem dX0_carryOut_42 : decode cX0_carryOut 42 = .ok (.getfield 15, 3) := by decide +kernel
theorem dX0_carryOut_45 : decode cX0_carryOut 45 = .ok (.iconst 0, 1) := by decide +kernel
theorem dX0_carryOut_46 : decode cX0_carryOut 46 = .ok (.iaload, 1) := by decide +kernel
theorem dX0_carryOut_47 : decode cX0_carryOut 47 = .ok (.invokevirtual 83, 3) := by decide +kernel
theorem dX0_carryOut_50 : decode cX0_carryOut 50 = .ok (.ireturn, 1) := by decide +kernel
theorem dX0_carryOut_51 : decode cX0_carryOut 51 = .ok (.aload_n 2, 1) := by decide +kernel
theorem dX0_carryOut_52 : decode cX0_carryOut 52 = .ok (.aload_n 0, 1) := by decide +kernel
theorem dX0_carryOut_53 : decode cX0_carryOut 53 = .ok (.getfield 15, 3) := by decide +kernel
theorem dX0_carryOut_56 : decode cX0_carryOut 56 = .ok (.iconst 0, 1) := by decide +kernel
theorem dX0_carryOut_57 : decode cX0_carryOut 57 = .ok (.iaload, 1) := by decide +kernel
theorem dX0_carryOut_58 : decode cX0_carryOut 58 = .ok (.invokevirtual 88, 3) := by decide +kernel
theorem dX0_carryOut_61 : decode cX0_carryOut 61 = .ok (.ireturn, 1) := by decide +kernel
theorem dX0_carryOut_62 : decode cX0_carryOut 62 = .ok (.aload_n 2, 1) := by decide +kernel
theorem dX0_carryOut_63 : decode cX0_carryOut 63 = .ok (.aload_n 0, 1) := by decide +kernel
theorem dX0_carryOut_64 : decode cX0_carryOut 64 = .ok (.getfield 15, 3) := by decide +kernel
theorem dX0_carryOut_67 : decode cX0_carryOut 67 = .ok (.iconst 0, 1) := by decide +kernel
theorem dX0_carryOut_68 : decode cX0_carryOut 68 = .ok (.iaload, 1) := by decide +kernel
theorem dX0_carryOut_69 : decode cX0_carryOut 69 = .ok (.aload_n 0, 1) := by decide +kernel
theorem dX0_carryOut_70 : decode cX0_carryOut 70 = .ok (.getfield 15, 3) := by decide +kernel
theorem dX0_carryOut_73 : decode cX0_carryOut 73 = .ok (.iconst 1, 1) := by decide +kernel
theorem dX0_carryOut_74 : decode cX0_carryOut 74 = .ok (.iaload, 1) := by decide +kernel
theorem dX0_carryOut_75 : decode cX0_carryOut 75 = .ok (.invokevirtual 91, 3) := by decide +kernel
theorem dX0_carryOut_78 : decode cX0_carryOut 78 = .ok (.ireturn, 1) := by decide +kernel
theorem dX0_carryOut_79 : decode cX0_carryOut 79 = .ok (.aload_n 2, 1) := by decide +kernel
theorem dX0_carryOut_80 : decode cX0_carryOut 80 = .ok (.iconst 0, 1) := by decide +kernel
theorem dX0_carryOut_81 : decode cX0_carryOut 81 = .ok (.aload_n 0, 1) := by decide +kernel
theorem dX0_carryOut_82 : decode cX0_carryOut 82 = .ok (.getfield 15, 3) := by decide +kernel
theorem dX0_carryOut_85 : decode cX0_carryOut 85 = .ok (.iconst 0, 1) := by decide +kernel
theorem dX0_carryOut_86 : decode cX0_carryOut 86 = .ok (.iaload, 1) := by decide +kernel
theorem dX0_carryOut_87 : decode cX0_carryOut 87 = .ok (.iconst 1, 1) := by decide +kernel
theorem dX0_carryOut_88 : decode cX0_carryOut 88 = .ok (.invokevirtual 95, 3) := by decide +kernel
theorem dX0_carryOut_91 : decode cX0_carryOut 91 = .ok (.ireturn, 1) := by decide +kernel
theorem dX0_carryOut_92 : decode cX0_carryOut 92 = .ok (.aload_n 2, 1) := by decide +kernel
theorem dX0_carryOut_93 : decode cX0_carryOut 93 = .ok (.iconst 1, 1) := by decide +kernel
theorem dX0_carryOut_94 : decode cX0_carryOut 94 = .ok (.aload_n 0, 1) := by decide +kernel
theorem dX0_carryOut_95 : decode cX0_carryOut 95 = .ok (.getfield 15, 3) := by decide +kernel
theorem dX0_carryOut_98 : decode cX0_carryOut 98 = .ok (.iconst 0, 1) := by decide +kernel
theorem dX0_carryOut_99 : decode cX0_carryOut 99 = .ok (.iaload, 1) := by decide +kernel
theorem dX0_carryOut_100 : decode cX0_carryOut 100 = .ok (.iconst 1, 1) := by decide +kernel
theorem dX0_carryOut_101 : decode cX0_carryOut 101 = .ok (.invokevirtual 95, 3) := by decide +kernel
theorem dX0_carryOut_104 : decode cX0_carryOut 104 = .ok (.ireturn, 1) := by decide +kernel
theorem dX0_carryOut_105 : decode cX0_carryOut 105 = .ok (.aload_n 2, 1) := by decide +kernel
theorem dX0_carryOut_106 : decode cX0_carryOut 106 = .ok (.aload_n 0, 1) := by decide +kernel
theorem dX0_carryOut_107 : decode cX0_carryOut 107 = .ok (.getfield 15, 3) := by decide +kernel
theorem dX0_carryOut_110 : decode cX0_carryOut 110 = .ok (.iconst 0, 1) := by decide +kernel
theorem dX0_carryOut_111 : decode cX0_carryOut 111 = .ok (.iaload, 1) := by decide +kernel
theorem dX0_carryOut_112 : decode cX0_carryOut 112 = .ok (.invokevirtual 99, 3) := by decide +kernel
theorem dX0_carryOut_115 : decode cX0_carryOut 115 = .ok (.ireturn, 1) := by decide +kernel
theorem dX0_carryOut_116 : decode cX0_carryOut 116 = .ok (.aload_n 2, 1) := by decide +kernel
theorem dX0_carryOut_117 : decode cX0_carryOut 117 = .ok (.aload_n 0, 1) := by decide +kernel
theorem dX0_carryOut_118 : decode cX0_carryOut 118 = .ok (.getfield 15, 3) := by decide +kernel
theorem dX0_carryOut_121 : decode cX0_carryOut 121 = .ok (.iconst 0, 1) := by decide +kernel
theorem dX0_carryOut_122 : decode cX0_carryOut 122 = .ok (.iaload, 1) := by decide +kernel
theorem dX0_carryOut_123 : decode cX0_carryOut 123 = .ok (.aload_n 0, 1) := by decide +kernel
theorem dX0_carryOut_124 : decode cX0_carryOut 124 = .ok (.getfield 15, 3) := by decide +kernel
theorem dX0_carryOut_127 : decode cX0_carryOut 127 = .ok (.iconst 1, 1) := by decide +kernel
theorem dX0_carryOut_128 : decode cX0_carryOut 128 = .ok (.iaload, 1) := by decide +kernel
theorem dX0_carryOut_129 : decode cX0_carryOut 129 = .ok (.invokevirtual 102, 3) := by decide +kernel
theorem dX0_carryOut_132 : decode cX0_carryOut 132 = .ok (.ireturn, 1) := by decide +kernel
theorem dX1_init_0 : decode cX1_init 0 = .ok (.aload_n 0, 1) := by decide +kernel
theorem dX1_init_1 : decode cX1_init 1 = .ok (.invokespecial 3, 3) := by decide +kernel
theorem dX1_init_4 : decode cX1_init 4 = .ok (.aload_n 0, 1) := by decide +kernel
theorem dX1_init_5 : decode cX1_init 5 = .ok (.bipush 64, 2) := by decide +kernel
theorem dX1_init_7 : decode cX1_init 7 = .ok (.newarray .int, 2) := by decide +kernel
theorem dX1_init_9 : decode cX1_init 9 = .ok (.putfield 9, 3) := by decide +kernel
theorem dX1_init_12 : decode cX1_init 12 = .ok (.aload_n 0, 1) := by decide +kernel
theorem dX1_init_13 : decode cX1_init 13 = .ok (.bipush 12, 2) := by decide +kernel
theorem dX1_init_15 : decode cX1_init 15 = .ok (.newarray .int, 2) := by decide +kernel
theorem dX1_init_17 : decode cX1_init 17 = .ok (.putfield 15, 3) := by decide +kernel
theorem dX1_init_20 : decode cX1_init 20 = .ok (.aload_n 0, 1) := by decide +kernel
theorem dX1_init_21 : decode cX1_init 21 = .ok (.iconst 2, 1) := by decide +kernel
theorem dX1_init_22 : decode cX1_init 22 = .ok (.newarray .long, 2) := by decide +kernel
theorem dX1_init_24 : decode cX1_init 24 = .ok (.putfield 18, 3) := by decide +kernel
theorem dX1_init_27 : decode cX1_init 27 = .ok (.aload_n 0, 1) := by decide +kernel
theorem dX1_init_28 : decode cX1_init 28 = .ok (.bipush 6, 2) := by decide +kernel
theorem dX1_init_30 : decode cX1_init 30 = .ok (.newarray .int, 2) := by decide +kernel
theorem dX1_init_32 : decode cX1_init 32 = .ok (.dup, 1) := by decide +kernel
theorem dX1_init_33 : decode cX1_init 33 = .ok (.iconst 0, 1) := by decide +kernel
theorem dX1_init_34 : decode cX1_init 34 = .ok (.bipush 60, 2) := by decide +kernel
theorem dX1_init_36 : decode cX1_init 36 = .ok (.iastore, 1) := by decide +kernel
theorem dX1_init_37 : decode cX1_init 37 = .ok (.dup, 1) := by decide +kernel
theorem dX1_init_38 : decode cX1_init 38 = .ok (.iconst 1, 1) := by decide +kernel
theorem dX1_init_39 : decode cX1_init 39 = .ok (.iconst 1, 1) := by decide +kernel
theorem dX1_init_40 : decode cX1_init 40 = .ok (.iastore, 1) := by decide +kernel
theorem dX1_init_41 : decode cX1_init 41 = .ok (.dup, 1) := by decide +kernel
theorem dX1_init_42 : decode cX1_init 42 = .ok (.iconst 2, 1) := by decide +kernel
theorem dX1_init_43 : decode cX1_init 43 = .ok (.bipush 20, 2) := by decide +kernel
theorem dX1_init_45 : decode cX1_init 45 = .ok (.iastore, 1) := by decide +kernel
theorem dX1_init_46 : decode cX1_init 46 = .ok (.dup, 1) := by decide +kernel
theorem dX1_init_47 : decode cX1_init 47 = .ok (.iconst 3, 1) := by decide +kernel
theorem dX1_init_48 : decode cX1_init 48 = .ok (.iconst 0, 1) := by decide +kernel
theorem dX1_init_49 : decode cX1_init 49 = .ok (.iastore, 1) := by decide +kernel
theorem dX1_init_50 : decode cX1_init 50 = .ok (.dup, 1) := by decide +kernel
theorem dX1_init_51 : decode cX1_init 51 = .ok (.iconst 4, 1) := by decide +kernel
theorem dX1_init_52 : decode cX1_init 52 = .ok (.iconst 4, 1) := by decide +kernel
theorem dX1_init_53 : decode cX1_init 53 = .ok (.iastore, 1) := by decide +kernel
theorem dX1_init_54 : decode cX1_init 54 = .ok (.dup, 1) := by decide +kernel
theorem dX1_init_55 : decode cX1_init 55 = .ok (.iconst 5, 1) := by decide +kernel
theorem dX1_init_56 : decode cX1_init 56 = .ok (.bipush 60, 2) := by decide +kernel
theorem dX1_init_58 : decode cX1_init 58 = .ok (.iastore, 1) := by decide +kernel
theorem dX1_init_59 : decode cX1_init 59 = .ok (.putfield 22, 3) := by decide +kernel
theorem dX1_init_62 : decode cX1_init 62 = .ok (.return_, 1) := by decide +kernel
theorem dX1_copyFrom_0 : decode cX1_copyFrom 0 = .ok (.aload_n 1, 1) := by decide +kernel
theorem dX1_copyFrom_1 : decode cX1_copyFrom 1 = .ok (.getfield 9, 3) := by decide +kernel
theorem dX1_copyFrom_4 : decode cX1_copyFrom 4 = .ok (.iconst 0, 1) := by decide +kernel
theorem dX1_copyFrom_5 : decode cX1_copyFrom 5 = .ok (.aload_n 0, 1) := by decide +kernel
theorem dX1_copyFrom_6 : decode cX1_copyFrom 6 = .ok (.getfield 9, 3) := by decide +kernel
theorem dX1_copyFrom_9 : decode cX1_copyFrom 9 = .ok (.iconst 0, 1) := by decide +kernel
theorem dX1_copyFrom_10 : decode cX1_copyFrom 10 = .ok (.bipush 64, 2) := by decide +kernel
theorem dX1_copyFrom_12 : decode cX1_copyFrom 12 = .ok (.invokestatic 25, 3) := by decide +kernel
theorem dX1_copyFrom_15 : decode cX1_copyFrom 15 = .ok (.aload_n 1, 1) := by decide +kernel
theorem dX1_copyFrom_16 : decode cX1_copyFrom 16 = .ok (.getfield 15, 3) := by decide +kernel
theorem dX1_copyFrom_19 : decode cX1_copyFrom 19 = .ok (.iconst 0, 1) := by decide +kernel
theorem dX1_copyFrom_20 : decode cX1_copyFrom 20 = .ok (.aload_n 0, 1) := by decide +kernel
theorem dX1_copyFrom_21 : decode cX1_copyFrom 21 = .ok (.getfield 15, 3) := by decide +kernel
theorem dX1_copyFrom_24 : decode cX1_copyFrom 24 = .ok (.iconst 0, 1) := by decide +kernel
theorem dX1_copyFrom_25 : decode cX1_copyFrom 25 = .ok (.bipush 12, 2) := by decide +kernel
theorem dX1_copyFrom_27 : decode cX1_copyFrom 27 = .ok (.invokestatic 25, 3) := by decide +kernel
theorem dX1_copyFrom_30 : decode cX1_copyFrom 30 = .ok (.aload_n 0, 1) := by decide +kernel
theorem dX1_copyFrom_31 : decode cX1_copyFrom 31 = .ok (.aload_n 1, 1) := by decide +kernel
theorem dX1_copyFrom_32 : decode cX1_copyFrom 32 = .ok (.getfield 31, 3) := by decide +kernel
theorem dX1_copyFrom_35 : decode cX1_copyFrom 35 = .ok (.putfield 31, 3) := by decide +kernel
theorem dX1_copyFrom_38 : decode cX1_copyFrom 38 = .ok (.aload_n 1, 1) := by decide +kernel
theorem dX1_copyFrom_39 : decode cX1_copyFrom 39 = .ok (.getfield 18, 3) := by decide +kernel
theorem dX1_copyFrom_42 : decode cX1_copyFrom 42 = .ok (.iconst 0, 1) := by decide +kernel
theorem dX1_copyFrom_43 : decode cX1_copyFrom 43 = .ok (.aload_n 0, 1) := by decide +kernel
theorem dX1_copyFrom_44 : decode cX1_copyFrom 44 = .ok (.getfield 18, 3) := by decide +kernel
theorem dX1_copyFrom_47 : decode cX1_copyFrom 47 = .ok (.iconst 0, 1) := by decide +kernel
theorem dX1_copyFrom_48 : decode cX1_copyFrom 48 = .ok (.iconst 2, 1) := by decide +kernel
theorem dX1_copyFrom_49 : decode cX1_copyFrom 49 = .ok (.invokestatic 25, 3) := by decide +kernel
theorem dX1_copyFrom_52 : decode cX1_copyFrom 52 = .ok (.aload_n 1, 1) := by decide +kernel
theorem dX1_copyFrom_53 : decode cX1_copyFrom 53 = .ok (.getfield 22, 3) := by decide +kernel
theorem dX1_copyFrom_56 : decode cX1_copyFrom 56 = .ok (.iconst 0, 1) := by decide +kernel
theorem dX1_copyFrom_57 : decode cX1_copyFrom 57 = .ok (.aload_n 0, 1) := by decide +kernel
theorem dX1_copyFrom_58 : decode cX1_copyFrom 58 = .ok (.getfield 22, 3) := by decide +kernel
theorem dX1_copyFrom_61 : decode cX1_copyFrom 61 = .ok (.iconst 0, 1) := by decide +kernel
theorem dX1_copyFrom_62 : decode cX1_copyFrom 62 = .ok (.bipush 6, 2) := by decide +kernel
theorem dX1_copyFrom_64 : decode cX1_copyFrom 64 = .ok (.invokestatic 25, 3) := by decide +kernel
theorem dX1_copyFrom_67 : decode cX1_copyFrom 67 = .ok (.return_, 1) := by decide +kernel
theorem dX1_putSetting_0 : decode cX1_putSetting 0 = .ok (.iload_n 1, 1) := by decide +kernel
theorem dX1_putSetting_1 : decode cX1_putSetting 1 = .ok (.ifCond .lt 27, 3) := by decide +kernel
theorem dX1_putSetting_4 : decode cX1_putSetting 4 = .ok (.iload_n 1, 1) := by decide +kernel
theorem dX1_putSetting_5 : decode cX1_putSetting 5 = .ok (.bipush 6, 2) := by decide +kernel
theorem dX1_putSetting_7 : decode cX1_putSetting 7 = .ok (.if_icmp .ge 21, 3) := by decide +kernel
theorem dX1_putSetting_10 : decode cX1_putSetting 10 = .ok (.iload_n 2, 1) := by decide +kernel
theorem dX1_putSetting_11 : decode cX1_putSetting 11 = .ok (.getstatic 35, 3) := by decide +kernel
theorem dX1_putSetting_14 : decode cX1_putSetting 14 = .ok (.iload_n 1, 1) := by decide +kernel
theorem dX1_putSetting_15 : decode cX1_putSetting 15 = .ok (.iaload, 1) := by decide +kernel
theorem dX1_putSetting_16 : decode cX1_putSetting 16 = .ok (.if_icmp .lt 12, 3) := by decide +kernel
theorem dX1_putSetting_19 : decode cX1_putSetting 19 = .ok (.iload_n 2, 1) := by decide +kernel
theorem dX1_putSetting_20 : decode cX1_putSetting 20 = .ok (.getstatic 38, 3) := by decide +kernel
theorem dX1_putSetting_23 : decode cX1_putSetting 23 = .ok (.iload_n 1, 1) := by decide +kernel
theorem dX1_putSetting_24 : decode cX1_putSetting 24 = .ok (.iaload, 1) := by decide +kernel
theorem dX1_putSetting_25 : decode cX1_putSetting 25 = .ok (.if_icmp .le 5, 3) := by decide +kernel
theorem dX1_putSetting_28 : decode cX1_putSetting 28 = .ok (.iconst (-1), 1) := by decide +kernel
theorem dX1_putSetting_29 : decode cX1_putSetting 29 = .ok (.ireturn, 1) := by decide +kernel
theorem dX1_putSetting_30 : decode cX1_putSetting 30 = .ok (.aload_n 0, 1) := by decide +kernel
theorem dX1_putSetting_31 : decode cX1_putSetting 31 = .ok (.getfield 22, 3) := by decide +kernel
theorem dX1_putSetting_34 : decode cX1_putSetting 34 = .ok (.iload_n 1, 1) := by decide +kernel
theorem dX1_putSetting_35 : decode cX1_putSetting 35 = .ok (.iaload, 1) := by decide +kernel
theorem dX1_putSetting_36 : decode cX1_putSetting 36 = .ok (.istore_n 3, 1) := by decide +kernel
theorem dX1_putSetting_37 : decode cX1_putSetting 37 = .ok (.aload_n 0, 1) := by decide +kernel
theorem dX1_putSetting_38 : decode cX1_putSetting 38 = .ok (.getfield 22, 3) := by decide +kernel
theorem dX1_putSetting_41 : decode cX1_putSetting 41 = .ok (.iload_n 1, 1) := by decide +kernel
theorem dX1_putSetting_42 : decode cX1_putSetting 42 = .ok (.iload_n 2, 1) := by decide +kernel
theorem dX1_putSetting_43 : decode cX1_putSetting 43 = .ok (.iastore, 1) := by decide +kernel
theorem dX1_putSetting_44 : decode cX1_putSetting 44 = .ok (.iload_n 3, 1) := by decide +kernel
theorem dX1_putSetting_45 : decode cX1_putSetting 45 = .ok (.ireturn, 1) := by decide +kernel
set_option maxRecDepth 20000 in
theorem ggX1_putPhosphor_X4_isSpot : GoodIn wsX1_putPhosphor wsX4_isSpot := goodIn_r _ [4] (by decide +kernel) (by decide +kernel)
set_option maxRecDepth 20000 in
theorem gX1_putPhosphor_X4_isSpot_n41 : GoodIn wsX1_putPhosphor (wsX4_isSpot) := ggX1_putPhosphor_X4_isSpot
set_option maxRecDepth 20000 in
theorem ggX1_putPhosphor_X4_isPhosphor : GoodIn wsX1_putPhosphor wsX4_isPhosphor := goodIn_r _ [6] (by decide +kernel) (by decide +kernel)
set_option maxRecDepth 20000 in
theorem gX1_putPhosphor_X4_isPhosphor_n45 : GoodIn wsX1_putPhosphor (wsX4_isPhosphor) := ggX1_putPhosphor_X4_isPhosphor
theorem dX1_putPhosphor_0 : decode cX1_putPhosphor 0 = .ok (.iload_n 1, 1) := by decide +kernel
theorem dX1_putPhosphor_1 : decode cX1_putPhosphor 1 = .ok (.invokestatic 41, 3) := by decide +kernel
theorem dX1_putPhosphor_4 : decode cX1_putPhosphor 4 = .ok (.ifCond .eq 10, 3) := by decide +kernel
theorem dX1_putPhosphor_7 : decode cX1_putPhosphor 7 = .ok (.iload_n 2, 1) := by decide +kernel
theorem dX1_putPhosphor_8 : decode cX1_putPhosphor 8 = .ok (.invokestatic 45, 3) := by decide +kernel
theorem dX1_putPhosphor_11 : decode cX1_putPhosphor 11 = .ok (.ifCond .ne 5, 3) := by decide +kernel
theorem dX1_putPhosphor_14 : decode cX1_putPhosphor 14 = .ok (.iconst (-1), 1) := by decide +kernel
theorem dX1_putPhosphor_15 : decode cX1_putPhosphor 15 = .ok (.ireturn, 1) := by decide +kernel
theorem dX1_putPhosphor_16 : decode cX1_putPhosphor 16 = .ok (.aload_n 0, 1) := by decide +kernel
theorem dX1_putPhosphor_17 : decode cX1_putPhosphor 17 = .ok (.getfield 9, 3) := by decide +kernel
theorem dX1_putPhosphor_20 : decode cX1_putPhosphor 20 = .ok (.iload_n 1, 1) := by decide +kernel
theorem dX1_putPhosphor_21 : decode cX1_putPhosphor 21 = .ok (.iaload, 1) := by decide +kernel
theorem dX1_putPhosphor_22 : decode cX1_putPhosphor 22 = .ok (.istore_n 3, 1) := by decide +kernel
theorem dX1_putPhosphor_23 : decode cX1_putPhosphor 23 = .ok (.aload_n 0, 1) := by decide +kernel
theorem dX1_putPhosphor_24 : decode cX1_putPhosphor 24 = .ok (.getfield 9, 3) := by decide +kernel
theorem dX1_putPhosphor_27 : decode cX1_putPhosphor 27 = .ok (.iload_n 1, 1) := by decide +kernel
theorem dX1_putPhosphor_28 : decode cX1_putPhosphor 28 = .ok (.iload_n 2, 1) := by decide +kernel
theorem dX1_putPhosphor_29 : decode cX1_putPhosphor 29 = .ok (.iastore, 1) := by decide +kernel
theorem dX1_putPhosphor_30 : decode cX1_putPhosphor 30 = .ok (.iload_n 3, 1) := by decide +kernel
theorem dX1_putPhosphor_31 : decode cX1_putPhosphor 31 = .ok (.ireturn, 1) := by decide +kernel
set_option maxRecDepth 20000 in
theorem ggX1_addSpot_X4_isSpot : GoodIn wsX1_addSpot wsX4_isSpot := goodIn_r _ [5] (by decide +kernel) (by decide +kernel)
set_option maxRecDepth 20000 in
theorem gX1_addSpot_X4_isSpot_n41 : GoodIn wsX1_addSpot (wsX4_isSpot) := ggX1_addSpot_X4_isSpot
set_option maxRecDepth 20000 in
theorem ggX1_addSpot_X1_positionOf : GoodIn wsX1_addSpot wsX1_positionOf := goodIn_r _ [10, 1, 2, 11, 12, 13, 14, 15] (by decide +kernel) (by decide +kernel)
set_option maxRecDepth 20000 in
theorem gX1_addSpot_X1_positionOf : GoodIn wsX1_addSpot (wsV RX1 48 RX1 yX1_positionOf wsX1_positionOf) := goodIn_app (goodIn_of _ (by decide +kernel)) ggX1_addSpot_X1_positionOf
end
section
theorem dX1_addSpot_0 : decode cX1_addSpot 0 = .ok (.iload_n 1, 1) := by decide +kernel
theorem dX1_addSpot_1 : decode cX1_addSpot 1 = .ok (.invokestatic 41, 3) := by decide +kernel
theorem dX1_addSpot_4 : decode cX1_addSpot 4 = .ok (.ifCond .ne 5, 3) := by decide +kernel
theorem dX1_addSpot_7 : decode cX1_addSpot 7 = .ok (.iconst (-1), 1) := by decide +kernel
theorem dX1_addSpot_8 : decode cX1_addSpot 8 = .ok (.ireturn, 1) := by decide +kernel
theorem dX1_addSpot_9 : decode cX1_addSpot 9 = .ok (.aload_n 0, 1) := by decide +kernel
theorem dX1_addSpot_10 : decode cX1_addSpot 10 = .ok (.iload_n 1, 1) := by decide +kernel
theorem dX1_addSpot_11 : decode cX1_addSpot 11 = .ok (.invokevirtual 48, 3) := by decide +kernel
theorem dX1_addSpot_14 : decode cX1_addSpot 14 = .ok (.bipush (-9), 2) := by decide +kernel
theorem dX1_addSpot_16 : decode cX1_addSpot 16 = .ok (.if_icmp .eq 6, 3) := by decide +kernel
theorem dX1_addSpot_19 : decode cX1_addSpot 19 = .ok (.bipush (-2), 2) := by decide +kernel
theorem dX1_addSpot_21 : decode cX1_addSpot 21 = .ok (.ireturn, 1) := by decide +kernel
theorem dX1_addSpot_22 : decode cX1_addSpot 22 = .ok (.aload_n 0, 1) := by decide +kernel
theorem dX1_addSpot_23 : decode cX1_addSpot 23 = .ok (.getfield 31, 3) := by decide +kernel
theorem dX1_addSpot_26 : decode cX1_addSpot 26 = .ok (.bipush 12, 2) := by decide +kernel
theorem dX1_addSpot_28 : decode cX1_addSpot 28 = .ok (.if_icmp .lt 6, 3) := by decide +kernel
theorem dX1_addSpot_31 : decode cX1_addSpot 31 = .ok (.bipush (-3), 2) := by decide +kernel
theorem dX1_addSpot_33 : decode cX1_addSpot 33 = .ok (.ireturn, 1) := by decide +kernel
theorem dX1_addSpot_34 : decode cX1_addSpot 34 = .ok (.aload_n 0, 1) := by decide +kernel
theorem dX1_addSpot_35 : decode cX1_addSpot 35 = .ok (.getfield 15, 3) := by decide +kernel
theorem dX1_addSpot_38 : decode cX1_addSpot 38 = .ok (.aload_n 0, 1) := by decide +kernel
theorem dX1_addSpot_39 : decode cX1_addSpot 39 = .ok (.getfield 31, 3) := by decide +kernel
theorem dX1_addSpot_42 : decode cX1_addSpot 42 = .ok (.iload_n 1, 1) := by decide +kernel
theorem dX1_addSpot_43 : decode cX1_addSpot 43 = .ok (.iastore, 1) := by decide +kernel
theorem dX1_addSpot_44 : decode cX1_addSpot 44 = .ok (.aload_n 0, 1) := by decide +kernel
theorem dX1_addSpot_45 : decode cX1_addSpot 45 = .ok (.dup, 1) := by decide +kernel
theorem dX1_addSpot_46 : decode cX1_addSpot 46 = .ok (.getfield 31, 3) := by decide +kernel
theorem dX1_addSpot_49 : decode cX1_addSpot 49 = .ok (.iconst 1, 1) := by decide +kernel
theorem dX1_addSpot_50 : decode cX1_addSpot 50 = .ok (.iadd, 1) := by decide +kernel
theorem dX1_addSpot_51 : decode cX1_addSpot 51 = .ok (.putfield 31, 3) := by decide +kernel
theorem dX1_addSpot_54 : decode cX1_addSpot 54 = .ok (.aload_n 0, 1) := by decide +kernel
theorem dX1_addSpot_55 : decode cX1_addSpot 55 = .ok (.getfield 31, 3) := by decide +kernel
theorem dX1_addSpot_58 : decode cX1_addSpot 58 = .ok (.iconst 1, 1) := by decide +kernel
theorem dX1_addSpot_59 : decode cX1_addSpot 59 = .ok (.isub, 1) := by decide +kernel
theorem dX1_addSpot_60 : decode cX1_addSpot 60 = .ok (.ireturn, 1) := by decide +kernel
set_option maxRecDepth 20000 in
theorem ggX1_removeSpot_X4_isSpot : GoodIn wsX1_removeSpot wsX4_isSpot := goodIn_r _ [5] (by decide +kernel) (by decide +kernel)
set_option maxRecDepth 20000 in
theorem gX1_removeSpot_X4_isSpot_n41 : GoodIn wsX1_removeSpot (wsX4_isSpot) := ggX1_removeSpot_X4_isSpot
set_option maxRecDepth 20000 in
theorem ggX1_removeSpot_X1_positionOf : GoodIn wsX1_removeSpot wsX1_positionOf := goodIn_r _ [10, 1, 2, 11, 12, 13, 14, 15] (by decide +kernel) (by decide +kernel)
set_option maxRecDepth 20000 in
theorem gX1_removeSpot_X1_positionOf : GoodIn wsX1_removeSpot (wsV RX1 48 RX1 yX1_positionOf wsX1_positionOf) := goodIn_app (goodIn_of _ (by decide +kernel)) ggX1_removeSpot_X1_positionOf
theorem dX1_removeSpot_0 : decode cX1_removeSpot 0 = .ok (.iload_n 1, 1) := by decide +kernel
theorem dX1_removeSpot_1 : decode cX1_removeSpot 1 = .ok (.invokestatic 41, 3) := by decide +kernel
theorem dX1_removeSpot_4 : decode cX1_removeSpot 4 = .ok (.ifCond .ne 5, 3) := by decide +kernel
theorem dX1_removeSpot_7 : decode cX1_removeSpot 7 = .ok (.iconst (-1), 1) := by decide +kernel
theorem dX1_removeSpot_8 : decode cX1_removeSpot 8 = .ok (.ireturn, 1) := by decide +kernel
theorem dX1_removeSpot_9 : decode cX1_removeSpot 9 = .ok (.aload_n 0, 1) := by decide +kernel
theorem dX1_removeSpot_10 : decode cX1_removeSpot 10 = .ok (.iload_n 1, 1) := by decide +kernel
theorem dX1_removeSpot_11 : decode cX1_removeSpot 11 = .ok (.invokevirtual 48, 3) := by decide +kernel
theorem dX1_removeSpot_14 : decode cX1_removeSpot 14 = .ok (.istore_n 2, 1) := by decide +kernel
theorem dX1_removeSpot_15 : decode cX1_removeSpot 15 = .ok (.iload_n 2, 1) := by decide +kernel
theorem dX1_removeSpot_16 : decode cX1_removeSpot 16 = .ok (.bipush (-9), 2) := by decide +kernel
theorem dX1_removeSpot_18 : decode cX1_removeSpot 18 = .ok (.if_icmp .ne 6, 3) := by decide +kernel
theorem dX1_removeSpot_21 : decode cX1_removeSpot 21 = .ok (.bipush (-2), 2) := by decide +kernel
theorem dX1_removeSpot_23 : decode cX1_removeSpot 23 = .ok (.ireturn, 1) := by decide +kernel
theorem dX1_removeSpot_24 : decode cX1_removeSpot 24 = .ok (.iload_n 2, 1) := by decide +kernel
theorem dX1_removeSpot_25 : decode cX1_removeSpot 25 = .ok (.iconst 1, 1) := by decide +kernel
theorem dX1_removeSpot_26 : decode cX1_removeSpot 26 = .ok (.iadd, 1) := by decide +kernel
theorem dX1_removeSpot_27 : decode cX1_removeSpot 27 = .ok (.istore_n 3, 1) := by decide +kernel
theorem dX1_removeSpot_28 : decode cX1_removeSpot 28 = .ok (.iload_n 3, 1) := by decide +kernel
theorem dX1_removeSpot_29 : decode cX1_removeSpot 29 = .ok (.aload_n 0, 1) := by decide +kernel
theorem dX1_removeSpot_30 : decode cX1_removeSpot 30 = .ok (.getfield 31, 3) := by decide +kernel
theorem dX1_removeSpot_33 : decode cX1_removeSpot 33 = .ok (.if_icmp .ge 23, 3) := by decide +kernel
theorem dX1_removeSpot_36 : decode cX1_removeSpot 36 = .ok (.aload_n 0, 1) := by decide +kernel
theorem dX1_removeSpot_37 : decode cX1_removeSpot 37 = .ok (.getfield 15, 3) := by decide +kernel
theorem dX1_removeSpot_40 : decode cX1_removeSpot 40 = .ok (.iload_n 3, 1) := by decide +kernel
theorem dX1_removeSpot_41 : decode cX1_removeSpot 41 = .ok (.iconst 1, 1) := by decide +kernel
theorem dX1_removeSpot_42 : decode cX1_removeSpot 42 = .ok (.isub, 1) := by decide +kernel
theorem dX1_removeSpot_43 : decode cX1_removeSpot 43 = .ok (.aload_n 0, 1) := by decide +kernel
theorem dX1_removeSpot_44 : decode cX1_removeSpot 44 = .ok (.getfield 15, 3) := by decide +kernel
theorem dX1_removeSpot_47 : decode cX1_removeSpot 47 = .ok (.iload_n 3, 1) := by decide +kernel
theorem dX1_removeSpot_48 : decode cX1_removeSpot 48 = .ok (.iaload, 1) := by decide +kernel
theorem dX1_removeSpot_49 : decode cX1_removeSpot 49 = .ok (.iastore, 1) := by decide +kernel
theorem dX1_removeSpot_50 : decode cX1_removeSpot 50 = .ok (.iinc 3 1, 3) := by decide +kernel
theorem dX1_removeSpot_53 : decode cX1_removeSpot 53 = .ok (.goto (-25), 3) := by decide +kernel
theorem dX1_removeSpot_56 : decode cX1_removeSpot 56 = .ok (.aload_n 0, 1) := by decide +kernel
theorem dX1_removeSpot_57 : decode cX1_removeSpot 57 = .ok (.dup, 1) := by decide +kernel
theorem dX1_removeSpot_58 : decode cX1_removeSpot 58 = .ok (.getfield 31, 3) := by decide +kernel
theorem dX1_removeSpot_61 : decode cX1_removeSpot 61 = .ok (.iconst 1, 1) := by decide +kernel
theorem dX1_removeSpot_62 : decode cX1_removeSpot 62 = .ok (.isub, 1) := by decide +kernel
theorem dX1_removeSpot_63 : decode cX1_removeSpot 63 = .ok (.putfield 31, 3) := by decide +kernel
theorem dX1_removeSpot_66 : decode cX1_removeSpot 66 = .ok (.iload_n 2, 1) := by decide +kernel
theorem dX1_removeSpot_67 : decode cX1_removeSpot 67 = .ok (.ireturn, 1) := by decide +kernel
set_option maxRecDepth 20000 in
theorem ggX1_swapPositions_X1_swap : GoodIn wsX1_swapPositions wsX1_swap := goodIn_r _ [6, 7, 24, 25, 26, 27, 28] (by decide +kernel) (by decide +kernel)
set_option maxRecDepth 20000 in
theorem gX1_swapPositions_X1_swap : GoodIn wsX1_swapPositions (wsV RX1 52 RX1 yX1_swap wsX1_swap) := goodIn_app (goodIn_of _ (by decide +kernel)) ggX1_swapPositions_X1_swap
set_option maxRecDepth 20000 in
theorem ggX1_swapPositions_X1_litSize : GoodIn wsX1_swapPositions wsX1_litSize := goodIn_r _ [11, 1, 12, 13, 14, 15, 5, 16, 7, 17, 18, 19, 20, 21, 22, 23, 24, 25, 26, 27, 28] (by decide +kernel) (by decide +kernel)
set_option maxRecDepth 20000 in
theorem gX1_swapPositions_X1_litSize : GoodIn wsX1_swapPositions (wsV RX1 56 RX1 yX1_litSize wsX1_litSize) := goodIn_app (goodIn_of _ (by decide +kernel)) ggX1_swapPositions_X1_litSize
theorem dX1_swapPositions_0 : decode cX1_swapPositions 0 = .ok (.iload_n 1, 1) := by decide +kernel
theorem dX1_swapPositions_1 : decode cX1_swapPositions 1 = .ok (.ifCond .lt 23, 3) := by decide +kernel
theorem dX1_swapPositions_4 : decode cX1_swapPositions 4 = .ok (.iload_n 1, 1) := by decide +kernel
theorem dX1_swapPositions_5 : decode cX1_swapPositions 5 = .ok (.aload_n 0, 1) := by decide +kernel
theorem dX1_swapPositions_6 : decode cX1_swapPositions 6 = .ok (.getfield 31, 3) := by decide +kernel
theorem dX1_swapPositions_9 : decode cX1_swapPositions 9 = .ok (.if_icmp .ge 15, 3) := by decide +kernel
theorem dX1_swapPositions_12 : decode cX1_swapPositions 12 = .ok (.iload_n 2, 1) := by decide +kernel
theorem dX1_swapPositions_13 : decode cX1_swapPositions 13 = .ok (.ifCond .lt 11, 3) := by decide +kernel
theorem dX1_swapPositions_16 : decode cX1_swapPositions 16 = .ok (.iload_n 2, 1) := by decide +kernel
theorem dX1_swapPositions_17 : decode cX1_swapPositions 17 = .ok (.aload_n 0, 1) := by decide +kernel
theorem dX1_swapPositions_18 : decode cX1_swapPositions 18 = .ok (.getfield 31, 3) := by decide +kernel
theorem dX1_swapPositions_21 : decode cX1_swapPositions 21 = .ok (.if_icmp .lt 5, 3) := by decide +kernel
theorem dX1_swapPositions_24 : decode cX1_swapPositions 24 = .ok (.iconst (-1), 1) := by decide +kernel
theorem dX1_swapPositions_25 : decode cX1_swapPositions 25 = .ok (.ireturn, 1) := by decide +kernel
theorem dX1_swapPositions_26 : decode cX1_swapPositions 26 = .ok (.aload_n 0, 1) := by decide +kernel
theorem dX1_swapPositions_27 : decode cX1_swapPositions 27 = .ok (.iload_n 1, 1) := by decide +kernel
theorem dX1_swapPositions_28 : decode cX1_swapPositions 28 = .ok (.iload_n 2, 1) := by decide +kernel
theorem dX1_swapPositions_29 : decode cX1_swapPositions 29 = .ok (.invokevirtual 52, 3) := by decide +kernel
theorem dX1_swapPositions_32 : decode cX1_swapPositions 32 = .ok (.aload_n 0, 1) := by decide +kernel
theorem dX1_swapPositions_33 : decode cX1_swapPositions 33 = .ok (.invokevirtual 56, 3) := by decide +kernel
theorem dX1_swapPositions_36 : decode cX1_swapPositions 36 = .ok (.ireturn, 1) := by decide +kernel
theorem dX1_swap_0 : decode cX1_swap 0 = .ok (.aload_n 0, 1) := by decide +kernel
theorem dX1_swap_1 : decode cX1_swap 1 = .ok (.getfield 15, 3) := by decide +kernel
theorem dX1_swap_4 : decode cX1_swap 4 = .ok (.iload_n 1, 1) := by decide +kernel
theorem dX1_swap_5 : decode cX1_swap 5 = .ok (.iaload, 1) := by decide +kernel
theorem dX1_swap_6 : decode cX1_swap 6 = .ok (.istore_n 3, 1) := by decide +kernel
theorem dX1_swap_7 : decode cX1_swap 7 = .ok (.aload_n 0, 1) := by decide +kernel
theorem dX1_swap_8 : decode cX1_swap 8 = .ok (.getfield 15, 3) := by decide +kernel
theorem dX1_swap_11 : decode cX1_swap 11 = .ok (.iload_n 1, 1) := by decide +kernel
theorem dX1_swap_12 : decode cX1_swap 12 = .ok (.aload_n 0, 1) := by decide +kernel
theorem dX1_swap_13 : decode cX1_swap 13 = .ok (.getfield 15, 3) := by decide +kernel
theorem dX1_swap_16 : decode cX1_swap 16 = .ok (.iload_n 2, 1) := by decide +kernel
theorem dX1_swap_17 : decode cX1_swap 17 = .ok (.iaload, 1) := by decide +kernel
theorem dX1_swap_18 : decode cX1_swap 18 = .ok (.iastore, 1) := by decide +kernel
theorem dX1_swap_19 : decode cX1_swap 19 = .ok (.aload_n 0, 1) := by decide +kernel
theorem dX1_swap_20 : decode cX1_swap 20 = .ok (.getfield 15, 3) := by decide +kernel
theorem dX1_swap_23 : decode cX1_swap 23 = .ok (.iload_n 2, 1) := by decide +kernel
theorem dX1_swap_24 : decode cX1_swap 24 = .ok (.iload_n 3, 1) := by decide +kernel
theorem dX1_swap_25 : decode cX1_swap 25 = .ok (.iastore, 1) := by decide +kernel
theorem dX1_swap_26 : decode cX1_swap 26 = .ok (.return_, 1) := by decide +kernel
set_option maxRecDepth 20000 in
theorem ggX1_arrange_X1_rank : GoodIn wsX1_arrange wsX1_rank := goodIn_r _ [7, 8, 9, 10, 11, 12, 13, 14, 15, 16, 17, 18, 19, 20, 21, 22, 23, 24, 25, 26, 40, 41, 42, 43, 44] (by decide +kernel) (by decide +kernel)
set_option maxRecDepth 20000 in
theorem gX1_arrange_X1_rank : GoodIn wsX1_arrange (wsV RX1 60 RX1 yX1_rank wsX1_rank) := goodIn_app (goodIn_of _ (by decide +kernel)) ggX1_arrange_X1_rank
set_option maxRecDepth 20000 in
theorem ggX1_arrange_X1_swap : GoodIn wsX1_arrange wsX1_swap := goodIn_r _ [30, 2, 40, 41, 42, 43, 44] (by decide +kernel) (by decide +kernel)
set_option maxRecDepth 20000 in
theorem gX1_arrange_X1_swap : GoodIn wsX1_arrange (wsV RX1 52 RX1 yX1_swap wsX1_swap) := goodIn_app (goodIn_of _ (by decide +kernel)) ggX1_arrange_X1_swap
set_option maxRecDepth 20000 in
theorem ggX1_arrange_X1_litSize : GoodIn wsX1_arrange wsX1_litSize := goodIn_r _ [34, 1, 35, 36, 37, 38, 6, 39, 2, 13, 11, 14, 15, 16, 17, 18, 40, 41, 42, 43, 44] (by decide +kernel) (by decide +kernel)
set_option maxRecDepth 20000 in
theorem gX1_arrange_X1_litSize : GoodIn wsX1_arrange (wsV RX1 56 RX1 yX1_litSize wsX1_litSize) := goodIn_app (goodIn_of _ (by decide +kernel)) ggX1_arrange_X1_litSize
theorem dX1_arrange_0 : decode cX1_arrange 0 = .ok (.iload_n 1, 1) := by decide +kernel
theorem dX1_arrange_1 : decode cX1_arrange 1 = .ok (.ifCond .lt 8, 3) := by decide +kernel
theorem dX1_arrange_4 : decode cX1_arrange 4 = .ok (.iload_n 1, 1) := by decide +kernel
theorem dX1_arrange_5 : decode cX1_arrange 5 = .ok (.iconst 3, 1) := by decide +kernel
theorem dX1_arrange_6 : decode cX1_arrange 6 = .ok (.if_icmp .le 5, 3) := by decide +kernel
theorem dX1_arrange_9 : decode cX1_arrange 9 = .ok (.iconst (-1), 1) := by decide +kernel
theorem dX1_arrange_10 : decode cX1_arrange 10 = .ok (.ireturn, 1) := by decide +kernel
theorem dX1_arrange_11 : decode cX1_arrange 11 = .ok (.iconst 0, 1) := by decide +kernel
theorem dX1_arrange_12 : decode cX1_arrange 12 = .ok (.istore_n 2, 1) := by decide +kernel
theorem dX1_arrange_13 : decode cX1_arrange 13 = .ok (.iconst 0, 1) := by decide +kernel
theorem dX1_arrange_14 : decode cX1_arrange 14 = .ok (.istore_n 3, 1) := by decide +kernel
theorem dX1_arrange_15 : decode cX1_arrange 15 = .ok (.iload_n 3, 1) := by decide +kernel
theorem dX1_arrange_16 : decode cX1_arrange 16 = .ok (.aload_n 0, 1) := by decide +kernel
theorem dX1_arrange_17 : decode cX1_arrange 17 = .ok (.getfield 31, 3) := by decide +kernel
theorem dX1_arrange_20 : decode cX1_arrange 20 = .ok (.if_icmp .ge 79, 3) := by decide +kernel
theorem dX1_arrange_23 : decode cX1_arrange 23 = .ok (.iload_n 3, 1) := by decide +kernel
theorem dX1_arrange_24 : decode cX1_arrange 24 = .ok (.istore 4, 2) := by decide +kernel
theorem dX1_arrange_26 : decode cX1_arrange 26 = .ok (.iload_n 3, 1) := by decide +kernel
theorem dX1_arrange_27 : decode cX1_arrange 27 = .ok (.iconst 1, 1) := by decide +kernel
theorem dX1_arrange_28 : decode cX1_arrange 28 = .ok (.iadd, 1) := by decide +kernel
theorem dX1_arrange_29 : decode cX1_arrange 29 = .ok (.istore 5, 2) := by decide +kernel
theorem dX1_arrange_31 : decode cX1_arrange 31 = .ok (.iload 5, 2) := by decide +kernel
theorem dX1_arrange_33 : decode cX1_arrange 33 = .ok (.aload_n 0, 1) := by decide +kernel
theorem dX1_arrange_34 : decode cX1_arrange 34 = .ok (.getfield 31, 3) := by decide +kernel
theorem dX1_arrange_37 : decode cX1_arrange 37 = .ok (.if_icmp .ge 42, 3) := by decide +kernel
theorem dX1_arrange_40 : decode cX1_arrange 40 = .ok (.aload_n 0, 1) := by decide +kernel
theorem dX1_arrange_41 : decode cX1_arrange 41 = .ok (.iload_n 1, 1) := by decide +kernel
theorem dX1_arrange_42 : decode cX1_arrange 42 = .ok (.aload_n 0, 1) := by decide +kernel
theorem dX1_arrange_43 : decode cX1_arrange 43 = .ok (.getfield 15, 3) := by decide +kernel
theorem dX1_arrange_46 : decode cX1_arrange 46 = .ok (.iload 5, 2) := by decide +kernel
theorem dX1_arrange_48 : decode cX1_arrange 48 = .ok (.iaload, 1) := by decide +kernel
theorem dX1_arrange_49 : decode cX1_arrange 49 = .ok (.iload_n 2, 1) := by decide +kernel
theorem dX1_arrange_50 : decode cX1_arrange 50 = .ok (.invokevirtual 60, 3) := by decide +kernel
theorem dX1_arrange_53 : decode cX1_arrange 53 = .ok (.aload_n 0, 1) := by decide +kernel
theorem dX1_arrange_54 : decode cX1_arrange 54 = .ok (.iload_n 1, 1) := by decide +kernel
theorem dX1_arrange_55 : decode cX1_arrange 55 = .ok (.aload_n 0, 1) := by decide +kernel
theorem dX1_arrange_56 : decode cX1_arrange 56 = .ok (.getfield 15, 3) := by decide +kernel
theorem dX1_arrange_59 : decode cX1_arrange 59 = .ok (.iload 4, 2) := by decide +kernel
theorem dX1_arrange_61 : decode cX1_arrange 61 = .ok (.iaload, 1) := by decide +kernel
theorem dX1_arrange_62 : decode cX1_arrange 62 = .ok (.iload_n 2, 1) := by decide +kernel
theorem dX1_arrange_63 : decode cX1_arrange 63 = .ok (.invokevirtual 60, 3) := by decide +kernel
theorem dX1_arrange_66 : decode cX1_arrange 66 = .ok (.if_icmp .ge 7, 3) := by decide +kernel
theorem dX1_arrange_69 : decode cX1_arrange 69 = .ok (.iload 5, 2) := by decide +kernel
theorem dX1_arrange_71 : decode cX1_arrange 71 = .ok (.istore 4, 2) := by decide +kernel
theorem dX1_arrange_73 : decode cX1_arrange 73 = .ok (.iinc 5 1, 3) := by decide +kernel
theorem dX1_arrange_76 : decode cX1_arrange 76 = .ok (.goto (-45), 3) := by decide +kernel
theorem dX1_arrange_79 : decode cX1_arrange 79 = .ok (.aload_n 0, 1) := by decide +kernel
theorem dX1_arrange_80 : decode cX1_arrange 80 = .ok (.iload_n 3, 1) := by decide +kernel
theorem dX1_arrange_81 : decode cX1_arrange 81 = .ok (.iload 4, 2) := by decide +kernel
theorem dX1_arrange_83 : decode cX1_arrange 83 = .ok (.invokevirtual 52, 3) := by decide +kernel
theorem dX1_arrange_86 : decode cX1_arrange 86 = .ok (.aload_n 0, 1) := by decide +kernel
theorem dX1_arrange_87 : decode cX1_arrange 87 = .ok (.getfield 15, 3) := by decide +kernel
theorem dX1_arrange_90 : decode cX1_arrange 90 = .ok (.iload_n 3, 1) := by decide +kernel
theorem dX1_arrange_91 : decode cX1_arrange 91 = .ok (.iaload, 1) := by decide +kernel
theorem dX1_arrange_92 : decode cX1_arrange 92 = .ok (.istore_n 2, 1) := by decide +kernel
theorem dX1_arrange_93 : decode cX1_arrange 93 = .ok (.iinc 3 1, 3) := by decide +kernel
theorem dX1_arrange_96 : decode cX1_arrange 96 = .ok (.goto (-81), 3) := by decide +kernel
theorem dX1_arrange_99 : decode cX1_arrange 99 = .ok (.aload_n 0, 1) := by decide +kernel
theorem dX1_arrange_100 : decode cX1_arrange 100 = .ok (.invokevirtual 56, 3) := by decide +kernel
theorem dX1_arrange_103 : decode cX1_arrange 103 = .ok (.ireturn, 1) := by decide +kernel
set_option maxRecDepth 20000 in
theorem ggX1_rank_X4_bit : GoodIn wsX1_rank wsX4_bit := goodIn_r _ [5] (by decide +kernel) (by decide +kernel)
set_option maxRecDepth 20000 in
theorem gX1_rank_X4_bit_n64 : GoodIn wsX1_rank (wsX4_bit) := ggX1_rank_X4_bit
set_option maxRecDepth 20000 in
theorem ggX1_rank_X4_way : GoodIn wsX1_rank wsX4_way := goodIn_r _ [7, 8, 9, 10, 11] (by decide +kernel) (by decide +kernel)
set_option maxRecDepth 20000 in
theorem gX1_rank_X4_way_n68 : GoodIn wsX1_rank (wsX4_way) := ggX1_rank_X4_way
set_option maxRecDepth 20000 in
theorem ggX1_rank_X4_ticksAbove : GoodIn wsX1_rank wsX4_ticksAbove := goodIn_r _ [13, 14, 15, 4, 16, 17, 18, 10, 19] (by decide +kernel) (by decide +kernel)
set_option maxRecDepth 20000 in
theorem gX1_rank_X4_ticksAbove_n72 : GoodIn wsX1_rank (wsX4_ticksAbove) := ggX1_rank_X4_ticksAbove
theorem dX1_rank_0 : decode cX1_rank 0 = .ok (.iload_n 1, 1) := by decide +kernel
theorem dX1_rank_1 : decode cX1_rank 1 = .ok (.tableswitch 70 0 2 #[27, 29, 54], 27) := by decide +kernel
theorem dX1_rank_28 : decode cX1_rank 28 = .ok (.iload_n 2, 1) := by decide +kernel
theorem dX1_rank_29 : decode cX1_rank 29 = .ok (.ireturn, 1) := by decide +kernel
theorem dX1_rank_30 : decode cX1_rank 30 = .ok (.aload_n 0, 1) := by decide +kernel
theorem dX1_rank_31 : decode cX1_rank 31 = .ok (.getfield 18, 3) := by decide +kernel
theorem dX1_rank_34 : decode cX1_rank 34 = .ok (.iconst 1, 1) := by decide +kernel
theorem dX1_rank_35 : decode cX1_rank 35 = .ok (.laload, 1) := by decide +kernel
theorem dX1_rank_36 : decode cX1_rank 36 = .ok (.iload_n 2, 1) := by decide +kernel
theorem dX1_rank_37 : decode cX1_rank 37 = .ok (.invokestatic 64, 3) := by decide +kernel
theorem dX1_rank_40 : decode cX1_rank 40 = .ok (.bipush 15, 2) := by decide +kernel
theorem dX1_rank_42 : decode cX1_rank 42 = .ok (.imul, 1) := by decide +kernel
theorem dX1_rank_43 : decode cX1_rank 43 = .ok (.iconst 0, 1) := by decide +kernel
theorem dX1_rank_44 : decode cX1_rank 44 = .ok (.iload_n 2, 1) := by decide +kernel
theorem dX1_rank_45 : decode cX1_rank 45 = .ok (.invokestatic 68, 3) := by decide +kernel
theorem dX1_rank_48 : decode cX1_rank 48 = .ok (.iadd, 1) := by decide +kernel
theorem dX1_rank_49 : decode cX1_rank 49 = .ok (.bipush 64, 2) := by decide +kernel
theorem dX1_rank_51 : decode cX1_rank 51 = .ok (.imul, 1) := by decide +kernel
theorem dX1_rank_52 : decode cX1_rank 52 = .ok (.iload_n 2, 1) := by decide +kernel
theorem dX1_rank_53 : decode cX1_rank 53 = .ok (.iadd, 1) := by decide +kernel
theorem dX1_rank_54 : decode cX1_rank 54 = .ok (.ireturn, 1) := by decide +kernel
theorem dX1_rank_55 : decode cX1_rank 55 = .ok (.aload_n 0, 1) := by decide +kernel
theorem dX1_rank_56 : decode cX1_rank 56 = .ok (.getfield 9, 3) := by decide +kernel
theorem dX1_rank_59 : decode cX1_rank 59 = .ok (.iload_n 2, 1) := by decide +kernel
theorem dX1_rank_60 : decode cX1_rank 60 = .ok (.iaload, 1) := by decide +kernel
theorem dX1_rank_61 : decode cX1_rank 61 = .ok (.iconst 1, 1) := by decide +kernel
theorem dX1_rank_62 : decode cX1_rank 62 = .ok (.invokestatic 72, 3) := by decide +kernel
theorem dX1_rank_65 : decode cX1_rank 65 = .ok (.bipush 64, 2) := by decide +kernel
theorem dX1_rank_67 : decode cX1_rank 67 = .ok (.imul, 1) := by decide +kernel
theorem dX1_rank_68 : decode cX1_rank 68 = .ok (.iload_n 2, 1) := by decide +kernel
theorem dX1_rank_69 : decode cX1_rank 69 = .ok (.iadd, 1) := by decide +kernel
theorem dX1_rank_70 : decode cX1_rank 70 = .ok (.ireturn, 1) := by decide +kernel
theorem dX1_rank_71 : decode cX1_rank 71 = .ok (.iload_n 3, 1) := by decide +kernel
theorem dX1_rank_72 : decode cX1_rank 72 = .ok (.iload_n 2, 1) := by decide +kernel
theorem dX1_rank_73 : decode cX1_rank 73 = .ok (.invokestatic 68, 3) := by decide +kernel
theorem dX1_rank_76 : decode cX1_rank 76 = .ok (.bipush 64, 2) := by decide +kernel
theorem dX1_rank_78 : decode cX1_rank 78 = .ok (.imul, 1) := by decide +kernel
theorem dX1_rank_79 : decode cX1_rank 79 = .ok (.iload_n 2, 1) := by decide +kernel
theorem dX1_rank_80 : decode cX1_rank 80 = .ok (.iadd, 1) := by decide +kernel
theorem dX1_rank_81 : decode cX1_rank 81 = .ok (.ireturn, 1) := by decide +kernel
set_option maxRecDepth 20000 in
theorem ggX1_paint_X4_isSpot : GoodIn wsX1_paint wsX4_isSpot := goodIn_r _ [5] (by decide +kernel) (by decide +kernel)
set_option maxRecDepth 20000 in
theorem gX1_paint_X4_isSpot_n41 : GoodIn wsX1_paint (wsX4_isSpot) := ggX1_paint_X4_isSpot
set_option maxRecDepth 20000 in
theorem ggX1_paint_J13_bitCount_95d88 : GoodIn wsX1_paint wsJ13_bitCount_95d88 := goodIn_r _ [9, 10, 11, 12] (by decide +kernel) (by decide +kernel)
set_option maxRecDepth 20000 in
theorem gX1_paint_J13_bitCount_95d88 : GoodIn wsX1_paint (va_wsS RX1 77 yJ13_bitCount_95d88 wsJ13_bitCount_95d88) := goodIn_app (goodIn_of _ (by decide +kernel)) ggX1_paint_J13_bitCount_95d88
theorem dX1_paint_0 : decode cX1_paint 0 = .ok (.iload_n 1, 1) := by decide +kernel
theorem dX1_paint_1 : decode cX1_paint 1 = .ok (.ifCond .lt 24, 3) := by decide +kernel
theorem dX1_paint_4 : decode cX1_paint 4 = .ok (.iload_n 1, 1) := by decide +kernel
theorem dX1_paint_5 : decode cX1_paint 5 = .ok (.iconst 2, 1) := by decide +kernel
theorem dX1_paint_6 : decode cX1_paint 6 = .ok (.if_icmp .ge 19, 3) := by decide +kernel
theorem dX1_paint_9 : decode cX1_paint 9 = .ok (.iload_n 2, 1) := by decide +kernel
theorem dX1_paint_10 : decode cX1_paint 10 = .ok (.invokestatic 41, 3) := by decide +kernel
theorem dX1_paint_13 : decode cX1_paint 13 = .ok (.ifCond .eq 12, 3) := by decide +kernel
theorem dX1_paint_16 : decode cX1_paint 16 = .ok (.iload_n 3, 1) := by decide +kernel
theorem dX1_paint_17 : decode cX1_paint 17 = .ok (.ifCond .lt 8, 3) := by decide +kernel
theorem dX1_paint_20 : decode cX1_paint 20 = .ok (.iload_n 3, 1) := by decide +kernel
theorem dX1_paint_21 : decode cX1_paint 21 = .ok (.iconst 1, 1) := by decide +kernel
theorem dX1_paint_22 : decode cX1_paint 22 = .ok (.if_icmp .le 5, 3) := by decide +kernel
theorem dX1_paint_25 : decode cX1_paint 25 = .ok (.iconst (-1), 1) := by decide +kernel
theorem dX1_paint_26 : decode cX1_paint 26 = .ok (.ireturn, 1) := by decide +kernel
theorem dX1_paint_27 : decode cX1_paint 27 = .ok (.iload_n 3, 1) := by decide +kernel
theorem dX1_paint_28 : decode cX1_paint 28 = .ok (.iconst 1, 1) := by decide +kernel
theorem dX1_paint_29 : decode cX1_paint 29 = .ok (.if_icmp .ne 18, 3) := by decide +kernel
theorem dX1_paint_32 : decode cX1_paint 32 = .ok (.aload_n 0, 1) := by decide +kernel
theorem dX1_paint_33 : decode cX1_paint 33 = .ok (.getfield 18, 3) := by decide +kernel
theorem dX1_paint_36 : decode cX1_paint 36 = .ok (.iload_n 1, 1) := by decide +kernel
theorem dX1_paint_37 : decode cX1_paint 37 = .ok (.dup2, 1) := by decide +kernel
theorem dX1_paint_38 : decode cX1_paint 38 = .ok (.laload, 1) := by decide +kernel
theorem dX1_paint_39 : decode cX1_paint 39 = .ok (.lconst 1, 1) := by decide +kernel
theorem dX1_paint_40 : decode cX1_paint 40 = .ok (.iload_n 2, 1) := by decide +kernel
theorem dX1_paint_41 : decode cX1_paint 41 = .ok (.lshl, 1) := by decide +kernel
theorem dX1_paint_42 : decode cX1_paint 42 = .ok (.lor, 1) := by decide +kernel
theorem dX1_paint_43 : decode cX1_paint 43 = .ok (.lastore, 1) := by decide +kernel
theorem dX1_paint_44 : decode cX1_paint 44 = .ok (.goto 19, 3) := by decide +kernel
theorem dX1_paint_47 : decode cX1_paint 47 = .ok (.aload_n 0, 1) := by decide +kernel
theorem dX1_paint_48 : decode cX1_paint 48 = .ok (.getfield 18, 3) := by decide +kernel
theorem dX1_paint_51 : decode cX1_paint 51 = .ok (.iload_n 1, 1) := by decide +kernel
theorem dX1_paint_52 : decode cX1_paint 52 = .ok (.dup2, 1) := by decide +kernel
theorem dX1_paint_53 : decode cX1_paint 53 = .ok (.laload, 1) := by decide +kernel
theorem dX1_paint_54 : decode cX1_paint 54 = .ok (.lconst 1, 1) := by decide +kernel
theorem dX1_paint_55 : decode cX1_paint 55 = .ok (.iload_n 2, 1) := by decide +kernel
theorem dX1_paint_56 : decode cX1_paint 56 = .ok (.lshl, 1) := by decide +kernel
theorem dX1_paint_57 : decode cX1_paint 57 = .ok (.ldc2_w 75, 3) := by decide +kernel
theorem dX1_paint_60 : decode cX1_paint 60 = .ok (.lxor, 1) := by decide +kernel
theorem dX1_paint_61 : decode cX1_paint 61 = .ok (.land, 1) := by decide +kernel
theorem dX1_paint_62 : decode cX1_paint 62 = .ok (.lastore, 1) := by decide +kernel
theorem dX1_paint_63 : decode cX1_paint 63 = .ok (.aload_n 0, 1) := by decide +kernel
theorem dX1_paint_64 : decode cX1_paint 64 = .ok (.getfield 18, 3) := by decide +kernel
theorem dX1_paint_67 : decode cX1_paint 67 = .ok (.iload_n 1, 1) := by decide +kernel
theorem dX1_paint_68 : decode cX1_paint 68 = .ok (.laload, 1) := by decide +kernel
theorem dX1_paint_69 : decode cX1_paint 69 = .ok (.invokestatic 77, 3) := by decide +kernel
theorem dX1_paint_72 : decode cX1_paint 72 = .ok (.ireturn, 1) := by decide +kernel
theorem dX1_positionOf_0 : decode cX1_positionOf 0 = .ok (.iconst 0, 1) := by decide +kernel
theorem dX1_positionOf_1 : decode cX1_positionOf 1 = .ok (.istore_n 2, 1) := by decide +kernel
theorem dX1_positionOf_2 : decode cX1_positionOf 2 = .ok (.iload_n 2, 1) := by decide +kernel
theorem dX1_positionOf_3 : decode cX1_positionOf 3 = .ok (.aload_n 0, 1) := by decide +kernel
theorem dX1_positionOf_4 : decode cX1_positionOf 4 = .ok (.getfield 31, 3) := by decide +kernel
theorem dX1_positionOf_7 : decode cX1_positionOf 7 = .ok (.if_icmp .ge 21, 3) := by decide +kernel
theorem dX1_positionOf_10 : decode cX1_positionOf 10 = .ok (.aload_n 0, 1) := by decide +kernel
theorem dX1_positionOf_11 : decode cX1_positionOf 11 = .ok (.getfield 15, 3) := by decide +kernel
theorem dX1_positionOf_14 : decode cX1_positionOf 14 = .ok (.iload_n 2, 1) := by decide +kernel
theorem dX1_positionOf_15 : decode cX1_positionOf 15 = .ok (.iaload, 1) := by decide +kernel
theorem dX1_positionOf_16 : decode cX1_positionOf 16 = .ok (.iload_n 1, 1) := by decide +kernel
theorem dX1_positionOf_17 : decode cX1_positionOf 17 = .ok (.if_icmp .ne 5, 3) := by decide +kernel
theorem dX1_positionOf_20 : decode cX1_positionOf 20 = .ok (.iload_n 2, 1) := by decide +kernel
theorem dX1_positionOf_21 : decode cX1_positionOf 21 = .ok (.ireturn, 1) := by decide +kernel
theorem dX1_positionOf_22 : decode cX1_positionOf 22 = .ok (.iinc 2 1, 3) := by decide +kernel
theorem dX1_positionOf_25 : decode cX1_positionOf 25 = .ok (.goto (-23), 3) := by decide +kernel
theorem dX1_positionOf_28 : decode cX1_positionOf 28 = .ok (.bipush (-9), 2) := by decide +kernel
theorem dX1_positionOf_30 : decode cX1_positionOf 30 = .ok (.ireturn, 1) := by decide +kernel
theorem dX1_spotsOfOrder_0 : decode cX1_spotsOfOrder 0 = .ok (.lconst 0, 1) := by decide +kernel
theorem dX1_spotsOfOrder_1 : decode cX1_spotsOfOrder 1 = .ok (.lstore_n 1, 1) := by decide +kernel
theorem dX1_spotsOfOrder_2 : decode cX1_spotsOfOrder 2 = .ok (.iconst 0, 1) := by decide +kernel
theorem dX1_spotsOfOrder_3 : decode cX1_spotsOfOrder 3 = .ok (.istore_n 3, 1) := by decide +kernel
theorem dX1_spotsOfOrder_4 : decode cX1_spotsOfOrder 4 = .ok (.iload_n 3, 1) := by decide +kernel
theorem dX1_spotsOfOrder_5 : decode cX1_spotsOfOrder 5 = .ok (.aload_n 0, 1) := by decide +kernel
theorem dX1_spotsOfOrder_6 : decode cX1_spotsOfOrder 6 = .ok (.getfield 31, 3) := by decide +kernel
theorem dX1_spotsOfOrder_9 : decode cX1_spotsOfOrder 9 = .ok (.if_icmp .ge 20, 3) := by decide +kernel
theorem dX1_spotsOfOrder_12 : decode cX1_spotsOfOrder 12 = .ok (.lload_n 1, 1) := by decide +kernel
theorem dX1_spotsOfOrder_13 : decode cX1_spotsOfOrder 13 = .ok (.lconst 1, 1) := by decide +kernel
theorem dX1_spotsOfOrder_14 : decode cX1_spotsOfOrder 14 = .ok (.aload_n 0, 1) := by decide +kernel
theorem dX1_spotsOfOrder_15 : decode cX1_spotsOfOrder 15 = .ok (.getfield 15, 3) := by decide +kernel
theorem dX1_spotsOfOrder_18 : decode cX1_spotsOfOrder 18 = .ok (.iload_n 3, 1) := by decide +kernel
theorem dX1_spotsOfOrder_19 : decode cX1_spotsOfOrder 19 = .ok (.iaload, 1) := by decide +kernel
theorem dX1_spotsOfOrder_20 : decode cX1_spotsOfOrder 20 = .ok (.lshl, 1) := by decide +kernel
theorem dX1_spotsOfOrder_21 : decode cX1_spotsOfOrder 21 = .ok (.lor, 1) := by decide +kernel
theorem dX1_spotsOfOrder_22 : decode cX1_spotsOfOrder 22 = .ok (.lstore_n 1, 1) := by decide +kernel
theorem dX1_spotsOfOrder_23 : decode cX1_spotsOfOrder 23 = .ok (.iinc 3 1, 3) := by decide +kernel
theorem dX1_spotsOfOrder_26 : decode cX1_spotsOfOrder 26 = .ok (.goto (-22), 3) := by decide +kernel
theorem dX1_spotsOfOrder_29 : decode cX1_spotsOfOrder 29 = .ok (.lload_n 1, 1) := by decide +kernel
theorem dX1_spotsOfOrder_30 : decode cX1_spotsOfOrder 30 = .ok (.lreturn, 1) := by decide +kernel
set_option maxRecDepth 20000 in
theorem ggX1_sumOfWays_X4_way : GoodIn wsX1_sumOfWays wsX4_way := goodIn_r _ [5, 6, 7, 8, 9] (by decide +kernel) (by decide +kernel)
set_option maxRecDepth 20000 in
theorem gX1_sumOfWays_X4_way_n68 : GoodIn wsX1_sumOfWays (wsX4_way) := ggX1_sumOfWays_X4_way
theorem dX1_sumOfWays_0 : decode cX1_sumOfWays 0 = .ok (.iconst 0, 1) := by decide +kernel
theorem dX1_sumOfWays_1 : decode cX1_sumOfWays 1 = .ok (.istore_n 1, 1) := by decide +kernel
theorem dX1_sumOfWays_2 : decode cX1_sumOfWays 2 = .ok (.iconst 0, 1) := by decide +kernel
theorem dX1_sumOfWays_3 : decode cX1_sumOfWays 3 = .ok (.istore_n 2, 1) := by decide +kernel
theorem dX1_sumOfWays_4 : decode cX1_sumOfWays 4 = .ok (.iconst 0, 1) := by decide +kernel
theorem dX1_sumOfWays_5 : decode cX1_sumOfWays 5 = .ok (.istore_n 3, 1) := by decide +kernel
theorem dX1_sumOfWays_6 : decode cX1_sumOfWays 6 = .ok (.iload_n 3, 1) := by decide +kernel
theorem dX1_sumOfWays_7 : decode cX1_sumOfWays 7 = .ok (.aload_n 0, 1) := by decide +kernel
theorem dX1_sumOfWays_8 : decode cX1_sumOfWays 8 = .ok (.getfield 31, 3) := by decide +kernel
theorem dX1_sumOfWays_11 : decode cX1_sumOfWays 11 = .ok (.if_icmp .ge 29, 3) := by decide +kernel
theorem dX1_sumOfWays_14 : decode cX1_sumOfWays 14 = .ok (.iload_n 1, 1) := by decide +kernel
theorem dX1_sumOfWays_15 : decode cX1_sumOfWays 15 = .ok (.iload_n 2, 1) := by decide +kernel
theorem dX1_sumOfWays_16 : decode cX1_sumOfWays 16 = .ok (.aload_n 0, 1) := by decide +kernel
theorem dX1_sumOfWays_17 : decode cX1_sumOfWays 17 = .ok (.getfield 15, 3) := by decide +kernel
theorem dX1_sumOfWays_20 : decode cX1_sumOfWays 20 = .ok (.iload_n 3, 1) := by decide +kernel
theorem dX1_sumOfWays_21 : decode cX1_sumOfWays 21 = .ok (.iaload, 1) := by decide +kernel
theorem dX1_sumOfWays_22 : decode cX1_sumOfWays 22 = .ok (.invokestatic 68, 3) := by decide +kernel
theorem dX1_sumOfWays_25 : decode cX1_sumOfWays 25 = .ok (.iadd, 1) := by decide +kernel
theorem dX1_sumOfWays_26 : decode cX1_sumOfWays 26 = .ok (.istore_n 1, 1) := by decide +kernel
theorem dX1_sumOfWays_27 : decode cX1_sumOfWays 27 = .ok (.aload_n 0, 1) := by decide +kernel
theorem dX1_sumOfWays_28 : decode cX1_sumOfWays 28 = .ok (.getfield 15, 3) := by decide +kernel
theorem dX1_sumOfWays_31 : decode cX1_sumOfWays 31 = .ok (.iload_n 3, 1) := by decide +kernel
theorem dX1_sumOfWays_32 : decode cX1_sumOfWays 32 = .ok (.iaload, 1) := by decide +kernel
theorem dX1_sumOfWays_33 : decode cX1_sumOfWays 33 = .ok (.istore_n 2, 1) := by decide +kernel
theorem dX1_sumOfWays_34 : decode cX1_sumOfWays 34 = .ok (.iinc 3 1, 3) := by decide +kernel
theorem dX1_sumOfWays_37 : decode cX1_sumOfWays 37 = .ok (.goto (-31), 3) := by decide +kernel
theorem dX1_sumOfWays_40 : decode cX1_sumOfWays 40 = .ok (.iload_n 1, 1) := by decide +kernel
theorem dX1_sumOfWays_41 : decode cX1_sumOfWays 41 = .ok (.ireturn, 1) := by decide +kernel
set_option maxRecDepth 20000 in
theorem ggX1_arrival_X4_way : GoodIn wsX1_arrival wsX4_way := goodIn_r _ [6, 7, 8, 9, 10] (by decide +kernel) (by decide +kernel)
set_option maxRecDepth 20000 in
theorem gX1_arrival_X4_way_n68 : GoodIn wsX1_arrival (wsX4_way) := ggX1_arrival_X4_way
theorem dX1_arrival_0 : decode cX1_arrival 0 = .ok (.iconst 0, 1) := by decide +kernel
theorem dX1_arrival_1 : decode cX1_arrival 1 = .ok (.istore_n 2, 1) := by decide +kernel
theorem dX1_arrival_2 : decode cX1_arrival 2 = .ok (.iconst 0, 1) := by decide +kernel
theorem dX1_arrival_3 : decode cX1_arrival 3 = .ok (.istore_n 3, 1) := by decide +kernel
theorem dX1_arrival_4 : decode cX1_arrival 4 = .ok (.iconst 0, 1) := by decide +kernel
theorem dX1_arrival_5 : decode cX1_arrival 5 = .ok (.istore 4, 2) := by decide +kernel
theorem dX1_arrival_7 : decode cX1_arrival 7 = .ok (.iload 4, 2) := by decide +kernel
theorem dX1_arrival_9 : decode cX1_arrival 9 = .ok (.iload_n 1, 1) := by decide +kernel
theorem dX1_arrival_10 : decode cX1_arrival 10 = .ok (.if_icmp .gt 49, 3) := by decide +kernel
theorem dX1_arrival_13 : decode cX1_arrival 13 = .ok (.iload 4, 2) := by decide +kernel
theorem dX1_arrival_15 : decode cX1_arrival 15 = .ok (.aload_n 0, 1) := by decide +kernel
theorem dX1_arrival_16 : decode cX1_arrival 16 = .ok (.getfield 31, 3) := by decide +kernel
theorem dX1_arrival_19 : decode cX1_arrival 19 = .ok (.if_icmp .ge 40, 3) := by decide +kernel
theorem dX1_arrival_22 : decode cX1_arrival 22 = .ok (.iload_n 2, 1) := by decide +kernel
theorem dX1_arrival_23 : decode cX1_arrival 23 = .ok (.iload_n 3, 1) := by decide +kernel
theorem dX1_arrival_24 : decode cX1_arrival 24 = .ok (.aload_n 0, 1) := by decide +kernel
theorem dX1_arrival_25 : decode cX1_arrival 25 = .ok (.getfield 15, 3) := by decide +kernel
theorem dX1_arrival_28 : decode cX1_arrival 28 = .ok (.iload 4, 2) := by decide +kernel
theorem dX1_arrival_30 : decode cX1_arrival 30 = .ok (.iaload, 1) := by decide +kernel
theorem dX1_arrival_31 : decode cX1_arrival 31 = .ok (.invokestatic 68, 3) := by decide +kernel
theorem dX1_arrival_34 : decode cX1_arrival 34 = .ok (.aload_n 0, 1) := by decide +kernel
theorem dX1_arrival_35 : decode cX1_arrival 35 = .ok (.getfield 22, 3) := by decide +kernel
theorem dX1_arrival_38 : decode cX1_arrival 38 = .ok (.iconst 1, 1) := by decide +kernel
theorem dX1_arrival_39 : decode cX1_arrival 39 = .ok (.iaload, 1) := by decide +kernel
theorem dX1_arrival_40 : decode cX1_arrival 40 = .ok (.imul, 1) := by decide +kernel
theorem dX1_arrival_41 : decode cX1_arrival 41 = .ok (.iconst 1, 1) := by decide +kernel
theorem dX1_arrival_42 : decode cX1_arrival 42 = .ok (.iadd, 1) := by decide +kernel
theorem dX1_arrival_43 : decode cX1_arrival 43 = .ok (.iadd, 1) := by decide +kernel
theorem dX1_arrival_44 : decode cX1_arrival 44 = .ok (.istore_n 2, 1) := by decide +kernel
theorem dX1_arrival_45 : decode cX1_arrival 45 = .ok (.aload_n 0, 1) := by decide +kernel
theorem dX1_arrival_46 : decode cX1_arrival 46 = .ok (.getfield 15, 3) := by decide +kernel
theorem dX1_arrival_49 : decode cX1_arrival 49 = .ok (.iload 4, 2) := by decide +kernel
theorem dX1_arrival_51 : decode cX1_arrival 51 = .ok (.iaload, 1) := by decide +kernel
theorem dX1_arrival_52 : decode cX1_arrival 52 = .ok (.istore_n 3, 1) := by decide +kernel
theorem dX1_arrival_53 : decode cX1_arrival 53 = .ok (.iinc 4 1, 3) := by decide +kernel
theorem dX1_arrival_56 : decode cX1_arrival 56 = .ok (.goto (-49), 3) := by decide +kernel
theorem dX1_arrival_59 : decode cX1_arrival 59 = .ok (.iload_n 2, 1) := by decide +kernel
theorem dX1_arrival_60 : decode cX1_arrival 60 = .ok (.ireturn, 1) := by decide +kernel
set_option maxRecDepth 20000 in
theorem ggX1_litSize_X1_arrival : GoodIn wsX1_litSize wsX1_arrival := goodIn_r _ [7, 1, 8, 2, 9, 10, 11, 12, 13, 14, 15, 16, 17, 18, 19, 20] (by decide +kernel) (by decide +kernel)
set_option maxRecDepth 20000 in
theorem gX1_litSize_X1_arrival : GoodIn wsX1_litSize (wsV RX1 83 RX1 yX1_arrival wsX1_arrival) := goodIn_app (goodIn_of _ (by decide +kernel)) ggX1_litSize_X1_arrival
theorem dX1_litSize_0 : decode cX1_litSize 0 = .ok (.iconst 0, 1) := by decide +kernel
theorem dX1_litSize_1 : decode cX1_litSize 1 = .ok (.istore_n 1, 1) := by decide +kernel
theorem dX1_litSize_2 : decode cX1_litSize 2 = .ok (.iload_n 1, 1) := by decide +kernel
theorem dX1_litSize_3 : decode cX1_litSize 3 = .ok (.aload_n 0, 1) := by decide +kernel
theorem dX1_litSize_4 : decode cX1_litSize 4 = .ok (.getfield 31, 3) := by decide +kernel
theorem dX1_litSize_7 : decode cX1_litSize 7 = .ok (.if_icmp .ge 23, 3) := by decide +kernel
theorem dX1_litSize_10 : decode cX1_litSize 10 = .ok (.aload_n 0, 1) := by decide +kernel
theorem dX1_litSize_11 : decode cX1_litSize 11 = .ok (.iload_n 1, 1) := by decide +kernel
theorem dX1_litSize_12 : decode cX1_litSize 12 = .ok (.invokevirtual 83, 3) := by decide +kernel
theorem dX1_litSize_15 : decode cX1_litSize 15 = .ok (.aload_n 0, 1) := by decide +kernel
theorem dX1_litSize_16 : decode cX1_litSize 16 = .ok (.getfield 22, 3) := by decide +kernel
theorem dX1_litSize_19 : decode cX1_litSize 19 = .ok (.iconst 0, 1) := by decide +kernel
theorem dX1_litSize_20 : decode cX1_litSize 20 = .ok (.iaload, 1) := by decide +kernel
theorem dX1_litSize_21 : decode cX1_litSize 21 = .ok (.if_icmp .ge 9, 3) := by decide +kernel
theorem dX1_litSize_24 : decode cX1_litSize 24 = .ok (.iinc 1 1, 3) := by decide +kernel
theorem dX1_litSize_27 : decode cX1_litSize 27 = .ok (.goto (-25), 3) := by decide +kernel
theorem dX1_litSize_30 : decode cX1_litSize 30 = .ok (.iload_n 1, 1) := by decide +kernel
theorem dX1_litSize_31 : decode cX1_litSize 31 = .ok (.ireturn, 1) := by decide +kernel
set_option maxRecDepth 20000 in
theorem ggX1_litTick_X1_positionOf : GoodIn wsX1_litTick wsX1_positionOf := goodIn_r _ [6, 7, 8, 20, 21, 22, 23, 24] (by decide +kernel) (by decide +kernel)
set_option maxRecDepth 20000 in
theorem gX1_litTick_X1_positionOf : GoodIn wsX1_litTick (wsV RX1 48 RX1 yX1_positionOf wsX1_positionOf) := goodIn_app (goodIn_of _ (by decide +kernel)) ggX1_litTick_X1_positionOf
set_option maxRecDepth 20000 in
theorem ggX1_litTick_X1_arrival : GoodIn wsX1_litTick wsX1_arrival := goodIn_r _ [12, 7, 8, 1, 13, 14, 15, 16, 17, 18, 19, 20, 21, 22, 23, 24] (by decide +kernel) (by decide +kernel)
set_option maxRecDepth 20000 in
theorem gX1_litTick_X1_arrival : GoodIn wsX1_litTick (wsV RX1 83 RX1 yX1_arrival wsX1_arrival) := goodIn_app (goodIn_of _ (by decide +kernel)) ggX1_litTick_X1_arrival
theorem dX1_litTick_0 : decode cX1_litTick 0 = .ok (.aload_n 0, 1) := by decide +kernel
theorem dX1_litTick_1 : decode cX1_litTick 1 = .ok (.iload_n 1, 1) := by decide +kernel
theorem dX1_litTick_2 : decode cX1_litTick 2 = .ok (.invokevirtual 48, 3) := by decide +kernel
theorem dX1_litTick_5 : decode cX1_litTick 5 = .ok (.istore_n 2, 1) := by decide +kernel
theorem dX1_litTick_6 : decode cX1_litTick 6 = .ok (.iload_n 2, 1) := by decide +kernel
theorem dX1_litTick_7 : decode cX1_litTick 7 = .ok (.bipush (-9), 2) := by decide +kernel
theorem dX1_litTick_9 : decode cX1_litTick 9 = .ok (.if_icmp .eq 17, 3) := by decide +kernel
theorem dX1_litTick_12 : decode cX1_litTick 12 = .ok (.aload_n 0, 1) := by decide +kernel
theorem dX1_litTick_13 : decode cX1_litTick 13 = .ok (.iload_n 2, 1) := by decide +kernel
theorem dX1_litTick_14 : decode cX1_litTick 14 = .ok (.invokevirtual 83, 3) := by decide +kernel
theorem dX1_litTick_17 : decode cX1_litTick 17 = .ok (.aload_n 0, 1) := by decide +kernel
theorem dX1_litTick_18 : decode cX1_litTick 18 = .ok (.getfield 22, 3) := by decide +kernel
theorem dX1_litTick_21 : decode cX1_litTick 21 = .ok (.iconst 0, 1) := by decide +kernel
theorem dX1_litTick_22 : decode cX1_litTick 22 = .ok (.iaload, 1) := by decide +kernel
theorem dX1_litTick_23 : decode cX1_litTick 23 = .ok (.if_icmp .lt 6, 3) := by decide +kernel
theorem dX1_litTick_26 : decode cX1_litTick 26 = .ok (.bipush (-9), 2) := by decide +kernel
theorem dX1_litTick_28 : decode cX1_litTick 28 = .ok (.ireturn, 1) := by decide +kernel
theorem dX1_litTick_29 : decode cX1_litTick 29 = .ok (.aload_n 0, 1) := by decide +kernel
theorem dX1_litTick_30 : decode cX1_litTick 30 = .ok (.iload_n 2, 1) := by decide +kernel
theorem dX1_litTick_31 : decode cX1_litTick 31 = .ok (.invokevirtual 83, 3) := by decide +kernel
theorem dX1_litTick_34 : decode cX1_litTick 34 = .ok (.ireturn, 1) := by decide +kernel
set_option maxRecDepth 20000 in
theorem ggX1_shine_X4_glow : GoodIn wsX1_shine wsX4_glow := goodIn_r _ [5, 6, 7, 8, 9] (by decide +kernel) (by decide +kernel)
set_option maxRecDepth 20000 in
theorem gX1_shine_X4_glow_n86 : GoodIn wsX1_shine (wsX4_glow) := ggX1_shine_X4_glow
theorem dX1_shine_0 : decode cX1_shine 0 = .ok (.iload_n 2, 1) := by decide +kernel
theorem dX1_shine_1 : decode cX1_shine 1 = .ok (.bipush (-9), 2) := by decide +kernel
theorem dX1_shine_3 : decode cX1_shine 3 = .ok (.if_icmp .ne 5, 3) := by decide +kernel
theorem dX1_shine_6 : decode cX1_shine 6 = .ok (.iconst 0, 1) := by decide +kernel
theorem dX1_shine_7 : decode cX1_shine 7 = .ok (.ireturn, 1) := by decide +kernel
theorem dX1_shine_8 : decode cX1_shine 8 = .ok (.iload_n 3, 1) := by decide +kernel
theorem dX1_shine_9 : decode cX1_shine 9 = .ok (.iload_n 2, 1) := by decide +kernel
theorem dX1_shine_10 : decode cX1_shine 10 = .ok (.isub, 1) := by decide +kernel
theorem dX1_shine_11 : decode cX1_shine 11 = .ok (.istore 4, 2) := by decide +kernel
theorem dX1_shine_13 : decode cX1_shine 13 = .ok (.aload_n 0, 1) := by decide +kernel
theorem dX1_shine_14 : decode cX1_shine 14 = .ok (.getfield 9, 3) := by decide +kernel
theorem dX1_shine_17 : decode cX1_shine 17 = .ok (.iload_n 1, 1) := by decide +kernel
theorem dX1_shine_18 : decode cX1_shine 18 = .ok (.iaload, 1) := by decide +kernel
theorem dX1_shine_19 : decode cX1_shine 19 = .ok (.iload 4, 2) := by decide +kernel
theorem dX1_shine_21 : decode cX1_shine 21 = .ok (.ifCond .ge 15, 3) := by decide +kernel
theorem dX1_shine_24 : decode cX1_shine 24 = .ok (.iload 4, 2) := by decide +kernel
theorem dX1_shine_26 : decode cX1_shine 26 = .ok (.aload_n 0, 1) := by decide +kernel
theorem dX1_shine_27 : decode cX1_shine 27 = .ok (.getfield 22, 3) := by decide +kernel
theorem dX1_shine_30 : decode cX1_shine 30 = .ok (.iconst 0, 1) := by decide +kernel
theorem dX1_shine_31 : decode cX1_shine 31 = .ok (.iaload, 1) := by decide +kernel
theorem dX1_shine_32 : decode cX1_shine 32 = .ok (.iadd, 1) := by decide +kernel
theorem dX1_shine_33 : decode cX1_shine 33 = .ok (.goto 5, 3) := by decide +kernel
theorem dX1_shine_36 : decode cX1_shine 36 = .ok (.iload 4, 2) := by decide +kernel
theorem dX1_shine_38 : decode cX1_shine 38 = .ok (.invokestatic 86, 3) := by decide +kernel
theorem dX1_shine_41 : decode cX1_shine 41 = .ok (.ireturn, 1) := by decide +kernel
set_option maxRecDepth 20000 in
theorem ggX1_sumOver_X1_litTick : GoodIn wsX1_sumOver wsX1_litTick := goodIn_r _ [5, 6, 7, 8, 9, 4, 10, 11, 12, 13, 14, 15, 16, 17, 18, 19, 20, 21, 22, 23, 38, 39, 40, 41, 42] (by decide +kernel) (by decide +kernel)
set_option maxRecDepth 20000 in
theorem gX1_sumOver_X1_litTick : GoodIn wsX1_sumOver (wsV RX1 89 RX1 yX1_litTick wsX1_litTick) := goodIn_app (goodIn_of _ (by decide +kernel)) ggX1_sumOver_X1_litTick
set_option maxRecDepth 20000 in
theorem ggX1_sumOver_X1_shine : GoodIn wsX1_sumOver wsX1_shine := goodIn_r _ [27, 28, 6, 29, 18, 30, 31, 32, 22, 33, 38, 39, 40, 41, 42] (by decide +kernel) (by decide +kernel)
set_option maxRecDepth 20000 in
theorem gX1_sumOver_X1_shine : GoodIn wsX1_sumOver (wsV RX1 92 RX1 yX1_shine wsX1_shine) := goodIn_app (goodIn_of _ (by decide +kernel)) ggX1_sumOver_X1_shine
set_option maxRecDepth 20000 in
theorem ggX1_sumOver_X1_next : GoodIn wsX1_sumOver wsX1_next := goodIn_r _ [37, 6, 38, 39, 40, 41, 42] (by decide +kernel) (by decide +kernel)
set_option maxRecDepth 20000 in
theorem gX1_sumOver_X1_next : GoodIn wsX1_sumOver (wsV RX1 95 RX1 yX1_next wsX1_next) := goodIn_app (goodIn_of _ (by decide +kernel)) ggX1_sumOver_X1_next
theorem dX1_sumOver_0 : decode cX1_sumOver 0 = .ok (.aload_n 0, 1) := by decide +kernel
theorem dX1_sumOver_1 : decode cX1_sumOver 1 = .ok (.iload_n 1, 1) := by decide +kernel
theorem dX1_sumOver_2 : decode cX1_sumOver 2 = .ok (.invokevirtual 89, 3) := by decide +kernel
theorem dX1_sumOver_5 : decode cX1_sumOver 5 = .ok (.istore 4, 2) := by decide +kernel
theorem dX1_sumOver_7 : decode cX1_sumOver 7 = .ok (.iconst 0, 1) := by decide +kernel
theorem dX1_sumOver_8 : decode cX1_sumOver 8 = .ok (.istore 5, 2) := by decide +kernel
theorem dX1_sumOver_10 : decode cX1_sumOver 10 = .ok (.iload_n 2, 1) := by decide +kernel
theorem dX1_sumOver_11 : decode cX1_sumOver 11 = .ok (.istore 6, 2) := by decide +kernel
theorem dX1_sumOver_13 : decode cX1_sumOver 13 = .ok (.iconst 0, 1) := by decide +kernel
theorem dX1_sumOver_14 : decode cX1_sumOver 14 = .ok (.istore 7, 2) := by decide +kernel
theorem dX1_sumOver_16 : decode cX1_sumOver 16 = .ok (.iload 7, 2) := by decide +kernel
theorem dX1_sumOver_18 : decode cX1_sumOver 18 = .ok (.iload_n 3, 1) := by decide +kernel
theorem dX1_sumOver_19 : decode cX1_sumOver 19 = .ok (.if_icmp .ge 31, 3) := by decide +kernel
theorem dX1_sumOver_22 : decode cX1_sumOver 22 = .ok (.iload 5, 2) := by decide +kernel
theorem dX1_sumOver_24 : decode cX1_sumOver 24 = .ok (.aload_n 0, 1) := by decide +kernel
theorem dX1_sumOver_25 : decode cX1_sumOver 25 = .ok (.iload_n 1, 1) := by decide +kernel
theorem dX1_sumOver_26 : decode cX1_sumOver 26 = .ok (.iload 4, 2) := by decide +kernel
theorem dX1_sumOver_28 : decode cX1_sumOver 28 = .ok (.iload 6, 2) := by decide +kernel
theorem dX1_sumOver_30 : decode cX1_sumOver 30 = .ok (.invokevirtual 92, 3) := by decide +kernel
theorem dX1_sumOver_33 : decode cX1_sumOver 33 = .ok (.iadd, 1) := by decide +kernel
theorem dX1_sumOver_34 : decode cX1_sumOver 34 = .ok (.istore 5, 2) := by decide +kernel
theorem dX1_sumOver_36 : decode cX1_sumOver 36 = .ok (.aload_n 0, 1) := by decide +kernel
theorem dX1_sumOver_37 : decode cX1_sumOver 37 = .ok (.iload 6, 2) := by decide +kernel
theorem dX1_sumOver_39 : decode cX1_sumOver 39 = .ok (.invokevirtual 95, 3) := by decide +kernel
theorem dX1_sumOver_42 : decode cX1_sumOver 42 = .ok (.istore 6, 2) := by decide +kernel
theorem dX1_sumOver_44 : decode cX1_sumOver 44 = .ok (.iinc 7 1, 3) := by decide +kernel
theorem dX1_sumOver_47 : decode cX1_sumOver 47 = .ok (.goto (-31), 3) := by decide +kernel
theorem dX1_sumOver_50 : decode cX1_sumOver 50 = .ok (.iload 5, 2) := by decide +kernel
theorem dX1_sumOver_52 : decode cX1_sumOver 52 = .ok (.ireturn, 1) := by decide +kernel
theorem dX1_next_0 : decode cX1_next 0 = .ok (.iload_n 1, 1) := by decide +kernel
theorem dX1_next_1 : decode cX1_next 1 = .ok (.iconst 1, 1) := by decide +kernel
theorem dX1_next_2 : decode cX1_next 2 = .ok (.iadd, 1) := by decide +kernel
theorem dX1_next_3 : decode cX1_next 3 = .ok (.aload_n 0, 1) := by decide +kernel
theorem dX1_next_4 : decode cX1_next 4 = .ok (.getfield 22, 3) := by decide +kernel
theorem dX1_next_7 : decode cX1_next 7 = .ok (.iconst 0, 1) := by decide +kernel
theorem dX1_next_8 : decode cX1_next 8 = .ok (.iaload, 1) := by decide +kernel
theorem dX1_next_9 : decode cX1_next 9 = .ok (.if_icmp .ge 9, 3) := by decide +kernel
theorem dX1_next_12 : decode cX1_next 12 = .ok (.iload_n 1, 1) := by decide +kernel
theorem dX1_next_13 : decode cX1_next 13 = .ok (.iconst 1, 1) := by decide +kernel
theorem dX1_next_14 : decode cX1_next 14 = .ok (.iadd, 1) := by decide +kernel
theorem dX1_next_15 : decode cX1_next 15 = .ok (.goto 4, 3) := by decide +kernel
theorem dX1_next_18 : decode cX1_next 18 = .ok (.iconst 0, 1) := by decide +kernel
theorem dX1_next_19 : decode cX1_next 19 = .ok (.ireturn, 1) := by decide +kernel
theorem dX1_startInFrame_0 : decode cX1_startInFrame 0 = .ok (.aload_n 0, 1) := by decide +kernel
theorem dX1_startInFrame_1 : decode cX1_startInFrame 1 = .ok (.getfield 22, 3) := by decide +kernel
theorem dX1_startInFrame_4 : decode cX1_startInFrame 4 = .ok (.iconst 0, 1) := by decide +kernel
theorem dX1_startInFrame_5 : decode cX1_startInFrame 5 = .ok (.iaload, 1) := by decide +kernel
theorem dX1_startInFrame_6 : decode cX1_startInFrame 6 = .ok (.istore_n 1, 1) := by decide +kernel
theorem dX1_startInFrame_7 : decode cX1_startInFrame 7 = .ok (.iload_n 1, 1) := by decide +kernel
theorem dX1_startInFrame_8 : decode cX1_startInFrame 8 = .ok (.ifCond .le 14, 3) := by decide +kernel
theorem dX1_startInFrame_11 : decode cX1_startInFrame 11 = .ok (.aload_n 0, 1) := by decide +kernel
theorem dX1_startInFrame_12 : decode cX1_startInFrame 12 = .ok (.getfield 22, 3) := by decide +kernel
theorem dX1_startInFrame_15 : decode cX1_startInFrame 15 = .ok (.iconst 3, 1) := by decide +kernel
theorem dX1_startInFrame_16 : decode cX1_startInFrame 16 = .ok (.iaload, 1) := by decide +kernel
theorem dX1_startInFrame_17 : decode cX1_startInFrame 17 = .ok (.iload_n 1, 1) := by decide +kernel
theorem dX1_startInFrame_18 : decode cX1_startInFrame 18 = .ok (.irem, 1) := by decide +kernel
theorem dX1_startInFrame_19 : decode cX1_startInFrame 19 = .ok (.goto 4, 3) := by decide +kernel
theorem dX1_startInFrame_22 : decode cX1_startInFrame 22 = .ok (.iconst 0, 1) := by decide +kernel
theorem dX1_startInFrame_23 : decode cX1_startInFrame 23 = .ok (.ireturn, 1) := by decide +kernel
theorem dX1_mean_0 : decode cX1_mean 0 = .ok (.iload_n 1, 1) := by decide +kernel
theorem dX1_mean_1 : decode cX1_mean 1 = .ok (.ifCond .le 9, 3) := by decide +kernel
theorem dX1_mean_4 : decode cX1_mean 4 = .ok (.iload_n 0, 1) := by decide +kernel
theorem dX1_mean_5 : decode cX1_mean 5 = .ok (.iload_n 1, 1) := by decide +kernel
theorem dX1_mean_6 : decode cX1_mean 6 = .ok (.idiv, 1) := by decide +kernel
theorem dX1_mean_7 : decode cX1_mean 7 = .ok (.goto 4, 3) := by decide +kernel
theorem dX1_mean_10 : decode cX1_mean 10 = .ok (.iconst 0, 1) := by decide +kernel
theorem dX1_mean_11 : decode cX1_mean 11 = .ok (.ireturn, 1) := by decide +kernel
set_option maxRecDepth 20000 in
theorem ggX1_eyeMean_X1_sumOver : GoodIn wsX1_eyeMean wsX1_sumOver := goodIn_r _ [6, 7, 8, 9, 5, 10, 1, 11, 12, 13, 14, 15, 16, 17, 18, 19, 20, 21, 22, 23, 24, 25, 26, 27, 28, 29, 30, 31, 32, 33, 34, 35, 36, 37, 38, 39, 40, 41, 45, 46, 47, 48, 49] (by decide +kernel) (by decide +kernel)
set_option maxRecDepth 20000 in
theorem gX1_eyeMean_X1_sumOver : GoodIn wsX1_eyeMean (wsV RX1 98 RX1 yX1_sumOver wsX1_sumOver) := goodIn_app (goodIn_of _ (by decide +kernel)) ggX1_eyeMean_X1_sumOver
set_option maxRecDepth 20000 in
theorem ggX1_eyeMean_X1_mean : GoodIn wsX1_eyeMean wsX1_mean := goodIn_r _ [44] (by decide +kernel) (by decide +kernel)
set_option maxRecDepth 20000 in
theorem gX1_eyeMean_X1_mean : GoodIn wsX1_eyeMean (va_wsS RX1 101 yX1_mean wsX1_mean) := goodIn_app (goodIn_of _ (by decide +kernel)) ggX1_eyeMean_X1_mean
theorem dX1_eyeMean_0 : decode cX1_eyeMean 0 = .ok (.aload_n 0, 1) := by decide +kernel
theorem dX1_eyeMean_1 : decode cX1_eyeMean 1 = .ok (.iload_n 1, 1) := by decide +kernel
theorem dX1_eyeMean_2 : decode cX1_eyeMean 2 = .ok (.iconst 0, 1) := by decide +kernel
theorem dX1_eyeMean_3 : decode cX1_eyeMean 3 = .ok (.aload_n 0, 1) := by decide +kernel
theorem dX1_eyeMean_4 : decode cX1_eyeMean 4 = .ok (.getfield 22, 3) := by decide +kernel
theorem dX1_eyeMean_7 : decode cX1_eyeMean 7 = .ok (.iconst 0, 1) := by decide +kernel
theorem dX1_eyeMean_8 : decode cX1_eyeMean 8 = .ok (.iaload, 1) := by decide +kernel
theorem dX1_eyeMean_9 : decode cX1_eyeMean 9 = .ok (.invokevirtual 98, 3) := by decide +kernel
theorem dX1_eyeMean_12 : decode cX1_eyeMean 12 = .ok (.aload_n 0, 1) := by decide +kernel
theorem dX1_eyeMean_13 : decode cX1_eyeMean 13 = .ok (.getfield 22, 3) := by decide +kernel
theorem dX1_eyeMean_16 : decode cX1_eyeMean 16 = .ok (.iconst 0, 1) := by decide +kernel
theorem dX1_eyeMean_17 : decode cX1_eyeMean 17 = .ok (.iaload, 1) := by decide +kernel
theorem dX1_eyeMean_18 : decode cX1_eyeMean 18 = .ok (.invokestatic 101, 3) := by decide +kernel
theorem dX1_eyeMean_21 : decode cX1_eyeMean 21 = .ok (.ireturn, 1) := by decide +kernel
set_option maxRecDepth 20000 in
theorem ggX1_shutterMean_X1_startInFrame : GoodIn wsX1_shutterMean wsX1_startInFrame := goodIn_r _ [5, 6, 49, 50, 51, 52, 53] (by decide +kernel) (by decide +kernel)
set_option maxRecDepth 20000 in
theorem gX1_shutterMean_X1_startInFrame : GoodIn wsX1_shutterMean (wsV RX1 104 RX1 yX1_startInFrame wsX1_startInFrame) := goodIn_app (goodIn_of _ (by decide +kernel)) ggX1_shutterMean_X1_startInFrame
set_option maxRecDepth 20000 in
theorem ggX1_shutterMean_X1_sumOver : GoodIn wsX1_shutterMean wsX1_sumOver := goodIn_r _ [10, 11, 12, 13, 4, 14, 6, 15, 16, 17, 18, 19, 20, 21, 22, 23, 24, 25, 26, 27, 28, 29, 30, 31, 32, 33, 34, 35, 36, 37, 38, 39, 40, 41, 42, 43, 44, 45, 49, 50, 51, 52, 53] (by decide +kernel) (by decide +kernel)
set_option maxRecDepth 20000 in
theorem gX1_shutterMean_X1_sumOver : GoodIn wsX1_shutterMean (wsV RX1 98 RX1 yX1_sumOver wsX1_sumOver) := goodIn_app (goodIn_of _ (by decide +kernel)) ggX1_shutterMean_X1_sumOver
set_option maxRecDepth 20000 in
theorem ggX1_shutterMean_X1_mean : GoodIn wsX1_shutterMean wsX1_mean := goodIn_r _ [48] (by decide +kernel) (by decide +kernel)
set_option maxRecDepth 20000 in
theorem gX1_shutterMean_X1_mean : GoodIn wsX1_shutterMean (va_wsS RX1 101 yX1_mean wsX1_mean) := goodIn_app (goodIn_of _ (by decide +kernel)) ggX1_shutterMean_X1_mean
theorem dX1_shutterMean_0 : decode cX1_shutterMean 0 = .ok (.aload_n 0, 1) := by decide +kernel
theorem dX1_shutterMean_1 : decode cX1_shutterMean 1 = .ok (.iload_n 1, 1) := by decide +kernel
theorem dX1_shutterMean_2 : decode cX1_shutterMean 2 = .ok (.aload_n 0, 1) := by decide +kernel
theorem dX1_shutterMean_3 : decode cX1_shutterMean 3 = .ok (.invokevirtual 104, 3) := by decide +kernel
theorem dX1_shutterMean_6 : decode cX1_shutterMean 6 = .ok (.iload_n 2, 1) := by decide +kernel
theorem dX1_shutterMean_7 : decode cX1_shutterMean 7 = .ok (.invokevirtual 98, 3) := by decide +kernel
theorem dX1_shutterMean_10 : decode cX1_shutterMean 10 = .ok (.iload_n 2, 1) := by decide +kernel
theorem dX1_shutterMean_11 : decode cX1_shutterMean 11 = .ok (.invokestatic 101, 3) := by decide +kernel
theorem dX1_shutterMean_14 : decode cX1_shutterMean 14 = .ok (.ireturn, 1) := by decide +kernel
set_option maxRecDepth 20000 in
theorem ggX1_flicker_X1_litTick : GoodIn wsX1_flicker wsX1_litTick := goodIn_r _ [13, 1, 14, 15, 16, 12, 17, 18, 19, 20, 21, 22, 23, 24, 25, 26, 27, 28, 4, 29, 38, 39, 40, 41, 42] (by decide +kernel) (by decide +kernel)
set_option maxRecDepth 20000 in
theorem gX1_flicker_X1_litTick : GoodIn wsX1_flicker (wsV RX1 89 RX1 yX1_litTick wsX1_litTick) := goodIn_app (goodIn_of _ (by decide +kernel)) ggX1_flicker_X1_litTick
set_option maxRecDepth 20000 in
theorem ggX1_flicker_X1_shine : GoodIn wsX1_flicker wsX1_shine := goodIn_r _ [33, 34, 1, 35, 25, 36, 37, 3, 4, 5, 38, 39, 40, 41, 42] (by decide +kernel) (by decide +kernel)
set_option maxRecDepth 20000 in
theorem gX1_flicker_X1_shine : GoodIn wsX1_flicker (wsV RX1 92 RX1 yX1_shine wsX1_shine) := goodIn_app (goodIn_of _ (by decide +kernel)) ggX1_flicker_X1_shine
theorem dX1_flicker_0 : decode cX1_flicker 0 = .ok (.aload_n 0, 1) := by decide +kernel
theorem dX1_flicker_1 : decode cX1_flicker 1 = .ok (.iload_n 1, 1) := by decide +kernel
theorem dX1_flicker_2 : decode cX1_flicker 2 = .ok (.invokevirtual 89, 3) := by decide +kernel
theorem dX1_flicker_5 : decode cX1_flicker 5 = .ok (.istore_n 2, 1) := by decide +kernel
theorem dX1_flicker_6 : decode cX1_flicker 6 = .ok (.aload_n 0, 1) := by decide +kernel
theorem dX1_flicker_7 : decode cX1_flicker 7 = .ok (.iload_n 1, 1) := by decide +kernel
theorem dX1_flicker_8 : decode cX1_flicker 8 = .ok (.iload_n 2, 1) := by decide +kernel
theorem dX1_flicker_9 : decode cX1_flicker 9 = .ok (.iconst 0, 1) := by decide +kernel
theorem dX1_flicker_10 : decode cX1_flicker 10 = .ok (.invokevirtual 92, 3) := by decide +kernel
theorem dX1_flicker_13 : decode cX1_flicker 13 = .ok (.istore_n 3, 1) := by decide +kernel
theorem dX1_flicker_14 : decode cX1_flicker 14 = .ok (.iload_n 3, 1) := by decide +kernel
theorem dX1_flicker_15 : decode cX1_flicker 15 = .ok (.istore 4, 2) := by decide +kernel
theorem dX1_flicker_17 : decode cX1_flicker 17 = .ok (.iconst 1, 1) := by decide +kernel
theorem dX1_flicker_18 : decode cX1_flicker 18 = .ok (.istore 5, 2) := by decide +kernel
theorem dX1_flicker_20 : decode cX1_flicker 20 = .ok (.iload 5, 2) := by decide +kernel
theorem dX1_flicker_22 : decode cX1_flicker 22 = .ok (.aload_n 0, 1) := by decide +kernel
theorem dX1_flicker_23 : decode cX1_flicker 23 = .ok (.getfield 22, 3) := by decide +kernel
theorem dX1_flicker_26 : decode cX1_flicker 26 = .ok (.iconst 0, 1) := by decide +kernel
theorem dX1_flicker_27 : decode cX1_flicker 27 = .ok (.iaload, 1) := by decide +kernel
theorem dX1_flicker_28 : decode cX1_flicker 28 = .ok (.if_icmp .ge 35, 3) := by decide +kernel
theorem dX1_flicker_31 : decode cX1_flicker 31 = .ok (.aload_n 0, 1) := by decide +kernel
theorem dX1_flicker_32 : decode cX1_flicker 32 = .ok (.iload_n 1, 1) := by decide +kernel
theorem dX1_flicker_33 : decode cX1_flicker 33 = .ok (.iload_n 2, 1) := by decide +kernel
theorem dX1_flicker_34 : decode cX1_flicker 34 = .ok (.iload 5, 2) := by decide +kernel
theorem dX1_flicker_36 : decode cX1_flicker 36 = .ok (.invokevirtual 92, 3) := by decide +kernel
theorem dX1_flicker_39 : decode cX1_flicker 39 = .ok (.istore 6, 2) := by decide +kernel
theorem dX1_flicker_41 : decode cX1_flicker 41 = .ok (.iload_n 3, 1) := by decide +kernel
theorem dX1_flicker_42 : decode cX1_flicker 42 = .ok (.iload 6, 2) := by decide +kernel
theorem dX1_flicker_44 : decode cX1_flicker 44 = .ok (.invokestatic 107, 3) := by decide +kernel
theorem dX1_flicker_47 : decode cX1_flicker 47 = .ok (.istore_n 3, 1) := by decide +kernel
theorem dX1_flicker_48 : decode cX1_flicker 48 = .ok (.iload 4, 2) := by decide +kernel
theorem dX1_flicker_50 : decode cX1_flicker 50 = .ok (.iload 6, 2) := by decide +kernel
theorem dX1_flicker_52 : decode cX1_flicker 52 = .ok (.invokestatic 112, 3) := by decide +kernel
theorem dX1_flicker_55 : decode cX1_flicker 55 = .ok (.istore 4, 2) := by decide +kernel
theorem dX1_flicker_57 : decode cX1_flicker 57 = .ok (.iinc 5 1, 3) := by decide +kernel
theorem dX1_flicker_60 : decode cX1_flicker 60 = .ok (.goto (-40), 3) := by decide +kernel
theorem dX1_flicker_63 : decode cX1_flicker 63 = .ok (.iload_n 3, 1) := by decide +kernel
theorem dX1_flicker_64 : decode cX1_flicker 64 = .ok (.iload 4, 2) := by decide +kernel
theorem dX1_flicker_66 : decode cX1_flicker 66 = .ok (.isub, 1) := by decide +kernel
theorem dX1_flicker_67 : decode cX1_flicker 67 = .ok (.ireturn, 1) := by decide +kernel
set_option maxRecDepth 20000 in
theorem ggX1_seenByEye_X1_seen : GoodIn wsX1_seenByEye wsX1_seen := goodIn_r _ [6, 7, 8, 9, 10, 11, 5, 12, 13, 14, 15, 16, 1, 17, 18, 19, 20, 21, 22, 23, 24, 25, 26, 27, 28, 29, 30, 31, 32, 33, 34, 35, 36, 37, 38, 39, 40, 41, 42, 43, 44, 45, 46, 47, 48, 49, 50, 51, 52, 53] (by decide +kernel) (by decide +kernel)
set_option maxRecDepth 20000 in
theorem gX1_seenByEye_X1_seen : GoodIn wsX1_seenByEye (wsV RX1 115 RX1 yX1_seen wsX1_seen) := goodIn_app (goodIn_of _ (by decide +kernel)) ggX1_seenByEye_X1_seen
theorem dX1_seenByEye_0 : decode cX1_seenByEye 0 = .ok (.aload_n 0, 1) := by decide +kernel
theorem dX1_seenByEye_1 : decode cX1_seenByEye 1 = .ok (.iconst 0, 1) := by decide +kernel
theorem dX1_seenByEye_2 : decode cX1_seenByEye 2 = .ok (.aload_n 0, 1) := by decide +kernel
theorem dX1_seenByEye_3 : decode cX1_seenByEye 3 = .ok (.getfield 22, 3) := by decide +kernel
theorem dX1_seenByEye_6 : decode cX1_seenByEye 6 = .ok (.iconst 0, 1) := by decide +kernel
theorem dX1_seenByEye_7 : decode cX1_seenByEye 7 = .ok (.iaload, 1) := by decide +kernel
theorem dX1_seenByEye_8 : decode cX1_seenByEye 8 = .ok (.aload_n 0, 1) := by decide +kernel
theorem dX1_seenByEye_9 : decode cX1_seenByEye 9 = .ok (.getfield 22, 3) := by decide +kernel
theorem dX1_seenByEye_12 : decode cX1_seenByEye 12 = .ok (.iconst 2, 1) := by decide +kernel
theorem dX1_seenByEye_13 : decode cX1_seenByEye 13 = .ok (.iaload, 1) := by decide +kernel
theorem dX1_seenByEye_14 : decode cX1_seenByEye 14 = .ok (.invokevirtual 115, 3) := by decide +kernel
theorem dX1_seenByEye_17 : decode cX1_seenByEye 17 = .ok (.lreturn, 1) := by decide +kernel
set_option maxRecDepth 20000 in
theorem ggX1_seenByShutter_X1_startInFrame : GoodIn wsX1_seenByShutter wsX1_startInFrame := goodIn_r _ [6, 1, 53, 54, 55, 56, 57] (by decide +kernel) (by decide +kernel)
set_option maxRecDepth 20000 in
theorem gX1_seenByShutter_X1_startInFrame : GoodIn wsX1_seenByShutter (wsV RX1 104 RX1 yX1_startInFrame wsX1_startInFrame) := goodIn_app (goodIn_of _ (by decide +kernel)) ggX1_seenByShutter_X1_startInFrame
set_option maxRecDepth 20000 in
theorem ggX1_seenByShutter_X1_seen : GoodIn wsX1_seenByShutter wsX1_seen := goodIn_r _ [10, 11, 12, 13, 14, 15, 5, 16, 17, 18, 19, 20, 1, 21, 22, 23, 24, 25, 26, 27, 28, 29, 30, 31, 32, 33, 34, 35, 36, 37, 38, 39, 40, 41, 42, 43, 44, 45, 46, 47, 48, 49, 50, 51, 52, 53, 54, 55, 56, 57] (by decide +kernel) (by decide +kernel)
set_option maxRecDepth 20000 in
theorem gX1_seenByShutter_X1_seen : GoodIn wsX1_seenByShutter (wsV RX1 115 RX1 yX1_seen wsX1_seen) := goodIn_app (goodIn_of _ (by decide +kernel)) ggX1_seenByShutter_X1_seen
theorem dX1_seenByShutter_0 : decode cX1_seenByShutter 0 = .ok (.aload_n 0, 1) := by decide +kernel
theorem dX1_seenByShutter_1 : decode cX1_seenByShutter 1 = .ok (.aload_n 0, 1) := by decide +kernel
theorem dX1_seenByShutter_2 : decode cX1_seenByShutter 2 = .ok (.invokevirtual 104, 3) := by decide +kernel
theorem dX1_seenByShutter_5 : decode cX1_seenByShutter 5 = .ok (.iload_n 1, 1) := by decide +kernel
theorem dX1_seenByShutter_6 : decode cX1_seenByShutter 6 = .ok (.aload_n 0, 1) := by decide +kernel
theorem dX1_seenByShutter_7 : decode cX1_seenByShutter 7 = .ok (.getfield 22, 3) := by decide +kernel
theorem dX1_seenByShutter_10 : decode cX1_seenByShutter 10 = .ok (.iconst 5, 1) := by decide +kernel
theorem dX1_seenByShutter_11 : decode cX1_seenByShutter 11 = .ok (.iaload, 1) := by decide +kernel
theorem dX1_seenByShutter_12 : decode cX1_seenByShutter 12 = .ok (.invokevirtual 115, 3) := by decide +kernel
theorem dX1_seenByShutter_15 : decode cX1_seenByShutter 15 = .ok (.lreturn, 1) := by decide +kernel
set_option maxRecDepth 20000 in
theorem ggX1_seen_X1_sumOver : GoodIn wsX1_seen wsX1_sumOver := goodIn_r _ [7, 8, 9, 10, 6, 11, 12, 13, 14, 15, 16, 1, 2, 17, 18, 19, 20, 21, 22, 23, 24, 25, 26, 27, 28, 29, 30, 31, 32, 33, 34, 35, 36, 37, 38, 39, 40, 41, 45, 46, 47, 48, 49] (by decide +kernel) (by decide +kernel)
set_option maxRecDepth 20000 in
theorem gX1_seen_X1_sumOver : GoodIn wsX1_seen (wsV RX1 98 RX1 yX1_sumOver wsX1_sumOver) := goodIn_app (goodIn_of _ (by decide +kernel)) ggX1_seen_X1_sumOver
set_option maxRecDepth 20000 in
theorem ggX1_seen_X1_mean : GoodIn wsX1_seen wsX1_mean := goodIn_r _ [44] (by decide +kernel) (by decide +kernel)
set_option maxRecDepth 20000 in
theorem gX1_seen_X1_mean : GoodIn wsX1_seen (va_wsS RX1 101 yX1_mean wsX1_mean) := goodIn_app (goodIn_of _ (by decide +kernel)) ggX1_seen_X1_mean
theorem dX1_seen_0 : decode cX1_seen 0 = .ok (.lconst 0, 1) := by decide +kernel
theorem dX1_seen_1 : decode cX1_seen 1 = .ok (.lstore 4, 2) := by decide +kernel
theorem dX1_seen_3 : decode cX1_seen 3 = .ok (.iconst 0, 1) := by decide +kernel
theorem dX1_seen_4 : decode cX1_seen 4 = .ok (.istore 6, 2) := by decide +kernel
theorem dX1_seen_6 : decode cX1_seen 6 = .ok (.iload 6, 2) := by decide +kernel
theorem dX1_seen_8 : decode cX1_seen 8 = .ok (.aload_n 0, 1) := by decide +kernel
theorem dX1_seen_9 : decode cX1_seen 9 = .ok (.getfield 31, 3) := by decide +kernel
theorem dX1_seen_12 : decode cX1_seen 12 = .ok (.if_icmp .ge 44, 3) := by decide +kernel
theorem dX1_seen_15 : decode cX1_seen 15 = .ok (.aload_n 0, 1) := by decide +kernel
theorem dX1_seen_16 : decode cX1_seen 16 = .ok (.aload_n 0, 1) := by decide +kernel
theorem dX1_seen_17 : decode cX1_seen 17 = .ok (.getfield 15, 3) := by decide +kernel
theorem dX1_seen_20 : decode cX1_seen 20 = .ok (.iload 6, 2) := by decide +kernel
theorem dX1_seen_22 : decode cX1_seen 22 = .ok (.iaload, 1) := by decide +kernel
theorem dX1_seen_23 : decode cX1_seen 23 = .ok (.iload_n 1, 1) := by decide +kernel
theorem dX1_seen_24 : decode cX1_seen 24 = .ok (.iload_n 2, 1) := by decide +kernel
theorem dX1_seen_25 : decode cX1_seen 25 = .ok (.invokevirtual 98, 3) := by decide +kernel
theorem dX1_seen_28 : decode cX1_seen 28 = .ok (.iload_n 2, 1) := by decide +kernel
theorem dX1_seen_29 : decode cX1_seen 29 = .ok (.invokestatic 101, 3) := by decide +kernel
theorem dX1_seen_32 : decode cX1_seen 32 = .ok (.iload_n 3, 1) := by decide +kernel
theorem dX1_seen_33 : decode cX1_seen 33 = .ok (.if_icmp .lt 17, 3) := by decide +kernel
theorem dX1_seen_36 : decode cX1_seen 36 = .ok (.lload 4, 2) := by decide +kernel
theorem dX1_seen_38 : decode cX1_seen 38 = .ok (.lconst 1, 1) := by decide +kernel
theorem dX1_seen_39 : decode cX1_seen 39 = .ok (.aload_n 0, 1) := by decide +kernel
theorem dX1_seen_40 : decode cX1_seen 40 = .ok (.getfield 15, 3) := by decide +kernel
theorem dX1_seen_43 : decode cX1_seen 43 = .ok (.iload 6, 2) := by decide +kernel
theorem dX1_seen_45 : decode cX1_seen 45 = .ok (.iaload, 1) := by decide +kernel
theorem dX1_seen_46 : decode cX1_seen 46 = .ok (.lshl, 1) := by decide +kernel
theorem dX1_seen_47 : decode cX1_seen 47 = .ok (.lor, 1) := by decide +kernel
theorem dX1_seen_48 : decode cX1_seen 48 = .ok (.lstore 4, 2) := by decide +kernel
theorem dX1_seen_50 : decode cX1_seen 50 = .ok (.iinc 6 1, 3) := by decide +kernel
theorem dX1_seen_53 : decode cX1_seen 53 = .ok (.goto (-47), 3) := by decide +kernel
theorem dX1_seen_56 : decode cX1_seen 56 = .ok (.lload 4, 2) := by decide +kernel
theorem dX1_seen_58 : decode cX1_seen 58 = .ok (.lreturn, 1) := by decide +kernel
theorem dX1_wrong_0 : decode cX1_wrong 0 = .ok (.aload_n 0, 1) := by decide +kernel
theorem dX1_wrong_1 : decode cX1_wrong 1 = .ok (.getfield 18, 3) := by decide +kernel
theorem dX1_wrong_4 : decode cX1_wrong 4 = .ok (.iload_n 1, 1) := by decide +kernel
theorem dX1_wrong_5 : decode cX1_wrong 5 = .ok (.laload, 1) := by decide +kernel
theorem dX1_wrong_6 : decode cX1_wrong 6 = .ok (.lload_n 2, 1) := by decide +kernel
theorem dX1_wrong_7 : decode cX1_wrong 7 = .ok (.lxor, 1) := by decide +kernel
theorem dX1_wrong_8 : decode cX1_wrong 8 = .ok (.lreturn, 1) := by decide +kernel
set_option maxRecDepth 20000 in
theorem ggX1_countWrong_J13_bitCount_95d88 : GoodIn wsX1_countWrong wsJ13_bitCount_95d88 := goodIn_r _ [7, 8, 9, 10] (by decide +kernel) (by decide +kernel)
set_option maxRecDepth 20000 in
theorem gX1_countWrong_J13_bitCount_95d88 : GoodIn wsX1_countWrong (va_wsS RX1 77 yJ13_bitCount_95d88 wsJ13_bitCount_95d88) := goodIn_app (goodIn_of _ (by decide +kernel)) ggX1_countWrong_J13_bitCount_95d88
set_option maxRecDepth 20000 in
theorem ggX1_countWrong_J7_fill_53178 : GoodIn wsX1_countWrong wsJ7_fill_53178 := goodIn_r _ [14] (by decide +kernel) (by decide +kernel)
set_option maxRecDepth 20000 in
theorem gX1_countWrong_J7_fill_53178 : GoodIn wsX1_countWrong (va_wsS RX1 119 yJ7_fill_53178 wsJ7_fill_53178) := goodIn_app (goodIn_of _ (by decide +kernel)) ggX1_countWrong_J7_fill_53178
set_option maxRecDepth 20000 in
theorem ggX1_countWrong_X1_countSeen : GoodIn wsX1_countWrong wsX1_countSeen := goodIn_r _ [19, 1, 20, 21, 22, 23, 24, 25, 26, 18, 27, 28, 29, 30, 31, 2, 3, 32, 33, 34, 35, 36, 37, 38, 39, 40, 41, 42, 43, 44, 45, 46, 47, 48, 49, 50, 51, 52, 53, 54, 55, 56, 57, 58, 59, 60, 61, 62, 63, 64, 65, 66, 67] (by decide +kernel) (by decide +kernel)
set_option maxRecDepth 20000 in
theorem gX1_countWrong_X1_countSeen : GoodIn wsX1_countWrong (wsV RX1 125 RX1 yX1_countSeen wsX1_countSeen) := goodIn_app (goodIn_of _ (by decide +kernel)) ggX1_countWrong_X1_countSeen
theorem dX1_countWrong_0 : decode cX1_countWrong 0 = .ok (.aload_n 1, 1) := by decide +kernel
theorem dX1_countWrong_1 : decode cX1_countWrong 1 = .ok (.aload_n 0, 1) := by decide +kernel
theorem dX1_countWrong_2 : decode cX1_countWrong 2 = .ok (.getfield 18, 3) := by decide +kernel
theorem dX1_countWrong_5 : decode cX1_countWrong 5 = .ok (.iconst 1, 1) := by decide +kernel
theorem dX1_countWrong_6 : decode cX1_countWrong 6 = .ok (.laload, 1) := by decide +kernel
theorem dX1_countWrong_7 : decode cX1_countWrong 7 = .ok (.invokestatic 77, 3) := by decide +kernel
theorem dX1_countWrong_10 : decode cX1_countWrong 10 = .ok (.invokestatic 119, 3) := by decide +kernel
theorem dX1_countWrong_13 : decode cX1_countWrong 13 = .ok (.iconst 0, 1) := by decide +kernel
theorem dX1_countWrong_14 : decode cX1_countWrong 14 = .ok (.istore_n 2, 1) := by decide +kernel
theorem dX1_countWrong_15 : decode cX1_countWrong 15 = .ok (.iload_n 2, 1) := by decide +kernel
theorem dX1_countWrong_16 : decode cX1_countWrong 16 = .ok (.aload_n 0, 1) := by decide +kernel
theorem dX1_countWrong_17 : decode cX1_countWrong 17 = .ok (.getfield 31, 3) := by decide +kernel
theorem dX1_countWrong_20 : decode cX1_countWrong 20 = .ok (.if_icmp .ge 20, 3) := by decide +kernel
theorem dX1_countWrong_23 : decode cX1_countWrong 23 = .ok (.aload_n 0, 1) := by decide +kernel
theorem dX1_countWrong_24 : decode cX1_countWrong 24 = .ok (.aload_n 0, 1) := by decide +kernel
theorem dX1_countWrong_25 : decode cX1_countWrong 25 = .ok (.getfield 15, 3) := by decide +kernel
theorem dX1_countWrong_28 : decode cX1_countWrong 28 = .ok (.iload_n 2, 1) := by decide +kernel
theorem dX1_countWrong_29 : decode cX1_countWrong 29 = .ok (.iaload, 1) := by decide +kernel
theorem dX1_countWrong_30 : decode cX1_countWrong 30 = .ok (.aload_n 1, 1) := by decide +kernel
theorem dX1_countWrong_31 : decode cX1_countWrong 31 = .ok (.invokevirtual 125, 3) := by decide +kernel
theorem dX1_countWrong_34 : decode cX1_countWrong 34 = .ok (.iinc 2 1, 3) := by decide +kernel
theorem dX1_countWrong_37 : decode cX1_countWrong 37 = .ok (.goto (-22), 3) := by decide +kernel
theorem dX1_countWrong_40 : decode cX1_countWrong 40 = .ok (.return_, 1) := by decide +kernel
set_option maxRecDepth 20000 in
theorem ggX1_countSeen_X4_bit : GoodIn wsX1_countSeen wsX4_bit := goodIn_r _ [5] (by decide +kernel) (by decide +kernel)
set_option maxRecDepth 20000 in
theorem gX1_countSeen_X4_bit_n64 : GoodIn wsX1_countSeen (wsX4_bit) := ggX1_countSeen_X4_bit
set_option maxRecDepth 20000 in
theorem ggX1_countSeen_X1_litTick : GoodIn wsX1_countSeen wsX1_litTick := goodIn_r _ [10, 2, 11, 12, 13, 9, 14, 15, 16, 17, 18, 19, 20, 21, 4, 22, 23, 24, 25, 26, 48, 49, 50, 51, 52] (by decide +kernel) (by decide +kernel)
set_option maxRecDepth 20000 in
theorem gX1_countSeen_X1_litTick : GoodIn wsX1_countSeen (wsV RX1 89 RX1 yX1_litTick wsX1_litTick) := goodIn_app (goodIn_of _ (by decide +kernel)) ggX1_countSeen_X1_litTick
set_option maxRecDepth 20000 in
theorem ggX1_countSeen_X1_sumOver : GoodIn wsX1_countSeen wsX1_sumOver := goodIn_r _ [30, 6, 7, 8, 9, 10, 2, 11, 12, 13, 14, 15, 16, 17, 18, 19, 20, 21, 4, 22, 23, 24, 25, 26, 31, 32, 33, 34, 35, 36, 37, 38, 39, 40, 41, 42, 43, 44, 48, 49, 50, 51, 52] (by decide +kernel) (by decide +kernel)
set_option maxRecDepth 20000 in
theorem gX1_countSeen_X1_sumOver : GoodIn wsX1_countSeen (wsV RX1 98 RX1 yX1_sumOver wsX1_sumOver) := goodIn_app (goodIn_of _ (by decide +kernel)) ggX1_countSeen_X1_sumOver
set_option maxRecDepth 20000 in
theorem ggX1_countSeen_X1_next : GoodIn wsX1_countSeen wsX1_next := goodIn_r _ [44, 2, 48, 49, 50, 51, 52] (by decide +kernel) (by decide +kernel)
set_option maxRecDepth 20000 in
theorem gX1_countSeen_X1_next : GoodIn wsX1_countSeen (wsV RX1 95 RX1 yX1_next wsX1_next) := goodIn_app (goodIn_of _ (by decide +kernel)) ggX1_countSeen_X1_next
set_option maxRecDepth 20000 in
theorem ggX1_countSeen_X1_mean : GoodIn wsX1_countSeen wsX1_mean := goodIn_r _ [47] (by decide +kernel) (by decide +kernel)
set_option maxRecDepth 20000 in
theorem gX1_countSeen_X1_mean : GoodIn wsX1_countSeen (va_wsS RX1 101 yX1_mean wsX1_mean) := goodIn_app (goodIn_of _ (by decide +kernel)) ggX1_countSeen_X1_mean
set_option maxRecDepth 20000 in
theorem ggX1_countSeen_X1_shine : GoodIn wsX1_countSeen wsX1_shine := goodIn_r _ [34, 35, 2, 36, 4, 37, 38, 39, 25, 40, 48, 49, 50, 51, 52] (by decide +kernel) (by decide +kernel)
set_option maxRecDepth 20000 in
theorem gX1_countSeen_X1_shine : GoodIn wsX1_countSeen (wsV RX1 92 RX1 yX1_shine wsX1_shine) := goodIn_app (goodIn_of _ (by decide +kernel)) ggX1_countSeen_X1_shine
theorem dX1_countSeen_0 : decode cX1_countSeen 0 = .ok (.aload_n 0, 1) := by decide +kernel
theorem dX1_countSeen_1 : decode cX1_countSeen 1 = .ok (.getfield 18, 3) := by decide +kernel
theorem dX1_countSeen_4 : decode cX1_countSeen 4 = .ok (.iconst 1, 1) := by decide +kernel
theorem dX1_countSeen_5 : decode cX1_countSeen 5 = .ok (.laload, 1) := by decide +kernel
theorem dX1_countSeen_6 : decode cX1_countSeen 6 = .ok (.iload_n 1, 1) := by decide +kernel
theorem dX1_countSeen_7 : decode cX1_countSeen 7 = .ok (.invokestatic 64, 3) := by decide +kernel
theorem dX1_countSeen_10 : decode cX1_countSeen 10 = .ok (.iconst 1, 1) := by decide +kernel
theorem dX1_countSeen_11 : decode cX1_countSeen 11 = .ok (.if_icmp .ne 7, 3) := by decide +kernel
theorem dX1_countSeen_14 : decode cX1_countSeen 14 = .ok (.iconst (-1), 1) := by decide +kernel
theorem dX1_countSeen_15 : decode cX1_countSeen 15 = .ok (.goto 4, 3) := by decide +kernel
theorem dX1_countSeen_18 : decode cX1_countSeen 18 = .ok (.iconst 1, 1) := by decide +kernel
theorem dX1_countSeen_19 : decode cX1_countSeen 19 = .ok (.istore_n 3, 1) := by decide +kernel
theorem dX1_countSeen_20 : decode cX1_countSeen 20 = .ok (.aload_n 0, 1) := by decide +kernel
theorem dX1_countSeen_21 : decode cX1_countSeen 21 = .ok (.getfield 22, 3) := by decide +kernel
theorem dX1_countSeen_24 : decode cX1_countSeen 24 = .ok (.iconst 4, 1) := by decide +kernel
theorem dX1_countSeen_25 : decode cX1_countSeen 25 = .ok (.iaload, 1) := by decide +kernel
theorem dX1_countSeen_26 : decode cX1_countSeen 26 = .ok (.istore 4, 2) := by decide +kernel
theorem dX1_countSeen_28 : decode cX1_countSeen 28 = .ok (.aload_n 0, 1) := by decide +kernel
theorem dX1_countSeen_29 : decode cX1_countSeen 29 = .ok (.iload_n 1, 1) := by decide +kernel
theorem dX1_countSeen_30 : decode cX1_countSeen 30 = .ok (.invokevirtual 89, 3) := by decide +kernel
theorem dX1_countSeen_33 : decode cX1_countSeen 33 = .ok (.istore 5, 2) := by decide +kernel
theorem dX1_countSeen_35 : decode cX1_countSeen 35 = .ok (.aload_n 0, 1) := by decide +kernel
theorem dX1_countSeen_36 : decode cX1_countSeen 36 = .ok (.iload_n 1, 1) := by decide +kernel
theorem dX1_countSeen_37 : decode cX1_countSeen 37 = .ok (.iconst 0, 1) := by decide +kernel
theorem dX1_countSeen_38 : decode cX1_countSeen 38 = .ok (.iload 4, 2) := by decide +kernel
theorem dX1_countSeen_40 : decode cX1_countSeen 40 = .ok (.invokevirtual 98, 3) := by decide +kernel
theorem dX1_countSeen_43 : decode cX1_countSeen 43 = .ok (.istore 6, 2) := by decide +kernel
theorem dX1_countSeen_45 : decode cX1_countSeen 45 = .ok (.iconst 0, 1) := by decide +kernel
theorem dX1_countSeen_46 : decode cX1_countSeen 46 = .ok (.istore 7, 2) := by decide +kernel
theorem dX1_countSeen_48 : decode cX1_countSeen 48 = .ok (.iconst 0, 1) := by decide +kernel
theorem dX1_countSeen_49 : decode cX1_countSeen 49 = .ok (.istore 8, 2) := by decide +kernel
theorem dX1_countSeen_51 : decode cX1_countSeen 51 = .ok (.iload 8, 2) := by decide +kernel
theorem dX1_countSeen_53 : decode cX1_countSeen 53 = .ok (.iload 4, 2) := by decide +kernel
theorem dX1_countSeen_55 : decode cX1_countSeen 55 = .ok (.if_icmp .ge 17, 3) := by decide +kernel
theorem dX1_countSeen_58 : decode cX1_countSeen 58 = .ok (.aload_n 0, 1) := by decide +kernel
theorem dX1_countSeen_59 : decode cX1_countSeen 59 = .ok (.iload 7, 2) := by decide +kernel
theorem dX1_countSeen_61 : decode cX1_countSeen 61 = .ok (.invokevirtual 95, 3) := by decide +kernel
theorem dX1_countSeen_64 : decode cX1_countSeen 64 = .ok (.istore 7, 2) := by decide +kernel
theorem dX1_countSeen_66 : decode cX1_countSeen 66 = .ok (.iinc 8 1, 3) := by decide +kernel
theorem dX1_countSeen_69 : decode cX1_countSeen 69 = .ok (.goto (-18), 3) := by decide +kernel
theorem dX1_countSeen_72 : decode cX1_countSeen 72 = .ok (.iconst 0, 1) := by decide +kernel
theorem dX1_countSeen_73 : decode cX1_countSeen 73 = .ok (.istore 8, 2) := by decide +kernel
theorem dX1_countSeen_75 : decode cX1_countSeen 75 = .ok (.iload 8, 2) := by decide +kernel
theorem dX1_countSeen_77 : decode cX1_countSeen 77 = .ok (.aload_n 0, 1) := by decide +kernel
theorem dX1_countSeen_78 : decode cX1_countSeen 78 = .ok (.getfield 22, 3) := by decide +kernel
theorem dX1_countSeen_81 : decode cX1_countSeen 81 = .ok (.iconst 0, 1) := by decide +kernel
theorem dX1_countSeen_82 : decode cX1_countSeen 82 = .ok (.iaload, 1) := by decide +kernel
theorem dX1_countSeen_83 : decode cX1_countSeen 83 = .ok (.if_icmp .ge 72, 3) := by decide +kernel
theorem dX1_countSeen_86 : decode cX1_countSeen 86 = .ok (.iload 8, 2) := by decide +kernel
theorem dX1_countSeen_88 : decode cX1_countSeen 88 = .ok (.aload_n 2, 1) := by decide +kernel
theorem dX1_countSeen_89 : decode cX1_countSeen 89 = .ok (.arraylength, 1) := by decide +kernel
theorem dX1_countSeen_90 : decode cX1_countSeen 90 = .ok (.if_icmp .ge 65, 3) := by decide +kernel
theorem dX1_countSeen_93 : decode cX1_countSeen 93 = .ok (.iload 6, 2) := by decide +kernel
theorem dX1_countSeen_95 : decode cX1_countSeen 95 = .ok (.iload 4, 2) := by decide +kernel
theorem dX1_countSeen_97 : decode cX1_countSeen 97 = .ok (.invokestatic 101, 3) := by decide +kernel
theorem dX1_countSeen_100 : decode cX1_countSeen 100 = .ok (.aload_n 0, 1) := by decide +kernel
theorem dX1_countSeen_101 : decode cX1_countSeen 101 = .ok (.getfield 22, 3) := by decide +kernel
theorem dX1_countSeen_104 : decode cX1_countSeen 104 = .ok (.iconst 5, 1) := by decide +kernel
theorem dX1_countSeen_105 : decode cX1_countSeen 105 = .ok (.iaload, 1) := by decide +kernel
theorem dX1_countSeen_106 : decode cX1_countSeen 106 = .ok (.if_icmp .lt 11, 3) := by decide +kernel
theorem dX1_countSeen_109 : decode cX1_countSeen 109 = .ok (.aload_n 2, 1) := by decide +kernel
theorem dX1_countSeen_110 : decode cX1_countSeen 110 = .ok (.iload 8, 2) := by decide +kernel
theorem dX1_countSeen_112 : decode cX1_countSeen 112 = .ok (.dup2, 1) := by decide +kernel
theorem dX1_countSeen_113 : decode cX1_countSeen 113 = .ok (.iaload, 1) := by decide +kernel
theorem dX1_countSeen_114 : decode cX1_countSeen 114 = .ok (.iload_n 3, 1) := by decide +kernel
theorem dX1_countSeen_115 : decode cX1_countSeen 115 = .ok (.iadd, 1) := by decide +kernel
theorem dX1_countSeen_116 : decode cX1_countSeen 116 = .ok (.iastore, 1) := by decide +kernel
theorem dX1_countSeen_117 : decode cX1_countSeen 117 = .ok (.iload 6, 2) := by decide +kernel
theorem dX1_countSeen_119 : decode cX1_countSeen 119 = .ok (.aload_n 0, 1) := by decide +kernel
theorem dX1_countSeen_120 : decode cX1_countSeen 120 = .ok (.iload_n 1, 1) := by decide +kernel
theorem dX1_countSeen_121 : decode cX1_countSeen 121 = .ok (.iload 5, 2) := by decide +kernel
theorem dX1_countSeen_123 : decode cX1_countSeen 123 = .ok (.iload 7, 2) := by decide +kernel
theorem dX1_countSeen_125 : decode cX1_countSeen 125 = .ok (.invokevirtual 92, 3) := by decide +kernel
theorem dX1_countSeen_128 : decode cX1_countSeen 128 = .ok (.aload_n 0, 1) := by decide +kernel
theorem dX1_countSeen_129 : decode cX1_countSeen 129 = .ok (.iload_n 1, 1) := by decide +kernel
theorem dX1_countSeen_130 : decode cX1_countSeen 130 = .ok (.iload 5, 2) := by decide +kernel
theorem dX1_countSeen_132 : decode cX1_countSeen 132 = .ok (.iload 8, 2) := by decide +kernel
theorem dX1_countSeen_134 : decode cX1_countSeen 134 = .ok (.invokevirtual 92, 3) := by decide +kernel
theorem dX1_countSeen_137 : decode cX1_countSeen 137 = .ok (.isub, 1) := by decide +kernel
theorem dX1_countSeen_138 : decode cX1_countSeen 138 = .ok (.iadd, 1) := by decide +kernel
theorem dX1_countSeen_139 : decode cX1_countSeen 139 = .ok (.istore 6, 2) := by decide +kernel
theorem dX1_countSeen_141 : decode cX1_countSeen 141 = .ok (.aload_n 0, 1) := by decide +kernel
theorem dX1_countSeen_142 : decode cX1_countSeen 142 = .ok (.iload 7, 2) := by decide +kernel
theorem dX1_countSeen_144 : decode cX1_countSeen 144 = .ok (.invokevirtual 95, 3) := by decide +kernel
theorem dX1_countSeen_147 : decode cX1_countSeen 147 = .ok (.istore 7, 2) := by decide +kernel
theorem dX1_countSeen_149 : decode cX1_countSeen 149 = .ok (.iinc 8 1, 3) := by decide +kernel
theorem dX1_countSeen_152 : decode cX1_countSeen 152 = .ok (.goto (-77), 3) := by decide +kernel
theorem dX1_countSeen_155 : decode cX1_countSeen 155 = .ok (.return_, 1) := by decide +kernel
set_option maxRecDepth 20000 in
theorem ggX2_init_X1_init : GoodIn wsX2_init wsX1_init := goodIn_r _ [12, 13, 2, 3, 14, 15, 16, 17, 18, 19, 20, 21, 22, 23, 24] (by decide +kernel) (by decide +kernel)
set_option maxRecDepth 20000 in
theorem gX2_init_X1_init_n11 : GoodIn wsX2_init (wsX1_init) := ggX2_init_X1_init
theorem dX2_init_0 : decode cX2_init 0 = .ok (.aload_n 0, 1) := by decide +kernel
theorem dX2_init_1 : decode cX2_init 1 = .ok (.invokespecial 3, 3) := by decide +kernel
theorem dX2_init_4 : decode cX2_init 4 = .ok (.aload_n 0, 1) := by decide +kernel
theorem dX2_init_5 : decode cX2_init 5 = .ok (.new 9, 3) := by decide +kernel
theorem dX2_init_8 : decode cX2_init 8 = .ok (.dup, 1) := by decide +kernel
theorem dX2_init_9 : decode cX2_init 9 = .ok (.invokespecial 11, 3) := by decide +kernel
theorem dX2_init_12 : decode cX2_init 12 = .ok (.putfield 12, 3) := by decide +kernel
theorem dX2_init_15 : decode cX2_init 15 = .ok (.aload_n 0, 1) := by decide +kernel
theorem dX2_init_16 : decode cX2_init 16 = .ok (.iconst 2, 1) := by decide +kernel
theorem dX2_init_17 : decode cX2_init 17 = .ok (.anewarray 9, 3) := by decide +kernel
theorem dX2_init_20 : decode cX2_init 20 = .ok (.putfield 18, 3) := by decide +kernel
theorem dX2_init_23 : decode cX2_init 23 = .ok (.iconst 0, 1) := by decide +kernel
theorem dX2_init_24 : decode cX2_init 24 = .ok (.istore_n 1, 1) := by decide +kernel
theorem dX2_init_25 : decode cX2_init 25 = .ok (.iload_n 1, 1) := by decide +kernel
theorem dX2_init_26 : decode cX2_init 26 = .ok (.iconst 2, 1) := by decide +kernel
theorem dX2_init_27 : decode cX2_init 27 = .ok (.if_icmp .ge 22, 3) := by decide +kernel
theorem dX2_init_30 : decode cX2_init 30 = .ok (.aload_n 0, 1) := by decide +kernel
theorem dX2_init_31 : decode cX2_init 31 = .ok (.getfield 18, 3) := by decide +kernel
theorem dX2_init_34 : decode cX2_init 34 = .ok (.iload_n 1, 1) := by decide +kernel
theorem dX2_init_35 : decode cX2_init 35 = .ok (.new 9, 3) := by decide +kernel
theorem dX2_init_38 : decode cX2_init 38 = .ok (.dup, 1) := by decide +kernel
theorem dX2_init_39 : decode cX2_init 39 = .ok (.invokespecial 11, 3) := by decide +kernel
theorem dX2_init_42 : decode cX2_init 42 = .ok (.aastore, 1) := by decide +kernel
theorem dX2_init_43 : decode cX2_init 43 = .ok (.iinc 1 1, 3) := by decide +kernel
theorem dX2_init_46 : decode cX2_init 46 = .ok (.goto (-21), 3) := by decide +kernel
theorem dX2_init_49 : decode cX2_init 49 = .ok (.aload_n 0, 1) := by decide +kernel
theorem dX2_init_50 : decode cX2_init 50 = .ok (.iconst 2, 1) := by decide +kernel
theorem dX2_init_51 : decode cX2_init 51 = .ok (.newarray .boolean, 2) := by decide +kernel
theorem dX2_init_53 : decode cX2_init 53 = .ok (.putfield 22, 3) := by decide +kernel
theorem dX2_init_56 : decode cX2_init 56 = .ok (.return_, 1) := by decide +kernel
set_option maxRecDepth 20000 in
theorem ggX2_copyFrom_X1_copyFrom : GoodIn wsX2_copyFrom wsX1_copyFrom := goodIn_r _ [8, 9, 10, 11, 12, 13, 14, 15, 16, 17, 21, 22, 23, 24, 25] (by decide +kernel) (by decide +kernel)
set_option maxRecDepth 20000 in
theorem gX2_copyFrom_X1_copyFrom : GoodIn wsX2_copyFrom (wsV RX2 26 RX1 yX1_copyFrom wsX1_copyFrom) := goodIn_app (goodIn_of _ (by decide +kernel)) ggX2_copyFrom_X1_copyFrom
theorem dX2_copyFrom_0 : decode cX2_copyFrom 0 = .ok (.aload_n 0, 1) := by decide +kernel
theorem dX2_copyFrom_1 : decode cX2_copyFrom 1 = .ok (.getfield 12, 3) := by decide +kernel
theorem dX2_copyFrom_4 : decode cX2_copyFrom 4 = .ok (.aload_n 1, 1) := by decide +kernel
theorem dX2_copyFrom_5 : decode cX2_copyFrom 5 = .ok (.getfield 12, 3) := by decide +kernel
theorem dX2_copyFrom_8 : decode cX2_copyFrom 8 = .ok (.invokevirtual 26, 3) := by decide +kernel
theorem dX2_copyFrom_11 : decode cX2_copyFrom 11 = .ok (.iconst 0, 1) := by decide +kernel
theorem dX2_copyFrom_12 : decode cX2_copyFrom 12 = .ok (.istore_n 2, 1) := by decide +kernel
theorem dX2_copyFrom_13 : decode cX2_copyFrom 13 = .ok (.iload_n 2, 1) := by decide +kernel
theorem dX2_copyFrom_14 : decode cX2_copyFrom 14 = .ok (.iconst 2, 1) := by decide +kernel
theorem dX2_copyFrom_15 : decode cX2_copyFrom 15 = .ok (.if_icmp .ge 36, 3) := by decide +kernel
theorem dX2_copyFrom_18 : decode cX2_copyFrom 18 = .ok (.aload_n 0, 1) := by decide +kernel
theorem dX2_copyFrom_19 : decode cX2_copyFrom 19 = .ok (.getfield 18, 3) := by decide +kernel
theorem dX2_copyFrom_22 : decode cX2_copyFrom 22 = .ok (.iload_n 2, 1) := by decide +kernel
theorem dX2_copyFrom_23 : decode cX2_copyFrom 23 = .ok (.aaload, 1) := by decide +kernel
theorem dX2_copyFrom_24 : decode cX2_copyFrom 24 = .ok (.aload_n 1, 1) := by decide +kernel
theorem dX2_copyFrom_25 : decode cX2_copyFrom 25 = .ok (.getfield 18, 3) := by decide +kernel
theorem dX2_copyFrom_28 : decode cX2_copyFrom 28 = .ok (.iload_n 2, 1) := by decide +kernel
theorem dX2_copyFrom_29 : decode cX2_copyFrom 29 = .ok (.aaload, 1) := by decide +kernel
theorem dX2_copyFrom_30 : decode cX2_copyFrom 30 = .ok (.invokevirtual 26, 3) := by decide +kernel
theorem dX2_copyFrom_33 : decode cX2_copyFrom 33 = .ok (.aload_n 0, 1) := by decide +kernel
theorem dX2_copyFrom_34 : decode cX2_copyFrom 34 = .ok (.getfield 22, 3) := by decide +kernel
theorem dX2_copyFrom_37 : decode cX2_copyFrom 37 = .ok (.iload_n 2, 1) := by decide +kernel
theorem dX2_copyFrom_38 : decode cX2_copyFrom 38 = .ok (.aload_n 1, 1) := by decide +kernel
theorem dX2_copyFrom_39 : decode cX2_copyFrom 39 = .ok (.getfield 22, 3) := by decide +kernel
theorem dX2_copyFrom_42 : decode cX2_copyFrom 42 = .ok (.iload_n 2, 1) := by decide +kernel
theorem dX2_copyFrom_43 : decode cX2_copyFrom 43 = .ok (.baload, 1) := by decide +kernel
theorem dX2_copyFrom_44 : decode cX2_copyFrom 44 = .ok (.bastore, 1) := by decide +kernel
theorem dX2_copyFrom_45 : decode cX2_copyFrom 45 = .ok (.iinc 2 1, 3) := by decide +kernel
theorem dX2_copyFrom_48 : decode cX2_copyFrom 48 = .ok (.goto (-35), 3) := by decide +kernel
theorem dX2_copyFrom_51 : decode cX2_copyFrom 51 = .ok (.return_, 1) := by decide +kernel
theorem dX2_isSlot_0 : decode cX2_isSlot 0 = .ok (.iload_n 0, 1) := by decide +kernel
theorem dX2_isSlot_1 : decode cX2_isSlot 1 = .ok (.ifCond .lt 12, 3) := by decide +kernel
theorem dX2_isSlot_4 : decode cX2_isSlot 4 = .ok (.iload_n 0, 1) := by decide +kernel
theorem dX2_isSlot_5 : decode cX2_isSlot 5 = .ok (.iconst 2, 1) := by decide +kernel
theorem dX2_isSlot_6 : decode cX2_isSlot 6 = .ok (.if_icmp .ge 7, 3) := by decide +kernel
theorem dX2_isSlot_9 : decode cX2_isSlot 9 = .ok (.iconst 1, 1) := by decide +kernel
theorem dX2_isSlot_10 : decode cX2_isSlot 10 = .ok (.goto 4, 3) := by decide +kernel
theorem dX2_isSlot_13 : decode cX2_isSlot 13 = .ok (.iconst 0, 1) := by decide +kernel
theorem dX2_isSlot_14 : decode cX2_isSlot 14 = .ok (.ireturn, 1) := by decide +kernel
set_option maxRecDepth 20000 in
theorem ggX2_keepSnapshot_X2_isSlot : GoodIn wsX2_keepSnapshot wsX2_isSlot := goodIn_r _ [8] (by decide +kernel) (by decide +kernel)
set_option maxRecDepth 20000 in
theorem gX2_keepSnapshot_X2_isSlot : GoodIn wsX2_keepSnapshot (va_wsS RX2 30 yX2_isSlot wsX2_isSlot) := goodIn_app (goodIn_of _ (by decide +kernel)) ggX2_keepSnapshot_X2_isSlot
set_option maxRecDepth 20000 in
theorem ggX2_keepSnapshot_X1_copyFrom : GoodIn wsX2_keepSnapshot wsX1_copyFrom := goodIn_r _ [13, 14, 15, 16, 17, 18, 19, 20, 21, 22, 26, 27, 28, 29, 30] (by decide +kernel) (by decide +kernel)
set_option maxRecDepth 20000 in
theorem gX2_keepSnapshot_X1_copyFrom : GoodIn wsX2_keepSnapshot (wsV RX2 26 RX1 yX1_copyFrom wsX1_copyFrom) := goodIn_app (goodIn_of _ (by decide +kernel)) ggX2_keepSnapshot_X1_copyFrom
theorem dX2_keepSnapshot_0 : decode cX2_keepSnapshot 0 = .ok (.iload_n 1, 1) := by decide +kernel
theorem dX2_keepSnapshot_1 : decode cX2_keepSnapshot 1 = .ok (.invokestatic 30, 3) := by decide +kernel
theorem dX2_keepSnapshot_4 : decode cX2_keepSnapshot 4 = .ok (.ifCond .ne 5, 3) := by decide +kernel
theorem dX2_keepSnapshot_7 : decode cX2_keepSnapshot 7 = .ok (.iconst (-1), 1) := by decide +kernel
theorem dX2_keepSnapshot_8 : decode cX2_keepSnapshot 8 = .ok (.ireturn, 1) := by decide +kernel
theorem dX2_keepSnapshot_9 : decode cX2_keepSnapshot 9 = .ok (.aload_n 0, 1) := by decide +kernel
theorem dX2_keepSnapshot_10 : decode cX2_keepSnapshot 10 = .ok (.getfield 18, 3) := by decide +kernel
theorem dX2_keepSnapshot_13 : decode cX2_keepSnapshot 13 = .ok (.iload_n 1, 1) := by decide +kernel
theorem dX2_keepSnapshot_14 : decode cX2_keepSnapshot 14 = .ok (.aaload, 1) := by decide +kernel
theorem dX2_keepSnapshot_15 : decode cX2_keepSnapshot 15 = .ok (.aload_n 0, 1) := by decide +kernel
theorem dX2_keepSnapshot_16 : decode cX2_keepSnapshot 16 = .ok (.getfield 12, 3) := by decide +kernel
theorem dX2_keepSnapshot_19 : decode cX2_keepSnapshot 19 = .ok (.invokevirtual 26, 3) := by decide +kernel
theorem dX2_keepSnapshot_22 : decode cX2_keepSnapshot 22 = .ok (.aload_n 0, 1) := by decide +kernel
theorem dX2_keepSnapshot_23 : decode cX2_keepSnapshot 23 = .ok (.getfield 22, 3) := by decide +kernel
theorem dX2_keepSnapshot_26 : decode cX2_keepSnapshot 26 = .ok (.iload_n 1, 1) := by decide +kernel
theorem dX2_keepSnapshot_27 : decode cX2_keepSnapshot 27 = .ok (.iconst 1, 1) := by decide +kernel
theorem dX2_keepSnapshot_28 : decode cX2_keepSnapshot 28 = .ok (.bastore, 1) := by decide +kernel
theorem dX2_keepSnapshot_29 : decode cX2_keepSnapshot 29 = .ok (.aload_n 0, 1) := by decide +kernel
theorem dX2_keepSnapshot_30 : decode cX2_keepSnapshot 30 = .ok (.getfield 12, 3) := by decide +kernel
theorem dX2_keepSnapshot_33 : decode cX2_keepSnapshot 33 = .ok (.getfield 34, 3) := by decide +kernel
theorem dX2_keepSnapshot_36 : decode cX2_keepSnapshot 36 = .ok (.ireturn, 1) := by decide +kernel
set_option maxRecDepth 20000 in
theorem ggX2_showSnapshot_X2_isSlot : GoodIn wsX2_showSnapshot wsX2_isSlot := goodIn_r _ [8] (by decide +kernel) (by decide +kernel)
set_option maxRecDepth 20000 in
theorem gX2_showSnapshot_X2_isSlot : GoodIn wsX2_showSnapshot (va_wsS RX2 30 yX2_isSlot wsX2_isSlot) := goodIn_app (goodIn_of _ (by decide +kernel)) ggX2_showSnapshot_X2_isSlot
set_option maxRecDepth 20000 in
theorem ggX2_showSnapshot_X1_copyFrom : GoodIn wsX2_showSnapshot wsX1_copyFrom := goodIn_r _ [13, 14, 15, 16, 17, 18, 19, 20, 21, 22, 26, 27, 28, 29, 30] (by decide +kernel) (by decide +kernel)
set_option maxRecDepth 20000 in
theorem gX2_showSnapshot_X1_copyFrom : GoodIn wsX2_showSnapshot (wsV RX2 26 RX1 yX1_copyFrom wsX1_copyFrom) := goodIn_app (goodIn_of _ (by decide +kernel)) ggX2_showSnapshot_X1_copyFrom
theorem dX2_showSnapshot_0 : decode cX2_showSnapshot 0 = .ok (.iload_n 1, 1) := by decide +kernel
theorem dX2_showSnapshot_1 : decode cX2_showSnapshot 1 = .ok (.invokestatic 30, 3) := by decide +kernel
theorem dX2_showSnapshot_4 : decode cX2_showSnapshot 4 = .ok (.ifCond .ne 5, 3) := by decide +kernel
theorem dX2_showSnapshot_7 : decode cX2_showSnapshot 7 = .ok (.iconst (-1), 1) := by decide +kernel
theorem dX2_showSnapshot_8 : decode cX2_showSnapshot 8 = .ok (.ireturn, 1) := by decide +kernel
theorem dX2_showSnapshot_9 : decode cX2_showSnapshot 9 = .ok (.aload_n 0, 1) := by decide +kernel
theorem dX2_showSnapshot_10 : decode cX2_showSnapshot 10 = .ok (.getfield 22, 3) := by decide +kernel
theorem dX2_showSnapshot_13 : decode cX2_showSnapshot 13 = .ok (.iload_n 1, 1) := by decide +kernel
theorem dX2_showSnapshot_14 : decode cX2_showSnapshot 14 = .ok (.baload, 1) := by decide +kernel
theorem dX2_showSnapshot_15 : decode cX2_showSnapshot 15 = .ok (.ifCond .ne 6, 3) := by decide +kernel
theorem dX2_showSnapshot_18 : decode cX2_showSnapshot 18 = .ok (.bipush (-2), 2) := by decide +kernel
theorem dX2_showSnapshot_20 : decode cX2_showSnapshot 20 = .ok (.ireturn, 1) := by decide +kernel
theorem dX2_showSnapshot_21 : decode cX2_showSnapshot 21 = .ok (.aload_n 0, 1) := by decide +kernel
theorem dX2_showSnapshot_22 : decode cX2_showSnapshot 22 = .ok (.getfield 12, 3) := by decide +kernel
theorem dX2_showSnapshot_25 : decode cX2_showSnapshot 25 = .ok (.aload_n 0, 1) := by decide +kernel
theorem dX2_showSnapshot_26 : decode cX2_showSnapshot 26 = .ok (.getfield 18, 3) := by decide +kernel
theorem dX2_showSnapshot_29 : decode cX2_showSnapshot 29 = .ok (.iload_n 1, 1) := by decide +kernel
theorem dX2_showSnapshot_30 : decode cX2_showSnapshot 30 = .ok (.aaload, 1) := by decide +kernel
theorem dX2_showSnapshot_31 : decode cX2_showSnapshot 31 = .ok (.invokevirtual 26, 3) := by decide +kernel
theorem dX2_showSnapshot_34 : decode cX2_showSnapshot 34 = .ok (.aload_n 0, 1) := by decide +kernel
theorem dX2_showSnapshot_35 : decode cX2_showSnapshot 35 = .ok (.getfield 12, 3) := by decide +kernel
theorem dX2_showSnapshot_38 : decode cX2_showSnapshot 38 = .ok (.getfield 34, 3) := by decide +kernel
theorem dX2_showSnapshot_41 : decode cX2_showSnapshot 41 = .ok (.ireturn, 1) := by decide +kernel
theorem dX2_snapshots_0 : decode cX2_snapshots 0 = .ok (.iconst 0, 1) := by decide +kernel
theorem dX2_snapshots_1 : decode cX2_snapshots 1 = .ok (.istore_n 1, 1) := by decide +kernel
theorem dX2_snapshots_2 : decode cX2_snapshots 2 = .ok (.iconst 0, 1) := by decide +kernel
theorem dX2_snapshots_3 : decode cX2_snapshots 3 = .ok (.istore_n 2, 1) := by decide +kernel
theorem dX2_snapshots_4 : decode cX2_snapshots 4 = .ok (.iload_n 2, 1) := by decide +kernel
theorem dX2_snapshots_5 : decode cX2_snapshots 5 = .ok (.iconst 2, 1) := by decide +kernel
theorem dX2_snapshots_6 : decode cX2_snapshots 6 = .ok (.if_icmp .ge 26, 3) := by decide +kernel
theorem dX2_snapshots_9 : decode cX2_snapshots 9 = .ok (.iload_n 1, 1) := by decide +kernel
theorem dX2_snapshots_10 : decode cX2_snapshots 10 = .ok (.aload_n 0, 1) := by decide +kernel
theorem dX2_snapshots_11 : decode cX2_snapshots 11 = .ok (.getfield 22, 3) := by decide +kernel
theorem dX2_snapshots_14 : decode cX2_snapshots 14 = .ok (.iload_n 2, 1) := by decide +kernel
theorem dX2_snapshots_15 : decode cX2_snapshots 15 = .ok (.baload, 1) := by decide +kernel
theorem dX2_snapshots_16 : decode cX2_snapshots 16 = .ok (.ifCond .eq 7, 3) := by decide +kernel
theorem dX2_snapshots_19 : decode cX2_snapshots 19 = .ok (.iconst 1, 1) := by decide +kernel
theorem dX2_snapshots_20 : decode cX2_snapshots 20 = .ok (.goto 4, 3) := by decide +kernel
theorem dX2_snapshots_23 : decode cX2_snapshots 23 = .ok (.iconst 0, 1) := by decide +kernel
theorem dX2_snapshots_24 : decode cX2_snapshots 24 = .ok (.iadd, 1) := by decide +kernel
theorem dX2_snapshots_25 : decode cX2_snapshots 25 = .ok (.istore_n 1, 1) := by decide +kernel
theorem dX2_snapshots_26 : decode cX2_snapshots 26 = .ok (.iinc 2 1, 3) := by decide +kernel
theorem dX2_snapshots_29 : decode cX2_snapshots 29 = .ok (.goto (-25), 3) := by decide +kernel
theorem dX2_snapshots_32 : decode cX2_snapshots 32 = .ok (.iload_n 1, 1) := by decide +kernel
theorem dX2_snapshots_33 : decode cX2_snapshots 33 = .ok (.ireturn, 1) := by decide +kernel
theorem dX3_init_0 : decode cX3_init 0 = .ok (.aload_n 0, 1) := by decide +kernel
theorem dX3_init_1 : decode cX3_init 1 = .ok (.invokespecial 3, 3) := by decide +kernel
theorem dX3_init_4 : decode cX3_init 4 = .ok (.aload_n 0, 1) := by decide +kernel
theorem dX3_init_5 : decode cX3_init 5 = .ok (.bipush 12, 2) := by decide +kernel
theorem dX3_init_7 : decode cX3_init 7 = .ok (.newarray .int, 2) := by decide +kernel
theorem dX3_init_9 : decode cX3_init 9 = .ok (.putfield 9, 3) := by decide +kernel
theorem dX3_init_12 : decode cX3_init 12 = .ok (.aload_n 0, 1) := by decide +kernel
theorem dX3_init_13 : decode cX3_init 13 = .ok (.ldc 15, 2) := by decide +kernel
theorem dX3_init_15 : decode cX3_init 15 = .ok (.newarray .int, 2) := by decide +kernel
theorem dX3_init_17 : decode cX3_init 17 = .ok (.putfield 16, 3) := by decide +kernel
theorem dX3_init_20 : decode cX3_init 20 = .ok (.aload_n 0, 1) := by decide +kernel
theorem dX3_init_21 : decode cX3_init 21 = .ok (.bipush 12, 2) := by decide +kernel
theorem dX3_init_23 : decode cX3_init 23 = .ok (.newarray .int, 2) := by decide +kernel
theorem dX3_init_25 : decode cX3_init 25 = .ok (.putfield 19, 3) := by decide +kernel
theorem dX3_init_28 : decode cX3_init 28 = .ok (.return_, 1) := by decide +kernel
set_option maxRecDepth 20000 in
theorem ggX3_plan_X3_listSpots : GoodIn wsX3_plan wsX3_listSpots := goodIn_r _ [6, 7, 1, 8, 9, 10, 11, 41, 42, 43, 44, 45, 46] (by decide +kernel) (by decide +kernel)
set_option maxRecDepth 20000 in
theorem gX3_plan_X3_listSpots : GoodIn wsX3_plan (wsV RX3 26 RX3 yX3_listSpots wsX3_listSpots) := goodIn_app (goodIn_of _ (by decide +kernel)) ggX3_plan_X3_listSpots
set_option maxRecDepth 20000 in
theorem ggX3_plan_X3_fillRest : GoodIn wsX3_plan wsX3_fillRest := goodIn_r _ [15, 7, 16, 8, 17, 18, 19, 5, 20, 21, 22, 23, 24, 25, 26, 27, 28, 29, 10, 30, 31, 32, 33, 34, 41, 42, 43, 44, 45, 46] (by decide +kernel) (by decide +kernel)
set_option maxRecDepth 20000 in
theorem gX3_plan_X3_fillRest : GoodIn wsX3_plan (wsV RX3 29 RX3 yX3_fillRest wsX3_fillRest) := goodIn_app (goodIn_of _ (by decide +kernel)) ggX3_plan_X3_fillRest
set_option maxRecDepth 20000 in
theorem ggX3_plan_X3_follow : GoodIn wsX3_plan wsX3_follow := goodIn_r _ [38, 39, 7, 40, 8, 21, 22, 23, 5, 24, 25, 26, 27, 28, 16, 29, 10, 30, 31, 32, 33, 34, 41, 42, 43, 44, 45, 46] (by decide +kernel) (by decide +kernel)
set_option maxRecDepth 20000 in
theorem gX3_plan_X3_follow : GoodIn wsX3_plan (wsV RX3 32 RX3 yX3_follow wsX3_follow) := goodIn_app (goodIn_of _ (by decide +kernel)) ggX3_plan_X3_follow
theorem dX3_plan_0 : decode cX3_plan 0 = .ok (.lload_n 1, 1) := by decide +kernel
theorem dX3_plan_1 : decode cX3_plan 1 = .ok (.aload_n 0, 1) := by decide +kernel
theorem dX3_plan_2 : decode cX3_plan 2 = .ok (.getfield 22, 3) := by decide +kernel
theorem dX3_plan_5 : decode cX3_plan 5 = .ok (.lcmp, 1) := by decide +kernel
theorem dX3_plan_6 : decode cX3_plan 6 = .ok (.ifCond .ne 4, 3) := by decide +kernel
theorem dX3_plan_9 : decode cX3_plan 9 = .ok (.return_, 1) := by decide +kernel
theorem dX3_plan_10 : decode cX3_plan 10 = .ok (.aload_n 0, 1) := by decide +kernel
theorem dX3_plan_11 : decode cX3_plan 11 = .ok (.lload_n 1, 1) := by decide +kernel
theorem dX3_plan_12 : decode cX3_plan 12 = .ok (.putfield 22, 3) := by decide +kernel
theorem dX3_plan_15 : decode cX3_plan 15 = .ok (.aload_n 0, 1) := by decide +kernel
theorem dX3_plan_16 : decode cX3_plan 16 = .ok (.invokevirtual 26, 3) := by decide +kernel
theorem dX3_plan_19 : decode cX3_plan 19 = .ok (.aload_n 0, 1) := by decide +kernel
theorem dX3_plan_20 : decode cX3_plan 20 = .ok (.invokevirtual 29, 3) := by decide +kernel
theorem dX3_plan_23 : decode cX3_plan 23 = .ok (.aload_n 0, 1) := by decide +kernel
theorem dX3_plan_24 : decode cX3_plan 24 = .ok (.invokevirtual 32, 3) := by decide +kernel
theorem dX3_plan_27 : decode cX3_plan 27 = .ok (.return_, 1) := by decide +kernel
theorem dX3_sumOfWays_0 : decode cX3_sumOfWays 0 = .ok (.aload_n 0, 1) := by decide +kernel
theorem dX3_sumOfWays_1 : decode cX3_sumOfWays 1 = .ok (.getfield 35, 3) := by decide +kernel
theorem dX3_sumOfWays_4 : decode cX3_sumOfWays 4 = .ok (.ireturn, 1) := by decide +kernel
theorem dX3_stop_0 : decode cX3_stop 0 = .ok (.iload_n 1, 1) := by decide +kernel
theorem dX3_stop_1 : decode cX3_stop 1 = .ok (.ifCond .lt 20, 3) := by decide +kernel
theorem dX3_stop_4 : decode cX3_stop 4 = .ok (.iload_n 1, 1) := by decide +kernel
theorem dX3_stop_5 : decode cX3_stop 5 = .ok (.aload_n 0, 1) := by decide +kernel
theorem dX3_stop_6 : decode cX3_stop 6 = .ok (.getfield 39, 3) := by decide +kernel
theorem dX3_stop_9 : decode cX3_stop 9 = .ok (.if_icmp .ge 12, 3) := by decide +kernel
theorem dX3_stop_12 : decode cX3_stop 12 = .ok (.aload_n 0, 1) := by decide +kernel
theorem dX3_stop_13 : decode cX3_stop 13 = .ok (.getfield 19, 3) := by decide +kernel
theorem dX3_stop_16 : decode cX3_stop 16 = .ok (.iload_n 1, 1) := by decide +kernel
theorem dX3_stop_17 : decode cX3_stop 17 = .ok (.iaload, 1) := by decide +kernel
theorem dX3_stop_18 : decode cX3_stop 18 = .ok (.goto 5, 3) := by decide +kernel
theorem dX3_stop_21 : decode cX3_stop 21 = .ok (.bipush (-9), 2) := by decide +kernel
theorem dX3_stop_23 : decode cX3_stop 23 = .ok (.ireturn, 1) := by decide +kernel
set_option maxRecDepth 20000 in
theorem ggX3_listSpots_X4_bit : GoodIn wsX3_listSpots wsX4_bit := goodIn_r _ [6] (by decide +kernel) (by decide +kernel)
set_option maxRecDepth 20000 in
theorem gX3_listSpots_X4_bit_n42 : GoodIn wsX3_listSpots (wsX4_bit) := ggX3_listSpots_X4_bit
theorem dX3_listSpots_0 : decode cX3_listSpots 0 = .ok (.aload_n 0, 1) := by decide +kernel
theorem dX3_listSpots_1 : decode cX3_listSpots 1 = .ok (.iconst 0, 1) := by decide +kernel
theorem dX3_listSpots_2 : decode cX3_listSpots 2 = .ok (.putfield 39, 3) := by decide +kernel
theorem dX3_listSpots_5 : decode cX3_listSpots 5 = .ok (.iconst 0, 1) := by decide +kernel
theorem dX3_listSpots_6 : decode cX3_listSpots 6 = .ok (.istore_n 1, 1) := by decide +kernel
theorem dX3_listSpots_7 : decode cX3_listSpots 7 = .ok (.iload_n 1, 1) := by decide +kernel
theorem dX3_listSpots_8 : decode cX3_listSpots 8 = .ok (.bipush 64, 2) := by decide +kernel
theorem dX3_listSpots_10 : decode cX3_listSpots 10 = .ok (.if_icmp .ge 50, 3) := by decide +kernel
theorem dX3_listSpots_13 : decode cX3_listSpots 13 = .ok (.aload_n 0, 1) := by decide +kernel
theorem dX3_listSpots_14 : decode cX3_listSpots 14 = .ok (.getfield 39, 3) := by decide +kernel
theorem dX3_listSpots_17 : decode cX3_listSpots 17 = .ok (.bipush 12, 2) := by decide +kernel
theorem dX3_listSpots_19 : decode cX3_listSpots 19 = .ok (.if_icmp .ge 41, 3) := by decide +kernel
theorem dX3_listSpots_22 : decode cX3_listSpots 22 = .ok (.aload_n 0, 1) := by decide +kernel
theorem dX3_listSpots_23 : decode cX3_listSpots 23 = .ok (.getfield 22, 3) := by decide +kernel
theorem dX3_listSpots_26 : decode cX3_listSpots 26 = .ok (.iload_n 1, 1) := by decide +kernel
theorem dX3_listSpots_27 : decode cX3_listSpots 27 = .ok (.invokestatic 42, 3) := by decide +kernel
theorem dX3_listSpots_30 : decode cX3_listSpots 30 = .ok (.iconst 1, 1) := by decide +kernel
theorem dX3_listSpots_31 : decode cX3_listSpots 31 = .ok (.if_icmp .ne 23, 3) := by decide +kernel
theorem dX3_listSpots_34 : decode cX3_listSpots 34 = .ok (.aload_n 0, 1) := by decide +kernel
theorem dX3_listSpots_35 : decode cX3_listSpots 35 = .ok (.getfield 9, 3) := by decide +kernel
theorem dX3_listSpots_38 : decode cX3_listSpots 38 = .ok (.aload_n 0, 1) := by decide +kernel
theorem dX3_listSpots_39 : decode cX3_listSpots 39 = .ok (.getfield 39, 3) := by decide +kernel
theorem dX3_listSpots_42 : decode cX3_listSpots 42 = .ok (.iload_n 1, 1) := by decide +kernel
theorem dX3_listSpots_43 : decode cX3_listSpots 43 = .ok (.iastore, 1) := by decide +kernel
theorem dX3_listSpots_44 : decode cX3_listSpots 44 = .ok (.aload_n 0, 1) := by decide +kernel
theorem dX3_listSpots_45 : decode cX3_listSpots 45 = .ok (.dup, 1) := by decide +kernel
theorem dX3_listSpots_46 : decode cX3_listSpots 46 = .ok (.getfield 39, 3) := by decide +kernel
theorem dX3_listSpots_49 : decode cX3_listSpots 49 = .ok (.iconst 1, 1) := by decide +kernel
theorem dX3_listSpots_50 : decode cX3_listSpots 50 = .ok (.iadd, 1) := by decide +kernel
theorem dX3_listSpots_51 : decode cX3_listSpots 51 = .ok (.putfield 39, 3) := by decide +kernel
theorem dX3_listSpots_54 : decode cX3_listSpots 54 = .ok (.iinc 1 1, 3) := by decide +kernel
theorem dX3_listSpots_57 : decode cX3_listSpots 57 = .ok (.goto (-50), 3) := by decide +kernel
theorem dX3_listSpots_60 : decode cX3_listSpots 60 = .ok (.return_, 1) := by decide +kernel
set_option maxRecDepth 20000 in
theorem ggX3_fillRest_X3_leastFrom : GoodIn wsX3_fillRest wsX3_leastFrom := goodIn_r _ [8, 9, 10, 11, 7, 12, 1, 13, 14, 15, 16, 3, 2, 17, 18, 19, 20, 21, 22, 23, 24, 25, 26, 27, 28, 29] (by decide +kernel) (by decide +kernel)
set_option maxRecDepth 20000 in
theorem gX3_fillRest_X3_leastFrom : GoodIn wsX3_fillRest (wsV RX3 46 RX3 yX3_leastFrom wsX3_leastFrom) := goodIn_app (goodIn_of _ (by decide +kernel)) ggX3_fillRest_X3_leastFrom
theorem dX3_fillRest_0 : decode cX3_fillRest 0 = .ok (.iconst 0, 1) := by decide +kernel
theorem dX3_fillRest_1 : decode cX3_fillRest 1 = .ok (.istore_n 1, 1) := by decide +kernel
theorem dX3_fillRest_2 : decode cX3_fillRest 2 = .ok (.iload_n 1, 1) := by decide +kernel
theorem dX3_fillRest_3 : decode cX3_fillRest 3 = .ok (.iconst 1, 1) := by decide +kernel
theorem dX3_fillRest_4 : decode cX3_fillRest 4 = .ok (.aload_n 0, 1) := by decide +kernel
theorem dX3_fillRest_5 : decode cX3_fillRest 5 = .ok (.getfield 39, 3) := by decide +kernel
theorem dX3_fillRest_8 : decode cX3_fillRest 8 = .ok (.ishl, 1) := by decide +kernel
theorem dX3_fillRest_9 : decode cX3_fillRest 9 = .ok (.if_icmp .ge 55, 3) := by decide +kernel
theorem dX3_fillRest_12 : decode cX3_fillRest 12 = .ok (.iconst 0, 1) := by decide +kernel
theorem dX3_fillRest_13 : decode cX3_fillRest 13 = .ok (.istore_n 2, 1) := by decide +kernel
theorem dX3_fillRest_14 : decode cX3_fillRest 14 = .ok (.iload_n 2, 1) := by decide +kernel
theorem dX3_fillRest_15 : decode cX3_fillRest 15 = .ok (.aload_n 0, 1) := by decide +kernel
theorem dX3_fillRest_16 : decode cX3_fillRest 16 = .ok (.getfield 39, 3) := by decide +kernel
theorem dX3_fillRest_19 : decode cX3_fillRest 19 = .ok (.if_icmp .ge 39, 3) := by decide +kernel
theorem dX3_fillRest_22 : decode cX3_fillRest 22 = .ok (.iload_n 1, 1) := by decide +kernel
theorem dX3_fillRest_23 : decode cX3_fillRest 23 = .ok (.iload_n 2, 1) := by decide +kernel
theorem dX3_fillRest_24 : decode cX3_fillRest 24 = .ok (.ishr, 1) := by decide +kernel
theorem dX3_fillRest_25 : decode cX3_fillRest 25 = .ok (.iconst 1, 1) := by decide +kernel
theorem dX3_fillRest_26 : decode cX3_fillRest 26 = .ok (.iand, 1) := by decide +kernel
theorem dX3_fillRest_27 : decode cX3_fillRest 27 = .ok (.ifCond .ne 25, 3) := by decide +kernel
theorem dX3_fillRest_30 : decode cX3_fillRest 30 = .ok (.aload_n 0, 1) := by decide +kernel
theorem dX3_fillRest_31 : decode cX3_fillRest 31 = .ok (.getfield 16, 3) := by decide +kernel
theorem dX3_fillRest_34 : decode cX3_fillRest 34 = .ok (.iload_n 1, 1) := by decide +kernel
theorem dX3_fillRest_35 : decode cX3_fillRest 35 = .ok (.bipush 12, 2) := by decide +kernel
theorem dX3_fillRest_37 : decode cX3_fillRest 37 = .ok (.imul, 1) := by decide +kernel
theorem dX3_fillRest_38 : decode cX3_fillRest 38 = .ok (.iload_n 2, 1) := by decide +kernel
theorem dX3_fillRest_39 : decode cX3_fillRest 39 = .ok (.iadd, 1) := by decide +kernel
theorem dX3_fillRest_40 : decode cX3_fillRest 40 = .ok (.aload_n 0, 1) := by decide +kernel
theorem dX3_fillRest_41 : decode cX3_fillRest 41 = .ok (.iload_n 1, 1) := by decide +kernel
theorem dX3_fillRest_42 : decode cX3_fillRest 42 = .ok (.aload_n 0, 1) := by decide +kernel
theorem dX3_fillRest_43 : decode cX3_fillRest 43 = .ok (.getfield 9, 3) := by decide +kernel
theorem dX3_fillRest_46 : decode cX3_fillRest 46 = .ok (.iload_n 2, 1) := by decide +kernel
theorem dX3_fillRest_47 : decode cX3_fillRest 47 = .ok (.iaload, 1) := by decide +kernel
theorem dX3_fillRest_48 : decode cX3_fillRest 48 = .ok (.invokevirtual 46, 3) := by decide +kernel
theorem dX3_fillRest_51 : decode cX3_fillRest 51 = .ok (.iastore, 1) := by decide +kernel
theorem dX3_fillRest_52 : decode cX3_fillRest 52 = .ok (.iinc 2 1, 3) := by decide +kernel
theorem dX3_fillRest_55 : decode cX3_fillRest 55 = .ok (.goto (-41), 3) := by decide +kernel
theorem dX3_fillRest_58 : decode cX3_fillRest 58 = .ok (.iinc 1 1, 3) := by decide +kernel
theorem dX3_fillRest_61 : decode cX3_fillRest 61 = .ok (.goto (-59), 3) := by decide +kernel
theorem dX3_fillRest_64 : decode cX3_fillRest 64 = .ok (.return_, 1) := by decide +kernel
set_option maxRecDepth 20000 in
theorem ggX3_leastFrom_X3_bestStep : GoodIn wsX3_leastFrom wsX3_bestStep := goodIn_r _ [5, 6, 7, 8, 9, 4, 10, 11, 12, 13, 14, 15, 16, 17, 18, 19, 20, 21, 22, 23, 24, 25] (by decide +kernel) (by decide +kernel)
set_option maxRecDepth 20000 in
theorem gX3_leastFrom_X3_bestStep : GoodIn wsX3_leastFrom (wsV RX3 50 RX3 yX3_bestStep wsX3_bestStep) := goodIn_app (goodIn_of _ (by decide +kernel)) ggX3_leastFrom_X3_bestStep
set_option maxRecDepth 20000 in
theorem ggX3_leastFrom_X3_travelBy : GoodIn wsX3_leastFrom wsX3_travelBy := goodIn_r _ [10, 11, 12, 13, 14, 15, 16, 17, 18, 19, 20, 21, 22, 23, 24, 25] (by decide +kernel) (by decide +kernel)
set_option maxRecDepth 20000 in
theorem gX3_leastFrom_X3_travelBy : GoodIn wsX3_leastFrom (wsV RX3 53 RX3 yX3_travelBy wsX3_travelBy) := goodIn_app (goodIn_of _ (by decide +kernel)) ggX3_leastFrom_X3_travelBy
theorem dX3_leastFrom_0 : decode cX3_leastFrom 0 = .ok (.aload_n 0, 1) := by decide +kernel
theorem dX3_leastFrom_1 : decode cX3_leastFrom 1 = .ok (.iload_n 1, 1) := by decide +kernel
theorem dX3_leastFrom_2 : decode cX3_leastFrom 2 = .ok (.iload_n 2, 1) := by decide +kernel
theorem dX3_leastFrom_3 : decode cX3_leastFrom 3 = .ok (.invokevirtual 50, 3) := by decide +kernel
theorem dX3_leastFrom_6 : decode cX3_leastFrom 6 = .ok (.istore_n 3, 1) := by decide +kernel
theorem dX3_leastFrom_7 : decode cX3_leastFrom 7 = .ok (.iload_n 3, 1) := by decide +kernel
theorem dX3_leastFrom_8 : decode cX3_leastFrom 8 = .ok (.ifCond .ge 7, 3) := by decide +kernel
theorem dX3_leastFrom_11 : decode cX3_leastFrom 11 = .ok (.iconst 0, 1) := by decide +kernel
theorem dX3_leastFrom_12 : decode cX3_leastFrom 12 = .ok (.goto 10, 3) := by decide +kernel
theorem dX3_leastFrom_15 : decode cX3_leastFrom 15 = .ok (.aload_n 0, 1) := by decide +kernel
theorem dX3_leastFrom_16 : decode cX3_leastFrom 16 = .ok (.iload_n 1, 1) := by decide +kernel
theorem dX3_leastFrom_17 : decode cX3_leastFrom 17 = .ok (.iload_n 2, 1) := by decide +kernel
theorem dX3_leastFrom_18 : decode cX3_leastFrom 18 = .ok (.iload_n 3, 1) := by decide +kernel
theorem dX3_leastFrom_19 : decode cX3_leastFrom 19 = .ok (.invokevirtual 53, 3) := by decide +kernel
theorem dX3_leastFrom_22 : decode cX3_leastFrom 22 = .ok (.ireturn, 1) := by decide +kernel
set_option maxRecDepth 20000 in
theorem ggX3_travelBy_X4_way : GoodIn wsX3_travelBy wsX4_way := goodIn_r _ [5, 6, 7, 8, 9] (by decide +kernel) (by decide +kernel)
set_option maxRecDepth 20000 in
theorem gX3_travelBy_X4_way_n57 : GoodIn wsX3_travelBy (wsX4_way) := ggX3_travelBy_X4_way
theorem dX3_travelBy_0 : decode cX3_travelBy 0 = .ok (.iload_n 2, 1) := by decide +kernel
theorem dX3_travelBy_1 : decode cX3_travelBy 1 = .ok (.aload_n 0, 1) := by decide +kernel
theorem dX3_travelBy_2 : decode cX3_travelBy 2 = .ok (.getfield 9, 3) := by decide +kernel
theorem dX3_travelBy_5 : decode cX3_travelBy 5 = .ok (.iload_n 3, 1) := by decide +kernel
theorem dX3_travelBy_6 : decode cX3_travelBy 6 = .ok (.iaload, 1) := by decide +kernel
theorem dX3_travelBy_7 : decode cX3_travelBy 7 = .ok (.invokestatic 57, 3) := by decide +kernel
theorem dX3_travelBy_10 : decode cX3_travelBy 10 = .ok (.aload_n 0, 1) := by decide +kernel
theorem dX3_travelBy_11 : decode cX3_travelBy 11 = .ok (.getfield 16, 3) := by decide +kernel
theorem dX3_travelBy_14 : decode cX3_travelBy 14 = .ok (.iload_n 1, 1) := by decide +kernel
theorem dX3_travelBy_15 : decode cX3_travelBy 15 = .ok (.iconst 1, 1) := by decide +kernel
theorem dX3_travelBy_16 : decode cX3_travelBy 16 = .ok (.iload_n 3, 1) := by decide +kernel
theorem dX3_travelBy_17 : decode cX3_travelBy 17 = .ok (.ishl, 1) := by decide +kernel
theorem dX3_travelBy_18 : decode cX3_travelBy 18 = .ok (.iconst (-1), 1) := by decide +kernel
theorem dX3_travelBy_19 : decode cX3_travelBy 19 = .ok (.ixor, 1) := by decide +kernel
theorem dX3_travelBy_20 : decode cX3_travelBy 20 = .ok (.iand, 1) := by decide +kernel
theorem dX3_travelBy_21 : decode cX3_travelBy 21 = .ok (.bipush 12, 2) := by decide +kernel
theorem dX3_travelBy_23 : decode cX3_travelBy 23 = .ok (.imul, 1) := by decide +kernel
theorem dX3_travelBy_24 : decode cX3_travelBy 24 = .ok (.iload_n 3, 1) := by decide +kernel
theorem dX3_travelBy_25 : decode cX3_travelBy 25 = .ok (.iadd, 1) := by decide +kernel
theorem dX3_travelBy_26 : decode cX3_travelBy 26 = .ok (.iaload, 1) := by decide +kernel
theorem dX3_travelBy_27 : decode cX3_travelBy 27 = .ok (.iadd, 1) := by decide +kernel
theorem dX3_travelBy_28 : decode cX3_travelBy 28 = .ok (.ireturn, 1) := by decide +kernel
set_option maxRecDepth 20000 in
theorem ggX3_bestStep_X3_travelBy : GoodIn wsX3_bestStep wsX3_travelBy := goodIn_r _ [6, 7, 8, 9, 10, 11, 12, 13, 14, 15, 16, 17, 18, 19, 20, 21] (by decide +kernel) (by decide +kernel)
set_option maxRecDepth 20000 in
theorem gX3_bestStep_X3_travelBy : GoodIn wsX3_bestStep (wsV RX3 53 RX3 yX3_travelBy wsX3_travelBy) := goodIn_app (goodIn_of _ (by decide +kernel)) ggX3_bestStep_X3_travelBy
theorem dX3_bestStep_0 : decode cX3_bestStep 0 = .ok (.iconst (-1), 1) := by decide +kernel
theorem dX3_bestStep_1 : decode cX3_bestStep 1 = .ok (.istore_n 3, 1) := by decide +kernel
theorem dX3_bestStep_2 : decode cX3_bestStep 2 = .ok (.iconst 0, 1) := by decide +kernel
theorem dX3_bestStep_3 : decode cX3_bestStep 3 = .ok (.istore 4, 2) := by decide +kernel
theorem dX3_bestStep_5 : decode cX3_bestStep 5 = .ok (.iconst 0, 1) := by decide +kernel
theorem dX3_bestStep_6 : decode cX3_bestStep 6 = .ok (.istore 5, 2) := by decide +kernel
theorem dX3_bestStep_8 : decode cX3_bestStep 8 = .ok (.iload 5, 2) := by decide +kernel
theorem dX3_bestStep_10 : decode cX3_bestStep 10 = .ok (.aload_n 0, 1) := by decide +kernel
theorem dX3_bestStep_11 : decode cX3_bestStep 11 = .ok (.getfield 39, 3) := by decide +kernel
theorem dX3_bestStep_14 : decode cX3_bestStep 14 = .ok (.if_icmp .ge 47, 3) := by decide +kernel
theorem dX3_bestStep_17 : decode cX3_bestStep 17 = .ok (.iload_n 1, 1) := by decide +kernel
theorem dX3_bestStep_18 : decode cX3_bestStep 18 = .ok (.iload 5, 2) := by decide +kernel
theorem dX3_bestStep_20 : decode cX3_bestStep 20 = .ok (.ishr, 1) := by decide +kernel
theorem dX3_bestStep_21 : decode cX3_bestStep 21 = .ok (.iconst 1, 1) := by decide +kernel
theorem dX3_bestStep_22 : decode cX3_bestStep 22 = .ok (.iand, 1) := by decide +kernel
theorem dX3_bestStep_23 : decode cX3_bestStep 23 = .ok (.iconst 1, 1) := by decide +kernel
theorem dX3_bestStep_24 : decode cX3_bestStep 24 = .ok (.if_icmp .ne 31, 3) := by decide +kernel
theorem dX3_bestStep_27 : decode cX3_bestStep 27 = .ok (.aload_n 0, 1) := by decide +kernel
theorem dX3_bestStep_28 : decode cX3_bestStep 28 = .ok (.iload_n 1, 1) := by decide +kernel
theorem dX3_bestStep_29 : decode cX3_bestStep 29 = .ok (.iload_n 2, 1) := by decide +kernel
theorem dX3_bestStep_30 : decode cX3_bestStep 30 = .ok (.iload 5, 2) := by decide +kernel
theorem dX3_bestStep_32 : decode cX3_bestStep 32 = .ok (.invokevirtual 53, 3) := by decide +kernel
theorem dX3_bestStep_35 : decode cX3_bestStep 35 = .ok (.istore 6, 2) := by decide +kernel
theorem dX3_bestStep_37 : decode cX3_bestStep 37 = .ok (.iload_n 3, 1) := by decide +kernel
theorem dX3_bestStep_38 : decode cX3_bestStep 38 = .ok (.ifCond .lt 10, 3) := by decide +kernel
theorem dX3_bestStep_41 : decode cX3_bestStep 41 = .ok (.iload 6, 2) := by decide +kernel
theorem dX3_bestStep_43 : decode cX3_bestStep 43 = .ok (.iload 4, 2) := by decide +kernel
theorem dX3_bestStep_45 : decode cX3_bestStep 45 = .ok (.if_icmp .ge 10, 3) := by decide +kernel
theorem dX3_bestStep_48 : decode cX3_bestStep 48 = .ok (.iload 5, 2) := by decide +kernel
theorem dX3_bestStep_50 : decode cX3_bestStep 50 = .ok (.istore_n 3, 1) := by decide +kernel
theorem dX3_bestStep_51 : decode cX3_bestStep 51 = .ok (.iload 6, 2) := by decide +kernel
theorem dX3_bestStep_53 : decode cX3_bestStep 53 = .ok (.istore 4, 2) := by decide +kernel
theorem dX3_bestStep_55 : decode cX3_bestStep 55 = .ok (.iinc 5 1, 3) := by decide +kernel
theorem dX3_bestStep_58 : decode cX3_bestStep 58 = .ok (.goto (-50), 3) := by decide +kernel
theorem dX3_bestStep_61 : decode cX3_bestStep 61 = .ok (.iload_n 3, 1) := by decide +kernel
theorem dX3_bestStep_62 : decode cX3_bestStep 62 = .ok (.ireturn, 1) := by decide +kernel
set_option maxRecDepth 20000 in
theorem ggX3_follow_X3_bestStep : GoodIn wsX3_follow wsX3_bestStep := goodIn_r _ [9, 2, 10, 11, 12, 8, 13, 4, 14, 15, 16, 17, 18, 19, 20, 21, 22, 23, 24, 25, 26, 27] (by decide +kernel) (by decide +kernel)
set_option maxRecDepth 20000 in
theorem gX3_follow_X3_bestStep : GoodIn wsX3_follow (wsV RX3 50 RX3 yX3_bestStep wsX3_bestStep) := goodIn_app (goodIn_of _ (by decide +kernel)) ggX3_follow_X3_bestStep
set_option maxRecDepth 20000 in
theorem ggX3_follow_X4_way : GoodIn wsX3_follow wsX4_way := goodIn_r _ [17, 18, 19, 20, 21] (by decide +kernel) (by decide +kernel)
set_option maxRecDepth 20000 in
theorem gX3_follow_X4_way_n57 : GoodIn wsX3_follow (wsX4_way) := ggX3_follow_X4_way
theorem dX3_follow_0 : decode cX3_follow 0 = .ok (.aload_n 0, 1) := by decide +kernel
theorem dX3_follow_1 : decode cX3_follow 1 = .ok (.iconst 0, 1) := by decide +kernel
theorem dX3_follow_2 : decode cX3_follow 2 = .ok (.putfield 35, 3) := by decide +kernel
theorem dX3_follow_5 : decode cX3_follow 5 = .ok (.iconst 0, 1) := by decide +kernel
theorem dX3_follow_6 : decode cX3_follow 6 = .ok (.istore_n 1, 1) := by decide +kernel
theorem dX3_follow_7 : decode cX3_follow 7 = .ok (.iconst 1, 1) := by decide +kernel
theorem dX3_follow_8 : decode cX3_follow 8 = .ok (.aload_n 0, 1) := by decide +kernel
theorem dX3_follow_9 : decode cX3_follow 9 = .ok (.getfield 39, 3) := by decide +kernel
theorem dX3_follow_12 : decode cX3_follow 12 = .ok (.ishl, 1) := by decide +kernel
theorem dX3_follow_13 : decode cX3_follow 13 = .ok (.iconst 1, 1) := by decide +kernel
theorem dX3_follow_14 : decode cX3_follow 14 = .ok (.isub, 1) := by decide +kernel
theorem dX3_follow_15 : decode cX3_follow 15 = .ok (.istore_n 2, 1) := by decide +kernel
theorem dX3_follow_16 : decode cX3_follow 16 = .ok (.iconst 0, 1) := by decide +kernel
theorem dX3_follow_17 : decode cX3_follow 17 = .ok (.istore_n 3, 1) := by decide +kernel
theorem dX3_follow_18 : decode cX3_follow 18 = .ok (.iload_n 3, 1) := by decide +kernel
theorem dX3_follow_19 : decode cX3_follow 19 = .ok (.aload_n 0, 1) := by decide +kernel
theorem dX3_follow_20 : decode cX3_follow 20 = .ok (.getfield 39, 3) := by decide +kernel
theorem dX3_follow_23 : decode cX3_follow 23 = .ok (.if_icmp .ge 73, 3) := by decide +kernel
theorem dX3_follow_26 : decode cX3_follow 26 = .ok (.aload_n 0, 1) := by decide +kernel
theorem dX3_follow_27 : decode cX3_follow 27 = .ok (.iload_n 2, 1) := by decide +kernel
theorem dX3_follow_28 : decode cX3_follow 28 = .ok (.iload_n 1, 1) := by decide +kernel
theorem dX3_follow_29 : decode cX3_follow 29 = .ok (.invokevirtual 50, 3) := by decide +kernel
theorem dX3_follow_32 : decode cX3_follow 32 = .ok (.istore 4, 2) := by decide +kernel
theorem dX3_follow_34 : decode cX3_follow 34 = .ok (.iload 4, 2) := by decide +kernel
theorem dX3_follow_36 : decode cX3_follow 36 = .ok (.ifCond .ge 4, 3) := by decide +kernel
theorem dX3_follow_39 : decode cX3_follow 39 = .ok (.return_, 1) := by decide +kernel
theorem dX3_follow_40 : decode cX3_follow 40 = .ok (.aload_n 0, 1) := by decide +kernel
theorem dX3_follow_41 : decode cX3_follow 41 = .ok (.getfield 19, 3) := by decide +kernel
theorem dX3_follow_44 : decode cX3_follow 44 = .ok (.iload_n 3, 1) := by decide +kernel
theorem dX3_follow_45 : decode cX3_follow 45 = .ok (.aload_n 0, 1) := by decide +kernel
theorem dX3_follow_46 : decode cX3_follow 46 = .ok (.getfield 9, 3) := by decide +kernel
theorem dX3_follow_49 : decode cX3_follow 49 = .ok (.iload 4, 2) := by decide +kernel
theorem dX3_follow_51 : decode cX3_follow 51 = .ok (.iaload, 1) := by decide +kernel
theorem dX3_follow_52 : decode cX3_follow 52 = .ok (.iastore, 1) := by decide +kernel
theorem dX3_follow_53 : decode cX3_follow 53 = .ok (.aload_n 0, 1) := by decide +kernel
theorem dX3_follow_54 : decode cX3_follow 54 = .ok (.dup, 1) := by decide +kernel
theorem dX3_follow_55 : decode cX3_follow 55 = .ok (.getfield 35, 3) := by decide +kernel
theorem dX3_follow_58 : decode cX3_follow 58 = .ok (.iload_n 1, 1) := by decide +kernel
theorem dX3_follow_59 : decode cX3_follow 59 = .ok (.aload_n 0, 1) := by decide +kernel
theorem dX3_follow_60 : decode cX3_follow 60 = .ok (.getfield 9, 3) := by decide +kernel
theorem dX3_follow_63 : decode cX3_follow 63 = .ok (.iload 4, 2) := by decide +kernel
theorem dX3_follow_65 : decode cX3_follow 65 = .ok (.iaload, 1) := by decide +kernel
theorem dX3_follow_66 : decode cX3_follow 66 = .ok (.invokestatic 57, 3) := by decide +kernel
theorem dX3_follow_69 : decode cX3_follow 69 = .ok (.iadd, 1) := by decide +kernel
theorem dX3_follow_70 : decode cX3_follow 70 = .ok (.putfield 35, 3) := by decide +kernel
theorem dX3_follow_73 : decode cX3_follow 73 = .ok (.aload_n 0, 1) := by decide +kernel
theorem dX3_follow_74 : decode cX3_follow 74 = .ok (.getfield 9, 3) := by decide +kernel
theorem dX3_follow_77 : decode cX3_follow 77 = .ok (.iload 4, 2) := by decide +kernel
theorem dX3_follow_79 : decode cX3_follow 79 = .ok (.iaload, 1) := by decide +kernel
theorem dX3_follow_80 : decode cX3_follow 80 = .ok (.istore_n 1, 1) := by decide +kernel
theorem dX3_follow_81 : decode cX3_follow 81 = .ok (.iload_n 2, 1) := by decide +kernel
theorem dX3_follow_82 : decode cX3_follow 82 = .ok (.iconst 1, 1) := by decide +kernel
theorem dX3_follow_83 : decode cX3_follow 83 = .ok (.iload 4, 2) := by decide +kernel
theorem dX3_follow_85 : decode cX3_follow 85 = .ok (.ishl, 1) := by decide +kernel
theorem dX3_follow_86 : decode cX3_follow 86 = .ok (.iconst (-1), 1) := by decide +kernel
theorem dX3_follow_87 : decode cX3_follow 87 = .ok (.ixor, 1) := by decide +kernel
theorem dX3_follow_88 : decode cX3_follow 88 = .ok (.iand, 1) := by decide +kernel
theorem dX3_follow_89 : decode cX3_follow 89 = .ok (.istore_n 2, 1) := by decide +kernel
theorem dX3_follow_90 : decode cX3_follow 90 = .ok (.iinc 3 1, 3) := by decide +kernel
theorem dX3_follow_93 : decode cX3_follow 93 = .ok (.goto (-75), 3) := by decide +kernel
theorem dX3_follow_96 : decode cX3_follow 96 = .ok (.return_, 1) := by decide +kernel
set_option maxRecDepth 20000 in
theorem ggX4_init_X2_init : GoodIn wsX4_init wsX2_init := goodIn_r _ [21, 22, 2, 3, 23, 24, 25, 26, 27, 28, 29, 30, 31, 32, 17, 33, 34, 35, 36, 37, 70, 71, 72, 73, 74, 51, 52, 53] (by decide +kernel) (by decide +kernel)
set_option maxRecDepth 20000 in
theorem gX4_init_X2_init : GoodIn wsX4_init (wsX2_init) := ggX4_init_X2_init
set_option maxRecDepth 20000 in
theorem ggX4_init_X0_init : GoodIn wsX4_init wsX0_init := goodIn_r _ [39, 40, 2, 3, 41, 42, 17, 43, 60, 61, 62, 63] (by decide +kernel) (by decide +kernel)
set_option maxRecDepth 20000 in
theorem gX4_init_X0_init_n22 : GoodIn wsX4_init (wsX0_init) := ggX4_init_X0_init
set_option maxRecDepth 20000 in
theorem ggX4_init_X3_init : GoodIn wsX4_init wsX3_init := goodIn_r _ [45, 46, 2, 3, 17, 47, 48, 49, 50, 64, 65, 66, 67, 68, 69] (by decide +kernel) (by decide +kernel)
set_option maxRecDepth 20000 in
theorem gX4_init_X3_init_n29 : GoodIn wsX4_init (wsX3_init) := ggX4_init_X3_init
theorem dX4_init_0 : decode cX4_init 0 = .ok (.aload_n 0, 1) := by decide +kernel
theorem dX4_init_1 : decode cX4_init 1 = .ok (.invokespecial 1, 3) := by decide +kernel
theorem dX4_init_4 : decode cX4_init 4 = .ok (.aload_n 0, 1) := by decide +kernel
theorem dX4_init_5 : decode cX4_init 5 = .ok (.new 7, 3) := by decide +kernel
theorem dX4_init_8 : decode cX4_init 8 = .ok (.dup, 1) := by decide +kernel
theorem dX4_init_9 : decode cX4_init 9 = .ok (.invokespecial 9, 3) := by decide +kernel
theorem dX4_init_12 : decode cX4_init 12 = .ok (.putfield 10, 3) := by decide +kernel
theorem dX4_init_15 : decode cX4_init 15 = .ok (.aload_n 0, 1) := by decide +kernel
theorem dX4_init_16 : decode cX4_init 16 = .ok (.bipush 6, 2) := by decide +kernel
theorem dX4_init_18 : decode cX4_init 18 = .ok (.anewarray 7, 3) := by decide +kernel
theorem dX4_init_21 : decode cX4_init 21 = .ok (.putfield 16, 3) := by decide +kernel
theorem dX4_init_24 : decode cX4_init 24 = .ok (.iconst 0, 1) := by decide +kernel
theorem dX4_init_25 : decode cX4_init 25 = .ok (.istore_n 1, 1) := by decide +kernel
theorem dX4_init_26 : decode cX4_init 26 = .ok (.iload_n 1, 1) := by decide +kernel
theorem dX4_init_27 : decode cX4_init 27 = .ok (.aload_n 0, 1) := by decide +kernel
theorem dX4_init_28 : decode cX4_init 28 = .ok (.getfield 16, 3) := by decide +kernel
theorem dX4_init_31 : decode cX4_init 31 = .ok (.arraylength, 1) := by decide +kernel
theorem dX4_init_32 : decode cX4_init 32 = .ok (.if_icmp .ge 22, 3) := by decide +kernel
theorem dX4_init_35 : decode cX4_init 35 = .ok (.aload_n 0, 1) := by decide +kernel
theorem dX4_init_36 : decode cX4_init 36 = .ok (.getfield 16, 3) := by decide +kernel
theorem dX4_init_39 : decode cX4_init 39 = .ok (.iload_n 1, 1) := by decide +kernel
theorem dX4_init_40 : decode cX4_init 40 = .ok (.new 7, 3) := by decide +kernel
theorem dX4_init_43 : decode cX4_init 43 = .ok (.dup, 1) := by decide +kernel
theorem dX4_init_44 : decode cX4_init 44 = .ok (.invokespecial 9, 3) := by decide +kernel
theorem dX4_init_47 : decode cX4_init 47 = .ok (.aastore, 1) := by decide +kernel
theorem dX4_init_48 : decode cX4_init 48 = .ok (.iinc 1 1, 3) := by decide +kernel
theorem dX4_init_51 : decode cX4_init 51 = .ok (.goto (-25), 3) := by decide +kernel
theorem dX4_init_54 : decode cX4_init 54 = .ok (.aload_n 0, 1) := by decide +kernel
theorem dX4_init_55 : decode cX4_init 55 = .ok (.new 20, 3) := by decide +kernel
theorem dX4_init_58 : decode cX4_init 58 = .ok (.dup, 1) := by decide +kernel
theorem dX4_init_59 : decode cX4_init 59 = .ok (.invokespecial 22, 3) := by decide +kernel
theorem dX4_init_62 : decode cX4_init 62 = .ok (.putfield 23, 3) := by decide +kernel
theorem dX4_init_65 : decode cX4_init 65 = .ok (.aload_n 0, 1) := by decide +kernel
theorem dX4_init_66 : decode cX4_init 66 = .ok (.new 27, 3) := by decide +kernel
theorem dX4_init_69 : decode cX4_init 69 = .ok (.dup, 1) := by decide +kernel
theorem dX4_init_70 : decode cX4_init 70 = .ok (.invokespecial 29, 3) := by decide +kernel
theorem dX4_init_73 : decode cX4_init 73 = .ok (.putfield 30, 3) := by decide +kernel
theorem dX4_init_76 : decode cX4_init 76 = .ok (.aload_n 0, 1) := by decide +kernel
theorem dX4_init_77 : decode cX4_init 77 = .ok (.sipush 200, 3) := by decide +kernel
theorem dX4_init_80 : decode cX4_init 80 = .ok (.newarray .int, 2) := by decide +kernel
theorem dX4_init_82 : decode cX4_init 82 = .ok (.putfield 34, 3) := by decide +kernel
theorem dX4_init_85 : decode cX4_init 85 = .ok (.return_, 1) := by decide +kernel
set_option maxRecDepth 20000 in
theorem ggX4_set_X4_prepare : GoodIn wsX4_set wsX4_prepare := goodIn_r _ [7, 8, 9, 1, 10, 11, 12, 13, 14, 15, 16, 17, 18, 19, 20, 21, 22, 23, 24, 25, 26, 27, 28, 29, 30, 31, 46, 47, 48, 49, 50, 51, 52, 53, 54, 55, 56, 57, 58, 59] (by decide +kernel) (by decide +kernel)
set_option maxRecDepth 20000 in
theorem gX4_set_X4_prepare : GoodIn wsX4_set (wsV RX4 38 RX4 yX4_prepare wsX4_prepare) := goodIn_app (goodIn_of _ (by decide +kernel)) ggX4_set_X4_prepare
set_option maxRecDepth 20000 in
theorem ggX4_set_X1_putSetting : GoodIn wsX4_set wsX1_putSetting := goodIn_r _ [35, 36, 37, 31, 55, 56, 57, 58, 59] (by decide +kernel) (by decide +kernel)
set_option maxRecDepth 20000 in
theorem gX4_set_X1_putSetting : GoodIn wsX4_set (wsV RX4 45 RX1 yX1_putSetting wsX1_putSetting) := goodIn_app (goodIn_of _ (by decide +kernel)) ggX4_set_X1_putSetting
set_option maxRecDepth 20000 in
theorem ggX4_set_X4_finish : GoodIn wsX4_set wsX4_finish := goodIn_r _ [41, 9, 42, 43, 44, 6, 45, 8, 46, 47, 48, 49, 50, 51] (by decide +kernel) (by decide +kernel)
set_option maxRecDepth 20000 in
theorem gX4_set_X4_finish : GoodIn wsX4_set (wsV RX4 51 RX4 yX4_finish wsX4_finish) := goodIn_app (goodIn_of _ (by decide +kernel)) ggX4_set_X4_finish
theorem dX4_set_0 : decode cX4_set 0 = .ok (.aload_n 0, 1) := by decide +kernel
theorem dX4_set_1 : decode cX4_set 1 = .ok (.invokevirtual 38, 3) := by decide +kernel
theorem dX4_set_4 : decode cX4_set 4 = .ok (.aload_n 0, 1) := by decide +kernel
theorem dX4_set_5 : decode cX4_set 5 = .ok (.aload_n 0, 1) := by decide +kernel
theorem dX4_set_6 : decode cX4_set 6 = .ok (.getfield 10, 3) := by decide +kernel
theorem dX4_set_9 : decode cX4_set 9 = .ok (.getfield 41, 3) := by decide +kernel
theorem dX4_set_12 : decode cX4_set 12 = .ok (.iload_n 1, 1) := by decide +kernel
theorem dX4_set_13 : decode cX4_set 13 = .ok (.iload_n 2, 1) := by decide +kernel
theorem dX4_set_14 : decode cX4_set 14 = .ok (.invokevirtual 45, 3) := by decide +kernel
theorem dX4_set_17 : decode cX4_set 17 = .ok (.invokevirtual 51, 3) := by decide +kernel
theorem dX4_set_20 : decode cX4_set 20 = .ok (.ireturn, 1) := by decide +kernel
set_option maxRecDepth 20000 in
theorem ggX4_setPhosphor_X4_prepare : GoodIn wsX4_setPhosphor wsX4_prepare := goodIn_r _ [7, 8, 9, 1, 10, 11, 12, 13, 14, 15, 16, 17, 18, 19, 20, 21, 22, 23, 24, 25, 26, 27, 28, 29, 30, 31, 48, 49, 50, 51, 52, 53, 54, 55, 56, 57, 58, 59, 60, 61] (by decide +kernel) (by decide +kernel)
set_option maxRecDepth 20000 in
theorem gX4_setPhosphor_X4_prepare : GoodIn wsX4_setPhosphor (wsV RX4 38 RX4 yX4_prepare wsX4_prepare) := goodIn_app (goodIn_of _ (by decide +kernel)) ggX4_setPhosphor_X4_prepare
set_option maxRecDepth 20000 in
theorem ggX4_setPhosphor_X1_putPhosphor : GoodIn wsX4_setPhosphor wsX1_putPhosphor := goodIn_r _ [35, 23, 36, 6, 37, 38, 39, 57, 58, 59, 60, 61] (by decide +kernel) (by decide +kernel)
set_option maxRecDepth 20000 in
theorem gX4_setPhosphor_X1_putPhosphor : GoodIn wsX4_setPhosphor (wsV RX4 55 RX1 yX1_putPhosphor wsX1_putPhosphor) := goodIn_app (goodIn_of _ (by decide +kernel)) ggX4_setPhosphor_X1_putPhosphor
set_option maxRecDepth 20000 in
theorem ggX4_setPhosphor_X4_finish : GoodIn wsX4_setPhosphor wsX4_finish := goodIn_r _ [43, 9, 44, 45, 46, 6, 47, 8, 48, 49, 50, 51, 52, 53] (by decide +kernel) (by decide +kernel)
set_option maxRecDepth 20000 in
theorem gX4_setPhosphor_X4_finish : GoodIn wsX4_setPhosphor (wsV RX4 51 RX4 yX4_finish wsX4_finish) := goodIn_app (goodIn_of _ (by decide +kernel)) ggX4_setPhosphor_X4_finish
theorem dX4_setPhosphor_0 : decode cX4_setPhosphor 0 = .ok (.aload_n 0, 1) := by decide +kernel
theorem dX4_setPhosphor_1 : decode cX4_setPhosphor 1 = .ok (.invokevirtual 38, 3) := by decide +kernel
theorem dX4_setPhosphor_4 : decode cX4_setPhosphor 4 = .ok (.aload_n 0, 1) := by decide +kernel
theorem dX4_setPhosphor_5 : decode cX4_setPhosphor 5 = .ok (.aload_n 0, 1) := by decide +kernel
theorem dX4_setPhosphor_6 : decode cX4_setPhosphor 6 = .ok (.getfield 10, 3) := by decide +kernel
theorem dX4_setPhosphor_9 : decode cX4_setPhosphor 9 = .ok (.getfield 41, 3) := by decide +kernel
theorem dX4_setPhosphor_12 : decode cX4_setPhosphor 12 = .ok (.iload_n 1, 1) := by decide +kernel
theorem dX4_setPhosphor_13 : decode cX4_setPhosphor 13 = .ok (.iload_n 2, 1) := by decide +kernel
theorem dX4_setPhosphor_14 : decode cX4_setPhosphor 14 = .ok (.invokevirtual 55, 3) := by decide +kernel
theorem dX4_setPhosphor_17 : decode cX4_setPhosphor 17 = .ok (.invokevirtual 51, 3) := by decide +kernel
theorem dX4_setPhosphor_20 : decode cX4_setPhosphor 20 = .ok (.ireturn, 1) := by decide +kernel
set_option maxRecDepth 20000 in
theorem ggX4_light_X4_prepare : GoodIn wsX4_light wsX4_prepare := goodIn_r _ [7, 8, 9, 1, 10, 11, 12, 13, 14, 15, 16, 17, 18, 19, 20, 21, 22, 23, 24, 25, 26, 27, 28, 29, 30, 31, 50, 51, 52, 53, 54, 55, 56, 57, 58, 59, 60, 61, 62, 63] (by decide +kernel) (by decide +kernel)
set_option maxRecDepth 20000 in
theorem gX4_light_X4_prepare : GoodIn wsX4_light (wsV RX4 38 RX4 yX4_prepare wsX4_prepare) := goodIn_app (goodIn_of _ (by decide +kernel)) ggX4_light_X4_prepare
set_option maxRecDepth 20000 in
theorem ggX4_light_X1_addSpot : GoodIn wsX4_light wsX1_addSpot := goodIn_r _ [35, 29, 28, 36, 6, 37, 38, 39, 40, 21, 41, 59, 60, 61, 62, 63] (by decide +kernel) (by decide +kernel)
set_option maxRecDepth 20000 in
theorem gX4_light_X1_addSpot : GoodIn wsX4_light (wsV RX4 58 RX1 yX1_addSpot wsX1_addSpot) := goodIn_app (goodIn_of _ (by decide +kernel)) ggX4_light_X1_addSpot
set_option maxRecDepth 20000 in
theorem ggX4_light_X4_finish : GoodIn wsX4_light wsX4_finish := goodIn_r _ [45, 9, 46, 47, 48, 6, 49, 8, 50, 51, 52, 53, 54, 55] (by decide +kernel) (by decide +kernel)
set_option maxRecDepth 20000 in
theorem gX4_light_X4_finish : GoodIn wsX4_light (wsV RX4 51 RX4 yX4_finish wsX4_finish) := goodIn_app (goodIn_of _ (by decide +kernel)) ggX4_light_X4_finish
theorem dX4_light_0 : decode cX4_light 0 = .ok (.aload_n 0, 1) := by decide +kernel
theorem dX4_light_1 : decode cX4_light 1 = .ok (.invokevirtual 38, 3) := by decide +kernel
theorem dX4_light_4 : decode cX4_light 4 = .ok (.aload_n 0, 1) := by decide +kernel
theorem dX4_light_5 : decode cX4_light 5 = .ok (.aload_n 0, 1) := by decide +kernel
theorem dX4_light_6 : decode cX4_light 6 = .ok (.getfield 10, 3) := by decide +kernel
theorem dX4_light_9 : decode cX4_light 9 = .ok (.getfield 41, 3) := by decide +kernel
theorem dX4_light_12 : decode cX4_light 12 = .ok (.iload_n 1, 1) := by decide +kernel
theorem dX4_light_13 : decode cX4_light 13 = .ok (.invokevirtual 58, 3) := by decide +kernel
theorem dX4_light_16 : decode cX4_light 16 = .ok (.invokevirtual 51, 3) := by decide +kernel
theorem dX4_light_19 : decode cX4_light 19 = .ok (.ireturn, 1) := by decide +kernel
set_option maxRecDepth 20000 in
theorem ggX4_darken_X4_prepare : GoodIn wsX4_darken wsX4_prepare := goodIn_r _ [7, 8, 9, 1, 10, 11, 12, 13, 14, 15, 16, 17, 18, 19, 20, 21, 22, 23, 24, 25, 26, 27, 28, 29, 30, 31, 50, 51, 52, 53, 54, 55, 56, 57, 58, 59, 60, 61, 62, 63] (by decide +kernel) (by decide +kernel)
set_option maxRecDepth 20000 in
theorem gX4_darken_X4_prepare : GoodIn wsX4_darken (wsV RX4 38 RX4 yX4_prepare wsX4_prepare) := goodIn_app (goodIn_of _ (by decide +kernel)) ggX4_darken_X4_prepare
set_option maxRecDepth 20000 in
theorem ggX4_darken_X1_removeSpot : GoodIn wsX4_darken wsX1_removeSpot := goodIn_r _ [35, 29, 28, 36, 6, 37, 38, 39, 40, 21, 41, 59, 60, 61, 62, 63] (by decide +kernel) (by decide +kernel)
set_option maxRecDepth 20000 in
theorem gX4_darken_X1_removeSpot : GoodIn wsX4_darken (wsV RX4 61 RX1 yX1_removeSpot wsX1_removeSpot) := goodIn_app (goodIn_of _ (by decide +kernel)) ggX4_darken_X1_removeSpot
set_option maxRecDepth 20000 in
theorem ggX4_darken_X4_finish : GoodIn wsX4_darken wsX4_finish := goodIn_r _ [45, 9, 46, 47, 48, 6, 49, 8, 50, 51, 52, 53, 54, 55] (by decide +kernel) (by decide +kernel)
set_option maxRecDepth 20000 in
theorem gX4_darken_X4_finish : GoodIn wsX4_darken (wsV RX4 51 RX4 yX4_finish wsX4_finish) := goodIn_app (goodIn_of _ (by decide +kernel)) ggX4_darken_X4_finish
theorem dX4_darken_0 : decode cX4_darken 0 = .ok (.aload_n 0, 1) := by decide +kernel
theorem dX4_darken_1 : decode cX4_darken 1 = .ok (.invokevirtual 38, 3) := by decide +kernel
theorem dX4_darken_4 : decode cX4_darken 4 = .ok (.aload_n 0, 1) := by decide +kernel
theorem dX4_darken_5 : decode cX4_darken 5 = .ok (.aload_n 0, 1) := by decide +kernel
theorem dX4_darken_6 : decode cX4_darken 6 = .ok (.getfield 10, 3) := by decide +kernel
theorem dX4_darken_9 : decode cX4_darken 9 = .ok (.getfield 41, 3) := by decide +kernel
theorem dX4_darken_12 : decode cX4_darken 12 = .ok (.iload_n 1, 1) := by decide +kernel
theorem dX4_darken_13 : decode cX4_darken 13 = .ok (.invokevirtual 61, 3) := by decide +kernel
theorem dX4_darken_16 : decode cX4_darken 16 = .ok (.invokevirtual 51, 3) := by decide +kernel
theorem dX4_darken_19 : decode cX4_darken 19 = .ok (.ireturn, 1) := by decide +kernel
set_option maxRecDepth 20000 in
theorem ggX4_exchange_X4_prepare : GoodIn wsX4_exchange wsX4_prepare := goodIn_r _ [7, 8, 9, 1, 10, 11, 12, 13, 14, 15, 16, 17, 18, 19, 20, 21, 22, 23, 24, 25, 26, 27, 28, 29, 30, 31, 62, 63, 64, 65, 66, 67, 68, 69, 70, 71, 72, 73, 74, 75] (by decide +kernel) (by decide +kernel)
set_option maxRecDepth 20000 in
theorem gX4_exchange_X4_prepare : GoodIn wsX4_exchange (wsV RX4 38 RX4 yX4_prepare wsX4_prepare) := goodIn_app (goodIn_of _ (by decide +kernel)) ggX4_exchange_X4_prepare
set_option maxRecDepth 20000 in
theorem ggX4_exchange_X1_swapPositions : GoodIn wsX4_exchange wsX1_swapPositions := goodIn_r _ [35, 29, 36, 37, 38, 21, 39, 28, 40, 41, 42, 43, 31, 44, 45, 46, 47, 48, 6, 49, 50, 51, 52, 53, 71, 72, 73, 74, 75] (by decide +kernel) (by decide +kernel)
set_option maxRecDepth 20000 in
theorem gX4_exchange_X1_swapPositions : GoodIn wsX4_exchange (wsV RX4 64 RX1 yX1_swapPositions wsX1_swapPositions) := goodIn_app (goodIn_of _ (by decide +kernel)) ggX4_exchange_X1_swapPositions
set_option maxRecDepth 20000 in
theorem ggX4_exchange_X4_finish : GoodIn wsX4_exchange wsX4_finish := goodIn_r _ [57, 9, 58, 59, 60, 6, 61, 8, 62, 63, 64, 65, 66, 67] (by decide +kernel) (by decide +kernel)
set_option maxRecDepth 20000 in
theorem gX4_exchange_X4_finish : GoodIn wsX4_exchange (wsV RX4 51 RX4 yX4_finish wsX4_finish) := goodIn_app (goodIn_of _ (by decide +kernel)) ggX4_exchange_X4_finish
theorem dX4_exchange_0 : decode cX4_exchange 0 = .ok (.aload_n 0, 1) := by decide +kernel
theorem dX4_exchange_1 : decode cX4_exchange 1 = .ok (.invokevirtual 38, 3) := by decide +kernel
theorem dX4_exchange_4 : decode cX4_exchange 4 = .ok (.aload_n 0, 1) := by decide +kernel
theorem dX4_exchange_5 : decode cX4_exchange 5 = .ok (.aload_n 0, 1) := by decide +kernel
theorem dX4_exchange_6 : decode cX4_exchange 6 = .ok (.getfield 10, 3) := by decide +kernel
theorem dX4_exchange_9 : decode cX4_exchange 9 = .ok (.getfield 41, 3) := by decide +kernel
theorem dX4_exchange_12 : decode cX4_exchange 12 = .ok (.iload_n 1, 1) := by decide +kernel
theorem dX4_exchange_13 : decode cX4_exchange 13 = .ok (.iload_n 2, 1) := by decide +kernel
theorem dX4_exchange_14 : decode cX4_exchange 14 = .ok (.invokevirtual 64, 3) := by decide +kernel
theorem dX4_exchange_17 : decode cX4_exchange 17 = .ok (.invokevirtual 51, 3) := by decide +kernel
theorem dX4_exchange_20 : decode cX4_exchange 20 = .ok (.ireturn, 1) := by decide +kernel
set_option maxRecDepth 20000 in
theorem ggX4_sort_X4_prepare : GoodIn wsX4_sort wsX4_prepare := goodIn_r _ [7, 8, 9, 1, 10, 11, 12, 13, 14, 15, 16, 17, 18, 19, 20, 21, 22, 23, 24, 25, 26, 27, 28, 29, 30, 31, 76, 77, 78, 79, 80, 81, 82, 83, 84, 85, 86, 87, 88, 89] (by decide +kernel) (by decide +kernel)
set_option maxRecDepth 20000 in
theorem gX4_sort_X4_prepare : GoodIn wsX4_sort (wsV RX4 38 RX4 yX4_prepare wsX4_prepare) := goodIn_app (goodIn_of _ (by decide +kernel)) ggX4_sort_X4_prepare
set_option maxRecDepth 20000 in
theorem ggX4_sort_X1_arrange : GoodIn wsX4_sort wsX1_arrange := goodIn_r _ [35, 29, 28, 36, 37, 38, 21, 39, 30, 23, 40, 6, 41, 42, 43, 44, 45, 46, 47, 48, 49, 50, 51, 52, 53, 54, 55, 56, 57, 58, 59, 60, 61, 62, 63, 31, 64, 65, 66, 67, 85, 86, 87, 88, 89] (by decide +kernel) (by decide +kernel)
set_option maxRecDepth 20000 in
theorem gX4_sort_X1_arrange : GoodIn wsX4_sort (wsV RX4 67 RX1 yX1_arrange wsX1_arrange) := goodIn_app (goodIn_of _ (by decide +kernel)) ggX4_sort_X1_arrange
set_option maxRecDepth 20000 in
theorem ggX4_sort_X4_finish : GoodIn wsX4_sort wsX4_finish := goodIn_r _ [71, 9, 72, 73, 74, 6, 75, 8, 76, 77, 78, 79, 80, 81] (by decide +kernel) (by decide +kernel)
set_option maxRecDepth 20000 in
theorem gX4_sort_X4_finish : GoodIn wsX4_sort (wsV RX4 51 RX4 yX4_finish wsX4_finish) := goodIn_app (goodIn_of _ (by decide +kernel)) ggX4_sort_X4_finish
theorem dX4_sort_0 : decode cX4_sort 0 = .ok (.aload_n 0, 1) := by decide +kernel
theorem dX4_sort_1 : decode cX4_sort 1 = .ok (.invokevirtual 38, 3) := by decide +kernel
theorem dX4_sort_4 : decode cX4_sort 4 = .ok (.aload_n 0, 1) := by decide +kernel
end
section
theorem dX4_sort_5 : decode cX4_sort 5 = .ok (.aload_n 0, 1) := by decide +kernel
theorem dX4_sort_6 : decode cX4_sort 6 = .ok (.getfield 10, 3) := by decide +kernel
theorem dX4_sort_9 : decode cX4_sort 9 = .ok (.getfield 41, 3) := by decide +kernel
theorem dX4_sort_12 : decode cX4_sort 12 = .ok (.iload_n 1, 1) := by decide +kernel
theorem dX4_sort_13 : decode cX4_sort 13 = .ok (.invokevirtual 67, 3) := by decide +kernel
theorem dX4_sort_16 : decode cX4_sort 16 = .ok (.invokevirtual 51, 3) := by decide +kernel
theorem dX4_sort_19 : decode cX4_sort 19 = .ok (.ireturn, 1) := by decide +kernel
set_option maxRecDepth 20000 in
theorem ggX4_draw_X4_prepare : GoodIn wsX4_draw wsX4_prepare := goodIn_r _ [7, 8, 9, 1, 10, 11, 12, 13, 14, 15, 16, 17, 18, 19, 20, 21, 22, 23, 24, 25, 26, 27, 28, 29, 30, 31, 54, 55, 56, 57, 58, 59, 60, 61, 62, 63, 64, 65, 66, 67] (by decide +kernel) (by decide +kernel)
set_option maxRecDepth 20000 in
theorem gX4_draw_X4_prepare : GoodIn wsX4_draw (wsV RX4 38 RX4 yX4_prepare wsX4_prepare) := goodIn_app (goodIn_of _ (by decide +kernel)) ggX4_draw_X4_prepare
set_option maxRecDepth 20000 in
theorem ggX4_draw_X1_paint : GoodIn wsX4_draw wsX1_paint := goodIn_r _ [35, 30, 36, 37, 6, 38, 39, 40, 41, 42, 43, 44, 45, 63, 64, 65, 66, 67] (by decide +kernel) (by decide +kernel)
set_option maxRecDepth 20000 in
theorem gX4_draw_X1_paint : GoodIn wsX4_draw (wsV RX4 70 RX1 yX1_paint wsX1_paint) := goodIn_app (goodIn_of _ (by decide +kernel)) ggX4_draw_X1_paint
set_option maxRecDepth 20000 in
theorem ggX4_draw_X4_finish : GoodIn wsX4_draw wsX4_finish := goodIn_r _ [49, 9, 50, 51, 52, 6, 53, 8, 54, 55, 56, 57, 58, 59] (by decide +kernel) (by decide +kernel)
set_option maxRecDepth 20000 in
theorem gX4_draw_X4_finish : GoodIn wsX4_draw (wsV RX4 51 RX4 yX4_finish wsX4_finish) := goodIn_app (goodIn_of _ (by decide +kernel)) ggX4_draw_X4_finish
theorem dX4_draw_0 : decode cX4_draw 0 = .ok (.aload_n 0, 1) := by decide +kernel
theorem dX4_draw_1 : decode cX4_draw 1 = .ok (.invokevirtual 38, 3) := by decide +kernel
theorem dX4_draw_4 : decode cX4_draw 4 = .ok (.aload_n 0, 1) := by decide +kernel
theorem dX4_draw_5 : decode cX4_draw 5 = .ok (.aload_n 0, 1) := by decide +kernel
theorem dX4_draw_6 : decode cX4_draw 6 = .ok (.getfield 10, 3) := by decide +kernel
theorem dX4_draw_9 : decode cX4_draw 9 = .ok (.getfield 41, 3) := by decide +kernel
theorem dX4_draw_12 : decode cX4_draw 12 = .ok (.iload_n 1, 1) := by decide +kernel
theorem dX4_draw_13 : decode cX4_draw 13 = .ok (.iload_n 2, 1) := by decide +kernel
theorem dX4_draw_14 : decode cX4_draw 14 = .ok (.iload_n 3, 1) := by decide +kernel
theorem dX4_draw_15 : decode cX4_draw 15 = .ok (.invokevirtual 70, 3) := by decide +kernel
theorem dX4_draw_18 : decode cX4_draw 18 = .ok (.invokevirtual 51, 3) := by decide +kernel
theorem dX4_draw_21 : decode cX4_draw 21 = .ok (.ireturn, 1) := by decide +kernel
set_option maxRecDepth 20000 in
theorem ggX4_take_X4_prepare : GoodIn wsX4_take wsX4_prepare := goodIn_r _ [6, 7, 8, 1, 9, 10, 11, 12, 13, 14, 15, 16, 17, 18, 19, 20, 21, 22, 23, 24, 25, 26, 27, 28, 29, 30, 47, 48, 49, 50, 51, 52, 53, 54, 55, 56, 57, 58, 59, 60] (by decide +kernel) (by decide +kernel)
set_option maxRecDepth 20000 in
theorem gX4_take_X4_prepare : GoodIn wsX4_take (wsV RX4 38 RX4 yX4_prepare wsX4_prepare) := goodIn_app (goodIn_of _ (by decide +kernel)) ggX4_take_X4_prepare
set_option maxRecDepth 20000 in
theorem ggX4_take_X2_keepSnapshot : GoodIn wsX4_take wsX2_keepSnapshot := goodIn_r _ [34, 15, 14, 16, 35, 36, 37, 12, 38, 17, 18, 19, 20, 21, 22, 23, 24, 25, 26, 27, 28, 29, 30, 53, 54, 55, 56, 57, 58, 59, 60] (by decide +kernel) (by decide +kernel)
set_option maxRecDepth 20000 in
theorem gX4_take_X2_keepSnapshot : GoodIn wsX4_take (wsV RX4 74 RX2 yX2_keepSnapshot wsX2_keepSnapshot) := goodIn_app (goodIn_of _ (by decide +kernel)) ggX4_take_X2_keepSnapshot
set_option maxRecDepth 20000 in
theorem ggX4_take_X4_finish : GoodIn wsX4_take wsX4_finish := goodIn_r _ [42, 8, 43, 44, 45, 5, 46, 7, 47, 48, 49, 50, 51, 52] (by decide +kernel) (by decide +kernel)
set_option maxRecDepth 20000 in
theorem gX4_take_X4_finish : GoodIn wsX4_take (wsV RX4 51 RX4 yX4_finish wsX4_finish) := goodIn_app (goodIn_of _ (by decide +kernel)) ggX4_take_X4_finish
theorem dX4_take_0 : decode cX4_take 0 = .ok (.aload_n 0, 1) := by decide +kernel
theorem dX4_take_1 : decode cX4_take 1 = .ok (.invokevirtual 38, 3) := by decide +kernel
theorem dX4_take_4 : decode cX4_take 4 = .ok (.aload_n 0, 1) := by decide +kernel
theorem dX4_take_5 : decode cX4_take 5 = .ok (.aload_n 0, 1) := by decide +kernel
theorem dX4_take_6 : decode cX4_take 6 = .ok (.getfield 10, 3) := by decide +kernel
theorem dX4_take_9 : decode cX4_take 9 = .ok (.iload_n 1, 1) := by decide +kernel
theorem dX4_take_10 : decode cX4_take 10 = .ok (.invokevirtual 74, 3) := by decide +kernel
theorem dX4_take_13 : decode cX4_take 13 = .ok (.invokevirtual 51, 3) := by decide +kernel
theorem dX4_take_16 : decode cX4_take 16 = .ok (.ireturn, 1) := by decide +kernel
set_option maxRecDepth 20000 in
theorem ggX4_restore_X4_prepare : GoodIn wsX4_restore wsX4_prepare := goodIn_r _ [6, 7, 8, 1, 9, 10, 11, 12, 13, 14, 15, 16, 17, 18, 19, 20, 21, 22, 23, 24, 25, 26, 27, 28, 29, 30, 47, 48, 49, 50, 51, 52, 53, 54, 55, 56, 57, 58, 59, 60] (by decide +kernel) (by decide +kernel)
set_option maxRecDepth 20000 in
theorem gX4_restore_X4_prepare : GoodIn wsX4_restore (wsV RX4 38 RX4 yX4_prepare wsX4_prepare) := goodIn_app (goodIn_of _ (by decide +kernel)) ggX4_restore_X4_prepare
set_option maxRecDepth 20000 in
theorem ggX4_restore_X2_showSnapshot : GoodIn wsX4_restore wsX2_showSnapshot := goodIn_r _ [34, 16, 14, 15, 35, 36, 37, 12, 38, 17, 18, 19, 20, 21, 22, 23, 24, 25, 26, 27, 28, 29, 30, 53, 54, 55, 56, 57, 58, 59, 60] (by decide +kernel) (by decide +kernel)
set_option maxRecDepth 20000 in
theorem gX4_restore_X2_showSnapshot : GoodIn wsX4_restore (wsV RX4 77 RX2 yX2_showSnapshot wsX2_showSnapshot) := goodIn_app (goodIn_of _ (by decide +kernel)) ggX4_restore_X2_showSnapshot
set_option maxRecDepth 20000 in
theorem ggX4_restore_X4_finish : GoodIn wsX4_restore wsX4_finish := goodIn_r _ [42, 8, 43, 44, 45, 5, 46, 7, 47, 48, 49, 50, 51, 52] (by decide +kernel) (by decide +kernel)
set_option maxRecDepth 20000 in
theorem gX4_restore_X4_finish : GoodIn wsX4_restore (wsV RX4 51 RX4 yX4_finish wsX4_finish) := goodIn_app (goodIn_of _ (by decide +kernel)) ggX4_restore_X4_finish
theorem dX4_restore_0 : decode cX4_restore 0 = .ok (.aload_n 0, 1) := by decide +kernel
theorem dX4_restore_1 : decode cX4_restore 1 = .ok (.invokevirtual 38, 3) := by decide +kernel
theorem dX4_restore_4 : decode cX4_restore 4 = .ok (.aload_n 0, 1) := by decide +kernel
theorem dX4_restore_5 : decode cX4_restore 5 = .ok (.aload_n 0, 1) := by decide +kernel
theorem dX4_restore_6 : decode cX4_restore 6 = .ok (.getfield 10, 3) := by decide +kernel
theorem dX4_restore_9 : decode cX4_restore 9 = .ok (.iload_n 1, 1) := by decide +kernel
theorem dX4_restore_10 : decode cX4_restore 10 = .ok (.invokevirtual 77, 3) := by decide +kernel
theorem dX4_restore_13 : decode cX4_restore 13 = .ok (.invokevirtual 51, 3) := by decide +kernel
theorem dX4_restore_16 : decode cX4_restore 16 = .ok (.ireturn, 1) := by decide +kernel
set_option maxRecDepth 20000 in
theorem ggX4_undo_X2_copyFrom : GoodIn wsX4_undo wsX2_copyFrom := goodIn_r _ [8, 9, 10, 11, 12, 13, 14, 15, 16, 17, 18, 19, 20, 21, 22, 23, 24, 25, 32, 33, 34, 35, 36, 37, 38, 39] (by decide +kernel) (by decide +kernel)
set_option maxRecDepth 20000 in
theorem gX4_undo_X2_copyFrom : GoodIn wsX4_undo (wsV RX4 84 RX2 yX2_copyFrom wsX2_copyFrom) := goodIn_app (goodIn_of _ (by decide +kernel)) ggX4_undo_X2_copyFrom
theorem dX4_undo_0 : decode cX4_undo 0 = .ok (.aload_n 0, 1) := by decide +kernel
theorem dX4_undo_1 : decode cX4_undo 1 = .ok (.getfield 80, 3) := by decide +kernel
theorem dX4_undo_4 : decode cX4_undo 4 = .ok (.iconst 1, 1) := by decide +kernel
theorem dX4_undo_5 : decode cX4_undo 5 = .ok (.if_icmp .ge 6, 3) := by decide +kernel
theorem dX4_undo_8 : decode cX4_undo 8 = .ok (.bipush (-2), 2) := by decide +kernel
theorem dX4_undo_10 : decode cX4_undo 10 = .ok (.ireturn, 1) := by decide +kernel
theorem dX4_undo_11 : decode cX4_undo 11 = .ok (.aload_n 0, 1) := by decide +kernel
theorem dX4_undo_12 : decode cX4_undo 12 = .ok (.dup, 1) := by decide +kernel
theorem dX4_undo_13 : decode cX4_undo 13 = .ok (.getfield 80, 3) := by decide +kernel
theorem dX4_undo_16 : decode cX4_undo 16 = .ok (.iconst 1, 1) := by decide +kernel
theorem dX4_undo_17 : decode cX4_undo 17 = .ok (.isub, 1) := by decide +kernel
theorem dX4_undo_18 : decode cX4_undo 18 = .ok (.putfield 80, 3) := by decide +kernel
theorem dX4_undo_21 : decode cX4_undo 21 = .ok (.aload_n 0, 1) := by decide +kernel
theorem dX4_undo_22 : decode cX4_undo 22 = .ok (.getfield 10, 3) := by decide +kernel
theorem dX4_undo_25 : decode cX4_undo 25 = .ok (.aload_n 0, 1) := by decide +kernel
theorem dX4_undo_26 : decode cX4_undo 26 = .ok (.getfield 16, 3) := by decide +kernel
theorem dX4_undo_29 : decode cX4_undo 29 = .ok (.aload_n 0, 1) := by decide +kernel
theorem dX4_undo_30 : decode cX4_undo 30 = .ok (.getfield 80, 3) := by decide +kernel
theorem dX4_undo_33 : decode cX4_undo 33 = .ok (.aaload, 1) := by decide +kernel
theorem dX4_undo_34 : decode cX4_undo 34 = .ok (.invokevirtual 84, 3) := by decide +kernel
theorem dX4_undo_37 : decode cX4_undo 37 = .ok (.aload_n 0, 1) := by decide +kernel
theorem dX4_undo_38 : decode cX4_undo 38 = .ok (.getfield 80, 3) := by decide +kernel
theorem dX4_undo_41 : decode cX4_undo 41 = .ok (.ireturn, 1) := by decide +kernel
set_option maxRecDepth 20000 in
theorem ggX4_append_X0_addCharacter : GoodIn wsX4_append wsX0_addCharacter := goodIn_r _ [6, 7, 8, 15, 16, 17, 18] (by decide +kernel) (by decide +kernel)
set_option maxRecDepth 20000 in
theorem gX4_append_X0_addCharacter : GoodIn wsX4_append (wsV RX4 88 RX0 yX0_addCharacter wsX0_addCharacter) := goodIn_app (goodIn_of _ (by decide +kernel)) ggX4_append_X0_addCharacter
theorem dX4_append_0 : decode cX4_append 0 = .ok (.aload_n 0, 1) := by decide +kernel
theorem dX4_append_1 : decode cX4_append 1 = .ok (.getfield 23, 3) := by decide +kernel
theorem dX4_append_4 : decode cX4_append 4 = .ok (.iload_n 1, 1) := by decide +kernel
theorem dX4_append_5 : decode cX4_append 5 = .ok (.invokevirtual 88, 3) := by decide +kernel
theorem dX4_append_8 : decode cX4_append 8 = .ok (.ireturn, 1) := by decide +kernel
set_option maxRecDepth 20000 in
theorem ggX4_clearText_X0_empty : GoodIn wsX4_clearText wsX0_empty := goodIn_r _ [6, 7, 14, 15, 16, 17] (by decide +kernel) (by decide +kernel)
set_option maxRecDepth 20000 in
theorem gX4_clearText_X0_empty : GoodIn wsX4_clearText (wsV RX4 91 RX0 yX0_empty wsX0_empty) := goodIn_app (goodIn_of _ (by decide +kernel)) ggX4_clearText_X0_empty
theorem dX4_clearText_0 : decode cX4_clearText 0 = .ok (.aload_n 0, 1) := by decide +kernel
theorem dX4_clearText_1 : decode cX4_clearText 1 = .ok (.getfield 23, 3) := by decide +kernel
theorem dX4_clearText_4 : decode cX4_clearText 4 = .ok (.invokevirtual 91, 3) := by decide +kernel
theorem dX4_clearText_7 : decode cX4_clearText 7 = .ok (.ireturn, 1) := by decide +kernel
set_option maxRecDepth 20000 in
theorem ggX4_run_X4_prepare : GoodIn wsX4_run wsX4_prepare := goodIn_r _ [10, 4, 5, 2, 11, 12, 13, 14, 15, 16, 17, 18, 19, 20, 21, 22, 23, 24, 25, 26, 27, 28, 29, 30, 31, 32, 209, 210, 211, 212, 213, 214, 215, 216, 217, 218, 219, 220, 221, 222] (by decide +kernel) (by decide +kernel)
set_option maxRecDepth 20000 in
theorem gX4_run_X4_prepare : GoodIn wsX4_run (wsV RX4 38 RX4 yX4_prepare wsX4_prepare) := goodIn_app (goodIn_of _ (by decide +kernel)) ggX4_run_X4_prepare
set_option maxRecDepth 20000 in
theorem ggX4_run_X0_runOn : GoodIn wsX4_run wsX0_runOn := goodIn_r _ [37, 38, 39, 40, 41, 42, 36, 43, 44, 45, 46, 47, 48, 49, 50, 51, 52, 53, 54, 55, 56, 57, 58, 59, 60, 61, 62, 63, 64, 65, 66, 67, 68, 69, 70, 71, 72, 73, 74, 75, 76, 77, 78, 79, 80, 81, 82, 83, 84, 85, 86, 87, 88, 89, 90, 91, 92, 93, 94, 95, 96, 97, 98, 99, 100, 101, 102, 103, 104, 105, 106, 107, 108, 109, 110, 111, 112, 113, 114, 115, 116, 117, 118, 119, 120, 121, 122, 123, 124, 125, 126, 127, 22, 128, 30, 29, 129, 9, 130, 131, 132, 133, 134, 135, 136, 137, 138, 139, 140, 141, 142, 24, 143, 144, 145, 146, 147, 148, 31, 149, 150, 151, 152, 153, 154, 155, 156, 157, 158, 159, 160, 161, 162, 163, 164, 165, 166, 167, 168, 169, 170, 171, 172, 173, 174, 175, 176, 177, 178, 179, 180, 181, 182, 183, 184, 185, 186, 187, 188, 32, 189, 190, 191, 192, 193, 194, 195, 196, 223, 224, 225, 226, 218, 219, 220, 221, 222] (by decide +kernel) (by decide +kernel)
set_option maxRecDepth 20000 in
theorem gX4_run_X0_runOn : GoodIn wsX4_run (wsV RX4 95 RX0 yX0_runOn wsX0_runOn) := goodIn_app (goodIn_of _ (by decide +kernel)) ggX4_run_X0_runOn
set_option maxRecDepth 20000 in
theorem ggX4_run_X2_copyFrom : GoodIn wsX4_run wsX2_copyFrom := goodIn_r _ [15, 16, 17, 18, 19, 20, 21, 22, 23, 24, 25, 26, 27, 28, 29, 30, 31, 32, 215, 216, 217, 218, 219, 220, 221, 222] (by decide +kernel) (by decide +kernel)
set_option maxRecDepth 20000 in
theorem gX4_run_X2_copyFrom : GoodIn wsX4_run (wsV RX4 84 RX2 yX2_copyFrom wsX2_copyFrom) := goodIn_app (goodIn_of _ (by decide +kernel)) ggX4_run_X2_copyFrom
set_option maxRecDepth 20000 in
theorem ggX4_run_X0_empty : GoodIn wsX4_run wsX0_empty := goodIn_r _ [200, 39, 223, 224, 225, 226] (by decide +kernel) (by decide +kernel)
set_option maxRecDepth 20000 in
theorem gX4_run_X0_empty : GoodIn wsX4_run (wsV RX4 91 RX0 yX0_empty wsX0_empty) := goodIn_app (goodIn_of _ (by decide +kernel)) ggX4_run_X0_empty
set_option maxRecDepth 20000 in
theorem ggX4_run_X4_finish : GoodIn wsX4_run wsX4_finish := goodIn_r _ [204, 5, 205, 206, 207, 9, 208, 4, 209, 210, 211, 212, 213, 214] (by decide +kernel) (by decide +kernel)
set_option maxRecDepth 20000 in
theorem gX4_run_X4_finish : GoodIn wsX4_run (wsV RX4 51 RX4 yX4_finish wsX4_finish) := goodIn_app (goodIn_of _ (by decide +kernel)) ggX4_run_X4_finish
theorem dX4_run_0 : decode cX4_run 0 = .ok (.aload_n 0, 1) := by decide +kernel
theorem dX4_run_1 : decode cX4_run 1 = .ok (.invokevirtual 38, 3) := by decide +kernel
theorem dX4_run_4 : decode cX4_run 4 = .ok (.aload_n 0, 1) := by decide +kernel
theorem dX4_run_5 : decode cX4_run 5 = .ok (.getfield 23, 3) := by decide +kernel
theorem dX4_run_8 : decode cX4_run 8 = .ok (.aload_n 0, 1) := by decide +kernel
theorem dX4_run_9 : decode cX4_run 9 = .ok (.getfield 10, 3) := by decide +kernel
theorem dX4_run_12 : decode cX4_run 12 = .ok (.getfield 41, 3) := by decide +kernel
theorem dX4_run_15 : decode cX4_run 15 = .ok (.invokevirtual 95, 3) := by decide +kernel
theorem dX4_run_18 : decode cX4_run 18 = .ok (.istore_n 1, 1) := by decide +kernel
theorem dX4_run_19 : decode cX4_run 19 = .ok (.iload_n 1, 1) := by decide +kernel
theorem dX4_run_20 : decode cX4_run 20 = .ok (.ifCond .ge 21, 3) := by decide +kernel
theorem dX4_run_23 : decode cX4_run 23 = .ok (.aload_n 0, 1) := by decide +kernel
theorem dX4_run_24 : decode cX4_run 24 = .ok (.getfield 10, 3) := by decide +kernel
theorem dX4_run_27 : decode cX4_run 27 = .ok (.aload_n 0, 1) := by decide +kernel
theorem dX4_run_28 : decode cX4_run 28 = .ok (.getfield 16, 3) := by decide +kernel
theorem dX4_run_31 : decode cX4_run 31 = .ok (.aload_n 0, 1) := by decide +kernel
theorem dX4_run_32 : decode cX4_run 32 = .ok (.getfield 80, 3) := by decide +kernel
theorem dX4_run_35 : decode cX4_run 35 = .ok (.aaload, 1) := by decide +kernel
theorem dX4_run_36 : decode cX4_run 36 = .ok (.invokevirtual 84, 3) := by decide +kernel
theorem dX4_run_39 : decode cX4_run 39 = .ok (.iload_n 1, 1) := by decide +kernel
theorem dX4_run_40 : decode cX4_run 40 = .ok (.ireturn, 1) := by decide +kernel
theorem dX4_run_41 : decode cX4_run 41 = .ok (.aload_n 0, 1) := by decide +kernel
theorem dX4_run_42 : decode cX4_run 42 = .ok (.getfield 23, 3) := by decide +kernel
theorem dX4_run_45 : decode cX4_run 45 = .ok (.invokevirtual 91, 3) := by decide +kernel
theorem dX4_run_48 : decode cX4_run 48 = .ok (.pop, 1) := by decide +kernel
theorem dX4_run_49 : decode cX4_run 49 = .ok (.aload_n 0, 1) := by decide +kernel
theorem dX4_run_50 : decode cX4_run 50 = .ok (.iload_n 1, 1) := by decide +kernel
theorem dX4_run_51 : decode cX4_run 51 = .ok (.invokevirtual 51, 3) := by decide +kernel
theorem dX4_run_54 : decode cX4_run 54 = .ok (.ireturn, 1) := by decide +kernel
set_option maxRecDepth 20000 in
theorem ggX4_count_X1_litSize : GoodIn wsX4_count wsX1_litSize := goodIn_r _ [12, 13, 14, 15, 16, 17, 11, 18, 19, 20, 21, 22, 23, 24, 25, 26, 114, 115, 116, 117, 118] (by decide +kernel) (by decide +kernel)
set_option maxRecDepth 20000 in
theorem gX4_count_X1_litSize : GoodIn wsX4_count (wsV RX4 105 RX1 yX1_litSize wsX1_litSize) := goodIn_app (goodIn_of _ (by decide +kernel)) ggX4_count_X1_litSize
set_option maxRecDepth 20000 in
theorem ggX4_count_J13_bitCount_95d88 : GoodIn wsX4_count wsJ13_bitCount_95d88 := goodIn_r _ [30, 31, 32, 33] (by decide +kernel) (by decide +kernel)
set_option maxRecDepth 20000 in
theorem gX4_count_J13_bitCount_95d88 : GoodIn wsX4_count (va_wsS RX4 112 yJ13_bitCount_95d88 wsJ13_bitCount_95d88) := goodIn_app (goodIn_of _ (by decide +kernel)) ggX4_count_J13_bitCount_95d88
set_option maxRecDepth 20000 in
theorem ggX4_count_X1_seenByEye : GoodIn wsX4_count wsX1_seenByEye := goodIn_r _ [37, 14, 38, 39, 40, 11, 41, 13, 19, 42, 43, 44, 45, 46, 47, 48, 49, 50, 51, 52, 53, 15, 16, 17, 18, 20, 21, 22, 23, 24, 25, 26, 54, 55, 56, 57, 58, 59, 60, 61, 62, 63, 64, 65, 66, 67, 68, 69, 70, 114, 115, 116, 117, 118] (by decide +kernel) (by decide +kernel)
set_option maxRecDepth 20000 in
theorem gX4_count_X1_seenByEye : GoodIn wsX4_count (wsV RX4 118 RX1 yX1_seenByEye wsX1_seenByEye) := goodIn_app (goodIn_of _ (by decide +kernel)) ggX4_count_X1_seenByEye
set_option maxRecDepth 20000 in
theorem ggX4_count_X1_seenByShutter : GoodIn wsX4_count wsX1_seenByShutter := goodIn_r _ [74, 14, 75, 76, 77, 11, 78, 38, 39, 40, 41, 13, 19, 42, 43, 44, 45, 46, 47, 48, 49, 50, 51, 52, 53, 15, 16, 17, 18, 20, 21, 22, 23, 24, 25, 26, 54, 55, 56, 57, 58, 59, 60, 61, 62, 63, 64, 65, 66, 67, 68, 69, 70, 114, 115, 116, 117, 118] (by decide +kernel) (by decide +kernel)
set_option maxRecDepth 20000 in
theorem gX4_count_X1_seenByShutter : GoodIn wsX4_count (wsV RX4 122 RX1 yX1_seenByShutter wsX1_seenByShutter) := goodIn_app (goodIn_of _ (by decide +kernel)) ggX4_count_X1_seenByShutter
set_option maxRecDepth 20000 in
theorem ggX4_count_X1_wrong : GoodIn wsX4_count wsX1_wrong := goodIn_r _ [82, 83, 114, 115, 116, 117, 118] (by decide +kernel) (by decide +kernel)
set_option maxRecDepth 20000 in
theorem gX4_count_X1_wrong : GoodIn wsX4_count (wsV RX4 126 RX1 yX1_wrong wsX1_wrong) := goodIn_app (goodIn_of _ (by decide +kernel)) ggX4_count_X1_wrong
set_option maxRecDepth 20000 in
theorem ggX4_count_X1_sumOfWays : GoodIn wsX4_count wsX1_sumOfWays := goodIn_r _ [87, 13, 19, 20, 21, 22, 23, 24, 25, 26, 114, 115, 116, 117, 118] (by decide +kernel) (by decide +kernel)
set_option maxRecDepth 20000 in
theorem gX4_count_X1_sumOfWays : GoodIn wsX4_count (wsV RX4 130 RX1 yX1_sumOfWays wsX1_sumOfWays) := goodIn_app (goodIn_of _ (by decide +kernel)) ggX4_count_X1_sumOfWays
set_option maxRecDepth 20000 in
theorem ggX4_count_X1_arrival : GoodIn wsX4_count wsX1_arrival := goodIn_r _ [18, 13, 19, 14, 20, 21, 22, 23, 24, 25, 26, 114, 115, 116, 117, 118] (by decide +kernel) (by decide +kernel)
set_option maxRecDepth 20000 in
theorem gX4_count_X1_arrival : GoodIn wsX4_count (wsV RX4 133 RX1 yX1_arrival wsX1_arrival) := goodIn_app (goodIn_of _ (by decide +kernel)) ggX4_count_X1_arrival
set_option maxRecDepth 20000 in
theorem ggX4_count_X2_snapshots : GoodIn wsX4_count wsX2_snapshots := goodIn_r _ [93, 94, 111, 112, 113] (by decide +kernel) (by decide +kernel)
set_option maxRecDepth 20000 in
theorem gX4_count_X2_snapshots : GoodIn wsX4_count (wsV RX4 136 RX2 yX2_snapshots wsX2_snapshots) := goodIn_app (goodIn_of _ (by decide +kernel)) ggX4_count_X2_snapshots
set_option maxRecDepth 20000 in
theorem ggX4_count_X0_size : GoodIn wsX4_count wsX0_size := goodIn_r _ [99, 100, 119, 120, 121, 122] (by decide +kernel) (by decide +kernel)
set_option maxRecDepth 20000 in
theorem gX4_count_X0_size : GoodIn wsX4_count (wsV RX4 139 RX0 yX0_size wsX0_size) := goodIn_app (goodIn_of _ (by decide +kernel)) ggX4_count_X0_size
set_option maxRecDepth 20000 in
theorem ggX4_count_X4_settingCount : GoodIn wsX4_count wsX4_settingCount := goodIn_r _ [104, 1, 2, 3, 105, 106, 107, 108, 109, 110, 111, 112, 113, 114, 115, 116, 117, 118] (by decide +kernel) (by decide +kernel)
set_option maxRecDepth 20000 in
theorem gX4_count_X4_settingCount : GoodIn wsX4_count (wsV RX4 141 RX4 yX4_settingCount wsX4_settingCount) := goodIn_app (goodIn_of _ (by decide +kernel)) ggX4_count_X4_settingCount
theorem dX4_count_0 : decode cX4_count 0 = .ok (.aload_n 0, 1) := by decide +kernel
theorem dX4_count_1 : decode cX4_count 1 = .ok (.getfield 10, 3) := by decide +kernel
theorem dX4_count_4 : decode cX4_count 4 = .ok (.getfield 41, 3) := by decide +kernel
theorem dX4_count_7 : decode cX4_count 7 = .ok (.astore_n 2, 1) := by decide +kernel
theorem dX4_count_8 : decode cX4_count 8 = .ok (.aload_n 2, 1) := by decide +kernel
theorem dX4_count_9 : decode cX4_count 9 = .ok (.getfield 99, 3) := by decide +kernel
theorem dX4_count_12 : decode cX4_count 12 = .ok (.iconst 4, 1) := by decide +kernel
theorem dX4_count_13 : decode cX4_count 13 = .ok (.iaload, 1) := by decide +kernel
theorem dX4_count_14 : decode cX4_count 14 = .ok (.istore_n 3, 1) := by decide +kernel
theorem dX4_count_15 : decode cX4_count 15 = .ok (.iload_n 1, 1) := by decide +kernel
theorem dX4_count_16 : decode cX4_count 16 = .ok (.tableswitch 191 0 12 #[68, 73, 78, 88, 98, 106, 115, 128, 142, 147, 170, 178, 183], 68) := by decide +kernel
theorem dX4_count_84 : decode cX4_count 84 = .ok (.aload_n 2, 1) := by decide +kernel
theorem dX4_count_85 : decode cX4_count 85 = .ok (.getfield 102, 3) := by decide +kernel
theorem dX4_count_88 : decode cX4_count 88 = .ok (.ireturn, 1) := by decide +kernel
theorem dX4_count_89 : decode cX4_count 89 = .ok (.aload_n 2, 1) := by decide +kernel
theorem dX4_count_90 : decode cX4_count 90 = .ok (.invokevirtual 105, 3) := by decide +kernel
theorem dX4_count_93 : decode cX4_count 93 = .ok (.ireturn, 1) := by decide +kernel
theorem dX4_count_94 : decode cX4_count 94 = .ok (.aload_n 2, 1) := by decide +kernel
theorem dX4_count_95 : decode cX4_count 95 = .ok (.getfield 108, 3) := by decide +kernel
theorem dX4_count_98 : decode cX4_count 98 = .ok (.iconst 0, 1) := by decide +kernel
theorem dX4_count_99 : decode cX4_count 99 = .ok (.laload, 1) := by decide +kernel
theorem dX4_count_100 : decode cX4_count 100 = .ok (.invokestatic 112, 3) := by decide +kernel
theorem dX4_count_103 : decode cX4_count 103 = .ok (.ireturn, 1) := by decide +kernel
theorem dX4_count_104 : decode cX4_count 104 = .ok (.aload_n 2, 1) := by decide +kernel
theorem dX4_count_105 : decode cX4_count 105 = .ok (.getfield 108, 3) := by decide +kernel
theorem dX4_count_108 : decode cX4_count 108 = .ok (.iconst 1, 1) := by decide +kernel
theorem dX4_count_109 : decode cX4_count 109 = .ok (.laload, 1) := by decide +kernel
theorem dX4_count_110 : decode cX4_count 110 = .ok (.invokestatic 112, 3) := by decide +kernel
theorem dX4_count_113 : decode cX4_count 113 = .ok (.ireturn, 1) := by decide +kernel
theorem dX4_count_114 : decode cX4_count 114 = .ok (.aload_n 2, 1) := by decide +kernel
theorem dX4_count_115 : decode cX4_count 115 = .ok (.invokevirtual 118, 3) := by decide +kernel
theorem dX4_count_118 : decode cX4_count 118 = .ok (.invokestatic 112, 3) := by decide +kernel
theorem dX4_count_121 : decode cX4_count 121 = .ok (.ireturn, 1) := by decide +kernel
theorem dX4_count_122 : decode cX4_count 122 = .ok (.aload_n 2, 1) := by decide +kernel
theorem dX4_count_123 : decode cX4_count 123 = .ok (.iload_n 3, 1) := by decide +kernel
theorem dX4_count_124 : decode cX4_count 124 = .ok (.invokevirtual 122, 3) := by decide +kernel
theorem dX4_count_127 : decode cX4_count 127 = .ok (.invokestatic 112, 3) := by decide +kernel
theorem dX4_count_130 : decode cX4_count 130 = .ok (.ireturn, 1) := by decide +kernel
theorem dX4_count_131 : decode cX4_count 131 = .ok (.aload_n 2, 1) := by decide +kernel
theorem dX4_count_132 : decode cX4_count 132 = .ok (.iconst 0, 1) := by decide +kernel
theorem dX4_count_133 : decode cX4_count 133 = .ok (.aload_n 2, 1) := by decide +kernel
theorem dX4_count_134 : decode cX4_count 134 = .ok (.invokevirtual 118, 3) := by decide +kernel
theorem dX4_count_137 : decode cX4_count 137 = .ok (.invokevirtual 126, 3) := by decide +kernel
theorem dX4_count_140 : decode cX4_count 140 = .ok (.invokestatic 112, 3) := by decide +kernel
theorem dX4_count_143 : decode cX4_count 143 = .ok (.ireturn, 1) := by decide +kernel
theorem dX4_count_144 : decode cX4_count 144 = .ok (.aload_n 2, 1) := by decide +kernel
theorem dX4_count_145 : decode cX4_count 145 = .ok (.iconst 1, 1) := by decide +kernel
theorem dX4_count_146 : decode cX4_count 146 = .ok (.aload_n 2, 1) := by decide +kernel
theorem dX4_count_147 : decode cX4_count 147 = .ok (.iload_n 3, 1) := by decide +kernel
theorem dX4_count_148 : decode cX4_count 148 = .ok (.invokevirtual 122, 3) := by decide +kernel
theorem dX4_count_151 : decode cX4_count 151 = .ok (.invokevirtual 126, 3) := by decide +kernel
theorem dX4_count_154 : decode cX4_count 154 = .ok (.invokestatic 112, 3) := by decide +kernel
theorem dX4_count_157 : decode cX4_count 157 = .ok (.ireturn, 1) := by decide +kernel
theorem dX4_count_158 : decode cX4_count 158 = .ok (.aload_n 2, 1) := by decide +kernel
theorem dX4_count_159 : decode cX4_count 159 = .ok (.invokevirtual 130, 3) := by decide +kernel
theorem dX4_count_162 : decode cX4_count 162 = .ok (.ireturn, 1) := by decide +kernel
theorem dX4_count_163 : decode cX4_count 163 = .ok (.aload_n 2, 1) := by decide +kernel
theorem dX4_count_164 : decode cX4_count 164 = .ok (.invokevirtual 105, 3) := by decide +kernel
theorem dX4_count_167 : decode cX4_count 167 = .ok (.ifCond .le 16, 3) := by decide +kernel
theorem dX4_count_170 : decode cX4_count 170 = .ok (.aload_n 2, 1) := by decide +kernel
theorem dX4_count_171 : decode cX4_count 171 = .ok (.aload_n 2, 1) := by decide +kernel
theorem dX4_count_172 : decode cX4_count 172 = .ok (.invokevirtual 105, 3) := by decide +kernel
theorem dX4_count_175 : decode cX4_count 175 = .ok (.iconst 1, 1) := by decide +kernel
theorem dX4_count_176 : decode cX4_count 176 = .ok (.isub, 1) := by decide +kernel
theorem dX4_count_177 : decode cX4_count 177 = .ok (.invokevirtual 133, 3) := by decide +kernel
theorem dX4_count_180 : decode cX4_count 180 = .ok (.goto 5, 3) := by decide +kernel
theorem dX4_count_183 : decode cX4_count 183 = .ok (.bipush (-9), 2) := by decide +kernel
theorem dX4_count_185 : decode cX4_count 185 = .ok (.ireturn, 1) := by decide +kernel
theorem dX4_count_186 : decode cX4_count 186 = .ok (.aload_n 0, 1) := by decide +kernel
theorem dX4_count_187 : decode cX4_count 187 = .ok (.getfield 10, 3) := by decide +kernel
theorem dX4_count_190 : decode cX4_count 190 = .ok (.invokevirtual 136, 3) := by decide +kernel
theorem dX4_count_193 : decode cX4_count 193 = .ok (.ireturn, 1) := by decide +kernel
theorem dX4_count_194 : decode cX4_count 194 = .ok (.aload_n 0, 1) := by decide +kernel
theorem dX4_count_195 : decode cX4_count 195 = .ok (.getfield 80, 3) := by decide +kernel
theorem dX4_count_198 : decode cX4_count 198 = .ok (.ireturn, 1) := by decide +kernel
theorem dX4_count_199 : decode cX4_count 199 = .ok (.aload_n 0, 1) := by decide +kernel
theorem dX4_count_200 : decode cX4_count 200 = .ok (.getfield 23, 3) := by decide +kernel
theorem dX4_count_203 : decode cX4_count 203 = .ok (.invokevirtual 139, 3) := by decide +kernel
theorem dX4_count_206 : decode cX4_count 206 = .ok (.ireturn, 1) := by decide +kernel
theorem dX4_count_207 : decode cX4_count 207 = .ok (.aload_n 0, 1) := by decide +kernel
theorem dX4_count_208 : decode cX4_count 208 = .ok (.iload_n 1, 1) := by decide +kernel
theorem dX4_count_209 : decode cX4_count 209 = .ok (.invokevirtual 141, 3) := by decide +kernel
theorem dX4_count_212 : decode cX4_count 212 = .ok (.ireturn, 1) := by decide +kernel
set_option maxRecDepth 20000 in
theorem ggX4_spot_X4_isSpot : GoodIn wsX4_spot wsX4_isSpot := goodIn_r _ [9] (by decide +kernel) (by decide +kernel)
set_option maxRecDepth 20000 in
theorem gX4_spot_X4_isSpot : GoodIn wsX4_spot (va_wsS RX4 144 yX4_isSpot wsX4_isSpot) := goodIn_app (goodIn_of _ (by decide +kernel)) ggX4_spot_X4_isSpot
set_option maxRecDepth 20000 in
theorem ggX4_spot_X4_bit : GoodIn wsX4_spot wsX4_bit := goodIn_r _ [12] (by decide +kernel) (by decide +kernel)
set_option maxRecDepth 20000 in
theorem gX4_spot_X4_bit : GoodIn wsX4_spot (va_wsS RX4 151 yX4_bit wsX4_bit) := goodIn_app (goodIn_of _ (by decide +kernel)) ggX4_spot_X4_bit
set_option maxRecDepth 20000 in
theorem ggX4_spot_X1_positionOf : GoodIn wsX4_spot wsX1_positionOf := goodIn_r _ [17, 18, 19, 99, 100, 101, 102, 103] (by decide +kernel) (by decide +kernel)
set_option maxRecDepth 20000 in
theorem gX4_spot_X1_positionOf : GoodIn wsX4_spot (wsV RX4 155 RX1 yX1_positionOf wsX1_positionOf) := goodIn_app (goodIn_of _ (by decide +kernel)) ggX4_spot_X1_positionOf
set_option maxRecDepth 20000 in
theorem ggX4_spot_X1_litTick : GoodIn wsX4_spot wsX1_litTick := goodIn_r _ [23, 24, 25, 14, 15, 16, 17, 18, 19, 26, 27, 28, 29, 30, 8, 31, 32, 33, 34, 35, 99, 100, 101, 102, 103] (by decide +kernel) (by decide +kernel)
set_option maxRecDepth 20000 in
theorem gX4_spot_X1_litTick : GoodIn wsX4_spot (wsV RX4 158 RX1 yX1_litTick wsX1_litTick) := goodIn_app (goodIn_of _ (by decide +kernel)) ggX4_spot_X1_litTick
set_option maxRecDepth 20000 in
theorem ggX4_spot_X1_seenByEye : GoodIn wsX4_spot wsX1_seenByEye := goodIn_r _ [39, 24, 40, 41, 42, 16, 43, 18, 19, 44, 45, 46, 47, 48, 21, 22, 23, 25, 14, 15, 17, 26, 27, 28, 29, 30, 8, 31, 32, 33, 34, 35, 49, 50, 51, 52, 53, 54, 55, 56, 57, 58, 59, 60, 61, 62, 63, 64, 65, 99, 100, 101, 102, 103] (by decide +kernel) (by decide +kernel)
set_option maxRecDepth 20000 in
theorem gX4_spot_X1_seenByEye : GoodIn wsX4_spot (wsV RX4 118 RX1 yX1_seenByEye wsX1_seenByEye) := goodIn_app (goodIn_of _ (by decide +kernel)) ggX4_spot_X1_seenByEye
set_option maxRecDepth 20000 in
theorem ggX4_spot_X1_seenByShutter : GoodIn wsX4_spot wsX1_seenByShutter := goodIn_r _ [69, 24, 70, 71, 72, 16, 73, 40, 41, 42, 43, 18, 19, 44, 45, 46, 47, 48, 21, 22, 23, 25, 14, 15, 17, 26, 27, 28, 29, 30, 8, 31, 32, 33, 34, 35, 49, 50, 51, 52, 53, 54, 55, 56, 57, 58, 59, 60, 61, 62, 63, 64, 65, 99, 100, 101, 102, 103] (by decide +kernel) (by decide +kernel)
set_option maxRecDepth 20000 in
theorem gX4_spot_X1_seenByShutter : GoodIn wsX4_spot (wsV RX4 122 RX1 yX1_seenByShutter wsX1_seenByShutter) := goodIn_app (goodIn_of _ (by decide +kernel)) ggX4_spot_X1_seenByShutter
set_option maxRecDepth 20000 in
theorem ggX4_spot_X1_eyeMean : GoodIn wsX4_spot wsX1_eyeMean := goodIn_r _ [77, 24, 44, 45, 46, 16, 47, 48, 21, 22, 23, 25, 14, 15, 17, 18, 19, 26, 27, 28, 29, 30, 8, 31, 32, 33, 34, 35, 49, 50, 51, 52, 53, 54, 55, 56, 57, 58, 59, 60, 61, 62, 63, 64, 65, 99, 100, 101, 102, 103] (by decide +kernel) (by decide +kernel)
set_option maxRecDepth 20000 in
theorem gX4_spot_X1_eyeMean : GoodIn wsX4_spot (wsV RX4 161 RX1 yX1_eyeMean wsX1_eyeMean) := goodIn_app (goodIn_of _ (by decide +kernel)) ggX4_spot_X1_eyeMean
set_option maxRecDepth 20000 in
theorem ggX4_spot_X1_shutterMean : GoodIn wsX4_spot wsX1_shutterMean := goodIn_r _ [81, 70, 71, 72, 16, 73, 24, 44, 45, 46, 47, 48, 21, 22, 23, 25, 14, 15, 17, 18, 19, 26, 27, 28, 29, 30, 8, 31, 32, 33, 34, 35, 49, 50, 51, 52, 53, 54, 55, 56, 57, 58, 59, 60, 61, 62, 63, 64, 65, 99, 100, 101, 102, 103] (by decide +kernel) (by decide +kernel)
set_option maxRecDepth 20000 in
theorem gX4_spot_X1_shutterMean : GoodIn wsX4_spot (wsV RX4 164 RX1 yX1_shutterMean wsX1_shutterMean) := goodIn_app (goodIn_of _ (by decide +kernel)) ggX4_spot_X1_shutterMean
set_option maxRecDepth 20000 in
theorem ggX4_spot_X1_flicker : GoodIn wsX4_spot wsX1_flicker := goodIn_r _ [85, 24, 86, 57, 34, 58, 87, 88, 89, 48, 21, 22, 16, 23, 25, 14, 15, 17, 18, 19, 26, 27, 28, 29, 30, 8, 31, 32, 33, 35, 49, 50, 51, 52, 53, 54, 55, 56, 99, 100, 101, 102, 103] (by decide +kernel) (by decide +kernel)
set_option maxRecDepth 20000 in
theorem gX4_spot_X1_flicker : GoodIn wsX4_spot (wsV RX4 167 RX1 yX1_flicker wsX1_flicker) := goodIn_app (goodIn_of _ (by decide +kernel)) ggX4_spot_X1_flicker
theorem dX4_spot_0 : decode cX4_spot 0 = .ok (.iload_n 1, 1) := by decide +kernel
theorem dX4_spot_1 : decode cX4_spot 1 = .ok (.invokestatic 144, 3) := by decide +kernel
theorem dX4_spot_4 : decode cX4_spot 4 = .ok (.ifCond .ne 5, 3) := by decide +kernel
theorem dX4_spot_7 : decode cX4_spot 7 = .ok (.iconst (-1), 1) := by decide +kernel
theorem dX4_spot_8 : decode cX4_spot 8 = .ok (.ireturn, 1) := by decide +kernel
theorem dX4_spot_9 : decode cX4_spot 9 = .ok (.aload_n 0, 1) := by decide +kernel
theorem dX4_spot_10 : decode cX4_spot 10 = .ok (.getfield 10, 3) := by decide +kernel
theorem dX4_spot_13 : decode cX4_spot 13 = .ok (.getfield 41, 3) := by decide +kernel
theorem dX4_spot_16 : decode cX4_spot 16 = .ok (.astore_n 3, 1) := by decide +kernel
theorem dX4_spot_17 : decode cX4_spot 17 = .ok (.iload_n 2, 1) := by decide +kernel
theorem dX4_spot_18 : decode cX4_spot 18 = .ok (.tableswitch 143 0 9 #[54, 61, 72, 83, 89, 95, 104, 119, 125, 137], 54) := by decide +kernel
theorem dX4_spot_72 : decode cX4_spot 72 = .ok (.aload_n 3, 1) := by decide +kernel
theorem dX4_spot_73 : decode cX4_spot 73 = .ok (.getfield 148, 3) := by decide +kernel
theorem dX4_spot_76 : decode cX4_spot 76 = .ok (.iload_n 1, 1) := by decide +kernel
theorem dX4_spot_77 : decode cX4_spot 77 = .ok (.iaload, 1) := by decide +kernel
theorem dX4_spot_78 : decode cX4_spot 78 = .ok (.ireturn, 1) := by decide +kernel
theorem dX4_spot_79 : decode cX4_spot 79 = .ok (.aload_n 3, 1) := by decide +kernel
theorem dX4_spot_80 : decode cX4_spot 80 = .ok (.getfield 108, 3) := by decide +kernel
theorem dX4_spot_83 : decode cX4_spot 83 = .ok (.iconst 0, 1) := by decide +kernel
theorem dX4_spot_84 : decode cX4_spot 84 = .ok (.laload, 1) := by decide +kernel
theorem dX4_spot_85 : decode cX4_spot 85 = .ok (.iload_n 1, 1) := by decide +kernel
theorem dX4_spot_86 : decode cX4_spot 86 = .ok (.invokestatic 151, 3) := by decide +kernel
theorem dX4_spot_89 : decode cX4_spot 89 = .ok (.ireturn, 1) := by decide +kernel
theorem dX4_spot_90 : decode cX4_spot 90 = .ok (.aload_n 3, 1) := by decide +kernel
theorem dX4_spot_91 : decode cX4_spot 91 = .ok (.getfield 108, 3) := by decide +kernel
theorem dX4_spot_94 : decode cX4_spot 94 = .ok (.iconst 1, 1) := by decide +kernel
theorem dX4_spot_95 : decode cX4_spot 95 = .ok (.laload, 1) := by decide +kernel
theorem dX4_spot_96 : decode cX4_spot 96 = .ok (.iload_n 1, 1) := by decide +kernel
theorem dX4_spot_97 : decode cX4_spot 97 = .ok (.invokestatic 151, 3) := by decide +kernel
theorem dX4_spot_100 : decode cX4_spot 100 = .ok (.ireturn, 1) := by decide +kernel
theorem dX4_spot_101 : decode cX4_spot 101 = .ok (.aload_n 3, 1) := by decide +kernel
theorem dX4_spot_102 : decode cX4_spot 102 = .ok (.iload_n 1, 1) := by decide +kernel
theorem dX4_spot_103 : decode cX4_spot 103 = .ok (.invokevirtual 155, 3) := by decide +kernel
theorem dX4_spot_106 : decode cX4_spot 106 = .ok (.ireturn, 1) := by decide +kernel
theorem dX4_spot_107 : decode cX4_spot 107 = .ok (.aload_n 3, 1) := by decide +kernel
theorem dX4_spot_108 : decode cX4_spot 108 = .ok (.iload_n 1, 1) := by decide +kernel
theorem dX4_spot_109 : decode cX4_spot 109 = .ok (.invokevirtual 158, 3) := by decide +kernel
theorem dX4_spot_112 : decode cX4_spot 112 = .ok (.ireturn, 1) := by decide +kernel
theorem dX4_spot_113 : decode cX4_spot 113 = .ok (.aload_n 3, 1) := by decide +kernel
theorem dX4_spot_114 : decode cX4_spot 114 = .ok (.invokevirtual 118, 3) := by decide +kernel
theorem dX4_spot_117 : decode cX4_spot 117 = .ok (.iload_n 1, 1) := by decide +kernel
theorem dX4_spot_118 : decode cX4_spot 118 = .ok (.invokestatic 151, 3) := by decide +kernel
theorem dX4_spot_121 : decode cX4_spot 121 = .ok (.ireturn, 1) := by decide +kernel
theorem dX4_spot_122 : decode cX4_spot 122 = .ok (.aload_n 3, 1) := by decide +kernel
theorem dX4_spot_123 : decode cX4_spot 123 = .ok (.aload_n 3, 1) := by decide +kernel
theorem dX4_spot_124 : decode cX4_spot 124 = .ok (.getfield 99, 3) := by decide +kernel
theorem dX4_spot_127 : decode cX4_spot 127 = .ok (.iconst 4, 1) := by decide +kernel
theorem dX4_spot_128 : decode cX4_spot 128 = .ok (.iaload, 1) := by decide +kernel
theorem dX4_spot_129 : decode cX4_spot 129 = .ok (.invokevirtual 122, 3) := by decide +kernel
theorem dX4_spot_132 : decode cX4_spot 132 = .ok (.iload_n 1, 1) := by decide +kernel
theorem dX4_spot_133 : decode cX4_spot 133 = .ok (.invokestatic 151, 3) := by decide +kernel
theorem dX4_spot_136 : decode cX4_spot 136 = .ok (.ireturn, 1) := by decide +kernel
theorem dX4_spot_137 : decode cX4_spot 137 = .ok (.aload_n 3, 1) := by decide +kernel
theorem dX4_spot_138 : decode cX4_spot 138 = .ok (.iload_n 1, 1) := by decide +kernel
theorem dX4_spot_139 : decode cX4_spot 139 = .ok (.invokevirtual 161, 3) := by decide +kernel
theorem dX4_spot_142 : decode cX4_spot 142 = .ok (.ireturn, 1) := by decide +kernel
theorem dX4_spot_143 : decode cX4_spot 143 = .ok (.aload_n 3, 1) := by decide +kernel
theorem dX4_spot_144 : decode cX4_spot 144 = .ok (.iload_n 1, 1) := by decide +kernel
theorem dX4_spot_145 : decode cX4_spot 145 = .ok (.aload_n 3, 1) := by decide +kernel
theorem dX4_spot_146 : decode cX4_spot 146 = .ok (.getfield 99, 3) := by decide +kernel
theorem dX4_spot_149 : decode cX4_spot 149 = .ok (.iconst 4, 1) := by decide +kernel
theorem dX4_spot_150 : decode cX4_spot 150 = .ok (.iaload, 1) := by decide +kernel
theorem dX4_spot_151 : decode cX4_spot 151 = .ok (.invokevirtual 164, 3) := by decide +kernel
theorem dX4_spot_154 : decode cX4_spot 154 = .ok (.ireturn, 1) := by decide +kernel
theorem dX4_spot_155 : decode cX4_spot 155 = .ok (.aload_n 3, 1) := by decide +kernel
theorem dX4_spot_156 : decode cX4_spot 156 = .ok (.iload_n 1, 1) := by decide +kernel
theorem dX4_spot_157 : decode cX4_spot 157 = .ok (.invokevirtual 167, 3) := by decide +kernel
theorem dX4_spot_160 : decode cX4_spot 160 = .ok (.ireturn, 1) := by decide +kernel
theorem dX4_spot_161 : decode cX4_spot 161 = .ok (.iconst (-1), 1) := by decide +kernel
theorem dX4_spot_162 : decode cX4_spot 162 = .ok (.ireturn, 1) := by decide +kernel
theorem dX4_at_0 : decode cX4_at 0 = .ok (.iload_n 1, 1) := by decide +kernel
theorem dX4_at_1 : decode cX4_at 1 = .ok (.ifCond .ge 5, 3) := by decide +kernel
theorem dX4_at_4 : decode cX4_at 4 = .ok (.iconst (-1), 1) := by decide +kernel
theorem dX4_at_5 : decode cX4_at 5 = .ok (.ireturn, 1) := by decide +kernel
theorem dX4_at_6 : decode cX4_at 6 = .ok (.iload_n 1, 1) := by decide +kernel
theorem dX4_at_7 : decode cX4_at 7 = .ok (.aload_n 0, 1) := by decide +kernel
theorem dX4_at_8 : decode cX4_at 8 = .ok (.getfield 10, 3) := by decide +kernel
theorem dX4_at_11 : decode cX4_at 11 = .ok (.getfield 41, 3) := by decide +kernel
theorem dX4_at_14 : decode cX4_at 14 = .ok (.getfield 102, 3) := by decide +kernel
theorem dX4_at_17 : decode cX4_at 17 = .ok (.if_icmp .ge 18, 3) := by decide +kernel
theorem dX4_at_20 : decode cX4_at 20 = .ok (.aload_n 0, 1) := by decide +kernel
theorem dX4_at_21 : decode cX4_at 21 = .ok (.getfield 10, 3) := by decide +kernel
theorem dX4_at_24 : decode cX4_at 24 = .ok (.getfield 41, 3) := by decide +kernel
theorem dX4_at_27 : decode cX4_at 27 = .ok (.getfield 170, 3) := by decide +kernel
theorem dX4_at_30 : decode cX4_at 30 = .ok (.iload_n 1, 1) := by decide +kernel
theorem dX4_at_31 : decode cX4_at 31 = .ok (.iaload, 1) := by decide +kernel
theorem dX4_at_32 : decode cX4_at 32 = .ok (.goto 5, 3) := by decide +kernel
theorem dX4_at_35 : decode cX4_at 35 = .ok (.bipush (-9), 2) := by decide +kernel
theorem dX4_at_37 : decode cX4_at 37 = .ok (.ireturn, 1) := by decide +kernel
set_option maxRecDepth 20000 in
theorem ggX4_brightness_X4_isSpot : GoodIn wsX4_brightness wsX4_isSpot := goodIn_r _ [7] (by decide +kernel) (by decide +kernel)
set_option maxRecDepth 20000 in
theorem gX4_brightness_X4_isSpot : GoodIn wsX4_brightness (va_wsS RX4 144 yX4_isSpot wsX4_isSpot) := goodIn_app (goodIn_of _ (by decide +kernel)) ggX4_brightness_X4_isSpot
set_option maxRecDepth 20000 in
theorem ggX4_brightness_X1_litTick : GoodIn wsX4_brightness wsX1_litTick := goodIn_r _ [12, 13, 14, 15, 16, 11, 17, 18, 19, 20, 21, 22, 23, 24, 6, 25, 26, 27, 28, 29, 49, 50, 51, 52, 53] (by decide +kernel) (by decide +kernel)
set_option maxRecDepth 20000 in
theorem gX4_brightness_X1_litTick : GoodIn wsX4_brightness (wsV RX4 158 RX1 yX1_litTick wsX1_litTick) := goodIn_app (goodIn_of _ (by decide +kernel)) ggX4_brightness_X1_litTick
set_option maxRecDepth 20000 in
theorem ggX4_brightness_X1_shine : GoodIn wsX4_brightness wsX1_shine := goodIn_r _ [33, 34, 13, 35, 6, 36, 37, 38, 28, 39, 49, 50, 51, 52, 53] (by decide +kernel) (by decide +kernel)
set_option maxRecDepth 20000 in
theorem gX4_brightness_X1_shine : GoodIn wsX4_brightness (wsV RX4 173 RX1 yX1_shine wsX1_shine) := goodIn_app (goodIn_of _ (by decide +kernel)) ggX4_brightness_X1_shine
theorem dX4_brightness_0 : decode cX4_brightness 0 = .ok (.aload_n 0, 1) := by decide +kernel
theorem dX4_brightness_1 : decode cX4_brightness 1 = .ok (.getfield 10, 3) := by decide +kernel
theorem dX4_brightness_4 : decode cX4_brightness 4 = .ok (.getfield 41, 3) := by decide +kernel
theorem dX4_brightness_7 : decode cX4_brightness 7 = .ok (.astore_n 3, 1) := by decide +kernel
theorem dX4_brightness_8 : decode cX4_brightness 8 = .ok (.iload_n 1, 1) := by decide +kernel
theorem dX4_brightness_9 : decode cX4_brightness 9 = .ok (.invokestatic 144, 3) := by decide +kernel
theorem dX4_brightness_12 : decode cX4_brightness 12 = .ok (.ifCond .eq 17, 3) := by decide +kernel
theorem dX4_brightness_15 : decode cX4_brightness 15 = .ok (.iload_n 2, 1) := by decide +kernel
theorem dX4_brightness_16 : decode cX4_brightness 16 = .ok (.ifCond .lt 13, 3) := by decide +kernel
theorem dX4_brightness_19 : decode cX4_brightness 19 = .ok (.iload_n 2, 1) := by decide +kernel
theorem dX4_brightness_20 : decode cX4_brightness 20 = .ok (.aload_n 3, 1) := by decide +kernel
theorem dX4_brightness_21 : decode cX4_brightness 21 = .ok (.getfield 99, 3) := by decide +kernel
theorem dX4_brightness_24 : decode cX4_brightness 24 = .ok (.iconst 0, 1) := by decide +kernel
theorem dX4_brightness_25 : decode cX4_brightness 25 = .ok (.iaload, 1) := by decide +kernel
theorem dX4_brightness_26 : decode cX4_brightness 26 = .ok (.if_icmp .lt 5, 3) := by decide +kernel
theorem dX4_brightness_29 : decode cX4_brightness 29 = .ok (.iconst (-1), 1) := by decide +kernel
theorem dX4_brightness_30 : decode cX4_brightness 30 = .ok (.ireturn, 1) := by decide +kernel
theorem dX4_brightness_31 : decode cX4_brightness 31 = .ok (.aload_n 3, 1) := by decide +kernel
theorem dX4_brightness_32 : decode cX4_brightness 32 = .ok (.iload_n 1, 1) := by decide +kernel
theorem dX4_brightness_33 : decode cX4_brightness 33 = .ok (.aload_n 3, 1) := by decide +kernel
theorem dX4_brightness_34 : decode cX4_brightness 34 = .ok (.iload_n 1, 1) := by decide +kernel
theorem dX4_brightness_35 : decode cX4_brightness 35 = .ok (.invokevirtual 158, 3) := by decide +kernel
theorem dX4_brightness_38 : decode cX4_brightness 38 = .ok (.iload_n 2, 1) := by decide +kernel
theorem dX4_brightness_39 : decode cX4_brightness 39 = .ok (.invokevirtual 173, 3) := by decide +kernel
theorem dX4_brightness_42 : decode cX4_brightness 42 = .ok (.ireturn, 1) := by decide +kernel
set_option maxRecDepth 20000 in
theorem ggX4_firstWrong_X1_seenByEye : GoodIn wsX4_firstWrong wsX1_seenByEye := goodIn_r _ [8, 9, 10, 11, 12, 7, 13, 14, 15, 16, 17, 18, 19, 20, 21, 22, 23, 24, 25, 26, 27, 28, 29, 30, 31, 32, 33, 34, 35, 36, 37, 38, 39, 40, 41, 42, 43, 44, 45, 46, 47, 48, 49, 50, 51, 52, 53, 54, 55, 84, 85, 86, 87, 88] (by decide +kernel) (by decide +kernel)
set_option maxRecDepth 20000 in
theorem gX4_firstWrong_X1_seenByEye : GoodIn wsX4_firstWrong (wsV RX4 118 RX1 yX1_seenByEye wsX1_seenByEye) := goodIn_app (goodIn_of _ (by decide +kernel)) ggX4_firstWrong_X1_seenByEye
set_option maxRecDepth 20000 in
theorem ggX4_firstWrong_X1_wrong : GoodIn wsX4_firstWrong wsX1_wrong := goodIn_r _ [59, 60, 84, 85, 86, 87, 88] (by decide +kernel) (by decide +kernel)
set_option maxRecDepth 20000 in
theorem gX4_firstWrong_X1_wrong : GoodIn wsX4_firstWrong (wsV RX4 126 RX1 yX1_wrong wsX1_wrong) := goodIn_app (goodIn_of _ (by decide +kernel)) ggX4_firstWrong_X1_wrong
set_option maxRecDepth 20000 in
theorem ggX4_firstWrong_X4_firstOf : GoodIn wsX4_firstWrong wsX4_firstOf := goodIn_r _ [63, 64, 65, 33, 66] (by decide +kernel) (by decide +kernel)
set_option maxRecDepth 20000 in
theorem gX4_firstWrong_X4_firstOf : GoodIn wsX4_firstWrong (va_wsS RX4 176 yX4_firstOf wsX4_firstOf) := goodIn_app (goodIn_of _ (by decide +kernel)) ggX4_firstWrong_X4_firstOf
set_option maxRecDepth 20000 in
theorem ggX4_firstWrong_X1_seenByShutter : GoodIn wsX4_firstWrong wsX1_seenByShutter := goodIn_r _ [70, 9, 71, 72, 73, 7, 74, 10, 11, 12, 13, 14, 15, 16, 17, 18, 19, 20, 21, 22, 23, 24, 25, 26, 27, 28, 29, 30, 31, 32, 33, 34, 35, 36, 37, 38, 39, 40, 41, 42, 43, 44, 45, 46, 47, 48, 49, 50, 51, 52, 53, 54, 55, 84, 85, 86, 87, 88] (by decide +kernel) (by decide +kernel)
set_option maxRecDepth 20000 in
theorem gX4_firstWrong_X1_seenByShutter : GoodIn wsX4_firstWrong (wsV RX4 122 RX1 yX1_seenByShutter wsX1_seenByShutter) := goodIn_app (goodIn_of _ (by decide +kernel)) ggX4_firstWrong_X1_seenByShutter
theorem dX4_firstWrong_0 : decode cX4_firstWrong 0 = .ok (.aload_n 0, 1) := by decide +kernel
theorem dX4_firstWrong_1 : decode cX4_firstWrong 1 = .ok (.getfield 10, 3) := by decide +kernel
theorem dX4_firstWrong_4 : decode cX4_firstWrong 4 = .ok (.getfield 41, 3) := by decide +kernel
theorem dX4_firstWrong_7 : decode cX4_firstWrong 7 = .ok (.astore_n 2, 1) := by decide +kernel
theorem dX4_firstWrong_8 : decode cX4_firstWrong 8 = .ok (.iload_n 1, 1) := by decide +kernel
theorem dX4_firstWrong_9 : decode cX4_firstWrong 9 = .ok (.lookupswitch 59 #[(0, 27), (1, 40)], 27) := by decide +kernel
theorem dX4_firstWrong_36 : decode cX4_firstWrong 36 = .ok (.aload_n 2, 1) := by decide +kernel
theorem dX4_firstWrong_37 : decode cX4_firstWrong 37 = .ok (.iconst 0, 1) := by decide +kernel
theorem dX4_firstWrong_38 : decode cX4_firstWrong 38 = .ok (.aload_n 2, 1) := by decide +kernel
theorem dX4_firstWrong_39 : decode cX4_firstWrong 39 = .ok (.invokevirtual 118, 3) := by decide +kernel
theorem dX4_firstWrong_42 : decode cX4_firstWrong 42 = .ok (.invokevirtual 126, 3) := by decide +kernel
theorem dX4_firstWrong_45 : decode cX4_firstWrong 45 = .ok (.invokestatic 176, 3) := by decide +kernel
theorem dX4_firstWrong_48 : decode cX4_firstWrong 48 = .ok (.ireturn, 1) := by decide +kernel
theorem dX4_firstWrong_49 : decode cX4_firstWrong 49 = .ok (.aload_n 2, 1) := by decide +kernel
theorem dX4_firstWrong_50 : decode cX4_firstWrong 50 = .ok (.iconst 1, 1) := by decide +kernel
theorem dX4_firstWrong_51 : decode cX4_firstWrong 51 = .ok (.aload_n 2, 1) := by decide +kernel
theorem dX4_firstWrong_52 : decode cX4_firstWrong 52 = .ok (.aload_n 2, 1) := by decide +kernel
theorem dX4_firstWrong_53 : decode cX4_firstWrong 53 = .ok (.getfield 99, 3) := by decide +kernel
theorem dX4_firstWrong_56 : decode cX4_firstWrong 56 = .ok (.iconst 4, 1) := by decide +kernel
theorem dX4_firstWrong_57 : decode cX4_firstWrong 57 = .ok (.iaload, 1) := by decide +kernel
theorem dX4_firstWrong_58 : decode cX4_firstWrong 58 = .ok (.invokevirtual 122, 3) := by decide +kernel
theorem dX4_firstWrong_61 : decode cX4_firstWrong 61 = .ok (.invokevirtual 126, 3) := by decide +kernel
theorem dX4_firstWrong_64 : decode cX4_firstWrong 64 = .ok (.invokestatic 176, 3) := by decide +kernel
theorem dX4_firstWrong_67 : decode cX4_firstWrong 67 = .ok (.ireturn, 1) := by decide +kernel
theorem dX4_firstWrong_68 : decode cX4_firstWrong 68 = .ok (.iconst (-1), 1) := by decide +kernel
theorem dX4_firstWrong_69 : decode cX4_firstWrong 69 = .ok (.ireturn, 1) := by decide +kernel
set_option maxRecDepth 20000 in
theorem ggX4_bestStart_X1_countWrong : GoodIn wsX4_bestStart wsX1_countWrong := goodIn_r _ [9, 10, 11, 12, 13, 14, 15, 16, 17, 18, 19, 20, 21, 22, 23, 24, 25, 26, 8, 27, 28, 29, 30, 31, 32, 33, 34, 35, 36, 37, 38, 39, 40, 41, 42, 43, 44, 45, 46, 47, 48, 49, 50, 51, 52, 53, 54, 55, 56, 57, 58, 59, 60, 61, 62, 63, 64, 65, 66, 67, 68, 69, 70, 80, 81, 82, 83, 84] (by decide +kernel) (by decide +kernel)
set_option maxRecDepth 20000 in
theorem gX4_bestStart_X1_countWrong : GoodIn wsX4_bestStart (wsV RX4 179 RX1 yX1_countWrong wsX1_countWrong) := goodIn_app (goodIn_of _ (by decide +kernel)) ggX4_bestStart_X1_countWrong
theorem dX4_bestStart_0 : decode cX4_bestStart 0 = .ok (.iload_n 1, 1) := by decide +kernel
theorem dX4_bestStart_1 : decode cX4_bestStart 1 = .ok (.ifCond .lt 8, 3) := by decide +kernel
theorem dX4_bestStart_4 : decode cX4_bestStart 4 = .ok (.iload_n 1, 1) := by decide +kernel
theorem dX4_bestStart_5 : decode cX4_bestStart 5 = .ok (.iconst 1, 1) := by decide +kernel
theorem dX4_bestStart_6 : decode cX4_bestStart 6 = .ok (.if_icmp .le 5, 3) := by decide +kernel
theorem dX4_bestStart_9 : decode cX4_bestStart 9 = .ok (.iconst (-1), 1) := by decide +kernel
theorem dX4_bestStart_10 : decode cX4_bestStart 10 = .ok (.ireturn, 1) := by decide +kernel
theorem dX4_bestStart_11 : decode cX4_bestStart 11 = .ok (.aload_n 0, 1) := by decide +kernel
theorem dX4_bestStart_12 : decode cX4_bestStart 12 = .ok (.getfield 10, 3) := by decide +kernel
theorem dX4_bestStart_15 : decode cX4_bestStart 15 = .ok (.getfield 41, 3) := by decide +kernel
theorem dX4_bestStart_18 : decode cX4_bestStart 18 = .ok (.aload_n 0, 1) := by decide +kernel
theorem dX4_bestStart_19 : decode cX4_bestStart 19 = .ok (.getfield 34, 3) := by decide +kernel
theorem dX4_bestStart_22 : decode cX4_bestStart 22 = .ok (.invokevirtual 179, 3) := by decide +kernel
theorem dX4_bestStart_25 : decode cX4_bestStart 25 = .ok (.iconst 0, 1) := by decide +kernel
theorem dX4_bestStart_26 : decode cX4_bestStart 26 = .ok (.istore_n 2, 1) := by decide +kernel
theorem dX4_bestStart_27 : decode cX4_bestStart 27 = .ok (.iconst 1, 1) := by decide +kernel
theorem dX4_bestStart_28 : decode cX4_bestStart 28 = .ok (.istore_n 3, 1) := by decide +kernel
theorem dX4_bestStart_29 : decode cX4_bestStart 29 = .ok (.iload_n 3, 1) := by decide +kernel
theorem dX4_bestStart_30 : decode cX4_bestStart 30 = .ok (.aload_n 0, 1) := by decide +kernel
theorem dX4_bestStart_31 : decode cX4_bestStart 31 = .ok (.getfield 10, 3) := by decide +kernel
theorem dX4_bestStart_34 : decode cX4_bestStart 34 = .ok (.getfield 41, 3) := by decide +kernel
theorem dX4_bestStart_37 : decode cX4_bestStart 37 = .ok (.getfield 99, 3) := by decide +kernel
theorem dX4_bestStart_40 : decode cX4_bestStart 40 = .ok (.iconst 0, 1) := by decide +kernel
theorem dX4_bestStart_41 : decode cX4_bestStart 41 = .ok (.iaload, 1) := by decide +kernel
theorem dX4_bestStart_42 : decode cX4_bestStart 42 = .ok (.if_icmp .ge 33, 3) := by decide +kernel
theorem dX4_bestStart_45 : decode cX4_bestStart 45 = .ok (.iload_n 3, 1) := by decide +kernel
theorem dX4_bestStart_46 : decode cX4_bestStart 46 = .ok (.sipush 200, 3) := by decide +kernel
theorem dX4_bestStart_49 : decode cX4_bestStart 49 = .ok (.if_icmp .ge 26, 3) := by decide +kernel
theorem dX4_bestStart_52 : decode cX4_bestStart 52 = .ok (.aload_n 0, 1) := by decide +kernel
theorem dX4_bestStart_53 : decode cX4_bestStart 53 = .ok (.getfield 34, 3) := by decide +kernel
theorem dX4_bestStart_56 : decode cX4_bestStart 56 = .ok (.iload_n 3, 1) := by decide +kernel
theorem dX4_bestStart_57 : decode cX4_bestStart 57 = .ok (.iaload, 1) := by decide +kernel
theorem dX4_bestStart_58 : decode cX4_bestStart 58 = .ok (.aload_n 0, 1) := by decide +kernel
theorem dX4_bestStart_59 : decode cX4_bestStart 59 = .ok (.getfield 34, 3) := by decide +kernel
theorem dX4_bestStart_62 : decode cX4_bestStart 62 = .ok (.iload_n 2, 1) := by decide +kernel
theorem dX4_bestStart_63 : decode cX4_bestStart 63 = .ok (.iaload, 1) := by decide +kernel
theorem dX4_bestStart_64 : decode cX4_bestStart 64 = .ok (.if_icmp .ge 5, 3) := by decide +kernel
theorem dX4_bestStart_67 : decode cX4_bestStart 67 = .ok (.iload_n 3, 1) := by decide +kernel
theorem dX4_bestStart_68 : decode cX4_bestStart 68 = .ok (.istore_n 2, 1) := by decide +kernel
theorem dX4_bestStart_69 : decode cX4_bestStart 69 = .ok (.iinc 3 1, 3) := by decide +kernel
theorem dX4_bestStart_72 : decode cX4_bestStart 72 = .ok (.goto (-43), 3) := by decide +kernel
theorem dX4_bestStart_75 : decode cX4_bestStart 75 = .ok (.iload_n 1, 1) := by decide +kernel
theorem dX4_bestStart_76 : decode cX4_bestStart 76 = .ok (.ifCond .ne 7, 3) := by decide +kernel
theorem dX4_bestStart_79 : decode cX4_bestStart 79 = .ok (.iload_n 2, 1) := by decide +kernel
theorem dX4_bestStart_80 : decode cX4_bestStart 80 = .ok (.goto 9, 3) := by decide +kernel
theorem dX4_bestStart_83 : decode cX4_bestStart 83 = .ok (.aload_n 0, 1) := by decide +kernel
theorem dX4_bestStart_84 : decode cX4_bestStart 84 = .ok (.getfield 34, 3) := by decide +kernel
theorem dX4_bestStart_87 : decode cX4_bestStart 87 = .ok (.iload_n 2, 1) := by decide +kernel
theorem dX4_bestStart_88 : decode cX4_bestStart 88 = .ok (.iaload, 1) := by decide +kernel
theorem dX4_bestStart_89 : decode cX4_bestStart 89 = .ok (.ireturn, 1) := by decide +kernel
set_option maxRecDepth 20000 in
theorem ggX4_leastTravel_X1_spotsOfOrder : GoodIn wsX4_leastTravel wsX1_spotsOfOrder := goodIn_r _ [8, 9, 10, 72, 73, 74, 75, 76] (by decide +kernel) (by decide +kernel)
set_option maxRecDepth 20000 in
theorem gX4_leastTravel_X1_spotsOfOrder : GoodIn wsX4_leastTravel (wsV RX4 183 RX1 yX1_spotsOfOrder wsX1_spotsOfOrder) := goodIn_app (goodIn_of _ (by decide +kernel)) ggX4_leastTravel_X1_spotsOfOrder
set_option maxRecDepth 20000 in
theorem ggX4_leastTravel_X3_plan : GoodIn wsX4_leastTravel wsX3_plan := goodIn_r _ [15, 16, 17, 18, 19, 14, 20, 21, 22, 23, 24, 25, 26, 27, 28, 29, 30, 31, 32, 33, 34, 35, 36, 37, 38, 39, 40, 41, 42, 43, 44, 45, 46, 47, 48, 49, 50, 51, 52, 53, 54, 77, 78, 79, 80, 81, 82] (by decide +kernel) (by decide +kernel)
set_option maxRecDepth 20000 in
theorem gX4_leastTravel_X3_plan : GoodIn wsX4_leastTravel (wsV RX4 186 RX3 yX3_plan wsX3_plan) := goodIn_app (goodIn_of _ (by decide +kernel)) ggX4_leastTravel_X3_plan
set_option maxRecDepth 20000 in
theorem ggX4_leastTravel_X3_sumOfWays : GoodIn wsX4_leastTravel wsX3_sumOfWays := goodIn_r _ [58, 53, 77, 78, 79, 80, 81, 82] (by decide +kernel) (by decide +kernel)
set_option maxRecDepth 20000 in
theorem gX4_leastTravel_X3_sumOfWays : GoodIn wsX4_leastTravel (wsV RX4 190 RX3 yX3_sumOfWays wsX3_sumOfWays) := goodIn_app (goodIn_of _ (by decide +kernel)) ggX4_leastTravel_X3_sumOfWays
set_option maxRecDepth 20000 in
theorem ggX4_leastTravel_X3_stop : GoodIn wsX4_leastTravel wsX3_stop := goodIn_r _ [62, 21, 54, 77, 78, 79, 80, 81, 82] (by decide +kernel) (by decide +kernel)
set_option maxRecDepth 20000 in
theorem gX4_leastTravel_X3_stop : GoodIn wsX4_leastTravel (wsV RX4 191 RX3 yX3_stop wsX3_stop) := goodIn_app (goodIn_of _ (by decide +kernel)) ggX4_leastTravel_X3_stop
theorem dX4_leastTravel_0 : decode cX4_leastTravel 0 = .ok (.iload_n 1, 1) := by decide +kernel
theorem dX4_leastTravel_1 : decode cX4_leastTravel 1 = .ok (.iconst (-1), 1) := by decide +kernel
theorem dX4_leastTravel_2 : decode cX4_leastTravel 2 = .ok (.if_icmp .ge 5, 3) := by decide +kernel
theorem dX4_leastTravel_5 : decode cX4_leastTravel 5 = .ok (.iconst (-1), 1) := by decide +kernel
theorem dX4_leastTravel_6 : decode cX4_leastTravel 6 = .ok (.ireturn, 1) := by decide +kernel
theorem dX4_leastTravel_7 : decode cX4_leastTravel 7 = .ok (.aload_n 0, 1) := by decide +kernel
theorem dX4_leastTravel_8 : decode cX4_leastTravel 8 = .ok (.getfield 30, 3) := by decide +kernel
theorem dX4_leastTravel_11 : decode cX4_leastTravel 11 = .ok (.aload_n 0, 1) := by decide +kernel
theorem dX4_leastTravel_12 : decode cX4_leastTravel 12 = .ok (.getfield 10, 3) := by decide +kernel
theorem dX4_leastTravel_15 : decode cX4_leastTravel 15 = .ok (.getfield 41, 3) := by decide +kernel
theorem dX4_leastTravel_18 : decode cX4_leastTravel 18 = .ok (.invokevirtual 183, 3) := by decide +kernel
theorem dX4_leastTravel_21 : decode cX4_leastTravel 21 = .ok (.invokevirtual 186, 3) := by decide +kernel
theorem dX4_leastTravel_24 : decode cX4_leastTravel 24 = .ok (.iload_n 1, 1) := by decide +kernel
theorem dX4_leastTravel_25 : decode cX4_leastTravel 25 = .ok (.ifCond .ge 13, 3) := by decide +kernel
theorem dX4_leastTravel_28 : decode cX4_leastTravel 28 = .ok (.aload_n 0, 1) := by decide +kernel
theorem dX4_leastTravel_29 : decode cX4_leastTravel 29 = .ok (.getfield 30, 3) := by decide +kernel
theorem dX4_leastTravel_32 : decode cX4_leastTravel 32 = .ok (.invokevirtual 190, 3) := by decide +kernel
theorem dX4_leastTravel_35 : decode cX4_leastTravel 35 = .ok (.goto 11, 3) := by decide +kernel
theorem dX4_leastTravel_38 : decode cX4_leastTravel 38 = .ok (.aload_n 0, 1) := by decide +kernel
theorem dX4_leastTravel_39 : decode cX4_leastTravel 39 = .ok (.getfield 30, 3) := by decide +kernel
theorem dX4_leastTravel_42 : decode cX4_leastTravel 42 = .ok (.iload_n 1, 1) := by decide +kernel
theorem dX4_leastTravel_43 : decode cX4_leastTravel 43 = .ok (.invokevirtual 191, 3) := by decide +kernel
theorem dX4_leastTravel_46 : decode cX4_leastTravel 46 = .ok (.ireturn, 1) := by decide +kernel
set_option maxRecDepth 20000 in
theorem ggX4_longest_X1_seenByShutter : GoodIn wsX4_longest wsX1_seenByShutter := goodIn_r _ [7, 8, 9, 10, 11, 6, 12, 13, 14, 15, 16, 17, 18, 19, 20, 21, 22, 23, 24, 25, 26, 27, 28, 29, 30, 31, 32, 33, 34, 35, 36, 37, 38, 39, 40, 41, 42, 43, 44, 45, 46, 47, 48, 49, 50, 51, 52, 53, 54, 55, 56, 57, 58, 73, 74, 75, 76, 77] (by decide +kernel) (by decide +kernel)
set_option maxRecDepth 20000 in
theorem gX4_longest_X1_seenByShutter : GoodIn wsX4_longest (wsV RX4 122 RX1 yX1_seenByShutter wsX1_seenByShutter) := goodIn_app (goodIn_of _ (by decide +kernel)) ggX4_longest_X1_seenByShutter
set_option maxRecDepth 20000 in
theorem ggX4_longest_X1_wrong : GoodIn wsX4_longest wsX1_wrong := goodIn_r _ [62, 63, 73, 74, 75, 76, 77] (by decide +kernel) (by decide +kernel)
set_option maxRecDepth 20000 in
theorem gX4_longest_X1_wrong : GoodIn wsX4_longest (wsV RX4 126 RX1 yX1_wrong wsX1_wrong) := goodIn_app (goodIn_of _ (by decide +kernel)) ggX4_longest_X1_wrong
theorem dX4_longest_0 : decode cX4_longest 0 = .ok (.bipush 50, 2) := by decide +kernel
theorem dX4_longest_2 : decode cX4_longest 2 = .ok (.istore_n 1, 1) := by decide +kernel
theorem dX4_longest_3 : decode cX4_longest 3 = .ok (.iload_n 1, 1) := by decide +kernel
theorem dX4_longest_4 : decode cX4_longest 4 = .ok (.ifCond .le 38, 3) := by decide +kernel
theorem dX4_longest_7 : decode cX4_longest 7 = .ok (.aload_n 0, 1) := by decide +kernel
theorem dX4_longest_8 : decode cX4_longest 8 = .ok (.getfield 10, 3) := by decide +kernel
theorem dX4_longest_11 : decode cX4_longest 11 = .ok (.getfield 41, 3) := by decide +kernel
theorem dX4_longest_14 : decode cX4_longest 14 = .ok (.iconst 1, 1) := by decide +kernel
theorem dX4_longest_15 : decode cX4_longest 15 = .ok (.aload_n 0, 1) := by decide +kernel
theorem dX4_longest_16 : decode cX4_longest 16 = .ok (.getfield 10, 3) := by decide +kernel
theorem dX4_longest_19 : decode cX4_longest 19 = .ok (.getfield 41, 3) := by decide +kernel
theorem dX4_longest_22 : decode cX4_longest 22 = .ok (.iload_n 1, 1) := by decide +kernel
theorem dX4_longest_23 : decode cX4_longest 23 = .ok (.invokevirtual 122, 3) := by decide +kernel
theorem dX4_longest_26 : decode cX4_longest 26 = .ok (.invokevirtual 126, 3) := by decide +kernel
theorem dX4_longest_29 : decode cX4_longest 29 = .ok (.lconst 0, 1) := by decide +kernel
theorem dX4_longest_30 : decode cX4_longest 30 = .ok (.lcmp, 1) := by decide +kernel
theorem dX4_longest_31 : decode cX4_longest 31 = .ok (.ifCond .ne 5, 3) := by decide +kernel
theorem dX4_longest_34 : decode cX4_longest 34 = .ok (.iload_n 1, 1) := by decide +kernel
theorem dX4_longest_35 : decode cX4_longest 35 = .ok (.ireturn, 1) := by decide +kernel
theorem dX4_longest_36 : decode cX4_longest 36 = .ok (.iinc 1 (-1), 3) := by decide +kernel
theorem dX4_longest_39 : decode cX4_longest 39 = .ok (.goto (-36), 3) := by decide +kernel
theorem dX4_longest_42 : decode cX4_longest 42 = .ok (.bipush (-9), 2) := by decide +kernel
theorem dX4_longest_44 : decode cX4_longest 44 = .ok (.ireturn, 1) := by decide +kernel
set_option maxRecDepth 20000 in
theorem ggX4_ticks_X4_isPhosphor : GoodIn wsX4_ticks wsX4_isPhosphor := goodIn_r _ [4] (by decide +kernel) (by decide +kernel)
set_option maxRecDepth 20000 in
theorem gX4_ticks_X4_isPhosphor : GoodIn wsX4_ticks (va_wsS RX4 194 yX4_isPhosphor wsX4_isPhosphor) := goodIn_app (goodIn_of _ (by decide +kernel)) ggX4_ticks_X4_isPhosphor
set_option maxRecDepth 20000 in
theorem ggX4_ticks_X4_ticksAbove : GoodIn wsX4_ticks wsX4_ticksAbove := goodIn_r _ [7, 8, 9, 3, 10, 11, 12, 13, 14] (by decide +kernel) (by decide +kernel)
set_option maxRecDepth 20000 in
theorem gX4_ticks_X4_ticksAbove : GoodIn wsX4_ticks (va_wsS RX4 197 yX4_ticksAbove wsX4_ticksAbove) := goodIn_app (goodIn_of _ (by decide +kernel)) ggX4_ticks_X4_ticksAbove
theorem dX4_ticks_0 : decode cX4_ticks 0 = .ok (.iload_n 1, 1) := by decide +kernel
theorem dX4_ticks_1 : decode cX4_ticks 1 = .ok (.invokestatic 194, 3) := by decide +kernel
theorem dX4_ticks_4 : decode cX4_ticks 4 = .ok (.ifCond .eq 14, 3) := by decide +kernel
theorem dX4_ticks_7 : decode cX4_ticks 7 = .ok (.iload_n 2, 1) := by decide +kernel
theorem dX4_ticks_8 : decode cX4_ticks 8 = .ok (.iconst 1, 1) := by decide +kernel
theorem dX4_ticks_9 : decode cX4_ticks 9 = .ok (.if_icmp .lt 9, 3) := by decide +kernel
theorem dX4_ticks_12 : decode cX4_ticks 12 = .ok (.iload_n 2, 1) := by decide +kernel
theorem dX4_ticks_13 : decode cX4_ticks 13 = .ok (.bipush 100, 2) := by decide +kernel
theorem dX4_ticks_15 : decode cX4_ticks 15 = .ok (.if_icmp .le 5, 3) := by decide +kernel
theorem dX4_ticks_18 : decode cX4_ticks 18 = .ok (.iconst (-1), 1) := by decide +kernel
theorem dX4_ticks_19 : decode cX4_ticks 19 = .ok (.ireturn, 1) := by decide +kernel
theorem dX4_ticks_20 : decode cX4_ticks 20 = .ok (.iload_n 1, 1) := by decide +kernel
theorem dX4_ticks_21 : decode cX4_ticks 21 = .ok (.iload_n 2, 1) := by decide +kernel
theorem dX4_ticks_22 : decode cX4_ticks 22 = .ok (.invokestatic 197, 3) := by decide +kernel
theorem dX4_ticks_25 : decode cX4_ticks 25 = .ok (.ireturn, 1) := by decide +kernel
set_option maxRecDepth 20000 in
theorem ggX4_shortestPeriod_X1_arrival : GoodIn wsX4_shortestPeriod wsX1_arrival := goodIn_r _ [12, 13, 14, 15, 16, 17, 18, 19, 20, 6, 21, 31, 32, 33, 34, 35] (by decide +kernel) (by decide +kernel)
set_option maxRecDepth 20000 in
theorem gX4_shortestPeriod_X1_arrival : GoodIn wsX4_shortestPeriod (wsV RX4 133 RX1 yX1_arrival wsX1_arrival) := goodIn_app (goodIn_of _ (by decide +kernel)) ggX4_shortestPeriod_X1_arrival
theorem dX4_shortestPeriod_0 : decode cX4_shortestPeriod 0 = .ok (.aload_n 0, 1) := by decide +kernel
theorem dX4_shortestPeriod_1 : decode cX4_shortestPeriod 1 = .ok (.getfield 10, 3) := by decide +kernel
theorem dX4_shortestPeriod_4 : decode cX4_shortestPeriod 4 = .ok (.getfield 41, 3) := by decide +kernel
theorem dX4_shortestPeriod_7 : decode cX4_shortestPeriod 7 = .ok (.aload_n 0, 1) := by decide +kernel
theorem dX4_shortestPeriod_8 : decode cX4_shortestPeriod 8 = .ok (.getfield 10, 3) := by decide +kernel
theorem dX4_shortestPeriod_11 : decode cX4_shortestPeriod 11 = .ok (.getfield 41, 3) := by decide +kernel
theorem dX4_shortestPeriod_14 : decode cX4_shortestPeriod 14 = .ok (.getfield 102, 3) := by decide +kernel
theorem dX4_shortestPeriod_17 : decode cX4_shortestPeriod 17 = .ok (.iconst 1, 1) := by decide +kernel
theorem dX4_shortestPeriod_18 : decode cX4_shortestPeriod 18 = .ok (.isub, 1) := by decide +kernel
theorem dX4_shortestPeriod_19 : decode cX4_shortestPeriod 19 = .ok (.invokevirtual 133, 3) := by decide +kernel
theorem dX4_shortestPeriod_22 : decode cX4_shortestPeriod 22 = .ok (.iconst 1, 1) := by decide +kernel
theorem dX4_shortestPeriod_23 : decode cX4_shortestPeriod 23 = .ok (.iadd, 1) := by decide +kernel
theorem dX4_shortestPeriod_24 : decode cX4_shortestPeriod 24 = .ok (.istore_n 1, 1) := by decide +kernel
theorem dX4_shortestPeriod_25 : decode cX4_shortestPeriod 25 = .ok (.iload_n 1, 1) := by decide +kernel
theorem dX4_shortestPeriod_26 : decode cX4_shortestPeriod 26 = .ok (.sipush 200, 3) := by decide +kernel
theorem dX4_shortestPeriod_29 : decode cX4_shortestPeriod 29 = .ok (.if_icmp .le 8, 3) := by decide +kernel
theorem dX4_shortestPeriod_32 : decode cX4_shortestPeriod 32 = .ok (.bipush (-9), 2) := by decide +kernel
theorem dX4_shortestPeriod_34 : decode cX4_shortestPeriod 34 = .ok (.goto 9, 3) := by decide +kernel
theorem dX4_shortestPeriod_37 : decode cX4_shortestPeriod 37 = .ok (.bipush 8, 2) := by decide +kernel
theorem dX4_shortestPeriod_39 : decode cX4_shortestPeriod 39 = .ok (.iload_n 1, 1) := by decide +kernel
theorem dX4_shortestPeriod_40 : decode cX4_shortestPeriod 40 = .ok (.invokestatic 200, 3) := by decide +kernel
theorem dX4_shortestPeriod_43 : decode cX4_shortestPeriod 43 = .ok (.ireturn, 1) := by decide +kernel
set_option maxRecDepth 20000 in
theorem ggX4_prepare_X2_copyFrom : GoodIn wsX4_prepare wsX2_copyFrom := goodIn_r _ [8, 9, 10, 11, 12, 13, 14, 15, 16, 17, 18, 19, 20, 21, 22, 23, 24, 25, 32, 33, 34, 35, 36, 37, 38, 39] (by decide +kernel) (by decide +kernel)
set_option maxRecDepth 20000 in
theorem gX4_prepare_X2_copyFrom : GoodIn wsX4_prepare (wsV RX4 84 RX2 yX2_copyFrom wsX2_copyFrom) := goodIn_app (goodIn_of _ (by decide +kernel)) ggX4_prepare_X2_copyFrom
theorem dX4_prepare_0 : decode cX4_prepare 0 = .ok (.aload_n 0, 1) := by decide +kernel
theorem dX4_prepare_1 : decode cX4_prepare 1 = .ok (.getfield 16, 3) := by decide +kernel
theorem dX4_prepare_4 : decode cX4_prepare 4 = .ok (.aload_n 0, 1) := by decide +kernel
theorem dX4_prepare_5 : decode cX4_prepare 5 = .ok (.getfield 80, 3) := by decide +kernel
theorem dX4_prepare_8 : decode cX4_prepare 8 = .ok (.aaload, 1) := by decide +kernel
theorem dX4_prepare_9 : decode cX4_prepare 9 = .ok (.aload_n 0, 1) := by decide +kernel
theorem dX4_prepare_10 : decode cX4_prepare 10 = .ok (.getfield 10, 3) := by decide +kernel
theorem dX4_prepare_13 : decode cX4_prepare 13 = .ok (.invokevirtual 84, 3) := by decide +kernel
theorem dX4_prepare_16 : decode cX4_prepare 16 = .ok (.return_, 1) := by decide +kernel
set_option maxRecDepth 20000 in
theorem ggX4_finish_X4_dropOldest : GoodIn wsX4_finish wsX4_dropOldest := goodIn_r _ [6, 7, 8, 9, 10, 11, 12, 13] (by decide +kernel) (by decide +kernel)
set_option maxRecDepth 20000 in
theorem gX4_finish_X4_dropOldest : GoodIn wsX4_finish (wsV RX4 205 RX4 yX4_dropOldest wsX4_dropOldest) := goodIn_app (goodIn_of _ (by decide +kernel)) ggX4_finish_X4_dropOldest
theorem dX4_finish_0 : decode cX4_finish 0 = .ok (.iload_n 1, 1) := by decide +kernel
theorem dX4_finish_1 : decode cX4_finish 1 = .ok (.ifCond .lt 28, 3) := by decide +kernel
theorem dX4_finish_4 : decode cX4_finish 4 = .ok (.aload_n 0, 1) := by decide +kernel
theorem dX4_finish_5 : decode cX4_finish 5 = .ok (.getfield 80, 3) := by decide +kernel
theorem dX4_finish_8 : decode cX4_finish 8 = .ok (.iconst 5, 1) := by decide +kernel
theorem dX4_finish_9 : decode cX4_finish 9 = .ok (.if_icmp .ge 16, 3) := by decide +kernel
theorem dX4_finish_12 : decode cX4_finish 12 = .ok (.aload_n 0, 1) := by decide +kernel
theorem dX4_finish_13 : decode cX4_finish 13 = .ok (.dup, 1) := by decide +kernel
theorem dX4_finish_14 : decode cX4_finish 14 = .ok (.getfield 80, 3) := by decide +kernel
theorem dX4_finish_17 : decode cX4_finish 17 = .ok (.iconst 1, 1) := by decide +kernel
theorem dX4_finish_18 : decode cX4_finish 18 = .ok (.iadd, 1) := by decide +kernel
theorem dX4_finish_19 : decode cX4_finish 19 = .ok (.putfield 80, 3) := by decide +kernel
theorem dX4_finish_22 : decode cX4_finish 22 = .ok (.goto 7, 3) := by decide +kernel
theorem dX4_finish_25 : decode cX4_finish 25 = .ok (.aload_n 0, 1) := by decide +kernel
theorem dX4_finish_26 : decode cX4_finish 26 = .ok (.invokevirtual 205, 3) := by decide +kernel
theorem dX4_finish_29 : decode cX4_finish 29 = .ok (.iload_n 1, 1) := by decide +kernel
theorem dX4_finish_30 : decode cX4_finish 30 = .ok (.ireturn, 1) := by decide +kernel
theorem dX4_dropOldest_0 : decode cX4_dropOldest 0 = .ok (.aload_n 0, 1) := by decide +kernel
theorem dX4_dropOldest_1 : decode cX4_dropOldest 1 = .ok (.getfield 16, 3) := by decide +kernel
theorem dX4_dropOldest_4 : decode cX4_dropOldest 4 = .ok (.iconst 0, 1) := by decide +kernel
theorem dX4_dropOldest_5 : decode cX4_dropOldest 5 = .ok (.aaload, 1) := by decide +kernel
theorem dX4_dropOldest_6 : decode cX4_dropOldest 6 = .ok (.astore_n 1, 1) := by decide +kernel
theorem dX4_dropOldest_7 : decode cX4_dropOldest 7 = .ok (.iconst 0, 1) := by decide +kernel
theorem dX4_dropOldest_8 : decode cX4_dropOldest 8 = .ok (.istore_n 2, 1) := by decide +kernel
theorem dX4_dropOldest_9 : decode cX4_dropOldest 9 = .ok (.iload_n 2, 1) := by decide +kernel
theorem dX4_dropOldest_10 : decode cX4_dropOldest 10 = .ok (.iconst 5, 1) := by decide +kernel
theorem dX4_dropOldest_11 : decode cX4_dropOldest 11 = .ok (.if_icmp .ge 23, 3) := by decide +kernel
theorem dX4_dropOldest_14 : decode cX4_dropOldest 14 = .ok (.aload_n 0, 1) := by decide +kernel
theorem dX4_dropOldest_15 : decode cX4_dropOldest 15 = .ok (.getfield 16, 3) := by decide +kernel
theorem dX4_dropOldest_18 : decode cX4_dropOldest 18 = .ok (.iload_n 2, 1) := by decide +kernel
theorem dX4_dropOldest_19 : decode cX4_dropOldest 19 = .ok (.aload_n 0, 1) := by decide +kernel
theorem dX4_dropOldest_20 : decode cX4_dropOldest 20 = .ok (.getfield 16, 3) := by decide +kernel
theorem dX4_dropOldest_23 : decode cX4_dropOldest 23 = .ok (.iload_n 2, 1) := by decide +kernel
theorem dX4_dropOldest_24 : decode cX4_dropOldest 24 = .ok (.iconst 1, 1) := by decide +kernel
theorem dX4_dropOldest_25 : decode cX4_dropOldest 25 = .ok (.iadd, 1) := by decide +kernel
theorem dX4_dropOldest_26 : decode cX4_dropOldest 26 = .ok (.aaload, 1) := by decide +kernel
theorem dX4_dropOldest_27 : decode cX4_dropOldest 27 = .ok (.aastore, 1) := by decide +kernel
theorem dX4_dropOldest_28 : decode cX4_dropOldest 28 = .ok (.iinc 2 1, 3) := by decide +kernel
theorem dX4_dropOldest_31 : decode cX4_dropOldest 31 = .ok (.goto (-22), 3) := by decide +kernel
theorem dX4_dropOldest_34 : decode cX4_dropOldest 34 = .ok (.aload_n 0, 1) := by decide +kernel
theorem dX4_dropOldest_35 : decode cX4_dropOldest 35 = .ok (.getfield 16, 3) := by decide +kernel
theorem dX4_dropOldest_38 : decode cX4_dropOldest 38 = .ok (.iconst 5, 1) := by decide +kernel
theorem dX4_dropOldest_39 : decode cX4_dropOldest 39 = .ok (.aload_n 1, 1) := by decide +kernel
theorem dX4_dropOldest_40 : decode cX4_dropOldest 40 = .ok (.aastore, 1) := by decide +kernel
theorem dX4_dropOldest_41 : decode cX4_dropOldest 41 = .ok (.return_, 1) := by decide +kernel
theorem dX4_settingCount_0 : decode cX4_settingCount 0 = .ok (.iload_n 1, 1) := by decide +kernel
theorem dX4_settingCount_1 : decode cX4_settingCount 1 = .ok (.bipush 13, 2) := by decide +kernel
theorem dX4_settingCount_3 : decode cX4_settingCount 3 = .ok (.if_icmp .lt 9, 3) := by decide +kernel
theorem dX4_settingCount_6 : decode cX4_settingCount 6 = .ok (.iload_n 1, 1) := by decide +kernel
theorem dX4_settingCount_7 : decode cX4_settingCount 7 = .ok (.bipush 19, 2) := by decide +kernel
theorem dX4_settingCount_9 : decode cX4_settingCount 9 = .ok (.if_icmp .lt 5, 3) := by decide +kernel
theorem dX4_settingCount_12 : decode cX4_settingCount 12 = .ok (.iconst (-1), 1) := by decide +kernel
theorem dX4_settingCount_13 : decode cX4_settingCount 13 = .ok (.ireturn, 1) := by decide +kernel
theorem dX4_settingCount_14 : decode cX4_settingCount 14 = .ok (.aload_n 0, 1) := by decide +kernel
theorem dX4_settingCount_15 : decode cX4_settingCount 15 = .ok (.getfield 10, 3) := by decide +kernel
theorem dX4_settingCount_18 : decode cX4_settingCount 18 = .ok (.getfield 41, 3) := by decide +kernel
theorem dX4_settingCount_21 : decode cX4_settingCount 21 = .ok (.getfield 99, 3) := by decide +kernel
theorem dX4_settingCount_24 : decode cX4_settingCount 24 = .ok (.iload_n 1, 1) := by decide +kernel
theorem dX4_settingCount_25 : decode cX4_settingCount 25 = .ok (.bipush 13, 2) := by decide +kernel
theorem dX4_settingCount_27 : decode cX4_settingCount 27 = .ok (.isub, 1) := by decide +kernel
theorem dX4_settingCount_28 : decode cX4_settingCount 28 = .ok (.iaload, 1) := by decide +kernel
theorem dX4_settingCount_29 : decode cX4_settingCount 29 = .ok (.ireturn, 1) := by decide +kernel
theorem dX4_isSpot_0 : decode cX4_isSpot 0 = .ok (.iload_n 0, 1) := by decide +kernel
theorem dX4_isSpot_1 : decode cX4_isSpot 1 = .ok (.ifCond .lt 13, 3) := by decide +kernel
theorem dX4_isSpot_4 : decode cX4_isSpot 4 = .ok (.iload_n 0, 1) := by decide +kernel
theorem dX4_isSpot_5 : decode cX4_isSpot 5 = .ok (.bipush 64, 2) := by decide +kernel
theorem dX4_isSpot_7 : decode cX4_isSpot 7 = .ok (.if_icmp .ge 7, 3) := by decide +kernel
theorem dX4_isSpot_10 : decode cX4_isSpot 10 = .ok (.iconst 1, 1) := by decide +kernel
theorem dX4_isSpot_11 : decode cX4_isSpot 11 = .ok (.goto 4, 3) := by decide +kernel
theorem dX4_isSpot_14 : decode cX4_isSpot 14 = .ok (.iconst 0, 1) := by decide +kernel
theorem dX4_isSpot_15 : decode cX4_isSpot 15 = .ok (.ireturn, 1) := by decide +kernel
theorem dX4_isPhosphor_0 : decode cX4_isPhosphor 0 = .ok (.iload_n 0, 1) := by decide +kernel
theorem dX4_isPhosphor_1 : decode cX4_isPhosphor 1 = .ok (.ifCond .lt 12, 3) := by decide +kernel
theorem dX4_isPhosphor_4 : decode cX4_isPhosphor 4 = .ok (.iload_n 0, 1) := by decide +kernel
theorem dX4_isPhosphor_5 : decode cX4_isPhosphor 5 = .ok (.iconst 4, 1) := by decide +kernel
theorem dX4_isPhosphor_6 : decode cX4_isPhosphor 6 = .ok (.if_icmp .ge 7, 3) := by decide +kernel
theorem dX4_isPhosphor_9 : decode cX4_isPhosphor 9 = .ok (.iconst 1, 1) := by decide +kernel
theorem dX4_isPhosphor_10 : decode cX4_isPhosphor 10 = .ok (.goto 4, 3) := by decide +kernel
theorem dX4_isPhosphor_13 : decode cX4_isPhosphor 13 = .ok (.iconst 0, 1) := by decide +kernel
theorem dX4_isPhosphor_14 : decode cX4_isPhosphor 14 = .ok (.ireturn, 1) := by decide +kernel
theorem dX4_way_0 : decode cX4_way 0 = .ok (.iload_n 0, 1) := by decide +kernel
theorem dX4_way_1 : decode cX4_way 1 = .ok (.bipush 8, 2) := by decide +kernel
theorem dX4_way_3 : decode cX4_way 3 = .ok (.idiv, 1) := by decide +kernel
theorem dX4_way_4 : decode cX4_way 4 = .ok (.iload_n 1, 1) := by decide +kernel
theorem dX4_way_5 : decode cX4_way 5 = .ok (.bipush 8, 2) := by decide +kernel
theorem dX4_way_7 : decode cX4_way 7 = .ok (.idiv, 1) := by decide +kernel
theorem dX4_way_8 : decode cX4_way 8 = .ok (.isub, 1) := by decide +kernel
theorem dX4_way_9 : decode cX4_way 9 = .ok (.invokestatic 208, 3) := by decide +kernel
theorem dX4_way_12 : decode cX4_way 12 = .ok (.iload_n 0, 1) := by decide +kernel
theorem dX4_way_13 : decode cX4_way 13 = .ok (.bipush 8, 2) := by decide +kernel
theorem dX4_way_15 : decode cX4_way 15 = .ok (.irem, 1) := by decide +kernel
theorem dX4_way_16 : decode cX4_way 16 = .ok (.iload_n 1, 1) := by decide +kernel
theorem dX4_way_17 : decode cX4_way 17 = .ok (.bipush 8, 2) := by decide +kernel
theorem dX4_way_19 : decode cX4_way 19 = .ok (.irem, 1) := by decide +kernel
theorem dX4_way_20 : decode cX4_way 20 = .ok (.isub, 1) := by decide +kernel
theorem dX4_way_21 : decode cX4_way 21 = .ok (.invokestatic 208, 3) := by decide +kernel
theorem dX4_way_24 : decode cX4_way 24 = .ok (.iadd, 1) := by decide +kernel
theorem dX4_way_25 : decode cX4_way 25 = .ok (.ireturn, 1) := by decide +kernel
theorem dX4_bit_0 : decode cX4_bit 0 = .ok (.lload_n 0, 1) := by decide +kernel
theorem dX4_bit_1 : decode cX4_bit 1 = .ok (.iload_n 2, 1) := by decide +kernel
theorem dX4_bit_2 : decode cX4_bit 2 = .ok (.lushr, 1) := by decide +kernel
theorem dX4_bit_3 : decode cX4_bit 3 = .ok (.l2i, 1) := by decide +kernel
theorem dX4_bit_4 : decode cX4_bit 4 = .ok (.iconst 1, 1) := by decide +kernel
theorem dX4_bit_5 : decode cX4_bit 5 = .ok (.iand, 1) := by decide +kernel
theorem dX4_bit_6 : decode cX4_bit 6 = .ok (.ireturn, 1) := by decide +kernel
set_option maxRecDepth 20000 in
theorem ggX4_firstOf_X4_bit : GoodIn wsX4_firstOf wsX4_bit := goodIn_r _ [4] (by decide +kernel) (by decide +kernel)
set_option maxRecDepth 20000 in
theorem gX4_firstOf_X4_bit : GoodIn wsX4_firstOf (va_wsS RX4 151 yX4_bit wsX4_bit) := goodIn_app (goodIn_of _ (by decide +kernel)) ggX4_firstOf_X4_bit
theorem dX4_firstOf_0 : decode cX4_firstOf 0 = .ok (.iconst 0, 1) := by decide +kernel
theorem dX4_firstOf_1 : decode cX4_firstOf 1 = .ok (.istore_n 2, 1) := by decide +kernel
theorem dX4_firstOf_2 : decode cX4_firstOf 2 = .ok (.iload_n 2, 1) := by decide +kernel
theorem dX4_firstOf_3 : decode cX4_firstOf 3 = .ok (.bipush 64, 2) := by decide +kernel
theorem dX4_firstOf_5 : decode cX4_firstOf 5 = .ok (.if_icmp .ge 20, 3) := by decide +kernel
theorem dX4_firstOf_8 : decode cX4_firstOf 8 = .ok (.lload_n 0, 1) := by decide +kernel
theorem dX4_firstOf_9 : decode cX4_firstOf 9 = .ok (.iload_n 2, 1) := by decide +kernel
theorem dX4_firstOf_10 : decode cX4_firstOf 10 = .ok (.invokestatic 151, 3) := by decide +kernel
theorem dX4_firstOf_13 : decode cX4_firstOf 13 = .ok (.iconst 1, 1) := by decide +kernel
theorem dX4_firstOf_14 : decode cX4_firstOf 14 = .ok (.if_icmp .ne 5, 3) := by decide +kernel
theorem dX4_firstOf_17 : decode cX4_firstOf 17 = .ok (.iload_n 2, 1) := by decide +kernel
theorem dX4_firstOf_18 : decode cX4_firstOf 18 = .ok (.ireturn, 1) := by decide +kernel
theorem dX4_firstOf_19 : decode cX4_firstOf 19 = .ok (.iinc 2 1, 3) := by decide +kernel
theorem dX4_firstOf_22 : decode cX4_firstOf 22 = .ok (.goto (-20), 3) := by decide +kernel
theorem dX4_firstOf_25 : decode cX4_firstOf 25 = .ok (.bipush (-9), 2) := by decide +kernel
theorem dX4_firstOf_27 : decode cX4_firstOf 27 = .ok (.ireturn, 1) := by decide +kernel
theorem dX4_glow_0 : decode cX4_glow 0 = .ok (.iload_n 0, 1) := by decide +kernel
theorem dX4_glow_1 : decode cX4_glow 1 = .ok (.tableswitch 67 0 2 #[27, 39, 50], 27) := by decide +kernel
theorem dX4_glow_28 : decode cX4_glow 28 = .ok (.iconst 0, 1) := by decide +kernel
theorem dX4_glow_29 : decode cX4_glow 29 = .ok (.bipush 100, 2) := by decide +kernel
theorem dX4_glow_31 : decode cX4_glow 31 = .ok (.bipush 20, 2) := by decide +kernel
theorem dX4_glow_33 : decode cX4_glow 33 = .ok (.iload_n 1, 1) := by decide +kernel
theorem dX4_glow_34 : decode cX4_glow 34 = .ok (.imul, 1) := by decide +kernel
theorem dX4_glow_35 : decode cX4_glow 35 = .ok (.isub, 1) := by decide +kernel
theorem dX4_glow_36 : decode cX4_glow 36 = .ok (.invokestatic 200, 3) := by decide +kernel
theorem dX4_glow_39 : decode cX4_glow 39 = .ok (.ireturn, 1) := by decide +kernel
theorem dX4_glow_40 : decode cX4_glow 40 = .ok (.iconst 0, 1) := by decide +kernel
theorem dX4_glow_41 : decode cX4_glow 41 = .ok (.bipush 100, 2) := by decide +kernel
theorem dX4_glow_43 : decode cX4_glow 43 = .ok (.iconst 4, 1) := by decide +kernel
theorem dX4_glow_44 : decode cX4_glow 44 = .ok (.iload_n 1, 1) := by decide +kernel
theorem dX4_glow_45 : decode cX4_glow 45 = .ok (.imul, 1) := by decide +kernel
theorem dX4_glow_46 : decode cX4_glow 46 = .ok (.isub, 1) := by decide +kernel
theorem dX4_glow_47 : decode cX4_glow 47 = .ok (.invokestatic 200, 3) := by decide +kernel
theorem dX4_glow_50 : decode cX4_glow 50 = .ok (.ireturn, 1) := by decide +kernel
theorem dX4_glow_51 : decode cX4_glow 51 = .ok (.iload_n 1, 1) := by decide +kernel
theorem dX4_glow_52 : decode cX4_glow 52 = .ok (.bipush 35, 2) := by decide +kernel
theorem dX4_glow_54 : decode cX4_glow 54 = .ok (.if_icmp .ge 12, 3) := by decide +kernel
theorem dX4_glow_57 : decode cX4_glow 57 = .ok (.bipush 100, 2) := by decide +kernel
theorem dX4_glow_59 : decode cX4_glow 59 = .ok (.iload_n 1, 1) := by decide +kernel
theorem dX4_glow_60 : decode cX4_glow 60 = .ok (.iconst 5, 1) := by decide +kernel
theorem dX4_glow_61 : decode cX4_glow 61 = .ok (.idiv, 1) := by decide +kernel
theorem dX4_glow_62 : decode cX4_glow 62 = .ok (.ishr, 1) := by decide +kernel
theorem dX4_glow_63 : decode cX4_glow 63 = .ok (.goto 4, 3) := by decide +kernel
theorem dX4_glow_66 : decode cX4_glow 66 = .ok (.iconst 0, 1) := by decide +kernel
theorem dX4_glow_67 : decode cX4_glow 67 = .ok (.ireturn, 1) := by decide +kernel
theorem dX4_glow_68 : decode cX4_glow 68 = .ok (.iload_n 1, 1) := by decide +kernel
theorem dX4_glow_69 : decode cX4_glow 69 = .ok (.bipush 8, 2) := by decide +kernel
theorem dX4_glow_71 : decode cX4_glow 71 = .ok (.if_icmp .ge 8, 3) := by decide +kernel
theorem dX4_glow_74 : decode cX4_glow 74 = .ok (.bipush 100, 2) := by decide +kernel
theorem dX4_glow_76 : decode cX4_glow 76 = .ok (.goto 4, 3) := by decide +kernel
theorem dX4_glow_79 : decode cX4_glow 79 = .ok (.iconst 0, 1) := by decide +kernel
theorem dX4_glow_80 : decode cX4_glow 80 = .ok (.ireturn, 1) := by decide +kernel
set_option maxRecDepth 20000 in
theorem ggX4_ticksAbove_X4_glow : GoodIn wsX4_ticksAbove wsX4_glow := goodIn_r _ [4, 5, 6, 7, 8] (by decide +kernel) (by decide +kernel)
set_option maxRecDepth 20000 in
theorem gX4_ticksAbove_X4_glow : GoodIn wsX4_ticksAbove (va_wsS RX4 211 yX4_glow wsX4_glow) := goodIn_app (goodIn_of _ (by decide +kernel)) ggX4_ticksAbove_X4_glow
theorem dX4_ticksAbove_0 : decode cX4_ticksAbove 0 = .ok (.iconst 0, 1) := by decide +kernel
theorem dX4_ticksAbove_1 : decode cX4_ticksAbove 1 = .ok (.istore_n 2, 1) := by decide +kernel
theorem dX4_ticksAbove_2 : decode cX4_ticksAbove 2 = .ok (.iload_n 2, 1) := by decide +kernel
theorem dX4_ticksAbove_3 : decode cX4_ticksAbove 3 = .ok (.sipush 200, 3) := by decide +kernel
theorem dX4_ticksAbove_6 : decode cX4_ticksAbove 6 = .ok (.if_icmp .ge 18, 3) := by decide +kernel
theorem dX4_ticksAbove_9 : decode cX4_ticksAbove 9 = .ok (.iload_n 0, 1) := by decide +kernel
theorem dX4_ticksAbove_10 : decode cX4_ticksAbove 10 = .ok (.iload_n 2, 1) := by decide +kernel
theorem dX4_ticksAbove_11 : decode cX4_ticksAbove 11 = .ok (.invokestatic 211, 3) := by decide +kernel
theorem dX4_ticksAbove_14 : decode cX4_ticksAbove 14 = .ok (.iload_n 1, 1) := by decide +kernel
theorem dX4_ticksAbove_15 : decode cX4_ticksAbove 15 = .ok (.if_icmp .lt 9, 3) := by decide +kernel
theorem dX4_ticksAbove_18 : decode cX4_ticksAbove 18 = .ok (.iinc 2 1, 3) := by decide +kernel
theorem dX4_ticksAbove_21 : decode cX4_ticksAbove 21 = .ok (.goto (-19), 3) := by decide +kernel
theorem dX4_ticksAbove_24 : decode cX4_ticksAbove 24 = .ok (.iload_n 2, 1) := by decide +kernel
theorem dX4_ticksAbove_25 : decode cX4_ticksAbove 25 = .ok (.ireturn, 1) := by decide +kernel
theorem dX5_init_0 : decode cX5_init 0 = .ok (.aload_n 0, 1) := by decide +kernel
theorem dX5_init_1 : decode cX5_init 1 = .ok (.invokespecial 1, 3) := by decide +kernel
theorem dX5_init_4 : decode cX5_init 4 = .ok (.aload_n 0, 1) := by decide +kernel
theorem dX5_init_5 : decode cX5_init 5 = .ok (.sipush 635, 3) := by decide +kernel
theorem dX5_init_8 : decode cX5_init 8 = .ok (.newarray .int, 2) := by decide +kernel
theorem dX5_init_10 : decode cX5_init 10 = .ok (.putfield 7, 3) := by decide +kernel
theorem dX5_init_13 : decode cX5_init 13 = .ok (.aload_n 0, 1) := by decide +kernel
theorem dX5_init_14 : decode cX5_init 14 = .ok (.sipush 635, 3) := by decide +kernel
theorem dX5_init_17 : decode cX5_init 17 = .ok (.newarray .int, 2) := by decide +kernel
theorem dX5_init_19 : decode cX5_init 19 = .ok (.putfield 13, 3) := by decide +kernel
theorem dX5_init_22 : decode cX5_init 22 = .ok (.aload_n 0, 1) := by decide +kernel
theorem dX5_init_23 : decode cX5_init 23 = .ok (.sipush 3175, 3) := by decide +kernel
theorem dX5_init_26 : decode cX5_init 26 = .ok (.newarray .int, 2) := by decide +kernel
theorem dX5_init_28 : decode cX5_init 28 = .ok (.putfield 16, 3) := by decide +kernel
theorem dX5_init_31 : decode cX5_init 31 = .ok (.aload_n 0, 1) := by decide +kernel
theorem dX5_init_32 : decode cX5_init 32 = .ok (.sipush 140, 3) := by decide +kernel
theorem dX5_init_35 : decode cX5_init 35 = .ok (.newarray .int, 2) := by decide +kernel
theorem dX5_init_37 : decode cX5_init 37 = .ok (.putfield 19, 3) := by decide +kernel
theorem dX5_init_40 : decode cX5_init 40 = .ok (.aload_n 0, 1) := by decide +kernel
theorem dX5_init_41 : decode cX5_init 41 = .ok (.iconst 2, 1) := by decide +kernel
theorem dX5_init_42 : decode cX5_init 42 = .ok (.newarray .int, 2) := by decide +kernel
theorem dX5_init_44 : decode cX5_init 44 = .ok (.putfield 22, 3) := by decide +kernel
theorem dX5_init_47 : decode cX5_init 47 = .ok (.aload_n 0, 1) := by decide +kernel
theorem dX5_init_48 : decode cX5_init 48 = .ok (.bipush 64, 2) := by decide +kernel
theorem dX5_init_50 : decode cX5_init 50 = .ok (.newarray .int, 2) := by decide +kernel
theorem dX5_init_52 : decode cX5_init 52 = .ok (.putfield 25, 3) := by decide +kernel
theorem dX5_init_55 : decode cX5_init 55 = .ok (.aload_n 0, 1) := by decide +kernel
theorem dX5_init_56 : decode cX5_init 56 = .ok (.ldc 28, 2) := by decide +kernel
theorem dX5_init_58 : decode cX5_init 58 = .ok (.newarray .int, 2) := by decide +kernel
theorem dX5_init_60 : decode cX5_init 60 = .ok (.putfield 29, 3) := by decide +kernel
theorem dX5_init_63 : decode cX5_init 63 = .ok (.aload_n 0, 1) := by decide +kernel
theorem dX5_init_64 : decode cX5_init 64 = .ok (.iconst 0, 1) := by decide +kernel
theorem dX5_init_65 : decode cX5_init 65 = .ok (.putfield 32, 3) := by decide +kernel
theorem dX5_init_68 : decode cX5_init 68 = .ok (.aload_n 0, 1) := by decide +kernel
theorem dX5_init_69 : decode cX5_init 69 = .ok (.getfield 7, 3) := by decide +kernel
theorem dX5_init_72 : decode cX5_init 72 = .ok (.iconst 0, 1) := by decide +kernel
theorem dX5_init_73 : decode cX5_init 73 = .ok (.bipush 60, 2) := by decide +kernel
theorem dX5_init_75 : decode cX5_init 75 = .ok (.iastore, 1) := by decide +kernel
theorem dX5_init_76 : decode cX5_init 76 = .ok (.aload_n 0, 1) := by decide +kernel
theorem dX5_init_77 : decode cX5_init 77 = .ok (.getfield 7, 3) := by decide +kernel
theorem dX5_init_80 : decode cX5_init 80 = .ok (.iconst 1, 1) := by decide +kernel
theorem dX5_init_81 : decode cX5_init 81 = .ok (.iconst 1, 1) := by decide +kernel
theorem dX5_init_82 : decode cX5_init 82 = .ok (.iastore, 1) := by decide +kernel
theorem dX5_init_83 : decode cX5_init 83 = .ok (.aload_n 0, 1) := by decide +kernel
theorem dX5_init_84 : decode cX5_init 84 = .ok (.getfield 7, 3) := by decide +kernel
theorem dX5_init_87 : decode cX5_init 87 = .ok (.iconst 2, 1) := by decide +kernel
theorem dX5_init_88 : decode cX5_init 88 = .ok (.bipush 20, 2) := by decide +kernel
theorem dX5_init_90 : decode cX5_init 90 = .ok (.iastore, 1) := by decide +kernel
theorem dX5_init_91 : decode cX5_init 91 = .ok (.aload_n 0, 1) := by decide +kernel
theorem dX5_init_92 : decode cX5_init 92 = .ok (.getfield 7, 3) := by decide +kernel
theorem dX5_init_95 : decode cX5_init 95 = .ok (.iconst 3, 1) := by decide +kernel
theorem dX5_init_96 : decode cX5_init 96 = .ok (.iconst 0, 1) := by decide +kernel
theorem dX5_init_97 : decode cX5_init 97 = .ok (.iastore, 1) := by decide +kernel
theorem dX5_init_98 : decode cX5_init 98 = .ok (.aload_n 0, 1) := by decide +kernel
theorem dX5_init_99 : decode cX5_init 99 = .ok (.getfield 7, 3) := by decide +kernel
theorem dX5_init_102 : decode cX5_init 102 = .ok (.iconst 4, 1) := by decide +kernel
theorem dX5_init_103 : decode cX5_init 103 = .ok (.iconst 4, 1) := by decide +kernel
theorem dX5_init_104 : decode cX5_init 104 = .ok (.iastore, 1) := by decide +kernel
theorem dX5_init_105 : decode cX5_init 105 = .ok (.aload_n 0, 1) := by decide +kernel
theorem dX5_init_106 : decode cX5_init 106 = .ok (.getfield 7, 3) := by decide +kernel
theorem dX5_init_109 : decode cX5_init 109 = .ok (.iconst 5, 1) := by decide +kernel
theorem dX5_init_110 : decode cX5_init 110 = .ok (.bipush 60, 2) := by decide +kernel
theorem dX5_init_112 : decode cX5_init 112 = .ok (.iastore, 1) := by decide +kernel
theorem dX5_init_113 : decode cX5_init 113 = .ok (.return_, 1) := by decide +kernel
theorem dX5_in_0 : decode cX5_in 0 = .ok (.iload_n 0, 1) := by decide +kernel
theorem dX5_in_1 : decode cX5_in 1 = .ok (.iload_n 1, 1) := by decide +kernel
theorem dX5_in_2 : decode cX5_in 2 = .ok (.if_icmp .lt 12, 3) := by decide +kernel
theorem dX5_in_5 : decode cX5_in 5 = .ok (.iload_n 0, 1) := by decide +kernel
theorem dX5_in_6 : decode cX5_in 6 = .ok (.iload_n 2, 1) := by decide +kernel
theorem dX5_in_7 : decode cX5_in 7 = .ok (.if_icmp .gt 7, 3) := by decide +kernel
theorem dX5_in_10 : decode cX5_in 10 = .ok (.iconst 1, 1) := by decide +kernel
theorem dX5_in_11 : decode cX5_in 11 = .ok (.goto 4, 3) := by decide +kernel
theorem dX5_in_14 : decode cX5_in 14 = .ok (.iconst 0, 1) := by decide +kernel
theorem dX5_in_15 : decode cX5_in 15 = .ok (.ireturn, 1) := by decide +kernel
set_option maxRecDepth 20000 in
theorem ggX5_isSpot_X5_in : GoodIn wsX5_isSpot wsX5_in := goodIn_r _ [4] (by decide +kernel) (by decide +kernel)
set_option maxRecDepth 20000 in
theorem gX5_isSpot_X5_in : GoodIn wsX5_isSpot (va_wsS RX5 36 yX5_in wsX5_in) := goodIn_app (goodIn_of _ (by decide +kernel)) ggX5_isSpot_X5_in
theorem dX5_isSpot_0 : decode cX5_isSpot 0 = .ok (.iload_n 0, 1) := by decide +kernel
theorem dX5_isSpot_1 : decode cX5_isSpot 1 = .ok (.iconst 0, 1) := by decide +kernel
theorem dX5_isSpot_2 : decode cX5_isSpot 2 = .ok (.bipush 63, 2) := by decide +kernel
theorem dX5_isSpot_4 : decode cX5_isSpot 4 = .ok (.invokestatic 36, 3) := by decide +kernel
theorem dX5_isSpot_7 : decode cX5_isSpot 7 = .ok (.ireturn, 1) := by decide +kernel
set_option maxRecDepth 20000 in
theorem ggX5_isBit_X5_in : GoodIn wsX5_isBit wsX5_in := goodIn_r _ [4] (by decide +kernel) (by decide +kernel)
set_option maxRecDepth 20000 in
theorem gX5_isBit_X5_in : GoodIn wsX5_isBit (va_wsS RX5 36 yX5_in wsX5_in) := goodIn_app (goodIn_of _ (by decide +kernel)) ggX5_isBit_X5_in
theorem dX5_isBit_0 : decode cX5_isBit 0 = .ok (.iload_n 0, 1) := by decide +kernel
theorem dX5_isBit_1 : decode cX5_isBit 1 = .ok (.iconst 0, 1) := by decide +kernel
theorem dX5_isBit_2 : decode cX5_isBit 2 = .ok (.iconst 1, 1) := by decide +kernel
theorem dX5_isBit_3 : decode cX5_isBit 3 = .ok (.invokestatic 36, 3) := by decide +kernel
theorem dX5_isBit_6 : decode cX5_isBit 6 = .ok (.ireturn, 1) := by decide +kernel
theorem dX5_size_0 : decode cX5_size 0 = .ok (.iload_n 0, 1) := by decide +kernel
theorem dX5_size_1 : decode cX5_size 1 = .ok (.ifCond .ge 8, 3) := by decide +kernel
theorem dX5_size_4 : decode cX5_size 4 = .ok (.iload_n 0, 1) := by decide +kernel
theorem dX5_size_5 : decode cX5_size 5 = .ok (.ineg, 1) := by decide +kernel
theorem dX5_size_6 : decode cX5_size 6 = .ok (.goto 4, 3) := by decide +kernel
theorem dX5_size_9 : decode cX5_size 9 = .ok (.iload_n 0, 1) := by decide +kernel
theorem dX5_size_10 : decode cX5_size 10 = .ok (.ireturn, 1) := by decide +kernel
theorem dX5_act_0 : decode cX5_act 0 = .ok (.aload_n 0, 1) := by decide +kernel
theorem dX5_act_1 : decode cX5_act 1 = .ok (.getfield 40, 3) := by decide +kernel
theorem dX5_act_4 : decode cX5_act 4 = .ok (.iconst 5, 1) := by decide +kernel
theorem dX5_act_5 : decode cX5_act 5 = .ok (.if_icmp .ne 44, 3) := by decide +kernel
theorem dX5_act_8 : decode cX5_act 8 = .ok (.iconst 0, 1) := by decide +kernel
theorem dX5_act_9 : decode cX5_act 9 = .ok (.istore_n 1, 1) := by decide +kernel
theorem dX5_act_10 : decode cX5_act 10 = .ok (.iload_n 1, 1) := by decide +kernel
theorem dX5_act_11 : decode cX5_act 11 = .ok (.sipush 2540, 3) := by decide +kernel
theorem dX5_act_14 : decode cX5_act 14 = .ok (.if_icmp .ge 25, 3) := by decide +kernel
theorem dX5_act_17 : decode cX5_act 17 = .ok (.aload_n 0, 1) := by decide +kernel
theorem dX5_act_18 : decode cX5_act 18 = .ok (.getfield 16, 3) := by decide +kernel
theorem dX5_act_21 : decode cX5_act 21 = .ok (.iload_n 1, 1) := by decide +kernel
theorem dX5_act_22 : decode cX5_act 22 = .ok (.aload_n 0, 1) := by decide +kernel
theorem dX5_act_23 : decode cX5_act 23 = .ok (.getfield 16, 3) := by decide +kernel
theorem dX5_act_26 : decode cX5_act 26 = .ok (.iload_n 1, 1) := by decide +kernel
theorem dX5_act_27 : decode cX5_act 27 = .ok (.sipush 635, 3) := by decide +kernel
theorem dX5_act_30 : decode cX5_act 30 = .ok (.iadd, 1) := by decide +kernel
theorem dX5_act_31 : decode cX5_act 31 = .ok (.iaload, 1) := by decide +kernel
theorem dX5_act_32 : decode cX5_act 32 = .ok (.iastore, 1) := by decide +kernel
theorem dX5_act_33 : decode cX5_act 33 = .ok (.iinc 1 1, 3) := by decide +kernel
theorem dX5_act_36 : decode cX5_act 36 = .ok (.goto (-26), 3) := by decide +kernel
theorem dX5_act_39 : decode cX5_act 39 = .ok (.aload_n 0, 1) := by decide +kernel
theorem dX5_act_40 : decode cX5_act 40 = .ok (.dup, 1) := by decide +kernel
theorem dX5_act_41 : decode cX5_act 41 = .ok (.getfield 40, 3) := by decide +kernel
theorem dX5_act_44 : decode cX5_act 44 = .ok (.iconst 1, 1) := by decide +kernel
theorem dX5_act_45 : decode cX5_act 45 = .ok (.isub, 1) := by decide +kernel
theorem dX5_act_46 : decode cX5_act 46 = .ok (.putfield 40, 3) := by decide +kernel
theorem dX5_act_49 : decode cX5_act 49 = .ok (.iconst 0, 1) := by decide +kernel
theorem dX5_act_50 : decode cX5_act 50 = .ok (.istore_n 1, 1) := by decide +kernel
theorem dX5_act_51 : decode cX5_act 51 = .ok (.iload_n 1, 1) := by decide +kernel
theorem dX5_act_52 : decode cX5_act 52 = .ok (.sipush 635, 3) := by decide +kernel
theorem dX5_act_55 : decode cX5_act 55 = .ok (.if_icmp .ge 30, 3) := by decide +kernel
theorem dX5_act_58 : decode cX5_act 58 = .ok (.aload_n 0, 1) := by decide +kernel
theorem dX5_act_59 : decode cX5_act 59 = .ok (.getfield 16, 3) := by decide +kernel
theorem dX5_act_62 : decode cX5_act 62 = .ok (.sipush 635, 3) := by decide +kernel
theorem dX5_act_65 : decode cX5_act 65 = .ok (.aload_n 0, 1) := by decide +kernel
theorem dX5_act_66 : decode cX5_act 66 = .ok (.getfield 40, 3) := by decide +kernel
theorem dX5_act_69 : decode cX5_act 69 = .ok (.imul, 1) := by decide +kernel
theorem dX5_act_70 : decode cX5_act 70 = .ok (.iload_n 1, 1) := by decide +kernel
theorem dX5_act_71 : decode cX5_act 71 = .ok (.iadd, 1) := by decide +kernel
theorem dX5_act_72 : decode cX5_act 72 = .ok (.aload_n 0, 1) := by decide +kernel
theorem dX5_act_73 : decode cX5_act 73 = .ok (.getfield 7, 3) := by decide +kernel
theorem dX5_act_76 : decode cX5_act 76 = .ok (.iload_n 1, 1) := by decide +kernel
theorem dX5_act_77 : decode cX5_act 77 = .ok (.iaload, 1) := by decide +kernel
theorem dX5_act_78 : decode cX5_act 78 = .ok (.iastore, 1) := by decide +kernel
theorem dX5_act_79 : decode cX5_act 79 = .ok (.iinc 1 1, 3) := by decide +kernel
theorem dX5_act_82 : decode cX5_act 82 = .ok (.goto (-31), 3) := by decide +kernel
theorem dX5_act_85 : decode cX5_act 85 = .ok (.aload_n 0, 1) := by decide +kernel
theorem dX5_act_86 : decode cX5_act 86 = .ok (.dup, 1) := by decide +kernel
theorem dX5_act_87 : decode cX5_act 87 = .ok (.getfield 40, 3) := by decide +kernel
theorem dX5_act_90 : decode cX5_act 90 = .ok (.iconst 1, 1) := by decide +kernel
theorem dX5_act_91 : decode cX5_act 91 = .ok (.iadd, 1) := by decide +kernel
theorem dX5_act_92 : decode cX5_act 92 = .ok (.putfield 40, 3) := by decide +kernel
theorem dX5_act_95 : decode cX5_act 95 = .ok (.return_, 1) := by decide +kernel
set_option maxRecDepth 20000 in
theorem ggX5_way_X5_size : GoodIn wsX5_way wsX5_size := goodIn_r _ [4] (by decide +kernel) (by decide +kernel)
set_option maxRecDepth 20000 in
theorem gX5_way_X5_size : GoodIn wsX5_way (va_wsS RX5 43 yX5_size wsX5_size) := goodIn_app (goodIn_of _ (by decide +kernel)) ggX5_way_X5_size
theorem dX5_way_0 : decode cX5_way 0 = .ok (.iload_n 0, 1) := by decide +kernel
theorem dX5_way_1 : decode cX5_way 1 = .ok (.bipush 8, 2) := by decide +kernel
theorem dX5_way_3 : decode cX5_way 3 = .ok (.idiv, 1) := by decide +kernel
theorem dX5_way_4 : decode cX5_way 4 = .ok (.iload_n 1, 1) := by decide +kernel
theorem dX5_way_5 : decode cX5_way 5 = .ok (.bipush 8, 2) := by decide +kernel
theorem dX5_way_7 : decode cX5_way 7 = .ok (.idiv, 1) := by decide +kernel
theorem dX5_way_8 : decode cX5_way 8 = .ok (.isub, 1) := by decide +kernel
theorem dX5_way_9 : decode cX5_way 9 = .ok (.invokestatic 43, 3) := by decide +kernel
theorem dX5_way_12 : decode cX5_way 12 = .ok (.iload_n 0, 1) := by decide +kernel
theorem dX5_way_13 : decode cX5_way 13 = .ok (.bipush 8, 2) := by decide +kernel
theorem dX5_way_15 : decode cX5_way 15 = .ok (.irem, 1) := by decide +kernel
theorem dX5_way_16 : decode cX5_way 16 = .ok (.iload_n 1, 1) := by decide +kernel
theorem dX5_way_17 : decode cX5_way 17 = .ok (.bipush 8, 2) := by decide +kernel
theorem dX5_way_19 : decode cX5_way 19 = .ok (.irem, 1) := by decide +kernel
theorem dX5_way_20 : decode cX5_way 20 = .ok (.isub, 1) := by decide +kernel
theorem dX5_way_21 : decode cX5_way 21 = .ok (.invokestatic 43, 3) := by decide +kernel
theorem dX5_way_24 : decode cX5_way 24 = .ok (.iadd, 1) := by decide +kernel
theorem dX5_way_25 : decode cX5_way 25 = .ok (.ireturn, 1) := by decide +kernel
theorem dX5_halved_0 : decode cX5_halved 0 = .ok (.bipush 100, 2) := by decide +kernel
theorem dX5_halved_2 : decode cX5_halved 2 = .ok (.istore_n 1, 1) := by decide +kernel
theorem dX5_halved_3 : decode cX5_halved 3 = .ok (.iconst 0, 1) := by decide +kernel
theorem dX5_halved_4 : decode cX5_halved 4 = .ok (.istore_n 2, 1) := by decide +kernel
theorem dX5_halved_5 : decode cX5_halved 5 = .ok (.iload_n 2, 1) := by decide +kernel
theorem dX5_halved_6 : decode cX5_halved 6 = .ok (.iload_n 0, 1) := by decide +kernel
theorem dX5_halved_7 : decode cX5_halved 7 = .ok (.if_icmp .ge 17, 3) := by decide +kernel
theorem dX5_halved_10 : decode cX5_halved 10 = .ok (.iload_n 1, 1) := by decide +kernel
theorem dX5_halved_11 : decode cX5_halved 11 = .ok (.ifCond .le 13, 3) := by decide +kernel
theorem dX5_halved_14 : decode cX5_halved 14 = .ok (.iload_n 1, 1) := by decide +kernel
theorem dX5_halved_15 : decode cX5_halved 15 = .ok (.iconst 2, 1) := by decide +kernel
theorem dX5_halved_16 : decode cX5_halved 16 = .ok (.idiv, 1) := by decide +kernel
theorem dX5_halved_17 : decode cX5_halved 17 = .ok (.istore_n 1, 1) := by decide +kernel
theorem dX5_halved_18 : decode cX5_halved 18 = .ok (.iinc 2 1, 3) := by decide +kernel
theorem dX5_halved_21 : decode cX5_halved 21 = .ok (.goto (-16), 3) := by decide +kernel
theorem dX5_halved_24 : decode cX5_halved 24 = .ok (.iload_n 1, 1) := by decide +kernel
theorem dX5_halved_25 : decode cX5_halved 25 = .ok (.ireturn, 1) := by decide +kernel
set_option maxRecDepth 20000 in
theorem ggX5_fading_X5_halved : GoodIn wsX5_fading wsX5_halved := goodIn_r _ [4] (by decide +kernel) (by decide +kernel)
set_option maxRecDepth 20000 in
theorem gX5_fading_X5_halved : GoodIn wsX5_fading (va_wsS RX5 47 yX5_halved wsX5_halved) := goodIn_app (goodIn_of _ (by decide +kernel)) ggX5_fading_X5_halved
theorem dX5_fading_0 : decode cX5_fading 0 = .ok (.iload_n 0, 1) := by decide +kernel
theorem dX5_fading_1 : decode cX5_fading 1 = .ok (.tableswitch 58 0 2 #[27, 38, 48], 27) := by decide +kernel
theorem dX5_fading_28 : decode cX5_fading 28 = .ok (.bipush 100, 2) := by decide +kernel
theorem dX5_fading_30 : decode cX5_fading 30 = .ok (.bipush 20, 2) := by decide +kernel
theorem dX5_fading_32 : decode cX5_fading 32 = .ok (.iload_n 1, 1) := by decide +kernel
theorem dX5_fading_33 : decode cX5_fading 33 = .ok (.imul, 1) := by decide +kernel
theorem dX5_fading_34 : decode cX5_fading 34 = .ok (.isub, 1) := by decide +kernel
theorem dX5_fading_35 : decode cX5_fading 35 = .ok (.istore_n 2, 1) := by decide +kernel
theorem dX5_fading_36 : decode cX5_fading 36 = .ok (.goto 36, 3) := by decide +kernel
theorem dX5_fading_39 : decode cX5_fading 39 = .ok (.bipush 100, 2) := by decide +kernel
theorem dX5_fading_41 : decode cX5_fading 41 = .ok (.iconst 4, 1) := by decide +kernel
theorem dX5_fading_42 : decode cX5_fading 42 = .ok (.iload_n 1, 1) := by decide +kernel
theorem dX5_fading_43 : decode cX5_fading 43 = .ok (.imul, 1) := by decide +kernel
theorem dX5_fading_44 : decode cX5_fading 44 = .ok (.isub, 1) := by decide +kernel
theorem dX5_fading_45 : decode cX5_fading 45 = .ok (.istore_n 2, 1) := by decide +kernel
theorem dX5_fading_46 : decode cX5_fading 46 = .ok (.goto 26, 3) := by decide +kernel
theorem dX5_fading_49 : decode cX5_fading 49 = .ok (.iload_n 1, 1) := by decide +kernel
theorem dX5_fading_50 : decode cX5_fading 50 = .ok (.iconst 5, 1) := by decide +kernel
theorem dX5_fading_51 : decode cX5_fading 51 = .ok (.idiv, 1) := by decide +kernel
theorem dX5_fading_52 : decode cX5_fading 52 = .ok (.invokestatic 47, 3) := by decide +kernel
theorem dX5_fading_55 : decode cX5_fading 55 = .ok (.istore_n 2, 1) := by decide +kernel
theorem dX5_fading_56 : decode cX5_fading 56 = .ok (.goto 16, 3) := by decide +kernel
theorem dX5_fading_59 : decode cX5_fading 59 = .ok (.iload_n 1, 1) := by decide +kernel
theorem dX5_fading_60 : decode cX5_fading 60 = .ok (.bipush 8, 2) := by decide +kernel
theorem dX5_fading_62 : decode cX5_fading 62 = .ok (.if_icmp .ge 8, 3) := by decide +kernel
theorem dX5_fading_65 : decode cX5_fading 65 = .ok (.bipush 100, 2) := by decide +kernel
theorem dX5_fading_67 : decode cX5_fading 67 = .ok (.goto 4, 3) := by decide +kernel
theorem dX5_fading_70 : decode cX5_fading 70 = .ok (.iconst 0, 1) := by decide +kernel
theorem dX5_fading_71 : decode cX5_fading 71 = .ok (.istore_n 2, 1) := by decide +kernel
theorem dX5_fading_72 : decode cX5_fading 72 = .ok (.iload_n 2, 1) := by decide +kernel
theorem dX5_fading_73 : decode cX5_fading 73 = .ok (.ifCond .ge 7, 3) := by decide +kernel
theorem dX5_fading_76 : decode cX5_fading 76 = .ok (.iconst 0, 1) := by decide +kernel
theorem dX5_fading_77 : decode cX5_fading 77 = .ok (.goto 4, 3) := by decide +kernel
theorem dX5_fading_80 : decode cX5_fading 80 = .ok (.iload_n 2, 1) := by decide +kernel
theorem dX5_fading_81 : decode cX5_fading 81 = .ok (.ireturn, 1) := by decide +kernel
theorem dX5_spotAt_0 : decode cX5_spotAt 0 = .ok (.aload_n 0, 1) := by decide +kernel
theorem dX5_spotAt_1 : decode cX5_spotAt 1 = .ok (.getfield 7, 3) := by decide +kernel
theorem dX5_spotAt_4 : decode cX5_spotAt 4 = .ok (.bipush 7, 2) := by decide +kernel
theorem dX5_spotAt_6 : decode cX5_spotAt 6 = .ok (.iload_n 1, 1) := by decide +kernel
theorem dX5_spotAt_7 : decode cX5_spotAt 7 = .ok (.iadd, 1) := by decide +kernel
theorem dX5_spotAt_8 : decode cX5_spotAt 8 = .ok (.iaload, 1) := by decide +kernel
theorem dX5_spotAt_9 : decode cX5_spotAt 9 = .ok (.ireturn, 1) := by decide +kernel
set_option maxRecDepth 20000 in
theorem ggX5_lastTick_X5_spotAt : GoodIn wsX5_lastTick wsX5_spotAt := goodIn_r _ [6, 1, 13, 14, 15, 16, 17, 18, 19, 20, 21, 22, 23, 24, 25, 26] (by decide +kernel) (by decide +kernel)
set_option maxRecDepth 20000 in
theorem gX5_lastTick_X5_spotAt : GoodIn wsX5_lastTick (wsV RX5 50 RX5 yX5_spotAt wsX5_spotAt) := goodIn_app (goodIn_of _ (by decide +kernel)) ggX5_lastTick_X5_spotAt
set_option maxRecDepth 20000 in
theorem ggX5_lastTick_X5_way : GoodIn wsX5_lastTick wsX5_way := goodIn_r _ [9, 10, 11, 5, 12] (by decide +kernel) (by decide +kernel)
set_option maxRecDepth 20000 in
theorem gX5_lastTick_X5_way : GoodIn wsX5_lastTick (va_wsS RX5 53 yX5_way wsX5_way) := goodIn_app (goodIn_of _ (by decide +kernel)) ggX5_lastTick_X5_way
theorem dX5_lastTick_0 : decode cX5_lastTick 0 = .ok (.iconst 0, 1) := by decide +kernel
theorem dX5_lastTick_1 : decode cX5_lastTick 1 = .ok (.istore_n 1, 1) := by decide +kernel
theorem dX5_lastTick_2 : decode cX5_lastTick 2 = .ok (.iconst 0, 1) := by decide +kernel
theorem dX5_lastTick_3 : decode cX5_lastTick 3 = .ok (.istore_n 2, 1) := by decide +kernel
theorem dX5_lastTick_4 : decode cX5_lastTick 4 = .ok (.iconst 0, 1) := by decide +kernel
theorem dX5_lastTick_5 : decode cX5_lastTick 5 = .ok (.istore_n 3, 1) := by decide +kernel
theorem dX5_lastTick_6 : decode cX5_lastTick 6 = .ok (.iload_n 3, 1) := by decide +kernel
theorem dX5_lastTick_7 : decode cX5_lastTick 7 = .ok (.aload_n 0, 1) := by decide +kernel
theorem dX5_lastTick_8 : decode cX5_lastTick 8 = .ok (.getfield 7, 3) := by decide +kernel
theorem dX5_lastTick_11 : decode cX5_lastTick 11 = .ok (.bipush 6, 2) := by decide +kernel
theorem dX5_lastTick_13 : decode cX5_lastTick 13 = .ok (.iaload, 1) := by decide +kernel
theorem dX5_lastTick_14 : decode cX5_lastTick 14 = .ok (.if_icmp .ge 36, 3) := by decide +kernel
theorem dX5_lastTick_17 : decode cX5_lastTick 17 = .ok (.iload_n 1, 1) := by decide +kernel
theorem dX5_lastTick_18 : decode cX5_lastTick 18 = .ok (.iload_n 2, 1) := by decide +kernel
theorem dX5_lastTick_19 : decode cX5_lastTick 19 = .ok (.aload_n 0, 1) := by decide +kernel
theorem dX5_lastTick_20 : decode cX5_lastTick 20 = .ok (.iload_n 3, 1) := by decide +kernel
theorem dX5_lastTick_21 : decode cX5_lastTick 21 = .ok (.invokevirtual 50, 3) := by decide +kernel
theorem dX5_lastTick_24 : decode cX5_lastTick 24 = .ok (.invokestatic 53, 3) := by decide +kernel
theorem dX5_lastTick_27 : decode cX5_lastTick 27 = .ok (.aload_n 0, 1) := by decide +kernel
theorem dX5_lastTick_28 : decode cX5_lastTick 28 = .ok (.getfield 7, 3) := by decide +kernel
theorem dX5_lastTick_31 : decode cX5_lastTick 31 = .ok (.iconst 1, 1) := by decide +kernel
theorem dX5_lastTick_32 : decode cX5_lastTick 32 = .ok (.iaload, 1) := by decide +kernel
theorem dX5_lastTick_33 : decode cX5_lastTick 33 = .ok (.imul, 1) := by decide +kernel
theorem dX5_lastTick_34 : decode cX5_lastTick 34 = .ok (.iconst 1, 1) := by decide +kernel
theorem dX5_lastTick_35 : decode cX5_lastTick 35 = .ok (.iadd, 1) := by decide +kernel
theorem dX5_lastTick_36 : decode cX5_lastTick 36 = .ok (.iadd, 1) := by decide +kernel
theorem dX5_lastTick_37 : decode cX5_lastTick 37 = .ok (.istore_n 1, 1) := by decide +kernel
theorem dX5_lastTick_38 : decode cX5_lastTick 38 = .ok (.aload_n 0, 1) := by decide +kernel
theorem dX5_lastTick_39 : decode cX5_lastTick 39 = .ok (.iload_n 3, 1) := by decide +kernel
theorem dX5_lastTick_40 : decode cX5_lastTick 40 = .ok (.invokevirtual 50, 3) := by decide +kernel
theorem dX5_lastTick_43 : decode cX5_lastTick 43 = .ok (.istore_n 2, 1) := by decide +kernel
theorem dX5_lastTick_44 : decode cX5_lastTick 44 = .ok (.iinc 3 1, 3) := by decide +kernel
theorem dX5_lastTick_47 : decode cX5_lastTick 47 = .ok (.goto (-41), 3) := by decide +kernel
theorem dX5_lastTick_50 : decode cX5_lastTick 50 = .ok (.iload_n 1, 1) := by decide +kernel
theorem dX5_lastTick_51 : decode cX5_lastTick 51 = .ok (.ireturn, 1) := by decide +kernel
set_option maxRecDepth 20000 in
theorem ggX5_beam_X5_spotAt : GoodIn wsX5_beam wsX5_spotAt := goodIn_r _ [7, 2, 14, 15, 16, 17, 18, 19, 20, 21, 22, 23, 24, 25, 26, 27] (by decide +kernel) (by decide +kernel)
set_option maxRecDepth 20000 in
theorem gX5_beam_X5_spotAt : GoodIn wsX5_beam (wsV RX5 50 RX5 yX5_spotAt wsX5_spotAt) := goodIn_app (goodIn_of _ (by decide +kernel)) ggX5_beam_X5_spotAt
set_option maxRecDepth 20000 in
theorem ggX5_beam_X5_way : GoodIn wsX5_beam wsX5_way := goodIn_r _ [10, 11, 12, 6, 13] (by decide +kernel) (by decide +kernel)
set_option maxRecDepth 20000 in
theorem gX5_beam_X5_way : GoodIn wsX5_beam (va_wsS RX5 53 yX5_way wsX5_way) := goodIn_app (goodIn_of _ (by decide +kernel)) ggX5_beam_X5_way
theorem dX5_beam_0 : decode cX5_beam 0 = .ok (.iconst 0, 1) := by decide +kernel
theorem dX5_beam_1 : decode cX5_beam 1 = .ok (.istore_n 1, 1) := by decide +kernel
theorem dX5_beam_2 : decode cX5_beam 2 = .ok (.iload_n 1, 1) := by decide +kernel
theorem dX5_beam_3 : decode cX5_beam 3 = .ok (.bipush 64, 2) := by decide +kernel
theorem dX5_beam_5 : decode cX5_beam 5 = .ok (.if_icmp .ge 17, 3) := by decide +kernel
theorem dX5_beam_8 : decode cX5_beam 8 = .ok (.aload_n 0, 1) := by decide +kernel
theorem dX5_beam_9 : decode cX5_beam 9 = .ok (.getfield 25, 3) := by decide +kernel
theorem dX5_beam_12 : decode cX5_beam 12 = .ok (.iload_n 1, 1) := by decide +kernel
theorem dX5_beam_13 : decode cX5_beam 13 = .ok (.bipush (-9), 2) := by decide +kernel
theorem dX5_beam_15 : decode cX5_beam 15 = .ok (.iastore, 1) := by decide +kernel
theorem dX5_beam_16 : decode cX5_beam 16 = .ok (.iinc 1 1, 3) := by decide +kernel
theorem dX5_beam_19 : decode cX5_beam 19 = .ok (.goto (-17), 3) := by decide +kernel
theorem dX5_beam_22 : decode cX5_beam 22 = .ok (.iconst 0, 1) := by decide +kernel
theorem dX5_beam_23 : decode cX5_beam 23 = .ok (.istore_n 1, 1) := by decide +kernel
theorem dX5_beam_24 : decode cX5_beam 24 = .ok (.iconst 0, 1) := by decide +kernel
theorem dX5_beam_25 : decode cX5_beam 25 = .ok (.istore_n 2, 1) := by decide +kernel
theorem dX5_beam_26 : decode cX5_beam 26 = .ok (.iconst 0, 1) := by decide +kernel
theorem dX5_beam_27 : decode cX5_beam 27 = .ok (.istore_n 3, 1) := by decide +kernel
theorem dX5_beam_28 : decode cX5_beam 28 = .ok (.iload_n 3, 1) := by decide +kernel
theorem dX5_beam_29 : decode cX5_beam 29 = .ok (.aload_n 0, 1) := by decide +kernel
theorem dX5_beam_30 : decode cX5_beam 30 = .ok (.getfield 7, 3) := by decide +kernel
theorem dX5_beam_33 : decode cX5_beam 33 = .ok (.bipush 6, 2) := by decide +kernel
theorem dX5_beam_35 : decode cX5_beam 35 = .ok (.iaload, 1) := by decide +kernel
theorem dX5_beam_36 : decode cX5_beam 36 = .ok (.if_icmp .ge 58, 3) := by decide +kernel
theorem dX5_beam_39 : decode cX5_beam 39 = .ok (.iload_n 1, 1) := by decide +kernel
theorem dX5_beam_40 : decode cX5_beam 40 = .ok (.iload_n 2, 1) := by decide +kernel
theorem dX5_beam_41 : decode cX5_beam 41 = .ok (.aload_n 0, 1) := by decide +kernel
theorem dX5_beam_42 : decode cX5_beam 42 = .ok (.iload_n 3, 1) := by decide +kernel
theorem dX5_beam_43 : decode cX5_beam 43 = .ok (.invokevirtual 50, 3) := by decide +kernel
theorem dX5_beam_46 : decode cX5_beam 46 = .ok (.invokestatic 53, 3) := by decide +kernel
theorem dX5_beam_49 : decode cX5_beam 49 = .ok (.aload_n 0, 1) := by decide +kernel
theorem dX5_beam_50 : decode cX5_beam 50 = .ok (.getfield 7, 3) := by decide +kernel
theorem dX5_beam_53 : decode cX5_beam 53 = .ok (.iconst 1, 1) := by decide +kernel
theorem dX5_beam_54 : decode cX5_beam 54 = .ok (.iaload, 1) := by decide +kernel
theorem dX5_beam_55 : decode cX5_beam 55 = .ok (.imul, 1) := by decide +kernel
theorem dX5_beam_56 : decode cX5_beam 56 = .ok (.iconst 1, 1) := by decide +kernel
theorem dX5_beam_57 : decode cX5_beam 57 = .ok (.iadd, 1) := by decide +kernel
theorem dX5_beam_58 : decode cX5_beam 58 = .ok (.iadd, 1) := by decide +kernel
theorem dX5_beam_59 : decode cX5_beam 59 = .ok (.istore_n 1, 1) := by decide +kernel
theorem dX5_beam_60 : decode cX5_beam 60 = .ok (.aload_n 0, 1) := by decide +kernel
theorem dX5_beam_61 : decode cX5_beam 61 = .ok (.iload_n 3, 1) := by decide +kernel
theorem dX5_beam_62 : decode cX5_beam 62 = .ok (.invokevirtual 50, 3) := by decide +kernel
theorem dX5_beam_65 : decode cX5_beam 65 = .ok (.istore_n 2, 1) := by decide +kernel
theorem dX5_beam_66 : decode cX5_beam 66 = .ok (.aload_n 0, 1) := by decide +kernel
theorem dX5_beam_67 : decode cX5_beam 67 = .ok (.getfield 25, 3) := by decide +kernel
theorem dX5_beam_70 : decode cX5_beam 70 = .ok (.iload_n 2, 1) := by decide +kernel
theorem dX5_beam_71 : decode cX5_beam 71 = .ok (.iload_n 1, 1) := by decide +kernel
theorem dX5_beam_72 : decode cX5_beam 72 = .ok (.aload_n 0, 1) := by decide +kernel
theorem dX5_beam_73 : decode cX5_beam 73 = .ok (.getfield 7, 3) := by decide +kernel
theorem dX5_beam_76 : decode cX5_beam 76 = .ok (.iconst 0, 1) := by decide +kernel
theorem dX5_beam_77 : decode cX5_beam 77 = .ok (.iaload, 1) := by decide +kernel
theorem dX5_beam_78 : decode cX5_beam 78 = .ok (.if_icmp .ge 7, 3) := by decide +kernel
theorem dX5_beam_81 : decode cX5_beam 81 = .ok (.iload_n 1, 1) := by decide +kernel
theorem dX5_beam_82 : decode cX5_beam 82 = .ok (.goto 5, 3) := by decide +kernel
theorem dX5_beam_85 : decode cX5_beam 85 = .ok (.bipush (-9), 2) := by decide +kernel
theorem dX5_beam_87 : decode cX5_beam 87 = .ok (.iastore, 1) := by decide +kernel
theorem dX5_beam_88 : decode cX5_beam 88 = .ok (.iinc 3 1, 3) := by decide +kernel
theorem dX5_beam_91 : decode cX5_beam 91 = .ok (.goto (-63), 3) := by decide +kernel
theorem dX5_beam_94 : decode cX5_beam 94 = .ok (.return_, 1) := by decide +kernel
set_option maxRecDepth 20000 in
theorem ggX5_brightnessAt_X5_fading : GoodIn wsX5_brightnessAt wsX5_fading := goodIn_r _ [6, 7, 8, 5, 9] (by decide +kernel) (by decide +kernel)
set_option maxRecDepth 20000 in
theorem gX5_brightnessAt_X5_fading : GoodIn wsX5_brightnessAt (va_wsS RX5 57 yX5_fading wsX5_fading) := goodIn_app (goodIn_of _ (by decide +kernel)) ggX5_brightnessAt_X5_fading
theorem dX5_brightnessAt_0 : decode cX5_brightnessAt 0 = .ok (.aload_n 0, 1) := by decide +kernel
theorem dX5_brightnessAt_1 : decode cX5_brightnessAt 1 = .ok (.getfield 25, 3) := by decide +kernel
theorem dX5_brightnessAt_4 : decode cX5_brightnessAt 4 = .ok (.iload_n 1, 1) := by decide +kernel
theorem dX5_brightnessAt_5 : decode cX5_brightnessAt 5 = .ok (.iaload, 1) := by decide +kernel
theorem dX5_brightnessAt_6 : decode cX5_brightnessAt 6 = .ok (.bipush (-9), 2) := by decide +kernel
theorem dX5_brightnessAt_8 : decode cX5_brightnessAt 8 = .ok (.if_icmp .ne 5, 3) := by decide +kernel
theorem dX5_brightnessAt_11 : decode cX5_brightnessAt 11 = .ok (.iconst 0, 1) := by decide +kernel
theorem dX5_brightnessAt_12 : decode cX5_brightnessAt 12 = .ok (.ireturn, 1) := by decide +kernel
theorem dX5_brightnessAt_13 : decode cX5_brightnessAt 13 = .ok (.iload_n 2, 1) := by decide +kernel
theorem dX5_brightnessAt_14 : decode cX5_brightnessAt 14 = .ok (.aload_n 0, 1) := by decide +kernel
theorem dX5_brightnessAt_15 : decode cX5_brightnessAt 15 = .ok (.getfield 25, 3) := by decide +kernel
theorem dX5_brightnessAt_18 : decode cX5_brightnessAt 18 = .ok (.iload_n 1, 1) := by decide +kernel
theorem dX5_brightnessAt_19 : decode cX5_brightnessAt 19 = .ok (.iaload, 1) := by decide +kernel
theorem dX5_brightnessAt_20 : decode cX5_brightnessAt 20 = .ok (.isub, 1) := by decide +kernel
theorem dX5_brightnessAt_21 : decode cX5_brightnessAt 21 = .ok (.istore_n 3, 1) := by decide +kernel
theorem dX5_brightnessAt_22 : decode cX5_brightnessAt 22 = .ok (.aload_n 0, 1) := by decide +kernel
theorem dX5_brightnessAt_23 : decode cX5_brightnessAt 23 = .ok (.getfield 7, 3) := by decide +kernel
theorem dX5_brightnessAt_26 : decode cX5_brightnessAt 26 = .ok (.bipush 19, 2) := by decide +kernel
theorem dX5_brightnessAt_28 : decode cX5_brightnessAt 28 = .ok (.iload_n 1, 1) := by decide +kernel
theorem dX5_brightnessAt_29 : decode cX5_brightnessAt 29 = .ok (.iadd, 1) := by decide +kernel
theorem dX5_brightnessAt_30 : decode cX5_brightnessAt 30 = .ok (.iaload, 1) := by decide +kernel
theorem dX5_brightnessAt_31 : decode cX5_brightnessAt 31 = .ok (.iload_n 3, 1) := by decide +kernel
theorem dX5_brightnessAt_32 : decode cX5_brightnessAt 32 = .ok (.ifCond .ge 14, 3) := by decide +kernel
theorem dX5_brightnessAt_35 : decode cX5_brightnessAt 35 = .ok (.iload_n 3, 1) := by decide +kernel
theorem dX5_brightnessAt_36 : decode cX5_brightnessAt 36 = .ok (.aload_n 0, 1) := by decide +kernel
theorem dX5_brightnessAt_37 : decode cX5_brightnessAt 37 = .ok (.getfield 7, 3) := by decide +kernel
theorem dX5_brightnessAt_40 : decode cX5_brightnessAt 40 = .ok (.iconst 0, 1) := by decide +kernel
theorem dX5_brightnessAt_41 : decode cX5_brightnessAt 41 = .ok (.iaload, 1) := by decide +kernel
theorem dX5_brightnessAt_42 : decode cX5_brightnessAt 42 = .ok (.iadd, 1) := by decide +kernel
theorem dX5_brightnessAt_43 : decode cX5_brightnessAt 43 = .ok (.goto 4, 3) := by decide +kernel
theorem dX5_brightnessAt_46 : decode cX5_brightnessAt 46 = .ok (.iload_n 3, 1) := by decide +kernel
theorem dX5_brightnessAt_47 : decode cX5_brightnessAt 47 = .ok (.invokestatic 57, 3) := by decide +kernel
theorem dX5_brightnessAt_50 : decode cX5_brightnessAt 50 = .ok (.ireturn, 1) := by decide +kernel
set_option maxRecDepth 20000 in
theorem ggX5_eyeMean_X5_brightnessAt : GoodIn wsX5_eyeMean wsX5_brightnessAt := goodIn_r _ [6, 7, 1, 8, 9, 5, 10, 11, 12, 13, 14, 15, 16, 17, 18, 19, 20, 21, 22, 23, 24, 25, 26, 27] (by decide +kernel) (by decide +kernel)
set_option maxRecDepth 20000 in
theorem gX5_eyeMean_X5_brightnessAt : GoodIn wsX5_eyeMean (wsV RX5 60 RX5 yX5_brightnessAt wsX5_brightnessAt) := goodIn_app (goodIn_of _ (by decide +kernel)) ggX5_eyeMean_X5_brightnessAt
theorem dX5_eyeMean_0 : decode cX5_eyeMean 0 = .ok (.iconst 0, 1) := by decide +kernel
theorem dX5_eyeMean_1 : decode cX5_eyeMean 1 = .ok (.istore_n 2, 1) := by decide +kernel
theorem dX5_eyeMean_2 : decode cX5_eyeMean 2 = .ok (.iconst 0, 1) := by decide +kernel
theorem dX5_eyeMean_3 : decode cX5_eyeMean 3 = .ok (.istore_n 3, 1) := by decide +kernel
theorem dX5_eyeMean_4 : decode cX5_eyeMean 4 = .ok (.iload_n 3, 1) := by decide +kernel
theorem dX5_eyeMean_5 : decode cX5_eyeMean 5 = .ok (.aload_n 0, 1) := by decide +kernel
theorem dX5_eyeMean_6 : decode cX5_eyeMean 6 = .ok (.getfield 7, 3) := by decide +kernel
theorem dX5_eyeMean_9 : decode cX5_eyeMean 9 = .ok (.iconst 0, 1) := by decide +kernel
theorem dX5_eyeMean_10 : decode cX5_eyeMean 10 = .ok (.iaload, 1) := by decide +kernel
theorem dX5_eyeMean_11 : decode cX5_eyeMean 11 = .ok (.if_icmp .ge 18, 3) := by decide +kernel
theorem dX5_eyeMean_14 : decode cX5_eyeMean 14 = .ok (.iload_n 2, 1) := by decide +kernel
theorem dX5_eyeMean_15 : decode cX5_eyeMean 15 = .ok (.aload_n 0, 1) := by decide +kernel
theorem dX5_eyeMean_16 : decode cX5_eyeMean 16 = .ok (.iload_n 1, 1) := by decide +kernel
theorem dX5_eyeMean_17 : decode cX5_eyeMean 17 = .ok (.iload_n 3, 1) := by decide +kernel
theorem dX5_eyeMean_18 : decode cX5_eyeMean 18 = .ok (.invokevirtual 60, 3) := by decide +kernel
theorem dX5_eyeMean_21 : decode cX5_eyeMean 21 = .ok (.iadd, 1) := by decide +kernel
theorem dX5_eyeMean_22 : decode cX5_eyeMean 22 = .ok (.istore_n 2, 1) := by decide +kernel
theorem dX5_eyeMean_23 : decode cX5_eyeMean 23 = .ok (.iinc 3 1, 3) := by decide +kernel
theorem dX5_eyeMean_26 : decode cX5_eyeMean 26 = .ok (.goto (-22), 3) := by decide +kernel
theorem dX5_eyeMean_29 : decode cX5_eyeMean 29 = .ok (.iload_n 2, 1) := by decide +kernel
theorem dX5_eyeMean_30 : decode cX5_eyeMean 30 = .ok (.aload_n 0, 1) := by decide +kernel
theorem dX5_eyeMean_31 : decode cX5_eyeMean 31 = .ok (.getfield 7, 3) := by decide +kernel
theorem dX5_eyeMean_34 : decode cX5_eyeMean 34 = .ok (.iconst 0, 1) := by decide +kernel
theorem dX5_eyeMean_35 : decode cX5_eyeMean 35 = .ok (.iaload, 1) := by decide +kernel
theorem dX5_eyeMean_36 : decode cX5_eyeMean 36 = .ok (.idiv, 1) := by decide +kernel
theorem dX5_eyeMean_37 : decode cX5_eyeMean 37 = .ok (.ireturn, 1) := by decide +kernel
set_option maxRecDepth 20000 in
theorem ggX5_shutterMean_X5_brightnessAt : GoodIn wsX5_shutterMean wsX5_brightnessAt := goodIn_r _ [6, 7, 1, 8, 9, 5, 10, 11, 12, 13, 14, 15, 16, 17, 18, 19, 20, 21, 22, 23, 24, 25, 26, 27] (by decide +kernel) (by decide +kernel)
set_option maxRecDepth 20000 in
theorem gX5_shutterMean_X5_brightnessAt : GoodIn wsX5_shutterMean (wsV RX5 60 RX5 yX5_brightnessAt wsX5_brightnessAt) := goodIn_app (goodIn_of _ (by decide +kernel)) ggX5_shutterMean_X5_brightnessAt
theorem dX5_shutterMean_0 : decode cX5_shutterMean 0 = .ok (.iconst 0, 1) := by decide +kernel
theorem dX5_shutterMean_1 : decode cX5_shutterMean 1 = .ok (.istore 4, 2) := by decide +kernel
theorem dX5_shutterMean_3 : decode cX5_shutterMean 3 = .ok (.iconst 0, 1) := by decide +kernel
theorem dX5_shutterMean_4 : decode cX5_shutterMean 4 = .ok (.istore 5, 2) := by decide +kernel
theorem dX5_shutterMean_6 : decode cX5_shutterMean 6 = .ok (.iload 5, 2) := by decide +kernel
theorem dX5_shutterMean_8 : decode cX5_shutterMean 8 = .ok (.iload_n 3, 1) := by decide +kernel
theorem dX5_shutterMean_9 : decode cX5_shutterMean 9 = .ok (.if_icmp .ge 30, 3) := by decide +kernel
theorem dX5_shutterMean_12 : decode cX5_shutterMean 12 = .ok (.iload 4, 2) := by decide +kernel
theorem dX5_shutterMean_14 : decode cX5_shutterMean 14 = .ok (.aload_n 0, 1) := by decide +kernel
theorem dX5_shutterMean_15 : decode cX5_shutterMean 15 = .ok (.iload_n 1, 1) := by decide +kernel
theorem dX5_shutterMean_16 : decode cX5_shutterMean 16 = .ok (.iload_n 2, 1) := by decide +kernel
theorem dX5_shutterMean_17 : decode cX5_shutterMean 17 = .ok (.iload 5, 2) := by decide +kernel
theorem dX5_shutterMean_19 : decode cX5_shutterMean 19 = .ok (.iadd, 1) := by decide +kernel
theorem dX5_shutterMean_20 : decode cX5_shutterMean 20 = .ok (.aload_n 0, 1) := by decide +kernel
theorem dX5_shutterMean_21 : decode cX5_shutterMean 21 = .ok (.getfield 7, 3) := by decide +kernel
theorem dX5_shutterMean_24 : decode cX5_shutterMean 24 = .ok (.iconst 0, 1) := by decide +kernel
theorem dX5_shutterMean_25 : decode cX5_shutterMean 25 = .ok (.iaload, 1) := by decide +kernel
theorem dX5_shutterMean_26 : decode cX5_shutterMean 26 = .ok (.irem, 1) := by decide +kernel
theorem dX5_shutterMean_27 : decode cX5_shutterMean 27 = .ok (.invokevirtual 60, 3) := by decide +kernel
theorem dX5_shutterMean_30 : decode cX5_shutterMean 30 = .ok (.iadd, 1) := by decide +kernel
theorem dX5_shutterMean_31 : decode cX5_shutterMean 31 = .ok (.istore 4, 2) := by decide +kernel
theorem dX5_shutterMean_33 : decode cX5_shutterMean 33 = .ok (.iinc 5 1, 3) := by decide +kernel
theorem dX5_shutterMean_36 : decode cX5_shutterMean 36 = .ok (.goto (-30), 3) := by decide +kernel
theorem dX5_shutterMean_39 : decode cX5_shutterMean 39 = .ok (.iload 4, 2) := by decide +kernel
theorem dX5_shutterMean_41 : decode cX5_shutterMean 41 = .ok (.iload_n 3, 1) := by decide +kernel
theorem dX5_shutterMean_42 : decode cX5_shutterMean 42 = .ok (.idiv, 1) := by decide +kernel
theorem dX5_shutterMean_43 : decode cX5_shutterMean 43 = .ok (.ireturn, 1) := by decide +kernel
set_option maxRecDepth 20000 in
theorem ggX5_isEyed_X5_eyeMean : GoodIn wsX5_isEyed wsX5_eyeMean := goodIn_r _ [7, 2, 8, 9, 10, 6, 11, 1, 12, 13, 14, 15, 16, 17, 18, 19, 20, 21, 22, 23, 24, 25, 26, 27, 28, 29, 30, 31] (by decide +kernel) (by decide +kernel)
set_option maxRecDepth 20000 in
theorem gX5_isEyed_X5_eyeMean : GoodIn wsX5_isEyed (wsV RX5 63 RX5 yX5_eyeMean wsX5_eyeMean) := goodIn_app (goodIn_of _ (by decide +kernel)) ggX5_isEyed_X5_eyeMean
theorem dX5_isEyed_0 : decode cX5_isEyed 0 = .ok (.aload_n 0, 1) := by decide +kernel
theorem dX5_isEyed_1 : decode cX5_isEyed 1 = .ok (.getfield 25, 3) := by decide +kernel
theorem dX5_isEyed_4 : decode cX5_isEyed 4 = .ok (.iload_n 1, 1) := by decide +kernel
theorem dX5_isEyed_5 : decode cX5_isEyed 5 = .ok (.iaload, 1) := by decide +kernel
theorem dX5_isEyed_6 : decode cX5_isEyed 6 = .ok (.bipush (-9), 2) := by decide +kernel
theorem dX5_isEyed_8 : decode cX5_isEyed 8 = .ok (.if_icmp .eq 21, 3) := by decide +kernel
theorem dX5_isEyed_11 : decode cX5_isEyed 11 = .ok (.aload_n 0, 1) := by decide +kernel
theorem dX5_isEyed_12 : decode cX5_isEyed 12 = .ok (.iload_n 1, 1) := by decide +kernel
theorem dX5_isEyed_13 : decode cX5_isEyed 13 = .ok (.invokevirtual 63, 3) := by decide +kernel
theorem dX5_isEyed_16 : decode cX5_isEyed 16 = .ok (.aload_n 0, 1) := by decide +kernel
theorem dX5_isEyed_17 : decode cX5_isEyed 17 = .ok (.getfield 7, 3) := by decide +kernel
theorem dX5_isEyed_20 : decode cX5_isEyed 20 = .ok (.iconst 2, 1) := by decide +kernel
theorem dX5_isEyed_21 : decode cX5_isEyed 21 = .ok (.iaload, 1) := by decide +kernel
theorem dX5_isEyed_22 : decode cX5_isEyed 22 = .ok (.if_icmp .lt 7, 3) := by decide +kernel
theorem dX5_isEyed_25 : decode cX5_isEyed 25 = .ok (.iconst 1, 1) := by decide +kernel
theorem dX5_isEyed_26 : decode cX5_isEyed 26 = .ok (.goto 4, 3) := by decide +kernel
theorem dX5_isEyed_29 : decode cX5_isEyed 29 = .ok (.iconst 0, 1) := by decide +kernel
theorem dX5_isEyed_30 : decode cX5_isEyed 30 = .ok (.ireturn, 1) := by decide +kernel
set_option maxRecDepth 20000 in
theorem ggX5_isShot_X5_shutterMean : GoodIn wsX5_isShot wsX5_shutterMean := goodIn_r _ [7, 2, 8, 9, 10, 6, 11, 1, 12, 13, 14, 15, 16, 17, 18, 19, 20, 21, 22, 23, 24, 25, 26, 27, 28, 29, 30, 31] (by decide +kernel) (by decide +kernel)
set_option maxRecDepth 20000 in
theorem gX5_isShot_X5_shutterMean : GoodIn wsX5_isShot (wsV RX5 66 RX5 yX5_shutterMean wsX5_shutterMean) := goodIn_app (goodIn_of _ (by decide +kernel)) ggX5_isShot_X5_shutterMean
theorem dX5_isShot_0 : decode cX5_isShot 0 = .ok (.aload_n 0, 1) := by decide +kernel
theorem dX5_isShot_1 : decode cX5_isShot 1 = .ok (.getfield 25, 3) := by decide +kernel
theorem dX5_isShot_4 : decode cX5_isShot 4 = .ok (.iload_n 1, 1) := by decide +kernel
theorem dX5_isShot_5 : decode cX5_isShot 5 = .ok (.iaload, 1) := by decide +kernel
theorem dX5_isShot_6 : decode cX5_isShot 6 = .ok (.bipush (-9), 2) := by decide +kernel
theorem dX5_isShot_8 : decode cX5_isShot 8 = .ok (.if_icmp .eq 23, 3) := by decide +kernel
theorem dX5_isShot_11 : decode cX5_isShot 11 = .ok (.aload_n 0, 1) := by decide +kernel
theorem dX5_isShot_12 : decode cX5_isShot 12 = .ok (.iload_n 1, 1) := by decide +kernel
theorem dX5_isShot_13 : decode cX5_isShot 13 = .ok (.iload_n 2, 1) := by decide +kernel
theorem dX5_isShot_14 : decode cX5_isShot 14 = .ok (.iload_n 3, 1) := by decide +kernel
theorem dX5_isShot_15 : decode cX5_isShot 15 = .ok (.invokevirtual 66, 3) := by decide +kernel
theorem dX5_isShot_18 : decode cX5_isShot 18 = .ok (.aload_n 0, 1) := by decide +kernel
theorem dX5_isShot_19 : decode cX5_isShot 19 = .ok (.getfield 7, 3) := by decide +kernel
theorem dX5_isShot_22 : decode cX5_isShot 22 = .ok (.iconst 5, 1) := by decide +kernel
theorem dX5_isShot_23 : decode cX5_isShot 23 = .ok (.iaload, 1) := by decide +kernel
theorem dX5_isShot_24 : decode cX5_isShot 24 = .ok (.if_icmp .lt 7, 3) := by decide +kernel
theorem dX5_isShot_27 : decode cX5_isShot 27 = .ok (.iconst 1, 1) := by decide +kernel
theorem dX5_isShot_28 : decode cX5_isShot 28 = .ok (.goto 4, 3) := by decide +kernel
theorem dX5_isShot_31 : decode cX5_isShot 31 = .ok (.iconst 0, 1) := by decide +kernel
theorem dX5_isShot_32 : decode cX5_isShot 32 = .ok (.ireturn, 1) := by decide +kernel
set_option maxRecDepth 20000 in
theorem ggX5_isShotNow_X5_isShot : GoodIn wsX5_isShotNow wsX5_isShot := goodIn_r _ [6, 7, 1, 8, 9, 10, 5, 11, 12, 13, 14, 15, 16, 17, 18, 19, 20, 21, 22, 23, 24, 25, 26, 27, 28, 29, 30, 31, 32, 33, 34, 35] (by decide +kernel) (by decide +kernel)
set_option maxRecDepth 20000 in
theorem gX5_isShotNow_X5_isShot : GoodIn wsX5_isShotNow (wsV RX5 70 RX5 yX5_isShot wsX5_isShot) := goodIn_app (goodIn_of _ (by decide +kernel)) ggX5_isShotNow_X5_isShot
theorem dX5_isShotNow_0 : decode cX5_isShotNow 0 = .ok (.aload_n 0, 1) := by decide +kernel
theorem dX5_isShotNow_1 : decode cX5_isShotNow 1 = .ok (.iload_n 1, 1) := by decide +kernel
theorem dX5_isShotNow_2 : decode cX5_isShotNow 2 = .ok (.aload_n 0, 1) := by decide +kernel
theorem dX5_isShotNow_3 : decode cX5_isShotNow 3 = .ok (.getfield 7, 3) := by decide +kernel
theorem dX5_isShotNow_6 : decode cX5_isShotNow 6 = .ok (.iconst 3, 1) := by decide +kernel
theorem dX5_isShotNow_7 : decode cX5_isShotNow 7 = .ok (.iaload, 1) := by decide +kernel
theorem dX5_isShotNow_8 : decode cX5_isShotNow 8 = .ok (.aload_n 0, 1) := by decide +kernel
theorem dX5_isShotNow_9 : decode cX5_isShotNow 9 = .ok (.getfield 7, 3) := by decide +kernel
theorem dX5_isShotNow_12 : decode cX5_isShotNow 12 = .ok (.iconst 4, 1) := by decide +kernel
theorem dX5_isShotNow_13 : decode cX5_isShotNow 13 = .ok (.iaload, 1) := by decide +kernel
theorem dX5_isShotNow_14 : decode cX5_isShotNow 14 = .ok (.invokevirtual 70, 3) := by decide +kernel
theorem dX5_isShotNow_17 : decode cX5_isShotNow 17 = .ok (.ireturn, 1) := by decide +kernel
set_option maxRecDepth 20000 in
theorem ggX5_wrongFor_X5_isShot : GoodIn wsX5_wrongFor wsX5_isShot := goodIn_r _ [6, 7, 1, 8, 9, 10, 5, 11, 12, 13, 14, 15, 16, 17, 18, 19, 20, 21, 22, 23, 24, 25, 26, 27, 28, 29, 30, 31, 32, 33, 34, 35] (by decide +kernel) (by decide +kernel)
set_option maxRecDepth 20000 in
theorem gX5_wrongFor_X5_isShot : GoodIn wsX5_wrongFor (wsV RX5 70 RX5 yX5_isShot wsX5_isShot) := goodIn_app (goodIn_of _ (by decide +kernel)) ggX5_wrongFor_X5_isShot
theorem dX5_wrongFor_0 : decode cX5_wrongFor 0 = .ok (.iconst 0, 1) := by decide +kernel
theorem dX5_wrongFor_1 : decode cX5_wrongFor 1 = .ok (.istore_n 3, 1) := by decide +kernel
theorem dX5_wrongFor_2 : decode cX5_wrongFor 2 = .ok (.iconst 0, 1) := by decide +kernel
theorem dX5_wrongFor_3 : decode cX5_wrongFor 3 = .ok (.istore 4, 2) := by decide +kernel
theorem dX5_wrongFor_5 : decode cX5_wrongFor 5 = .ok (.iload 4, 2) := by decide +kernel
theorem dX5_wrongFor_7 : decode cX5_wrongFor 7 = .ok (.bipush 64, 2) := by decide +kernel
theorem dX5_wrongFor_9 : decode cX5_wrongFor 9 = .ok (.if_icmp .ge 48, 3) := by decide +kernel
theorem dX5_wrongFor_12 : decode cX5_wrongFor 12 = .ok (.iload_n 3, 1) := by decide +kernel
theorem dX5_wrongFor_13 : decode cX5_wrongFor 13 = .ok (.aload_n 0, 1) := by decide +kernel
theorem dX5_wrongFor_14 : decode cX5_wrongFor 14 = .ok (.iload 4, 2) := by decide +kernel
theorem dX5_wrongFor_16 : decode cX5_wrongFor 16 = .ok (.iload_n 1, 1) := by decide +kernel
theorem dX5_wrongFor_17 : decode cX5_wrongFor 17 = .ok (.iload_n 2, 1) := by decide +kernel
theorem dX5_wrongFor_18 : decode cX5_wrongFor 18 = .ok (.invokevirtual 70, 3) := by decide +kernel
theorem dX5_wrongFor_21 : decode cX5_wrongFor 21 = .ok (.aload_n 0, 1) := by decide +kernel
theorem dX5_wrongFor_22 : decode cX5_wrongFor 22 = .ok (.getfield 7, 3) := by decide +kernel
theorem dX5_wrongFor_25 : decode cX5_wrongFor 25 = .ok (.sipush 147, 3) := by decide +kernel
theorem dX5_wrongFor_28 : decode cX5_wrongFor 28 = .ok (.iload 4, 2) := by decide +kernel
theorem dX5_wrongFor_30 : decode cX5_wrongFor 30 = .ok (.iadd, 1) := by decide +kernel
theorem dX5_wrongFor_31 : decode cX5_wrongFor 31 = .ok (.iaload, 1) := by decide +kernel
theorem dX5_wrongFor_32 : decode cX5_wrongFor 32 = .ok (.iconst 1, 1) := by decide +kernel
theorem dX5_wrongFor_33 : decode cX5_wrongFor 33 = .ok (.if_icmp .ne 7, 3) := by decide +kernel
theorem dX5_wrongFor_36 : decode cX5_wrongFor 36 = .ok (.iconst 1, 1) := by decide +kernel
theorem dX5_wrongFor_37 : decode cX5_wrongFor 37 = .ok (.goto 4, 3) := by decide +kernel
theorem dX5_wrongFor_40 : decode cX5_wrongFor 40 = .ok (.iconst 0, 1) := by decide +kernel
theorem dX5_wrongFor_41 : decode cX5_wrongFor 41 = .ok (.if_icmp .ne 7, 3) := by decide +kernel
theorem dX5_wrongFor_44 : decode cX5_wrongFor 44 = .ok (.iconst 0, 1) := by decide +kernel
theorem dX5_wrongFor_45 : decode cX5_wrongFor 45 = .ok (.goto 4, 3) := by decide +kernel
theorem dX5_wrongFor_48 : decode cX5_wrongFor 48 = .ok (.iconst 1, 1) := by decide +kernel
theorem dX5_wrongFor_49 : decode cX5_wrongFor 49 = .ok (.iadd, 1) := by decide +kernel
theorem dX5_wrongFor_50 : decode cX5_wrongFor 50 = .ok (.istore_n 3, 1) := by decide +kernel
theorem dX5_wrongFor_51 : decode cX5_wrongFor 51 = .ok (.iinc 4 1, 3) := by decide +kernel
theorem dX5_wrongFor_54 : decode cX5_wrongFor 54 = .ok (.goto (-49), 3) := by decide +kernel
theorem dX5_wrongFor_57 : decode cX5_wrongFor 57 = .ok (.iload_n 3, 1) := by decide +kernel
theorem dX5_wrongFor_58 : decode cX5_wrongFor 58 = .ok (.ireturn, 1) := by decide +kernel
set_option maxRecDepth 20000 in
theorem ggX5_isWrong_X5_isEyed : GoodIn wsX5_isWrong wsX5_isEyed := goodIn_r _ [6, 7, 1, 8, 9, 10, 5, 11, 12, 13, 14, 15, 16, 17, 18, 19, 20, 21, 34, 35, 36, 37, 38, 39, 40, 41, 42, 43, 44, 45, 46, 47] (by decide +kernel) (by decide +kernel)
set_option maxRecDepth 20000 in
theorem gX5_isWrong_X5_isEyed : GoodIn wsX5_isWrong (wsV RX5 73 RX5 yX5_isEyed wsX5_isEyed) := goodIn_app (goodIn_of _ (by decide +kernel)) ggX5_isWrong_X5_isEyed
set_option maxRecDepth 20000 in
theorem ggX5_isWrong_X5_isShotNow : GoodIn wsX5_isWrong wsX5_isShotNow := goodIn_r _ [25, 1, 26, 27, 28, 5, 29, 7, 30, 31, 32, 33, 12, 13, 14, 15, 16, 17, 18, 19, 20, 21, 34, 35, 36, 37, 38, 39, 40, 41, 42, 43, 44, 45, 46, 47] (by decide +kernel) (by decide +kernel)
set_option maxRecDepth 20000 in
theorem gX5_isWrong_X5_isShotNow : GoodIn wsX5_isWrong (wsV RX5 77 RX5 yX5_isShotNow wsX5_isShotNow) := goodIn_app (goodIn_of _ (by decide +kernel)) ggX5_isWrong_X5_isShotNow
theorem dX5_isWrong_0 : decode cX5_isWrong 0 = .ok (.iload_n 2, 1) := by decide +kernel
theorem dX5_isWrong_1 : decode cX5_isWrong 1 = .ok (.ifCond .ne 37, 3) := by decide +kernel
theorem dX5_isWrong_4 : decode cX5_isWrong 4 = .ok (.aload_n 0, 1) := by decide +kernel
theorem dX5_isWrong_5 : decode cX5_isWrong 5 = .ok (.iload_n 1, 1) := by decide +kernel
theorem dX5_isWrong_6 : decode cX5_isWrong 6 = .ok (.invokevirtual 73, 3) := by decide +kernel
theorem dX5_isWrong_9 : decode cX5_isWrong 9 = .ok (.aload_n 0, 1) := by decide +kernel
theorem dX5_isWrong_10 : decode cX5_isWrong 10 = .ok (.getfield 7, 3) := by decide +kernel
theorem dX5_isWrong_13 : decode cX5_isWrong 13 = .ok (.bipush 83, 2) := by decide +kernel
theorem dX5_isWrong_15 : decode cX5_isWrong 15 = .ok (.iload_n 1, 1) := by decide +kernel
theorem dX5_isWrong_16 : decode cX5_isWrong 16 = .ok (.iadd, 1) := by decide +kernel
theorem dX5_isWrong_17 : decode cX5_isWrong 17 = .ok (.iaload, 1) := by decide +kernel
theorem dX5_isWrong_18 : decode cX5_isWrong 18 = .ok (.iconst 1, 1) := by decide +kernel
theorem dX5_isWrong_19 : decode cX5_isWrong 19 = .ok (.if_icmp .ne 7, 3) := by decide +kernel
theorem dX5_isWrong_22 : decode cX5_isWrong 22 = .ok (.iconst 1, 1) := by decide +kernel
theorem dX5_isWrong_23 : decode cX5_isWrong 23 = .ok (.goto 4, 3) := by decide +kernel
theorem dX5_isWrong_26 : decode cX5_isWrong 26 = .ok (.iconst 0, 1) := by decide +kernel
theorem dX5_isWrong_27 : decode cX5_isWrong 27 = .ok (.if_icmp .eq 7, 3) := by decide +kernel
theorem dX5_isWrong_30 : decode cX5_isWrong 30 = .ok (.iconst 1, 1) := by decide +kernel
theorem dX5_isWrong_31 : decode cX5_isWrong 31 = .ok (.goto 39, 3) := by decide +kernel
theorem dX5_isWrong_34 : decode cX5_isWrong 34 = .ok (.iconst 0, 1) := by decide +kernel
theorem dX5_isWrong_35 : decode cX5_isWrong 35 = .ok (.goto 35, 3) := by decide +kernel
theorem dX5_isWrong_38 : decode cX5_isWrong 38 = .ok (.aload_n 0, 1) := by decide +kernel
theorem dX5_isWrong_39 : decode cX5_isWrong 39 = .ok (.iload_n 1, 1) := by decide +kernel
theorem dX5_isWrong_40 : decode cX5_isWrong 40 = .ok (.invokevirtual 77, 3) := by decide +kernel
theorem dX5_isWrong_43 : decode cX5_isWrong 43 = .ok (.aload_n 0, 1) := by decide +kernel
theorem dX5_isWrong_44 : decode cX5_isWrong 44 = .ok (.getfield 7, 3) := by decide +kernel
theorem dX5_isWrong_47 : decode cX5_isWrong 47 = .ok (.sipush 147, 3) := by decide +kernel
theorem dX5_isWrong_50 : decode cX5_isWrong 50 = .ok (.iload_n 1, 1) := by decide +kernel
theorem dX5_isWrong_51 : decode cX5_isWrong 51 = .ok (.iadd, 1) := by decide +kernel
theorem dX5_isWrong_52 : decode cX5_isWrong 52 = .ok (.iaload, 1) := by decide +kernel
theorem dX5_isWrong_53 : decode cX5_isWrong 53 = .ok (.iconst 1, 1) := by decide +kernel
theorem dX5_isWrong_54 : decode cX5_isWrong 54 = .ok (.if_icmp .ne 7, 3) := by decide +kernel
theorem dX5_isWrong_57 : decode cX5_isWrong 57 = .ok (.iconst 1, 1) := by decide +kernel
theorem dX5_isWrong_58 : decode cX5_isWrong 58 = .ok (.goto 4, 3) := by decide +kernel
theorem dX5_isWrong_61 : decode cX5_isWrong 61 = .ok (.iconst 0, 1) := by decide +kernel
theorem dX5_isWrong_62 : decode cX5_isWrong 62 = .ok (.if_icmp .eq 7, 3) := by decide +kernel
theorem dX5_isWrong_65 : decode cX5_isWrong 65 = .ok (.iconst 1, 1) := by decide +kernel
theorem dX5_isWrong_66 : decode cX5_isWrong 66 = .ok (.goto 4, 3) := by decide +kernel
theorem dX5_isWrong_69 : decode cX5_isWrong 69 = .ok (.iconst 0, 1) := by decide +kernel
theorem dX5_isWrong_70 : decode cX5_isWrong 70 = .ok (.ireturn, 1) := by decide +kernel
set_option maxRecDepth 20000 in
theorem ggX5_litMany_X5_beam : GoodIn wsX5_litMany wsX5_beam := goodIn_r _ [6, 1, 7, 8, 9, 10, 5, 11, 12, 13, 14, 15, 16, 17, 18, 19, 20, 21, 22, 23, 24, 25, 26, 27, 28, 29, 30, 31] (by decide +kernel) (by decide +kernel)
set_option maxRecDepth 20000 in
theorem gX5_litMany_X5_beam : GoodIn wsX5_litMany (wsV RX5 80 RX5 yX5_beam wsX5_beam) := goodIn_app (goodIn_of _ (by decide +kernel)) ggX5_litMany_X5_beam
theorem dX5_litMany_0 : decode cX5_litMany 0 = .ok (.aload_n 0, 1) := by decide +kernel
theorem dX5_litMany_1 : decode cX5_litMany 1 = .ok (.invokevirtual 80, 3) := by decide +kernel
theorem dX5_litMany_4 : decode cX5_litMany 4 = .ok (.iconst 0, 1) := by decide +kernel
theorem dX5_litMany_5 : decode cX5_litMany 5 = .ok (.istore_n 1, 1) := by decide +kernel
theorem dX5_litMany_6 : decode cX5_litMany 6 = .ok (.iconst 0, 1) := by decide +kernel
theorem dX5_litMany_7 : decode cX5_litMany 7 = .ok (.istore_n 2, 1) := by decide +kernel
theorem dX5_litMany_8 : decode cX5_litMany 8 = .ok (.iload_n 2, 1) := by decide +kernel
theorem dX5_litMany_9 : decode cX5_litMany 9 = .ok (.bipush 64, 2) := by decide +kernel
theorem dX5_litMany_11 : decode cX5_litMany 11 = .ok (.if_icmp .ge 28, 3) := by decide +kernel
theorem dX5_litMany_14 : decode cX5_litMany 14 = .ok (.iload_n 1, 1) := by decide +kernel
theorem dX5_litMany_15 : decode cX5_litMany 15 = .ok (.aload_n 0, 1) := by decide +kernel
theorem dX5_litMany_16 : decode cX5_litMany 16 = .ok (.getfield 25, 3) := by decide +kernel
theorem dX5_litMany_19 : decode cX5_litMany 19 = .ok (.iload_n 2, 1) := by decide +kernel
theorem dX5_litMany_20 : decode cX5_litMany 20 = .ok (.iaload, 1) := by decide +kernel
theorem dX5_litMany_21 : decode cX5_litMany 21 = .ok (.bipush (-9), 2) := by decide +kernel
theorem dX5_litMany_23 : decode cX5_litMany 23 = .ok (.if_icmp .ne 7, 3) := by decide +kernel
theorem dX5_litMany_26 : decode cX5_litMany 26 = .ok (.iconst 0, 1) := by decide +kernel
theorem dX5_litMany_27 : decode cX5_litMany 27 = .ok (.goto 4, 3) := by decide +kernel
theorem dX5_litMany_30 : decode cX5_litMany 30 = .ok (.iconst 1, 1) := by decide +kernel
theorem dX5_litMany_31 : decode cX5_litMany 31 = .ok (.iadd, 1) := by decide +kernel
theorem dX5_litMany_32 : decode cX5_litMany 32 = .ok (.istore_n 1, 1) := by decide +kernel
theorem dX5_litMany_33 : decode cX5_litMany 33 = .ok (.iinc 2 1, 3) := by decide +kernel
theorem dX5_litMany_36 : decode cX5_litMany 36 = .ok (.goto (-28), 3) := by decide +kernel
theorem dX5_litMany_39 : decode cX5_litMany 39 = .ok (.iload_n 1, 1) := by decide +kernel
theorem dX5_litMany_40 : decode cX5_litMany 40 = .ok (.ireturn, 1) := by decide +kernel
theorem dX5_leastOf_0 : decode cX5_leastOf 0 = .ok (.iload_n 0, 1) := by decide +kernel
theorem dX5_leastOf_1 : decode cX5_leastOf 1 = .ok (.ifCond .ne 8, 3) := by decide +kernel
theorem dX5_leastOf_4 : decode cX5_leastOf 4 = .ok (.bipush 8, 2) := by decide +kernel
theorem dX5_leastOf_6 : decode cX5_leastOf 6 = .ok (.goto 13, 3) := by decide +kernel
theorem dX5_leastOf_9 : decode cX5_leastOf 9 = .ok (.iload_n 0, 1) := by decide +kernel
theorem dX5_leastOf_10 : decode cX5_leastOf 10 = .ok (.iconst 3, 1) := by decide +kernel
theorem dX5_leastOf_11 : decode cX5_leastOf 11 = .ok (.if_icmp .ne 7, 3) := by decide +kernel
theorem dX5_leastOf_14 : decode cX5_leastOf 14 = .ok (.iconst 0, 1) := by decide +kernel
theorem dX5_leastOf_15 : decode cX5_leastOf 15 = .ok (.goto 4, 3) := by decide +kernel
theorem dX5_leastOf_18 : decode cX5_leastOf 18 = .ok (.iconst 1, 1) := by decide +kernel
theorem dX5_leastOf_19 : decode cX5_leastOf 19 = .ok (.ireturn, 1) := by decide +kernel
theorem dX5_mostOf_0 : decode cX5_mostOf 0 = .ok (.iload_n 0, 1) := by decide +kernel
theorem dX5_mostOf_1 : decode cX5_mostOf 1 = .ok (.ifCond .ne 9, 3) := by decide +kernel
theorem dX5_mostOf_4 : decode cX5_mostOf 4 = .ok (.sipush 200, 3) := by decide +kernel
theorem dX5_mostOf_7 : decode cX5_mostOf 7 = .ok (.goto 35, 3) := by decide +kernel
theorem dX5_mostOf_10 : decode cX5_mostOf 10 = .ok (.iload_n 0, 1) := by decide +kernel
theorem dX5_mostOf_11 : decode cX5_mostOf 11 = .ok (.iconst 1, 1) := by decide +kernel
theorem dX5_mostOf_12 : decode cX5_mostOf 12 = .ok (.if_icmp .ne 7, 3) := by decide +kernel
theorem dX5_mostOf_15 : decode cX5_mostOf 15 = .ok (.iconst 4, 1) := by decide +kernel
theorem dX5_mostOf_16 : decode cX5_mostOf 16 = .ok (.goto 26, 3) := by decide +kernel
theorem dX5_mostOf_19 : decode cX5_mostOf 19 = .ok (.iload_n 0, 1) := by decide +kernel
theorem dX5_mostOf_20 : decode cX5_mostOf 20 = .ok (.iconst 3, 1) := by decide +kernel
theorem dX5_mostOf_21 : decode cX5_mostOf 21 = .ok (.if_icmp .ne 9, 3) := by decide +kernel
theorem dX5_mostOf_24 : decode cX5_mostOf 24 = .ok (.sipush 199, 3) := by decide +kernel
theorem dX5_mostOf_27 : decode cX5_mostOf 27 = .ok (.goto 15, 3) := by decide +kernel
theorem dX5_mostOf_30 : decode cX5_mostOf 30 = .ok (.iload_n 0, 1) := by decide +kernel
theorem dX5_mostOf_31 : decode cX5_mostOf 31 = .ok (.iconst 4, 1) := by decide +kernel
theorem dX5_mostOf_32 : decode cX5_mostOf 32 = .ok (.if_icmp .ne 8, 3) := by decide +kernel
theorem dX5_mostOf_35 : decode cX5_mostOf 35 = .ok (.bipush 50, 2) := by decide +kernel
theorem dX5_mostOf_37 : decode cX5_mostOf 37 = .ok (.goto 5, 3) := by decide +kernel
theorem dX5_mostOf_40 : decode cX5_mostOf 40 = .ok (.bipush 100, 2) := by decide +kernel
theorem dX5_mostOf_42 : decode cX5_mostOf 42 = .ok (.ireturn, 1) := by decide +kernel
set_option maxRecDepth 20000 in
theorem ggX5_set_X5_in : GoodIn wsX5_set wsX5_in := goodIn_r _ [6] (by decide +kernel) (by decide +kernel)
set_option maxRecDepth 20000 in
theorem gX5_set_X5_in : GoodIn wsX5_set (va_wsS RX5 36 yX5_in wsX5_in) := goodIn_app (goodIn_of _ (by decide +kernel)) ggX5_set_X5_in
set_option maxRecDepth 20000 in
theorem ggX5_set_X5_leastOf : GoodIn wsX5_set wsX5_leastOf := goodIn_r _ [9] (by decide +kernel) (by decide +kernel)
set_option maxRecDepth 20000 in
theorem gX5_set_X5_leastOf : GoodIn wsX5_set (va_wsS RX5 83 yX5_leastOf wsX5_leastOf) := goodIn_app (goodIn_of _ (by decide +kernel)) ggX5_set_X5_leastOf
set_option maxRecDepth 20000 in
theorem ggX5_set_X5_mostOf : GoodIn wsX5_set wsX5_mostOf := goodIn_r _ [12] (by decide +kernel) (by decide +kernel)
set_option maxRecDepth 20000 in
theorem gX5_set_X5_mostOf : GoodIn wsX5_set (va_wsS RX5 86 yX5_mostOf wsX5_mostOf) := goodIn_app (goodIn_of _ (by decide +kernel)) ggX5_set_X5_mostOf
set_option maxRecDepth 20000 in
theorem ggX5_set_X5_act : GoodIn wsX5_set wsX5_act := goodIn_r _ [16, 17, 18, 2, 19, 20, 21, 22, 23, 24, 25, 26, 27, 28, 29, 30, 31, 32] (by decide +kernel) (by decide +kernel)
set_option maxRecDepth 20000 in
theorem gX5_set_X5_act : GoodIn wsX5_set (wsV RX5 89 RX5 yX5_act wsX5_act) := goodIn_app (goodIn_of _ (by decide +kernel)) ggX5_set_X5_act
theorem dX5_set_0 : decode cX5_set 0 = .ok (.aload_n 0, 1) := by decide +kernel
theorem dX5_set_1 : decode cX5_set 1 = .ok (.iconst 0, 1) := by decide +kernel
theorem dX5_set_2 : decode cX5_set 2 = .ok (.putfield 32, 3) := by decide +kernel
theorem dX5_set_5 : decode cX5_set 5 = .ok (.iload_n 1, 1) := by decide +kernel
theorem dX5_set_6 : decode cX5_set 6 = .ok (.iconst 0, 1) := by decide +kernel
theorem dX5_set_7 : decode cX5_set 7 = .ok (.iconst 5, 1) := by decide +kernel
theorem dX5_set_8 : decode cX5_set 8 = .ok (.invokestatic 36, 3) := by decide +kernel
theorem dX5_set_11 : decode cX5_set 11 = .ok (.ifCond .eq 18, 3) := by decide +kernel
theorem dX5_set_14 : decode cX5_set 14 = .ok (.iload_n 2, 1) := by decide +kernel
theorem dX5_set_15 : decode cX5_set 15 = .ok (.iload_n 1, 1) := by decide +kernel
theorem dX5_set_16 : decode cX5_set 16 = .ok (.invokestatic 83, 3) := by decide +kernel
theorem dX5_set_19 : decode cX5_set 19 = .ok (.iload_n 1, 1) := by decide +kernel
theorem dX5_set_20 : decode cX5_set 20 = .ok (.invokestatic 86, 3) := by decide +kernel
theorem dX5_set_23 : decode cX5_set 23 = .ok (.invokestatic 36, 3) := by decide +kernel
theorem dX5_set_26 : decode cX5_set 26 = .ok (.ifCond .ne 5, 3) := by decide +kernel
theorem dX5_set_29 : decode cX5_set 29 = .ok (.iconst (-1), 1) := by decide +kernel
theorem dX5_set_30 : decode cX5_set 30 = .ok (.ireturn, 1) := by decide +kernel
theorem dX5_set_31 : decode cX5_set 31 = .ok (.aload_n 0, 1) := by decide +kernel
theorem dX5_set_32 : decode cX5_set 32 = .ok (.invokevirtual 89, 3) := by decide +kernel
theorem dX5_set_35 : decode cX5_set 35 = .ok (.aload_n 0, 1) := by decide +kernel
theorem dX5_set_36 : decode cX5_set 36 = .ok (.getfield 7, 3) := by decide +kernel
theorem dX5_set_39 : decode cX5_set 39 = .ok (.iconst 0, 1) := by decide +kernel
theorem dX5_set_40 : decode cX5_set 40 = .ok (.iload_n 1, 1) := by decide +kernel
theorem dX5_set_41 : decode cX5_set 41 = .ok (.iadd, 1) := by decide +kernel
theorem dX5_set_42 : decode cX5_set 42 = .ok (.iaload, 1) := by decide +kernel
theorem dX5_set_43 : decode cX5_set 43 = .ok (.istore_n 3, 1) := by decide +kernel
theorem dX5_set_44 : decode cX5_set 44 = .ok (.aload_n 0, 1) := by decide +kernel
theorem dX5_set_45 : decode cX5_set 45 = .ok (.getfield 7, 3) := by decide +kernel
theorem dX5_set_48 : decode cX5_set 48 = .ok (.iconst 0, 1) := by decide +kernel
theorem dX5_set_49 : decode cX5_set 49 = .ok (.iload_n 1, 1) := by decide +kernel
theorem dX5_set_50 : decode cX5_set 50 = .ok (.iadd, 1) := by decide +kernel
theorem dX5_set_51 : decode cX5_set 51 = .ok (.iload_n 2, 1) := by decide +kernel
theorem dX5_set_52 : decode cX5_set 52 = .ok (.iastore, 1) := by decide +kernel
theorem dX5_set_53 : decode cX5_set 53 = .ok (.iload_n 3, 1) := by decide +kernel
theorem dX5_set_54 : decode cX5_set 54 = .ok (.ireturn, 1) := by decide +kernel
set_option maxRecDepth 20000 in
theorem ggX5_kindCode_X5_isSpot : GoodIn wsX5_kindCode wsX5_isSpot := goodIn_r _ [4, 5, 6, 3, 7] (by decide +kernel) (by decide +kernel)
set_option maxRecDepth 20000 in
theorem gX5_kindCode_X5_isSpot : GoodIn wsX5_kindCode (va_wsS RX5 92 yX5_isSpot wsX5_isSpot) := goodIn_app (goodIn_of _ (by decide +kernel)) ggX5_kindCode_X5_isSpot
set_option maxRecDepth 20000 in
theorem ggX5_kindCode_X5_in : GoodIn wsX5_kindCode wsX5_in := goodIn_r _ [7] (by decide +kernel) (by decide +kernel)
set_option maxRecDepth 20000 in
theorem gX5_kindCode_X5_in : GoodIn wsX5_kindCode (va_wsS RX5 36 yX5_in wsX5_in) := goodIn_app (goodIn_of _ (by decide +kernel)) ggX5_kindCode_X5_in
theorem dX5_kindCode_0 : decode cX5_kindCode 0 = .ok (.iload_n 1, 1) := by decide +kernel
theorem dX5_kindCode_1 : decode cX5_kindCode 1 = .ok (.invokestatic 92, 3) := by decide +kernel
theorem dX5_kindCode_4 : decode cX5_kindCode 4 = .ok (.ifCond .eq 16, 3) := by decide +kernel
theorem dX5_kindCode_7 : decode cX5_kindCode 7 = .ok (.iload_n 2, 1) := by decide +kernel
theorem dX5_kindCode_8 : decode cX5_kindCode 8 = .ok (.iconst 0, 1) := by decide +kernel
theorem dX5_kindCode_9 : decode cX5_kindCode 9 = .ok (.iconst 3, 1) := by decide +kernel
theorem dX5_kindCode_10 : decode cX5_kindCode 10 = .ok (.invokestatic 36, 3) := by decide +kernel
theorem dX5_kindCode_13 : decode cX5_kindCode 13 = .ok (.ifCond .eq 7, 3) := by decide +kernel
theorem dX5_kindCode_16 : decode cX5_kindCode 16 = .ok (.iconst 0, 1) := by decide +kernel
theorem dX5_kindCode_17 : decode cX5_kindCode 17 = .ok (.goto 4, 3) := by decide +kernel
theorem dX5_kindCode_20 : decode cX5_kindCode 20 = .ok (.iconst (-1), 1) := by decide +kernel
theorem dX5_kindCode_21 : decode cX5_kindCode 21 = .ok (.ireturn, 1) := by decide +kernel
theorem dX5_kindNow_0 : decode cX5_kindNow 0 = .ok (.aload_n 0, 1) := by decide +kernel
theorem dX5_kindNow_1 : decode cX5_kindNow 1 = .ok (.getfield 7, 3) := by decide +kernel
theorem dX5_kindNow_4 : decode cX5_kindNow 4 = .ok (.bipush 19, 2) := by decide +kernel
theorem dX5_kindNow_6 : decode cX5_kindNow 6 = .ok (.iload_n 1, 1) := by decide +kernel
theorem dX5_kindNow_7 : decode cX5_kindNow 7 = .ok (.iadd, 1) := by decide +kernel
theorem dX5_kindNow_8 : decode cX5_kindNow 8 = .ok (.iaload, 1) := by decide +kernel
theorem dX5_kindNow_9 : decode cX5_kindNow 9 = .ok (.istore_n 3, 1) := by decide +kernel
theorem dX5_kindNow_10 : decode cX5_kindNow 10 = .ok (.aload_n 0, 1) := by decide +kernel
theorem dX5_kindNow_11 : decode cX5_kindNow 11 = .ok (.getfield 7, 3) := by decide +kernel
theorem dX5_kindNow_14 : decode cX5_kindNow 14 = .ok (.bipush 19, 2) := by decide +kernel
theorem dX5_kindNow_16 : decode cX5_kindNow 16 = .ok (.iload_n 1, 1) := by decide +kernel
theorem dX5_kindNow_17 : decode cX5_kindNow 17 = .ok (.iadd, 1) := by decide +kernel
theorem dX5_kindNow_18 : decode cX5_kindNow 18 = .ok (.iload_n 2, 1) := by decide +kernel
theorem dX5_kindNow_19 : decode cX5_kindNow 19 = .ok (.iastore, 1) := by decide +kernel
theorem dX5_kindNow_20 : decode cX5_kindNow 20 = .ok (.iload_n 3, 1) := by decide +kernel
theorem dX5_kindNow_21 : decode cX5_kindNow 21 = .ok (.ireturn, 1) := by decide +kernel
set_option maxRecDepth 20000 in
theorem ggX5_setPhosphor_X5_kindCode : GoodIn wsX5_setPhosphor wsX5_kindCode := goodIn_r _ [6, 7, 8, 5, 9, 10, 11, 12] (by decide +kernel) (by decide +kernel)
set_option maxRecDepth 20000 in
theorem gX5_setPhosphor_X5_kindCode : GoodIn wsX5_setPhosphor (wsV RX5 95 RX5 yX5_kindCode wsX5_kindCode) := goodIn_app (goodIn_of _ (by decide +kernel)) ggX5_setPhosphor_X5_kindCode
set_option maxRecDepth 20000 in
theorem ggX5_setPhosphor_X5_act : GoodIn wsX5_setPhosphor wsX5_act := goodIn_r _ [16, 17, 18, 19, 24, 25, 26, 27, 28, 29, 30, 31, 32, 33, 34, 35, 36, 37] (by decide +kernel) (by decide +kernel)
set_option maxRecDepth 20000 in
theorem gX5_setPhosphor_X5_act : GoodIn wsX5_setPhosphor (wsV RX5 89 RX5 yX5_act wsX5_act) := goodIn_app (goodIn_of _ (by decide +kernel)) ggX5_setPhosphor_X5_act
set_option maxRecDepth 20000 in
theorem ggX5_setPhosphor_X5_kindNow : GoodIn wsX5_setPhosphor wsX5_kindNow := goodIn_r _ [23, 19, 24, 25, 26, 27, 28, 29, 30, 31, 32, 33, 34, 35, 36, 37] (by decide +kernel) (by decide +kernel)
set_option maxRecDepth 20000 in
theorem gX5_setPhosphor_X5_kindNow : GoodIn wsX5_setPhosphor (wsV RX5 98 RX5 yX5_kindNow wsX5_kindNow) := goodIn_app (goodIn_of _ (by decide +kernel)) ggX5_setPhosphor_X5_kindNow
theorem dX5_setPhosphor_0 : decode cX5_setPhosphor 0 = .ok (.aload_n 0, 1) := by decide +kernel
theorem dX5_setPhosphor_1 : decode cX5_setPhosphor 1 = .ok (.iconst 0, 1) := by decide +kernel
theorem dX5_setPhosphor_2 : decode cX5_setPhosphor 2 = .ok (.putfield 32, 3) := by decide +kernel
theorem dX5_setPhosphor_5 : decode cX5_setPhosphor 5 = .ok (.aload_n 0, 1) := by decide +kernel
theorem dX5_setPhosphor_6 : decode cX5_setPhosphor 6 = .ok (.iload_n 1, 1) := by decide +kernel
theorem dX5_setPhosphor_7 : decode cX5_setPhosphor 7 = .ok (.iload_n 2, 1) := by decide +kernel
theorem dX5_setPhosphor_8 : decode cX5_setPhosphor 8 = .ok (.invokevirtual 95, 3) := by decide +kernel
theorem dX5_setPhosphor_11 : decode cX5_setPhosphor 11 = .ok (.istore_n 3, 1) := by decide +kernel
theorem dX5_setPhosphor_12 : decode cX5_setPhosphor 12 = .ok (.iload_n 3, 1) := by decide +kernel
theorem dX5_setPhosphor_13 : decode cX5_setPhosphor 13 = .ok (.ifCond .ge 5, 3) := by decide +kernel
theorem dX5_setPhosphor_16 : decode cX5_setPhosphor 16 = .ok (.iload_n 3, 1) := by decide +kernel
theorem dX5_setPhosphor_17 : decode cX5_setPhosphor 17 = .ok (.ireturn, 1) := by decide +kernel
theorem dX5_setPhosphor_18 : decode cX5_setPhosphor 18 = .ok (.aload_n 0, 1) := by decide +kernel
theorem dX5_setPhosphor_19 : decode cX5_setPhosphor 19 = .ok (.invokevirtual 89, 3) := by decide +kernel
theorem dX5_setPhosphor_22 : decode cX5_setPhosphor 22 = .ok (.aload_n 0, 1) := by decide +kernel
theorem dX5_setPhosphor_23 : decode cX5_setPhosphor 23 = .ok (.iload_n 1, 1) := by decide +kernel
theorem dX5_setPhosphor_24 : decode cX5_setPhosphor 24 = .ok (.iload_n 2, 1) := by decide +kernel
theorem dX5_setPhosphor_25 : decode cX5_setPhosphor 25 = .ok (.invokevirtual 98, 3) := by decide +kernel
theorem dX5_setPhosphor_28 : decode cX5_setPhosphor 28 = .ok (.ireturn, 1) := by decide +kernel
set_option maxRecDepth 20000 in
theorem ggX5_positionOf_X5_spotAt : GoodIn wsX5_positionOf wsX5_spotAt := goodIn_r _ [6, 1, 7, 8, 9, 10, 11, 12, 13, 14, 15, 16, 17, 18, 19, 20] (by decide +kernel) (by decide +kernel)
set_option maxRecDepth 20000 in
theorem gX5_positionOf_X5_spotAt : GoodIn wsX5_positionOf (wsV RX5 50 RX5 yX5_spotAt wsX5_spotAt) := goodIn_app (goodIn_of _ (by decide +kernel)) ggX5_positionOf_X5_spotAt
theorem dX5_positionOf_0 : decode cX5_positionOf 0 = .ok (.bipush (-9), 2) := by decide +kernel
theorem dX5_positionOf_2 : decode cX5_positionOf 2 = .ok (.istore_n 2, 1) := by decide +kernel
theorem dX5_positionOf_3 : decode cX5_positionOf 3 = .ok (.iconst 0, 1) := by decide +kernel
theorem dX5_positionOf_4 : decode cX5_positionOf 4 = .ok (.istore_n 3, 1) := by decide +kernel
theorem dX5_positionOf_5 : decode cX5_positionOf 5 = .ok (.iload_n 3, 1) := by decide +kernel
theorem dX5_positionOf_6 : decode cX5_positionOf 6 = .ok (.aload_n 0, 1) := by decide +kernel
theorem dX5_positionOf_7 : decode cX5_positionOf 7 = .ok (.getfield 7, 3) := by decide +kernel
theorem dX5_positionOf_10 : decode cX5_positionOf 10 = .ok (.bipush 6, 2) := by decide +kernel
theorem dX5_positionOf_12 : decode cX5_positionOf 12 = .ok (.iaload, 1) := by decide +kernel
theorem dX5_positionOf_13 : decode cX5_positionOf 13 = .ok (.if_icmp .ge 24, 3) := by decide +kernel
theorem dX5_positionOf_16 : decode cX5_positionOf 16 = .ok (.aload_n 0, 1) := by decide +kernel
theorem dX5_positionOf_17 : decode cX5_positionOf 17 = .ok (.iload_n 3, 1) := by decide +kernel
theorem dX5_positionOf_18 : decode cX5_positionOf 18 = .ok (.invokevirtual 50, 3) := by decide +kernel
theorem dX5_positionOf_21 : decode cX5_positionOf 21 = .ok (.iload_n 1, 1) := by decide +kernel
theorem dX5_positionOf_22 : decode cX5_positionOf 22 = .ok (.if_icmp .ne 7, 3) := by decide +kernel
theorem dX5_positionOf_25 : decode cX5_positionOf 25 = .ok (.iload_n 3, 1) := by decide +kernel
theorem dX5_positionOf_26 : decode cX5_positionOf 26 = .ok (.goto 4, 3) := by decide +kernel
theorem dX5_positionOf_29 : decode cX5_positionOf 29 = .ok (.iload_n 2, 1) := by decide +kernel
theorem dX5_positionOf_30 : decode cX5_positionOf 30 = .ok (.istore_n 2, 1) := by decide +kernel
theorem dX5_positionOf_31 : decode cX5_positionOf 31 = .ok (.iinc 3 1, 3) := by decide +kernel
theorem dX5_positionOf_34 : decode cX5_positionOf 34 = .ok (.goto (-29), 3) := by decide +kernel
theorem dX5_positionOf_37 : decode cX5_positionOf 37 = .ok (.iload_n 2, 1) := by decide +kernel
theorem dX5_positionOf_38 : decode cX5_positionOf 38 = .ok (.ireturn, 1) := by decide +kernel
set_option maxRecDepth 20000 in
theorem ggX5_lightCode_X5_isSpot : GoodIn wsX5_lightCode wsX5_isSpot := goodIn_r _ [5, 6, 7, 4, 8] (by decide +kernel) (by decide +kernel)
set_option maxRecDepth 20000 in
theorem gX5_lightCode_X5_isSpot : GoodIn wsX5_lightCode (va_wsS RX5 92 yX5_isSpot wsX5_isSpot) := goodIn_app (goodIn_of _ (by decide +kernel)) ggX5_lightCode_X5_isSpot
set_option maxRecDepth 20000 in
theorem ggX5_lightCode_X5_positionOf : GoodIn wsX5_lightCode wsX5_positionOf := goodIn_r _ [12, 1, 13, 14, 15, 4, 16, 17, 18, 19, 20, 21, 22, 23, 24, 25, 26, 27, 28, 29, 30] (by decide +kernel) (by decide +kernel)
set_option maxRecDepth 20000 in
theorem gX5_lightCode_X5_positionOf : GoodIn wsX5_lightCode (wsV RX5 101 RX5 yX5_positionOf wsX5_positionOf) := goodIn_app (goodIn_of _ (by decide +kernel)) ggX5_lightCode_X5_positionOf
theorem dX5_lightCode_0 : decode cX5_lightCode 0 = .ok (.iload_n 1, 1) := by decide +kernel
theorem dX5_lightCode_1 : decode cX5_lightCode 1 = .ok (.invokestatic 92, 3) := by decide +kernel
theorem dX5_lightCode_4 : decode cX5_lightCode 4 = .ok (.ifCond .ne 7, 3) := by decide +kernel
theorem dX5_lightCode_7 : decode cX5_lightCode 7 = .ok (.iconst (-1), 1) := by decide +kernel
theorem dX5_lightCode_8 : decode cX5_lightCode 8 = .ok (.goto 36, 3) := by decide +kernel
theorem dX5_lightCode_11 : decode cX5_lightCode 11 = .ok (.aload_n 0, 1) := by decide +kernel
theorem dX5_lightCode_12 : decode cX5_lightCode 12 = .ok (.iload_n 1, 1) := by decide +kernel
theorem dX5_lightCode_13 : decode cX5_lightCode 13 = .ok (.invokevirtual 101, 3) := by decide +kernel
theorem dX5_lightCode_16 : decode cX5_lightCode 16 = .ok (.bipush (-9), 2) := by decide +kernel
theorem dX5_lightCode_18 : decode cX5_lightCode 18 = .ok (.if_icmp .eq 8, 3) := by decide +kernel
theorem dX5_lightCode_21 : decode cX5_lightCode 21 = .ok (.bipush (-2), 2) := by decide +kernel
theorem dX5_lightCode_23 : decode cX5_lightCode 23 = .ok (.goto 21, 3) := by decide +kernel
theorem dX5_lightCode_26 : decode cX5_lightCode 26 = .ok (.aload_n 0, 1) := by decide +kernel
theorem dX5_lightCode_27 : decode cX5_lightCode 27 = .ok (.getfield 7, 3) := by decide +kernel
theorem dX5_lightCode_30 : decode cX5_lightCode 30 = .ok (.bipush 6, 2) := by decide +kernel
theorem dX5_lightCode_32 : decode cX5_lightCode 32 = .ok (.iaload, 1) := by decide +kernel
theorem dX5_lightCode_33 : decode cX5_lightCode 33 = .ok (.bipush 12, 2) := by decide +kernel
theorem dX5_lightCode_35 : decode cX5_lightCode 35 = .ok (.if_icmp .ne 8, 3) := by decide +kernel
theorem dX5_lightCode_38 : decode cX5_lightCode 38 = .ok (.bipush (-3), 2) := by decide +kernel
theorem dX5_lightCode_40 : decode cX5_lightCode 40 = .ok (.goto 4, 3) := by decide +kernel
theorem dX5_lightCode_43 : decode cX5_lightCode 43 = .ok (.iconst 0, 1) := by decide +kernel
theorem dX5_lightCode_44 : decode cX5_lightCode 44 = .ok (.ireturn, 1) := by decide +kernel
theorem dX5_lightNow_0 : decode cX5_lightNow 0 = .ok (.aload_n 0, 1) := by decide +kernel
theorem dX5_lightNow_1 : decode cX5_lightNow 1 = .ok (.getfield 7, 3) := by decide +kernel
theorem dX5_lightNow_4 : decode cX5_lightNow 4 = .ok (.bipush 7, 2) := by decide +kernel
theorem dX5_lightNow_6 : decode cX5_lightNow 6 = .ok (.aload_n 0, 1) := by decide +kernel
theorem dX5_lightNow_7 : decode cX5_lightNow 7 = .ok (.getfield 7, 3) := by decide +kernel
theorem dX5_lightNow_10 : decode cX5_lightNow 10 = .ok (.bipush 6, 2) := by decide +kernel
theorem dX5_lightNow_12 : decode cX5_lightNow 12 = .ok (.iaload, 1) := by decide +kernel
theorem dX5_lightNow_13 : decode cX5_lightNow 13 = .ok (.iadd, 1) := by decide +kernel
end
section
theorem dX5_lightNow_14 : decode cX5_lightNow 14 = .ok (.iload_n 1, 1) := by decide +kernel
theorem dX5_lightNow_15 : decode cX5_lightNow 15 = .ok (.iastore, 1) := by decide +kernel
theorem dX5_lightNow_16 : decode cX5_lightNow 16 = .ok (.aload_n 0, 1) := by decide +kernel
theorem dX5_lightNow_17 : decode cX5_lightNow 17 = .ok (.getfield 7, 3) := by decide +kernel
theorem dX5_lightNow_20 : decode cX5_lightNow 20 = .ok (.bipush 6, 2) := by decide +kernel
theorem dX5_lightNow_22 : decode cX5_lightNow 22 = .ok (.dup2, 1) := by decide +kernel
theorem dX5_lightNow_23 : decode cX5_lightNow 23 = .ok (.iaload, 1) := by decide +kernel
theorem dX5_lightNow_24 : decode cX5_lightNow 24 = .ok (.iconst 1, 1) := by decide +kernel
theorem dX5_lightNow_25 : decode cX5_lightNow 25 = .ok (.iadd, 1) := by decide +kernel
theorem dX5_lightNow_26 : decode cX5_lightNow 26 = .ok (.iastore, 1) := by decide +kernel
theorem dX5_lightNow_27 : decode cX5_lightNow 27 = .ok (.aload_n 0, 1) := by decide +kernel
theorem dX5_lightNow_28 : decode cX5_lightNow 28 = .ok (.getfield 7, 3) := by decide +kernel
theorem dX5_lightNow_31 : decode cX5_lightNow 31 = .ok (.bipush 6, 2) := by decide +kernel
theorem dX5_lightNow_33 : decode cX5_lightNow 33 = .ok (.iaload, 1) := by decide +kernel
theorem dX5_lightNow_34 : decode cX5_lightNow 34 = .ok (.iconst 1, 1) := by decide +kernel
theorem dX5_lightNow_35 : decode cX5_lightNow 35 = .ok (.isub, 1) := by decide +kernel
theorem dX5_lightNow_36 : decode cX5_lightNow 36 = .ok (.ireturn, 1) := by decide +kernel
set_option maxRecDepth 20000 in
theorem ggX5_light_X5_lightCode : GoodIn wsX5_light wsX5_lightCode := goodIn_r _ [6, 7, 8, 9, 5, 10, 11, 12, 13, 14, 15, 16, 17, 18, 19, 20, 21, 32, 33, 34, 35, 36, 37, 38, 39, 40, 41, 42, 43, 44, 45] (by decide +kernel) (by decide +kernel)
set_option maxRecDepth 20000 in
theorem gX5_light_X5_lightCode : GoodIn wsX5_light (wsV RX5 104 RX5 yX5_lightCode wsX5_lightCode) := goodIn_app (goodIn_of _ (by decide +kernel)) ggX5_light_X5_lightCode
set_option maxRecDepth 20000 in
theorem ggX5_light_X5_act : GoodIn wsX5_light wsX5_act := goodIn_r _ [25, 26, 27, 7, 32, 33, 34, 35, 36, 37, 38, 39, 40, 41, 42, 43, 44, 45] (by decide +kernel) (by decide +kernel)
set_option maxRecDepth 20000 in
theorem gX5_light_X5_act : GoodIn wsX5_light (wsV RX5 89 RX5 yX5_act wsX5_act) := goodIn_app (goodIn_of _ (by decide +kernel)) ggX5_light_X5_act
set_option maxRecDepth 20000 in
theorem ggX5_light_X5_lightNow : GoodIn wsX5_light wsX5_lightNow := goodIn_r _ [31, 7, 32, 33, 34, 35, 36, 37, 38, 39, 40, 41, 42, 43, 44, 45] (by decide +kernel) (by decide +kernel)
set_option maxRecDepth 20000 in
theorem gX5_light_X5_lightNow : GoodIn wsX5_light (wsV RX5 107 RX5 yX5_lightNow wsX5_lightNow) := goodIn_app (goodIn_of _ (by decide +kernel)) ggX5_light_X5_lightNow
theorem dX5_light_0 : decode cX5_light 0 = .ok (.aload_n 0, 1) := by decide +kernel
theorem dX5_light_1 : decode cX5_light 1 = .ok (.iconst 0, 1) := by decide +kernel
theorem dX5_light_2 : decode cX5_light 2 = .ok (.putfield 32, 3) := by decide +kernel
theorem dX5_light_5 : decode cX5_light 5 = .ok (.aload_n 0, 1) := by decide +kernel
theorem dX5_light_6 : decode cX5_light 6 = .ok (.iload_n 1, 1) := by decide +kernel
theorem dX5_light_7 : decode cX5_light 7 = .ok (.invokevirtual 104, 3) := by decide +kernel
theorem dX5_light_10 : decode cX5_light 10 = .ok (.istore_n 2, 1) := by decide +kernel
theorem dX5_light_11 : decode cX5_light 11 = .ok (.iload_n 2, 1) := by decide +kernel
theorem dX5_light_12 : decode cX5_light 12 = .ok (.ifCond .ge 5, 3) := by decide +kernel
theorem dX5_light_15 : decode cX5_light 15 = .ok (.iload_n 2, 1) := by decide +kernel
theorem dX5_light_16 : decode cX5_light 16 = .ok (.ireturn, 1) := by decide +kernel
theorem dX5_light_17 : decode cX5_light 17 = .ok (.aload_n 0, 1) := by decide +kernel
theorem dX5_light_18 : decode cX5_light 18 = .ok (.invokevirtual 89, 3) := by decide +kernel
theorem dX5_light_21 : decode cX5_light 21 = .ok (.aload_n 0, 1) := by decide +kernel
theorem dX5_light_22 : decode cX5_light 22 = .ok (.iload_n 1, 1) := by decide +kernel
theorem dX5_light_23 : decode cX5_light 23 = .ok (.invokevirtual 107, 3) := by decide +kernel
theorem dX5_light_26 : decode cX5_light 26 = .ok (.ireturn, 1) := by decide +kernel
set_option maxRecDepth 20000 in
theorem ggX5_darkCode_X5_isSpot : GoodIn wsX5_darkCode wsX5_isSpot := goodIn_r _ [4, 5, 6, 3, 7] (by decide +kernel) (by decide +kernel)
set_option maxRecDepth 20000 in
theorem gX5_darkCode_X5_isSpot : GoodIn wsX5_darkCode (va_wsS RX5 92 yX5_isSpot wsX5_isSpot) := goodIn_app (goodIn_of _ (by decide +kernel)) ggX5_darkCode_X5_isSpot
set_option maxRecDepth 20000 in
theorem ggX5_darkCode_X5_positionOf : GoodIn wsX5_darkCode wsX5_positionOf := goodIn_r _ [11, 12, 13, 14, 15, 3, 16, 17, 18, 19, 20, 21, 22, 23, 24, 25, 26, 27, 28, 29, 30] (by decide +kernel) (by decide +kernel)
set_option maxRecDepth 20000 in
theorem gX5_darkCode_X5_positionOf : GoodIn wsX5_darkCode (wsV RX5 101 RX5 yX5_positionOf wsX5_positionOf) := goodIn_app (goodIn_of _ (by decide +kernel)) ggX5_darkCode_X5_positionOf
theorem dX5_darkCode_0 : decode cX5_darkCode 0 = .ok (.iload_n 1, 1) := by decide +kernel
theorem dX5_darkCode_1 : decode cX5_darkCode 1 = .ok (.invokestatic 92, 3) := by decide +kernel
theorem dX5_darkCode_4 : decode cX5_darkCode 4 = .ok (.ifCond .ne 7, 3) := by decide +kernel
theorem dX5_darkCode_7 : decode cX5_darkCode 7 = .ok (.iconst (-1), 1) := by decide +kernel
theorem dX5_darkCode_8 : decode cX5_darkCode 8 = .ok (.goto 19, 3) := by decide +kernel
theorem dX5_darkCode_11 : decode cX5_darkCode 11 = .ok (.aload_n 0, 1) := by decide +kernel
theorem dX5_darkCode_12 : decode cX5_darkCode 12 = .ok (.iload_n 1, 1) := by decide +kernel
theorem dX5_darkCode_13 : decode cX5_darkCode 13 = .ok (.invokevirtual 101, 3) := by decide +kernel
theorem dX5_darkCode_16 : decode cX5_darkCode 16 = .ok (.bipush (-9), 2) := by decide +kernel
theorem dX5_darkCode_18 : decode cX5_darkCode 18 = .ok (.if_icmp .ne 8, 3) := by decide +kernel
theorem dX5_darkCode_21 : decode cX5_darkCode 21 = .ok (.bipush (-2), 2) := by decide +kernel
theorem dX5_darkCode_23 : decode cX5_darkCode 23 = .ok (.goto 4, 3) := by decide +kernel
theorem dX5_darkCode_26 : decode cX5_darkCode 26 = .ok (.iconst 0, 1) := by decide +kernel
theorem dX5_darkCode_27 : decode cX5_darkCode 27 = .ok (.ireturn, 1) := by decide +kernel
set_option maxRecDepth 20000 in
theorem ggX5_darkNow_X5_positionOf : GoodIn wsX5_darkNow wsX5_positionOf := goodIn_r _ [6, 1, 7, 8, 9, 5, 10, 11, 12, 13, 14, 15, 16, 17, 18, 19, 20, 21, 22, 23, 24] (by decide +kernel) (by decide +kernel)
set_option maxRecDepth 20000 in
theorem gX5_darkNow_X5_positionOf : GoodIn wsX5_darkNow (wsV RX5 101 RX5 yX5_positionOf wsX5_positionOf) := goodIn_app (goodIn_of _ (by decide +kernel)) ggX5_darkNow_X5_positionOf
theorem dX5_darkNow_0 : decode cX5_darkNow 0 = .ok (.aload_n 0, 1) := by decide +kernel
theorem dX5_darkNow_1 : decode cX5_darkNow 1 = .ok (.iload_n 1, 1) := by decide +kernel
theorem dX5_darkNow_2 : decode cX5_darkNow 2 = .ok (.invokevirtual 101, 3) := by decide +kernel
theorem dX5_darkNow_5 : decode cX5_darkNow 5 = .ok (.istore_n 2, 1) := by decide +kernel
theorem dX5_darkNow_6 : decode cX5_darkNow 6 = .ok (.aload_n 0, 1) := by decide +kernel
theorem dX5_darkNow_7 : decode cX5_darkNow 7 = .ok (.getfield 7, 3) := by decide +kernel
theorem dX5_darkNow_10 : decode cX5_darkNow 10 = .ok (.bipush 6, 2) := by decide +kernel
theorem dX5_darkNow_12 : decode cX5_darkNow 12 = .ok (.dup2, 1) := by decide +kernel
theorem dX5_darkNow_13 : decode cX5_darkNow 13 = .ok (.iaload, 1) := by decide +kernel
theorem dX5_darkNow_14 : decode cX5_darkNow 14 = .ok (.iconst 1, 1) := by decide +kernel
theorem dX5_darkNow_15 : decode cX5_darkNow 15 = .ok (.isub, 1) := by decide +kernel
theorem dX5_darkNow_16 : decode cX5_darkNow 16 = .ok (.iastore, 1) := by decide +kernel
theorem dX5_darkNow_17 : decode cX5_darkNow 17 = .ok (.iload_n 2, 1) := by decide +kernel
theorem dX5_darkNow_18 : decode cX5_darkNow 18 = .ok (.istore_n 3, 1) := by decide +kernel
theorem dX5_darkNow_19 : decode cX5_darkNow 19 = .ok (.iload_n 3, 1) := by decide +kernel
theorem dX5_darkNow_20 : decode cX5_darkNow 20 = .ok (.aload_n 0, 1) := by decide +kernel
theorem dX5_darkNow_21 : decode cX5_darkNow 21 = .ok (.getfield 7, 3) := by decide +kernel
theorem dX5_darkNow_24 : decode cX5_darkNow 24 = .ok (.bipush 6, 2) := by decide +kernel
theorem dX5_darkNow_26 : decode cX5_darkNow 26 = .ok (.iaload, 1) := by decide +kernel
theorem dX5_darkNow_27 : decode cX5_darkNow 27 = .ok (.if_icmp .ge 29, 3) := by decide +kernel
theorem dX5_darkNow_30 : decode cX5_darkNow 30 = .ok (.aload_n 0, 1) := by decide +kernel
theorem dX5_darkNow_31 : decode cX5_darkNow 31 = .ok (.getfield 7, 3) := by decide +kernel
theorem dX5_darkNow_34 : decode cX5_darkNow 34 = .ok (.bipush 7, 2) := by decide +kernel
theorem dX5_darkNow_36 : decode cX5_darkNow 36 = .ok (.iload_n 3, 1) := by decide +kernel
theorem dX5_darkNow_37 : decode cX5_darkNow 37 = .ok (.iadd, 1) := by decide +kernel
theorem dX5_darkNow_38 : decode cX5_darkNow 38 = .ok (.aload_n 0, 1) := by decide +kernel
theorem dX5_darkNow_39 : decode cX5_darkNow 39 = .ok (.getfield 7, 3) := by decide +kernel
theorem dX5_darkNow_42 : decode cX5_darkNow 42 = .ok (.bipush 7, 2) := by decide +kernel
theorem dX5_darkNow_44 : decode cX5_darkNow 44 = .ok (.iload_n 3, 1) := by decide +kernel
theorem dX5_darkNow_45 : decode cX5_darkNow 45 = .ok (.iadd, 1) := by decide +kernel
theorem dX5_darkNow_46 : decode cX5_darkNow 46 = .ok (.iconst 1, 1) := by decide +kernel
theorem dX5_darkNow_47 : decode cX5_darkNow 47 = .ok (.iadd, 1) := by decide +kernel
theorem dX5_darkNow_48 : decode cX5_darkNow 48 = .ok (.iaload, 1) := by decide +kernel
theorem dX5_darkNow_49 : decode cX5_darkNow 49 = .ok (.iastore, 1) := by decide +kernel
theorem dX5_darkNow_50 : decode cX5_darkNow 50 = .ok (.iinc 3 1, 3) := by decide +kernel
theorem dX5_darkNow_53 : decode cX5_darkNow 53 = .ok (.goto (-34), 3) := by decide +kernel
theorem dX5_darkNow_56 : decode cX5_darkNow 56 = .ok (.iload_n 2, 1) := by decide +kernel
theorem dX5_darkNow_57 : decode cX5_darkNow 57 = .ok (.ireturn, 1) := by decide +kernel
set_option maxRecDepth 20000 in
theorem ggX5_darken_X5_darkCode : GoodIn wsX5_darken wsX5_darkCode := goodIn_r _ [6, 7, 8, 5, 9, 10, 11, 12, 13, 14, 15, 16, 17, 18, 19, 20, 21, 32, 33, 34, 35, 36, 37, 38, 39, 40, 41, 42, 43, 44, 45] (by decide +kernel) (by decide +kernel)
set_option maxRecDepth 20000 in
theorem gX5_darken_X5_darkCode : GoodIn wsX5_darken (wsV RX5 110 RX5 yX5_darkCode wsX5_darkCode) := goodIn_app (goodIn_of _ (by decide +kernel)) ggX5_darken_X5_darkCode
set_option maxRecDepth 20000 in
theorem ggX5_darken_X5_act : GoodIn wsX5_darken wsX5_act := goodIn_r _ [25, 26, 27, 17, 32, 33, 34, 35, 36, 37, 38, 39, 40, 41, 42, 43, 44, 45] (by decide +kernel) (by decide +kernel)
set_option maxRecDepth 20000 in
theorem gX5_darken_X5_act : GoodIn wsX5_darken (wsV RX5 89 RX5 yX5_act wsX5_act) := goodIn_app (goodIn_of _ (by decide +kernel)) ggX5_darken_X5_act
set_option maxRecDepth 20000 in
theorem ggX5_darken_X5_darkNow : GoodIn wsX5_darken wsX5_darkNow := goodIn_r _ [31, 17, 13, 14, 15, 5, 16, 18, 19, 20, 21, 32, 33, 34, 35, 36, 37, 38, 39, 40, 41, 42, 43, 44, 45] (by decide +kernel) (by decide +kernel)
set_option maxRecDepth 20000 in
theorem gX5_darken_X5_darkNow : GoodIn wsX5_darken (wsV RX5 113 RX5 yX5_darkNow wsX5_darkNow) := goodIn_app (goodIn_of _ (by decide +kernel)) ggX5_darken_X5_darkNow
theorem dX5_darken_0 : decode cX5_darken 0 = .ok (.aload_n 0, 1) := by decide +kernel
theorem dX5_darken_1 : decode cX5_darken 1 = .ok (.iconst 0, 1) := by decide +kernel
theorem dX5_darken_2 : decode cX5_darken 2 = .ok (.putfield 32, 3) := by decide +kernel
theorem dX5_darken_5 : decode cX5_darken 5 = .ok (.aload_n 0, 1) := by decide +kernel
theorem dX5_darken_6 : decode cX5_darken 6 = .ok (.iload_n 1, 1) := by decide +kernel
theorem dX5_darken_7 : decode cX5_darken 7 = .ok (.invokevirtual 110, 3) := by decide +kernel
theorem dX5_darken_10 : decode cX5_darken 10 = .ok (.istore_n 2, 1) := by decide +kernel
theorem dX5_darken_11 : decode cX5_darken 11 = .ok (.iload_n 2, 1) := by decide +kernel
theorem dX5_darken_12 : decode cX5_darken 12 = .ok (.ifCond .ge 5, 3) := by decide +kernel
theorem dX5_darken_15 : decode cX5_darken 15 = .ok (.iload_n 2, 1) := by decide +kernel
theorem dX5_darken_16 : decode cX5_darken 16 = .ok (.ireturn, 1) := by decide +kernel
theorem dX5_darken_17 : decode cX5_darken 17 = .ok (.aload_n 0, 1) := by decide +kernel
theorem dX5_darken_18 : decode cX5_darken 18 = .ok (.invokevirtual 89, 3) := by decide +kernel
theorem dX5_darken_21 : decode cX5_darken 21 = .ok (.aload_n 0, 1) := by decide +kernel
theorem dX5_darken_22 : decode cX5_darken 22 = .ok (.iload_n 1, 1) := by decide +kernel
theorem dX5_darken_23 : decode cX5_darken 23 = .ok (.invokevirtual 113, 3) := by decide +kernel
theorem dX5_darken_26 : decode cX5_darken 26 = .ok (.ireturn, 1) := by decide +kernel
set_option maxRecDepth 20000 in
theorem ggX5_swapCode_X5_in : GoodIn wsX5_swapCode wsX5_in := goodIn_r _ [5] (by decide +kernel) (by decide +kernel)
set_option maxRecDepth 20000 in
theorem gX5_swapCode_X5_in : GoodIn wsX5_swapCode (va_wsS RX5 36 yX5_in wsX5_in) := goodIn_app (goodIn_of _ (by decide +kernel)) ggX5_swapCode_X5_in
theorem dX5_swapCode_0 : decode cX5_swapCode 0 = .ok (.iload_n 1, 1) := by decide +kernel
theorem dX5_swapCode_1 : decode cX5_swapCode 1 = .ok (.iconst 0, 1) := by decide +kernel
theorem dX5_swapCode_2 : decode cX5_swapCode 2 = .ok (.aload_n 0, 1) := by decide +kernel
theorem dX5_swapCode_3 : decode cX5_swapCode 3 = .ok (.getfield 7, 3) := by decide +kernel
theorem dX5_swapCode_6 : decode cX5_swapCode 6 = .ok (.bipush 6, 2) := by decide +kernel
theorem dX5_swapCode_8 : decode cX5_swapCode 8 = .ok (.iaload, 1) := by decide +kernel
theorem dX5_swapCode_9 : decode cX5_swapCode 9 = .ok (.iconst 1, 1) := by decide +kernel
theorem dX5_swapCode_10 : decode cX5_swapCode 10 = .ok (.isub, 1) := by decide +kernel
theorem dX5_swapCode_11 : decode cX5_swapCode 11 = .ok (.invokestatic 36, 3) := by decide +kernel
theorem dX5_swapCode_14 : decode cX5_swapCode 14 = .ok (.ifCond .eq 24, 3) := by decide +kernel
theorem dX5_swapCode_17 : decode cX5_swapCode 17 = .ok (.iload_n 2, 1) := by decide +kernel
theorem dX5_swapCode_18 : decode cX5_swapCode 18 = .ok (.iconst 0, 1) := by decide +kernel
theorem dX5_swapCode_19 : decode cX5_swapCode 19 = .ok (.aload_n 0, 1) := by decide +kernel
theorem dX5_swapCode_20 : decode cX5_swapCode 20 = .ok (.getfield 7, 3) := by decide +kernel
theorem dX5_swapCode_23 : decode cX5_swapCode 23 = .ok (.bipush 6, 2) := by decide +kernel
theorem dX5_swapCode_25 : decode cX5_swapCode 25 = .ok (.iaload, 1) := by decide +kernel
theorem dX5_swapCode_26 : decode cX5_swapCode 26 = .ok (.iconst 1, 1) := by decide +kernel
theorem dX5_swapCode_27 : decode cX5_swapCode 27 = .ok (.isub, 1) := by decide +kernel
theorem dX5_swapCode_28 : decode cX5_swapCode 28 = .ok (.invokestatic 36, 3) := by decide +kernel
theorem dX5_swapCode_31 : decode cX5_swapCode 31 = .ok (.ifCond .eq 7, 3) := by decide +kernel
theorem dX5_swapCode_34 : decode cX5_swapCode 34 = .ok (.iconst 0, 1) := by decide +kernel
theorem dX5_swapCode_35 : decode cX5_swapCode 35 = .ok (.goto 4, 3) := by decide +kernel
theorem dX5_swapCode_38 : decode cX5_swapCode 38 = .ok (.iconst (-1), 1) := by decide +kernel
theorem dX5_swapCode_39 : decode cX5_swapCode 39 = .ok (.ireturn, 1) := by decide +kernel
theorem dX5_changePlaces_0 : decode cX5_changePlaces 0 = .ok (.aload_n 0, 1) := by decide +kernel
theorem dX5_changePlaces_1 : decode cX5_changePlaces 1 = .ok (.getfield 7, 3) := by decide +kernel
theorem dX5_changePlaces_4 : decode cX5_changePlaces 4 = .ok (.bipush 7, 2) := by decide +kernel
theorem dX5_changePlaces_6 : decode cX5_changePlaces 6 = .ok (.iload_n 1, 1) := by decide +kernel
theorem dX5_changePlaces_7 : decode cX5_changePlaces 7 = .ok (.iadd, 1) := by decide +kernel
theorem dX5_changePlaces_8 : decode cX5_changePlaces 8 = .ok (.iaload, 1) := by decide +kernel
theorem dX5_changePlaces_9 : decode cX5_changePlaces 9 = .ok (.istore_n 3, 1) := by decide +kernel
theorem dX5_changePlaces_10 : decode cX5_changePlaces 10 = .ok (.aload_n 0, 1) := by decide +kernel
theorem dX5_changePlaces_11 : decode cX5_changePlaces 11 = .ok (.getfield 7, 3) := by decide +kernel
theorem dX5_changePlaces_14 : decode cX5_changePlaces 14 = .ok (.bipush 7, 2) := by decide +kernel
theorem dX5_changePlaces_16 : decode cX5_changePlaces 16 = .ok (.iload_n 1, 1) := by decide +kernel
theorem dX5_changePlaces_17 : decode cX5_changePlaces 17 = .ok (.iadd, 1) := by decide +kernel
theorem dX5_changePlaces_18 : decode cX5_changePlaces 18 = .ok (.aload_n 0, 1) := by decide +kernel
theorem dX5_changePlaces_19 : decode cX5_changePlaces 19 = .ok (.getfield 7, 3) := by decide +kernel
theorem dX5_changePlaces_22 : decode cX5_changePlaces 22 = .ok (.bipush 7, 2) := by decide +kernel
theorem dX5_changePlaces_24 : decode cX5_changePlaces 24 = .ok (.iload_n 2, 1) := by decide +kernel
theorem dX5_changePlaces_25 : decode cX5_changePlaces 25 = .ok (.iadd, 1) := by decide +kernel
theorem dX5_changePlaces_26 : decode cX5_changePlaces 26 = .ok (.iaload, 1) := by decide +kernel
theorem dX5_changePlaces_27 : decode cX5_changePlaces 27 = .ok (.iastore, 1) := by decide +kernel
theorem dX5_changePlaces_28 : decode cX5_changePlaces 28 = .ok (.aload_n 0, 1) := by decide +kernel
theorem dX5_changePlaces_29 : decode cX5_changePlaces 29 = .ok (.getfield 7, 3) := by decide +kernel
theorem dX5_changePlaces_32 : decode cX5_changePlaces 32 = .ok (.bipush 7, 2) := by decide +kernel
theorem dX5_changePlaces_34 : decode cX5_changePlaces 34 = .ok (.iload_n 2, 1) := by decide +kernel
theorem dX5_changePlaces_35 : decode cX5_changePlaces 35 = .ok (.iadd, 1) := by decide +kernel
theorem dX5_changePlaces_36 : decode cX5_changePlaces 36 = .ok (.iload_n 3, 1) := by decide +kernel
theorem dX5_changePlaces_37 : decode cX5_changePlaces 37 = .ok (.iastore, 1) := by decide +kernel
theorem dX5_changePlaces_38 : decode cX5_changePlaces 38 = .ok (.return_, 1) := by decide +kernel
set_option maxRecDepth 20000 in
theorem ggX5_swapNow_X5_changePlaces : GoodIn wsX5_swapNow wsX5_changePlaces := goodIn_r _ [5, 6, 26, 27, 28, 29, 30, 31, 32, 33, 34, 35, 36, 37, 38, 39] (by decide +kernel) (by decide +kernel)
set_option maxRecDepth 20000 in
theorem gX5_swapNow_X5_changePlaces : GoodIn wsX5_swapNow (wsV RX5 116 RX5 yX5_changePlaces wsX5_changePlaces) := goodIn_app (goodIn_of _ (by decide +kernel)) ggX5_swapNow_X5_changePlaces
set_option maxRecDepth 20000 in
theorem ggX5_swapNow_X5_litMany : GoodIn wsX5_swapNow wsX5_litMany := goodIn_r _ [10, 11, 12, 13, 14, 4, 15, 6, 16, 17, 18, 19, 20, 21, 22, 23, 24, 25, 26, 27, 28, 29, 30, 31, 32, 33, 34, 35, 36, 37, 38, 39] (by decide +kernel) (by decide +kernel)
set_option maxRecDepth 20000 in
theorem gX5_swapNow_X5_litMany : GoodIn wsX5_swapNow (wsV RX5 120 RX5 yX5_litMany wsX5_litMany) := goodIn_app (goodIn_of _ (by decide +kernel)) ggX5_swapNow_X5_litMany
theorem dX5_swapNow_0 : decode cX5_swapNow 0 = .ok (.aload_n 0, 1) := by decide +kernel
theorem dX5_swapNow_1 : decode cX5_swapNow 1 = .ok (.iload_n 1, 1) := by decide +kernel
theorem dX5_swapNow_2 : decode cX5_swapNow 2 = .ok (.iload_n 2, 1) := by decide +kernel
theorem dX5_swapNow_3 : decode cX5_swapNow 3 = .ok (.invokevirtual 116, 3) := by decide +kernel
theorem dX5_swapNow_6 : decode cX5_swapNow 6 = .ok (.aload_n 0, 1) := by decide +kernel
theorem dX5_swapNow_7 : decode cX5_swapNow 7 = .ok (.invokevirtual 120, 3) := by decide +kernel
theorem dX5_swapNow_10 : decode cX5_swapNow 10 = .ok (.ireturn, 1) := by decide +kernel
set_option maxRecDepth 20000 in
theorem ggX5_exchange_X5_swapCode : GoodIn wsX5_exchange wsX5_swapCode := goodIn_r _ [6, 7, 8, 9, 5, 10, 44, 45, 46, 47, 48, 49, 50, 51, 52, 53, 54, 55, 56, 57] (by decide +kernel) (by decide +kernel)
set_option maxRecDepth 20000 in
theorem gX5_exchange_X5_swapCode : GoodIn wsX5_exchange (wsV RX5 124 RX5 yX5_swapCode wsX5_swapCode) := goodIn_app (goodIn_of _ (by decide +kernel)) ggX5_exchange_X5_swapCode
set_option maxRecDepth 20000 in
theorem ggX5_exchange_X5_act : GoodIn wsX5_exchange wsX5_act := goodIn_r _ [14, 15, 16, 7, 44, 45, 46, 47, 48, 49, 50, 51, 52, 53, 54, 55, 56, 57] (by decide +kernel) (by decide +kernel)
set_option maxRecDepth 20000 in
theorem gX5_exchange_X5_act : GoodIn wsX5_exchange (wsV RX5 89 RX5 yX5_act wsX5_act) := goodIn_app (goodIn_of _ (by decide +kernel)) ggX5_exchange_X5_act
set_option maxRecDepth 20000 in
theorem ggX5_exchange_X5_swapNow : GoodIn wsX5_exchange wsX5_swapNow := goodIn_r _ [20, 21, 22, 23, 5, 24, 7, 25, 26, 27, 28, 29, 30, 31, 32, 33, 34, 35, 36, 37, 38, 39, 40, 41, 42, 43, 44, 45, 46, 47, 48, 49, 50, 51, 52, 53, 54, 55, 56, 57] (by decide +kernel) (by decide +kernel)
set_option maxRecDepth 20000 in
theorem gX5_exchange_X5_swapNow : GoodIn wsX5_exchange (wsV RX5 127 RX5 yX5_swapNow wsX5_swapNow) := goodIn_app (goodIn_of _ (by decide +kernel)) ggX5_exchange_X5_swapNow
theorem dX5_exchange_0 : decode cX5_exchange 0 = .ok (.aload_n 0, 1) := by decide +kernel
theorem dX5_exchange_1 : decode cX5_exchange 1 = .ok (.iconst 0, 1) := by decide +kernel
theorem dX5_exchange_2 : decode cX5_exchange 2 = .ok (.putfield 32, 3) := by decide +kernel
theorem dX5_exchange_5 : decode cX5_exchange 5 = .ok (.aload_n 0, 1) := by decide +kernel
theorem dX5_exchange_6 : decode cX5_exchange 6 = .ok (.iload_n 1, 1) := by decide +kernel
theorem dX5_exchange_7 : decode cX5_exchange 7 = .ok (.iload_n 2, 1) := by decide +kernel
theorem dX5_exchange_8 : decode cX5_exchange 8 = .ok (.invokevirtual 124, 3) := by decide +kernel
theorem dX5_exchange_11 : decode cX5_exchange 11 = .ok (.istore_n 3, 1) := by decide +kernel
theorem dX5_exchange_12 : decode cX5_exchange 12 = .ok (.iload_n 3, 1) := by decide +kernel
theorem dX5_exchange_13 : decode cX5_exchange 13 = .ok (.ifCond .ge 5, 3) := by decide +kernel
theorem dX5_exchange_16 : decode cX5_exchange 16 = .ok (.iload_n 3, 1) := by decide +kernel
theorem dX5_exchange_17 : decode cX5_exchange 17 = .ok (.ireturn, 1) := by decide +kernel
theorem dX5_exchange_18 : decode cX5_exchange 18 = .ok (.aload_n 0, 1) := by decide +kernel
theorem dX5_exchange_19 : decode cX5_exchange 19 = .ok (.invokevirtual 89, 3) := by decide +kernel
theorem dX5_exchange_22 : decode cX5_exchange 22 = .ok (.aload_n 0, 1) := by decide +kernel
theorem dX5_exchange_23 : decode cX5_exchange 23 = .ok (.iload_n 1, 1) := by decide +kernel
theorem dX5_exchange_24 : decode cX5_exchange 24 = .ok (.iload_n 2, 1) := by decide +kernel
theorem dX5_exchange_25 : decode cX5_exchange 25 = .ok (.invokevirtual 127, 3) := by decide +kernel
theorem dX5_exchange_28 : decode cX5_exchange 28 = .ok (.ireturn, 1) := by decide +kernel
set_option maxRecDepth 20000 in
theorem ggX5_darkTick_X5_fading : GoodIn wsX5_darkTick wsX5_fading := goodIn_r _ [4, 5, 6, 3, 7] (by decide +kernel) (by decide +kernel)
set_option maxRecDepth 20000 in
theorem gX5_darkTick_X5_fading : GoodIn wsX5_darkTick (va_wsS RX5 57 yX5_fading wsX5_fading) := goodIn_app (goodIn_of _ (by decide +kernel)) ggX5_darkTick_X5_fading
theorem dX5_darkTick_0 : decode cX5_darkTick 0 = .ok (.iconst 0, 1) := by decide +kernel
theorem dX5_darkTick_1 : decode cX5_darkTick 1 = .ok (.istore_n 1, 1) := by decide +kernel
theorem dX5_darkTick_2 : decode cX5_darkTick 2 = .ok (.iload_n 0, 1) := by decide +kernel
theorem dX5_darkTick_3 : decode cX5_darkTick 3 = .ok (.iload_n 1, 1) := by decide +kernel
theorem dX5_darkTick_4 : decode cX5_darkTick 4 = .ok (.invokestatic 57, 3) := by decide +kernel
theorem dX5_darkTick_7 : decode cX5_darkTick 7 = .ok (.ifCond .le 9, 3) := by decide +kernel
theorem dX5_darkTick_10 : decode cX5_darkTick 10 = .ok (.iinc 1 1, 3) := by decide +kernel
theorem dX5_darkTick_13 : decode cX5_darkTick 13 = .ok (.goto (-11), 3) := by decide +kernel
theorem dX5_darkTick_16 : decode cX5_darkTick 16 = .ok (.iload_n 1, 1) := by decide +kernel
theorem dX5_darkTick_17 : decode cX5_darkTick 17 = .ok (.ireturn, 1) := by decide +kernel
set_option maxRecDepth 20000 in
theorem ggX5_keyOf_X5_way : GoodIn wsX5_keyOf wsX5_way := goodIn_r _ [5, 6, 7, 4, 8] (by decide +kernel) (by decide +kernel)
set_option maxRecDepth 20000 in
theorem gX5_keyOf_X5_way : GoodIn wsX5_keyOf (va_wsS RX5 53 yX5_way wsX5_way) := goodIn_app (goodIn_of _ (by decide +kernel)) ggX5_keyOf_X5_way
set_option maxRecDepth 20000 in
theorem ggX5_keyOf_X5_darkTick : GoodIn wsX5_keyOf wsX5_darkTick := goodIn_r _ [11, 12, 13, 4, 14, 15, 16, 17] (by decide +kernel) (by decide +kernel)
set_option maxRecDepth 20000 in
theorem gX5_keyOf_X5_darkTick : GoodIn wsX5_keyOf (va_wsS RX5 130 yX5_darkTick wsX5_darkTick) := goodIn_app (goodIn_of _ (by decide +kernel)) ggX5_keyOf_X5_darkTick
theorem dX5_keyOf_0 : decode cX5_keyOf 0 = .ok (.iload_n 1, 1) := by decide +kernel
theorem dX5_keyOf_1 : decode cX5_keyOf 1 = .ok (.tableswitch 73 0 2 #[27, 29, 55], 27) := by decide +kernel
theorem dX5_keyOf_28 : decode cX5_keyOf 28 = .ok (.iload_n 2, 1) := by decide +kernel
theorem dX5_keyOf_29 : decode cX5_keyOf 29 = .ok (.ireturn, 1) := by decide +kernel
theorem dX5_keyOf_30 : decode cX5_keyOf 30 = .ok (.sipush 10000, 3) := by decide +kernel
theorem dX5_keyOf_33 : decode cX5_keyOf 33 = .ok (.aload_n 0, 1) := by decide +kernel
theorem dX5_keyOf_34 : decode cX5_keyOf 34 = .ok (.getfield 7, 3) := by decide +kernel
theorem dX5_keyOf_37 : decode cX5_keyOf 37 = .ok (.sipush 147, 3) := by decide +kernel
theorem dX5_keyOf_40 : decode cX5_keyOf 40 = .ok (.iload_n 2, 1) := by decide +kernel
theorem dX5_keyOf_41 : decode cX5_keyOf 41 = .ok (.iadd, 1) := by decide +kernel
theorem dX5_keyOf_42 : decode cX5_keyOf 42 = .ok (.iaload, 1) := by decide +kernel
theorem dX5_keyOf_43 : decode cX5_keyOf 43 = .ok (.imul, 1) := by decide +kernel
theorem dX5_keyOf_44 : decode cX5_keyOf 44 = .ok (.bipush 100, 2) := by decide +kernel
theorem dX5_keyOf_46 : decode cX5_keyOf 46 = .ok (.iconst 0, 1) := by decide +kernel
theorem dX5_keyOf_47 : decode cX5_keyOf 47 = .ok (.iload_n 2, 1) := by decide +kernel
theorem dX5_keyOf_48 : decode cX5_keyOf 48 = .ok (.invokestatic 53, 3) := by decide +kernel
theorem dX5_keyOf_51 : decode cX5_keyOf 51 = .ok (.imul, 1) := by decide +kernel
theorem dX5_keyOf_52 : decode cX5_keyOf 52 = .ok (.iadd, 1) := by decide +kernel
theorem dX5_keyOf_53 : decode cX5_keyOf 53 = .ok (.iload_n 2, 1) := by decide +kernel
theorem dX5_keyOf_54 : decode cX5_keyOf 54 = .ok (.iadd, 1) := by decide +kernel
theorem dX5_keyOf_55 : decode cX5_keyOf 55 = .ok (.ireturn, 1) := by decide +kernel
theorem dX5_keyOf_56 : decode cX5_keyOf 56 = .ok (.bipush 100, 2) := by decide +kernel
theorem dX5_keyOf_58 : decode cX5_keyOf 58 = .ok (.aload_n 0, 1) := by decide +kernel
theorem dX5_keyOf_59 : decode cX5_keyOf 59 = .ok (.getfield 7, 3) := by decide +kernel
theorem dX5_keyOf_62 : decode cX5_keyOf 62 = .ok (.bipush 19, 2) := by decide +kernel
theorem dX5_keyOf_64 : decode cX5_keyOf 64 = .ok (.iload_n 2, 1) := by decide +kernel
theorem dX5_keyOf_65 : decode cX5_keyOf 65 = .ok (.iadd, 1) := by decide +kernel
theorem dX5_keyOf_66 : decode cX5_keyOf 66 = .ok (.iaload, 1) := by decide +kernel
theorem dX5_keyOf_67 : decode cX5_keyOf 67 = .ok (.invokestatic 130, 3) := by decide +kernel
theorem dX5_keyOf_70 : decode cX5_keyOf 70 = .ok (.imul, 1) := by decide +kernel
theorem dX5_keyOf_71 : decode cX5_keyOf 71 = .ok (.iload_n 2, 1) := by decide +kernel
theorem dX5_keyOf_72 : decode cX5_keyOf 72 = .ok (.iadd, 1) := by decide +kernel
theorem dX5_keyOf_73 : decode cX5_keyOf 73 = .ok (.ireturn, 1) := by decide +kernel
theorem dX5_keyOf_74 : decode cX5_keyOf 74 = .ok (.bipush 100, 2) := by decide +kernel
theorem dX5_keyOf_76 : decode cX5_keyOf 76 = .ok (.iload_n 3, 1) := by decide +kernel
theorem dX5_keyOf_77 : decode cX5_keyOf 77 = .ok (.iload_n 2, 1) := by decide +kernel
theorem dX5_keyOf_78 : decode cX5_keyOf 78 = .ok (.invokestatic 53, 3) := by decide +kernel
theorem dX5_keyOf_81 : decode cX5_keyOf 81 = .ok (.imul, 1) := by decide +kernel
theorem dX5_keyOf_82 : decode cX5_keyOf 82 = .ok (.iload_n 2, 1) := by decide +kernel
theorem dX5_keyOf_83 : decode cX5_keyOf 83 = .ok (.iadd, 1) := by decide +kernel
theorem dX5_keyOf_84 : decode cX5_keyOf 84 = .ok (.ireturn, 1) := by decide +kernel
set_option maxRecDepth 20000 in
theorem ggX5_sortCode_X5_in : GoodIn wsX5_sortCode wsX5_in := goodIn_r _ [4] (by decide +kernel) (by decide +kernel)
set_option maxRecDepth 20000 in
theorem gX5_sortCode_X5_in : GoodIn wsX5_sortCode (va_wsS RX5 36 yX5_in wsX5_in) := goodIn_app (goodIn_of _ (by decide +kernel)) ggX5_sortCode_X5_in
theorem dX5_sortCode_0 : decode cX5_sortCode 0 = .ok (.iload_n 1, 1) := by decide +kernel
theorem dX5_sortCode_1 : decode cX5_sortCode 1 = .ok (.iconst 0, 1) := by decide +kernel
theorem dX5_sortCode_2 : decode cX5_sortCode 2 = .ok (.iconst 3, 1) := by decide +kernel
theorem dX5_sortCode_3 : decode cX5_sortCode 3 = .ok (.invokestatic 36, 3) := by decide +kernel
theorem dX5_sortCode_6 : decode cX5_sortCode 6 = .ok (.ifCond .eq 7, 3) := by decide +kernel
theorem dX5_sortCode_9 : decode cX5_sortCode 9 = .ok (.iconst 0, 1) := by decide +kernel
theorem dX5_sortCode_10 : decode cX5_sortCode 10 = .ok (.goto 4, 3) := by decide +kernel
theorem dX5_sortCode_13 : decode cX5_sortCode 13 = .ok (.iconst (-1), 1) := by decide +kernel
theorem dX5_sortCode_14 : decode cX5_sortCode 14 = .ok (.ireturn, 1) := by decide +kernel
set_option maxRecDepth 20000 in
theorem ggX5_sortNow_X5_spotAt : GoodIn wsX5_sortNow wsX5_spotAt := goodIn_r _ [6, 1, 39, 40, 41, 42, 43, 44, 45, 46, 47, 48, 49, 50, 51, 52] (by decide +kernel) (by decide +kernel)
set_option maxRecDepth 20000 in
theorem gX5_sortNow_X5_spotAt : GoodIn wsX5_sortNow (wsV RX5 50 RX5 yX5_spotAt wsX5_spotAt) := goodIn_app (goodIn_of _ (by decide +kernel)) ggX5_sortNow_X5_spotAt
set_option maxRecDepth 20000 in
theorem ggX5_sortNow_X5_keyOf : GoodIn wsX5_sortNow wsX5_keyOf := goodIn_r _ [10, 1, 11, 12, 5, 13, 14, 15, 16, 17, 18, 19, 20, 21, 22, 23, 24, 25, 39, 40, 41, 42, 43, 44, 45, 46, 47, 48, 49, 50, 51, 52] (by decide +kernel) (by decide +kernel)
set_option maxRecDepth 20000 in
theorem gX5_sortNow_X5_keyOf : GoodIn wsX5_sortNow (wsV RX5 133 RX5 yX5_keyOf wsX5_keyOf) := goodIn_app (goodIn_of _ (by decide +kernel)) ggX5_sortNow_X5_keyOf
set_option maxRecDepth 20000 in
theorem ggX5_sortNow_X5_changePlaces : GoodIn wsX5_sortNow wsX5_changePlaces := goodIn_r _ [29, 1, 39, 40, 41, 42, 43, 44, 45, 46, 47, 48, 49, 50, 51, 52] (by decide +kernel) (by decide +kernel)
set_option maxRecDepth 20000 in
theorem gX5_sortNow_X5_changePlaces : GoodIn wsX5_sortNow (wsV RX5 116 RX5 yX5_changePlaces wsX5_changePlaces) := goodIn_app (goodIn_of _ (by decide +kernel)) ggX5_sortNow_X5_changePlaces
set_option maxRecDepth 20000 in
theorem ggX5_sortNow_X5_litMany : GoodIn wsX5_sortNow wsX5_litMany := goodIn_r _ [33, 34, 35, 36, 37, 5, 38, 1, 2, 3, 4, 6, 11, 12, 13, 14, 15, 16, 39, 40, 41, 42, 43, 44, 45, 46, 47, 48, 49, 50, 51, 52] (by decide +kernel) (by decide +kernel)
set_option maxRecDepth 20000 in
theorem gX5_sortNow_X5_litMany : GoodIn wsX5_sortNow (wsV RX5 120 RX5 yX5_litMany wsX5_litMany) := goodIn_app (goodIn_of _ (by decide +kernel)) ggX5_sortNow_X5_litMany
theorem dX5_sortNow_0 : decode cX5_sortNow 0 = .ok (.iconst 0, 1) := by decide +kernel
theorem dX5_sortNow_1 : decode cX5_sortNow 1 = .ok (.istore_n 2, 1) := by decide +kernel
theorem dX5_sortNow_2 : decode cX5_sortNow 2 = .ok (.iconst 0, 1) := by decide +kernel
theorem dX5_sortNow_3 : decode cX5_sortNow 3 = .ok (.istore_n 3, 1) := by decide +kernel
theorem dX5_sortNow_4 : decode cX5_sortNow 4 = .ok (.iload_n 3, 1) := by decide +kernel
theorem dX5_sortNow_5 : decode cX5_sortNow 5 = .ok (.aload_n 0, 1) := by decide +kernel
theorem dX5_sortNow_6 : decode cX5_sortNow 6 = .ok (.getfield 7, 3) := by decide +kernel
theorem dX5_sortNow_9 : decode cX5_sortNow 9 = .ok (.bipush 6, 2) := by decide +kernel
theorem dX5_sortNow_11 : decode cX5_sortNow 11 = .ok (.iaload, 1) := by decide +kernel
theorem dX5_sortNow_12 : decode cX5_sortNow 12 = .ok (.if_icmp .ge 84, 3) := by decide +kernel
theorem dX5_sortNow_15 : decode cX5_sortNow 15 = .ok (.iload_n 3, 1) := by decide +kernel
theorem dX5_sortNow_16 : decode cX5_sortNow 16 = .ok (.istore 4, 2) := by decide +kernel
theorem dX5_sortNow_18 : decode cX5_sortNow 18 = .ok (.iload_n 3, 1) := by decide +kernel
theorem dX5_sortNow_19 : decode cX5_sortNow 19 = .ok (.iconst 1, 1) := by decide +kernel
theorem dX5_sortNow_20 : decode cX5_sortNow 20 = .ok (.iadd, 1) := by decide +kernel
theorem dX5_sortNow_21 : decode cX5_sortNow 21 = .ok (.istore 5, 2) := by decide +kernel
theorem dX5_sortNow_23 : decode cX5_sortNow 23 = .ok (.iload 5, 2) := by decide +kernel
theorem dX5_sortNow_25 : decode cX5_sortNow 25 = .ok (.aload_n 0, 1) := by decide +kernel
theorem dX5_sortNow_26 : decode cX5_sortNow 26 = .ok (.getfield 7, 3) := by decide +kernel
theorem dX5_sortNow_29 : decode cX5_sortNow 29 = .ok (.bipush 6, 2) := by decide +kernel
theorem dX5_sortNow_31 : decode cX5_sortNow 31 = .ok (.iaload, 1) := by decide +kernel
theorem dX5_sortNow_32 : decode cX5_sortNow 32 = .ok (.if_icmp .ge 45, 3) := by decide +kernel
theorem dX5_sortNow_35 : decode cX5_sortNow 35 = .ok (.aload_n 0, 1) := by decide +kernel
theorem dX5_sortNow_36 : decode cX5_sortNow 36 = .ok (.iload_n 1, 1) := by decide +kernel
theorem dX5_sortNow_37 : decode cX5_sortNow 37 = .ok (.aload_n 0, 1) := by decide +kernel
theorem dX5_sortNow_38 : decode cX5_sortNow 38 = .ok (.iload 5, 2) := by decide +kernel
theorem dX5_sortNow_40 : decode cX5_sortNow 40 = .ok (.invokevirtual 50, 3) := by decide +kernel
theorem dX5_sortNow_43 : decode cX5_sortNow 43 = .ok (.iload_n 2, 1) := by decide +kernel
theorem dX5_sortNow_44 : decode cX5_sortNow 44 = .ok (.invokevirtual 133, 3) := by decide +kernel
theorem dX5_sortNow_47 : decode cX5_sortNow 47 = .ok (.aload_n 0, 1) := by decide +kernel
theorem dX5_sortNow_48 : decode cX5_sortNow 48 = .ok (.iload_n 1, 1) := by decide +kernel
theorem dX5_sortNow_49 : decode cX5_sortNow 49 = .ok (.aload_n 0, 1) := by decide +kernel
theorem dX5_sortNow_50 : decode cX5_sortNow 50 = .ok (.iload 4, 2) := by decide +kernel
theorem dX5_sortNow_52 : decode cX5_sortNow 52 = .ok (.invokevirtual 50, 3) := by decide +kernel
theorem dX5_sortNow_55 : decode cX5_sortNow 55 = .ok (.iload_n 2, 1) := by decide +kernel
theorem dX5_sortNow_56 : decode cX5_sortNow 56 = .ok (.invokevirtual 133, 3) := by decide +kernel
theorem dX5_sortNow_59 : decode cX5_sortNow 59 = .ok (.if_icmp .ge 8, 3) := by decide +kernel
theorem dX5_sortNow_62 : decode cX5_sortNow 62 = .ok (.iload 5, 2) := by decide +kernel
theorem dX5_sortNow_64 : decode cX5_sortNow 64 = .ok (.goto 5, 3) := by decide +kernel
theorem dX5_sortNow_67 : decode cX5_sortNow 67 = .ok (.iload 4, 2) := by decide +kernel
theorem dX5_sortNow_69 : decode cX5_sortNow 69 = .ok (.istore 4, 2) := by decide +kernel
theorem dX5_sortNow_71 : decode cX5_sortNow 71 = .ok (.iinc 5 1, 3) := by decide +kernel
theorem dX5_sortNow_74 : decode cX5_sortNow 74 = .ok (.goto (-51), 3) := by decide +kernel
theorem dX5_sortNow_77 : decode cX5_sortNow 77 = .ok (.aload_n 0, 1) := by decide +kernel
theorem dX5_sortNow_78 : decode cX5_sortNow 78 = .ok (.iload_n 3, 1) := by decide +kernel
theorem dX5_sortNow_79 : decode cX5_sortNow 79 = .ok (.iload 4, 2) := by decide +kernel
theorem dX5_sortNow_81 : decode cX5_sortNow 81 = .ok (.invokevirtual 116, 3) := by decide +kernel
theorem dX5_sortNow_84 : decode cX5_sortNow 84 = .ok (.aload_n 0, 1) := by decide +kernel
theorem dX5_sortNow_85 : decode cX5_sortNow 85 = .ok (.iload_n 3, 1) := by decide +kernel
theorem dX5_sortNow_86 : decode cX5_sortNow 86 = .ok (.invokevirtual 50, 3) := by decide +kernel
theorem dX5_sortNow_89 : decode cX5_sortNow 89 = .ok (.istore_n 2, 1) := by decide +kernel
theorem dX5_sortNow_90 : decode cX5_sortNow 90 = .ok (.iinc 3 1, 3) := by decide +kernel
theorem dX5_sortNow_93 : decode cX5_sortNow 93 = .ok (.goto (-89), 3) := by decide +kernel
theorem dX5_sortNow_96 : decode cX5_sortNow 96 = .ok (.aload_n 0, 1) := by decide +kernel
theorem dX5_sortNow_97 : decode cX5_sortNow 97 = .ok (.invokevirtual 120, 3) := by decide +kernel
theorem dX5_sortNow_100 : decode cX5_sortNow 100 = .ok (.ireturn, 1) := by decide +kernel
set_option maxRecDepth 20000 in
theorem ggX5_sort_X5_sortCode : GoodIn wsX5_sort wsX5_sortCode := goodIn_r _ [6, 7, 8, 5, 9] (by decide +kernel) (by decide +kernel)
set_option maxRecDepth 20000 in
theorem gX5_sort_X5_sortCode : GoodIn wsX5_sort (wsV RX5 136 RX5 yX5_sortCode wsX5_sortCode) := goodIn_app (goodIn_of _ (by decide +kernel)) ggX5_sort_X5_sortCode
set_option maxRecDepth 20000 in
theorem ggX5_sort_X5_act : GoodIn wsX5_sort wsX5_act := goodIn_r _ [13, 14, 15, 16, 57, 58, 59, 60, 61, 62, 63, 64, 65, 66, 67, 68, 69, 70] (by decide +kernel) (by decide +kernel)
set_option maxRecDepth 20000 in
theorem gX5_sort_X5_act : GoodIn wsX5_sort (wsV RX5 89 RX5 yX5_act wsX5_act) := goodIn_app (goodIn_of _ (by decide +kernel)) ggX5_sort_X5_act
set_option maxRecDepth 20000 in
theorem ggX5_sort_X5_sortNow : GoodIn wsX5_sort wsX5_sortNow := goodIn_r _ [20, 16, 21, 22, 23, 5, 24, 25, 26, 27, 28, 29, 30, 31, 32, 33, 34, 35, 36, 37, 38, 39, 40, 41, 42, 43, 44, 45, 46, 47, 48, 49, 50, 51, 52, 53, 54, 55, 56, 57, 58, 59, 60, 61, 62, 63, 64, 65, 66, 67, 68, 69, 70] (by decide +kernel) (by decide +kernel)
set_option maxRecDepth 20000 in
theorem gX5_sort_X5_sortNow : GoodIn wsX5_sort (wsV RX5 139 RX5 yX5_sortNow wsX5_sortNow) := goodIn_app (goodIn_of _ (by decide +kernel)) ggX5_sort_X5_sortNow
theorem dX5_sort_0 : decode cX5_sort 0 = .ok (.aload_n 0, 1) := by decide +kernel
theorem dX5_sort_1 : decode cX5_sort 1 = .ok (.iconst 0, 1) := by decide +kernel
theorem dX5_sort_2 : decode cX5_sort 2 = .ok (.putfield 32, 3) := by decide +kernel
theorem dX5_sort_5 : decode cX5_sort 5 = .ok (.aload_n 0, 1) := by decide +kernel
theorem dX5_sort_6 : decode cX5_sort 6 = .ok (.iload_n 1, 1) := by decide +kernel
theorem dX5_sort_7 : decode cX5_sort 7 = .ok (.invokevirtual 136, 3) := by decide +kernel
theorem dX5_sort_10 : decode cX5_sort 10 = .ok (.istore_n 2, 1) := by decide +kernel
theorem dX5_sort_11 : decode cX5_sort 11 = .ok (.iload_n 2, 1) := by decide +kernel
theorem dX5_sort_12 : decode cX5_sort 12 = .ok (.ifCond .ge 5, 3) := by decide +kernel
theorem dX5_sort_15 : decode cX5_sort 15 = .ok (.iload_n 2, 1) := by decide +kernel
theorem dX5_sort_16 : decode cX5_sort 16 = .ok (.ireturn, 1) := by decide +kernel
theorem dX5_sort_17 : decode cX5_sort 17 = .ok (.aload_n 0, 1) := by decide +kernel
theorem dX5_sort_18 : decode cX5_sort 18 = .ok (.invokevirtual 89, 3) := by decide +kernel
theorem dX5_sort_21 : decode cX5_sort 21 = .ok (.aload_n 0, 1) := by decide +kernel
theorem dX5_sort_22 : decode cX5_sort 22 = .ok (.iload_n 1, 1) := by decide +kernel
theorem dX5_sort_23 : decode cX5_sort 23 = .ok (.invokevirtual 139, 3) := by decide +kernel
theorem dX5_sort_26 : decode cX5_sort 26 = .ok (.ireturn, 1) := by decide +kernel
theorem dX5_inPicture_0 : decode cX5_inPicture 0 = .ok (.iconst 0, 1) := by decide +kernel
theorem dX5_inPicture_1 : decode cX5_inPicture 1 = .ok (.istore_n 2, 1) := by decide +kernel
theorem dX5_inPicture_2 : decode cX5_inPicture 2 = .ok (.iconst 0, 1) := by decide +kernel
theorem dX5_inPicture_3 : decode cX5_inPicture 3 = .ok (.istore_n 3, 1) := by decide +kernel
theorem dX5_inPicture_4 : decode cX5_inPicture 4 = .ok (.iload_n 3, 1) := by decide +kernel
theorem dX5_inPicture_5 : decode cX5_inPicture 5 = .ok (.bipush 64, 2) := by decide +kernel
theorem dX5_inPicture_7 : decode cX5_inPicture 7 = .ok (.if_icmp .ge 31, 3) := by decide +kernel
theorem dX5_inPicture_10 : decode cX5_inPicture 10 = .ok (.iload_n 2, 1) := by decide +kernel
theorem dX5_inPicture_11 : decode cX5_inPicture 11 = .ok (.aload_n 0, 1) := by decide +kernel
theorem dX5_inPicture_12 : decode cX5_inPicture 12 = .ok (.getfield 7, 3) := by decide +kernel
theorem dX5_inPicture_15 : decode cX5_inPicture 15 = .ok (.iload_n 1, 1) := by decide +kernel
theorem dX5_inPicture_16 : decode cX5_inPicture 16 = .ok (.ifCond .ne 8, 3) := by decide +kernel
theorem dX5_inPicture_19 : decode cX5_inPicture 19 = .ok (.bipush 83, 2) := by decide +kernel
theorem dX5_inPicture_21 : decode cX5_inPicture 21 = .ok (.goto 6, 3) := by decide +kernel
theorem dX5_inPicture_24 : decode cX5_inPicture 24 = .ok (.sipush 147, 3) := by decide +kernel
theorem dX5_inPicture_27 : decode cX5_inPicture 27 = .ok (.iload_n 3, 1) := by decide +kernel
theorem dX5_inPicture_28 : decode cX5_inPicture 28 = .ok (.iadd, 1) := by decide +kernel
theorem dX5_inPicture_29 : decode cX5_inPicture 29 = .ok (.iaload, 1) := by decide +kernel
theorem dX5_inPicture_30 : decode cX5_inPicture 30 = .ok (.iadd, 1) := by decide +kernel
theorem dX5_inPicture_31 : decode cX5_inPicture 31 = .ok (.istore_n 2, 1) := by decide +kernel
theorem dX5_inPicture_32 : decode cX5_inPicture 32 = .ok (.iinc 3 1, 3) := by decide +kernel
theorem dX5_inPicture_35 : decode cX5_inPicture 35 = .ok (.goto (-31), 3) := by decide +kernel
theorem dX5_inPicture_38 : decode cX5_inPicture 38 = .ok (.iload_n 2, 1) := by decide +kernel
theorem dX5_inPicture_39 : decode cX5_inPicture 39 = .ok (.ireturn, 1) := by decide +kernel
set_option maxRecDepth 20000 in
theorem ggX5_drawNow_X5_inPicture : GoodIn wsX5_drawNow wsX5_inPicture := goodIn_r _ [6, 1, 7, 8, 9, 10, 11, 12, 13, 14, 15, 16, 17, 18, 19, 20] (by decide +kernel) (by decide +kernel)
set_option maxRecDepth 20000 in
theorem gX5_drawNow_X5_inPicture : GoodIn wsX5_drawNow (wsV RX5 142 RX5 yX5_inPicture wsX5_inPicture) := goodIn_app (goodIn_of _ (by decide +kernel)) ggX5_drawNow_X5_inPicture
theorem dX5_drawNow_0 : decode cX5_drawNow 0 = .ok (.aload_n 0, 1) := by decide +kernel
theorem dX5_drawNow_1 : decode cX5_drawNow 1 = .ok (.getfield 7, 3) := by decide +kernel
theorem dX5_drawNow_4 : decode cX5_drawNow 4 = .ok (.iload_n 1, 1) := by decide +kernel
theorem dX5_drawNow_5 : decode cX5_drawNow 5 = .ok (.ifCond .ne 8, 3) := by decide +kernel
theorem dX5_drawNow_8 : decode cX5_drawNow 8 = .ok (.bipush 83, 2) := by decide +kernel
theorem dX5_drawNow_10 : decode cX5_drawNow 10 = .ok (.goto 6, 3) := by decide +kernel
theorem dX5_drawNow_13 : decode cX5_drawNow 13 = .ok (.sipush 147, 3) := by decide +kernel
theorem dX5_drawNow_16 : decode cX5_drawNow 16 = .ok (.iload_n 2, 1) := by decide +kernel
theorem dX5_drawNow_17 : decode cX5_drawNow 17 = .ok (.iadd, 1) := by decide +kernel
theorem dX5_drawNow_18 : decode cX5_drawNow 18 = .ok (.iload_n 3, 1) := by decide +kernel
theorem dX5_drawNow_19 : decode cX5_drawNow 19 = .ok (.iastore, 1) := by decide +kernel
theorem dX5_drawNow_20 : decode cX5_drawNow 20 = .ok (.aload_n 0, 1) := by decide +kernel
theorem dX5_drawNow_21 : decode cX5_drawNow 21 = .ok (.iload_n 1, 1) := by decide +kernel
theorem dX5_drawNow_22 : decode cX5_drawNow 22 = .ok (.invokevirtual 142, 3) := by decide +kernel
theorem dX5_drawNow_25 : decode cX5_drawNow 25 = .ok (.ireturn, 1) := by decide +kernel
set_option maxRecDepth 20000 in
theorem ggX5_draw_X5_isBit : GoodIn wsX5_draw wsX5_isBit := goodIn_r _ [5, 6, 7, 4, 8] (by decide +kernel) (by decide +kernel)
set_option maxRecDepth 20000 in
theorem gX5_draw_X5_isBit : GoodIn wsX5_draw (va_wsS RX5 145 yX5_isBit wsX5_isBit) := goodIn_app (goodIn_of _ (by decide +kernel)) ggX5_draw_X5_isBit
set_option maxRecDepth 20000 in
theorem ggX5_draw_X5_isSpot : GoodIn wsX5_draw wsX5_isSpot := goodIn_r _ [11, 6, 7, 4, 8] (by decide +kernel) (by decide +kernel)
set_option maxRecDepth 20000 in
theorem gX5_draw_X5_isSpot : GoodIn wsX5_draw (va_wsS RX5 92 yX5_isSpot wsX5_isSpot) := goodIn_app (goodIn_of _ (by decide +kernel)) ggX5_draw_X5_isSpot
set_option maxRecDepth 20000 in
theorem ggX5_draw_X5_act : GoodIn wsX5_draw wsX5_act := goodIn_r _ [15, 16, 17, 18, 27, 28, 29, 30, 31, 32, 33, 34, 35, 36, 37, 38, 39, 40] (by decide +kernel) (by decide +kernel)
set_option maxRecDepth 20000 in
theorem gX5_draw_X5_act : GoodIn wsX5_draw (wsV RX5 89 RX5 yX5_act wsX5_act) := goodIn_app (goodIn_of _ (by decide +kernel)) ggX5_draw_X5_act
set_option maxRecDepth 20000 in
theorem ggX5_draw_X5_drawNow : GoodIn wsX5_draw wsX5_drawNow := goodIn_r _ [22, 18, 23, 24, 25, 4, 26, 27, 28, 29, 30, 31, 32, 33, 34, 35, 36, 37, 38, 39, 40] (by decide +kernel) (by decide +kernel)
set_option maxRecDepth 20000 in
theorem gX5_draw_X5_drawNow : GoodIn wsX5_draw (wsV RX5 148 RX5 yX5_drawNow wsX5_drawNow) := goodIn_app (goodIn_of _ (by decide +kernel)) ggX5_draw_X5_drawNow
theorem dX5_draw_0 : decode cX5_draw 0 = .ok (.aload_n 0, 1) := by decide +kernel
theorem dX5_draw_1 : decode cX5_draw 1 = .ok (.iconst 0, 1) := by decide +kernel
theorem dX5_draw_2 : decode cX5_draw 2 = .ok (.putfield 32, 3) := by decide +kernel
theorem dX5_draw_5 : decode cX5_draw 5 = .ok (.iload_n 1, 1) := by decide +kernel
theorem dX5_draw_6 : decode cX5_draw 6 = .ok (.invokestatic 145, 3) := by decide +kernel
theorem dX5_draw_9 : decode cX5_draw 9 = .ok (.ifCond .eq 17, 3) := by decide +kernel
theorem dX5_draw_12 : decode cX5_draw 12 = .ok (.iload_n 2, 1) := by decide +kernel
theorem dX5_draw_13 : decode cX5_draw 13 = .ok (.invokestatic 92, 3) := by decide +kernel
theorem dX5_draw_16 : decode cX5_draw 16 = .ok (.ifCond .eq 10, 3) := by decide +kernel
theorem dX5_draw_19 : decode cX5_draw 19 = .ok (.iload_n 3, 1) := by decide +kernel
theorem dX5_draw_20 : decode cX5_draw 20 = .ok (.invokestatic 145, 3) := by decide +kernel
theorem dX5_draw_23 : decode cX5_draw 23 = .ok (.ifCond .ne 5, 3) := by decide +kernel
theorem dX5_draw_26 : decode cX5_draw 26 = .ok (.iconst (-1), 1) := by decide +kernel
theorem dX5_draw_27 : decode cX5_draw 27 = .ok (.ireturn, 1) := by decide +kernel
theorem dX5_draw_28 : decode cX5_draw 28 = .ok (.aload_n 0, 1) := by decide +kernel
theorem dX5_draw_29 : decode cX5_draw 29 = .ok (.invokevirtual 89, 3) := by decide +kernel
theorem dX5_draw_32 : decode cX5_draw 32 = .ok (.aload_n 0, 1) := by decide +kernel
theorem dX5_draw_33 : decode cX5_draw 33 = .ok (.iload_n 1, 1) := by decide +kernel
theorem dX5_draw_34 : decode cX5_draw 34 = .ok (.iload_n 2, 1) := by decide +kernel
theorem dX5_draw_35 : decode cX5_draw 35 = .ok (.iload_n 3, 1) := by decide +kernel
theorem dX5_draw_36 : decode cX5_draw 36 = .ok (.invokevirtual 148, 3) := by decide +kernel
theorem dX5_draw_39 : decode cX5_draw 39 = .ok (.ireturn, 1) := by decide +kernel
theorem dX5_slotAt_0 : decode cX5_slotAt 0 = .ok (.sipush 211, 3) := by decide +kernel
theorem dX5_slotAt_3 : decode cX5_slotAt 3 = .ok (.sipush 212, 3) := by decide +kernel
theorem dX5_slotAt_6 : decode cX5_slotAt 6 = .ok (.iload_n 0, 1) := by decide +kernel
theorem dX5_slotAt_7 : decode cX5_slotAt 7 = .ok (.imul, 1) := by decide +kernel
theorem dX5_slotAt_8 : decode cX5_slotAt 8 = .ok (.iadd, 1) := by decide +kernel
theorem dX5_slotAt_9 : decode cX5_slotAt 9 = .ok (.ireturn, 1) := by decide +kernel
set_option maxRecDepth 20000 in
theorem ggX5_take_X5_isBit : GoodIn wsX5_take wsX5_isBit := goodIn_r _ [6, 7, 8, 5, 9] (by decide +kernel) (by decide +kernel)
set_option maxRecDepth 20000 in
theorem gX5_take_X5_isBit : GoodIn wsX5_take (va_wsS RX5 145 yX5_isBit wsX5_isBit) := goodIn_app (goodIn_of _ (by decide +kernel)) ggX5_take_X5_isBit
set_option maxRecDepth 20000 in
theorem ggX5_take_X5_act : GoodIn wsX5_take wsX5_act := goodIn_r _ [13, 14, 15, 2, 19, 20, 21, 22, 23, 24, 25, 26, 27, 28, 29, 30, 31, 32] (by decide +kernel) (by decide +kernel)
set_option maxRecDepth 20000 in
theorem gX5_take_X5_act : GoodIn wsX5_take (wsV RX5 89 RX5 yX5_act wsX5_act) := goodIn_app (goodIn_of _ (by decide +kernel)) ggX5_take_X5_act
set_option maxRecDepth 20000 in
theorem ggX5_take_X5_slotAt : GoodIn wsX5_take wsX5_slotAt := goodIn_r _ [18] (by decide +kernel) (by decide +kernel)
set_option maxRecDepth 20000 in
theorem gX5_take_X5_slotAt : GoodIn wsX5_take (va_wsS RX5 151 yX5_slotAt wsX5_slotAt) := goodIn_app (goodIn_of _ (by decide +kernel)) ggX5_take_X5_slotAt
theorem dX5_take_0 : decode cX5_take 0 = .ok (.aload_n 0, 1) := by decide +kernel
theorem dX5_take_1 : decode cX5_take 1 = .ok (.iconst 0, 1) := by decide +kernel
theorem dX5_take_2 : decode cX5_take 2 = .ok (.putfield 32, 3) := by decide +kernel
theorem dX5_take_5 : decode cX5_take 5 = .ok (.iload_n 1, 1) := by decide +kernel
theorem dX5_take_6 : decode cX5_take 6 = .ok (.invokestatic 145, 3) := by decide +kernel
theorem dX5_take_9 : decode cX5_take 9 = .ok (.ifCond .ne 5, 3) := by decide +kernel
theorem dX5_take_12 : decode cX5_take 12 = .ok (.iconst (-1), 1) := by decide +kernel
theorem dX5_take_13 : decode cX5_take 13 = .ok (.ireturn, 1) := by decide +kernel
theorem dX5_take_14 : decode cX5_take 14 = .ok (.aload_n 0, 1) := by decide +kernel
theorem dX5_take_15 : decode cX5_take 15 = .ok (.invokevirtual 89, 3) := by decide +kernel
theorem dX5_take_18 : decode cX5_take 18 = .ok (.aload_n 0, 1) := by decide +kernel
theorem dX5_take_19 : decode cX5_take 19 = .ok (.getfield 7, 3) := by decide +kernel
theorem dX5_take_22 : decode cX5_take 22 = .ok (.iload_n 1, 1) := by decide +kernel
theorem dX5_take_23 : decode cX5_take 23 = .ok (.invokestatic 151, 3) := by decide +kernel
theorem dX5_take_26 : decode cX5_take 26 = .ok (.iconst 1, 1) := by decide +kernel
theorem dX5_take_27 : decode cX5_take 27 = .ok (.iastore, 1) := by decide +kernel
theorem dX5_take_28 : decode cX5_take 28 = .ok (.iconst 0, 1) := by decide +kernel
theorem dX5_take_29 : decode cX5_take 29 = .ok (.istore_n 2, 1) := by decide +kernel
theorem dX5_take_30 : decode cX5_take 30 = .ok (.iload_n 2, 1) := by decide +kernel
theorem dX5_take_31 : decode cX5_take 31 = .ok (.sipush 211, 3) := by decide +kernel
theorem dX5_take_34 : decode cX5_take 34 = .ok (.if_icmp .ge 28, 3) := by decide +kernel
theorem dX5_take_37 : decode cX5_take 37 = .ok (.aload_n 0, 1) := by decide +kernel
theorem dX5_take_38 : decode cX5_take 38 = .ok (.getfield 7, 3) := by decide +kernel
theorem dX5_take_41 : decode cX5_take 41 = .ok (.iload_n 1, 1) := by decide +kernel
theorem dX5_take_42 : decode cX5_take 42 = .ok (.invokestatic 151, 3) := by decide +kernel
theorem dX5_take_45 : decode cX5_take 45 = .ok (.iconst 1, 1) := by decide +kernel
theorem dX5_take_46 : decode cX5_take 46 = .ok (.iadd, 1) := by decide +kernel
theorem dX5_take_47 : decode cX5_take 47 = .ok (.iload_n 2, 1) := by decide +kernel
theorem dX5_take_48 : decode cX5_take 48 = .ok (.iadd, 1) := by decide +kernel
theorem dX5_take_49 : decode cX5_take 49 = .ok (.aload_n 0, 1) := by decide +kernel
theorem dX5_take_50 : decode cX5_take 50 = .ok (.getfield 7, 3) := by decide +kernel
theorem dX5_take_53 : decode cX5_take 53 = .ok (.iload_n 2, 1) := by decide +kernel
theorem dX5_take_54 : decode cX5_take 54 = .ok (.iaload, 1) := by decide +kernel
theorem dX5_take_55 : decode cX5_take 55 = .ok (.iastore, 1) := by decide +kernel
theorem dX5_take_56 : decode cX5_take 56 = .ok (.iinc 2 1, 3) := by decide +kernel
theorem dX5_take_59 : decode cX5_take 59 = .ok (.goto (-29), 3) := by decide +kernel
theorem dX5_take_62 : decode cX5_take 62 = .ok (.aload_n 0, 1) := by decide +kernel
theorem dX5_take_63 : decode cX5_take 63 = .ok (.getfield 7, 3) := by decide +kernel
theorem dX5_take_66 : decode cX5_take 66 = .ok (.bipush 6, 2) := by decide +kernel
theorem dX5_take_68 : decode cX5_take 68 = .ok (.iaload, 1) := by decide +kernel
theorem dX5_take_69 : decode cX5_take 69 = .ok (.ireturn, 1) := by decide +kernel
set_option maxRecDepth 20000 in
theorem ggX5_restore_X5_isBit : GoodIn wsX5_restore wsX5_isBit := goodIn_r _ [6, 7, 8, 5, 9] (by decide +kernel) (by decide +kernel)
set_option maxRecDepth 20000 in
theorem gX5_restore_X5_isBit : GoodIn wsX5_restore (va_wsS RX5 145 yX5_isBit wsX5_isBit) := goodIn_app (goodIn_of _ (by decide +kernel)) ggX5_restore_X5_isBit
set_option maxRecDepth 20000 in
theorem ggX5_restore_X5_slotAt : GoodIn wsX5_restore wsX5_slotAt := goodIn_r _ [12] (by decide +kernel) (by decide +kernel)
set_option maxRecDepth 20000 in
theorem gX5_restore_X5_slotAt : GoodIn wsX5_restore (va_wsS RX5 151 yX5_slotAt wsX5_slotAt) := goodIn_app (goodIn_of _ (by decide +kernel)) ggX5_restore_X5_slotAt
set_option maxRecDepth 20000 in
theorem ggX5_restore_X5_act : GoodIn wsX5_restore wsX5_act := goodIn_r _ [16, 17, 18, 2, 19, 20, 21, 22, 23, 24, 25, 26, 27, 28, 29, 30, 31, 32] (by decide +kernel) (by decide +kernel)
set_option maxRecDepth 20000 in
theorem gX5_restore_X5_act : GoodIn wsX5_restore (wsV RX5 89 RX5 yX5_act wsX5_act) := goodIn_app (goodIn_of _ (by decide +kernel)) ggX5_restore_X5_act
theorem dX5_restore_0 : decode cX5_restore 0 = .ok (.aload_n 0, 1) := by decide +kernel
theorem dX5_restore_1 : decode cX5_restore 1 = .ok (.iconst 0, 1) := by decide +kernel
theorem dX5_restore_2 : decode cX5_restore 2 = .ok (.putfield 32, 3) := by decide +kernel
theorem dX5_restore_5 : decode cX5_restore 5 = .ok (.iload_n 1, 1) := by decide +kernel
theorem dX5_restore_6 : decode cX5_restore 6 = .ok (.invokestatic 145, 3) := by decide +kernel
theorem dX5_restore_9 : decode cX5_restore 9 = .ok (.ifCond .ne 5, 3) := by decide +kernel
theorem dX5_restore_12 : decode cX5_restore 12 = .ok (.iconst (-1), 1) := by decide +kernel
theorem dX5_restore_13 : decode cX5_restore 13 = .ok (.ireturn, 1) := by decide +kernel
theorem dX5_restore_14 : decode cX5_restore 14 = .ok (.aload_n 0, 1) := by decide +kernel
theorem dX5_restore_15 : decode cX5_restore 15 = .ok (.getfield 7, 3) := by decide +kernel
theorem dX5_restore_18 : decode cX5_restore 18 = .ok (.iload_n 1, 1) := by decide +kernel
theorem dX5_restore_19 : decode cX5_restore 19 = .ok (.invokestatic 151, 3) := by decide +kernel
theorem dX5_restore_22 : decode cX5_restore 22 = .ok (.iaload, 1) := by decide +kernel
theorem dX5_restore_23 : decode cX5_restore 23 = .ok (.ifCond .ne 6, 3) := by decide +kernel
theorem dX5_restore_26 : decode cX5_restore 26 = .ok (.bipush (-2), 2) := by decide +kernel
theorem dX5_restore_28 : decode cX5_restore 28 = .ok (.ireturn, 1) := by decide +kernel
theorem dX5_restore_29 : decode cX5_restore 29 = .ok (.aload_n 0, 1) := by decide +kernel
theorem dX5_restore_30 : decode cX5_restore 30 = .ok (.invokevirtual 89, 3) := by decide +kernel
theorem dX5_restore_33 : decode cX5_restore 33 = .ok (.iconst 0, 1) := by decide +kernel
theorem dX5_restore_34 : decode cX5_restore 34 = .ok (.istore_n 2, 1) := by decide +kernel
theorem dX5_restore_35 : decode cX5_restore 35 = .ok (.iload_n 2, 1) := by decide +kernel
theorem dX5_restore_36 : decode cX5_restore 36 = .ok (.sipush 211, 3) := by decide +kernel
theorem dX5_restore_39 : decode cX5_restore 39 = .ok (.if_icmp .ge 28, 3) := by decide +kernel
theorem dX5_restore_42 : decode cX5_restore 42 = .ok (.aload_n 0, 1) := by decide +kernel
theorem dX5_restore_43 : decode cX5_restore 43 = .ok (.getfield 7, 3) := by decide +kernel
theorem dX5_restore_46 : decode cX5_restore 46 = .ok (.iload_n 2, 1) := by decide +kernel
theorem dX5_restore_47 : decode cX5_restore 47 = .ok (.aload_n 0, 1) := by decide +kernel
theorem dX5_restore_48 : decode cX5_restore 48 = .ok (.getfield 7, 3) := by decide +kernel
theorem dX5_restore_51 : decode cX5_restore 51 = .ok (.iload_n 1, 1) := by decide +kernel
theorem dX5_restore_52 : decode cX5_restore 52 = .ok (.invokestatic 151, 3) := by decide +kernel
theorem dX5_restore_55 : decode cX5_restore 55 = .ok (.iconst 1, 1) := by decide +kernel
theorem dX5_restore_56 : decode cX5_restore 56 = .ok (.iadd, 1) := by decide +kernel
theorem dX5_restore_57 : decode cX5_restore 57 = .ok (.iload_n 2, 1) := by decide +kernel
theorem dX5_restore_58 : decode cX5_restore 58 = .ok (.iadd, 1) := by decide +kernel
theorem dX5_restore_59 : decode cX5_restore 59 = .ok (.iaload, 1) := by decide +kernel
theorem dX5_restore_60 : decode cX5_restore 60 = .ok (.iastore, 1) := by decide +kernel
theorem dX5_restore_61 : decode cX5_restore 61 = .ok (.iinc 2 1, 3) := by decide +kernel
theorem dX5_restore_64 : decode cX5_restore 64 = .ok (.goto (-29), 3) := by decide +kernel
theorem dX5_restore_67 : decode cX5_restore 67 = .ok (.aload_n 0, 1) := by decide +kernel
theorem dX5_restore_68 : decode cX5_restore 68 = .ok (.getfield 7, 3) := by decide +kernel
theorem dX5_restore_71 : decode cX5_restore 71 = .ok (.bipush 6, 2) := by decide +kernel
theorem dX5_restore_73 : decode cX5_restore 73 = .ok (.iaload, 1) := by decide +kernel
theorem dX5_restore_74 : decode cX5_restore 74 = .ok (.ireturn, 1) := by decide +kernel
theorem dX5_undo_0 : decode cX5_undo 0 = .ok (.aload_n 0, 1) := by decide +kernel
theorem dX5_undo_1 : decode cX5_undo 1 = .ok (.iconst 0, 1) := by decide +kernel
theorem dX5_undo_2 : decode cX5_undo 2 = .ok (.putfield 32, 3) := by decide +kernel
theorem dX5_undo_5 : decode cX5_undo 5 = .ok (.aload_n 0, 1) := by decide +kernel
theorem dX5_undo_6 : decode cX5_undo 6 = .ok (.getfield 40, 3) := by decide +kernel
theorem dX5_undo_9 : decode cX5_undo 9 = .ok (.ifCond .ne 6, 3) := by decide +kernel
theorem dX5_undo_12 : decode cX5_undo 12 = .ok (.bipush (-2), 2) := by decide +kernel
theorem dX5_undo_14 : decode cX5_undo 14 = .ok (.ireturn, 1) := by decide +kernel
theorem dX5_undo_15 : decode cX5_undo 15 = .ok (.aload_n 0, 1) := by decide +kernel
theorem dX5_undo_16 : decode cX5_undo 16 = .ok (.dup, 1) := by decide +kernel
theorem dX5_undo_17 : decode cX5_undo 17 = .ok (.getfield 40, 3) := by decide +kernel
theorem dX5_undo_20 : decode cX5_undo 20 = .ok (.iconst 1, 1) := by decide +kernel
theorem dX5_undo_21 : decode cX5_undo 21 = .ok (.isub, 1) := by decide +kernel
theorem dX5_undo_22 : decode cX5_undo 22 = .ok (.putfield 40, 3) := by decide +kernel
theorem dX5_undo_25 : decode cX5_undo 25 = .ok (.iconst 0, 1) := by decide +kernel
theorem dX5_undo_26 : decode cX5_undo 26 = .ok (.istore_n 1, 1) := by decide +kernel
theorem dX5_undo_27 : decode cX5_undo 27 = .ok (.iload_n 1, 1) := by decide +kernel
theorem dX5_undo_28 : decode cX5_undo 28 = .ok (.sipush 635, 3) := by decide +kernel
theorem dX5_undo_31 : decode cX5_undo 31 = .ok (.if_icmp .ge 30, 3) := by decide +kernel
theorem dX5_undo_34 : decode cX5_undo 34 = .ok (.aload_n 0, 1) := by decide +kernel
theorem dX5_undo_35 : decode cX5_undo 35 = .ok (.getfield 7, 3) := by decide +kernel
theorem dX5_undo_38 : decode cX5_undo 38 = .ok (.iload_n 1, 1) := by decide +kernel
theorem dX5_undo_39 : decode cX5_undo 39 = .ok (.aload_n 0, 1) := by decide +kernel
theorem dX5_undo_40 : decode cX5_undo 40 = .ok (.getfield 16, 3) := by decide +kernel
theorem dX5_undo_43 : decode cX5_undo 43 = .ok (.sipush 635, 3) := by decide +kernel
theorem dX5_undo_46 : decode cX5_undo 46 = .ok (.aload_n 0, 1) := by decide +kernel
theorem dX5_undo_47 : decode cX5_undo 47 = .ok (.getfield 40, 3) := by decide +kernel
theorem dX5_undo_50 : decode cX5_undo 50 = .ok (.imul, 1) := by decide +kernel
theorem dX5_undo_51 : decode cX5_undo 51 = .ok (.iload_n 1, 1) := by decide +kernel
theorem dX5_undo_52 : decode cX5_undo 52 = .ok (.iadd, 1) := by decide +kernel
theorem dX5_undo_53 : decode cX5_undo 53 = .ok (.iaload, 1) := by decide +kernel
theorem dX5_undo_54 : decode cX5_undo 54 = .ok (.iastore, 1) := by decide +kernel
theorem dX5_undo_55 : decode cX5_undo 55 = .ok (.iinc 1 1, 3) := by decide +kernel
theorem dX5_undo_58 : decode cX5_undo 58 = .ok (.goto (-31), 3) := by decide +kernel
theorem dX5_undo_61 : decode cX5_undo 61 = .ok (.aload_n 0, 1) := by decide +kernel
theorem dX5_undo_62 : decode cX5_undo 62 = .ok (.getfield 40, 3) := by decide +kernel
theorem dX5_undo_65 : decode cX5_undo 65 = .ok (.ireturn, 1) := by decide +kernel
set_option maxRecDepth 20000 in
theorem ggX5_append_X5_in : GoodIn wsX5_append wsX5_in := goodIn_r _ [7] (by decide +kernel) (by decide +kernel)
set_option maxRecDepth 20000 in
theorem gX5_append_X5_in : GoodIn wsX5_append (va_wsS RX5 36 yX5_in wsX5_in) := goodIn_app (goodIn_of _ (by decide +kernel)) ggX5_append_X5_in
theorem dX5_append_0 : decode cX5_append 0 = .ok (.aload_n 0, 1) := by decide +kernel
theorem dX5_append_1 : decode cX5_append 1 = .ok (.iconst 0, 1) := by decide +kernel
theorem dX5_append_2 : decode cX5_append 2 = .ok (.putfield 32, 3) := by decide +kernel
theorem dX5_append_5 : decode cX5_append 5 = .ok (.iload_n 1, 1) := by decide +kernel
theorem dX5_append_6 : decode cX5_append 6 = .ok (.iconst 1, 1) := by decide +kernel
theorem dX5_append_7 : decode cX5_append 7 = .ok (.sipush 255, 3) := by decide +kernel
theorem dX5_append_10 : decode cX5_append 10 = .ok (.invokestatic 36, 3) := by decide +kernel
theorem dX5_append_13 : decode cX5_append 13 = .ok (.ifCond .ne 5, 3) := by decide +kernel
theorem dX5_append_16 : decode cX5_append 16 = .ok (.iconst (-1), 1) := by decide +kernel
theorem dX5_append_17 : decode cX5_append 17 = .ok (.ireturn, 1) := by decide +kernel
theorem dX5_append_18 : decode cX5_append 18 = .ok (.aload_n 0, 1) := by decide +kernel
theorem dX5_append_19 : decode cX5_append 19 = .ok (.getfield 154, 3) := by decide +kernel
theorem dX5_append_22 : decode cX5_append 22 = .ok (.sipush 140, 3) := by decide +kernel
theorem dX5_append_25 : decode cX5_append 25 = .ok (.if_icmp .ne 6, 3) := by decide +kernel
theorem dX5_append_28 : decode cX5_append 28 = .ok (.bipush (-3), 2) := by decide +kernel
theorem dX5_append_30 : decode cX5_append 30 = .ok (.ireturn, 1) := by decide +kernel
theorem dX5_append_31 : decode cX5_append 31 = .ok (.aload_n 0, 1) := by decide +kernel
theorem dX5_append_32 : decode cX5_append 32 = .ok (.getfield 19, 3) := by decide +kernel
theorem dX5_append_35 : decode cX5_append 35 = .ok (.aload_n 0, 1) := by decide +kernel
theorem dX5_append_36 : decode cX5_append 36 = .ok (.getfield 154, 3) := by decide +kernel
theorem dX5_append_39 : decode cX5_append 39 = .ok (.iload_n 1, 1) := by decide +kernel
theorem dX5_append_40 : decode cX5_append 40 = .ok (.iastore, 1) := by decide +kernel
theorem dX5_append_41 : decode cX5_append 41 = .ok (.aload_n 0, 1) := by decide +kernel
theorem dX5_append_42 : decode cX5_append 42 = .ok (.dup, 1) := by decide +kernel
theorem dX5_append_43 : decode cX5_append 43 = .ok (.getfield 154, 3) := by decide +kernel
theorem dX5_append_46 : decode cX5_append 46 = .ok (.iconst 1, 1) := by decide +kernel
theorem dX5_append_47 : decode cX5_append 47 = .ok (.iadd, 1) := by decide +kernel
theorem dX5_append_48 : decode cX5_append 48 = .ok (.putfield 154, 3) := by decide +kernel
theorem dX5_append_51 : decode cX5_append 51 = .ok (.aload_n 0, 1) := by decide +kernel
theorem dX5_append_52 : decode cX5_append 52 = .ok (.getfield 154, 3) := by decide +kernel
theorem dX5_append_55 : decode cX5_append 55 = .ok (.ireturn, 1) := by decide +kernel
theorem dX5_clearText_0 : decode cX5_clearText 0 = .ok (.aload_n 0, 1) := by decide +kernel
theorem dX5_clearText_1 : decode cX5_clearText 1 = .ok (.iconst 0, 1) := by decide +kernel
theorem dX5_clearText_2 : decode cX5_clearText 2 = .ok (.putfield 32, 3) := by decide +kernel
theorem dX5_clearText_5 : decode cX5_clearText 5 = .ok (.aload_n 0, 1) := by decide +kernel
theorem dX5_clearText_6 : decode cX5_clearText 6 = .ok (.getfield 154, 3) := by decide +kernel
theorem dX5_clearText_9 : decode cX5_clearText 9 = .ok (.istore_n 1, 1) := by decide +kernel
theorem dX5_clearText_10 : decode cX5_clearText 10 = .ok (.aload_n 0, 1) := by decide +kernel
theorem dX5_clearText_11 : decode cX5_clearText 11 = .ok (.iconst 0, 1) := by decide +kernel
theorem dX5_clearText_12 : decode cX5_clearText 12 = .ok (.putfield 154, 3) := by decide +kernel
theorem dX5_clearText_15 : decode cX5_clearText 15 = .ok (.iload_n 1, 1) := by decide +kernel
theorem dX5_clearText_16 : decode cX5_clearText 16 = .ok (.ireturn, 1) := by decide +kernel
theorem dX5_sign_0 : decode cX5_sign 0 = .ok (.iload_n 1, 1) := by decide +kernel
theorem dX5_sign_1 : decode cX5_sign 1 = .ok (.aload_n 0, 1) := by decide +kernel
theorem dX5_sign_2 : decode cX5_sign 2 = .ok (.getfield 154, 3) := by decide +kernel
theorem dX5_sign_5 : decode cX5_sign 5 = .ok (.if_icmp .ge 12, 3) := by decide +kernel
theorem dX5_sign_8 : decode cX5_sign 8 = .ok (.aload_n 0, 1) := by decide +kernel
theorem dX5_sign_9 : decode cX5_sign 9 = .ok (.getfield 19, 3) := by decide +kernel
theorem dX5_sign_12 : decode cX5_sign 12 = .ok (.iload_n 1, 1) := by decide +kernel
theorem dX5_sign_13 : decode cX5_sign 13 = .ok (.iaload, 1) := by decide +kernel
theorem dX5_sign_14 : decode cX5_sign 14 = .ok (.goto 4, 3) := by decide +kernel
theorem dX5_sign_17 : decode cX5_sign 17 = .ok (.iconst (-1), 1) := by decide +kernel
theorem dX5_sign_18 : decode cX5_sign 18 = .ok (.ireturn, 1) := by decide +kernel
set_option maxRecDepth 20000 in
theorem ggX5_next_X5_sign : GoodIn wsX5_next wsX5_sign := goodIn_r _ [9, 4, 10, 14, 15, 16, 17, 18, 19, 20, 21, 22, 23, 24, 25, 26, 27] (by decide +kernel) (by decide +kernel)
set_option maxRecDepth 20000 in
theorem gX5_next_X5_sign : GoodIn wsX5_next (wsV RX5 163 RX5 yX5_sign wsX5_sign) := goodIn_app (goodIn_of _ (by decide +kernel)) ggX5_next_X5_sign
set_option maxRecDepth 20000 in
theorem ggX5_next_X5_in : GoodIn wsX5_next wsX5_in := goodIn_r _ [13] (by decide +kernel) (by decide +kernel)
set_option maxRecDepth 20000 in
theorem gX5_next_X5_in : GoodIn wsX5_next (va_wsS RX5 36 yX5_in wsX5_in) := goodIn_app (goodIn_of _ (by decide +kernel)) ggX5_next_X5_in
theorem dX5_next_0 : decode cX5_next 0 = .ok (.aload_n 0, 1) := by decide +kernel
theorem dX5_next_1 : decode cX5_next 1 = .ok (.aload_n 0, 1) := by decide +kernel
theorem dX5_next_2 : decode cX5_next 2 = .ok (.getfield 157, 3) := by decide +kernel
theorem dX5_next_5 : decode cX5_next 5 = .ok (.putfield 160, 3) := by decide +kernel
theorem dX5_next_8 : decode cX5_next 8 = .ok (.aload_n 0, 1) := by decide +kernel
theorem dX5_next_9 : decode cX5_next 9 = .ok (.aload_n 0, 1) := by decide +kernel
theorem dX5_next_10 : decode cX5_next 10 = .ok (.getfield 160, 3) := by decide +kernel
theorem dX5_next_13 : decode cX5_next 13 = .ok (.invokevirtual 163, 3) := by decide +kernel
theorem dX5_next_16 : decode cX5_next 16 = .ok (.bipush 32, 2) := by decide +kernel
theorem dX5_next_18 : decode cX5_next 18 = .ok (.if_icmp .ne 16, 3) := by decide +kernel
theorem dX5_next_21 : decode cX5_next 21 = .ok (.aload_n 0, 1) := by decide +kernel
theorem dX5_next_22 : decode cX5_next 22 = .ok (.dup, 1) := by decide +kernel
theorem dX5_next_23 : decode cX5_next 23 = .ok (.getfield 160, 3) := by decide +kernel
theorem dX5_next_26 : decode cX5_next 26 = .ok (.iconst 1, 1) := by decide +kernel
theorem dX5_next_27 : decode cX5_next 27 = .ok (.iadd, 1) := by decide +kernel
theorem dX5_next_28 : decode cX5_next 28 = .ok (.putfield 160, 3) := by decide +kernel
theorem dX5_next_31 : decode cX5_next 31 = .ok (.goto (-23), 3) := by decide +kernel
theorem dX5_next_34 : decode cX5_next 34 = .ok (.aload_n 0, 1) := by decide +kernel
theorem dX5_next_35 : decode cX5_next 35 = .ok (.aload_n 0, 1) := by decide +kernel
theorem dX5_next_36 : decode cX5_next 36 = .ok (.getfield 160, 3) := by decide +kernel
theorem dX5_next_39 : decode cX5_next 39 = .ok (.putfield 157, 3) := by decide +kernel
theorem dX5_next_42 : decode cX5_next 42 = .ok (.aload_n 0, 1) := by decide +kernel
theorem dX5_next_43 : decode cX5_next 43 = .ok (.aload_n 0, 1) := by decide +kernel
theorem dX5_next_44 : decode cX5_next 44 = .ok (.getfield 160, 3) := by decide +kernel
theorem dX5_next_47 : decode cX5_next 47 = .ok (.invokevirtual 163, 3) := by decide +kernel
theorem dX5_next_50 : decode cX5_next 50 = .ok (.bipush 97, 2) := by decide +kernel
theorem dX5_next_52 : decode cX5_next 52 = .ok (.bipush 122, 2) := by decide +kernel
theorem dX5_next_54 : decode cX5_next 54 = .ok (.invokestatic 36, 3) := by decide +kernel
theorem dX5_next_57 : decode cX5_next 57 = .ok (.ifCond .eq 39, 3) := by decide +kernel
theorem dX5_next_60 : decode cX5_next 60 = .ok (.aload_n 0, 1) := by decide +kernel
theorem dX5_next_61 : decode cX5_next 61 = .ok (.iconst 1, 1) := by decide +kernel
theorem dX5_next_62 : decode cX5_next 62 = .ok (.putfield 166, 3) := by decide +kernel
theorem dX5_next_65 : decode cX5_next 65 = .ok (.aload_n 0, 1) := by decide +kernel
theorem dX5_next_66 : decode cX5_next 66 = .ok (.aload_n 0, 1) := by decide +kernel
theorem dX5_next_67 : decode cX5_next 67 = .ok (.getfield 157, 3) := by decide +kernel
theorem dX5_next_70 : decode cX5_next 70 = .ok (.invokevirtual 163, 3) := by decide +kernel
theorem dX5_next_73 : decode cX5_next 73 = .ok (.bipush 97, 2) := by decide +kernel
theorem dX5_next_75 : decode cX5_next 75 = .ok (.bipush 122, 2) := by decide +kernel
theorem dX5_next_77 : decode cX5_next 77 = .ok (.invokestatic 36, 3) := by decide +kernel
theorem dX5_next_80 : decode cX5_next 80 = .ok (.ifCond .eq 115, 3) := by decide +kernel
theorem dX5_next_83 : decode cX5_next 83 = .ok (.aload_n 0, 1) := by decide +kernel
theorem dX5_next_84 : decode cX5_next 84 = .ok (.dup, 1) := by decide +kernel
theorem dX5_next_85 : decode cX5_next 85 = .ok (.getfield 157, 3) := by decide +kernel
theorem dX5_next_88 : decode cX5_next 88 = .ok (.iconst 1, 1) := by decide +kernel
theorem dX5_next_89 : decode cX5_next 89 = .ok (.iadd, 1) := by decide +kernel
theorem dX5_next_90 : decode cX5_next 90 = .ok (.putfield 157, 3) := by decide +kernel
theorem dX5_next_93 : decode cX5_next 93 = .ok (.goto (-28), 3) := by decide +kernel
theorem dX5_next_96 : decode cX5_next 96 = .ok (.aload_n 0, 1) := by decide +kernel
theorem dX5_next_97 : decode cX5_next 97 = .ok (.aload_n 0, 1) := by decide +kernel
theorem dX5_next_98 : decode cX5_next 98 = .ok (.getfield 160, 3) := by decide +kernel
theorem dX5_next_101 : decode cX5_next 101 = .ok (.invokevirtual 163, 3) := by decide +kernel
theorem dX5_next_104 : decode cX5_next 104 = .ok (.bipush 48, 2) := by decide +kernel
theorem dX5_next_106 : decode cX5_next 106 = .ok (.bipush 57, 2) := by decide +kernel
theorem dX5_next_108 : decode cX5_next 108 = .ok (.invokestatic 36, 3) := by decide +kernel
theorem dX5_next_111 : decode cX5_next 111 = .ok (.ifCond .eq 39, 3) := by decide +kernel
theorem dX5_next_114 : decode cX5_next 114 = .ok (.aload_n 0, 1) := by decide +kernel
theorem dX5_next_115 : decode cX5_next 115 = .ok (.iconst 2, 1) := by decide +kernel
theorem dX5_next_116 : decode cX5_next 116 = .ok (.putfield 166, 3) := by decide +kernel
theorem dX5_next_119 : decode cX5_next 119 = .ok (.aload_n 0, 1) := by decide +kernel
theorem dX5_next_120 : decode cX5_next 120 = .ok (.aload_n 0, 1) := by decide +kernel
theorem dX5_next_121 : decode cX5_next 121 = .ok (.getfield 157, 3) := by decide +kernel
theorem dX5_next_124 : decode cX5_next 124 = .ok (.invokevirtual 163, 3) := by decide +kernel
theorem dX5_next_127 : decode cX5_next 127 = .ok (.bipush 48, 2) := by decide +kernel
theorem dX5_next_129 : decode cX5_next 129 = .ok (.bipush 57, 2) := by decide +kernel
theorem dX5_next_131 : decode cX5_next 131 = .ok (.invokestatic 36, 3) := by decide +kernel
theorem dX5_next_134 : decode cX5_next 134 = .ok (.ifCond .eq 61, 3) := by decide +kernel
theorem dX5_next_137 : decode cX5_next 137 = .ok (.aload_n 0, 1) := by decide +kernel
theorem dX5_next_138 : decode cX5_next 138 = .ok (.dup, 1) := by decide +kernel
theorem dX5_next_139 : decode cX5_next 139 = .ok (.getfield 157, 3) := by decide +kernel
theorem dX5_next_142 : decode cX5_next 142 = .ok (.iconst 1, 1) := by decide +kernel
theorem dX5_next_143 : decode cX5_next 143 = .ok (.iadd, 1) := by decide +kernel
theorem dX5_next_144 : decode cX5_next 144 = .ok (.putfield 157, 3) := by decide +kernel
theorem dX5_next_147 : decode cX5_next 147 = .ok (.goto (-28), 3) := by decide +kernel
theorem dX5_next_150 : decode cX5_next 150 = .ok (.aload_n 0, 1) := by decide +kernel
theorem dX5_next_151 : decode cX5_next 151 = .ok (.aload_n 0, 1) := by decide +kernel
theorem dX5_next_152 : decode cX5_next 152 = .ok (.getfield 160, 3) := by decide +kernel
theorem dX5_next_155 : decode cX5_next 155 = .ok (.aload_n 0, 1) := by decide +kernel
theorem dX5_next_156 : decode cX5_next 156 = .ok (.getfield 154, 3) := by decide +kernel
theorem dX5_next_159 : decode cX5_next 159 = .ok (.if_icmp .ge 7, 3) := by decide +kernel
theorem dX5_next_162 : decode cX5_next 162 = .ok (.iconst 3, 1) := by decide +kernel
theorem dX5_next_163 : decode cX5_next 163 = .ok (.goto 4, 3) := by decide +kernel
theorem dX5_next_166 : decode cX5_next 166 = .ok (.iconst 0, 1) := by decide +kernel
theorem dX5_next_167 : decode cX5_next 167 = .ok (.putfield 166, 3) := by decide +kernel
theorem dX5_next_170 : decode cX5_next 170 = .ok (.aload_n 0, 1) := by decide +kernel
theorem dX5_next_171 : decode cX5_next 171 = .ok (.dup, 1) := by decide +kernel
theorem dX5_next_172 : decode cX5_next 172 = .ok (.getfield 157, 3) := by decide +kernel
theorem dX5_next_175 : decode cX5_next 175 = .ok (.aload_n 0, 1) := by decide +kernel
theorem dX5_next_176 : decode cX5_next 176 = .ok (.getfield 160, 3) := by decide +kernel
theorem dX5_next_179 : decode cX5_next 179 = .ok (.aload_n 0, 1) := by decide +kernel
theorem dX5_next_180 : decode cX5_next 180 = .ok (.getfield 154, 3) := by decide +kernel
theorem dX5_next_183 : decode cX5_next 183 = .ok (.if_icmp .ge 7, 3) := by decide +kernel
theorem dX5_next_186 : decode cX5_next 186 = .ok (.iconst 1, 1) := by decide +kernel
theorem dX5_next_187 : decode cX5_next 187 = .ok (.goto 4, 3) := by decide +kernel
theorem dX5_next_190 : decode cX5_next 190 = .ok (.iconst 0, 1) := by decide +kernel
theorem dX5_next_191 : decode cX5_next 191 = .ok (.iadd, 1) := by decide +kernel
theorem dX5_next_192 : decode cX5_next 192 = .ok (.putfield 157, 3) := by decide +kernel
theorem dX5_next_195 : decode cX5_next 195 = .ok (.return_, 1) := by decide +kernel
theorem dX5_fail_0 : decode cX5_fail 0 = .ok (.aload_n 0, 1) := by decide +kernel
theorem dX5_fail_1 : decode cX5_fail 1 = .ok (.aload_n 0, 1) := by decide +kernel
theorem dX5_fail_2 : decode cX5_fail 2 = .ok (.getfield 169, 3) := by decide +kernel
theorem dX5_fail_5 : decode cX5_fail 5 = .ok (.ifCond .ge 7, 3) := by decide +kernel
theorem dX5_fail_8 : decode cX5_fail 8 = .ok (.iload_n 1, 1) := by decide +kernel
theorem dX5_fail_9 : decode cX5_fail 9 = .ok (.goto 7, 3) := by decide +kernel
theorem dX5_fail_12 : decode cX5_fail 12 = .ok (.aload_n 0, 1) := by decide +kernel
theorem dX5_fail_13 : decode cX5_fail 13 = .ok (.getfield 169, 3) := by decide +kernel
theorem dX5_fail_16 : decode cX5_fail 16 = .ok (.putfield 169, 3) := by decide +kernel
theorem dX5_fail_19 : decode cX5_fail 19 = .ok (.return_, 1) := by decide +kernel
theorem dX5_spelled_0 : decode cX5_spelled 0 = .ok (.iload_n 0, 1) := by decide +kernel
theorem dX5_spelled_1 : decode cX5_spelled 1 = .ok (.ifCond .ne 7, 3) := by decide +kernel
theorem dX5_spelled_4 : decode cX5_spelled 4 = .ok (.iload_n 1, 1) := by decide +kernel
theorem dX5_spelled_5 : decode cX5_spelled 5 = .ok (.goto 52, 3) := by decide +kernel
theorem dX5_spelled_8 : decode cX5_spelled 8 = .ok (.iload_n 0, 1) := by decide +kernel
theorem dX5_spelled_9 : decode cX5_spelled 9 = .ok (.iconst 1, 1) := by decide +kernel
theorem dX5_spelled_10 : decode cX5_spelled 10 = .ok (.if_icmp .ne 7, 3) := by decide +kernel
theorem dX5_spelled_13 : decode cX5_spelled 13 = .ok (.iload_n 2, 1) := by decide +kernel
theorem dX5_spelled_14 : decode cX5_spelled 14 = .ok (.goto 43, 3) := by decide +kernel
theorem dX5_spelled_17 : decode cX5_spelled 17 = .ok (.iload_n 0, 1) := by decide +kernel
theorem dX5_spelled_18 : decode cX5_spelled 18 = .ok (.iconst 2, 1) := by decide +kernel
theorem dX5_spelled_19 : decode cX5_spelled 19 = .ok (.if_icmp .ne 7, 3) := by decide +kernel
theorem dX5_spelled_22 : decode cX5_spelled 22 = .ok (.iload_n 3, 1) := by decide +kernel
theorem dX5_spelled_23 : decode cX5_spelled 23 = .ok (.goto 34, 3) := by decide +kernel
theorem dX5_spelled_26 : decode cX5_spelled 26 = .ok (.iload_n 0, 1) := by decide +kernel
theorem dX5_spelled_27 : decode cX5_spelled 27 = .ok (.iconst 3, 1) := by decide +kernel
theorem dX5_spelled_28 : decode cX5_spelled 28 = .ok (.if_icmp .ne 8, 3) := by decide +kernel
theorem dX5_spelled_31 : decode cX5_spelled 31 = .ok (.iload 4, 2) := by decide +kernel
theorem dX5_spelled_33 : decode cX5_spelled 33 = .ok (.goto 24, 3) := by decide +kernel
theorem dX5_spelled_36 : decode cX5_spelled 36 = .ok (.iload_n 0, 1) := by decide +kernel
theorem dX5_spelled_37 : decode cX5_spelled 37 = .ok (.iconst 4, 1) := by decide +kernel
theorem dX5_spelled_38 : decode cX5_spelled 38 = .ok (.if_icmp .ne 8, 3) := by decide +kernel
theorem dX5_spelled_41 : decode cX5_spelled 41 = .ok (.iload 5, 2) := by decide +kernel
theorem dX5_spelled_43 : decode cX5_spelled 43 = .ok (.goto 14, 3) := by decide +kernel
theorem dX5_spelled_46 : decode cX5_spelled 46 = .ok (.iload_n 0, 1) := by decide +kernel
theorem dX5_spelled_47 : decode cX5_spelled 47 = .ok (.iconst 5, 1) := by decide +kernel
theorem dX5_spelled_48 : decode cX5_spelled 48 = .ok (.if_icmp .ne 8, 3) := by decide +kernel
theorem dX5_spelled_51 : decode cX5_spelled 51 = .ok (.iload 6, 2) := by decide +kernel
theorem dX5_spelled_53 : decode cX5_spelled 53 = .ok (.goto 4, 3) := by decide +kernel
theorem dX5_spelled_56 : decode cX5_spelled 56 = .ok (.iconst 0, 1) := by decide +kernel
theorem dX5_spelled_57 : decode cX5_spelled 57 = .ok (.ireturn, 1) := by decide +kernel
set_option maxRecDepth 20000 in
theorem ggX5_letterOf_X5_spelled : GoodIn wsX5_letterOf wsX5_spelled := goodIn_r _ [4] (by decide +kernel) (by decide +kernel)
set_option maxRecDepth 20000 in
theorem gX5_letterOf_X5_spelled : GoodIn wsX5_letterOf (va_wsS RX5 172 yX5_spelled wsX5_spelled) := goodIn_app (goodIn_of _ (by decide +kernel)) ggX5_letterOf_X5_spelled
theorem dX5_letterOf_0 : decode cX5_letterOf 0 = .ok (.iload_n 0, 1) := by decide +kernel
theorem dX5_letterOf_1 : decode cX5_letterOf 1 = .ok (.tableswitch 132 0 5 #[39, 55, 70, 85, 100, 117], 39) := by decide +kernel
theorem dX5_letterOf_40 : decode cX5_letterOf 40 = .ok (.iload_n 1, 1) := by decide +kernel
theorem dX5_letterOf_41 : decode cX5_letterOf 41 = .ok (.bipush 108, 2) := by decide +kernel
theorem dX5_letterOf_43 : decode cX5_letterOf 43 = .ok (.bipush 105, 2) := by decide +kernel
theorem dX5_letterOf_45 : decode cX5_letterOf 45 = .ok (.bipush 103, 2) := by decide +kernel
theorem dX5_letterOf_47 : decode cX5_letterOf 47 = .ok (.bipush 104, 2) := by decide +kernel
theorem dX5_letterOf_49 : decode cX5_letterOf 49 = .ok (.bipush 116, 2) := by decide +kernel
theorem dX5_letterOf_51 : decode cX5_letterOf 51 = .ok (.iconst 0, 1) := by decide +kernel
theorem dX5_letterOf_52 : decode cX5_letterOf 52 = .ok (.invokestatic 172, 3) := by decide +kernel
theorem dX5_letterOf_55 : decode cX5_letterOf 55 = .ok (.ireturn, 1) := by decide +kernel
theorem dX5_letterOf_56 : decode cX5_letterOf 56 = .ok (.iload_n 1, 1) := by decide +kernel
theorem dX5_letterOf_57 : decode cX5_letterOf 57 = .ok (.bipush 100, 2) := by decide +kernel
theorem dX5_letterOf_59 : decode cX5_letterOf 59 = .ok (.bipush 97, 2) := by decide +kernel
theorem dX5_letterOf_61 : decode cX5_letterOf 61 = .ok (.bipush 114, 2) := by decide +kernel
theorem dX5_letterOf_63 : decode cX5_letterOf 63 = .ok (.bipush 107, 2) := by decide +kernel
theorem dX5_letterOf_65 : decode cX5_letterOf 65 = .ok (.iconst 0, 1) := by decide +kernel
theorem dX5_letterOf_66 : decode cX5_letterOf 66 = .ok (.iconst 0, 1) := by decide +kernel
theorem dX5_letterOf_67 : decode cX5_letterOf 67 = .ok (.invokestatic 172, 3) := by decide +kernel
theorem dX5_letterOf_70 : decode cX5_letterOf 70 = .ok (.ireturn, 1) := by decide +kernel
theorem dX5_letterOf_71 : decode cX5_letterOf 71 = .ok (.iload_n 1, 1) := by decide +kernel
theorem dX5_letterOf_72 : decode cX5_letterOf 72 = .ok (.bipush 107, 2) := by decide +kernel
theorem dX5_letterOf_74 : decode cX5_letterOf 74 = .ok (.bipush 105, 2) := by decide +kernel
theorem dX5_letterOf_76 : decode cX5_letterOf 76 = .ok (.bipush 110, 2) := by decide +kernel
theorem dX5_letterOf_78 : decode cX5_letterOf 78 = .ok (.bipush 100, 2) := by decide +kernel
theorem dX5_letterOf_80 : decode cX5_letterOf 80 = .ok (.iconst 0, 1) := by decide +kernel
theorem dX5_letterOf_81 : decode cX5_letterOf 81 = .ok (.iconst 0, 1) := by decide +kernel
theorem dX5_letterOf_82 : decode cX5_letterOf 82 = .ok (.invokestatic 172, 3) := by decide +kernel
theorem dX5_letterOf_85 : decode cX5_letterOf 85 = .ok (.ireturn, 1) := by decide +kernel
theorem dX5_letterOf_86 : decode cX5_letterOf 86 = .ok (.iload_n 1, 1) := by decide +kernel
theorem dX5_letterOf_87 : decode cX5_letterOf 87 = .ok (.bipush 100, 2) := by decide +kernel
theorem dX5_letterOf_89 : decode cX5_letterOf 89 = .ok (.bipush 117, 2) := by decide +kernel
theorem dX5_letterOf_91 : decode cX5_letterOf 91 = .ok (.bipush 108, 2) := by decide +kernel
theorem dX5_letterOf_93 : decode cX5_letterOf 93 = .ok (.bipush 108, 2) := by decide +kernel
theorem dX5_letterOf_95 : decode cX5_letterOf 95 = .ok (.iconst 0, 1) := by decide +kernel
theorem dX5_letterOf_96 : decode cX5_letterOf 96 = .ok (.iconst 0, 1) := by decide +kernel
theorem dX5_letterOf_97 : decode cX5_letterOf 97 = .ok (.invokestatic 172, 3) := by decide +kernel
theorem dX5_letterOf_100 : decode cX5_letterOf 100 = .ok (.ireturn, 1) := by decide +kernel
theorem dX5_letterOf_101 : decode cX5_letterOf 101 = .ok (.iload_n 1, 1) := by decide +kernel
theorem dX5_letterOf_102 : decode cX5_letterOf 102 = .ok (.bipush 115, 2) := by decide +kernel
theorem dX5_letterOf_104 : decode cX5_letterOf 104 = .ok (.bipush 101, 2) := by decide +kernel
theorem dX5_letterOf_106 : decode cX5_letterOf 106 = .ok (.bipush 99, 2) := by decide +kernel
theorem dX5_letterOf_108 : decode cX5_letterOf 108 = .ok (.bipush 114, 2) := by decide +kernel
theorem dX5_letterOf_110 : decode cX5_letterOf 110 = .ok (.bipush 101, 2) := by decide +kernel
theorem dX5_letterOf_112 : decode cX5_letterOf 112 = .ok (.bipush 116, 2) := by decide +kernel
theorem dX5_letterOf_114 : decode cX5_letterOf 114 = .ok (.invokestatic 172, 3) := by decide +kernel
theorem dX5_letterOf_117 : decode cX5_letterOf 117 = .ok (.ireturn, 1) := by decide +kernel
theorem dX5_letterOf_118 : decode cX5_letterOf 118 = .ok (.iload_n 1, 1) := by decide +kernel
theorem dX5_letterOf_119 : decode cX5_letterOf 119 = .ok (.bipush 115, 2) := by decide +kernel
theorem dX5_letterOf_121 : decode cX5_letterOf 121 = .ok (.bipush 111, 2) := by decide +kernel
theorem dX5_letterOf_123 : decode cX5_letterOf 123 = .ok (.bipush 114, 2) := by decide +kernel
theorem dX5_letterOf_125 : decode cX5_letterOf 125 = .ok (.bipush 116, 2) := by decide +kernel
theorem dX5_letterOf_127 : decode cX5_letterOf 127 = .ok (.iconst 0, 1) := by decide +kernel
theorem dX5_letterOf_128 : decode cX5_letterOf 128 = .ok (.iconst 0, 1) := by decide +kernel
theorem dX5_letterOf_129 : decode cX5_letterOf 129 = .ok (.invokestatic 172, 3) := by decide +kernel
theorem dX5_letterOf_132 : decode cX5_letterOf 132 = .ok (.ireturn, 1) := by decide +kernel
theorem dX5_letterOf_133 : decode cX5_letterOf 133 = .ok (.iload_n 1, 1) := by decide +kernel
theorem dX5_letterOf_134 : decode cX5_letterOf 134 = .ok (.bipush 115, 2) := by decide +kernel
theorem dX5_letterOf_136 : decode cX5_letterOf 136 = .ok (.bipush 119, 2) := by decide +kernel
theorem dX5_letterOf_138 : decode cX5_letterOf 138 = .ok (.bipush 97, 2) := by decide +kernel
theorem dX5_letterOf_140 : decode cX5_letterOf 140 = .ok (.bipush 112, 2) := by decide +kernel
theorem dX5_letterOf_142 : decode cX5_letterOf 142 = .ok (.iconst 0, 1) := by decide +kernel
theorem dX5_letterOf_143 : decode cX5_letterOf 143 = .ok (.iconst 0, 1) := by decide +kernel
theorem dX5_letterOf_144 : decode cX5_letterOf 144 = .ok (.invokestatic 172, 3) := by decide +kernel
theorem dX5_letterOf_147 : decode cX5_letterOf 147 = .ok (.ireturn, 1) := by decide +kernel
set_option maxRecDepth 20000 in
theorem ggX5_isWord_X5_letterOf : GoodIn wsX5_isWord wsX5_letterOf := goodIn_r _ [6, 7, 8, 5, 9] (by decide +kernel) (by decide +kernel)
set_option maxRecDepth 20000 in
theorem gX5_isWord_X5_letterOf : GoodIn wsX5_isWord (va_wsS RX5 176 yX5_letterOf wsX5_letterOf) := goodIn_app (goodIn_of _ (by decide +kernel)) ggX5_isWord_X5_letterOf
set_option maxRecDepth 20000 in
theorem ggX5_isWord_X5_sign : GoodIn wsX5_isWord wsX5_sign := goodIn_r _ [13, 14, 15, 16, 17, 18, 19, 20, 21, 22, 23, 24, 25, 26, 27, 28, 29] (by decide +kernel) (by decide +kernel)
set_option maxRecDepth 20000 in
theorem gX5_isWord_X5_sign : GoodIn wsX5_isWord (wsV RX5 163 RX5 yX5_sign wsX5_sign) := goodIn_app (goodIn_of _ (by decide +kernel)) ggX5_isWord_X5_sign
theorem dX5_isWord_0 : decode cX5_isWord 0 = .ok (.iconst 1, 1) := by decide +kernel
theorem dX5_isWord_1 : decode cX5_isWord 1 = .ok (.istore_n 2, 1) := by decide +kernel
theorem dX5_isWord_2 : decode cX5_isWord 2 = .ok (.iconst 0, 1) := by decide +kernel
theorem dX5_isWord_3 : decode cX5_isWord 3 = .ok (.istore_n 3, 1) := by decide +kernel
theorem dX5_isWord_4 : decode cX5_isWord 4 = .ok (.iload_n 3, 1) := by decide +kernel
theorem dX5_isWord_5 : decode cX5_isWord 5 = .ok (.aload_n 0, 1) := by decide +kernel
theorem dX5_isWord_6 : decode cX5_isWord 6 = .ok (.getfield 157, 3) := by decide +kernel
theorem dX5_isWord_9 : decode cX5_isWord 9 = .ok (.aload_n 0, 1) := by decide +kernel
theorem dX5_isWord_10 : decode cX5_isWord 10 = .ok (.getfield 160, 3) := by decide +kernel
theorem dX5_isWord_13 : decode cX5_isWord 13 = .ok (.isub, 1) := by decide +kernel
theorem dX5_isWord_14 : decode cX5_isWord 14 = .ok (.if_icmp .gt 54, 3) := by decide +kernel
theorem dX5_isWord_17 : decode cX5_isWord 17 = .ok (.iload_n 2, 1) := by decide +kernel
theorem dX5_isWord_18 : decode cX5_isWord 18 = .ok (.ifCond .eq 50, 3) := by decide +kernel
theorem dX5_isWord_21 : decode cX5_isWord 21 = .ok (.iload_n 1, 1) := by decide +kernel
theorem dX5_isWord_22 : decode cX5_isWord 22 = .ok (.iload_n 3, 1) := by decide +kernel
theorem dX5_isWord_23 : decode cX5_isWord 23 = .ok (.invokestatic 176, 3) := by decide +kernel
theorem dX5_isWord_26 : decode cX5_isWord 26 = .ok (.iload_n 3, 1) := by decide +kernel
theorem dX5_isWord_27 : decode cX5_isWord 27 = .ok (.aload_n 0, 1) := by decide +kernel
theorem dX5_isWord_28 : decode cX5_isWord 28 = .ok (.getfield 157, 3) := by decide +kernel
theorem dX5_isWord_31 : decode cX5_isWord 31 = .ok (.aload_n 0, 1) := by decide +kernel
theorem dX5_isWord_32 : decode cX5_isWord 32 = .ok (.getfield 160, 3) := by decide +kernel
theorem dX5_isWord_35 : decode cX5_isWord 35 = .ok (.isub, 1) := by decide +kernel
theorem dX5_isWord_36 : decode cX5_isWord 36 = .ok (.if_icmp .ge 16, 3) := by decide +kernel
theorem dX5_isWord_39 : decode cX5_isWord 39 = .ok (.aload_n 0, 1) := by decide +kernel
theorem dX5_isWord_40 : decode cX5_isWord 40 = .ok (.aload_n 0, 1) := by decide +kernel
theorem dX5_isWord_41 : decode cX5_isWord 41 = .ok (.getfield 160, 3) := by decide +kernel
theorem dX5_isWord_44 : decode cX5_isWord 44 = .ok (.iload_n 3, 1) := by decide +kernel
theorem dX5_isWord_45 : decode cX5_isWord 45 = .ok (.iadd, 1) := by decide +kernel
theorem dX5_isWord_46 : decode cX5_isWord 46 = .ok (.invokevirtual 163, 3) := by decide +kernel
theorem dX5_isWord_49 : decode cX5_isWord 49 = .ok (.goto 4, 3) := by decide +kernel
theorem dX5_isWord_52 : decode cX5_isWord 52 = .ok (.iconst 0, 1) := by decide +kernel
theorem dX5_isWord_53 : decode cX5_isWord 53 = .ok (.if_icmp .ne 7, 3) := by decide +kernel
theorem dX5_isWord_56 : decode cX5_isWord 56 = .ok (.iconst 1, 1) := by decide +kernel
theorem dX5_isWord_57 : decode cX5_isWord 57 = .ok (.goto 4, 3) := by decide +kernel
theorem dX5_isWord_60 : decode cX5_isWord 60 = .ok (.iconst 0, 1) := by decide +kernel
theorem dX5_isWord_61 : decode cX5_isWord 61 = .ok (.istore_n 2, 1) := by decide +kernel
theorem dX5_isWord_62 : decode cX5_isWord 62 = .ok (.iinc 3 1, 3) := by decide +kernel
theorem dX5_isWord_65 : decode cX5_isWord 65 = .ok (.goto (-61), 3) := by decide +kernel
theorem dX5_isWord_68 : decode cX5_isWord 68 = .ok (.iload_n 2, 1) := by decide +kernel
theorem dX5_isWord_69 : decode cX5_isWord 69 = .ok (.ireturn, 1) := by decide +kernel
set_option maxRecDepth 20000 in
theorem ggX5_wordHere_X5_isWord : GoodIn wsX5_wordHere wsX5_isWord := goodIn_r _ [6, 7, 8, 9, 10, 5, 11, 12, 13, 14, 15, 16, 17, 18, 19, 20, 21, 22, 23, 24, 25, 26, 27, 28, 29, 30, 31, 32, 33, 34] (by decide +kernel) (by decide +kernel)
set_option maxRecDepth 20000 in
theorem gX5_wordHere_X5_isWord : GoodIn wsX5_wordHere (wsV RX5 179 RX5 yX5_isWord wsX5_isWord) := goodIn_app (goodIn_of _ (by decide +kernel)) ggX5_wordHere_X5_isWord
theorem dX5_wordHere_0 : decode cX5_wordHere 0 = .ok (.iconst 0, 1) := by decide +kernel
theorem dX5_wordHere_1 : decode cX5_wordHere 1 = .ok (.istore_n 1, 1) := by decide +kernel
theorem dX5_wordHere_2 : decode cX5_wordHere 2 = .ok (.iload_n 1, 1) := by decide +kernel
theorem dX5_wordHere_3 : decode cX5_wordHere 3 = .ok (.bipush 7, 2) := by decide +kernel
theorem dX5_wordHere_5 : decode cX5_wordHere 5 = .ok (.if_icmp .ge 17, 3) := by decide +kernel
theorem dX5_wordHere_8 : decode cX5_wordHere 8 = .ok (.aload_n 0, 1) := by decide +kernel
theorem dX5_wordHere_9 : decode cX5_wordHere 9 = .ok (.iload_n 1, 1) := by decide +kernel
theorem dX5_wordHere_10 : decode cX5_wordHere 10 = .ok (.invokevirtual 179, 3) := by decide +kernel
theorem dX5_wordHere_13 : decode cX5_wordHere 13 = .ok (.ifCond .ne 9, 3) := by decide +kernel
theorem dX5_wordHere_16 : decode cX5_wordHere 16 = .ok (.iinc 1 1, 3) := by decide +kernel
theorem dX5_wordHere_19 : decode cX5_wordHere 19 = .ok (.goto (-17), 3) := by decide +kernel
theorem dX5_wordHere_22 : decode cX5_wordHere 22 = .ok (.aload_n 0, 1) := by decide +kernel
theorem dX5_wordHere_23 : decode cX5_wordHere 23 = .ok (.getfield 166, 3) := by decide +kernel
theorem dX5_wordHere_26 : decode cX5_wordHere 26 = .ok (.iconst 1, 1) := by decide +kernel
theorem dX5_wordHere_27 : decode cX5_wordHere 27 = .ok (.if_icmp .ne 7, 3) := by decide +kernel
theorem dX5_wordHere_30 : decode cX5_wordHere 30 = .ok (.iload_n 1, 1) := by decide +kernel
theorem dX5_wordHere_31 : decode cX5_wordHere 31 = .ok (.goto 5, 3) := by decide +kernel
theorem dX5_wordHere_34 : decode cX5_wordHere 34 = .ok (.bipush 7, 2) := by decide +kernel
theorem dX5_wordHere_36 : decode cX5_wordHere 36 = .ok (.ireturn, 1) := by decide +kernel
set_option maxRecDepth 20000 in
theorem ggX5_readNumber_X5_sign : GoodIn wsX5_readNumber wsX5_sign := goodIn_r _ [9, 10, 11, 24, 25, 26, 27, 28, 29, 30, 31, 32, 33, 34, 35, 36, 37] (by decide +kernel) (by decide +kernel)
set_option maxRecDepth 20000 in
theorem gX5_readNumber_X5_sign : GoodIn wsX5_readNumber (wsV RX5 163 RX5 yX5_sign wsX5_sign) := goodIn_app (goodIn_of _ (by decide +kernel)) ggX5_readNumber_X5_sign
set_option maxRecDepth 20000 in
theorem ggX5_readNumber_X5_fail : GoodIn wsX5_readNumber wsX5_fail := goodIn_r _ [15, 16, 24, 25, 26, 27, 28, 29, 30, 31, 32, 33, 34, 35, 36, 37] (by decide +kernel) (by decide +kernel)
set_option maxRecDepth 20000 in
theorem gX5_readNumber_X5_fail : GoodIn wsX5_readNumber (wsV RX5 182 RX5 yX5_fail wsX5_fail) := goodIn_app (goodIn_of _ (by decide +kernel)) ggX5_readNumber_X5_fail
set_option maxRecDepth 20000 in
theorem ggX5_readNumber_X5_next : GoodIn wsX5_readNumber wsX5_next := goodIn_r _ [20, 2, 3, 1, 10, 5, 6, 7, 8, 9, 11, 21, 22, 23, 24, 25, 26, 27, 28, 29, 30, 31, 32, 33, 34, 35, 36, 37] (by decide +kernel) (by decide +kernel)
set_option maxRecDepth 20000 in
theorem gX5_readNumber_X5_next : GoodIn wsX5_readNumber (wsV RX5 186 RX5 yX5_next wsX5_next) := goodIn_app (goodIn_of _ (by decide +kernel)) ggX5_readNumber_X5_next
theorem dX5_readNumber_0 : decode cX5_readNumber 0 = .ok (.aload_n 0, 1) := by decide +kernel
theorem dX5_readNumber_1 : decode cX5_readNumber 1 = .ok (.getfield 166, 3) := by decide +kernel
theorem dX5_readNumber_4 : decode cX5_readNumber 4 = .ok (.iconst 2, 1) := by decide +kernel
theorem dX5_readNumber_5 : decode cX5_readNumber 5 = .ok (.if_icmp .ne 42, 3) := by decide +kernel
theorem dX5_readNumber_8 : decode cX5_readNumber 8 = .ok (.aload_n 0, 1) := by decide +kernel
theorem dX5_readNumber_9 : decode cX5_readNumber 9 = .ok (.getfield 157, 3) := by decide +kernel
theorem dX5_readNumber_12 : decode cX5_readNumber 12 = .ok (.aload_n 0, 1) := by decide +kernel
theorem dX5_readNumber_13 : decode cX5_readNumber 13 = .ok (.getfield 160, 3) := by decide +kernel
theorem dX5_readNumber_16 : decode cX5_readNumber 16 = .ok (.isub, 1) := by decide +kernel
theorem dX5_readNumber_17 : decode cX5_readNumber 17 = .ok (.iconst 4, 1) := by decide +kernel
theorem dX5_readNumber_18 : decode cX5_readNumber 18 = .ok (.if_icmp .gt 29, 3) := by decide +kernel
theorem dX5_readNumber_21 : decode cX5_readNumber 21 = .ok (.aload_n 0, 1) := by decide +kernel
theorem dX5_readNumber_22 : decode cX5_readNumber 22 = .ok (.getfield 157, 3) := by decide +kernel
theorem dX5_readNumber_25 : decode cX5_readNumber 25 = .ok (.aload_n 0, 1) := by decide +kernel
theorem dX5_readNumber_26 : decode cX5_readNumber 26 = .ok (.getfield 160, 3) := by decide +kernel
theorem dX5_readNumber_29 : decode cX5_readNumber 29 = .ok (.isub, 1) := by decide +kernel
theorem dX5_readNumber_30 : decode cX5_readNumber 30 = .ok (.iconst 1, 1) := by decide +kernel
theorem dX5_readNumber_31 : decode cX5_readNumber 31 = .ok (.if_icmp .le 25, 3) := by decide +kernel
theorem dX5_readNumber_34 : decode cX5_readNumber 34 = .ok (.aload_n 0, 1) := by decide +kernel
theorem dX5_readNumber_35 : decode cX5_readNumber 35 = .ok (.aload_n 0, 1) := by decide +kernel
theorem dX5_readNumber_36 : decode cX5_readNumber 36 = .ok (.getfield 160, 3) := by decide +kernel
theorem dX5_readNumber_39 : decode cX5_readNumber 39 = .ok (.invokevirtual 163, 3) := by decide +kernel
theorem dX5_readNumber_42 : decode cX5_readNumber 42 = .ok (.bipush 48, 2) := by decide +kernel
theorem dX5_readNumber_44 : decode cX5_readNumber 44 = .ok (.if_icmp .ne 12, 3) := by decide +kernel
theorem dX5_readNumber_47 : decode cX5_readNumber 47 = .ok (.aload_n 0, 1) := by decide +kernel
theorem dX5_readNumber_48 : decode cX5_readNumber 48 = .ok (.aload_n 0, 1) := by decide +kernel
theorem dX5_readNumber_49 : decode cX5_readNumber 49 = .ok (.getfield 160, 3) := by decide +kernel
theorem dX5_readNumber_52 : decode cX5_readNumber 52 = .ok (.invokevirtual 182, 3) := by decide +kernel
theorem dX5_readNumber_55 : decode cX5_readNumber 55 = .ok (.return_, 1) := by decide +kernel
theorem dX5_readNumber_56 : decode cX5_readNumber 56 = .ok (.iconst 0, 1) := by decide +kernel
theorem dX5_readNumber_57 : decode cX5_readNumber 57 = .ok (.istore_n 2, 1) := by decide +kernel
theorem dX5_readNumber_58 : decode cX5_readNumber 58 = .ok (.aload_n 0, 1) := by decide +kernel
theorem dX5_readNumber_59 : decode cX5_readNumber 59 = .ok (.getfield 160, 3) := by decide +kernel
theorem dX5_readNumber_62 : decode cX5_readNumber 62 = .ok (.istore_n 3, 1) := by decide +kernel
theorem dX5_readNumber_63 : decode cX5_readNumber 63 = .ok (.iload_n 3, 1) := by decide +kernel
theorem dX5_readNumber_64 : decode cX5_readNumber 64 = .ok (.aload_n 0, 1) := by decide +kernel
theorem dX5_readNumber_65 : decode cX5_readNumber 65 = .ok (.getfield 157, 3) := by decide +kernel
theorem dX5_readNumber_68 : decode cX5_readNumber 68 = .ok (.if_icmp .ge 23, 3) := by decide +kernel
theorem dX5_readNumber_71 : decode cX5_readNumber 71 = .ok (.bipush 10, 2) := by decide +kernel
theorem dX5_readNumber_73 : decode cX5_readNumber 73 = .ok (.iload_n 2, 1) := by decide +kernel
theorem dX5_readNumber_74 : decode cX5_readNumber 74 = .ok (.imul, 1) := by decide +kernel
theorem dX5_readNumber_75 : decode cX5_readNumber 75 = .ok (.aload_n 0, 1) := by decide +kernel
theorem dX5_readNumber_76 : decode cX5_readNumber 76 = .ok (.iload_n 3, 1) := by decide +kernel
theorem dX5_readNumber_77 : decode cX5_readNumber 77 = .ok (.invokevirtual 163, 3) := by decide +kernel
theorem dX5_readNumber_80 : decode cX5_readNumber 80 = .ok (.iadd, 1) := by decide +kernel
theorem dX5_readNumber_81 : decode cX5_readNumber 81 = .ok (.bipush 48, 2) := by decide +kernel
theorem dX5_readNumber_83 : decode cX5_readNumber 83 = .ok (.isub, 1) := by decide +kernel
theorem dX5_readNumber_84 : decode cX5_readNumber 84 = .ok (.istore_n 2, 1) := by decide +kernel
theorem dX5_readNumber_85 : decode cX5_readNumber 85 = .ok (.iinc 3 1, 3) := by decide +kernel
theorem dX5_readNumber_88 : decode cX5_readNumber 88 = .ok (.goto (-25), 3) := by decide +kernel
theorem dX5_readNumber_91 : decode cX5_readNumber 91 = .ok (.aload_n 0, 1) := by decide +kernel
theorem dX5_readNumber_92 : decode cX5_readNumber 92 = .ok (.getfield 22, 3) := by decide +kernel
theorem dX5_readNumber_95 : decode cX5_readNumber 95 = .ok (.iload_n 1, 1) := by decide +kernel
theorem dX5_readNumber_96 : decode cX5_readNumber 96 = .ok (.iload_n 2, 1) := by decide +kernel
theorem dX5_readNumber_97 : decode cX5_readNumber 97 = .ok (.iastore, 1) := by decide +kernel
theorem dX5_readNumber_98 : decode cX5_readNumber 98 = .ok (.aload_n 0, 1) := by decide +kernel
theorem dX5_readNumber_99 : decode cX5_readNumber 99 = .ok (.invokevirtual 186, 3) := by decide +kernel
theorem dX5_readNumber_102 : decode cX5_readNumber 102 = .ok (.return_, 1) := by decide +kernel
set_option maxRecDepth 20000 in
theorem ggX5_codeOf_X5_lightCode : GoodIn wsX5_codeOf wsX5_lightCode := goodIn_r _ [5, 6, 7, 8, 4, 9, 10, 11, 12, 13, 14, 15, 16, 17, 18, 19, 20, 37, 38, 39, 40, 41, 42, 43, 44, 45, 46, 47, 48, 49, 50] (by decide +kernel) (by decide +kernel)
set_option maxRecDepth 20000 in
theorem gX5_codeOf_X5_lightCode : GoodIn wsX5_codeOf (wsV RX5 104 RX5 yX5_lightCode wsX5_lightCode) := goodIn_app (goodIn_of _ (by decide +kernel)) ggX5_codeOf_X5_lightCode
set_option maxRecDepth 20000 in
theorem ggX5_codeOf_X5_darkCode : GoodIn wsX5_codeOf wsX5_darkCode := goodIn_r _ [24, 7, 8, 4, 9, 10, 11, 12, 13, 14, 15, 16, 6, 17, 18, 19, 20, 37, 38, 39, 40, 41, 42, 43, 44, 45, 46, 47, 48, 49, 50] (by decide +kernel) (by decide +kernel)
set_option maxRecDepth 20000 in
theorem gX5_codeOf_X5_darkCode : GoodIn wsX5_codeOf (wsV RX5 110 RX5 yX5_darkCode wsX5_darkCode) := goodIn_app (goodIn_of _ (by decide +kernel)) ggX5_codeOf_X5_darkCode
set_option maxRecDepth 20000 in
theorem ggX5_codeOf_X5_kindCode : GoodIn wsX5_codeOf wsX5_kindCode := goodIn_r _ [28, 7, 8, 4, 9, 10, 11, 12] (by decide +kernel) (by decide +kernel)
set_option maxRecDepth 20000 in
theorem gX5_codeOf_X5_kindCode : GoodIn wsX5_codeOf (wsV RX5 95 RX5 yX5_kindCode wsX5_kindCode) := goodIn_app (goodIn_of _ (by decide +kernel)) ggX5_codeOf_X5_kindCode
set_option maxRecDepth 20000 in
theorem ggX5_codeOf_X5_sortCode : GoodIn wsX5_codeOf wsX5_sortCode := goodIn_r _ [32, 10, 11, 4, 12] (by decide +kernel) (by decide +kernel)
set_option maxRecDepth 20000 in
theorem gX5_codeOf_X5_sortCode : GoodIn wsX5_codeOf (wsV RX5 136 RX5 yX5_sortCode wsX5_sortCode) := goodIn_app (goodIn_of _ (by decide +kernel)) ggX5_codeOf_X5_sortCode
set_option maxRecDepth 20000 in
theorem ggX5_codeOf_X5_swapCode : GoodIn wsX5_codeOf wsX5_swapCode := goodIn_r _ [36, 6, 10, 11, 4, 12, 37, 38, 39, 40, 41, 42, 43, 44, 45, 46, 47, 48, 49, 50] (by decide +kernel) (by decide +kernel)
set_option maxRecDepth 20000 in
theorem gX5_codeOf_X5_swapCode : GoodIn wsX5_codeOf (wsV RX5 124 RX5 yX5_swapCode wsX5_swapCode) := goodIn_app (goodIn_of _ (by decide +kernel)) ggX5_codeOf_X5_swapCode
set_option maxRecDepth 20000 in
theorem ggX5_codeOf_X5_isSpot : GoodIn wsX5_codeOf wsX5_isSpot := goodIn_r _ [9, 10, 11, 4, 12] (by decide +kernel) (by decide +kernel)
set_option maxRecDepth 20000 in
theorem gX5_codeOf_X5_isSpot : GoodIn wsX5_codeOf (va_wsS RX5 92 yX5_isSpot wsX5_isSpot) := goodIn_app (goodIn_of _ (by decide +kernel)) ggX5_codeOf_X5_isSpot
theorem dX5_codeOf_0 : decode cX5_codeOf 0 = .ok (.iload_n 1, 1) := by decide +kernel
theorem dX5_codeOf_1 : decode cX5_codeOf 1 = .ok (.tableswitch 75 0 6 #[43, 49, 55, 75, 75, 62, 68], 43) := by decide +kernel
theorem dX5_codeOf_44 : decode cX5_codeOf 44 = .ok (.aload_n 0, 1) := by decide +kernel
theorem dX5_codeOf_45 : decode cX5_codeOf 45 = .ok (.iload_n 2, 1) := by decide +kernel
theorem dX5_codeOf_46 : decode cX5_codeOf 46 = .ok (.invokevirtual 104, 3) := by decide +kernel
theorem dX5_codeOf_49 : decode cX5_codeOf 49 = .ok (.ireturn, 1) := by decide +kernel
theorem dX5_codeOf_50 : decode cX5_codeOf 50 = .ok (.aload_n 0, 1) := by decide +kernel
theorem dX5_codeOf_51 : decode cX5_codeOf 51 = .ok (.iload_n 2, 1) := by decide +kernel
theorem dX5_codeOf_52 : decode cX5_codeOf 52 = .ok (.invokevirtual 110, 3) := by decide +kernel
theorem dX5_codeOf_55 : decode cX5_codeOf 55 = .ok (.ireturn, 1) := by decide +kernel
theorem dX5_codeOf_56 : decode cX5_codeOf 56 = .ok (.aload_n 0, 1) := by decide +kernel
theorem dX5_codeOf_57 : decode cX5_codeOf 57 = .ok (.iload_n 2, 1) := by decide +kernel
theorem dX5_codeOf_58 : decode cX5_codeOf 58 = .ok (.iload_n 3, 1) := by decide +kernel
theorem dX5_codeOf_59 : decode cX5_codeOf 59 = .ok (.invokevirtual 95, 3) := by decide +kernel
theorem dX5_codeOf_62 : decode cX5_codeOf 62 = .ok (.ireturn, 1) := by decide +kernel
theorem dX5_codeOf_63 : decode cX5_codeOf 63 = .ok (.aload_n 0, 1) := by decide +kernel
theorem dX5_codeOf_64 : decode cX5_codeOf 64 = .ok (.iload_n 2, 1) := by decide +kernel
theorem dX5_codeOf_65 : decode cX5_codeOf 65 = .ok (.invokevirtual 136, 3) := by decide +kernel
theorem dX5_codeOf_68 : decode cX5_codeOf 68 = .ok (.ireturn, 1) := by decide +kernel
theorem dX5_codeOf_69 : decode cX5_codeOf 69 = .ok (.aload_n 0, 1) := by decide +kernel
theorem dX5_codeOf_70 : decode cX5_codeOf 70 = .ok (.iload_n 2, 1) := by decide +kernel
theorem dX5_codeOf_71 : decode cX5_codeOf 71 = .ok (.iload_n 3, 1) := by decide +kernel
theorem dX5_codeOf_72 : decode cX5_codeOf 72 = .ok (.invokevirtual 124, 3) := by decide +kernel
theorem dX5_codeOf_75 : decode cX5_codeOf 75 = .ok (.ireturn, 1) := by decide +kernel
theorem dX5_codeOf_76 : decode cX5_codeOf 76 = .ok (.iload_n 2, 1) := by decide +kernel
theorem dX5_codeOf_77 : decode cX5_codeOf 77 = .ok (.invokestatic 92, 3) := by decide +kernel
theorem dX5_codeOf_80 : decode cX5_codeOf 80 = .ok (.ifCond .eq 7, 3) := by decide +kernel
theorem dX5_codeOf_83 : decode cX5_codeOf 83 = .ok (.iconst 0, 1) := by decide +kernel
theorem dX5_codeOf_84 : decode cX5_codeOf 84 = .ok (.goto 4, 3) := by decide +kernel
theorem dX5_codeOf_87 : decode cX5_codeOf 87 = .ok (.iconst (-1), 1) := by decide +kernel
theorem dX5_codeOf_88 : decode cX5_codeOf 88 = .ok (.ireturn, 1) := by decide +kernel
set_option maxRecDepth 20000 in
theorem ggX5_carry_X5_lightNow : GoodIn wsX5_carry wsX5_lightNow := goodIn_r _ [5, 6, 71, 72, 73, 74, 75, 76, 77, 78, 79, 80, 81, 82, 83, 84] (by decide +kernel) (by decide +kernel)
set_option maxRecDepth 20000 in
theorem gX5_carry_X5_lightNow : GoodIn wsX5_carry (wsV RX5 107 RX5 yX5_lightNow wsX5_lightNow) := goodIn_app (goodIn_of _ (by decide +kernel)) ggX5_carry_X5_lightNow
set_option maxRecDepth 20000 in
theorem ggX5_carry_X5_darkNow : GoodIn wsX5_carry wsX5_darkNow := goodIn_r _ [10, 6, 11, 12, 13, 4, 14, 15, 16, 17, 18, 71, 72, 73, 74, 75, 76, 77, 78, 79, 80, 81, 82, 83, 84] (by decide +kernel) (by decide +kernel)
set_option maxRecDepth 20000 in
theorem gX5_carry_X5_darkNow : GoodIn wsX5_carry (wsV RX5 113 RX5 yX5_darkNow wsX5_darkNow) := goodIn_app (goodIn_of _ (by decide +kernel)) ggX5_carry_X5_darkNow
set_option maxRecDepth 20000 in
theorem ggX5_carry_X5_kindNow : GoodIn wsX5_carry wsX5_kindNow := goodIn_r _ [22, 6, 71, 72, 73, 74, 75, 76, 77, 78, 79, 80, 81, 82, 83, 84] (by decide +kernel) (by decide +kernel)
set_option maxRecDepth 20000 in
theorem gX5_carry_X5_kindNow : GoodIn wsX5_carry (wsV RX5 98 RX5 yX5_kindNow wsX5_kindNow) := goodIn_app (goodIn_of _ (by decide +kernel)) ggX5_carry_X5_kindNow
set_option maxRecDepth 20000 in
theorem ggX5_carry_X5_sortNow : GoodIn wsX5_carry wsX5_sortNow := goodIn_r _ [26, 6, 15, 16, 17, 4, 18, 27, 28, 29, 30, 31, 32, 33, 34, 35, 36, 37, 38, 39, 40, 41, 42, 43, 44, 45, 46, 47, 48, 49, 50, 51, 52, 53, 54, 55, 56, 57, 58, 71, 72, 73, 74, 75, 76, 77, 78, 79, 80, 81, 82, 83, 84] (by decide +kernel) (by decide +kernel)
set_option maxRecDepth 20000 in
theorem gX5_carry_X5_sortNow : GoodIn wsX5_carry (wsV RX5 139 RX5 yX5_sortNow wsX5_sortNow) := goodIn_app (goodIn_of _ (by decide +kernel)) ggX5_carry_X5_sortNow
set_option maxRecDepth 20000 in
theorem ggX5_carry_X5_swapNow : GoodIn wsX5_carry wsX5_swapNow := goodIn_r _ [62, 46, 47, 48, 4, 49, 6, 50, 51, 52, 53, 54, 55, 56, 57, 58, 15, 16, 17, 18, 31, 32, 33, 34, 35, 36, 71, 72, 73, 74, 75, 76, 77, 78, 79, 80, 81, 82, 83, 84] (by decide +kernel) (by decide +kernel)
set_option maxRecDepth 20000 in
theorem gX5_carry_X5_swapNow : GoodIn wsX5_carry (wsV RX5 127 RX5 yX5_swapNow wsX5_swapNow) := goodIn_app (goodIn_of _ (by decide +kernel)) ggX5_carry_X5_swapNow
set_option maxRecDepth 20000 in
theorem ggX5_carry_X5_drawNow : GoodIn wsX5_carry wsX5_drawNow := goodIn_r _ [66, 6, 67, 68, 69, 4, 70, 71, 72, 73, 74, 75, 76, 77, 78, 79, 80, 81, 82, 83, 84] (by decide +kernel) (by decide +kernel)
set_option maxRecDepth 20000 in
theorem gX5_carry_X5_drawNow : GoodIn wsX5_carry (wsV RX5 148 RX5 yX5_drawNow wsX5_drawNow) := goodIn_app (goodIn_of _ (by decide +kernel)) ggX5_carry_X5_drawNow
theorem dX5_carry_0 : decode cX5_carry 0 = .ok (.iload_n 1, 1) := by decide +kernel
theorem dX5_carry_1 : decode cX5_carry 1 = .ok (.tableswitch 75 0 6 #[43, 49, 55, 75, 75, 62, 68], 43) := by decide +kernel
theorem dX5_carry_44 : decode cX5_carry 44 = .ok (.aload_n 0, 1) := by decide +kernel
theorem dX5_carry_45 : decode cX5_carry 45 = .ok (.iload_n 2, 1) := by decide +kernel
theorem dX5_carry_46 : decode cX5_carry 46 = .ok (.invokevirtual 107, 3) := by decide +kernel
theorem dX5_carry_49 : decode cX5_carry 49 = .ok (.ireturn, 1) := by decide +kernel
theorem dX5_carry_50 : decode cX5_carry 50 = .ok (.aload_n 0, 1) := by decide +kernel
theorem dX5_carry_51 : decode cX5_carry 51 = .ok (.iload_n 2, 1) := by decide +kernel
theorem dX5_carry_52 : decode cX5_carry 52 = .ok (.invokevirtual 113, 3) := by decide +kernel
theorem dX5_carry_55 : decode cX5_carry 55 = .ok (.ireturn, 1) := by decide +kernel
theorem dX5_carry_56 : decode cX5_carry 56 = .ok (.aload_n 0, 1) := by decide +kernel
theorem dX5_carry_57 : decode cX5_carry 57 = .ok (.iload_n 2, 1) := by decide +kernel
theorem dX5_carry_58 : decode cX5_carry 58 = .ok (.iload_n 3, 1) := by decide +kernel
theorem dX5_carry_59 : decode cX5_carry 59 = .ok (.invokevirtual 98, 3) := by decide +kernel
theorem dX5_carry_62 : decode cX5_carry 62 = .ok (.ireturn, 1) := by decide +kernel
theorem dX5_carry_63 : decode cX5_carry 63 = .ok (.aload_n 0, 1) := by decide +kernel
theorem dX5_carry_64 : decode cX5_carry 64 = .ok (.iload_n 2, 1) := by decide +kernel
theorem dX5_carry_65 : decode cX5_carry 65 = .ok (.invokevirtual 139, 3) := by decide +kernel
theorem dX5_carry_68 : decode cX5_carry 68 = .ok (.ireturn, 1) := by decide +kernel
theorem dX5_carry_69 : decode cX5_carry 69 = .ok (.aload_n 0, 1) := by decide +kernel
theorem dX5_carry_70 : decode cX5_carry 70 = .ok (.iload_n 2, 1) := by decide +kernel
theorem dX5_carry_71 : decode cX5_carry 71 = .ok (.iload_n 3, 1) := by decide +kernel
theorem dX5_carry_72 : decode cX5_carry 72 = .ok (.invokevirtual 127, 3) := by decide +kernel
theorem dX5_carry_75 : decode cX5_carry 75 = .ok (.ireturn, 1) := by decide +kernel
theorem dX5_carry_76 : decode cX5_carry 76 = .ok (.aload_n 0, 1) := by decide +kernel
theorem dX5_carry_77 : decode cX5_carry 77 = .ok (.iload_n 1, 1) := by decide +kernel
theorem dX5_carry_78 : decode cX5_carry 78 = .ok (.iconst 3, 1) := by decide +kernel
theorem dX5_carry_79 : decode cX5_carry 79 = .ok (.if_icmp .ne 7, 3) := by decide +kernel
theorem dX5_carry_82 : decode cX5_carry 82 = .ok (.iconst 0, 1) := by decide +kernel
theorem dX5_carry_83 : decode cX5_carry 83 = .ok (.goto 4, 3) := by decide +kernel
theorem dX5_carry_86 : decode cX5_carry 86 = .ok (.iconst 1, 1) := by decide +kernel
theorem dX5_carry_87 : decode cX5_carry 87 = .ok (.iload_n 2, 1) := by decide +kernel
theorem dX5_carry_88 : decode cX5_carry 88 = .ok (.iconst 1, 1) := by decide +kernel
theorem dX5_carry_89 : decode cX5_carry 89 = .ok (.invokevirtual 148, 3) := by decide +kernel
theorem dX5_carry_92 : decode cX5_carry 92 = .ok (.ireturn, 1) := by decide +kernel
set_option maxRecDepth 20000 in
theorem ggX5_command_X5_wordHere : GoodIn wsX5_command wsX5_wordHere := goodIn_r _ [9, 3, 10, 11, 12, 8, 13, 14, 1, 15, 16, 17, 18, 19, 20, 21, 22, 23, 24, 25, 26, 142, 143, 144, 145, 146, 147, 148, 149, 150, 151, 152, 153, 154, 155] (by decide +kernel) (by decide +kernel)
set_option maxRecDepth 20000 in
theorem gX5_command_X5_wordHere : GoodIn wsX5_command (wsV RX5 189 RX5 yX5_wordHere wsX5_wordHere) := goodIn_app (goodIn_of _ (by decide +kernel)) ggX5_command_X5_wordHere
set_option maxRecDepth 20000 in
theorem ggX5_command_X5_fail : GoodIn wsX5_command wsX5_fail := goodIn_r _ [30, 2, 142, 143, 144, 145, 146, 147, 148, 149, 150, 151, 152, 153, 154, 155] (by decide +kernel) (by decide +kernel)
set_option maxRecDepth 20000 in
theorem gX5_command_X5_fail : GoodIn wsX5_command (wsV RX5 182 RX5 yX5_fail wsX5_fail) := goodIn_app (goodIn_of _ (by decide +kernel)) ggX5_command_X5_fail
set_option maxRecDepth 20000 in
theorem ggX5_command_X5_next : GoodIn wsX5_command wsX5_next := goodIn_r _ [34, 14, 1, 3, 25, 21, 22, 23, 8, 24, 26, 35, 36, 37, 142, 143, 144, 145, 146, 147, 148, 149, 150, 151, 152, 153, 154, 155] (by decide +kernel) (by decide +kernel)
set_option maxRecDepth 20000 in
theorem gX5_command_X5_next : GoodIn wsX5_command (wsV RX5 186 RX5 yX5_next wsX5_next) := goodIn_app (goodIn_of _ (by decide +kernel)) ggX5_command_X5_next
set_option maxRecDepth 20000 in
theorem ggX5_command_X5_readNumber : GoodIn wsX5_command wsX5_readNumber := goodIn_r _ [41, 3, 14, 1, 4, 21, 22, 23, 8, 24, 25, 26, 27, 28, 29, 30, 2, 31, 32, 33, 34, 35, 36, 37, 142, 143, 144, 145, 146, 147, 148, 149, 150, 151, 152, 153, 154, 155] (by decide +kernel) (by decide +kernel)
set_option maxRecDepth 20000 in
theorem gX5_command_X5_readNumber : GoodIn wsX5_command (wsV RX5 192 RX5 yX5_readNumber wsX5_readNumber) := goodIn_app (goodIn_of _ (by decide +kernel)) ggX5_command_X5_readNumber
set_option maxRecDepth 20000 in
theorem ggX5_command_X5_sign : GoodIn wsX5_command wsX5_sign := goodIn_r _ [24, 25, 26, 142, 143, 144, 145, 146, 147, 148, 149, 150, 151, 152, 153, 154, 155] (by decide +kernel) (by decide +kernel)
set_option maxRecDepth 20000 in
theorem gX5_command_X5_sign : GoodIn wsX5_command (wsV RX5 163 RX5 yX5_sign wsX5_sign) := goodIn_app (goodIn_of _ (by decide +kernel)) ggX5_command_X5_sign
set_option maxRecDepth 20000 in
theorem ggX5_command_X5_codeOf : GoodIn wsX5_command wsX5_codeOf := goodIn_r _ [45, 46, 47, 48, 8, 49, 50, 51, 52, 53, 35, 36, 37, 54, 55, 56, 57, 58, 59, 60, 61, 62, 63, 64, 65, 66, 67, 68, 69, 70, 71, 72, 73, 74, 75, 76, 77, 142, 143, 144, 145, 146, 147, 148, 149, 150, 151, 152, 153, 154, 155] (by decide +kernel) (by decide +kernel)
set_option maxRecDepth 20000 in
theorem gX5_command_X5_codeOf : GoodIn wsX5_command (wsV RX5 195 RX5 yX5_codeOf wsX5_codeOf) := goodIn_app (goodIn_of _ (by decide +kernel)) ggX5_command_X5_codeOf
set_option maxRecDepth 20000 in
theorem ggX5_command_X5_carry : GoodIn wsX5_command wsX5_carry := goodIn_r _ [81, 82, 83, 84, 8, 85, 50, 86, 87, 88, 89, 54, 55, 56, 57, 58, 59, 60, 61, 90, 91, 92, 93, 94, 95, 96, 97, 98, 99, 100, 101, 102, 103, 104, 105, 106, 107, 108, 109, 110, 111, 112, 113, 114, 115, 116, 117, 118, 119, 120, 121, 122, 123, 124, 125, 126, 127, 128, 129, 130, 131, 132, 133, 134, 135, 136, 137, 138, 139, 140, 141, 142, 143, 144, 145, 146, 147, 148, 149, 150, 151, 152, 153, 154, 155] (by decide +kernel) (by decide +kernel)
set_option maxRecDepth 20000 in
theorem gX5_command_X5_carry : GoodIn wsX5_command (wsV RX5 198 RX5 yX5_carry wsX5_carry) := goodIn_app (goodIn_of _ (by decide +kernel)) ggX5_command_X5_carry
theorem dX5_command_0 : decode cX5_command 0 = .ok (.aload_n 0, 1) := by decide +kernel
theorem dX5_command_1 : decode cX5_command 1 = .ok (.getfield 160, 3) := by decide +kernel
theorem dX5_command_4 : decode cX5_command 4 = .ok (.istore_n 1, 1) := by decide +kernel
theorem dX5_command_5 : decode cX5_command 5 = .ok (.aload_n 0, 1) := by decide +kernel
theorem dX5_command_6 : decode cX5_command 6 = .ok (.invokevirtual 189, 3) := by decide +kernel
theorem dX5_command_9 : decode cX5_command 9 = .ok (.istore_n 2, 1) := by decide +kernel
theorem dX5_command_10 : decode cX5_command 10 = .ok (.iload_n 2, 1) := by decide +kernel
theorem dX5_command_11 : decode cX5_command 11 = .ok (.bipush 7, 2) := by decide +kernel
theorem dX5_command_13 : decode cX5_command 13 = .ok (.if_icmp .ne 13, 3) := by decide +kernel
theorem dX5_command_16 : decode cX5_command 16 = .ok (.aload_n 0, 1) := by decide +kernel
theorem dX5_command_17 : decode cX5_command 17 = .ok (.aload_n 0, 1) := by decide +kernel
theorem dX5_command_18 : decode cX5_command 18 = .ok (.getfield 160, 3) := by decide +kernel
theorem dX5_command_21 : decode cX5_command 21 = .ok (.invokevirtual 182, 3) := by decide +kernel
theorem dX5_command_24 : decode cX5_command 24 = .ok (.iconst 0, 1) := by decide +kernel
theorem dX5_command_25 : decode cX5_command 25 = .ok (.ireturn, 1) := by decide +kernel
theorem dX5_command_26 : decode cX5_command 26 = .ok (.aload_n 0, 1) := by decide +kernel
theorem dX5_command_27 : decode cX5_command 27 = .ok (.invokevirtual 186, 3) := by decide +kernel
theorem dX5_command_30 : decode cX5_command 30 = .ok (.iload_n 2, 1) := by decide +kernel
theorem dX5_command_31 : decode cX5_command 31 = .ok (.iconst 2, 1) := by decide +kernel
theorem dX5_command_32 : decode cX5_command 32 = .ok (.if_icmp .eq 9, 3) := by decide +kernel
theorem dX5_command_35 : decode cX5_command 35 = .ok (.iload_n 2, 1) := by decide +kernel
theorem dX5_command_36 : decode cX5_command 36 = .ok (.bipush 6, 2) := by decide +kernel
theorem dX5_command_38 : decode cX5_command 38 = .ok (.if_icmp .ne 7, 3) := by decide +kernel
theorem dX5_command_41 : decode cX5_command 41 = .ok (.iconst 2, 1) := by decide +kernel
theorem dX5_command_42 : decode cX5_command 42 = .ok (.goto 4, 3) := by decide +kernel
theorem dX5_command_45 : decode cX5_command 45 = .ok (.iconst 1, 1) := by decide +kernel
theorem dX5_command_46 : decode cX5_command 46 = .ok (.istore_n 3, 1) := by decide +kernel
theorem dX5_command_47 : decode cX5_command 47 = .ok (.iconst 0, 1) := by decide +kernel
theorem dX5_command_48 : decode cX5_command 48 = .ok (.istore 4, 2) := by decide +kernel
theorem dX5_command_50 : decode cX5_command 50 = .ok (.iload 4, 2) := by decide +kernel
theorem dX5_command_52 : decode cX5_command 52 = .ok (.iload_n 3, 1) := by decide +kernel
theorem dX5_command_53 : decode cX5_command 53 = .ok (.if_icmp .ge 22, 3) := by decide +kernel
theorem dX5_command_56 : decode cX5_command 56 = .ok (.aload_n 0, 1) := by decide +kernel
theorem dX5_command_57 : decode cX5_command 57 = .ok (.getfield 169, 3) := by decide +kernel
theorem dX5_command_60 : decode cX5_command 60 = .ok (.ifCond .ge 15, 3) := by decide +kernel
theorem dX5_command_63 : decode cX5_command 63 = .ok (.aload_n 0, 1) := by decide +kernel
theorem dX5_command_64 : decode cX5_command 64 = .ok (.iload 4, 2) := by decide +kernel
theorem dX5_command_66 : decode cX5_command 66 = .ok (.invokevirtual 192, 3) := by decide +kernel
theorem dX5_command_69 : decode cX5_command 69 = .ok (.iinc 4 1, 3) := by decide +kernel
theorem dX5_command_72 : decode cX5_command 72 = .ok (.goto (-22), 3) := by decide +kernel
theorem dX5_command_75 : decode cX5_command 75 = .ok (.aload_n 0, 1) := by decide +kernel
theorem dX5_command_76 : decode cX5_command 76 = .ok (.getfield 169, 3) := by decide +kernel
theorem dX5_command_79 : decode cX5_command 79 = .ok (.ifCond .ge 32, 3) := by decide +kernel
theorem dX5_command_82 : decode cX5_command 82 = .ok (.aload_n 0, 1) := by decide +kernel
theorem dX5_command_83 : decode cX5_command 83 = .ok (.getfield 166, 3) := by decide +kernel
theorem dX5_command_86 : decode cX5_command 86 = .ok (.iconst 3, 1) := by decide +kernel
theorem dX5_command_87 : decode cX5_command 87 = .ok (.if_icmp .ne 16, 3) := by decide +kernel
theorem dX5_command_90 : decode cX5_command 90 = .ok (.aload_n 0, 1) := by decide +kernel
theorem dX5_command_91 : decode cX5_command 91 = .ok (.aload_n 0, 1) := by decide +kernel
theorem dX5_command_92 : decode cX5_command 92 = .ok (.getfield 160, 3) := by decide +kernel
theorem dX5_command_95 : decode cX5_command 95 = .ok (.invokevirtual 163, 3) := by decide +kernel
theorem dX5_command_98 : decode cX5_command 98 = .ok (.bipush 59, 2) := by decide +kernel
theorem dX5_command_100 : decode cX5_command 100 = .ok (.if_icmp .eq 11, 3) := by decide +kernel
theorem dX5_command_103 : decode cX5_command 103 = .ok (.aload_n 0, 1) := by decide +kernel
theorem dX5_command_104 : decode cX5_command 104 = .ok (.aload_n 0, 1) := by decide +kernel
theorem dX5_command_105 : decode cX5_command 105 = .ok (.getfield 160, 3) := by decide +kernel
theorem dX5_command_108 : decode cX5_command 108 = .ok (.invokevirtual 182, 3) := by decide +kernel
theorem dX5_command_111 : decode cX5_command 111 = .ok (.aload_n 0, 1) := by decide +kernel
theorem dX5_command_112 : decode cX5_command 112 = .ok (.getfield 169, 3) := by decide +kernel
theorem dX5_command_115 : decode cX5_command 115 = .ok (.ifCond .ge 28, 3) := by decide +kernel
theorem dX5_command_118 : decode cX5_command 118 = .ok (.aload_n 0, 1) := by decide +kernel
theorem dX5_command_119 : decode cX5_command 119 = .ok (.iload_n 2, 1) := by decide +kernel
theorem dX5_command_120 : decode cX5_command 120 = .ok (.aload_n 0, 1) := by decide +kernel
theorem dX5_command_121 : decode cX5_command 121 = .ok (.getfield 22, 3) := by decide +kernel
theorem dX5_command_124 : decode cX5_command 124 = .ok (.iconst 0, 1) := by decide +kernel
theorem dX5_command_125 : decode cX5_command 125 = .ok (.iaload, 1) := by decide +kernel
theorem dX5_command_126 : decode cX5_command 126 = .ok (.aload_n 0, 1) := by decide +kernel
theorem dX5_command_127 : decode cX5_command 127 = .ok (.getfield 22, 3) := by decide +kernel
theorem dX5_command_130 : decode cX5_command 130 = .ok (.iconst 1, 1) := by decide +kernel
theorem dX5_command_131 : decode cX5_command 131 = .ok (.iaload, 1) := by decide +kernel
theorem dX5_command_132 : decode cX5_command 132 = .ok (.invokevirtual 195, 3) := by decide +kernel
theorem dX5_command_135 : decode cX5_command 135 = .ok (.ifCond .ge 8, 3) := by decide +kernel
theorem dX5_command_138 : decode cX5_command 138 = .ok (.aload_n 0, 1) := by decide +kernel
theorem dX5_command_139 : decode cX5_command 139 = .ok (.iload_n 1, 1) := by decide +kernel
theorem dX5_command_140 : decode cX5_command 140 = .ok (.invokevirtual 182, 3) := by decide +kernel
theorem dX5_command_143 : decode cX5_command 143 = .ok (.aload_n 0, 1) := by decide +kernel
theorem dX5_command_144 : decode cX5_command 144 = .ok (.getfield 169, 3) := by decide +kernel
theorem dX5_command_147 : decode cX5_command 147 = .ok (.ifCond .lt 5, 3) := by decide +kernel
theorem dX5_command_150 : decode cX5_command 150 = .ok (.iconst 0, 1) := by decide +kernel
theorem dX5_command_151 : decode cX5_command 151 = .ok (.ireturn, 1) := by decide +kernel
theorem dX5_command_152 : decode cX5_command 152 = .ok (.aload_n 0, 1) := by decide +kernel
theorem dX5_command_153 : decode cX5_command 153 = .ok (.iload_n 2, 1) := by decide +kernel
theorem dX5_command_154 : decode cX5_command 154 = .ok (.aload_n 0, 1) := by decide +kernel
theorem dX5_command_155 : decode cX5_command 155 = .ok (.getfield 22, 3) := by decide +kernel
theorem dX5_command_158 : decode cX5_command 158 = .ok (.iconst 0, 1) := by decide +kernel
theorem dX5_command_159 : decode cX5_command 159 = .ok (.iaload, 1) := by decide +kernel
theorem dX5_command_160 : decode cX5_command 160 = .ok (.aload_n 0, 1) := by decide +kernel
theorem dX5_command_161 : decode cX5_command 161 = .ok (.getfield 22, 3) := by decide +kernel
theorem dX5_command_164 : decode cX5_command 164 = .ok (.iconst 1, 1) := by decide +kernel
theorem dX5_command_165 : decode cX5_command 165 = .ok (.iaload, 1) := by decide +kernel
theorem dX5_command_166 : decode cX5_command 166 = .ok (.invokevirtual 198, 3) := by decide +kernel
theorem dX5_command_169 : decode cX5_command 169 = .ok (.istore 4, 2) := by decide +kernel
theorem dX5_command_171 : decode cX5_command 171 = .ok (.aload_n 0, 1) := by decide +kernel
theorem dX5_command_172 : decode cX5_command 172 = .ok (.invokevirtual 186, 3) := by decide +kernel
theorem dX5_command_175 : decode cX5_command 175 = .ok (.iload 4, 2) := by decide +kernel
theorem dX5_command_177 : decode cX5_command 177 = .ok (.ifCond .ge 7, 3) := by decide +kernel
theorem dX5_command_180 : decode cX5_command 180 = .ok (.iconst 0, 1) := by decide +kernel
theorem dX5_command_181 : decode cX5_command 181 = .ok (.goto 4, 3) := by decide +kernel
theorem dX5_command_184 : decode cX5_command 184 = .ok (.iconst 1, 1) := by decide +kernel
theorem dX5_command_185 : decode cX5_command 185 = .ok (.ireturn, 1) := by decide +kernel
set_option maxRecDepth 20000 in
theorem ggX5_run_X5_next : GoodIn wsX5_run wsX5_next := goodIn_r _ [12, 4, 13, 6, 7, 14, 15, 16, 11, 17, 18, 19, 20, 21, 154, 155, 156, 157, 158, 159, 160, 161, 162, 163, 164, 165, 166, 167] (by decide +kernel) (by decide +kernel)
set_option maxRecDepth 20000 in
theorem gX5_run_X5_next : GoodIn wsX5_run (wsV RX5 186 RX5 yX5_next wsX5_next) := goodIn_app (goodIn_of _ (by decide +kernel)) ggX5_run_X5_next
set_option maxRecDepth 20000 in
theorem ggX5_run_X5_command : GoodIn wsX5_run wsX5_command := goodIn_r _ [25, 13, 5, 6, 26, 27, 28, 29, 11, 30, 31, 32, 33, 34, 4, 35, 36, 37, 38, 39, 40, 14, 15, 16, 17, 7, 18, 41, 42, 43, 44, 8, 9, 10, 12, 19, 20, 21, 45, 46, 47, 48, 49, 50, 51, 52, 53, 54, 55, 56, 3, 57, 58, 59, 60, 61, 62, 63, 64, 65, 66, 67, 68, 69, 70, 71, 72, 73, 74, 75, 76, 77, 78, 79, 80, 81, 82, 83, 84, 85, 86, 87, 88, 89, 90, 91, 92, 93, 94, 95, 96, 97, 98, 99, 100, 101, 102, 103, 104, 105, 106, 107, 108, 109, 110, 111, 112, 113, 114, 115, 116, 117, 118, 119, 120, 121, 122, 123, 124, 125, 126, 127, 128, 129, 130, 131, 132, 133, 134, 135, 136, 137, 138, 139, 140, 141, 142, 143, 144, 145, 146, 147, 154, 155, 156, 157, 158, 159, 160, 161, 162, 163, 164, 165, 166, 167] (by decide +kernel) (by decide +kernel)
set_option maxRecDepth 20000 in
theorem gX5_run_X5_command : GoodIn wsX5_run (wsV RX5 201 RX5 yX5_command wsX5_command) := goodIn_app (goodIn_of _ (by decide +kernel)) ggX5_run_X5_command
set_option maxRecDepth 20000 in
theorem ggX5_run_X5_act : GoodIn wsX5_run wsX5_act := goodIn_r _ [151, 152, 153, 3, 154, 155, 156, 157, 158, 159, 160, 161, 162, 163, 164, 165, 166, 167] (by decide +kernel) (by decide +kernel)
set_option maxRecDepth 20000 in
theorem gX5_run_X5_act : GoodIn wsX5_run (wsV RX5 89 RX5 yX5_act wsX5_act) := goodIn_app (goodIn_of _ (by decide +kernel)) ggX5_run_X5_act
theorem dX5_run_0 : decode cX5_run 0 = .ok (.aload_n 0, 1) := by decide +kernel
theorem dX5_run_1 : decode cX5_run 1 = .ok (.iconst 0, 1) := by decide +kernel
theorem dX5_run_2 : decode cX5_run 2 = .ok (.putfield 32, 3) := by decide +kernel
theorem dX5_run_5 : decode cX5_run 5 = .ok (.iconst 0, 1) := by decide +kernel
theorem dX5_run_6 : decode cX5_run 6 = .ok (.istore_n 1, 1) := by decide +kernel
theorem dX5_run_7 : decode cX5_run 7 = .ok (.iload_n 1, 1) := by decide +kernel
theorem dX5_run_8 : decode cX5_run 8 = .ok (.sipush 635, 3) := by decide +kernel
theorem dX5_run_11 : decode cX5_run 11 = .ok (.if_icmp .ge 21, 3) := by decide +kernel
theorem dX5_run_14 : decode cX5_run 14 = .ok (.aload_n 0, 1) := by decide +kernel
theorem dX5_run_15 : decode cX5_run 15 = .ok (.getfield 13, 3) := by decide +kernel
theorem dX5_run_18 : decode cX5_run 18 = .ok (.iload_n 1, 1) := by decide +kernel
theorem dX5_run_19 : decode cX5_run 19 = .ok (.aload_n 0, 1) := by decide +kernel
theorem dX5_run_20 : decode cX5_run 20 = .ok (.getfield 7, 3) := by decide +kernel
theorem dX5_run_23 : decode cX5_run 23 = .ok (.iload_n 1, 1) := by decide +kernel
theorem dX5_run_24 : decode cX5_run 24 = .ok (.iaload, 1) := by decide +kernel
theorem dX5_run_25 : decode cX5_run 25 = .ok (.iastore, 1) := by decide +kernel
theorem dX5_run_26 : decode cX5_run 26 = .ok (.iinc 1 1, 3) := by decide +kernel
theorem dX5_run_29 : decode cX5_run 29 = .ok (.goto (-22), 3) := by decide +kernel
theorem dX5_run_32 : decode cX5_run 32 = .ok (.aload_n 0, 1) := by decide +kernel
theorem dX5_run_33 : decode cX5_run 33 = .ok (.iconst 0, 1) := by decide +kernel
theorem dX5_run_34 : decode cX5_run 34 = .ok (.putfield 157, 3) := by decide +kernel
theorem dX5_run_37 : decode cX5_run 37 = .ok (.aload_n 0, 1) := by decide +kernel
theorem dX5_run_38 : decode cX5_run 38 = .ok (.iconst (-1), 1) := by decide +kernel
theorem dX5_run_39 : decode cX5_run 39 = .ok (.putfield 169, 3) := by decide +kernel
theorem dX5_run_42 : decode cX5_run 42 = .ok (.iconst 0, 1) := by decide +kernel
theorem dX5_run_43 : decode cX5_run 43 = .ok (.istore_n 1, 1) := by decide +kernel
theorem dX5_run_44 : decode cX5_run 44 = .ok (.aload_n 0, 1) := by decide +kernel
theorem dX5_run_45 : decode cX5_run 45 = .ok (.invokevirtual 186, 3) := by decide +kernel
theorem dX5_run_48 : decode cX5_run 48 = .ok (.aload_n 0, 1) := by decide +kernel
theorem dX5_run_49 : decode cX5_run 49 = .ok (.getfield 169, 3) := by decide +kernel
theorem dX5_run_52 : decode cX5_run 52 = .ok (.ifCond .ge 20, 3) := by decide +kernel
theorem dX5_run_55 : decode cX5_run 55 = .ok (.aload_n 0, 1) := by decide +kernel
theorem dX5_run_56 : decode cX5_run 56 = .ok (.getfield 166, 3) := by decide +kernel
theorem dX5_run_59 : decode cX5_run 59 = .ok (.ifCond .eq 13, 3) := by decide +kernel
theorem dX5_run_62 : decode cX5_run 62 = .ok (.iload_n 1, 1) := by decide +kernel
theorem dX5_run_63 : decode cX5_run 63 = .ok (.aload_n 0, 1) := by decide +kernel
theorem dX5_run_64 : decode cX5_run 64 = .ok (.invokevirtual 201, 3) := by decide +kernel
theorem dX5_run_67 : decode cX5_run 67 = .ok (.iadd, 1) := by decide +kernel
theorem dX5_run_68 : decode cX5_run 68 = .ok (.istore_n 1, 1) := by decide +kernel
theorem dX5_run_69 : decode cX5_run 69 = .ok (.goto (-21), 3) := by decide +kernel
theorem dX5_run_72 : decode cX5_run 72 = .ok (.iconst 0, 1) := by decide +kernel
theorem dX5_run_73 : decode cX5_run 73 = .ok (.istore_n 2, 1) := by decide +kernel
theorem dX5_run_74 : decode cX5_run 74 = .ok (.iload_n 2, 1) := by decide +kernel
theorem dX5_run_75 : decode cX5_run 75 = .ok (.sipush 635, 3) := by decide +kernel
theorem dX5_run_78 : decode cX5_run 78 = .ok (.if_icmp .ge 35, 3) := by decide +kernel
theorem dX5_run_81 : decode cX5_run 81 = .ok (.aload_n 0, 1) := by decide +kernel
theorem dX5_run_82 : decode cX5_run 82 = .ok (.getfield 7, 3) := by decide +kernel
theorem dX5_run_85 : decode cX5_run 85 = .ok (.iload_n 2, 1) := by decide +kernel
theorem dX5_run_86 : decode cX5_run 86 = .ok (.iaload, 1) := by decide +kernel
theorem dX5_run_87 : decode cX5_run 87 = .ok (.istore_n 3, 1) := by decide +kernel
theorem dX5_run_88 : decode cX5_run 88 = .ok (.aload_n 0, 1) := by decide +kernel
theorem dX5_run_89 : decode cX5_run 89 = .ok (.getfield 7, 3) := by decide +kernel
theorem dX5_run_92 : decode cX5_run 92 = .ok (.iload_n 2, 1) := by decide +kernel
theorem dX5_run_93 : decode cX5_run 93 = .ok (.aload_n 0, 1) := by decide +kernel
theorem dX5_run_94 : decode cX5_run 94 = .ok (.getfield 13, 3) := by decide +kernel
theorem dX5_run_97 : decode cX5_run 97 = .ok (.iload_n 2, 1) := by decide +kernel
theorem dX5_run_98 : decode cX5_run 98 = .ok (.iaload, 1) := by decide +kernel
theorem dX5_run_99 : decode cX5_run 99 = .ok (.iastore, 1) := by decide +kernel
theorem dX5_run_100 : decode cX5_run 100 = .ok (.aload_n 0, 1) := by decide +kernel
theorem dX5_run_101 : decode cX5_run 101 = .ok (.getfield 13, 3) := by decide +kernel
theorem dX5_run_104 : decode cX5_run 104 = .ok (.iload_n 2, 1) := by decide +kernel
theorem dX5_run_105 : decode cX5_run 105 = .ok (.iload_n 3, 1) := by decide +kernel
theorem dX5_run_106 : decode cX5_run 106 = .ok (.iastore, 1) := by decide +kernel
theorem dX5_run_107 : decode cX5_run 107 = .ok (.iinc 2 1, 3) := by decide +kernel
theorem dX5_run_110 : decode cX5_run 110 = .ok (.goto (-36), 3) := by decide +kernel
theorem dX5_run_113 : decode cX5_run 113 = .ok (.aload_n 0, 1) := by decide +kernel
theorem dX5_run_114 : decode cX5_run 114 = .ok (.getfield 169, 3) := by decide +kernel
theorem dX5_run_117 : decode cX5_run 117 = .ok (.ifCond .lt 12, 3) := by decide +kernel
theorem dX5_run_120 : decode cX5_run 120 = .ok (.sipush (-1000), 3) := by decide +kernel
theorem dX5_run_123 : decode cX5_run 123 = .ok (.aload_n 0, 1) := by decide +kernel
theorem dX5_run_124 : decode cX5_run 124 = .ok (.getfield 169, 3) := by decide +kernel
theorem dX5_run_127 : decode cX5_run 127 = .ok (.isub, 1) := by decide +kernel
theorem dX5_run_128 : decode cX5_run 128 = .ok (.ireturn, 1) := by decide +kernel
theorem dX5_run_129 : decode cX5_run 129 = .ok (.aload_n 0, 1) := by decide +kernel
theorem dX5_run_130 : decode cX5_run 130 = .ok (.invokevirtual 89, 3) := by decide +kernel
theorem dX5_run_133 : decode cX5_run 133 = .ok (.iconst 0, 1) := by decide +kernel
theorem dX5_run_134 : decode cX5_run 134 = .ok (.istore_n 2, 1) := by decide +kernel
theorem dX5_run_135 : decode cX5_run 135 = .ok (.iload_n 2, 1) := by decide +kernel
theorem dX5_run_136 : decode cX5_run 136 = .ok (.sipush 635, 3) := by decide +kernel
theorem dX5_run_139 : decode cX5_run 139 = .ok (.if_icmp .ge 21, 3) := by decide +kernel
theorem dX5_run_142 : decode cX5_run 142 = .ok (.aload_n 0, 1) := by decide +kernel
theorem dX5_run_143 : decode cX5_run 143 = .ok (.getfield 7, 3) := by decide +kernel
theorem dX5_run_146 : decode cX5_run 146 = .ok (.iload_n 2, 1) := by decide +kernel
theorem dX5_run_147 : decode cX5_run 147 = .ok (.aload_n 0, 1) := by decide +kernel
theorem dX5_run_148 : decode cX5_run 148 = .ok (.getfield 13, 3) := by decide +kernel
theorem dX5_run_151 : decode cX5_run 151 = .ok (.iload_n 2, 1) := by decide +kernel
theorem dX5_run_152 : decode cX5_run 152 = .ok (.iaload, 1) := by decide +kernel
theorem dX5_run_153 : decode cX5_run 153 = .ok (.iastore, 1) := by decide +kernel
theorem dX5_run_154 : decode cX5_run 154 = .ok (.iinc 2 1, 3) := by decide +kernel
theorem dX5_run_157 : decode cX5_run 157 = .ok (.goto (-22), 3) := by decide +kernel
theorem dX5_run_160 : decode cX5_run 160 = .ok (.aload_n 0, 1) := by decide +kernel
theorem dX5_run_161 : decode cX5_run 161 = .ok (.iconst 0, 1) := by decide +kernel
theorem dX5_run_162 : decode cX5_run 162 = .ok (.putfield 154, 3) := by decide +kernel
theorem dX5_run_165 : decode cX5_run 165 = .ok (.iload_n 1, 1) := by decide +kernel
theorem dX5_run_166 : decode cX5_run 166 = .ok (.ireturn, 1) := by decide +kernel
set_option maxRecDepth 20000 in
theorem ggX5_travel_X5_spotAt : GoodIn wsX5_travel wsX5_spotAt := goodIn_r _ [6, 1, 13, 14, 15, 16, 17, 18, 19, 20, 21, 22, 23, 24, 25, 26] (by decide +kernel) (by decide +kernel)
set_option maxRecDepth 20000 in
theorem gX5_travel_X5_spotAt : GoodIn wsX5_travel (wsV RX5 50 RX5 yX5_spotAt wsX5_spotAt) := goodIn_app (goodIn_of _ (by decide +kernel)) ggX5_travel_X5_spotAt
set_option maxRecDepth 20000 in
theorem ggX5_travel_X5_way : GoodIn wsX5_travel wsX5_way := goodIn_r _ [9, 10, 11, 5, 12] (by decide +kernel) (by decide +kernel)
set_option maxRecDepth 20000 in
theorem gX5_travel_X5_way : GoodIn wsX5_travel (va_wsS RX5 53 yX5_way wsX5_way) := goodIn_app (goodIn_of _ (by decide +kernel)) ggX5_travel_X5_way
theorem dX5_travel_0 : decode cX5_travel 0 = .ok (.iconst 0, 1) := by decide +kernel
theorem dX5_travel_1 : decode cX5_travel 1 = .ok (.istore_n 1, 1) := by decide +kernel
theorem dX5_travel_2 : decode cX5_travel 2 = .ok (.iconst 0, 1) := by decide +kernel
theorem dX5_travel_3 : decode cX5_travel 3 = .ok (.istore_n 2, 1) := by decide +kernel
theorem dX5_travel_4 : decode cX5_travel 4 = .ok (.iconst 0, 1) := by decide +kernel
theorem dX5_travel_5 : decode cX5_travel 5 = .ok (.istore_n 3, 1) := by decide +kernel
theorem dX5_travel_6 : decode cX5_travel 6 = .ok (.iload_n 3, 1) := by decide +kernel
theorem dX5_travel_7 : decode cX5_travel 7 = .ok (.aload_n 0, 1) := by decide +kernel
theorem dX5_travel_8 : decode cX5_travel 8 = .ok (.getfield 7, 3) := by decide +kernel
theorem dX5_travel_11 : decode cX5_travel 11 = .ok (.bipush 6, 2) := by decide +kernel
theorem dX5_travel_13 : decode cX5_travel 13 = .ok (.iaload, 1) := by decide +kernel
theorem dX5_travel_14 : decode cX5_travel 14 = .ok (.if_icmp .ge 27, 3) := by decide +kernel
theorem dX5_travel_17 : decode cX5_travel 17 = .ok (.iload_n 1, 1) := by decide +kernel
theorem dX5_travel_18 : decode cX5_travel 18 = .ok (.iload_n 2, 1) := by decide +kernel
theorem dX5_travel_19 : decode cX5_travel 19 = .ok (.aload_n 0, 1) := by decide +kernel
theorem dX5_travel_20 : decode cX5_travel 20 = .ok (.iload_n 3, 1) := by decide +kernel
theorem dX5_travel_21 : decode cX5_travel 21 = .ok (.invokevirtual 50, 3) := by decide +kernel
theorem dX5_travel_24 : decode cX5_travel 24 = .ok (.invokestatic 53, 3) := by decide +kernel
theorem dX5_travel_27 : decode cX5_travel 27 = .ok (.iadd, 1) := by decide +kernel
theorem dX5_travel_28 : decode cX5_travel 28 = .ok (.istore_n 1, 1) := by decide +kernel
theorem dX5_travel_29 : decode cX5_travel 29 = .ok (.aload_n 0, 1) := by decide +kernel
theorem dX5_travel_30 : decode cX5_travel 30 = .ok (.iload_n 3, 1) := by decide +kernel
theorem dX5_travel_31 : decode cX5_travel 31 = .ok (.invokevirtual 50, 3) := by decide +kernel
theorem dX5_travel_34 : decode cX5_travel 34 = .ok (.istore_n 2, 1) := by decide +kernel
theorem dX5_travel_35 : decode cX5_travel 35 = .ok (.iinc 3 1, 3) := by decide +kernel
theorem dX5_travel_38 : decode cX5_travel 38 = .ok (.goto (-32), 3) := by decide +kernel
theorem dX5_travel_41 : decode cX5_travel 41 = .ok (.iload_n 1, 1) := by decide +kernel
theorem dX5_travel_42 : decode cX5_travel 42 = .ok (.ireturn, 1) := by decide +kernel
set_option maxRecDepth 20000 in
theorem ggX5_seenBy_X5_isEyed : GoodIn wsX5_seenBy wsX5_isEyed := goodIn_r _ [5, 6, 7, 8, 9, 10, 4, 11, 12, 13, 14, 15, 16, 17, 18, 19, 20, 21, 34, 35, 36, 37, 38, 39, 40, 41, 42, 43, 44, 45, 46, 47] (by decide +kernel) (by decide +kernel)
set_option maxRecDepth 20000 in
theorem gX5_seenBy_X5_isEyed : GoodIn wsX5_seenBy (wsV RX5 73 RX5 yX5_isEyed wsX5_isEyed) := goodIn_app (goodIn_of _ (by decide +kernel)) ggX5_seenBy_X5_isEyed
set_option maxRecDepth 20000 in
theorem ggX5_seenBy_X5_isShotNow : GoodIn wsX5_seenBy wsX5_isShotNow := goodIn_r _ [25, 7, 26, 27, 28, 4, 29, 6, 30, 31, 32, 33, 12, 13, 14, 15, 16, 17, 18, 19, 20, 21, 34, 35, 36, 37, 38, 39, 40, 41, 42, 43, 44, 45, 46, 47] (by decide +kernel) (by decide +kernel)
set_option maxRecDepth 20000 in
theorem gX5_seenBy_X5_isShotNow : GoodIn wsX5_seenBy (wsV RX5 77 RX5 yX5_isShotNow wsX5_isShotNow) := goodIn_app (goodIn_of _ (by decide +kernel)) ggX5_seenBy_X5_isShotNow
theorem dX5_seenBy_0 : decode cX5_seenBy 0 = .ok (.iconst 0, 1) := by decide +kernel
theorem dX5_seenBy_1 : decode cX5_seenBy 1 = .ok (.istore_n 2, 1) := by decide +kernel
theorem dX5_seenBy_2 : decode cX5_seenBy 2 = .ok (.iconst 0, 1) := by decide +kernel
theorem dX5_seenBy_3 : decode cX5_seenBy 3 = .ok (.istore_n 3, 1) := by decide +kernel
theorem dX5_seenBy_4 : decode cX5_seenBy 4 = .ok (.iload_n 3, 1) := by decide +kernel
theorem dX5_seenBy_5 : decode cX5_seenBy 5 = .ok (.bipush 64, 2) := by decide +kernel
theorem dX5_seenBy_7 : decode cX5_seenBy 7 = .ok (.if_icmp .ge 40, 3) := by decide +kernel
theorem dX5_seenBy_10 : decode cX5_seenBy 10 = .ok (.iload_n 2, 1) := by decide +kernel
theorem dX5_seenBy_11 : decode cX5_seenBy 11 = .ok (.iload_n 1, 1) := by decide +kernel
theorem dX5_seenBy_12 : decode cX5_seenBy 12 = .ok (.ifCond .ne 14, 3) := by decide +kernel
theorem dX5_seenBy_15 : decode cX5_seenBy 15 = .ok (.aload_n 0, 1) := by decide +kernel
theorem dX5_seenBy_16 : decode cX5_seenBy 16 = .ok (.iload_n 3, 1) := by decide +kernel
theorem dX5_seenBy_17 : decode cX5_seenBy 17 = .ok (.invokevirtual 73, 3) := by decide +kernel
theorem dX5_seenBy_20 : decode cX5_seenBy 20 = .ok (.ifCond .eq 18, 3) := by decide +kernel
theorem dX5_seenBy_23 : decode cX5_seenBy 23 = .ok (.goto 11, 3) := by decide +kernel
theorem dX5_seenBy_26 : decode cX5_seenBy 26 = .ok (.aload_n 0, 1) := by decide +kernel
theorem dX5_seenBy_27 : decode cX5_seenBy 27 = .ok (.iload_n 3, 1) := by decide +kernel
theorem dX5_seenBy_28 : decode cX5_seenBy 28 = .ok (.invokevirtual 77, 3) := by decide +kernel
theorem dX5_seenBy_31 : decode cX5_seenBy 31 = .ok (.ifCond .eq 7, 3) := by decide +kernel
theorem dX5_seenBy_34 : decode cX5_seenBy 34 = .ok (.iconst 1, 1) := by decide +kernel
theorem dX5_seenBy_35 : decode cX5_seenBy 35 = .ok (.goto 4, 3) := by decide +kernel
theorem dX5_seenBy_38 : decode cX5_seenBy 38 = .ok (.iconst 0, 1) := by decide +kernel
theorem dX5_seenBy_39 : decode cX5_seenBy 39 = .ok (.iadd, 1) := by decide +kernel
theorem dX5_seenBy_40 : decode cX5_seenBy 40 = .ok (.istore_n 2, 1) := by decide +kernel
theorem dX5_seenBy_41 : decode cX5_seenBy 41 = .ok (.iinc 3 1, 3) := by decide +kernel
theorem dX5_seenBy_44 : decode cX5_seenBy 44 = .ok (.goto (-40), 3) := by decide +kernel
theorem dX5_seenBy_47 : decode cX5_seenBy 47 = .ok (.iload_n 2, 1) := by decide +kernel
theorem dX5_seenBy_48 : decode cX5_seenBy 48 = .ok (.ireturn, 1) := by decide +kernel
set_option maxRecDepth 20000 in
theorem ggX5_wrongBy_X5_isWrong : GoodIn wsX5_wrongBy wsX5_isWrong := goodIn_r _ [5, 6, 7, 8, 9, 4, 10, 11, 12, 13, 14, 15, 16, 17, 18, 19, 20, 21, 22, 23, 24, 25, 26, 27, 28, 29, 30, 31, 32, 33, 34, 35, 36, 37, 38, 39, 40, 41, 42, 43, 44, 45, 46, 47, 48, 49, 50, 51] (by decide +kernel) (by decide +kernel)
set_option maxRecDepth 20000 in
theorem gX5_wrongBy_X5_isWrong : GoodIn wsX5_wrongBy (wsV RX5 204 RX5 yX5_isWrong wsX5_isWrong) := goodIn_app (goodIn_of _ (by decide +kernel)) ggX5_wrongBy_X5_isWrong
theorem dX5_wrongBy_0 : decode cX5_wrongBy 0 = .ok (.iconst 0, 1) := by decide +kernel
theorem dX5_wrongBy_1 : decode cX5_wrongBy 1 = .ok (.istore_n 2, 1) := by decide +kernel
theorem dX5_wrongBy_2 : decode cX5_wrongBy 2 = .ok (.iconst 0, 1) := by decide +kernel
theorem dX5_wrongBy_3 : decode cX5_wrongBy 3 = .ok (.istore_n 3, 1) := by decide +kernel
theorem dX5_wrongBy_4 : decode cX5_wrongBy 4 = .ok (.iload_n 3, 1) := by decide +kernel
theorem dX5_wrongBy_5 : decode cX5_wrongBy 5 = .ok (.bipush 64, 2) := by decide +kernel
theorem dX5_wrongBy_7 : decode cX5_wrongBy 7 = .ok (.if_icmp .ge 26, 3) := by decide +kernel
theorem dX5_wrongBy_10 : decode cX5_wrongBy 10 = .ok (.iload_n 2, 1) := by decide +kernel
theorem dX5_wrongBy_11 : decode cX5_wrongBy 11 = .ok (.aload_n 0, 1) := by decide +kernel
theorem dX5_wrongBy_12 : decode cX5_wrongBy 12 = .ok (.iload_n 3, 1) := by decide +kernel
theorem dX5_wrongBy_13 : decode cX5_wrongBy 13 = .ok (.iload_n 1, 1) := by decide +kernel
theorem dX5_wrongBy_14 : decode cX5_wrongBy 14 = .ok (.invokevirtual 204, 3) := by decide +kernel
theorem dX5_wrongBy_17 : decode cX5_wrongBy 17 = .ok (.ifCond .eq 7, 3) := by decide +kernel
theorem dX5_wrongBy_20 : decode cX5_wrongBy 20 = .ok (.iconst 1, 1) := by decide +kernel
theorem dX5_wrongBy_21 : decode cX5_wrongBy 21 = .ok (.goto 4, 3) := by decide +kernel
theorem dX5_wrongBy_24 : decode cX5_wrongBy 24 = .ok (.iconst 0, 1) := by decide +kernel
theorem dX5_wrongBy_25 : decode cX5_wrongBy 25 = .ok (.iadd, 1) := by decide +kernel
theorem dX5_wrongBy_26 : decode cX5_wrongBy 26 = .ok (.istore_n 2, 1) := by decide +kernel
theorem dX5_wrongBy_27 : decode cX5_wrongBy 27 = .ok (.iinc 3 1, 3) := by decide +kernel
theorem dX5_wrongBy_30 : decode cX5_wrongBy 30 = .ok (.goto (-26), 3) := by decide +kernel
theorem dX5_wrongBy_33 : decode cX5_wrongBy 33 = .ok (.iload_n 2, 1) := by decide +kernel
theorem dX5_wrongBy_34 : decode cX5_wrongBy 34 = .ok (.ireturn, 1) := by decide +kernel
theorem dX5_lastLit_0 : decode cX5_lastLit 0 = .ok (.bipush (-9), 2) := by decide +kernel
theorem dX5_lastLit_2 : decode cX5_lastLit 2 = .ok (.istore_n 1, 1) := by decide +kernel
theorem dX5_lastLit_3 : decode cX5_lastLit 3 = .ok (.iconst 0, 1) := by decide +kernel
theorem dX5_lastLit_4 : decode cX5_lastLit 4 = .ok (.istore_n 2, 1) := by decide +kernel
theorem dX5_lastLit_5 : decode cX5_lastLit 5 = .ok (.iload_n 2, 1) := by decide +kernel
theorem dX5_lastLit_6 : decode cX5_lastLit 6 = .ok (.bipush 64, 2) := by decide +kernel
theorem dX5_lastLit_8 : decode cX5_lastLit 8 = .ok (.if_icmp .ge 30, 3) := by decide +kernel
theorem dX5_lastLit_11 : decode cX5_lastLit 11 = .ok (.aload_n 0, 1) := by decide +kernel
theorem dX5_lastLit_12 : decode cX5_lastLit 12 = .ok (.getfield 25, 3) := by decide +kernel
theorem dX5_lastLit_15 : decode cX5_lastLit 15 = .ok (.iload_n 2, 1) := by decide +kernel
theorem dX5_lastLit_16 : decode cX5_lastLit 16 = .ok (.iaload, 1) := by decide +kernel
theorem dX5_lastLit_17 : decode cX5_lastLit 17 = .ok (.iload_n 1, 1) := by decide +kernel
theorem dX5_lastLit_18 : decode cX5_lastLit 18 = .ok (.if_icmp .le 12, 3) := by decide +kernel
theorem dX5_lastLit_21 : decode cX5_lastLit 21 = .ok (.aload_n 0, 1) := by decide +kernel
theorem dX5_lastLit_22 : decode cX5_lastLit 22 = .ok (.getfield 25, 3) := by decide +kernel
theorem dX5_lastLit_25 : decode cX5_lastLit 25 = .ok (.iload_n 2, 1) := by decide +kernel
theorem dX5_lastLit_26 : decode cX5_lastLit 26 = .ok (.iaload, 1) := by decide +kernel
theorem dX5_lastLit_27 : decode cX5_lastLit 27 = .ok (.goto 4, 3) := by decide +kernel
theorem dX5_lastLit_30 : decode cX5_lastLit 30 = .ok (.iload_n 1, 1) := by decide +kernel
theorem dX5_lastLit_31 : decode cX5_lastLit 31 = .ok (.istore_n 1, 1) := by decide +kernel
theorem dX5_lastLit_32 : decode cX5_lastLit 32 = .ok (.iinc 2 1, 3) := by decide +kernel
theorem dX5_lastLit_35 : decode cX5_lastLit 35 = .ok (.goto (-30), 3) := by decide +kernel
theorem dX5_lastLit_38 : decode cX5_lastLit 38 = .ok (.iload_n 1, 1) := by decide +kernel
theorem dX5_lastLit_39 : decode cX5_lastLit 39 = .ok (.ireturn, 1) := by decide +kernel
set_option maxRecDepth 20000 in
theorem ggX5_count_X5_in : GoodIn wsX5_count wsX5_in := goodIn_r _ [8] (by decide +kernel) (by decide +kernel)
set_option maxRecDepth 20000 in
theorem gX5_count_X5_in : GoodIn wsX5_count (va_wsS RX5 36 yX5_in wsX5_in) := goodIn_app (goodIn_of _ (by decide +kernel)) ggX5_count_X5_in
set_option maxRecDepth 20000 in
theorem ggX5_count_X5_litMany : GoodIn wsX5_count wsX5_litMany := goodIn_r _ [12, 13, 14, 15, 16, 7, 17, 2, 18, 19, 20, 21, 22, 23, 24, 25, 26, 27, 85, 86, 87, 88, 89, 90, 91, 92, 93, 94, 95, 96, 97, 98] (by decide +kernel) (by decide +kernel)
set_option maxRecDepth 20000 in
theorem gX5_count_X5_litMany : GoodIn wsX5_count (wsV RX5 120 RX5 yX5_litMany wsX5_litMany) := goodIn_app (goodIn_of _ (by decide +kernel)) ggX5_count_X5_litMany
set_option maxRecDepth 20000 in
theorem ggX5_count_X5_inPicture : GoodIn wsX5_count wsX5_inPicture := goodIn_r _ [31, 2, 85, 86, 87, 88, 89, 90, 91, 92, 93, 94, 95, 96, 97, 98] (by decide +kernel) (by decide +kernel)
set_option maxRecDepth 20000 in
theorem gX5_count_X5_inPicture : GoodIn wsX5_count (wsV RX5 142 RX5 yX5_inPicture wsX5_inPicture) := goodIn_app (goodIn_of _ (by decide +kernel)) ggX5_count_X5_inPicture
set_option maxRecDepth 20000 in
theorem ggX5_count_X5_seenBy : GoodIn wsX5_count wsX5_seenBy := goodIn_r _ [35, 36, 37, 38, 7, 39, 13, 2, 40, 41, 42, 43, 44, 45, 46, 47, 48, 49, 50, 51, 52, 53, 54, 55, 56, 57, 58, 59, 60, 61, 62, 63, 64, 65, 85, 86, 87, 88, 89, 90, 91, 92, 93, 94, 95, 96, 97, 98] (by decide +kernel) (by decide +kernel)
set_option maxRecDepth 20000 in
theorem gX5_count_X5_seenBy : GoodIn wsX5_count (wsV RX5 208 RX5 yX5_seenBy wsX5_seenBy) := goodIn_app (goodIn_of _ (by decide +kernel)) ggX5_count_X5_seenBy
set_option maxRecDepth 20000 in
theorem ggX5_count_X5_wrongBy : GoodIn wsX5_count wsX5_wrongBy := goodIn_r _ [69, 70, 71, 72, 7, 73, 2, 36, 37, 38, 39, 13, 40, 41, 42, 43, 44, 45, 46, 47, 48, 49, 50, 51, 52, 53, 54, 55, 56, 57, 58, 59, 60, 61, 62, 63, 64, 65, 85, 86, 87, 88, 89, 90, 91, 92, 93, 94, 95, 96, 97, 98] (by decide +kernel) (by decide +kernel)
set_option maxRecDepth 20000 in
theorem gX5_count_X5_wrongBy : GoodIn wsX5_count (wsV RX5 211 RX5 yX5_wrongBy wsX5_wrongBy) := goodIn_app (goodIn_of _ (by decide +kernel)) ggX5_count_X5_wrongBy
set_option maxRecDepth 20000 in
theorem ggX5_count_X5_travel : GoodIn wsX5_count wsX5_travel := goodIn_r _ [77, 2, 18, 19, 20, 7, 21, 22, 23, 24, 25, 26, 27, 85, 86, 87, 88, 89, 90, 91, 92, 93, 94, 95, 96, 97, 98] (by decide +kernel) (by decide +kernel)
set_option maxRecDepth 20000 in
theorem gX5_count_X5_travel : GoodIn wsX5_count (wsV RX5 214 RX5 yX5_travel wsX5_travel) := goodIn_app (goodIn_of _ (by decide +kernel)) ggX5_count_X5_travel
set_option maxRecDepth 20000 in
theorem ggX5_count_X5_lastLit : GoodIn wsX5_count wsX5_lastLit := goodIn_r _ [81, 13, 85, 86, 87, 88, 89, 90, 91, 92, 93, 94, 95, 96, 97, 98] (by decide +kernel) (by decide +kernel)
set_option maxRecDepth 20000 in
theorem gX5_count_X5_lastLit : GoodIn wsX5_count (wsV RX5 217 RX5 yX5_lastLit wsX5_lastLit) := goodIn_app (goodIn_of _ (by decide +kernel)) ggX5_count_X5_lastLit
set_option maxRecDepth 20000 in
theorem ggX5_count_X5_slotAt : GoodIn wsX5_count wsX5_slotAt := goodIn_r _ [84] (by decide +kernel) (by decide +kernel)
set_option maxRecDepth 20000 in
theorem gX5_count_X5_slotAt : GoodIn wsX5_count (va_wsS RX5 151 yX5_slotAt wsX5_slotAt) := goodIn_app (goodIn_of _ (by decide +kernel)) ggX5_count_X5_slotAt
theorem dX5_count_0 : decode cX5_count 0 = .ok (.aload_n 0, 1) := by decide +kernel
theorem dX5_count_1 : decode cX5_count 1 = .ok (.iconst 0, 1) := by decide +kernel
theorem dX5_count_2 : decode cX5_count 2 = .ok (.putfield 32, 3) := by decide +kernel
theorem dX5_count_5 : decode cX5_count 5 = .ok (.iload_n 1, 1) := by decide +kernel
theorem dX5_count_6 : decode cX5_count 6 = .ok (.bipush 13, 2) := by decide +kernel
theorem dX5_count_8 : decode cX5_count 8 = .ok (.bipush 18, 2) := by decide +kernel
theorem dX5_count_10 : decode cX5_count 10 = .ok (.invokestatic 36, 3) := by decide +kernel
theorem dX5_count_13 : decode cX5_count 13 = .ok (.ifCond .eq 15, 3) := by decide +kernel
theorem dX5_count_16 : decode cX5_count 16 = .ok (.aload_n 0, 1) := by decide +kernel
theorem dX5_count_17 : decode cX5_count 17 = .ok (.getfield 7, 3) := by decide +kernel
theorem dX5_count_20 : decode cX5_count 20 = .ok (.iconst 0, 1) := by decide +kernel
theorem dX5_count_21 : decode cX5_count 21 = .ok (.iload_n 1, 1) := by decide +kernel
theorem dX5_count_22 : decode cX5_count 22 = .ok (.iadd, 1) := by decide +kernel
theorem dX5_count_23 : decode cX5_count 23 = .ok (.bipush 13, 2) := by decide +kernel
theorem dX5_count_25 : decode cX5_count 25 = .ok (.isub, 1) := by decide +kernel
theorem dX5_count_26 : decode cX5_count 26 = .ok (.iaload, 1) := by decide +kernel
theorem dX5_count_27 : decode cX5_count 27 = .ok (.ireturn, 1) := by decide +kernel
theorem dX5_count_28 : decode cX5_count 28 = .ok (.aload_n 0, 1) := by decide +kernel
theorem dX5_count_29 : decode cX5_count 29 = .ok (.invokevirtual 120, 3) := by decide +kernel
theorem dX5_count_32 : decode cX5_count 32 = .ok (.istore_n 2, 1) := by decide +kernel
theorem dX5_count_33 : decode cX5_count 33 = .ok (.iload_n 1, 1) := by decide +kernel
theorem dX5_count_34 : decode cX5_count 34 = .ok (.tableswitch 141 0 12 #[66, 74, 76, 76, 84, 84, 92, 92, 101, 106, 111, 131, 136], 66) := by decide +kernel
theorem dX5_count_100 : decode cX5_count 100 = .ok (.aload_n 0, 1) := by decide +kernel
theorem dX5_count_101 : decode cX5_count 101 = .ok (.getfield 7, 3) := by decide +kernel
theorem dX5_count_104 : decode cX5_count 104 = .ok (.bipush 6, 2) := by decide +kernel
theorem dX5_count_106 : decode cX5_count 106 = .ok (.iaload, 1) := by decide +kernel
theorem dX5_count_107 : decode cX5_count 107 = .ok (.ireturn, 1) := by decide +kernel
theorem dX5_count_108 : decode cX5_count 108 = .ok (.iload_n 2, 1) := by decide +kernel
theorem dX5_count_109 : decode cX5_count 109 = .ok (.ireturn, 1) := by decide +kernel
theorem dX5_count_110 : decode cX5_count 110 = .ok (.aload_n 0, 1) := by decide +kernel
theorem dX5_count_111 : decode cX5_count 111 = .ok (.iload_n 1, 1) := by decide +kernel
theorem dX5_count_112 : decode cX5_count 112 = .ok (.iconst 2, 1) := by decide +kernel
theorem dX5_count_113 : decode cX5_count 113 = .ok (.isub, 1) := by decide +kernel
theorem dX5_count_114 : decode cX5_count 114 = .ok (.invokevirtual 142, 3) := by decide +kernel
theorem dX5_count_117 : decode cX5_count 117 = .ok (.ireturn, 1) := by decide +kernel
end
section
theorem dX5_count_118 : decode cX5_count 118 = .ok (.aload_n 0, 1) := by decide +kernel
theorem dX5_count_119 : decode cX5_count 119 = .ok (.iload_n 1, 1) := by decide +kernel
theorem dX5_count_120 : decode cX5_count 120 = .ok (.iconst 4, 1) := by decide +kernel
theorem dX5_count_121 : decode cX5_count 121 = .ok (.isub, 1) := by decide +kernel
theorem dX5_count_122 : decode cX5_count 122 = .ok (.invokevirtual 208, 3) := by decide +kernel
theorem dX5_count_125 : decode cX5_count 125 = .ok (.ireturn, 1) := by decide +kernel
theorem dX5_count_126 : decode cX5_count 126 = .ok (.aload_n 0, 1) := by decide +kernel
theorem dX5_count_127 : decode cX5_count 127 = .ok (.iload_n 1, 1) := by decide +kernel
theorem dX5_count_128 : decode cX5_count 128 = .ok (.bipush 6, 2) := by decide +kernel
theorem dX5_count_130 : decode cX5_count 130 = .ok (.isub, 1) := by decide +kernel
theorem dX5_count_131 : decode cX5_count 131 = .ok (.invokevirtual 211, 3) := by decide +kernel
theorem dX5_count_134 : decode cX5_count 134 = .ok (.ireturn, 1) := by decide +kernel
theorem dX5_count_135 : decode cX5_count 135 = .ok (.aload_n 0, 1) := by decide +kernel
theorem dX5_count_136 : decode cX5_count 136 = .ok (.invokevirtual 214, 3) := by decide +kernel
theorem dX5_count_139 : decode cX5_count 139 = .ok (.ireturn, 1) := by decide +kernel
theorem dX5_count_140 : decode cX5_count 140 = .ok (.aload_n 0, 1) := by decide +kernel
theorem dX5_count_141 : decode cX5_count 141 = .ok (.invokevirtual 217, 3) := by decide +kernel
theorem dX5_count_144 : decode cX5_count 144 = .ok (.ireturn, 1) := by decide +kernel
theorem dX5_count_145 : decode cX5_count 145 = .ok (.aload_n 0, 1) := by decide +kernel
theorem dX5_count_146 : decode cX5_count 146 = .ok (.getfield 7, 3) := by decide +kernel
theorem dX5_count_149 : decode cX5_count 149 = .ok (.iconst 0, 1) := by decide +kernel
theorem dX5_count_150 : decode cX5_count 150 = .ok (.invokestatic 151, 3) := by decide +kernel
theorem dX5_count_153 : decode cX5_count 153 = .ok (.iaload, 1) := by decide +kernel
theorem dX5_count_154 : decode cX5_count 154 = .ok (.aload_n 0, 1) := by decide +kernel
theorem dX5_count_155 : decode cX5_count 155 = .ok (.getfield 7, 3) := by decide +kernel
theorem dX5_count_158 : decode cX5_count 158 = .ok (.iconst 1, 1) := by decide +kernel
theorem dX5_count_159 : decode cX5_count 159 = .ok (.invokestatic 151, 3) := by decide +kernel
theorem dX5_count_162 : decode cX5_count 162 = .ok (.iaload, 1) := by decide +kernel
theorem dX5_count_163 : decode cX5_count 163 = .ok (.iadd, 1) := by decide +kernel
theorem dX5_count_164 : decode cX5_count 164 = .ok (.ireturn, 1) := by decide +kernel
theorem dX5_count_165 : decode cX5_count 165 = .ok (.aload_n 0, 1) := by decide +kernel
theorem dX5_count_166 : decode cX5_count 166 = .ok (.getfield 40, 3) := by decide +kernel
theorem dX5_count_169 : decode cX5_count 169 = .ok (.ireturn, 1) := by decide +kernel
theorem dX5_count_170 : decode cX5_count 170 = .ok (.aload_n 0, 1) := by decide +kernel
theorem dX5_count_171 : decode cX5_count 171 = .ok (.getfield 154, 3) := by decide +kernel
theorem dX5_count_174 : decode cX5_count 174 = .ok (.ireturn, 1) := by decide +kernel
theorem dX5_count_175 : decode cX5_count 175 = .ok (.iconst (-1), 1) := by decide +kernel
theorem dX5_count_176 : decode cX5_count 176 = .ok (.ireturn, 1) := by decide +kernel
set_option maxRecDepth 20000 in
theorem ggX5_flickerOf_X5_brightnessAt : GoodIn wsX5_flickerOf wsX5_brightnessAt := goodIn_r _ [6, 7, 1, 8, 9, 5, 10, 11, 12, 13, 14, 15, 16, 17, 18, 19, 20, 21, 22, 23, 24, 25, 26, 27] (by decide +kernel) (by decide +kernel)
set_option maxRecDepth 20000 in
theorem gX5_flickerOf_X5_brightnessAt : GoodIn wsX5_flickerOf (wsV RX5 60 RX5 yX5_brightnessAt wsX5_brightnessAt) := goodIn_app (goodIn_of _ (by decide +kernel)) ggX5_flickerOf_X5_brightnessAt
theorem dX5_flickerOf_0 : decode cX5_flickerOf 0 = .ok (.bipush 100, 2) := by decide +kernel
theorem dX5_flickerOf_2 : decode cX5_flickerOf 2 = .ok (.istore_n 2, 1) := by decide +kernel
theorem dX5_flickerOf_3 : decode cX5_flickerOf 3 = .ok (.iconst 0, 1) := by decide +kernel
theorem dX5_flickerOf_4 : decode cX5_flickerOf 4 = .ok (.istore_n 3, 1) := by decide +kernel
theorem dX5_flickerOf_5 : decode cX5_flickerOf 5 = .ok (.iconst 0, 1) := by decide +kernel
theorem dX5_flickerOf_6 : decode cX5_flickerOf 6 = .ok (.istore 4, 2) := by decide +kernel
theorem dX5_flickerOf_8 : decode cX5_flickerOf 8 = .ok (.iload 4, 2) := by decide +kernel
theorem dX5_flickerOf_10 : decode cX5_flickerOf 10 = .ok (.aload_n 0, 1) := by decide +kernel
theorem dX5_flickerOf_11 : decode cX5_flickerOf 11 = .ok (.getfield 7, 3) := by decide +kernel
theorem dX5_flickerOf_14 : decode cX5_flickerOf 14 = .ok (.iconst 0, 1) := by decide +kernel
theorem dX5_flickerOf_15 : decode cX5_flickerOf 15 = .ok (.iaload, 1) := by decide +kernel
theorem dX5_flickerOf_16 : decode cX5_flickerOf 16 = .ok (.if_icmp .ge 44, 3) := by decide +kernel
theorem dX5_flickerOf_19 : decode cX5_flickerOf 19 = .ok (.aload_n 0, 1) := by decide +kernel
theorem dX5_flickerOf_20 : decode cX5_flickerOf 20 = .ok (.iload_n 1, 1) := by decide +kernel
theorem dX5_flickerOf_21 : decode cX5_flickerOf 21 = .ok (.iload 4, 2) := by decide +kernel
theorem dX5_flickerOf_23 : decode cX5_flickerOf 23 = .ok (.invokevirtual 60, 3) := by decide +kernel
theorem dX5_flickerOf_26 : decode cX5_flickerOf 26 = .ok (.istore 5, 2) := by decide +kernel
theorem dX5_flickerOf_28 : decode cX5_flickerOf 28 = .ok (.iload 5, 2) := by decide +kernel
theorem dX5_flickerOf_30 : decode cX5_flickerOf 30 = .ok (.iload_n 2, 1) := by decide +kernel
theorem dX5_flickerOf_31 : decode cX5_flickerOf 31 = .ok (.if_icmp .ge 8, 3) := by decide +kernel
theorem dX5_flickerOf_34 : decode cX5_flickerOf 34 = .ok (.iload 5, 2) := by decide +kernel
theorem dX5_flickerOf_36 : decode cX5_flickerOf 36 = .ok (.goto 4, 3) := by decide +kernel
theorem dX5_flickerOf_39 : decode cX5_flickerOf 39 = .ok (.iload_n 2, 1) := by decide +kernel
theorem dX5_flickerOf_40 : decode cX5_flickerOf 40 = .ok (.istore_n 2, 1) := by decide +kernel
theorem dX5_flickerOf_41 : decode cX5_flickerOf 41 = .ok (.iload 5, 2) := by decide +kernel
theorem dX5_flickerOf_43 : decode cX5_flickerOf 43 = .ok (.iload_n 3, 1) := by decide +kernel
theorem dX5_flickerOf_44 : decode cX5_flickerOf 44 = .ok (.if_icmp .le 8, 3) := by decide +kernel
theorem dX5_flickerOf_47 : decode cX5_flickerOf 47 = .ok (.iload 5, 2) := by decide +kernel
theorem dX5_flickerOf_49 : decode cX5_flickerOf 49 = .ok (.goto 4, 3) := by decide +kernel
theorem dX5_flickerOf_52 : decode cX5_flickerOf 52 = .ok (.iload_n 3, 1) := by decide +kernel
theorem dX5_flickerOf_53 : decode cX5_flickerOf 53 = .ok (.istore_n 3, 1) := by decide +kernel
theorem dX5_flickerOf_54 : decode cX5_flickerOf 54 = .ok (.iinc 4 1, 3) := by decide +kernel
theorem dX5_flickerOf_57 : decode cX5_flickerOf 57 = .ok (.goto (-49), 3) := by decide +kernel
theorem dX5_flickerOf_60 : decode cX5_flickerOf 60 = .ok (.iload_n 3, 1) := by decide +kernel
theorem dX5_flickerOf_61 : decode cX5_flickerOf 61 = .ok (.iload_n 2, 1) := by decide +kernel
theorem dX5_flickerOf_62 : decode cX5_flickerOf 62 = .ok (.isub, 1) := by decide +kernel
theorem dX5_flickerOf_63 : decode cX5_flickerOf 63 = .ok (.ireturn, 1) := by decide +kernel
set_option maxRecDepth 20000 in
theorem ggX5_spot_X5_isSpot : GoodIn wsX5_spot wsX5_isSpot := goodIn_r _ [7, 8, 9, 6, 10] (by decide +kernel) (by decide +kernel)
set_option maxRecDepth 20000 in
theorem gX5_spot_X5_isSpot : GoodIn wsX5_spot (va_wsS RX5 92 yX5_isSpot wsX5_isSpot) := goodIn_app (goodIn_of _ (by decide +kernel)) ggX5_spot_X5_isSpot
set_option maxRecDepth 20000 in
theorem ggX5_spot_X5_in : GoodIn wsX5_spot wsX5_in := goodIn_r _ [10] (by decide +kernel) (by decide +kernel)
set_option maxRecDepth 20000 in
theorem gX5_spot_X5_in : GoodIn wsX5_spot (va_wsS RX5 36 yX5_in wsX5_in) := goodIn_app (goodIn_of _ (by decide +kernel)) ggX5_spot_X5_in
set_option maxRecDepth 20000 in
theorem ggX5_spot_X5_beam : GoodIn wsX5_spot wsX5_beam := goodIn_r _ [14, 3, 2, 15, 16, 17, 6, 18, 19, 20, 21, 22, 23, 24, 63, 64, 65, 66, 67, 68, 69, 70, 71, 72, 73, 74, 75, 76] (by decide +kernel) (by decide +kernel)
set_option maxRecDepth 20000 in
theorem gX5_spot_X5_beam : GoodIn wsX5_spot (wsV RX5 80 RX5 yX5_beam wsX5_beam) := goodIn_app (goodIn_of _ (by decide +kernel)) ggX5_spot_X5_beam
set_option maxRecDepth 20000 in
theorem ggX5_spot_X5_positionOf : GoodIn wsX5_spot wsX5_positionOf := goodIn_r _ [28, 2, 15, 16, 17, 6, 18, 63, 64, 65, 66, 67, 68, 69, 70, 71, 72, 73, 74, 75, 76] (by decide +kernel) (by decide +kernel)
set_option maxRecDepth 20000 in
theorem gX5_spot_X5_positionOf : GoodIn wsX5_spot (wsV RX5 101 RX5 yX5_positionOf wsX5_positionOf) := goodIn_app (goodIn_of _ (by decide +kernel)) ggX5_spot_X5_positionOf
set_option maxRecDepth 20000 in
theorem ggX5_spot_X5_isEyed : GoodIn wsX5_spot wsX5_isEyed := goodIn_r _ [32, 3, 2, 33, 34, 35, 6, 36, 37, 38, 39, 40, 41, 42, 43, 44, 45, 46, 63, 64, 65, 66, 67, 68, 69, 70, 71, 72, 73, 74, 75, 76] (by decide +kernel) (by decide +kernel)
set_option maxRecDepth 20000 in
theorem gX5_spot_X5_isEyed : GoodIn wsX5_spot (wsV RX5 73 RX5 yX5_isEyed wsX5_isEyed) := goodIn_app (goodIn_of _ (by decide +kernel)) ggX5_spot_X5_isEyed
set_option maxRecDepth 20000 in
theorem ggX5_spot_X5_isShotNow : GoodIn wsX5_spot wsX5_isShotNow := goodIn_r _ [50, 2, 51, 52, 53, 6, 54, 3, 55, 56, 57, 58, 37, 38, 39, 40, 41, 42, 43, 44, 45, 46, 63, 64, 65, 66, 67, 68, 69, 70, 71, 72, 73, 74, 75, 76] (by decide +kernel) (by decide +kernel)
set_option maxRecDepth 20000 in
theorem gX5_spot_X5_isShotNow : GoodIn wsX5_spot (wsV RX5 77 RX5 yX5_isShotNow wsX5_isShotNow) := goodIn_app (goodIn_of _ (by decide +kernel)) ggX5_spot_X5_isShotNow
set_option maxRecDepth 20000 in
theorem ggX5_spot_X5_eyeMean : GoodIn wsX5_spot wsX5_eyeMean := goodIn_r _ [36, 2, 37, 38, 39, 6, 40, 3, 41, 42, 43, 44, 45, 46, 63, 64, 65, 66, 67, 68, 69, 70, 71, 72, 73, 74, 75, 76] (by decide +kernel) (by decide +kernel)
set_option maxRecDepth 20000 in
theorem gX5_spot_X5_eyeMean : GoodIn wsX5_spot (wsV RX5 63 RX5 yX5_eyeMean wsX5_eyeMean) := goodIn_app (goodIn_of _ (by decide +kernel)) ggX5_spot_X5_eyeMean
set_option maxRecDepth 20000 in
theorem ggX5_spot_X5_shutterMean : GoodIn wsX5_spot wsX5_shutterMean := goodIn_r _ [58, 2, 37, 38, 39, 6, 40, 3, 41, 42, 43, 44, 45, 46, 63, 64, 65, 66, 67, 68, 69, 70, 71, 72, 73, 74, 75, 76] (by decide +kernel) (by decide +kernel)
set_option maxRecDepth 20000 in
theorem gX5_spot_X5_shutterMean : GoodIn wsX5_spot (wsV RX5 66 RX5 yX5_shutterMean wsX5_shutterMean) := goodIn_app (goodIn_of _ (by decide +kernel)) ggX5_spot_X5_shutterMean
set_option maxRecDepth 20000 in
theorem ggX5_spot_X5_flickerOf : GoodIn wsX5_spot wsX5_flickerOf := goodIn_r _ [62, 2, 37, 38, 39, 6, 40, 3, 41, 42, 43, 44, 45, 46, 63, 64, 65, 66, 67, 68, 69, 70, 71, 72, 73, 74, 75, 76] (by decide +kernel) (by decide +kernel)
set_option maxRecDepth 20000 in
theorem gX5_spot_X5_flickerOf : GoodIn wsX5_spot (wsV RX5 220 RX5 yX5_flickerOf wsX5_flickerOf) := goodIn_app (goodIn_of _ (by decide +kernel)) ggX5_spot_X5_flickerOf
theorem dX5_spot_0 : decode cX5_spot 0 = .ok (.aload_n 0, 1) := by decide +kernel
theorem dX5_spot_1 : decode cX5_spot 1 = .ok (.iconst 0, 1) := by decide +kernel
theorem dX5_spot_2 : decode cX5_spot 2 = .ok (.putfield 32, 3) := by decide +kernel
theorem dX5_spot_5 : decode cX5_spot 5 = .ok (.iload_n 1, 1) := by decide +kernel
theorem dX5_spot_6 : decode cX5_spot 6 = .ok (.invokestatic 92, 3) := by decide +kernel
theorem dX5_spot_9 : decode cX5_spot 9 = .ok (.ifCond .eq 13, 3) := by decide +kernel
theorem dX5_spot_12 : decode cX5_spot 12 = .ok (.iload_n 2, 1) := by decide +kernel
theorem dX5_spot_13 : decode cX5_spot 13 = .ok (.iconst 0, 1) := by decide +kernel
theorem dX5_spot_14 : decode cX5_spot 14 = .ok (.bipush 9, 2) := by decide +kernel
theorem dX5_spot_16 : decode cX5_spot 16 = .ok (.invokestatic 36, 3) := by decide +kernel
theorem dX5_spot_19 : decode cX5_spot 19 = .ok (.ifCond .ne 5, 3) := by decide +kernel
theorem dX5_spot_22 : decode cX5_spot 22 = .ok (.iconst (-1), 1) := by decide +kernel
theorem dX5_spot_23 : decode cX5_spot 23 = .ok (.ireturn, 1) := by decide +kernel
theorem dX5_spot_24 : decode cX5_spot 24 = .ok (.aload_n 0, 1) := by decide +kernel
theorem dX5_spot_25 : decode cX5_spot 25 = .ok (.invokevirtual 80, 3) := by decide +kernel
theorem dX5_spot_28 : decode cX5_spot 28 = .ok (.iload_n 2, 1) := by decide +kernel
theorem dX5_spot_29 : decode cX5_spot 29 = .ok (.tableswitch 147 0 8 #[51, 61, 71, 82, 88, 95, 109, 123, 129], 51) := by decide +kernel
theorem dX5_spot_80 : decode cX5_spot 80 = .ok (.aload_n 0, 1) := by decide +kernel
theorem dX5_spot_81 : decode cX5_spot 81 = .ok (.getfield 7, 3) := by decide +kernel
theorem dX5_spot_84 : decode cX5_spot 84 = .ok (.bipush 19, 2) := by decide +kernel
theorem dX5_spot_86 : decode cX5_spot 86 = .ok (.iload_n 1, 1) := by decide +kernel
theorem dX5_spot_87 : decode cX5_spot 87 = .ok (.iadd, 1) := by decide +kernel
theorem dX5_spot_88 : decode cX5_spot 88 = .ok (.iaload, 1) := by decide +kernel
theorem dX5_spot_89 : decode cX5_spot 89 = .ok (.ireturn, 1) := by decide +kernel
theorem dX5_spot_90 : decode cX5_spot 90 = .ok (.aload_n 0, 1) := by decide +kernel
theorem dX5_spot_91 : decode cX5_spot 91 = .ok (.getfield 7, 3) := by decide +kernel
theorem dX5_spot_94 : decode cX5_spot 94 = .ok (.bipush 83, 2) := by decide +kernel
theorem dX5_spot_96 : decode cX5_spot 96 = .ok (.iload_n 1, 1) := by decide +kernel
theorem dX5_spot_97 : decode cX5_spot 97 = .ok (.iadd, 1) := by decide +kernel
theorem dX5_spot_98 : decode cX5_spot 98 = .ok (.iaload, 1) := by decide +kernel
theorem dX5_spot_99 : decode cX5_spot 99 = .ok (.ireturn, 1) := by decide +kernel
theorem dX5_spot_100 : decode cX5_spot 100 = .ok (.aload_n 0, 1) := by decide +kernel
theorem dX5_spot_101 : decode cX5_spot 101 = .ok (.getfield 7, 3) := by decide +kernel
theorem dX5_spot_104 : decode cX5_spot 104 = .ok (.sipush 147, 3) := by decide +kernel
theorem dX5_spot_107 : decode cX5_spot 107 = .ok (.iload_n 1, 1) := by decide +kernel
theorem dX5_spot_108 : decode cX5_spot 108 = .ok (.iadd, 1) := by decide +kernel
theorem dX5_spot_109 : decode cX5_spot 109 = .ok (.iaload, 1) := by decide +kernel
theorem dX5_spot_110 : decode cX5_spot 110 = .ok (.ireturn, 1) := by decide +kernel
theorem dX5_spot_111 : decode cX5_spot 111 = .ok (.aload_n 0, 1) := by decide +kernel
theorem dX5_spot_112 : decode cX5_spot 112 = .ok (.iload_n 1, 1) := by decide +kernel
theorem dX5_spot_113 : decode cX5_spot 113 = .ok (.invokevirtual 101, 3) := by decide +kernel
theorem dX5_spot_116 : decode cX5_spot 116 = .ok (.ireturn, 1) := by decide +kernel
theorem dX5_spot_117 : decode cX5_spot 117 = .ok (.aload_n 0, 1) := by decide +kernel
theorem dX5_spot_118 : decode cX5_spot 118 = .ok (.getfield 25, 3) := by decide +kernel
theorem dX5_spot_121 : decode cX5_spot 121 = .ok (.iload_n 1, 1) := by decide +kernel
theorem dX5_spot_122 : decode cX5_spot 122 = .ok (.iaload, 1) := by decide +kernel
theorem dX5_spot_123 : decode cX5_spot 123 = .ok (.ireturn, 1) := by decide +kernel
theorem dX5_spot_124 : decode cX5_spot 124 = .ok (.aload_n 0, 1) := by decide +kernel
theorem dX5_spot_125 : decode cX5_spot 125 = .ok (.iload_n 1, 1) := by decide +kernel
theorem dX5_spot_126 : decode cX5_spot 126 = .ok (.invokevirtual 73, 3) := by decide +kernel
theorem dX5_spot_129 : decode cX5_spot 129 = .ok (.ifCond .eq 7, 3) := by decide +kernel
theorem dX5_spot_132 : decode cX5_spot 132 = .ok (.iconst 1, 1) := by decide +kernel
theorem dX5_spot_133 : decode cX5_spot 133 = .ok (.goto 4, 3) := by decide +kernel
theorem dX5_spot_136 : decode cX5_spot 136 = .ok (.iconst 0, 1) := by decide +kernel
theorem dX5_spot_137 : decode cX5_spot 137 = .ok (.ireturn, 1) := by decide +kernel
theorem dX5_spot_138 : decode cX5_spot 138 = .ok (.aload_n 0, 1) := by decide +kernel
theorem dX5_spot_139 : decode cX5_spot 139 = .ok (.iload_n 1, 1) := by decide +kernel
theorem dX5_spot_140 : decode cX5_spot 140 = .ok (.invokevirtual 77, 3) := by decide +kernel
theorem dX5_spot_143 : decode cX5_spot 143 = .ok (.ifCond .eq 7, 3) := by decide +kernel
theorem dX5_spot_146 : decode cX5_spot 146 = .ok (.iconst 1, 1) := by decide +kernel
theorem dX5_spot_147 : decode cX5_spot 147 = .ok (.goto 4, 3) := by decide +kernel
theorem dX5_spot_150 : decode cX5_spot 150 = .ok (.iconst 0, 1) := by decide +kernel
theorem dX5_spot_151 : decode cX5_spot 151 = .ok (.ireturn, 1) := by decide +kernel
theorem dX5_spot_152 : decode cX5_spot 152 = .ok (.aload_n 0, 1) := by decide +kernel
theorem dX5_spot_153 : decode cX5_spot 153 = .ok (.iload_n 1, 1) := by decide +kernel
theorem dX5_spot_154 : decode cX5_spot 154 = .ok (.invokevirtual 63, 3) := by decide +kernel
theorem dX5_spot_157 : decode cX5_spot 157 = .ok (.ireturn, 1) := by decide +kernel
theorem dX5_spot_158 : decode cX5_spot 158 = .ok (.aload_n 0, 1) := by decide +kernel
theorem dX5_spot_159 : decode cX5_spot 159 = .ok (.iload_n 1, 1) := by decide +kernel
theorem dX5_spot_160 : decode cX5_spot 160 = .ok (.aload_n 0, 1) := by decide +kernel
theorem dX5_spot_161 : decode cX5_spot 161 = .ok (.getfield 7, 3) := by decide +kernel
theorem dX5_spot_164 : decode cX5_spot 164 = .ok (.iconst 3, 1) := by decide +kernel
theorem dX5_spot_165 : decode cX5_spot 165 = .ok (.iaload, 1) := by decide +kernel
theorem dX5_spot_166 : decode cX5_spot 166 = .ok (.aload_n 0, 1) := by decide +kernel
theorem dX5_spot_167 : decode cX5_spot 167 = .ok (.getfield 7, 3) := by decide +kernel
theorem dX5_spot_170 : decode cX5_spot 170 = .ok (.iconst 4, 1) := by decide +kernel
theorem dX5_spot_171 : decode cX5_spot 171 = .ok (.iaload, 1) := by decide +kernel
theorem dX5_spot_172 : decode cX5_spot 172 = .ok (.invokevirtual 66, 3) := by decide +kernel
theorem dX5_spot_175 : decode cX5_spot 175 = .ok (.ireturn, 1) := by decide +kernel
theorem dX5_spot_176 : decode cX5_spot 176 = .ok (.aload_n 0, 1) := by decide +kernel
theorem dX5_spot_177 : decode cX5_spot 177 = .ok (.getfield 25, 3) := by decide +kernel
theorem dX5_spot_180 : decode cX5_spot 180 = .ok (.iload_n 1, 1) := by decide +kernel
theorem dX5_spot_181 : decode cX5_spot 181 = .ok (.iaload, 1) := by decide +kernel
theorem dX5_spot_182 : decode cX5_spot 182 = .ok (.bipush (-9), 2) := by decide +kernel
theorem dX5_spot_184 : decode cX5_spot 184 = .ok (.if_icmp .ne 7, 3) := by decide +kernel
theorem dX5_spot_187 : decode cX5_spot 187 = .ok (.iconst 0, 1) := by decide +kernel
theorem dX5_spot_188 : decode cX5_spot 188 = .ok (.goto 8, 3) := by decide +kernel
theorem dX5_spot_191 : decode cX5_spot 191 = .ok (.aload_n 0, 1) := by decide +kernel
theorem dX5_spot_192 : decode cX5_spot 192 = .ok (.iload_n 1, 1) := by decide +kernel
theorem dX5_spot_193 : decode cX5_spot 193 = .ok (.invokevirtual 220, 3) := by decide +kernel
theorem dX5_spot_196 : decode cX5_spot 196 = .ok (.ireturn, 1) := by decide +kernel
set_option maxRecDepth 20000 in
theorem ggX5_at_X5_spotAt : GoodIn wsX5_at wsX5_spotAt := goodIn_r _ [7, 2, 8, 9, 10, 11, 12, 13, 14, 15, 16, 17, 18, 19, 20, 21] (by decide +kernel) (by decide +kernel)
set_option maxRecDepth 20000 in
theorem gX5_at_X5_spotAt : GoodIn wsX5_at (wsV RX5 50 RX5 yX5_spotAt wsX5_spotAt) := goodIn_app (goodIn_of _ (by decide +kernel)) ggX5_at_X5_spotAt
theorem dX5_at_0 : decode cX5_at 0 = .ok (.aload_n 0, 1) := by decide +kernel
theorem dX5_at_1 : decode cX5_at 1 = .ok (.iconst 0, 1) := by decide +kernel
theorem dX5_at_2 : decode cX5_at 2 = .ok (.putfield 32, 3) := by decide +kernel
theorem dX5_at_5 : decode cX5_at 5 = .ok (.iload_n 1, 1) := by decide +kernel
theorem dX5_at_6 : decode cX5_at 6 = .ok (.ifCond .ge 7, 3) := by decide +kernel
theorem dX5_at_9 : decode cX5_at 9 = .ok (.iconst (-1), 1) := by decide +kernel
theorem dX5_at_10 : decode cX5_at 10 = .ok (.goto 24, 3) := by decide +kernel
theorem dX5_at_13 : decode cX5_at 13 = .ok (.iload_n 1, 1) := by decide +kernel
theorem dX5_at_14 : decode cX5_at 14 = .ok (.aload_n 0, 1) := by decide +kernel
theorem dX5_at_15 : decode cX5_at 15 = .ok (.getfield 7, 3) := by decide +kernel
theorem dX5_at_18 : decode cX5_at 18 = .ok (.bipush 6, 2) := by decide +kernel
theorem dX5_at_20 : decode cX5_at 20 = .ok (.iaload, 1) := by decide +kernel
theorem dX5_at_21 : decode cX5_at 21 = .ok (.if_icmp .ge 11, 3) := by decide +kernel
theorem dX5_at_24 : decode cX5_at 24 = .ok (.aload_n 0, 1) := by decide +kernel
theorem dX5_at_25 : decode cX5_at 25 = .ok (.iload_n 1, 1) := by decide +kernel
theorem dX5_at_26 : decode cX5_at 26 = .ok (.invokevirtual 50, 3) := by decide +kernel
theorem dX5_at_29 : decode cX5_at 29 = .ok (.goto 5, 3) := by decide +kernel
theorem dX5_at_32 : decode cX5_at 32 = .ok (.bipush (-9), 2) := by decide +kernel
theorem dX5_at_34 : decode cX5_at 34 = .ok (.ireturn, 1) := by decide +kernel
set_option maxRecDepth 20000 in
theorem ggX5_brightness_X5_isSpot : GoodIn wsX5_brightness wsX5_isSpot := goodIn_r _ [6, 7, 8, 5, 9] (by decide +kernel) (by decide +kernel)
set_option maxRecDepth 20000 in
theorem gX5_brightness_X5_isSpot : GoodIn wsX5_brightness (va_wsS RX5 92 yX5_isSpot wsX5_isSpot) := goodIn_app (goodIn_of _ (by decide +kernel)) ggX5_brightness_X5_isSpot
set_option maxRecDepth 20000 in
theorem ggX5_brightness_X5_in : GoodIn wsX5_brightness wsX5_in := goodIn_r _ [9] (by decide +kernel) (by decide +kernel)
set_option maxRecDepth 20000 in
theorem gX5_brightness_X5_in : GoodIn wsX5_brightness (va_wsS RX5 36 yX5_in wsX5_in) := goodIn_app (goodIn_of _ (by decide +kernel)) ggX5_brightness_X5_in
set_option maxRecDepth 20000 in
theorem ggX5_brightness_X5_beam : GoodIn wsX5_brightness wsX5_beam := goodIn_r _ [13, 14, 2, 15, 16, 17, 5, 18, 19, 20, 21, 22, 23, 24, 35, 36, 37, 38, 39, 40, 41, 42, 43, 44, 45, 46, 47, 48] (by decide +kernel) (by decide +kernel)
set_option maxRecDepth 20000 in
theorem gX5_brightness_X5_beam : GoodIn wsX5_brightness (wsV RX5 80 RX5 yX5_beam wsX5_beam) := goodIn_app (goodIn_of _ (by decide +kernel)) ggX5_brightness_X5_beam
set_option maxRecDepth 20000 in
theorem ggX5_brightness_X5_brightnessAt : GoodIn wsX5_brightness wsX5_brightnessAt := goodIn_r _ [28, 14, 2, 29, 30, 5, 31, 32, 33, 34, 35, 36, 37, 38, 39, 40, 41, 42, 43, 44, 45, 46, 47, 48] (by decide +kernel) (by decide +kernel)
set_option maxRecDepth 20000 in
theorem gX5_brightness_X5_brightnessAt : GoodIn wsX5_brightness (wsV RX5 60 RX5 yX5_brightnessAt wsX5_brightnessAt) := goodIn_app (goodIn_of _ (by decide +kernel)) ggX5_brightness_X5_brightnessAt
theorem dX5_brightness_0 : decode cX5_brightness 0 = .ok (.aload_n 0, 1) := by decide +kernel
theorem dX5_brightness_1 : decode cX5_brightness 1 = .ok (.iconst 0, 1) := by decide +kernel
theorem dX5_brightness_2 : decode cX5_brightness 2 = .ok (.putfield 32, 3) := by decide +kernel
theorem dX5_brightness_5 : decode cX5_brightness 5 = .ok (.iload_n 1, 1) := by decide +kernel
theorem dX5_brightness_6 : decode cX5_brightness 6 = .ok (.invokestatic 92, 3) := by decide +kernel
theorem dX5_brightness_9 : decode cX5_brightness 9 = .ok (.ifCond .eq 19, 3) := by decide +kernel
theorem dX5_brightness_12 : decode cX5_brightness 12 = .ok (.iload_n 2, 1) := by decide +kernel
theorem dX5_brightness_13 : decode cX5_brightness 13 = .ok (.iconst 0, 1) := by decide +kernel
theorem dX5_brightness_14 : decode cX5_brightness 14 = .ok (.aload_n 0, 1) := by decide +kernel
theorem dX5_brightness_15 : decode cX5_brightness 15 = .ok (.getfield 7, 3) := by decide +kernel
theorem dX5_brightness_18 : decode cX5_brightness 18 = .ok (.iconst 0, 1) := by decide +kernel
theorem dX5_brightness_19 : decode cX5_brightness 19 = .ok (.iaload, 1) := by decide +kernel
theorem dX5_brightness_20 : decode cX5_brightness 20 = .ok (.iconst 1, 1) := by decide +kernel
theorem dX5_brightness_21 : decode cX5_brightness 21 = .ok (.isub, 1) := by decide +kernel
theorem dX5_brightness_22 : decode cX5_brightness 22 = .ok (.invokestatic 36, 3) := by decide +kernel
theorem dX5_brightness_25 : decode cX5_brightness 25 = .ok (.ifCond .ne 5, 3) := by decide +kernel
theorem dX5_brightness_28 : decode cX5_brightness 28 = .ok (.iconst (-1), 1) := by decide +kernel
theorem dX5_brightness_29 : decode cX5_brightness 29 = .ok (.ireturn, 1) := by decide +kernel
theorem dX5_brightness_30 : decode cX5_brightness 30 = .ok (.aload_n 0, 1) := by decide +kernel
theorem dX5_brightness_31 : decode cX5_brightness 31 = .ok (.invokevirtual 80, 3) := by decide +kernel
theorem dX5_brightness_34 : decode cX5_brightness 34 = .ok (.aload_n 0, 1) := by decide +kernel
theorem dX5_brightness_35 : decode cX5_brightness 35 = .ok (.iload_n 1, 1) := by decide +kernel
theorem dX5_brightness_36 : decode cX5_brightness 36 = .ok (.iload_n 2, 1) := by decide +kernel
theorem dX5_brightness_37 : decode cX5_brightness 37 = .ok (.invokevirtual 60, 3) := by decide +kernel
theorem dX5_brightness_40 : decode cX5_brightness 40 = .ok (.ireturn, 1) := by decide +kernel
set_option maxRecDepth 20000 in
theorem ggX5_firstWrong_X5_isBit : GoodIn wsX5_firstWrong wsX5_isBit := goodIn_r _ [5, 6, 7, 4, 8] (by decide +kernel) (by decide +kernel)
set_option maxRecDepth 20000 in
theorem gX5_firstWrong_X5_isBit : GoodIn wsX5_firstWrong (va_wsS RX5 145 yX5_isBit wsX5_isBit) := goodIn_app (goodIn_of _ (by decide +kernel)) ggX5_firstWrong_X5_isBit
set_option maxRecDepth 20000 in
theorem ggX5_firstWrong_X5_beam : GoodIn wsX5_firstWrong wsX5_beam := goodIn_r _ [12, 13, 14, 15, 16, 17, 4, 18, 19, 20, 21, 22, 23, 24, 59, 60, 61, 62, 63, 64, 65, 66, 67, 68, 69, 70, 71, 72] (by decide +kernel) (by decide +kernel)
set_option maxRecDepth 20000 in
theorem gX5_firstWrong_X5_beam : GoodIn wsX5_firstWrong (wsV RX5 80 RX5 yX5_beam wsX5_beam) := goodIn_app (goodIn_of _ (by decide +kernel)) ggX5_firstWrong_X5_beam
set_option maxRecDepth 20000 in
theorem ggX5_firstWrong_X5_isWrong : GoodIn wsX5_firstWrong wsX5_isWrong := goodIn_r _ [28, 14, 29, 30, 31, 4, 32, 13, 33, 34, 35, 36, 37, 38, 39, 40, 41, 42, 43, 44, 45, 46, 47, 48, 49, 50, 51, 52, 53, 54, 55, 56, 57, 58, 59, 60, 61, 62, 63, 64, 65, 66, 67, 68, 69, 70, 71, 72] (by decide +kernel) (by decide +kernel)
set_option maxRecDepth 20000 in
theorem gX5_firstWrong_X5_isWrong : GoodIn wsX5_firstWrong (wsV RX5 204 RX5 yX5_isWrong wsX5_isWrong) := goodIn_app (goodIn_of _ (by decide +kernel)) ggX5_firstWrong_X5_isWrong
theorem dX5_firstWrong_0 : decode cX5_firstWrong 0 = .ok (.aload_n 0, 1) := by decide +kernel
theorem dX5_firstWrong_1 : decode cX5_firstWrong 1 = .ok (.iconst 0, 1) := by decide +kernel
theorem dX5_firstWrong_2 : decode cX5_firstWrong 2 = .ok (.putfield 32, 3) := by decide +kernel
theorem dX5_firstWrong_5 : decode cX5_firstWrong 5 = .ok (.iload_n 1, 1) := by decide +kernel
theorem dX5_firstWrong_6 : decode cX5_firstWrong 6 = .ok (.invokestatic 145, 3) := by decide +kernel
theorem dX5_firstWrong_9 : decode cX5_firstWrong 9 = .ok (.ifCond .ne 5, 3) := by decide +kernel
theorem dX5_firstWrong_12 : decode cX5_firstWrong 12 = .ok (.iconst (-1), 1) := by decide +kernel
theorem dX5_firstWrong_13 : decode cX5_firstWrong 13 = .ok (.ireturn, 1) := by decide +kernel
theorem dX5_firstWrong_14 : decode cX5_firstWrong 14 = .ok (.aload_n 0, 1) := by decide +kernel
theorem dX5_firstWrong_15 : decode cX5_firstWrong 15 = .ok (.invokevirtual 80, 3) := by decide +kernel
theorem dX5_firstWrong_18 : decode cX5_firstWrong 18 = .ok (.iconst 0, 1) := by decide +kernel
theorem dX5_firstWrong_19 : decode cX5_firstWrong 19 = .ok (.istore_n 2, 1) := by decide +kernel
theorem dX5_firstWrong_20 : decode cX5_firstWrong 20 = .ok (.iload_n 2, 1) := by decide +kernel
theorem dX5_firstWrong_21 : decode cX5_firstWrong 21 = .ok (.bipush 64, 2) := by decide +kernel
theorem dX5_firstWrong_23 : decode cX5_firstWrong 23 = .ok (.if_icmp .ge 20, 3) := by decide +kernel
theorem dX5_firstWrong_26 : decode cX5_firstWrong 26 = .ok (.aload_n 0, 1) := by decide +kernel
theorem dX5_firstWrong_27 : decode cX5_firstWrong 27 = .ok (.iload_n 2, 1) := by decide +kernel
theorem dX5_firstWrong_28 : decode cX5_firstWrong 28 = .ok (.iload_n 1, 1) := by decide +kernel
theorem dX5_firstWrong_29 : decode cX5_firstWrong 29 = .ok (.invokevirtual 204, 3) := by decide +kernel
theorem dX5_firstWrong_32 : decode cX5_firstWrong 32 = .ok (.ifCond .eq 5, 3) := by decide +kernel
theorem dX5_firstWrong_35 : decode cX5_firstWrong 35 = .ok (.iload_n 2, 1) := by decide +kernel
theorem dX5_firstWrong_36 : decode cX5_firstWrong 36 = .ok (.ireturn, 1) := by decide +kernel
theorem dX5_firstWrong_37 : decode cX5_firstWrong 37 = .ok (.iinc 2 1, 3) := by decide +kernel
theorem dX5_firstWrong_40 : decode cX5_firstWrong 40 = .ok (.goto (-20), 3) := by decide +kernel
theorem dX5_firstWrong_43 : decode cX5_firstWrong 43 = .ok (.bipush (-9), 2) := by decide +kernel
theorem dX5_firstWrong_45 : decode cX5_firstWrong 45 = .ok (.ireturn, 1) := by decide +kernel
set_option maxRecDepth 20000 in
theorem ggX5_bestStart_X5_isBit : GoodIn wsX5_bestStart wsX5_isBit := goodIn_r _ [6, 7, 8, 5, 9] (by decide +kernel) (by decide +kernel)
set_option maxRecDepth 20000 in
theorem gX5_bestStart_X5_isBit : GoodIn wsX5_bestStart (va_wsS RX5 145 yX5_isBit wsX5_isBit) := goodIn_app (goodIn_of _ (by decide +kernel)) ggX5_bestStart_X5_isBit
set_option maxRecDepth 20000 in
theorem ggX5_bestStart_X5_beam : GoodIn wsX5_bestStart wsX5_beam := goodIn_r _ [13, 14, 2, 15, 16, 17, 5, 18, 19, 20, 21, 22, 23, 24, 47, 48, 49, 50, 51, 52, 53, 54, 55, 56, 57, 58, 59, 60] (by decide +kernel) (by decide +kernel)
set_option maxRecDepth 20000 in
theorem gX5_bestStart_X5_beam : GoodIn wsX5_bestStart (wsV RX5 80 RX5 yX5_beam wsX5_beam) := goodIn_app (goodIn_of _ (by decide +kernel)) ggX5_bestStart_X5_beam
set_option maxRecDepth 20000 in
theorem ggX5_bestStart_X5_wrongFor : GoodIn wsX5_bestStart wsX5_wrongFor := goodIn_r _ [28, 2, 29, 30, 31, 5, 32, 14, 33, 34, 35, 36, 37, 38, 39, 40, 41, 42, 43, 44, 45, 46, 47, 48, 49, 50, 51, 52, 53, 54, 55, 56, 57, 58, 59, 60] (by decide +kernel) (by decide +kernel)
set_option maxRecDepth 20000 in
theorem gX5_bestStart_X5_wrongFor : GoodIn wsX5_bestStart (wsV RX5 223 RX5 yX5_wrongFor wsX5_wrongFor) := goodIn_app (goodIn_of _ (by decide +kernel)) ggX5_bestStart_X5_wrongFor
theorem dX5_bestStart_0 : decode cX5_bestStart 0 = .ok (.aload_n 0, 1) := by decide +kernel
theorem dX5_bestStart_1 : decode cX5_bestStart 1 = .ok (.iconst 0, 1) := by decide +kernel
theorem dX5_bestStart_2 : decode cX5_bestStart 2 = .ok (.putfield 32, 3) := by decide +kernel
theorem dX5_bestStart_5 : decode cX5_bestStart 5 = .ok (.iload_n 1, 1) := by decide +kernel
theorem dX5_bestStart_6 : decode cX5_bestStart 6 = .ok (.invokestatic 145, 3) := by decide +kernel
theorem dX5_bestStart_9 : decode cX5_bestStart 9 = .ok (.ifCond .ne 5, 3) := by decide +kernel
theorem dX5_bestStart_12 : decode cX5_bestStart 12 = .ok (.iconst (-1), 1) := by decide +kernel
theorem dX5_bestStart_13 : decode cX5_bestStart 13 = .ok (.ireturn, 1) := by decide +kernel
theorem dX5_bestStart_14 : decode cX5_bestStart 14 = .ok (.aload_n 0, 1) := by decide +kernel
theorem dX5_bestStart_15 : decode cX5_bestStart 15 = .ok (.invokevirtual 80, 3) := by decide +kernel
theorem dX5_bestStart_18 : decode cX5_bestStart 18 = .ok (.iconst 0, 1) := by decide +kernel
theorem dX5_bestStart_19 : decode cX5_bestStart 19 = .ok (.istore_n 2, 1) := by decide +kernel
theorem dX5_bestStart_20 : decode cX5_bestStart 20 = .ok (.aload_n 0, 1) := by decide +kernel
theorem dX5_bestStart_21 : decode cX5_bestStart 21 = .ok (.iconst 0, 1) := by decide +kernel
theorem dX5_bestStart_22 : decode cX5_bestStart 22 = .ok (.aload_n 0, 1) := by decide +kernel
theorem dX5_bestStart_23 : decode cX5_bestStart 23 = .ok (.getfield 7, 3) := by decide +kernel
theorem dX5_bestStart_26 : decode cX5_bestStart 26 = .ok (.iconst 4, 1) := by decide +kernel
theorem dX5_bestStart_27 : decode cX5_bestStart 27 = .ok (.iaload, 1) := by decide +kernel
theorem dX5_bestStart_28 : decode cX5_bestStart 28 = .ok (.invokevirtual 223, 3) := by decide +kernel
theorem dX5_bestStart_31 : decode cX5_bestStart 31 = .ok (.istore_n 3, 1) := by decide +kernel
theorem dX5_bestStart_32 : decode cX5_bestStart 32 = .ok (.iconst 1, 1) := by decide +kernel
theorem dX5_bestStart_33 : decode cX5_bestStart 33 = .ok (.istore 4, 2) := by decide +kernel
theorem dX5_bestStart_35 : decode cX5_bestStart 35 = .ok (.iload 4, 2) := by decide +kernel
theorem dX5_bestStart_37 : decode cX5_bestStart 37 = .ok (.aload_n 0, 1) := by decide +kernel
theorem dX5_bestStart_38 : decode cX5_bestStart 38 = .ok (.getfield 7, 3) := by decide +kernel
theorem dX5_bestStart_41 : decode cX5_bestStart 41 = .ok (.iconst 0, 1) := by decide +kernel
theorem dX5_bestStart_42 : decode cX5_bestStart 42 = .ok (.iaload, 1) := by decide +kernel
theorem dX5_bestStart_43 : decode cX5_bestStart 43 = .ok (.if_icmp .ge 49, 3) := by decide +kernel
theorem dX5_bestStart_46 : decode cX5_bestStart 46 = .ok (.aload_n 0, 1) := by decide +kernel
theorem dX5_bestStart_47 : decode cX5_bestStart 47 = .ok (.iload 4, 2) := by decide +kernel
theorem dX5_bestStart_49 : decode cX5_bestStart 49 = .ok (.aload_n 0, 1) := by decide +kernel
theorem dX5_bestStart_50 : decode cX5_bestStart 50 = .ok (.getfield 7, 3) := by decide +kernel
theorem dX5_bestStart_53 : decode cX5_bestStart 53 = .ok (.iconst 4, 1) := by decide +kernel
theorem dX5_bestStart_54 : decode cX5_bestStart 54 = .ok (.iaload, 1) := by decide +kernel
theorem dX5_bestStart_55 : decode cX5_bestStart 55 = .ok (.invokevirtual 223, 3) := by decide +kernel
theorem dX5_bestStart_58 : decode cX5_bestStart 58 = .ok (.istore 5, 2) := by decide +kernel
theorem dX5_bestStart_60 : decode cX5_bestStart 60 = .ok (.iload 5, 2) := by decide +kernel
theorem dX5_bestStart_62 : decode cX5_bestStart 62 = .ok (.iload_n 3, 1) := by decide +kernel
theorem dX5_bestStart_63 : decode cX5_bestStart 63 = .ok (.if_icmp .ge 8, 3) := by decide +kernel
theorem dX5_bestStart_66 : decode cX5_bestStart 66 = .ok (.iload 4, 2) := by decide +kernel
theorem dX5_bestStart_68 : decode cX5_bestStart 68 = .ok (.goto 4, 3) := by decide +kernel
theorem dX5_bestStart_71 : decode cX5_bestStart 71 = .ok (.iload_n 2, 1) := by decide +kernel
theorem dX5_bestStart_72 : decode cX5_bestStart 72 = .ok (.istore_n 2, 1) := by decide +kernel
theorem dX5_bestStart_73 : decode cX5_bestStart 73 = .ok (.iload 5, 2) := by decide +kernel
theorem dX5_bestStart_75 : decode cX5_bestStart 75 = .ok (.iload_n 3, 1) := by decide +kernel
theorem dX5_bestStart_76 : decode cX5_bestStart 76 = .ok (.if_icmp .ge 8, 3) := by decide +kernel
theorem dX5_bestStart_79 : decode cX5_bestStart 79 = .ok (.iload 5, 2) := by decide +kernel
theorem dX5_bestStart_81 : decode cX5_bestStart 81 = .ok (.goto 4, 3) := by decide +kernel
theorem dX5_bestStart_84 : decode cX5_bestStart 84 = .ok (.iload_n 3, 1) := by decide +kernel
theorem dX5_bestStart_85 : decode cX5_bestStart 85 = .ok (.istore_n 3, 1) := by decide +kernel
theorem dX5_bestStart_86 : decode cX5_bestStart 86 = .ok (.iinc 4 1, 3) := by decide +kernel
theorem dX5_bestStart_89 : decode cX5_bestStart 89 = .ok (.goto (-54), 3) := by decide +kernel
theorem dX5_bestStart_92 : decode cX5_bestStart 92 = .ok (.iload_n 1, 1) := by decide +kernel
theorem dX5_bestStart_93 : decode cX5_bestStart 93 = .ok (.ifCond .ne 7, 3) := by decide +kernel
theorem dX5_bestStart_96 : decode cX5_bestStart 96 = .ok (.iload_n 2, 1) := by decide +kernel
theorem dX5_bestStart_97 : decode cX5_bestStart 97 = .ok (.goto 4, 3) := by decide +kernel
theorem dX5_bestStart_100 : decode cX5_bestStart 100 = .ok (.iload_n 3, 1) := by decide +kernel
theorem dX5_bestStart_101 : decode cX5_bestStart 101 = .ok (.ireturn, 1) := by decide +kernel
set_option maxRecDepth 20000 in
theorem ggX5_reckonWays_X5_spotAt : GoodIn wsX5_reckonWays wsX5_spotAt := goodIn_r _ [8, 1, 15, 16, 17, 18, 19, 20, 21, 22, 23, 24, 25, 26, 27, 28] (by decide +kernel) (by decide +kernel)
set_option maxRecDepth 20000 in
theorem gX5_reckonWays_X5_spotAt : GoodIn wsX5_reckonWays (wsV RX5 50 RX5 yX5_spotAt wsX5_spotAt) := goodIn_app (goodIn_of _ (by decide +kernel)) ggX5_reckonWays_X5_spotAt
set_option maxRecDepth 20000 in
theorem ggX5_reckonWays_X5_way : GoodIn wsX5_reckonWays wsX5_way := goodIn_r _ [11, 12, 13, 7, 14] (by decide +kernel) (by decide +kernel)
set_option maxRecDepth 20000 in
theorem gX5_reckonWays_X5_way : GoodIn wsX5_reckonWays (va_wsS RX5 53 yX5_way wsX5_way) := goodIn_app (goodIn_of _ (by decide +kernel)) ggX5_reckonWays_X5_way
theorem dX5_reckonWays_0 : decode cX5_reckonWays 0 = .ok (.iconst 1, 1) := by decide +kernel
theorem dX5_reckonWays_1 : decode cX5_reckonWays 1 = .ok (.aload_n 0, 1) := by decide +kernel
theorem dX5_reckonWays_2 : decode cX5_reckonWays 2 = .ok (.getfield 7, 3) := by decide +kernel
theorem dX5_reckonWays_5 : decode cX5_reckonWays 5 = .ok (.bipush 6, 2) := by decide +kernel
theorem dX5_reckonWays_7 : decode cX5_reckonWays 7 = .ok (.iaload, 1) := by decide +kernel
theorem dX5_reckonWays_8 : decode cX5_reckonWays 8 = .ok (.ishl, 1) := by decide +kernel
theorem dX5_reckonWays_9 : decode cX5_reckonWays 9 = .ok (.istore_n 1, 1) := by decide +kernel
theorem dX5_reckonWays_10 : decode cX5_reckonWays 10 = .ok (.iload_n 1, 1) := by decide +kernel
theorem dX5_reckonWays_11 : decode cX5_reckonWays 11 = .ok (.iconst 1, 1) := by decide +kernel
theorem dX5_reckonWays_12 : decode cX5_reckonWays 12 = .ok (.isub, 1) := by decide +kernel
theorem dX5_reckonWays_13 : decode cX5_reckonWays 13 = .ok (.istore_n 2, 1) := by decide +kernel
theorem dX5_reckonWays_14 : decode cX5_reckonWays 14 = .ok (.iload_n 2, 1) := by decide +kernel
theorem dX5_reckonWays_15 : decode cX5_reckonWays 15 = .ok (.ifCond .le 142, 3) := by decide +kernel
theorem dX5_reckonWays_18 : decode cX5_reckonWays 18 = .ok (.iconst 0, 1) := by decide +kernel
theorem dX5_reckonWays_19 : decode cX5_reckonWays 19 = .ok (.istore_n 3, 1) := by decide +kernel
theorem dX5_reckonWays_20 : decode cX5_reckonWays 20 = .ok (.iload_n 3, 1) := by decide +kernel
theorem dX5_reckonWays_21 : decode cX5_reckonWays 21 = .ok (.aload_n 0, 1) := by decide +kernel
theorem dX5_reckonWays_22 : decode cX5_reckonWays 22 = .ok (.getfield 7, 3) := by decide +kernel
theorem dX5_reckonWays_25 : decode cX5_reckonWays 25 = .ok (.bipush 6, 2) := by decide +kernel
theorem dX5_reckonWays_27 : decode cX5_reckonWays 27 = .ok (.iaload, 1) := by decide +kernel
theorem dX5_reckonWays_28 : decode cX5_reckonWays 28 = .ok (.if_icmp .ge 123, 3) := by decide +kernel
theorem dX5_reckonWays_31 : decode cX5_reckonWays 31 = .ok (.iload_n 2, 1) := by decide +kernel
theorem dX5_reckonWays_32 : decode cX5_reckonWays 32 = .ok (.iload_n 1, 1) := by decide +kernel
theorem dX5_reckonWays_33 : decode cX5_reckonWays 33 = .ok (.iconst 1, 1) := by decide +kernel
theorem dX5_reckonWays_34 : decode cX5_reckonWays 34 = .ok (.isub, 1) := by decide +kernel
theorem dX5_reckonWays_35 : decode cX5_reckonWays 35 = .ok (.if_icmp .ne 7, 3) := by decide +kernel
theorem dX5_reckonWays_38 : decode cX5_reckonWays 38 = .ok (.iconst 0, 1) := by decide +kernel
theorem dX5_reckonWays_39 : decode cX5_reckonWays 39 = .ok (.goto 5, 3) := by decide +kernel
theorem dX5_reckonWays_42 : decode cX5_reckonWays 42 = .ok (.ldc 226, 2) := by decide +kernel
theorem dX5_reckonWays_44 : decode cX5_reckonWays 44 = .ok (.istore 4, 2) := by decide +kernel
theorem dX5_reckonWays_46 : decode cX5_reckonWays 46 = .ok (.iconst 0, 1) := by decide +kernel
theorem dX5_reckonWays_47 : decode cX5_reckonWays 47 = .ok (.istore 5, 2) := by decide +kernel
theorem dX5_reckonWays_49 : decode cX5_reckonWays 49 = .ok (.iload 5, 2) := by decide +kernel
theorem dX5_reckonWays_51 : decode cX5_reckonWays 51 = .ok (.aload_n 0, 1) := by decide +kernel
theorem dX5_reckonWays_52 : decode cX5_reckonWays 52 = .ok (.getfield 7, 3) := by decide +kernel
theorem dX5_reckonWays_55 : decode cX5_reckonWays 55 = .ok (.bipush 6, 2) := by decide +kernel
theorem dX5_reckonWays_57 : decode cX5_reckonWays 57 = .ok (.iaload, 1) := by decide +kernel
theorem dX5_reckonWays_58 : decode cX5_reckonWays 58 = .ok (.if_icmp .ge 74, 3) := by decide +kernel
theorem dX5_reckonWays_61 : decode cX5_reckonWays 61 = .ok (.iload_n 2, 1) := by decide +kernel
theorem dX5_reckonWays_62 : decode cX5_reckonWays 62 = .ok (.iload 5, 2) := by decide +kernel
theorem dX5_reckonWays_64 : decode cX5_reckonWays 64 = .ok (.ishr, 1) := by decide +kernel
theorem dX5_reckonWays_65 : decode cX5_reckonWays 65 = .ok (.iconst 1, 1) := by decide +kernel
theorem dX5_reckonWays_66 : decode cX5_reckonWays 66 = .ok (.iand, 1) := by decide +kernel
theorem dX5_reckonWays_67 : decode cX5_reckonWays 67 = .ok (.iconst 1, 1) := by decide +kernel
theorem dX5_reckonWays_68 : decode cX5_reckonWays 68 = .ok (.if_icmp .ne 8, 3) := by decide +kernel
theorem dX5_reckonWays_71 : decode cX5_reckonWays 71 = .ok (.ldc 226, 2) := by decide +kernel
theorem dX5_reckonWays_73 : decode cX5_reckonWays 73 = .ok (.goto 35, 3) := by decide +kernel
theorem dX5_reckonWays_76 : decode cX5_reckonWays 76 = .ok (.aload_n 0, 1) := by decide +kernel
theorem dX5_reckonWays_77 : decode cX5_reckonWays 77 = .ok (.iload_n 3, 1) := by decide +kernel
theorem dX5_reckonWays_78 : decode cX5_reckonWays 78 = .ok (.invokevirtual 50, 3) := by decide +kernel
theorem dX5_reckonWays_81 : decode cX5_reckonWays 81 = .ok (.aload_n 0, 1) := by decide +kernel
theorem dX5_reckonWays_82 : decode cX5_reckonWays 82 = .ok (.iload 5, 2) := by decide +kernel
theorem dX5_reckonWays_84 : decode cX5_reckonWays 84 = .ok (.invokevirtual 50, 3) := by decide +kernel
theorem dX5_reckonWays_87 : decode cX5_reckonWays 87 = .ok (.invokestatic 53, 3) := by decide +kernel
theorem dX5_reckonWays_90 : decode cX5_reckonWays 90 = .ok (.aload_n 0, 1) := by decide +kernel
theorem dX5_reckonWays_91 : decode cX5_reckonWays 91 = .ok (.getfield 29, 3) := by decide +kernel
theorem dX5_reckonWays_94 : decode cX5_reckonWays 94 = .ok (.bipush 12, 2) := by decide +kernel
theorem dX5_reckonWays_96 : decode cX5_reckonWays 96 = .ok (.iload_n 2, 1) := by decide +kernel
theorem dX5_reckonWays_97 : decode cX5_reckonWays 97 = .ok (.iconst 1, 1) := by decide +kernel
theorem dX5_reckonWays_98 : decode cX5_reckonWays 98 = .ok (.iload 5, 2) := by decide +kernel
theorem dX5_reckonWays_100 : decode cX5_reckonWays 100 = .ok (.ishl, 1) := by decide +kernel
theorem dX5_reckonWays_101 : decode cX5_reckonWays 101 = .ok (.ior, 1) := by decide +kernel
theorem dX5_reckonWays_102 : decode cX5_reckonWays 102 = .ok (.imul, 1) := by decide +kernel
theorem dX5_reckonWays_103 : decode cX5_reckonWays 103 = .ok (.iload 5, 2) := by decide +kernel
theorem dX5_reckonWays_105 : decode cX5_reckonWays 105 = .ok (.iadd, 1) := by decide +kernel
theorem dX5_reckonWays_106 : decode cX5_reckonWays 106 = .ok (.iaload, 1) := by decide +kernel
theorem dX5_reckonWays_107 : decode cX5_reckonWays 107 = .ok (.iadd, 1) := by decide +kernel
theorem dX5_reckonWays_108 : decode cX5_reckonWays 108 = .ok (.istore 6, 2) := by decide +kernel
theorem dX5_reckonWays_110 : decode cX5_reckonWays 110 = .ok (.iload 6, 2) := by decide +kernel
theorem dX5_reckonWays_112 : decode cX5_reckonWays 112 = .ok (.iload 4, 2) := by decide +kernel
theorem dX5_reckonWays_114 : decode cX5_reckonWays 114 = .ok (.if_icmp .ge 8, 3) := by decide +kernel
theorem dX5_reckonWays_117 : decode cX5_reckonWays 117 = .ok (.iload 6, 2) := by decide +kernel
theorem dX5_reckonWays_119 : decode cX5_reckonWays 119 = .ok (.goto 5, 3) := by decide +kernel
theorem dX5_reckonWays_122 : decode cX5_reckonWays 122 = .ok (.iload 4, 2) := by decide +kernel
theorem dX5_reckonWays_124 : decode cX5_reckonWays 124 = .ok (.istore 4, 2) := by decide +kernel
theorem dX5_reckonWays_126 : decode cX5_reckonWays 126 = .ok (.iinc 5 1, 3) := by decide +kernel
theorem dX5_reckonWays_129 : decode cX5_reckonWays 129 = .ok (.goto (-80), 3) := by decide +kernel
theorem dX5_reckonWays_132 : decode cX5_reckonWays 132 = .ok (.aload_n 0, 1) := by decide +kernel
theorem dX5_reckonWays_133 : decode cX5_reckonWays 133 = .ok (.getfield 29, 3) := by decide +kernel
theorem dX5_reckonWays_136 : decode cX5_reckonWays 136 = .ok (.bipush 12, 2) := by decide +kernel
theorem dX5_reckonWays_138 : decode cX5_reckonWays 138 = .ok (.iload_n 2, 1) := by decide +kernel
theorem dX5_reckonWays_139 : decode cX5_reckonWays 139 = .ok (.imul, 1) := by decide +kernel
theorem dX5_reckonWays_140 : decode cX5_reckonWays 140 = .ok (.iload_n 3, 1) := by decide +kernel
theorem dX5_reckonWays_141 : decode cX5_reckonWays 141 = .ok (.iadd, 1) := by decide +kernel
theorem dX5_reckonWays_142 : decode cX5_reckonWays 142 = .ok (.iload 4, 2) := by decide +kernel
theorem dX5_reckonWays_144 : decode cX5_reckonWays 144 = .ok (.iastore, 1) := by decide +kernel
theorem dX5_reckonWays_145 : decode cX5_reckonWays 145 = .ok (.iinc 3 1, 3) := by decide +kernel
theorem dX5_reckonWays_148 : decode cX5_reckonWays 148 = .ok (.goto (-128), 3) := by decide +kernel
theorem dX5_reckonWays_151 : decode cX5_reckonWays 151 = .ok (.iinc 2 (-1), 3) := by decide +kernel
theorem dX5_reckonWays_154 : decode cX5_reckonWays 154 = .ok (.goto (-140), 3) := by decide +kernel
theorem dX5_reckonWays_157 : decode cX5_reckonWays 157 = .ok (.return_, 1) := by decide +kernel
set_option maxRecDepth 20000 in
theorem ggX5_leastTravel_X5_reckonWays : GoodIn wsX5_leastTravel wsX5_reckonWays := goodIn_r _ [9, 2, 3, 4, 10, 11, 12, 8, 13, 14, 15, 16, 17, 18, 19, 20, 21, 22, 23, 24, 25, 26, 27, 28, 29, 30, 31, 32, 33] (by decide +kernel) (by decide +kernel)
set_option maxRecDepth 20000 in
theorem gX5_leastTravel_X5_reckonWays : GoodIn wsX5_leastTravel (wsV RX5 227 RX5 yX5_reckonWays wsX5_reckonWays) := goodIn_app (goodIn_of _ (by decide +kernel)) ggX5_leastTravel_X5_reckonWays
set_option maxRecDepth 20000 in
theorem ggX5_leastTravel_X5_spotAt : GoodIn wsX5_leastTravel wsX5_spotAt := goodIn_r _ [13, 2, 20, 21, 22, 23, 24, 25, 26, 27, 28, 29, 30, 31, 32, 33] (by decide +kernel) (by decide +kernel)
set_option maxRecDepth 20000 in
theorem gX5_leastTravel_X5_spotAt : GoodIn wsX5_leastTravel (wsV RX5 50 RX5 yX5_spotAt wsX5_spotAt) := goodIn_app (goodIn_of _ (by decide +kernel)) ggX5_leastTravel_X5_spotAt
set_option maxRecDepth 20000 in
theorem ggX5_leastTravel_X5_way : GoodIn wsX5_leastTravel wsX5_way := goodIn_r _ [16, 17, 18, 8, 19] (by decide +kernel) (by decide +kernel)
set_option maxRecDepth 20000 in
theorem gX5_leastTravel_X5_way : GoodIn wsX5_leastTravel (va_wsS RX5 53 yX5_way wsX5_way) := goodIn_app (goodIn_of _ (by decide +kernel)) ggX5_leastTravel_X5_way
theorem dX5_leastTravel_0 : decode cX5_leastTravel 0 = .ok (.aload_n 0, 1) := by decide +kernel
theorem dX5_leastTravel_1 : decode cX5_leastTravel 1 = .ok (.iconst 0, 1) := by decide +kernel
theorem dX5_leastTravel_2 : decode cX5_leastTravel 2 = .ok (.putfield 32, 3) := by decide +kernel
theorem dX5_leastTravel_5 : decode cX5_leastTravel 5 = .ok (.iload_n 1, 1) := by decide +kernel
theorem dX5_leastTravel_6 : decode cX5_leastTravel 6 = .ok (.iconst (-1), 1) := by decide +kernel
theorem dX5_leastTravel_7 : decode cX5_leastTravel 7 = .ok (.if_icmp .ge 5, 3) := by decide +kernel
theorem dX5_leastTravel_10 : decode cX5_leastTravel 10 = .ok (.iconst (-1), 1) := by decide +kernel
theorem dX5_leastTravel_11 : decode cX5_leastTravel 11 = .ok (.ireturn, 1) := by decide +kernel
theorem dX5_leastTravel_12 : decode cX5_leastTravel 12 = .ok (.iload_n 1, 1) := by decide +kernel
theorem dX5_leastTravel_13 : decode cX5_leastTravel 13 = .ok (.aload_n 0, 1) := by decide +kernel
theorem dX5_leastTravel_14 : decode cX5_leastTravel 14 = .ok (.getfield 7, 3) := by decide +kernel
theorem dX5_leastTravel_17 : decode cX5_leastTravel 17 = .ok (.bipush 6, 2) := by decide +kernel
theorem dX5_leastTravel_19 : decode cX5_leastTravel 19 = .ok (.iaload, 1) := by decide +kernel
theorem dX5_leastTravel_20 : decode cX5_leastTravel 20 = .ok (.if_icmp .lt 6, 3) := by decide +kernel
theorem dX5_leastTravel_23 : decode cX5_leastTravel 23 = .ok (.bipush (-9), 2) := by decide +kernel
theorem dX5_leastTravel_25 : decode cX5_leastTravel 25 = .ok (.ireturn, 1) := by decide +kernel
theorem dX5_leastTravel_26 : decode cX5_leastTravel 26 = .ok (.aload_n 0, 1) := by decide +kernel
theorem dX5_leastTravel_27 : decode cX5_leastTravel 27 = .ok (.invokevirtual 227, 3) := by decide +kernel
theorem dX5_leastTravel_30 : decode cX5_leastTravel 30 = .ok (.iconst 0, 1) := by decide +kernel
theorem dX5_leastTravel_31 : decode cX5_leastTravel 31 = .ok (.istore_n 2, 1) := by decide +kernel
theorem dX5_leastTravel_32 : decode cX5_leastTravel 32 = .ok (.iconst 0, 1) := by decide +kernel
theorem dX5_leastTravel_33 : decode cX5_leastTravel 33 = .ok (.istore_n 3, 1) := by decide +kernel
theorem dX5_leastTravel_34 : decode cX5_leastTravel 34 = .ok (.iconst 0, 1) := by decide +kernel
theorem dX5_leastTravel_35 : decode cX5_leastTravel 35 = .ok (.istore 4, 2) := by decide +kernel
theorem dX5_leastTravel_37 : decode cX5_leastTravel 37 = .ok (.iconst 0, 1) := by decide +kernel
theorem dX5_leastTravel_38 : decode cX5_leastTravel 38 = .ok (.istore 5, 2) := by decide +kernel
theorem dX5_leastTravel_40 : decode cX5_leastTravel 40 = .ok (.iload 5, 2) := by decide +kernel
theorem dX5_leastTravel_42 : decode cX5_leastTravel 42 = .ok (.aload_n 0, 1) := by decide +kernel
theorem dX5_leastTravel_43 : decode cX5_leastTravel 43 = .ok (.getfield 7, 3) := by decide +kernel
theorem dX5_leastTravel_46 : decode cX5_leastTravel 46 = .ok (.bipush 6, 2) := by decide +kernel
theorem dX5_leastTravel_48 : decode cX5_leastTravel 48 = .ok (.iaload, 1) := by decide +kernel
theorem dX5_leastTravel_49 : decode cX5_leastTravel 49 = .ok (.if_icmp .ge 192, 3) := by decide +kernel
theorem dX5_leastTravel_52 : decode cX5_leastTravel 52 = .ok (.bipush (-9), 2) := by decide +kernel
theorem dX5_leastTravel_54 : decode cX5_leastTravel 54 = .ok (.istore 6, 2) := by decide +kernel
theorem dX5_leastTravel_56 : decode cX5_leastTravel 56 = .ok (.ldc 226, 2) := by decide +kernel
theorem dX5_leastTravel_58 : decode cX5_leastTravel 58 = .ok (.istore 7, 2) := by decide +kernel
theorem dX5_leastTravel_60 : decode cX5_leastTravel 60 = .ok (.iconst 0, 1) := by decide +kernel
theorem dX5_leastTravel_61 : decode cX5_leastTravel 61 = .ok (.istore 8, 2) := by decide +kernel
theorem dX5_leastTravel_63 : decode cX5_leastTravel 63 = .ok (.iload 8, 2) := by decide +kernel
theorem dX5_leastTravel_65 : decode cX5_leastTravel 65 = .ok (.aload_n 0, 1) := by decide +kernel
theorem dX5_leastTravel_66 : decode cX5_leastTravel 66 = .ok (.getfield 7, 3) := by decide +kernel
theorem dX5_leastTravel_69 : decode cX5_leastTravel 69 = .ok (.bipush 6, 2) := by decide +kernel
theorem dX5_leastTravel_71 : decode cX5_leastTravel 71 = .ok (.iaload, 1) := by decide +kernel
theorem dX5_leastTravel_72 : decode cX5_leastTravel 72 = .ok (.if_icmp .ge 127, 3) := by decide +kernel
theorem dX5_leastTravel_75 : decode cX5_leastTravel 75 = .ok (.iload 4, 2) := by decide +kernel
theorem dX5_leastTravel_77 : decode cX5_leastTravel 77 = .ok (.iload 8, 2) := by decide +kernel
theorem dX5_leastTravel_79 : decode cX5_leastTravel 79 = .ok (.ishr, 1) := by decide +kernel
theorem dX5_leastTravel_80 : decode cX5_leastTravel 80 = .ok (.iconst 1, 1) := by decide +kernel
theorem dX5_leastTravel_81 : decode cX5_leastTravel 81 = .ok (.iand, 1) := by decide +kernel
theorem dX5_leastTravel_82 : decode cX5_leastTravel 82 = .ok (.iconst 1, 1) := by decide +kernel
theorem dX5_leastTravel_83 : decode cX5_leastTravel 83 = .ok (.if_icmp .ne 8, 3) := by decide +kernel
theorem dX5_leastTravel_86 : decode cX5_leastTravel 86 = .ok (.ldc 226, 2) := by decide +kernel
theorem dX5_leastTravel_88 : decode cX5_leastTravel 88 = .ok (.goto 32, 3) := by decide +kernel
theorem dX5_leastTravel_91 : decode cX5_leastTravel 91 = .ok (.iload_n 3, 1) := by decide +kernel
theorem dX5_leastTravel_92 : decode cX5_leastTravel 92 = .ok (.aload_n 0, 1) := by decide +kernel
theorem dX5_leastTravel_93 : decode cX5_leastTravel 93 = .ok (.iload 8, 2) := by decide +kernel
theorem dX5_leastTravel_95 : decode cX5_leastTravel 95 = .ok (.invokevirtual 50, 3) := by decide +kernel
theorem dX5_leastTravel_98 : decode cX5_leastTravel 98 = .ok (.invokestatic 53, 3) := by decide +kernel
theorem dX5_leastTravel_101 : decode cX5_leastTravel 101 = .ok (.aload_n 0, 1) := by decide +kernel
theorem dX5_leastTravel_102 : decode cX5_leastTravel 102 = .ok (.getfield 29, 3) := by decide +kernel
theorem dX5_leastTravel_105 : decode cX5_leastTravel 105 = .ok (.bipush 12, 2) := by decide +kernel
theorem dX5_leastTravel_107 : decode cX5_leastTravel 107 = .ok (.iload 4, 2) := by decide +kernel
theorem dX5_leastTravel_109 : decode cX5_leastTravel 109 = .ok (.iconst 1, 1) := by decide +kernel
theorem dX5_leastTravel_110 : decode cX5_leastTravel 110 = .ok (.iload 8, 2) := by decide +kernel
theorem dX5_leastTravel_112 : decode cX5_leastTravel 112 = .ok (.ishl, 1) := by decide +kernel
theorem dX5_leastTravel_113 : decode cX5_leastTravel 113 = .ok (.ior, 1) := by decide +kernel
theorem dX5_leastTravel_114 : decode cX5_leastTravel 114 = .ok (.imul, 1) := by decide +kernel
theorem dX5_leastTravel_115 : decode cX5_leastTravel 115 = .ok (.iload 8, 2) := by decide +kernel
theorem dX5_leastTravel_117 : decode cX5_leastTravel 117 = .ok (.iadd, 1) := by decide +kernel
theorem dX5_leastTravel_118 : decode cX5_leastTravel 118 = .ok (.iaload, 1) := by decide +kernel
theorem dX5_leastTravel_119 : decode cX5_leastTravel 119 = .ok (.iadd, 1) := by decide +kernel
theorem dX5_leastTravel_120 : decode cX5_leastTravel 120 = .ok (.istore 9, 2) := by decide +kernel
theorem dX5_leastTravel_122 : decode cX5_leastTravel 122 = .ok (.iload 9, 2) := by decide +kernel
theorem dX5_leastTravel_124 : decode cX5_leastTravel 124 = .ok (.iload 7, 2) := by decide +kernel
theorem dX5_leastTravel_126 : decode cX5_leastTravel 126 = .ok (.if_icmp .lt 32, 3) := by decide +kernel
theorem dX5_leastTravel_129 : decode cX5_leastTravel 129 = .ok (.iload 9, 2) := by decide +kernel
theorem dX5_leastTravel_131 : decode cX5_leastTravel 131 = .ok (.iload 7, 2) := by decide +kernel
theorem dX5_leastTravel_133 : decode cX5_leastTravel 133 = .ok (.if_icmp .ne 29, 3) := by decide +kernel
theorem dX5_leastTravel_136 : decode cX5_leastTravel 136 = .ok (.iload 9, 2) := by decide +kernel
theorem dX5_leastTravel_138 : decode cX5_leastTravel 138 = .ok (.ldc 226, 2) := by decide +kernel
theorem dX5_leastTravel_140 : decode cX5_leastTravel 140 = .ok (.if_icmp .ge 22, 3) := by decide +kernel
theorem dX5_leastTravel_143 : decode cX5_leastTravel 143 = .ok (.aload_n 0, 1) := by decide +kernel
theorem dX5_leastTravel_144 : decode cX5_leastTravel 144 = .ok (.iload 8, 2) := by decide +kernel
theorem dX5_leastTravel_146 : decode cX5_leastTravel 146 = .ok (.invokevirtual 50, 3) := by decide +kernel
theorem dX5_leastTravel_149 : decode cX5_leastTravel 149 = .ok (.aload_n 0, 1) := by decide +kernel
theorem dX5_leastTravel_150 : decode cX5_leastTravel 150 = .ok (.iload 6, 2) := by decide +kernel
theorem dX5_leastTravel_152 : decode cX5_leastTravel 152 = .ok (.invokevirtual 50, 3) := by decide +kernel
theorem dX5_leastTravel_155 : decode cX5_leastTravel 155 = .ok (.if_icmp .ge 7, 3) := by decide +kernel
theorem dX5_leastTravel_158 : decode cX5_leastTravel 158 = .ok (.iconst 1, 1) := by decide +kernel
theorem dX5_leastTravel_159 : decode cX5_leastTravel 159 = .ok (.goto 4, 3) := by decide +kernel
theorem dX5_leastTravel_162 : decode cX5_leastTravel 162 = .ok (.iconst 0, 1) := by decide +kernel
theorem dX5_leastTravel_163 : decode cX5_leastTravel 163 = .ok (.istore 10, 2) := by decide +kernel
theorem dX5_leastTravel_165 : decode cX5_leastTravel 165 = .ok (.iload 10, 2) := by decide +kernel
theorem dX5_leastTravel_167 : decode cX5_leastTravel 167 = .ok (.ifCond .eq 8, 3) := by decide +kernel
theorem dX5_leastTravel_170 : decode cX5_leastTravel 170 = .ok (.iload 8, 2) := by decide +kernel
theorem dX5_leastTravel_172 : decode cX5_leastTravel 172 = .ok (.goto 5, 3) := by decide +kernel
theorem dX5_leastTravel_175 : decode cX5_leastTravel 175 = .ok (.iload 6, 2) := by decide +kernel
theorem dX5_leastTravel_177 : decode cX5_leastTravel 177 = .ok (.istore 6, 2) := by decide +kernel
theorem dX5_leastTravel_179 : decode cX5_leastTravel 179 = .ok (.iload 10, 2) := by decide +kernel
theorem dX5_leastTravel_181 : decode cX5_leastTravel 181 = .ok (.ifCond .eq 8, 3) := by decide +kernel
theorem dX5_leastTravel_184 : decode cX5_leastTravel 184 = .ok (.iload 9, 2) := by decide +kernel
theorem dX5_leastTravel_186 : decode cX5_leastTravel 186 = .ok (.goto 5, 3) := by decide +kernel
theorem dX5_leastTravel_189 : decode cX5_leastTravel 189 = .ok (.iload 7, 2) := by decide +kernel
theorem dX5_leastTravel_191 : decode cX5_leastTravel 191 = .ok (.istore 7, 2) := by decide +kernel
theorem dX5_leastTravel_193 : decode cX5_leastTravel 193 = .ok (.iinc 8 1, 3) := by decide +kernel
theorem dX5_leastTravel_196 : decode cX5_leastTravel 196 = .ok (.goto (-133), 3) := by decide +kernel
theorem dX5_leastTravel_199 : decode cX5_leastTravel 199 = .ok (.iload 5, 2) := by decide +kernel
theorem dX5_leastTravel_201 : decode cX5_leastTravel 201 = .ok (.ifCond .ne 8, 3) := by decide +kernel
theorem dX5_leastTravel_204 : decode cX5_leastTravel 204 = .ok (.iload 7, 2) := by decide +kernel
theorem dX5_leastTravel_206 : decode cX5_leastTravel 206 = .ok (.goto 4, 3) := by decide +kernel
theorem dX5_leastTravel_209 : decode cX5_leastTravel 209 = .ok (.iload_n 2, 1) := by decide +kernel
theorem dX5_leastTravel_210 : decode cX5_leastTravel 210 = .ok (.istore_n 2, 1) := by decide +kernel
theorem dX5_leastTravel_211 : decode cX5_leastTravel 211 = .ok (.aload_n 0, 1) := by decide +kernel
theorem dX5_leastTravel_212 : decode cX5_leastTravel 212 = .ok (.iload 6, 2) := by decide +kernel
theorem dX5_leastTravel_214 : decode cX5_leastTravel 214 = .ok (.invokevirtual 50, 3) := by decide +kernel
theorem dX5_leastTravel_217 : decode cX5_leastTravel 217 = .ok (.istore_n 3, 1) := by decide +kernel
theorem dX5_leastTravel_218 : decode cX5_leastTravel 218 = .ok (.iload 4, 2) := by decide +kernel
theorem dX5_leastTravel_220 : decode cX5_leastTravel 220 = .ok (.iconst 1, 1) := by decide +kernel
theorem dX5_leastTravel_221 : decode cX5_leastTravel 221 = .ok (.iload 6, 2) := by decide +kernel
theorem dX5_leastTravel_223 : decode cX5_leastTravel 223 = .ok (.ishl, 1) := by decide +kernel
theorem dX5_leastTravel_224 : decode cX5_leastTravel 224 = .ok (.ior, 1) := by decide +kernel
theorem dX5_leastTravel_225 : decode cX5_leastTravel 225 = .ok (.istore 4, 2) := by decide +kernel
theorem dX5_leastTravel_227 : decode cX5_leastTravel 227 = .ok (.iload 5, 2) := by decide +kernel
theorem dX5_leastTravel_229 : decode cX5_leastTravel 229 = .ok (.iload_n 1, 1) := by decide +kernel
theorem dX5_leastTravel_230 : decode cX5_leastTravel 230 = .ok (.if_icmp .ne 5, 3) := by decide +kernel
theorem dX5_leastTravel_233 : decode cX5_leastTravel 233 = .ok (.iload_n 3, 1) := by decide +kernel
theorem dX5_leastTravel_234 : decode cX5_leastTravel 234 = .ok (.ireturn, 1) := by decide +kernel
theorem dX5_leastTravel_235 : decode cX5_leastTravel 235 = .ok (.iinc 5 1, 3) := by decide +kernel
theorem dX5_leastTravel_238 : decode cX5_leastTravel 238 = .ok (.goto (-198), 3) := by decide +kernel
theorem dX5_leastTravel_241 : decode cX5_leastTravel 241 = .ok (.iload_n 2, 1) := by decide +kernel
theorem dX5_leastTravel_242 : decode cX5_leastTravel 242 = .ok (.ireturn, 1) := by decide +kernel
set_option maxRecDepth 20000 in
theorem ggX5_longest_X5_beam : GoodIn wsX5_longest wsX5_beam := goodIn_r _ [7, 8, 2, 9, 10, 11, 6, 12, 13, 14, 15, 16, 17, 18, 41, 42, 43, 44, 45, 46, 47, 48, 49, 50, 51, 52, 53, 54] (by decide +kernel) (by decide +kernel)
set_option maxRecDepth 20000 in
theorem gX5_longest_X5_beam : GoodIn wsX5_longest (wsV RX5 80 RX5 yX5_beam wsX5_beam) := goodIn_app (goodIn_of _ (by decide +kernel)) ggX5_longest_X5_beam
set_option maxRecDepth 20000 in
theorem ggX5_longest_X5_wrongFor : GoodIn wsX5_longest wsX5_wrongFor := goodIn_r _ [22, 2, 23, 24, 25, 6, 26, 8, 27, 28, 29, 30, 31, 32, 33, 34, 35, 36, 37, 38, 39, 40, 41, 42, 43, 44, 45, 46, 47, 48, 49, 50, 51, 52, 53, 54] (by decide +kernel) (by decide +kernel)
set_option maxRecDepth 20000 in
theorem gX5_longest_X5_wrongFor : GoodIn wsX5_longest (wsV RX5 223 RX5 yX5_wrongFor wsX5_wrongFor) := goodIn_app (goodIn_of _ (by decide +kernel)) ggX5_longest_X5_wrongFor
theorem dX5_longest_0 : decode cX5_longest 0 = .ok (.aload_n 0, 1) := by decide +kernel
theorem dX5_longest_1 : decode cX5_longest 1 = .ok (.iconst 0, 1) := by decide +kernel
theorem dX5_longest_2 : decode cX5_longest 2 = .ok (.putfield 32, 3) := by decide +kernel
theorem dX5_longest_5 : decode cX5_longest 5 = .ok (.aload_n 0, 1) := by decide +kernel
theorem dX5_longest_6 : decode cX5_longest 6 = .ok (.invokevirtual 80, 3) := by decide +kernel
theorem dX5_longest_9 : decode cX5_longest 9 = .ok (.bipush 50, 2) := by decide +kernel
theorem dX5_longest_11 : decode cX5_longest 11 = .ok (.istore_n 1, 1) := by decide +kernel
theorem dX5_longest_12 : decode cX5_longest 12 = .ok (.iload_n 1, 1) := by decide +kernel
theorem dX5_longest_13 : decode cX5_longest 13 = .ok (.ifCond .le 25, 3) := by decide +kernel
theorem dX5_longest_16 : decode cX5_longest 16 = .ok (.aload_n 0, 1) := by decide +kernel
theorem dX5_longest_17 : decode cX5_longest 17 = .ok (.aload_n 0, 1) := by decide +kernel
theorem dX5_longest_18 : decode cX5_longest 18 = .ok (.getfield 7, 3) := by decide +kernel
theorem dX5_longest_21 : decode cX5_longest 21 = .ok (.iconst 3, 1) := by decide +kernel
theorem dX5_longest_22 : decode cX5_longest 22 = .ok (.iaload, 1) := by decide +kernel
theorem dX5_longest_23 : decode cX5_longest 23 = .ok (.iload_n 1, 1) := by decide +kernel
theorem dX5_longest_24 : decode cX5_longest 24 = .ok (.invokevirtual 223, 3) := by decide +kernel
theorem dX5_longest_27 : decode cX5_longest 27 = .ok (.ifCond .ne 5, 3) := by decide +kernel
theorem dX5_longest_30 : decode cX5_longest 30 = .ok (.iload_n 1, 1) := by decide +kernel
theorem dX5_longest_31 : decode cX5_longest 31 = .ok (.ireturn, 1) := by decide +kernel
theorem dX5_longest_32 : decode cX5_longest 32 = .ok (.iinc 1 (-1), 3) := by decide +kernel
theorem dX5_longest_35 : decode cX5_longest 35 = .ok (.goto (-23), 3) := by decide +kernel
theorem dX5_longest_38 : decode cX5_longest 38 = .ok (.bipush (-9), 2) := by decide +kernel
theorem dX5_longest_40 : decode cX5_longest 40 = .ok (.ireturn, 1) := by decide +kernel
set_option maxRecDepth 20000 in
theorem ggX5_ticks_X5_in : GoodIn wsX5_ticks wsX5_in := goodIn_r _ [5] (by decide +kernel) (by decide +kernel)
set_option maxRecDepth 20000 in
theorem gX5_ticks_X5_in : GoodIn wsX5_ticks (va_wsS RX5 36 yX5_in wsX5_in) := goodIn_app (goodIn_of _ (by decide +kernel)) ggX5_ticks_X5_in
set_option maxRecDepth 20000 in
theorem ggX5_ticks_X5_fading : GoodIn wsX5_ticks wsX5_fading := goodIn_r _ [8, 9, 10, 4, 11] (by decide +kernel) (by decide +kernel)
set_option maxRecDepth 20000 in
theorem gX5_ticks_X5_fading : GoodIn wsX5_ticks (va_wsS RX5 57 yX5_fading wsX5_fading) := goodIn_app (goodIn_of _ (by decide +kernel)) ggX5_ticks_X5_fading
theorem dX5_ticks_0 : decode cX5_ticks 0 = .ok (.aload_n 0, 1) := by decide +kernel
theorem dX5_ticks_1 : decode cX5_ticks 1 = .ok (.iconst 0, 1) := by decide +kernel
theorem dX5_ticks_2 : decode cX5_ticks 2 = .ok (.putfield 32, 3) := by decide +kernel
theorem dX5_ticks_5 : decode cX5_ticks 5 = .ok (.iload_n 1, 1) := by decide +kernel
theorem dX5_ticks_6 : decode cX5_ticks 6 = .ok (.iconst 0, 1) := by decide +kernel
theorem dX5_ticks_7 : decode cX5_ticks 7 = .ok (.iconst 3, 1) := by decide +kernel
theorem dX5_ticks_8 : decode cX5_ticks 8 = .ok (.invokestatic 36, 3) := by decide +kernel
theorem dX5_ticks_11 : decode cX5_ticks 11 = .ok (.ifCond .eq 13, 3) := by decide +kernel
theorem dX5_ticks_14 : decode cX5_ticks 14 = .ok (.iload_n 2, 1) := by decide +kernel
theorem dX5_ticks_15 : decode cX5_ticks 15 = .ok (.iconst 1, 1) := by decide +kernel
theorem dX5_ticks_16 : decode cX5_ticks 16 = .ok (.bipush 100, 2) := by decide +kernel
theorem dX5_ticks_18 : decode cX5_ticks 18 = .ok (.invokestatic 36, 3) := by decide +kernel
theorem dX5_ticks_21 : decode cX5_ticks 21 = .ok (.ifCond .ne 5, 3) := by decide +kernel
theorem dX5_ticks_24 : decode cX5_ticks 24 = .ok (.iconst (-1), 1) := by decide +kernel
theorem dX5_ticks_25 : decode cX5_ticks 25 = .ok (.ireturn, 1) := by decide +kernel
theorem dX5_ticks_26 : decode cX5_ticks 26 = .ok (.iconst 0, 1) := by decide +kernel
theorem dX5_ticks_27 : decode cX5_ticks 27 = .ok (.istore_n 3, 1) := by decide +kernel
theorem dX5_ticks_28 : decode cX5_ticks 28 = .ok (.iload_n 1, 1) := by decide +kernel
theorem dX5_ticks_29 : decode cX5_ticks 29 = .ok (.iload_n 3, 1) := by decide +kernel
theorem dX5_ticks_30 : decode cX5_ticks 30 = .ok (.invokestatic 57, 3) := by decide +kernel
theorem dX5_ticks_33 : decode cX5_ticks 33 = .ok (.iload_n 2, 1) := by decide +kernel
theorem dX5_ticks_34 : decode cX5_ticks 34 = .ok (.if_icmp .lt 9, 3) := by decide +kernel
theorem dX5_ticks_37 : decode cX5_ticks 37 = .ok (.iinc 3 1, 3) := by decide +kernel
theorem dX5_ticks_40 : decode cX5_ticks 40 = .ok (.goto (-12), 3) := by decide +kernel
theorem dX5_ticks_43 : decode cX5_ticks 43 = .ok (.iload_n 3, 1) := by decide +kernel
theorem dX5_ticks_44 : decode cX5_ticks 44 = .ok (.ireturn, 1) := by decide +kernel
set_option maxRecDepth 20000 in
theorem ggX5_shortestPeriod_X5_lastTick : GoodIn wsX5_shortestPeriod wsX5_lastTick := goodIn_r _ [6, 7, 8, 9, 10, 5, 11, 12, 13, 14, 15, 16, 17, 18, 19, 20, 21, 22, 23, 24, 25, 26, 27, 28, 29, 30, 31] (by decide +kernel) (by decide +kernel)
set_option maxRecDepth 20000 in
theorem gX5_shortestPeriod_X5_lastTick : GoodIn wsX5_shortestPeriod (wsV RX5 230 RX5 yX5_lastTick wsX5_lastTick) := goodIn_app (goodIn_of _ (by decide +kernel)) ggX5_shortestPeriod_X5_lastTick
theorem dX5_shortestPeriod_0 : decode cX5_shortestPeriod 0 = .ok (.aload_n 0, 1) := by decide +kernel
theorem dX5_shortestPeriod_1 : decode cX5_shortestPeriod 1 = .ok (.iconst 0, 1) := by decide +kernel
theorem dX5_shortestPeriod_2 : decode cX5_shortestPeriod 2 = .ok (.putfield 32, 3) := by decide +kernel
theorem dX5_shortestPeriod_5 : decode cX5_shortestPeriod 5 = .ok (.aload_n 0, 1) := by decide +kernel
theorem dX5_shortestPeriod_6 : decode cX5_shortestPeriod 6 = .ok (.invokevirtual 230, 3) := by decide +kernel
theorem dX5_shortestPeriod_9 : decode cX5_shortestPeriod 9 = .ok (.iconst 1, 1) := by decide +kernel
theorem dX5_shortestPeriod_10 : decode cX5_shortestPeriod 10 = .ok (.iadd, 1) := by decide +kernel
theorem dX5_shortestPeriod_11 : decode cX5_shortestPeriod 11 = .ok (.istore_n 1, 1) := by decide +kernel
theorem dX5_shortestPeriod_12 : decode cX5_shortestPeriod 12 = .ok (.iload_n 1, 1) := by decide +kernel
theorem dX5_shortestPeriod_13 : decode cX5_shortestPeriod 13 = .ok (.bipush 8, 2) := by decide +kernel
theorem dX5_shortestPeriod_15 : decode cX5_shortestPeriod 15 = .ok (.if_icmp .ge 8, 3) := by decide +kernel
theorem dX5_shortestPeriod_18 : decode cX5_shortestPeriod 18 = .ok (.bipush 8, 2) := by decide +kernel
theorem dX5_shortestPeriod_20 : decode cX5_shortestPeriod 20 = .ok (.goto 16, 3) := by decide +kernel
theorem dX5_shortestPeriod_23 : decode cX5_shortestPeriod 23 = .ok (.iload_n 1, 1) := by decide +kernel
theorem dX5_shortestPeriod_24 : decode cX5_shortestPeriod 24 = .ok (.sipush 200, 3) := by decide +kernel
theorem dX5_shortestPeriod_27 : decode cX5_shortestPeriod 27 = .ok (.if_icmp .le 8, 3) := by decide +kernel
theorem dX5_shortestPeriod_30 : decode cX5_shortestPeriod 30 = .ok (.bipush (-9), 2) := by decide +kernel
theorem dX5_shortestPeriod_32 : decode cX5_shortestPeriod 32 = .ok (.goto 4, 3) := by decide +kernel
theorem dX5_shortestPeriod_35 : decode cX5_shortestPeriod 35 = .ok (.iload_n 1, 1) := by decide +kernel
theorem dX5_shortestPeriod_36 : decode cX5_shortestPeriod 36 = .ok (.ireturn, 1) := by decide +kernel
theorem dJ13_bitCount_95d88_0 : decode cJ13_bitCount_95d88 0 = .ok (.lload_n 0, 1) := by decide +kernel
theorem dJ13_bitCount_95d88_1 : decode cJ13_bitCount_95d88 1 = .ok (.lload_n 0, 1) := by decide +kernel
theorem dJ13_bitCount_95d88_2 : decode cJ13_bitCount_95d88 2 = .ok (.iconst 1, 1) := by decide +kernel
theorem dJ13_bitCount_95d88_3 : decode cJ13_bitCount_95d88 3 = .ok (.lushr, 1) := by decide +kernel
theorem dJ13_bitCount_95d88_4 : decode cJ13_bitCount_95d88 4 = .ok (.ldc2_w 314, 3) := by decide +kernel
theorem dJ13_bitCount_95d88_7 : decode cJ13_bitCount_95d88 7 = .ok (.land, 1) := by decide +kernel
theorem dJ13_bitCount_95d88_8 : decode cJ13_bitCount_95d88 8 = .ok (.lsub, 1) := by decide +kernel
theorem dJ13_bitCount_95d88_9 : decode cJ13_bitCount_95d88 9 = .ok (.lstore_n 0, 1) := by decide +kernel
theorem dJ13_bitCount_95d88_10 : decode cJ13_bitCount_95d88 10 = .ok (.lload_n 0, 1) := by decide +kernel
theorem dJ13_bitCount_95d88_11 : decode cJ13_bitCount_95d88 11 = .ok (.ldc2_w 316, 3) := by decide +kernel
theorem dJ13_bitCount_95d88_14 : decode cJ13_bitCount_95d88 14 = .ok (.land, 1) := by decide +kernel
theorem dJ13_bitCount_95d88_15 : decode cJ13_bitCount_95d88 15 = .ok (.lload_n 0, 1) := by decide +kernel
theorem dJ13_bitCount_95d88_16 : decode cJ13_bitCount_95d88 16 = .ok (.iconst 2, 1) := by decide +kernel
theorem dJ13_bitCount_95d88_17 : decode cJ13_bitCount_95d88 17 = .ok (.lushr, 1) := by decide +kernel
theorem dJ13_bitCount_95d88_18 : decode cJ13_bitCount_95d88 18 = .ok (.ldc2_w 316, 3) := by decide +kernel
theorem dJ13_bitCount_95d88_21 : decode cJ13_bitCount_95d88 21 = .ok (.land, 1) := by decide +kernel
theorem dJ13_bitCount_95d88_22 : decode cJ13_bitCount_95d88 22 = .ok (.ladd, 1) := by decide +kernel
theorem dJ13_bitCount_95d88_23 : decode cJ13_bitCount_95d88 23 = .ok (.lstore_n 0, 1) := by decide +kernel
theorem dJ13_bitCount_95d88_24 : decode cJ13_bitCount_95d88 24 = .ok (.lload_n 0, 1) := by decide +kernel
theorem dJ13_bitCount_95d88_25 : decode cJ13_bitCount_95d88 25 = .ok (.lload_n 0, 1) := by decide +kernel
theorem dJ13_bitCount_95d88_26 : decode cJ13_bitCount_95d88 26 = .ok (.iconst 4, 1) := by decide +kernel
theorem dJ13_bitCount_95d88_27 : decode cJ13_bitCount_95d88 27 = .ok (.lushr, 1) := by decide +kernel
theorem dJ13_bitCount_95d88_28 : decode cJ13_bitCount_95d88 28 = .ok (.ladd, 1) := by decide +kernel
theorem dJ13_bitCount_95d88_29 : decode cJ13_bitCount_95d88 29 = .ok (.ldc2_w 318, 3) := by decide +kernel
theorem dJ13_bitCount_95d88_32 : decode cJ13_bitCount_95d88 32 = .ok (.land, 1) := by decide +kernel
theorem dJ13_bitCount_95d88_33 : decode cJ13_bitCount_95d88 33 = .ok (.lstore_n 0, 1) := by decide +kernel
theorem dJ13_bitCount_95d88_34 : decode cJ13_bitCount_95d88 34 = .ok (.lload_n 0, 1) := by decide +kernel
theorem dJ13_bitCount_95d88_35 : decode cJ13_bitCount_95d88 35 = .ok (.lload_n 0, 1) := by decide +kernel
theorem dJ13_bitCount_95d88_36 : decode cJ13_bitCount_95d88 36 = .ok (.bipush 8, 2) := by decide +kernel
theorem dJ13_bitCount_95d88_38 : decode cJ13_bitCount_95d88 38 = .ok (.lushr, 1) := by decide +kernel
theorem dJ13_bitCount_95d88_39 : decode cJ13_bitCount_95d88 39 = .ok (.ladd, 1) := by decide +kernel
theorem dJ13_bitCount_95d88_40 : decode cJ13_bitCount_95d88 40 = .ok (.lstore_n 0, 1) := by decide +kernel
theorem dJ13_bitCount_95d88_41 : decode cJ13_bitCount_95d88 41 = .ok (.lload_n 0, 1) := by decide +kernel
theorem dJ13_bitCount_95d88_42 : decode cJ13_bitCount_95d88 42 = .ok (.lload_n 0, 1) := by decide +kernel
theorem dJ13_bitCount_95d88_43 : decode cJ13_bitCount_95d88 43 = .ok (.bipush 16, 2) := by decide +kernel
theorem dJ13_bitCount_95d88_45 : decode cJ13_bitCount_95d88 45 = .ok (.lushr, 1) := by decide +kernel
theorem dJ13_bitCount_95d88_46 : decode cJ13_bitCount_95d88 46 = .ok (.ladd, 1) := by decide +kernel
theorem dJ13_bitCount_95d88_47 : decode cJ13_bitCount_95d88 47 = .ok (.lstore_n 0, 1) := by decide +kernel
theorem dJ13_bitCount_95d88_48 : decode cJ13_bitCount_95d88 48 = .ok (.lload_n 0, 1) := by decide +kernel
theorem dJ13_bitCount_95d88_49 : decode cJ13_bitCount_95d88 49 = .ok (.lload_n 0, 1) := by decide +kernel
theorem dJ13_bitCount_95d88_50 : decode cJ13_bitCount_95d88 50 = .ok (.bipush 32, 2) := by decide +kernel
theorem dJ13_bitCount_95d88_52 : decode cJ13_bitCount_95d88 52 = .ok (.lushr, 1) := by decide +kernel
theorem dJ13_bitCount_95d88_53 : decode cJ13_bitCount_95d88 53 = .ok (.ladd, 1) := by decide +kernel
theorem dJ13_bitCount_95d88_54 : decode cJ13_bitCount_95d88 54 = .ok (.lstore_n 0, 1) := by decide +kernel
theorem dJ13_bitCount_95d88_55 : decode cJ13_bitCount_95d88 55 = .ok (.lload_n 0, 1) := by decide +kernel
theorem dJ13_bitCount_95d88_56 : decode cJ13_bitCount_95d88 56 = .ok (.l2i, 1) := by decide +kernel
theorem dJ13_bitCount_95d88_57 : decode cJ13_bitCount_95d88 57 = .ok (.bipush 127, 2) := by decide +kernel
theorem dJ13_bitCount_95d88_59 : decode cJ13_bitCount_95d88 59 = .ok (.iand, 1) := by decide +kernel
theorem dJ13_bitCount_95d88_60 : decode cJ13_bitCount_95d88 60 = .ok (.ireturn, 1) := by decide +kernel
theorem dJ9_abs_0f7a4_0 : decode cJ9_abs_0f7a4 0 = .ok (.iload_n 0, 1) := by decide +kernel
theorem dJ9_abs_0f7a4_1 : decode cJ9_abs_0f7a4 1 = .ok (.ifCond .ge 8, 3) := by decide +kernel
theorem dJ9_abs_0f7a4_4 : decode cJ9_abs_0f7a4 4 = .ok (.iload_n 0, 1) := by decide +kernel
theorem dJ9_abs_0f7a4_5 : decode cJ9_abs_0f7a4 5 = .ok (.ineg, 1) := by decide +kernel
theorem dJ9_abs_0f7a4_6 : decode cJ9_abs_0f7a4 6 = .ok (.goto 4, 3) := by decide +kernel
theorem dJ9_abs_0f7a4_9 : decode cJ9_abs_0f7a4 9 = .ok (.iload_n 0, 1) := by decide +kernel
theorem dJ9_abs_0f7a4_10 : decode cJ9_abs_0f7a4 10 = .ok (.ireturn, 1) := by decide +kernel
theorem dJ9_max_7cf53_0 : decode cJ9_max_7cf53 0 = .ok (.iload_n 0, 1) := by decide +kernel
theorem dJ9_max_7cf53_1 : decode cJ9_max_7cf53 1 = .ok (.iload_n 1, 1) := by decide +kernel
theorem dJ9_max_7cf53_2 : decode cJ9_max_7cf53 2 = .ok (.if_icmp .lt 7, 3) := by decide +kernel
theorem dJ9_max_7cf53_5 : decode cJ9_max_7cf53 5 = .ok (.iload_n 0, 1) := by decide +kernel
theorem dJ9_max_7cf53_6 : decode cJ9_max_7cf53 6 = .ok (.goto 4, 3) := by decide +kernel
theorem dJ9_max_7cf53_9 : decode cJ9_max_7cf53 9 = .ok (.iload_n 1, 1) := by decide +kernel
theorem dJ9_max_7cf53_10 : decode cJ9_max_7cf53 10 = .ok (.ireturn, 1) := by decide +kernel
theorem dJ9_min_7cf53_0 : decode cJ9_min_7cf53 0 = .ok (.iload_n 0, 1) := by decide +kernel
theorem dJ9_min_7cf53_1 : decode cJ9_min_7cf53 1 = .ok (.iload_n 1, 1) := by decide +kernel
theorem dJ9_min_7cf53_2 : decode cJ9_min_7cf53 2 = .ok (.if_icmp .gt 7, 3) := by decide +kernel
theorem dJ9_min_7cf53_5 : decode cJ9_min_7cf53 5 = .ok (.iload_n 0, 1) := by decide +kernel
theorem dJ9_min_7cf53_6 : decode cJ9_min_7cf53 6 = .ok (.goto 4, 3) := by decide +kernel
theorem dJ9_min_7cf53_9 : decode cJ9_min_7cf53 9 = .ok (.iload_n 1, 1) := by decide +kernel
theorem dJ9_min_7cf53_10 : decode cJ9_min_7cf53 10 = .ok (.ireturn, 1) := by decide +kernel
set_option maxRecDepth 20000 in
theorem ggJ0_length_8abf5_J0_coder_7d493 : GoodIn wsJ0_length_8abf5 wsJ0_coder_7d493 := goodIn_r _ [6, 7, 8] (by decide +kernel) (by decide +kernel)
set_option maxRecDepth 20000 in
theorem gJ0_length_8abf5_J0_coder_7d493 : GoodIn wsJ0_length_8abf5 (wsV RJ0 335 RJ0 yJ0_coder_7d493 wsJ0_coder_7d493) := goodIn_app (goodIn_of _ (by decide +kernel)) ggJ0_length_8abf5_J0_coder_7d493
theorem dJ0_length_8abf5_0 : decode cJ0_length_8abf5 0 = .ok (.aload_n 0, 1) := by decide +kernel
theorem dJ0_length_8abf5_1 : decode cJ0_length_8abf5 1 = .ok (.getfield 9, 3) := by decide +kernel
theorem dJ0_length_8abf5_4 : decode cJ0_length_8abf5 4 = .ok (.arraylength, 1) := by decide +kernel
theorem dJ0_length_8abf5_5 : decode cJ0_length_8abf5 5 = .ok (.aload_n 0, 1) := by decide +kernel
theorem dJ0_length_8abf5_6 : decode cJ0_length_8abf5 6 = .ok (.invokevirtual 335, 3) := by decide +kernel
theorem dJ0_length_8abf5_9 : decode cJ0_length_8abf5 9 = .ok (.ishr, 1) := by decide +kernel
theorem dJ0_length_8abf5_10 : decode cJ0_length_8abf5 10 = .ok (.ireturn, 1) := by decide +kernel
set_option maxRecDepth 20000 in
theorem ggJ0_charAt_5068e_J0_isLatin1_aae02 : GoodIn wsJ0_charAt_5068e wsJ0_isLatin1_aae02 := goodIn_r _ [6, 7, 8] (by decide +kernel) (by decide +kernel)
set_option maxRecDepth 20000 in
theorem gJ0_charAt_5068e_J0_isLatin1_aae02 : GoodIn wsJ0_charAt_5068e (wsV RJ0 492 RJ0 yJ0_isLatin1_aae02 wsJ0_isLatin1_aae02) := goodIn_app (goodIn_of _ (by decide +kernel)) ggJ0_charAt_5068e_J0_isLatin1_aae02
set_option maxRecDepth 20000 in
theorem ggJ0_charAt_5068e_J1_charAt_3b067 : GoodIn wsJ0_charAt_5068e wsJ1_charAt_3b067 := goodIn_r _ [12, 13, 14, 5, 15, 16, 17, 18, 19, 20] (by decide +kernel) (by decide +kernel)
set_option maxRecDepth 20000 in
theorem gJ0_charAt_5068e_J1_charAt_3b067 : GoodIn wsJ0_charAt_5068e (va_wsS RJ0 495 yJ1_charAt_3b067 wsJ1_charAt_3b067) := goodIn_app (goodIn_of _ (by decide +kernel)) ggJ0_charAt_5068e_J1_charAt_3b067
set_option maxRecDepth 20000 in
theorem ggJ0_charAt_5068e_J2_charAt_3b067 : GoodIn wsJ0_charAt_5068e wsJ2_charAt_3b067 := goodIn_r _ [24, 25, 26, 23, 27, 28, 29, 30, 31, 14, 5, 15, 16, 17, 18, 19, 20, 32, 33, 34, 35, 36, 37] (by decide +kernel) (by decide +kernel)
set_option maxRecDepth 20000 in
theorem gJ0_charAt_5068e_J2_charAt_3b067 : GoodIn wsJ0_charAt_5068e (va_wsS RJ0 498 yJ2_charAt_3b067 wsJ2_charAt_3b067) := goodIn_app (goodIn_of _ (by decide +kernel)) ggJ0_charAt_5068e_J2_charAt_3b067
theorem dJ0_charAt_5068e_0 : decode cJ0_charAt_5068e 0 = .ok (.aload_n 0, 1) := by decide +kernel
theorem dJ0_charAt_5068e_1 : decode cJ0_charAt_5068e 1 = .ok (.invokevirtual 492, 3) := by decide +kernel
theorem dJ0_charAt_5068e_4 : decode cJ0_charAt_5068e 4 = .ok (.ifCond .eq 12, 3) := by decide +kernel
theorem dJ0_charAt_5068e_7 : decode cJ0_charAt_5068e 7 = .ok (.aload_n 0, 1) := by decide +kernel
theorem dJ0_charAt_5068e_8 : decode cJ0_charAt_5068e 8 = .ok (.getfield 9, 3) := by decide +kernel
theorem dJ0_charAt_5068e_11 : decode cJ0_charAt_5068e 11 = .ok (.iload_n 1, 1) := by decide +kernel
theorem dJ0_charAt_5068e_12 : decode cJ0_charAt_5068e 12 = .ok (.invokestatic 495, 3) := by decide +kernel
theorem dJ0_charAt_5068e_15 : decode cJ0_charAt_5068e 15 = .ok (.ireturn, 1) := by decide +kernel
theorem dJ0_charAt_5068e_16 : decode cJ0_charAt_5068e 16 = .ok (.aload_n 0, 1) := by decide +kernel
theorem dJ0_charAt_5068e_17 : decode cJ0_charAt_5068e 17 = .ok (.getfield 9, 3) := by decide +kernel
theorem dJ0_charAt_5068e_20 : decode cJ0_charAt_5068e 20 = .ok (.iload_n 1, 1) := by decide +kernel
theorem dJ0_charAt_5068e_21 : decode cJ0_charAt_5068e 21 = .ok (.invokestatic 498, 3) := by decide +kernel
theorem dJ0_charAt_5068e_24 : decode cJ0_charAt_5068e 24 = .ok (.ireturn, 1) := by decide +kernel
theorem dJ0_coder_7d493_0 : decode cJ0_coder_7d493 0 = .ok (.getstatic 38, 3) := by decide +kernel
theorem dJ0_coder_7d493_3 : decode cJ0_coder_7d493 3 = .ok (.ifCond .eq 10, 3) := by decide +kernel
theorem dJ0_coder_7d493_6 : decode cJ0_coder_7d493 6 = .ok (.aload_n 0, 1) := by decide +kernel
theorem dJ0_coder_7d493_7 : decode cJ0_coder_7d493 7 = .ok (.getfield 15, 3) := by decide +kernel
theorem dJ0_coder_7d493_10 : decode cJ0_coder_7d493 10 = .ok (.goto 4, 3) := by decide +kernel
theorem dJ0_coder_7d493_13 : decode cJ0_coder_7d493 13 = .ok (.iconst 1, 1) := by decide +kernel
theorem dJ0_coder_7d493_14 : decode cJ0_coder_7d493 14 = .ok (.ireturn, 1) := by decide +kernel
theorem dJ0_isLatin1_aae02_0 : decode cJ0_isLatin1_aae02 0 = .ok (.getstatic 38, 3) := by decide +kernel
theorem dJ0_isLatin1_aae02_3 : decode cJ0_isLatin1_aae02 3 = .ok (.ifCond .eq 14, 3) := by decide +kernel
theorem dJ0_isLatin1_aae02_6 : decode cJ0_isLatin1_aae02 6 = .ok (.aload_n 0, 1) := by decide +kernel
theorem dJ0_isLatin1_aae02_7 : decode cJ0_isLatin1_aae02 7 = .ok (.getfield 15, 3) := by decide +kernel
theorem dJ0_isLatin1_aae02_10 : decode cJ0_isLatin1_aae02 10 = .ok (.ifCond .ne 7, 3) := by decide +kernel
theorem dJ0_isLatin1_aae02_13 : decode cJ0_isLatin1_aae02 13 = .ok (.iconst 1, 1) := by decide +kernel
theorem dJ0_isLatin1_aae02_14 : decode cJ0_isLatin1_aae02 14 = .ok (.goto 4, 3) := by decide +kernel
theorem dJ0_isLatin1_aae02_17 : decode cJ0_isLatin1_aae02 17 = .ok (.iconst 0, 1) := by decide +kernel
theorem dJ0_isLatin1_aae02_18 : decode cJ0_isLatin1_aae02 18 = .ok (.ireturn, 1) := by decide +kernel
set_option maxRecDepth 20000 in
theorem ggJ0_checkIndex_df160_J3_checkIndex_8e157 : GoodIn wsJ0_checkIndex_df160 wsJ3_checkIndex_8e157 := goodIn_r _ [5] (by decide +kernel) (by decide +kernel)
set_option maxRecDepth 20000 in
theorem gJ0_checkIndex_df160_J3_checkIndex_8e157 : GoodIn wsJ0_checkIndex_df160 (va_wsS RJ0 1059 yJ3_checkIndex_8e157 wsJ3_checkIndex_8e157) := goodIn_app (goodIn_of _ (by decide +kernel)) ggJ0_checkIndex_df160_J3_checkIndex_8e157
theorem dJ0_checkIndex_df160_0 : decode cJ0_checkIndex_df160 0 = .ok (.iload_n 0, 1) := by decide +kernel
theorem dJ0_checkIndex_df160_1 : decode cJ0_checkIndex_df160 1 = .ok (.iload_n 1, 1) := by decide +kernel
theorem dJ0_checkIndex_df160_2 : decode cJ0_checkIndex_df160 2 = .ok (.getstatic 1053, 3) := by decide +kernel
theorem dJ0_checkIndex_df160_5 : decode cJ0_checkIndex_df160 5 = .ok (.invokestatic 1059, 3) := by decide +kernel
theorem dJ0_checkIndex_df160_8 : decode cJ0_checkIndex_df160 8 = .ok (.pop, 1) := by decide +kernel
theorem dJ0_checkIndex_df160_9 : decode cJ0_checkIndex_df160 9 = .ok (.return_, 1) := by decide +kernel
set_option maxRecDepth 20000 in
theorem ggJ1_charAt_3b067_J0_checkIndex_df160 : GoodIn wsJ1_charAt_3b067 wsJ0_checkIndex_df160 := goodIn_r _ [4, 5, 6, 7, 8, 9] (by decide +kernel) (by decide +kernel)
set_option maxRecDepth 20000 in
theorem gJ1_charAt_3b067_J0_checkIndex_df160 : GoodIn wsJ1_charAt_3b067 (va_wsS RJ1 9 yJ0_checkIndex_df160 wsJ0_checkIndex_df160) := goodIn_app (goodIn_of _ (by decide +kernel)) ggJ1_charAt_3b067_J0_checkIndex_df160
theorem dJ1_charAt_3b067_0 : decode cJ1_charAt_3b067 0 = .ok (.iload_n 1, 1) := by decide +kernel
theorem dJ1_charAt_3b067_1 : decode cJ1_charAt_3b067 1 = .ok (.aload_n 0, 1) := by decide +kernel
theorem dJ1_charAt_3b067_2 : decode cJ1_charAt_3b067 2 = .ok (.arraylength, 1) := by decide +kernel
theorem dJ1_charAt_3b067_3 : decode cJ1_charAt_3b067 3 = .ok (.invokestatic 9, 3) := by decide +kernel
theorem dJ1_charAt_3b067_6 : decode cJ1_charAt_3b067 6 = .ok (.aload_n 0, 1) := by decide +kernel
theorem dJ1_charAt_3b067_7 : decode cJ1_charAt_3b067 7 = .ok (.iload_n 1, 1) := by decide +kernel
theorem dJ1_charAt_3b067_8 : decode cJ1_charAt_3b067 8 = .ok (.baload, 1) := by decide +kernel
theorem dJ1_charAt_3b067_9 : decode cJ1_charAt_3b067 9 = .ok (.sipush 255, 3) := by decide +kernel
theorem dJ1_charAt_3b067_12 : decode cJ1_charAt_3b067 12 = .ok (.iand, 1) := by decide +kernel
theorem dJ1_charAt_3b067_13 : decode cJ1_charAt_3b067 13 = .ok (.i2c, 1) := by decide +kernel
theorem dJ1_charAt_3b067_14 : decode cJ1_charAt_3b067 14 = .ok (.ireturn, 1) := by decide +kernel
set_option maxRecDepth 20000 in
theorem ggJ2_getChar_3b067_J2_length_9d52b : GoodIn wsJ2_getChar_3b067 wsJ2_length_9d52b := goodIn_r _ [7] (by decide +kernel) (by decide +kernel)
set_option maxRecDepth 20000 in
theorem gJ2_getChar_3b067_J2_length_9d52b : GoodIn wsJ2_getChar_3b067 (va_wsS RJ2 48 yJ2_length_9d52b wsJ2_length_9d52b) := goodIn_app (goodIn_of _ (by decide +kernel)) ggJ2_getChar_3b067_J2_length_9d52b
theorem dJ2_getChar_3b067_0 : decode cJ2_getChar_3b067 0 = .ok (.getstatic 44, 3) := by decide +kernel
theorem dJ2_getChar_3b067_3 : decode cJ2_getChar_3b067 3 = .ok (.ifCond .ne 25, 3) := by decide +kernel
theorem dJ2_getChar_3b067_6 : decode cJ2_getChar_3b067 6 = .ok (.iload_n 1, 1) := by decide +kernel
theorem dJ2_getChar_3b067_7 : decode cJ2_getChar_3b067 7 = .ok (.ifCond .lt 11, 3) := by decide +kernel
theorem dJ2_getChar_3b067_10 : decode cJ2_getChar_3b067 10 = .ok (.iload_n 1, 1) := by decide +kernel
theorem dJ2_getChar_3b067_11 : decode cJ2_getChar_3b067 11 = .ok (.aload_n 0, 1) := by decide +kernel
theorem dJ2_getChar_3b067_12 : decode cJ2_getChar_3b067 12 = .ok (.invokestatic 48, 3) := by decide +kernel
theorem dJ2_getChar_3b067_15 : decode cJ2_getChar_3b067 15 = .ok (.if_icmp .lt 13, 3) := by decide +kernel
theorem dJ2_getChar_3b067_18 : decode cJ2_getChar_3b067 18 = .ok (.new 52, 3) := by decide +kernel
theorem dJ2_getChar_3b067_21 : decode cJ2_getChar_3b067 21 = .ok (.dup, 1) := by decide +kernel
theorem dJ2_getChar_3b067_22 : decode cJ2_getChar_3b067 22 = .ok (.ldc 54, 2) := by decide +kernel
theorem dJ2_getChar_3b067_24 : decode cJ2_getChar_3b067 24 = .ok (.invokespecial 56, 3) := by decide +kernel
theorem dJ2_getChar_3b067_27 : decode cJ2_getChar_3b067 27 = .ok (.athrow, 1) := by decide +kernel
theorem dJ2_getChar_3b067_28 : decode cJ2_getChar_3b067 28 = .ok (.iload_n 1, 1) := by decide +kernel
theorem dJ2_getChar_3b067_29 : decode cJ2_getChar_3b067 29 = .ok (.iconst 1, 1) := by decide +kernel
theorem dJ2_getChar_3b067_30 : decode cJ2_getChar_3b067 30 = .ok (.ishl, 1) := by decide +kernel
theorem dJ2_getChar_3b067_31 : decode cJ2_getChar_3b067 31 = .ok (.istore_n 1, 1) := by decide +kernel
theorem dJ2_getChar_3b067_32 : decode cJ2_getChar_3b067 32 = .ok (.aload_n 0, 1) := by decide +kernel
theorem dJ2_getChar_3b067_33 : decode cJ2_getChar_3b067 33 = .ok (.iload_n 1, 1) := by decide +kernel
theorem dJ2_getChar_3b067_34 : decode cJ2_getChar_3b067 34 = .ok (.iinc 1 1, 3) := by decide +kernel
theorem dJ2_getChar_3b067_37 : decode cJ2_getChar_3b067 37 = .ok (.baload, 1) := by decide +kernel
theorem dJ2_getChar_3b067_38 : decode cJ2_getChar_3b067 38 = .ok (.sipush 255, 3) := by decide +kernel
theorem dJ2_getChar_3b067_41 : decode cJ2_getChar_3b067 41 = .ok (.iand, 1) := by decide +kernel
theorem dJ2_getChar_3b067_42 : decode cJ2_getChar_3b067 42 = .ok (.getstatic 59, 3) := by decide +kernel
theorem dJ2_getChar_3b067_45 : decode cJ2_getChar_3b067 45 = .ok (.ishl, 1) := by decide +kernel
theorem dJ2_getChar_3b067_46 : decode cJ2_getChar_3b067 46 = .ok (.aload_n 0, 1) := by decide +kernel
theorem dJ2_getChar_3b067_47 : decode cJ2_getChar_3b067 47 = .ok (.iload_n 1, 1) := by decide +kernel
theorem dJ2_getChar_3b067_48 : decode cJ2_getChar_3b067 48 = .ok (.baload, 1) := by decide +kernel
theorem dJ2_getChar_3b067_49 : decode cJ2_getChar_3b067 49 = .ok (.sipush 255, 3) := by decide +kernel
theorem dJ2_getChar_3b067_52 : decode cJ2_getChar_3b067 52 = .ok (.iand, 1) := by decide +kernel
theorem dJ2_getChar_3b067_53 : decode cJ2_getChar_3b067 53 = .ok (.getstatic 63, 3) := by decide +kernel
theorem dJ2_getChar_3b067_56 : decode cJ2_getChar_3b067 56 = .ok (.ishl, 1) := by decide +kernel
theorem dJ2_getChar_3b067_57 : decode cJ2_getChar_3b067 57 = .ok (.ior, 1) := by decide +kernel
theorem dJ2_getChar_3b067_58 : decode cJ2_getChar_3b067 58 = .ok (.i2c, 1) := by decide +kernel
theorem dJ2_getChar_3b067_59 : decode cJ2_getChar_3b067 59 = .ok (.ireturn, 1) := by decide +kernel
theorem dJ2_length_9d52b_0 : decode cJ2_length_9d52b 0 = .ok (.aload_n 0, 1) := by decide +kernel
theorem dJ2_length_9d52b_1 : decode cJ2_length_9d52b 1 = .ok (.arraylength, 1) := by decide +kernel
theorem dJ2_length_9d52b_2 : decode cJ2_length_9d52b 2 = .ok (.iconst 1, 1) := by decide +kernel
theorem dJ2_length_9d52b_3 : decode cJ2_length_9d52b 3 = .ok (.ishr, 1) := by decide +kernel
theorem dJ2_length_9d52b_4 : decode cJ2_length_9d52b 4 = .ok (.ireturn, 1) := by decide +kernel
set_option maxRecDepth 20000 in
theorem ggJ2_charAt_3b067_J2_checkIndex_2214a : GoodIn wsJ2_charAt_3b067 wsJ2_checkIndex_2214a := goodIn_r _ [4, 5, 6, 3, 7, 8, 9, 10, 11, 12, 13, 14, 15, 16] (by decide +kernel) (by decide +kernel)
set_option maxRecDepth 20000 in
theorem gJ2_charAt_3b067_J2_checkIndex_2214a : GoodIn wsJ2_charAt_3b067 (va_wsS RJ2 67 yJ2_checkIndex_2214a wsJ2_checkIndex_2214a) := goodIn_app (goodIn_of _ (by decide +kernel)) ggJ2_charAt_3b067_J2_checkIndex_2214a
set_option maxRecDepth 20000 in
theorem ggJ2_charAt_3b067_J2_getChar_3b067 : GoodIn wsJ2_charAt_3b067 wsJ2_getChar_3b067 := goodIn_r _ [19, 20, 21, 22, 5, 6, 3, 7] (by decide +kernel) (by decide +kernel)
set_option maxRecDepth 20000 in
theorem gJ2_charAt_3b067_J2_getChar_3b067 : GoodIn wsJ2_charAt_3b067 (va_wsS RJ2 71 yJ2_getChar_3b067 wsJ2_getChar_3b067) := goodIn_app (goodIn_of _ (by decide +kernel)) ggJ2_charAt_3b067_J2_getChar_3b067
theorem dJ2_charAt_3b067_0 : decode cJ2_charAt_3b067 0 = .ok (.iload_n 1, 1) := by decide +kernel
theorem dJ2_charAt_3b067_1 : decode cJ2_charAt_3b067 1 = .ok (.aload_n 0, 1) := by decide +kernel
theorem dJ2_charAt_3b067_2 : decode cJ2_charAt_3b067 2 = .ok (.invokestatic 67, 3) := by decide +kernel
theorem dJ2_charAt_3b067_5 : decode cJ2_charAt_3b067 5 = .ok (.aload_n 0, 1) := by decide +kernel
theorem dJ2_charAt_3b067_6 : decode cJ2_charAt_3b067 6 = .ok (.iload_n 1, 1) := by decide +kernel
theorem dJ2_charAt_3b067_7 : decode cJ2_charAt_3b067 7 = .ok (.invokestatic 71, 3) := by decide +kernel
theorem dJ2_charAt_3b067_10 : decode cJ2_charAt_3b067 10 = .ok (.ireturn, 1) := by decide +kernel
set_option maxRecDepth 20000 in
theorem ggJ2_checkIndex_2214a_J2_length_9d52b : GoodIn wsJ2_checkIndex_2214a wsJ2_length_9d52b := goodIn_r _ [4] (by decide +kernel) (by decide +kernel)
set_option maxRecDepth 20000 in
theorem gJ2_checkIndex_2214a_J2_length_9d52b : GoodIn wsJ2_checkIndex_2214a (va_wsS RJ2 48 yJ2_length_9d52b wsJ2_length_9d52b) := goodIn_app (goodIn_of _ (by decide +kernel)) ggJ2_checkIndex_2214a_J2_length_9d52b
set_option maxRecDepth 20000 in
theorem ggJ2_checkIndex_2214a_J0_checkIndex_df160 : GoodIn wsJ2_checkIndex_2214a wsJ0_checkIndex_df160 := goodIn_r _ [8, 9, 10, 11, 12, 13] (by decide +kernel) (by decide +kernel)
set_option maxRecDepth 20000 in
theorem gJ2_checkIndex_2214a_J0_checkIndex_df160 : GoodIn wsJ2_checkIndex_2214a (va_wsS RJ2 414 yJ0_checkIndex_df160 wsJ0_checkIndex_df160) := goodIn_app (goodIn_of _ (by decide +kernel)) ggJ2_checkIndex_2214a_J0_checkIndex_df160
theorem dJ2_checkIndex_2214a_0 : decode cJ2_checkIndex_2214a 0 = .ok (.iload_n 0, 1) := by decide +kernel
theorem dJ2_checkIndex_2214a_1 : decode cJ2_checkIndex_2214a 1 = .ok (.aload_n 1, 1) := by decide +kernel
theorem dJ2_checkIndex_2214a_2 : decode cJ2_checkIndex_2214a 2 = .ok (.invokestatic 48, 3) := by decide +kernel
theorem dJ2_checkIndex_2214a_5 : decode cJ2_checkIndex_2214a 5 = .ok (.invokestatic 414, 3) := by decide +kernel
theorem dJ2_checkIndex_2214a_8 : decode cJ2_checkIndex_2214a 8 = .ok (.return_, 1) := by decide +kernel
theorem dJ7_fill_53178_0 : decode cJ7_fill_53178 0 = .ok (.iconst 0, 1) := by decide +kernel
theorem dJ7_fill_53178_1 : decode cJ7_fill_53178 1 = .ok (.istore_n 2, 1) := by decide +kernel
theorem dJ7_fill_53178_2 : decode cJ7_fill_53178 2 = .ok (.aload_n 0, 1) := by decide +kernel
theorem dJ7_fill_53178_3 : decode cJ7_fill_53178 3 = .ok (.arraylength, 1) := by decide +kernel
theorem dJ7_fill_53178_4 : decode cJ7_fill_53178 4 = .ok (.istore_n 3, 1) := by decide +kernel
theorem dJ7_fill_53178_5 : decode cJ7_fill_53178 5 = .ok (.iload_n 2, 1) := by decide +kernel
theorem dJ7_fill_53178_6 : decode cJ7_fill_53178 6 = .ok (.iload_n 3, 1) := by decide +kernel
theorem dJ7_fill_53178_7 : decode cJ7_fill_53178 7 = .ok (.if_icmp .ge 13, 3) := by decide +kernel
theorem dJ7_fill_53178_10 : decode cJ7_fill_53178 10 = .ok (.aload_n 0, 1) := by decide +kernel
theorem dJ7_fill_53178_11 : decode cJ7_fill_53178 11 = .ok (.iload_n 2, 1) := by decide +kernel
theorem dJ7_fill_53178_12 : decode cJ7_fill_53178 12 = .ok (.iload_n 1, 1) := by decide +kernel
theorem dJ7_fill_53178_13 : decode cJ7_fill_53178 13 = .ok (.iastore, 1) := by decide +kernel
theorem dJ7_fill_53178_14 : decode cJ7_fill_53178 14 = .ok (.iinc 2 1, 3) := by decide +kernel
theorem dJ7_fill_53178_17 : decode cJ7_fill_53178 17 = .ok (.goto (-12), 3) := by decide +kernel
theorem dJ7_fill_53178_20 : decode cJ7_fill_53178 20 = .ok (.return_, 1) := by decide +kernel
theorem dJ3_checkIndex_8e157_0 : decode cJ3_checkIndex_8e157 0 = .ok (.iload_n 0, 1) := by decide +kernel
theorem dJ3_checkIndex_8e157_1 : decode cJ3_checkIndex_8e157 1 = .ok (.ifCond .lt 8, 3) := by decide +kernel
theorem dJ3_checkIndex_8e157_4 : decode cJ3_checkIndex_8e157 4 = .ok (.iload_n 0, 1) := by decide +kernel
theorem dJ3_checkIndex_8e157_5 : decode cJ3_checkIndex_8e157 5 = .ok (.iload_n 1, 1) := by decide +kernel
theorem dJ3_checkIndex_8e157_6 : decode cJ3_checkIndex_8e157 6 = .ok (.if_icmp .lt 10, 3) := by decide +kernel
theorem dJ3_checkIndex_8e157_9 : decode cJ3_checkIndex_8e157 9 = .ok (.aload_n 2, 1) := by decide +kernel
theorem dJ3_checkIndex_8e157_10 : decode cJ3_checkIndex_8e157 10 = .ok (.iload_n 0, 1) := by decide +kernel
theorem dJ3_checkIndex_8e157_11 : decode cJ3_checkIndex_8e157 11 = .ok (.iload_n 1, 1) := by decide +kernel
theorem dJ3_checkIndex_8e157_12 : decode cJ3_checkIndex_8e157 12 = .ok (.invokestatic 95, 3) := by decide +kernel
theorem dJ3_checkIndex_8e157_15 : decode cJ3_checkIndex_8e157 15 = .ok (.athrow, 1) := by decide +kernel
theorem dJ3_checkIndex_8e157_16 : decode cJ3_checkIndex_8e157 16 = .ok (.iload_n 0, 1) := by decide +kernel
theorem dJ3_checkIndex_8e157_17 : decode cJ3_checkIndex_8e157 17 = .ok (.ireturn, 1) := by decide +kernel
set_option maxRecDepth 20000 in
theorem ggL_law_X4_init : GoodIn wsL_law wsX4_init := goodIn_r _ [8, 9, 10, 11, 12, 13, 14, 15, 16, 17, 18, 19, 20, 21, 22, 23, 24, 25, 26, 27, 28, 29, 30, 31, 32, 33, 34, 35, 36, 37, 38, 39, 40, 41, 42, 43, 44, 45, 46, 47, 48, 49, 50, 51, 52, 53, 54, 55, 56, 57, 58, 858, 859, 860, 838, 839, 840, 841, 842, 843, 861, 862, 863, 864, 865, 866, 867, 868, 869, 870, 871, 872, 873, 874, 875] (by decide +kernel) (by decide +kernel)
set_option maxRecDepth 20000 in
theorem gL_law_X4_init : GoodIn wsL_law (wsX4_init) := ggL_law_X4_init
set_option maxRecDepth 20000 in
theorem ggL_law_X5_init : GoodIn wsL_law wsX5_init := goodIn_r _ [61, 62, 10, 11, 25, 63, 64, 65, 66, 67, 68, 69, 70, 71, 844, 845, 846, 847, 848, 849, 850, 851, 852, 853, 854, 855, 856, 857] (by decide +kernel) (by decide +kernel)
set_option maxRecDepth 20000 in
theorem gL_law_X5_init : GoodIn wsL_law (wsX5_init) := ggL_law_X5_init
set_option maxRecDepth 20000 in
theorem ggL_law_X4_set : GoodIn wsL_law wsX4_set := goodIn_r _ [75, 15, 76, 77, 78, 79, 2, 80, 16, 81, 82, 83, 84, 14, 85, 34, 35, 37, 86, 87, 88, 33, 89, 41, 90, 91, 92, 93, 42, 94, 44, 45, 95, 96, 97, 98, 99, 100, 101, 102, 103, 104, 105, 106, 107, 108, 838, 839, 840, 841, 842, 843, 858, 859, 860, 871, 872, 873, 874, 875] (by decide +kernel) (by decide +kernel)
set_option maxRecDepth 20000 in
theorem gL_law_X4_set : GoodIn wsL_law (wsV RL 13 RX4 yX4_set wsX4_set) := goodIn_app (goodIn_of _ (by decide +kernel)) ggL_law_X4_set
set_option maxRecDepth 20000 in
theorem ggL_law_X5_set : GoodIn wsL_law wsX5_set := goodIn_r _ [112, 71, 63, 113, 114, 5, 115, 116, 117, 118, 119, 120, 121, 122, 123, 124, 125, 126, 65, 844, 845, 846, 847, 848, 849, 850, 851, 852, 853, 854, 855, 856, 857] (by decide +kernel) (by decide +kernel)
set_option maxRecDepth 20000 in
theorem gL_law_X5_set : GoodIn wsL_law (wsV RL 17 RX5 yX5_set wsX5_set) := goodIn_app (goodIn_of _ (by decide +kernel)) ggL_law_X5_set
set_option maxRecDepth 20000 in
theorem ggL_law_X4_setPhosphor : GoodIn wsL_law wsX4_setPhosphor := goodIn_r _ [130, 15, 76, 77, 78, 79, 2, 80, 16, 81, 82, 83, 84, 14, 85, 34, 35, 37, 86, 87, 88, 33, 89, 41, 90, 91, 92, 93, 42, 94, 44, 45, 131, 132, 133, 134, 135, 136, 137, 138, 101, 102, 103, 104, 105, 106, 107, 108, 838, 839, 840, 841, 842, 843, 858, 859, 860, 871, 872, 873, 874, 875] (by decide +kernel) (by decide +kernel)
set_option maxRecDepth 20000 in
theorem gL_law_X4_setPhosphor : GoodIn wsL_law (wsV RL 18 RX4 yX4_setPhosphor wsX4_setPhosphor) := goodIn_app (goodIn_of _ (by decide +kernel)) ggL_law_X4_setPhosphor
set_option maxRecDepth 20000 in
theorem ggL_law_X5_setPhosphor : GoodIn wsL_law wsX5_setPhosphor := goodIn_r _ [142, 71, 143, 144, 145, 5, 146, 147, 148, 149, 113, 114, 115, 122, 123, 124, 125, 126, 65, 63, 150, 151, 152, 153, 844, 845, 846, 847, 848, 849, 850, 851, 852, 853, 854, 855, 856, 857] (by decide +kernel) (by decide +kernel)
set_option maxRecDepth 20000 in
theorem gL_law_X5_setPhosphor : GoodIn wsL_law (wsV RL 21 RX5 yX5_setPhosphor wsX5_setPhosphor) := goodIn_app (goodIn_of _ (by decide +kernel)) ggL_law_X5_setPhosphor
set_option maxRecDepth 20000 in
theorem ggL_law_X4_light : GoodIn wsL_law wsX4_light := goodIn_r _ [157, 15, 76, 77, 78, 79, 2, 80, 16, 81, 82, 83, 84, 14, 85, 34, 35, 37, 86, 87, 88, 33, 89, 41, 90, 91, 92, 93, 42, 94, 44, 45, 158, 159, 160, 161, 135, 136, 162, 163, 164, 165, 101, 102, 103, 104, 105, 106, 107, 108, 838, 839, 840, 841, 842, 843, 858, 859, 860, 871, 872, 873, 874, 875] (by decide +kernel) (by decide +kernel)
set_option maxRecDepth 20000 in
theorem gL_law_X4_light : GoodIn wsL_law (wsV RL 22 RX4 yX4_light wsX4_light) := goodIn_app (goodIn_of _ (by decide +kernel)) ggL_law_X4_light
set_option maxRecDepth 20000 in
theorem ggL_law_X5_light : GoodIn wsL_law wsX5_light := goodIn_r _ [169, 71, 170, 171, 172, 5, 173, 63, 147, 148, 149, 113, 114, 115, 174, 175, 176, 177, 178, 179, 180, 181, 122, 123, 124, 125, 126, 65, 182, 183, 184, 185, 844, 845, 846, 847, 848, 849, 850, 851, 852, 853, 854, 855, 856, 857] (by decide +kernel) (by decide +kernel)
set_option maxRecDepth 20000 in
theorem gL_law_X5_light : GoodIn wsL_law (wsV RL 26 RX5 yX5_light wsX5_light) := goodIn_app (goodIn_of _ (by decide +kernel)) ggL_law_X5_light
set_option maxRecDepth 20000 in
theorem ggL_law_X4_darken : GoodIn wsL_law wsX4_darken := goodIn_r _ [189, 15, 76, 77, 78, 79, 2, 80, 16, 81, 82, 83, 84, 14, 85, 34, 35, 37, 86, 87, 88, 33, 89, 41, 90, 91, 92, 93, 42, 94, 44, 45, 190, 191, 192, 193, 135, 136, 162, 163, 164, 165, 101, 102, 103, 104, 105, 106, 107, 108, 838, 839, 840, 841, 842, 843, 858, 859, 860, 871, 872, 873, 874, 875] (by decide +kernel) (by decide +kernel)
set_option maxRecDepth 20000 in
theorem gL_law_X4_darken : GoodIn wsL_law (wsV RL 27 RX4 yX4_darken wsX4_darken) := goodIn_app (goodIn_of _ (by decide +kernel)) ggL_law_X4_darken
set_option maxRecDepth 20000 in
theorem ggL_law_X5_darken : GoodIn wsL_law wsX5_darken := goodIn_r _ [197, 71, 198, 199, 200, 5, 201, 147, 148, 149, 113, 114, 115, 174, 175, 176, 177, 63, 178, 179, 180, 181, 122, 123, 124, 125, 126, 65, 202, 203, 204, 205, 844, 845, 846, 847, 848, 849, 850, 851, 852, 853, 854, 855, 856, 857] (by decide +kernel) (by decide +kernel)
set_option maxRecDepth 20000 in
theorem gL_law_X5_darken : GoodIn wsL_law (wsV RL 30 RX5 yX5_darken wsX5_darken) := goodIn_app (goodIn_of _ (by decide +kernel)) ggL_law_X5_darken
set_option maxRecDepth 20000 in
theorem ggL_law_X4_exchange : GoodIn wsL_law wsX4_exchange := goodIn_r _ [209, 15, 76, 77, 78, 79, 2, 80, 16, 81, 82, 83, 84, 14, 85, 34, 35, 37, 86, 87, 88, 33, 89, 41, 90, 91, 92, 93, 42, 94, 44, 45, 210, 211, 212, 213, 214, 215, 216, 217, 218, 219, 220, 221, 222, 223, 224, 225, 226, 227, 228, 229, 230, 231, 101, 102, 103, 104, 105, 106, 107, 108, 838, 839, 840, 841, 842, 843, 858, 859, 860, 871, 872, 873, 874, 875] (by decide +kernel) (by decide +kernel)
set_option maxRecDepth 20000 in
theorem gL_law_X4_exchange : GoodIn wsL_law (wsV RL 31 RX4 yX4_exchange wsX4_exchange) := goodIn_app (goodIn_of _ (by decide +kernel)) ggL_law_X4_exchange
set_option maxRecDepth 20000 in
theorem ggL_law_X5_exchange : GoodIn wsL_law wsX5_exchange := goodIn_r _ [235, 71, 236, 237, 238, 5, 239, 63, 113, 114, 115, 122, 123, 124, 125, 126, 65, 240, 241, 242, 243, 244, 245, 246, 247, 248, 249, 250, 251, 68, 252, 253, 254, 255, 178, 179, 180, 181, 256, 257, 258, 259, 260, 261, 844, 845, 846, 847, 848, 849, 850, 851, 852, 853, 854, 855, 856, 857] (by decide +kernel) (by decide +kernel)
set_option maxRecDepth 20000 in
theorem gL_law_X5_exchange : GoodIn wsL_law (wsV RL 34 RX5 yX5_exchange wsX5_exchange) := goodIn_app (goodIn_of _ (by decide +kernel)) ggL_law_X5_exchange
set_option maxRecDepth 20000 in
theorem ggL_law_X4_sort : GoodIn wsL_law wsX4_sort := goodIn_r _ [265, 15, 76, 77, 78, 79, 2, 80, 16, 81, 82, 83, 84, 14, 85, 34, 35, 37, 86, 87, 88, 33, 89, 41, 90, 91, 92, 93, 42, 94, 44, 45, 266, 267, 268, 269, 270, 271, 272, 273, 274, 275, 226, 227, 228, 229, 230, 231, 276, 277, 278, 279, 280, 281, 282, 283, 214, 215, 216, 217, 218, 219, 220, 221, 222, 223, 224, 225, 101, 102, 103, 104, 105, 106, 107, 108, 838, 839, 840, 841, 842, 843, 858, 859, 860, 871, 872, 873, 874, 875] (by decide +kernel) (by decide +kernel)
set_option maxRecDepth 20000 in
theorem gL_law_X4_sort : GoodIn wsL_law (wsV RL 35 RX4 yX4_sort wsX4_sort) := goodIn_app (goodIn_of _ (by decide +kernel)) ggL_law_X4_sort
set_option maxRecDepth 20000 in
theorem ggL_law_X5_sort : GoodIn wsL_law wsX5_sort := goodIn_r _ [287, 71, 288, 289, 290, 5, 291, 113, 114, 115, 122, 123, 124, 125, 126, 65, 63, 292, 293, 294, 295, 178, 179, 180, 181, 296, 297, 298, 299, 256, 257, 258, 259, 260, 261, 300, 301, 302, 303, 304, 305, 306, 307, 308, 244, 245, 246, 247, 248, 249, 250, 251, 68, 252, 253, 254, 255, 844, 845, 846, 847, 848, 849, 850, 851, 852, 853, 854, 855, 856, 857] (by decide +kernel) (by decide +kernel)
set_option maxRecDepth 20000 in
theorem gL_law_X5_sort : GoodIn wsL_law (wsV RL 38 RX5 yX5_sort wsX5_sort) := goodIn_app (goodIn_of _ (by decide +kernel)) ggL_law_X5_sort
set_option maxRecDepth 20000 in
theorem ggL_law_X4_draw : GoodIn wsL_law wsX4_draw := goodIn_r _ [312, 15, 76, 77, 78, 79, 2, 80, 16, 81, 82, 83, 84, 14, 85, 34, 35, 37, 86, 87, 88, 33, 89, 41, 90, 91, 92, 93, 42, 94, 44, 45, 313, 314, 315, 316, 317, 135, 136, 318, 319, 320, 321, 322, 323, 324, 101, 102, 103, 104, 105, 106, 107, 108, 838, 839, 840, 841, 842, 843, 858, 859, 860, 871, 872, 873, 874, 875] (by decide +kernel) (by decide +kernel)
set_option maxRecDepth 20000 in
theorem gL_law_X4_draw : GoodIn wsL_law (wsV RL 39 RX4 yX4_draw wsX4_draw) := goodIn_app (goodIn_of _ (by decide +kernel)) ggL_law_X4_draw
set_option maxRecDepth 20000 in
theorem ggL_law_X5_draw : GoodIn wsL_law wsX5_draw := goodIn_r _ [328, 71, 329, 330, 5, 331, 113, 114, 115, 147, 148, 149, 122, 123, 124, 125, 126, 65, 63, 332, 333, 334, 335, 336, 337, 338, 339, 844, 845, 846, 847, 848, 849, 850, 851, 852, 853, 854, 855, 856, 857] (by decide +kernel) (by decide +kernel)
set_option maxRecDepth 20000 in
theorem gL_law_X5_draw : GoodIn wsL_law (wsV RL 43 RX5 yX5_draw wsX5_draw) := goodIn_app (goodIn_of _ (by decide +kernel)) ggL_law_X5_draw
set_option maxRecDepth 20000 in
theorem ggL_law_X4_take : GoodIn wsL_law wsX4_take := goodIn_r _ [343, 15, 77, 78, 79, 2, 80, 16, 81, 82, 83, 84, 14, 85, 34, 35, 37, 86, 87, 88, 33, 89, 41, 90, 91, 92, 93, 42, 94, 44, 45, 344, 345, 346, 347, 348, 349, 350, 351, 101, 102, 103, 104, 105, 106, 107, 108, 838, 839, 840, 841, 842, 843, 858, 859, 860, 871, 872, 873, 874, 875] (by decide +kernel) (by decide +kernel)
set_option maxRecDepth 20000 in
theorem gL_law_X4_take : GoodIn wsL_law (wsV RL 44 RX4 yX4_take wsX4_take) := goodIn_app (goodIn_of _ (by decide +kernel)) ggL_law_X4_take
set_option maxRecDepth 20000 in
theorem ggL_law_X5_take : GoodIn wsL_law wsX5_take := goodIn_r _ [355, 71, 63, 329, 330, 5, 331, 113, 114, 115, 122, 123, 124, 125, 126, 65, 356, 357, 358, 844, 845, 846, 847, 848, 849, 850, 851, 852, 853, 854, 855, 856, 857] (by decide +kernel) (by decide +kernel)
set_option maxRecDepth 20000 in
theorem gL_law_X5_take : GoodIn wsL_law (wsV RL 47 RX5 yX5_take wsX5_take) := goodIn_app (goodIn_of _ (by decide +kernel)) ggL_law_X5_take
set_option maxRecDepth 20000 in
theorem ggL_law_X4_restore : GoodIn wsL_law wsX4_restore := goodIn_r _ [362, 15, 77, 78, 79, 2, 80, 16, 81, 82, 83, 84, 14, 85, 34, 35, 37, 86, 87, 88, 33, 89, 41, 90, 91, 92, 93, 42, 94, 44, 45, 363, 364, 365, 366, 348, 349, 350, 351, 101, 102, 103, 104, 105, 106, 107, 108, 838, 839, 840, 841, 842, 843, 858, 859, 860, 871, 872, 873, 874, 875] (by decide +kernel) (by decide +kernel)
set_option maxRecDepth 20000 in
theorem gL_law_X4_restore : GoodIn wsL_law (wsV RL 48 RX4 yX4_restore wsX4_restore) := goodIn_app (goodIn_of _ (by decide +kernel)) ggL_law_X4_restore
set_option maxRecDepth 20000 in
theorem ggL_law_X5_restore : GoodIn wsL_law wsX5_restore := goodIn_r _ [370, 71, 63, 329, 330, 5, 331, 113, 114, 115, 356, 357, 358, 122, 123, 124, 125, 126, 65, 844, 845, 846, 847, 848, 849, 850, 851, 852, 853, 854, 855, 856, 857] (by decide +kernel) (by decide +kernel)
set_option maxRecDepth 20000 in
theorem gL_law_X5_restore : GoodIn wsL_law (wsV RL 51 RX5 yX5_restore wsX5_restore) := goodIn_app (goodIn_of _ (by decide +kernel)) ggL_law_X5_restore
set_option maxRecDepth 20000 in
theorem ggL_law_X4_undo : GoodIn wsL_law wsX4_undo := goodIn_r _ [374, 81, 15, 16, 82, 83, 84, 14, 85, 34, 35, 37, 86, 87, 88, 33, 89, 41, 90, 91, 92, 93, 42, 94, 44, 45, 838, 839, 840, 841, 842, 843, 858, 859, 860, 871, 872, 873, 874, 875] (by decide +kernel) (by decide +kernel)
set_option maxRecDepth 20000 in
theorem gL_law_X4_undo : GoodIn wsL_law (wsV RL 52 RX4 yX4_undo wsX4_undo) := goodIn_app (goodIn_of _ (by decide +kernel)) ggL_law_X4_undo
set_option maxRecDepth 20000 in
theorem ggL_law_X5_undo : GoodIn wsL_law wsX5_undo := goodIn_r _ [378, 71, 126, 63, 65, 844, 845, 846, 847, 848, 849, 850, 851, 852, 853, 854, 855, 856, 857] (by decide +kernel) (by decide +kernel)
set_option maxRecDepth 20000 in
theorem gL_law_X5_undo : GoodIn wsL_law (wsV RL 56 RX5 yX5_undo wsX5_undo) := goodIn_app (goodIn_of _ (by decide +kernel)) ggL_law_X5_undo
set_option maxRecDepth 20000 in
theorem ggL_law_X4_append : GoodIn wsL_law wsX4_append := goodIn_r _ [382, 20, 383, 384, 385, 19, 386, 387, 50, 838, 839, 840, 841, 842, 843, 861, 862, 863, 864] (by decide +kernel) (by decide +kernel)
set_option maxRecDepth 20000 in
theorem gL_law_X4_append : GoodIn wsL_law (wsV RL 57 RX4 yX4_append wsX4_append) := goodIn_app (goodIn_of _ (by decide +kernel)) ggL_law_X4_append
set_option maxRecDepth 20000 in
theorem ggL_law_X5_append : GoodIn wsL_law wsX5_append := goodIn_r _ [391, 71, 392, 66, 113, 114, 5, 115, 844, 845, 846, 847, 848, 849, 850, 851, 852, 853, 854, 855, 856, 857] (by decide +kernel) (by decide +kernel)
set_option maxRecDepth 20000 in
theorem gL_law_X5_append : GoodIn wsL_law (wsV RL 60 RX5 yX5_append wsX5_append) := goodIn_app (goodIn_of _ (by decide +kernel)) ggL_law_X5_append
set_option maxRecDepth 20000 in
theorem ggL_law_X4_clearText : GoodIn wsL_law wsX4_clearText := goodIn_r _ [396, 20, 397, 398, 399, 19, 400, 387, 838, 839, 840, 841, 842, 843, 861, 862, 863, 864] (by decide +kernel) (by decide +kernel)
set_option maxRecDepth 20000 in
theorem gL_law_X4_clearText : GoodIn wsL_law (wsV RL 61 RX4 yX4_clearText wsX4_clearText) := goodIn_app (goodIn_of _ (by decide +kernel)) ggL_law_X4_clearText
set_option maxRecDepth 20000 in
theorem ggL_law_X5_clearText : GoodIn wsL_law wsX5_clearText := goodIn_r _ [404, 71, 392, 844, 845, 846, 847, 848, 849, 850, 851, 852, 853, 854, 855, 856, 857] (by decide +kernel) (by decide +kernel)
set_option maxRecDepth 20000 in
theorem gL_law_X5_clearText : GoodIn wsL_law (wsV RL 64 RX5 yX5_clearText wsX5_clearText) := goodIn_app (goodIn_of _ (by decide +kernel)) ggL_law_X5_clearText
set_option maxRecDepth 20000 in
theorem ggL_law_X4_run : GoodIn wsL_law wsX4_run := goodIn_r _ [408, 20, 15, 76, 16, 81, 77, 78, 79, 2, 80, 82, 83, 84, 14, 85, 34, 35, 37, 86, 87, 88, 33, 89, 41, 90, 91, 92, 93, 42, 94, 44, 45, 409, 410, 411, 19, 412, 413, 387, 414, 415, 416, 417, 50, 418, 419, 420, 421, 422, 423, 424, 425, 426, 427, 428, 429, 430, 431, 432, 433, 434, 435, 436, 437, 438, 439, 440, 441, 442, 443, 444, 445, 446, 447, 448, 449, 450, 451, 452, 453, 454, 455, 456, 457, 458, 459, 460, 461, 462, 463, 464, 465, 466, 467, 468, 469, 470, 471, 472, 473, 474, 475, 476, 477, 478, 479, 480, 481, 482, 483, 484, 51, 485, 486, 487, 488, 489, 490, 491, 492, 493, 494, 495, 496, 497, 159, 160, 161, 135, 136, 162, 163, 164, 165, 498, 191, 192, 193, 499, 132, 133, 134, 137, 138, 500, 314, 315, 316, 317, 318, 319, 320, 321, 322, 323, 324, 501, 267, 268, 269, 270, 271, 272, 273, 274, 275, 226, 227, 228, 229, 230, 231, 276, 277, 278, 279, 280, 281, 282, 283, 214, 215, 216, 217, 218, 219, 220, 221, 222, 223, 224, 225, 502, 211, 212, 213, 397, 398, 399, 400, 101, 102, 103, 104, 105, 106, 107, 108, 838, 839, 840, 841, 842, 843, 858, 859, 860, 871, 872, 873, 874, 875, 861, 862, 863, 864] (by decide +kernel) (by decide +kernel)
set_option maxRecDepth 20000 in
theorem gL_law_X4_run : GoodIn wsL_law (wsV RL 65 RX4 yX4_run wsX4_run) := goodIn_app (goodIn_of _ (by decide +kernel)) ggL_law_X4_run
set_option maxRecDepth 20000 in
theorem ggL_law_X5_run : GoodIn wsL_law wsX5_run := goodIn_r _ [506, 71, 64, 63, 507, 508, 509, 392, 510, 511, 512, 5, 513, 514, 515, 516, 517, 518, 66, 113, 114, 115, 519, 520, 521, 522, 67, 523, 524, 525, 526, 527, 528, 529, 530, 531, 532, 533, 534, 535, 536, 537, 538, 539, 540, 541, 542, 543, 544, 545, 546, 547, 548, 170, 171, 172, 173, 147, 148, 149, 174, 175, 176, 177, 178, 179, 180, 181, 198, 199, 200, 201, 143, 144, 145, 146, 288, 289, 290, 291, 236, 237, 238, 239, 549, 550, 551, 552, 182, 183, 184, 185, 202, 203, 204, 205, 150, 151, 152, 153, 292, 293, 294, 295, 296, 297, 298, 299, 256, 257, 258, 259, 260, 261, 300, 301, 302, 303, 304, 305, 306, 307, 308, 244, 245, 246, 247, 248, 249, 250, 251, 68, 252, 253, 254, 255, 240, 241, 242, 243, 332, 333, 334, 335, 336, 337, 338, 339, 122, 123, 124, 125, 126, 65, 844, 845, 846, 847, 848, 849, 850, 851, 852, 853, 854, 855, 856, 857] (by decide +kernel) (by decide +kernel)
set_option maxRecDepth 20000 in
theorem gL_law_X5_run : GoodIn wsL_law (wsV RL 68 RX5 yX5_run wsX5_run) := goodIn_app (goodIn_of _ (by decide +kernel)) ggL_law_X5_run
set_option maxRecDepth 20000 in
theorem ggL_law_X4_count : GoodIn wsL_law wsX4_count := goodIn_r _ [556, 15, 76, 557, 558, 559, 81, 20, 560, 219, 220, 33, 221, 94, 45, 222, 223, 224, 225, 42, 226, 2, 227, 228, 229, 230, 231, 561, 319, 320, 321, 322, 323, 324, 562, 563, 564, 565, 566, 567, 568, 569, 570, 571, 572, 573, 574, 575, 576, 577, 162, 163, 164, 165, 578, 579, 580, 581, 41, 279, 280, 281, 282, 283, 582, 583, 584, 585, 586, 587, 588, 589, 590, 591, 592, 593, 594, 595, 596, 597, 598, 599, 600, 44, 601, 602, 603, 604, 605, 606, 607, 608, 14, 609, 37, 610, 611, 612, 19, 613, 387, 614, 615, 616, 617, 838, 839, 840, 841, 842, 843, 858, 859, 860, 871, 872, 873, 874, 875, 861, 862, 863, 864] (by decide +kernel) (by decide +kernel)
set_option maxRecDepth 20000 in
theorem gL_law_X4_count : GoodIn wsL_law (wsV RL 69 RX4 yX4_count wsX4_count) := goodIn_app (goodIn_of _ (by decide +kernel)) ggL_law_X4_count
set_option maxRecDepth 20000 in
theorem ggL_law_X5_count : GoodIn wsL_law wsX5_count := goodIn_r _ [621, 71, 63, 126, 392, 113, 114, 5, 115, 248, 249, 250, 251, 68, 252, 253, 254, 255, 178, 179, 180, 181, 256, 257, 258, 259, 260, 261, 336, 337, 338, 339, 622, 623, 624, 625, 626, 627, 628, 629, 630, 631, 632, 633, 634, 635, 636, 637, 303, 304, 305, 306, 307, 308, 638, 639, 640, 641, 642, 643, 644, 645, 646, 647, 648, 649, 650, 651, 652, 653, 654, 655, 656, 657, 658, 659, 660, 661, 662, 663, 664, 665, 356, 357, 358, 844, 845, 846, 847, 848, 849, 850, 851, 852, 853, 854, 855, 856, 857] (by decide +kernel) (by decide +kernel)
set_option maxRecDepth 20000 in
theorem gL_law_X5_count : GoodIn wsL_law (wsV RL 72 RX5 yX5_count wsX5_count) := goodIn_app (goodIn_of _ (by decide +kernel)) ggL_law_X5_count
set_option maxRecDepth 20000 in
theorem ggL_law_X4_spot : GoodIn wsL_law wsX4_spot := goodIn_r _ [669, 15, 76, 670, 559, 557, 671, 135, 2, 136, 672, 274, 275, 673, 163, 164, 33, 165, 94, 42, 674, 575, 576, 577, 45, 162, 222, 223, 224, 225, 226, 227, 228, 229, 230, 231, 562, 563, 564, 565, 566, 567, 568, 569, 570, 571, 572, 573, 574, 578, 579, 580, 581, 41, 279, 280, 281, 282, 283, 582, 583, 584, 585, 586, 587, 588, 589, 590, 591, 592, 593, 594, 595, 596, 675, 676, 677, 678, 679, 680, 681, 682, 683, 684, 685, 686, 687, 688, 689, 690, 838, 839, 840, 841, 842, 843, 858, 859, 860, 871, 872, 873, 874, 875] (by decide +kernel) (by decide +kernel)
set_option maxRecDepth 20000 in
theorem gL_law_X4_spot : GoodIn wsL_law (wsV RL 73 RX4 yX4_spot wsX4_spot) := goodIn_app (goodIn_of _ (by decide +kernel)) ggL_law_X4_spot
set_option maxRecDepth 20000 in
theorem ggL_law_X5_spot : GoodIn wsL_law wsX5_spot := goodIn_r _ [694, 71, 63, 68, 147, 148, 5, 149, 113, 114, 115, 252, 253, 254, 255, 178, 179, 180, 181, 256, 257, 258, 259, 260, 261, 174, 175, 176, 177, 626, 627, 628, 629, 630, 631, 632, 633, 634, 635, 636, 637, 303, 304, 305, 306, 307, 308, 638, 639, 640, 641, 642, 643, 644, 645, 646, 647, 648, 649, 695, 696, 697, 698, 844, 845, 846, 847, 848, 849, 850, 851, 852, 853, 854, 855, 856, 857] (by decide +kernel) (by decide +kernel)
set_option maxRecDepth 20000 in
theorem gL_law_X5_spot : GoodIn wsL_law (wsV RL 76 RX5 yX5_spot wsX5_spot) := goodIn_app (goodIn_of _ (by decide +kernel)) ggL_law_X5_spot
set_option maxRecDepth 20000 in
theorem ggL_law_X4_at : GoodIn wsL_law wsX4_at := goodIn_r _ [702, 15, 76, 558, 703, 838, 839, 840, 841, 842, 843, 858, 859, 860, 871, 872, 873, 874, 875] (by decide +kernel) (by decide +kernel)
set_option maxRecDepth 20000 in
theorem gL_law_X4_at : GoodIn wsL_law (wsV RL 77 RX4 yX4_at wsX4_at) := goodIn_app (goodIn_of _ (by decide +kernel)) ggL_law_X4_at
set_option maxRecDepth 20000 in
theorem ggL_law_X5_at : GoodIn wsL_law wsX5_at := goodIn_r _ [707, 71, 63, 178, 179, 180, 5, 181, 844, 845, 846, 847, 848, 849, 850, 851, 852, 853, 854, 855, 856, 857] (by decide +kernel) (by decide +kernel)
set_option maxRecDepth 20000 in
theorem gL_law_X5_at : GoodIn wsL_law (wsV RL 80 RX5 yX5_at wsX5_at) := goodIn_app (goodIn_of _ (by decide +kernel)) ggL_law_X5_at
set_option maxRecDepth 20000 in
theorem ggL_law_X4_brightness : GoodIn wsL_law wsX4_brightness := goodIn_r _ [711, 15, 76, 557, 671, 135, 2, 136, 674, 575, 576, 33, 577, 45, 162, 163, 164, 165, 94, 42, 222, 223, 224, 225, 226, 227, 228, 229, 230, 231, 712, 579, 580, 581, 41, 279, 280, 281, 282, 283, 838, 839, 840, 841, 842, 843, 858, 859, 860, 871, 872, 873, 874, 875] (by decide +kernel) (by decide +kernel)
set_option maxRecDepth 20000 in
theorem gL_law_X4_brightness : GoodIn wsL_law (wsV RL 81 RX4 yX4_brightness wsX4_brightness) := goodIn_app (goodIn_of _ (by decide +kernel)) ggL_law_X4_brightness
set_option maxRecDepth 20000 in
theorem ggL_law_X5_brightness : GoodIn wsL_law wsX5_brightness := goodIn_r _ [716, 71, 63, 147, 148, 5, 149, 113, 114, 115, 252, 253, 254, 255, 68, 178, 179, 180, 181, 256, 257, 258, 259, 260, 261, 634, 635, 636, 637, 303, 304, 305, 306, 307, 308, 844, 845, 846, 847, 848, 849, 850, 851, 852, 853, 854, 855, 856, 857] (by decide +kernel) (by decide +kernel)
set_option maxRecDepth 20000 in
theorem gL_law_X5_brightness : GoodIn wsL_law (wsV RL 84 RX5 yX5_brightness wsX5_brightness) := goodIn_app (goodIn_of _ (by decide +kernel)) ggL_law_X5_brightness
set_option maxRecDepth 20000 in
theorem ggL_law_X4_firstWrong : GoodIn wsL_law wsX4_firstWrong := goodIn_r _ [720, 15, 76, 557, 562, 563, 564, 33, 565, 45, 566, 567, 568, 569, 94, 42, 570, 571, 572, 573, 574, 575, 576, 577, 162, 163, 164, 165, 222, 223, 224, 225, 226, 2, 227, 228, 229, 230, 231, 578, 579, 580, 581, 41, 279, 280, 281, 282, 283, 582, 583, 584, 585, 586, 587, 588, 597, 598, 599, 600, 44, 721, 722, 723, 672, 274, 275, 589, 590, 591, 592, 593, 594, 595, 596, 838, 839, 840, 841, 842, 843, 858, 859, 860, 871, 872, 873, 874, 875] (by decide +kernel) (by decide +kernel)
set_option maxRecDepth 20000 in
theorem gL_law_X4_firstWrong : GoodIn wsL_law (wsV RL 85 RX4 yX4_firstWrong wsX4_firstWrong) := goodIn_app (goodIn_of _ (by decide +kernel)) ggL_law_X4_firstWrong
set_option maxRecDepth 20000 in
theorem ggL_law_X5_firstWrong : GoodIn wsL_law wsX5_firstWrong := goodIn_r _ [727, 71, 329, 330, 5, 331, 113, 114, 115, 252, 253, 254, 255, 68, 63, 178, 179, 180, 181, 256, 257, 258, 259, 260, 261, 654, 655, 656, 657, 626, 627, 628, 629, 630, 631, 632, 633, 634, 635, 636, 637, 303, 304, 305, 306, 307, 308, 638, 639, 640, 641, 642, 643, 644, 645, 646, 647, 648, 649, 844, 845, 846, 847, 848, 849, 850, 851, 852, 853, 854, 855, 856, 857] (by decide +kernel) (by decide +kernel)
set_option maxRecDepth 20000 in
theorem gL_law_X5_firstWrong : GoodIn wsL_law (wsV RL 88 RX5 yX5_firstWrong wsX5_firstWrong) := goodIn_app (goodIn_of _ (by decide +kernel)) ggL_law_X5_firstWrong
set_option maxRecDepth 20000 in
theorem ggL_law_X4_bestStart : GoodIn wsL_law wsX4_bestStart := goodIn_r _ [731, 15, 76, 26, 557, 732, 733, 734, 33, 735, 44, 94, 42, 318, 319, 320, 321, 322, 323, 324, 736, 737, 738, 739, 740, 741, 742, 743, 45, 274, 2, 275, 574, 575, 576, 577, 162, 163, 164, 165, 222, 223, 224, 225, 226, 227, 228, 229, 230, 231, 570, 571, 572, 573, 578, 579, 580, 581, 41, 279, 280, 281, 282, 283, 582, 583, 584, 585, 586, 587, 588, 838, 839, 840, 841, 842, 843, 858, 859, 860, 871, 872, 873, 874, 875] (by decide +kernel) (by decide +kernel)
set_option maxRecDepth 20000 in
theorem gL_law_X4_bestStart : GoodIn wsL_law (wsV RL 89 RX4 yX4_bestStart wsX4_bestStart) := goodIn_app (goodIn_of _ (by decide +kernel)) ggL_law_X4_bestStart
set_option maxRecDepth 20000 in
theorem ggL_law_X5_bestStart : GoodIn wsL_law wsX5_bestStart := goodIn_r _ [747, 71, 63, 329, 330, 5, 331, 113, 114, 115, 252, 253, 254, 255, 68, 178, 179, 180, 181, 256, 257, 258, 259, 260, 261, 748, 749, 750, 751, 642, 643, 644, 645, 646, 647, 648, 649, 634, 635, 636, 637, 303, 304, 305, 306, 307, 308, 844, 845, 846, 847, 848, 849, 850, 851, 852, 853, 854, 855, 856, 857] (by decide +kernel) (by decide +kernel)
set_option maxRecDepth 20000 in
theorem gL_law_X5_bestStart : GoodIn wsL_law (wsV RL 92 RX5 yX5_bestStart wsX5_bestStart) := goodIn_app (goodIn_of _ (by decide +kernel)) ggL_law_X5_bestStart
set_option maxRecDepth 20000 in
theorem ggL_law_X4_leastTravel : GoodIn wsL_law wsX4_leastTravel := goodIn_r _ [755, 24, 15, 76, 756, 757, 758, 33, 759, 94, 42, 760, 761, 762, 23, 763, 764, 765, 766, 767, 768, 769, 55, 274, 2, 275, 770, 771, 772, 773, 57, 774, 775, 776, 777, 778, 779, 780, 781, 782, 783, 784, 785, 226, 227, 228, 229, 230, 231, 786, 787, 788, 789, 790, 58, 791, 792, 793, 794, 795, 796, 797, 798, 838, 839, 840, 841, 842, 843, 858, 859, 860, 871, 872, 873, 874, 875, 865, 866, 867, 868, 869, 870] (by decide +kernel) (by decide +kernel)
set_option maxRecDepth 20000 in
theorem gL_law_X4_leastTravel : GoodIn wsL_law (wsV RL 93 RX4 yX4_leastTravel wsX4_leastTravel) := goodIn_app (goodIn_of _ (by decide +kernel)) ggL_law_X4_leastTravel
set_option maxRecDepth 20000 in
theorem ggL_law_X5_leastTravel : GoodIn wsL_law wsX5_leastTravel := goodIn_r _ [802, 71, 63, 803, 70, 804, 805, 806, 5, 807, 178, 179, 180, 181, 256, 257, 258, 259, 260, 261, 844, 845, 846, 847, 848, 849, 850, 851, 852, 853, 854, 855, 856, 857] (by decide +kernel) (by decide +kernel)
set_option maxRecDepth 20000 in
theorem gL_law_X5_leastTravel : GoodIn wsL_law (wsV RL 96 RX5 yX5_leastTravel wsX5_leastTravel) := goodIn_app (goodIn_of _ (by decide +kernel)) ggL_law_X5_leastTravel
set_option maxRecDepth 20000 in
theorem ggL_law_X4_longest : GoodIn wsL_law wsX4_longest := goodIn_r _ [811, 15, 76, 589, 590, 591, 33, 592, 45, 593, 594, 595, 596, 566, 567, 568, 569, 94, 42, 570, 571, 572, 573, 574, 575, 576, 577, 162, 163, 164, 165, 222, 223, 224, 225, 226, 2, 227, 228, 229, 230, 231, 578, 579, 580, 581, 41, 279, 280, 281, 282, 283, 582, 583, 584, 585, 586, 587, 588, 597, 598, 599, 600, 44, 838, 839, 840, 841, 842, 843, 858, 859, 860, 871, 872, 873, 874, 875] (by decide +kernel) (by decide +kernel)
set_option maxRecDepth 20000 in
theorem gL_law_X4_longest : GoodIn wsL_law (wsV RL 97 RX4 yX4_longest wsX4_longest) := goodIn_app (goodIn_of _ (by decide +kernel)) ggL_law_X4_longest
set_option maxRecDepth 20000 in
theorem ggL_law_X5_longest : GoodIn wsL_law wsX5_longest := goodIn_r _ [815, 71, 63, 252, 253, 254, 5, 255, 68, 178, 179, 180, 181, 256, 257, 258, 259, 260, 261, 748, 749, 750, 751, 642, 643, 644, 645, 646, 647, 648, 649, 634, 635, 636, 637, 303, 304, 305, 306, 307, 308, 844, 845, 846, 847, 848, 849, 850, 851, 852, 853, 854, 855, 856, 857] (by decide +kernel) (by decide +kernel)
set_option maxRecDepth 20000 in
theorem gL_law_X5_longest : GoodIn wsL_law (wsV RL 100 RX5 yX5_longest wsX5_longest) := goodIn_app (goodIn_of _ (by decide +kernel)) ggL_law_X5_longest
set_option maxRecDepth 20000 in
theorem ggL_law_X4_ticks : GoodIn wsL_law wsX4_ticks := goodIn_r _ [819, 820, 137, 2, 138, 821, 276, 277, 278, 279, 280, 281, 282, 230, 283] (by decide +kernel) (by decide +kernel)
set_option maxRecDepth 20000 in
theorem gL_law_X4_ticks : GoodIn wsL_law (wsV RL 101 RX4 yX4_ticks wsX4_ticks) := goodIn_app (goodIn_of _ (by decide +kernel)) ggL_law_X4_ticks
set_option maxRecDepth 20000 in
theorem ggL_law_X5_ticks : GoodIn wsL_law wsX5_ticks := goodIn_r _ [825, 71, 113, 114, 5, 115, 303, 304, 305, 306, 307, 308, 844, 845, 846, 847, 848, 849, 850, 851, 852, 853, 854, 855, 856, 857] (by decide +kernel) (by decide +kernel)
set_option maxRecDepth 20000 in
theorem gL_law_X5_ticks : GoodIn wsL_law (wsV RL 104 RX5 yX5_ticks wsX5_ticks) := goodIn_app (goodIn_of _ (by decide +kernel)) ggL_law_X5_ticks
set_option maxRecDepth 20000 in
theorem ggL_law_X4_shortestPeriod : GoodIn wsL_law wsX4_shortestPeriod := goodIn_r _ [829, 15, 76, 558, 281, 282, 230, 283, 605, 223, 224, 33, 225, 94, 42, 45, 226, 2, 227, 228, 229, 231, 838, 839, 840, 841, 842, 843, 858, 859, 860, 871, 872, 873, 874, 875] (by decide +kernel) (by decide +kernel)
set_option maxRecDepth 20000 in
theorem gL_law_X4_shortestPeriod : GoodIn wsL_law (wsV RL 105 RX4 yX4_shortestPeriod wsX4_shortestPeriod) := goodIn_app (goodIn_of _ (by decide +kernel)) ggL_law_X4_shortestPeriod
set_option maxRecDepth 20000 in
theorem ggL_law_X5_shortestPeriod : GoodIn wsL_law wsX5_shortestPeriod := goodIn_r _ [833, 71, 834, 835, 836, 5, 837, 63, 178, 179, 180, 181, 256, 257, 258, 259, 260, 261, 844, 845, 846, 847, 848, 849, 850, 851, 852, 853, 854, 855, 856, 857] (by decide +kernel) (by decide +kernel)
set_option maxRecDepth 20000 in
theorem gL_law_X5_shortestPeriod : GoodIn wsL_law (wsV RL 108 RX5 yX5_shortestPeriod wsX5_shortestPeriod) := goodIn_app (goodIn_of _ (by decide +kernel)) ggL_law_X5_shortestPeriod
theorem dL_law_0 : decode cL_law 0 = .ok (.new 7, 3) := by decide +kernel
theorem dL_law_3 : decode cL_law 3 = .ok (.dup, 1) := by decide +kernel
theorem dL_law_4 : decode cL_law 4 = .ok (.invokespecial 9, 3) := by decide +kernel
theorem dL_law_7 : decode cL_law 7 = .ok (.astore_n 1, 1) := by decide +kernel
theorem dL_law_8 : decode cL_law 8 = .ok (.new 10, 3) := by decide +kernel
theorem dL_law_11 : decode cL_law 11 = .ok (.dup, 1) := by decide +kernel
theorem dL_law_12 : decode cL_law 12 = .ok (.invokespecial 12, 3) := by decide +kernel
theorem dL_law_15 : decode cL_law 15 = .ok (.astore_n 2, 1) := by decide +kernel
theorem dL_law_16 : decode cL_law 16 = .ok (.iconst 0, 1) := by decide +kernel
theorem dL_law_17 : decode cL_law 17 = .ok (.istore_n 3, 1) := by decide +kernel
theorem dL_law_18 : decode cL_law 18 = .ok (.iload_n 3, 1) := by decide +kernel
theorem dL_law_19 : decode cL_law 19 = .ok (.aload_n 0, 1) := by decide +kernel
theorem dL_law_20 : decode cL_law 20 = .ok (.arraylength, 1) := by decide +kernel
theorem dL_law_21 : decode cL_law 21 = .ok (.iconst 4, 1) := by decide +kernel
theorem dL_law_22 : decode cL_law 22 = .ok (.isub, 1) := by decide +kernel
theorem dL_law_23 : decode cL_law 23 = .ok (.if_icmp .gt 682, 3) := by decide +kernel
theorem dL_law_26 : decode cL_law 26 = .ok (.aload_n 0, 1) := by decide +kernel
theorem dL_law_27 : decode cL_law 27 = .ok (.iload_n 3, 1) := by decide +kernel
theorem dL_law_28 : decode cL_law 28 = .ok (.iaload, 1) := by decide +kernel
theorem dL_law_29 : decode cL_law 29 = .ok (.bipush 31, 2) := by decide +kernel
theorem dL_law_31 : decode cL_law 31 = .ok (.iand, 1) := by decide +kernel
theorem dL_law_32 : decode cL_law 32 = .ok (.tableswitch 667 0 22 #[108, 141, 174, 197, 220, 253, 276, 319, 342, 365, 378, 401, 414, 427, 450, 483, 506, 539, 562, 585, 608, 621, 654], 108) := by decide +kernel
theorem dL_law_140 : decode cL_law 140 = .ok (.aload_n 1, 1) := by decide +kernel
theorem dL_law_141 : decode cL_law 141 = .ok (.aload_n 0, 1) := by decide +kernel
theorem dL_law_142 : decode cL_law 142 = .ok (.iload_n 3, 1) := by decide +kernel
theorem dL_law_143 : decode cL_law 143 = .ok (.iconst 1, 1) := by decide +kernel
theorem dL_law_144 : decode cL_law 144 = .ok (.iadd, 1) := by decide +kernel
theorem dL_law_145 : decode cL_law 145 = .ok (.iaload, 1) := by decide +kernel
theorem dL_law_146 : decode cL_law 146 = .ok (.aload_n 0, 1) := by decide +kernel
theorem dL_law_147 : decode cL_law 147 = .ok (.iload_n 3, 1) := by decide +kernel
theorem dL_law_148 : decode cL_law 148 = .ok (.iconst 2, 1) := by decide +kernel
theorem dL_law_149 : decode cL_law 149 = .ok (.iadd, 1) := by decide +kernel
theorem dL_law_150 : decode cL_law 150 = .ok (.iaload, 1) := by decide +kernel
theorem dL_law_151 : decode cL_law 151 = .ok (.invokevirtual 13, 3) := by decide +kernel
theorem dL_law_154 : decode cL_law 154 = .ok (.aload_n 2, 1) := by decide +kernel
theorem dL_law_155 : decode cL_law 155 = .ok (.aload_n 0, 1) := by decide +kernel
theorem dL_law_156 : decode cL_law 156 = .ok (.iload_n 3, 1) := by decide +kernel
theorem dL_law_157 : decode cL_law 157 = .ok (.iconst 1, 1) := by decide +kernel
theorem dL_law_158 : decode cL_law 158 = .ok (.iadd, 1) := by decide +kernel
theorem dL_law_159 : decode cL_law 159 = .ok (.iaload, 1) := by decide +kernel
theorem dL_law_160 : decode cL_law 160 = .ok (.aload_n 0, 1) := by decide +kernel
theorem dL_law_161 : decode cL_law 161 = .ok (.iload_n 3, 1) := by decide +kernel
theorem dL_law_162 : decode cL_law 162 = .ok (.iconst 2, 1) := by decide +kernel
theorem dL_law_163 : decode cL_law 163 = .ok (.iadd, 1) := by decide +kernel
theorem dL_law_164 : decode cL_law 164 = .ok (.iaload, 1) := by decide +kernel
theorem dL_law_165 : decode cL_law 165 = .ok (.invokevirtual 17, 3) := by decide +kernel
theorem dL_law_168 : decode cL_law 168 = .ok (.if_icmp .eq 531, 3) := by decide +kernel
theorem dL_law_171 : decode cL_law 171 = .ok (.iconst 0, 1) := by decide +kernel
theorem dL_law_172 : decode cL_law 172 = .ok (.ireturn, 1) := by decide +kernel
theorem dL_law_173 : decode cL_law 173 = .ok (.aload_n 1, 1) := by decide +kernel
theorem dL_law_174 : decode cL_law 174 = .ok (.aload_n 0, 1) := by decide +kernel
theorem dL_law_175 : decode cL_law 175 = .ok (.iload_n 3, 1) := by decide +kernel
theorem dL_law_176 : decode cL_law 176 = .ok (.iconst 1, 1) := by decide +kernel
theorem dL_law_177 : decode cL_law 177 = .ok (.iadd, 1) := by decide +kernel
theorem dL_law_178 : decode cL_law 178 = .ok (.iaload, 1) := by decide +kernel
theorem dL_law_179 : decode cL_law 179 = .ok (.aload_n 0, 1) := by decide +kernel
theorem dL_law_180 : decode cL_law 180 = .ok (.iload_n 3, 1) := by decide +kernel
theorem dL_law_181 : decode cL_law 181 = .ok (.iconst 2, 1) := by decide +kernel
theorem dL_law_182 : decode cL_law 182 = .ok (.iadd, 1) := by decide +kernel
theorem dL_law_183 : decode cL_law 183 = .ok (.iaload, 1) := by decide +kernel
theorem dL_law_184 : decode cL_law 184 = .ok (.invokevirtual 18, 3) := by decide +kernel
theorem dL_law_187 : decode cL_law 187 = .ok (.aload_n 2, 1) := by decide +kernel
theorem dL_law_188 : decode cL_law 188 = .ok (.aload_n 0, 1) := by decide +kernel
theorem dL_law_189 : decode cL_law 189 = .ok (.iload_n 3, 1) := by decide +kernel
theorem dL_law_190 : decode cL_law 190 = .ok (.iconst 1, 1) := by decide +kernel
theorem dL_law_191 : decode cL_law 191 = .ok (.iadd, 1) := by decide +kernel
theorem dL_law_192 : decode cL_law 192 = .ok (.iaload, 1) := by decide +kernel
theorem dL_law_193 : decode cL_law 193 = .ok (.aload_n 0, 1) := by decide +kernel
theorem dL_law_194 : decode cL_law 194 = .ok (.iload_n 3, 1) := by decide +kernel
theorem dL_law_195 : decode cL_law 195 = .ok (.iconst 2, 1) := by decide +kernel
theorem dL_law_196 : decode cL_law 196 = .ok (.iadd, 1) := by decide +kernel
theorem dL_law_197 : decode cL_law 197 = .ok (.iaload, 1) := by decide +kernel
theorem dL_law_198 : decode cL_law 198 = .ok (.invokevirtual 21, 3) := by decide +kernel
theorem dL_law_201 : decode cL_law 201 = .ok (.if_icmp .eq 498, 3) := by decide +kernel
theorem dL_law_204 : decode cL_law 204 = .ok (.iconst 0, 1) := by decide +kernel
theorem dL_law_205 : decode cL_law 205 = .ok (.ireturn, 1) := by decide +kernel
theorem dL_law_206 : decode cL_law 206 = .ok (.aload_n 1, 1) := by decide +kernel
theorem dL_law_207 : decode cL_law 207 = .ok (.aload_n 0, 1) := by decide +kernel
theorem dL_law_208 : decode cL_law 208 = .ok (.iload_n 3, 1) := by decide +kernel
theorem dL_law_209 : decode cL_law 209 = .ok (.iconst 1, 1) := by decide +kernel
theorem dL_law_210 : decode cL_law 210 = .ok (.iadd, 1) := by decide +kernel
theorem dL_law_211 : decode cL_law 211 = .ok (.iaload, 1) := by decide +kernel
theorem dL_law_212 : decode cL_law 212 = .ok (.invokevirtual 22, 3) := by decide +kernel
theorem dL_law_215 : decode cL_law 215 = .ok (.aload_n 2, 1) := by decide +kernel
theorem dL_law_216 : decode cL_law 216 = .ok (.aload_n 0, 1) := by decide +kernel
theorem dL_law_217 : decode cL_law 217 = .ok (.iload_n 3, 1) := by decide +kernel
theorem dL_law_218 : decode cL_law 218 = .ok (.iconst 1, 1) := by decide +kernel
theorem dL_law_219 : decode cL_law 219 = .ok (.iadd, 1) := by decide +kernel
theorem dL_law_220 : decode cL_law 220 = .ok (.iaload, 1) := by decide +kernel
theorem dL_law_221 : decode cL_law 221 = .ok (.invokevirtual 26, 3) := by decide +kernel
theorem dL_law_224 : decode cL_law 224 = .ok (.if_icmp .eq 475, 3) := by decide +kernel
theorem dL_law_227 : decode cL_law 227 = .ok (.iconst 0, 1) := by decide +kernel
theorem dL_law_228 : decode cL_law 228 = .ok (.ireturn, 1) := by decide +kernel
theorem dL_law_229 : decode cL_law 229 = .ok (.aload_n 1, 1) := by decide +kernel
theorem dL_law_230 : decode cL_law 230 = .ok (.aload_n 0, 1) := by decide +kernel
theorem dL_law_231 : decode cL_law 231 = .ok (.iload_n 3, 1) := by decide +kernel
theorem dL_law_232 : decode cL_law 232 = .ok (.iconst 1, 1) := by decide +kernel
theorem dL_law_233 : decode cL_law 233 = .ok (.iadd, 1) := by decide +kernel
theorem dL_law_234 : decode cL_law 234 = .ok (.iaload, 1) := by decide +kernel
theorem dL_law_235 : decode cL_law 235 = .ok (.invokevirtual 27, 3) := by decide +kernel
theorem dL_law_238 : decode cL_law 238 = .ok (.aload_n 2, 1) := by decide +kernel
theorem dL_law_239 : decode cL_law 239 = .ok (.aload_n 0, 1) := by decide +kernel
theorem dL_law_240 : decode cL_law 240 = .ok (.iload_n 3, 1) := by decide +kernel
theorem dL_law_241 : decode cL_law 241 = .ok (.iconst 1, 1) := by decide +kernel
theorem dL_law_242 : decode cL_law 242 = .ok (.iadd, 1) := by decide +kernel
theorem dL_law_243 : decode cL_law 243 = .ok (.iaload, 1) := by decide +kernel
theorem dL_law_244 : decode cL_law 244 = .ok (.invokevirtual 30, 3) := by decide +kernel
theorem dL_law_247 : decode cL_law 247 = .ok (.if_icmp .eq 452, 3) := by decide +kernel
theorem dL_law_250 : decode cL_law 250 = .ok (.iconst 0, 1) := by decide +kernel
theorem dL_law_251 : decode cL_law 251 = .ok (.ireturn, 1) := by decide +kernel
theorem dL_law_252 : decode cL_law 252 = .ok (.aload_n 1, 1) := by decide +kernel
theorem dL_law_253 : decode cL_law 253 = .ok (.aload_n 0, 1) := by decide +kernel
theorem dL_law_254 : decode cL_law 254 = .ok (.iload_n 3, 1) := by decide +kernel
theorem dL_law_255 : decode cL_law 255 = .ok (.iconst 1, 1) := by decide +kernel
theorem dL_law_256 : decode cL_law 256 = .ok (.iadd, 1) := by decide +kernel
theorem dL_law_257 : decode cL_law 257 = .ok (.iaload, 1) := by decide +kernel
theorem dL_law_258 : decode cL_law 258 = .ok (.aload_n 0, 1) := by decide +kernel
theorem dL_law_259 : decode cL_law 259 = .ok (.iload_n 3, 1) := by decide +kernel
theorem dL_law_260 : decode cL_law 260 = .ok (.iconst 2, 1) := by decide +kernel
theorem dL_law_261 : decode cL_law 261 = .ok (.iadd, 1) := by decide +kernel
theorem dL_law_262 : decode cL_law 262 = .ok (.iaload, 1) := by decide +kernel
theorem dL_law_263 : decode cL_law 263 = .ok (.invokevirtual 31, 3) := by decide +kernel
theorem dL_law_266 : decode cL_law 266 = .ok (.aload_n 2, 1) := by decide +kernel
theorem dL_law_267 : decode cL_law 267 = .ok (.aload_n 0, 1) := by decide +kernel
theorem dL_law_268 : decode cL_law 268 = .ok (.iload_n 3, 1) := by decide +kernel
theorem dL_law_269 : decode cL_law 269 = .ok (.iconst 1, 1) := by decide +kernel
theorem dL_law_270 : decode cL_law 270 = .ok (.iadd, 1) := by decide +kernel
theorem dL_law_271 : decode cL_law 271 = .ok (.iaload, 1) := by decide +kernel
theorem dL_law_272 : decode cL_law 272 = .ok (.aload_n 0, 1) := by decide +kernel
theorem dL_law_273 : decode cL_law 273 = .ok (.iload_n 3, 1) := by decide +kernel
theorem dL_law_274 : decode cL_law 274 = .ok (.iconst 2, 1) := by decide +kernel
theorem dL_law_275 : decode cL_law 275 = .ok (.iadd, 1) := by decide +kernel
theorem dL_law_276 : decode cL_law 276 = .ok (.iaload, 1) := by decide +kernel
theorem dL_law_277 : decode cL_law 277 = .ok (.invokevirtual 34, 3) := by decide +kernel
theorem dL_law_280 : decode cL_law 280 = .ok (.if_icmp .eq 419, 3) := by decide +kernel
theorem dL_law_283 : decode cL_law 283 = .ok (.iconst 0, 1) := by decide +kernel
theorem dL_law_284 : decode cL_law 284 = .ok (.ireturn, 1) := by decide +kernel
theorem dL_law_285 : decode cL_law 285 = .ok (.aload_n 1, 1) := by decide +kernel
theorem dL_law_286 : decode cL_law 286 = .ok (.aload_n 0, 1) := by decide +kernel
theorem dL_law_287 : decode cL_law 287 = .ok (.iload_n 3, 1) := by decide +kernel
theorem dL_law_288 : decode cL_law 288 = .ok (.iconst 1, 1) := by decide +kernel
theorem dL_law_289 : decode cL_law 289 = .ok (.iadd, 1) := by decide +kernel
theorem dL_law_290 : decode cL_law 290 = .ok (.iaload, 1) := by decide +kernel
theorem dL_law_291 : decode cL_law 291 = .ok (.invokevirtual 35, 3) := by decide +kernel
theorem dL_law_294 : decode cL_law 294 = .ok (.aload_n 2, 1) := by decide +kernel
theorem dL_law_295 : decode cL_law 295 = .ok (.aload_n 0, 1) := by decide +kernel
theorem dL_law_296 : decode cL_law 296 = .ok (.iload_n 3, 1) := by decide +kernel
theorem dL_law_297 : decode cL_law 297 = .ok (.iconst 1, 1) := by decide +kernel
theorem dL_law_298 : decode cL_law 298 = .ok (.iadd, 1) := by decide +kernel
theorem dL_law_299 : decode cL_law 299 = .ok (.iaload, 1) := by decide +kernel
theorem dL_law_300 : decode cL_law 300 = .ok (.invokevirtual 38, 3) := by decide +kernel
theorem dL_law_303 : decode cL_law 303 = .ok (.if_icmp .eq 396, 3) := by decide +kernel
theorem dL_law_306 : decode cL_law 306 = .ok (.iconst 0, 1) := by decide +kernel
theorem dL_law_307 : decode cL_law 307 = .ok (.ireturn, 1) := by decide +kernel
theorem dL_law_308 : decode cL_law 308 = .ok (.aload_n 1, 1) := by decide +kernel
theorem dL_law_309 : decode cL_law 309 = .ok (.aload_n 0, 1) := by decide +kernel
theorem dL_law_310 : decode cL_law 310 = .ok (.iload_n 3, 1) := by decide +kernel
theorem dL_law_311 : decode cL_law 311 = .ok (.iconst 1, 1) := by decide +kernel
theorem dL_law_312 : decode cL_law 312 = .ok (.iadd, 1) := by decide +kernel
theorem dL_law_313 : decode cL_law 313 = .ok (.iaload, 1) := by decide +kernel
theorem dL_law_314 : decode cL_law 314 = .ok (.aload_n 0, 1) := by decide +kernel
theorem dL_law_315 : decode cL_law 315 = .ok (.iload_n 3, 1) := by decide +kernel
theorem dL_law_316 : decode cL_law 316 = .ok (.iconst 2, 1) := by decide +kernel
theorem dL_law_317 : decode cL_law 317 = .ok (.iadd, 1) := by decide +kernel
theorem dL_law_318 : decode cL_law 318 = .ok (.iaload, 1) := by decide +kernel
theorem dL_law_319 : decode cL_law 319 = .ok (.aload_n 0, 1) := by decide +kernel
theorem dL_law_320 : decode cL_law 320 = .ok (.iload_n 3, 1) := by decide +kernel
theorem dL_law_321 : decode cL_law 321 = .ok (.iconst 3, 1) := by decide +kernel
theorem dL_law_322 : decode cL_law 322 = .ok (.iadd, 1) := by decide +kernel
theorem dL_law_323 : decode cL_law 323 = .ok (.iaload, 1) := by decide +kernel
theorem dL_law_324 : decode cL_law 324 = .ok (.invokevirtual 39, 3) := by decide +kernel
theorem dL_law_327 : decode cL_law 327 = .ok (.aload_n 2, 1) := by decide +kernel
theorem dL_law_328 : decode cL_law 328 = .ok (.aload_n 0, 1) := by decide +kernel
theorem dL_law_329 : decode cL_law 329 = .ok (.iload_n 3, 1) := by decide +kernel
theorem dL_law_330 : decode cL_law 330 = .ok (.iconst 1, 1) := by decide +kernel
theorem dL_law_331 : decode cL_law 331 = .ok (.iadd, 1) := by decide +kernel
theorem dL_law_332 : decode cL_law 332 = .ok (.iaload, 1) := by decide +kernel
theorem dL_law_333 : decode cL_law 333 = .ok (.aload_n 0, 1) := by decide +kernel
theorem dL_law_334 : decode cL_law 334 = .ok (.iload_n 3, 1) := by decide +kernel
theorem dL_law_335 : decode cL_law 335 = .ok (.iconst 2, 1) := by decide +kernel
theorem dL_law_336 : decode cL_law 336 = .ok (.iadd, 1) := by decide +kernel
theorem dL_law_337 : decode cL_law 337 = .ok (.iaload, 1) := by decide +kernel
theorem dL_law_338 : decode cL_law 338 = .ok (.aload_n 0, 1) := by decide +kernel
theorem dL_law_339 : decode cL_law 339 = .ok (.iload_n 3, 1) := by decide +kernel
theorem dL_law_340 : decode cL_law 340 = .ok (.iconst 3, 1) := by decide +kernel
theorem dL_law_341 : decode cL_law 341 = .ok (.iadd, 1) := by decide +kernel
theorem dL_law_342 : decode cL_law 342 = .ok (.iaload, 1) := by decide +kernel
theorem dL_law_343 : decode cL_law 343 = .ok (.invokevirtual 43, 3) := by decide +kernel
theorem dL_law_346 : decode cL_law 346 = .ok (.if_icmp .eq 353, 3) := by decide +kernel
theorem dL_law_349 : decode cL_law 349 = .ok (.iconst 0, 1) := by decide +kernel
theorem dL_law_350 : decode cL_law 350 = .ok (.ireturn, 1) := by decide +kernel
theorem dL_law_351 : decode cL_law 351 = .ok (.aload_n 1, 1) := by decide +kernel
theorem dL_law_352 : decode cL_law 352 = .ok (.aload_n 0, 1) := by decide +kernel
theorem dL_law_353 : decode cL_law 353 = .ok (.iload_n 3, 1) := by decide +kernel
theorem dL_law_354 : decode cL_law 354 = .ok (.iconst 1, 1) := by decide +kernel
theorem dL_law_355 : decode cL_law 355 = .ok (.iadd, 1) := by decide +kernel
theorem dL_law_356 : decode cL_law 356 = .ok (.iaload, 1) := by decide +kernel
theorem dL_law_357 : decode cL_law 357 = .ok (.invokevirtual 44, 3) := by decide +kernel
theorem dL_law_360 : decode cL_law 360 = .ok (.aload_n 2, 1) := by decide +kernel
theorem dL_law_361 : decode cL_law 361 = .ok (.aload_n 0, 1) := by decide +kernel
theorem dL_law_362 : decode cL_law 362 = .ok (.iload_n 3, 1) := by decide +kernel
theorem dL_law_363 : decode cL_law 363 = .ok (.iconst 1, 1) := by decide +kernel
theorem dL_law_364 : decode cL_law 364 = .ok (.iadd, 1) := by decide +kernel
theorem dL_law_365 : decode cL_law 365 = .ok (.iaload, 1) := by decide +kernel
theorem dL_law_366 : decode cL_law 366 = .ok (.invokevirtual 47, 3) := by decide +kernel
theorem dL_law_369 : decode cL_law 369 = .ok (.if_icmp .eq 330, 3) := by decide +kernel
theorem dL_law_372 : decode cL_law 372 = .ok (.iconst 0, 1) := by decide +kernel
theorem dL_law_373 : decode cL_law 373 = .ok (.ireturn, 1) := by decide +kernel
theorem dL_law_374 : decode cL_law 374 = .ok (.aload_n 1, 1) := by decide +kernel
theorem dL_law_375 : decode cL_law 375 = .ok (.aload_n 0, 1) := by decide +kernel
theorem dL_law_376 : decode cL_law 376 = .ok (.iload_n 3, 1) := by decide +kernel
theorem dL_law_377 : decode cL_law 377 = .ok (.iconst 1, 1) := by decide +kernel
theorem dL_law_378 : decode cL_law 378 = .ok (.iadd, 1) := by decide +kernel
theorem dL_law_379 : decode cL_law 379 = .ok (.iaload, 1) := by decide +kernel
theorem dL_law_380 : decode cL_law 380 = .ok (.invokevirtual 48, 3) := by decide +kernel
theorem dL_law_383 : decode cL_law 383 = .ok (.aload_n 2, 1) := by decide +kernel
theorem dL_law_384 : decode cL_law 384 = .ok (.aload_n 0, 1) := by decide +kernel
theorem dL_law_385 : decode cL_law 385 = .ok (.iload_n 3, 1) := by decide +kernel
theorem dL_law_386 : decode cL_law 386 = .ok (.iconst 1, 1) := by decide +kernel
theorem dL_law_387 : decode cL_law 387 = .ok (.iadd, 1) := by decide +kernel
theorem dL_law_388 : decode cL_law 388 = .ok (.iaload, 1) := by decide +kernel
theorem dL_law_389 : decode cL_law 389 = .ok (.invokevirtual 51, 3) := by decide +kernel
theorem dL_law_392 : decode cL_law 392 = .ok (.if_icmp .eq 307, 3) := by decide +kernel
theorem dL_law_395 : decode cL_law 395 = .ok (.iconst 0, 1) := by decide +kernel
theorem dL_law_396 : decode cL_law 396 = .ok (.ireturn, 1) := by decide +kernel
theorem dL_law_397 : decode cL_law 397 = .ok (.aload_n 1, 1) := by decide +kernel
theorem dL_law_398 : decode cL_law 398 = .ok (.invokevirtual 52, 3) := by decide +kernel
theorem dL_law_401 : decode cL_law 401 = .ok (.aload_n 2, 1) := by decide +kernel
theorem dL_law_402 : decode cL_law 402 = .ok (.invokevirtual 56, 3) := by decide +kernel
theorem dL_law_405 : decode cL_law 405 = .ok (.if_icmp .eq 294, 3) := by decide +kernel
theorem dL_law_408 : decode cL_law 408 = .ok (.iconst 0, 1) := by decide +kernel
theorem dL_law_409 : decode cL_law 409 = .ok (.ireturn, 1) := by decide +kernel
theorem dL_law_410 : decode cL_law 410 = .ok (.aload_n 1, 1) := by decide +kernel
theorem dL_law_411 : decode cL_law 411 = .ok (.aload_n 0, 1) := by decide +kernel
theorem dL_law_412 : decode cL_law 412 = .ok (.iload_n 3, 1) := by decide +kernel
theorem dL_law_413 : decode cL_law 413 = .ok (.iconst 1, 1) := by decide +kernel
theorem dL_law_414 : decode cL_law 414 = .ok (.iadd, 1) := by decide +kernel
theorem dL_law_415 : decode cL_law 415 = .ok (.iaload, 1) := by decide +kernel
theorem dL_law_416 : decode cL_law 416 = .ok (.invokevirtual 57, 3) := by decide +kernel
theorem dL_law_419 : decode cL_law 419 = .ok (.aload_n 2, 1) := by decide +kernel
theorem dL_law_420 : decode cL_law 420 = .ok (.aload_n 0, 1) := by decide +kernel
theorem dL_law_421 : decode cL_law 421 = .ok (.iload_n 3, 1) := by decide +kernel
theorem dL_law_422 : decode cL_law 422 = .ok (.iconst 1, 1) := by decide +kernel
theorem dL_law_423 : decode cL_law 423 = .ok (.iadd, 1) := by decide +kernel
theorem dL_law_424 : decode cL_law 424 = .ok (.iaload, 1) := by decide +kernel
theorem dL_law_425 : decode cL_law 425 = .ok (.invokevirtual 60, 3) := by decide +kernel
theorem dL_law_428 : decode cL_law 428 = .ok (.if_icmp .eq 271, 3) := by decide +kernel
theorem dL_law_431 : decode cL_law 431 = .ok (.iconst 0, 1) := by decide +kernel
theorem dL_law_432 : decode cL_law 432 = .ok (.ireturn, 1) := by decide +kernel
theorem dL_law_433 : decode cL_law 433 = .ok (.aload_n 1, 1) := by decide +kernel
theorem dL_law_434 : decode cL_law 434 = .ok (.invokevirtual 61, 3) := by decide +kernel
theorem dL_law_437 : decode cL_law 437 = .ok (.aload_n 2, 1) := by decide +kernel
theorem dL_law_438 : decode cL_law 438 = .ok (.invokevirtual 64, 3) := by decide +kernel
theorem dL_law_441 : decode cL_law 441 = .ok (.if_icmp .eq 258, 3) := by decide +kernel
theorem dL_law_444 : decode cL_law 444 = .ok (.iconst 0, 1) := by decide +kernel
theorem dL_law_445 : decode cL_law 445 = .ok (.ireturn, 1) := by decide +kernel
theorem dL_law_446 : decode cL_law 446 = .ok (.aload_n 1, 1) := by decide +kernel
theorem dL_law_447 : decode cL_law 447 = .ok (.invokevirtual 65, 3) := by decide +kernel
theorem dL_law_450 : decode cL_law 450 = .ok (.aload_n 2, 1) := by decide +kernel
theorem dL_law_451 : decode cL_law 451 = .ok (.invokevirtual 68, 3) := by decide +kernel
theorem dL_law_454 : decode cL_law 454 = .ok (.if_icmp .eq 245, 3) := by decide +kernel
theorem dL_law_457 : decode cL_law 457 = .ok (.iconst 0, 1) := by decide +kernel
theorem dL_law_458 : decode cL_law 458 = .ok (.ireturn, 1) := by decide +kernel
theorem dL_law_459 : decode cL_law 459 = .ok (.aload_n 1, 1) := by decide +kernel
theorem dL_law_460 : decode cL_law 460 = .ok (.aload_n 0, 1) := by decide +kernel
theorem dL_law_461 : decode cL_law 461 = .ok (.iload_n 3, 1) := by decide +kernel
theorem dL_law_462 : decode cL_law 462 = .ok (.iconst 1, 1) := by decide +kernel
theorem dL_law_463 : decode cL_law 463 = .ok (.iadd, 1) := by decide +kernel
theorem dL_law_464 : decode cL_law 464 = .ok (.iaload, 1) := by decide +kernel
theorem dL_law_465 : decode cL_law 465 = .ok (.invokevirtual 69, 3) := by decide +kernel
theorem dL_law_468 : decode cL_law 468 = .ok (.aload_n 2, 1) := by decide +kernel
theorem dL_law_469 : decode cL_law 469 = .ok (.aload_n 0, 1) := by decide +kernel
theorem dL_law_470 : decode cL_law 470 = .ok (.iload_n 3, 1) := by decide +kernel
theorem dL_law_471 : decode cL_law 471 = .ok (.iconst 1, 1) := by decide +kernel
theorem dL_law_472 : decode cL_law 472 = .ok (.iadd, 1) := by decide +kernel
theorem dL_law_473 : decode cL_law 473 = .ok (.iaload, 1) := by decide +kernel
theorem dL_law_474 : decode cL_law 474 = .ok (.invokevirtual 72, 3) := by decide +kernel
theorem dL_law_477 : decode cL_law 477 = .ok (.if_icmp .eq 222, 3) := by decide +kernel
theorem dL_law_480 : decode cL_law 480 = .ok (.iconst 0, 1) := by decide +kernel
theorem dL_law_481 : decode cL_law 481 = .ok (.ireturn, 1) := by decide +kernel
theorem dL_law_482 : decode cL_law 482 = .ok (.aload_n 1, 1) := by decide +kernel
theorem dL_law_483 : decode cL_law 483 = .ok (.aload_n 0, 1) := by decide +kernel
theorem dL_law_484 : decode cL_law 484 = .ok (.iload_n 3, 1) := by decide +kernel
theorem dL_law_485 : decode cL_law 485 = .ok (.iconst 1, 1) := by decide +kernel
theorem dL_law_486 : decode cL_law 486 = .ok (.iadd, 1) := by decide +kernel
theorem dL_law_487 : decode cL_law 487 = .ok (.iaload, 1) := by decide +kernel
theorem dL_law_488 : decode cL_law 488 = .ok (.aload_n 0, 1) := by decide +kernel
theorem dL_law_489 : decode cL_law 489 = .ok (.iload_n 3, 1) := by decide +kernel
theorem dL_law_490 : decode cL_law 490 = .ok (.iconst 2, 1) := by decide +kernel
theorem dL_law_491 : decode cL_law 491 = .ok (.iadd, 1) := by decide +kernel
theorem dL_law_492 : decode cL_law 492 = .ok (.iaload, 1) := by decide +kernel
theorem dL_law_493 : decode cL_law 493 = .ok (.invokevirtual 73, 3) := by decide +kernel
theorem dL_law_496 : decode cL_law 496 = .ok (.aload_n 2, 1) := by decide +kernel
theorem dL_law_497 : decode cL_law 497 = .ok (.aload_n 0, 1) := by decide +kernel
theorem dL_law_498 : decode cL_law 498 = .ok (.iload_n 3, 1) := by decide +kernel
theorem dL_law_499 : decode cL_law 499 = .ok (.iconst 1, 1) := by decide +kernel
theorem dL_law_500 : decode cL_law 500 = .ok (.iadd, 1) := by decide +kernel
theorem dL_law_501 : decode cL_law 501 = .ok (.iaload, 1) := by decide +kernel
theorem dL_law_502 : decode cL_law 502 = .ok (.aload_n 0, 1) := by decide +kernel
theorem dL_law_503 : decode cL_law 503 = .ok (.iload_n 3, 1) := by decide +kernel
theorem dL_law_504 : decode cL_law 504 = .ok (.iconst 2, 1) := by decide +kernel
theorem dL_law_505 : decode cL_law 505 = .ok (.iadd, 1) := by decide +kernel
theorem dL_law_506 : decode cL_law 506 = .ok (.iaload, 1) := by decide +kernel
theorem dL_law_507 : decode cL_law 507 = .ok (.invokevirtual 76, 3) := by decide +kernel
theorem dL_law_510 : decode cL_law 510 = .ok (.if_icmp .eq 189, 3) := by decide +kernel
theorem dL_law_513 : decode cL_law 513 = .ok (.iconst 0, 1) := by decide +kernel
theorem dL_law_514 : decode cL_law 514 = .ok (.ireturn, 1) := by decide +kernel
theorem dL_law_515 : decode cL_law 515 = .ok (.aload_n 1, 1) := by decide +kernel
theorem dL_law_516 : decode cL_law 516 = .ok (.aload_n 0, 1) := by decide +kernel
theorem dL_law_517 : decode cL_law 517 = .ok (.iload_n 3, 1) := by decide +kernel
theorem dL_law_518 : decode cL_law 518 = .ok (.iconst 1, 1) := by decide +kernel
theorem dL_law_519 : decode cL_law 519 = .ok (.iadd, 1) := by decide +kernel
theorem dL_law_520 : decode cL_law 520 = .ok (.iaload, 1) := by decide +kernel
theorem dL_law_521 : decode cL_law 521 = .ok (.invokevirtual 77, 3) := by decide +kernel
theorem dL_law_524 : decode cL_law 524 = .ok (.aload_n 2, 1) := by decide +kernel
theorem dL_law_525 : decode cL_law 525 = .ok (.aload_n 0, 1) := by decide +kernel
theorem dL_law_526 : decode cL_law 526 = .ok (.iload_n 3, 1) := by decide +kernel
theorem dL_law_527 : decode cL_law 527 = .ok (.iconst 1, 1) := by decide +kernel
theorem dL_law_528 : decode cL_law 528 = .ok (.iadd, 1) := by decide +kernel
theorem dL_law_529 : decode cL_law 529 = .ok (.iaload, 1) := by decide +kernel
theorem dL_law_530 : decode cL_law 530 = .ok (.invokevirtual 80, 3) := by decide +kernel
theorem dL_law_533 : decode cL_law 533 = .ok (.if_icmp .eq 166, 3) := by decide +kernel
theorem dL_law_536 : decode cL_law 536 = .ok (.iconst 0, 1) := by decide +kernel
theorem dL_law_537 : decode cL_law 537 = .ok (.ireturn, 1) := by decide +kernel
theorem dL_law_538 : decode cL_law 538 = .ok (.aload_n 1, 1) := by decide +kernel
theorem dL_law_539 : decode cL_law 539 = .ok (.aload_n 0, 1) := by decide +kernel
theorem dL_law_540 : decode cL_law 540 = .ok (.iload_n 3, 1) := by decide +kernel
theorem dL_law_541 : decode cL_law 541 = .ok (.iconst 1, 1) := by decide +kernel
theorem dL_law_542 : decode cL_law 542 = .ok (.iadd, 1) := by decide +kernel
theorem dL_law_543 : decode cL_law 543 = .ok (.iaload, 1) := by decide +kernel
theorem dL_law_544 : decode cL_law 544 = .ok (.aload_n 0, 1) := by decide +kernel
theorem dL_law_545 : decode cL_law 545 = .ok (.iload_n 3, 1) := by decide +kernel
theorem dL_law_546 : decode cL_law 546 = .ok (.iconst 2, 1) := by decide +kernel
theorem dL_law_547 : decode cL_law 547 = .ok (.iadd, 1) := by decide +kernel
theorem dL_law_548 : decode cL_law 548 = .ok (.iaload, 1) := by decide +kernel
theorem dL_law_549 : decode cL_law 549 = .ok (.invokevirtual 81, 3) := by decide +kernel
theorem dL_law_552 : decode cL_law 552 = .ok (.aload_n 2, 1) := by decide +kernel
theorem dL_law_553 : decode cL_law 553 = .ok (.aload_n 0, 1) := by decide +kernel
theorem dL_law_554 : decode cL_law 554 = .ok (.iload_n 3, 1) := by decide +kernel
theorem dL_law_555 : decode cL_law 555 = .ok (.iconst 1, 1) := by decide +kernel
theorem dL_law_556 : decode cL_law 556 = .ok (.iadd, 1) := by decide +kernel
theorem dL_law_557 : decode cL_law 557 = .ok (.iaload, 1) := by decide +kernel
theorem dL_law_558 : decode cL_law 558 = .ok (.aload_n 0, 1) := by decide +kernel
theorem dL_law_559 : decode cL_law 559 = .ok (.iload_n 3, 1) := by decide +kernel
theorem dL_law_560 : decode cL_law 560 = .ok (.iconst 2, 1) := by decide +kernel
theorem dL_law_561 : decode cL_law 561 = .ok (.iadd, 1) := by decide +kernel
theorem dL_law_562 : decode cL_law 562 = .ok (.iaload, 1) := by decide +kernel
theorem dL_law_563 : decode cL_law 563 = .ok (.invokevirtual 84, 3) := by decide +kernel
theorem dL_law_566 : decode cL_law 566 = .ok (.if_icmp .eq 133, 3) := by decide +kernel
theorem dL_law_569 : decode cL_law 569 = .ok (.iconst 0, 1) := by decide +kernel
theorem dL_law_570 : decode cL_law 570 = .ok (.ireturn, 1) := by decide +kernel
theorem dL_law_571 : decode cL_law 571 = .ok (.aload_n 1, 1) := by decide +kernel
theorem dL_law_572 : decode cL_law 572 = .ok (.aload_n 0, 1) := by decide +kernel
theorem dL_law_573 : decode cL_law 573 = .ok (.iload_n 3, 1) := by decide +kernel
theorem dL_law_574 : decode cL_law 574 = .ok (.iconst 1, 1) := by decide +kernel
theorem dL_law_575 : decode cL_law 575 = .ok (.iadd, 1) := by decide +kernel
theorem dL_law_576 : decode cL_law 576 = .ok (.iaload, 1) := by decide +kernel
theorem dL_law_577 : decode cL_law 577 = .ok (.invokevirtual 85, 3) := by decide +kernel
theorem dL_law_580 : decode cL_law 580 = .ok (.aload_n 2, 1) := by decide +kernel
theorem dL_law_581 : decode cL_law 581 = .ok (.aload_n 0, 1) := by decide +kernel
theorem dL_law_582 : decode cL_law 582 = .ok (.iload_n 3, 1) := by decide +kernel
theorem dL_law_583 : decode cL_law 583 = .ok (.iconst 1, 1) := by decide +kernel
theorem dL_law_584 : decode cL_law 584 = .ok (.iadd, 1) := by decide +kernel
theorem dL_law_585 : decode cL_law 585 = .ok (.iaload, 1) := by decide +kernel
theorem dL_law_586 : decode cL_law 586 = .ok (.invokevirtual 88, 3) := by decide +kernel
theorem dL_law_589 : decode cL_law 589 = .ok (.if_icmp .eq 110, 3) := by decide +kernel
theorem dL_law_592 : decode cL_law 592 = .ok (.iconst 0, 1) := by decide +kernel
theorem dL_law_593 : decode cL_law 593 = .ok (.ireturn, 1) := by decide +kernel
theorem dL_law_594 : decode cL_law 594 = .ok (.aload_n 1, 1) := by decide +kernel
theorem dL_law_595 : decode cL_law 595 = .ok (.aload_n 0, 1) := by decide +kernel
theorem dL_law_596 : decode cL_law 596 = .ok (.iload_n 3, 1) := by decide +kernel
theorem dL_law_597 : decode cL_law 597 = .ok (.iconst 1, 1) := by decide +kernel
theorem dL_law_598 : decode cL_law 598 = .ok (.iadd, 1) := by decide +kernel
theorem dL_law_599 : decode cL_law 599 = .ok (.iaload, 1) := by decide +kernel
theorem dL_law_600 : decode cL_law 600 = .ok (.invokevirtual 89, 3) := by decide +kernel
theorem dL_law_603 : decode cL_law 603 = .ok (.aload_n 2, 1) := by decide +kernel
theorem dL_law_604 : decode cL_law 604 = .ok (.aload_n 0, 1) := by decide +kernel
theorem dL_law_605 : decode cL_law 605 = .ok (.iload_n 3, 1) := by decide +kernel
theorem dL_law_606 : decode cL_law 606 = .ok (.iconst 1, 1) := by decide +kernel
theorem dL_law_607 : decode cL_law 607 = .ok (.iadd, 1) := by decide +kernel
theorem dL_law_608 : decode cL_law 608 = .ok (.iaload, 1) := by decide +kernel
theorem dL_law_609 : decode cL_law 609 = .ok (.invokevirtual 92, 3) := by decide +kernel
theorem dL_law_612 : decode cL_law 612 = .ok (.if_icmp .eq 87, 3) := by decide +kernel
theorem dL_law_615 : decode cL_law 615 = .ok (.iconst 0, 1) := by decide +kernel
theorem dL_law_616 : decode cL_law 616 = .ok (.ireturn, 1) := by decide +kernel
theorem dL_law_617 : decode cL_law 617 = .ok (.aload_n 1, 1) := by decide +kernel
theorem dL_law_618 : decode cL_law 618 = .ok (.aload_n 0, 1) := by decide +kernel
theorem dL_law_619 : decode cL_law 619 = .ok (.iload_n 3, 1) := by decide +kernel
theorem dL_law_620 : decode cL_law 620 = .ok (.iconst 1, 1) := by decide +kernel
theorem dL_law_621 : decode cL_law 621 = .ok (.iadd, 1) := by decide +kernel
theorem dL_law_622 : decode cL_law 622 = .ok (.iaload, 1) := by decide +kernel
theorem dL_law_623 : decode cL_law 623 = .ok (.invokevirtual 93, 3) := by decide +kernel
theorem dL_law_626 : decode cL_law 626 = .ok (.aload_n 2, 1) := by decide +kernel
theorem dL_law_627 : decode cL_law 627 = .ok (.aload_n 0, 1) := by decide +kernel
theorem dL_law_628 : decode cL_law 628 = .ok (.iload_n 3, 1) := by decide +kernel
theorem dL_law_629 : decode cL_law 629 = .ok (.iconst 1, 1) := by decide +kernel
theorem dL_law_630 : decode cL_law 630 = .ok (.iadd, 1) := by decide +kernel
theorem dL_law_631 : decode cL_law 631 = .ok (.iaload, 1) := by decide +kernel
theorem dL_law_632 : decode cL_law 632 = .ok (.invokevirtual 96, 3) := by decide +kernel
theorem dL_law_635 : decode cL_law 635 = .ok (.if_icmp .eq 64, 3) := by decide +kernel
theorem dL_law_638 : decode cL_law 638 = .ok (.iconst 0, 1) := by decide +kernel
theorem dL_law_639 : decode cL_law 639 = .ok (.ireturn, 1) := by decide +kernel
theorem dL_law_640 : decode cL_law 640 = .ok (.aload_n 1, 1) := by decide +kernel
theorem dL_law_641 : decode cL_law 641 = .ok (.invokevirtual 97, 3) := by decide +kernel
theorem dL_law_644 : decode cL_law 644 = .ok (.aload_n 2, 1) := by decide +kernel
theorem dL_law_645 : decode cL_law 645 = .ok (.invokevirtual 100, 3) := by decide +kernel
theorem dL_law_648 : decode cL_law 648 = .ok (.if_icmp .eq 51, 3) := by decide +kernel
theorem dL_law_651 : decode cL_law 651 = .ok (.iconst 0, 1) := by decide +kernel
theorem dL_law_652 : decode cL_law 652 = .ok (.ireturn, 1) := by decide +kernel
theorem dL_law_653 : decode cL_law 653 = .ok (.aload_n 1, 1) := by decide +kernel
theorem dL_law_654 : decode cL_law 654 = .ok (.aload_n 0, 1) := by decide +kernel
theorem dL_law_655 : decode cL_law 655 = .ok (.iload_n 3, 1) := by decide +kernel
theorem dL_law_656 : decode cL_law 656 = .ok (.iconst 1, 1) := by decide +kernel
theorem dL_law_657 : decode cL_law 657 = .ok (.iadd, 1) := by decide +kernel
theorem dL_law_658 : decode cL_law 658 = .ok (.iaload, 1) := by decide +kernel
theorem dL_law_659 : decode cL_law 659 = .ok (.aload_n 0, 1) := by decide +kernel
theorem dL_law_660 : decode cL_law 660 = .ok (.iload_n 3, 1) := by decide +kernel
theorem dL_law_661 : decode cL_law 661 = .ok (.iconst 2, 1) := by decide +kernel
theorem dL_law_662 : decode cL_law 662 = .ok (.iadd, 1) := by decide +kernel
theorem dL_law_663 : decode cL_law 663 = .ok (.iaload, 1) := by decide +kernel
theorem dL_law_664 : decode cL_law 664 = .ok (.invokevirtual 101, 3) := by decide +kernel
theorem dL_law_667 : decode cL_law 667 = .ok (.aload_n 2, 1) := by decide +kernel
theorem dL_law_668 : decode cL_law 668 = .ok (.aload_n 0, 1) := by decide +kernel
theorem dL_law_669 : decode cL_law 669 = .ok (.iload_n 3, 1) := by decide +kernel
theorem dL_law_670 : decode cL_law 670 = .ok (.iconst 1, 1) := by decide +kernel
theorem dL_law_671 : decode cL_law 671 = .ok (.iadd, 1) := by decide +kernel
theorem dL_law_672 : decode cL_law 672 = .ok (.iaload, 1) := by decide +kernel
theorem dL_law_673 : decode cL_law 673 = .ok (.aload_n 0, 1) := by decide +kernel
theorem dL_law_674 : decode cL_law 674 = .ok (.iload_n 3, 1) := by decide +kernel
theorem dL_law_675 : decode cL_law 675 = .ok (.iconst 2, 1) := by decide +kernel
theorem dL_law_676 : decode cL_law 676 = .ok (.iadd, 1) := by decide +kernel
theorem dL_law_677 : decode cL_law 677 = .ok (.iaload, 1) := by decide +kernel
theorem dL_law_678 : decode cL_law 678 = .ok (.invokevirtual 104, 3) := by decide +kernel
theorem dL_law_681 : decode cL_law 681 = .ok (.if_icmp .eq 18, 3) := by decide +kernel
theorem dL_law_684 : decode cL_law 684 = .ok (.iconst 0, 1) := by decide +kernel
theorem dL_law_685 : decode cL_law 685 = .ok (.ireturn, 1) := by decide +kernel
theorem dL_law_686 : decode cL_law 686 = .ok (.aload_n 1, 1) := by decide +kernel
theorem dL_law_687 : decode cL_law 687 = .ok (.invokevirtual 105, 3) := by decide +kernel
theorem dL_law_690 : decode cL_law 690 = .ok (.aload_n 2, 1) := by decide +kernel
theorem dL_law_691 : decode cL_law 691 = .ok (.invokevirtual 108, 3) := by decide +kernel
theorem dL_law_694 : decode cL_law 694 = .ok (.if_icmp .eq 5, 3) := by decide +kernel
theorem dL_law_697 : decode cL_law 697 = .ok (.iconst 0, 1) := by decide +kernel
theorem dL_law_698 : decode cL_law 698 = .ok (.ireturn, 1) := by decide +kernel
theorem dL_law_699 : decode cL_law 699 = .ok (.iinc 3 4, 3) := by decide +kernel
theorem dL_law_702 : decode cL_law 702 = .ok (.goto (-684), 3) := by decide +kernel
theorem dL_law_705 : decode cL_law 705 = .ok (.iconst 1, 1) := by decide +kernel
theorem dL_law_706 : decode cL_law 706 = .ok (.ireturn, 1) := by decide +kernel
abbrev vwCl : List vw_C := [(RX0, TX0, 4), (RX1, TX1, 5), (RX2, TX2, 3), (RX3, TX3, 6), (RX4, TX4, 6), (RX5, TX5, 14)]
end
section
theorem zz_last : True := trivial
end
