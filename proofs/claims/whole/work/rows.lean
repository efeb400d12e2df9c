section
-- ===== PART A: goes FIRST, ahead of the names: the tables' words, and 'selects' of the private methods out of them =====
/-- a private method of a class that the tables say can be made, by its rows of tables_1 -/
def lw_okq (q : MethodName × Nat) : Prop := (q.1.cls ≠ "java/lang/invoke/MethodHandle" ∧ q.1.cls ≠ "java/lang/invoke/VarHandle") ∧ Cond.instantiable q.1.cls q.2 ∈ tables_1 ∧ Cond.privateMethod q.1 ∈ tables_1 ∧ Cond.instanceMethod q.1 ∈ tables_1
theorem lw_p0 : lw_okq (⟨"BellGround$Land", "lay", "(II)V"⟩, 10) := ⟨⟨by decide +kernel, by decide +kernel⟩, List.mem_of_getElem? (i := 32) (by decide +kernel), List.mem_of_getElem? (i := 38) (by decide +kernel), List.mem_of_getElem? (i := 39) (by decide +kernel)⟩
theorem lw_p1 : lw_okq (⟨"BellGround$Hearings", "clear", "()V"⟩, 4) := ⟨⟨by decide +kernel, by decide +kernel⟩, List.mem_of_getElem? (i := 192) (by decide +kernel), List.mem_of_getElem? (i := 449) (by decide +kernel), List.mem_of_getElem? (i := 450) (by decide +kernel)⟩
theorem lw_p2 : lw_okq (⟨"BellGround$Changes", "clear", "()V"⟩, 6) := ⟨⟨by decide +kernel, by decide +kernel⟩, List.mem_of_getElem? (i := 295) (by decide +kernel), List.mem_of_getElem? (i := 453) (by decide +kernel), List.mem_of_getElem? (i := 454) (by decide +kernel)⟩
theorem lw_p3 : lw_okq (⟨"BellGround$Buried", "bury", "(IIII)I"⟩, 9) := ⟨⟨by decide +kernel, by decide +kernel⟩, List.mem_of_getElem? (i := 148) (by decide +kernel), List.mem_of_getElem? (i := 461) (by decide +kernel), List.mem_of_getElem? (i := 462) (by decide +kernel)⟩
theorem lw_p4 : lw_okq (⟨"BellGround$Land", "has", "(I)Z"⟩, 10) := ⟨⟨by decide +kernel, by decide +kernel⟩, List.mem_of_getElem? (i := 32) (by decide +kernel), List.mem_of_getElem? (i := 465) (by decide +kernel), List.mem_of_getElem? (i := 466) (by decide +kernel)⟩
theorem lw_p5 : lw_okq (⟨"BellGround$Land", "cells", "()I"⟩, 10) := ⟨⟨by decide +kernel, by decide +kernel⟩, List.mem_of_getElem? (i := 32) (by decide +kernel), List.mem_of_getElem? (i := 469) (by decide +kernel), List.mem_of_getElem? (i := 470) (by decide +kernel)⟩
theorem lw_p6 : lw_okq (⟨"BellGround$Buried", "inCell", "(I)I"⟩, 9) := ⟨⟨by decide +kernel, by decide +kernel⟩, List.mem_of_getElem? (i := 148) (by decide +kernel), List.mem_of_getElem? (i := 473) (by decide +kernel), List.mem_of_getElem? (i := 474) (by decide +kernel)⟩
theorem lw_p7 : lw_okq (⟨"BellGround$Shelves", "isShelf", "(I)Z"⟩, 4) := ⟨⟨by decide +kernel, by decide +kernel⟩, List.mem_of_getElem? (i := 371) (by decide +kernel), List.mem_of_getElem? (i := 481) (by decide +kernel), List.mem_of_getElem? (i := 482) (by decide +kernel)⟩
theorem lw_p8 : lw_okq (⟨"BellGround", "comesFrom", "(III)Z"⟩, 15) := ⟨⟨by decide +kernel, by decide +kernel⟩, List.mem_of_getElem? (i := 24) (by decide +kernel), List.mem_of_getElem? (i := 485) (by decide +kernel), List.mem_of_getElem? (i := 486) (by decide +kernel)⟩
theorem lw_p9 : lw_okq (⟨"BellGround$Shelves", "hasPlace", "(II)Z"⟩, 4) := ⟨⟨by decide +kernel, by decide +kernel⟩, List.mem_of_getElem? (i := 371) (by decide +kernel), List.mem_of_getElem? (i := 489) (by decide +kernel), List.mem_of_getElem? (i := 490) (by decide +kernel)⟩
theorem lw_p10 : lw_okq (⟨"BellGround$Shelves", "get", "(II)J"⟩, 4) := ⟨⟨by decide +kernel, by decide +kernel⟩, List.mem_of_getElem? (i := 371) (by decide +kernel), List.mem_of_getElem? (i := 493) (by decide +kernel), List.mem_of_getElem? (i := 494) (by decide +kernel)⟩
theorem lw_p11 : lw_okq (⟨"BellGround", "isMendable", "(II)Z"⟩, 15) := ⟨⟨by decide +kernel, by decide +kernel⟩, List.mem_of_getElem? (i := 24) (by decide +kernel), List.mem_of_getElem? (i := 501) (by decide +kernel), List.mem_of_getElem? (i := 502) (by decide +kernel)⟩
theorem lw_p12 : lw_okq (⟨"BellGround$Buried", "has", "(I)Z"⟩, 9) := ⟨⟨by decide +kernel, by decide +kernel⟩, List.mem_of_getElem? (i := 148) (by decide +kernel), List.mem_of_getElem? (i := 506) (by decide +kernel), List.mem_of_getElem? (i := 507) (by decide +kernel)⟩
theorem lw_p13 : lw_okq (⟨"BellGround", "valueOf", "(II)I"⟩, 15) := ⟨⟨by decide +kernel, by decide +kernel⟩, List.mem_of_getElem? (i := 24) (by decide +kernel), List.mem_of_getElem? (i := 512) (by decide +kernel), List.mem_of_getElem? (i := 513) (by decide +kernel)⟩
theorem lw_p14 : lw_okq (⟨"BellGround$Changes", "add", "(IIII)V"⟩, 6) := ⟨⟨by decide +kernel, by decide +kernel⟩, List.mem_of_getElem? (i := 295) (by decide +kernel), List.mem_of_getElem? (i := 516) (by decide +kernel), List.mem_of_getElem? (i := 517) (by decide +kernel)⟩
theorem lw_p15 : lw_okq (⟨"BellGround$Changes", "dropOldest", "()V"⟩, 6) := ⟨⟨by decide +kernel, by decide +kernel⟩, List.mem_of_getElem? (i := 295) (by decide +kernel), List.mem_of_getElem? (i := 520) (by decide +kernel), List.mem_of_getElem? (i := 521) (by decide +kernel)⟩
def lw_privs_1 : List (MethodName × Nat) := [(⟨"BellGround$Land", "lay", "(II)V"⟩, 10), (⟨"BellGround$Hearings", "clear", "()V"⟩, 4), (⟨"BellGround$Changes", "clear", "()V"⟩, 6), (⟨"BellGround$Buried", "bury", "(IIII)I"⟩, 9), (⟨"BellGround$Land", "has", "(I)Z"⟩, 10), (⟨"BellGround$Land", "cells", "()I"⟩, 10), (⟨"BellGround$Buried", "inCell", "(I)I"⟩, 9), (⟨"BellGround$Shelves", "isShelf", "(I)Z"⟩, 4), (⟨"BellGround", "comesFrom", "(III)Z"⟩, 15), (⟨"BellGround$Shelves", "hasPlace", "(II)Z"⟩, 4), (⟨"BellGround$Shelves", "get", "(II)J"⟩, 4), (⟨"BellGround", "isMendable", "(II)Z"⟩, 15), (⟨"BellGround$Buried", "has", "(I)Z"⟩, 9), (⟨"BellGround", "valueOf", "(II)I"⟩, 15), (⟨"BellGround$Changes", "add", "(IIII)V"⟩, 6), (⟨"BellGround$Changes", "dropOldest", "()V"⟩, 6)]
theorem lw_r1 : ∀ q ∈ lw_privs_1, lw_okq q := List.forall_mem_cons.mpr ⟨lw_p0, List.forall_mem_cons.mpr ⟨lw_p1, List.forall_mem_cons.mpr ⟨lw_p2, List.forall_mem_cons.mpr ⟨lw_p3, List.forall_mem_cons.mpr ⟨lw_p4, List.forall_mem_cons.mpr ⟨lw_p5, List.forall_mem_cons.mpr ⟨lw_p6, List.forall_mem_cons.mpr ⟨lw_p7, List.forall_mem_cons.mpr ⟨lw_p8, List.forall_mem_cons.mpr ⟨lw_p9, List.forall_mem_cons.mpr ⟨lw_p10, List.forall_mem_cons.mpr ⟨lw_p11, List.forall_mem_cons.mpr ⟨lw_p12, List.forall_mem_cons.mpr ⟨lw_p13, List.forall_mem_cons.mpr ⟨lw_p14, List.forall_mem_cons.mpr ⟨lw_p15, fun _ h => absurd h List.not_mem_nil⟩⟩⟩⟩⟩⟩⟩⟩⟩⟩⟩⟩⟩⟩⟩⟩
theorem lw_p16 : lw_okq (⟨"BellGround", "setValue", "(III)V"⟩, 15) := ⟨⟨by decide +kernel, by decide +kernel⟩, List.mem_of_getElem? (i := 24) (by decide +kernel), List.mem_of_getElem? (i := 527) (by decide +kernel), List.mem_of_getElem? (i := 528) (by decide +kernel)⟩
theorem lw_p17 : lw_okq (⟨"BellGround", "ofCell", "(II)I"⟩, 15) := ⟨⟨by decide +kernel, by decide +kernel⟩, List.mem_of_getElem? (i := 24) (by decide +kernel), List.mem_of_getElem? (i := 535) (by decide +kernel), List.mem_of_getElem? (i := 536) (by decide +kernel)⟩
theorem lw_p18 : lw_okq (⟨"BellGround", "ofBell", "(II)I"⟩, 15) := ⟨⟨by decide +kernel, by decide +kernel⟩, List.mem_of_getElem? (i := 24) (by decide +kernel), List.mem_of_getElem? (i := 539) (by decide +kernel), List.mem_of_getElem? (i := 540) (by decide +kernel)⟩
theorem lw_p19 : lw_okq (⟨"BellGround$Buried", "isFound", "(I)Z"⟩, 9) := ⟨⟨by decide +kernel, by decide +kernel⟩, List.mem_of_getElem? (i := 148) (by decide +kernel), List.mem_of_getElem? (i := 543) (by decide +kernel), List.mem_of_getElem? (i := 544) (by decide +kernel)⟩
theorem lw_p20 : lw_okq (⟨"BellGround", "ofAll", "(I)I"⟩, 15) := ⟨⟨by decide +kernel, by decide +kernel⟩, List.mem_of_getElem? (i := 24) (by decide +kernel), List.mem_of_getElem? (i := 547) (by decide +kernel), List.mem_of_getElem? (i := 548) (by decide +kernel)⟩
theorem lw_p21 : lw_okq (⟨"BellGround", "ofHearing", "(II)I"⟩, 15) := ⟨⟨by decide +kernel, by decide +kernel⟩, List.mem_of_getElem? (i := 24) (by decide +kernel), List.mem_of_getElem? (i := 551) (by decide +kernel), List.mem_of_getElem? (i := 552) (by decide +kernel)⟩
theorem lw_p22 : lw_okq (⟨"BellGround$Hearings", "has", "(I)Z"⟩, 4) := ⟨⟨by decide +kernel, by decide +kernel⟩, List.mem_of_getElem? (i := 192) (by decide +kernel), List.mem_of_getElem? (i := 555) (by decide +kernel), List.mem_of_getElem? (i := 556) (by decide +kernel)⟩
theorem lw_p23 : lw_okq (⟨"BellGround$Tape", "add", "(I)Z"⟩, 6) := ⟨⟨by decide +kernel, by decide +kernel⟩, List.mem_of_getElem? (i := 92) (by decide +kernel), List.mem_of_getElem? (i := 563) (by decide +kernel), List.mem_of_getElem? (i := 564) (by decide +kernel)⟩
theorem lw_p24 : lw_okq (⟨"BellGround$Tape", "readText", "()I"⟩, 6) := ⟨⟨by decide +kernel, by decide +kernel⟩, List.mem_of_getElem? (i := 92) (by decide +kernel), List.mem_of_getElem? (i := 571) (by decide +kernel), List.mem_of_getElem? (i := 572) (by decide +kernel)⟩
theorem lw_p25 : lw_okq (⟨"BellGround$Tape", "readLine", "()V"⟩, 6) := ⟨⟨by decide +kernel, by decide +kernel⟩, List.mem_of_getElem? (i := 92) (by decide +kernel), List.mem_of_getElem? (i := 575) (by decide +kernel), List.mem_of_getElem? (i := 576) (by decide +kernel)⟩
theorem lw_p26 : lw_okq (⟨"BellGround$Tape", "readPart", "(II)V"⟩, 6) := ⟨⟨by decide +kernel, by decide +kernel⟩, List.mem_of_getElem? (i := 92) (by decide +kernel), List.mem_of_getElem? (i := 579) (by decide +kernel), List.mem_of_getElem? (i := 580) (by decide +kernel)⟩
theorem lw_p27 : lw_okq (⟨"BellGround$Tape", "readOperand", "(I)V"⟩, 6) := ⟨⟨by decide +kernel, by decide +kernel⟩, List.mem_of_getElem? (i := 92) (by decide +kernel), List.mem_of_getElem? (i := 583) (by decide +kernel), List.mem_of_getElem? (i := 584) (by decide +kernel)⟩
theorem lw_p28 : lw_okq (⟨"BellGround$Tape", "ahead", "()I"⟩, 6) := ⟨⟨by decide +kernel, by decide +kernel⟩, List.mem_of_getElem? (i := 92) (by decide +kernel), List.mem_of_getElem? (i := 587) (by decide +kernel), List.mem_of_getElem? (i := 588) (by decide +kernel)⟩
theorem lw_p29 : lw_okq (⟨"BellGround$Tape", "readNumber", "()V"⟩, 6) := ⟨⟨by decide +kernel, by decide +kernel⟩, List.mem_of_getElem? (i := 92) (by decide +kernel), List.mem_of_getElem? (i := 681) (by decide +kernel), List.mem_of_getElem? (i := 682) (by decide +kernel)⟩
theorem lw_p30 : lw_okq (⟨"BellGround$Tape", "step", "(I)V"⟩, 6) := ⟨⟨by decide +kernel, by decide +kernel⟩, List.mem_of_getElem? (i := 92) (by decide +kernel), List.mem_of_getElem? (i := 685) (by decide +kernel), List.mem_of_getElem? (i := 686) (by decide +kernel)⟩
theorem lw_p31 : lw_okq (⟨"BellGround$Tape", "fail", "()V"⟩, 6) := ⟨⟨by decide +kernel, by decide +kernel⟩, List.mem_of_getElem? (i := 92) (by decide +kernel), List.mem_of_getElem? (i := 689) (by decide +kernel), List.mem_of_getElem? (i := 690) (by decide +kernel)⟩
def lw_privs_2 : List (MethodName × Nat) := [(⟨"BellGround", "setValue", "(III)V"⟩, 15), (⟨"BellGround", "ofCell", "(II)I"⟩, 15), (⟨"BellGround", "ofBell", "(II)I"⟩, 15), (⟨"BellGround$Buried", "isFound", "(I)Z"⟩, 9), (⟨"BellGround", "ofAll", "(I)I"⟩, 15), (⟨"BellGround", "ofHearing", "(II)I"⟩, 15), (⟨"BellGround$Hearings", "has", "(I)Z"⟩, 4), (⟨"BellGround$Tape", "add", "(I)Z"⟩, 6), (⟨"BellGround$Tape", "readText", "()I"⟩, 6), (⟨"BellGround$Tape", "readLine", "()V"⟩, 6), (⟨"BellGround$Tape", "readPart", "(II)V"⟩, 6), (⟨"BellGround$Tape", "readOperand", "(I)V"⟩, 6), (⟨"BellGround$Tape", "ahead", "()I"⟩, 6), (⟨"BellGround$Tape", "readNumber", "()V"⟩, 6), (⟨"BellGround$Tape", "step", "(I)V"⟩, 6), (⟨"BellGround$Tape", "fail", "()V"⟩, 6)]
theorem lw_r2 : ∀ q ∈ lw_privs_2, lw_okq q := List.forall_mem_cons.mpr ⟨lw_p16, List.forall_mem_cons.mpr ⟨lw_p17, List.forall_mem_cons.mpr ⟨lw_p18, List.forall_mem_cons.mpr ⟨lw_p19, List.forall_mem_cons.mpr ⟨lw_p20, List.forall_mem_cons.mpr ⟨lw_p21, List.forall_mem_cons.mpr ⟨lw_p22, List.forall_mem_cons.mpr ⟨lw_p23, List.forall_mem_cons.mpr ⟨lw_p24, List.forall_mem_cons.mpr ⟨lw_p25, List.forall_mem_cons.mpr ⟨lw_p26, List.forall_mem_cons.mpr ⟨lw_p27, List.forall_mem_cons.mpr ⟨lw_p28, List.forall_mem_cons.mpr ⟨lw_p29, List.forall_mem_cons.mpr ⟨lw_p30, List.forall_mem_cons.mpr ⟨lw_p31, fun _ h => absurd h List.not_mem_nil⟩⟩⟩⟩⟩⟩⟩⟩⟩⟩⟩⟩⟩⟩⟩⟩
theorem lw_p32 : lw_okq (⟨"BellGround$Law", "become", "([II)V"⟩, 7) := ⟨⟨by decide +kernel, by decide +kernel⟩, List.mem_of_getElem? (i := 120) (by decide +kernel), List.mem_of_getElem? (i := 696) (by decide +kernel), List.mem_of_getElem? (i := 697) (by decide +kernel)⟩
theorem lw_p33 : lw_okq (⟨"BellGround$Land", "isStrike", "(I)Z"⟩, 10) := ⟨⟨by decide +kernel, by decide +kernel⟩, List.mem_of_getElem? (i := 32) (by decide +kernel), List.mem_of_getElem? (i := 706) (by decide +kernel), List.mem_of_getElem? (i := 707) (by decide +kernel)⟩
theorem lw_p34 : lw_okq (⟨"BellGround$Buried", "humOf", "(III)I"⟩, 9) := ⟨⟨by decide +kernel, by decide +kernel⟩, List.mem_of_getElem? (i := 148) (by decide +kernel), List.mem_of_getElem? (i := 711) (by decide +kernel), List.mem_of_getElem? (i := 712) (by decide +kernel)⟩
theorem lw_p35 : lw_okq (⟨"BellGround$Land", "far", "(II)I"⟩, 10) := ⟨⟨by decide +kernel, by decide +kernel⟩, List.mem_of_getElem? (i := 32) (by decide +kernel), List.mem_of_getElem? (i := 715) (by decide +kernel), List.mem_of_getElem? (i := 716) (by decide +kernel)⟩
theorem lw_p36 : lw_okq (⟨"BellGround$Law", "loudness", "(IIIII)I"⟩, 7) := ⟨⟨by decide +kernel, by decide +kernel⟩, List.mem_of_getElem? (i := 120) (by decide +kernel), List.mem_of_getElem? (i := 723) (by decide +kernel), List.mem_of_getElem? (i := 724) (by decide +kernel)⟩
theorem lw_p37 : lw_okq (⟨"BellGround$Law", "byText", "(IIIII)I"⟩, 7) := ⟨⟨by decide +kernel, by decide +kernel⟩, List.mem_of_getElem? (i := 120) (by decide +kernel), List.mem_of_getElem? (i := 728) (by decide +kernel), List.mem_of_getElem? (i := 729) (by decide +kernel)⟩
theorem lw_p38 : lw_okq (⟨"BellGround$Law", "pop", "()I"⟩, 7) := ⟨⟨by decide +kernel, by decide +kernel⟩, List.mem_of_getElem? (i := 120) (by decide +kernel), List.mem_of_getElem? (i := 732) (by decide +kernel), List.mem_of_getElem? (i := 733) (by decide +kernel)⟩
theorem lw_p39 : lw_okq (⟨"BellGround$Law", "take", "(I)V"⟩, 7) := ⟨⟨by decide +kernel, by decide +kernel⟩, List.mem_of_getElem? (i := 120) (by decide +kernel), List.mem_of_getElem? (i := 736) (by decide +kernel), List.mem_of_getElem? (i := 737) (by decide +kernel)⟩
theorem lw_p40 : lw_okq (⟨"BellGround$Law", "push", "(I)V"⟩, 7) := ⟨⟨by decide +kernel, by decide +kernel⟩, List.mem_of_getElem? (i := 120) (by decide +kernel), List.mem_of_getElem? (i := 740) (by decide +kernel), List.mem_of_getElem? (i := 741) (by decide +kernel)⟩
theorem lw_p41 : lw_okq (⟨"BellGround$Buried", "heardOfAll", "(II)I"⟩, 9) := ⟨⟨by decide +kernel, by decide +kernel⟩, List.mem_of_getElem? (i := 148) (by decide +kernel), List.mem_of_getElem? (i := 753) (by decide +kernel), List.mem_of_getElem? (i := 754) (by decide +kernel)⟩
theorem lw_p42 : lw_okq (⟨"BellGround$Law", "heardOf", "(I)I"⟩, 7) := ⟨⟨by decide +kernel, by decide +kernel⟩, List.mem_of_getElem? (i := 120) (by decide +kernel), List.mem_of_getElem? (i := 759) (by decide +kernel), List.mem_of_getElem? (i := 760) (by decide +kernel)⟩
theorem lw_p43 : lw_okq (⟨"BellGround$Hearings", "add", "(III)Z"⟩, 4) := ⟨⟨by decide +kernel, by decide +kernel⟩, List.mem_of_getElem? (i := 192) (by decide +kernel), List.mem_of_getElem? (i := 767) (by decide +kernel), List.mem_of_getElem? (i := 768) (by decide +kernel)⟩
theorem lw_p44 : lw_okq (⟨"BellGround$Search", "goThrough", "(II)V"⟩, 14) := ⟨⟨by decide +kernel, by decide +kernel⟩, List.mem_of_getElem? (i := 219) (by decide +kernel), List.mem_of_getElem? (i := 782) (by decide +kernel), List.mem_of_getElem? (i := 783) (by decide +kernel)⟩
theorem lw_p45 : lw_okq (⟨"BellGround$Search", "listen", "()V"⟩, 14) := ⟨⟨by decide +kernel, by decide +kernel⟩, List.mem_of_getElem? (i := 219) (by decide +kernel), List.mem_of_getElem? (i := 786) (by decide +kernel), List.mem_of_getElem? (i := 787) (by decide +kernel)⟩
theorem lw_p46 : lw_okq (⟨"BellGround$Search", "places", "()I"⟩, 14) := ⟨⟨by decide +kernel, by decide +kernel⟩, List.mem_of_getElem? (i := 219) (by decide +kernel), List.mem_of_getElem? (i := 790) (by decide +kernel), List.mem_of_getElem? (i := 791) (by decide +kernel)⟩
theorem lw_p47 : lw_okq (⟨"BellGround$Search", "secondsEnd", "(II)I"⟩, 14) := ⟨⟨by decide +kernel, by decide +kernel⟩, List.mem_of_getElem? (i := 219) (by decide +kernel), List.mem_of_getElem? (i := 799) (by decide +kernel), List.mem_of_getElem? (i := 800) (by decide +kernel)⟩
def lw_privs_3 : List (MethodName × Nat) := [(⟨"BellGround$Law", "become", "([II)V"⟩, 7), (⟨"BellGround$Land", "isStrike", "(I)Z"⟩, 10), (⟨"BellGround$Buried", "humOf", "(III)I"⟩, 9), (⟨"BellGround$Land", "far", "(II)I"⟩, 10), (⟨"BellGround$Law", "loudness", "(IIIII)I"⟩, 7), (⟨"BellGround$Law", "byText", "(IIIII)I"⟩, 7), (⟨"BellGround$Law", "pop", "()I"⟩, 7), (⟨"BellGround$Law", "take", "(I)V"⟩, 7), (⟨"BellGround$Law", "push", "(I)V"⟩, 7), (⟨"BellGround$Buried", "heardOfAll", "(II)I"⟩, 9), (⟨"BellGround$Law", "heardOf", "(I)I"⟩, 7), (⟨"BellGround$Hearings", "add", "(III)Z"⟩, 4), (⟨"BellGround$Search", "goThrough", "(II)V"⟩, 14), (⟨"BellGround$Search", "listen", "()V"⟩, 14), (⟨"BellGround$Search", "places", "()I"⟩, 14), (⟨"BellGround$Search", "secondsEnd", "(II)I"⟩, 14)]
theorem lw_r3 : ∀ q ∈ lw_privs_3, lw_okq q := List.forall_mem_cons.mpr ⟨lw_p32, List.forall_mem_cons.mpr ⟨lw_p33, List.forall_mem_cons.mpr ⟨lw_p34, List.forall_mem_cons.mpr ⟨lw_p35, List.forall_mem_cons.mpr ⟨lw_p36, List.forall_mem_cons.mpr ⟨lw_p37, List.forall_mem_cons.mpr ⟨lw_p38, List.forall_mem_cons.mpr ⟨lw_p39, List.forall_mem_cons.mpr ⟨lw_p40, List.forall_mem_cons.mpr ⟨lw_p41, List.forall_mem_cons.mpr ⟨lw_p42, List.forall_mem_cons.mpr ⟨lw_p43, List.forall_mem_cons.mpr ⟨lw_p44, List.forall_mem_cons.mpr ⟨lw_p45, List.forall_mem_cons.mpr ⟨lw_p46, List.forall_mem_cons.mpr ⟨lw_p47, fun _ h => absurd h List.not_mem_nil⟩⟩⟩⟩⟩⟩⟩⟩⟩⟩⟩⟩⟩⟩⟩⟩
theorem lw_p48 : lw_okq (⟨"BellGround$Search", "seconds", "(II)I"⟩, 14) := ⟨⟨by decide +kernel, by decide +kernel⟩, List.mem_of_getElem? (i := 219) (by decide +kernel), List.mem_of_getElem? (i := 803) (by decide +kernel), List.mem_of_getElem? (i := 804) (by decide +kernel)⟩
theorem lw_p49 : lw_okq (⟨"BellGround$Search", "fits", "(III)Z"⟩, 14) := ⟨⟨by decide +kernel, by decide +kernel⟩, List.mem_of_getElem? (i := 219) (by decide +kernel), List.mem_of_getElem? (i := 807) (by decide +kernel), List.mem_of_getElem? (i := 808) (by decide +kernel)⟩
theorem lw_p50 : lw_okq (⟨"BellGround$Search", "isSo", "(III)Z"⟩, 14) := ⟨⟨by decide +kernel, by decide +kernel⟩, List.mem_of_getElem? (i := 219) (by decide +kernel), List.mem_of_getElem? (i := 811) (by decide +kernel), List.mem_of_getElem? (i := 812) (by decide +kernel)⟩
theorem lw_p51 : lw_okq (⟨"BellGround$Search", "countWay", "(II)V"⟩, 14) := ⟨⟨by decide +kernel, by decide +kernel⟩, List.mem_of_getElem? (i := 219) (by decide +kernel), List.mem_of_getElem? (i := 816) (by decide +kernel), List.mem_of_getElem? (i := 817) (by decide +kernel)⟩
theorem lw_p52 : lw_okq (⟨"BellGround$Search", "cellsIn", "(I)I"⟩, 14) := ⟨⟨by decide +kernel, by decide +kernel⟩, List.mem_of_getElem? (i := 219) (by decide +kernel), List.mem_of_getElem? (i := 824) (by decide +kernel), List.mem_of_getElem? (i := 825) (by decide +kernel)⟩
theorem lw_p53 : lw_okq (⟨"BellGround$Search", "bestCell", "()I"⟩, 14) := ⟨⟨by decide +kernel, by decide +kernel⟩, List.mem_of_getElem? (i := 219) (by decide +kernel), List.mem_of_getElem? (i := 839) (by decide +kernel), List.mem_of_getElem? (i := 840) (by decide +kernel)⟩
theorem lw_p54 : lw_okq (⟨"BellGround$Search", "gatherFitting", "()V"⟩, 14) := ⟨⟨by decide +kernel, by decide +kernel⟩, List.mem_of_getElem? (i := 219) (by decide +kernel), List.mem_of_getElem? (i := 847) (by decide +kernel), List.mem_of_getElem? (i := 848) (by decide +kernel)⟩
theorem lw_p55 : lw_okq (⟨"BellGround$Search", "partBest", "(I)V"⟩, 14) := ⟨⟨by decide +kernel, by decide +kernel⟩, List.mem_of_getElem? (i := 219) (by decide +kernel), List.mem_of_getElem? (i := 851) (by decide +kernel), List.mem_of_getElem? (i := 852) (by decide +kernel)⟩
theorem lw_p56 : lw_okq (⟨"BellGround$Search", "tellHeardBy", "(I)V"⟩, 14) := ⟨⟨by decide +kernel, by decide +kernel⟩, List.mem_of_getElem? (i := 219) (by decide +kernel), List.mem_of_getElem? (i := 855) (by decide +kernel), List.mem_of_getElem? (i := 856) (by decide +kernel)⟩
theorem lw_p57 : lw_okq (⟨"BellGround$Search", "greatestPart", "(II)I"⟩, 14) := ⟨⟨by decide +kernel, by decide +kernel⟩, List.mem_of_getElem? (i := 219) (by decide +kernel), List.mem_of_getElem? (i := 859) (by decide +kernel), List.mem_of_getElem? (i := 860) (by decide +kernel)⟩
theorem lw_p58 : lw_okq (⟨"BellGround$Search", "fewestFalse", "(I)I"⟩, 14) := ⟨⟨by decide +kernel, by decide +kernel⟩, List.mem_of_getElem? (i := 219) (by decide +kernel), List.mem_of_getElem? (i := 873) (by decide +kernel), List.mem_of_getElem? (i := 874) (by decide +kernel)⟩
theorem lw_p59 : lw_okq (⟨"BellGround$Search", "falseBits", "(II)I"⟩, 14) := ⟨⟨by decide +kernel, by decide +kernel⟩, List.mem_of_getElem? (i := 219) (by decide +kernel), List.mem_of_getElem? (i := 877) (by decide +kernel), List.mem_of_getElem? (i := 878) (by decide +kernel)⟩
theorem lw_p60 : lw_okq (⟨"BellGround$Links", "isShownBy", "(II)Z"⟩, 4) := ⟨⟨by decide +kernel, by decide +kernel⟩, List.mem_of_getElem? (i := 275) (by decide +kernel), List.mem_of_getElem? (i := 891) (by decide +kernel), List.mem_of_getElem? (i := 892) (by decide +kernel)⟩
theorem lw_p61 : lw_okq (⟨"BellGround", "isBellSet", "(I)Z"⟩, 15) := ⟨⟨by decide +kernel, by decide +kernel⟩, List.mem_of_getElem? (i := 24) (by decide +kernel), List.mem_of_getElem? (i := 901) (by decide +kernel), List.mem_of_getElem? (i := 902) (by decide +kernel)⟩
theorem lw_p62 : lw_okq (⟨"BellGround$Buried", "allBits", "()I"⟩, 9) := ⟨⟨by decide +kernel, by decide +kernel⟩, List.mem_of_getElem? (i := 148) (by decide +kernel), List.mem_of_getElem? (i := 905) (by decide +kernel), List.mem_of_getElem? (i := 906) (by decide +kernel)⟩
theorem lw_p63 : lw_okq (⟨"BellGround$Links", "lookAtAll", "()V"⟩, 4) := ⟨⟨by decide +kernel, by decide +kernel⟩, List.mem_of_getElem? (i := 275) (by decide +kernel), List.mem_of_getElem? (i := 909) (by decide +kernel), List.mem_of_getElem? (i := 910) (by decide +kernel)⟩
def lw_privs_4 : List (MethodName × Nat) := [(⟨"BellGround$Search", "seconds", "(II)I"⟩, 14), (⟨"BellGround$Search", "fits", "(III)Z"⟩, 14), (⟨"BellGround$Search", "isSo", "(III)Z"⟩, 14), (⟨"BellGround$Search", "countWay", "(II)V"⟩, 14), (⟨"BellGround$Search", "cellsIn", "(I)I"⟩, 14), (⟨"BellGround$Search", "bestCell", "()I"⟩, 14), (⟨"BellGround$Search", "gatherFitting", "()V"⟩, 14), (⟨"BellGround$Search", "partBest", "(I)V"⟩, 14), (⟨"BellGround$Search", "tellHeardBy", "(I)V"⟩, 14), (⟨"BellGround$Search", "greatestPart", "(II)I"⟩, 14), (⟨"BellGround$Search", "fewestFalse", "(I)I"⟩, 14), (⟨"BellGround$Search", "falseBits", "(II)I"⟩, 14), (⟨"BellGround$Links", "isShownBy", "(II)Z"⟩, 4), (⟨"BellGround", "isBellSet", "(I)Z"⟩, 15), (⟨"BellGround$Buried", "allBits", "()I"⟩, 9), (⟨"BellGround$Links", "lookAtAll", "()V"⟩, 4)]
theorem lw_r4 : ∀ q ∈ lw_privs_4, lw_okq q := List.forall_mem_cons.mpr ⟨lw_p48, List.forall_mem_cons.mpr ⟨lw_p49, List.forall_mem_cons.mpr ⟨lw_p50, List.forall_mem_cons.mpr ⟨lw_p51, List.forall_mem_cons.mpr ⟨lw_p52, List.forall_mem_cons.mpr ⟨lw_p53, List.forall_mem_cons.mpr ⟨lw_p54, List.forall_mem_cons.mpr ⟨lw_p55, List.forall_mem_cons.mpr ⟨lw_p56, List.forall_mem_cons.mpr ⟨lw_p57, List.forall_mem_cons.mpr ⟨lw_p58, List.forall_mem_cons.mpr ⟨lw_p59, List.forall_mem_cons.mpr ⟨lw_p60, List.forall_mem_cons.mpr ⟨lw_p61, List.forall_mem_cons.mpr ⟨lw_p62, List.forall_mem_cons.mpr ⟨lw_p63, fun _ h => absurd h List.not_mem_nil⟩⟩⟩⟩⟩⟩⟩⟩⟩⟩⟩⟩⟩⟩⟩⟩
theorem lw_p64 : lw_okq (⟨"BellGround$Links", "chainOf", "(I)I"⟩, 4) := ⟨⟨by decide +kernel, by decide +kernel⟩, List.mem_of_getElem? (i := 275) (by decide +kernel), List.mem_of_getElem? (i := 914) (by decide +kernel), List.mem_of_getElem? (i := 915) (by decide +kernel)⟩
theorem lw_p65 : lw_okq (⟨"BellGround$Links", "planFor", "(I)V"⟩, 4) := ⟨⟨by decide +kernel, by decide +kernel⟩, List.mem_of_getElem? (i := 275) (by decide +kernel), List.mem_of_getElem? (i := 925) (by decide +kernel), List.mem_of_getElem? (i := 926) (by decide +kernel)⟩
theorem lw_p66 : lw_okq (⟨"BellGround$Links", "firstRow", "(I)I"⟩, 4) := ⟨⟨by decide +kernel, by decide +kernel⟩, List.mem_of_getElem? (i := 275) (by decide +kernel), List.mem_of_getElem? (i := 931) (by decide +kernel), List.mem_of_getElem? (i := 932) (by decide +kernel)⟩
theorem lw_p67 : lw_okq (⟨"BellGround$Links", "firstStruck", "(I)I"⟩, 4) := ⟨⟨by decide +kernel, by decide +kernel⟩, List.mem_of_getElem? (i := 275) (by decide +kernel), List.mem_of_getElem? (i := 935) (by decide +kernel), List.mem_of_getElem? (i := 936) (by decide +kernel)⟩
theorem lw_p68 : lw_okq (⟨"BellGround$Links", "fewestForAll", "()I"⟩, 4) := ⟨⟨by decide +kernel, by decide +kernel⟩, List.mem_of_getElem? (i := 275) (by decide +kernel), List.mem_of_getElem? (i := 943) (by decide +kernel), List.mem_of_getElem? (i := 944) (by decide +kernel)⟩
theorem lw_p69 : lw_okq (⟨"BellGround$Villages", "findOwner", "(LBellGround$Shelves;I)V"⟩, 3) := ⟨⟨by decide +kernel, by decide +kernel⟩, List.mem_of_getElem? (i := 326) (by decide +kernel), List.mem_of_getElem? (i := 957) (by decide +kernel), List.mem_of_getElem? (i := 958) (by decide +kernel)⟩
theorem lw_p70 : lw_okq (⟨"BellGround$Buried", "sink", "(I)I"⟩, 9) := ⟨⟨by decide +kernel, by decide +kernel⟩, List.mem_of_getElem? (i := 148) (by decide +kernel), List.mem_of_getElem? (i := 971) (by decide +kernel), List.mem_of_getElem? (i := 972) (by decide +kernel)⟩
theorem lw_p71 : lw_okq (⟨"BellGround$Land", "soak", "(I)I"⟩, 10) := ⟨⟨by decide +kernel, by decide +kernel⟩, List.mem_of_getElem? (i := 32) (by decide +kernel), List.mem_of_getElem? (i := 984) (by decide +kernel), List.mem_of_getElem? (i := 985) (by decide +kernel)⟩
theorem lw_p72 : lw_okq (⟨"BellGround$Buried", "depths", "()I"⟩, 9) := ⟨⟨by decide +kernel, by decide +kernel⟩, List.mem_of_getElem? (i := 148) (by decide +kernel), List.mem_of_getElem? (i := 991) (by decide +kernel), List.mem_of_getElem? (i := 992) (by decide +kernel)⟩
theorem lw_p73 : lw_okq (⟨"BellGround$Buried", "digUp", "(II)I"⟩, 9) := ⟨⟨by decide +kernel, by decide +kernel⟩, List.mem_of_getElem? (i := 148) (by decide +kernel), List.mem_of_getElem? (i := 999) (by decide +kernel), List.mem_of_getElem? (i := 1000) (by decide +kernel)⟩
theorem lw_p74 : lw_okq (⟨"BellGround$Hearings", "copyFrom", "(LBellGround$Hearings;)V"⟩, 4) := ⟨⟨by decide +kernel, by decide +kernel⟩, List.mem_of_getElem? (i := 192) (by decide +kernel), List.mem_of_getElem? (i := 1011) (by decide +kernel), List.mem_of_getElem? (i := 1012) (by decide +kernel)⟩
theorem lw_p75 : lw_okq (⟨"BellGround$Changes", "stepBack", "()V"⟩, 6) := ⟨⟨by decide +kernel, by decide +kernel⟩, List.mem_of_getElem? (i := 295) (by decide +kernel), List.mem_of_getElem? (i := 1024) (by decide +kernel), List.mem_of_getElem? (i := 1025) (by decide +kernel)⟩
theorem lw_p76 : lw_okq (⟨"BellGround$Changes", "stepOn", "()V"⟩, 6) := ⟨⟨by decide +kernel, by decide +kernel⟩, List.mem_of_getElem? (i := 295) (by decide +kernel), List.mem_of_getElem? (i := 1032) (by decide +kernel), List.mem_of_getElem? (i := 1033) (by decide +kernel)⟩
theorem lw_p77 : lw_okq (⟨"BellGround$Bodies", "add", "(I)Z"⟩, 5) := ⟨⟨by decide +kernel, by decide +kernel⟩, List.mem_of_getElem? (i := 345) (by decide +kernel), List.mem_of_getElem? (i := 1043) (by decide +kernel), List.mem_of_getElem? (i := 1044) (by decide +kernel)⟩
theorem lw_p78 : lw_okq (⟨"BellGround$Bodies", "perform", "(III)I"⟩, 5) := ⟨⟨by decide +kernel, by decide +kernel⟩, List.mem_of_getElem? (i := 345) (by decide +kernel), List.mem_of_getElem? (i := 1051) (by decide +kernel), List.mem_of_getElem? (i := 1052) (by decide +kernel)⟩
theorem lw_p79 : lw_okq (⟨"BellGround$Bodies", "has", "(I)Z"⟩, 5) := ⟨⟨by decide +kernel, by decide +kernel⟩, List.mem_of_getElem? (i := 345) (by decide +kernel), List.mem_of_getElem? (i := 1055) (by decide +kernel), List.mem_of_getElem? (i := 1056) (by decide +kernel)⟩
def lw_privs_5 : List (MethodName × Nat) := [(⟨"BellGround$Links", "chainOf", "(I)I"⟩, 4), (⟨"BellGround$Links", "planFor", "(I)V"⟩, 4), (⟨"BellGround$Links", "firstRow", "(I)I"⟩, 4), (⟨"BellGround$Links", "firstStruck", "(I)I"⟩, 4), (⟨"BellGround$Links", "fewestForAll", "()I"⟩, 4), (⟨"BellGround$Villages", "findOwner", "(LBellGround$Shelves;I)V"⟩, 3), (⟨"BellGround$Buried", "sink", "(I)I"⟩, 9), (⟨"BellGround$Land", "soak", "(I)I"⟩, 10), (⟨"BellGround$Buried", "depths", "()I"⟩, 9), (⟨"BellGround$Buried", "digUp", "(II)I"⟩, 9), (⟨"BellGround$Hearings", "copyFrom", "(LBellGround$Hearings;)V"⟩, 4), (⟨"BellGround$Changes", "stepBack", "()V"⟩, 6), (⟨"BellGround$Changes", "stepOn", "()V"⟩, 6), (⟨"BellGround$Bodies", "add", "(I)Z"⟩, 5), (⟨"BellGround$Bodies", "perform", "(III)I"⟩, 5), (⟨"BellGround$Bodies", "has", "(I)Z"⟩, 5)]
theorem lw_r5 : ∀ q ∈ lw_privs_5, lw_okq q := List.forall_mem_cons.mpr ⟨lw_p64, List.forall_mem_cons.mpr ⟨lw_p65, List.forall_mem_cons.mpr ⟨lw_p66, List.forall_mem_cons.mpr ⟨lw_p67, List.forall_mem_cons.mpr ⟨lw_p68, List.forall_mem_cons.mpr ⟨lw_p69, List.forall_mem_cons.mpr ⟨lw_p70, List.forall_mem_cons.mpr ⟨lw_p71, List.forall_mem_cons.mpr ⟨lw_p72, List.forall_mem_cons.mpr ⟨lw_p73, List.forall_mem_cons.mpr ⟨lw_p74, List.forall_mem_cons.mpr ⟨lw_p75, List.forall_mem_cons.mpr ⟨lw_p76, List.forall_mem_cons.mpr ⟨lw_p77, List.forall_mem_cons.mpr ⟨lw_p78, List.forall_mem_cons.mpr ⟨lw_p79, fun _ h => absurd h List.not_mem_nil⟩⟩⟩⟩⟩⟩⟩⟩⟩⟩⟩⟩⟩⟩⟩⟩
theorem lw_p80 : lw_okq (⟨"BellGround$Bodies", "own", "(III)I"⟩, 5) := ⟨⟨by decide +kernel, by decide +kernel⟩, List.mem_of_getElem? (i := 345) (by decide +kernel), List.mem_of_getElem? (i := 1059) (by decide +kernel), List.mem_of_getElem? (i := 1060) (by decide +kernel)⟩
theorem lw_p81 : lw_okq (⟨"BellGround$Bodies", "from", "(IIII)I"⟩, 5) := ⟨⟨by decide +kernel, by decide +kernel⟩, List.mem_of_getElem? (i := 345) (by decide +kernel), List.mem_of_getElem? (i := 1063) (by decide +kernel), List.mem_of_getElem? (i := 1064) (by decide +kernel)⟩
theorem lw_p82 : lw_okq (⟨"BellGround$Bodies", "begin", "(I)V"⟩, 5) := ⟨⟨by decide +kernel, by decide +kernel⟩, List.mem_of_getElem? (i := 345) (by decide +kernel), List.mem_of_getElem? (i := 1075) (by decide +kernel), List.mem_of_getElem? (i := 1076) (by decide +kernel)⟩
theorem lw_p83 : lw_okq (⟨"BellGround$Bodies", "runBody", "(III)I"⟩, 5) := ⟨⟨by decide +kernel, by decide +kernel⟩, List.mem_of_getElem? (i := 345) (by decide +kernel), List.mem_of_getElem? (i := 1079) (by decide +kernel), List.mem_of_getElem? (i := 1080) (by decide +kernel)⟩
theorem lw_p84 : lw_okq (⟨"BellGround$Bodies", "above", "(IIII)I"⟩, 5) := ⟨⟨by decide +kernel, by decide +kernel⟩, List.mem_of_getElem? (i := 345) (by decide +kernel), List.mem_of_getElem? (i := 1083) (by decide +kernel), List.mem_of_getElem? (i := 1084) (by decide +kernel)⟩
theorem lw_p85 : lw_okq (⟨"BellGround$Bodies", "traced", "()I"⟩, 5) := ⟨⟨by decide +kernel, by decide +kernel⟩, List.mem_of_getElem? (i := 345) (by decide +kernel), List.mem_of_getElem? (i := 1091) (by decide +kernel), List.mem_of_getElem? (i := 1092) (by decide +kernel)⟩
theorem lw_p86 : lw_okq (⟨"BellGround$Shelves", "hold", "(III)V"⟩, 4) := ⟨⟨by decide +kernel, by decide +kernel⟩, List.mem_of_getElem? (i := 371) (by decide +kernel), List.mem_of_getElem? (i := 1101) (by decide +kernel), List.mem_of_getElem? (i := 1102) (by decide +kernel)⟩
theorem lw_p87 : lw_okq (⟨"BellGround", "refusal", "(II)I"⟩, 15) := ⟨⟨by decide +kernel, by decide +kernel⟩, List.mem_of_getElem? (i := 24) (by decide +kernel), List.mem_of_getElem? (i := 1119) (by decide +kernel), List.mem_of_getElem? (i := 1120) (by decide +kernel)⟩
theorem lw_p88 : lw_okq (⟨"BellGround$Shelves", "set", "(IIJ)V"⟩, 4) := ⟨⟨by decide +kernel, by decide +kernel⟩, List.mem_of_getElem? (i := 371) (by decide +kernel), List.mem_of_getElem? (i := 1123) (by decide +kernel), List.mem_of_getElem? (i := 1124) (by decide +kernel)⟩
theorem lw_p89 : lw_okq (⟨"BellGround$Shelves", "hasSpan", "(III)Z"⟩, 4) := ⟨⟨by decide +kernel, by decide +kernel⟩, List.mem_of_getElem? (i := 371) (by decide +kernel), List.mem_of_getElem? (i := 1139) (by decide +kernel), List.mem_of_getElem? (i := 1140) (by decide +kernel)⟩
theorem lw_p90 : lw_okq (⟨"BellGround$Shelves", "move", "(IIIII)V"⟩, 4) := ⟨⟨by decide +kernel, by decide +kernel⟩, List.mem_of_getElem? (i := 371) (by decide +kernel), List.mem_of_getElem? (i := 1143) (by decide +kernel), List.mem_of_getElem? (i := 1144) (by decide +kernel)⟩
theorem lw_p91 : lw_okq (⟨"BellGroundModel", "laysLand", "()V"⟩, 56) := ⟨⟨by decide +kernel, by decide +kernel⟩, List.mem_of_getElem? (i := 1160) (by decide +kernel), List.mem_of_getElem? (i := 1166) (by decide +kernel), List.mem_of_getElem? (i := 1167) (by decide +kernel)⟩
theorem lw_p92 : lw_okq (⟨"BellGroundModel", "isBare", "(J)Z"⟩, 56) := ⟨⟨by decide +kernel, by decide +kernel⟩, List.mem_of_getElem? (i := 1160) (by decide +kernel), List.mem_of_getElem? (i := 1360) (by decide +kernel), List.mem_of_getElem? (i := 1361) (by decide +kernel)⟩
theorem lw_p93 : lw_okq (⟨"BellGroundModel", "cells", "()I"⟩, 56) := ⟨⟨by decide +kernel, by decide +kernel⟩, List.mem_of_getElem? (i := 1160) (by decide +kernel), List.mem_of_getElem? (i := 1364) (by decide +kernel), List.mem_of_getElem? (i := 1365) (by decide +kernel)⟩
theorem lw_p94 : lw_okq (⟨"BellGroundModel", "adds", "(IIII)V"⟩, 56) := ⟨⟨by decide +kernel, by decide +kernel⟩, List.mem_of_getElem? (i := 1160) (by decide +kernel), List.mem_of_getElem? (i := 1368) (by decide +kernel), List.mem_of_getElem? (i := 1369) (by decide +kernel)⟩
theorem lw_p95 : lw_okq (⟨"BellGroundModel", "isCell", "(I)Z"⟩, 56) := ⟨⟨by decide +kernel, by decide +kernel⟩, List.mem_of_getElem? (i := 1160) (by decide +kernel), List.mem_of_getElem? (i := 1385) (by decide +kernel), List.mem_of_getElem? (i := 1386) (by decide +kernel)⟩
def lw_privs_6 : List (MethodName × Nat) := [(⟨"BellGround$Bodies", "own", "(III)I"⟩, 5), (⟨"BellGround$Bodies", "from", "(IIII)I"⟩, 5), (⟨"BellGround$Bodies", "begin", "(I)V"⟩, 5), (⟨"BellGround$Bodies", "runBody", "(III)I"⟩, 5), (⟨"BellGround$Bodies", "above", "(IIII)I"⟩, 5), (⟨"BellGround$Bodies", "traced", "()I"⟩, 5), (⟨"BellGround$Shelves", "hold", "(III)V"⟩, 4), (⟨"BellGround", "refusal", "(II)I"⟩, 15), (⟨"BellGround$Shelves", "set", "(IIJ)V"⟩, 4), (⟨"BellGround$Shelves", "hasSpan", "(III)Z"⟩, 4), (⟨"BellGround$Shelves", "move", "(IIIII)V"⟩, 4), (⟨"BellGroundModel", "laysLand", "()V"⟩, 56), (⟨"BellGroundModel", "isBare", "(J)Z"⟩, 56), (⟨"BellGroundModel", "cells", "()I"⟩, 56), (⟨"BellGroundModel", "adds", "(IIII)V"⟩, 56), (⟨"BellGroundModel", "isCell", "(I)Z"⟩, 56)]
theorem lw_r6 : ∀ q ∈ lw_privs_6, lw_okq q := List.forall_mem_cons.mpr ⟨lw_p80, List.forall_mem_cons.mpr ⟨lw_p81, List.forall_mem_cons.mpr ⟨lw_p82, List.forall_mem_cons.mpr ⟨lw_p83, List.forall_mem_cons.mpr ⟨lw_p84, List.forall_mem_cons.mpr ⟨lw_p85, List.forall_mem_cons.mpr ⟨lw_p86, List.forall_mem_cons.mpr ⟨lw_p87, List.forall_mem_cons.mpr ⟨lw_p88, List.forall_mem_cons.mpr ⟨lw_p89, List.forall_mem_cons.mpr ⟨lw_p90, List.forall_mem_cons.mpr ⟨lw_p91, List.forall_mem_cons.mpr ⟨lw_p92, List.forall_mem_cons.mpr ⟨lw_p93, List.forall_mem_cons.mpr ⟨lw_p94, List.forall_mem_cons.mpr ⟨lw_p95, fun _ h => absurd h List.not_mem_nil⟩⟩⟩⟩⟩⟩⟩⟩⟩⟩⟩⟩⟩⟩⟩⟩
theorem lw_p96 : lw_okq (⟨"BellGroundModel", "becomes", "(II)I"⟩, 56) := ⟨⟨by decide +kernel, by decide +kernel⟩, List.mem_of_getElem? (i := 1160) (by decide +kernel), List.mem_of_getElem? (i := 1389) (by decide +kernel), List.mem_of_getElem? (i := 1390) (by decide +kernel)⟩
theorem lw_p97 : lw_okq (⟨"BellGroundModel", "isBell", "(I)Z"⟩, 56) := ⟨⟨by decide +kernel, by decide +kernel⟩, List.mem_of_getElem? (i := 1160) (by decide +kernel), List.mem_of_getElem? (i := 1394) (by decide +kernel), List.mem_of_getElem? (i := 1395) (by decide +kernel)⟩
theorem lw_p98 : lw_okq (⟨"BellGroundModel", "ofBell", "(II)I"⟩, 56) := ⟨⟨by decide +kernel, by decide +kernel⟩, List.mem_of_getElem? (i := 1160) (by decide +kernel), List.mem_of_getElem? (i := 1404) (by decide +kernel), List.mem_of_getElem? (i := 1405) (by decide +kernel)⟩
theorem lw_p99 : lw_okq (⟨"BellGroundModel", "workOut", "(II)I"⟩, 56) := ⟨⟨by decide +kernel, by decide +kernel⟩, List.mem_of_getElem? (i := 1160) (by decide +kernel), List.mem_of_getElem? (i := 1424) (by decide +kernel), List.mem_of_getElem? (i := 1425) (by decide +kernel)⟩
theorem lw_p100 : lw_okq (⟨"BellGroundModel", "either", "()I"⟩, 56) := ⟨⟨by decide +kernel, by decide +kernel⟩, List.mem_of_getElem? (i := 1160) (by decide +kernel), List.mem_of_getElem? (i := 1428) (by decide +kernel), List.mem_of_getElem? (i := 1429) (by decide +kernel)⟩
theorem lw_p101 : lw_okq (⟨"BellGroundModel", "both", "()I"⟩, 56) := ⟨⟨by decide +kernel, by decide +kernel⟩, List.mem_of_getElem? (i := 1160) (by decide +kernel), List.mem_of_getElem? (i := 1432) (by decide +kernel), List.mem_of_getElem? (i := 1433) (by decide +kernel)⟩
theorem lw_p102 : lw_okq (⟨"BellGroundModel", "compared", "()I"⟩, 56) := ⟨⟨by decide +kernel, by decide +kernel⟩, List.mem_of_getElem? (i := 1160) (by decide +kernel), List.mem_of_getElem? (i := 1436) (by decide +kernel), List.mem_of_getElem? (i := 1437) (by decide +kernel)⟩
theorem lw_p103 : lw_okq (⟨"BellGroundModel", "sums", "()I"⟩, 56) := ⟨⟨by decide +kernel, by decide +kernel⟩, List.mem_of_getElem? (i := 1160) (by decide +kernel), List.mem_of_getElem? (i := 1440) (by decide +kernel), List.mem_of_getElem? (i := 1441) (by decide +kernel)⟩
theorem lw_p104 : lw_okq (⟨"BellGroundModel", "product", "()I"⟩, 56) := ⟨⟨by decide +kernel, by decide +kernel⟩, List.mem_of_getElem? (i := 1160) (by decide +kernel), List.mem_of_getElem? (i := 1444) (by decide +kernel), List.mem_of_getElem? (i := 1445) (by decide +kernel)⟩
theorem lw_p105 : lw_okq (⟨"BellGroundModel", "one", "()I"⟩, 56) := ⟨⟨by decide +kernel, by decide +kernel⟩, List.mem_of_getElem? (i := 1160) (by decide +kernel), List.mem_of_getElem? (i := 1448) (by decide +kernel), List.mem_of_getElem? (i := 1449) (by decide +kernel)⟩
theorem lw_p106 : lw_okq (⟨"BellGroundModel", "byteAt", "()I"⟩, 56) := ⟨⟨by decide +kernel, by decide +kernel⟩, List.mem_of_getElem? (i := 1160) (by decide +kernel), List.mem_of_getElem? (i := 1452) (by decide +kernel), List.mem_of_getElem? (i := 1453) (by decide +kernel)⟩
theorem lw_p107 : lw_okq (⟨"BellGroundModel", "wrong", "()I"⟩, 56) := ⟨⟨by decide +kernel, by decide +kernel⟩, List.mem_of_getElem? (i := 1160) (by decide +kernel), List.mem_of_getElem? (i := 1456) (by decide +kernel), List.mem_of_getElem? (i := 1457) (by decide +kernel)⟩
theorem lw_p108 : lw_okq (⟨"BellGroundModel", "takes", "(I)Z"⟩, 56) := ⟨⟨by decide +kernel, by decide +kernel⟩, List.mem_of_getElem? (i := 1160) (by decide +kernel), List.mem_of_getElem? (i := 1460) (by decide +kernel), List.mem_of_getElem? (i := 1461) (by decide +kernel)⟩
theorem lw_p109 : lw_okq (⟨"BellGroundModel", "isNc", "(I)Z"⟩, 56) := ⟨⟨by decide +kernel, by decide +kernel⟩, List.mem_of_getElem? (i := 1160) (by decide +kernel), List.mem_of_getElem? (i := 1471) (by decide +kernel), List.mem_of_getElem? (i := 1472) (by decide +kernel)⟩
theorem lw_p110 : lw_okq (⟨"BellGroundModel", "humOfBell", "(IIII)I"⟩, 56) := ⟨⟨by decide +kernel, by decide +kernel⟩, List.mem_of_getElem? (i := 1160) (by decide +kernel), List.mem_of_getElem? (i := 1476) (by decide +kernel), List.mem_of_getElem? (i := 1477) (by decide +kernel)⟩
theorem lw_p111 : lw_okq (⟨"BellGroundModel", "humOf", "(IIIIII)I"⟩, 56) := ⟨⟨by decide +kernel, by decide +kernel⟩, List.mem_of_getElem? (i := 1160) (by decide +kernel), List.mem_of_getElem? (i := 1480) (by decide +kernel), List.mem_of_getElem? (i := 1481) (by decide +kernel)⟩
def lw_privs_7 : List (MethodName × Nat) := [(⟨"BellGroundModel", "becomes", "(II)I"⟩, 56), (⟨"BellGroundModel", "isBell", "(I)Z"⟩, 56), (⟨"BellGroundModel", "ofBell", "(II)I"⟩, 56), (⟨"BellGroundModel", "workOut", "(II)I"⟩, 56), (⟨"BellGroundModel", "either", "()I"⟩, 56), (⟨"BellGroundModel", "both", "()I"⟩, 56), (⟨"BellGroundModel", "compared", "()I"⟩, 56), (⟨"BellGroundModel", "sums", "()I"⟩, 56), (⟨"BellGroundModel", "product", "()I"⟩, 56), (⟨"BellGroundModel", "one", "()I"⟩, 56), (⟨"BellGroundModel", "byteAt", "()I"⟩, 56), (⟨"BellGroundModel", "wrong", "()I"⟩, 56), (⟨"BellGroundModel", "takes", "(I)Z"⟩, 56), (⟨"BellGroundModel", "isNc", "(I)Z"⟩, 56), (⟨"BellGroundModel", "humOfBell", "(IIII)I"⟩, 56), (⟨"BellGroundModel", "humOf", "(IIIIII)I"⟩, 56)]
theorem lw_r7 : ∀ q ∈ lw_privs_7, lw_okq q := List.forall_mem_cons.mpr ⟨lw_p96, List.forall_mem_cons.mpr ⟨lw_p97, List.forall_mem_cons.mpr ⟨lw_p98, List.forall_mem_cons.mpr ⟨lw_p99, List.forall_mem_cons.mpr ⟨lw_p100, List.forall_mem_cons.mpr ⟨lw_p101, List.forall_mem_cons.mpr ⟨lw_p102, List.forall_mem_cons.mpr ⟨lw_p103, List.forall_mem_cons.mpr ⟨lw_p104, List.forall_mem_cons.mpr ⟨lw_p105, List.forall_mem_cons.mpr ⟨lw_p106, List.forall_mem_cons.mpr ⟨lw_p107, List.forall_mem_cons.mpr ⟨lw_p108, List.forall_mem_cons.mpr ⟨lw_p109, List.forall_mem_cons.mpr ⟨lw_p110, List.forall_mem_cons.mpr ⟨lw_p111, fun _ h => absurd h List.not_mem_nil⟩⟩⟩⟩⟩⟩⟩⟩⟩⟩⟩⟩⟩⟩⟩⟩
theorem lw_p112 : lw_okq (⟨"BellGroundModel", "farOf", "(II)I"⟩, 56) := ⟨⟨by decide +kernel, by decide +kernel⟩, List.mem_of_getElem? (i := 1160) (by decide +kernel), List.mem_of_getElem? (i := 1484) (by decide +kernel), List.mem_of_getElem? (i := 1485) (by decide +kernel)⟩
theorem lw_p113 : lw_okq (⟨"BellGroundModel", "heardNow", "(II)I"⟩, 56) := ⟨⟨by decide +kernel, by decide +kernel⟩, List.mem_of_getElem? (i := 1160) (by decide +kernel), List.mem_of_getElem? (i := 1492) (by decide +kernel), List.mem_of_getElem? (i := 1493) (by decide +kernel)⟩
theorem lw_p114 : lw_okq (⟨"BellGroundModel", "heardOf", "(I)I"⟩, 56) := ⟨⟨by decide +kernel, by decide +kernel⟩, List.mem_of_getElem? (i := 1160) (by decide +kernel), List.mem_of_getElem? (i := 1496) (by decide +kernel), List.mem_of_getElem? (i := 1497) (by decide +kernel)⟩
theorem lw_p115 : lw_okq (⟨"BellGroundModel", "goesThrough", "(II)V"⟩, 56) := ⟨⟨by decide +kernel, by decide +kernel⟩, List.mem_of_getElem? (i := 1160) (by decide +kernel), List.mem_of_getElem? (i := 1517) (by decide +kernel), List.mem_of_getElem? (i := 1518) (by decide +kernel)⟩
theorem lw_p116 : lw_okq (⟨"BellGroundModel", "humsAll", "()V"⟩, 56) := ⟨⟨by decide +kernel, by decide +kernel⟩, List.mem_of_getElem? (i := 1160) (by decide +kernel), List.mem_of_getElem? (i := 1521) (by decide +kernel), List.mem_of_getElem? (i := 1522) (by decide +kernel)⟩
theorem lw_p117 : lw_okq (⟨"BellGroundModel", "counts", "(II)V"⟩, 56) := ⟨⟨by decide +kernel, by decide +kernel⟩, List.mem_of_getElem? (i := 1160) (by decide +kernel), List.mem_of_getElem? (i := 1525) (by decide +kernel), List.mem_of_getElem? (i := 1526) (by decide +kernel)⟩
theorem lw_p118 : lw_okq (⟨"BellGroundModel", "liesWith", "(II)I"⟩, 56) := ⟨⟨by decide +kernel, by decide +kernel⟩, List.mem_of_getElem? (i := 1160) (by decide +kernel), List.mem_of_getElem? (i := 1529) (by decide +kernel), List.mem_of_getElem? (i := 1530) (by decide +kernel)⟩
theorem lw_p119 : lw_okq (⟨"BellGroundModel", "greatestPart", "(II)I"⟩, 56) := ⟨⟨by decide +kernel, by decide +kernel⟩, List.mem_of_getElem? (i := 1160) (by decide +kernel), List.mem_of_getElem? (i := 1555) (by decide +kernel), List.mem_of_getElem? (i := 1556) (by decide +kernel)⟩
theorem lw_p120 : lw_okq (⟨"BellGroundModel", "doesShow", "(II)Z"⟩, 56) := ⟨⟨by decide +kernel, by decide +kernel⟩, List.mem_of_getElem? (i := 1160) (by decide +kernel), List.mem_of_getElem? (i := 1571) (by decide +kernel), List.mem_of_getElem? (i := 1572) (by decide +kernel)⟩
theorem lw_p121 : lw_okq (⟨"BellGroundModel", "isSet", "(I)Z"⟩, 56) := ⟨⟨by decide +kernel, by decide +kernel⟩, List.mem_of_getElem? (i := 1160) (by decide +kernel), List.mem_of_getElem? (i := 1579) (by decide +kernel), List.mem_of_getElem? (i := 1580) (by decide +kernel)⟩
theorem lw_p122 : lw_okq (⟨"BellGroundModel", "chainOf", "(I)I"⟩, 56) := ⟨⟨by decide +kernel, by decide +kernel⟩, List.mem_of_getElem? (i := 1160) (by decide +kernel), List.mem_of_getElem? (i := 1583) (by decide +kernel), List.mem_of_getElem? (i := 1584) (by decide +kernel)⟩
theorem lw_p123 : lw_okq (⟨"BellGroundModel", "shownBy", "(I)I"⟩, 56) := ⟨⟨by decide +kernel, by decide +kernel⟩, List.mem_of_getElem? (i := 1160) (by decide +kernel), List.mem_of_getElem? (i := 1587) (by decide +kernel), List.mem_of_getElem? (i := 1588) (by decide +kernel)⟩
theorem lw_p124 : lw_okq (⟨"BellGroundModel", "strikesOn", "(IIII)V"⟩, 56) := ⟨⟨by decide +kernel, by decide +kernel⟩, List.mem_of_getElem? (i := 1160) (by decide +kernel), List.mem_of_getElem? (i := 1595) (by decide +kernel), List.mem_of_getElem? (i := 1596) (by decide +kernel)⟩
theorem lw_p125 : lw_okq (⟨"BellGroundModel", "differs", "(III)J"⟩, 56) := ⟨⟨by decide +kernel, by decide +kernel⟩, List.mem_of_getElem? (i := 1160) (by decide +kernel), List.mem_of_getElem? (i := 1613) (by decide +kernel), List.mem_of_getElem? (i := 1614) (by decide +kernel)⟩
theorem lw_p126 : lw_okq (⟨"BellGroundModel", "yearGoes", "()V"⟩, 56) := ⟨⟨by decide +kernel, by decide +kernel⟩, List.mem_of_getElem? (i := 1160) (by decide +kernel), List.mem_of_getElem? (i := 1621) (by decide +kernel), List.mem_of_getElem? (i := 1622) (by decide +kernel)⟩
theorem lw_p127 : lw_okq (⟨"BellGroundModel", "draws", "()I"⟩, 56) := ⟨⟨by decide +kernel, by decide +kernel⟩, List.mem_of_getElem? (i := 1160) (by decide +kernel), List.mem_of_getElem? (i := 1625) (by decide +kernel), List.mem_of_getElem? (i := 1626) (by decide +kernel)⟩
def lw_privs_8 : List (MethodName × Nat) := [(⟨"BellGroundModel", "farOf", "(II)I"⟩, 56), (⟨"BellGroundModel", "heardNow", "(II)I"⟩, 56), (⟨"BellGroundModel", "heardOf", "(I)I"⟩, 56), (⟨"BellGroundModel", "goesThrough", "(II)V"⟩, 56), (⟨"BellGroundModel", "humsAll", "()V"⟩, 56), (⟨"BellGroundModel", "counts", "(II)V"⟩, 56), (⟨"BellGroundModel", "liesWith", "(II)I"⟩, 56), (⟨"BellGroundModel", "greatestPart", "(II)I"⟩, 56), (⟨"BellGroundModel", "doesShow", "(II)Z"⟩, 56), (⟨"BellGroundModel", "isSet", "(I)Z"⟩, 56), (⟨"BellGroundModel", "chainOf", "(I)I"⟩, 56), (⟨"BellGroundModel", "shownBy", "(I)I"⟩, 56), (⟨"BellGroundModel", "strikesOn", "(IIII)V"⟩, 56), (⟨"BellGroundModel", "differs", "(III)J"⟩, 56), (⟨"BellGroundModel", "yearGoes", "()V"⟩, 56), (⟨"BellGroundModel", "draws", "()I"⟩, 56)]
theorem lw_r8 : ∀ q ∈ lw_privs_8, lw_okq q := List.forall_mem_cons.mpr ⟨lw_p112, List.forall_mem_cons.mpr ⟨lw_p113, List.forall_mem_cons.mpr ⟨lw_p114, List.forall_mem_cons.mpr ⟨lw_p115, List.forall_mem_cons.mpr ⟨lw_p116, List.forall_mem_cons.mpr ⟨lw_p117, List.forall_mem_cons.mpr ⟨lw_p118, List.forall_mem_cons.mpr ⟨lw_p119, List.forall_mem_cons.mpr ⟨lw_p120, List.forall_mem_cons.mpr ⟨lw_p121, List.forall_mem_cons.mpr ⟨lw_p122, List.forall_mem_cons.mpr ⟨lw_p123, List.forall_mem_cons.mpr ⟨lw_p124, List.forall_mem_cons.mpr ⟨lw_p125, List.forall_mem_cons.mpr ⟨lw_p126, List.forall_mem_cons.mpr ⟨lw_p127, fun _ h => absurd h List.not_mem_nil⟩⟩⟩⟩⟩⟩⟩⟩⟩⟩⟩⟩⟩⟩⟩⟩
theorem lw_p128 : lw_okq (⟨"BellGroundModel", "isBody", "(I)Z"⟩, 56) := ⟨⟨by decide +kernel, by decide +kernel⟩, List.mem_of_getElem? (i := 1160) (by decide +kernel), List.mem_of_getElem? (i := 1655) (by decide +kernel), List.mem_of_getElem? (i := 1656) (by decide +kernel)⟩
theorem lw_p129 : lw_okq (⟨"BellGroundModel", "humsAs", "(II)I"⟩, 56) := ⟨⟨by decide +kernel, by decide +kernel⟩, List.mem_of_getElem? (i := 1160) (by decide +kernel), List.mem_of_getElem? (i := 1659) (by decide +kernel), List.mem_of_getElem? (i := 1660) (by decide +kernel)⟩
theorem lw_p130 : lw_okq (⟨"BellGroundModel", "begins", "(I)V"⟩, 56) := ⟨⟨by decide +kernel, by decide +kernel⟩, List.mem_of_getElem? (i := 1160) (by decide +kernel), List.mem_of_getElem? (i := 1663) (by decide +kernel), List.mem_of_getElem? (i := 1664) (by decide +kernel)⟩
theorem lw_p131 : lw_okq (⟨"BellGroundModel", "liesAs", "(II)I"⟩, 56) := ⟨⟨by decide +kernel, by decide +kernel⟩, List.mem_of_getElem? (i := 1160) (by decide +kernel), List.mem_of_getElem? (i := 1667) (by decide +kernel), List.mem_of_getElem? (i := 1668) (by decide +kernel)⟩
theorem lw_p132 : lw_okq (⟨"BellGroundModel", "ringsAs", "(II)I"⟩, 56) := ⟨⟨by decide +kernel, by decide +kernel⟩, List.mem_of_getElem? (i := 1160) (by decide +kernel), List.mem_of_getElem? (i := 1671) (by decide +kernel), List.mem_of_getElem? (i := 1672) (by decide +kernel)⟩
theorem lw_p133 : lw_okq (⟨"BellGroundModel", "tellsAs", "(II)I"⟩, 56) := ⟨⟨by decide +kernel, by decide +kernel⟩, List.mem_of_getElem? (i := 1160) (by decide +kernel), List.mem_of_getElem? (i := 1675) (by decide +kernel), List.mem_of_getElem? (i := 1676) (by decide +kernel)⟩
theorem lw_p134 : lw_okq (⟨"BellGroundModel", "refusal", "(II)I"⟩, 56) := ⟨⟨by decide +kernel, by decide +kernel⟩, List.mem_of_getElem? (i := 1160) (by decide +kernel), List.mem_of_getElem? (i := 1696) (by decide +kernel), List.mem_of_getElem? (i := 1697) (by decide +kernel)⟩
theorem lw_p135 : lw_okq (⟨"BellGroundModel", "kindOf", "(I)I"⟩, 56) := ⟨⟨by decide +kernel, by decide +kernel⟩, List.mem_of_getElem? (i := 1160) (by decide +kernel), List.mem_of_getElem? (i := 1716) (by decide +kernel), List.mem_of_getElem? (i := 1717) (by decide +kernel)⟩
def lw_privs_9 : List (MethodName × Nat) := [(⟨"BellGroundModel", "isBody", "(I)Z"⟩, 56), (⟨"BellGroundModel", "humsAs", "(II)I"⟩, 56), (⟨"BellGroundModel", "begins", "(I)V"⟩, 56), (⟨"BellGroundModel", "liesAs", "(II)I"⟩, 56), (⟨"BellGroundModel", "ringsAs", "(II)I"⟩, 56), (⟨"BellGroundModel", "tellsAs", "(II)I"⟩, 56), (⟨"BellGroundModel", "refusal", "(II)I"⟩, 56), (⟨"BellGroundModel", "kindOf", "(I)I"⟩, 56)]
theorem lw_r9 : ∀ q ∈ lw_privs_9, lw_okq q := List.forall_mem_cons.mpr ⟨lw_p128, List.forall_mem_cons.mpr ⟨lw_p129, List.forall_mem_cons.mpr ⟨lw_p130, List.forall_mem_cons.mpr ⟨lw_p131, List.forall_mem_cons.mpr ⟨lw_p132, List.forall_mem_cons.mpr ⟨lw_p133, List.forall_mem_cons.mpr ⟨lw_p134, List.forall_mem_cons.mpr ⟨lw_p135, fun _ h => absurd h List.not_mem_nil⟩⟩⟩⟩⟩⟩⟩⟩
def lw_privs : List (MethodName × Nat) := lw_privs_1 ++ (lw_privs_2 ++ (lw_privs_3 ++ (lw_privs_4 ++ (lw_privs_5 ++ (lw_privs_6 ++ (lw_privs_7 ++ (lw_privs_8 ++ (lw_privs_9))))))))
def lw_tbl : List Cond := k2_sels lw_privs ++ tables_1
theorem lw_privs_ok : ∀ q ∈ lw_privs, lw_okq q := by
  show ∀ q ∈ lw_privs_1 ++ (lw_privs_2 ++ (lw_privs_3 ++ (lw_privs_4 ++ (lw_privs_5 ++ (lw_privs_6 ++ (lw_privs_7 ++ (lw_privs_8 ++ (lw_privs_9)))))))), lw_okq q
  exact List.forall_mem_append.mpr ⟨lw_r1, List.forall_mem_append.mpr ⟨lw_r2, List.forall_mem_append.mpr ⟨lw_r3, List.forall_mem_append.mpr ⟨lw_r4, List.forall_mem_append.mpr ⟨lw_r5, List.forall_mem_append.mpr ⟨lw_r6, List.forall_mem_append.mpr ⟨lw_r7, List.forall_mem_append.mpr ⟨lw_r8, lw_r9⟩⟩⟩⟩⟩⟩⟩⟩
-- ===== end of PART A; then your names; then what follows =====
end
section
/-! ===== part 02: classes, methods, decoded code (written by wip/whole/gen.py) ===== -/
def RX0 : String := "BellGround$Bodies"
def TX0 : u_T := fun k => match k with
  | 0 => ("BellGround$Bodies", "kindOf", "[I", true)
  | 1 => ("BellGround$Bodies", "count", "I", false)
  | 2 => ("BellGround$Bodies", "begun", "[I", true)
  | 3 => ("BellGround$Bodies", "ran", "I", false)
  | _ => ("BellGround$Bodies", "actor", "I", false)
def tyX0 : Nat → FieldType := fun k => match k with
  | 0 => .array .int
  | 1 => .int
  | 2 => .array .int
  | 3 => .int
  | _ => .int
abbrev wsX00 : List Cond := u_ws RX0 TX0 5
theorem nmX0 : ∀ a, a < 5 → ∀ b, b < 5 → a ≠ b → (TX0 a).2.1 ≠ (TX0 b).2.1 := by decide +kernel
theorem tyX0_ok : ∀ k, k < 5 → parseFieldDescriptor (TX0 k).2.2.1 = some (tyX0 k) := by decide +kernel
def RX1 : String := "BellGround$Buried"
def TX1 : u_T := fun k => match k with
  | 0 => ("BellGround$Buried", "land", "LBellGround$Land;", true)
  | 1 => ("BellGround$Buried", "ruling", "LBellGround$Law;", true)
  | 2 => ("BellGround$Buried", "cell", "[I", true)
  | 3 => ("BellGround$Buried", "note", "[I", true)
  | 4 => ("BellGround$Buried", "depth", "[I", true)
  | 5 => ("BellGround$Buried", "kind", "[I", true)
  | 6 => ("BellGround$Buried", "count", "I", false)
  | 7 => ("BellGround$Buried", "foundBits", "I", false)
  | _ => ("BellGround$Buried", "paid", "I", false)
def tyX1 : Nat → FieldType := fun k => match k with
  | 0 => .object "BellGround$Land"
  | 1 => .object "BellGround$Law"
  | 2 => .array .int
  | 3 => .array .int
  | 4 => .array .int
  | 5 => .array .int
  | 6 => .int
  | 7 => .int
  | _ => .int
abbrev wsX10 : List Cond := u_ws RX1 TX1 9
theorem nmX1 : ∀ a, a < 9 → ∀ b, b < 9 → a ≠ b → (TX1 a).2.1 ≠ (TX1 b).2.1 := by decide +kernel
theorem tyX1_ok : ∀ k, k < 9 → parseFieldDescriptor (TX1 k).2.2.1 = some (tyX1 k) := by decide +kernel
def RX2 : String := "BellGround$Changes"
def TX2 : u_T := fun k => match k with
  | 0 => ("BellGround$Changes", "number", "[I", true)
  | 1 => ("BellGround$Changes", "what", "[I", true)
  | 2 => ("BellGround$Changes", "before", "[I", true)
  | 3 => ("BellGround$Changes", "after", "[I", true)
  | 4 => ("BellGround$Changes", "done", "I", false)
  | _ => ("BellGround$Changes", "undone", "I", false)
def tyX2 : Nat → FieldType := fun k => match k with
  | 0 => .array .int
  | 1 => .array .int
  | 2 => .array .int
  | 3 => .array .int
  | 4 => .int
  | _ => .int
abbrev wsX20 : List Cond := u_ws RX2 TX2 6
theorem nmX2 : ∀ a, a < 6 → ∀ b, b < 6 → a ≠ b → (TX2 a).2.1 ≠ (TX2 b).2.1 := by decide +kernel
theorem tyX2_ok : ∀ k, k < 6 → parseFieldDescriptor (TX2 k).2.2.1 = some (tyX2 k) := by decide +kernel
def RX3 : String := "BellGround$Hearings"
def TX3 : u_T := fun k => match k with
  | 0 => ("BellGround$Hearings", "strike", "[I", true)
  | 1 => ("BellGround$Hearings", "cell", "[I", true)
  | 2 => ("BellGround$Hearings", "value", "[I", true)
  | _ => ("BellGround$Hearings", "count", "I", false)
def tyX3 : Nat → FieldType := fun k => match k with
  | 0 => .array .int
  | 1 => .array .int
  | 2 => .array .int
  | _ => .int
abbrev wsX30 : List Cond := u_ws RX3 TX3 4
theorem nmX3 : ∀ a, a < 4 → ∀ b, b < 4 → a ≠ b → (TX3 a).2.1 ≠ (TX3 b).2.1 := by decide +kernel
theorem tyX3_ok : ∀ k, k < 4 → parseFieldDescriptor (TX3 k).2.2.1 = some (tyX3 k) := by decide +kernel
def RX4 : String := "BellGround$Land"
def TX4 : u_T := fun k => match k with
  | 0 => ("BellGround$Land", "rows", "I", false)
  | 1 => ("BellGround$Land", "columns", "I", false)
  | 2 => ("BellGround$Land", "rowOf", "[I", true)
  | 3 => ("BellGround$Land", "columnOf", "[I", true)
  | 4 => ("BellGround$Land", "soil", "[I", true)
  | 5 => ("BellGround$Land", "cost", "[I", true)
  | 6 => ("BellGround$Land", "wet", "I", false)
  | 7 => ("BellGround$Land", "frost", "I", false)
  | 8 => ("BellGround$Land", "ear", "I", false)
  | _ => ("BellGround$Land", "guess", "I", false)
def tyX4 : Nat → FieldType := fun k => match k with
  | 0 => .int
  | 1 => .int
  | 2 => .array .int
  | 3 => .array .int
  | 4 => .array .int
  | 5 => .array .int
  | 6 => .int
  | 7 => .int
  | 8 => .int
  | _ => .int
abbrev wsX40 : List Cond := u_ws RX4 TX4 10
theorem nmX4 : ∀ a, a < 10 → ∀ b, b < 10 → a ≠ b → (TX4 a).2.1 ≠ (TX4 b).2.1 := by decide +kernel
theorem tyX4_ok : ∀ k, k < 10 → parseFieldDescriptor (TX4 k).2.2.1 = some (tyX4 k) := by decide +kernel
def RX5 : String := "BellGround$Law"
def TX5 : u_T := fun k => match k with
  | 0 => ("BellGround$Law", "land", "LBellGround$Land;", true)
  | 1 => ("BellGround$Law", "hasText", "Z", false)
  | 2 => ("BellGround$Law", "code", "[I", true)
  | 3 => ("BellGround$Law", "codeLength", "I", false)
  | 4 => ("BellGround$Law", "names", "[I", true)
  | 5 => ("BellGround$Law", "stack", "[I", true)
  | _ => ("BellGround$Law", "top", "I", false)
def tyX5 : Nat → FieldType := fun k => match k with
  | 0 => .object "BellGround$Land"
  | 1 => .boolean
  | 2 => .array .int
  | 3 => .int
  | 4 => .array .int
  | 5 => .array .int
  | _ => .int
abbrev wsX50 : List Cond := u_ws RX5 TX5 7
theorem nmX5 : ∀ a, a < 7 → ∀ b, b < 7 → a ≠ b → (TX5 a).2.1 ≠ (TX5 b).2.1 := by decide +kernel
theorem tyX5_ok : ∀ k, k < 7 → parseFieldDescriptor (TX5 k).2.2.1 = some (tyX5 k) := by decide +kernel
def RX6 : String := "BellGround$Links"
def TX6 : u_T := fun k => match k with
  | 0 => ("BellGround$Links", "ruling", "LBellGround$Law;", true)
  | 1 => ("BellGround$Links", "buried", "LBellGround$Buried;", true)
  | 2 => ("BellGround$Links", "shown", "[I", true)
  | _ => ("BellGround$Links", "need", "[I", true)
def tyX6 : Nat → FieldType := fun k => match k with
  | 0 => .object "BellGround$Law"
  | 1 => .object "BellGround$Buried"
  | 2 => .array .int
  | _ => .array .int
abbrev wsX60 : List Cond := u_ws RX6 TX6 4
theorem nmX6 : ∀ a, a < 4 → ∀ b, b < 4 → a ≠ b → (TX6 a).2.1 ≠ (TX6 b).2.1 := by decide +kernel
theorem tyX6_ok : ∀ k, k < 4 → parseFieldDescriptor (TX6 k).2.2.1 = some (tyX6 k) := by decide +kernel
def RX7 : String := "BellGround$Search"
def TX7 : u_T := fun k => match k with
  | 0 => ("BellGround$Search", "land", "LBellGround$Land;", true)
  | 1 => ("BellGround$Search", "ruling", "LBellGround$Law;", true)
  | 2 => ("BellGround$Search", "hearings", "LBellGround$Hearings;", true)
  | 3 => ("BellGround$Search", "loud", "[I", true)
  | 4 => ("BellGround$Search", "inCell", "[I", true)
  | 5 => ("BellGround$Search", "total", "I", false)
  | 6 => ("BellGround$Search", "first", "I", false)
  | 7 => ("BellGround$Search", "second", "I", false)
  | 8 => ("BellGround$Search", "heardBy", "[I", true)
  | 9 => ("BellGround$Search", "fitting", "[I", true)
  | 10 => ("BellGround$Search", "fittingCount", "I", false)
  | 11 => ("BellGround$Search", "parts", "[I", true)
  | 12 => ("BellGround$Search", "bestStrike", "I", false)
  | _ => ("BellGround$Search", "leastPart", "I", false)
def tyX7 : Nat → FieldType := fun k => match k with
  | 0 => .object "BellGround$Land"
  | 1 => .object "BellGround$Law"
  | 2 => .object "BellGround$Hearings"
  | 3 => .array .int
  | 4 => .array .int
  | 5 => .int
  | 6 => .int
  | 7 => .int
  | 8 => .array .int
  | 9 => .array .int
  | 10 => .int
  | 11 => .array .int
  | 12 => .int
  | _ => .int
abbrev wsX70 : List Cond := u_ws RX7 TX7 14
theorem nmX7 : ∀ a, a < 14 → ∀ b, b < 14 → a ≠ b → (TX7 a).2.1 ≠ (TX7 b).2.1 := by decide +kernel
theorem tyX7_ok : ∀ k, k < 14 → parseFieldDescriptor (TX7 k).2.2.1 = some (tyX7 k) := by decide +kernel
def RX8 : String := "BellGround$Shelves"
def TX8 : u_T := fun k => match k with
  | 0 => ("BellGround$Shelves", "sort", "[I", true)
  | 1 => ("BellGround$Shelves", "length", "[I", true)
  | 2 => ("BellGround$Shelves", "body", "[I", true)
  | _ => ("BellGround$Shelves", "elements", "[J", true)
def tyX8 : Nat → FieldType := fun k => match k with
  | 0 => .array .int
  | 1 => .array .int
  | 2 => .array .int
  | _ => .array .long
abbrev wsX80 : List Cond := u_ws RX8 TX8 4
theorem nmX8 : ∀ a, a < 4 → ∀ b, b < 4 → a ≠ b → (TX8 a).2.1 ≠ (TX8 b).2.1 := by decide +kernel
theorem tyX8_ok : ∀ k, k < 4 → parseFieldDescriptor (TX8 k).2.2.1 = some (tyX8 k) := by decide +kernel
def RX9 : String := "BellGround$Tape"
def TX9 : u_T := fun k => match k with
  | 0 => ("BellGround$Tape", "bytes", "[I", true)
  | 1 => ("BellGround$Tape", "length", "I", false)
  | 2 => ("BellGround$Tape", "code", "[I", true)
  | 3 => ("BellGround$Tape", "codeLength", "I", false)
  | 4 => ("BellGround$Tape", "place", "I", false)
  | _ => ("BellGround$Tape", "fault", "I", false)
def tyX9 : Nat → FieldType := fun k => match k with
  | 0 => .array .int
  | 1 => .int
  | 2 => .array .int
  | 3 => .int
  | 4 => .int
  | _ => .int
abbrev wsX90 : List Cond := u_ws RX9 TX9 6
theorem nmX9 : ∀ a, a < 6 → ∀ b, b < 6 → a ≠ b → (TX9 a).2.1 ≠ (TX9 b).2.1 := by decide +kernel
theorem tyX9_ok : ∀ k, k < 6 → parseFieldDescriptor (TX9 k).2.2.1 = some (tyX9 k) := by decide +kernel
def RX10 : String := "BellGround$Villages"
def TX10 : u_T := fun k => match k with
  | 0 => ("BellGround$Villages", "tunes", "[I", true)
  | 1 => ("BellGround$Villages", "owner", "I", false)
  | _ => ("BellGround$Villages", "leastSum", "I", false)
def tyX10 : Nat → FieldType := fun k => match k with
  | 0 => .array .int
  | 1 => .int
  | _ => .int
abbrev wsX100 : List Cond := u_ws RX10 TX10 3
theorem nmX10 : ∀ a, a < 3 → ∀ b, b < 3 → a ≠ b → (TX10 a).2.1 ≠ (TX10 b).2.1 := by decide +kernel
theorem tyX10_ok : ∀ k, k < 3 → parseFieldDescriptor (TX10 k).2.2.1 = some (tyX10 k) := by decide +kernel
def RX11 : String := "BellGround"
def TX11 : u_T := fun k => match k with
  | 0 => ("BellGround", "land", "LBellGround$Land;", true)
  | 1 => ("BellGround", "tape", "LBellGround$Tape;", true)
  | 2 => ("BellGround", "ruling", "LBellGround$Law;", true)
  | 3 => ("BellGround", "buried", "LBellGround$Buried;", true)
  | 4 => ("BellGround", "hearings", "LBellGround$Hearings;", true)
  | 5 => ("BellGround", "search", "LBellGround$Search;", true)
  | 6 => ("BellGround", "links", "LBellGround$Links;", true)
  | 7 => ("BellGround", "changes", "LBellGround$Changes;", true)
  | 8 => ("BellGround", "villages", "LBellGround$Villages;", true)
  | 9 => ("BellGround", "bodies", "LBellGround$Bodies;", true)
  | 10 => ("BellGround", "shelves", "LBellGround$Shelves;", true)
  | 11 => ("BellGround", "imageHearings", "LBellGround$Hearings;", true)
  | 12 => ("BellGround", "imageFound", "I", false)
  | 13 => ("BellGround", "imagePaid", "I", false)
  | _ => ("BellGround", "imageKept", "Z", false)
def tyX11 : Nat → FieldType := fun k => match k with
  | 0 => .object "BellGround$Land"
  | 1 => .object "BellGround$Tape"
  | 2 => .object "BellGround$Law"
  | 3 => .object "BellGround$Buried"
  | 4 => .object "BellGround$Hearings"
  | 5 => .object "BellGround$Search"
  | 6 => .object "BellGround$Links"
  | 7 => .object "BellGround$Changes"
  | 8 => .object "BellGround$Villages"
  | 9 => .object "BellGround$Bodies"
  | 10 => .object "BellGround$Shelves"
  | 11 => .object "BellGround$Hearings"
  | 12 => .int
  | 13 => .int
  | _ => .boolean
abbrev wsX110 : List Cond := u_ws RX11 TX11 15
theorem nmX11 : ∀ a, a < 15 → ∀ b, b < 15 → a ≠ b → (TX11 a).2.1 ≠ (TX11 b).2.1 := by decide +kernel
theorem tyX11_ok : ∀ k, k < 15 → parseFieldDescriptor (TX11 k).2.2.1 = some (tyX11 k) := by decide +kernel
def RX12 : String := "BellGroundModel"
def TX12 : u_T := fun k => match k with
  | 0 => ("BellGroundModel", "may", "[I", true)
  | 1 => ("BellGroundModel", "changeAt", "[I", true)
  | 2 => ("BellGroundModel", "changeWas", "[I", true)
  | 3 => ("BellGroundModel", "changeIs", "[I", true)
  | 4 => ("BellGroundModel", "keptMany", "I", false)
  | 5 => ("BellGroundModel", "done", "I", false)
  | 6 => ("BellGroundModel", "rows", "I", false)
  | 7 => ("BellGroundModel", "columns", "I", false)
  | 8 => ("BellGroundModel", "bells", "I", false)
  | 9 => ("BellGroundModel", "cellOf", "[I", true)
  | 10 => ("BellGroundModel", "noteOf", "[I", true)
  | 11 => ("BellGroundModel", "kindOf1", "[I", true)
  | 12 => ("BellGroundModel", "found", "I", false)
  | 13 => ("BellGroundModel", "paid", "I", false)
  | 14 => ("BellGroundModel", "tape", "[I", true)
  | 15 => ("BellGroundModel", "tapeMany", "I", false)
  | 16 => ("BellGroundModel", "text", "[I", true)
  | 17 => ("BellGroundModel", "textMany", "I", false)
  | 18 => ("BellGroundModel", "base", "I", false)
  | 19 => ("BellGroundModel", "at", "I", false)
  | 20 => ("BellGroundModel", "ends", "I", false)
  | 21 => ("BellGroundModel", "fault", "I", false)
  | 22 => ("BellGroundModel", "opened", "I", false)
  | 23 => ("BellGroundModel", "names", "[I", true)
  | 24 => ("BellGroundModel", "hearings", "I", false)
  | 25 => ("BellGroundModel", "hearing", "[I", true)
  | 26 => ("BellGroundModel", "humAt", "[I", true)
  | 27 => ("BellGroundModel", "wayMany", "I", false)
  | 28 => ("BellGroundModel", "firstA", "I", false)
  | 29 => ("BellGroundModel", "firstB", "I", false)
  | 30 => ("BellGroundModel", "inAll", "I", false)
  | 31 => ("BellGroundModel", "inSome", "I", false)
  | 32 => ("BellGroundModel", "often", "[I", true)
  | 33 => ("BellGroundModel", "liarsBest", "I", false)
  | 34 => ("BellGroundModel", "unasked", "I", false)
  | 35 => ("BellGroundModel", "isWay", "[Z", true)
  | 36 => ("BellGroundModel", "parts", "[I", true)
  | 37 => ("BellGroundModel", "strikesBest", "I", false)
  | 38 => ("BellGroundModel", "strikesRow", "I", false)
  | 39 => ("BellGroundModel", "tunes", "[I", true)
  | 40 => ("BellGroundModel", "z", "I", false)
  | 41 => ("BellGroundModel", "isKept", "Z", false)
  | 42 => ("BellGroundModel", "imageHearings", "I", false)
  | 43 => ("BellGroundModel", "imageFound", "I", false)
  | 44 => ("BellGroundModel", "imagePaid", "I", false)
  | 45 => ("BellGroundModel", "imageHearing", "[I", true)
  | 46 => ("BellGroundModel", "bodies", "I", false)
  | 47 => ("BellGroundModel", "bodyKind", "[I", true)
  | 48 => ("BellGroundModel", "trace", "[I", true)
  | 49 => ("BellGroundModel", "ran", "I", false)
  | 50 => ("BellGroundModel", "ownKind", "I", false)
  | 51 => ("BellGroundModel", "ownNumber", "I", false)
  | 52 => ("BellGroundModel", "shelf", "[I", true)
  | 53 => ("BellGroundModel", "many", "[I", true)
  | 54 => ("BellGroundModel", "items", "[J", true)
  | _ => ("BellGroundModel", "carried", "[J", true)
def tyX12 : Nat → FieldType := fun k => match k with
  | 0 => .array .int
  | 1 => .array .int
  | 2 => .array .int
  | 3 => .array .int
  | 4 => .int
  | 5 => .int
  | 6 => .int
  | 7 => .int
  | 8 => .int
  | 9 => .array .int
  | 10 => .array .int
  | 11 => .array .int
  | 12 => .int
  | 13 => .int
  | 14 => .array .int
  | 15 => .int
  | 16 => .array .int
  | 17 => .int
  | 18 => .int
  | 19 => .int
  | 20 => .int
  | 21 => .int
  | 22 => .int
  | 23 => .array .int
  | 24 => .int
  | 25 => .array .int
  | 26 => .array .int
  | 27 => .int
  | 28 => .int
  | 29 => .int
  | 30 => .int
  | 31 => .int
  | 32 => .array .int
  | 33 => .int
  | 34 => .int
  | 35 => .array .boolean
  | 36 => .array .int
  | 37 => .int
  | 38 => .int
  | 39 => .array .int
  | 40 => .int
  | 41 => .boolean
  | 42 => .int
  | 43 => .int
  | 44 => .int
  | 45 => .array .int
  | 46 => .int
  | 47 => .array .int
  | 48 => .array .int
  | 49 => .int
  | 50 => .int
  | 51 => .int
  | 52 => .array .int
  | 53 => .array .int
  | 54 => .array .long
  | _ => .array .long
abbrev wsX120 : List Cond := u_ws RX12 TX12 56
theorem nmX12 : ∀ a, a < 56 → ∀ b, b < 56 → a ≠ b → (TX12 a).2.1 ≠ (TX12 b).2.1 := by decide +kernel
theorem tyX12_ok : ∀ k, k < 56 → parseFieldDescriptor (TX12 k).2.2.1 = some (tyX12 k) := by decide +kernel
abbrev i_cls : List vw_C := [(RX0, TX0, 5), (RX1, TX1, 9), (RX2, TX2, 6), (RX3, TX3, 4), (RX4, TX4, 10), (RX5, TX5, 7), (RX6, TX6, 4), (RX7, TX7, 14), (RX8, TX8, 4), (RX9, TX9, 6), (RX10, TX10, 3), (RX11, TX11, 15), (RX12, TX12, 56)]
def i_kd : List (List Nat) := [[1, 0, 1, 0, 0], [1, 1, 1, 1, 1, 1, 0, 0, 0], [1, 1, 1, 1, 0, 0], [1, 1, 1, 0], [0, 0, 1, 1, 1, 1, 0, 0, 0, 0], [1, 2, 1, 0, 1, 1, 0], [1, 1, 1, 1], [1, 1, 1, 1, 1, 0, 0, 0, 1, 1, 0, 1, 0, 0], [1, 1, 1, 1], [1, 0, 1, 0, 0, 0], [1, 0, 0], [1, 1, 1, 1, 1, 1, 1, 1, 1, 1, 1, 1, 0, 0, 2], [1, 1, 1, 1, 0, 0, 0, 0, 0, 1, 1, 1, 0, 0, 1, 0, 1, 0, 0, 0, 0, 0, 0, 1, 0, 1, 1, 0, 0, 0, 0, 0, 1, 0, 0, 1, 1, 0, 0, 1, 0, 2, 0, 0, 0, 1, 0, 1, 1, 0, 0, 0, 1, 1, 1, 1]]
def i_tys : List (Nat → FieldType) := [tyX0, tyX1, tyX2, tyX3, tyX4, tyX5, tyX6, tyX7, tyX8, tyX9, tyX10, tyX11, tyX12]
abbrev I_En : Type := Nat × Instr × Nat × Value × List Nat × List (Int32 × Nat)
def i_c0 : List I_En := [(0, .aload_n 0, 1, .null, [], []), (1, .invokespecial 1, 3, .null, [999, 1028, 1029, 1030], []), (4, .aload_n 0, 1, .null, [], []), (5, .new 7, 3, .null, [4, 1031, 1032, 1002], []), (8, .dup, 1, .null, [], []), (9, .invokespecial 9, 3, .null, [1, 0, 1, 1033, 1034, 0, 1002, 1035], []), (12, .putfield 10, 3, .null, [11, 0, 1, 0, 2154], []), (15, .aload_n 0, 1, .null, [], []), (16, .new 16, 3, .null, [9, 1091, 1092, 1004], []), (19, .dup, 1, .null, [], []), (20, .invokespecial 18, 3, .null, [4, 0, 1, 1093, 1094, 0, 1004, 1095], []), (23, .putfield 19, 3, .null, [11, 1, 1, 0, 2155], []), (26, .aload_n 0, 1, .null, [], []), (27, .new 23, 3, .null, [5, 1119, 1120, 1005], []), (30, .dup, 1, .null, [], []), (31, .aload_n 0, 1, .null, [], []), (32, .getfield 10, 3, .null, [11, 0, 1, 0, 2154], []), (35, .invokespecial 25, 3, .null, [5, 1, 1, 1121, 1122, 0, 1005, 1123], []), (38, .putfield 28, 3, .null, [11, 2, 1, 0, 2156], []), (41, .aload_n 0, 1, .null, [], []), (42, .new 32, 3, .null, [1, 1147, 1148, 1006], []), (45, .dup, 1, .null, [], []), (46, .aload_n 0, 1, .null, [], []), (47, .getfield 10, 3, .null, [11, 0, 1, 0, 2154], []), (50, .aload_n 0, 1, .null, [], []), (51, .getfield 28, 3, .null, [11, 2, 1, 0, 2156], []), (54, .invokespecial 34, 3, .null, [6, 2, 1, 1149, 1150, 0, 1006, 1151], []), (57, .putfield 37, 3, .null, [11, 3, 1, 0, 2157], []), (60, .aload_n 0, 1, .null, [], []), (61, .new 41, 3, .null, [3, 1191, 1192, 1007], []), (64, .dup, 1, .null, [], []), (65, .invokespecial 43, 3, .null, [7, 0, 1, 1193, 1194, 0, 1007, 1195], []), (68, .putfield 44, 3, .null, [11, 4, 1, 0, 2158], []), (71, .aload_n 0, 1, .null, [], []), (72, .new 48, 3, .null, [7, 1218, 1219, 1008], []), (75, .dup, 1, .null, [], []), (76, .aload_n 0, 1, .null, [], []), (77, .getfield 10, 3, .null, [11, 0, 1, 0, 2154], []), (80, .aload_n 0, 1, .null, [], []), (81, .getfield 28, 3, .null, [11, 2, 1, 0, 2156], []), (84, .aload_n 0, 1, .null, [], []), (85, .getfield 44, 3, .null, [11, 4, 1, 0, 2158], []), (88, .invokespecial 50, 3, .null, [8, 3, 1, 1220, 1221, 0, 1008, 1222], []), (91, .putfield 53, 3, .null, [11, 5, 1, 0, 2159], []), (94, .aload_n 0, 1, .null, [], []), (95, .new 57, 3, .null, [6, 2034, 2035, 1009], []), (98, .dup, 1, .null, [], []), (99, .aload_n 0, 1, .null, [], []), (100, .getfield 28, 3, .null, [11, 2, 1, 0, 2156], []), (103, .aload_n 0, 1, .null, [], []), (104, .getfield 37, 3, .null, [11, 3, 1, 0, 2157], []), (107, .invokespecial 59, 3, .null, [9, 2, 1, 2036, 2037, 0, 1009, 2038], []), (110, .putfield 62, 3, .null, [11, 6, 1, 0, 2160], []), (113, .aload_n 0, 1, .null, [], []), (114, .new 66, 3, .null, [2, 2054, 2055, 1010], []), (117, .dup, 1, .null, [], []), (118, .invokespecial 68, 3, .null, [10, 0, 1, 2056, 2057, 0, 1010, 2058], []), (121, .putfield 69, 3, .null, [11, 7, 1, 0, 2161], []), (124, .aload_n 0, 1, .null, [], []), (125, .new 73, 3, .null, [10, 2085, 2086, 1011], []), (128, .dup, 1, .null, [], []), (129, .invokespecial 75, 3, .null, [11, 0, 1, 2087, 2088, 0, 1011, 2089], []), (132, .putfield 76, 3, .null, [11, 8, 1, 0, 2162], []), (135, .aload_n 0, 1, .null, [], []), (136, .new 80, 3, .null, [0, 2104, 2105, 1012], []), (139, .dup, 1, .null, [], []), (140, .invokespecial 82, 3, .null, [12, 0, 1, 2106, 2107, 0, 1012, 2108], []), (143, .putfield 83, 3, .null, [11, 9, 1, 0, 2163], []), (146, .aload_n 0, 1, .null, [], []), (147, .new 87, 3, .null, [8, 2130, 2131, 1013], []), (150, .dup, 1, .null, [], []), (151, .invokespecial 89, 3, .null, [13, 0, 1, 2132, 2133, 0, 1013, 2134], []), (154, .putfield 90, 3, .null, [11, 10, 1, 0, 2164], []), (157, .aload_n 0, 1, .null, [], []), (158, .new 41, 3, .null, [3, 1191, 1192, 1007], []), (161, .dup, 1, .null, [], []), (162, .invokespecial 43, 3, .null, [7, 0, 1, 1193, 1194, 0, 1007, 1195], []), (165, .putfield 94, 3, .null, [11, 11, 1, 0, 2165], []), (168, .return_, 1, .null, [], [])]
def i_c1 : List I_En := [(0, .aload_n 0, 1, .null, [], []), (1, .invokespecial 3, 3, .null, [999, 1036, 1029, 1030], []), (4, .aload_n 0, 1, .null, [], []), (5, .bipush 25, 2, .int 25, [], []), (7, .newarray .int, 2, .null, [0, 1090], []), (9, .putfield 9, 3, .null, [4, 2, 1, 0, 1048], []), (12, .aload_n 0, 1, .null, [], []), (13, .bipush 25, 2, .int 25, [], []), (15, .newarray .int, 2, .null, [0, 1090], []), (17, .putfield 15, 3, .null, [4, 3, 1, 0, 1049], []), (20, .aload_n 0, 1, .null, [], []), (21, .bipush 25, 2, .int 25, [], []), (23, .newarray .int, 2, .null, [0, 1090], []), (25, .putfield 18, 3, .null, [4, 4, 1, 0, 1050], []), (28, .aload_n 0, 1, .null, [], []), (29, .bipush 25, 2, .int 25, [], []), (31, .newarray .int, 2, .null, [0, 1090], []), (33, .putfield 21, 3, .null, [4, 5, 1, 0, 1053], []), (36, .aload_n 0, 1, .null, [], []), (37, .iconst 5, 1, .int 5, [], []), (38, .putfield 24, 3, .null, [4, 8, 0, 0, 1063], []), (41, .aload_n 0, 1, .null, [], []), (42, .iconst 3, 1, .int 3, [], []), (43, .putfield 28, 3, .null, [4, 9, 0, 0, 1066], []), (46, .aload_n 0, 1, .null, [], []), (47, .iconst 5, 1, .int 5, [], []), (48, .iconst 5, 1, .int 5, [], []), (49, .invokevirtual 31, 3, .null, [2, 2, 0, 1037, 1039, 0, 1002, 1040], []), (52, .return_, 1, .null, [], [])]
def i_c2 : List I_En := [(0, .aload_n 0, 1, .null, [], []), (1, .iload_n 1, 1, .null, [], []), (2, .putfield 35, 3, .null, [4, 0, 0, 0, 1044], []), (5, .aload_n 0, 1, .null, [], []), (6, .iload_n 2, 1, .null, [], []), (7, .putfield 38, 3, .null, [4, 1, 0, 0, 1046], []), (10, .iconst 0, 1, .int 0, [], []), (11, .istore_n 3, 1, .null, [], []), (12, .iconst 0, 1, .int 0, [], []), (13, .istore 4, 2, .null, [], []), (15, .iload 4, 2, .null, [], []), (17, .aload_n 0, 1, .null, [], []), (18, .getfield 35, 3, .null, [4, 0, 0, 0, 1044], []), (21, .if_icmp .ge 46, 3, .null, [67], []), (24, .iconst 0, 1, .int 0, [], []), (25, .istore 5, 2, .null, [], []), (27, .iload 5, 2, .null, [], []), (29, .aload_n 0, 1, .null, [], []), (30, .getfield 38, 3, .null, [4, 1, 0, 0, 1046], []), (33, .if_icmp .ge 28, 3, .null, [61], []), (36, .aload_n 0, 1, .null, [], []), (37, .getfield 9, 3, .null, [4, 2, 1, 0, 1048], []), (40, .iload_n 3, 1, .null, [], []), (41, .iload 4, 2, .null, [], []), (43, .iastore, 1, .null, [], []), (44, .aload_n 0, 1, .null, [], []), (45, .getfield 15, 3, .null, [4, 3, 1, 0, 1049], []), (48, .iload_n 3, 1, .null, [], []), (49, .iload 5, 2, .null, [], []), (51, .iastore, 1, .null, [], []), (52, .iinc 3 1, 3, .int 1, [], []), (55, .iinc 5 1, 3, .int 1, [], []), (58, .goto (-31), 3, .null, [27], []), (61, .iinc 4 1, 3, .int 1, [], []), (64, .goto (-49), 3, .null, [15], []), (67, .aload_n 0, 1, .null, [], []), (68, .getfield 18, 3, .null, [4, 4, 1, 0, 1050], []), (71, .iconst 3, 1, .int 3, [], []), (72, .invokestatic 41, 3, .null, [3, 2, 0, 1041, 1042, 0, 1003, 1043], []), (75, .aload_n 0, 1, .null, [], []), (76, .getfield 21, 3, .null, [4, 5, 1, 0, 1053], []), (79, .bipush 10, 2, .int 10, [], []), (81, .invokestatic 41, 3, .null, [3, 2, 0, 1041, 1042, 0, 1003, 1043], []), (84, .return_, 1, .null, [], [])]
def i_c3 : List I_En := [(0, .iconst 0, 1, .int 0, [], []), (1, .istore_n 2, 1, .null, [], []), (2, .aload_n 0, 1, .null, [], []), (3, .arraylength, 1, .null, [], []), (4, .istore_n 3, 1, .null, [], []), (5, .iload_n 2, 1, .null, [], []), (6, .iload_n 3, 1, .null, [], []), (7, .if_icmp .ge 13, 3, .null, [20], []), (10, .aload_n 0, 1, .null, [], []), (11, .iload_n 2, 1, .null, [], []), (12, .iload_n 1, 1, .null, [], []), (13, .iastore, 1, .null, [], []), (14, .iinc 2 1, 3, .int 1, [], []), (17, .goto (-12), 3, .null, [5], []), (20, .return_, 1, .null, [], [])]
def i_c4 : List I_En := [(0, .aload_n 0, 1, .null, [], []), (1, .invokespecial 1, 3, .null, [999, 1096, 1029, 1030], []), (4, .aload_n 0, 1, .null, [], []), (5, .bipush 120, 2, .int 120, [], []), (7, .newarray .int, 2, .null, [0, 1090], []), (9, .putfield 9, 3, .null, [9, 0, 1, 0, 1097], []), (12, .aload_n 0, 1, .null, [], []), (13, .sipush 128, 3, .int 128, [], []), (16, .newarray .int, 2, .null, [0, 1090], []), (18, .putfield 13, 3, .null, [9, 2, 1, 0, 1100], []), (21, .return_, 1, .null, [], [])]
def i_c5 : List I_En := [(0, .aload_n 0, 1, .null, [], []), (1, .invokespecial 3, 3, .null, [999, 1124, 1029, 1030], []), (4, .aload_n 0, 1, .null, [], []), (5, .sipush 128, 3, .int 128, [], []), (8, .newarray .int, 2, .null, [0, 1090], []), (10, .putfield 11, 3, .null, [5, 2, 1, 0, 1127], []), (13, .aload_n 0, 1, .null, [], []), (14, .bipush 7, 2, .int 7, [], []), (16, .newarray .int, 2, .null, [0, 1090], []), (18, .putfield 17, 3, .null, [5, 4, 1, 0, 1129], []), (21, .aload_n 0, 1, .null, [], []), (22, .bipush 64, 2, .int 64, [], []), (24, .newarray .int, 2, .null, [0, 1090], []), (26, .putfield 20, 3, .null, [5, 5, 1, 0, 1130], []), (29, .aload_n 0, 1, .null, [], []), (30, .aload_n 1, 1, .null, [], []), (31, .putfield 23, 3, .null, [5, 0, 1, 0, 1125], []), (34, .return_, 1, .null, [], [])]
def i_c6 : List I_En := [(0, .aload_n 0, 1, .null, [], []), (1, .invokespecial 3, 3, .null, [999, 1152, 1029, 1030], []), (4, .aload_n 0, 1, .null, [], []), (5, .bipush 6, 2, .int 6, [], []), (7, .newarray .int, 2, .null, [0, 1090], []), (9, .putfield 9, 3, .null, [1, 2, 1, 0, 1155], []), (12, .aload_n 0, 1, .null, [], []), (13, .bipush 6, 2, .int 6, [], []), (15, .newarray .int, 2, .null, [0, 1090], []), (17, .putfield 15, 3, .null, [1, 3, 1, 0, 1158], []), (20, .aload_n 0, 1, .null, [], []), (21, .bipush 6, 2, .int 6, [], []), (23, .newarray .int, 2, .null, [0, 1090], []), (25, .putfield 18, 3, .null, [1, 4, 1, 0, 1161], []), (28, .aload_n 0, 1, .null, [], []), (29, .bipush 6, 2, .int 6, [], []), (31, .newarray .int, 2, .null, [0, 1090], []), (33, .putfield 21, 3, .null, [1, 5, 1, 0, 1163], []), (36, .aload_n 0, 1, .null, [], []), (37, .aload_n 1, 1, .null, [], []), (38, .putfield 24, 3, .null, [1, 0, 1, 0, 1153], []), (41, .aload_n 0, 1, .null, [], []), (42, .aload_n 2, 1, .null, [], []), (43, .putfield 28, 3, .null, [1, 1, 1, 0, 1154], []), (46, .return_, 1, .null, [], [])]
def i_c7 : List I_En := [(0, .aload_n 0, 1, .null, [], []), (1, .invokespecial 3, 3, .null, [999, 1196, 1029, 1030], []), (4, .aload_n 0, 1, .null, [], []), (5, .bipush 10, 2, .int 10, [], []), (7, .newarray .int, 2, .null, [0, 1090], []), (9, .putfield 9, 3, .null, [3, 0, 1, 0, 1197], []), (12, .aload_n 0, 1, .null, [], []), (13, .bipush 10, 2, .int 10, [], []), (15, .newarray .int, 2, .null, [0, 1090], []), (17, .putfield 15, 3, .null, [3, 1, 1, 0, 1200], []), (20, .aload_n 0, 1, .null, [], []), (21, .bipush 10, 2, .int 10, [], []), (23, .newarray .int, 2, .null, [0, 1090], []), (25, .putfield 18, 3, .null, [3, 2, 1, 0, 1203], []), (28, .return_, 1, .null, [], [])]
def i_c8 : List I_En := [(0, .aload_n 0, 1, .null, [], []), (1, .invokespecial 3, 3, .null, [999, 1223, 1029, 1030], []), (4, .aload_n 0, 1, .null, [], []), (5, .sipush 2500, 3, .int 2500, [], []), (8, .newarray .int, 2, .null, [0, 1090], []), (10, .putfield 11, 3, .null, [7, 3, 1, 0, 1227], []), (13, .aload_n 0, 1, .null, [], []), (14, .bipush 25, 2, .int 25, [], []), (16, .newarray .int, 2, .null, [0, 1090], []), (18, .putfield 15, 3, .null, [7, 4, 1, 0, 1228], []), (21, .aload_n 0, 1, .null, [], []), (22, .sipush 2250, 3, .int 2250, [], []), (25, .newarray .int, 2, .null, [0, 1090], []), (27, .putfield 18, 3, .null, [7, 8, 1, 0, 1236], []), (30, .aload_n 0, 1, .null, [], []), (31, .sipush 250, 3, .int 250, [], []), (34, .newarray .int, 2, .null, [0, 1090], []), (36, .putfield 21, 3, .null, [7, 9, 1, 0, 1237], []), (39, .aload_n 0, 1, .null, [], []), (40, .bipush 100, 2, .int 100, [], []), (42, .newarray .int, 2, .null, [0, 1090], []), (44, .putfield 24, 3, .null, [7, 11, 1, 0, 2000], []), (47, .aload_n 0, 1, .null, [], []), (48, .aload_n 1, 1, .null, [], []), (49, .putfield 27, 3, .null, [7, 0, 1, 0, 1224], []), (52, .aload_n 0, 1, .null, [], []), (53, .aload_n 2, 1, .null, [], []), (54, .putfield 31, 3, .null, [7, 1, 1, 0, 1225], []), (57, .aload_n 0, 1, .null, [], []), (58, .aload_n 3, 1, .null, [], []), (59, .putfield 35, 3, .null, [7, 2, 1, 0, 1226], []), (62, .return_, 1, .null, [], [])]
def i_c9 : List I_En := [(0, .aload_n 0, 1, .null, [], []), (1, .invokespecial 3, 3, .null, [999, 2039, 1029, 1030], []), (4, .aload_n 0, 1, .null, [], []), (5, .bipush 6, 2, .int 6, [], []), (7, .newarray .int, 2, .null, [0, 1090], []), (9, .putfield 9, 3, .null, [6, 2, 1, 0, 2042], []), (12, .aload_n 0, 1, .null, [], []), (13, .bipush 64, 2, .int 64, [], []), (15, .newarray .int, 2, .null, [0, 1090], []), (17, .putfield 15, 3, .null, [6, 3, 1, 0, 2043], []), (20, .aload_n 0, 1, .null, [], []), (21, .aload_n 1, 1, .null, [], []), (22, .putfield 18, 3, .null, [6, 0, 1, 0, 2040], []), (25, .aload_n 0, 1, .null, [], []), (26, .aload_n 2, 1, .null, [], []), (27, .putfield 22, 3, .null, [6, 1, 1, 0, 2041], []), (30, .return_, 1, .null, [], [])]
def i_c10 : List I_En := [(0, .aload_n 0, 1, .null, [], []), (1, .invokespecial 1, 3, .null, [999, 2059, 1029, 1030], []), (4, .aload_n 0, 1, .null, [], []), (5, .bipush 40, 2, .int 40, [], []), (7, .newarray .int, 2, .null, [0, 1090], []), (9, .putfield 9, 3, .null, [2, 0, 1, 0, 2060], []), (12, .aload_n 0, 1, .null, [], []), (13, .bipush 40, 2, .int 40, [], []), (15, .newarray .int, 2, .null, [0, 1090], []), (17, .putfield 13, 3, .null, [2, 1, 1, 0, 2062], []), (20, .aload_n 0, 1, .null, [], []), (21, .bipush 40, 2, .int 40, [], []), (23, .newarray .int, 2, .null, [0, 1090], []), (25, .putfield 16, 3, .null, [2, 2, 1, 0, 2064], []), (28, .aload_n 0, 1, .null, [], []), (29, .bipush 40, 2, .int 40, [], []), (31, .newarray .int, 2, .null, [0, 1090], []), (33, .putfield 19, 3, .null, [2, 3, 1, 0, 2066], []), (36, .return_, 1, .null, [], [])]
def i_c11 : List I_En := [(0, .aload_n 0, 1, .null, [], []), (1, .invokespecial 3, 3, .null, [999, 2090, 1029, 1030], []), (4, .aload_n 0, 1, .null, [], []), (5, .bipush 6, 2, .int 6, [], []), (7, .newarray .int, 2, .null, [0, 1090], []), (9, .putfield 11, 3, .null, [10, 0, 1, 0, 2091], []), (12, .return_, 1, .null, [], [])]
def i_c12 : List I_En := [(0, .aload_n 0, 1, .null, [], []), (1, .invokespecial 1, 3, .null, [999, 2109, 1029, 1030], []), (4, .aload_n 0, 1, .null, [], []), (5, .bipush 50, 2, .int 50, [], []), (7, .newarray .int, 2, .null, [0, 1090], []), (9, .putfield 9, 3, .null, [0, 0, 1, 0, 2110], []), (12, .aload_n 0, 1, .null, [], []), (13, .bipush 24, 2, .int 24, [], []), (15, .newarray .int, 2, .null, [0, 1090], []), (17, .putfield 13, 3, .null, [0, 2, 1, 0, 2114], []), (20, .return_, 1, .null, [], [])]
def i_c13 : List I_En := [(0, .aload_n 0, 1, .null, [], []), (1, .invokespecial 1, 3, .null, [999, 2135, 1029, 1030], []), (4, .aload_n 0, 1, .null, [], []), (5, .bipush 6, 2, .int 6, [], []), (7, .newarray .int, 2, .null, [0, 1090], []), (9, .dup, 1, .null, [], []), (10, .iconst 0, 1, .int 0, [], []), (11, .iconst (-1), 1, .int (-1), [], []), (12, .iastore, 1, .null, [], []), (13, .dup, 1, .null, [], []), (14, .iconst 1, 1, .int 1, [], []), (15, .iconst (-1), 1, .int (-1), [], []), (16, .iastore, 1, .null, [], []), (17, .dup, 1, .null, [], []), (18, .iconst 2, 1, .int 2, [], []), (19, .iconst (-1), 1, .int (-1), [], []), (20, .iastore, 1, .null, [], []), (21, .dup, 1, .null, [], []), (22, .iconst 3, 1, .int 3, [], []), (23, .iconst (-1), 1, .int (-1), [], []), (24, .iastore, 1, .null, [], []), (25, .dup, 1, .null, [], []), (26, .iconst 4, 1, .int 4, [], []), (27, .iconst (-1), 1, .int (-1), [], []), (28, .iastore, 1, .null, [], []), (29, .dup, 1, .null, [], []), (30, .iconst 5, 1, .int 5, [], []), (31, .iconst (-1), 1, .int (-1), [], []), (32, .iastore, 1, .null, [], []), (33, .putfield 9, 3, .null, [8, 0, 1, 0, 2136], []), (36, .aload_n 0, 1, .null, [], []), (37, .bipush 6, 2, .int 6, [], []), (39, .newarray .int, 2, .null, [0, 1090], []), (41, .putfield 13, 3, .null, [8, 1, 1, 0, 2138], []), (44, .aload_n 0, 1, .null, [], []), (45, .bipush 6, 2, .int 6, [], []), (47, .newarray .int, 2, .null, [0, 1090], []), (49, .putfield 16, 3, .null, [8, 2, 1, 0, 2141], []), (52, .aload_n 0, 1, .null, [], []), (53, .sipush 360, 3, .int 360, [], []), (56, .newarray .long, 2, .null, [1, 2153], []), (58, .putfield 19, 3, .null, [8, 3, 1, 0, 2143], []), (61, .return_, 1, .null, [], [])]
def i_c14 : List I_En := [(0, .iload_n 1, 1, .null, [], []), (1, .bipush 10, 2, .int 10, [], []), (3, .idiv, 1, .null, [], []), (4, .istore_n 2, 1, .null, [], []), (5, .iload_n 1, 1, .null, [], []), (6, .bipush 10, 2, .int 10, [], []), (8, .irem, 1, .null, [], []), (9, .istore_n 3, 1, .null, [], []), (10, .iload_n 1, 1, .null, [], []), (11, .ifCond .lt 17, 3, .null, [28], []), (14, .iload_n 2, 1, .null, [], []), (15, .invokestatic 97, 3, .null, [15, 1, 0, 2204, 2205, 0, 1001, 2206], []), (18, .ifCond .eq 10, 3, .null, [28], []), (21, .iload_n 3, 1, .null, [], []), (22, .invokestatic 97, 3, .null, [15, 1, 0, 2204, 2205, 0, 1001, 2206], []), (25, .ifCond .ne 5, 3, .null, [30], []), (28, .iconst (-1), 1, .int (-1), [], []), (29, .ireturn, 1, .null, [1], []), (30, .aload_n 0, 1, .null, [], []), (31, .getfield 37, 3, .null, [11, 3, 1, 0, 2157], []), (34, .getfield 101, 3, .null, [1, 6, 0, 1, 1166], []), (37, .ifCond .le 6, 3, .null, [43], []), (40, .bipush (-5), 2, .int (-5), [], []), (42, .ireturn, 1, .null, [1], []), (43, .bipush 10, 2, .int 10, [], []), (45, .aload_n 0, 1, .null, [], []), (46, .getfield 10, 3, .null, [11, 0, 1, 0, 2154], []), (49, .getfield 105, 3, .null, [4, 0, 0, 1, 1045], []), (52, .imul, 1, .null, [], []), (53, .aload_n 0, 1, .null, [], []), (54, .getfield 10, 3, .null, [11, 0, 1, 0, 2154], []), (57, .getfield 108, 3, .null, [4, 1, 0, 1, 1047], []), (60, .iadd, 1, .null, [], []), (61, .istore 4, 2, .null, [], []), (63, .aload_n 0, 1, .null, [], []), (64, .getfield 10, 3, .null, [11, 0, 1, 0, 2154], []), (67, .iload_n 2, 1, .null, [], []), (68, .iload_n 3, 1, .null, [], []), (69, .invokevirtual 111, 3, .null, [2, 2, 1, 2207, 1039, 0, 1002, 1040], []), (72, .aload_n 0, 1, .null, [], []), (73, .getfield 44, 3, .null, [11, 4, 1, 0, 2158], []), (76, .invokevirtual 115, 3, .null, [16, 0, 1, 2208, 2210, 1, 1007, 2211], []), (79, .aload_n 0, 1, .null, [], []), (80, .getfield 69, 3, .null, [11, 7, 1, 0, 2161], []), (83, .invokevirtual 118, 3, .null, [17, 0, 1, 2212, 2214, 2, 1010, 2215], []), (86, .aload_n 0, 1, .null, [], []), (87, .iconst 0, 1, .int 0, [], []), (88, .putfield 119, 3, .null, [11, 14, 2, 0, 2168], []), (91, .iload 4, 2, .null, [], []), (93, .ireturn, 1, .null, [1], [])]
def i_c15 : List I_En := [(0, .iload_n 0, 1, .null, [], []), (1, .iconst 1, 1, .int 1, [], []), (2, .if_icmp .lt 12, 3, .null, [14], []), (5, .iload_n 0, 1, .null, [], []), (6, .iconst 5, 1, .int 5, [], []), (7, .if_icmp .gt 7, 3, .null, [14], []), (10, .iconst 1, 1, .int 1, [], []), (11, .goto 4, 3, .null, [15], []), (14, .iconst 0, 1, .int 0, [], []), (15, .ireturn, 1, .null, [2], [])]
def i_c16 : List I_En := [(0, .aload_n 0, 1, .null, [], []), (1, .iconst 0, 1, .int 0, [], []), (2, .putfield 21, 3, .null, [3, 3, 0, 0, 1206], []), (5, .return_, 1, .null, [], [])]
def i_c17 : List I_En := [(0, .aload_n 0, 1, .null, [], []), (1, .iconst 0, 1, .int 0, [], []), (2, .putfield 22, 3, .null, [2, 4, 0, 0, 2068], []), (5, .aload_n 0, 1, .null, [], []), (6, .iconst 0, 1, .int 0, [], []), (7, .putfield 26, 3, .null, [2, 5, 0, 0, 2070], []), (10, .return_, 1, .null, [], [])]
def i_c18 : List I_En := [(0, .iload_n 2, 1, .null, [], []), (1, .ifCond .lt 10, 3, .null, [11], []), (4, .iload_n 2, 1, .null, [], []), (5, .sipush 1000, 3, .int 1000, [], []), (8, .if_icmp .lt 5, 3, .null, [13], []), (11, .iconst (-1), 1, .int (-1), [], []), (12, .ireturn, 1, .null, [1], []), (13, .aload_n 0, 1, .null, [], []), (14, .getfield 37, 3, .null, [11, 3, 1, 0, 2157], []), (17, .iload_n 1, 1, .null, [], []), (18, .iload_n 2, 1, .null, [], []), (19, .bipush 100, 2, .int 100, [], []), (21, .idiv, 1, .null, [], []), (22, .iload_n 2, 1, .null, [], []), (23, .bipush 10, 2, .int 10, [], []), (25, .idiv, 1, .null, [], []), (26, .bipush 10, 2, .int 10, [], []), (28, .irem, 1, .null, [], []), (29, .iload_n 2, 1, .null, [], []), (30, .bipush 10, 2, .int 10, [], []), (32, .irem, 1, .null, [], []), (33, .invokevirtual 123, 3, .null, [19, 4, 1, 2220, 2222, 3, 1006, 2223], []), (36, .ireturn, 1, .null, [1], [])]
def i_c19 : List I_En := [(0, .aload_n 0, 1, .null, [], []), (1, .getfield 24, 3, .null, [1, 0, 1, 0, 1153], []), (4, .iload_n 1, 1, .null, [], []), (5, .invokevirtual 39, 3, .null, [20, 1, 1, 2224, 2226, 4, 1002, 2227], []), (8, .ifCond .eq 44, 3, .null, [52], []), (11, .aload_n 0, 1, .null, [], []), (12, .iload_n 1, 1, .null, [], []), (13, .invokevirtual 45, 3, .null, [22, 1, 0, 2232, 2234, 6, 1006, 2235], []), (16, .bipush (-2), 2, .int (-2), [], []), (18, .if_icmp .ne 34, 3, .null, [52], []), (21, .iload_n 2, 1, .null, [], []), (22, .ifCond .lt 30, 3, .null, [52], []), (25, .iload_n 2, 1, .null, [], []), (26, .bipush 10, 2, .int 10, [], []), (28, .if_icmp .ge 24, 3, .null, [52], []), (31, .iload_n 3, 1, .null, [], []), (32, .ifCond .lt 20, 3, .null, [52], []), (35, .iload_n 3, 1, .null, [], []), (36, .bipush 9, 2, .int 9, [], []), (38, .if_icmp .gt 14, 3, .null, [52], []), (41, .iload 4, 2, .null, [], []), (43, .ifCond .lt 9, 3, .null, [52], []), (46, .iload 4, 2, .null, [], []), (48, .iconst 1, 1, .int 1, [], []), (49, .if_icmp .le 5, 3, .null, [54], []), (52, .iconst (-1), 1, .int (-1), [], []), (53, .ireturn, 1, .null, [1], []), (54, .aload_n 0, 1, .null, [], []), (55, .getfield 32, 3, .null, [1, 6, 0, 0, 1165], []), (58, .bipush 6, 2, .int 6, [], []), (60, .if_icmp .lt 6, 3, .null, [66], []), (63, .bipush (-3), 2, .int (-3), [], []), (65, .ireturn, 1, .null, [1], []), (66, .aload_n 0, 1, .null, [], []), (67, .getfield 9, 3, .null, [1, 2, 1, 0, 1155], []), (70, .aload_n 0, 1, .null, [], []), (71, .getfield 32, 3, .null, [1, 6, 0, 0, 1165], []), (74, .iload_n 1, 1, .null, [], []), (75, .iastore, 1, .null, [], []), (76, .aload_n 0, 1, .null, [], []), (77, .getfield 15, 3, .null, [1, 3, 1, 0, 1158], []), (80, .aload_n 0, 1, .null, [], []), (81, .getfield 32, 3, .null, [1, 6, 0, 0, 1165], []), (84, .iload_n 2, 1, .null, [], []), (85, .iastore, 1, .null, [], []), (86, .aload_n 0, 1, .null, [], []), (87, .getfield 18, 3, .null, [1, 4, 1, 0, 1161], []), (90, .aload_n 0, 1, .null, [], []), (91, .getfield 32, 3, .null, [1, 6, 0, 0, 1165], []), (94, .iload_n 3, 1, .null, [], []), (95, .iastore, 1, .null, [], []), (96, .aload_n 0, 1, .null, [], []), (97, .getfield 21, 3, .null, [1, 5, 1, 0, 1163], []), (100, .aload_n 0, 1, .null, [], []), (101, .getfield 32, 3, .null, [1, 6, 0, 0, 1165], []), (104, .iload 4, 2, .null, [], []), (106, .iastore, 1, .null, [], []), (107, .aload_n 0, 1, .null, [], []), (108, .dup, 1, .null, [], []), (109, .getfield 32, 3, .null, [1, 6, 0, 0, 1165], []), (112, .iconst 1, 1, .int 1, [], []), (113, .iadd, 1, .null, [], []), (114, .putfield 32, 3, .null, [1, 6, 0, 0, 1165], []), (117, .aload_n 0, 1, .null, [], []), (118, .getfield 32, 3, .null, [1, 6, 0, 0, 1165], []), (121, .iconst 1, 1, .int 1, [], []), (122, .isub, 1, .null, [], []), (123, .ireturn, 1, .null, [1], [])]
def i_c20 : List I_En := [(0, .iload_n 1, 1, .null, [], []), (1, .ifCond .lt 15, 3, .null, [16], []), (4, .iload_n 1, 1, .null, [], []), (5, .aload_n 0, 1, .null, [], []), (6, .invokevirtual 47, 3, .null, [21, 0, 0, 2228, 2230, 5, 1002, 2231], []), (9, .if_icmp .ge 7, 3, .null, [16], []), (12, .iconst 1, 1, .int 1, [], []), (13, .goto 4, 3, .null, [17], []), (16, .iconst 0, 1, .int 0, [], []), (17, .ireturn, 1, .null, [2], [])]
def i_c21 : List I_En := [(0, .aload_n 0, 1, .null, [], []), (1, .getfield 35, 3, .null, [4, 0, 0, 0, 1044], []), (4, .aload_n 0, 1, .null, [], []), (5, .getfield 38, 3, .null, [4, 1, 0, 0, 1046], []), (8, .imul, 1, .null, [], []), (9, .ireturn, 1, .null, [1], [])]
def i_c22 : List I_En := [(0, .iconst 0, 1, .int 0, [], []), (1, .istore_n 2, 1, .null, [], []), (2, .iload_n 2, 1, .null, [], []), (3, .aload_n 0, 1, .null, [], []), (4, .getfield 32, 3, .null, [1, 6, 0, 0, 1165], []), (7, .if_icmp .ge 21, 3, .null, [28], []), (10, .aload_n 0, 1, .null, [], []), (11, .getfield 9, 3, .null, [1, 2, 1, 0, 1155], []), (14, .iload_n 2, 1, .null, [], []), (15, .iaload, 1, .null, [], []), (16, .iload_n 1, 1, .null, [], []), (17, .if_icmp .ne 5, 3, .null, [22], []), (20, .iload_n 2, 1, .null, [], []), (21, .ireturn, 1, .null, [1], []), (22, .iinc 2 1, 3, .int 1, [], []), (25, .goto (-23), 3, .null, [2], []), (28, .bipush (-2), 2, .int (-2), [], []), (30, .ireturn, 1, .null, [1], [])]
def i_c23 : List I_En := [(0, .aload_n 0, 1, .null, [], []), (1, .getfield 90, 3, .null, [11, 10, 1, 0, 2164], []), (4, .iload_n 1, 1, .null, [], []), (5, .invokevirtual 127, 3, .null, [24, 1, 1, 3000, 3002, 7, 1013, 3003], []), (8, .ifCond .eq 14, 3, .null, [22], []), (11, .iload_n 3, 1, .null, [], []), (12, .iconst 1, 1, .int 1, [], []), (13, .if_icmp .lt 9, 3, .null, [22], []), (16, .iload_n 3, 1, .null, [], []), (17, .bipush 6, 2, .int 6, [], []), (19, .if_icmp .le 5, 3, .null, [24], []), (22, .iconst (-1), 1, .int (-1), [], []), (23, .ireturn, 1, .null, [1], []), (24, .aload_n 0, 1, .null, [], []), (25, .getfield 90, 3, .null, [11, 10, 1, 0, 2164], []), (28, .getfield 130, 3, .null, [8, 0, 1, 1, 2137], []), (31, .iload_n 1, 1, .null, [], []), (32, .iaload, 1, .null, [], []), (33, .iconst (-1), 1, .int (-1), [], []), (34, .if_icmp .eq 18, 3, .null, [52], []), (37, .aload_n 0, 1, .null, [], []), (38, .getfield 90, 3, .null, [11, 10, 1, 0, 2164], []), (41, .getfield 130, 3, .null, [8, 0, 1, 1, 2137], []), (44, .iload_n 1, 1, .null, [], []), (45, .iaload, 1, .null, [], []), (46, .ifCond .eq 6, 3, .null, [52], []), (49, .bipush (-12), 2, .int (-12), [], []), (51, .ireturn, 1, .null, [1], []), (52, .iconst 0, 1, .int 0, [], []), (53, .istore 4, 2, .null, [], []), (55, .iload 4, 2, .null, [], []), (57, .iload_n 3, 1, .null, [], []), (58, .if_icmp .ge 20, 3, .null, [78], []), (61, .aload_n 0, 1, .null, [], []), (62, .iload_n 1, 1, .null, [], []), (63, .iload_n 2, 1, .null, [], []), (64, .iload 4, 2, .null, [], []), (66, .invokevirtual 134, 3, .null, [25, 3, 0, 3004, 3006, 8, 1001, 3007], []), (69, .ifCond .eq 9, 3, .null, [78], []), (72, .iinc 4 1, 3, .int 1, [], []), (75, .goto (-20), 3, .null, [55], []), (78, .iload 4, 2, .null, [], []), (80, .ireturn, 1, .null, [1], [])]
def i_c24 : List I_En := [(0, .iload_n 1, 1, .null, [], []), (1, .ifCond .lt 13, 3, .null, [14], []), (4, .iload_n 1, 1, .null, [], []), (5, .bipush 6, 2, .int 6, [], []), (7, .if_icmp .ge 7, 3, .null, [14], []), (10, .iconst 1, 1, .int 1, [], []), (11, .goto 4, 3, .null, [15], []), (14, .iconst 0, 1, .int 0, [], []), (15, .ireturn, 1, .null, [2], [])]
def i_c25 : List I_En := [(0, .aload_n 0, 1, .null, [], []), (1, .getfield 90, 3, .null, [11, 10, 1, 0, 2164], []), (4, .iload_n 1, 1, .null, [], []), (5, .iload_n 2, 1, .null, [], []), (6, .invokevirtual 138, 3, .null, [26, 2, 1, 3008, 3010, 9, 1013, 3011], []), (9, .ifCond .eq 21, 3, .null, [30], []), (12, .aload_n 0, 1, .null, [], []), (13, .getfield 90, 3, .null, [11, 10, 1, 0, 2164], []), (16, .iload_n 1, 1, .null, [], []), (17, .iload_n 2, 1, .null, [], []), (18, .iconst 4, 1, .int 4, [], []), (19, .iload_n 3, 1, .null, [], []), (20, .imul, 1, .null, [], []), (21, .iadd, 1, .null, [], []), (22, .iconst 3, 1, .int 3, [], []), (23, .iadd, 1, .null, [], []), (24, .invokevirtual 138, 3, .null, [26, 2, 1, 3008, 3010, 9, 1013, 3011], []), (27, .ifCond .ne 5, 3, .null, [32], []), (30, .iconst 0, 1, .int 0, [], []), (31, .ireturn, 1, .null, [2], []), (32, .iload_n 2, 1, .null, [], []), (33, .iconst 4, 1, .int 4, [], []), (34, .iload_n 3, 1, .null, [], []), (35, .imul, 1, .null, [], []), (36, .iadd, 1, .null, [], []), (37, .istore 4, 2, .null, [], []), (39, .aload_n 0, 1, .null, [], []), (40, .getfield 37, 3, .null, [11, 3, 1, 0, 2157], []), (43, .aload_n 0, 1, .null, [], []), (44, .getfield 90, 3, .null, [11, 10, 1, 0, 2164], []), (47, .iload_n 1, 1, .null, [], []), (48, .iload 4, 2, .null, [], []), (50, .invokevirtual 142, 3, .null, [27, 2, 1, 3012, 3014, 10, 1013, 3015], []), (53, .l2i, 1, .null, [], []), (54, .aload_n 0, 1, .null, [], []), (55, .getfield 90, 3, .null, [11, 10, 1, 0, 2164], []), (58, .iload_n 1, 1, .null, [], []), (59, .iload 4, 2, .null, [], []), (61, .iconst 1, 1, .int 1, [], []), (62, .iadd, 1, .null, [], []), (63, .invokevirtual 142, 3, .null, [27, 2, 1, 3012, 3014, 10, 1013, 3015], []), (66, .l2i, 1, .null, [], []), (67, .aload_n 0, 1, .null, [], []), (68, .getfield 90, 3, .null, [11, 10, 1, 0, 2164], []), (71, .iload_n 1, 1, .null, [], []), (72, .iload 4, 2, .null, [], []), (74, .iconst 2, 1, .int 2, [], []), (75, .iadd, 1, .null, [], []), (76, .invokevirtual 142, 3, .null, [27, 2, 1, 3012, 3014, 10, 1013, 3015], []), (79, .l2i, 1, .null, [], []), (80, .aload_n 0, 1, .null, [], []), (81, .getfield 90, 3, .null, [11, 10, 1, 0, 2164], []), (84, .iload_n 1, 1, .null, [], []), (85, .iload 4, 2, .null, [], []), (87, .iconst 3, 1, .int 3, [], []), (88, .iadd, 1, .null, [], []), (89, .invokevirtual 142, 3, .null, [27, 2, 1, 3012, 3014, 10, 1013, 3015], []), (92, .l2i, 1, .null, [], []), (93, .invokevirtual 123, 3, .null, [19, 4, 1, 2220, 2222, 3, 1006, 2223], []), (96, .ifCond .lt 7, 3, .null, [103], []), (99, .iconst 1, 1, .int 1, [], []), (100, .goto 4, 3, .null, [104], []), (103, .iconst 0, 1, .int 0, [], []), (104, .ireturn, 1, .null, [2], [])]
def i_c26 : List I_En := [(0, .iload_n 2, 1, .null, [], []), (1, .ifCond .lt 17, 3, .null, [18], []), (4, .iload_n 2, 1, .null, [], []), (5, .aload_n 0, 1, .null, [], []), (6, .getfield 13, 3, .null, [8, 1, 1, 0, 2138], []), (9, .iload_n 1, 1, .null, [], []), (10, .iaload, 1, .null, [], []), (11, .if_icmp .ge 7, 3, .null, [18], []), (14, .iconst 1, 1, .int 1, [], []), (15, .goto 4, 3, .null, [19], []), (18, .iconst 0, 1, .int 0, [], []), (19, .ireturn, 1, .null, [2], [])]
def i_c27 : List I_En := [(0, .aload_n 0, 1, .null, [], []), (1, .getfield 19, 3, .null, [8, 3, 1, 0, 2143], []), (4, .iload_n 1, 1, .null, [], []), (5, .bipush 60, 2, .int 60, [], []), (7, .imul, 1, .null, [], []), (8, .iload_n 2, 1, .null, [], []), (9, .iadd, 1, .null, [], []), (10, .laload, 1, .null, [], []), (11, .lreturn, 1, .null, [], [])]
def i_c28 : List I_En := [(0, .aload_n 0, 1, .null, [], []), (1, .iload_n 1, 1, .null, [], []), (2, .iload_n 2, 1, .null, [], []), (3, .invokevirtual 146, 3, .null, [29, 2, 0, 3020, 3022, 11, 1001, 3023], []), (6, .ifCond .eq 16, 3, .null, [22], []), (9, .iload_n 3, 1, .null, [], []), (10, .ifCond .lt 12, 3, .null, [22], []), (13, .iload_n 3, 1, .null, [], []), (14, .getstatic 149, 3, .ref 101, [1, 3029], []), (17, .iload_n 2, 1, .null, [], []), (18, .iaload, 1, .null, [], []), (19, .if_icmp .le 5, 3, .null, [24], []), (22, .iconst (-1), 1, .int (-1), [], []), (23, .ireturn, 1, .null, [1], []), (24, .aload_n 0, 1, .null, [], []), (25, .iload_n 1, 1, .null, [], []), (26, .iload_n 2, 1, .null, [], []), (27, .invokevirtual 152, 3, .null, [31, 2, 0, 3031, 3033, 13, 1001, 3034], []), (30, .istore 4, 2, .null, [], []), (32, .iload_n 3, 1, .null, [], []), (33, .iload 4, 2, .null, [], []), (35, .if_icmp .eq 22, 3, .null, [57], []), (38, .aload_n 0, 1, .null, [], []), (39, .getfield 69, 3, .null, [11, 7, 1, 0, 2161], []), (42, .iload_n 1, 1, .null, [], []), (43, .iload_n 2, 1, .null, [], []), (44, .iload 4, 2, .null, [], []), (46, .iload_n 3, 1, .null, [], []), (47, .invokevirtual 156, 3, .null, [32, 4, 1, 3035, 3037, 14, 1010, 3038], []), (50, .aload_n 0, 1, .null, [], []), (51, .iload_n 1, 1, .null, [], []), (52, .iload_n 2, 1, .null, [], []), (53, .iload_n 3, 1, .null, [], []), (54, .invokevirtual 160, 3, .null, [34, 3, 0, 3046, 3048, 16, 1001, 3049], []), (57, .iload 4, 2, .null, [], []), (59, .ireturn, 1, .null, [1], [])]
def i_c29 : List I_En := [(0, .iload_n 2, 1, .null, [], []), (1, .tableswitch 71 0 6 #[43, 43, 52, 61, 61, 61, 61], 43, .null, [72], [(0, 44), (1, 44), (2, 53), (3, 62), (4, 62), (5, 62), (6, 62)]), (44, .aload_n 0, 1, .null, [], []), (45, .getfield 10, 3, .null, [11, 0, 1, 0, 2154], []), (48, .iload_n 1, 1, .null, [], []), (49, .invokevirtual 164, 3, .null, [20, 1, 1, 3024, 2226, 4, 1002, 2227], []), (52, .ireturn, 1, .null, [2], []), (53, .aload_n 0, 1, .null, [], []), (54, .getfield 37, 3, .null, [11, 3, 1, 0, 2157], []), (57, .iload_n 1, 1, .null, [], []), (58, .invokevirtual 167, 3, .null, [30, 1, 1, 3025, 3027, 12, 1006, 3028], []), (61, .ireturn, 1, .null, [2], []), (62, .iload_n 1, 1, .null, [], []), (63, .ifCond .ne 7, 3, .null, [70], []), (66, .iconst 1, 1, .int 1, [], []), (67, .goto 4, 3, .null, [71], []), (70, .iconst 0, 1, .int 0, [], []), (71, .ireturn, 1, .null, [2], []), (72, .iconst 0, 1, .int 0, [], []), (73, .ireturn, 1, .null, [2], [])]
def i_c30 : List I_En := [(0, .iload_n 1, 1, .null, [], []), (1, .ifCond .lt 15, 3, .null, [16], []), (4, .iload_n 1, 1, .null, [], []), (5, .aload_n 0, 1, .null, [], []), (6, .getfield 32, 3, .null, [1, 6, 0, 0, 1165], []), (9, .if_icmp .ge 7, 3, .null, [16], []), (12, .iconst 1, 1, .int 1, [], []), (13, .goto 4, 3, .null, [17], []), (16, .iconst 0, 1, .int 0, [], []), (17, .ireturn, 1, .null, [2], [])]
def i_c31 : List I_En := [(0, .iload_n 2, 1, .null, [], []), (1, .tableswitch 93 0 5 #[39, 49, 59, 69, 77, 85], 39, .null, [94], [(0, 40), (1, 50), (2, 60), (3, 70), (4, 78), (5, 86)]), (40, .aload_n 0, 1, .null, [], []), (41, .getfield 10, 3, .null, [11, 0, 1, 0, 2154], []), (44, .getfield 168, 3, .null, [4, 4, 1, 1, 1052], []), (47, .iload_n 1, 1, .null, [], []), (48, .iaload, 1, .null, [], []), (49, .ireturn, 1, .null, [1], []), (50, .aload_n 0, 1, .null, [], []), (51, .getfield 10, 3, .null, [11, 0, 1, 0, 2154], []), (54, .getfield 171, 3, .null, [4, 5, 1, 1, 1055], []), (57, .iload_n 1, 1, .null, [], []), (58, .iaload, 1, .null, [], []), (59, .ireturn, 1, .null, [1], []), (60, .aload_n 0, 1, .null, [], []), (61, .getfield 37, 3, .null, [11, 3, 1, 0, 2157], []), (64, .getfield 174, 3, .null, [1, 4, 1, 1, 1162], []), (67, .iload_n 1, 1, .null, [], []), (68, .iaload, 1, .null, [], []), (69, .ireturn, 1, .null, [1], []), (70, .aload_n 0, 1, .null, [], []), (71, .getfield 10, 3, .null, [11, 0, 1, 0, 2154], []), (74, .getfield 177, 3, .null, [4, 6, 0, 1, 1059], []), (77, .ireturn, 1, .null, [1], []), (78, .aload_n 0, 1, .null, [], []), (79, .getfield 10, 3, .null, [11, 0, 1, 0, 2154], []), (82, .getfield 180, 3, .null, [4, 7, 0, 1, 1062], []), (85, .ireturn, 1, .null, [1], []), (86, .aload_n 0, 1, .null, [], []), (87, .getfield 10, 3, .null, [11, 0, 1, 0, 2154], []), (90, .getfield 183, 3, .null, [4, 8, 0, 1, 1065], []), (93, .ireturn, 1, .null, [1], []), (94, .aload_n 0, 1, .null, [], []), (95, .getfield 10, 3, .null, [11, 0, 1, 0, 2154], []), (98, .getfield 186, 3, .null, [4, 9, 0, 1, 1068], []), (101, .ireturn, 1, .null, [1], [])]
def i_c32 : List I_En := [(0, .aload_n 0, 1, .null, [], []), (1, .iconst 0, 1, .int 0, [], []), (2, .putfield 26, 3, .null, [2, 5, 0, 0, 2070], []), (5, .aload_n 0, 1, .null, [], []), (6, .getfield 22, 3, .null, [2, 4, 0, 0, 2068], []), (9, .bipush 40, 2, .int 40, [], []), (11, .if_icmp .lt 7, 3, .null, [18], []), (14, .aload_n 0, 1, .null, [], []), (15, .invokevirtual 29, 3, .null, [33, 0, 0, 3039, 3041, 15, 1010, 3042], []), (18, .aload_n 0, 1, .null, [], []), (19, .getfield 9, 3, .null, [2, 0, 1, 0, 2060], []), (22, .aload_n 0, 1, .null, [], []), (23, .getfield 22, 3, .null, [2, 4, 0, 0, 2068], []), (26, .iload_n 1, 1, .null, [], []), (27, .iastore, 1, .null, [], []), (28, .aload_n 0, 1, .null, [], []), (29, .getfield 13, 3, .null, [2, 1, 1, 0, 2062], []), (32, .aload_n 0, 1, .null, [], []), (33, .getfield 22, 3, .null, [2, 4, 0, 0, 2068], []), (36, .iload_n 2, 1, .null, [], []), (37, .iastore, 1, .null, [], []), (38, .aload_n 0, 1, .null, [], []), (39, .getfield 16, 3, .null, [2, 2, 1, 0, 2064], []), (42, .aload_n 0, 1, .null, [], []), (43, .getfield 22, 3, .null, [2, 4, 0, 0, 2068], []), (46, .iload_n 3, 1, .null, [], []), (47, .iastore, 1, .null, [], []), (48, .aload_n 0, 1, .null, [], []), (49, .getfield 19, 3, .null, [2, 3, 1, 0, 2066], []), (52, .aload_n 0, 1, .null, [], []), (53, .getfield 22, 3, .null, [2, 4, 0, 0, 2068], []), (56, .iload 4, 2, .null, [], []), (58, .iastore, 1, .null, [], []), (59, .aload_n 0, 1, .null, [], []), (60, .dup, 1, .null, [], []), (61, .getfield 22, 3, .null, [2, 4, 0, 0, 2068], []), (64, .iconst 1, 1, .int 1, [], []), (65, .iadd, 1, .null, [], []), (66, .putfield 22, 3, .null, [2, 4, 0, 0, 2068], []), (69, .return_, 1, .null, [], [])]
def i_c33 : List I_En := [(0, .aload_n 0, 1, .null, [], []), (1, .bipush 39, 2, .int 39, [], []), (3, .putfield 22, 3, .null, [2, 4, 0, 0, 2068], []), (6, .aload_n 0, 1, .null, [], []), (7, .getfield 9, 3, .null, [2, 0, 1, 0, 2060], []), (10, .iconst 1, 1, .int 1, [], []), (11, .aload_n 0, 1, .null, [], []), (12, .getfield 9, 3, .null, [2, 0, 1, 0, 2060], []), (15, .iconst 0, 1, .int 0, [], []), (16, .aload_n 0, 1, .null, [], []), (17, .getfield 22, 3, .null, [2, 4, 0, 0, 2068], []), (20, .invokestatic 32, 3, .null, [998, 3043, 3045, 3044, 1015], []), (23, .aload_n 0, 1, .null, [], []), (24, .getfield 13, 3, .null, [2, 1, 1, 0, 2062], []), (27, .iconst 1, 1, .int 1, [], []), (28, .aload_n 0, 1, .null, [], []), (29, .getfield 13, 3, .null, [2, 1, 1, 0, 2062], []), (32, .iconst 0, 1, .int 0, [], []), (33, .aload_n 0, 1, .null, [], []), (34, .getfield 22, 3, .null, [2, 4, 0, 0, 2068], []), (37, .invokestatic 32, 3, .null, [998, 3043, 3045, 3044, 1015], []), (40, .aload_n 0, 1, .null, [], []), (41, .getfield 16, 3, .null, [2, 2, 1, 0, 2064], []), (44, .iconst 1, 1, .int 1, [], []), (45, .aload_n 0, 1, .null, [], []), (46, .getfield 16, 3, .null, [2, 2, 1, 0, 2064], []), (49, .iconst 0, 1, .int 0, [], []), (50, .aload_n 0, 1, .null, [], []), (51, .getfield 22, 3, .null, [2, 4, 0, 0, 2068], []), (54, .invokestatic 32, 3, .null, [998, 3043, 3045, 3044, 1015], []), (57, .aload_n 0, 1, .null, [], []), (58, .getfield 19, 3, .null, [2, 3, 1, 0, 2066], []), (61, .iconst 1, 1, .int 1, [], []), (62, .aload_n 0, 1, .null, [], []), (63, .getfield 19, 3, .null, [2, 3, 1, 0, 2066], []), (66, .iconst 0, 1, .int 0, [], []), (67, .aload_n 0, 1, .null, [], []), (68, .getfield 22, 3, .null, [2, 4, 0, 0, 2068], []), (71, .invokestatic 32, 3, .null, [998, 3043, 3045, 3044, 1015], []), (74, .return_, 1, .null, [], [])]
def i_c34 : List I_En := [(0, .iload_n 2, 1, .null, [], []), (1, .tableswitch 111 0 5 #[39, 52, 65, 78, 89, 100], 39, .null, [112], [(0, 40), (1, 53), (2, 66), (3, 79), (4, 90), (5, 101)]), (40, .aload_n 0, 1, .null, [], []), (41, .getfield 10, 3, .null, [11, 0, 1, 0, 2154], []), (44, .getfield 168, 3, .null, [4, 4, 1, 1, 1052], []), (47, .iload_n 1, 1, .null, [], []), (48, .iload_n 3, 1, .null, [], []), (49, .iastore, 1, .null, [], []), (50, .goto 70, 3, .null, [120], []), (53, .aload_n 0, 1, .null, [], []), (54, .getfield 10, 3, .null, [11, 0, 1, 0, 2154], []), (57, .getfield 171, 3, .null, [4, 5, 1, 1, 1055], []), (60, .iload_n 1, 1, .null, [], []), (61, .iload_n 3, 1, .null, [], []), (62, .iastore, 1, .null, [], []), (63, .goto 57, 3, .null, [120], []), (66, .aload_n 0, 1, .null, [], []), (67, .getfield 37, 3, .null, [11, 3, 1, 0, 2157], []), (70, .getfield 174, 3, .null, [1, 4, 1, 1, 1162], []), (73, .iload_n 1, 1, .null, [], []), (74, .iload_n 3, 1, .null, [], []), (75, .iastore, 1, .null, [], []), (76, .goto 44, 3, .null, [120], []), (79, .aload_n 0, 1, .null, [], []), (80, .getfield 10, 3, .null, [11, 0, 1, 0, 2154], []), (83, .iload_n 3, 1, .null, [], []), (84, .putfield 177, 3, .null, [4, 6, 0, 1, 1059], []), (87, .goto 33, 3, .null, [120], []), (90, .aload_n 0, 1, .null, [], []), (91, .getfield 10, 3, .null, [11, 0, 1, 0, 2154], []), (94, .iload_n 3, 1, .null, [], []), (95, .putfield 180, 3, .null, [4, 7, 0, 1, 1062], []), (98, .goto 22, 3, .null, [120], []), (101, .aload_n 0, 1, .null, [], []), (102, .getfield 10, 3, .null, [11, 0, 1, 0, 2154], []), (105, .iload_n 3, 1, .null, [], []), (106, .putfield 183, 3, .null, [4, 8, 0, 1, 1065], []), (109, .goto 11, 3, .null, [120], []), (112, .aload_n 0, 1, .null, [], []), (113, .getfield 10, 3, .null, [11, 0, 1, 0, 2154], []), (116, .iload_n 3, 1, .null, [], []), (117, .putfield 186, 3, .null, [4, 9, 0, 1, 1068], []), (120, .return_, 1, .null, [], [])]
def i_c35 : List I_En := [(0, .iload_n 2, 1, .null, [], []), (1, .ifCond .lt 16, 3, .null, [17], []), (4, .iload_n 2, 1, .null, [], []), (5, .bipush 10, 2, .int 10, [], []), (7, .if_icmp .ge 10, 3, .null, [17], []), (10, .aload_n 0, 1, .null, [], []), (11, .iload_n 1, 1, .null, [], []), (12, .iload_n 2, 1, .null, [], []), (13, .invokevirtual 189, 3, .null, [36, 2, 0, 3054, 3056, 17, 1001, 3057], []), (16, .ireturn, 1, .null, [1], []), (17, .iload_n 2, 1, .null, [], []), (18, .bipush 10, 2, .int 10, [], []), (20, .if_icmp .lt 16, 3, .null, [36], []), (23, .iload_n 2, 1, .null, [], []), (24, .bipush 20, 2, .int 20, [], []), (26, .if_icmp .ge 10, 3, .null, [36], []), (29, .aload_n 0, 1, .null, [], []), (30, .iload_n 1, 1, .null, [], []), (31, .iload_n 2, 1, .null, [], []), (32, .invokevirtual 192, 3, .null, [37, 2, 0, 3058, 3060, 18, 1001, 3061], []), (35, .ireturn, 1, .null, [1], []), (36, .iload_n 2, 1, .null, [], []), (37, .bipush 20, 2, .int 20, [], []), (39, .if_icmp .lt 23, 3, .null, [62], []), (42, .iload_n 2, 1, .null, [], []), (43, .bipush 30, 2, .int 30, [], []), (45, .if_icmp .ge 17, 3, .null, [62], []), (48, .iload_n 1, 1, .null, [], []), (49, .ifCond .ne 11, 3, .null, [60], []), (52, .aload_n 0, 1, .null, [], []), (53, .iload_n 2, 1, .null, [], []), (54, .invokevirtual 195, 3, .null, [39, 1, 0, 3066, 3068, 20, 1001, 3069], []), (57, .goto 4, 3, .null, [61], []), (60, .iconst (-1), 1, .int (-1), [], []), (61, .ireturn, 1, .null, [1], []), (62, .aload_n 0, 1, .null, [], []), (63, .iload_n 1, 1, .null, [], []), (64, .iload_n 2, 1, .null, [], []), (65, .invokevirtual 199, 3, .null, [40, 2, 0, 3070, 3072, 21, 1001, 3073], []), (68, .ireturn, 1, .null, [1], [])]
def i_c36 : List I_En := [(0, .aload_n 0, 1, .null, [], []), (1, .getfield 10, 3, .null, [11, 0, 1, 0, 2154], []), (4, .iload_n 1, 1, .null, [], []), (5, .invokevirtual 164, 3, .null, [20, 1, 1, 3024, 2226, 4, 1002, 2227], []), (8, .ifCond .ne 5, 3, .null, [13], []), (11, .iconst (-1), 1, .int (-1), [], []), (12, .ireturn, 1, .null, [1], []), (13, .iload_n 2, 1, .null, [], []), (14, .lookupswitch 46 #[(0, 26), (1, 36)], 26, .null, [60], [(0, 40), (1, 50)]), (40, .aload_n 0, 1, .null, [], []), (41, .getfield 10, 3, .null, [11, 0, 1, 0, 2154], []), (44, .getfield 168, 3, .null, [4, 4, 1, 1, 1052], []), (47, .iload_n 1, 1, .null, [], []), (48, .iaload, 1, .null, [], []), (49, .ireturn, 1, .null, [1], []), (50, .aload_n 0, 1, .null, [], []), (51, .getfield 10, 3, .null, [11, 0, 1, 0, 2154], []), (54, .getfield 171, 3, .null, [4, 5, 1, 1, 1055], []), (57, .iload_n 1, 1, .null, [], []), (58, .iaload, 1, .null, [], []), (59, .ireturn, 1, .null, [1], []), (60, .iconst (-1), 1, .int (-1), [], []), (61, .ireturn, 1, .null, [1], [])]
def i_c37 : List I_En := [(0, .aload_n 0, 1, .null, [], []), (1, .getfield 37, 3, .null, [11, 3, 1, 0, 2157], []), (4, .iload_n 1, 1, .null, [], []), (5, .invokevirtual 167, 3, .null, [30, 1, 1, 3025, 3027, 12, 1006, 3028], []), (8, .ifCond .ne 5, 3, .null, [13], []), (11, .iconst (-1), 1, .int (-1), [], []), (12, .ireturn, 1, .null, [1], []), (13, .iload_n 2, 1, .null, [], []), (14, .tableswitch 91 10 14 #[34, 44, 54, 64, 74], 34, .null, [105], [(10, 48), (11, 58), (12, 68), (13, 78), (14, 88)]), (48, .aload_n 0, 1, .null, [], []), (49, .getfield 37, 3, .null, [11, 3, 1, 0, 2157], []), (52, .getfield 202, 3, .null, [1, 2, 1, 1, 1157], []), (55, .iload_n 1, 1, .null, [], []), (56, .iaload, 1, .null, [], []), (57, .ireturn, 1, .null, [1], []), (58, .aload_n 0, 1, .null, [], []), (59, .getfield 37, 3, .null, [11, 3, 1, 0, 2157], []), (62, .getfield 205, 3, .null, [1, 3, 1, 1, 1160], []), (65, .iload_n 1, 1, .null, [], []), (66, .iaload, 1, .null, [], []), (67, .ireturn, 1, .null, [1], []), (68, .aload_n 0, 1, .null, [], []), (69, .getfield 37, 3, .null, [11, 3, 1, 0, 2157], []), (72, .getfield 174, 3, .null, [1, 4, 1, 1, 1162], []), (75, .iload_n 1, 1, .null, [], []), (76, .iaload, 1, .null, [], []), (77, .ireturn, 1, .null, [1], []), (78, .aload_n 0, 1, .null, [], []), (79, .getfield 37, 3, .null, [11, 3, 1, 0, 2157], []), (82, .getfield 208, 3, .null, [1, 5, 1, 1, 1164], []), (85, .iload_n 1, 1, .null, [], []), (86, .iaload, 1, .null, [], []), (87, .ireturn, 1, .null, [1], []), (88, .aload_n 0, 1, .null, [], []), (89, .getfield 37, 3, .null, [11, 3, 1, 0, 2157], []), (92, .iload_n 1, 1, .null, [], []), (93, .invokevirtual 211, 3, .null, [38, 1, 1, 3062, 3064, 19, 1006, 3065], []), (96, .ifCond .eq 7, 3, .null, [103], []), (99, .iconst 1, 1, .int 1, [], []), (100, .goto 4, 3, .null, [104], []), (103, .iconst 0, 1, .int 0, [], []), (104, .ireturn, 1, .null, [1], []), (105, .iconst (-1), 1, .int (-1), [], []), (106, .ireturn, 1, .null, [1], [])]
def i_c38 : List I_En := [(0, .aload_n 0, 1, .null, [], []), (1, .getfield 36, 3, .null, [1, 7, 0, 0, 1168], []), (4, .iload_n 1, 1, .null, [], []), (5, .ishr, 1, .null, [], []), (6, .iconst 1, 1, .int 1, [], []), (7, .iand, 1, .null, [], []), (8, .ifCond .eq 7, 3, .null, [15], []), (11, .iconst 1, 1, .int 1, [], []), (12, .goto 4, 3, .null, [16], []), (15, .iconst 0, 1, .int 0, [], []), (16, .ireturn, 1, .null, [2], [])]
def i_c39 : List I_En := [(0, .iload_n 1, 1, .null, [], []), (1, .tableswitch 75 20 24 #[35, 43, 51, 59, 67], 35, .null, [76], [(20, 36), (21, 44), (22, 52), (23, 60), (24, 68)]), (36, .aload_n 0, 1, .null, [], []), (37, .getfield 10, 3, .null, [11, 0, 1, 0, 2154], []), (40, .getfield 177, 3, .null, [4, 6, 0, 1, 1059], []), (43, .ireturn, 1, .null, [1], []), (44, .aload_n 0, 1, .null, [], []), (45, .getfield 10, 3, .null, [11, 0, 1, 0, 2154], []), (48, .getfield 180, 3, .null, [4, 7, 0, 1, 1062], []), (51, .ireturn, 1, .null, [1], []), (52, .aload_n 0, 1, .null, [], []), (53, .getfield 10, 3, .null, [11, 0, 1, 0, 2154], []), (56, .getfield 183, 3, .null, [4, 8, 0, 1, 1065], []), (59, .ireturn, 1, .null, [1], []), (60, .aload_n 0, 1, .null, [], []), (61, .getfield 10, 3, .null, [11, 0, 1, 0, 2154], []), (64, .getfield 186, 3, .null, [4, 9, 0, 1, 1068], []), (67, .ireturn, 1, .null, [1], []), (68, .aload_n 0, 1, .null, [], []), (69, .getfield 37, 3, .null, [11, 3, 1, 0, 2157], []), (72, .getfield 214, 3, .null, [1, 8, 0, 1, 1171], []), (75, .ireturn, 1, .null, [1], []), (76, .iconst (-1), 1, .int (-1), [], []), (77, .ireturn, 1, .null, [1], [])]
def i_c40 : List I_En := [(0, .aload_n 0, 1, .null, [], []), (1, .getfield 44, 3, .null, [11, 4, 1, 0, 2158], []), (4, .iload_n 1, 1, .null, [], []), (5, .invokevirtual 217, 3, .null, [41, 1, 1, 3074, 3076, 22, 1007, 3077], []), (8, .ifCond .ne 5, 3, .null, [13], []), (11, .iconst (-1), 1, .int (-1), [], []), (12, .ireturn, 1, .null, [1], []), (13, .iload_n 2, 1, .null, [], []), (14, .tableswitch 56 30 32 #[26, 36, 46], 26, .null, [70], [(30, 40), (31, 50), (32, 60)]), (40, .aload_n 0, 1, .null, [], []), (41, .getfield 44, 3, .null, [11, 4, 1, 0, 2158], []), (44, .getfield 218, 3, .null, [3, 0, 1, 1, 1199], []), (47, .iload_n 1, 1, .null, [], []), (48, .iaload, 1, .null, [], []), (49, .ireturn, 1, .null, [1], []), (50, .aload_n 0, 1, .null, [], []), (51, .getfield 44, 3, .null, [11, 4, 1, 0, 2158], []), (54, .getfield 221, 3, .null, [3, 1, 1, 1, 1202], []), (57, .iload_n 1, 1, .null, [], []), (58, .iaload, 1, .null, [], []), (59, .ireturn, 1, .null, [1], []), (60, .aload_n 0, 1, .null, [], []), (61, .getfield 44, 3, .null, [11, 4, 1, 0, 2158], []), (64, .getfield 222, 3, .null, [3, 2, 1, 1, 1205], []), (67, .iload_n 1, 1, .null, [], []), (68, .iaload, 1, .null, [], []), (69, .ireturn, 1, .null, [1], []), (70, .iconst (-1), 1, .int (-1), [], []), (71, .ireturn, 1, .null, [1], [])]
def i_c41 : List I_En := [(0, .iload_n 1, 1, .null, [], []), (1, .ifCond .lt 15, 3, .null, [16], []), (4, .iload_n 1, 1, .null, [], []), (5, .aload_n 0, 1, .null, [], []), (6, .getfield 21, 3, .null, [3, 3, 0, 0, 1206], []), (9, .if_icmp .ge 7, 3, .null, [16], []), (12, .iconst 1, 1, .int 1, [], []), (13, .goto 4, 3, .null, [17], []), (16, .iconst 0, 1, .int 0, [], []), (17, .ireturn, 1, .null, [2], [])]
def i_c42 : List I_En := [(0, .iload_n 1, 1, .null, [], []), (1, .ifCond .lt 10, 3, .null, [11], []), (4, .iload_n 1, 1, .null, [], []), (5, .sipush 255, 3, .int 255, [], []), (8, .if_icmp .le 5, 3, .null, [13], []), (11, .iconst (-1), 1, .int (-1), [], []), (12, .ireturn, 1, .null, [1], []), (13, .aload_n 0, 1, .null, [], []), (14, .getfield 19, 3, .null, [11, 1, 1, 0, 2155], []), (17, .iload_n 1, 1, .null, [], []), (18, .invokevirtual 225, 3, .null, [43, 1, 1, 3082, 3084, 23, 1004, 3085], []), (21, .ifCond .eq 13, 3, .null, [34], []), (24, .aload_n 0, 1, .null, [], []), (25, .getfield 19, 3, .null, [11, 1, 1, 0, 2155], []), (28, .getfield 227, 3, .null, [9, 1, 0, 1, 1099], []), (31, .goto 5, 3, .null, [36], []), (34, .bipush (-3), 2, .int (-3), [], []), (36, .ireturn, 1, .null, [1], [])]
def i_c43 : List I_En := [(0, .aload_n 0, 1, .null, [], []), (1, .getfield 16, 3, .null, [9, 1, 0, 0, 1098], []), (4, .bipush 120, 2, .int 120, [], []), (6, .if_icmp .lt 5, 3, .null, [11], []), (9, .iconst 0, 1, .int 0, [], []), (10, .ireturn, 1, .null, [2], []), (11, .aload_n 0, 1, .null, [], []), (12, .getfield 9, 3, .null, [9, 0, 1, 0, 1097], []), (15, .aload_n 0, 1, .null, [], []), (16, .getfield 16, 3, .null, [9, 1, 0, 0, 1098], []), (19, .iload_n 1, 1, .null, [], []), (20, .iastore, 1, .null, [], []), (21, .aload_n 0, 1, .null, [], []), (22, .dup, 1, .null, [], []), (23, .getfield 16, 3, .null, [9, 1, 0, 0, 1098], []), (26, .iconst 1, 1, .int 1, [], []), (27, .iadd, 1, .null, [], []), (28, .putfield 16, 3, .null, [9, 1, 0, 0, 1098], []), (31, .iconst 1, 1, .int 1, [], []), (32, .ireturn, 1, .null, [2], [])]
def i_c44 : List I_En := [(0, .aload_n 0, 1, .null, [], []), (1, .getfield 19, 3, .null, [11, 1, 1, 0, 2155], []), (4, .invokevirtual 230, 3, .null, [45, 0, 1, 3090, 3092, 24, 1004, 3093], []), (7, .istore_n 1, 1, .null, [], []), (8, .iload_n 1, 1, .null, [], []), (9, .ifCond .ge 24, 3, .null, [33], []), (12, .aload_n 0, 1, .null, [], []), (13, .getfield 28, 3, .null, [11, 2, 1, 0, 2156], []), (16, .aload_n 0, 1, .null, [], []), (17, .getfield 19, 3, .null, [11, 1, 1, 0, 2155], []), (20, .getfield 234, 3, .null, [9, 2, 1, 1, 1101], []), (23, .aload_n 0, 1, .null, [], []), (24, .getfield 19, 3, .null, [11, 1, 1, 0, 2155], []), (27, .getfield 237, 3, .null, [9, 3, 0, 1, 1103], []), (30, .invokevirtual 240, 3, .null, [63, 2, 1, 3215, 3217, 32, 1005, 3218], []), (33, .aload_n 0, 1, .null, [], []), (34, .getfield 19, 3, .null, [11, 1, 1, 0, 2155], []), (37, .iconst 0, 1, .int 0, [], []), (38, .putfield 227, 3, .null, [9, 1, 0, 1, 1099], []), (41, .iload_n 1, 1, .null, [], []), (42, .ifCond .ge 7, 3, .null, [49], []), (45, .iconst 1, 1, .int 1, [], []), (46, .goto 7, 3, .null, [53], []), (49, .bipush (-100), 2, .int (-100), [], []), (51, .iload_n 1, 1, .null, [], []), (52, .isub, 1, .null, [], []), (53, .ireturn, 1, .null, [1], [])]
def i_c45 : List I_En := [(0, .aload_n 0, 1, .null, [], []), (1, .iconst 0, 1, .int 0, [], []), (2, .putfield 20, 3, .null, [9, 4, 0, 0, 1104], []), (5, .aload_n 0, 1, .null, [], []), (6, .iconst (-1), 1, .int (-1), [], []), (7, .putfield 23, 3, .null, [9, 5, 0, 0, 1105], []), (10, .aload_n 0, 1, .null, [], []), (11, .iconst 0, 1, .int 0, [], []), (12, .putfield 26, 3, .null, [9, 3, 0, 0, 1102], []), (15, .aload_n 0, 1, .null, [], []), (16, .invokevirtual 29, 3, .null, [46, 0, 0, 3094, 3096, 25, 1004, 3097], []), (19, .iconst 1, 1, .int 1, [], []), (20, .istore_n 1, 1, .null, [], []), (21, .iload_n 1, 1, .null, [], []), (22, .bipush 120, 2, .int 120, [], []), (24, .if_icmp .gt 32, 3, .null, [56], []), (27, .aload_n 0, 1, .null, [], []), (28, .invokevirtual 32, 3, .null, [49, 0, 0, 3106, 3108, 28, 1004, 3109], []), (31, .bipush 59, 2, .int 59, [], []), (33, .if_icmp .ne 23, 3, .null, [56], []), (36, .aload_n 0, 1, .null, [], []), (37, .dup, 1, .null, [], []), (38, .getfield 20, 3, .null, [9, 4, 0, 0, 1104], []), (41, .iconst 1, 1, .int 1, [], []), (42, .iadd, 1, .null, [], []), (43, .putfield 20, 3, .null, [9, 4, 0, 0, 1104], []), (46, .aload_n 0, 1, .null, [], []), (47, .invokevirtual 29, 3, .null, [46, 0, 0, 3094, 3096, 25, 1004, 3097], []), (50, .iinc 1 1, 3, .int 1, [], []), (53, .goto (-32), 3, .null, [21], []), (56, .aload_n 0, 1, .null, [], []), (57, .getfield 20, 3, .null, [9, 4, 0, 0, 1104], []), (60, .aload_n 0, 1, .null, [], []), (61, .getfield 16, 3, .null, [9, 1, 0, 0, 1098], []), (64, .if_icmp .ge 7, 3, .null, [71], []), (67, .aload_n 0, 1, .null, [], []), (68, .invokevirtual 36, 3, .null, [61, 0, 0, 3208, 3210, 31, 1004, 3211], []), (71, .aload_n 0, 1, .null, [], []), (72, .getfield 23, 3, .null, [9, 5, 0, 0, 1105], []), (75, .ireturn, 1, .null, [1], [])]
def i_c46 : List I_En := [(0, .aload_n 0, 1, .null, [], []), (1, .iconst 0, 1, .int 0, [], []), (2, .iconst 0, 1, .int 0, [], []), (3, .invokevirtual 39, 3, .null, [47, 2, 0, 3098, 3100, 26, 1004, 3101], []), (6, .aload_n 0, 1, .null, [], []), (7, .invokevirtual 32, 3, .null, [49, 0, 0, 3106, 3108, 28, 1004, 3109], []), (10, .bipush 63, 2, .int 63, [], []), (12, .if_icmp .ne 25, 3, .null, [37], []), (15, .aload_n 0, 1, .null, [], []), (16, .dup, 1, .null, [], []), (17, .getfield 20, 3, .null, [9, 4, 0, 0, 1104], []), (20, .iconst 1, 1, .int 1, [], []), (21, .iadd, 1, .null, [], []), (22, .putfield 20, 3, .null, [9, 4, 0, 0, 1104], []), (25, .aload_n 0, 1, .null, [], []), (26, .bipush (-63), 2, .int (-63), [], []), (28, .invokevirtual 43, 3, .null, [60, 1, 0, 3204, 3206, 30, 1004, 3207], []), (31, .aload_n 0, 1, .null, [], []), (32, .iconst 0, 1, .int 0, [], []), (33, .iconst 0, 1, .int 0, [], []), (34, .invokevirtual 39, 3, .null, [47, 2, 0, 3098, 3100, 26, 1004, 3101], []), (37, .aload_n 0, 1, .null, [], []), (38, .bipush (-59), 2, .int (-59), [], []), (40, .invokevirtual 43, 3, .null, [60, 1, 0, 3204, 3206, 30, 1004, 3207], []), (43, .return_, 1, .null, [], [])]
def i_c47 : List I_En := [(0, .iload_n 1, 1, .null, [], []), (1, .iconst 5, 1, .int 5, [], []), (2, .if_icmp .lt 9, 3, .null, [11], []), (5, .aload_n 0, 1, .null, [], []), (6, .iload_n 2, 1, .null, [], []), (7, .invokevirtual 47, 3, .null, [48, 1, 0, 3102, 3104, 27, 1004, 3105], []), (10, .return_, 1, .null, [], []), (11, .aload_n 0, 1, .null, [], []), (12, .iload_n 1, 1, .null, [], []), (13, .iconst 1, 1, .int 1, [], []), (14, .iadd, 1, .null, [], []), (15, .iload_n 2, 1, .null, [], []), (16, .invokevirtual 39, 3, .null, [47, 2, 0, 3098, 3100, 26, 1004, 3101], []), (19, .iconst 0, 1, .int 0, [], []), (20, .istore_n 3, 1, .null, [], []), (21, .iload_n 3, 1, .null, [], []), (22, .bipush 120, 2, .int 120, [], []), (24, .if_icmp .ge 57, 3, .null, [81], []), (27, .aload_n 0, 1, .null, [], []), (28, .invokevirtual 32, 3, .null, [49, 0, 0, 3106, 3108, 28, 1004, 3109], []), (31, .invokestatic 50, 3, .null, [62, 1, 0, 3212, 3213, 0, 1004, 3214], []), (34, .iload_n 1, 1, .null, [], []), (35, .if_icmp .ne 46, 3, .null, [81], []), (38, .aload_n 0, 1, .null, [], []), (39, .invokevirtual 32, 3, .null, [49, 0, 0, 3106, 3108, 28, 1004, 3109], []), (42, .istore 4, 2, .null, [], []), (44, .aload_n 0, 1, .null, [], []), (45, .dup, 1, .null, [], []), (46, .getfield 20, 3, .null, [9, 4, 0, 0, 1104], []), (49, .iconst 1, 1, .int 1, [], []), (50, .iadd, 1, .null, [], []), (51, .putfield 20, 3, .null, [9, 4, 0, 0, 1104], []), (54, .aload_n 0, 1, .null, [], []), (55, .iload_n 1, 1, .null, [], []), (56, .iconst 1, 1, .int 1, [], []), (57, .iadd, 1, .null, [], []), (58, .iload_n 2, 1, .null, [], []), (59, .invokevirtual 39, 3, .null, [47, 2, 0, 3098, 3100, 26, 1004, 3101], []), (62, .aload_n 0, 1, .null, [], []), (63, .iload 4, 2, .null, [], []), (65, .ineg, 1, .null, [], []), (66, .invokevirtual 43, 3, .null, [60, 1, 0, 3204, 3206, 30, 1004, 3207], []), (69, .iload_n 1, 1, .null, [], []), (70, .iconst 2, 1, .int 2, [], []), (71, .if_icmp .ne 4, 3, .null, [75], []), (74, .return_, 1, .null, [], []), (75, .iinc 3 1, 3, .int 1, [], []), (78, .goto (-57), 3, .null, [21], []), (81, .return_, 1, .null, [], [])]
def i_c48 : List I_En := [(0, .aload_n 0, 1, .null, [], []), (1, .invokevirtual 32, 3, .null, [49, 0, 0, 3106, 3108, 28, 1004, 3109], []), (4, .istore_n 2, 1, .null, [], []), (5, .iload_n 2, 1, .null, [], []), (6, .ifCond .ge 7, 3, .null, [13], []), (9, .iconst (-1), 1, .int (-1), [], []), (10, .goto 10, 3, .null, [20], []), (13, .ldc 54, 2, .ref 105, [1, 3110], []), (15, .iload_n 2, 1, .null, [], []), (16, .i2c, 1, .null, [], []), (17, .invokevirtual 56, 3, .null, [50, 1, 0, 3111, 3112, 3113, 1016, 3114], []), (20, .istore_n 3, 1, .null, [], []), (21, .iload_n 2, 1, .null, [], []), (22, .invokestatic 61, 3, .null, [58, 1, 0, 3197, 3198, 0, 1004, 3199], []), (25, .ifCond .eq 10, 3, .null, [35], []), (28, .aload_n 0, 1, .null, [], []), (29, .invokevirtual 65, 3, .null, [59, 0, 0, 3200, 3202, 29, 1004, 3203], []), (32, .goto 149, 3, .null, [181], []), (35, .iload_n 3, 1, .null, [], []), (36, .ifCond .lt 26, 3, .null, [62], []), (39, .aload_n 0, 1, .null, [], []), (40, .dup, 1, .null, [], []), (41, .getfield 20, 3, .null, [9, 4, 0, 0, 1104], []), (44, .iconst 1, 1, .int 1, [], []), (45, .iadd, 1, .null, [], []), (46, .putfield 20, 3, .null, [9, 4, 0, 0, 1104], []), (49, .aload_n 0, 1, .null, [], []), (50, .sipush 400, 3, .int 400, [], []), (53, .iload_n 3, 1, .null, [], []), (54, .iadd, 1, .null, [], []), (55, .ineg, 1, .null, [], []), (56, .invokevirtual 43, 3, .null, [60, 1, 0, 3204, 3206, 30, 1004, 3207], []), (59, .goto 122, 3, .null, [181], []), (62, .iload_n 1, 1, .null, [], []), (63, .bipush 6, 2, .int 6, [], []), (65, .if_icmp .ge 53, 3, .null, [118], []), (68, .iload_n 2, 1, .null, [], []), (69, .bipush 33, 2, .int 33, [], []), (71, .if_icmp .eq 9, 3, .null, [80], []), (74, .iload_n 2, 1, .null, [], []), (75, .bipush 45, 2, .int 45, [], []), (77, .if_icmp .ne 41, 3, .null, [118], []), (80, .aload_n 0, 1, .null, [], []), (81, .dup, 1, .null, [], []), (82, .getfield 20, 3, .null, [9, 4, 0, 0, 1104], []), (85, .iconst 1, 1, .int 1, [], []), (86, .iadd, 1, .null, [], []), (87, .putfield 20, 3, .null, [9, 4, 0, 0, 1104], []), (90, .aload_n 0, 1, .null, [], []), (91, .iload_n 1, 1, .null, [], []), (92, .iconst 1, 1, .int 1, [], []), (93, .iadd, 1, .null, [], []), (94, .invokevirtual 47, 3, .null, [48, 1, 0, 3102, 3104, 27, 1004, 3105], []), (97, .aload_n 0, 1, .null, [], []), (98, .iload_n 2, 1, .null, [], []), (99, .bipush 33, 2, .int 33, [], []), (101, .if_icmp .ne 8, 3, .null, [109], []), (104, .bipush (-33), 2, .int (-33), [], []), (106, .goto 6, 3, .null, [112], []), (109, .sipush (-300), 3, .int (-300), [], []), (112, .invokevirtual 43, 3, .null, [60, 1, 0, 3204, 3206, 30, 1004, 3207], []), (115, .goto 66, 3, .null, [181], []), (118, .iload_n 1, 1, .null, [], []), (119, .bipush 6, 2, .int 6, [], []), (121, .if_icmp .ge 56, 3, .null, [177], []), (124, .iload_n 2, 1, .null, [], []), (125, .bipush 40, 2, .int 40, [], []), (127, .if_icmp .ne 50, 3, .null, [177], []), (130, .aload_n 0, 1, .null, [], []), (131, .dup, 1, .null, [], []), (132, .getfield 20, 3, .null, [9, 4, 0, 0, 1104], []), (135, .iconst 1, 1, .int 1, [], []), (136, .iadd, 1, .null, [], []), (137, .putfield 20, 3, .null, [9, 4, 0, 0, 1104], []), (140, .aload_n 0, 1, .null, [], []), (141, .iconst 0, 1, .int 0, [], []), (142, .iload_n 1, 1, .null, [], []), (143, .iconst 1, 1, .int 1, [], []), (144, .iadd, 1, .null, [], []), (145, .invokevirtual 39, 3, .null, [47, 2, 0, 3098, 3100, 26, 1004, 3101], []), (148, .aload_n 0, 1, .null, [], []), (149, .invokevirtual 32, 3, .null, [49, 0, 0, 3106, 3108, 28, 1004, 3109], []), (152, .bipush 41, 2, .int 41, [], []), (154, .if_icmp .ne 16, 3, .null, [170], []), (157, .aload_n 0, 1, .null, [], []), (158, .dup, 1, .null, [], []), (159, .getfield 20, 3, .null, [9, 4, 0, 0, 1104], []), (162, .iconst 1, 1, .int 1, [], []), (163, .iadd, 1, .null, [], []), (164, .putfield 20, 3, .null, [9, 4, 0, 0, 1104], []), (167, .goto 14, 3, .null, [181], []), (170, .aload_n 0, 1, .null, [], []), (171, .invokevirtual 36, 3, .null, [61, 0, 0, 3208, 3210, 31, 1004, 3211], []), (174, .goto 7, 3, .null, [181], []), (177, .aload_n 0, 1, .null, [], []), (178, .invokevirtual 36, 3, .null, [61, 0, 0, 3208, 3210, 31, 1004, 3211], []), (181, .return_, 1, .null, [], [])]
def i_c49 : List I_En := [(0, .aload_n 0, 1, .null, [], []), (1, .getfield 23, 3, .null, [9, 5, 0, 0, 1105], []), (4, .ifCond .ge 26, 3, .null, [30], []), (7, .aload_n 0, 1, .null, [], []), (8, .getfield 20, 3, .null, [9, 4, 0, 0, 1104], []), (11, .aload_n 0, 1, .null, [], []), (12, .getfield 16, 3, .null, [9, 1, 0, 0, 1098], []), (15, .if_icmp .ge 15, 3, .null, [30], []), (18, .aload_n 0, 1, .null, [], []), (19, .getfield 9, 3, .null, [9, 0, 1, 0, 1097], []), (22, .aload_n 0, 1, .null, [], []), (23, .getfield 20, 3, .null, [9, 4, 0, 0, 1104], []), (26, .iaload, 1, .null, [], []), (27, .goto 4, 3, .null, [31], []), (30, .iconst (-1), 1, .int (-1), [], []), (31, .ireturn, 1, .null, [1], [])]
def i_c50 : List I_En := [(0, .aload_n 0, 1, .null, [], []), (1, .iload_n 1, 1, .null, [], []), (2, .iconst 0, 1, .int 0, [], []), (3, .invokevirtual 633, 3, .null, [51, 2, 0, 3115, 3116, 3117, 1016, 3118], []), (6, .ireturn, 1, .null, [1], [])]
def i_c51 : List I_En := [(0, .aload_n 0, 1, .null, [], []), (1, .invokevirtual 492, 3, .null, [52, 0, 0, 3119, 3120, 3121, 1016, 3122], []), (4, .ifCond .eq 19, 3, .null, [23], []), (7, .aload_n 0, 1, .null, [], []), (8, .getfield 9, 3, .null, [90, 1, 3, 0, 8048], []), (11, .iload_n 1, 1, .null, [], []), (12, .iload_n 2, 1, .null, [], []), (13, .aload_n 0, 1, .null, [], []), (14, .invokevirtual 505, 3, .null, [53, 0, 0, 3125, 3126, 3127, 1016, 3128], []), (17, .invokestatic 637, 3, .null, [55, 4, 0, 3133, 3134, 0, 1017, 3135], []), (20, .goto 16, 3, .null, [36], []), (23, .aload_n 0, 1, .null, [], []), (24, .getfield 9, 3, .null, [90, 1, 3, 0, 8048], []), (27, .iload_n 1, 1, .null, [], []), (28, .iload_n 2, 1, .null, [], []), (29, .aload_n 0, 1, .null, [], []), (30, .invokevirtual 505, 3, .null, [53, 0, 0, 3125, 3126, 3127, 1016, 3128], []), (33, .invokestatic 640, 3, .null, [], []), (36, .ireturn, 1, .null, [1], [])]
def i_c52 : List I_En := [(0, .getstatic 38, 3, .int 1, [9, 3123], []), (3, .ifCond .eq 14, 3, .null, [17], []), (6, .aload_n 0, 1, .null, [], []), (7, .getfield 15, 3, .null, [90, 0, 3, 0, 8047], []), (10, .ifCond .ne 7, 3, .null, [17], []), (13, .iconst 1, 1, .int 1, [], []), (14, .goto 4, 3, .null, [18], []), (17, .iconst 0, 1, .int 0, [], []), (18, .ireturn, 1, .null, [2], [])]
def i_c53 : List I_En := [(0, .aload_n 0, 1, .null, [], []), (1, .getfield 9, 3, .null, [90, 1, 3, 0, 8048], []), (4, .arraylength, 1, .null, [], []), (5, .aload_n 0, 1, .null, [], []), (6, .invokevirtual 335, 3, .null, [54, 0, 0, 3129, 3130, 3131, 1016, 3132], []), (9, .ishr, 1, .null, [], []), (10, .ireturn, 1, .null, [1], [])]
def i_c54 : List I_En := [(0, .getstatic 38, 3, .int 1, [9, 3123], []), (3, .ifCond .eq 10, 3, .null, [13], []), (6, .aload_n 0, 1, .null, [], []), (7, .getfield 15, 3, .null, [90, 0, 3, 0, 8047], []), (10, .goto 4, 3, .null, [14], []), (13, .iconst 1, 1, .int 1, [], []), (14, .ireturn, 1, .null, [4], [])]
def i_c55 : List I_En := [(0, .iload_n 1, 1, .null, [], []), (1, .invokestatic 88, 3, .null, [56, 1, 0, 3136, 3137, 0, 1017, 3138], []), (4, .ifCond .ne 5, 3, .null, [9], []), (7, .iconst (-1), 1, .int (-1), [], []), (8, .ireturn, 1, .null, [1], []), (9, .iload_n 2, 1, .null, [], []), (10, .iconst 0, 1, .int 0, [], []), (11, .invokestatic 92, 3, .null, [1, 3139, 3140, 1018, 3141, 0], []), (14, .istore_n 2, 1, .null, [], []), (15, .iload_n 3, 1, .null, [], []), (16, .aload_n 0, 1, .null, [], []), (17, .arraylength, 1, .null, [], []), (18, .invokestatic 38, 3, .null, [2, 3142, 3143, 1018, 3144, 0], []), (21, .istore_n 3, 1, .null, [], []), (22, .iload_n 2, 1, .null, [], []), (23, .iload_n 3, 1, .null, [], []), (24, .if_icmp .lt 5, 3, .null, [29], []), (27, .iconst (-1), 1, .int (-1), [], []), (28, .ireturn, 1, .null, [1], []), (29, .aload_n 0, 1, .null, [], []), (30, .iload_n 1, 1, .null, [], []), (31, .iload_n 2, 1, .null, [], []), (32, .iload_n 3, 1, .null, [], []), (33, .invokestatic 95, 3, .null, [57, 4, 0, 3145, 3146, 0, 1017, 3147], []), (36, .ireturn, 1, .null, [1], [])]
def i_c56 : List I_En := [(0, .iload_n 0, 1, .null, [], []), (1, .ifCond .lt 14, 3, .null, [15], []), (4, .iload_n 0, 1, .null, [], []), (5, .sipush 255, 3, .int 255, [], []), (8, .if_icmp .gt 7, 3, .null, [15], []), (11, .iconst 1, 1, .int 1, [], []), (12, .goto 4, 3, .null, [16], []), (15, .iconst 0, 1, .int 0, [], []), (16, .ireturn, 1, .null, [2], [])]
def i_c57 : List I_En := [(0, .iload_n 1, 1, .null, [], []), (1, .i2b, 1, .null, [], []), (2, .istore 4, 2, .null, [], []), (4, .iload_n 2, 1, .null, [], []), (5, .istore 5, 2, .null, [], []), (7, .iload 5, 2, .null, [], []), (9, .iload_n 3, 1, .null, [], []), (10, .if_icmp .ge 21, 3, .null, [31], []), (13, .aload_n 0, 1, .null, [], []), (14, .iload 5, 2, .null, [], []), (16, .baload, 1, .null, [], []), (17, .iload 4, 2, .null, [], []), (19, .if_icmp .ne 6, 3, .null, [25], []), (22, .iload 5, 2, .null, [], []), (24, .ireturn, 1, .null, [1], []), (25, .iinc 5 1, 3, .int 1, [], []), (28, .goto (-21), 3, .null, [7], []), (31, .iconst (-1), 1, .int (-1), [], []), (32, .ireturn, 1, .null, [1], [])]
def i_c58 : List I_En := [(0, .iload_n 0, 1, .null, [], []), (1, .bipush 48, 2, .int 48, [], []), (3, .if_icmp .lt 13, 3, .null, [16], []), (6, .iload_n 0, 1, .null, [], []), (7, .bipush 57, 2, .int 57, [], []), (9, .if_icmp .gt 7, 3, .null, [16], []), (12, .iconst 1, 1, .int 1, [], []), (13, .goto 4, 3, .null, [17], []), (16, .iconst 0, 1, .int 0, [], []), (17, .ireturn, 1, .null, [2], [])]
def i_c59 : List I_En := [(0, .iconst 0, 1, .int 0, [], []), (1, .istore_n 1, 1, .null, [], []), (2, .iconst 0, 1, .int 0, [], []), (3, .istore_n 2, 1, .null, [], []), (4, .iload_n 2, 1, .null, [], []), (5, .iconst 4, 1, .int 4, [], []), (6, .if_icmp .ge 42, 3, .null, [48], []), (9, .aload_n 0, 1, .null, [], []), (10, .invokevirtual 32, 3, .null, [49, 0, 0, 3106, 3108, 28, 1004, 3109], []), (13, .invokestatic 61, 3, .null, [58, 1, 0, 3197, 3198, 0, 1004, 3199], []), (16, .ifCond .eq 32, 3, .null, [48], []), (19, .iload_n 1, 1, .null, [], []), (20, .bipush 10, 2, .int 10, [], []), (22, .imul, 1, .null, [], []), (23, .aload_n 0, 1, .null, [], []), (24, .invokevirtual 32, 3, .null, [49, 0, 0, 3106, 3108, 28, 1004, 3109], []), (27, .iadd, 1, .null, [], []), (28, .bipush 48, 2, .int 48, [], []), (30, .isub, 1, .null, [], []), (31, .istore_n 1, 1, .null, [], []), (32, .aload_n 0, 1, .null, [], []), (33, .dup, 1, .null, [], []), (34, .getfield 20, 3, .null, [9, 4, 0, 0, 1104], []), (37, .iconst 1, 1, .int 1, [], []), (38, .iadd, 1, .null, [], []), (39, .putfield 20, 3, .null, [9, 4, 0, 0, 1104], []), (42, .iinc 2 1, 3, .int 1, [], []), (45, .goto (-41), 3, .null, [4], []), (48, .aload_n 0, 1, .null, [], []), (49, .iload_n 1, 1, .null, [], []), (50, .invokevirtual 43, 3, .null, [60, 1, 0, 3204, 3206, 30, 1004, 3207], []), (53, .return_, 1, .null, [], [])]
def i_c60 : List I_En := [(0, .aload_n 0, 1, .null, [], []), (1, .getfield 26, 3, .null, [9, 3, 0, 0, 1102], []), (4, .sipush 128, 3, .int 128, [], []), (7, .if_icmp .ge 23, 3, .null, [30], []), (10, .aload_n 0, 1, .null, [], []), (11, .getfield 13, 3, .null, [9, 2, 1, 0, 1100], []), (14, .aload_n 0, 1, .null, [], []), (15, .getfield 26, 3, .null, [9, 3, 0, 0, 1102], []), (18, .iload_n 1, 1, .null, [], []), (19, .iastore, 1, .null, [], []), (20, .aload_n 0, 1, .null, [], []), (21, .dup, 1, .null, [], []), (22, .getfield 26, 3, .null, [9, 3, 0, 0, 1102], []), (25, .iconst 1, 1, .int 1, [], []), (26, .iadd, 1, .null, [], []), (27, .putfield 26, 3, .null, [9, 3, 0, 0, 1102], []), (30, .return_, 1, .null, [], [])]
def i_c61 : List I_En := [(0, .aload_n 0, 1, .null, [], []), (1, .getfield 23, 3, .null, [9, 5, 0, 0, 1105], []), (4, .ifCond .ge 11, 3, .null, [15], []), (7, .aload_n 0, 1, .null, [], []), (8, .aload_n 0, 1, .null, [], []), (9, .getfield 20, 3, .null, [9, 4, 0, 0, 1104], []), (12, .putfield 23, 3, .null, [9, 5, 0, 0, 1105], []), (15, .return_, 1, .null, [], [])]
def i_c62 : List I_En := [(0, .iload_n 0, 1, .null, [], []), (1, .lookupswitch 101 #[(37, 99), (38, 93), (42, 99), (43, 97), (45, 97), (47, 99), (60, 95), (61, 95), (62, 95), (124, 91)], 91, .null, [102], [(37, 100), (38, 94), (42, 100), (43, 98), (45, 98), (47, 100), (60, 96), (61, 96), (62, 96), (124, 92)]), (92, .iconst 0, 1, .int 0, [], []), (93, .ireturn, 1, .null, [1], []), (94, .iconst 1, 1, .int 1, [], []), (95, .ireturn, 1, .null, [1], []), (96, .iconst 2, 1, .int 2, [], []), (97, .ireturn, 1, .null, [1], []), (98, .iconst 3, 1, .int 3, [], []), (99, .ireturn, 1, .null, [1], []), (100, .iconst 4, 1, .int 4, [], []), (101, .ireturn, 1, .null, [1], []), (102, .iconst (-1), 1, .int (-1), [], []), (103, .ireturn, 1, .null, [1], [])]
def i_c63 : List I_En := [(0, .aload_n 1, 1, .null, [], []), (1, .iconst 0, 1, .int 0, [], []), (2, .aload_n 0, 1, .null, [], []), (3, .getfield 11, 3, .null, [5, 2, 1, 0, 1127], []), (6, .iconst 0, 1, .int 0, [], []), (7, .iload_n 2, 1, .null, [], []), (8, .invokestatic 27, 3, .null, [998, 3219, 3045, 3044, 1015], []), (11, .aload_n 0, 1, .null, [], []), (12, .iload_n 2, 1, .null, [], []), (13, .putfield 33, 3, .null, [5, 3, 0, 0, 1128], []), (16, .aload_n 0, 1, .null, [], []), (17, .iconst 1, 1, .int 1, [], []), (18, .putfield 37, 3, .null, [5, 1, 2, 0, 1126], []), (21, .return_, 1, .null, [], [])]
def i_c64 : List I_En := [(0, .aload_n 0, 1, .null, [], []), (1, .getfield 37, 3, .null, [11, 3, 1, 0, 2157], []), (4, .iload_n 1, 1, .null, [], []), (5, .invokevirtual 167, 3, .null, [30, 1, 1, 3025, 3027, 12, 1006, 3028], []), (8, .ifCond .eq 25, 3, .null, [33], []), (11, .aload_n 0, 1, .null, [], []), (12, .getfield 10, 3, .null, [11, 0, 1, 0, 2154], []), (15, .iload_n 2, 1, .null, [], []), (16, .invokevirtual 244, 3, .null, [65, 1, 1, 3225, 3227, 33, 1002, 3228], []), (19, .ifCond .eq 14, 3, .null, [33], []), (22, .aload_n 0, 1, .null, [], []), (23, .getfield 10, 3, .null, [11, 0, 1, 0, 2154], []), (26, .iload_n 3, 1, .null, [], []), (27, .invokevirtual 164, 3, .null, [20, 1, 1, 3024, 2226, 4, 1002, 2227], []), (30, .ifCond .ne 5, 3, .null, [35], []), (33, .iconst (-1), 1, .int (-1), [], []), (34, .ireturn, 1, .null, [1], []), (35, .aload_n 0, 1, .null, [], []), (36, .getfield 37, 3, .null, [11, 3, 1, 0, 2157], []), (39, .iload_n 1, 1, .null, [], []), (40, .iload_n 2, 1, .null, [], []), (41, .iload_n 3, 1, .null, [], []), (42, .invokevirtual 247, 3, .null, [66, 3, 1, 3230, 3232, 34, 1006, 3233], []), (45, .ireturn, 1, .null, [1], [])]
def i_c65 : List I_En := [(0, .iload_n 1, 1, .null, [], []), (1, .ifCond .lt 27, 3, .null, [28], []), (4, .iload_n 1, 1, .null, [], []), (5, .bipush 100, 2, .int 100, [], []), (7, .idiv, 1, .null, [], []), (8, .bipush 10, 2, .int 10, [], []), (10, .if_icmp .ge 18, 3, .null, [28], []), (13, .aload_n 0, 1, .null, [], []), (14, .iload_n 1, 1, .null, [], []), (15, .bipush 100, 2, .int 100, [], []), (17, .irem, 1, .null, [], []), (18, .invokevirtual 51, 3, .null, [20, 1, 0, 3229, 2226, 4, 1002, 2227], []), (21, .ifCond .eq 7, 3, .null, [28], []), (24, .iconst 1, 1, .int 1, [], []), (25, .goto 4, 3, .null, [29], []), (28, .iconst 0, 1, .int 0, [], []), (29, .ireturn, 1, .null, [2], [])]
def i_c66 : List I_En := [(0, .aload_n 0, 1, .null, [], []), (1, .getfield 24, 3, .null, [1, 0, 1, 0, 1153], []), (4, .iload_n 2, 1, .null, [], []), (5, .bipush 100, 2, .int 100, [], []), (7, .irem, 1, .null, [], []), (8, .aload_n 0, 1, .null, [], []), (9, .getfield 9, 3, .null, [1, 2, 1, 0, 1155], []), (12, .iload_n 1, 1, .null, [], []), (13, .iaload, 1, .null, [], []), (14, .invokevirtual 49, 3, .null, [67, 2, 1, 3234, 3236, 35, 1002, 3237], []), (17, .istore 4, 2, .null, [], []), (19, .iload_n 2, 1, .null, [], []), (20, .bipush 100, 2, .int 100, [], []), (22, .idiv, 1, .null, [], []), (23, .aload_n 0, 1, .null, [], []), (24, .getfield 15, 3, .null, [1, 3, 1, 0, 1158], []), (27, .iload_n 1, 1, .null, [], []), (28, .iaload, 1, .null, [], []), (29, .isub, 1, .null, [], []), (30, .invokestatic 53, 3, .null, [3, 4001, 3239, 1018, 4000, 0], []), (33, .istore 5, 2, .null, [], []), (35, .aload_n 0, 1, .null, [], []), (36, .getfield 28, 3, .null, [1, 1, 1, 0, 1154], []), (39, .iload 4, 2, .null, [], []), (41, .iload 5, 2, .null, [], []), (43, .aload_n 0, 1, .null, [], []), (44, .getfield 18, 3, .null, [1, 4, 1, 0, 1161], []), (47, .iload_n 1, 1, .null, [], []), (48, .iaload, 1, .null, [], []), (49, .aload_n 0, 1, .null, [], []), (50, .getfield 9, 3, .null, [1, 2, 1, 0, 1155], []), (53, .iload_n 1, 1, .null, [], []), (54, .iaload, 1, .null, [], []), (55, .iload_n 3, 1, .null, [], []), (56, .invokevirtual 58, 3, .null, [68, 5, 1, 4002, 4004, 36, 1005, 4005], []), (59, .istore 6, 2, .null, [], []), (61, .aload_n 0, 1, .null, [], []), (62, .getfield 21, 3, .null, [1, 5, 1, 0, 1163], []), (65, .iload_n 1, 1, .null, [], []), (66, .iaload, 1, .null, [], []), (67, .ifCond .ne 8, 3, .null, [75], []), (70, .iload 6, 2, .null, [], []), (72, .goto 7, 3, .null, [79], []), (75, .iload 6, 2, .null, [], []), (77, .iconst 2, 1, .int 2, [], []), (78, .idiv, 1, .null, [], []), (79, .ireturn, 1, .null, [1], [])]
def i_c67 : List I_En := [(0, .aload_n 0, 1, .null, [], []), (1, .getfield 9, 3, .null, [4, 2, 1, 0, 1048], []), (4, .iload_n 1, 1, .null, [], []), (5, .iaload, 1, .null, [], []), (6, .aload_n 0, 1, .null, [], []), (7, .getfield 9, 3, .null, [4, 2, 1, 0, 1048], []), (10, .iload_n 2, 1, .null, [], []), (11, .iaload, 1, .null, [], []), (12, .isub, 1, .null, [], []), (13, .invokestatic 55, 3, .null, [3, 3238, 3239, 1018, 4000, 0], []), (16, .aload_n 0, 1, .null, [], []), (17, .getfield 15, 3, .null, [4, 3, 1, 0, 1049], []), (20, .iload_n 1, 1, .null, [], []), (21, .iaload, 1, .null, [], []), (22, .aload_n 0, 1, .null, [], []), (23, .getfield 15, 3, .null, [4, 3, 1, 0, 1049], []), (26, .iload_n 2, 1, .null, [], []), (27, .iaload, 1, .null, [], []), (28, .isub, 1, .null, [], []), (29, .invokestatic 55, 3, .null, [3, 3238, 3239, 1018, 4000, 0], []), (32, .iadd, 1, .null, [], []), (33, .ireturn, 1, .null, [1], [])]
def i_c68 : List I_En := [(0, .aload_n 0, 1, .null, [], []), (1, .getfield 23, 3, .null, [5, 0, 1, 0, 1125], []), (4, .iload 4, 2, .null, [], []), (6, .iload 5, 2, .null, [], []), (8, .invokevirtual 41, 3, .null, [67, 2, 1, 4006, 3236, 35, 1002, 3237], []), (11, .istore 6, 2, .null, [], []), (13, .aload_n 0, 1, .null, [], []), (14, .getfield 23, 3, .null, [5, 0, 1, 0, 1125], []), (17, .getfield 47, 3, .null, [4, 4, 1, 1, 1051], []), (20, .iload 4, 2, .null, [], []), (22, .iaload, 1, .null, [], []), (23, .istore 7, 2, .null, [], []), (25, .aload_n 0, 1, .null, [], []), (26, .getfield 37, 3, .null, [5, 1, 2, 0, 1126], []), (29, .ifCond .eq 17, 3, .null, [46], []), (32, .aload_n 0, 1, .null, [], []), (33, .iload_n 1, 1, .null, [], []), (34, .iload 6, 2, .null, [], []), (36, .iload_n 2, 1, .null, [], []), (37, .iload_n 3, 1, .null, [], []), (38, .iload 7, 2, .null, [], []), (40, .invokevirtual 50, 3, .null, [69, 5, 0, 4007, 4009, 37, 1005, 4010], []), (43, .goto 42, 3, .null, [85], []), (46, .bipush 40, 2, .int 40, [], []), (48, .iconst 5, 1, .int 5, [], []), (49, .aload_n 0, 1, .null, [], []), (50, .getfield 23, 3, .null, [5, 0, 1, 0, 1125], []), (53, .getfield 54, 3, .null, [4, 7, 0, 1, 1061], []), (56, .imul, 1, .null, [], []), (57, .iadd, 1, .null, [], []), (58, .iconst 2, 1, .int 2, [], []), (59, .iload_n 1, 1, .null, [], []), (60, .imul, 1, .null, [], []), (61, .isub, 1, .null, [], []), (62, .iconst 3, 1, .int 3, [], []), (63, .iload 6, 2, .null, [], []), (65, .imul, 1, .null, [], []), (66, .isub, 1, .null, [], []), (67, .bipush 6, 2, .int 6, [], []), (69, .iload_n 2, 1, .null, [], []), (70, .imul, 1, .null, [], []), (71, .isub, 1, .null, [], []), (72, .iload_n 3, 1, .null, [], []), (73, .isub, 1, .null, [], []), (74, .iload 7, 2, .null, [], []), (76, .isub, 1, .null, [], []), (77, .aload_n 0, 1, .null, [], []), (78, .getfield 23, 3, .null, [5, 0, 1, 0, 1125], []), (81, .getfield 57, 3, .null, [4, 6, 0, 1, 1057], []), (84, .isub, 1, .null, [], []), (85, .istore 8, 2, .null, [], []), (87, .iconst 0, 1, .int 0, [], []), (88, .bipush 99, 2, .int 99, [], []), (90, .iload 8, 2, .null, [], []), (92, .invokestatic 60, 3, .null, [2, 4026, 3143, 1018, 3144, 0], []), (95, .invokestatic 65, 3, .null, [1, 4027, 3140, 1018, 3141, 0], []), (98, .ireturn, 1, .null, [1], [])]
def i_c69 : List I_En := [(0, .aload_n 0, 1, .null, [], []), (1, .getfield 17, 3, .null, [5, 4, 1, 0, 1129], []), (4, .iconst 0, 1, .int 0, [], []), (5, .iload_n 1, 1, .null, [], []), (6, .iastore, 1, .null, [], []), (7, .aload_n 0, 1, .null, [], []), (8, .getfield 17, 3, .null, [5, 4, 1, 0, 1129], []), (11, .iconst 1, 1, .int 1, [], []), (12, .iload_n 2, 1, .null, [], []), (13, .iastore, 1, .null, [], []), (14, .aload_n 0, 1, .null, [], []), (15, .getfield 17, 3, .null, [5, 4, 1, 0, 1129], []), (18, .iconst 2, 1, .int 2, [], []), (19, .iload_n 3, 1, .null, [], []), (20, .iastore, 1, .null, [], []), (21, .aload_n 0, 1, .null, [], []), (22, .getfield 17, 3, .null, [5, 4, 1, 0, 1129], []), (25, .iconst 3, 1, .int 3, [], []), (26, .iload 4, 2, .null, [], []), (28, .iastore, 1, .null, [], []), (29, .aload_n 0, 1, .null, [], []), (30, .getfield 17, 3, .null, [5, 4, 1, 0, 1129], []), (33, .iconst 4, 1, .int 4, [], []), (34, .iload 5, 2, .null, [], []), (36, .iastore, 1, .null, [], []), (37, .aload_n 0, 1, .null, [], []), (38, .getfield 17, 3, .null, [5, 4, 1, 0, 1129], []), (41, .iconst 5, 1, .int 5, [], []), (42, .aload_n 0, 1, .null, [], []), (43, .getfield 23, 3, .null, [5, 0, 1, 0, 1125], []), (46, .getfield 57, 3, .null, [4, 6, 0, 1, 1057], []), (49, .iastore, 1, .null, [], []), (50, .aload_n 0, 1, .null, [], []), (51, .getfield 17, 3, .null, [5, 4, 1, 0, 1129], []), (54, .bipush 6, 2, .int 6, [], []), (56, .aload_n 0, 1, .null, [], []), (57, .getfield 23, 3, .null, [5, 0, 1, 0, 1125], []), (60, .getfield 54, 3, .null, [4, 7, 0, 1, 1061], []), (63, .iastore, 1, .null, [], []), (64, .aload_n 0, 1, .null, [], []), (65, .iconst 0, 1, .int 0, [], []), (66, .putfield 71, 3, .null, [5, 6, 0, 0, 1131], []), (69, .iconst 0, 1, .int 0, [], []), (70, .istore 6, 2, .null, [], []), (72, .iconst 0, 1, .int 0, [], []), (73, .istore 7, 2, .null, [], []), (75, .iload 7, 2, .null, [], []), (77, .aload_n 0, 1, .null, [], []), (78, .getfield 33, 3, .null, [5, 3, 0, 0, 1128], []), (81, .if_icmp .ge 83, 3, .null, [164], []), (84, .aload_n 0, 1, .null, [], []), (85, .getfield 11, 3, .null, [5, 2, 1, 0, 1127], []), (88, .iload 7, 2, .null, [], []), (90, .iaload, 1, .null, [], []), (91, .ineg, 1, .null, [], []), (92, .istore 8, 2, .null, [], []), (94, .iload 6, 2, .null, [], []), (96, .ifCond .eq 20, 3, .null, [116], []), (99, .iload 8, 2, .null, [], []), (101, .bipush 59, 2, .int 59, [], []), (103, .if_icmp .eq 7, 3, .null, [110], []), (106, .iconst 1, 1, .int 1, [], []), (107, .goto 4, 3, .null, [111], []), (110, .iconst 0, 1, .int 0, [], []), (111, .istore 6, 2, .null, [], []), (113, .goto 45, 3, .null, [158], []), (116, .iload 8, 2, .null, [], []), (118, .bipush 59, 2, .int 59, [], []), (120, .if_icmp .ne 8, 3, .null, [128], []), (123, .aload_n 0, 1, .null, [], []), (124, .invokevirtual 74, 3, .null, [70, 0, 0, 4011, 4013, 38, 1005, 4014], []), (127, .ireturn, 1, .null, [1], []), (128, .iload 8, 2, .null, [], []), (130, .bipush 63, 2, .int 63, [], []), (132, .if_icmp .ne 20, 3, .null, [152], []), (135, .aload_n 0, 1, .null, [], []), (136, .invokevirtual 74, 3, .null, [70, 0, 0, 4011, 4013, 38, 1005, 4014], []), (139, .ifCond .ne 7, 3, .null, [146], []), (142, .iconst 1, 1, .int 1, [], []), (143, .goto 4, 3, .null, [147], []), (146, .iconst 0, 1, .int 0, [], []), (147, .istore 6, 2, .null, [], []), (149, .goto 9, 3, .null, [158], []), (152, .aload_n 0, 1, .null, [], []), (153, .iload 8, 2, .null, [], []), (155, .invokevirtual 78, 3, .null, [71, 1, 0, 4015, 4017, 39, 1005, 4018], []), (158, .iinc 7 1, 3, .int 1, [], []), (161, .goto (-86), 3, .null, [75], []), (164, .iconst 0, 1, .int 0, [], []), (165, .ireturn, 1, .null, [1], [])]
def i_c70 : List I_En := [(0, .aload_n 0, 1, .null, [], []), (1, .getfield 71, 3, .null, [5, 6, 0, 0, 1131], []), (4, .ifCond .gt 5, 3, .null, [9], []), (7, .iconst 0, 1, .int 0, [], []), (8, .ireturn, 1, .null, [1], []), (9, .aload_n 0, 1, .null, [], []), (10, .dup, 1, .null, [], []), (11, .getfield 71, 3, .null, [5, 6, 0, 0, 1131], []), (14, .iconst 1, 1, .int 1, [], []), (15, .isub, 1, .null, [], []), (16, .putfield 71, 3, .null, [5, 6, 0, 0, 1131], []), (19, .aload_n 0, 1, .null, [], []), (20, .getfield 20, 3, .null, [5, 5, 1, 0, 1130], []), (23, .aload_n 0, 1, .null, [], []), (24, .getfield 71, 3, .null, [5, 6, 0, 0, 1131], []), (27, .iaload, 1, .null, [], []), (28, .ireturn, 1, .null, [1], [])]
def i_c71 : List I_En := [(0, .iload_n 1, 1, .null, [], []), (1, .ifCond .gt 12, 3, .null, [13], []), (4, .aload_n 0, 1, .null, [], []), (5, .iload_n 1, 1, .null, [], []), (6, .ineg, 1, .null, [], []), (7, .invokevirtual 82, 3, .null, [72, 1, 0, 4019, 4021, 40, 1005, 4022], []), (10, .goto 106, 3, .null, [116], []), (13, .iload_n 1, 1, .null, [], []), (14, .sipush 400, 3, .int 400, [], []), (17, .if_icmp .lt 35, 3, .null, [52], []), (20, .iload_n 1, 1, .null, [], []), (21, .sipush 400, 3, .int 400, [], []), (24, .isub, 1, .null, [], []), (25, .istore_n 2, 1, .null, [], []), (26, .aload_n 0, 1, .null, [], []), (27, .iload_n 2, 1, .null, [], []), (28, .aload_n 0, 1, .null, [], []), (29, .getfield 17, 3, .null, [5, 4, 1, 0, 1129], []), (32, .arraylength, 1, .null, [], []), (33, .if_icmp .ge 12, 3, .null, [45], []), (36, .aload_n 0, 1, .null, [], []), (37, .getfield 17, 3, .null, [5, 4, 1, 0, 1129], []), (40, .iload_n 2, 1, .null, [], []), (41, .iaload, 1, .null, [], []), (42, .goto 4, 3, .null, [46], []), (45, .iconst 0, 1, .int 0, [], []), (46, .invokevirtual 82, 3, .null, [72, 1, 0, 4019, 4021, 40, 1005, 4022], []), (49, .goto 67, 3, .null, [116], []), (52, .iload_n 1, 1, .null, [], []), (53, .sipush 300, 3, .int 300, [], []), (56, .if_icmp .ne 15, 3, .null, [71], []), (59, .aload_n 0, 1, .null, [], []), (60, .aload_n 0, 1, .null, [], []), (61, .invokevirtual 74, 3, .null, [70, 0, 0, 4011, 4013, 38, 1005, 4014], []), (64, .ineg, 1, .null, [], []), (65, .invokevirtual 82, 3, .null, [72, 1, 0, 4019, 4021, 40, 1005, 4022], []), (68, .goto 48, 3, .null, [116], []), (71, .iload_n 1, 1, .null, [], []), (72, .bipush 33, 2, .int 33, [], []), (74, .if_icmp .ne 22, 3, .null, [96], []), (77, .aload_n 0, 1, .null, [], []), (78, .aload_n 0, 1, .null, [], []), (79, .invokevirtual 74, 3, .null, [70, 0, 0, 4011, 4013, 38, 1005, 4014], []), (82, .ifCond .ne 7, 3, .null, [89], []), (85, .iconst 1, 1, .int 1, [], []), (86, .goto 4, 3, .null, [90], []), (89, .iconst 0, 1, .int 0, [], []), (90, .invokevirtual 82, 3, .null, [72, 1, 0, 4019, 4021, 40, 1005, 4022], []), (93, .goto 23, 3, .null, [116], []), (96, .aload_n 0, 1, .null, [], []), (97, .invokevirtual 74, 3, .null, [70, 0, 0, 4011, 4013, 38, 1005, 4014], []), (100, .istore_n 2, 1, .null, [], []), (101, .aload_n 0, 1, .null, [], []), (102, .invokevirtual 74, 3, .null, [70, 0, 0, 4011, 4013, 38, 1005, 4014], []), (105, .istore_n 3, 1, .null, [], []), (106, .aload_n 0, 1, .null, [], []), (107, .iload_n 3, 1, .null, [], []), (108, .iload_n 1, 1, .null, [], []), (109, .iload_n 2, 1, .null, [], []), (110, .invokestatic 85, 3, .null, [73, 3, 0, 4023, 4024, 0, 1005, 4025], []), (113, .invokevirtual 82, 3, .null, [72, 1, 0, 4019, 4021, 40, 1005, 4022], []), (116, .return_, 1, .null, [], [])]
def i_c72 : List I_En := [(0, .aload_n 0, 1, .null, [], []), (1, .getfield 71, 3, .null, [5, 6, 0, 0, 1131], []), (4, .aload_n 0, 1, .null, [], []), (5, .getfield 20, 3, .null, [5, 5, 1, 0, 1130], []), (8, .arraylength, 1, .null, [], []), (9, .if_icmp .ge 23, 3, .null, [32], []), (12, .aload_n 0, 1, .null, [], []), (13, .getfield 20, 3, .null, [5, 5, 1, 0, 1130], []), (16, .aload_n 0, 1, .null, [], []), (17, .getfield 71, 3, .null, [5, 6, 0, 0, 1131], []), (20, .iload_n 1, 1, .null, [], []), (21, .iastore, 1, .null, [], []), (22, .aload_n 0, 1, .null, [], []), (23, .dup, 1, .null, [], []), (24, .getfield 71, 3, .null, [5, 6, 0, 0, 1131], []), (27, .iconst 1, 1, .int 1, [], []), (28, .iadd, 1, .null, [], []), (29, .putfield 71, 3, .null, [5, 6, 0, 0, 1131], []), (32, .return_, 1, .null, [], [])]
def i_c73 : List I_En := [(0, .iload_n 1, 1, .null, [], []), (1, .lookupswitch 188 #[(37, 176), (38, 105), (42, 160), (43, 152), (45, 156), (47, 164), (60, 119), (61, 130), (62, 141), (124, 91)], 91, .null, [189], [(37, 177), (38, 106), (42, 161), (43, 153), (45, 157), (47, 165), (60, 120), (61, 131), (62, 142), (124, 92)]), (92, .iload_n 0, 1, .null, [], []), (93, .ifCond .ne 7, 3, .null, [100], []), (96, .iload_n 2, 1, .null, [], []), (97, .ifCond .eq 7, 3, .null, [104], []), (100, .iconst 1, 1, .int 1, [], []), (101, .goto 4, 3, .null, [105], []), (104, .iconst 0, 1, .int 0, [], []), (105, .ireturn, 1, .null, [1], []), (106, .iload_n 0, 1, .null, [], []), (107, .ifCond .eq 11, 3, .null, [118], []), (110, .iload_n 2, 1, .null, [], []), (111, .ifCond .eq 7, 3, .null, [118], []), (114, .iconst 1, 1, .int 1, [], []), (115, .goto 4, 3, .null, [119], []), (118, .iconst 0, 1, .int 0, [], []), (119, .ireturn, 1, .null, [1], []), (120, .iload_n 0, 1, .null, [], []), (121, .iload_n 2, 1, .null, [], []), (122, .if_icmp .ge 7, 3, .null, [129], []), (125, .iconst 1, 1, .int 1, [], []), (126, .goto 4, 3, .null, [130], []), (129, .iconst 0, 1, .int 0, [], []), (130, .ireturn, 1, .null, [1], []), (131, .iload_n 0, 1, .null, [], []), (132, .iload_n 2, 1, .null, [], []), (133, .if_icmp .ne 7, 3, .null, [140], []), (136, .iconst 1, 1, .int 1, [], []), (137, .goto 4, 3, .null, [141], []), (140, .iconst 0, 1, .int 0, [], []), (141, .ireturn, 1, .null, [1], []), (142, .iload_n 0, 1, .null, [], []), (143, .iload_n 2, 1, .null, [], []), (144, .if_icmp .le 7, 3, .null, [151], []), (147, .iconst 1, 1, .int 1, [], []), (148, .goto 4, 3, .null, [152], []), (151, .iconst 0, 1, .int 0, [], []), (152, .ireturn, 1, .null, [1], []), (153, .iload_n 0, 1, .null, [], []), (154, .iload_n 2, 1, .null, [], []), (155, .iadd, 1, .null, [], []), (156, .ireturn, 1, .null, [1], []), (157, .iload_n 0, 1, .null, [], []), (158, .iload_n 2, 1, .null, [], []), (159, .isub, 1, .null, [], []), (160, .ireturn, 1, .null, [1], []), (161, .iload_n 0, 1, .null, [], []), (162, .iload_n 2, 1, .null, [], []), (163, .imul, 1, .null, [], []), (164, .ireturn, 1, .null, [1], []), (165, .iload_n 2, 1, .null, [], []), (166, .ifCond .ne 7, 3, .null, [173], []), (169, .iconst 0, 1, .int 0, [], []), (170, .goto 6, 3, .null, [176], []), (173, .iload_n 0, 1, .null, [], []), (174, .iload_n 2, 1, .null, [], []), (175, .idiv, 1, .null, [], []), (176, .ireturn, 1, .null, [1], []), (177, .iload_n 2, 1, .null, [], []), (178, .ifCond .ne 7, 3, .null, [185], []), (181, .iconst 0, 1, .int 0, [], []), (182, .goto 6, 3, .null, [188], []), (185, .iload_n 0, 1, .null, [], []), (186, .iload_n 2, 1, .null, [], []), (187, .irem, 1, .null, [], []), (188, .ireturn, 1, .null, [1], []), (189, .iconst 0, 1, .int 0, [], []), (190, .ireturn, 1, .null, [1], [])]
def i_c74 : List I_En := [(0, .aload_n 0, 1, .null, [], []), (1, .getfield 10, 3, .null, [11, 0, 1, 0, 2154], []), (4, .iload_n 1, 1, .null, [], []), (5, .invokevirtual 244, 3, .null, [65, 1, 1, 3225, 3227, 33, 1002, 3228], []), (8, .ifCond .eq 14, 3, .null, [22], []), (11, .aload_n 0, 1, .null, [], []), (12, .getfield 10, 3, .null, [11, 0, 1, 0, 2154], []), (15, .iload_n 2, 1, .null, [], []), (16, .invokevirtual 164, 3, .null, [20, 1, 1, 3024, 2226, 4, 1002, 2227], []), (19, .ifCond .ne 5, 3, .null, [24], []), (22, .iconst (-1), 1, .int (-1), [], []), (23, .ireturn, 1, .null, [1], []), (24, .aload_n 0, 1, .null, [], []), (25, .getfield 37, 3, .null, [11, 3, 1, 0, 2157], []), (28, .iload_n 1, 1, .null, [], []), (29, .iload_n 2, 1, .null, [], []), (30, .invokevirtual 251, 3, .null, [75, 2, 1, 4032, 4034, 41, 1006, 4035], []), (33, .ireturn, 1, .null, [1], [])]
def i_c75 : List I_En := [(0, .iconst 0, 1, .int 0, [], []), (1, .istore_n 3, 1, .null, [], []), (2, .iconst 0, 1, .int 0, [], []), (3, .istore 4, 2, .null, [], []), (5, .iload 4, 2, .null, [], []), (7, .aload_n 0, 1, .null, [], []), (8, .getfield 32, 3, .null, [1, 6, 0, 0, 1165], []), (11, .if_icmp .ge 29, 3, .null, [40], []), (14, .aload_n 0, 1, .null, [], []), (15, .iload 4, 2, .null, [], []), (17, .invokevirtual 64, 3, .null, [38, 1, 0, 4036, 3064, 19, 1006, 3065], []), (20, .ifCond .ne 14, 3, .null, [34], []), (23, .iload_n 3, 1, .null, [], []), (24, .aload_n 0, 1, .null, [], []), (25, .iload 4, 2, .null, [], []), (27, .iload_n 1, 1, .null, [], []), (28, .iload_n 2, 1, .null, [], []), (29, .invokevirtual 67, 3, .null, [66, 3, 0, 4037, 3232, 34, 1006, 3233], []), (32, .iadd, 1, .null, [], []), (33, .istore_n 3, 1, .null, [], []), (34, .iinc 4 1, 3, .int 1, [], []), (37, .goto (-32), 3, .null, [5], []), (40, .aload_n 0, 1, .null, [], []), (41, .getfield 28, 3, .null, [1, 1, 1, 0, 1154], []), (44, .iload_n 3, 1, .null, [], []), (45, .invokevirtual 71, 3, .null, [76, 1, 1, 4038, 4040, 42, 1005, 4041], []), (48, .ireturn, 1, .null, [1], [])]
def i_c76 : List I_En := [(0, .iload_n 1, 1, .null, [], []), (1, .bipush 99, 2, .int 99, [], []), (3, .invokestatic 60, 3, .null, [2, 4026, 3143, 1018, 3144, 0], []), (6, .istore_n 2, 1, .null, [], []), (7, .iload_n 2, 1, .null, [], []), (8, .aload_n 0, 1, .null, [], []), (9, .getfield 23, 3, .null, [5, 0, 1, 0, 1125], []), (12, .getfield 68, 3, .null, [4, 8, 0, 1, 1064], []), (15, .if_icmp .lt 7, 3, .null, [22], []), (18, .iload_n 2, 1, .null, [], []), (19, .goto 4, 3, .null, [23], []), (22, .iconst 0, 1, .int 0, [], []), (23, .ireturn, 1, .null, [1], [])]
def i_c77 : List I_En := [(0, .aload_n 0, 1, .null, [], []), (1, .getfield 10, 3, .null, [11, 0, 1, 0, 2154], []), (4, .iload_n 1, 1, .null, [], []), (5, .invokevirtual 244, 3, .null, [65, 1, 1, 3225, 3227, 33, 1002, 3228], []), (8, .ifCond .eq 24, 3, .null, [32], []), (11, .aload_n 0, 1, .null, [], []), (12, .getfield 10, 3, .null, [11, 0, 1, 0, 2154], []), (15, .iload_n 2, 1, .null, [], []), (16, .invokevirtual 164, 3, .null, [20, 1, 1, 3024, 2226, 4, 1002, 2227], []), (19, .ifCond .eq 13, 3, .null, [32], []), (22, .iload_n 3, 1, .null, [], []), (23, .ifCond .lt 9, 3, .null, [32], []), (26, .iload_n 3, 1, .null, [], []), (27, .bipush 99, 2, .int 99, [], []), (29, .if_icmp .le 5, 3, .null, [34], []), (32, .iconst (-1), 1, .int (-1), [], []), (33, .ireturn, 1, .null, [1], []), (34, .aload_n 0, 1, .null, [], []), (35, .getfield 44, 3, .null, [11, 4, 1, 0, 2158], []), (38, .iload_n 1, 1, .null, [], []), (39, .iload_n 2, 1, .null, [], []), (40, .iload_n 3, 1, .null, [], []), (41, .invokevirtual 254, 3, .null, [78, 3, 1, 4046, 4048, 43, 1007, 4049], []), (44, .ifCond .eq 15, 3, .null, [59], []), (47, .aload_n 0, 1, .null, [], []), (48, .getfield 44, 3, .null, [11, 4, 1, 0, 2158], []), (51, .getfield 256, 3, .null, [3, 3, 0, 1, 1208], []), (54, .iconst 1, 1, .int 1, [], []), (55, .isub, 1, .null, [], []), (56, .goto 5, 3, .null, [61], []), (59, .bipush (-3), 2, .int (-3), [], []), (61, .ireturn, 1, .null, [1], [])]
def i_c78 : List I_En := [(0, .aload_n 0, 1, .null, [], []), (1, .getfield 21, 3, .null, [3, 3, 0, 0, 1206], []), (4, .bipush 10, 2, .int 10, [], []), (6, .if_icmp .lt 5, 3, .null, [11], []), (9, .iconst 0, 1, .int 0, [], []), (10, .ireturn, 1, .null, [2], []), (11, .aload_n 0, 1, .null, [], []), (12, .getfield 9, 3, .null, [3, 0, 1, 0, 1197], []), (15, .aload_n 0, 1, .null, [], []), (16, .getfield 21, 3, .null, [3, 3, 0, 0, 1206], []), (19, .iload_n 1, 1, .null, [], []), (20, .iastore, 1, .null, [], []), (21, .aload_n 0, 1, .null, [], []), (22, .getfield 15, 3, .null, [3, 1, 1, 0, 1200], []), (25, .aload_n 0, 1, .null, [], []), (26, .getfield 21, 3, .null, [3, 3, 0, 0, 1206], []), (29, .iload_n 2, 1, .null, [], []), (30, .iastore, 1, .null, [], []), (31, .aload_n 0, 1, .null, [], []), (32, .getfield 18, 3, .null, [3, 2, 1, 0, 1203], []), (35, .aload_n 0, 1, .null, [], []), (36, .getfield 21, 3, .null, [3, 3, 0, 0, 1206], []), (39, .iload_n 3, 1, .null, [], []), (40, .iastore, 1, .null, [], []), (41, .aload_n 0, 1, .null, [], []), (42, .dup, 1, .null, [], []), (43, .getfield 21, 3, .null, [3, 3, 0, 0, 1206], []), (46, .iconst 1, 1, .int 1, [], []), (47, .iadd, 1, .null, [], []), (48, .putfield 21, 3, .null, [3, 3, 0, 0, 1206], []), (51, .iconst 1, 1, .int 1, [], []), (52, .ireturn, 1, .null, [2], [])]
def i_c79 : List I_En := [(0, .aload_n 0, 1, .null, [], []), (1, .getfield 44, 3, .null, [11, 4, 1, 0, 2158], []), (4, .getfield 256, 3, .null, [3, 3, 0, 1, 1208], []), (7, .ifCond .ne 6, 3, .null, [13], []), (10, .bipush (-5), 2, .int (-5), [], []), (12, .ireturn, 1, .null, [1], []), (13, .aload_n 0, 1, .null, [], []), (14, .getfield 44, 3, .null, [11, 4, 1, 0, 2158], []), (17, .dup, 1, .null, [], []), (18, .getfield 256, 3, .null, [3, 3, 0, 1, 1208], []), (21, .iconst 1, 1, .int 1, [], []), (22, .isub, 1, .null, [], []), (23, .putfield 256, 3, .null, [3, 3, 0, 1, 1208], []), (26, .aload_n 0, 1, .null, [], []), (27, .getfield 44, 3, .null, [11, 4, 1, 0, 2158], []), (30, .getfield 256, 3, .null, [3, 3, 0, 1, 1208], []), (33, .ireturn, 1, .null, [1], [])]
def i_c80 : List I_En := [(0, .iload_n 1, 1, .null, [], []), (1, .invokestatic 257, 3, .null, [81, 1, 0, 4058, 4059, 0, 1001, 4060], []), (4, .ifCond .eq 13, 3, .null, [17], []), (7, .iload_n 2, 1, .null, [], []), (8, .iconst (-1), 1, .int (-1), [], []), (9, .if_icmp .lt 8, 3, .null, [17], []), (12, .iload_n 2, 1, .null, [], []), (13, .iload_n 1, 1, .null, [], []), (14, .if_icmp .lt 5, 3, .null, [19], []), (17, .iconst (-1), 1, .int (-1), [], []), (18, .ireturn, 1, .null, [1], []), (19, .aload_n 0, 1, .null, [], []), (20, .getfield 53, 3, .null, [11, 5, 1, 0, 2159], []), (23, .iload_n 1, 1, .null, [], []), (24, .iconst (-1), 1, .int (-1), [], []), (25, .invokevirtual 260, 3, .null, [82, 2, 1, 4061, 4063, 44, 1008, 4064], []), (28, .iload_n 2, 1, .null, [], []), (29, .iconst (-1), 1, .int (-1), [], []), (30, .if_icmp .ne 11, 3, .null, [41], []), (33, .aload_n 0, 1, .null, [], []), (34, .getfield 53, 3, .null, [11, 5, 1, 0, 2159], []), (37, .getfield 263, 3, .null, [7, 5, 0, 1, 1231], []), (40, .ireturn, 1, .null, [1], []), (41, .aload_n 0, 1, .null, [], []), (42, .getfield 53, 3, .null, [11, 5, 1, 0, 2159], []), (45, .getfield 263, 3, .null, [7, 5, 0, 1, 1231], []), (48, .ifCond .ne 6, 3, .null, [54], []), (51, .bipush (-2), 2, .int (-2), [], []), (53, .ireturn, 1, .null, [1], []), (54, .iload_n 2, 1, .null, [], []), (55, .ifCond .ne 13, 3, .null, [68], []), (58, .aload_n 0, 1, .null, [], []), (59, .getfield 53, 3, .null, [11, 5, 1, 0, 2159], []), (62, .getfield 266, 3, .null, [7, 6, 0, 1, 1233], []), (65, .goto 10, 3, .null, [75], []), (68, .aload_n 0, 1, .null, [], []), (69, .getfield 53, 3, .null, [11, 5, 1, 0, 2159], []), (72, .getfield 269, 3, .null, [7, 7, 0, 1, 1235], []), (75, .ireturn, 1, .null, [1], [])]
def i_c81 : List I_En := [(0, .iload_n 0, 1, .null, [], []), (1, .iconst 1, 1, .int 1, [], []), (2, .if_icmp .eq 8, 3, .null, [10], []), (5, .iload_n 0, 1, .null, [], []), (6, .iconst 2, 1, .int 2, [], []), (7, .if_icmp .ne 7, 3, .null, [14], []), (10, .iconst 1, 1, .int 1, [], []), (11, .goto 4, 3, .null, [15], []), (14, .iconst 0, 1, .int 0, [], []), (15, .ireturn, 1, .null, [2], [])]
def i_c82 : List I_En := [(0, .aload_n 0, 1, .null, [], []), (1, .invokevirtual 89, 3, .null, [83, 0, 0, 4065, 4067, 45, 1008, 4068], []), (4, .aload_n 0, 1, .null, [], []), (5, .iconst 0, 1, .int 0, [], []), (6, .putfield 92, 3, .null, [7, 5, 0, 0, 1230], []), (9, .aload_n 0, 1, .null, [], []), (10, .getfield 15, 3, .null, [7, 4, 1, 0, 1228], []), (13, .iconst 0, 1, .int 0, [], []), (14, .invokestatic 95, 3, .null, [3, 2, 0, 4077, 1042, 0, 1003, 1043], []), (17, .iconst 0, 1, .int 0, [], []), (18, .istore_n 3, 1, .null, [], []), (19, .iload_n 3, 1, .null, [], []), (20, .aload_n 0, 1, .null, [], []), (21, .invokevirtual 54, 3, .null, [84, 0, 0, 4069, 4071, 46, 1008, 4072], []), (24, .if_icmp .ge 56, 3, .null, [80], []), (27, .aload_n 0, 1, .null, [], []), (28, .iload_n 1, 1, .null, [], []), (29, .iload_n 3, 1, .null, [], []), (30, .invokevirtual 101, 3, .null, [85, 2, 0, 4078, 4080, 47, 1008, 4081], []), (33, .istore 4, 2, .null, [], []), (35, .aload_n 0, 1, .null, [], []), (36, .iload_n 1, 1, .null, [], []), (37, .iload_n 3, 1, .null, [], []), (38, .invokevirtual 104, 3, .null, [86, 2, 0, 4082, 4084, 48, 1008, 4085], []), (41, .istore 5, 2, .null, [], []), (43, .iload 5, 2, .null, [], []), (45, .iload 4, 2, .null, [], []), (47, .if_icmp .ge 27, 3, .null, [74], []), (50, .aload_n 0, 1, .null, [], []), (51, .iload_n 3, 1, .null, [], []), (52, .iload 5, 2, .null, [], []), (54, .iload_n 2, 1, .null, [], []), (55, .invokevirtual 107, 3, .null, [87, 3, 0, 4086, 4088, 49, 1008, 4089], []), (58, .ifCond .eq 10, 3, .null, [68], []), (61, .aload_n 0, 1, .null, [], []), (62, .iload_n 3, 1, .null, [], []), (63, .iload 5, 2, .null, [], []), (65, .invokevirtual 110, 3, .null, [89, 2, 0, 4095, 4097, 51, 1008, 4098], []), (68, .iinc 5 1, 3, .int 1, [], []), (71, .goto (-28), 3, .null, [43], []), (74, .iinc 3 1, 3, .int 1, [], []), (77, .goto (-58), 3, .null, [19], []), (80, .return_, 1, .null, [], [])]
def i_c83 : List I_En := [(0, .iconst 0, 1, .int 0, [], []), (1, .istore_n 1, 1, .null, [], []), (2, .iload_n 1, 1, .null, [], []), (3, .aload_n 0, 1, .null, [], []), (4, .getfield 35, 3, .null, [7, 2, 1, 0, 1226], []), (7, .getfield 45, 3, .null, [3, 3, 0, 1, 1207], []), (10, .if_icmp .ge 118, 3, .null, [128], []), (13, .aload_n 0, 1, .null, [], []), (14, .getfield 35, 3, .null, [7, 2, 1, 0, 1226], []), (17, .getfield 51, 3, .null, [3, 0, 1, 1, 1198], []), (20, .iload_n 1, 1, .null, [], []), (21, .iaload, 1, .null, [], []), (22, .bipush 100, 2, .int 100, [], []), (24, .irem, 1, .null, [], []), (25, .istore_n 2, 1, .null, [], []), (26, .aload_n 0, 1, .null, [], []), (27, .getfield 35, 3, .null, [7, 2, 1, 0, 1226], []), (30, .getfield 51, 3, .null, [3, 0, 1, 1, 1198], []), (33, .iload_n 1, 1, .null, [], []), (34, .iaload, 1, .null, [], []), (35, .bipush 100, 2, .int 100, [], []), (37, .idiv, 1, .null, [], []), (38, .istore_n 3, 1, .null, [], []), (39, .iconst 0, 1, .int 0, [], []), (40, .istore 4, 2, .null, [], []), (42, .iload 4, 2, .null, [], []), (44, .aload_n 0, 1, .null, [], []), (45, .invokevirtual 54, 3, .null, [84, 0, 0, 4069, 4071, 46, 1008, 4072], []), (48, .if_icmp .ge 74, 3, .null, [122], []), (51, .iload 4, 2, .null, [], []), (53, .bipush 10, 2, .int 10, [], []), (55, .idiv, 1, .null, [], []), (56, .istore 5, 2, .null, [], []), (58, .aload_n 0, 1, .null, [], []), (59, .getfield 11, 3, .null, [7, 3, 1, 0, 1227], []), (62, .iload_n 1, 1, .null, [], []), (63, .sipush 250, 3, .int 250, [], []), (66, .imul, 1, .null, [], []), (67, .iload 4, 2, .null, [], []), (69, .iadd, 1, .null, [], []), (70, .aload_n 0, 1, .null, [], []), (71, .getfield 31, 3, .null, [7, 1, 1, 0, 1225], []), (74, .aload_n 0, 1, .null, [], []), (75, .getfield 27, 3, .null, [7, 0, 1, 0, 1224], []), (78, .iload_n 2, 1, .null, [], []), (79, .iload 5, 2, .null, [], []), (81, .invokevirtual 57, 3, .null, [67, 2, 1, 4074, 3236, 35, 1002, 3237], []), (84, .iload_n 3, 1, .null, [], []), (85, .iload 4, 2, .null, [], []), (87, .bipush 10, 2, .int 10, [], []), (89, .irem, 1, .null, [], []), (90, .isub, 1, .null, [], []), (91, .invokestatic 61, 3, .null, [3, 4075, 3239, 1018, 4000, 0], []), (94, .aload_n 0, 1, .null, [], []), (95, .getfield 27, 3, .null, [7, 0, 1, 0, 1224], []), (98, .getfield 67, 3, .null, [4, 9, 0, 1, 1067], []), (101, .iload 5, 2, .null, [], []), (103, .aload_n 0, 1, .null, [], []), (104, .getfield 35, 3, .null, [7, 2, 1, 0, 1226], []), (107, .getfield 70, 3, .null, [3, 1, 1, 1, 1201], []), (110, .iload_n 1, 1, .null, [], []), (111, .iaload, 1, .null, [], []), (112, .invokevirtual 73, 3, .null, [68, 5, 1, 4076, 4004, 36, 1005, 4005], []), (115, .iastore, 1, .null, [], []), (116, .iinc 4 1, 3, .int 1, [], []), (119, .goto (-77), 3, .null, [42], []), (122, .iinc 1 1, 3, .int 1, [], []), (125, .goto (-123), 3, .null, [2], []), (128, .return_, 1, .null, [], [])]
def i_c84 : List I_En := [(0, .bipush 10, 2, .int 10, [], []), (2, .aload_n 0, 1, .null, [], []), (3, .getfield 27, 3, .null, [7, 0, 1, 0, 1224], []), (6, .invokevirtual 39, 3, .null, [21, 0, 1, 4073, 2230, 5, 1002, 2231], []), (9, .imul, 1, .null, [], []), (10, .ireturn, 1, .null, [1], [])]
def i_c85 : List I_En := [(0, .iload_n 1, 1, .null, [], []), (1, .iconst 1, 1, .int 1, [], []), (2, .if_icmp .ne 9, 3, .null, [11], []), (5, .iload_n 2, 1, .null, [], []), (6, .iconst 1, 1, .int 1, [], []), (7, .iadd, 1, .null, [], []), (8, .goto 7, 3, .null, [15], []), (11, .aload_n 0, 1, .null, [], []), (12, .invokevirtual 54, 3, .null, [84, 0, 0, 4069, 4071, 46, 1008, 4072], []), (15, .ireturn, 1, .null, [1], [])]
def i_c86 : List I_En := [(0, .iload_n 1, 1, .null, [], []), (1, .iconst 1, 1, .int 1, [], []), (2, .if_icmp .ne 7, 3, .null, [9], []), (5, .iload_n 2, 1, .null, [], []), (6, .goto 12, 3, .null, [18], []), (9, .iload_n 2, 1, .null, [], []), (10, .bipush 10, 2, .int 10, [], []), (12, .idiv, 1, .null, [], []), (13, .iconst 1, 1, .int 1, [], []), (14, .iadd, 1, .null, [], []), (15, .bipush 10, 2, .int 10, [], []), (17, .imul, 1, .null, [], []), (18, .ireturn, 1, .null, [1], [])]
def i_c87 : List I_En := [(0, .iconst 0, 1, .int 0, [], []), (1, .istore 4, 2, .null, [], []), (3, .iload 4, 2, .null, [], []), (5, .aload_n 0, 1, .null, [], []), (6, .getfield 35, 3, .null, [7, 2, 1, 0, 1226], []), (9, .getfield 45, 3, .null, [3, 3, 0, 1, 1207], []), (12, .if_icmp .ge 28, 3, .null, [40], []), (15, .iload 4, 2, .null, [], []), (17, .iload_n 3, 1, .null, [], []), (18, .if_icmp .eq 16, 3, .null, [34], []), (21, .aload_n 0, 1, .null, [], []), (22, .iload 4, 2, .null, [], []), (24, .iload_n 1, 1, .null, [], []), (25, .iload_n 2, 1, .null, [], []), (26, .invokevirtual 85, 3, .null, [88, 3, 0, 4090, 4092, 50, 1008, 4093], []), (29, .ifCond .ne 5, 3, .null, [34], []), (32, .iconst 0, 1, .int 0, [], []), (33, .ireturn, 1, .null, [2], []), (34, .iinc 4 1, 3, .int 1, [], []), (37, .goto (-34), 3, .null, [3], []), (40, .iconst 1, 1, .int 1, [], []), (41, .ireturn, 1, .null, [2], [])]
def i_c88 : List I_En := [(0, .aload_n 0, 1, .null, [], []), (1, .getfield 11, 3, .null, [7, 3, 1, 0, 1227], []), (4, .iload_n 1, 1, .null, [], []), (5, .sipush 250, 3, .int 250, [], []), (8, .imul, 1, .null, [], []), (9, .iload_n 2, 1, .null, [], []), (10, .iadd, 1, .null, [], []), (11, .iaload, 1, .null, [], []), (12, .istore 4, 2, .null, [], []), (14, .iload_n 3, 1, .null, [], []), (15, .iload_n 2, 1, .null, [], []), (16, .if_icmp .eq 20, 3, .null, [36], []), (19, .iload 4, 2, .null, [], []), (21, .aload_n 0, 1, .null, [], []), (22, .getfield 11, 3, .null, [7, 3, 1, 0, 1227], []), (25, .iload_n 1, 1, .null, [], []), (26, .sipush 250, 3, .int 250, [], []), (29, .imul, 1, .null, [], []), (30, .iload_n 3, 1, .null, [], []), (31, .iadd, 1, .null, [], []), (32, .iaload, 1, .null, [], []), (33, .iadd, 1, .null, [], []), (34, .istore 4, 2, .null, [], []), (36, .aload_n 0, 1, .null, [], []), (37, .getfield 31, 3, .null, [7, 1, 1, 0, 1225], []), (40, .iload 4, 2, .null, [], []), (42, .invokevirtual 79, 3, .null, [76, 1, 1, 4094, 4040, 42, 1005, 4041], []), (45, .aload_n 0, 1, .null, [], []), (46, .getfield 35, 3, .null, [7, 2, 1, 0, 1226], []), (49, .getfield 82, 3, .null, [3, 2, 1, 1, 1204], []), (52, .iload_n 1, 1, .null, [], []), (53, .iaload, 1, .null, [], []), (54, .if_icmp .ne 7, 3, .null, [61], []), (57, .iconst 1, 1, .int 1, [], []), (58, .goto 4, 3, .null, [62], []), (61, .iconst 0, 1, .int 0, [], []), (62, .ireturn, 1, .null, [2], [])]
def i_c89 : List I_En := [(0, .aload_n 0, 1, .null, [], []), (1, .getfield 92, 3, .null, [7, 5, 0, 0, 1230], []), (4, .ifCond .ne 13, 3, .null, [17], []), (7, .aload_n 0, 1, .null, [], []), (8, .iload_n 1, 1, .null, [], []), (9, .putfield 114, 3, .null, [7, 6, 0, 0, 1232], []), (12, .aload_n 0, 1, .null, [], []), (13, .iload_n 2, 1, .null, [], []), (14, .putfield 117, 3, .null, [7, 7, 0, 0, 1234], []), (17, .aload_n 0, 1, .null, [], []), (18, .dup, 1, .null, [], []), (19, .getfield 92, 3, .null, [7, 5, 0, 0, 1230], []), (22, .iconst 1, 1, .int 1, [], []), (23, .iadd, 1, .null, [], []), (24, .putfield 92, 3, .null, [7, 5, 0, 0, 1230], []), (27, .aload_n 0, 1, .null, [], []), (28, .getfield 15, 3, .null, [7, 4, 1, 0, 1228], []), (31, .iload_n 1, 1, .null, [], []), (32, .bipush 10, 2, .int 10, [], []), (34, .idiv, 1, .null, [], []), (35, .dup2, 1, .null, [], []), (36, .iaload, 1, .null, [], []), (37, .iconst 1, 1, .int 1, [], []), (38, .iadd, 1, .null, [], []), (39, .iastore, 1, .null, [], []), (40, .iload_n 2, 1, .null, [], []), (41, .iload_n 1, 1, .null, [], []), (42, .if_icmp .eq 16, 3, .null, [58], []), (45, .aload_n 0, 1, .null, [], []), (46, .getfield 15, 3, .null, [7, 4, 1, 0, 1228], []), (49, .iload_n 2, 1, .null, [], []), (50, .bipush 10, 2, .int 10, [], []), (52, .idiv, 1, .null, [], []), (53, .dup2, 1, .null, [], []), (54, .iaload, 1, .null, [], []), (55, .iconst 1, 1, .int 1, [], []), (56, .iadd, 1, .null, [], []), (57, .iastore, 1, .null, [], []), (58, .return_, 1, .null, [], [])]
def i_c90 : List I_En := [(0, .iload_n 1, 1, .null, [], []), (1, .invokestatic 257, 3, .null, [81, 1, 0, 4058, 4059, 0, 1001, 4060], []), (4, .ifCond .eq 12, 3, .null, [16], []), (7, .iload_n 2, 1, .null, [], []), (8, .ifCond .lt 8, 3, .null, [16], []), (11, .iload_n 2, 1, .null, [], []), (12, .iconst 1, 1, .int 1, [], []), (13, .if_icmp .le 5, 3, .null, [18], []), (16, .iconst (-1), 1, .int (-1), [], []), (17, .ireturn, 1, .null, [1], []), (18, .aload_n 0, 1, .null, [], []), (19, .getfield 53, 3, .null, [11, 5, 1, 0, 2159], []), (22, .iload_n 1, 1, .null, [], []), (23, .iconst (-1), 1, .int (-1), [], []), (24, .invokevirtual 260, 3, .null, [82, 2, 1, 4061, 4063, 44, 1008, 4064], []), (27, .aload_n 0, 1, .null, [], []), (28, .getfield 53, 3, .null, [11, 5, 1, 0, 2159], []), (31, .getfield 263, 3, .null, [7, 5, 0, 1, 1231], []), (34, .ifCond .ne 7, 3, .null, [41], []), (37, .iconst 0, 1, .int 0, [], []), (38, .goto 25, 3, .null, [63], []), (41, .aload_n 0, 1, .null, [], []), (42, .getfield 53, 3, .null, [11, 5, 1, 0, 2159], []), (45, .iload_n 2, 1, .null, [], []), (46, .ifCond .ne 13, 3, .null, [59], []), (49, .aload_n 0, 1, .null, [], []), (50, .getfield 53, 3, .null, [11, 5, 1, 0, 2159], []), (53, .getfield 263, 3, .null, [7, 5, 0, 1, 1231], []), (56, .goto 4, 3, .null, [60], []), (59, .iconst 0, 1, .int 0, [], []), (60, .invokevirtual 272, 3, .null, [91, 1, 1, 4103, 4105, 52, 1008, 4106], []), (63, .ireturn, 1, .null, [1], [])]
def i_c91 : List I_En := [(0, .iconst 0, 1, .int 0, [], []), (1, .istore_n 2, 1, .null, [], []), (2, .iconst 0, 1, .int 0, [], []), (3, .istore_n 3, 1, .null, [], []), (4, .iload_n 3, 1, .null, [], []), (5, .aload_n 0, 1, .null, [], []), (6, .getfield 27, 3, .null, [7, 0, 1, 0, 1224], []), (9, .invokevirtual 39, 3, .null, [21, 0, 1, 4073, 2230, 5, 1002, 2231], []), (12, .if_icmp .ge 25, 3, .null, [37], []), (15, .aload_n 0, 1, .null, [], []), (16, .getfield 15, 3, .null, [7, 4, 1, 0, 1228], []), (19, .iload_n 3, 1, .null, [], []), (20, .iaload, 1, .null, [], []), (21, .iload_n 1, 1, .null, [], []), (22, .if_icmp .ne 9, 3, .null, [31], []), (25, .iload_n 2, 1, .null, [], []), (26, .iconst 1, 1, .int 1, [], []), (27, .iload_n 3, 1, .null, [], []), (28, .ishl, 1, .null, [], []), (29, .ior, 1, .null, [], []), (30, .istore_n 2, 1, .null, [], []), (31, .iinc 3 1, 3, .int 1, [], []), (34, .goto (-30), 3, .null, [4], []), (37, .iload_n 2, 1, .null, [], []), (38, .ireturn, 1, .null, [1], [])]
def i_c92 : List I_En := [(0, .iload_n 1, 1, .null, [], []), (1, .invokestatic 257, 3, .null, [81, 1, 0, 4058, 4059, 0, 1001, 4060], []), (4, .ifCond .eq 23, 3, .null, [27], []), (7, .aload_n 0, 1, .null, [], []), (8, .getfield 10, 3, .null, [11, 0, 1, 0, 2154], []), (11, .iload_n 2, 1, .null, [], []), (12, .invokevirtual 164, 3, .null, [20, 1, 1, 3024, 2226, 4, 1002, 2227], []), (15, .ifCond .eq 12, 3, .null, [27], []), (18, .iload_n 3, 1, .null, [], []), (19, .ifCond .lt 8, 3, .null, [27], []), (22, .iload_n 3, 1, .null, [], []), (23, .iconst 1, 1, .int 1, [], []), (24, .if_icmp .le 5, 3, .null, [29], []), (27, .iconst (-1), 1, .int (-1), [], []), (28, .ireturn, 1, .null, [1], []), (29, .aload_n 0, 1, .null, [], []), (30, .getfield 53, 3, .null, [11, 5, 1, 0, 2159], []), (33, .iload_n 1, 1, .null, [], []), (34, .iconst (-1), 1, .int (-1), [], []), (35, .invokevirtual 260, 3, .null, [82, 2, 1, 4061, 4063, 44, 1008, 4064], []), (38, .aload_n 0, 1, .null, [], []), (39, .getfield 53, 3, .null, [11, 5, 1, 0, 2159], []), (42, .getfield 275, 3, .null, [7, 4, 1, 1, 1229], []), (45, .iload_n 2, 1, .null, [], []), (46, .iaload, 1, .null, [], []), (47, .istore 4, 2, .null, [], []), (49, .iload 4, 2, .null, [], []), (51, .aload_n 0, 1, .null, [], []), (52, .getfield 53, 3, .null, [11, 5, 1, 0, 2159], []), (55, .getfield 263, 3, .null, [7, 5, 0, 1, 1231], []), (58, .invokestatic 278, 3, .null, [93, 2, 0, 4111, 4112, 0, 1001, 4113], []), (61, .istore 5, 2, .null, [], []), (63, .iload 4, 2, .null, [], []), (65, .ifCond .eq 8, 3, .null, [73], []), (68, .iload 5, 2, .null, [], []), (70, .ifCond .ne 5, 3, .null, [75], []), (73, .iload_n 3, 1, .null, [], []), (74, .ireturn, 1, .null, [1], []), (75, .iload_n 3, 1, .null, [], []), (76, .ifCond .ne 8, 3, .null, [84], []), (79, .iload 4, 2, .null, [], []), (81, .goto 10, 3, .null, [91], []), (84, .aload_n 0, 1, .null, [], []), (85, .getfield 53, 3, .null, [11, 5, 1, 0, 2159], []), (88, .getfield 263, 3, .null, [7, 5, 0, 1, 1231], []), (91, .iload 5, 2, .null, [], []), (93, .idiv, 1, .null, [], []), (94, .ireturn, 1, .null, [1], [])]
def i_c93 : List I_En := [(0, .iload_n 0, 1, .null, [], []), (1, .istore_n 2, 1, .null, [], []), (2, .iload_n 1, 1, .null, [], []), (3, .istore_n 3, 1, .null, [], []), (4, .iconst 0, 1, .int 0, [], []), (5, .istore 4, 2, .null, [], []), (7, .iload 4, 2, .null, [], []), (9, .bipush 64, 2, .int 64, [], []), (11, .if_icmp .ge 23, 3, .null, [34], []), (14, .iload_n 3, 1, .null, [], []), (15, .ifCond .eq 19, 3, .null, [34], []), (18, .iload_n 2, 1, .null, [], []), (19, .iload_n 3, 1, .null, [], []), (20, .irem, 1, .null, [], []), (21, .istore 5, 2, .null, [], []), (23, .iload_n 3, 1, .null, [], []), (24, .istore_n 2, 1, .null, [], []), (25, .iload 5, 2, .null, [], []), (27, .istore_n 3, 1, .null, [], []), (28, .iinc 4 1, 3, .int 1, [], []), (31, .goto (-24), 3, .null, [7], []), (34, .iload_n 2, 1, .null, [], []), (35, .ireturn, 1, .null, [1], [])]
def i_c94 : List I_En := [(0, .iload_n 1, 1, .null, [], []), (1, .invokestatic 257, 3, .null, [81, 1, 0, 4058, 4059, 0, 1001, 4060], []), (4, .ifCond .ne 5, 3, .null, [9], []), (7, .iconst (-1), 1, .int (-1), [], []), (8, .ireturn, 1, .null, [1], []), (9, .aload_n 0, 1, .null, [], []), (10, .getfield 53, 3, .null, [11, 5, 1, 0, 2159], []), (13, .iload_n 1, 1, .null, [], []), (14, .iconst (-1), 1, .int (-1), [], []), (15, .invokevirtual 260, 3, .null, [82, 2, 1, 4061, 4063, 44, 1008, 4064], []), (18, .aload_n 0, 1, .null, [], []), (19, .getfield 53, 3, .null, [11, 5, 1, 0, 2159], []), (22, .getfield 263, 3, .null, [7, 5, 0, 1, 1231], []), (25, .ifCond .ne 8, 3, .null, [33], []), (28, .bipush (-2), 2, .int (-2), [], []), (30, .goto 10, 3, .null, [40], []), (33, .aload_n 0, 1, .null, [], []), (34, .getfield 53, 3, .null, [11, 5, 1, 0, 2159], []), (37, .invokevirtual 281, 3, .null, [95, 0, 1, 4118, 4120, 53, 1008, 4121], []), (40, .ireturn, 1, .null, [1], [])]
def i_c95 : List I_En := [(0, .iconst 0, 1, .int 0, [], []), (1, .istore_n 1, 1, .null, [], []), (2, .iconst 1, 1, .int 1, [], []), (3, .istore_n 2, 1, .null, [], []), (4, .iload_n 2, 1, .null, [], []), (5, .aload_n 0, 1, .null, [], []), (6, .getfield 27, 3, .null, [7, 0, 1, 0, 1224], []), (9, .invokevirtual 39, 3, .null, [21, 0, 1, 4073, 2230, 5, 1002, 2231], []), (12, .if_icmp .ge 50, 3, .null, [62], []), (15, .aload_n 0, 1, .null, [], []), (16, .getfield 15, 3, .null, [7, 4, 1, 0, 1228], []), (19, .iload_n 2, 1, .null, [], []), (20, .iaload, 1, .null, [], []), (21, .aload_n 0, 1, .null, [], []), (22, .getfield 27, 3, .null, [7, 0, 1, 0, 1224], []), (25, .getfield 120, 3, .null, [4, 5, 1, 1, 1056], []), (28, .iload_n 1, 1, .null, [], []), (29, .iaload, 1, .null, [], []), (30, .iconst 1, 1, .int 1, [], []), (31, .iadd, 1, .null, [], []), (32, .imul, 1, .null, [], []), (33, .aload_n 0, 1, .null, [], []), (34, .getfield 15, 3, .null, [7, 4, 1, 0, 1228], []), (37, .iload_n 1, 1, .null, [], []), (38, .iaload, 1, .null, [], []), (39, .aload_n 0, 1, .null, [], []), (40, .getfield 27, 3, .null, [7, 0, 1, 0, 1224], []), (43, .getfield 120, 3, .null, [4, 5, 1, 1, 1056], []), (46, .iload_n 2, 1, .null, [], []), (47, .iaload, 1, .null, [], []), (48, .iconst 1, 1, .int 1, [], []), (49, .iadd, 1, .null, [], []), (50, .imul, 1, .null, [], []), (51, .if_icmp .le 5, 3, .null, [56], []), (54, .iload_n 2, 1, .null, [], []), (55, .istore_n 1, 1, .null, [], []), (56, .iinc 2 1, 3, .int 1, [], []), (59, .goto (-55), 3, .null, [4], []), (62, .iload_n 1, 1, .null, [], []), (63, .ireturn, 1, .null, [1], [])]
def i_c96 : List I_En := [(0, .aload_n 0, 1, .null, [], []), (1, .getfield 10, 3, .null, [11, 0, 1, 0, 2154], []), (4, .iload_n 1, 1, .null, [], []), (5, .invokevirtual 164, 3, .null, [20, 1, 1, 3024, 2226, 4, 1002, 2227], []), (8, .ifCond .eq 12, 3, .null, [20], []), (11, .iload_n 2, 1, .null, [], []), (12, .ifCond .lt 8, 3, .null, [20], []), (15, .iload_n 2, 1, .null, [], []), (16, .iconst 1, 1, .int 1, [], []), (17, .if_icmp .le 5, 3, .null, [22], []), (20, .iconst (-1), 1, .int (-1), [], []), (21, .ireturn, 1, .null, [1], []), (22, .aload_n 0, 1, .null, [], []), (23, .getfield 53, 3, .null, [11, 5, 1, 0, 2159], []), (26, .invokevirtual 284, 3, .null, [97, 0, 1, 4126, 4128, 54, 1008, 4129], []), (29, .aload_n 0, 1, .null, [], []), (30, .getfield 53, 3, .null, [11, 5, 1, 0, 2159], []), (33, .getfield 287, 3, .null, [7, 10, 0, 1, 1239], []), (36, .ifCond .ne 6, 3, .null, [42], []), (39, .bipush (-2), 2, .int (-2), [], []), (41, .ireturn, 1, .null, [1], []), (42, .aload_n 0, 1, .null, [], []), (43, .getfield 53, 3, .null, [11, 5, 1, 0, 2159], []), (46, .iload_n 1, 1, .null, [], []), (47, .invokevirtual 290, 3, .null, [98, 1, 1, 4130, 4132, 55, 1008, 4133], []), (50, .iload_n 2, 1, .null, [], []), (51, .ifCond .ne 13, 3, .null, [64], []), (54, .aload_n 0, 1, .null, [], []), (55, .getfield 53, 3, .null, [11, 5, 1, 0, 2159], []), (58, .getfield 294, 3, .null, [7, 12, 0, 1, 2002], []), (61, .goto 10, 3, .null, [71], []), (64, .aload_n 0, 1, .null, [], []), (65, .getfield 53, 3, .null, [11, 5, 1, 0, 2159], []), (68, .getfield 297, 3, .null, [7, 13, 0, 1, 2004], []), (71, .ireturn, 1, .null, [1], [])]
def i_c97 : List I_En := [(0, .aload_n 0, 1, .null, [], []), (1, .invokevirtual 89, 3, .null, [83, 0, 0, 4065, 4067, 45, 1008, 4068], []), (4, .aload_n 0, 1, .null, [], []), (5, .iconst 0, 1, .int 0, [], []), (6, .putfield 144, 3, .null, [7, 10, 0, 0, 1238], []), (9, .iconst 0, 1, .int 0, [], []), (10, .istore_n 1, 1, .null, [], []), (11, .iload_n 1, 1, .null, [], []), (12, .aload_n 0, 1, .null, [], []), (13, .invokevirtual 54, 3, .null, [84, 0, 0, 4069, 4071, 46, 1008, 4072], []), (16, .if_icmp .ge 39, 3, .null, [55], []), (19, .aload_n 0, 1, .null, [], []), (20, .iload_n 1, 1, .null, [], []), (21, .iload_n 1, 1, .null, [], []), (22, .iconst (-1), 1, .int (-1), [], []), (23, .invokevirtual 107, 3, .null, [87, 3, 0, 4086, 4088, 49, 1008, 4089], []), (26, .ifCond .eq 23, 3, .null, [49], []), (29, .aload_n 0, 1, .null, [], []), (30, .getfield 21, 3, .null, [7, 9, 1, 0, 1237], []), (33, .aload_n 0, 1, .null, [], []), (34, .getfield 144, 3, .null, [7, 10, 0, 0, 1238], []), (37, .iload_n 1, 1, .null, [], []), (38, .iastore, 1, .null, [], []), (39, .aload_n 0, 1, .null, [], []), (40, .dup, 1, .null, [], []), (41, .getfield 144, 3, .null, [7, 10, 0, 0, 1238], []), (44, .iconst 1, 1, .int 1, [], []), (45, .iadd, 1, .null, [], []), (46, .putfield 144, 3, .null, [7, 10, 0, 0, 1238], []), (49, .iinc 1 1, 3, .int 1, [], []), (52, .goto (-41), 3, .null, [11], []), (55, .return_, 1, .null, [], [])]
def i_c98 : List I_En := [(0, .aload_n 0, 1, .null, [], []), (1, .iload_n 1, 1, .null, [], []), (2, .invokevirtual 131, 3, .null, [99, 1, 0, 4134, 4136, 56, 1008, 4137], []), (5, .aload_n 0, 1, .null, [], []), (6, .bipush (-2), 2, .int (-2), [], []), (8, .putfield 135, 3, .null, [7, 12, 0, 0, 2001], []), (11, .aload_n 0, 1, .null, [], []), (12, .sipush 251, 3, .int 251, [], []), (15, .putfield 138, 3, .null, [7, 13, 0, 0, 2003], []), (18, .iconst 0, 1, .int 0, [], []), (19, .istore_n 2, 1, .null, [], []), (20, .iload_n 2, 1, .null, [], []), (21, .bipush 10, 2, .int 10, [], []), (23, .if_icmp .ge 61, 3, .null, [84], []), (26, .iconst 0, 1, .int 0, [], []), (27, .istore_n 3, 1, .null, [], []), (28, .iload_n 3, 1, .null, [], []), (29, .aload_n 0, 1, .null, [], []), (30, .getfield 27, 3, .null, [7, 0, 1, 0, 1224], []), (33, .invokevirtual 39, 3, .null, [21, 0, 1, 4073, 2230, 5, 1002, 2231], []), (36, .if_icmp .ge 42, 3, .null, [78], []), (39, .aload_n 0, 1, .null, [], []), (40, .iload_n 2, 1, .null, [], []), (41, .iload_n 3, 1, .null, [], []), (42, .invokevirtual 141, 3, .null, [100, 2, 0, 4138, 4140, 57, 1008, 4141], []), (45, .istore 4, 2, .null, [], []), (47, .iload 4, 2, .null, [], []), (49, .aload_n 0, 1, .null, [], []), (50, .getfield 138, 3, .null, [7, 13, 0, 0, 2003], []), (53, .if_icmp .ge 19, 3, .null, [72], []), (56, .aload_n 0, 1, .null, [], []), (57, .iload 4, 2, .null, [], []), (59, .putfield 138, 3, .null, [7, 13, 0, 0, 2003], []), (62, .aload_n 0, 1, .null, [], []), (63, .bipush 100, 2, .int 100, [], []), (65, .iload_n 2, 1, .null, [], []), (66, .imul, 1, .null, [], []), (67, .iload_n 3, 1, .null, [], []), (68, .iadd, 1, .null, [], []), (69, .putfield 135, 3, .null, [7, 12, 0, 0, 2001], []), (72, .iinc 3 1, 3, .int 1, [], []), (75, .goto (-47), 3, .null, [28], []), (78, .iinc 2 1, 3, .int 1, [], []), (81, .goto (-61), 3, .null, [20], []), (84, .return_, 1, .null, [], [])]
def i_c99 : List I_En := [(0, .iconst 0, 1, .int 0, [], []), (1, .istore_n 2, 1, .null, [], []), (2, .iload_n 2, 1, .null, [], []), (3, .aload_n 0, 1, .null, [], []), (4, .getfield 27, 3, .null, [7, 0, 1, 0, 1224], []), (7, .invokevirtual 39, 3, .null, [21, 0, 1, 4073, 2230, 5, 1002, 2231], []), (10, .if_icmp .ge 82, 3, .null, [92], []), (13, .iconst 0, 1, .int 0, [], []), (14, .istore_n 3, 1, .null, [], []), (15, .iload_n 3, 1, .null, [], []), (16, .bipush 9, 2, .int 9, [], []), (18, .if_icmp .ge 68, 3, .null, [86], []), (21, .iconst 0, 1, .int 0, [], []), (22, .istore 4, 2, .null, [], []), (24, .iload 4, 2, .null, [], []), (26, .bipush 10, 2, .int 10, [], []), (28, .if_icmp .ge 52, 3, .null, [80], []), (31, .aload_n 0, 1, .null, [], []), (32, .getfield 18, 3, .null, [7, 8, 1, 0, 1236], []), (35, .iload_n 2, 1, .null, [], []), (36, .bipush 9, 2, .int 9, [], []), (38, .imul, 1, .null, [], []), (39, .iload_n 3, 1, .null, [], []), (40, .iadd, 1, .null, [], []), (41, .bipush 10, 2, .int 10, [], []), (43, .imul, 1, .null, [], []), (44, .iload 4, 2, .null, [], []), (46, .iadd, 1, .null, [], []), (47, .aload_n 0, 1, .null, [], []), (48, .getfield 31, 3, .null, [7, 1, 1, 0, 1225], []), (51, .aload_n 0, 1, .null, [], []), (52, .getfield 31, 3, .null, [7, 1, 1, 0, 1225], []), (55, .iload_n 3, 1, .null, [], []), (56, .iload 4, 2, .null, [], []), (58, .aload_n 0, 1, .null, [], []), (59, .getfield 27, 3, .null, [7, 0, 1, 0, 1224], []), (62, .getfield 67, 3, .null, [4, 9, 0, 1, 1067], []), (65, .iload_n 2, 1, .null, [], []), (66, .iload_n 1, 1, .null, [], []), (67, .invokevirtual 73, 3, .null, [68, 5, 1, 4076, 4004, 36, 1005, 4005], []), (70, .invokevirtual 79, 3, .null, [76, 1, 1, 4094, 4040, 42, 1005, 4041], []), (73, .iastore, 1, .null, [], []), (74, .iinc 4 1, 3, .int 1, [], []), (77, .goto (-53), 3, .null, [24], []), (80, .iinc 3 1, 3, .int 1, [], []), (83, .goto (-68), 3, .null, [15], []), (86, .iinc 2 1, 3, .int 1, [], []), (89, .goto (-87), 3, .null, [2], []), (92, .return_, 1, .null, [], [])]
def i_c100 : List I_En := [(0, .aload_n 0, 1, .null, [], []), (1, .getfield 24, 3, .null, [7, 11, 1, 0, 2000], []), (4, .iconst 0, 1, .int 0, [], []), (5, .invokestatic 95, 3, .null, [3, 2, 0, 4077, 1042, 0, 1003, 1043], []), (8, .iconst 0, 1, .int 0, [], []), (9, .istore_n 3, 1, .null, [], []), (10, .iconst 0, 1, .int 0, [], []), (11, .istore 4, 2, .null, [], []), (13, .iload 4, 2, .null, [], []), (15, .aload_n 0, 1, .null, [], []), (16, .getfield 144, 3, .null, [7, 10, 0, 0, 1238], []), (19, .if_icmp .ge 90, 3, .null, [109], []), (22, .aload_n 0, 1, .null, [], []), (23, .getfield 21, 3, .null, [7, 9, 1, 0, 1237], []), (26, .iload 4, 2, .null, [], []), (28, .iaload, 1, .null, [], []), (29, .bipush 10, 2, .int 10, [], []), (31, .idiv, 1, .null, [], []), (32, .istore 5, 2, .null, [], []), (34, .aload_n 0, 1, .null, [], []), (35, .getfield 21, 3, .null, [7, 9, 1, 0, 1237], []), (38, .iload 4, 2, .null, [], []), (40, .iaload, 1, .null, [], []), (41, .bipush 10, 2, .int 10, [], []), (43, .irem, 1, .null, [], []), (44, .iload_n 1, 1, .null, [], []), (45, .isub, 1, .null, [], []), (46, .invokestatic 61, 3, .null, [3, 4075, 3239, 1018, 4000, 0], []), (49, .istore 6, 2, .null, [], []), (51, .aload_n 0, 1, .null, [], []), (52, .getfield 18, 3, .null, [7, 8, 1, 0, 1236], []), (55, .iload 5, 2, .null, [], []), (57, .bipush 9, 2, .int 9, [], []), (59, .imul, 1, .null, [], []), (60, .aload_n 0, 1, .null, [], []), (61, .getfield 27, 3, .null, [7, 0, 1, 0, 1224], []), (64, .iload_n 2, 1, .null, [], []), (65, .iload 5, 2, .null, [], []), (67, .invokevirtual 57, 3, .null, [67, 2, 1, 4074, 3236, 35, 1002, 3237], []), (70, .iadd, 1, .null, [], []), (71, .bipush 10, 2, .int 10, [], []), (73, .imul, 1, .null, [], []), (74, .iload 6, 2, .null, [], []), (76, .iadd, 1, .null, [], []), (77, .iaload, 1, .null, [], []), (78, .istore 7, 2, .null, [], []), (80, .aload_n 0, 1, .null, [], []), (81, .getfield 24, 3, .null, [7, 11, 1, 0, 2000], []), (84, .iload 7, 2, .null, [], []), (86, .dup2, 1, .null, [], []), (87, .iaload, 1, .null, [], []), (88, .iconst 1, 1, .int 1, [], []), (89, .iadd, 1, .null, [], []), (90, .iastore, 1, .null, [], []), (91, .iload_n 3, 1, .null, [], []), (92, .aload_n 0, 1, .null, [], []), (93, .getfield 24, 3, .null, [7, 11, 1, 0, 2000], []), (96, .iload 7, 2, .null, [], []), (98, .iaload, 1, .null, [], []), (99, .invokestatic 147, 3, .null, [1, 4142, 3140, 1018, 3141, 0], []), (102, .istore_n 3, 1, .null, [], []), (103, .iinc 4 1, 3, .int 1, [], []), (106, .goto (-93), 3, .null, [13], []), (109, .iload_n 3, 1, .null, [], []), (110, .ireturn, 1, .null, [1], [])]
def i_c101 : List I_En := [(0, .iload_n 1, 1, .null, [], []), (1, .invokestatic 257, 3, .null, [81, 1, 0, 4058, 4059, 0, 1001, 4060], []), (4, .ifCond .eq 14, 3, .null, [18], []), (7, .aload_n 0, 1, .null, [], []), (8, .getfield 44, 3, .null, [11, 4, 1, 0, 2158], []), (11, .iload_n 2, 1, .null, [], []), (12, .invokevirtual 217, 3, .null, [41, 1, 1, 3074, 3076, 22, 1007, 3077], []), (15, .ifCond .ne 5, 3, .null, [20], []), (18, .iconst (-1), 1, .int (-1), [], []), (19, .ireturn, 1, .null, [1], []), (20, .aload_n 0, 1, .null, [], []), (21, .getfield 53, 3, .null, [11, 5, 1, 0, 2159], []), (24, .iload_n 1, 1, .null, [], []), (25, .iload_n 2, 1, .null, [], []), (26, .invokevirtual 260, 3, .null, [82, 2, 1, 4061, 4063, 44, 1008, 4064], []), (29, .aload_n 0, 1, .null, [], []), (30, .getfield 53, 3, .null, [11, 5, 1, 0, 2159], []), (33, .getfield 263, 3, .null, [7, 5, 0, 1, 1231], []), (36, .istore_n 3, 1, .null, [], []), (37, .aload_n 0, 1, .null, [], []), (38, .getfield 53, 3, .null, [11, 5, 1, 0, 2159], []), (41, .iload_n 1, 1, .null, [], []), (42, .iconst (-1), 1, .int (-1), [], []), (43, .invokevirtual 260, 3, .null, [82, 2, 1, 4061, 4063, 44, 1008, 4064], []), (46, .iload_n 3, 1, .null, [], []), (47, .aload_n 0, 1, .null, [], []), (48, .getfield 53, 3, .null, [11, 5, 1, 0, 2159], []), (51, .getfield 263, 3, .null, [7, 5, 0, 1, 1231], []), (54, .isub, 1, .null, [], []), (55, .ireturn, 1, .null, [1], [])]
def i_c102 : List I_En := [(0, .iload_n 1, 1, .null, [], []), (1, .invokestatic 257, 3, .null, [81, 1, 0, 4058, 4059, 0, 1001, 4060], []), (4, .ifCond .ne 5, 3, .null, [9], []), (7, .iconst (-1), 1, .int (-1), [], []), (8, .ireturn, 1, .null, [1], []), (9, .aload_n 0, 1, .null, [], []), (10, .getfield 10, 3, .null, [11, 0, 1, 0, 2154], []), (13, .invokevirtual 300, 3, .null, [21, 0, 1, 4151, 2230, 5, 1002, 2231], []), (16, .iload_n 1, 1, .null, [], []), (17, .if_icmp .ge 8, 3, .null, [25], []), (20, .bipush (-2), 2, .int (-2), [], []), (22, .goto 11, 3, .null, [33], []), (25, .aload_n 0, 1, .null, [], []), (26, .getfield 53, 3, .null, [11, 5, 1, 0, 2159], []), (29, .iload_n 1, 1, .null, [], []), (30, .invokevirtual 303, 3, .null, [103, 1, 1, 4152, 4154, 58, 1008, 4155], []), (33, .ireturn, 1, .null, [1], [])]
def i_c103 : List I_En := [(0, .aload_n 0, 1, .null, [], []), (1, .invokevirtual 89, 3, .null, [83, 0, 0, 4065, 4067, 45, 1008, 4068], []), (4, .iconst 1, 1, .int 1, [], []), (5, .aload_n 0, 1, .null, [], []), (6, .getfield 35, 3, .null, [7, 2, 1, 0, 1226], []), (9, .getfield 45, 3, .null, [3, 3, 0, 1, 1207], []), (12, .ishl, 1, .null, [], []), (13, .iconst 1, 1, .int 1, [], []), (14, .isub, 1, .null, [], []), (15, .istore_n 2, 1, .null, [], []), (16, .iconst 0, 1, .int 0, [], []), (17, .istore_n 3, 1, .null, [], []), (18, .iload_n 3, 1, .null, [], []), (19, .aload_n 0, 1, .null, [], []), (20, .invokevirtual 54, 3, .null, [84, 0, 0, 4069, 4071, 46, 1008, 4072], []), (23, .if_icmp .ge 78, 3, .null, [101], []), (26, .aload_n 0, 1, .null, [], []), (27, .iload_n 1, 1, .null, [], []), (28, .iload_n 3, 1, .null, [], []), (29, .invokevirtual 101, 3, .null, [85, 2, 0, 4078, 4080, 47, 1008, 4081], []), (32, .istore 4, 2, .null, [], []), (34, .aload_n 0, 1, .null, [], []), (35, .iload_n 1, 1, .null, [], []), (36, .iload_n 3, 1, .null, [], []), (37, .invokevirtual 104, 3, .null, [86, 2, 0, 4082, 4084, 48, 1008, 4085], []), (40, .istore 5, 2, .null, [], []), (42, .iload 5, 2, .null, [], []), (44, .iload 4, 2, .null, [], []), (46, .if_icmp .ge 49, 3, .null, [95], []), (49, .aload_n 0, 1, .null, [], []), (50, .iload_n 3, 1, .null, [], []), (51, .iload 5, 2, .null, [], []), (53, .invokevirtual 123, 3, .null, [104, 2, 0, 4156, 4158, 59, 1008, 4159], []), (56, .istore 6, 2, .null, [], []), (58, .iload_n 2, 1, .null, [], []), (59, .invokestatic 126, 3, .null, [105, 1, 0, 4160, 4161, 0, 1022, 4162], []), (62, .iload 6, 2, .null, [], []), (64, .invokestatic 126, 3, .null, [105, 1, 0, 4160, 4161, 0, 1022, 4162], []), (67, .isub, 1, .null, [], []), (68, .istore 7, 2, .null, [], []), (70, .iload 7, 2, .null, [], []), (72, .ifCond .gt 14, 3, .null, [86], []), (75, .iload 7, 2, .null, [], []), (77, .ifCond .ne 12, 3, .null, [89], []), (80, .iload 6, 2, .null, [], []), (82, .iload_n 2, 1, .null, [], []), (83, .if_icmp .ge 6, 3, .null, [89], []), (86, .iload 6, 2, .null, [], []), (88, .istore_n 2, 1, .null, [], []), (89, .iinc 5 1, 3, .int 1, [], []), (92, .goto (-50), 3, .null, [42], []), (95, .iinc 3 1, 3, .int 1, [], []), (98, .goto (-80), 3, .null, [18], []), (101, .iload_n 2, 1, .null, [], []), (102, .ireturn, 1, .null, [1], [])]
def i_c104 : List I_En := [(0, .iconst 0, 1, .int 0, [], []), (1, .istore_n 3, 1, .null, [], []), (2, .iconst 0, 1, .int 0, [], []), (3, .istore 4, 2, .null, [], []), (5, .iload 4, 2, .null, [], []), (7, .aload_n 0, 1, .null, [], []), (8, .getfield 35, 3, .null, [7, 2, 1, 0, 1226], []), (11, .getfield 45, 3, .null, [3, 3, 0, 1, 1207], []), (14, .if_icmp .ge 27, 3, .null, [41], []), (17, .aload_n 0, 1, .null, [], []), (18, .iload 4, 2, .null, [], []), (20, .iload_n 1, 1, .null, [], []), (21, .iload_n 2, 1, .null, [], []), (22, .invokevirtual 85, 3, .null, [88, 3, 0, 4090, 4092, 50, 1008, 4093], []), (25, .ifCond .ne 10, 3, .null, [35], []), (28, .iload_n 3, 1, .null, [], []), (29, .iconst 1, 1, .int 1, [], []), (30, .iload 4, 2, .null, [], []), (32, .ishl, 1, .null, [], []), (33, .ior, 1, .null, [], []), (34, .istore_n 3, 1, .null, [], []), (35, .iinc 4 1, 3, .int 1, [], []), (38, .goto (-33), 3, .null, [5], []), (41, .iload_n 3, 1, .null, [], []), (42, .ireturn, 1, .null, [1], [])]
def i_c105 : List I_En := [(0, .iload_n 0, 1, .null, [], []), (1, .iload_n 0, 1, .null, [], []), (2, .iconst 1, 1, .int 1, [], []), (3, .iushr, 1, .null, [], []), (4, .ldc_w 265, 3, .int 1431655765, [0, 4163], []), (7, .iand, 1, .null, [], []), (8, .isub, 1, .null, [], []), (9, .istore_n 0, 1, .null, [], []), (10, .iload_n 0, 1, .null, [], []), (11, .ldc_w 266, 3, .int 858993459, [0, 4164], []), (14, .iand, 1, .null, [], []), (15, .iload_n 0, 1, .null, [], []), (16, .iconst 2, 1, .int 2, [], []), (17, .iushr, 1, .null, [], []), (18, .ldc_w 266, 3, .int 858993459, [0, 4164], []), (21, .iand, 1, .null, [], []), (22, .iadd, 1, .null, [], []), (23, .istore_n 0, 1, .null, [], []), (24, .iload_n 0, 1, .null, [], []), (25, .iload_n 0, 1, .null, [], []), (26, .iconst 4, 1, .int 4, [], []), (27, .iushr, 1, .null, [], []), (28, .iadd, 1, .null, [], []), (29, .ldc_w 267, 3, .int 252645135, [0, 4165], []), (32, .iand, 1, .null, [], []), (33, .istore_n 0, 1, .null, [], []), (34, .iload_n 0, 1, .null, [], []), (35, .iload_n 0, 1, .null, [], []), (36, .bipush 8, 2, .int 8, [], []), (38, .iushr, 1, .null, [], []), (39, .iadd, 1, .null, [], []), (40, .istore_n 0, 1, .null, [], []), (41, .iload_n 0, 1, .null, [], []), (42, .iload_n 0, 1, .null, [], []), (43, .bipush 16, 2, .int 16, [], []), (45, .iushr, 1, .null, [], []), (46, .iadd, 1, .null, [], []), (47, .istore_n 0, 1, .null, [], []), (48, .iload_n 0, 1, .null, [], []), (49, .bipush 63, 2, .int 63, [], []), (51, .iand, 1, .null, [], []), (52, .ireturn, 1, .null, [1], [])]
def i_c106 : List I_En := [(0, .iload_n 1, 1, .null, [], []), (1, .bipush 10, 2, .int 10, [], []), (3, .idiv, 1, .null, [], []), (4, .istore_n 2, 1, .null, [], []), (5, .iload_n 1, 1, .null, [], []), (6, .bipush 10, 2, .int 10, [], []), (8, .irem, 1, .null, [], []), (9, .istore_n 3, 1, .null, [], []), (10, .iload_n 1, 1, .null, [], []), (11, .ifCond .lt 30, 3, .null, [41], []), (14, .aload_n 0, 1, .null, [], []), (15, .getfield 37, 3, .null, [11, 3, 1, 0, 2157], []), (18, .iload_n 2, 1, .null, [], []), (19, .invokevirtual 167, 3, .null, [30, 1, 1, 3025, 3027, 12, 1006, 3028], []), (22, .ifCond .eq 19, 3, .null, [41], []), (25, .aload_n 0, 1, .null, [], []), (26, .getfield 37, 3, .null, [11, 3, 1, 0, 2157], []), (29, .iload_n 3, 1, .null, [], []), (30, .invokevirtual 167, 3, .null, [30, 1, 1, 3025, 3027, 12, 1006, 3028], []), (33, .ifCond .eq 8, 3, .null, [41], []), (36, .iload_n 2, 1, .null, [], []), (37, .iload_n 3, 1, .null, [], []), (38, .if_icmp .ne 5, 3, .null, [43], []), (41, .iconst (-1), 1, .int (-1), [], []), (42, .ireturn, 1, .null, [1], []), (43, .aload_n 0, 1, .null, [], []), (44, .getfield 62, 3, .null, [11, 6, 1, 0, 2160], []), (47, .iload_n 2, 1, .null, [], []), (48, .iload_n 3, 1, .null, [], []), (49, .invokevirtual 306, 3, .null, [107, 2, 1, 4170, 4172, 60, 1009, 4173], []), (52, .ifCond .eq 7, 3, .null, [59], []), (55, .iconst 1, 1, .int 1, [], []), (56, .goto 4, 3, .null, [60], []), (59, .iconst 0, 1, .int 0, [], []), (60, .ireturn, 1, .null, [1], [])]
def i_c107 : List I_En := [(0, .bipush 100, 2, .int 100, [], []), (2, .aload_n 0, 1, .null, [], []), (3, .getfield 22, 3, .null, [6, 1, 1, 0, 2041], []), (6, .getfield 26, 3, .null, [1, 3, 1, 1, 1159], []), (9, .iload_n 1, 1, .null, [], []), (10, .iaload, 1, .null, [], []), (11, .imul, 1, .null, [], []), (12, .aload_n 0, 1, .null, [], []), (13, .getfield 22, 3, .null, [6, 1, 1, 0, 2041], []), (16, .getfield 31, 3, .null, [1, 2, 1, 1, 1156], []), (19, .iload_n 1, 1, .null, [], []), (20, .iaload, 1, .null, [], []), (21, .iadd, 1, .null, [], []), (22, .istore_n 3, 1, .null, [], []), (23, .aload_n 0, 1, .null, [], []), (24, .getfield 18, 3, .null, [6, 0, 1, 0, 2040], []), (27, .aload_n 0, 1, .null, [], []), (28, .getfield 22, 3, .null, [6, 1, 1, 0, 2041], []), (31, .iload_n 2, 1, .null, [], []), (32, .iload_n 3, 1, .null, [], []), (33, .aload_n 0, 1, .null, [], []), (34, .getfield 22, 3, .null, [6, 1, 1, 0, 2041], []), (37, .getfield 31, 3, .null, [1, 2, 1, 1, 1156], []), (40, .iload_n 2, 1, .null, [], []), (41, .iaload, 1, .null, [], []), (42, .invokevirtual 34, 3, .null, [66, 3, 1, 4174, 3232, 34, 1006, 3233], []), (45, .invokevirtual 38, 3, .null, [76, 1, 1, 4175, 4040, 42, 1005, 4041], []), (48, .ifCond .eq 7, 3, .null, [55], []), (51, .iconst 1, 1, .int 1, [], []), (52, .goto 4, 3, .null, [56], []), (55, .iconst 0, 1, .int 0, [], []), (56, .ireturn, 1, .null, [2], [])]
def i_c108 : List I_En := [(0, .aload_n 0, 1, .null, [], []), (1, .iload_n 1, 1, .null, [], []), (2, .invokevirtual 312, 3, .null, [109, 1, 0, 4180, 4182, 61, 1001, 4183], []), (5, .ifCond .ne 5, 3, .null, [10], []), (8, .iconst (-1), 1, .int (-1), [], []), (9, .ireturn, 1, .null, [1], []), (10, .aload_n 0, 1, .null, [], []), (11, .getfield 62, 3, .null, [11, 6, 1, 0, 2160], []), (14, .invokevirtual 315, 3, .null, [111, 0, 1, 4188, 4190, 63, 1009, 4191], []), (17, .aload_n 0, 1, .null, [], []), (18, .getfield 62, 3, .null, [11, 6, 1, 0, 2160], []), (21, .iload_n 1, 1, .null, [], []), (22, .invokevirtual 318, 3, .null, [112, 1, 1, 4193, 4195, 64, 1009, 4196], []), (25, .ireturn, 1, .null, [1], [])]
def i_c109 : List I_En := [(0, .iload_n 1, 1, .null, [], []), (1, .ifCond .lt 18, 3, .null, [19], []), (4, .iload_n 1, 1, .null, [], []), (5, .aload_n 0, 1, .null, [], []), (6, .getfield 37, 3, .null, [11, 3, 1, 0, 2157], []), (9, .invokevirtual 309, 3, .null, [110, 0, 1, 4184, 4186, 62, 1006, 4187], []), (12, .if_icmp .gt 7, 3, .null, [19], []), (15, .iconst 1, 1, .int 1, [], []), (16, .goto 4, 3, .null, [20], []), (19, .iconst 0, 1, .int 0, [], []), (20, .ireturn, 1, .null, [2], [])]
def i_c110 : List I_En := [(0, .iconst 1, 1, .int 1, [], []), (1, .aload_n 0, 1, .null, [], []), (2, .getfield 32, 3, .null, [1, 6, 0, 0, 1165], []), (5, .ishl, 1, .null, [], []), (6, .iconst 1, 1, .int 1, [], []), (7, .isub, 1, .null, [], []), (8, .ireturn, 1, .null, [1], [])]
def i_c111 : List I_En := [(0, .iconst 0, 1, .int 0, [], []), (1, .istore_n 1, 1, .null, [], []), (2, .iload_n 1, 1, .null, [], []), (3, .aload_n 0, 1, .null, [], []), (4, .getfield 22, 3, .null, [6, 1, 1, 0, 2041], []), (7, .getfield 44, 3, .null, [1, 6, 0, 1, 1167], []), (10, .if_icmp .ge 61, 3, .null, [71], []), (13, .aload_n 0, 1, .null, [], []), (14, .getfield 9, 3, .null, [6, 2, 1, 0, 2042], []), (17, .iload_n 1, 1, .null, [], []), (18, .iconst 0, 1, .int 0, [], []), (19, .iastore, 1, .null, [], []), (20, .iconst 0, 1, .int 0, [], []), (21, .istore_n 2, 1, .null, [], []), (22, .iload_n 2, 1, .null, [], []), (23, .aload_n 0, 1, .null, [], []), (24, .getfield 22, 3, .null, [6, 1, 1, 0, 2041], []), (27, .getfield 44, 3, .null, [1, 6, 0, 1, 1167], []), (30, .if_icmp .ge 35, 3, .null, [65], []), (33, .iload_n 1, 1, .null, [], []), (34, .iload_n 2, 1, .null, [], []), (35, .if_icmp .eq 24, 3, .null, [59], []), (38, .aload_n 0, 1, .null, [], []), (39, .iload_n 1, 1, .null, [], []), (40, .iload_n 2, 1, .null, [], []), (41, .invokevirtual 48, 3, .null, [107, 2, 0, 4192, 4172, 60, 1009, 4173], []), (44, .ifCond .eq 15, 3, .null, [59], []), (47, .aload_n 0, 1, .null, [], []), (48, .getfield 9, 3, .null, [6, 2, 1, 0, 2042], []), (51, .iload_n 1, 1, .null, [], []), (52, .dup2, 1, .null, [], []), (53, .iaload, 1, .null, [], []), (54, .iconst 1, 1, .int 1, [], []), (55, .iload_n 2, 1, .null, [], []), (56, .ishl, 1, .null, [], []), (57, .ior, 1, .null, [], []), (58, .iastore, 1, .null, [], []), (59, .iinc 2 1, 3, .int 1, [], []), (62, .goto (-40), 3, .null, [22], []), (65, .iinc 1 1, 3, .int 1, [], []), (68, .goto (-66), 3, .null, [2], []), (71, .return_, 1, .null, [], [])]
def i_c112 : List I_En := [(0, .iload_n 1, 1, .null, [], []), (1, .istore_n 2, 1, .null, [], []), (2, .iconst 0, 1, .int 0, [], []), (3, .istore_n 3, 1, .null, [], []), (4, .iload_n 3, 1, .null, [], []), (5, .aload_n 0, 1, .null, [], []), (6, .getfield 22, 3, .null, [6, 1, 1, 0, 2041], []), (9, .getfield 44, 3, .null, [1, 6, 0, 1, 1167], []), (12, .if_icmp .ge 49, 3, .null, [61], []), (15, .iconst 0, 1, .int 0, [], []), (16, .istore 4, 2, .null, [], []), (18, .iload 4, 2, .null, [], []), (20, .aload_n 0, 1, .null, [], []), (21, .getfield 22, 3, .null, [6, 1, 1, 0, 2041], []), (24, .getfield 44, 3, .null, [1, 6, 0, 1, 1167], []), (27, .if_icmp .ge 28, 3, .null, [55], []), (30, .iload_n 2, 1, .null, [], []), (31, .iload 4, 2, .null, [], []), (33, .invokestatic 52, 3, .null, [113, 2, 0, 4197, 4198, 0, 1009, 4199], []), (36, .ifCond .eq 13, 3, .null, [49], []), (39, .iload_n 2, 1, .null, [], []), (40, .aload_n 0, 1, .null, [], []), (41, .getfield 9, 3, .null, [6, 2, 1, 0, 2042], []), (44, .iload 4, 2, .null, [], []), (46, .iaload, 1, .null, [], []), (47, .ior, 1, .null, [], []), (48, .istore_n 2, 1, .null, [], []), (49, .iinc 4 1, 3, .int 1, [], []), (52, .goto (-34), 3, .null, [18], []), (55, .iinc 3 1, 3, .int 1, [], []), (58, .goto (-54), 3, .null, [4], []), (61, .iload_n 2, 1, .null, [], []), (62, .ireturn, 1, .null, [1], [])]
def i_c113 : List I_En := [(0, .iload_n 0, 1, .null, [], []), (1, .iload_n 1, 1, .null, [], []), (2, .ishr, 1, .null, [], []), (3, .iconst 1, 1, .int 1, [], []), (4, .iand, 1, .null, [], []), (5, .ifCond .eq 7, 3, .null, [12], []), (8, .iconst 1, 1, .int 1, [], []), (9, .goto 4, 3, .null, [13], []), (12, .iconst 0, 1, .int 0, [], []), (13, .ireturn, 1, .null, [2], [])]
def i_c114 : List I_En := [(0, .aload_n 0, 1, .null, [], []), (1, .iload_n 1, 1, .null, [], []), (2, .invokevirtual 312, 3, .null, [109, 1, 0, 4180, 4182, 61, 1001, 4183], []), (5, .ifCond .eq 12, 3, .null, [17], []), (8, .iload_n 2, 1, .null, [], []), (9, .ifCond .lt 8, 3, .null, [17], []), (12, .iload_n 2, 1, .null, [], []), (13, .iconst 1, 1, .int 1, [], []), (14, .if_icmp .le 5, 3, .null, [19], []), (17, .iconst (-1), 1, .int (-1), [], []), (18, .ireturn, 1, .null, [1], []), (19, .aload_n 0, 1, .null, [], []), (20, .getfield 62, 3, .null, [11, 6, 1, 0, 2160], []), (23, .invokevirtual 315, 3, .null, [111, 0, 1, 4188, 4190, 63, 1009, 4191], []), (26, .aload_n 0, 1, .null, [], []), (27, .getfield 62, 3, .null, [11, 6, 1, 0, 2160], []), (30, .aload_n 0, 1, .null, [], []), (31, .getfield 62, 3, .null, [11, 6, 1, 0, 2160], []), (34, .iload_n 1, 1, .null, [], []), (35, .invokevirtual 318, 3, .null, [112, 1, 1, 4193, 4195, 64, 1009, 4196], []), (38, .invokevirtual 321, 3, .null, [115, 1, 1, 4204, 4206, 65, 1009, 4207], []), (41, .iload_n 2, 1, .null, [], []), (42, .ifCond .ne 15, 3, .null, [57], []), (45, .aload_n 0, 1, .null, [], []), (46, .getfield 62, 3, .null, [11, 6, 1, 0, 2160], []), (49, .getfield 324, 3, .null, [6, 3, 1, 1, 2044], []), (52, .iload_n 1, 1, .null, [], []), (53, .iaload, 1, .null, [], []), (54, .goto 11, 3, .null, [65], []), (57, .aload_n 0, 1, .null, [], []), (58, .getfield 62, 3, .null, [11, 6, 1, 0, 2160], []), (61, .iload_n 1, 1, .null, [], []), (62, .invokevirtual 327, 3, .null, [116, 1, 1, 4210, 4212, 66, 1009, 4213], []), (65, .ireturn, 1, .null, [1], [])]
def i_c115 : List I_En := [(0, .aload_n 0, 1, .null, [], []), (1, .getfield 22, 3, .null, [6, 1, 1, 0, 2041], []), (4, .invokevirtual 55, 3, .null, [110, 0, 1, 4208, 4186, 62, 1006, 4187], []), (7, .istore_n 2, 1, .null, [], []), (8, .iload_n 2, 1, .null, [], []), (9, .ifCond .lt 95, 3, .null, [104], []), (12, .aload_n 0, 1, .null, [], []), (13, .getfield 15, 3, .null, [6, 3, 1, 0, 2043], []), (16, .iload_n 2, 1, .null, [], []), (17, .iload_n 2, 1, .null, [], []), (18, .iload_n 1, 1, .null, [], []), (19, .if_icmp .ne 7, 3, .null, [26], []), (22, .iconst 0, 1, .int 0, [], []), (23, .goto 5, 3, .null, [28], []), (26, .bipush 99, 2, .int 99, [], []), (28, .iastore, 1, .null, [], []), (29, .iconst 0, 1, .int 0, [], []), (30, .istore_n 3, 1, .null, [], []), (31, .iload_n 3, 1, .null, [], []), (32, .aload_n 0, 1, .null, [], []), (33, .getfield 22, 3, .null, [6, 1, 1, 0, 2041], []), (36, .getfield 44, 3, .null, [1, 6, 0, 1, 1167], []), (39, .if_icmp .ge 59, 3, .null, [98], []), (42, .iload_n 2, 1, .null, [], []), (43, .iload_n 3, 1, .null, [], []), (44, .invokestatic 52, 3, .null, [113, 2, 0, 4197, 4198, 0, 1009, 4199], []), (47, .ifCond .eq 45, 3, .null, [92], []), (50, .iload_n 2, 1, .null, [], []), (51, .aload_n 0, 1, .null, [], []), (52, .getfield 9, 3, .null, [6, 2, 1, 0, 2042], []), (55, .iload_n 3, 1, .null, [], []), (56, .iaload, 1, .null, [], []), (57, .ior, 1, .null, [], []), (58, .iload_n 2, 1, .null, [], []), (59, .if_icmp .eq 33, 3, .null, [92], []), (62, .aload_n 0, 1, .null, [], []), (63, .getfield 15, 3, .null, [6, 3, 1, 0, 2043], []), (66, .iload_n 2, 1, .null, [], []), (67, .aload_n 0, 1, .null, [], []), (68, .getfield 15, 3, .null, [6, 3, 1, 0, 2043], []), (71, .iload_n 2, 1, .null, [], []), (72, .iaload, 1, .null, [], []), (73, .aload_n 0, 1, .null, [], []), (74, .getfield 15, 3, .null, [6, 3, 1, 0, 2043], []), (77, .iload_n 2, 1, .null, [], []), (78, .aload_n 0, 1, .null, [], []), (79, .getfield 9, 3, .null, [6, 2, 1, 0, 2042], []), (82, .iload_n 3, 1, .null, [], []), (83, .iaload, 1, .null, [], []), (84, .ior, 1, .null, [], []), (85, .iaload, 1, .null, [], []), (86, .iconst 1, 1, .int 1, [], []), (87, .iadd, 1, .null, [], []), (88, .invokestatic 59, 3, .null, [2, 4209, 3143, 1018, 3144, 0], []), (91, .iastore, 1, .null, [], []), (92, .iinc 3 1, 3, .int 1, [], []), (95, .goto (-64), 3, .null, [31], []), (98, .iinc 2 (-1), 3, .int (-1), [], []), (101, .goto (-93), 3, .null, [8], []), (104, .return_, 1, .null, [], [])]
def i_c116 : List I_En := [(0, .iconst 0, 1, .int 0, [], []), (1, .istore_n 2, 1, .null, [], []), (2, .iload_n 1, 1, .null, [], []), (3, .istore_n 3, 1, .null, [], []), (4, .iconst 0, 1, .int 0, [], []), (5, .istore 4, 2, .null, [], []), (7, .iload 4, 2, .null, [], []), (9, .bipush 6, 2, .int 6, [], []), (11, .if_icmp .ge 45, 3, .null, [56], []), (14, .aload_n 0, 1, .null, [], []), (15, .getfield 15, 3, .null, [6, 3, 1, 0, 2043], []), (18, .iload_n 3, 1, .null, [], []), (19, .iaload, 1, .null, [], []), (20, .ifCond .le 36, 3, .null, [56], []), (23, .aload_n 0, 1, .null, [], []), (24, .iload_n 3, 1, .null, [], []), (25, .invokevirtual 65, 3, .null, [117, 1, 0, 4214, 4216, 67, 1009, 4217], []), (28, .istore 5, 2, .null, [], []), (30, .bipush 10, 2, .int 10, [], []), (32, .iload_n 2, 1, .null, [], []), (33, .imul, 1, .null, [], []), (34, .iload 5, 2, .null, [], []), (36, .iadd, 1, .null, [], []), (37, .iconst 1, 1, .int 1, [], []), (38, .iadd, 1, .null, [], []), (39, .istore_n 2, 1, .null, [], []), (40, .iload_n 3, 1, .null, [], []), (41, .aload_n 0, 1, .null, [], []), (42, .getfield 9, 3, .null, [6, 2, 1, 0, 2042], []), (45, .iload 5, 2, .null, [], []), (47, .iaload, 1, .null, [], []), (48, .ior, 1, .null, [], []), (49, .istore_n 3, 1, .null, [], []), (50, .iinc 4 1, 3, .int 1, [], []), (53, .goto (-46), 3, .null, [7], []), (56, .iload_n 2, 1, .null, [], []), (57, .ireturn, 1, .null, [1], [])]
def i_c117 : List I_En := [(0, .iconst 0, 1, .int 0, [], []), (1, .istore_n 2, 1, .null, [], []), (2, .iload_n 2, 1, .null, [], []), (3, .aload_n 0, 1, .null, [], []), (4, .getfield 22, 3, .null, [6, 1, 1, 0, 2041], []), (7, .getfield 44, 3, .null, [1, 6, 0, 1, 1167], []), (10, .if_icmp .ge 43, 3, .null, [53], []), (13, .iload_n 1, 1, .null, [], []), (14, .iload_n 2, 1, .null, [], []), (15, .invokestatic 52, 3, .null, [113, 2, 0, 4197, 4198, 0, 1009, 4199], []), (18, .ifCond .eq 29, 3, .null, [47], []), (21, .aload_n 0, 1, .null, [], []), (22, .getfield 15, 3, .null, [6, 3, 1, 0, 2043], []), (25, .iload_n 1, 1, .null, [], []), (26, .aload_n 0, 1, .null, [], []), (27, .getfield 9, 3, .null, [6, 2, 1, 0, 2042], []), (30, .iload_n 2, 1, .null, [], []), (31, .iaload, 1, .null, [], []), (32, .ior, 1, .null, [], []), (33, .iaload, 1, .null, [], []), (34, .aload_n 0, 1, .null, [], []), (35, .getfield 15, 3, .null, [6, 3, 1, 0, 2043], []), (38, .iload_n 1, 1, .null, [], []), (39, .iaload, 1, .null, [], []), (40, .iconst 1, 1, .int 1, [], []), (41, .isub, 1, .null, [], []), (42, .if_icmp .ne 5, 3, .null, [47], []), (45, .iload_n 2, 1, .null, [], []), (46, .ireturn, 1, .null, [1], []), (47, .iinc 2 1, 3, .int 1, [], []), (50, .goto (-48), 3, .null, [2], []), (53, .iconst 0, 1, .int 0, [], []), (54, .ireturn, 1, .null, [1], [])]
def i_c118 : List I_En := [(0, .aload_n 0, 1, .null, [], []), (1, .getfield 37, 3, .null, [11, 3, 1, 0, 2157], []), (4, .getfield 101, 3, .null, [1, 6, 0, 1, 1166], []), (7, .ifCond .ne 6, 3, .null, [13], []), (10, .bipush (-5), 2, .int (-5), [], []), (12, .ireturn, 1, .null, [1], []), (13, .aload_n 0, 1, .null, [], []), (14, .getfield 62, 3, .null, [11, 6, 1, 0, 2160], []), (17, .invokevirtual 315, 3, .null, [111, 0, 1, 4188, 4190, 63, 1009, 4191], []), (20, .aload_n 0, 1, .null, [], []), (21, .getfield 62, 3, .null, [11, 6, 1, 0, 2160], []), (24, .invokevirtual 330, 3, .null, [119, 0, 1, 4222, 4224, 68, 1009, 4225], []), (27, .ireturn, 1, .null, [1], [])]
def i_c119 : List I_En := [(0, .aload_n 0, 1, .null, [], []), (1, .getfield 22, 3, .null, [6, 1, 1, 0, 2041], []), (4, .invokevirtual 55, 3, .null, [110, 0, 1, 4208, 4186, 62, 1006, 4187], []), (7, .istore_n 1, 1, .null, [], []), (8, .iload_n 1, 1, .null, [], []), (9, .istore_n 2, 1, .null, [], []), (10, .iconst 1, 1, .int 1, [], []), (11, .istore_n 3, 1, .null, [], []), (12, .iload_n 3, 1, .null, [], []), (13, .iload_n 1, 1, .null, [], []), (14, .if_icmp .gt 31, 3, .null, [45], []), (17, .aload_n 0, 1, .null, [], []), (18, .iload_n 3, 1, .null, [], []), (19, .invokevirtual 68, 3, .null, [112, 1, 0, 4226, 4195, 64, 1009, 4196], []), (22, .iload_n 1, 1, .null, [], []), (23, .if_icmp .ne 16, 3, .null, [39], []), (26, .iload_n 3, 1, .null, [], []), (27, .invokestatic 71, 3, .null, [105, 1, 0, 4227, 4161, 0, 1022, 4162], []), (30, .iload_n 2, 1, .null, [], []), (31, .invokestatic 71, 3, .null, [105, 1, 0, 4227, 4161, 0, 1022, 4162], []), (34, .if_icmp .ge 5, 3, .null, [39], []), (37, .iload_n 3, 1, .null, [], []), (38, .istore_n 2, 1, .null, [], []), (39, .iinc 3 1, 3, .int 1, [], []), (42, .goto (-30), 3, .null, [12], []), (45, .iload_n 2, 1, .null, [], []), (46, .ireturn, 1, .null, [1], [])]
def i_c120 : List I_En := [(0, .iload_n 1, 1, .null, [], []), (1, .ifCond .lt 20, 3, .null, [21], []), (4, .iload_n 1, 1, .null, [], []), (5, .bipush 6, 2, .int 6, [], []), (7, .if_icmp .ge 14, 3, .null, [21], []), (10, .iload_n 2, 1, .null, [], []), (11, .ifCond .lt 10, 3, .null, [21], []), (14, .iload_n 2, 1, .null, [], []), (15, .sipush 9999, 3, .int 9999, [], []), (18, .if_icmp .le 5, 3, .null, [23], []), (21, .iconst (-1), 1, .int (-1), [], []), (22, .ireturn, 1, .null, [1], []), (23, .aload_n 0, 1, .null, [], []), (24, .getfield 76, 3, .null, [11, 8, 1, 0, 2162], []), (27, .getfield 333, 3, .null, [10, 0, 1, 1, 2092], []), (30, .iload_n 1, 1, .null, [], []), (31, .iaload, 1, .null, [], []), (32, .istore_n 3, 1, .null, [], []), (33, .aload_n 0, 1, .null, [], []), (34, .getfield 76, 3, .null, [11, 8, 1, 0, 2162], []), (37, .getfield 333, 3, .null, [10, 0, 1, 1, 2092], []), (40, .iload_n 1, 1, .null, [], []), (41, .iload_n 2, 1, .null, [], []), (42, .iastore, 1, .null, [], []), (43, .iload_n 3, 1, .null, [], []), (44, .ireturn, 1, .null, [1], [])]
def i_c121 : List I_En := [(0, .aload_n 0, 1, .null, [], []), (1, .getfield 90, 3, .null, [11, 10, 1, 0, 2164], []), (4, .iload_n 1, 1, .null, [], []), (5, .invokevirtual 127, 3, .null, [24, 1, 1, 3000, 3002, 7, 1013, 3003], []), (8, .ifCond .eq 12, 3, .null, [20], []), (11, .iload_n 2, 1, .null, [], []), (12, .ifCond .lt 8, 3, .null, [20], []), (15, .iload_n 2, 1, .null, [], []), (16, .iconst 1, 1, .int 1, [], []), (17, .if_icmp .le 5, 3, .null, [22], []), (20, .iconst (-1), 1, .int (-1), [], []), (21, .ireturn, 1, .null, [1], []), (22, .aload_n 0, 1, .null, [], []), (23, .getfield 90, 3, .null, [11, 10, 1, 0, 2164], []), (26, .getfield 130, 3, .null, [8, 0, 1, 1, 2137], []), (29, .iload_n 1, 1, .null, [], []), (30, .iaload, 1, .null, [], []), (31, .iconst (-1), 1, .int (-1), [], []), (32, .if_icmp .ne 6, 3, .null, [38], []), (35, .bipush (-11), 2, .int (-11), [], []), (37, .ireturn, 1, .null, [1], []), (38, .aload_n 0, 1, .null, [], []), (39, .getfield 90, 3, .null, [11, 10, 1, 0, 2164], []), (42, .getfield 130, 3, .null, [8, 0, 1, 1, 2137], []), (45, .iload_n 1, 1, .null, [], []), (46, .iaload, 1, .null, [], []), (47, .ifCond .eq 6, 3, .null, [53], []), (50, .bipush (-12), 2, .int (-12), [], []), (52, .ireturn, 1, .null, [1], []), (53, .aload_n 0, 1, .null, [], []), (54, .getfield 90, 3, .null, [11, 10, 1, 0, 2164], []), (57, .getfield 336, 3, .null, [8, 1, 1, 1, 2140], []), (60, .iload_n 1, 1, .null, [], []), (61, .iaload, 1, .null, [], []), (62, .iconst 4, 1, .int 4, [], []), (63, .if_icmp .ge 6, 3, .null, [69], []), (66, .bipush (-2), 2, .int (-2), [], []), (68, .ireturn, 1, .null, [1], []), (69, .aload_n 0, 1, .null, [], []), (70, .getfield 76, 3, .null, [11, 8, 1, 0, 2162], []), (73, .aload_n 0, 1, .null, [], []), (74, .getfield 90, 3, .null, [11, 10, 1, 0, 2164], []), (77, .iload_n 1, 1, .null, [], []), (78, .invokevirtual 338, 3, .null, [122, 2, 1, 4236, 4238, 69, 1011, 4239], []), (81, .iload_n 2, 1, .null, [], []), (82, .ifCond .ne 13, 3, .null, [95], []), (85, .aload_n 0, 1, .null, [], []), (86, .getfield 76, 3, .null, [11, 8, 1, 0, 2162], []), (89, .getfield 342, 3, .null, [10, 1, 0, 1, 2094], []), (92, .goto 10, 3, .null, [102], []), (95, .aload_n 0, 1, .null, [], []), (96, .getfield 76, 3, .null, [11, 8, 1, 0, 2162], []), (99, .getfield 345, 3, .null, [10, 2, 0, 1, 2096], []), (102, .ireturn, 1, .null, [1], [])]
def i_c122 : List I_En := [(0, .aload_n 0, 1, .null, [], []), (1, .bipush (-2), 2, .int (-2), [], []), (3, .putfield 15, 3, .null, [10, 1, 0, 0, 2093], []), (6, .aload_n 0, 1, .null, [], []), (7, .ldc 21, 2, .int 2147483647, [0, 5000], []), (9, .putfield 22, 3, .null, [10, 2, 0, 0, 2095], []), (12, .iconst 0, 1, .int 0, [], []), (13, .istore_n 3, 1, .null, [], []), (14, .iload_n 3, 1, .null, [], []), (15, .bipush 6, 2, .int 6, [], []), (17, .if_icmp .ge 66, 3, .null, [83], []), (20, .iconst 0, 1, .int 0, [], []), (21, .istore 4, 2, .null, [], []), (23, .iload 4, 2, .null, [], []), (25, .iconst 4, 1, .int 4, [], []), (26, .iadd, 1, .null, [], []), (27, .aload_n 1, 1, .null, [], []), (28, .getfield 25, 3, .null, [8, 1, 1, 1, 2139], []), (31, .iload_n 2, 1, .null, [], []), (32, .iaload, 1, .null, [], []), (33, .if_icmp .gt 44, 3, .null, [77], []), (36, .aload_n 1, 1, .null, [], []), (37, .iload_n 2, 1, .null, [], []), (38, .iload 4, 2, .null, [], []), (40, .aload_n 0, 1, .null, [], []), (41, .getfield 11, 3, .null, [10, 0, 1, 0, 2091], []), (44, .iload_n 3, 1, .null, [], []), (45, .iaload, 1, .null, [], []), (46, .invokestatic 30, 3, .null, [123, 4, 0, 5001, 5002, 0, 1011, 5003], []), (49, .istore 5, 2, .null, [], []), (51, .iload 5, 2, .null, [], []), (53, .aload_n 0, 1, .null, [], []), (54, .getfield 22, 3, .null, [10, 2, 0, 0, 2095], []), (57, .if_icmp .ge 14, 3, .null, [71], []), (60, .aload_n 0, 1, .null, [], []), (61, .iload_n 3, 1, .null, [], []), (62, .putfield 15, 3, .null, [10, 1, 0, 0, 2093], []), (65, .aload_n 0, 1, .null, [], []), (66, .iload 5, 2, .null, [], []), (68, .putfield 22, 3, .null, [10, 2, 0, 0, 2095], []), (71, .iinc 4 1, 3, .int 1, [], []), (74, .goto (-51), 3, .null, [23], []), (77, .iinc 3 1, 3, .int 1, [], []), (80, .goto (-66), 3, .null, [14], []), (83, .return_, 1, .null, [], [])]
def i_c123 : List I_En := [(0, .iconst 0, 1, .int 0, [], []), (1, .istore 4, 2, .null, [], []), (3, .iload_n 3, 1, .null, [], []), (4, .istore 5, 2, .null, [], []), (6, .iconst 3, 1, .int 3, [], []), (7, .istore 6, 2, .null, [], []), (9, .iload 6, 2, .null, [], []), (11, .ifCond .lt 40, 3, .null, [51], []), (14, .iload 4, 2, .null, [], []), (16, .aload_n 0, 1, .null, [], []), (17, .iload_n 1, 1, .null, [], []), (18, .iload_n 2, 1, .null, [], []), (19, .iload 6, 2, .null, [], []), (21, .iadd, 1, .null, [], []), (22, .invokevirtual 34, 3, .null, [27, 2, 1, 5004, 3014, 10, 1013, 3015], []), (25, .l2i, 1, .null, [], []), (26, .iload 5, 2, .null, [], []), (28, .bipush 10, 2, .int 10, [], []), (30, .irem, 1, .null, [], []), (31, .isub, 1, .null, [], []), (32, .invokestatic 38, 3, .null, [3, 5005, 3239, 1018, 4000, 0], []), (35, .iadd, 1, .null, [], []), (36, .istore 4, 2, .null, [], []), (38, .iload 5, 2, .null, [], []), (40, .bipush 10, 2, .int 10, [], []), (42, .idiv, 1, .null, [], []), (43, .istore 5, 2, .null, [], []), (45, .iinc 6 (-1), 3, .int (-1), [], []), (48, .goto (-39), 3, .null, [9], []), (51, .iload 4, 2, .null, [], []), (53, .ireturn, 1, .null, [1], [])]
def i_c124 : List I_En := [(0, .iload_n 2, 1, .null, [], []), (1, .iconst 1, 1, .int 1, [], []), (2, .if_icmp .lt 9, 3, .null, [11], []), (5, .iload_n 2, 1, .null, [], []), (6, .bipush 30, 2, .int 30, [], []), (8, .if_icmp .le 5, 3, .null, [13], []), (11, .iconst (-1), 1, .int (-1), [], []), (12, .ireturn, 1, .null, [1], []), (13, .iload_n 1, 1, .null, [], []), (14, .istore_n 3, 1, .null, [], []), (15, .iconst 0, 1, .int 0, [], []), (16, .istore 4, 2, .null, [], []), (18, .iload 4, 2, .null, [], []), (20, .iload_n 2, 1, .null, [], []), (21, .if_icmp .ge 27, 3, .null, [48], []), (24, .aload_n 0, 1, .null, [], []), (25, .getfield 37, 3, .null, [11, 3, 1, 0, 2157], []), (28, .iload_n 3, 1, .null, [], []), (29, .invokevirtual 348, 3, .null, [125, 1, 1, 5010, 5012, 70, 1006, 5013], []), (32, .istore_n 3, 1, .null, [], []), (33, .aload_n 0, 1, .null, [], []), (34, .getfield 10, 3, .null, [11, 0, 1, 0, 2154], []), (37, .iload_n 3, 1, .null, [], []), (38, .invokevirtual 351, 3, .null, [128, 1, 1, 5023, 5025, 71, 1002, 5026], []), (41, .istore_n 3, 1, .null, [], []), (42, .iinc 4 1, 3, .int 1, [], []), (45, .goto (-27), 3, .null, [18], []), (48, .aload_n 0, 1, .null, [], []), (49, .getfield 37, 3, .null, [11, 3, 1, 0, 2157], []), (52, .invokevirtual 354, 3, .null, [129, 0, 1, 5030, 5032, 72, 1006, 5033], []), (55, .ireturn, 1, .null, [1], [])]
def i_c125 : List I_En := [(0, .iload_n 1, 1, .null, [], []), (1, .istore_n 2, 1, .null, [], []), (2, .iconst 0, 1, .int 0, [], []), (3, .istore_n 3, 1, .null, [], []), (4, .iload_n 3, 1, .null, [], []), (5, .aload_n 0, 1, .null, [], []), (6, .getfield 32, 3, .null, [1, 6, 0, 0, 1165], []), (9, .if_icmp .ge 79, 3, .null, [88], []), (12, .iload_n 2, 1, .null, [], []), (13, .invokestatic 80, 3, .null, [126, 1, 1, 5014, 5015, 0, 1001, 5016], []), (16, .istore_n 2, 1, .null, [], []), (17, .iload_n 2, 1, .null, [], []), (18, .invokestatic 83, 3, .null, [127, 1, 1, 5018, 5019, 0, 1001, 5020], []), (21, .istore 4, 2, .null, [], []), (23, .iload 4, 2, .null, [], []), (25, .aload_n 0, 1, .null, [], []), (26, .getfield 24, 3, .null, [1, 0, 1, 0, 1153], []), (29, .getfield 86, 3, .null, [4, 6, 0, 1, 1060], []), (32, .if_icmp .ge 25, 3, .null, [57], []), (35, .aload_n 0, 1, .null, [], []), (36, .getfield 18, 3, .null, [1, 4, 1, 0, 1161], []), (39, .iload_n 3, 1, .null, [], []), (40, .aload_n 0, 1, .null, [], []), (41, .getfield 18, 3, .null, [1, 4, 1, 0, 1161], []), (44, .iload_n 3, 1, .null, [], []), (45, .iaload, 1, .null, [], []), (46, .iconst 1, 1, .int 1, [], []), (47, .iadd, 1, .null, [], []), (48, .bipush 9, 2, .int 9, [], []), (50, .invokestatic 89, 3, .null, [2, 5021, 3143, 1018, 3144, 0], []), (53, .iastore, 1, .null, [], []), (54, .goto 28, 3, .null, [82], []), (57, .iload 4, 2, .null, [], []), (59, .bipush 10, 2, .int 10, [], []), (61, .if_icmp .le 21, 3, .null, [82], []), (64, .aload_n 0, 1, .null, [], []), (65, .getfield 18, 3, .null, [1, 4, 1, 0, 1161], []), (68, .iload_n 3, 1, .null, [], []), (69, .aload_n 0, 1, .null, [], []), (70, .getfield 18, 3, .null, [1, 4, 1, 0, 1161], []), (73, .iload_n 3, 1, .null, [], []), (74, .iaload, 1, .null, [], []), (75, .iconst 1, 1, .int 1, [], []), (76, .isub, 1, .null, [], []), (77, .iconst 0, 1, .int 0, [], []), (78, .invokestatic 92, 3, .null, [1, 5022, 3140, 1018, 3141, 0], []), (81, .iastore, 1, .null, [], []), (82, .iinc 3 1, 3, .int 1, [], []), (85, .goto (-81), 3, .null, [4], []), (88, .iload_n 2, 1, .null, [], []), (89, .ireturn, 1, .null, [1], [])]
def i_c126 : List I_En := [(0, .iload_n 0, 1, .null, [], []), (1, .ldc_w 357, 3, .int 1103515245, [0, 5017], []), (4, .imul, 1, .null, [], []), (5, .sipush 12345, 3, .int 12345, [], []), (8, .iadd, 1, .null, [], []), (9, .ireturn, 1, .null, [1], [])]
def i_c127 : List I_En := [(0, .iload_n 0, 1, .null, [], []), (1, .bipush 8, 2, .int 8, [], []), (3, .iushr, 1, .null, [], []), (4, .bipush 12, 2, .int 12, [], []), (6, .irem, 1, .null, [], []), (7, .ireturn, 1, .null, [1], [])]
def i_c128 : List I_En := [(0, .iload_n 1, 1, .null, [], []), (1, .istore_n 2, 1, .null, [], []), (2, .iconst 0, 1, .int 0, [], []), (3, .istore_n 3, 1, .null, [], []), (4, .iload_n 3, 1, .null, [], []), (5, .aload_n 0, 1, .null, [], []), (6, .invokevirtual 47, 3, .null, [21, 0, 0, 2228, 2230, 5, 1002, 2231], []), (9, .if_icmp .ge 44, 3, .null, [53], []), (12, .iload_n 2, 1, .null, [], []), (13, .invokestatic 61, 3, .null, [126, 1, 1, 5027, 5015, 0, 1001, 5016], []), (16, .istore_n 2, 1, .null, [], []), (17, .iload_n 2, 1, .null, [], []), (18, .invokestatic 64, 3, .null, [127, 1, 1, 5028, 5019, 0, 1001, 5020], []), (21, .aload_n 0, 1, .null, [], []), (22, .getfield 67, 3, .null, [4, 6, 0, 0, 1058], []), (25, .if_icmp .ge 22, 3, .null, [47], []), (28, .aload_n 0, 1, .null, [], []), (29, .getfield 18, 3, .null, [4, 4, 1, 0, 1050], []), (32, .iload_n 3, 1, .null, [], []), (33, .aload_n 0, 1, .null, [], []), (34, .getfield 18, 3, .null, [4, 4, 1, 0, 1050], []), (37, .iload_n 3, 1, .null, [], []), (38, .iaload, 1, .null, [], []), (39, .iconst 1, 1, .int 1, [], []), (40, .iadd, 1, .null, [], []), (41, .bipush 9, 2, .int 9, [], []), (43, .invokestatic 70, 3, .null, [2, 5029, 3143, 1018, 3144, 0], []), (46, .iastore, 1, .null, [], []), (47, .iinc 3 1, 3, .int 1, [], []), (50, .goto (-46), 3, .null, [4], []), (53, .iload_n 2, 1, .null, [], []), (54, .ireturn, 1, .null, [1], [])]
def i_c129 : List I_En := [(0, .iconst 0, 1, .int 0, [], []), (1, .istore_n 1, 1, .null, [], []), (2, .iconst 0, 1, .int 0, [], []), (3, .istore_n 2, 1, .null, [], []), (4, .iload_n 2, 1, .null, [], []), (5, .aload_n 0, 1, .null, [], []), (6, .getfield 32, 3, .null, [1, 6, 0, 0, 1165], []), (9, .if_icmp .ge 18, 3, .null, [27], []), (12, .iload_n 1, 1, .null, [], []), (13, .aload_n 0, 1, .null, [], []), (14, .getfield 18, 3, .null, [1, 4, 1, 0, 1161], []), (17, .iload_n 2, 1, .null, [], []), (18, .iaload, 1, .null, [], []), (19, .iadd, 1, .null, [], []), (20, .istore_n 1, 1, .null, [], []), (21, .iinc 2 1, 3, .int 1, [], []), (24, .goto (-20), 3, .null, [4], []), (27, .iload_n 1, 1, .null, [], []), (28, .ireturn, 1, .null, [1], [])]
def i_c130 : List I_En := [(0, .aload_n 0, 1, .null, [], []), (1, .getfield 10, 3, .null, [11, 0, 1, 0, 2154], []), (4, .iload_n 1, 1, .null, [], []), (5, .invokevirtual 164, 3, .null, [20, 1, 1, 3024, 2226, 4, 1002, 2227], []), (8, .ifCond .eq 13, 3, .null, [21], []), (11, .iload_n 2, 1, .null, [], []), (12, .ifCond .lt 9, 3, .null, [21], []), (15, .iload_n 2, 1, .null, [], []), (16, .bipush 9, 2, .int 9, [], []), (18, .if_icmp .le 5, 3, .null, [23], []), (21, .iconst (-1), 1, .int (-1), [], []), (22, .ireturn, 1, .null, [1], []), (23, .aload_n 0, 1, .null, [], []), (24, .getfield 37, 3, .null, [11, 3, 1, 0, 2157], []), (27, .iload_n 1, 1, .null, [], []), (28, .iload_n 2, 1, .null, [], []), (29, .invokevirtual 358, 3, .null, [131, 2, 1, 5038, 5040, 73, 1006, 5041], []), (32, .ireturn, 1, .null, [1], [])]
def i_c131 : List I_En := [(0, .aload_n 0, 1, .null, [], []), (1, .dup, 1, .null, [], []), (2, .getfield 74, 3, .null, [1, 8, 0, 0, 1170], []), (5, .aload_n 0, 1, .null, [], []), (6, .getfield 24, 3, .null, [1, 0, 1, 0, 1153], []), (9, .getfield 77, 3, .null, [4, 5, 1, 1, 1054], []), (12, .iload_n 1, 1, .null, [], []), (13, .iaload, 1, .null, [], []), (14, .iadd, 1, .null, [], []), (15, .putfield 74, 3, .null, [1, 8, 0, 0, 1170], []), (18, .aload_n 0, 1, .null, [], []), (19, .iload_n 1, 1, .null, [], []), (20, .invokevirtual 45, 3, .null, [22, 1, 0, 2232, 2234, 6, 1006, 2235], []), (23, .istore_n 3, 1, .null, [], []), (24, .iload_n 3, 1, .null, [], []), (25, .bipush (-2), 2, .int (-2), [], []), (27, .if_icmp .eq 21, 3, .null, [48], []), (30, .aload_n 0, 1, .null, [], []), (31, .iload_n 3, 1, .null, [], []), (32, .invokevirtual 64, 3, .null, [38, 1, 0, 4036, 3064, 19, 1006, 3065], []), (35, .ifCond .ne 13, 3, .null, [48], []), (38, .aload_n 0, 1, .null, [], []), (39, .getfield 18, 3, .null, [1, 4, 1, 0, 1161], []), (42, .iload_n 3, 1, .null, [], []), (43, .iaload, 1, .null, [], []), (44, .iload_n 2, 1, .null, [], []), (45, .if_icmp .le 6, 3, .null, [51], []), (48, .bipush (-2), 2, .int (-2), [], []), (50, .ireturn, 1, .null, [1], []), (51, .aload_n 0, 1, .null, [], []), (52, .dup, 1, .null, [], []), (53, .getfield 36, 3, .null, [1, 7, 0, 0, 1168], []), (56, .iconst 1, 1, .int 1, [], []), (57, .iload_n 3, 1, .null, [], []), (58, .ishl, 1, .null, [], []), (59, .ior, 1, .null, [], []), (60, .putfield 36, 3, .null, [1, 7, 0, 0, 1168], []), (63, .iload_n 3, 1, .null, [], []), (64, .ireturn, 1, .null, [1], [])]
def i_c132 : List I_En := [(0, .iload_n 1, 1, .null, [], []), (1, .ifCond .lt 8, 3, .null, [9], []), (4, .iload_n 1, 1, .null, [], []), (5, .iconst 1, 1, .int 1, [], []), (6, .if_icmp .le 5, 3, .null, [11], []), (9, .iconst (-1), 1, .int (-1), [], []), (10, .ireturn, 1, .null, [1], []), (11, .iconst 0, 1, .int 0, [], []), (12, .istore_n 2, 1, .null, [], []), (13, .bipush (-2), 2, .int (-2), [], []), (15, .istore_n 3, 1, .null, [], []), (16, .aload_n 0, 1, .null, [], []), (17, .getfield 44, 3, .null, [11, 4, 1, 0, 2158], []), (20, .getfield 256, 3, .null, [3, 3, 0, 1, 1208], []), (23, .iconst 1, 1, .int 1, [], []), (24, .isub, 1, .null, [], []), (25, .istore 4, 2, .null, [], []), (27, .iload 4, 2, .null, [], []), (29, .ifCond .lt 62, 3, .null, [91], []), (32, .aload_n 0, 1, .null, [], []), (33, .getfield 37, 3, .null, [11, 3, 1, 0, 2157], []), (36, .aload_n 0, 1, .null, [], []), (37, .getfield 44, 3, .null, [11, 4, 1, 0, 2158], []), (40, .getfield 218, 3, .null, [3, 0, 1, 1, 1199], []), (43, .iload 4, 2, .null, [], []), (45, .iaload, 1, .null, [], []), (46, .aload_n 0, 1, .null, [], []), (47, .getfield 44, 3, .null, [11, 4, 1, 0, 2158], []), (50, .getfield 221, 3, .null, [3, 1, 1, 1, 1202], []), (53, .iload 4, 2, .null, [], []), (55, .iaload, 1, .null, [], []), (56, .invokevirtual 251, 3, .null, [75, 2, 1, 4032, 4034, 41, 1006, 4035], []), (59, .aload_n 0, 1, .null, [], []), (60, .getfield 44, 3, .null, [11, 4, 1, 0, 2158], []), (63, .getfield 222, 3, .null, [3, 2, 1, 1, 1205], []), (66, .iload 4, 2, .null, [], []), (68, .iaload, 1, .null, [], []), (69, .if_icmp .ne 13, 3, .null, [82], []), (72, .iload_n 2, 1, .null, [], []), (73, .iconst 1, 1, .int 1, [], []), (74, .iload 4, 2, .null, [], []), (76, .ishl, 1, .null, [], []), (77, .ior, 1, .null, [], []), (78, .istore_n 2, 1, .null, [], []), (79, .goto 6, 3, .null, [85], []), (82, .iload 4, 2, .null, [], []), (84, .istore_n 3, 1, .null, [], []), (85, .iinc 4 (-1), 3, .int (-1), [], []), (88, .goto (-61), 3, .null, [27], []), (91, .iload_n 1, 1, .null, [], []), (92, .ifCond .ne 7, 3, .null, [99], []), (95, .iload_n 3, 1, .null, [], []), (96, .goto 4, 3, .null, [100], []), (99, .iload_n 2, 1, .null, [], []), (100, .ireturn, 1, .null, [1], [])]
def i_c133 : List I_En := [(0, .aload_n 0, 1, .null, [], []), (1, .getfield 94, 3, .null, [11, 11, 1, 0, 2165], []), (4, .aload_n 0, 1, .null, [], []), (5, .getfield 44, 3, .null, [11, 4, 1, 0, 2158], []), (8, .invokevirtual 361, 3, .null, [134, 1, 1, 5050, 5052, 74, 1007, 5053], []), (11, .aload_n 0, 1, .null, [], []), (12, .aload_n 0, 1, .null, [], []), (13, .getfield 37, 3, .null, [11, 3, 1, 0, 2157], []), (16, .getfield 365, 3, .null, [1, 7, 0, 1, 1169], []), (19, .putfield 368, 3, .null, [11, 12, 0, 0, 2166], []), (22, .aload_n 0, 1, .null, [], []), (23, .aload_n 0, 1, .null, [], []), (24, .getfield 37, 3, .null, [11, 3, 1, 0, 2157], []), (27, .getfield 214, 3, .null, [1, 8, 0, 1, 1171], []), (30, .putfield 371, 3, .null, [11, 13, 0, 0, 2167], []), (33, .aload_n 0, 1, .null, [], []), (34, .iconst 1, 1, .int 1, [], []), (35, .putfield 119, 3, .null, [11, 14, 2, 0, 2168], []), (38, .aload_n 0, 1, .null, [], []), (39, .getfield 44, 3, .null, [11, 4, 1, 0, 2158], []), (42, .getfield 256, 3, .null, [3, 3, 0, 1, 1208], []), (45, .ireturn, 1, .null, [1], [])]
def i_c134 : List I_En := [(0, .aload_n 0, 1, .null, [], []), (1, .aload_n 1, 1, .null, [], []), (2, .getfield 21, 3, .null, [3, 3, 0, 0, 1206], []), (5, .putfield 21, 3, .null, [3, 3, 0, 0, 1206], []), (8, .aload_n 1, 1, .null, [], []), (9, .getfield 9, 3, .null, [3, 0, 1, 0, 1197], []), (12, .iconst 0, 1, .int 0, [], []), (13, .aload_n 0, 1, .null, [], []), (14, .getfield 9, 3, .null, [3, 0, 1, 0, 1197], []), (17, .iconst 0, 1, .int 0, [], []), (18, .aload_n 0, 1, .null, [], []), (19, .getfield 21, 3, .null, [3, 3, 0, 0, 1206], []), (22, .invokestatic 25, 3, .null, [998, 5054, 3045, 3044, 1015], []), (25, .aload_n 1, 1, .null, [], []), (26, .getfield 15, 3, .null, [3, 1, 1, 0, 1200], []), (29, .iconst 0, 1, .int 0, [], []), (30, .aload_n 0, 1, .null, [], []), (31, .getfield 15, 3, .null, [3, 1, 1, 0, 1200], []), (34, .iconst 0, 1, .int 0, [], []), (35, .aload_n 0, 1, .null, [], []), (36, .getfield 21, 3, .null, [3, 3, 0, 0, 1206], []), (39, .invokestatic 25, 3, .null, [998, 5054, 3045, 3044, 1015], []), (42, .aload_n 1, 1, .null, [], []), (43, .getfield 18, 3, .null, [3, 2, 1, 0, 1203], []), (46, .iconst 0, 1, .int 0, [], []), (47, .aload_n 0, 1, .null, [], []), (48, .getfield 18, 3, .null, [3, 2, 1, 0, 1203], []), (51, .iconst 0, 1, .int 0, [], []), (52, .aload_n 0, 1, .null, [], []), (53, .getfield 21, 3, .null, [3, 3, 0, 0, 1206], []), (56, .invokestatic 25, 3, .null, [998, 5054, 3045, 3044, 1015], []), (59, .return_, 1, .null, [], [])]
def i_c135 : List I_En := [(0, .aload_n 0, 1, .null, [], []), (1, .getfield 119, 3, .null, [11, 14, 2, 0, 2168], []), (4, .ifCond .ne 6, 3, .null, [10], []), (7, .bipush (-5), 2, .int (-5), [], []), (9, .ireturn, 1, .null, [1], []), (10, .aload_n 0, 1, .null, [], []), (11, .getfield 44, 3, .null, [11, 4, 1, 0, 2158], []), (14, .aload_n 0, 1, .null, [], []), (15, .getfield 94, 3, .null, [11, 11, 1, 0, 2165], []), (18, .invokevirtual 361, 3, .null, [134, 1, 1, 5050, 5052, 74, 1007, 5053], []), (21, .aload_n 0, 1, .null, [], []), (22, .getfield 37, 3, .null, [11, 3, 1, 0, 2157], []), (25, .aload_n 0, 1, .null, [], []), (26, .getfield 368, 3, .null, [11, 12, 0, 0, 2166], []), (29, .putfield 365, 3, .null, [1, 7, 0, 1, 1169], []), (32, .aload_n 0, 1, .null, [], []), (33, .getfield 37, 3, .null, [11, 3, 1, 0, 2157], []), (36, .aload_n 0, 1, .null, [], []), (37, .getfield 371, 3, .null, [11, 13, 0, 0, 2167], []), (40, .putfield 214, 3, .null, [1, 8, 0, 1, 1171], []), (43, .aload_n 0, 1, .null, [], []), (44, .getfield 44, 3, .null, [11, 4, 1, 0, 2158], []), (47, .getfield 256, 3, .null, [3, 3, 0, 1, 1208], []), (50, .ireturn, 1, .null, [1], [])]
def i_c136 : List I_En := [(0, .aload_n 0, 1, .null, [], []), (1, .getfield 69, 3, .null, [11, 7, 1, 0, 2161], []), (4, .getfield 374, 3, .null, [2, 4, 0, 1, 2069], []), (7, .ifCond .ne 6, 3, .null, [13], []), (10, .bipush (-5), 2, .int (-5), [], []), (12, .ireturn, 1, .null, [1], []), (13, .aload_n 0, 1, .null, [], []), (14, .getfield 69, 3, .null, [11, 7, 1, 0, 2161], []), (17, .invokevirtual 377, 3, .null, [137, 0, 1, 5063, 5065, 75, 1010, 5066], []), (20, .aload_n 0, 1, .null, [], []), (21, .getfield 69, 3, .null, [11, 7, 1, 0, 2161], []), (24, .getfield 374, 3, .null, [2, 4, 0, 1, 2069], []), (27, .istore_n 1, 1, .null, [], []), (28, .aload_n 0, 1, .null, [], []), (29, .aload_n 0, 1, .null, [], []), (30, .getfield 69, 3, .null, [11, 7, 1, 0, 2161], []), (33, .getfield 380, 3, .null, [2, 0, 1, 1, 2061], []), (36, .iload_n 1, 1, .null, [], []), (37, .iaload, 1, .null, [], []), (38, .aload_n 0, 1, .null, [], []), (39, .getfield 69, 3, .null, [11, 7, 1, 0, 2161], []), (42, .getfield 383, 3, .null, [2, 1, 1, 1, 2063], []), (45, .iload_n 1, 1, .null, [], []), (46, .iaload, 1, .null, [], []), (47, .aload_n 0, 1, .null, [], []), (48, .getfield 69, 3, .null, [11, 7, 1, 0, 2161], []), (51, .getfield 386, 3, .null, [2, 2, 1, 1, 2065], []), (54, .iload_n 1, 1, .null, [], []), (55, .iaload, 1, .null, [], []), (56, .invokevirtual 160, 3, .null, [34, 3, 0, 3046, 3048, 16, 1001, 3049], []), (59, .aload_n 0, 1, .null, [], []), (60, .getfield 69, 3, .null, [11, 7, 1, 0, 2161], []), (63, .getfield 374, 3, .null, [2, 4, 0, 1, 2069], []), (66, .ireturn, 1, .null, [1], [])]
def i_c137 : List I_En := [(0, .aload_n 0, 1, .null, [], []), (1, .dup, 1, .null, [], []), (2, .getfield 22, 3, .null, [2, 4, 0, 0, 2068], []), (5, .iconst 1, 1, .int 1, [], []), (6, .isub, 1, .null, [], []), (7, .putfield 22, 3, .null, [2, 4, 0, 0, 2068], []), (10, .aload_n 0, 1, .null, [], []), (11, .dup, 1, .null, [], []), (12, .getfield 26, 3, .null, [2, 5, 0, 0, 2070], []), (15, .iconst 1, 1, .int 1, [], []), (16, .iadd, 1, .null, [], []), (17, .putfield 26, 3, .null, [2, 5, 0, 0, 2070], []), (20, .return_, 1, .null, [], [])]
def i_c138 : List I_En := [(0, .aload_n 0, 1, .null, [], []), (1, .getfield 69, 3, .null, [11, 7, 1, 0, 2161], []), (4, .getfield 389, 3, .null, [2, 5, 0, 1, 2071], []), (7, .ifCond .ne 6, 3, .null, [13], []), (10, .bipush (-5), 2, .int (-5), [], []), (12, .ireturn, 1, .null, [1], []), (13, .aload_n 0, 1, .null, [], []), (14, .getfield 69, 3, .null, [11, 7, 1, 0, 2161], []), (17, .getfield 374, 3, .null, [2, 4, 0, 1, 2069], []), (20, .istore_n 1, 1, .null, [], []), (21, .aload_n 0, 1, .null, [], []), (22, .getfield 69, 3, .null, [11, 7, 1, 0, 2161], []), (25, .invokevirtual 392, 3, .null, [139, 0, 1, 5071, 5073, 76, 1010, 5074], []), (28, .aload_n 0, 1, .null, [], []), (29, .aload_n 0, 1, .null, [], []), (30, .getfield 69, 3, .null, [11, 7, 1, 0, 2161], []), (33, .getfield 380, 3, .null, [2, 0, 1, 1, 2061], []), (36, .iload_n 1, 1, .null, [], []), (37, .iaload, 1, .null, [], []), (38, .aload_n 0, 1, .null, [], []), (39, .getfield 69, 3, .null, [11, 7, 1, 0, 2161], []), (42, .getfield 383, 3, .null, [2, 1, 1, 1, 2063], []), (45, .iload_n 1, 1, .null, [], []), (46, .iaload, 1, .null, [], []), (47, .aload_n 0, 1, .null, [], []), (48, .getfield 69, 3, .null, [11, 7, 1, 0, 2161], []), (51, .getfield 395, 3, .null, [2, 3, 1, 1, 2067], []), (54, .iload_n 1, 1, .null, [], []), (55, .iaload, 1, .null, [], []), (56, .invokevirtual 160, 3, .null, [34, 3, 0, 3046, 3048, 16, 1001, 3049], []), (59, .aload_n 0, 1, .null, [], []), (60, .getfield 69, 3, .null, [11, 7, 1, 0, 2161], []), (63, .getfield 389, 3, .null, [2, 5, 0, 1, 2071], []), (66, .ireturn, 1, .null, [1], [])]
def i_c139 : List I_En := [(0, .aload_n 0, 1, .null, [], []), (1, .dup, 1, .null, [], []), (2, .getfield 22, 3, .null, [2, 4, 0, 0, 2068], []), (5, .iconst 1, 1, .int 1, [], []), (6, .iadd, 1, .null, [], []), (7, .putfield 22, 3, .null, [2, 4, 0, 0, 2068], []), (10, .aload_n 0, 1, .null, [], []), (11, .dup, 1, .null, [], []), (12, .getfield 26, 3, .null, [2, 5, 0, 0, 2070], []), (15, .iconst 1, 1, .int 1, [], []), (16, .isub, 1, .null, [], []), (17, .putfield 26, 3, .null, [2, 5, 0, 0, 2070], []), (20, .return_, 1, .null, [], [])]
def i_c140 : List I_En := [(0, .iload_n 1, 1, .null, [], []), (1, .invokestatic 398, 3, .null, [141, 1, 1, 5079, 5080, 0, 1012, 5081], []), (4, .ifCond .ne 5, 3, .null, [9], []), (7, .iconst (-1), 1, .int (-1), [], []), (8, .ireturn, 1, .null, [1], []), (9, .aload_n 0, 1, .null, [], []), (10, .getfield 83, 3, .null, [11, 9, 1, 0, 2163], []), (13, .iload_n 1, 1, .null, [], []), (14, .invokevirtual 401, 3, .null, [142, 1, 1, 5082, 5084, 77, 1012, 5085], []), (17, .ifCond .eq 15, 3, .null, [32], []), (20, .aload_n 0, 1, .null, [], []), (21, .getfield 83, 3, .null, [11, 9, 1, 0, 2163], []), (24, .getfield 402, 3, .null, [0, 1, 0, 1, 2113], []), (27, .iconst 1, 1, .int 1, [], []), (28, .isub, 1, .null, [], []), (29, .goto 5, 3, .null, [34], []), (32, .bipush (-3), 2, .int (-3), [], []), (34, .ireturn, 1, .null, [1], [])]
def i_c141 : List I_En := [(0, .iload_n 0, 1, .null, [], []), (1, .ifCond .lt 13, 3, .null, [14], []), (4, .iload_n 0, 1, .null, [], []), (5, .bipush 8, 2, .int 8, [], []), (7, .if_icmp .ge 7, 3, .null, [14], []), (10, .iconst 1, 1, .int 1, [], []), (11, .goto 4, 3, .null, [15], []), (14, .iconst 0, 1, .int 0, [], []), (15, .ireturn, 1, .null, [2], [])]
def i_c142 : List I_En := [(0, .aload_n 0, 1, .null, [], []), (1, .getfield 23, 3, .null, [0, 1, 0, 0, 2112], []), (4, .bipush 50, 2, .int 50, [], []), (6, .if_icmp .lt 5, 3, .null, [11], []), (9, .iconst 0, 1, .int 0, [], []), (10, .ireturn, 1, .null, [2], []), (11, .aload_n 0, 1, .null, [], []), (12, .getfield 9, 3, .null, [0, 0, 1, 0, 2110], []), (15, .aload_n 0, 1, .null, [], []), (16, .getfield 23, 3, .null, [0, 1, 0, 0, 2112], []), (19, .iload_n 1, 1, .null, [], []), (20, .iastore, 1, .null, [], []), (21, .aload_n 0, 1, .null, [], []), (22, .dup, 1, .null, [], []), (23, .getfield 23, 3, .null, [0, 1, 0, 0, 2112], []), (26, .iconst 1, 1, .int 1, [], []), (27, .iadd, 1, .null, [], []), (28, .putfield 23, 3, .null, [0, 1, 0, 0, 2112], []), (31, .iconst 1, 1, .int 1, [], []), (32, .ireturn, 1, .null, [2], [])]
def i_c143 : List I_En := [(0, .aload_n 0, 1, .null, [], []), (1, .getfield 83, 3, .null, [11, 9, 1, 0, 2163], []), (4, .iload_n 1, 1, .null, [], []), (5, .iload_n 2, 1, .null, [], []), (6, .iload_n 3, 1, .null, [], []), (7, .invokevirtual 403, 3, .null, [144, 3, 1, 5090, 5092, 78, 1012, 5093], []), (10, .ireturn, 1, .null, [1], [])]
def i_c144 : List I_En := [(0, .aload_n 0, 1, .null, [], []), (1, .iconst 0, 1, .int 0, [], []), (2, .putfield 27, 3, .null, [0, 3, 0, 0, 2116], []), (5, .aload_n 0, 1, .null, [], []), (6, .iload_n 1, 1, .null, [], []), (7, .invokevirtual 36, 3, .null, [145, 1, 0, 5094, 5096, 79, 1012, 5097], []), (10, .ifCond .eq 12, 3, .null, [22], []), (13, .iload_n 2, 1, .null, [], []), (14, .ifCond .lt 8, 3, .null, [22], []), (17, .iload_n 2, 1, .null, [], []), (18, .iconst 4, 1, .int 4, [], []), (19, .if_icmp .lt 5, 3, .null, [24], []), (22, .iconst 0, 1, .int 0, [], []), (23, .ireturn, 1, .null, [1], []), (24, .aload_n 0, 1, .null, [], []), (25, .iload_n 1, 1, .null, [], []), (26, .putfield 39, 3, .null, [0, 4, 0, 0, 2118], []), (29, .aload_n 0, 1, .null, [], []), (30, .iload_n 2, 1, .null, [], []), (31, .iload_n 3, 1, .null, [], []), (32, .iconst 0, 1, .int 0, [], []), (33, .invokevirtual 42, 3, .null, [146, 3, 0, 5098, 5100, 80, 1012, 5101], []), (36, .ireturn, 1, .null, [1], [])]
def i_c145 : List I_En := [(0, .iload_n 1, 1, .null, [], []), (1, .ifCond .lt 15, 3, .null, [16], []), (4, .iload_n 1, 1, .null, [], []), (5, .aload_n 0, 1, .null, [], []), (6, .getfield 23, 3, .null, [0, 1, 0, 0, 2112], []), (9, .if_icmp .ge 7, 3, .null, [16], []), (12, .iconst 1, 1, .int 1, [], []), (13, .goto 4, 3, .null, [17], []), (16, .iconst 0, 1, .int 0, [], []), (17, .ireturn, 1, .null, [2], [])]
def i_c146 : List I_En := [(0, .aload_n 0, 1, .null, [], []), (1, .aload_n 0, 1, .null, [], []), (2, .getfield 9, 3, .null, [0, 0, 1, 0, 2110], []), (5, .aload_n 0, 1, .null, [], []), (6, .getfield 39, 3, .null, [0, 4, 0, 0, 2118], []), (9, .iaload, 1, .null, [], []), (10, .iload_n 1, 1, .null, [], []), (11, .iload_n 2, 1, .null, [], []), (12, .iload_n 3, 1, .null, [], []), (13, .invokevirtual 46, 3, .null, [147, 4, 0, 5102, 5104, 81, 1012, 5105], []), (16, .ireturn, 1, .null, [1], [])]
def i_c147 : List I_En := [(0, .iload_n 1, 1, .null, [], []), (1, .iload_n 2, 1, .null, [], []), (2, .invokestatic 50, 3, .null, [148, 2, 0, 5106, 5107, 0, 1012, 5108], []), (5, .istore 5, 2, .null, [], []), (7, .iload 5, 2, .null, [], []), (9, .ifCond .eq 10, 3, .null, [19], []), (12, .iload 4, 2, .null, [], []), (14, .bipush 40, 2, .int 40, [], []), (16, .if_icmp .lt 5, 3, .null, [21], []), (19, .iconst 0, 1, .int 0, [], []), (20, .ireturn, 1, .null, [1], []), (21, .aload_n 0, 1, .null, [], []), (22, .iload 5, 2, .null, [], []), (24, .invokevirtual 53, 3, .null, [149, 1, 0, 5114, 5116, 82, 1012, 5117], []), (27, .aload_n 0, 1, .null, [], []), (28, .iload 5, 2, .null, [], []), (30, .iload_n 3, 1, .null, [], []), (31, .iload 4, 2, .null, [], []), (33, .iconst 1, 1, .int 1, [], []), (34, .iadd, 1, .null, [], []), (35, .invokevirtual 57, 3, .null, [150, 3, 0, 5118, 5120, 83, 1012, 5121], []), (38, .ireturn, 1, .null, [1], [])]
def i_c148 : List I_En := [(0, .iload_n 0, 1, .null, [], []), (1, .istore_n 2, 1, .null, [], []), (2, .iconst 0, 1, .int 0, [], []), (3, .istore_n 3, 1, .null, [], []), (4, .iload_n 3, 1, .null, [], []), (5, .bipush 8, 2, .int 8, [], []), (7, .if_icmp .ge 44, 3, .null, [51], []), (10, .iload_n 2, 1, .null, [], []), (11, .invokestatic 16, 3, .null, [141, 1, 0, 5109, 5080, 0, 1012, 5081], []), (14, .ifCond .eq 37, 3, .null, [51], []), (17, .getstatic 60, 3, .ref 102, [2, 5110], []), (20, .iload_n 2, 1, .null, [], []), (21, .iconst 4, 1, .int 4, [], []), (22, .imul, 1, .null, [], []), (23, .iload_n 1, 1, .null, [], []), (24, .iadd, 1, .null, [], []), (25, .iaload, 1, .null, [], []), (26, .ifCond .eq 13, 3, .null, [39], []), (29, .getstatic 60, 3, .ref 102, [2, 5110], []), (32, .iload_n 2, 1, .null, [], []), (33, .iconst 4, 1, .int 4, [], []), (34, .imul, 1, .null, [], []), (35, .iload_n 1, 1, .null, [], []), (36, .iadd, 1, .null, [], []), (37, .iaload, 1, .null, [], []), (38, .ireturn, 1, .null, [1], []), (39, .getstatic 20, 3, .ref 103, [3, 5112], []), (42, .iload_n 2, 1, .null, [], []), (43, .iaload, 1, .null, [], []), (44, .istore_n 2, 1, .null, [], []), (45, .iinc 3 1, 3, .int 1, [], []), (48, .goto (-44), 3, .null, [4], []), (51, .iconst 0, 1, .int 0, [], []), (52, .ireturn, 1, .null, [1], [])]
def i_c149 : List I_En := [(0, .aload_n 0, 1, .null, [], []), (1, .getfield 27, 3, .null, [0, 3, 0, 0, 2116], []), (4, .bipush 24, 2, .int 24, [], []), (6, .if_icmp .ge 13, 3, .null, [19], []), (9, .aload_n 0, 1, .null, [], []), (10, .getfield 13, 3, .null, [0, 2, 1, 0, 2114], []), (13, .aload_n 0, 1, .null, [], []), (14, .getfield 27, 3, .null, [0, 3, 0, 0, 2116], []), (17, .iload_n 1, 1, .null, [], []), (18, .iastore, 1, .null, [], []), (19, .aload_n 0, 1, .null, [], []), (20, .dup, 1, .null, [], []), (21, .getfield 27, 3, .null, [0, 3, 0, 0, 2116], []), (24, .iconst 1, 1, .int 1, [], []), (25, .iadd, 1, .null, [], []), (26, .putfield 27, 3, .null, [0, 3, 0, 0, 2116], []), (29, .return_, 1, .null, [], [])]
def i_c150 : List I_En := [(0, .iload_n 1, 1, .null, [], []), (1, .lookupswitch 268 #[(1, 115), (2, 122), (10, 138), (11, 148), (20, 155), (30, 166), (40, 176), (41, 187), (50, 198), (60, 215), (70, 226), (80, 238), (81, 256)], 115, .null, [269], [(1, 116), (2, 123), (10, 139), (11, 149), (20, 156), (30, 167), (40, 177), (41, 188), (50, 199), (60, 216), (70, 227), (80, 239), (81, 257)]), (116, .iload_n 2, 1, .null, [], []), (117, .aload_n 0, 1, .null, [], []), (118, .getfield 39, 3, .null, [0, 4, 0, 0, 2118], []), (121, .iadd, 1, .null, [], []), (122, .ireturn, 1, .null, [1], []), (123, .aload_n 0, 1, .null, [], []), (124, .iconst 1, 1, .int 1, [], []), (125, .iload_n 2, 1, .null, [], []), (126, .iload_n 3, 1, .null, [], []), (127, .invokevirtual 42, 3, .null, [146, 3, 0, 5098, 5100, 80, 1012, 5101], []), (130, .aload_n 0, 1, .null, [], []), (131, .iconst 2, 1, .int 2, [], []), (132, .iconst 1, 1, .int 1, [], []), (133, .iload_n 3, 1, .null, [], []), (134, .invokevirtual 42, 3, .null, [146, 3, 0, 5098, 5100, 80, 1012, 5101], []), (137, .isub, 1, .null, [], []), (138, .ireturn, 1, .null, [1], []), (139, .aload_n 0, 1, .null, [], []), (140, .iconst 0, 1, .int 0, [], []), (141, .iload_n 2, 1, .null, [], []), (142, .iload_n 3, 1, .null, [], []), (143, .invokevirtual 42, 3, .null, [146, 3, 0, 5098, 5100, 80, 1012, 5101], []), (146, .iconst 2, 1, .int 2, [], []), (147, .imul, 1, .null, [], []), (148, .ireturn, 1, .null, [1], []), (149, .iload_n 2, 1, .null, [], []), (150, .aload_n 0, 1, .null, [], []), (151, .getfield 39, 3, .null, [0, 4, 0, 0, 2118], []), (154, .ixor, 1, .null, [], []), (155, .ireturn, 1, .null, [1], []), (156, .aload_n 0, 1, .null, [], []), (157, .iconst 1, 1, .int 1, [], []), (158, .iconst 0, 1, .int 0, [], []), (159, .iload_n 2, 1, .null, [], []), (160, .iload_n 3, 1, .null, [], []), (161, .invokevirtual 63, 3, .null, [151, 4, 0, 5122, 5124, 84, 1012, 5125], []), (164, .iconst 3, 1, .int 3, [], []), (165, .iadd, 1, .null, [], []), (166, .ireturn, 1, .null, [1], []), (167, .aload_n 0, 1, .null, [], []), (168, .iconst 2, 1, .int 2, [], []), (169, .iconst 1, 1, .int 1, [], []), (170, .iload_n 2, 1, .null, [], []), (171, .iload_n 3, 1, .null, [], []), (172, .invokevirtual 63, 3, .null, [151, 4, 0, 5122, 5124, 84, 1012, 5125], []), (175, .ineg, 1, .null, [], []), (176, .ireturn, 1, .null, [1], []), (177, .aload_n 0, 1, .null, [], []), (178, .iconst 3, 1, .int 3, [], []), (179, .iconst 2, 1, .int 2, [], []), (180, .iload_n 2, 1, .null, [], []), (181, .iload_n 3, 1, .null, [], []), (182, .invokevirtual 63, 3, .null, [151, 4, 0, 5122, 5124, 84, 1012, 5125], []), (185, .iconst 3, 1, .int 3, [], []), (186, .imul, 1, .null, [], []), (187, .ireturn, 1, .null, [1], []), (188, .aload_n 0, 1, .null, [], []), (189, .iconst 3, 1, .int 3, [], []), (190, .iconst 1, 1, .int 1, [], []), (191, .iload_n 2, 1, .null, [], []), (192, .iconst 1, 1, .int 1, [], []), (193, .iadd, 1, .null, [], []), (194, .iload_n 3, 1, .null, [], []), (195, .invokevirtual 63, 3, .null, [151, 4, 0, 5122, 5124, 84, 1012, 5125], []), (198, .ireturn, 1, .null, [1], []), (199, .aload_n 0, 1, .null, [], []), (200, .iconst 4, 1, .int 4, [], []), (201, .iconst 2, 1, .int 2, [], []), (202, .iload_n 2, 1, .null, [], []), (203, .iload_n 3, 1, .null, [], []), (204, .invokevirtual 63, 3, .null, [151, 4, 0, 5122, 5124, 84, 1012, 5125], []), (207, .aload_n 0, 1, .null, [], []), (208, .iconst 0, 1, .int 0, [], []), (209, .iconst 2, 1, .int 2, [], []), (210, .iload_n 3, 1, .null, [], []), (211, .invokevirtual 42, 3, .null, [146, 3, 0, 5098, 5100, 80, 1012, 5101], []), (214, .isub, 1, .null, [], []), (215, .ireturn, 1, .null, [1], []), (216, .aload_n 0, 1, .null, [], []), (217, .iconst 5, 1, .int 5, [], []), (218, .iconst 3, 1, .int 3, [], []), (219, .iload_n 2, 1, .null, [], []), (220, .iload_n 3, 1, .null, [], []), (221, .invokevirtual 63, 3, .null, [151, 4, 0, 5122, 5124, 84, 1012, 5125], []), (224, .iconst 5, 1, .int 5, [], []), (225, .ixor, 1, .null, [], []), (226, .ireturn, 1, .null, [1], []), (227, .aload_n 0, 1, .null, [], []), (228, .bipush 6, 2, .int 6, [], []), (230, .iconst 0, 1, .int 0, [], []), (231, .iload_n 2, 1, .null, [], []), (232, .iload_n 3, 1, .null, [], []), (233, .invokevirtual 63, 3, .null, [151, 4, 0, 5122, 5124, 84, 1012, 5125], []), (236, .iconst 2, 1, .int 2, [], []), (237, .imul, 1, .null, [], []), (238, .ireturn, 1, .null, [1], []), (239, .aload_n 0, 1, .null, [], []), (240, .bipush 7, 2, .int 7, [], []), (242, .iconst 1, 1, .int 1, [], []), (243, .iload_n 2, 1, .null, [], []), (244, .iload_n 3, 1, .null, [], []), (245, .invokevirtual 63, 3, .null, [151, 4, 0, 5122, 5124, 84, 1012, 5125], []), (248, .aload_n 0, 1, .null, [], []), (249, .iconst 2, 1, .int 2, [], []), (250, .iconst 2, 1, .int 2, [], []), (251, .iload_n 3, 1, .null, [], []), (252, .invokevirtual 42, 3, .null, [146, 3, 0, 5098, 5100, 80, 1012, 5101], []), (255, .iadd, 1, .null, [], []), (256, .ireturn, 1, .null, [1], []), (257, .aload_n 0, 1, .null, [], []), (258, .bipush 7, 2, .int 7, [], []), (260, .iconst 3, 1, .int 3, [], []), (261, .iload_n 2, 1, .null, [], []), (262, .iload_n 3, 1, .null, [], []), (263, .invokevirtual 63, 3, .null, [151, 4, 0, 5122, 5124, 84, 1012, 5125], []), (266, .iconst 1, 1, .int 1, [], []), (267, .isub, 1, .null, [], []), (268, .ireturn, 1, .null, [1], []), (269, .iconst 0, 1, .int 0, [], []), (270, .ireturn, 1, .null, [1], [])]
def i_c151 : List I_En := [(0, .aload_n 0, 1, .null, [], []), (1, .getstatic 20, 3, .ref 103, [3, 5112], []), (4, .iload_n 1, 1, .null, [], []), (5, .iaload, 1, .null, [], []), (6, .iload_n 2, 1, .null, [], []), (7, .iload_n 3, 1, .null, [], []), (8, .iload 4, 2, .null, [], []), (10, .invokevirtual 46, 3, .null, [147, 4, 0, 5102, 5104, 81, 1012, 5105], []), (13, .ireturn, 1, .null, [1], [])]
def i_c152 : List I_En := [(0, .iload_n 1, 1, .null, [], []), (1, .ifCond .lt 26, 3, .null, [27], []), (4, .iload_n 1, 1, .null, [], []), (5, .aload_n 0, 1, .null, [], []), (6, .getfield 83, 3, .null, [11, 9, 1, 0, 2163], []), (9, .invokevirtual 406, 3, .null, [153, 0, 1, 5130, 5132, 85, 1012, 5133], []), (12, .if_icmp .ge 15, 3, .null, [27], []), (15, .aload_n 0, 1, .null, [], []), (16, .getfield 83, 3, .null, [11, 9, 1, 0, 2163], []), (19, .getfield 409, 3, .null, [0, 2, 1, 1, 2115], []), (22, .iload_n 1, 1, .null, [], []), (23, .iaload, 1, .null, [], []), (24, .goto 4, 3, .null, [28], []), (27, .iconst (-1), 1, .int (-1), [], []), (28, .ireturn, 1, .null, [1], [])]
def i_c153 : List I_En := [(0, .aload_n 0, 1, .null, [], []), (1, .getfield 27, 3, .null, [0, 3, 0, 0, 2116], []), (4, .bipush 24, 2, .int 24, [], []), (6, .invokestatic 30, 3, .null, [2, 5134, 3143, 1018, 3144, 0], []), (9, .ireturn, 1, .null, [1], [])]
def i_c154 : List I_En := [(0, .aload_n 0, 1, .null, [], []), (1, .getfield 90, 3, .null, [11, 10, 1, 0, 2164], []), (4, .iload_n 1, 1, .null, [], []), (5, .invokevirtual 127, 3, .null, [24, 1, 1, 3000, 3002, 7, 1013, 3003], []), (8, .ifCond .eq 19, 3, .null, [27], []), (11, .iload_n 2, 1, .null, [], []), (12, .iconst (-1), 1, .int (-1), [], []), (13, .if_icmp .eq 16, 3, .null, [29], []), (16, .aload_n 0, 1, .null, [], []), (17, .getfield 83, 3, .null, [11, 9, 1, 0, 2163], []), (20, .iload_n 2, 1, .null, [], []), (21, .invokevirtual 412, 3, .null, [145, 1, 1, 5139, 5096, 79, 1012, 5097], []), (24, .ifCond .ne 5, 3, .null, [29], []), (27, .iconst (-1), 1, .int (-1), [], []), (28, .ireturn, 1, .null, [1], []), (29, .aload_n 0, 1, .null, [], []), (30, .getfield 90, 3, .null, [11, 10, 1, 0, 2164], []), (33, .iload_n 1, 1, .null, [], []), (34, .iload_n 2, 1, .null, [], []), (35, .iconst (-1), 1, .int (-1), [], []), (36, .if_icmp .ne 7, 3, .null, [43], []), (39, .iconst (-1), 1, .int (-1), [], []), (40, .goto 4, 3, .null, [44], []), (43, .iconst 5, 1, .int 5, [], []), (44, .iconst 0, 1, .int 0, [], []), (45, .invokevirtual 413, 3, .null, [155, 3, 1, 5140, 5142, 86, 1013, 5143], []), (48, .aload_n 0, 1, .null, [], []), (49, .getfield 90, 3, .null, [11, 10, 1, 0, 2164], []), (52, .getfield 416, 3, .null, [8, 2, 1, 1, 2142], []), (55, .iload_n 1, 1, .null, [], []), (56, .iload_n 2, 1, .null, [], []), (57, .iastore, 1, .null, [], []), (58, .iconst 1, 1, .int 1, [], []), (59, .ireturn, 1, .null, [1], [])]
def i_c155 : List I_En := [(0, .aload_n 0, 1, .null, [], []), (1, .getfield 9, 3, .null, [8, 0, 1, 0, 2136], []), (4, .iload_n 1, 1, .null, [], []), (5, .iload_n 2, 1, .null, [], []), (6, .iastore, 1, .null, [], []), (7, .aload_n 0, 1, .null, [], []), (8, .getfield 13, 3, .null, [8, 1, 1, 0, 2138], []), (11, .iload_n 1, 1, .null, [], []), (12, .iload_n 3, 1, .null, [], []), (13, .iastore, 1, .null, [], []), (14, .aload_n 0, 1, .null, [], []), (15, .getfield 19, 3, .null, [8, 3, 1, 0, 2143], []), (18, .iload_n 1, 1, .null, [], []), (19, .bipush 60, 2, .int 60, [], []), (21, .imul, 1, .null, [], []), (22, .iload_n 1, 1, .null, [], []), (23, .bipush 60, 2, .int 60, [], []), (25, .imul, 1, .null, [], []), (26, .iload_n 3, 1, .null, [], []), (27, .iadd, 1, .null, [], []), (28, .lconst 0, 1, .long 0, [], []), (29, .invokestatic 23, 3, .null, [156, 4, 0, 5144, 5145, 0, 1003, 5146], []), (32, .return_, 1, .null, [], [])]
def i_c156 : List I_En := [(0, .aload_n 0, 1, .null, [], []), (1, .arraylength, 1, .null, [], []), (2, .iload_n 1, 1, .null, [], []), (3, .iload_n 2, 1, .null, [], []), (4, .invokestatic 13, 3, .null, [157, 3, 0, 5147, 5148, 0, 1003, 5149], []), (7, .iload_n 1, 1, .null, [], []), (8, .istore 5, 2, .null, [], []), (10, .iload 5, 2, .null, [], []), (12, .iload_n 2, 1, .null, [], []), (13, .if_icmp .ge 14, 3, .null, [27], []), (16, .aload_n 0, 1, .null, [], []), (17, .iload 5, 2, .null, [], []), (19, .lload_n 3, 1, .null, [], []), (20, .lastore, 1, .null, [], []), (21, .iinc 5 1, 3, .int 1, [], []), (24, .goto (-14), 3, .null, [10], []), (27, .return_, 1, .null, [], [])]
def i_c157 : List I_En := [(0, .iload_n 1, 1, .null, [], []), (1, .iload_n 2, 1, .null, [], []), (2, .if_icmp .le 44, 3, .null, [46], []), (5, .new 43, 3, .null, [], []), (8, .dup, 1, .null, [], []), (9, .new 45, 3, .null, [], []), (12, .dup, 1, .null, [], []), (13, .invokespecial 47, 3, .null, [], []), (16, .ldc 48, 2, .null, [], []), (18, .invokevirtual 50, 3, .null, [], []), (21, .iload_n 1, 1, .null, [], []), (22, .invokevirtual 54, 3, .null, [], []), (25, .ldc 57, 2, .null, [], []), (27, .invokevirtual 50, 3, .null, [], []), (30, .iload_n 2, 1, .null, [], []), (31, .invokevirtual 54, 3, .null, [], []), (34, .ldc 59, 2, .null, [], []), (36, .invokevirtual 50, 3, .null, [], []), (39, .invokevirtual 61, 3, .null, [], []), (42, .invokespecial 65, 3, .null, [], []), (45, .athrow, 1, .null, [], []), (46, .iload_n 1, 1, .null, [], []), (47, .ifCond .ge 12, 3, .null, [59], []), (50, .new 68, 3, .null, [], []), (53, .dup, 1, .null, [], []), (54, .iload_n 1, 1, .null, [], []), (55, .invokespecial 70, 3, .null, [], []), (58, .athrow, 1, .null, [], []), (59, .iload_n 2, 1, .null, [], []), (60, .iload_n 0, 1, .null, [], []), (61, .if_icmp .le 12, 3, .null, [73], []), (64, .new 68, 3, .null, [], []), (67, .dup, 1, .null, [], []), (68, .iload_n 2, 1, .null, [], []), (69, .invokespecial 70, 3, .null, [], []), (72, .athrow, 1, .null, [], []), (73, .return_, 1, .null, [], [])]
def i_c158 : List I_En := [(0, .aload_n 0, 1, .null, [], []), (1, .getfield 90, 3, .null, [11, 10, 1, 0, 2164], []), (4, .iload_n 1, 1, .null, [], []), (5, .invokevirtual 127, 3, .null, [24, 1, 1, 3000, 3002, 7, 1013, 3003], []), (8, .ifCond .eq 18, 3, .null, [26], []), (11, .iload_n 2, 1, .null, [], []), (12, .ifCond .lt 14, 3, .null, [26], []), (15, .iload_n 2, 1, .null, [], []), (16, .iconst 4, 1, .int 4, [], []), (17, .if_icmp .gt 9, 3, .null, [26], []), (20, .iload_n 3, 1, .null, [], []), (21, .bipush 60, 2, .int 60, [], []), (23, .if_icmp .le 5, 3, .null, [28], []), (26, .iconst (-1), 1, .int (-1), [], []), (27, .ireturn, 1, .null, [1], []), (28, .iload_n 3, 1, .null, [], []), (29, .ifCond .ge 6, 3, .null, [35], []), (32, .bipush (-14), 2, .int (-14), [], []), (34, .ireturn, 1, .null, [1], []), (35, .aload_n 0, 1, .null, [], []), (36, .getfield 90, 3, .null, [11, 10, 1, 0, 2164], []), (39, .iload_n 1, 1, .null, [], []), (40, .iload_n 2, 1, .null, [], []), (41, .iload_n 3, 1, .null, [], []), (42, .invokevirtual 413, 3, .null, [155, 3, 1, 5140, 5142, 86, 1013, 5143], []), (45, .iconst 1, 1, .int 1, [], []), (46, .ireturn, 1, .null, [1], [])]
def i_c159 : List I_En := [(0, .aload_n 0, 1, .null, [], []), (1, .iload_n 1, 1, .null, [], []), (2, .iload_n 2, 1, .null, [], []), (3, .invokevirtual 419, 3, .null, [160, 2, 0, 5158, 5160, 87, 1001, 5161], []), (6, .istore 5, 2, .null, [], []), (8, .iload 5, 2, .null, [], []), (10, .ifCond .eq 6, 3, .null, [16], []), (13, .iload 5, 2, .null, [], []), (15, .ireturn, 1, .null, [1], []), (16, .aload_n 0, 1, .null, [], []), (17, .getfield 90, 3, .null, [11, 10, 1, 0, 2164], []), (20, .iload_n 1, 1, .null, [], []), (21, .iload_n 2, 1, .null, [], []), (22, .lload_n 3, 1, .null, [], []), (23, .invokevirtual 422, 3, .null, [161, 3, 1, 5162, 5164, 88, 1013, 5165], []), (26, .iconst 1, 1, .int 1, [], []), (27, .ireturn, 1, .null, [1], [])]
def i_c160 : List I_En := [(0, .aload_n 0, 1, .null, [], []), (1, .getfield 90, 3, .null, [11, 10, 1, 0, 2164], []), (4, .iload_n 1, 1, .null, [], []), (5, .invokevirtual 127, 3, .null, [24, 1, 1, 3000, 3002, 7, 1013, 3003], []), (8, .ifCond .ne 5, 3, .null, [13], []), (11, .iconst (-1), 1, .int (-1), [], []), (12, .ireturn, 1, .null, [1], []), (13, .aload_n 0, 1, .null, [], []), (14, .getfield 90, 3, .null, [11, 10, 1, 0, 2164], []), (17, .getfield 130, 3, .null, [8, 0, 1, 1, 2137], []), (20, .iload_n 1, 1, .null, [], []), (21, .iaload, 1, .null, [], []), (22, .iconst (-1), 1, .int (-1), [], []), (23, .if_icmp .ne 6, 3, .null, [29], []), (26, .bipush (-11), 2, .int (-11), [], []), (28, .ireturn, 1, .null, [1], []), (29, .aload_n 0, 1, .null, [], []), (30, .getfield 90, 3, .null, [11, 10, 1, 0, 2164], []), (33, .getfield 130, 3, .null, [8, 0, 1, 1, 2137], []), (36, .iload_n 1, 1, .null, [], []), (37, .iaload, 1, .null, [], []), (38, .iconst 5, 1, .int 5, [], []), (39, .if_icmp .ne 6, 3, .null, [45], []), (42, .bipush (-12), 2, .int (-12), [], []), (44, .ireturn, 1, .null, [1], []), (45, .aload_n 0, 1, .null, [], []), (46, .getfield 90, 3, .null, [11, 10, 1, 0, 2164], []), (49, .iload_n 1, 1, .null, [], []), (50, .iload_n 2, 1, .null, [], []), (51, .invokevirtual 138, 3, .null, [26, 2, 1, 3008, 3010, 9, 1013, 3011], []), (54, .ifCond .eq 7, 3, .null, [61], []), (57, .iconst 0, 1, .int 0, [], []), (58, .goto 5, 3, .null, [63], []), (61, .bipush (-13), 2, .int (-13), [], []), (63, .ireturn, 1, .null, [1], [])]
def i_c161 : List I_En := [(0, .aload_n 0, 1, .null, [], []), (1, .getfield 19, 3, .null, [8, 3, 1, 0, 2143], []), (4, .iload_n 1, 1, .null, [], []), (5, .bipush 60, 2, .int 60, [], []), (7, .imul, 1, .null, [], []), (8, .iload_n 2, 1, .null, [], []), (9, .iadd, 1, .null, [], []), (10, .aload_n 0, 1, .null, [], []), (11, .getfield 9, 3, .null, [8, 0, 1, 0, 2136], []), (14, .iload_n 1, 1, .null, [], []), (15, .iaload, 1, .null, [], []), (16, .lload_n 3, 1, .null, [], []), (17, .invokestatic 29, 3, .null, [162, 2, 0, 5166, 5167, 0, 1013, 5168], []), (20, .lastore, 1, .null, [], []), (21, .return_, 1, .null, [], [])]
def i_c162 : List I_En := [(0, .iload_n 0, 1, .null, [], []), (1, .tableswitch 61 0 4 #[35, 40, 45, 61, 49], 35, .null, [62], [(0, 36), (1, 41), (2, 46), (3, 62), (4, 50)]), (36, .lload_n 1, 1, .null, [], []), (37, .l2i, 1, .null, [], []), (38, .i2b, 1, .null, [], []), (39, .i2l, 1, .null, [], []), (40, .lreturn, 1, .null, [], []), (41, .lload_n 1, 1, .null, [], []), (42, .l2i, 1, .null, [], []), (43, .i2s, 1, .null, [], []), (44, .i2l, 1, .null, [], []), (45, .lreturn, 1, .null, [], []), (46, .lload_n 1, 1, .null, [], []), (47, .l2i, 1, .null, [], []), (48, .i2l, 1, .null, [], []), (49, .lreturn, 1, .null, [], []), (50, .lload_n 1, 1, .null, [], []), (51, .lconst 0, 1, .long 0, [], []), (52, .lcmp, 1, .null, [], []), (53, .ifCond .eq 7, 3, .null, [60], []), (56, .lconst 1, 1, .long 1, [], []), (57, .goto 4, 3, .null, [61], []), (60, .lconst 0, 1, .long 0, [], []), (61, .lreturn, 1, .null, [], []), (62, .lload_n 1, 1, .null, [], []), (63, .lreturn, 1, .null, [], [])]
def i_c163 : List I_En := [(0, .aload_n 0, 1, .null, [], []), (1, .iload_n 1, 1, .null, [], []), (2, .iload_n 2, 1, .null, [], []), (3, .invokevirtual 419, 3, .null, [160, 2, 0, 5158, 5160, 87, 1001, 5161], []), (6, .ifCond .eq 9, 3, .null, [15], []), (9, .ldc2_w 428, 3, .long (-9223372036854775808), [5173], []), (12, .goto 12, 3, .null, [24], []), (15, .aload_n 0, 1, .null, [], []), (16, .getfield 90, 3, .null, [11, 10, 1, 0, 2164], []), (19, .iload_n 1, 1, .null, [], []), (20, .iload_n 2, 1, .null, [], []), (21, .invokevirtual 142, 3, .null, [27, 2, 1, 3012, 3014, 10, 1013, 3015], []), (24, .lreturn, 1, .null, [], [])]
def i_c164 : List I_En := [(0, .aload_n 0, 1, .null, [], []), (1, .getfield 90, 3, .null, [11, 10, 1, 0, 2164], []), (4, .iload_n 1, 1, .null, [], []), (5, .invokevirtual 127, 3, .null, [24, 1, 1, 3000, 3002, 7, 1013, 3003], []), (8, .ifCond .eq 14, 3, .null, [22], []), (11, .aload_n 0, 1, .null, [], []), (12, .getfield 90, 3, .null, [11, 10, 1, 0, 2164], []), (15, .iload_n 3, 1, .null, [], []), (16, .invokevirtual 127, 3, .null, [24, 1, 1, 3000, 3002, 7, 1013, 3003], []), (19, .ifCond .ne 5, 3, .null, [24], []), (22, .iconst (-1), 1, .int (-1), [], []), (23, .ireturn, 1, .null, [1], []), (24, .aload_n 0, 1, .null, [], []), (25, .getfield 90, 3, .null, [11, 10, 1, 0, 2164], []), (28, .getfield 130, 3, .null, [8, 0, 1, 1, 2137], []), (31, .iload_n 1, 1, .null, [], []), (32, .iaload, 1, .null, [], []), (33, .istore 6, 2, .null, [], []), (35, .aload_n 0, 1, .null, [], []), (36, .getfield 90, 3, .null, [11, 10, 1, 0, 2164], []), (39, .getfield 130, 3, .null, [8, 0, 1, 1, 2137], []), (42, .iload_n 3, 1, .null, [], []), (43, .iaload, 1, .null, [], []), (44, .istore 7, 2, .null, [], []), (46, .iload 6, 2, .null, [], []), (48, .iconst (-1), 1, .int (-1), [], []), (49, .if_icmp .eq 9, 3, .null, [58], []), (52, .iload 7, 2, .null, [], []), (54, .iconst (-1), 1, .int (-1), [], []), (55, .if_icmp .ne 6, 3, .null, [61], []), (58, .bipush (-11), 2, .int (-11), [], []), (60, .ireturn, 1, .null, [1], []), (61, .iload 6, 2, .null, [], []), (63, .iconst 5, 1, .int 5, [], []), (64, .if_icmp .eq 10, 3, .null, [74], []), (67, .iload 6, 2, .null, [], []), (69, .iload 7, 2, .null, [], []), (71, .if_icmp .eq 6, 3, .null, [77], []), (74, .bipush (-12), 2, .int (-12), [], []), (76, .ireturn, 1, .null, [1], []), (77, .aload_n 0, 1, .null, [], []), (78, .getfield 90, 3, .null, [11, 10, 1, 0, 2164], []), (81, .iload_n 1, 1, .null, [], []), (82, .iload_n 2, 1, .null, [], []), (83, .iload 5, 2, .null, [], []), (85, .invokevirtual 430, 3, .null, [165, 3, 1, 5178, 5180, 89, 1013, 5181], []), (88, .ifCond .eq 18, 3, .null, [106], []), (91, .aload_n 0, 1, .null, [], []), (92, .getfield 90, 3, .null, [11, 10, 1, 0, 2164], []), (95, .iload_n 3, 1, .null, [], []), (96, .iload 4, 2, .null, [], []), (98, .iload 5, 2, .null, [], []), (100, .invokevirtual 430, 3, .null, [165, 3, 1, 5178, 5180, 89, 1013, 5181], []), (103, .ifCond .ne 6, 3, .null, [109], []), (106, .bipush (-13), 2, .int (-13), [], []), (108, .ireturn, 1, .null, [1], []), (109, .aload_n 0, 1, .null, [], []), (110, .getfield 90, 3, .null, [11, 10, 1, 0, 2164], []), (113, .iload_n 1, 1, .null, [], []), (114, .iload_n 2, 1, .null, [], []), (115, .iload_n 3, 1, .null, [], []), (116, .iload 4, 2, .null, [], []), (118, .iload 5, 2, .null, [], []), (120, .invokevirtual 433, 3, .null, [166, 5, 1, 5182, 5184, 90, 1013, 5185], []), (123, .iload 5, 2, .null, [], []), (125, .ireturn, 1, .null, [1], [])]
def i_c165 : List I_En := [(0, .iload_n 2, 1, .null, [], []), (1, .ifCond .lt 33, 3, .null, [34], []), (4, .iload_n 3, 1, .null, [], []), (5, .ifCond .lt 29, 3, .null, [34], []), (8, .iload_n 3, 1, .null, [], []), (9, .aload_n 0, 1, .null, [], []), (10, .getfield 13, 3, .null, [8, 1, 1, 0, 2138], []), (13, .iload_n 1, 1, .null, [], []), (14, .iaload, 1, .null, [], []), (15, .if_icmp .gt 19, 3, .null, [34], []), (18, .iload_n 2, 1, .null, [], []), (19, .aload_n 0, 1, .null, [], []), (20, .getfield 13, 3, .null, [8, 1, 1, 0, 2138], []), (23, .iload_n 1, 1, .null, [], []), (24, .iaload, 1, .null, [], []), (25, .iload_n 3, 1, .null, [], []), (26, .isub, 1, .null, [], []), (27, .if_icmp .gt 7, 3, .null, [34], []), (30, .iconst 1, 1, .int 1, [], []), (31, .goto 4, 3, .null, [35], []), (34, .iconst 0, 1, .int 0, [], []), (35, .ireturn, 1, .null, [2], [])]
def i_c166 : List I_En := [(0, .aload_n 0, 1, .null, [], []), (1, .getfield 19, 3, .null, [8, 3, 1, 0, 2143], []), (4, .iload_n 1, 1, .null, [], []), (5, .bipush 60, 2, .int 60, [], []), (7, .imul, 1, .null, [], []), (8, .iload_n 2, 1, .null, [], []), (9, .iadd, 1, .null, [], []), (10, .aload_n 0, 1, .null, [], []), (11, .getfield 19, 3, .null, [8, 3, 1, 0, 2143], []), (14, .iload_n 3, 1, .null, [], []), (15, .bipush 60, 2, .int 60, [], []), (17, .imul, 1, .null, [], []), (18, .iload 4, 2, .null, [], []), (20, .iadd, 1, .null, [], []), (21, .iload 5, 2, .null, [], []), (23, .invokestatic 33, 3, .null, [998, 5186, 3045, 3044, 1015], []), (26, .return_, 1, .null, [], [])]
def i_c167 : List I_En := [(0, .aload_n 0, 1, .null, [], []), (1, .getfield 90, 3, .null, [11, 10, 1, 0, 2164], []), (4, .iload_n 1, 1, .null, [], []), (5, .invokevirtual 127, 3, .null, [24, 1, 1, 3000, 3002, 7, 1013, 3003], []), (8, .ifCond .eq 10, 3, .null, [18], []), (11, .iload_n 2, 1, .null, [], []), (12, .invokestatic 398, 3, .null, [141, 1, 1, 5079, 5080, 0, 1012, 5081], []), (15, .ifCond .ne 5, 3, .null, [20], []), (18, .iconst (-1), 1, .int (-1), [], []), (19, .ireturn, 1, .null, [1], []), (20, .aload_n 0, 1, .null, [], []), (21, .getfield 90, 3, .null, [11, 10, 1, 0, 2164], []), (24, .getfield 130, 3, .null, [8, 0, 1, 1, 2137], []), (27, .iload_n 1, 1, .null, [], []), (28, .iaload, 1, .null, [], []), (29, .iconst (-1), 1, .int (-1), [], []), (30, .if_icmp .ne 6, 3, .null, [36], []), (33, .bipush (-11), 2, .int (-11), [], []), (35, .ireturn, 1, .null, [1], []), (36, .aload_n 0, 1, .null, [], []), (37, .getfield 90, 3, .null, [11, 10, 1, 0, 2164], []), (40, .getfield 416, 3, .null, [8, 2, 1, 1, 2142], []), (43, .iload_n 1, 1, .null, [], []), (44, .iaload, 1, .null, [], []), (45, .istore_n 3, 1, .null, [], []), (46, .aload_n 0, 1, .null, [], []), (47, .getfield 90, 3, .null, [11, 10, 1, 0, 2164], []), (50, .getfield 130, 3, .null, [8, 0, 1, 1, 2137], []), (53, .iload_n 1, 1, .null, [], []), (54, .iaload, 1, .null, [], []), (55, .iconst 5, 1, .int 5, [], []), (56, .if_icmp .ne 14, 3, .null, [70], []), (59, .aload_n 0, 1, .null, [], []), (60, .getfield 83, 3, .null, [11, 9, 1, 0, 2163], []), (63, .iload_n 3, 1, .null, [], []), (64, .invokevirtual 412, 3, .null, [145, 1, 1, 5139, 5096, 79, 1012, 5097], []), (67, .ifCond .ne 6, 3, .null, [73], []), (70, .bipush (-12), 2, .int (-12), [], []), (72, .ireturn, 1, .null, [1], []), (73, .aload_n 0, 1, .null, [], []), (74, .getfield 83, 3, .null, [11, 9, 1, 0, 2163], []), (77, .getfield 437, 3, .null, [0, 0, 1, 1, 2111], []), (80, .iload_n 3, 1, .null, [], []), (81, .iaload, 1, .null, [], []), (82, .istore 4, 2, .null, [], []), (84, .iload 4, 2, .null, [], []), (86, .iload_n 2, 1, .null, [], []), (87, .invokestatic 440, 3, .null, [168, 2, 1, 5191, 5192, 0, 1012, 5193], []), (90, .ifCond .eq 8, 3, .null, [98], []), (93, .iload 4, 2, .null, [], []), (95, .goto 5, 3, .null, [100], []), (98, .bipush (-12), 2, .int (-12), [], []), (100, .ireturn, 1, .null, [1], [])]
def i_c168 : List I_En := [(0, .iload_n 0, 1, .null, [], []), (1, .istore_n 2, 1, .null, [], []), (2, .iconst 0, 1, .int 0, [], []), (3, .istore_n 3, 1, .null, [], []), (4, .iload_n 3, 1, .null, [], []), (5, .bipush 8, 2, .int 8, [], []), (7, .if_icmp .ge 29, 3, .null, [36], []), (10, .iload_n 2, 1, .null, [], []), (11, .invokestatic 16, 3, .null, [141, 1, 0, 5109, 5080, 0, 1012, 5081], []), (14, .ifCond .eq 22, 3, .null, [36], []), (17, .iload_n 2, 1, .null, [], []), (18, .iload_n 1, 1, .null, [], []), (19, .if_icmp .ne 5, 3, .null, [24], []), (22, .iconst 1, 1, .int 1, [], []), (23, .ireturn, 1, .null, [2], []), (24, .getstatic 20, 3, .ref 103, [3, 5112], []), (27, .iload_n 2, 1, .null, [], []), (28, .iaload, 1, .null, [], []), (29, .istore_n 2, 1, .null, [], []), (30, .iinc 3 1, 3, .int 1, [], []), (33, .goto (-29), 3, .null, [4], []), (36, .iconst 0, 1, .int 0, [], []), (37, .ireturn, 1, .null, [2], [])]
def i_c169 : List I_En := [(0, .iload_n 1, 1, .null, [], []), (1, .tableswitch 114 0 7 #[47, 55, 63, 71, 82, 90, 98, 106], 47, .null, [115], [(0, 48), (1, 56), (2, 64), (3, 72), (4, 83), (5, 91), (6, 99), (7, 107)]), (48, .aload_n 0, 1, .null, [], []), (49, .getfield 37, 3, .null, [11, 3, 1, 0, 2157], []), (52, .getfield 101, 3, .null, [1, 6, 0, 1, 1166], []), (55, .ireturn, 1, .null, [1], []), (56, .aload_n 0, 1, .null, [], []), (57, .getfield 10, 3, .null, [11, 0, 1, 0, 2154], []), (60, .invokevirtual 300, 3, .null, [21, 0, 1, 4151, 2230, 5, 1002, 2231], []), (63, .ireturn, 1, .null, [1], []), (64, .aload_n 0, 1, .null, [], []), (65, .getfield 44, 3, .null, [11, 4, 1, 0, 2158], []), (68, .getfield 256, 3, .null, [3, 3, 0, 1, 1208], []), (71, .ireturn, 1, .null, [1], []), (72, .aload_n 0, 1, .null, [], []), (73, .getfield 37, 3, .null, [11, 3, 1, 0, 2157], []), (76, .getfield 365, 3, .null, [1, 7, 0, 1, 1169], []), (79, .invokestatic 443, 3, .null, [105, 1, 0, 5198, 4161, 0, 1022, 4162], []), (82, .ireturn, 1, .null, [1], []), (83, .aload_n 0, 1, .null, [], []), (84, .getfield 19, 3, .null, [11, 1, 1, 0, 2155], []), (87, .getfield 227, 3, .null, [9, 1, 0, 1, 1099], []), (90, .ireturn, 1, .null, [1], []), (91, .aload_n 0, 1, .null, [], []), (92, .getfield 69, 3, .null, [11, 7, 1, 0, 2161], []), (95, .getfield 374, 3, .null, [2, 4, 0, 1, 2069], []), (98, .ireturn, 1, .null, [1], []), (99, .aload_n 0, 1, .null, [], []), (100, .getfield 83, 3, .null, [11, 9, 1, 0, 2163], []), (103, .getfield 402, 3, .null, [0, 1, 0, 1, 2113], []), (106, .ireturn, 1, .null, [1], []), (107, .aload_n 0, 1, .null, [], []), (108, .getfield 83, 3, .null, [11, 9, 1, 0, 2163], []), (111, .getfield 448, 3, .null, [0, 3, 0, 1, 2117], []), (114, .ireturn, 1, .null, [1], []), (115, .iconst (-1), 1, .int (-1), [], []), (116, .ireturn, 1, .null, [1], [])]
def i_c170 : List I_En := [(0, .aload_n 0, 1, .null, [], []), (1, .invokespecial 3, 3, .null, [999, 5204, 1029, 1030], []), (4, .aload_n 0, 1, .null, [], []), (5, .bipush 60, 2, .int 60, [], []), (7, .newarray .int, 2, .null, [0, 1090], []), (9, .putfield 9, 3, .null, [12, 0, 1, 0, 5209], []), (12, .aload_n 0, 1, .null, [], []), (13, .bipush 40, 2, .int 40, [], []), (15, .newarray .int, 2, .null, [0, 1090], []), (17, .putfield 13, 3, .null, [12, 1, 1, 0, 5210], []), (20, .aload_n 0, 1, .null, [], []), (21, .bipush 40, 2, .int 40, [], []), (23, .newarray .int, 2, .null, [0, 1090], []), (25, .putfield 16, 3, .null, [12, 2, 1, 0, 5211], []), (28, .aload_n 0, 1, .null, [], []), (29, .bipush 40, 2, .int 40, [], []), (31, .newarray .int, 2, .null, [0, 1090], []), (33, .putfield 19, 3, .null, [12, 3, 1, 0, 5212], []), (36, .aload_n 0, 1, .null, [], []), (37, .bipush 6, 2, .int 6, [], []), (39, .newarray .int, 2, .null, [0, 1090], []), (41, .putfield 22, 3, .null, [12, 9, 1, 0, 5218], []), (44, .aload_n 0, 1, .null, [], []), (45, .bipush 6, 2, .int 6, [], []), (47, .newarray .int, 2, .null, [0, 1090], []), (49, .putfield 25, 3, .null, [12, 10, 1, 0, 5219], []), (52, .aload_n 0, 1, .null, [], []), (53, .bipush 6, 2, .int 6, [], []), (55, .newarray .int, 2, .null, [0, 1090], []), (57, .putfield 28, 3, .null, [12, 11, 1, 0, 5220], []), (60, .aload_n 0, 1, .null, [], []), (61, .bipush 120, 2, .int 120, [], []), (63, .newarray .int, 2, .null, [0, 1090], []), (65, .putfield 31, 3, .null, [12, 14, 1, 0, 5223], []), (68, .aload_n 0, 1, .null, [], []), (69, .bipush 120, 2, .int 120, [], []), (71, .newarray .int, 2, .null, [0, 1090], []), (73, .putfield 34, 3, .null, [12, 16, 1, 0, 5225], []), (76, .aload_n 0, 1, .null, [], []), (77, .bipush 7, 2, .int 7, [], []), (79, .newarray .int, 2, .null, [0, 1090], []), (81, .putfield 37, 3, .null, [12, 23, 1, 0, 5232], []), (84, .aload_n 0, 1, .null, [], []), (85, .bipush 30, 2, .int 30, [], []), (87, .newarray .int, 2, .null, [0, 1090], []), (89, .putfield 40, 3, .null, [12, 25, 1, 0, 5234], []), (92, .aload_n 0, 1, .null, [], []), (93, .sipush 2500, 3, .int 2500, [], []), (96, .newarray .int, 2, .null, [0, 1090], []), (98, .putfield 43, 3, .null, [12, 26, 1, 0, 5235], []), (101, .aload_n 0, 1, .null, [], []), (102, .bipush 25, 2, .int 25, [], []), (104, .newarray .int, 2, .null, [0, 1090], []), (106, .putfield 46, 3, .null, [12, 32, 1, 0, 6001], []), (109, .aload_n 0, 1, .null, [], []), (110, .sipush 250, 3, .int 250, [], []), (113, .newarray .boolean, 2, .null, [2, 6138], []), (115, .putfield 49, 3, .null, [12, 35, 1, 0, 6004], []), (118, .aload_n 0, 1, .null, [], []), (119, .bipush 100, 2, .int 100, [], []), (121, .newarray .int, 2, .null, [0, 1090], []), (123, .putfield 53, 3, .null, [12, 36, 1, 0, 6005], []), (126, .aload_n 0, 1, .null, [], []), (127, .bipush 6, 2, .int 6, [], []), (129, .newarray .int, 2, .null, [0, 1090], []), (131, .putfield 56, 3, .null, [12, 39, 1, 0, 6008], []), (134, .aload_n 0, 1, .null, [], []), (135, .bipush 30, 2, .int 30, [], []), (137, .newarray .int, 2, .null, [0, 1090], []), (139, .putfield 59, 3, .null, [12, 45, 1, 0, 6014], []), (142, .aload_n 0, 1, .null, [], []), (143, .bipush 50, 2, .int 50, [], []), (145, .newarray .int, 2, .null, [0, 1090], []), (147, .putfield 62, 3, .null, [12, 47, 1, 0, 6016], []), (150, .aload_n 0, 1, .null, [], []), (151, .bipush 24, 2, .int 24, [], []), (153, .newarray .int, 2, .null, [0, 1090], []), (155, .putfield 65, 3, .null, [12, 48, 1, 0, 6017], []), (158, .aload_n 0, 1, .null, [], []), (159, .bipush 6, 2, .int 6, [], []), (161, .newarray .int, 2, .null, [0, 1090], []), (163, .putfield 68, 3, .null, [12, 52, 1, 0, 6021], []), (166, .aload_n 0, 1, .null, [], []), (167, .bipush 6, 2, .int 6, [], []), (169, .newarray .int, 2, .null, [0, 1090], []), (171, .putfield 71, 3, .null, [12, 53, 1, 0, 6022], []), (174, .aload_n 0, 1, .null, [], []), (175, .sipush 360, 3, .int 360, [], []), (178, .newarray .long, 2, .null, [1, 2153], []), (180, .putfield 74, 3, .null, [12, 54, 1, 0, 6023], []), (183, .aload_n 0, 1, .null, [], []), (184, .bipush 60, 2, .int 60, [], []), (186, .newarray .long, 2, .null, [1, 2153], []), (188, .putfield 78, 3, .null, [12, 55, 1, 0, 6024], []), (191, .iconst 0, 1, .int 0, [], []), (192, .istore_n 1, 1, .null, [], []), (193, .iload_n 1, 1, .null, [], []), (194, .bipush 6, 2, .int 6, [], []), (196, .if_icmp .ge 16, 3, .null, [212], []), (199, .aload_n 0, 1, .null, [], []), (200, .getfield 68, 3, .null, [12, 52, 1, 0, 6021], []), (203, .iload_n 1, 1, .null, [], []), (204, .iconst (-1), 1, .int (-1), [], []), (205, .iastore, 1, .null, [], []), (206, .iinc 1 1, 3, .int 1, [], []), (209, .goto (-16), 3, .null, [193], []), (212, .aload_n 0, 1, .null, [], []), (213, .iconst (-1), 1, .int (-1), [], []), (214, .putfield 81, 3, .null, [12, 17, 0, 0, 5226], []), (217, .aload_n 0, 1, .null, [], []), (218, .iconst 5, 1, .int 5, [], []), (219, .putfield 85, 3, .null, [12, 6, 0, 0, 5215], []), (222, .aload_n 0, 1, .null, [], []), (223, .iconst 5, 1, .int 5, [], []), (224, .putfield 88, 3, .null, [12, 7, 0, 0, 5216], []), (227, .aload_n 0, 1, .null, [], []), (228, .invokevirtual 91, 3, .null, [171, 0, 0, 5205, 5207, 91, 1014, 5208], []), (231, .aload_n 0, 1, .null, [], []), (232, .getfield 9, 3, .null, [12, 0, 1, 0, 5209], []), (235, .bipush 58, 2, .int 58, [], []), (237, .iconst 5, 1, .int 5, [], []), (238, .iastore, 1, .null, [], []), (239, .aload_n 0, 1, .null, [], []), (240, .getfield 9, 3, .null, [12, 0, 1, 0, 5209], []), (243, .bipush 59, 2, .int 59, [], []), (245, .iconst 3, 1, .int 3, [], []), (246, .iastore, 1, .null, [], []), (247, .return_, 1, .null, [], [])]
def i_c171 : List I_En := [(0, .iconst 0, 1, .int 0, [], []), (1, .istore_n 1, 1, .null, [], []), (2, .iload_n 1, 1, .null, [], []), (3, .bipush 25, 2, .int 25, [], []), (5, .if_icmp .ge 27, 3, .null, [32], []), (8, .aload_n 0, 1, .null, [], []), (9, .getfield 9, 3, .null, [12, 0, 1, 0, 5209], []), (12, .iload_n 1, 1, .null, [], []), (13, .iconst 3, 1, .int 3, [], []), (14, .iastore, 1, .null, [], []), (15, .aload_n 0, 1, .null, [], []), (16, .getfield 9, 3, .null, [12, 0, 1, 0, 5209], []), (19, .bipush 25, 2, .int 25, [], []), (21, .iload_n 1, 1, .null, [], []), (22, .iadd, 1, .null, [], []), (23, .bipush 10, 2, .int 10, [], []), (25, .iastore, 1, .null, [], []), (26, .iinc 1 1, 3, .int 1, [], []), (29, .goto (-27), 3, .null, [2], []), (32, .return_, 1, .null, [], [])]
def i_c172 : List I_En := [(0, .aload_n 0, 1, .null, [], []), (1, .getfield 94, 3, .null, [12, 5, 0, 0, 5214], []), (4, .ifCond .ne 6, 3, .null, [10], []), (7, .bipush (-5), 2, .int (-5), [], []), (9, .ireturn, 1, .null, [1], []), (10, .aload_n 0, 1, .null, [], []), (11, .dup, 1, .null, [], []), (12, .getfield 94, 3, .null, [12, 5, 0, 0, 5214], []), (15, .iconst 1, 1, .int 1, [], []), (16, .isub, 1, .null, [], []), (17, .putfield 94, 3, .null, [12, 5, 0, 0, 5214], []), (20, .aload_n 0, 1, .null, [], []), (21, .getfield 9, 3, .null, [12, 0, 1, 0, 5209], []), (24, .aload_n 0, 1, .null, [], []), (25, .getfield 13, 3, .null, [12, 1, 1, 0, 5210], []), (28, .aload_n 0, 1, .null, [], []), (29, .getfield 94, 3, .null, [12, 5, 0, 0, 5214], []), (32, .iaload, 1, .null, [], []), (33, .aload_n 0, 1, .null, [], []), (34, .getfield 16, 3, .null, [12, 2, 1, 0, 5211], []), (37, .aload_n 0, 1, .null, [], []), (38, .getfield 94, 3, .null, [12, 5, 0, 0, 5214], []), (41, .iaload, 1, .null, [], []), (42, .iastore, 1, .null, [], []), (43, .aload_n 0, 1, .null, [], []), (44, .getfield 94, 3, .null, [12, 5, 0, 0, 5214], []), (47, .ireturn, 1, .null, [1], [])]
def i_c173 : List I_En := [(0, .aload_n 0, 1, .null, [], []), (1, .getfield 94, 3, .null, [12, 5, 0, 0, 5214], []), (4, .aload_n 0, 1, .null, [], []), (5, .getfield 97, 3, .null, [12, 4, 0, 0, 5213], []), (8, .if_icmp .ne 6, 3, .null, [14], []), (11, .bipush (-5), 2, .int (-5), [], []), (13, .ireturn, 1, .null, [1], []), (14, .aload_n 0, 1, .null, [], []), (15, .getfield 9, 3, .null, [12, 0, 1, 0, 5209], []), (18, .aload_n 0, 1, .null, [], []), (19, .getfield 13, 3, .null, [12, 1, 1, 0, 5210], []), (22, .aload_n 0, 1, .null, [], []), (23, .getfield 94, 3, .null, [12, 5, 0, 0, 5214], []), (26, .iaload, 1, .null, [], []), (27, .aload_n 0, 1, .null, [], []), (28, .getfield 19, 3, .null, [12, 3, 1, 0, 5212], []), (31, .aload_n 0, 1, .null, [], []), (32, .getfield 94, 3, .null, [12, 5, 0, 0, 5214], []), (35, .iaload, 1, .null, [], []), (36, .iastore, 1, .null, [], []), (37, .aload_n 0, 1, .null, [], []), (38, .dup, 1, .null, [], []), (39, .getfield 94, 3, .null, [12, 5, 0, 0, 5214], []), (42, .iconst 1, 1, .int 1, [], []), (43, .iadd, 1, .null, [], []), (44, .putfield 94, 3, .null, [12, 5, 0, 0, 5214], []), (47, .aload_n 0, 1, .null, [], []), (48, .getfield 97, 3, .null, [12, 4, 0, 0, 5213], []), (51, .aload_n 0, 1, .null, [], []), (52, .getfield 94, 3, .null, [12, 5, 0, 0, 5214], []), (55, .isub, 1, .null, [], []), (56, .ireturn, 1, .null, [1], [])]
def i_c174 : List I_En := [(0, .iload_n 1, 1, .null, [], []), (1, .ifCond .lt 33, 3, .null, [34], []), (4, .iload_n 1, 1, .null, [], []), (5, .bipush 10, 2, .int 10, [], []), (7, .idiv, 1, .null, [], []), (8, .i2l, 1, .null, [], []), (9, .lconst 1, 1, .long 1, [], []), (10, .ldc2_w 111, 3, .long 5, [6151], []), (13, .invokestatic 104, 3, .null, [175, 3, 0, 6152, 6153, 0, 1014, 6154], []), (16, .ifCond .eq 18, 3, .null, [34], []), (19, .iload_n 1, 1, .null, [], []), (20, .bipush 10, 2, .int 10, [], []), (22, .irem, 1, .null, [], []), (23, .i2l, 1, .null, [], []), (24, .lconst 1, 1, .long 1, [], []), (25, .ldc2_w 111, 3, .long 5, [6151], []), (28, .invokestatic 104, 3, .null, [175, 3, 0, 6152, 6153, 0, 1014, 6154], []), (31, .ifCond .ne 5, 3, .null, [36], []), (34, .iconst (-1), 1, .int (-1), [], []), (35, .ireturn, 1, .null, [1], []), (36, .aload_n 0, 1, .null, [], []), (37, .getfield 108, 3, .null, [12, 8, 0, 0, 5217], []), (40, .ifCond .le 6, 3, .null, [46], []), (43, .bipush (-5), 2, .int (-5), [], []), (45, .ireturn, 1, .null, [1], []), (46, .bipush 10, 2, .int 10, [], []), (48, .aload_n 0, 1, .null, [], []), (49, .getfield 85, 3, .null, [12, 6, 0, 0, 5215], []), (52, .imul, 1, .null, [], []), (53, .aload_n 0, 1, .null, [], []), (54, .getfield 88, 3, .null, [12, 7, 0, 0, 5216], []), (57, .iadd, 1, .null, [], []), (58, .istore_n 2, 1, .null, [], []), (59, .aload_n 0, 1, .null, [], []), (60, .iload_n 1, 1, .null, [], []), (61, .bipush 10, 2, .int 10, [], []), (63, .idiv, 1, .null, [], []), (64, .putfield 85, 3, .null, [12, 6, 0, 0, 5215], []), (67, .aload_n 0, 1, .null, [], []), (68, .iload_n 1, 1, .null, [], []), (69, .bipush 10, 2, .int 10, [], []), (71, .irem, 1, .null, [], []), (72, .putfield 88, 3, .null, [12, 7, 0, 0, 5216], []), (75, .aload_n 0, 1, .null, [], []), (76, .invokevirtual 91, 3, .null, [171, 0, 0, 5205, 5207, 91, 1014, 5208], []), (79, .aload_n 0, 1, .null, [], []), (80, .iconst 0, 1, .int 0, [], []), (81, .putfield 113, 3, .null, [12, 24, 0, 0, 5233], []), (84, .aload_n 0, 1, .null, [], []), (85, .iconst 0, 1, .int 0, [], []), (86, .putfield 94, 3, .null, [12, 5, 0, 0, 5214], []), (89, .aload_n 0, 1, .null, [], []), (90, .iconst 0, 1, .int 0, [], []), (91, .putfield 97, 3, .null, [12, 4, 0, 0, 5213], []), (94, .aload_n 0, 1, .null, [], []), (95, .iconst 0, 1, .int 0, [], []), (96, .putfield 116, 3, .null, [12, 41, 2, 0, 6010], []), (99, .iload_n 2, 1, .null, [], []), (100, .ireturn, 1, .null, [1], [])]
def i_c175 : List I_En := [(0, .lload_n 0, 1, .null, [], []), (1, .lload_n 2, 1, .null, [], []), (2, .lcmp, 1, .null, [], []), (3, .ifCond .lt 14, 3, .null, [17], []), (6, .lload_n 0, 1, .null, [], []), (7, .lload 4, 2, .null, [], []), (9, .lcmp, 1, .null, [], []), (10, .ifCond .gt 7, 3, .null, [17], []), (13, .iconst 1, 1, .int 1, [], []), (14, .goto 4, 3, .null, [18], []), (17, .iconst 0, 1, .int 0, [], []), (18, .ireturn, 1, .null, [2], [])]
def i_c176 : List I_En := [(0, .iload_n 2, 1, .null, [], []), (1, .ifCond .lt 29, 3, .null, [30], []), (4, .iload_n 2, 1, .null, [], []), (5, .bipush 100, 2, .int 100, [], []), (7, .idiv, 1, .null, [], []), (8, .bipush 9, 2, .int 9, [], []), (10, .if_icmp .gt 20, 3, .null, [30], []), (13, .iload_n 2, 1, .null, [], []), (14, .bipush 10, 2, .int 10, [], []), (16, .irem, 1, .null, [], []), (17, .iconst 1, 1, .int 1, [], []), (18, .if_icmp .gt 12, 3, .null, [30], []), (21, .aload_n 0, 1, .null, [], []), (22, .iload_n 1, 1, .null, [], []), (23, .i2l, 1, .null, [], []), (24, .invokevirtual 120, 3, .null, [177, 1, 0, 6159, 6161, 92, 1014, 6162], []), (27, .ifCond .ne 5, 3, .null, [32], []), (30, .iconst (-1), 1, .int (-1), [], []), (31, .ireturn, 1, .null, [1], []), (32, .aload_n 0, 1, .null, [], []), (33, .getfield 108, 3, .null, [12, 8, 0, 0, 5217], []), (36, .bipush 6, 2, .int 6, [], []), (38, .if_icmp .ne 6, 3, .null, [44], []), (41, .bipush (-3), 2, .int (-3), [], []), (43, .ireturn, 1, .null, [1], []), (44, .aload_n 0, 1, .null, [], []), (45, .iload_n 1, 1, .null, [], []), (46, .iload_n 2, 1, .null, [], []), (47, .bipush 100, 2, .int 100, [], []), (49, .idiv, 1, .null, [], []), (50, .iload_n 2, 1, .null, [], []), (51, .bipush 10, 2, .int 10, [], []), (53, .idiv, 1, .null, [], []), (54, .bipush 10, 2, .int 10, [], []), (56, .irem, 1, .null, [], []), (57, .iload_n 2, 1, .null, [], []), (58, .bipush 10, 2, .int 10, [], []), (60, .irem, 1, .null, [], []), (61, .invokevirtual 124, 3, .null, [179, 4, 0, 6167, 6169, 94, 1014, 6170], []), (64, .aload_n 0, 1, .null, [], []), (65, .getfield 108, 3, .null, [12, 8, 0, 0, 5217], []), (68, .iconst 1, 1, .int 1, [], []), (69, .isub, 1, .null, [], []), (70, .ireturn, 1, .null, [1], [])]
def i_c177 : List I_En := [(0, .iconst 0, 1, .int 0, [], []), (1, .istore_n 3, 1, .null, [], []), (2, .iload_n 3, 1, .null, [], []), (3, .aload_n 0, 1, .null, [], []), (4, .getfield 108, 3, .null, [12, 8, 0, 0, 5217], []), (7, .if_icmp .ge 23, 3, .null, [30], []), (10, .aload_n 0, 1, .null, [], []), (11, .getfield 22, 3, .null, [12, 9, 1, 0, 5218], []), (14, .iload_n 3, 1, .null, [], []), (15, .iaload, 1, .null, [], []), (16, .i2l, 1, .null, [], []), (17, .lload_n 1, 1, .null, [], []), (18, .lcmp, 1, .null, [], []), (19, .ifCond .ne 5, 3, .null, [24], []), (22, .iconst 0, 1, .int 0, [], []), (23, .ireturn, 1, .null, [2], []), (24, .iinc 3 1, 3, .int 1, [], []), (27, .goto (-25), 3, .null, [2], []), (30, .lload_n 1, 1, .null, [], []), (31, .lconst 0, 1, .long 0, [], []), (32, .aload_n 0, 1, .null, [], []), (33, .invokevirtual 100, 3, .null, [178, 0, 0, 6163, 6165, 93, 1014, 6166], []), (36, .iconst 1, 1, .int 1, [], []), (37, .isub, 1, .null, [], []), (38, .i2l, 1, .null, [], []), (39, .invokestatic 104, 3, .null, [175, 3, 0, 6152, 6153, 0, 1014, 6154], []), (42, .ireturn, 1, .null, [2], [])]
def i_c178 : List I_En := [(0, .aload_n 0, 1, .null, [], []), (1, .getfield 85, 3, .null, [12, 6, 0, 0, 5215], []), (4, .aload_n 0, 1, .null, [], []), (5, .getfield 88, 3, .null, [12, 7, 0, 0, 5216], []), (8, .imul, 1, .null, [], []), (9, .ireturn, 1, .null, [1], [])]
def i_c179 : List I_En := [(0, .aload_n 0, 1, .null, [], []), (1, .getfield 22, 3, .null, [12, 9, 1, 0, 5218], []), (4, .aload_n 0, 1, .null, [], []), (5, .getfield 108, 3, .null, [12, 8, 0, 0, 5217], []), (8, .iload_n 1, 1, .null, [], []), (9, .iastore, 1, .null, [], []), (10, .aload_n 0, 1, .null, [], []), (11, .getfield 25, 3, .null, [12, 10, 1, 0, 5219], []), (14, .aload_n 0, 1, .null, [], []), (15, .getfield 108, 3, .null, [12, 8, 0, 0, 5217], []), (18, .iload_n 2, 1, .null, [], []), (19, .iastore, 1, .null, [], []), (20, .aload_n 0, 1, .null, [], []), (21, .getfield 9, 3, .null, [12, 0, 1, 0, 5209], []), (24, .bipush 50, 2, .int 50, [], []), (26, .aload_n 0, 1, .null, [], []), (27, .getfield 108, 3, .null, [12, 8, 0, 0, 5217], []), (30, .iadd, 1, .null, [], []), (31, .iload_n 3, 1, .null, [], []), (32, .iastore, 1, .null, [], []), (33, .aload_n 0, 1, .null, [], []), (34, .getfield 28, 3, .null, [12, 11, 1, 0, 5220], []), (37, .aload_n 0, 1, .null, [], []), (38, .getfield 108, 3, .null, [12, 8, 0, 0, 5217], []), (41, .iload 4, 2, .null, [], []), (43, .iastore, 1, .null, [], []), (44, .aload_n 0, 1, .null, [], []), (45, .dup, 1, .null, [], []), (46, .getfield 108, 3, .null, [12, 8, 0, 0, 5217], []), (49, .iconst 1, 1, .int 1, [], []), (50, .iadd, 1, .null, [], []), (51, .putfield 108, 3, .null, [12, 8, 0, 0, 5217], []), (54, .return_, 1, .null, [], [])]
def i_c180 : List I_En := [(0, .iload_n 1, 1, .null, [], []), (1, .invokestatic 128, 3, .null, [181, 1, 0, 6175, 6176, 0, 1014, 6177], []), (4, .ifCond .eq 15, 3, .null, [19], []), (7, .iload_n 3, 1, .null, [], []), (8, .i2l, 1, .null, [], []), (9, .lconst 1, 1, .long 1, [], []), (10, .ldc2_w 132, 3, .long 6, [6178], []), (13, .invokestatic 104, 3, .null, [175, 3, 0, 6152, 6153, 0, 1014, 6154], []), (16, .ifCond .ne 5, 3, .null, [21], []), (19, .iconst (-1), 1, .int (-1), [], []), (20, .ireturn, 1, .null, [1], []), (21, .aload_n 0, 1, .null, [], []), (22, .getfield 68, 3, .null, [12, 52, 1, 0, 6021], []), (25, .iload_n 1, 1, .null, [], []), (26, .iaload, 1, .null, [], []), (27, .ifCond .lt 17, 3, .null, [44], []), (30, .aload_n 0, 1, .null, [], []), (31, .getfield 68, 3, .null, [12, 52, 1, 0, 6021], []), (34, .iload_n 1, 1, .null, [], []), (35, .iaload, 1, .null, [], []), (36, .bipush 50, 2, .int 50, [], []), (38, .if_icmp .eq 6, 3, .null, [44], []), (41, .bipush (-12), 2, .int (-12), [], []), (43, .ireturn, 1, .null, [1], []), (44, .iconst 0, 1, .int 0, [], []), (45, .istore 4, 2, .null, [], []), (47, .aload_n 0, 1, .null, [], []), (48, .getfield 68, 3, .null, [12, 52, 1, 0, 6021], []), (51, .iload_n 1, 1, .null, [], []), (52, .iaload, 1, .null, [], []), (53, .bipush 50, 2, .int 50, [], []), (55, .if_icmp .ne 11, 3, .null, [66], []), (58, .iload_n 2, 1, .null, [], []), (59, .ifCond .lt 7, 3, .null, [66], []), (62, .iconst 1, 1, .int 1, [], []), (63, .goto 4, 3, .null, [67], []), (66, .iconst 0, 1, .int 0, [], []), (67, .istore 5, 2, .null, [], []), (69, .iload 5, 2, .null, [], []), (71, .ifCond .eq 189, 3, .null, [260], []), (74, .iload 4, 2, .null, [], []), (76, .iload_n 3, 1, .null, [], []), (77, .if_icmp .ge 183, 3, .null, [260], []), (80, .iload_n 2, 1, .null, [], []), (81, .aload_n 0, 1, .null, [], []), (82, .getfield 71, 3, .null, [12, 53, 1, 0, 6022], []), (85, .iload_n 1, 1, .null, [], []), (86, .iaload, 1, .null, [], []), (87, .iconst 4, 1, .int 4, [], []), (88, .isub, 1, .null, [], []), (89, .iconst 4, 1, .int 4, [], []), (90, .iload 4, 2, .null, [], []), (92, .imul, 1, .null, [], []), (93, .isub, 1, .null, [], []), (94, .if_icmp .gt 16, 3, .null, [110], []), (97, .aload_n 0, 1, .null, [], []), (98, .getfield 108, 3, .null, [12, 8, 0, 0, 5217], []), (101, .bipush 6, 2, .int 6, [], []), (103, .if_icmp .ge 7, 3, .null, [110], []), (106, .iconst 1, 1, .int 1, [], []), (107, .goto 4, 3, .null, [111], []), (110, .iconst 0, 1, .int 0, [], []), (111, .istore 5, 2, .null, [], []), (113, .bipush 60, 2, .int 60, [], []), (115, .iload_n 1, 1, .null, [], []), (116, .imul, 1, .null, [], []), (117, .iload_n 2, 1, .null, [], []), (118, .iadd, 1, .null, [], []), (119, .iconst 4, 1, .int 4, [], []), (120, .iload 4, 2, .null, [], []), (122, .imul, 1, .null, [], []), (123, .iadd, 1, .null, [], []), (124, .istore 6, 2, .null, [], []), (126, .iload 5, 2, .null, [], []), (128, .ifCond .eq 76, 3, .null, [204], []), (131, .aload_n 0, 1, .null, [], []), (132, .aload_n 0, 1, .null, [], []), (133, .getfield 74, 3, .null, [12, 54, 1, 0, 6023], []), (136, .iload 6, 2, .null, [], []), (138, .laload, 1, .null, [], []), (139, .invokevirtual 120, 3, .null, [177, 1, 0, 6159, 6161, 92, 1014, 6162], []), (142, .ifCond .eq 62, 3, .null, [204], []), (145, .aload_n 0, 1, .null, [], []), (146, .getfield 74, 3, .null, [12, 54, 1, 0, 6023], []), (149, .iload 6, 2, .null, [], []), (151, .iconst 1, 1, .int 1, [], []), (152, .iadd, 1, .null, [], []), (153, .laload, 1, .null, [], []), (154, .lconst 0, 1, .long 0, [], []), (155, .ldc2_w 134, 3, .long 9, [6179], []), (158, .invokestatic 104, 3, .null, [175, 3, 0, 6152, 6153, 0, 1014, 6154], []), (161, .ifCond .eq 43, 3, .null, [204], []), (164, .aload_n 0, 1, .null, [], []), (165, .getfield 74, 3, .null, [12, 54, 1, 0, 6023], []), (168, .iload 6, 2, .null, [], []), (170, .iconst 2, 1, .int 2, [], []), (171, .iadd, 1, .null, [], []), (172, .laload, 1, .null, [], []), (173, .lconst 0, 1, .long 0, [], []), (174, .ldc2_w 134, 3, .long 9, [6179], []), (177, .invokestatic 104, 3, .null, [175, 3, 0, 6152, 6153, 0, 1014, 6154], []), (180, .ifCond .eq 24, 3, .null, [204], []), (183, .aload_n 0, 1, .null, [], []), (184, .getfield 74, 3, .null, [12, 54, 1, 0, 6023], []), (187, .iload 6, 2, .null, [], []), (189, .iconst 3, 1, .int 3, [], []), (190, .iadd, 1, .null, [], []), (191, .laload, 1, .null, [], []), (192, .lconst 0, 1, .long 0, [], []), (193, .lconst 1, 1, .long 1, [], []), (194, .invokestatic 104, 3, .null, [175, 3, 0, 6152, 6153, 0, 1014, 6154], []), (197, .ifCond .eq 7, 3, .null, [204], []), (200, .iconst 1, 1, .int 1, [], []), (201, .goto 4, 3, .null, [205], []), (204, .iconst 0, 1, .int 0, [], []), (205, .istore 5, 2, .null, [], []), (207, .iload 5, 2, .null, [], []), (209, .ifCond .eq 48, 3, .null, [257], []), (212, .aload_n 0, 1, .null, [], []), (213, .aload_n 0, 1, .null, [], []), (214, .getfield 74, 3, .null, [12, 54, 1, 0, 6023], []), (217, .iload 6, 2, .null, [], []), (219, .laload, 1, .null, [], []), (220, .l2i, 1, .null, [], []), (221, .aload_n 0, 1, .null, [], []), (222, .getfield 74, 3, .null, [12, 54, 1, 0, 6023], []), (225, .iload 6, 2, .null, [], []), (227, .iconst 1, 1, .int 1, [], []), (228, .iadd, 1, .null, [], []), (229, .laload, 1, .null, [], []), (230, .l2i, 1, .null, [], []), (231, .aload_n 0, 1, .null, [], []), (232, .getfield 74, 3, .null, [12, 54, 1, 0, 6023], []), (235, .iload 6, 2, .null, [], []), (237, .iconst 2, 1, .int 2, [], []), (238, .iadd, 1, .null, [], []), (239, .laload, 1, .null, [], []), (240, .l2i, 1, .null, [], []), (241, .aload_n 0, 1, .null, [], []), (242, .getfield 74, 3, .null, [12, 54, 1, 0, 6023], []), (245, .iload 6, 2, .null, [], []), (247, .iconst 3, 1, .int 3, [], []), (248, .iadd, 1, .null, [], []), (249, .laload, 1, .null, [], []), (250, .l2i, 1, .null, [], []), (251, .invokevirtual 124, 3, .null, [179, 4, 0, 6167, 6169, 94, 1014, 6170], []), (254, .iinc 4 1, 3, .int 1, [], []), (257, .goto (-188), 3, .null, [69], []), (260, .iload 4, 2, .null, [], []), (262, .ireturn, 1, .null, [1], [])]
def i_c181 : List I_En := [(0, .iload_n 0, 1, .null, [], []), (1, .i2l, 1, .null, [], []), (2, .lconst 0, 1, .long 0, [], []), (3, .ldc2_w 111, 3, .long 5, [6151], []), (6, .invokestatic 104, 3, .null, [175, 3, 0, 6152, 6153, 0, 1014, 6154], []), (9, .ireturn, 1, .null, [2], [])]
def i_c182 : List I_En := [(0, .iload_n 2, 1, .null, [], []), (1, .tableswitch 194 0 6 #[43, 74, 108, 142, 142, 142, 142], 43, .null, [195], [(0, 44), (1, 75), (2, 109), (3, 143), (4, 143), (5, 143), (6, 143)]), (44, .aload_n 0, 1, .null, [], []), (45, .iload_n 1, 1, .null, [], []), (46, .invokevirtual 136, 3, .null, [183, 1, 0, 6184, 6186, 95, 1014, 6187], []), (49, .ifCond .eq 24, 3, .null, [73], []), (52, .iload_n 3, 1, .null, [], []), (53, .i2l, 1, .null, [], []), (54, .lconst 0, 1, .long 0, [], []), (55, .ldc2_w 134, 3, .long 9, [6179], []), (58, .invokestatic 104, 3, .null, [175, 3, 0, 6152, 6153, 0, 1014, 6154], []), (61, .ifCond .eq 12, 3, .null, [73], []), (64, .aload_n 0, 1, .null, [], []), (65, .iload_n 1, 1, .null, [], []), (66, .iload_n 3, 1, .null, [], []), (67, .invokevirtual 139, 3, .null, [184, 2, 0, 6188, 6190, 96, 1014, 6191], []), (70, .goto 4, 3, .null, [74], []), (73, .iconst (-1), 1, .int (-1), [], []), (74, .ireturn, 1, .null, [1], []), (75, .aload_n 0, 1, .null, [], []), (76, .iload_n 1, 1, .null, [], []), (77, .invokevirtual 136, 3, .null, [183, 1, 0, 6184, 6186, 95, 1014, 6187], []), (80, .ifCond .eq 27, 3, .null, [107], []), (83, .iload_n 3, 1, .null, [], []), (84, .i2l, 1, .null, [], []), (85, .lconst 0, 1, .long 0, [], []), (86, .ldc2_w 143, 3, .long 99, [6192], []), (89, .invokestatic 104, 3, .null, [175, 3, 0, 6152, 6153, 0, 1014, 6154], []), (92, .ifCond .eq 15, 3, .null, [107], []), (95, .aload_n 0, 1, .null, [], []), (96, .bipush 25, 2, .int 25, [], []), (98, .iload_n 1, 1, .null, [], []), (99, .iadd, 1, .null, [], []), (100, .iload_n 3, 1, .null, [], []), (101, .invokevirtual 139, 3, .null, [184, 2, 0, 6188, 6190, 96, 1014, 6191], []), (104, .goto 4, 3, .null, [108], []), (107, .iconst (-1), 1, .int (-1), [], []), (108, .ireturn, 1, .null, [1], []), (109, .aload_n 0, 1, .null, [], []), (110, .iload_n 1, 1, .null, [], []), (111, .invokevirtual 145, 3, .null, [185, 1, 0, 6193, 6195, 97, 1014, 6196], []), (114, .ifCond .eq 27, 3, .null, [141], []), (117, .iload_n 3, 1, .null, [], []), (118, .i2l, 1, .null, [], []), (119, .lconst 0, 1, .long 0, [], []), (120, .ldc2_w 134, 3, .long 9, [6179], []), (123, .invokestatic 104, 3, .null, [175, 3, 0, 6152, 6153, 0, 1014, 6154], []), (126, .ifCond .eq 15, 3, .null, [141], []), (129, .aload_n 0, 1, .null, [], []), (130, .bipush 50, 2, .int 50, [], []), (132, .iload_n 1, 1, .null, [], []), (133, .iadd, 1, .null, [], []), (134, .iload_n 3, 1, .null, [], []), (135, .invokevirtual 139, 3, .null, [184, 2, 0, 6188, 6190, 96, 1014, 6191], []), (138, .goto 4, 3, .null, [142], []), (141, .iconst (-1), 1, .int (-1), [], []), (142, .ireturn, 1, .null, [1], []), (143, .iload_n 1, 1, .null, [], []), (144, .ifCond .ne 49, 3, .null, [193], []), (147, .iload_n 3, 1, .null, [], []), (148, .i2l, 1, .null, [], []), (149, .lconst 0, 1, .long 0, [], []), (150, .iload_n 2, 1, .null, [], []), (151, .iconst 4, 1, .int 4, [], []), (152, .if_icmp .ne 7, 3, .null, [159], []), (155, .lconst 1, 1, .long 1, [], []), (156, .goto 17, 3, .null, [173], []), (159, .iload_n 2, 1, .null, [], []), (160, .iconst 5, 1, .int 5, [], []), (161, .if_icmp .ne 9, 3, .null, [170], []), (164, .ldc2_w 143, 3, .long 99, [6192], []), (167, .goto 6, 3, .null, [173], []), (170, .ldc2_w 134, 3, .long 9, [6179], []), (173, .invokestatic 104, 3, .null, [175, 3, 0, 6152, 6153, 0, 1014, 6154], []), (176, .ifCond .eq 17, 3, .null, [193], []), (179, .aload_n 0, 1, .null, [], []), (180, .bipush 56, 2, .int 56, [], []), (182, .iload_n 2, 1, .null, [], []), (183, .iadd, 1, .null, [], []), (184, .iconst 3, 1, .int 3, [], []), (185, .isub, 1, .null, [], []), (186, .iload_n 3, 1, .null, [], []), (187, .invokevirtual 139, 3, .null, [184, 2, 0, 6188, 6190, 96, 1014, 6191], []), (190, .goto 4, 3, .null, [194], []), (193, .iconst (-1), 1, .int (-1), [], []), (194, .ireturn, 1, .null, [1], []), (195, .iconst (-1), 1, .int (-1), [], []), (196, .ireturn, 1, .null, [1], [])]
def i_c183 : List I_En := [(0, .iload_n 1, 1, .null, [], []), (1, .i2l, 1, .null, [], []), (2, .lconst 0, 1, .long 0, [], []), (3, .aload_n 0, 1, .null, [], []), (4, .invokevirtual 100, 3, .null, [178, 0, 0, 6163, 6165, 93, 1014, 6166], []), (7, .iconst 1, 1, .int 1, [], []), (8, .isub, 1, .null, [], []), (9, .i2l, 1, .null, [], []), (10, .invokestatic 104, 3, .null, [175, 3, 0, 6152, 6153, 0, 1014, 6154], []), (13, .ireturn, 1, .null, [2], [])]
def i_c184 : List I_En := [(0, .aload_n 0, 1, .null, [], []), (1, .getfield 9, 3, .null, [12, 0, 1, 0, 5209], []), (4, .iload_n 1, 1, .null, [], []), (5, .iaload, 1, .null, [], []), (6, .istore_n 3, 1, .null, [], []), (7, .iload_n 3, 1, .null, [], []), (8, .iload_n 2, 1, .null, [], []), (9, .if_icmp .ne 5, 3, .null, [14], []), (12, .iload_n 3, 1, .null, [], []), (13, .ireturn, 1, .null, [1], []), (14, .aload_n 0, 1, .null, [], []), (15, .getfield 94, 3, .null, [12, 5, 0, 0, 5214], []), (18, .bipush 40, 2, .int 40, [], []), (20, .if_icmp .ne 77, 3, .null, [97], []), (23, .iconst 1, 1, .int 1, [], []), (24, .istore 4, 2, .null, [], []), (26, .iload 4, 2, .null, [], []), (28, .bipush 40, 2, .int 40, [], []), (30, .if_icmp .ge 57, 3, .null, [87], []), (33, .aload_n 0, 1, .null, [], []), (34, .getfield 13, 3, .null, [12, 1, 1, 0, 5210], []), (37, .iload 4, 2, .null, [], []), (39, .iconst 1, 1, .int 1, [], []), (40, .isub, 1, .null, [], []), (41, .aload_n 0, 1, .null, [], []), (42, .getfield 13, 3, .null, [12, 1, 1, 0, 5210], []), (45, .iload 4, 2, .null, [], []), (47, .iaload, 1, .null, [], []), (48, .iastore, 1, .null, [], []), (49, .aload_n 0, 1, .null, [], []), (50, .getfield 16, 3, .null, [12, 2, 1, 0, 5211], []), (53, .iload 4, 2, .null, [], []), (55, .iconst 1, 1, .int 1, [], []), (56, .isub, 1, .null, [], []), (57, .aload_n 0, 1, .null, [], []), (58, .getfield 16, 3, .null, [12, 2, 1, 0, 5211], []), (61, .iload 4, 2, .null, [], []), (63, .iaload, 1, .null, [], []), (64, .iastore, 1, .null, [], []), (65, .aload_n 0, 1, .null, [], []), (66, .getfield 19, 3, .null, [12, 3, 1, 0, 5212], []), (69, .iload 4, 2, .null, [], []), (71, .iconst 1, 1, .int 1, [], []), (72, .isub, 1, .null, [], []), (73, .aload_n 0, 1, .null, [], []), (74, .getfield 19, 3, .null, [12, 3, 1, 0, 5212], []), (77, .iload 4, 2, .null, [], []), (79, .iaload, 1, .null, [], []), (80, .iastore, 1, .null, [], []), (81, .iinc 4 1, 3, .int 1, [], []), (84, .goto (-58), 3, .null, [26], []), (87, .aload_n 0, 1, .null, [], []), (88, .dup, 1, .null, [], []), (89, .getfield 94, 3, .null, [12, 5, 0, 0, 5214], []), (92, .iconst 1, 1, .int 1, [], []), (93, .isub, 1, .null, [], []), (94, .putfield 94, 3, .null, [12, 5, 0, 0, 5214], []), (97, .aload_n 0, 1, .null, [], []), (98, .getfield 13, 3, .null, [12, 1, 1, 0, 5210], []), (101, .aload_n 0, 1, .null, [], []), (102, .getfield 94, 3, .null, [12, 5, 0, 0, 5214], []), (105, .iload_n 1, 1, .null, [], []), (106, .iastore, 1, .null, [], []), (107, .aload_n 0, 1, .null, [], []), (108, .getfield 16, 3, .null, [12, 2, 1, 0, 5211], []), (111, .aload_n 0, 1, .null, [], []), (112, .getfield 94, 3, .null, [12, 5, 0, 0, 5214], []), (115, .iload_n 3, 1, .null, [], []), (116, .iastore, 1, .null, [], []), (117, .aload_n 0, 1, .null, [], []), (118, .getfield 19, 3, .null, [12, 3, 1, 0, 5212], []), (121, .aload_n 0, 1, .null, [], []), (122, .getfield 94, 3, .null, [12, 5, 0, 0, 5214], []), (125, .iload_n 2, 1, .null, [], []), (126, .iastore, 1, .null, [], []), (127, .aload_n 0, 1, .null, [], []), (128, .dup, 1, .null, [], []), (129, .getfield 94, 3, .null, [12, 5, 0, 0, 5214], []), (132, .iconst 1, 1, .int 1, [], []), (133, .iadd, 1, .null, [], []), (134, .putfield 94, 3, .null, [12, 5, 0, 0, 5214], []), (137, .aload_n 0, 1, .null, [], []), (138, .aload_n 0, 1, .null, [], []), (139, .getfield 94, 3, .null, [12, 5, 0, 0, 5214], []), (142, .putfield 97, 3, .null, [12, 4, 0, 0, 5213], []), (145, .aload_n 0, 1, .null, [], []), (146, .getfield 9, 3, .null, [12, 0, 1, 0, 5209], []), (149, .iload_n 1, 1, .null, [], []), (150, .iload_n 2, 1, .null, [], []), (151, .iastore, 1, .null, [], []), (152, .iload_n 3, 1, .null, [], []), (153, .ireturn, 1, .null, [1], [])]
def i_c185 : List I_En := [(0, .iload_n 1, 1, .null, [], []), (1, .i2l, 1, .null, [], []), (2, .lconst 0, 1, .long 0, [], []), (3, .aload_n 0, 1, .null, [], []), (4, .getfield 108, 3, .null, [12, 8, 0, 0, 5217], []), (7, .iconst 1, 1, .int 1, [], []), (8, .isub, 1, .null, [], []), (9, .i2l, 1, .null, [], []), (10, .invokestatic 104, 3, .null, [175, 3, 0, 6152, 6153, 0, 1014, 6154], []), (13, .ireturn, 1, .null, [2], [])]
def i_c186 : List I_En := [(0, .iload_n 2, 1, .null, [], []), (1, .i2l, 1, .null, [], []), (2, .lconst 0, 1, .long 0, [], []), (3, .lconst 1, 1, .long 1, [], []), (4, .invokestatic 104, 3, .null, [175, 3, 0, 6152, 6153, 0, 1014, 6154], []), (7, .ifCond .eq 27, 3, .null, [34], []), (10, .aload_n 0, 1, .null, [], []), (11, .iload_n 1, 1, .null, [], []), (12, .invokevirtual 136, 3, .null, [183, 1, 0, 6184, 6186, 95, 1014, 6187], []), (15, .ifCond .eq 17, 3, .null, [32], []), (18, .aload_n 0, 1, .null, [], []), (19, .getfield 9, 3, .null, [12, 0, 1, 0, 5209], []), (22, .bipush 25, 2, .int 25, [], []), (24, .iload_n 2, 1, .null, [], []), (25, .imul, 1, .null, [], []), (26, .iload_n 1, 1, .null, [], []), (27, .iadd, 1, .null, [], []), (28, .iaload, 1, .null, [], []), (29, .goto 4, 3, .null, [33], []), (32, .iconst (-1), 1, .int (-1), [], []), (33, .ireturn, 1, .null, [1], []), (34, .iload_n 2, 1, .null, [], []), (35, .i2l, 1, .null, [], []), (36, .ldc2_w 155, 3, .long 10, [6201], []), (39, .ldc2_w 157, 3, .long 14, [6202], []), (42, .invokestatic 104, 3, .null, [175, 3, 0, 6152, 6153, 0, 1014, 6154], []), (45, .ifCond .eq 22, 3, .null, [67], []), (48, .aload_n 0, 1, .null, [], []), (49, .iload_n 1, 1, .null, [], []), (50, .invokevirtual 145, 3, .null, [185, 1, 0, 6193, 6195, 97, 1014, 6196], []), (53, .ifCond .eq 12, 3, .null, [65], []), (56, .aload_n 0, 1, .null, [], []), (57, .iload_n 1, 1, .null, [], []), (58, .iload_n 2, 1, .null, [], []), (59, .invokevirtual 159, 3, .null, [187, 2, 0, 6203, 6205, 98, 1014, 6206], []), (62, .goto 4, 3, .null, [66], []), (65, .iconst (-1), 1, .int (-1), [], []), (66, .ireturn, 1, .null, [1], []), (67, .iload_n 2, 1, .null, [], []), (68, .i2l, 1, .null, [], []), (69, .ldc2_w 162, 3, .long 20, [6210], []), (72, .ldc2_w 164, 3, .long 24, [6211], []), (75, .invokestatic 104, 3, .null, [175, 3, 0, 6152, 6153, 0, 1014, 6154], []), (78, .ifCond .eq 37, 3, .null, [115], []), (81, .iload_n 1, 1, .null, [], []), (82, .ifCond .eq 7, 3, .null, [89], []), (85, .iconst (-1), 1, .int (-1), [], []), (86, .goto 28, 3, .null, [114], []), (89, .iload_n 2, 1, .null, [], []), (90, .bipush 24, 2, .int 24, [], []), (92, .if_icmp .ne 10, 3, .null, [102], []), (95, .aload_n 0, 1, .null, [], []), (96, .getfield 166, 3, .null, [12, 13, 0, 0, 5222], []), (99, .goto 15, 3, .null, [114], []), (102, .aload_n 0, 1, .null, [], []), (103, .getfield 9, 3, .null, [12, 0, 1, 0, 5209], []), (106, .bipush 56, 2, .int 56, [], []), (108, .iload_n 2, 1, .null, [], []), (109, .iadd, 1, .null, [], []), (110, .bipush 20, 2, .int 20, [], []), (112, .isub, 1, .null, [], []), (113, .iaload, 1, .null, [], []), (114, .ireturn, 1, .null, [1], []), (115, .iload_n 2, 1, .null, [], []), (116, .i2l, 1, .null, [], []), (117, .ldc2_w 169, 3, .long 30, [6212], []), (120, .ldc2_w 171, 3, .long 32, [6213], []), (123, .invokestatic 104, 3, .null, [175, 3, 0, 6152, 6153, 0, 1014, 6154], []), (126, .ifCond .eq 35, 3, .null, [161], []), (129, .iload_n 1, 1, .null, [], []), (130, .i2l, 1, .null, [], []), (131, .lconst 0, 1, .long 0, [], []), (132, .aload_n 0, 1, .null, [], []), (133, .getfield 113, 3, .null, [12, 24, 0, 0, 5233], []), (136, .iconst 1, 1, .int 1, [], []), (137, .isub, 1, .null, [], []), (138, .i2l, 1, .null, [], []), (139, .invokestatic 104, 3, .null, [175, 3, 0, 6152, 6153, 0, 1014, 6154], []), (142, .ifCond .eq 19, 3, .null, [161], []), (145, .aload_n 0, 1, .null, [], []), (146, .getfield 40, 3, .null, [12, 25, 1, 0, 5234], []), (149, .iconst 3, 1, .int 3, [], []), (150, .iload_n 1, 1, .null, [], []), (151, .imul, 1, .null, [], []), (152, .iload_n 2, 1, .null, [], []), (153, .iadd, 1, .null, [], []), (154, .bipush 30, 2, .int 30, [], []), (156, .isub, 1, .null, [], []), (157, .iaload, 1, .null, [], []), (158, .goto 4, 3, .null, [162], []), (161, .iconst (-1), 1, .int (-1), [], []), (162, .ireturn, 1, .null, [1], [])]
def i_c187 : List I_En := [(0, .iload_n 2, 1, .null, [], []), (1, .tableswitch 62 10 13 #[31, 38, 45, 55], 31, .null, [63], [(10, 32), (11, 39), (12, 46), (13, 56)]), (32, .aload_n 0, 1, .null, [], []), (33, .getfield 22, 3, .null, [12, 9, 1, 0, 5218], []), (36, .iload_n 1, 1, .null, [], []), (37, .iaload, 1, .null, [], []), (38, .ireturn, 1, .null, [1], []), (39, .aload_n 0, 1, .null, [], []), (40, .getfield 25, 3, .null, [12, 10, 1, 0, 5219], []), (43, .iload_n 1, 1, .null, [], []), (44, .iaload, 1, .null, [], []), (45, .ireturn, 1, .null, [1], []), (46, .aload_n 0, 1, .null, [], []), (47, .getfield 9, 3, .null, [12, 0, 1, 0, 5209], []), (50, .bipush 50, 2, .int 50, [], []), (52, .iload_n 1, 1, .null, [], []), (53, .iadd, 1, .null, [], []), (54, .iaload, 1, .null, [], []), (55, .ireturn, 1, .null, [1], []), (56, .aload_n 0, 1, .null, [], []), (57, .getfield 28, 3, .null, [12, 11, 1, 0, 5220], []), (60, .iload_n 1, 1, .null, [], []), (61, .iaload, 1, .null, [], []), (62, .ireturn, 1, .null, [1], []), (63, .aload_n 0, 1, .null, [], []), (64, .getfield 148, 3, .null, [12, 12, 0, 0, 5221], []), (67, .iload_n 1, 1, .null, [], []), (68, .invokestatic 151, 3, .null, [188, 2, 0, 6207, 6208, 0, 1014, 6209], []), (71, .ifCond .eq 7, 3, .null, [78], []), (74, .iconst 1, 1, .int 1, [], []), (75, .goto 4, 3, .null, [79], []), (78, .iconst 0, 1, .int 0, [], []), (79, .ireturn, 1, .null, [1], [])]
def i_c188 : List I_En := [(0, .iload_n 0, 1, .null, [], []), (1, .iload_n 1, 1, .null, [], []), (2, .ishr, 1, .null, [], []), (3, .iconst 1, 1, .int 1, [], []), (4, .iand, 1, .null, [], []), (5, .iconst 1, 1, .int 1, [], []), (6, .if_icmp .ne 7, 3, .null, [13], []), (9, .iconst 1, 1, .int 1, [], []), (10, .goto 4, 3, .null, [14], []), (13, .iconst 0, 1, .int 0, [], []), (14, .ireturn, 1, .null, [2], [])]
def i_c189 : List I_En := [(0, .iload_n 1, 1, .null, [], []), (1, .i2l, 1, .null, [], []), (2, .lconst 0, 1, .long 0, [], []), (3, .ldc2_w 173, 3, .long 255, [6218], []), (6, .invokestatic 104, 3, .null, [175, 3, 0, 6152, 6153, 0, 1014, 6154], []), (9, .ifCond .ne 5, 3, .null, [14], []), (12, .iconst (-1), 1, .int (-1), [], []), (13, .ireturn, 1, .null, [1], []), (14, .aload_n 0, 1, .null, [], []), (15, .getfield 175, 3, .null, [12, 15, 0, 0, 5224], []), (18, .bipush 120, 2, .int 120, [], []), (20, .if_icmp .ne 6, 3, .null, [26], []), (23, .bipush (-3), 2, .int (-3), [], []), (25, .ireturn, 1, .null, [1], []), (26, .aload_n 0, 1, .null, [], []), (27, .getfield 31, 3, .null, [12, 14, 1, 0, 5223], []), (30, .aload_n 0, 1, .null, [], []), (31, .getfield 175, 3, .null, [12, 15, 0, 0, 5224], []), (34, .iload_n 1, 1, .null, [], []), (35, .iastore, 1, .null, [], []), (36, .aload_n 0, 1, .null, [], []), (37, .dup, 1, .null, [], []), (38, .getfield 175, 3, .null, [12, 15, 0, 0, 5224], []), (41, .iconst 1, 1, .int 1, [], []), (42, .iadd, 1, .null, [], []), (43, .putfield 175, 3, .null, [12, 15, 0, 0, 5224], []), (46, .aload_n 0, 1, .null, [], []), (47, .getfield 175, 3, .null, [12, 15, 0, 0, 5224], []), (50, .ireturn, 1, .null, [1], [])]
def i_c190 : List I_En := [(0, .aload_n 0, 1, .null, [], []), (1, .iconst (-1), 1, .int (-1), [], []), (2, .aload_n 0, 1, .null, [], []), (3, .getfield 175, 3, .null, [12, 15, 0, 0, 5224], []), (6, .invokevirtual 224, 3, .null, [191, 2, 0, 6223, 6225, 99, 1014, 6226], []), (9, .istore_n 1, 1, .null, [], []), (10, .aload_n 0, 1, .null, [], []), (11, .getfield 175, 3, .null, [12, 15, 0, 0, 5224], []), (14, .istore_n 2, 1, .null, [], []), (15, .aload_n 0, 1, .null, [], []), (16, .iconst 0, 1, .int 0, [], []), (17, .putfield 175, 3, .null, [12, 15, 0, 0, 5224], []), (20, .aload_n 0, 1, .null, [], []), (21, .getfield 187, 3, .null, [12, 21, 0, 0, 5230], []), (24, .ifCond .lt 11, 3, .null, [35], []), (27, .bipush (-100), 2, .int (-100), [], []), (29, .aload_n 0, 1, .null, [], []), (30, .getfield 187, 3, .null, [12, 21, 0, 0, 5230], []), (33, .isub, 1, .null, [], []), (34, .ireturn, 1, .null, [1], []), (35, .iconst 0, 1, .int 0, [], []), (36, .istore_n 3, 1, .null, [], []), (37, .iload_n 3, 1, .null, [], []), (38, .iload_n 2, 1, .null, [], []), (39, .if_icmp .ge 21, 3, .null, [60], []), (42, .aload_n 0, 1, .null, [], []), (43, .getfield 34, 3, .null, [12, 16, 1, 0, 5225], []), (46, .iload_n 3, 1, .null, [], []), (47, .aload_n 0, 1, .null, [], []), (48, .getfield 31, 3, .null, [12, 14, 1, 0, 5223], []), (51, .iload_n 3, 1, .null, [], []), (52, .iaload, 1, .null, [], []), (53, .iastore, 1, .null, [], []), (54, .iinc 3 1, 3, .int 1, [], []), (57, .goto (-20), 3, .null, [37], []), (60, .aload_n 0, 1, .null, [], []), (61, .iload_n 2, 1, .null, [], []), (62, .putfield 81, 3, .null, [12, 17, 0, 0, 5226], []), (65, .iconst 1, 1, .int 1, [], []), (66, .ireturn, 1, .null, [1], [])]
def i_c191 : List I_En := [(0, .aload_n 0, 1, .null, [], []), (1, .iload_n 1, 1, .null, [], []), (2, .putfield 184, 3, .null, [12, 18, 0, 0, 5227], []), (5, .aload_n 0, 1, .null, [], []), (6, .iconst 0, 1, .int 0, [], []), (7, .putfield 178, 3, .null, [12, 19, 0, 0, 5228], []), (10, .aload_n 0, 1, .null, [], []), (11, .iload_n 2, 1, .null, [], []), (12, .putfield 181, 3, .null, [12, 20, 0, 0, 5229], []), (15, .aload_n 0, 1, .null, [], []), (16, .iconst (-1), 1, .int (-1), [], []), (17, .putfield 187, 3, .null, [12, 21, 0, 0, 5230], []), (20, .aload_n 0, 1, .null, [], []), (21, .iconst 0, 1, .int 0, [], []), (22, .putfield 211, 3, .null, [12, 22, 0, 0, 5231], []), (25, .iconst 0, 1, .int 0, [], []), (26, .istore_n 3, 1, .null, [], []), (27, .iconst 0, 1, .int 0, [], []), (28, .istore 4, 2, .null, [], []), (30, .iconst 1, 1, .int 1, [], []), (31, .istore 5, 2, .null, [], []), (33, .iload 5, 2, .null, [], []), (35, .ifCond .eq 72, 3, .null, [107], []), (38, .aload_n 0, 1, .null, [], []), (39, .invokevirtual 217, 3, .null, [192, 0, 0, 6227, 6229, 100, 1014, 6230], []), (42, .istore 6, 2, .null, [], []), (44, .iconst 1, 1, .int 1, [], []), (45, .istore 7, 2, .null, [], []), (47, .aload_n 0, 1, .null, [], []), (48, .bipush 63, 2, .int 63, [], []), (50, .invokevirtual 196, 3, .null, [200, 1, 0, 7019, 7021, 108, 1014, 7022], []), (53, .ifCond .eq 21, 3, .null, [74], []), (56, .iload 6, 2, .null, [], []), (58, .ifCond .eq 7, 3, .null, [65], []), (61, .iconst 1, 1, .int 1, [], []), (62, .goto 4, 3, .null, [66], []), (65, .iconst 0, 1, .int 0, [], []), (66, .istore 7, 2, .null, [], []), (68, .aload_n 0, 1, .null, [], []), (69, .invokevirtual 217, 3, .null, [192, 0, 0, 6227, 6229, 100, 1014, 6230], []), (72, .istore 6, 2, .null, [], []), (74, .aload_n 0, 1, .null, [], []), (75, .getfield 187, 3, .null, [12, 21, 0, 0, 5230], []), (78, .ifCond .ge 18, 3, .null, [96], []), (81, .iload 7, 2, .null, [], []), (83, .ifCond .eq 13, 3, .null, [96], []), (86, .iload_n 3, 1, .null, [], []), (87, .ifCond .ne 9, 3, .null, [96], []), (90, .iconst 1, 1, .int 1, [], []), (91, .istore_n 3, 1, .null, [], []), (92, .iload 6, 2, .null, [], []), (94, .istore 4, 2, .null, [], []), (96, .aload_n 0, 1, .null, [], []), (97, .bipush 59, 2, .int 59, [], []), (99, .invokevirtual 196, 3, .null, [200, 1, 0, 7019, 7021, 108, 1014, 7022], []), (102, .istore 5, 2, .null, [], []), (104, .goto (-71), 3, .null, [33], []), (107, .aload_n 0, 1, .null, [], []), (108, .getfield 187, 3, .null, [12, 21, 0, 0, 5230], []), (111, .ifCond .ge 19, 3, .null, [130], []), (114, .aload_n 0, 1, .null, [], []), (115, .getfield 178, 3, .null, [12, 19, 0, 0, 5228], []), (118, .aload_n 0, 1, .null, [], []), (119, .getfield 181, 3, .null, [12, 20, 0, 0, 5229], []), (122, .if_icmp .ge 8, 3, .null, [130], []), (125, .aload_n 0, 1, .null, [], []), (126, .invokevirtual 214, 3, .null, [199, 0, 0, 7015, 7017, 107, 1014, 7018], []), (129, .ireturn, 1, .null, [1], []), (130, .iload 4, 2, .null, [], []), (132, .ireturn, 1, .null, [1], [])]
def i_c192 : List I_En := [(0, .aload_n 0, 1, .null, [], []), (1, .invokevirtual 193, 3, .null, [193, 0, 0, 6231, 6233, 101, 1014, 6234], []), (4, .istore_n 1, 1, .null, [], []), (5, .aload_n 0, 1, .null, [], []), (6, .bipush 124, 2, .int 124, [], []), (8, .invokevirtual 196, 3, .null, [200, 1, 0, 7019, 7021, 108, 1014, 7022], []), (11, .ifCond .eq 25, 3, .null, [36], []), (14, .aload_n 0, 1, .null, [], []), (15, .invokevirtual 193, 3, .null, [193, 0, 0, 6231, 6233, 101, 1014, 6234], []), (18, .istore_n 2, 1, .null, [], []), (19, .iload_n 1, 1, .null, [], []), (20, .ifCond .ne 7, 3, .null, [27], []), (23, .iload_n 2, 1, .null, [], []), (24, .ifCond .eq 7, 3, .null, [31], []), (27, .iconst 1, 1, .int 1, [], []), (28, .goto 4, 3, .null, [32], []), (31, .iconst 0, 1, .int 0, [], []), (32, .istore_n 1, 1, .null, [], []), (33, .goto (-28), 3, .null, [5], []), (36, .iload_n 1, 1, .null, [], []), (37, .ireturn, 1, .null, [1], [])]
def i_c193 : List I_En := [(0, .aload_n 0, 1, .null, [], []), (1, .invokevirtual 199, 3, .null, [194, 0, 0, 6235, 6237, 102, 1014, 6238], []), (4, .istore_n 1, 1, .null, [], []), (5, .aload_n 0, 1, .null, [], []), (6, .bipush 38, 2, .int 38, [], []), (8, .invokevirtual 196, 3, .null, [200, 1, 0, 7019, 7021, 108, 1014, 7022], []), (11, .ifCond .eq 25, 3, .null, [36], []), (14, .aload_n 0, 1, .null, [], []), (15, .invokevirtual 199, 3, .null, [194, 0, 0, 6235, 6237, 102, 1014, 6238], []), (18, .istore_n 2, 1, .null, [], []), (19, .iload_n 1, 1, .null, [], []), (20, .ifCond .eq 11, 3, .null, [31], []), (23, .iload_n 2, 1, .null, [], []), (24, .ifCond .eq 7, 3, .null, [31], []), (27, .iconst 1, 1, .int 1, [], []), (28, .goto 4, 3, .null, [32], []), (31, .iconst 0, 1, .int 0, [], []), (32, .istore_n 1, 1, .null, [], []), (33, .goto (-28), 3, .null, [5], []), (36, .iload_n 1, 1, .null, [], []), (37, .ireturn, 1, .null, [1], [])]
def i_c194 : List I_En := [(0, .aload_n 0, 1, .null, [], []), (1, .invokevirtual 202, 3, .null, [195, 0, 0, 6239, 7001, 103, 1014, 7002], []), (4, .istore_n 1, 1, .null, [], []), (5, .aload_n 0, 1, .null, [], []), (6, .invokevirtual 190, 3, .null, [198, 0, 0, 7011, 7013, 106, 1014, 7014], []), (9, .istore_n 2, 1, .null, [], []), (10, .aload_n 0, 1, .null, [], []), (11, .getfield 187, 3, .null, [12, 21, 0, 0, 5230], []), (14, .ifCond .ge 21, 3, .null, [35], []), (17, .iload_n 2, 1, .null, [], []), (18, .bipush 60, 2, .int 60, [], []), (20, .if_icmp .eq 17, 3, .null, [37], []), (23, .iload_n 2, 1, .null, [], []), (24, .bipush 61, 2, .int 61, [], []), (26, .if_icmp .eq 11, 3, .null, [37], []), (29, .iload_n 2, 1, .null, [], []), (30, .bipush 62, 2, .int 62, [], []), (32, .if_icmp .eq 5, 3, .null, [37], []), (35, .iload_n 1, 1, .null, [], []), (36, .ireturn, 1, .null, [1], []), (37, .aload_n 0, 1, .null, [], []), (38, .dup, 1, .null, [], []), (39, .getfield 178, 3, .null, [12, 19, 0, 0, 5228], []), (42, .iconst 1, 1, .int 1, [], []), (43, .iadd, 1, .null, [], []), (44, .putfield 178, 3, .null, [12, 19, 0, 0, 5228], []), (47, .aload_n 0, 1, .null, [], []), (48, .invokevirtual 202, 3, .null, [195, 0, 0, 6239, 7001, 103, 1014, 7002], []), (51, .istore_n 3, 1, .null, [], []), (52, .iload_n 2, 1, .null, [], []), (53, .bipush 60, 2, .int 60, [], []), (55, .if_icmp .ne 11, 3, .null, [66], []), (58, .iload_n 1, 1, .null, [], []), (59, .iload_n 3, 1, .null, [], []), (60, .if_icmp .ge 29, 3, .null, [89], []), (63, .goto 22, 3, .null, [85], []), (66, .iload_n 2, 1, .null, [], []), (67, .bipush 61, 2, .int 61, [], []), (69, .if_icmp .ne 11, 3, .null, [80], []), (72, .iload_n 1, 1, .null, [], []), (73, .iload_n 3, 1, .null, [], []), (74, .if_icmp .ne 15, 3, .null, [89], []), (77, .goto 8, 3, .null, [85], []), (80, .iload_n 1, 1, .null, [], []), (81, .iload_n 3, 1, .null, [], []), (82, .if_icmp .le 7, 3, .null, [89], []), (85, .iconst 1, 1, .int 1, [], []), (86, .goto 4, 3, .null, [90], []), (89, .iconst 0, 1, .int 0, [], []), (90, .ireturn, 1, .null, [1], [])]
def i_c195 : List I_En := [(0, .aload_n 0, 1, .null, [], []), (1, .invokevirtual 205, 3, .null, [196, 0, 0, 7003, 7005, 104, 1014, 7006], []), (4, .istore_n 1, 1, .null, [], []), (5, .aload_n 0, 1, .null, [], []), (6, .getfield 187, 3, .null, [12, 21, 0, 0, 5230], []), (9, .ifCond .ge 68, 3, .null, [77], []), (12, .aload_n 0, 1, .null, [], []), (13, .invokevirtual 190, 3, .null, [198, 0, 0, 7011, 7013, 106, 1014, 7014], []), (16, .bipush 43, 2, .int 43, [], []), (18, .if_icmp .eq 12, 3, .null, [30], []), (21, .aload_n 0, 1, .null, [], []), (22, .invokevirtual 190, 3, .null, [198, 0, 0, 7011, 7013, 106, 1014, 7014], []), (25, .bipush 45, 2, .int 45, [], []), (27, .if_icmp .ne 50, 3, .null, [77], []), (30, .aload_n 0, 1, .null, [], []), (31, .invokevirtual 190, 3, .null, [198, 0, 0, 7011, 7013, 106, 1014, 7014], []), (34, .bipush 43, 2, .int 43, [], []), (36, .if_icmp .ne 7, 3, .null, [43], []), (39, .iconst 1, 1, .int 1, [], []), (40, .goto 4, 3, .null, [44], []), (43, .iconst 0, 1, .int 0, [], []), (44, .istore_n 2, 1, .null, [], []), (45, .aload_n 0, 1, .null, [], []), (46, .dup, 1, .null, [], []), (47, .getfield 178, 3, .null, [12, 19, 0, 0, 5228], []), (50, .iconst 1, 1, .int 1, [], []), (51, .iadd, 1, .null, [], []), (52, .putfield 178, 3, .null, [12, 19, 0, 0, 5228], []), (55, .aload_n 0, 1, .null, [], []), (56, .invokevirtual 205, 3, .null, [196, 0, 0, 7003, 7005, 104, 1014, 7006], []), (59, .istore_n 3, 1, .null, [], []), (60, .iload_n 2, 1, .null, [], []), (61, .ifCond .eq 9, 3, .null, [70], []), (64, .iload_n 1, 1, .null, [], []), (65, .iload_n 3, 1, .null, [], []), (66, .iadd, 1, .null, [], []), (67, .goto 6, 3, .null, [73], []), (70, .iload_n 1, 1, .null, [], []), (71, .iload_n 3, 1, .null, [], []), (72, .isub, 1, .null, [], []), (73, .istore_n 1, 1, .null, [], []), (74, .goto (-69), 3, .null, [5], []), (77, .iload_n 1, 1, .null, [], []), (78, .ireturn, 1, .null, [1], [])]
def i_c196 : List I_En := [(0, .aload_n 0, 1, .null, [], []), (1, .invokevirtual 208, 3, .null, [197, 0, 0, 7007, 7009, 105, 1014, 7010], []), (4, .istore_n 1, 1, .null, [], []), (5, .aload_n 0, 1, .null, [], []), (6, .invokevirtual 190, 3, .null, [198, 0, 0, 7011, 7013, 106, 1014, 7014], []), (9, .istore_n 2, 1, .null, [], []), (10, .aload_n 0, 1, .null, [], []), (11, .getfield 187, 3, .null, [12, 21, 0, 0, 5230], []), (14, .ifCond .ge 80, 3, .null, [94], []), (17, .iload_n 2, 1, .null, [], []), (18, .bipush 42, 2, .int 42, [], []), (20, .if_icmp .eq 15, 3, .null, [35], []), (23, .iload_n 2, 1, .null, [], []), (24, .bipush 47, 2, .int 47, [], []), (26, .if_icmp .eq 9, 3, .null, [35], []), (29, .iload_n 2, 1, .null, [], []), (30, .bipush 37, 2, .int 37, [], []), (32, .if_icmp .ne 62, 3, .null, [94], []), (35, .aload_n 0, 1, .null, [], []), (36, .dup, 1, .null, [], []), (37, .getfield 178, 3, .null, [12, 19, 0, 0, 5228], []), (40, .iconst 1, 1, .int 1, [], []), (41, .iadd, 1, .null, [], []), (42, .putfield 178, 3, .null, [12, 19, 0, 0, 5228], []), (45, .aload_n 0, 1, .null, [], []), (46, .invokevirtual 208, 3, .null, [197, 0, 0, 7007, 7009, 105, 1014, 7010], []), (49, .istore_n 3, 1, .null, [], []), (50, .iload_n 2, 1, .null, [], []), (51, .bipush 42, 2, .int 42, [], []), (53, .if_icmp .ne 9, 3, .null, [62], []), (56, .iload_n 1, 1, .null, [], []), (57, .iload_n 3, 1, .null, [], []), (58, .imul, 1, .null, [], []), (59, .goto 26, 3, .null, [85], []), (62, .iload_n 3, 1, .null, [], []), (63, .ifCond .ne 7, 3, .null, [70], []), (66, .iconst 0, 1, .int 0, [], []), (67, .goto 18, 3, .null, [85], []), (70, .iload_n 2, 1, .null, [], []), (71, .bipush 47, 2, .int 47, [], []), (73, .if_icmp .ne 9, 3, .null, [82], []), (76, .iload_n 1, 1, .null, [], []), (77, .iload_n 3, 1, .null, [], []), (78, .idiv, 1, .null, [], []), (79, .goto 6, 3, .null, [85], []), (82, .iload_n 1, 1, .null, [], []), (83, .iload_n 3, 1, .null, [], []), (84, .irem, 1, .null, [], []), (85, .istore_n 1, 1, .null, [], []), (86, .aload_n 0, 1, .null, [], []), (87, .invokevirtual 190, 3, .null, [198, 0, 0, 7011, 7013, 106, 1014, 7014], []), (90, .istore_n 2, 1, .null, [], []), (91, .goto (-81), 3, .null, [10], []), (94, .iload_n 1, 1, .null, [], []), (95, .ireturn, 1, .null, [1], [])]
def i_c197 : List I_En := [(0, .aload_n 0, 1, .null, [], []), (1, .getfield 187, 3, .null, [12, 21, 0, 0, 5230], []), (4, .ifCond .lt 5, 3, .null, [9], []), (7, .iconst 0, 1, .int 0, [], []), (8, .ireturn, 1, .null, [1], []), (9, .aload_n 0, 1, .null, [], []), (10, .invokevirtual 190, 3, .null, [198, 0, 0, 7011, 7013, 106, 1014, 7014], []), (13, .istore_n 1, 1, .null, [], []), (14, .iload_n 1, 1, .null, [], []), (15, .bipush 33, 2, .int 33, [], []), (17, .if_icmp .eq 15, 3, .null, [32], []), (20, .iload_n 1, 1, .null, [], []), (21, .bipush 45, 2, .int 45, [], []), (23, .if_icmp .eq 9, 3, .null, [32], []), (26, .iload_n 1, 1, .null, [], []), (27, .bipush 40, 2, .int 40, [], []), (29, .if_icmp .ne 116, 3, .null, [145], []), (32, .aload_n 0, 1, .null, [], []), (33, .getfield 211, 3, .null, [12, 22, 0, 0, 5231], []), (36, .bipush 6, 2, .int 6, [], []), (38, .if_icmp .ne 8, 3, .null, [46], []), (41, .aload_n 0, 1, .null, [], []), (42, .invokevirtual 214, 3, .null, [199, 0, 0, 7015, 7017, 107, 1014, 7018], []), (45, .ireturn, 1, .null, [1], []), (46, .aload_n 0, 1, .null, [], []), (47, .dup, 1, .null, [], []), (48, .getfield 211, 3, .null, [12, 22, 0, 0, 5231], []), (51, .iconst 1, 1, .int 1, [], []), (52, .iadd, 1, .null, [], []), (53, .putfield 211, 3, .null, [12, 22, 0, 0, 5231], []), (56, .aload_n 0, 1, .null, [], []), (57, .dup, 1, .null, [], []), (58, .getfield 178, 3, .null, [12, 19, 0, 0, 5228], []), (61, .iconst 1, 1, .int 1, [], []), (62, .iadd, 1, .null, [], []), (63, .putfield 178, 3, .null, [12, 19, 0, 0, 5228], []), (66, .iload_n 1, 1, .null, [], []), (67, .bipush 40, 2, .int 40, [], []), (69, .if_icmp .ne 10, 3, .null, [79], []), (72, .aload_n 0, 1, .null, [], []), (73, .invokevirtual 217, 3, .null, [192, 0, 0, 6227, 6229, 100, 1014, 6230], []), (76, .goto 7, 3, .null, [83], []), (79, .aload_n 0, 1, .null, [], []), (80, .invokevirtual 208, 3, .null, [197, 0, 0, 7007, 7009, 105, 1014, 7010], []), (83, .istore_n 2, 1, .null, [], []), (84, .iload_n 1, 1, .null, [], []), (85, .bipush 40, 2, .int 40, [], []), (87, .if_icmp .ne 17, 3, .null, [104], []), (90, .aload_n 0, 1, .null, [], []), (91, .bipush 41, 2, .int 41, [], []), (93, .invokevirtual 196, 3, .null, [200, 1, 0, 7019, 7021, 108, 1014, 7022], []), (96, .ifCond .ne 8, 3, .null, [104], []), (99, .aload_n 0, 1, .null, [], []), (100, .invokevirtual 214, 3, .null, [199, 0, 0, 7015, 7017, 107, 1014, 7018], []), (103, .ireturn, 1, .null, [1], []), (104, .aload_n 0, 1, .null, [], []), (105, .dup, 1, .null, [], []), (106, .getfield 211, 3, .null, [12, 22, 0, 0, 5231], []), (109, .iconst 1, 1, .int 1, [], []), (110, .isub, 1, .null, [], []), (111, .putfield 211, 3, .null, [12, 22, 0, 0, 5231], []), (114, .iload_n 1, 1, .null, [], []), (115, .bipush 40, 2, .int 40, [], []), (117, .if_icmp .ne 7, 3, .null, [124], []), (120, .iload_n 2, 1, .null, [], []), (121, .goto 23, 3, .null, [144], []), (124, .iload_n 1, 1, .null, [], []), (125, .bipush 45, 2, .int 45, [], []), (127, .if_icmp .ne 8, 3, .null, [135], []), (130, .iload_n 2, 1, .null, [], []), (131, .ineg, 1, .null, [], []), (132, .goto 12, 3, .null, [144], []), (135, .iload_n 2, 1, .null, [], []), (136, .ifCond .ne 7, 3, .null, [143], []), (139, .iconst 1, 1, .int 1, [], []), (140, .goto 4, 3, .null, [144], []), (143, .iconst 0, 1, .int 0, [], []), (144, .ireturn, 1, .null, [1], []), (145, .iload_n 1, 1, .null, [], []), (146, .invokestatic 220, 3, .null, [201, 1, 0, 7023, 7024, 0, 1014, 7025], []), (149, .istore_n 2, 1, .null, [], []), (150, .iload_n 2, 1, .null, [], []), (151, .ifCond .lt 20, 3, .null, [171], []), (154, .aload_n 0, 1, .null, [], []), (155, .dup, 1, .null, [], []), (156, .getfield 178, 3, .null, [12, 19, 0, 0, 5228], []), (159, .iconst 1, 1, .int 1, [], []), (160, .iadd, 1, .null, [], []), (161, .putfield 178, 3, .null, [12, 19, 0, 0, 5228], []), (164, .aload_n 0, 1, .null, [], []), (165, .getfield 37, 3, .null, [12, 23, 1, 0, 5232], []), (168, .iload_n 2, 1, .null, [], []), (169, .iaload, 1, .null, [], []), (170, .ireturn, 1, .null, [1], []), (171, .iconst 0, 1, .int 0, [], []), (172, .istore_n 3, 1, .null, [], []), (173, .iconst 0, 1, .int 0, [], []), (174, .istore 4, 2, .null, [], []), (176, .iload 4, 2, .null, [], []), (178, .iconst 4, 1, .int 4, [], []), (179, .if_icmp .ge 50, 3, .null, [229], []), (182, .aload_n 0, 1, .null, [], []), (183, .invokevirtual 190, 3, .null, [198, 0, 0, 7011, 7013, 106, 1014, 7014], []), (186, .bipush 48, 2, .int 48, [], []), (188, .if_icmp .lt 41, 3, .null, [229], []), (191, .aload_n 0, 1, .null, [], []), (192, .invokevirtual 190, 3, .null, [198, 0, 0, 7011, 7013, 106, 1014, 7014], []), (195, .bipush 57, 2, .int 57, [], []), (197, .if_icmp .gt 32, 3, .null, [229], []), (200, .bipush 10, 2, .int 10, [], []), (202, .iload_n 3, 1, .null, [], []), (203, .imul, 1, .null, [], []), (204, .aload_n 0, 1, .null, [], []), (205, .invokevirtual 190, 3, .null, [198, 0, 0, 7011, 7013, 106, 1014, 7014], []), (208, .iadd, 1, .null, [], []), (209, .bipush 48, 2, .int 48, [], []), (211, .isub, 1, .null, [], []), (212, .istore_n 3, 1, .null, [], []), (213, .iinc 4 1, 3, .int 1, [], []), (216, .aload_n 0, 1, .null, [], []), (217, .dup, 1, .null, [], []), (218, .getfield 178, 3, .null, [12, 19, 0, 0, 5228], []), (221, .iconst 1, 1, .int 1, [], []), (222, .iadd, 1, .null, [], []), (223, .putfield 178, 3, .null, [12, 19, 0, 0, 5228], []), (226, .goto (-50), 3, .null, [176], []), (229, .iload 4, 2, .null, [], []), (231, .ifCond .ne 10, 3, .null, [241], []), (234, .aload_n 0, 1, .null, [], []), (235, .invokevirtual 214, 3, .null, [199, 0, 0, 7015, 7017, 107, 1014, 7018], []), (238, .goto 4, 3, .null, [242], []), (241, .iload_n 3, 1, .null, [], []), (242, .ireturn, 1, .null, [1], [])]
def i_c198 : List I_En := [(0, .aload_n 0, 1, .null, [], []), (1, .getfield 178, 3, .null, [12, 19, 0, 0, 5228], []), (4, .aload_n 0, 1, .null, [], []), (5, .getfield 181, 3, .null, [12, 20, 0, 0, 5229], []), (8, .if_icmp .ge 39, 3, .null, [47], []), (11, .aload_n 0, 1, .null, [], []), (12, .getfield 184, 3, .null, [12, 18, 0, 0, 5227], []), (15, .ifCond .ge 15, 3, .null, [30], []), (18, .aload_n 0, 1, .null, [], []), (19, .getfield 31, 3, .null, [12, 14, 1, 0, 5223], []), (22, .aload_n 0, 1, .null, [], []), (23, .getfield 178, 3, .null, [12, 19, 0, 0, 5228], []), (26, .iaload, 1, .null, [], []), (27, .goto 21, 3, .null, [48], []), (30, .aload_n 0, 1, .null, [], []), (31, .getfield 34, 3, .null, [12, 16, 1, 0, 5225], []), (34, .aload_n 0, 1, .null, [], []), (35, .getfield 184, 3, .null, [12, 18, 0, 0, 5227], []), (38, .aload_n 0, 1, .null, [], []), (39, .getfield 178, 3, .null, [12, 19, 0, 0, 5228], []), (42, .iadd, 1, .null, [], []), (43, .iaload, 1, .null, [], []), (44, .goto 4, 3, .null, [48], []), (47, .iconst 0, 1, .int 0, [], []), (48, .ireturn, 1, .null, [1], [])]
def i_c199 : List I_En := [(0, .aload_n 0, 1, .null, [], []), (1, .aload_n 0, 1, .null, [], []), (2, .getfield 187, 3, .null, [12, 21, 0, 0, 5230], []), (5, .ifCond .ge 10, 3, .null, [15], []), (8, .aload_n 0, 1, .null, [], []), (9, .getfield 178, 3, .null, [12, 19, 0, 0, 5228], []), (12, .goto 7, 3, .null, [19], []), (15, .aload_n 0, 1, .null, [], []), (16, .getfield 187, 3, .null, [12, 21, 0, 0, 5230], []), (19, .putfield 187, 3, .null, [12, 21, 0, 0, 5230], []), (22, .iconst 0, 1, .int 0, [], []), (23, .ireturn, 1, .null, [1], [])]
def i_c200 : List I_En := [(0, .aload_n 0, 1, .null, [], []), (1, .getfield 187, 3, .null, [12, 21, 0, 0, 5230], []), (4, .ifCond .ge 11, 3, .null, [15], []), (7, .aload_n 0, 1, .null, [], []), (8, .invokevirtual 190, 3, .null, [198, 0, 0, 7011, 7013, 106, 1014, 7014], []), (11, .iload_n 1, 1, .null, [], []), (12, .if_icmp .eq 5, 3, .null, [17], []), (15, .iconst 0, 1, .int 0, [], []), (16, .ireturn, 1, .null, [2], []), (17, .aload_n 0, 1, .null, [], []), (18, .dup, 1, .null, [], []), (19, .getfield 178, 3, .null, [12, 19, 0, 0, 5228], []), (22, .iconst 1, 1, .int 1, [], []), (23, .iadd, 1, .null, [], []), (24, .putfield 178, 3, .null, [12, 19, 0, 0, 5228], []), (27, .iconst 1, 1, .int 1, [], []), (28, .ireturn, 1, .null, [2], [])]
def i_c201 : List I_En := [(0, .iload_n 0, 1, .null, [], []), (1, .tableswitch 122 100 122 #[107, 122, 119, 109, 122, 122, 122, 122, 122, 122, 122, 122, 122, 111, 122, 115, 122, 122, 122, 117, 122, 122, 113], 107, .null, [123], [(100, 108), (101, 123), (102, 120), (103, 110), (104, 123), (105, 123), (106, 123), (107, 123), (108, 123), (109, 123), (110, 123), (111, 123), (112, 123), (113, 112), (114, 123), (115, 116), (116, 123), (117, 123), (118, 123), (119, 118), (120, 123), (121, 123), (122, 114)]), (108, .iconst 0, 1, .int 0, [], []), (109, .ireturn, 1, .null, [1], []), (110, .iconst 1, 1, .int 1, [], []), (111, .ireturn, 1, .null, [1], []), (112, .iconst 2, 1, .int 2, [], []), (113, .ireturn, 1, .null, [1], []), (114, .iconst 3, 1, .int 3, [], []), (115, .ireturn, 1, .null, [1], []), (116, .iconst 4, 1, .int 4, [], []), (117, .ireturn, 1, .null, [1], []), (118, .iconst 5, 1, .int 5, [], []), (119, .ireturn, 1, .null, [1], []), (120, .bipush 6, 2, .int 6, [], []), (122, .ireturn, 1, .null, [1], []), (123, .iconst (-1), 1, .int (-1), [], []), (124, .ireturn, 1, .null, [1], [])]
def i_c202 : List I_En := [(0, .aload_n 0, 1, .null, [], []), (1, .iload_n 1, 1, .null, [], []), (2, .invokevirtual 145, 3, .null, [185, 1, 0, 6193, 6195, 97, 1014, 6196], []), (5, .ifCond .eq 36, 3, .null, [41], []), (8, .aload_n 0, 1, .null, [], []), (9, .iload_n 2, 1, .null, [], []), (10, .invokevirtual 236, 3, .null, [203, 1, 0, 7030, 7032, 109, 1014, 7033], []), (13, .ifCond .eq 28, 3, .null, [41], []), (16, .aload_n 0, 1, .null, [], []), (17, .iload_n 3, 1, .null, [], []), (18, .invokevirtual 136, 3, .null, [183, 1, 0, 6184, 6186, 95, 1014, 6187], []), (21, .ifCond .eq 20, 3, .null, [41], []), (24, .aload_n 0, 1, .null, [], []), (25, .iload_n 1, 1, .null, [], []), (26, .iload_n 2, 1, .null, [], []), (27, .bipush 100, 2, .int 100, [], []), (29, .idiv, 1, .null, [], []), (30, .iload_n 2, 1, .null, [], []), (31, .bipush 100, 2, .int 100, [], []), (33, .irem, 1, .null, [], []), (34, .iload_n 3, 1, .null, [], []), (35, .invokevirtual 239, 3, .null, [204, 4, 0, 7035, 7037, 110, 1014, 7038], []), (38, .goto 4, 3, .null, [42], []), (41, .iconst (-1), 1, .int (-1), [], []), (42, .ireturn, 1, .null, [1], [])]
def i_c203 : List I_En := [(0, .iload_n 1, 1, .null, [], []), (1, .i2l, 1, .null, [], []), (2, .lconst 0, 1, .long 0, [], []), (3, .ldc2_w 234, 3, .long 999, [7034], []), (6, .invokestatic 104, 3, .null, [175, 3, 0, 6152, 6153, 0, 1014, 6154], []), (9, .ifCond .eq 18, 3, .null, [27], []), (12, .aload_n 0, 1, .null, [], []), (13, .iload_n 1, 1, .null, [], []), (14, .bipush 100, 2, .int 100, [], []), (16, .irem, 1, .null, [], []), (17, .invokevirtual 136, 3, .null, [183, 1, 0, 6184, 6186, 95, 1014, 6187], []), (20, .ifCond .eq 7, 3, .null, [27], []), (23, .iconst 1, 1, .int 1, [], []), (24, .goto 4, 3, .null, [28], []), (27, .iconst 0, 1, .int 0, [], []), (28, .ireturn, 1, .null, [2], [])]
def i_c204 : List I_En := [(0, .aload_n 0, 1, .null, [], []), (1, .aload_n 0, 1, .null, [], []), (2, .getfield 22, 3, .null, [12, 9, 1, 0, 5218], []), (5, .iload_n 1, 1, .null, [], []), (6, .iaload, 1, .null, [], []), (7, .aload_n 0, 1, .null, [], []), (8, .getfield 25, 3, .null, [12, 10, 1, 0, 5219], []), (11, .iload_n 1, 1, .null, [], []), (12, .iaload, 1, .null, [], []), (13, .aload_n 0, 1, .null, [], []), (14, .getfield 9, 3, .null, [12, 0, 1, 0, 5209], []), (17, .bipush 50, 2, .int 50, [], []), (19, .iload_n 1, 1, .null, [], []), (20, .iadd, 1, .null, [], []), (21, .iaload, 1, .null, [], []), (22, .iload_n 2, 1, .null, [], []), (23, .iload_n 3, 1, .null, [], []), (24, .iload 4, 2, .null, [], []), (26, .invokevirtual 230, 3, .null, [205, 6, 0, 7039, 7041, 111, 1014, 7042], []), (29, .istore 5, 2, .null, [], []), (31, .aload_n 0, 1, .null, [], []), (32, .getfield 28, 3, .null, [12, 11, 1, 0, 5220], []), (35, .iload_n 1, 1, .null, [], []), (36, .iaload, 1, .null, [], []), (37, .iconst 1, 1, .int 1, [], []), (38, .if_icmp .ne 10, 3, .null, [48], []), (41, .iload 5, 2, .null, [], []), (43, .iconst 2, 1, .int 2, [], []), (44, .idiv, 1, .null, [], []), (45, .goto 5, 3, .null, [50], []), (48, .iload 5, 2, .null, [], []), (50, .ireturn, 1, .null, [1], [])]
def i_c205 : List I_En := [(0, .aload_n 0, 1, .null, [], []), (1, .iload 5, 2, .null, [], []), (3, .iload_n 1, 1, .null, [], []), (4, .invokevirtual 227, 3, .null, [206, 2, 0, 7043, 7045, 112, 1014, 7046], []), (7, .istore 7, 2, .null, [], []), (9, .aload_n 0, 1, .null, [], []), (10, .iload_n 1, 1, .null, [], []), (11, .iload 6, 2, .null, [], []), (13, .invokevirtual 227, 3, .null, [206, 2, 0, 7043, 7045, 112, 1014, 7046], []), (16, .istore 8, 2, .null, [], []), (18, .iload 4, 2, .null, [], []), (20, .iload_n 2, 1, .null, [], []), (21, .if_icmp .le 10, 3, .null, [31], []), (24, .iload 4, 2, .null, [], []), (26, .iload_n 2, 1, .null, [], []), (27, .isub, 1, .null, [], []), (28, .goto 7, 3, .null, [35], []), (31, .iload_n 2, 1, .null, [], []), (32, .iload 4, 2, .null, [], []), (34, .isub, 1, .null, [], []), (35, .istore 9, 2, .null, [], []), (37, .aload_n 0, 1, .null, [], []), (38, .getfield 9, 3, .null, [12, 0, 1, 0, 5209], []), (41, .iload_n 1, 1, .null, [], []), (42, .iaload, 1, .null, [], []), (43, .istore 10, 2, .null, [], []), (45, .bipush 40, 2, .int 40, [], []), (47, .iconst 5, 1, .int 5, [], []), (48, .aload_n 0, 1, .null, [], []), (49, .getfield 9, 3, .null, [12, 0, 1, 0, 5209], []), (52, .bipush 57, 2, .int 57, [], []), (54, .iaload, 1, .null, [], []), (55, .imul, 1, .null, [], []), (56, .iadd, 1, .null, [], []), (57, .iconst 2, 1, .int 2, [], []), (58, .iload 7, 2, .null, [], []), (60, .imul, 1, .null, [], []), (61, .isub, 1, .null, [], []), (62, .iconst 3, 1, .int 3, [], []), (63, .iload 8, 2, .null, [], []), (65, .imul, 1, .null, [], []), (66, .isub, 1, .null, [], []), (67, .bipush 6, 2, .int 6, [], []), (69, .iload 9, 2, .null, [], []), (71, .imul, 1, .null, [], []), (72, .isub, 1, .null, [], []), (73, .iload_n 3, 1, .null, [], []), (74, .isub, 1, .null, [], []), (75, .iload 10, 2, .null, [], []), (77, .isub, 1, .null, [], []), (78, .aload_n 0, 1, .null, [], []), (79, .getfield 9, 3, .null, [12, 0, 1, 0, 5209], []), (82, .bipush 56, 2, .int 56, [], []), (84, .iaload, 1, .null, [], []), (85, .isub, 1, .null, [], []), (86, .istore 11, 2, .null, [], []), (88, .aload_n 0, 1, .null, [], []), (89, .getfield 81, 3, .null, [12, 17, 0, 0, 5226], []), (92, .ifCond .lt 80, 3, .null, [172], []), (95, .aload_n 0, 1, .null, [], []), (96, .getfield 37, 3, .null, [12, 23, 1, 0, 5232], []), (99, .iconst 0, 1, .int 0, [], []), (100, .iload 7, 2, .null, [], []), (102, .iastore, 1, .null, [], []), (103, .aload_n 0, 1, .null, [], []), (104, .getfield 37, 3, .null, [12, 23, 1, 0, 5232], []), (107, .iconst 1, 1, .int 1, [], []), (108, .iload 8, 2, .null, [], []), (110, .iastore, 1, .null, [], []), (111, .aload_n 0, 1, .null, [], []), (112, .getfield 37, 3, .null, [12, 23, 1, 0, 5232], []), (115, .iconst 2, 1, .int 2, [], []), (116, .iload 9, 2, .null, [], []), (118, .iastore, 1, .null, [], []), (119, .aload_n 0, 1, .null, [], []), (120, .getfield 37, 3, .null, [12, 23, 1, 0, 5232], []), (123, .iconst 3, 1, .int 3, [], []), (124, .iload_n 3, 1, .null, [], []), (125, .iastore, 1, .null, [], []), (126, .aload_n 0, 1, .null, [], []), (127, .getfield 37, 3, .null, [12, 23, 1, 0, 5232], []), (130, .iconst 4, 1, .int 4, [], []), (131, .iload 10, 2, .null, [], []), (133, .iastore, 1, .null, [], []), (134, .aload_n 0, 1, .null, [], []), (135, .getfield 37, 3, .null, [12, 23, 1, 0, 5232], []), (138, .iconst 5, 1, .int 5, [], []), (139, .aload_n 0, 1, .null, [], []), (140, .getfield 9, 3, .null, [12, 0, 1, 0, 5209], []), (143, .bipush 56, 2, .int 56, [], []), (145, .iaload, 1, .null, [], []), (146, .iastore, 1, .null, [], []), (147, .aload_n 0, 1, .null, [], []), (148, .getfield 37, 3, .null, [12, 23, 1, 0, 5232], []), (151, .bipush 6, 2, .int 6, [], []), (153, .aload_n 0, 1, .null, [], []), (154, .getfield 9, 3, .null, [12, 0, 1, 0, 5209], []), (157, .bipush 57, 2, .int 57, [], []), (159, .iaload, 1, .null, [], []), (160, .iastore, 1, .null, [], []), (161, .aload_n 0, 1, .null, [], []), (162, .iconst 0, 1, .int 0, [], []), (163, .aload_n 0, 1, .null, [], []), (164, .getfield 81, 3, .null, [12, 17, 0, 0, 5226], []), (167, .invokevirtual 224, 3, .null, [191, 2, 0, 6223, 6225, 99, 1014, 6226], []), (170, .istore 11, 2, .null, [], []), (172, .iload 11, 2, .null, [], []), (174, .ifCond .ge 7, 3, .null, [181], []), (177, .iconst 0, 1, .int 0, [], []), (178, .goto 17, 3, .null, [195], []), (181, .iload 11, 2, .null, [], []), (183, .bipush 99, 2, .int 99, [], []), (185, .if_icmp .le 8, 3, .null, [193], []), (188, .bipush 99, 2, .int 99, [], []), (190, .goto 5, 3, .null, [195], []), (193, .iload 11, 2, .null, [], []), (195, .ireturn, 1, .null, [1], [])]
def i_c206 : List I_En := [(0, .iload_n 1, 1, .null, [], []), (1, .aload_n 0, 1, .null, [], []), (2, .getfield 88, 3, .null, [12, 7, 0, 0, 5216], []), (5, .idiv, 1, .null, [], []), (6, .iload_n 2, 1, .null, [], []), (7, .aload_n 0, 1, .null, [], []), (8, .getfield 88, 3, .null, [12, 7, 0, 0, 5216], []), (11, .idiv, 1, .null, [], []), (12, .isub, 1, .null, [], []), (13, .istore_n 3, 1, .null, [], []), (14, .iload_n 1, 1, .null, [], []), (15, .aload_n 0, 1, .null, [], []), (16, .getfield 88, 3, .null, [12, 7, 0, 0, 5216], []), (19, .irem, 1, .null, [], []), (20, .iload_n 2, 1, .null, [], []), (21, .aload_n 0, 1, .null, [], []), (22, .getfield 88, 3, .null, [12, 7, 0, 0, 5216], []), (25, .irem, 1, .null, [], []), (26, .isub, 1, .null, [], []), (27, .istore 4, 2, .null, [], []), (29, .iload_n 3, 1, .null, [], []), (30, .ifCond .ge 8, 3, .null, [38], []), (33, .iload_n 3, 1, .null, [], []), (34, .ineg, 1, .null, [], []), (35, .goto 4, 3, .null, [39], []), (38, .iload_n 3, 1, .null, [], []), (39, .iload 4, 2, .null, [], []), (41, .ifCond .ge 9, 3, .null, [50], []), (44, .iload 4, 2, .null, [], []), (46, .ineg, 1, .null, [], []), (47, .goto 5, 3, .null, [52], []), (50, .iload 4, 2, .null, [], []), (52, .iadd, 1, .null, [], []), (53, .ireturn, 1, .null, [1], [])]
def i_c207 : List I_En := [(0, .aload_n 0, 1, .null, [], []), (1, .iload_n 1, 1, .null, [], []), (2, .invokevirtual 236, 3, .null, [203, 1, 0, 7030, 7032, 109, 1014, 7033], []), (5, .ifCond .eq 20, 3, .null, [25], []), (8, .aload_n 0, 1, .null, [], []), (9, .iload_n 2, 1, .null, [], []), (10, .invokevirtual 136, 3, .null, [183, 1, 0, 6184, 6186, 95, 1014, 6187], []), (13, .ifCond .eq 12, 3, .null, [25], []), (16, .aload_n 0, 1, .null, [], []), (17, .iload_n 1, 1, .null, [], []), (18, .iload_n 2, 1, .null, [], []), (19, .invokevirtual 246, 3, .null, [208, 2, 0, 7051, 7053, 113, 1014, 7054], []), (22, .goto 4, 3, .null, [26], []), (25, .iconst (-1), 1, .int (-1), [], []), (26, .ireturn, 1, .null, [1], [])]
def i_c208 : List I_En := [(0, .iconst 0, 1, .int 0, [], []), (1, .istore_n 3, 1, .null, [], []), (2, .iconst 0, 1, .int 0, [], []), (3, .istore 4, 2, .null, [], []), (5, .iload 4, 2, .null, [], []), (7, .aload_n 0, 1, .null, [], []), (8, .getfield 108, 3, .null, [12, 8, 0, 0, 5217], []), (11, .if_icmp .ge 43, 3, .null, [54], []), (14, .iload_n 3, 1, .null, [], []), (15, .aload_n 0, 1, .null, [], []), (16, .getfield 148, 3, .null, [12, 12, 0, 0, 5221], []), (19, .iload 4, 2, .null, [], []), (21, .invokestatic 151, 3, .null, [188, 2, 0, 6207, 6208, 0, 1014, 6209], []), (24, .ifCond .eq 7, 3, .null, [31], []), (27, .iconst 0, 1, .int 0, [], []), (28, .goto 18, 3, .null, [46], []), (31, .aload_n 0, 1, .null, [], []), (32, .iload 4, 2, .null, [], []), (34, .iload_n 1, 1, .null, [], []), (35, .bipush 100, 2, .int 100, [], []), (37, .idiv, 1, .null, [], []), (38, .iload_n 1, 1, .null, [], []), (39, .bipush 100, 2, .int 100, [], []), (41, .irem, 1, .null, [], []), (42, .iload_n 2, 1, .null, [], []), (43, .invokevirtual 239, 3, .null, [204, 4, 0, 7035, 7037, 110, 1014, 7038], []), (46, .iadd, 1, .null, [], []), (47, .istore_n 3, 1, .null, [], []), (48, .iinc 4 1, 3, .int 1, [], []), (51, .goto (-46), 3, .null, [5], []), (54, .aload_n 0, 1, .null, [], []), (55, .iload_n 3, 1, .null, [], []), (56, .invokevirtual 243, 3, .null, [209, 1, 0, 7055, 7057, 114, 1014, 7058], []), (59, .ireturn, 1, .null, [1], [])]
def i_c209 : List I_En := [(0, .iload_n 1, 1, .null, [], []), (1, .bipush 99, 2, .int 99, [], []), (3, .if_icmp .le 8, 3, .null, [11], []), (6, .bipush 99, 2, .int 99, [], []), (8, .goto 4, 3, .null, [12], []), (11, .iload_n 1, 1, .null, [], []), (12, .istore_n 2, 1, .null, [], []), (13, .iload_n 2, 1, .null, [], []), (14, .aload_n 0, 1, .null, [], []), (15, .getfield 9, 3, .null, [12, 0, 1, 0, 5209], []), (18, .bipush 58, 2, .int 58, [], []), (20, .iaload, 1, .null, [], []), (21, .if_icmp .lt 7, 3, .null, [28], []), (24, .iload_n 2, 1, .null, [], []), (25, .goto 4, 3, .null, [29], []), (28, .iconst 0, 1, .int 0, [], []), (29, .ireturn, 1, .null, [1], [])]
def i_c210 : List I_En := [(0, .aload_n 0, 1, .null, [], []), (1, .iload_n 1, 1, .null, [], []), (2, .invokevirtual 236, 3, .null, [203, 1, 0, 7030, 7032, 109, 1014, 7033], []), (5, .ifCond .eq 23, 3, .null, [28], []), (8, .aload_n 0, 1, .null, [], []), (9, .iload_n 2, 1, .null, [], []), (10, .invokevirtual 136, 3, .null, [183, 1, 0, 6184, 6186, 95, 1014, 6187], []), (13, .ifCond .eq 15, 3, .null, [28], []), (16, .iload_n 3, 1, .null, [], []), (17, .i2l, 1, .null, [], []), (18, .lconst 0, 1, .long 0, [], []), (19, .ldc2_w 143, 3, .long 99, [6192], []), (22, .invokestatic 104, 3, .null, [175, 3, 0, 6152, 6153, 0, 1014, 6154], []), (25, .ifCond .ne 5, 3, .null, [30], []), (28, .iconst (-1), 1, .int (-1), [], []), (29, .ireturn, 1, .null, [1], []), (30, .aload_n 0, 1, .null, [], []), (31, .getfield 113, 3, .null, [12, 24, 0, 0, 5233], []), (34, .bipush 10, 2, .int 10, [], []), (36, .if_icmp .ne 6, 3, .null, [42], []), (39, .bipush (-3), 2, .int (-3), [], []), (41, .ireturn, 1, .null, [1], []), (42, .aload_n 0, 1, .null, [], []), (43, .getfield 40, 3, .null, [12, 25, 1, 0, 5234], []), (46, .iconst 3, 1, .int 3, [], []), (47, .aload_n 0, 1, .null, [], []), (48, .getfield 113, 3, .null, [12, 24, 0, 0, 5233], []), (51, .imul, 1, .null, [], []), (52, .iload_n 1, 1, .null, [], []), (53, .iastore, 1, .null, [], []), (54, .aload_n 0, 1, .null, [], []), (55, .getfield 40, 3, .null, [12, 25, 1, 0, 5234], []), (58, .iconst 3, 1, .int 3, [], []), (59, .aload_n 0, 1, .null, [], []), (60, .getfield 113, 3, .null, [12, 24, 0, 0, 5233], []), (63, .imul, 1, .null, [], []), (64, .iconst 1, 1, .int 1, [], []), (65, .iadd, 1, .null, [], []), (66, .iload_n 2, 1, .null, [], []), (67, .iastore, 1, .null, [], []), (68, .aload_n 0, 1, .null, [], []), (69, .getfield 40, 3, .null, [12, 25, 1, 0, 5234], []), (72, .iconst 3, 1, .int 3, [], []), (73, .aload_n 0, 1, .null, [], []), (74, .getfield 113, 3, .null, [12, 24, 0, 0, 5233], []), (77, .imul, 1, .null, [], []), (78, .iconst 2, 1, .int 2, [], []), (79, .iadd, 1, .null, [], []), (80, .iload_n 3, 1, .null, [], []), (81, .iastore, 1, .null, [], []), (82, .aload_n 0, 1, .null, [], []), (83, .dup, 1, .null, [], []), (84, .getfield 113, 3, .null, [12, 24, 0, 0, 5233], []), (87, .iconst 1, 1, .int 1, [], []), (88, .iadd, 1, .null, [], []), (89, .putfield 113, 3, .null, [12, 24, 0, 0, 5233], []), (92, .aload_n 0, 1, .null, [], []), (93, .getfield 113, 3, .null, [12, 24, 0, 0, 5233], []), (96, .iconst 1, 1, .int 1, [], []), (97, .isub, 1, .null, [], []), (98, .ireturn, 1, .null, [1], [])]
def i_c211 : List I_En := [(0, .aload_n 0, 1, .null, [], []), (1, .getfield 113, 3, .null, [12, 24, 0, 0, 5233], []), (4, .ifCond .ne 6, 3, .null, [10], []), (7, .bipush (-5), 2, .int (-5), [], []), (9, .ireturn, 1, .null, [1], []), (10, .aload_n 0, 1, .null, [], []), (11, .dup, 1, .null, [], []), (12, .getfield 113, 3, .null, [12, 24, 0, 0, 5233], []), (15, .iconst 1, 1, .int 1, [], []), (16, .isub, 1, .null, [], []), (17, .putfield 113, 3, .null, [12, 24, 0, 0, 5233], []), (20, .aload_n 0, 1, .null, [], []), (21, .getfield 113, 3, .null, [12, 24, 0, 0, 5233], []), (24, .ireturn, 1, .null, [1], [])]
def i_c212 : List I_En := [(0, .iload_n 1, 1, .null, [], []), (1, .invokestatic 285, 3, .null, [213, 1, 0, 7071, 7072, 0, 1014, 7073], []), (4, .ifCond .eq 18, 3, .null, [22], []), (7, .iload_n 2, 1, .null, [], []), (8, .i2l, 1, .null, [], []), (9, .ldc2_w 288, 3, .long (-1), [7075], []), (12, .iload_n 1, 1, .null, [], []), (13, .iconst 1, 1, .int 1, [], []), (14, .isub, 1, .null, [], []), (15, .i2l, 1, .null, [], []), (16, .invokestatic 104, 3, .null, [175, 3, 0, 6152, 6153, 0, 1014, 6154], []), (19, .ifCond .ne 5, 3, .null, [24], []), (22, .iconst (-1), 1, .int (-1), [], []), (23, .ireturn, 1, .null, [1], []), (24, .aload_n 0, 1, .null, [], []), (25, .iload_n 1, 1, .null, [], []), (26, .iconst 0, 1, .int 0, [], []), (27, .invokevirtual 290, 3, .null, [214, 2, 0, 7076, 7078, 115, 1014, 7079], []), (30, .iload_n 2, 1, .null, [], []), (31, .iconst (-1), 1, .int (-1), [], []), (32, .if_icmp .ne 8, 3, .null, [40], []), (35, .aload_n 0, 1, .null, [], []), (36, .getfield 261, 3, .null, [12, 27, 0, 0, 5236], []), (39, .ireturn, 1, .null, [1], []), (40, .aload_n 0, 1, .null, [], []), (41, .getfield 261, 3, .null, [12, 27, 0, 0, 5236], []), (44, .ifCond .ne 8, 3, .null, [52], []), (47, .bipush (-2), 2, .int (-2), [], []), (49, .goto 18, 3, .null, [67], []), (52, .iload_n 2, 1, .null, [], []), (53, .ifCond .ne 10, 3, .null, [63], []), (56, .aload_n 0, 1, .null, [], []), (57, .getfield 264, 3, .null, [12, 28, 0, 0, 5237], []), (60, .goto 7, 3, .null, [67], []), (63, .aload_n 0, 1, .null, [], []), (64, .getfield 267, 3, .null, [12, 29, 0, 0, 5238], []), (67, .ireturn, 1, .null, [1], [])]
def i_c213 : List I_En := [(0, .iload_n 0, 1, .null, [], []), (1, .i2l, 1, .null, [], []), (2, .lconst 1, 1, .long 1, [], []), (3, .ldc2_w 283, 3, .long 2, [7074], []), (6, .invokestatic 104, 3, .null, [175, 3, 0, 6152, 6153, 0, 1014, 6154], []), (9, .ireturn, 1, .null, [2], [])]
def i_c214 : List I_En := [(0, .aload_n 0, 1, .null, [], []), (1, .iload_n 2, 1, .null, [], []), (2, .putfield 258, 3, .null, [12, 34, 0, 0, 6003], []), (5, .aload_n 0, 1, .null, [], []), (6, .iconst 0, 1, .int 0, [], []), (7, .putfield 261, 3, .null, [12, 27, 0, 0, 5236], []), (10, .aload_n 0, 1, .null, [], []), (11, .iconst 0, 1, .int 0, [], []), (12, .putfield 270, 3, .null, [12, 30, 0, 0, 5239], []), (15, .aload_n 0, 1, .null, [], []), (16, .iconst 0, 1, .int 0, [], []), (17, .putfield 273, 3, .null, [12, 31, 0, 0, 6000], []), (20, .aload_n 0, 1, .null, [], []), (21, .bipush (-2), 2, .int (-2), [], []), (23, .putfield 252, 3, .null, [12, 33, 0, 0, 6002], []), (26, .iconst 0, 1, .int 0, [], []), (27, .istore_n 3, 1, .null, [], []), (28, .iload_n 3, 1, .null, [], []), (29, .bipush 25, 2, .int 25, [], []), (31, .if_icmp .ge 16, 3, .null, [47], []), (34, .aload_n 0, 1, .null, [], []), (35, .getfield 46, 3, .null, [12, 32, 1, 0, 6001], []), (38, .iload_n 3, 1, .null, [], []), (39, .iconst 0, 1, .int 0, [], []), (40, .iastore, 1, .null, [], []), (41, .iinc 3 1, 3, .int 1, [], []), (44, .goto (-16), 3, .null, [28], []), (47, .aload_n 0, 1, .null, [], []), (48, .invokevirtual 276, 3, .null, [215, 0, 0, 7080, 7082, 116, 1014, 7083], []), (51, .iconst 0, 1, .int 0, [], []), (52, .istore_n 3, 1, .null, [], []), (53, .iload_n 3, 1, .null, [], []), (54, .bipush 10, 2, .int 10, [], []), (56, .aload_n 0, 1, .null, [], []), (57, .invokevirtual 100, 3, .null, [178, 0, 0, 6163, 6165, 93, 1014, 6166], []), (60, .imul, 1, .null, [], []), (61, .if_icmp .ge 61, 3, .null, [122], []), (64, .iload_n 1, 1, .null, [], []), (65, .iconst 1, 1, .int 1, [], []), (66, .if_icmp .ne 9, 3, .null, [75], []), (69, .aload_n 0, 1, .null, [], []), (70, .iload_n 3, 1, .null, [], []), (71, .iconst (-1), 1, .int (-1), [], []), (72, .invokevirtual 279, 3, .null, [216, 2, 0, 7084, 7086, 117, 1014, 7087], []), (75, .bipush 10, 2, .int 10, [], []), (77, .iload_n 3, 1, .null, [], []), (78, .bipush 10, 2, .int 10, [], []), (80, .idiv, 1, .null, [], []), (81, .iconst 1, 1, .int 1, [], []), (82, .iadd, 1, .null, [], []), (83, .imul, 1, .null, [], []), (84, .istore 4, 2, .null, [], []), (86, .iload_n 1, 1, .null, [], []), (87, .iconst 2, 1, .int 2, [], []), (88, .if_icmp .ne 28, 3, .null, [116], []), (91, .iload 4, 2, .null, [], []), (93, .bipush 10, 2, .int 10, [], []), (95, .aload_n 0, 1, .null, [], []), (96, .invokevirtual 100, 3, .null, [178, 0, 0, 6163, 6165, 93, 1014, 6166], []), (99, .imul, 1, .null, [], []), (100, .if_icmp .ge 16, 3, .null, [116], []), (103, .aload_n 0, 1, .null, [], []), (104, .iload_n 3, 1, .null, [], []), (105, .iload 4, 2, .null, [], []), (107, .invokevirtual 279, 3, .null, [216, 2, 0, 7084, 7086, 117, 1014, 7087], []), (110, .iinc 4 1, 3, .int 1, [], []), (113, .goto (-27), 3, .null, [86], []), (116, .iinc 3 1, 3, .int 1, [], []), (119, .goto (-66), 3, .null, [53], []), (122, .return_, 1, .null, [], [])]
def i_c215 : List I_En := [(0, .iconst 0, 1, .int 0, [], []), (1, .istore_n 1, 1, .null, [], []), (2, .iload_n 1, 1, .null, [], []), (3, .aload_n 0, 1, .null, [], []), (4, .getfield 113, 3, .null, [12, 24, 0, 0, 5233], []), (7, .if_icmp .ge 86, 3, .null, [93], []), (10, .aload_n 0, 1, .null, [], []), (11, .getfield 40, 3, .null, [12, 25, 1, 0, 5234], []), (14, .iconst 3, 1, .int 3, [], []), (15, .iload_n 1, 1, .null, [], []), (16, .imul, 1, .null, [], []), (17, .iaload, 1, .null, [], []), (18, .istore_n 2, 1, .null, [], []), (19, .iconst 0, 1, .int 0, [], []), (20, .istore_n 3, 1, .null, [], []), (21, .iload_n 3, 1, .null, [], []), (22, .bipush 10, 2, .int 10, [], []), (24, .aload_n 0, 1, .null, [], []), (25, .invokevirtual 100, 3, .null, [178, 0, 0, 6163, 6165, 93, 1014, 6166], []), (28, .imul, 1, .null, [], []), (29, .if_icmp .ge 58, 3, .null, [87], []), (32, .aload_n 0, 1, .null, [], []), (33, .getfield 43, 3, .null, [12, 26, 1, 0, 5235], []), (36, .sipush 250, 3, .int 250, [], []), (39, .iload_n 1, 1, .null, [], []), (40, .imul, 1, .null, [], []), (41, .iload_n 3, 1, .null, [], []), (42, .iadd, 1, .null, [], []), (43, .aload_n 0, 1, .null, [], []), (44, .iload_n 3, 1, .null, [], []), (45, .bipush 10, 2, .int 10, [], []), (47, .idiv, 1, .null, [], []), (48, .iload_n 3, 1, .null, [], []), (49, .bipush 10, 2, .int 10, [], []), (51, .irem, 1, .null, [], []), (52, .aload_n 0, 1, .null, [], []), (53, .getfield 9, 3, .null, [12, 0, 1, 0, 5209], []), (56, .bipush 59, 2, .int 59, [], []), (58, .iaload, 1, .null, [], []), (59, .iload_n 2, 1, .null, [], []), (60, .bipush 100, 2, .int 100, [], []), (62, .idiv, 1, .null, [], []), (63, .iload_n 2, 1, .null, [], []), (64, .bipush 100, 2, .int 100, [], []), (66, .irem, 1, .null, [], []), (67, .aload_n 0, 1, .null, [], []), (68, .getfield 40, 3, .null, [12, 25, 1, 0, 5234], []), (71, .iconst 3, 1, .int 3, [], []), (72, .iload_n 1, 1, .null, [], []), (73, .imul, 1, .null, [], []), (74, .iconst 1, 1, .int 1, [], []), (75, .iadd, 1, .null, [], []), (76, .iaload, 1, .null, [], []), (77, .invokevirtual 230, 3, .null, [205, 6, 0, 7039, 7041, 111, 1014, 7042], []), (80, .iastore, 1, .null, [], []), (81, .iinc 3 1, 3, .int 1, [], []), (84, .goto (-63), 3, .null, [21], []), (87, .iinc 1 1, 3, .int 1, [], []), (90, .goto (-88), 3, .null, [2], []), (93, .return_, 1, .null, [], [])]
def i_c216 : List I_En := [(0, .aload_n 0, 1, .null, [], []), (1, .iload_n 1, 1, .null, [], []), (2, .iload_n 2, 1, .null, [], []), (3, .invokevirtual 249, 3, .null, [217, 2, 0, 7088, 7090, 118, 1014, 7091], []), (6, .istore_n 3, 1, .null, [], []), (7, .aload_n 0, 1, .null, [], []), (8, .getfield 252, 3, .null, [12, 33, 0, 0, 6002], []), (11, .ifCond .lt 39, 3, .null, [50], []), (14, .iload_n 3, 1, .null, [], []), (15, .invokestatic 255, 3, .null, [218, 1, 0, 7092, 7093, 0, 1014, 7094], []), (18, .aload_n 0, 1, .null, [], []), (19, .getfield 252, 3, .null, [12, 33, 0, 0, 6002], []), (22, .invokestatic 255, 3, .null, [218, 1, 0, 7092, 7093, 0, 1014, 7094], []), (25, .if_icmp .lt 25, 3, .null, [50], []), (28, .iload_n 3, 1, .null, [], []), (29, .invokestatic 255, 3, .null, [218, 1, 0, 7092, 7093, 0, 1014, 7094], []), (32, .aload_n 0, 1, .null, [], []), (33, .getfield 252, 3, .null, [12, 33, 0, 0, 6002], []), (36, .invokestatic 255, 3, .null, [218, 1, 0, 7092, 7093, 0, 1014, 7094], []), (39, .if_icmp .ne 15, 3, .null, [54], []), (42, .iload_n 3, 1, .null, [], []), (43, .aload_n 0, 1, .null, [], []), (44, .getfield 252, 3, .null, [12, 33, 0, 0, 6002], []), (47, .if_icmp .ge 7, 3, .null, [54], []), (50, .iconst 1, 1, .int 1, [], []), (51, .goto 4, 3, .null, [55], []), (54, .iconst 0, 1, .int 0, [], []), (55, .istore 4, 2, .null, [], []), (57, .aload_n 0, 1, .null, [], []), (58, .iload 4, 2, .null, [], []), (60, .ifCond .eq 7, 3, .null, [67], []), (63, .iload_n 3, 1, .null, [], []), (64, .goto 7, 3, .null, [71], []), (67, .aload_n 0, 1, .null, [], []), (68, .getfield 252, 3, .null, [12, 33, 0, 0, 6002], []), (71, .putfield 252, 3, .null, [12, 33, 0, 0, 6002], []), (74, .iload_n 3, 1, .null, [], []), (75, .aload_n 0, 1, .null, [], []), (76, .getfield 258, 3, .null, [12, 34, 0, 0, 6003], []), (79, .iconst (-1), 1, .int (-1), [], []), (80, .ixor, 1, .null, [], []), (81, .iand, 1, .null, [], []), (82, .ifCond .eq 4, 3, .null, [86], []), (85, .return_, 1, .null, [], []), (86, .iconst 1, 1, .int 1, [], []), (87, .iload_n 1, 1, .null, [], []), (88, .bipush 10, 2, .int 10, [], []), (90, .idiv, 1, .null, [], []), (91, .ishl, 1, .null, [], []), (92, .iload_n 2, 1, .null, [], []), (93, .ifCond .ge 7, 3, .null, [100], []), (96, .iconst 0, 1, .int 0, [], []), (97, .goto 9, 3, .null, [106], []), (100, .iconst 1, 1, .int 1, [], []), (101, .iload_n 2, 1, .null, [], []), (102, .bipush 10, 2, .int 10, [], []), (104, .idiv, 1, .null, [], []), (105, .ishl, 1, .null, [], []), (106, .ior, 1, .null, [], []), (107, .istore 5, 2, .null, [], []), (109, .aload_n 0, 1, .null, [], []), (110, .getfield 261, 3, .null, [12, 27, 0, 0, 5236], []), (113, .ifCond .ne 19, 3, .null, [132], []), (116, .aload_n 0, 1, .null, [], []), (117, .iload_n 1, 1, .null, [], []), (118, .putfield 264, 3, .null, [12, 28, 0, 0, 5237], []), (121, .aload_n 0, 1, .null, [], []), (122, .iload_n 2, 1, .null, [], []), (123, .putfield 267, 3, .null, [12, 29, 0, 0, 5238], []), (126, .aload_n 0, 1, .null, [], []), (127, .iload 5, 2, .null, [], []), (129, .putfield 270, 3, .null, [12, 30, 0, 0, 5239], []), (132, .aload_n 0, 1, .null, [], []), (133, .dup, 1, .null, [], []), (134, .getfield 261, 3, .null, [12, 27, 0, 0, 5236], []), (137, .iconst 1, 1, .int 1, [], []), (138, .iadd, 1, .null, [], []), (139, .putfield 261, 3, .null, [12, 27, 0, 0, 5236], []), (142, .aload_n 0, 1, .null, [], []), (143, .dup, 1, .null, [], []), (144, .getfield 270, 3, .null, [12, 30, 0, 0, 5239], []), (147, .iload 5, 2, .null, [], []), (149, .iand, 1, .null, [], []), (150, .putfield 270, 3, .null, [12, 30, 0, 0, 5239], []), (153, .aload_n 0, 1, .null, [], []), (154, .dup, 1, .null, [], []), (155, .getfield 273, 3, .null, [12, 31, 0, 0, 6000], []), (158, .iload 5, 2, .null, [], []), (160, .ior, 1, .null, [], []), (161, .putfield 273, 3, .null, [12, 31, 0, 0, 6000], []), (164, .aload_n 0, 1, .null, [], []), (165, .getfield 46, 3, .null, [12, 32, 1, 0, 6001], []), (168, .iload_n 1, 1, .null, [], []), (169, .bipush 10, 2, .int 10, [], []), (171, .idiv, 1, .null, [], []), (172, .dup2, 1, .null, [], []), (173, .iaload, 1, .null, [], []), (174, .iconst 1, 1, .int 1, [], []), (175, .iadd, 1, .null, [], []), (176, .iastore, 1, .null, [], []), (177, .iload_n 2, 1, .null, [], []), (178, .ifCond .lt 16, 3, .null, [194], []), (181, .aload_n 0, 1, .null, [], []), (182, .getfield 46, 3, .null, [12, 32, 1, 0, 6001], []), (185, .iload_n 2, 1, .null, [], []), (186, .bipush 10, 2, .int 10, [], []), (188, .idiv, 1, .null, [], []), (189, .dup2, 1, .null, [], []), (190, .iaload, 1, .null, [], []), (191, .iconst 1, 1, .int 1, [], []), (192, .iadd, 1, .null, [], []), (193, .iastore, 1, .null, [], []), (194, .return_, 1, .null, [], [])]
def i_c217 : List I_En := [(0, .iconst 0, 1, .int 0, [], []), (1, .istore_n 3, 1, .null, [], []), (2, .iconst 0, 1, .int 0, [], []), (3, .istore 4, 2, .null, [], []), (5, .iload 4, 2, .null, [], []), (7, .aload_n 0, 1, .null, [], []), (8, .getfield 113, 3, .null, [12, 24, 0, 0, 5233], []), (11, .if_icmp .ge 77, 3, .null, [88], []), (14, .aload_n 0, 1, .null, [], []), (15, .getfield 43, 3, .null, [12, 26, 1, 0, 5235], []), (18, .sipush 250, 3, .int 250, [], []), (21, .iload 4, 2, .null, [], []), (23, .imul, 1, .null, [], []), (24, .iload_n 1, 1, .null, [], []), (25, .iadd, 1, .null, [], []), (26, .iaload, 1, .null, [], []), (27, .iload_n 2, 1, .null, [], []), (28, .ifCond .ge 7, 3, .null, [35], []), (31, .iconst 0, 1, .int 0, [], []), (32, .goto 16, 3, .null, [48], []), (35, .aload_n 0, 1, .null, [], []), (36, .getfield 43, 3, .null, [12, 26, 1, 0, 5235], []), (39, .sipush 250, 3, .int 250, [], []), (42, .iload 4, 2, .null, [], []), (44, .imul, 1, .null, [], []), (45, .iload_n 2, 1, .null, [], []), (46, .iadd, 1, .null, [], []), (47, .iaload, 1, .null, [], []), (48, .iadd, 1, .null, [], []), (49, .istore 5, 2, .null, [], []), (51, .iload_n 3, 1, .null, [], []), (52, .aload_n 0, 1, .null, [], []), (53, .iload 5, 2, .null, [], []), (55, .invokevirtual 243, 3, .null, [209, 1, 0, 7055, 7057, 114, 1014, 7058], []), (58, .aload_n 0, 1, .null, [], []), (59, .getfield 40, 3, .null, [12, 25, 1, 0, 5234], []), (62, .iconst 3, 1, .int 3, [], []), (63, .iload 4, 2, .null, [], []), (65, .imul, 1, .null, [], []), (66, .iconst 2, 1, .int 2, [], []), (67, .iadd, 1, .null, [], []), (68, .iaload, 1, .null, [], []), (69, .if_icmp .ne 7, 3, .null, [76], []), (72, .iconst 0, 1, .int 0, [], []), (73, .goto 7, 3, .null, [80], []), (76, .iconst 1, 1, .int 1, [], []), (77, .iload 4, 2, .null, [], []), (79, .ishl, 1, .null, [], []), (80, .ior, 1, .null, [], []), (81, .istore_n 3, 1, .null, [], []), (82, .iinc 4 1, 3, .int 1, [], []), (85, .goto (-80), 3, .null, [5], []), (88, .iload_n 3, 1, .null, [], []), (89, .ireturn, 1, .null, [1], [])]
def i_c218 : List I_En := [(0, .iconst 0, 1, .int 0, [], []), (1, .istore_n 1, 1, .null, [], []), (2, .iload_n 0, 1, .null, [], []), (3, .istore_n 2, 1, .null, [], []), (4, .iload_n 2, 1, .null, [], []), (5, .ifCond .eq 15, 3, .null, [20], []), (8, .iinc 1 1, 3, .int 1, [], []), (11, .iload_n 2, 1, .null, [], []), (12, .iload_n 2, 1, .null, [], []), (13, .iconst 1, 1, .int 1, [], []), (14, .isub, 1, .null, [], []), (15, .iand, 1, .null, [], []), (16, .istore_n 2, 1, .null, [], []), (17, .goto (-13), 3, .null, [4], []), (20, .iload_n 1, 1, .null, [], []), (21, .ireturn, 1, .null, [1], [])]
def i_c219 : List I_En := [(0, .iload_n 1, 1, .null, [], []), (1, .invokestatic 285, 3, .null, [213, 1, 0, 7071, 7072, 0, 1014, 7073], []), (4, .ifCond .eq 13, 3, .null, [17], []), (7, .iload_n 2, 1, .null, [], []), (8, .i2l, 1, .null, [], []), (9, .lconst 0, 1, .long 0, [], []), (10, .lconst 1, 1, .long 1, [], []), (11, .invokestatic 104, 3, .null, [175, 3, 0, 6152, 6153, 0, 1014, 6154], []), (14, .ifCond .ne 5, 3, .null, [19], []), (17, .iconst (-1), 1, .int (-1), [], []), (18, .ireturn, 1, .null, [1], []), (19, .aload_n 0, 1, .null, [], []), (20, .iload_n 1, 1, .null, [], []), (21, .iconst 0, 1, .int 0, [], []), (22, .invokevirtual 290, 3, .null, [214, 2, 0, 7076, 7078, 115, 1014, 7079], []), (25, .aload_n 0, 1, .null, [], []), (26, .getfield 261, 3, .null, [12, 27, 0, 0, 5236], []), (29, .ifCond .ne 7, 3, .null, [36], []), (32, .iconst 0, 1, .int 0, [], []), (33, .goto 29, 3, .null, [62], []), (36, .iload_n 2, 1, .null, [], []), (37, .ifCond .ne 10, 3, .null, [47], []), (40, .aload_n 0, 1, .null, [], []), (41, .getfield 270, 3, .null, [12, 30, 0, 0, 5239], []), (44, .goto 18, 3, .null, [62], []), (47, .iconst 1, 1, .int 1, [], []), (48, .aload_n 0, 1, .null, [], []), (49, .invokevirtual 100, 3, .null, [178, 0, 0, 6163, 6165, 93, 1014, 6166], []), (52, .ishl, 1, .null, [], []), (53, .iconst 1, 1, .int 1, [], []), (54, .isub, 1, .null, [], []), (55, .aload_n 0, 1, .null, [], []), (56, .getfield 273, 3, .null, [12, 31, 0, 0, 6000], []), (59, .iconst (-1), 1, .int (-1), [], []), (60, .ixor, 1, .null, [], []), (61, .iand, 1, .null, [], []), (62, .ireturn, 1, .null, [1], [])]
def i_c220 : List I_En := [(0, .iload_n 1, 1, .null, [], []), (1, .invokestatic 285, 3, .null, [213, 1, 0, 7071, 7072, 0, 1014, 7073], []), (4, .ifCond .eq 21, 3, .null, [25], []), (7, .aload_n 0, 1, .null, [], []), (8, .iload_n 2, 1, .null, [], []), (9, .invokevirtual 136, 3, .null, [183, 1, 0, 6184, 6186, 95, 1014, 6187], []), (12, .ifCond .eq 13, 3, .null, [25], []), (15, .iload_n 3, 1, .null, [], []), (16, .i2l, 1, .null, [], []), (17, .lconst 0, 1, .long 0, [], []), (18, .lconst 1, 1, .long 1, [], []), (19, .invokestatic 104, 3, .null, [175, 3, 0, 6152, 6153, 0, 1014, 6154], []), (22, .ifCond .ne 5, 3, .null, [27], []), (25, .iconst (-1), 1, .int (-1), [], []), (26, .ireturn, 1, .null, [1], []), (27, .aload_n 0, 1, .null, [], []), (28, .iload_n 1, 1, .null, [], []), (29, .iconst 0, 1, .int 0, [], []), (30, .invokevirtual 290, 3, .null, [214, 2, 0, 7076, 7078, 115, 1014, 7079], []), (33, .aload_n 0, 1, .null, [], []), (34, .getfield 46, 3, .null, [12, 32, 1, 0, 6001], []), (37, .iload_n 2, 1, .null, [], []), (38, .iaload, 1, .null, [], []), (39, .ifCond .ne 5, 3, .null, [44], []), (42, .iload_n 3, 1, .null, [], []), (43, .ireturn, 1, .null, [1], []), (44, .aload_n 0, 1, .null, [], []), (45, .getfield 46, 3, .null, [12, 32, 1, 0, 6001], []), (48, .iload_n 2, 1, .null, [], []), (49, .iaload, 1, .null, [], []), (50, .aload_n 0, 1, .null, [], []), (51, .getfield 261, 3, .null, [12, 27, 0, 0, 5236], []), (54, .invokestatic 293, 3, .null, [221, 2, 0, 7103, 7104, 0, 1014, 7105], []), (57, .istore 4, 2, .null, [], []), (59, .iload_n 3, 1, .null, [], []), (60, .ifCond .ne 15, 3, .null, [75], []), (63, .aload_n 0, 1, .null, [], []), (64, .getfield 46, 3, .null, [12, 32, 1, 0, 6001], []), (67, .iload_n 2, 1, .null, [], []), (68, .iaload, 1, .null, [], []), (69, .iload 4, 2, .null, [], []), (71, .idiv, 1, .null, [], []), (72, .goto 10, 3, .null, [82], []), (75, .aload_n 0, 1, .null, [], []), (76, .getfield 261, 3, .null, [12, 27, 0, 0, 5236], []), (79, .iload 4, 2, .null, [], []), (81, .idiv, 1, .null, [], []), (82, .ireturn, 1, .null, [1], [])]
def i_c221 : List I_En := [(0, .iload_n 0, 1, .null, [], []), (1, .istore_n 2, 1, .null, [], []), (2, .iload_n 1, 1, .null, [], []), (3, .istore_n 3, 1, .null, [], []), (4, .iload_n 3, 1, .null, [], []), (5, .ifCond .eq 16, 3, .null, [21], []), (8, .iload_n 2, 1, .null, [], []), (9, .iload_n 3, 1, .null, [], []), (10, .irem, 1, .null, [], []), (11, .istore 4, 2, .null, [], []), (13, .iload_n 3, 1, .null, [], []), (14, .istore_n 2, 1, .null, [], []), (15, .iload 4, 2, .null, [], []), (17, .istore_n 3, 1, .null, [], []), (18, .goto (-14), 3, .null, [4], []), (21, .iload_n 2, 1, .null, [], []), (22, .ireturn, 1, .null, [1], [])]
def i_c222 : List I_En := [(0, .iload_n 1, 1, .null, [], []), (1, .invokestatic 285, 3, .null, [213, 1, 0, 7071, 7072, 0, 1014, 7073], []), (4, .ifCond .ne 5, 3, .null, [9], []), (7, .iconst (-1), 1, .int (-1), [], []), (8, .ireturn, 1, .null, [1], []), (9, .aload_n 0, 1, .null, [], []), (10, .iload_n 1, 1, .null, [], []), (11, .iconst 0, 1, .int 0, [], []), (12, .invokevirtual 290, 3, .null, [214, 2, 0, 7076, 7078, 115, 1014, 7079], []), (15, .bipush (-2), 2, .int (-2), [], []), (17, .istore_n 2, 1, .null, [], []), (18, .iconst 0, 1, .int 0, [], []), (19, .istore_n 3, 1, .null, [], []), (20, .iload_n 3, 1, .null, [], []), (21, .aload_n 0, 1, .null, [], []), (22, .invokevirtual 100, 3, .null, [178, 0, 0, 6163, 6165, 93, 1014, 6166], []), (25, .if_icmp .ge 82, 3, .null, [107], []), (28, .iload_n 2, 1, .null, [], []), (29, .ifCond .lt 47, 3, .null, [76], []), (32, .aload_n 0, 1, .null, [], []), (33, .getfield 46, 3, .null, [12, 32, 1, 0, 6001], []), (36, .iload_n 3, 1, .null, [], []), (37, .iaload, 1, .null, [], []), (38, .i2l, 1, .null, [], []), (39, .aload_n 0, 1, .null, [], []), (40, .getfield 9, 3, .null, [12, 0, 1, 0, 5209], []), (43, .bipush 25, 2, .int 25, [], []), (45, .iload_n 2, 1, .null, [], []), (46, .iadd, 1, .null, [], []), (47, .iaload, 1, .null, [], []), (48, .iconst 1, 1, .int 1, [], []), (49, .iadd, 1, .null, [], []), (50, .i2l, 1, .null, [], []), (51, .lmul, 1, .null, [], []), (52, .aload_n 0, 1, .null, [], []), (53, .getfield 46, 3, .null, [12, 32, 1, 0, 6001], []), (56, .iload_n 2, 1, .null, [], []), (57, .iaload, 1, .null, [], []), (58, .i2l, 1, .null, [], []), (59, .aload_n 0, 1, .null, [], []), (60, .getfield 9, 3, .null, [12, 0, 1, 0, 5209], []), (63, .bipush 25, 2, .int 25, [], []), (65, .iload_n 3, 1, .null, [], []), (66, .iadd, 1, .null, [], []), (67, .iaload, 1, .null, [], []), (68, .iconst 1, 1, .int 1, [], []), (69, .iadd, 1, .null, [], []), (70, .i2l, 1, .null, [], []), (71, .lmul, 1, .null, [], []), (72, .lcmp, 1, .null, [], []), (73, .ifCond .le 7, 3, .null, [80], []), (76, .iconst 1, 1, .int 1, [], []), (77, .goto 4, 3, .null, [81], []), (80, .iconst 0, 1, .int 0, [], []), (81, .istore 4, 2, .null, [], []), (83, .aload_n 0, 1, .null, [], []), (84, .getfield 261, 3, .null, [12, 27, 0, 0, 5236], []), (87, .ifCond .le 12, 3, .null, [99], []), (90, .iload 4, 2, .null, [], []), (92, .ifCond .eq 7, 3, .null, [99], []), (95, .iload_n 3, 1, .null, [], []), (96, .goto 4, 3, .null, [100], []), (99, .iload_n 2, 1, .null, [], []), (100, .istore_n 2, 1, .null, [], []), (101, .iinc 3 1, 3, .int 1, [], []), (104, .goto (-84), 3, .null, [20], []), (107, .iload_n 2, 1, .null, [], []), (108, .ireturn, 1, .null, [1], [])]
def i_c223 : List I_En := [(0, .aload_n 0, 1, .null, [], []), (1, .iload_n 1, 1, .null, [], []), (2, .invokevirtual 136, 3, .null, [183, 1, 0, 6184, 6186, 95, 1014, 6187], []), (5, .ifCond .eq 13, 3, .null, [18], []), (8, .iload_n 2, 1, .null, [], []), (9, .i2l, 1, .null, [], []), (10, .lconst 0, 1, .long 0, [], []), (11, .lconst 1, 1, .long 1, [], []), (12, .invokestatic 104, 3, .null, [175, 3, 0, 6152, 6153, 0, 1014, 6154], []), (15, .ifCond .ne 5, 3, .null, [20], []), (18, .iconst (-1), 1, .int (-1), [], []), (19, .ireturn, 1, .null, [1], []), (20, .aload_n 0, 1, .null, [], []), (21, .iconst 1, 1, .int 1, [], []), (22, .iconst 0, 1, .int 0, [], []), (23, .invokevirtual 290, 3, .null, [214, 2, 0, 7076, 7078, 115, 1014, 7079], []), (26, .iconst 0, 1, .int 0, [], []), (27, .istore_n 3, 1, .null, [], []), (28, .iload_n 3, 1, .null, [], []), (29, .bipush 10, 2, .int 10, [], []), (31, .aload_n 0, 1, .null, [], []), (32, .invokevirtual 100, 3, .null, [178, 0, 0, 6163, 6165, 93, 1014, 6166], []), (35, .imul, 1, .null, [], []), (36, .if_icmp .ge 29, 3, .null, [65], []), (39, .aload_n 0, 1, .null, [], []), (40, .getfield 49, 3, .null, [12, 35, 1, 0, 6004], []), (43, .iload_n 3, 1, .null, [], []), (44, .aload_n 0, 1, .null, [], []), (45, .iload_n 3, 1, .null, [], []), (46, .iconst (-1), 1, .int (-1), [], []), (47, .invokevirtual 249, 3, .null, [217, 2, 0, 7088, 7090, 118, 1014, 7091], []), (50, .ifCond .ne 7, 3, .null, [57], []), (53, .iconst 1, 1, .int 1, [], []), (54, .goto 4, 3, .null, [58], []), (57, .iconst 0, 1, .int 0, [], []), (58, .bastore, 1, .null, [], []), (59, .iinc 3 1, 3, .int 1, [], []), (62, .goto (-34), 3, .null, [28], []), (65, .bipush (-2), 2, .int (-2), [], []), (67, .istore_n 3, 1, .null, [], []), (68, .bipush (-2), 2, .int (-2), [], []), (70, .istore 4, 2, .null, [], []), (72, .iconst 0, 1, .int 0, [], []), (73, .istore 5, 2, .null, [], []), (75, .iload 5, 2, .null, [], []), (77, .bipush 10, 2, .int 10, [], []), (79, .if_icmp .ge 73, 3, .null, [152], []), (82, .aload_n 0, 1, .null, [], []), (83, .getfield 261, 3, .null, [12, 27, 0, 0, 5236], []), (86, .ifCond .le 66, 3, .null, [152], []), (89, .iconst 0, 1, .int 0, [], []), (90, .istore 6, 2, .null, [], []), (92, .iload 6, 2, .null, [], []), (94, .aload_n 0, 1, .null, [], []), (95, .invokevirtual 100, 3, .null, [178, 0, 0, 6163, 6165, 93, 1014, 6166], []), (98, .if_icmp .ge 48, 3, .null, [146], []), (101, .aload_n 0, 1, .null, [], []), (102, .bipush 100, 2, .int 100, [], []), (104, .iload 5, 2, .null, [], []), (106, .imul, 1, .null, [], []), (107, .iload 6, 2, .null, [], []), (109, .iadd, 1, .null, [], []), (110, .iload_n 1, 1, .null, [], []), (111, .invokevirtual 296, 3, .null, [224, 2, 0, 7114, 7116, 119, 1014, 7117], []), (114, .istore 7, 2, .null, [], []), (116, .iload_n 3, 1, .null, [], []), (117, .ifCond .lt 10, 3, .null, [127], []), (120, .iload 7, 2, .null, [], []), (122, .iload 4, 2, .null, [], []), (124, .if_icmp .ge 16, 3, .null, [140], []), (127, .bipush 100, 2, .int 100, [], []), (129, .iload 5, 2, .null, [], []), (131, .imul, 1, .null, [], []), (132, .iload 6, 2, .null, [], []), (134, .iadd, 1, .null, [], []), (135, .istore_n 3, 1, .null, [], []), (136, .iload 7, 2, .null, [], []), (138, .istore 4, 2, .null, [], []), (140, .iinc 6 1, 3, .int 1, [], []), (143, .goto (-51), 3, .null, [92], []), (146, .iinc 5 1, 3, .int 1, [], []), (149, .goto (-74), 3, .null, [75], []), (152, .iload_n 2, 1, .null, [], []), (153, .ifCond .ne 7, 3, .null, [160], []), (156, .iload_n 3, 1, .null, [], []), (157, .goto 5, 3, .null, [162], []), (160, .iload 4, 2, .null, [], []), (162, .ireturn, 1, .null, [1], [])]
def i_c224 : List I_En := [(0, .iconst 0, 1, .int 0, [], []), (1, .istore_n 3, 1, .null, [], []), (2, .iload_n 3, 1, .null, [], []), (3, .bipush 99, 2, .int 99, [], []), (5, .if_icmp .gt 16, 3, .null, [21], []), (8, .aload_n 0, 1, .null, [], []), (9, .getfield 53, 3, .null, [12, 36, 1, 0, 6005], []), (12, .iload_n 3, 1, .null, [], []), (13, .iconst 0, 1, .int 0, [], []), (14, .iastore, 1, .null, [], []), (15, .iinc 3 1, 3, .int 1, [], []), (18, .goto (-16), 3, .null, [2], []), (21, .iconst 0, 1, .int 0, [], []), (22, .istore_n 3, 1, .null, [], []), (23, .iconst 0, 1, .int 0, [], []), (24, .istore 4, 2, .null, [], []), (26, .iload 4, 2, .null, [], []), (28, .bipush 10, 2, .int 10, [], []), (30, .aload_n 0, 1, .null, [], []), (31, .invokevirtual 100, 3, .null, [178, 0, 0, 6163, 6165, 93, 1014, 6166], []), (34, .imul, 1, .null, [], []), (35, .if_icmp .ge 89, 3, .null, [124], []), (38, .aload_n 0, 1, .null, [], []), (39, .getfield 49, 3, .null, [12, 35, 1, 0, 6004], []), (42, .iload 4, 2, .null, [], []), (44, .baload, 1, .null, [], []), (45, .ifCond .eq 73, 3, .null, [118], []), (48, .aload_n 0, 1, .null, [], []), (49, .aload_n 0, 1, .null, [], []), (50, .iload 4, 2, .null, [], []), (52, .bipush 10, 2, .int 10, [], []), (54, .idiv, 1, .null, [], []), (55, .iload 4, 2, .null, [], []), (57, .bipush 10, 2, .int 10, [], []), (59, .irem, 1, .null, [], []), (60, .aload_n 0, 1, .null, [], []), (61, .getfield 9, 3, .null, [12, 0, 1, 0, 5209], []), (64, .bipush 59, 2, .int 59, [], []), (66, .iaload, 1, .null, [], []), (67, .iload_n 1, 1, .null, [], []), (68, .bipush 100, 2, .int 100, [], []), (70, .idiv, 1, .null, [], []), (71, .iload_n 1, 1, .null, [], []), (72, .bipush 100, 2, .int 100, [], []), (74, .irem, 1, .null, [], []), (75, .iload_n 2, 1, .null, [], []), (76, .invokevirtual 230, 3, .null, [205, 6, 0, 7039, 7041, 111, 1014, 7042], []), (79, .invokevirtual 243, 3, .null, [209, 1, 0, 7055, 7057, 114, 1014, 7058], []), (82, .istore 5, 2, .null, [], []), (84, .aload_n 0, 1, .null, [], []), (85, .getfield 53, 3, .null, [12, 36, 1, 0, 6005], []), (88, .iload 5, 2, .null, [], []), (90, .dup2, 1, .null, [], []), (91, .iaload, 1, .null, [], []), (92, .iconst 1, 1, .int 1, [], []), (93, .iadd, 1, .null, [], []), (94, .iastore, 1, .null, [], []), (95, .aload_n 0, 1, .null, [], []), (96, .getfield 53, 3, .null, [12, 36, 1, 0, 6005], []), (99, .iload 5, 2, .null, [], []), (101, .iaload, 1, .null, [], []), (102, .iload_n 3, 1, .null, [], []), (103, .if_icmp .le 13, 3, .null, [116], []), (106, .aload_n 0, 1, .null, [], []), (107, .getfield 53, 3, .null, [12, 36, 1, 0, 6005], []), (110, .iload 5, 2, .null, [], []), (112, .iaload, 1, .null, [], []), (113, .goto 4, 3, .null, [117], []), (116, .iload_n 3, 1, .null, [], []), (117, .istore_n 3, 1, .null, [], []), (118, .iinc 4 1, 3, .int 1, [], []), (121, .goto (-95), 3, .null, [26], []), (124, .iload_n 3, 1, .null, [], []), (125, .ireturn, 1, .null, [1], [])]
def i_c225 : List I_En := [(0, .iload_n 1, 1, .null, [], []), (1, .invokestatic 285, 3, .null, [213, 1, 0, 7071, 7072, 0, 1014, 7073], []), (4, .ifCond .eq 19, 3, .null, [23], []), (7, .iload_n 2, 1, .null, [], []), (8, .i2l, 1, .null, [], []), (9, .lconst 0, 1, .long 0, [], []), (10, .aload_n 0, 1, .null, [], []), (11, .getfield 113, 3, .null, [12, 24, 0, 0, 5233], []), (14, .iconst 1, 1, .int 1, [], []), (15, .isub, 1, .null, [], []), (16, .i2l, 1, .null, [], []), (17, .invokestatic 104, 3, .null, [175, 3, 0, 6152, 6153, 0, 1014, 6154], []), (20, .ifCond .ne 5, 3, .null, [25], []), (23, .iconst (-1), 1, .int (-1), [], []), (24, .ireturn, 1, .null, [1], []), (25, .aload_n 0, 1, .null, [], []), (26, .iload_n 1, 1, .null, [], []), (27, .iconst 1, 1, .int 1, [], []), (28, .iload_n 2, 1, .null, [], []), (29, .ishl, 1, .null, [], []), (30, .invokevirtual 290, 3, .null, [214, 2, 0, 7076, 7078, 115, 1014, 7079], []), (33, .aload_n 0, 1, .null, [], []), (34, .getfield 261, 3, .null, [12, 27, 0, 0, 5236], []), (37, .istore_n 3, 1, .null, [], []), (38, .aload_n 0, 1, .null, [], []), (39, .iload_n 1, 1, .null, [], []), (40, .iconst 0, 1, .int 0, [], []), (41, .invokevirtual 290, 3, .null, [214, 2, 0, 7076, 7078, 115, 1014, 7079], []), (44, .iload_n 3, 1, .null, [], []), (45, .aload_n 0, 1, .null, [], []), (46, .getfield 261, 3, .null, [12, 27, 0, 0, 5236], []), (49, .isub, 1, .null, [], []), (50, .ireturn, 1, .null, [1], [])]
def i_c226 : List I_En := [(0, .iload_n 1, 1, .null, [], []), (1, .invokestatic 285, 3, .null, [213, 1, 0, 7071, 7072, 0, 1014, 7073], []), (4, .ifCond .ne 5, 3, .null, [9], []), (7, .iconst (-1), 1, .int (-1), [], []), (8, .ireturn, 1, .null, [1], []), (9, .aload_n 0, 1, .null, [], []), (10, .iload_n 1, 1, .null, [], []), (11, .iconst 0, 1, .int 0, [], []), (12, .invokevirtual 290, 3, .null, [214, 2, 0, 7076, 7078, 115, 1014, 7079], []), (15, .aload_n 0, 1, .null, [], []), (16, .getfield 252, 3, .null, [12, 33, 0, 0, 6002], []), (19, .ireturn, 1, .null, [1], [])]
def i_c227 : List I_En := [(0, .iload_n 1, 1, .null, [], []), (1, .ifCond .lt 36, 3, .null, [37], []), (4, .aload_n 0, 1, .null, [], []), (5, .iload_n 1, 1, .null, [], []), (6, .bipush 10, 2, .int 10, [], []), (8, .idiv, 1, .null, [], []), (9, .invokevirtual 145, 3, .null, [185, 1, 0, 6193, 6195, 97, 1014, 6196], []), (12, .ifCond .eq 25, 3, .null, [37], []), (15, .aload_n 0, 1, .null, [], []), (16, .iload_n 1, 1, .null, [], []), (17, .bipush 10, 2, .int 10, [], []), (19, .irem, 1, .null, [], []), (20, .invokevirtual 145, 3, .null, [185, 1, 0, 6193, 6195, 97, 1014, 6196], []), (23, .ifCond .eq 14, 3, .null, [37], []), (26, .iload_n 1, 1, .null, [], []), (27, .bipush 10, 2, .int 10, [], []), (29, .idiv, 1, .null, [], []), (30, .iload_n 1, 1, .null, [], []), (31, .bipush 10, 2, .int 10, [], []), (33, .irem, 1, .null, [], []), (34, .if_icmp .ne 5, 3, .null, [39], []), (37, .iconst (-1), 1, .int (-1), [], []), (38, .ireturn, 1, .null, [1], []), (39, .aload_n 0, 1, .null, [], []), (40, .iload_n 1, 1, .null, [], []), (41, .bipush 10, 2, .int 10, [], []), (43, .idiv, 1, .null, [], []), (44, .iload_n 1, 1, .null, [], []), (45, .bipush 10, 2, .int 10, [], []), (47, .irem, 1, .null, [], []), (48, .invokevirtual 299, 3, .null, [228, 2, 0, 7130, 7132, 120, 1014, 7133], []), (51, .ifCond .eq 7, 3, .null, [58], []), (54, .iconst 1, 1, .int 1, [], []), (55, .goto 4, 3, .null, [59], []), (58, .iconst 0, 1, .int 0, [], []), (59, .ireturn, 1, .null, [1], [])]
def i_c228 : List I_En := [(0, .iload_n 1, 1, .null, [], []), (1, .iload_n 2, 1, .null, [], []), (2, .if_icmp .eq 37, 3, .null, [39], []), (5, .aload_n 0, 1, .null, [], []), (6, .aload_n 0, 1, .null, [], []), (7, .iload_n 2, 1, .null, [], []), (8, .aload_n 0, 1, .null, [], []), (9, .getfield 25, 3, .null, [12, 10, 1, 0, 5219], []), (12, .iload_n 1, 1, .null, [], []), (13, .iaload, 1, .null, [], []), (14, .aload_n 0, 1, .null, [], []), (15, .getfield 22, 3, .null, [12, 9, 1, 0, 5218], []), (18, .iload_n 1, 1, .null, [], []), (19, .iaload, 1, .null, [], []), (20, .aload_n 0, 1, .null, [], []), (21, .getfield 22, 3, .null, [12, 9, 1, 0, 5218], []), (24, .iload_n 2, 1, .null, [], []), (25, .iaload, 1, .null, [], []), (26, .invokevirtual 239, 3, .null, [204, 4, 0, 7035, 7037, 110, 1014, 7038], []), (29, .invokevirtual 243, 3, .null, [209, 1, 0, 7055, 7057, 114, 1014, 7058], []), (32, .ifCond .le 7, 3, .null, [39], []), (35, .iconst 1, 1, .int 1, [], []), (36, .goto 4, 3, .null, [40], []), (39, .iconst 0, 1, .int 0, [], []), (40, .ireturn, 1, .null, [2], [])]
def i_c229 : List I_En := [(0, .aload_n 0, 1, .null, [], []), (1, .iload_n 1, 1, .null, [], []), (2, .invokevirtual 305, 3, .null, [230, 1, 0, 7138, 7140, 121, 1014, 7141], []), (5, .ifCond .eq 11, 3, .null, [16], []), (8, .aload_n 0, 1, .null, [], []), (9, .iload_n 1, 1, .null, [], []), (10, .invokevirtual 308, 3, .null, [231, 1, 0, 7142, 7144, 122, 1014, 7145], []), (13, .goto 4, 3, .null, [17], []), (16, .iconst (-1), 1, .int (-1), [], []), (17, .ireturn, 1, .null, [1], [])]
def i_c230 : List I_En := [(0, .iload_n 1, 1, .null, [], []), (1, .i2l, 1, .null, [], []), (2, .lconst 0, 1, .long 0, [], []), (3, .iconst 1, 1, .int 1, [], []), (4, .aload_n 0, 1, .null, [], []), (5, .getfield 108, 3, .null, [12, 8, 0, 0, 5217], []), (8, .ishl, 1, .null, [], []), (9, .iconst 1, 1, .int 1, [], []), (10, .isub, 1, .null, [], []), (11, .i2l, 1, .null, [], []), (12, .invokestatic 104, 3, .null, [175, 3, 0, 6152, 6153, 0, 1014, 6154], []), (15, .ireturn, 1, .null, [2], [])]
def i_c231 : List I_En := [(0, .iload_n 1, 1, .null, [], []), (1, .istore_n 2, 1, .null, [], []), (2, .iconst 1, 1, .int 1, [], []), (3, .istore_n 3, 1, .null, [], []), (4, .iload_n 3, 1, .null, [], []), (5, .ifCond .eq 66, 3, .null, [71], []), (8, .iload_n 2, 1, .null, [], []), (9, .istore 4, 2, .null, [], []), (11, .iconst 0, 1, .int 0, [], []), (12, .istore 5, 2, .null, [], []), (14, .iload 5, 2, .null, [], []), (16, .aload_n 0, 1, .null, [], []), (17, .getfield 108, 3, .null, [12, 8, 0, 0, 5217], []), (20, .if_icmp .ge 33, 3, .null, [53], []), (23, .iload 4, 2, .null, [], []), (25, .iload_n 2, 1, .null, [], []), (26, .iload 5, 2, .null, [], []), (28, .invokestatic 151, 3, .null, [188, 2, 0, 6207, 6208, 0, 1014, 6209], []), (31, .ifCond .eq 12, 3, .null, [43], []), (34, .aload_n 0, 1, .null, [], []), (35, .iload 5, 2, .null, [], []), (37, .invokevirtual 302, 3, .null, [232, 1, 0, 7146, 7148, 123, 1014, 7149], []), (40, .goto 4, 3, .null, [44], []), (43, .iconst 0, 1, .int 0, [], []), (44, .ior, 1, .null, [], []), (45, .istore 4, 2, .null, [], []), (47, .iinc 5 1, 3, .int 1, [], []), (50, .goto (-36), 3, .null, [14], []), (53, .iload 4, 2, .null, [], []), (55, .iload_n 2, 1, .null, [], []), (56, .if_icmp .eq 7, 3, .null, [63], []), (59, .iconst 1, 1, .int 1, [], []), (60, .goto 4, 3, .null, [64], []), (63, .iconst 0, 1, .int 0, [], []), (64, .istore_n 3, 1, .null, [], []), (65, .iload 4, 2, .null, [], []), (67, .istore_n 2, 1, .null, [], []), (68, .goto (-64), 3, .null, [4], []), (71, .iload_n 2, 1, .null, [], []), (72, .ireturn, 1, .null, [1], [])]
def i_c232 : List I_En := [(0, .iconst 0, 1, .int 0, [], []), (1, .istore_n 2, 1, .null, [], []), (2, .iconst 0, 1, .int 0, [], []), (3, .istore_n 3, 1, .null, [], []), (4, .iload_n 3, 1, .null, [], []), (5, .aload_n 0, 1, .null, [], []), (6, .getfield 108, 3, .null, [12, 8, 0, 0, 5217], []), (9, .if_icmp .ge 28, 3, .null, [37], []), (12, .iload_n 2, 1, .null, [], []), (13, .aload_n 0, 1, .null, [], []), (14, .iload_n 1, 1, .null, [], []), (15, .iload_n 3, 1, .null, [], []), (16, .invokevirtual 299, 3, .null, [228, 2, 0, 7130, 7132, 120, 1014, 7133], []), (19, .ifCond .eq 9, 3, .null, [28], []), (22, .iconst 1, 1, .int 1, [], []), (23, .iload_n 3, 1, .null, [], []), (24, .ishl, 1, .null, [], []), (25, .goto 4, 3, .null, [29], []), (28, .iconst 0, 1, .int 0, [], []), (29, .ior, 1, .null, [], []), (30, .istore_n 2, 1, .null, [], []), (31, .iinc 3 1, 3, .int 1, [], []), (34, .goto (-30), 3, .null, [4], []), (37, .iload_n 2, 1, .null, [], []), (38, .ireturn, 1, .null, [1], [])]
def i_c233 : List I_En := [(0, .aload_n 0, 1, .null, [], []), (1, .iload_n 1, 1, .null, [], []), (2, .invokevirtual 305, 3, .null, [230, 1, 0, 7138, 7140, 121, 1014, 7141], []), (5, .ifCond .eq 13, 3, .null, [18], []), (8, .iload_n 2, 1, .null, [], []), (9, .i2l, 1, .null, [], []), (10, .lconst 0, 1, .long 0, [], []), (11, .lconst 1, 1, .long 1, [], []), (12, .invokestatic 104, 3, .null, [175, 3, 0, 6152, 6153, 0, 1014, 6154], []), (15, .ifCond .ne 5, 3, .null, [20], []), (18, .iconst (-1), 1, .int (-1), [], []), (19, .ireturn, 1, .null, [1], []), (20, .aload_n 0, 1, .null, [], []), (21, .iconst (-1), 1, .int (-1), [], []), (22, .putfield 311, 3, .null, [12, 37, 0, 0, 6006], []), (25, .aload_n 0, 1, .null, [], []), (26, .iconst 0, 1, .int 0, [], []), (27, .putfield 314, 3, .null, [12, 38, 0, 0, 6007], []), (30, .aload_n 0, 1, .null, [], []), (31, .iload_n 1, 1, .null, [], []), (32, .aload_n 0, 1, .null, [], []), (33, .iload_n 1, 1, .null, [], []), (34, .invokevirtual 308, 3, .null, [231, 1, 0, 7142, 7144, 122, 1014, 7145], []), (37, .iconst 0, 1, .int 0, [], []), (38, .iconst 0, 1, .int 0, [], []), (39, .invokevirtual 317, 3, .null, [234, 4, 0, 7154, 7156, 124, 1014, 7157], []), (42, .iload_n 2, 1, .null, [], []), (43, .ifCond .ne 10, 3, .null, [53], []), (46, .aload_n 0, 1, .null, [], []), (47, .getfield 311, 3, .null, [12, 37, 0, 0, 6006], []), (50, .goto 7, 3, .null, [57], []), (53, .aload_n 0, 1, .null, [], []), (54, .getfield 314, 3, .null, [12, 38, 0, 0, 6007], []), (57, .ireturn, 1, .null, [1], [])]
def i_c234 : List I_En := [(0, .iload_n 1, 1, .null, [], []), (1, .iload_n 2, 1, .null, [], []), (2, .if_icmp .ne 30, 3, .null, [32], []), (5, .aload_n 0, 1, .null, [], []), (6, .getfield 311, 3, .null, [12, 37, 0, 0, 6006], []), (9, .ifCond .lt 11, 3, .null, [20], []), (12, .iload_n 3, 1, .null, [], []), (13, .aload_n 0, 1, .null, [], []), (14, .getfield 311, 3, .null, [12, 37, 0, 0, 6006], []), (17, .if_icmp .ge 14, 3, .null, [31], []), (20, .aload_n 0, 1, .null, [], []), (21, .iload_n 3, 1, .null, [], []), (22, .putfield 311, 3, .null, [12, 37, 0, 0, 6006], []), (25, .aload_n 0, 1, .null, [], []), (26, .iload 4, 2, .null, [], []), (28, .putfield 314, 3, .null, [12, 38, 0, 0, 6007], []), (31, .return_, 1, .null, [], []), (32, .iload_n 3, 1, .null, [], []), (33, .bipush 6, 2, .int 6, [], []), (35, .if_icmp .eq 20, 3, .null, [55], []), (38, .aload_n 0, 1, .null, [], []), (39, .getfield 311, 3, .null, [12, 37, 0, 0, 6006], []), (42, .ifCond .lt 14, 3, .null, [56], []), (45, .iload_n 3, 1, .null, [], []), (46, .iconst 1, 1, .int 1, [], []), (47, .iadd, 1, .null, [], []), (48, .aload_n 0, 1, .null, [], []), (49, .getfield 311, 3, .null, [12, 37, 0, 0, 6006], []), (52, .if_icmp .lt 4, 3, .null, [56], []), (55, .return_, 1, .null, [], []), (56, .iconst 0, 1, .int 0, [], []), (57, .istore 5, 2, .null, [], []), (59, .iload 5, 2, .null, [], []), (61, .aload_n 0, 1, .null, [], []), (62, .getfield 108, 3, .null, [12, 8, 0, 0, 5217], []), (65, .if_icmp .ge 58, 3, .null, [123], []), (68, .iload_n 1, 1, .null, [], []), (69, .iload 5, 2, .null, [], []), (71, .invokestatic 151, 3, .null, [188, 2, 0, 6207, 6208, 0, 1014, 6209], []), (74, .ifCond .eq 14, 3, .null, [88], []), (77, .iload_n 1, 1, .null, [], []), (78, .aload_n 0, 1, .null, [], []), (79, .iload 5, 2, .null, [], []), (81, .invokevirtual 302, 3, .null, [232, 1, 0, 7146, 7148, 123, 1014, 7149], []), (84, .ior, 1, .null, [], []), (85, .goto 4, 3, .null, [89], []), (88, .iload_n 1, 1, .null, [], []), (89, .istore 6, 2, .null, [], []), (91, .iload 6, 2, .null, [], []), (93, .iload_n 1, 1, .null, [], []), (94, .if_icmp .eq 23, 3, .null, [117], []), (97, .aload_n 0, 1, .null, [], []), (98, .iload 6, 2, .null, [], []), (100, .iload_n 2, 1, .null, [], []), (101, .iload_n 3, 1, .null, [], []), (102, .iconst 1, 1, .int 1, [], []), (103, .iadd, 1, .null, [], []), (104, .bipush 10, 2, .int 10, [], []), (106, .iload 4, 2, .null, [], []), (108, .imul, 1, .null, [], []), (109, .iload 5, 2, .null, [], []), (111, .iadd, 1, .null, [], []), (112, .iconst 1, 1, .int 1, [], []), (113, .iadd, 1, .null, [], []), (114, .invokevirtual 317, 3, .null, [234, 4, 0, 7154, 7156, 124, 1014, 7157], []), (117, .iinc 5 1, 3, .int 1, [], []), (120, .goto (-61), 3, .null, [59], []), (123, .return_, 1, .null, [], [])]
def i_c235 : List I_En := [(0, .aload_n 0, 1, .null, [], []), (1, .getfield 108, 3, .null, [12, 8, 0, 0, 5217], []), (4, .ifCond .ne 6, 3, .null, [10], []), (7, .bipush (-5), 2, .int (-5), [], []), (9, .ireturn, 1, .null, [1], []), (10, .iconst 1, 1, .int 1, [], []), (11, .aload_n 0, 1, .null, [], []), (12, .getfield 108, 3, .null, [12, 8, 0, 0, 5217], []), (15, .ishl, 1, .null, [], []), (16, .iconst 1, 1, .int 1, [], []), (17, .isub, 1, .null, [], []), (18, .istore_n 1, 1, .null, [], []), (19, .iload_n 1, 1, .null, [], []), (20, .istore_n 2, 1, .null, [], []), (21, .iconst 0, 1, .int 0, [], []), (22, .istore_n 3, 1, .null, [], []), (23, .iload_n 3, 1, .null, [], []), (24, .iload_n 1, 1, .null, [], []), (25, .if_icmp .ge 35, 3, .null, [60], []), (28, .iload_n 3, 1, .null, [], []), (29, .invokestatic 255, 3, .null, [218, 1, 0, 7092, 7093, 0, 1014, 7094], []), (32, .iload_n 2, 1, .null, [], []), (33, .invokestatic 255, 3, .null, [218, 1, 0, 7092, 7093, 0, 1014, 7094], []), (36, .if_icmp .ge 16, 3, .null, [52], []), (39, .aload_n 0, 1, .null, [], []), (40, .iload_n 3, 1, .null, [], []), (41, .invokevirtual 308, 3, .null, [231, 1, 0, 7142, 7144, 122, 1014, 7145], []), (44, .iload_n 1, 1, .null, [], []), (45, .if_icmp .ne 7, 3, .null, [52], []), (48, .iload_n 3, 1, .null, [], []), (49, .goto 4, 3, .null, [53], []), (52, .iload_n 2, 1, .null, [], []), (53, .istore_n 2, 1, .null, [], []), (54, .iinc 3 1, 3, .int 1, [], []), (57, .goto (-34), 3, .null, [23], []), (60, .iload_n 2, 1, .null, [], []), (61, .ireturn, 1, .null, [1], [])]
def i_c236 : List I_En := [(0, .iload_n 1, 1, .null, [], []), (1, .i2l, 1, .null, [], []), (2, .lconst 0, 1, .long 0, [], []), (3, .ldc2_w 111, 3, .long 5, [6151], []), (6, .invokestatic 104, 3, .null, [175, 3, 0, 6152, 6153, 0, 1014, 6154], []), (9, .ifCond .eq 15, 3, .null, [24], []), (12, .iload_n 2, 1, .null, [], []), (13, .i2l, 1, .null, [], []), (14, .lconst 0, 1, .long 0, [], []), (15, .ldc2_w 320, 3, .long 9999, [7166], []), (18, .invokestatic 104, 3, .null, [175, 3, 0, 6152, 6153, 0, 1014, 6154], []), (21, .ifCond .ne 5, 3, .null, [26], []), (24, .iconst (-1), 1, .int (-1), [], []), (25, .ireturn, 1, .null, [1], []), (26, .aload_n 0, 1, .null, [], []), (27, .getfield 56, 3, .null, [12, 39, 1, 0, 6008], []), (30, .iload_n 1, 1, .null, [], []), (31, .iaload, 1, .null, [], []), (32, .istore_n 3, 1, .null, [], []), (33, .aload_n 0, 1, .null, [], []), (34, .getfield 56, 3, .null, [12, 39, 1, 0, 6008], []), (37, .iload_n 1, 1, .null, [], []), (38, .iload_n 2, 1, .null, [], []), (39, .iastore, 1, .null, [], []), (40, .iload_n 3, 1, .null, [], []), (41, .ireturn, 1, .null, [1], [])]
def i_c237 : List I_En := [(0, .iload_n 1, 1, .null, [], []), (1, .invokestatic 128, 3, .null, [181, 1, 0, 6175, 6176, 0, 1014, 6177], []), (4, .ifCond .eq 13, 3, .null, [17], []), (7, .iload_n 2, 1, .null, [], []), (8, .i2l, 1, .null, [], []), (9, .lconst 0, 1, .long 0, [], []), (10, .lconst 1, 1, .long 1, [], []), (11, .invokestatic 104, 3, .null, [175, 3, 0, 6152, 6153, 0, 1014, 6154], []), (14, .ifCond .ne 5, 3, .null, [19], []), (17, .iconst (-1), 1, .int (-1), [], []), (18, .ireturn, 1, .null, [1], []), (19, .aload_n 0, 1, .null, [], []), (20, .getfield 68, 3, .null, [12, 52, 1, 0, 6021], []), (23, .iload_n 1, 1, .null, [], []), (24, .iaload, 1, .null, [], []), (25, .ifCond .ge 6, 3, .null, [31], []), (28, .bipush (-11), 2, .int (-11), [], []), (30, .ireturn, 1, .null, [1], []), (31, .aload_n 0, 1, .null, [], []), (32, .getfield 68, 3, .null, [12, 52, 1, 0, 6021], []), (35, .iload_n 1, 1, .null, [], []), (36, .iaload, 1, .null, [], []), (37, .bipush 50, 2, .int 50, [], []), (39, .if_icmp .eq 6, 3, .null, [45], []), (42, .bipush (-12), 2, .int (-12), [], []), (44, .ireturn, 1, .null, [1], []), (45, .bipush (-2), 2, .int (-2), [], []), (47, .istore_n 3, 1, .null, [], []), (48, .ldc2_w 322, 3, .long (-2), [7171], []), (51, .lstore 4, 2, .null, [], []), (53, .iconst 0, 1, .int 0, [], []), (54, .istore 6, 2, .null, [], []), (56, .iload 6, 2, .null, [], []), (58, .bipush 6, 2, .int 6, [], []), (60, .if_icmp .ge 66, 3, .null, [126], []), (63, .iconst 0, 1, .int 0, [], []), (64, .istore 7, 2, .null, [], []), (66, .iload 7, 2, .null, [], []), (68, .iconst 4, 1, .int 4, [], []), (69, .iadd, 1, .null, [], []), (70, .aload_n 0, 1, .null, [], []), (71, .getfield 71, 3, .null, [12, 53, 1, 0, 6022], []), (74, .iload_n 1, 1, .null, [], []), (75, .iaload, 1, .null, [], []), (76, .if_icmp .gt 44, 3, .null, [120], []), (79, .aload_n 0, 1, .null, [], []), (80, .iload_n 1, 1, .null, [], []), (81, .iload 7, 2, .null, [], []), (83, .aload_n 0, 1, .null, [], []), (84, .getfield 56, 3, .null, [12, 39, 1, 0, 6008], []), (87, .iload 6, 2, .null, [], []), (89, .iaload, 1, .null, [], []), (90, .invokevirtual 324, 3, .null, [238, 3, 0, 7172, 7174, 125, 1014, 7175], []), (93, .lstore 8, 2, .null, [], []), (95, .iload_n 3, 1, .null, [], []), (96, .ifCond .lt 11, 3, .null, [107], []), (99, .lload 8, 2, .null, [], []), (101, .lload 4, 2, .null, [], []), (103, .lcmp, 1, .null, [], []), (104, .ifCond .ge 10, 3, .null, [114], []), (107, .iload 6, 2, .null, [], []), (109, .istore_n 3, 1, .null, [], []), (110, .lload 8, 2, .null, [], []), (112, .lstore 4, 2, .null, [], []), (114, .iinc 7 1, 3, .int 1, [], []), (117, .goto (-51), 3, .null, [66], []), (120, .iinc 6 1, 3, .int 1, [], []), (123, .goto (-67), 3, .null, [56], []), (126, .iload_n 2, 1, .null, [], []), (127, .ifCond .ne 7, 3, .null, [134], []), (130, .iload_n 3, 1, .null, [], []), (131, .goto 6, 3, .null, [137], []), (134, .lload 4, 2, .null, [], []), (136, .l2i, 1, .null, [], []), (137, .ireturn, 1, .null, [1], [])]
def i_c238 : List I_En := [(0, .lconst 0, 1, .long 0, [], []), (1, .lstore 4, 2, .null, [], []), (3, .iload_n 3, 1, .null, [], []), (4, .istore 6, 2, .null, [], []), (6, .iconst 3, 1, .int 3, [], []), (7, .istore 7, 2, .null, [], []), (9, .iload 7, 2, .null, [], []), (11, .ifCond .lt 59, 3, .null, [70], []), (14, .aload_n 0, 1, .null, [], []), (15, .getfield 74, 3, .null, [12, 54, 1, 0, 6023], []), (18, .bipush 60, 2, .int 60, [], []), (20, .iload_n 1, 1, .null, [], []), (21, .imul, 1, .null, [], []), (22, .iload_n 2, 1, .null, [], []), (23, .iadd, 1, .null, [], []), (24, .iload 7, 2, .null, [], []), (26, .iadd, 1, .null, [], []), (27, .laload, 1, .null, [], []), (28, .iload 6, 2, .null, [], []), (30, .bipush 10, 2, .int 10, [], []), (32, .irem, 1, .null, [], []), (33, .i2l, 1, .null, [], []), (34, .lsub, 1, .null, [], []), (35, .lstore 8, 2, .null, [], []), (37, .lload 4, 2, .null, [], []), (39, .lload 8, 2, .null, [], []), (41, .lconst 0, 1, .long 0, [], []), (42, .lcmp, 1, .null, [], []), (43, .ifCond .ge 9, 3, .null, [52], []), (46, .lload 8, 2, .null, [], []), (48, .lneg, 1, .null, [], []), (49, .goto 5, 3, .null, [54], []), (52, .lload 8, 2, .null, [], []), (54, .ladd, 1, .null, [], []), (55, .lstore 4, 2, .null, [], []), (57, .iload 6, 2, .null, [], []), (59, .bipush 10, 2, .int 10, [], []), (61, .idiv, 1, .null, [], []), (62, .istore 6, 2, .null, [], []), (64, .iinc 7 (-1), 3, .int (-1), [], []), (67, .goto (-58), 3, .null, [9], []), (70, .lload 4, 2, .null, [], []), (72, .lreturn, 1, .null, [], [])]
def i_c239 : List I_En := [(0, .iload_n 2, 1, .null, [], []), (1, .i2l, 1, .null, [], []), (2, .lconst 1, 1, .long 1, [], []), (3, .ldc2_w 169, 3, .long 30, [6212], []), (6, .invokestatic 104, 3, .null, [175, 3, 0, 6152, 6153, 0, 1014, 6154], []), (9, .ifCond .ne 5, 3, .null, [14], []), (12, .iconst (-1), 1, .int (-1), [], []), (13, .ireturn, 1, .null, [1], []), (14, .aload_n 0, 1, .null, [], []), (15, .iload_n 1, 1, .null, [], []), (16, .putfield 328, 3, .null, [12, 40, 0, 0, 6009], []), (19, .iconst 0, 1, .int 0, [], []), (20, .istore_n 3, 1, .null, [], []), (21, .iload_n 3, 1, .null, [], []), (22, .iload_n 2, 1, .null, [], []), (23, .if_icmp .ge 13, 3, .null, [36], []), (26, .aload_n 0, 1, .null, [], []), (27, .invokevirtual 335, 3, .null, [240, 0, 0, 7180, 7182, 126, 1014, 7183], []), (30, .iinc 3 1, 3, .int 1, [], []), (33, .goto (-12), 3, .null, [21], []), (36, .iconst 0, 1, .int 0, [], []), (37, .istore_n 3, 1, .null, [], []), (38, .iconst 0, 1, .int 0, [], []), (39, .istore 4, 2, .null, [], []), (41, .iload 4, 2, .null, [], []), (43, .aload_n 0, 1, .null, [], []), (44, .getfield 108, 3, .null, [12, 8, 0, 0, 5217], []), (47, .if_icmp .ge 22, 3, .null, [69], []), (50, .iload_n 3, 1, .null, [], []), (51, .aload_n 0, 1, .null, [], []), (52, .getfield 9, 3, .null, [12, 0, 1, 0, 5209], []), (55, .bipush 50, 2, .int 50, [], []), (57, .iload 4, 2, .null, [], []), (59, .iadd, 1, .null, [], []), (60, .iaload, 1, .null, [], []), (61, .iadd, 1, .null, [], []), (62, .istore_n 3, 1, .null, [], []), (63, .iinc 4 1, 3, .int 1, [], []), (66, .goto (-25), 3, .null, [41], []), (69, .iload_n 3, 1, .null, [], []), (70, .ireturn, 1, .null, [1], [])]
def i_c240 : List I_En := [(0, .iconst 0, 1, .int 0, [], []), (1, .istore_n 1, 1, .null, [], []), (2, .iload_n 1, 1, .null, [], []), (3, .aload_n 0, 1, .null, [], []), (4, .getfield 108, 3, .null, [12, 8, 0, 0, 5217], []), (7, .if_icmp .ge 87, 3, .null, [94], []), (10, .aload_n 0, 1, .null, [], []), (11, .invokevirtual 332, 3, .null, [241, 0, 0, 7184, 7186, 127, 1014, 7187], []), (14, .istore_n 2, 1, .null, [], []), (15, .aload_n 0, 1, .null, [], []), (16, .getfield 9, 3, .null, [12, 0, 1, 0, 5209], []), (19, .bipush 50, 2, .int 50, [], []), (21, .iload_n 1, 1, .null, [], []), (22, .iadd, 1, .null, [], []), (23, .iaload, 1, .null, [], []), (24, .istore_n 3, 1, .null, [], []), (25, .iload_n 2, 1, .null, [], []), (26, .aload_n 0, 1, .null, [], []), (27, .getfield 9, 3, .null, [12, 0, 1, 0, 5209], []), (30, .bipush 56, 2, .int 56, [], []), (32, .iaload, 1, .null, [], []), (33, .if_icmp .ge 29, 3, .null, [62], []), (36, .aload_n 0, 1, .null, [], []), (37, .getfield 9, 3, .null, [12, 0, 1, 0, 5209], []), (40, .bipush 50, 2, .int 50, [], []), (42, .iload_n 1, 1, .null, [], []), (43, .iadd, 1, .null, [], []), (44, .iload_n 3, 1, .null, [], []), (45, .bipush 9, 2, .int 9, [], []), (47, .if_icmp .ge 9, 3, .null, [56], []), (50, .iload_n 3, 1, .null, [], []), (51, .iconst 1, 1, .int 1, [], []), (52, .iadd, 1, .null, [], []), (53, .goto 5, 3, .null, [58], []), (56, .bipush 9, 2, .int 9, [], []), (58, .iastore, 1, .null, [], []), (59, .goto 29, 3, .null, [88], []), (62, .iload_n 2, 1, .null, [], []), (63, .bipush 10, 2, .int 10, [], []), (65, .if_icmp .le 23, 3, .null, [88], []), (68, .aload_n 0, 1, .null, [], []), (69, .getfield 9, 3, .null, [12, 0, 1, 0, 5209], []), (72, .bipush 50, 2, .int 50, [], []), (74, .iload_n 1, 1, .null, [], []), (75, .iadd, 1, .null, [], []), (76, .iload_n 3, 1, .null, [], []), (77, .ifCond .le 9, 3, .null, [86], []), (80, .iload_n 3, 1, .null, [], []), (81, .iconst 1, 1, .int 1, [], []), (82, .isub, 1, .null, [], []), (83, .goto 4, 3, .null, [87], []), (86, .iconst 0, 1, .int 0, [], []), (87, .iastore, 1, .null, [], []), (88, .iinc 1 1, 3, .int 1, [], []), (91, .goto (-89), 3, .null, [2], []), (94, .iconst 0, 1, .int 0, [], []), (95, .istore_n 1, 1, .null, [], []), (96, .iload_n 1, 1, .null, [], []), (97, .aload_n 0, 1, .null, [], []), (98, .invokevirtual 100, 3, .null, [178, 0, 0, 6163, 6165, 93, 1014, 6166], []), (101, .if_icmp .ge 48, 3, .null, [149], []), (104, .aload_n 0, 1, .null, [], []), (105, .getfield 9, 3, .null, [12, 0, 1, 0, 5209], []), (108, .iload_n 1, 1, .null, [], []), (109, .dup2, 1, .null, [], []), (110, .iaload, 1, .null, [], []), (111, .aload_n 0, 1, .null, [], []), (112, .invokevirtual 332, 3, .null, [241, 0, 0, 7184, 7186, 127, 1014, 7187], []), (115, .aload_n 0, 1, .null, [], []), (116, .getfield 9, 3, .null, [12, 0, 1, 0, 5209], []), (119, .bipush 56, 2, .int 56, [], []), (121, .iaload, 1, .null, [], []), (122, .if_icmp .ge 18, 3, .null, [140], []), (125, .aload_n 0, 1, .null, [], []), (126, .getfield 9, 3, .null, [12, 0, 1, 0, 5209], []), (129, .iload_n 1, 1, .null, [], []), (130, .iaload, 1, .null, [], []), (131, .bipush 9, 2, .int 9, [], []), (133, .if_icmp .ge 7, 3, .null, [140], []), (136, .iconst 1, 1, .int 1, [], []), (137, .goto 4, 3, .null, [141], []), (140, .iconst 0, 1, .int 0, [], []), (141, .iadd, 1, .null, [], []), (142, .iastore, 1, .null, [], []), (143, .iinc 1 1, 3, .int 1, [], []), (146, .goto (-50), 3, .null, [96], []), (149, .return_, 1, .null, [], [])]
def i_c241 : List I_En := [(0, .aload_n 0, 1, .null, [], []), (1, .aload_n 0, 1, .null, [], []), (2, .getfield 328, 3, .null, [12, 40, 0, 0, 6009], []), (5, .ldc_w 331, 3, .int 1103515245, [0, 7188], []), (8, .imul, 1, .null, [], []), (9, .sipush 12345, 3, .int 12345, [], []), (12, .iadd, 1, .null, [], []), (13, .putfield 328, 3, .null, [12, 40, 0, 0, 6009], []), (16, .aload_n 0, 1, .null, [], []), (17, .getfield 328, 3, .null, [12, 40, 0, 0, 6009], []), (20, .bipush 8, 2, .int 8, [], []), (22, .iushr, 1, .null, [], []), (23, .bipush 12, 2, .int 12, [], []), (25, .irem, 1, .null, [], []), (26, .ireturn, 1, .null, [1], [])]
def i_c242 : List I_En := [(0, .aload_n 0, 1, .null, [], []), (1, .iload_n 1, 1, .null, [], []), (2, .invokevirtual 136, 3, .null, [183, 1, 0, 6184, 6186, 95, 1014, 6187], []), (5, .ifCond .eq 15, 3, .null, [20], []), (8, .iload_n 2, 1, .null, [], []), (9, .i2l, 1, .null, [], []), (10, .lconst 0, 1, .long 0, [], []), (11, .ldc2_w 134, 3, .long 9, [6179], []), (14, .invokestatic 104, 3, .null, [175, 3, 0, 6152, 6153, 0, 1014, 6154], []), (17, .ifCond .ne 5, 3, .null, [22], []), (20, .iconst (-1), 1, .int (-1), [], []), (21, .ireturn, 1, .null, [1], []), (22, .aload_n 0, 1, .null, [], []), (23, .dup, 1, .null, [], []), (24, .getfield 166, 3, .null, [12, 13, 0, 0, 5222], []), (27, .aload_n 0, 1, .null, [], []), (28, .getfield 9, 3, .null, [12, 0, 1, 0, 5209], []), (31, .bipush 25, 2, .int 25, [], []), (33, .iload_n 1, 1, .null, [], []), (34, .iadd, 1, .null, [], []), (35, .iaload, 1, .null, [], []), (36, .iadd, 1, .null, [], []), (37, .putfield 166, 3, .null, [12, 13, 0, 0, 5222], []), (40, .iconst 0, 1, .int 0, [], []), (41, .istore_n 3, 1, .null, [], []), (42, .iload_n 3, 1, .null, [], []), (43, .aload_n 0, 1, .null, [], []), (44, .getfield 108, 3, .null, [12, 8, 0, 0, 5217], []), (47, .if_icmp .ge 57, 3, .null, [104], []), (50, .aload_n 0, 1, .null, [], []), (51, .getfield 22, 3, .null, [12, 9, 1, 0, 5218], []), (54, .iload_n 3, 1, .null, [], []), (55, .iaload, 1, .null, [], []), (56, .iload_n 1, 1, .null, [], []), (57, .if_icmp .ne 41, 3, .null, [98], []), (60, .aload_n 0, 1, .null, [], []), (61, .getfield 148, 3, .null, [12, 12, 0, 0, 5221], []), (64, .iload_n 3, 1, .null, [], []), (65, .invokestatic 151, 3, .null, [188, 2, 0, 6207, 6208, 0, 1014, 6209], []), (68, .ifCond .ne 30, 3, .null, [98], []), (71, .aload_n 0, 1, .null, [], []), (72, .getfield 9, 3, .null, [12, 0, 1, 0, 5209], []), (75, .bipush 50, 2, .int 50, [], []), (77, .iload_n 3, 1, .null, [], []), (78, .iadd, 1, .null, [], []), (79, .iaload, 1, .null, [], []), (80, .iload_n 2, 1, .null, [], []), (81, .if_icmp .gt 17, 3, .null, [98], []), (84, .aload_n 0, 1, .null, [], []), (85, .dup, 1, .null, [], []), (86, .getfield 148, 3, .null, [12, 12, 0, 0, 5221], []), (89, .iconst 1, 1, .int 1, [], []), (90, .iload_n 3, 1, .null, [], []), (91, .ishl, 1, .null, [], []), (92, .ior, 1, .null, [], []), (93, .putfield 148, 3, .null, [12, 12, 0, 0, 5221], []), (96, .iload_n 3, 1, .null, [], []), (97, .ireturn, 1, .null, [1], []), (98, .iinc 3 1, 3, .int 1, [], []), (101, .goto (-59), 3, .null, [42], []), (104, .bipush (-2), 2, .int (-2), [], []), (106, .ireturn, 1, .null, [1], [])]
def i_c243 : List I_En := [(0, .iload_n 1, 1, .null, [], []), (1, .i2l, 1, .null, [], []), (2, .lconst 0, 1, .long 0, [], []), (3, .lconst 1, 1, .long 1, [], []), (4, .invokestatic 104, 3, .null, [175, 3, 0, 6152, 6153, 0, 1014, 6154], []), (7, .ifCond .ne 5, 3, .null, [12], []), (10, .iconst (-1), 1, .int (-1), [], []), (11, .ireturn, 1, .null, [1], []), (12, .bipush (-2), 2, .int (-2), [], []), (14, .istore_n 2, 1, .null, [], []), (15, .iconst 0, 1, .int 0, [], []), (16, .istore_n 3, 1, .null, [], []), (17, .iconst 0, 1, .int 0, [], []), (18, .istore 4, 2, .null, [], []), (20, .iload 4, 2, .null, [], []), (22, .aload_n 0, 1, .null, [], []), (23, .getfield 113, 3, .null, [12, 24, 0, 0, 5233], []), (26, .if_icmp .ge 86, 3, .null, [112], []), (29, .aload_n 0, 1, .null, [], []), (30, .aload_n 0, 1, .null, [], []), (31, .getfield 40, 3, .null, [12, 25, 1, 0, 5234], []), (34, .iconst 3, 1, .int 3, [], []), (35, .iload 4, 2, .null, [], []), (37, .imul, 1, .null, [], []), (38, .iaload, 1, .null, [], []), (39, .aload_n 0, 1, .null, [], []), (40, .getfield 40, 3, .null, [12, 25, 1, 0, 5234], []), (43, .iconst 3, 1, .int 3, [], []), (44, .iload 4, 2, .null, [], []), (46, .imul, 1, .null, [], []), (47, .iconst 1, 1, .int 1, [], []), (48, .iadd, 1, .null, [], []), (49, .iaload, 1, .null, [], []), (50, .invokevirtual 246, 3, .null, [208, 2, 0, 7051, 7053, 113, 1014, 7054], []), (53, .aload_n 0, 1, .null, [], []), (54, .getfield 40, 3, .null, [12, 25, 1, 0, 5234], []), (57, .iconst 3, 1, .int 3, [], []), (58, .iload 4, 2, .null, [], []), (60, .imul, 1, .null, [], []), (61, .iconst 2, 1, .int 2, [], []), (62, .iadd, 1, .null, [], []), (63, .iaload, 1, .null, [], []), (64, .if_icmp .ne 7, 3, .null, [71], []), (67, .iconst 1, 1, .int 1, [], []), (68, .goto 4, 3, .null, [72], []), (71, .iconst 0, 1, .int 0, [], []), (72, .istore 5, 2, .null, [], []), (74, .iload_n 2, 1, .null, [], []), (75, .ifCond .ge 13, 3, .null, [88], []), (78, .iload 5, 2, .null, [], []), (80, .ifCond .ne 8, 3, .null, [88], []), (83, .iload 4, 2, .null, [], []), (85, .goto 4, 3, .null, [89], []), (88, .iload_n 2, 1, .null, [], []), (89, .istore_n 2, 1, .null, [], []), (90, .iload_n 3, 1, .null, [], []), (91, .iload 5, 2, .null, [], []), (93, .ifCond .eq 10, 3, .null, [103], []), (96, .iconst 1, 1, .int 1, [], []), (97, .iload 4, 2, .null, [], []), (99, .ishl, 1, .null, [], []), (100, .goto 4, 3, .null, [104], []), (103, .iconst 0, 1, .int 0, [], []), (104, .ior, 1, .null, [], []), (105, .istore_n 3, 1, .null, [], []), (106, .iinc 4 1, 3, .int 1, [], []), (109, .goto (-89), 3, .null, [20], []), (112, .iload_n 1, 1, .null, [], []), (113, .ifCond .ne 7, 3, .null, [120], []), (116, .iload_n 2, 1, .null, [], []), (117, .goto 4, 3, .null, [121], []), (120, .iload_n 3, 1, .null, [], []), (121, .ireturn, 1, .null, [1], [])]
def i_c244 : List I_En := [(0, .aload_n 0, 1, .null, [], []), (1, .iconst 1, 1, .int 1, [], []), (2, .putfield 116, 3, .null, [12, 41, 2, 0, 6010], []), (5, .aload_n 0, 1, .null, [], []), (6, .aload_n 0, 1, .null, [], []), (7, .getfield 113, 3, .null, [12, 24, 0, 0, 5233], []), (10, .putfield 338, 3, .null, [12, 42, 0, 0, 6011], []), (13, .aload_n 0, 1, .null, [], []), (14, .aload_n 0, 1, .null, [], []), (15, .getfield 148, 3, .null, [12, 12, 0, 0, 5221], []), (18, .putfield 341, 3, .null, [12, 43, 0, 0, 6012], []), (21, .aload_n 0, 1, .null, [], []), (22, .aload_n 0, 1, .null, [], []), (23, .getfield 166, 3, .null, [12, 13, 0, 0, 5222], []), (26, .putfield 344, 3, .null, [12, 44, 0, 0, 6013], []), (29, .iconst 0, 1, .int 0, [], []), (30, .istore_n 1, 1, .null, [], []), (31, .iload_n 1, 1, .null, [], []), (32, .bipush 30, 2, .int 30, [], []), (34, .if_icmp .ge 21, 3, .null, [55], []), (37, .aload_n 0, 1, .null, [], []), (38, .getfield 59, 3, .null, [12, 45, 1, 0, 6014], []), (41, .iload_n 1, 1, .null, [], []), (42, .aload_n 0, 1, .null, [], []), (43, .getfield 40, 3, .null, [12, 25, 1, 0, 5234], []), (46, .iload_n 1, 1, .null, [], []), (47, .iaload, 1, .null, [], []), (48, .iastore, 1, .null, [], []), (49, .iinc 1 1, 3, .int 1, [], []), (52, .goto (-21), 3, .null, [31], []), (55, .aload_n 0, 1, .null, [], []), (56, .getfield 113, 3, .null, [12, 24, 0, 0, 5233], []), (59, .ireturn, 1, .null, [1], [])]
def i_c245 : List I_En := [(0, .aload_n 0, 1, .null, [], []), (1, .getfield 116, 3, .null, [12, 41, 2, 0, 6010], []), (4, .ifCond .ne 6, 3, .null, [10], []), (7, .bipush (-5), 2, .int (-5), [], []), (9, .ireturn, 1, .null, [1], []), (10, .aload_n 0, 1, .null, [], []), (11, .aload_n 0, 1, .null, [], []), (12, .getfield 338, 3, .null, [12, 42, 0, 0, 6011], []), (15, .putfield 113, 3, .null, [12, 24, 0, 0, 5233], []), (18, .aload_n 0, 1, .null, [], []), (19, .aload_n 0, 1, .null, [], []), (20, .getfield 341, 3, .null, [12, 43, 0, 0, 6012], []), (23, .putfield 148, 3, .null, [12, 12, 0, 0, 5221], []), (26, .aload_n 0, 1, .null, [], []), (27, .aload_n 0, 1, .null, [], []), (28, .getfield 344, 3, .null, [12, 44, 0, 0, 6013], []), (31, .putfield 166, 3, .null, [12, 13, 0, 0, 5222], []), (34, .iconst 0, 1, .int 0, [], []), (35, .istore_n 1, 1, .null, [], []), (36, .iload_n 1, 1, .null, [], []), (37, .bipush 30, 2, .int 30, [], []), (39, .if_icmp .ge 21, 3, .null, [60], []), (42, .aload_n 0, 1, .null, [], []), (43, .getfield 40, 3, .null, [12, 25, 1, 0, 5234], []), (46, .iload_n 1, 1, .null, [], []), (47, .aload_n 0, 1, .null, [], []), (48, .getfield 59, 3, .null, [12, 45, 1, 0, 6014], []), (51, .iload_n 1, 1, .null, [], []), (52, .iaload, 1, .null, [], []), (53, .iastore, 1, .null, [], []), (54, .iinc 1 1, 3, .int 1, [], []), (57, .goto (-21), 3, .null, [36], []), (60, .aload_n 0, 1, .null, [], []), (61, .getfield 113, 3, .null, [12, 24, 0, 0, 5233], []), (64, .ireturn, 1, .null, [1], [])]
def i_c246 : List I_En := [(0, .iload_n 1, 1, .null, [], []), (1, .i2l, 1, .null, [], []), (2, .lconst 0, 1, .long 0, [], []), (3, .ldc2_w 350, 3, .long 7, [7209], []), (6, .invokestatic 104, 3, .null, [175, 3, 0, 6152, 6153, 0, 1014, 6154], []), (9, .ifCond .ne 5, 3, .null, [14], []), (12, .iconst (-1), 1, .int (-1), [], []), (13, .ireturn, 1, .null, [1], []), (14, .aload_n 0, 1, .null, [], []), (15, .getfield 347, 3, .null, [12, 46, 0, 0, 6015], []), (18, .bipush 50, 2, .int 50, [], []), (20, .if_icmp .ne 6, 3, .null, [26], []), (23, .bipush (-3), 2, .int (-3), [], []), (25, .ireturn, 1, .null, [1], []), (26, .aload_n 0, 1, .null, [], []), (27, .getfield 62, 3, .null, [12, 47, 1, 0, 6016], []), (30, .aload_n 0, 1, .null, [], []), (31, .getfield 347, 3, .null, [12, 46, 0, 0, 6015], []), (34, .iload_n 1, 1, .null, [], []), (35, .iastore, 1, .null, [], []), (36, .aload_n 0, 1, .null, [], []), (37, .dup, 1, .null, [], []), (38, .getfield 347, 3, .null, [12, 46, 0, 0, 6015], []), (41, .iconst 1, 1, .int 1, [], []), (42, .iadd, 1, .null, [], []), (43, .putfield 347, 3, .null, [12, 46, 0, 0, 6015], []), (46, .aload_n 0, 1, .null, [], []), (47, .getfield 347, 3, .null, [12, 46, 0, 0, 6015], []), (50, .iconst 1, 1, .int 1, [], []), (51, .isub, 1, .null, [], []), (52, .ireturn, 1, .null, [1], [])]
def i_c247 : List I_En := [(0, .aload_n 0, 1, .null, [], []), (1, .iconst 0, 1, .int 0, [], []), (2, .putfield 352, 3, .null, [12, 49, 0, 0, 6018], []), (5, .aload_n 0, 1, .null, [], []), (6, .iload_n 1, 1, .null, [], []), (7, .invokevirtual 377, 3, .null, [248, 1, 0, 7214, 7216, 128, 1014, 7217], []), (10, .ifCond .ne 5, 3, .null, [15], []), (13, .iconst 0, 1, .int 0, [], []), (14, .ireturn, 1, .null, [1], []), (15, .aload_n 0, 1, .null, [], []), (16, .aload_n 0, 1, .null, [], []), (17, .getfield 62, 3, .null, [12, 47, 1, 0, 6016], []), (20, .iload_n 1, 1, .null, [], []), (21, .iaload, 1, .null, [], []), (22, .putfield 368, 3, .null, [12, 50, 0, 0, 6019], []), (25, .aload_n 0, 1, .null, [], []), (26, .iload_n 1, 1, .null, [], []), (27, .putfield 362, 3, .null, [12, 51, 0, 0, 6020], []), (30, .iload_n 2, 1, .null, [], []), (31, .tableswitch 69 0 3 #[29, 39, 49, 59], 29, .null, [100], [(0, 60), (1, 70), (2, 80), (3, 90)]), (60, .aload_n 0, 1, .null, [], []), (61, .aload_n 0, 1, .null, [], []), (62, .getfield 368, 3, .null, [12, 50, 0, 0, 6019], []), (65, .iload_n 3, 1, .null, [], []), (66, .invokevirtual 359, 3, .null, [249, 2, 0, 7218, 7220, 129, 1014, 7221], []), (69, .ireturn, 1, .null, [1], []), (70, .aload_n 0, 1, .null, [], []), (71, .aload_n 0, 1, .null, [], []), (72, .getfield 368, 3, .null, [12, 50, 0, 0, 6019], []), (75, .iload_n 3, 1, .null, [], []), (76, .invokevirtual 365, 3, .null, [251, 2, 0, 7226, 7228, 131, 1014, 7229], []), (79, .ireturn, 1, .null, [1], []), (80, .aload_n 0, 1, .null, [], []), (81, .aload_n 0, 1, .null, [], []), (82, .getfield 368, 3, .null, [12, 50, 0, 0, 6019], []), (85, .iload_n 3, 1, .null, [], []), (86, .invokevirtual 371, 3, .null, [252, 2, 0, 7230, 7232, 132, 1014, 7233], []), (89, .ireturn, 1, .null, [1], []), (90, .aload_n 0, 1, .null, [], []), (91, .aload_n 0, 1, .null, [], []), (92, .getfield 368, 3, .null, [12, 50, 0, 0, 6019], []), (95, .iload_n 3, 1, .null, [], []), (96, .invokevirtual 374, 3, .null, [253, 2, 0, 7234, 7236, 133, 1014, 7237], []), (99, .ireturn, 1, .null, [1], []), (100, .iconst 0, 1, .int 0, [], []), (101, .ireturn, 1, .null, [1], [])]
def i_c248 : List I_En := [(0, .iload_n 1, 1, .null, [], []), (1, .i2l, 1, .null, [], []), (2, .lconst 0, 1, .long 0, [], []), (3, .aload_n 0, 1, .null, [], []), (4, .getfield 347, 3, .null, [12, 46, 0, 0, 6015], []), (7, .iconst 1, 1, .int 1, [], []), (8, .isub, 1, .null, [], []), (9, .i2l, 1, .null, [], []), (10, .invokestatic 104, 3, .null, [175, 3, 0, 6152, 6153, 0, 1014, 6154], []), (13, .ireturn, 1, .null, [2], [])]
def i_c249 : List I_En := [(0, .iload_n 1, 1, .null, [], []), (1, .iconst 1, 1, .int 1, [], []), (2, .if_icmp .eq 14, 3, .null, [16], []), (5, .iload_n 1, 1, .null, [], []), (6, .iconst 4, 1, .int 4, [], []), (7, .if_icmp .eq 9, 3, .null, [16], []), (10, .iload_n 1, 1, .null, [], []), (11, .bipush 7, 2, .int 7, [], []), (13, .if_icmp .ne 18, 3, .null, [31], []), (16, .aload_n 0, 1, .null, [], []), (17, .bipush 20, 2, .int 20, [], []), (19, .invokevirtual 355, 3, .null, [250, 1, 0, 7222, 7224, 130, 1014, 7225], []), (22, .aload_n 0, 1, .null, [], []), (23, .iconst 0, 1, .int 0, [], []), (24, .iload_n 2, 1, .null, [], []), (25, .invokevirtual 359, 3, .null, [249, 2, 0, 7218, 7220, 129, 1014, 7221], []), (28, .iconst 3, 1, .int 3, [], []), (29, .iadd, 1, .null, [], []), (30, .ireturn, 1, .null, [1], []), (31, .iload_n 1, 1, .null, [], []), (32, .bipush 6, 2, .int 6, [], []), (34, .if_icmp .ne 18, 3, .null, [52], []), (37, .aload_n 0, 1, .null, [], []), (38, .bipush 70, 2, .int 70, [], []), (40, .invokevirtual 355, 3, .null, [250, 1, 0, 7222, 7224, 130, 1014, 7225], []), (43, .aload_n 0, 1, .null, [], []), (44, .iconst 0, 1, .int 0, [], []), (45, .iload_n 2, 1, .null, [], []), (46, .invokevirtual 359, 3, .null, [249, 2, 0, 7218, 7220, 129, 1014, 7221], []), (49, .iconst 2, 1, .int 2, [], []), (50, .imul, 1, .null, [], []), (51, .ireturn, 1, .null, [1], []), (52, .aload_n 0, 1, .null, [], []), (53, .iconst 1, 1, .int 1, [], []), (54, .invokevirtual 355, 3, .null, [250, 1, 0, 7222, 7224, 130, 1014, 7225], []), (57, .iload_n 2, 1, .null, [], []), (58, .aload_n 0, 1, .null, [], []), (59, .getfield 362, 3, .null, [12, 51, 0, 0, 6020], []), (62, .iadd, 1, .null, [], []), (63, .ireturn, 1, .null, [1], [])]
def i_c250 : List I_En := [(0, .aload_n 0, 1, .null, [], []), (1, .getfield 352, 3, .null, [12, 49, 0, 0, 6018], []), (4, .bipush 24, 2, .int 24, [], []), (6, .if_icmp .ge 13, 3, .null, [19], []), (9, .aload_n 0, 1, .null, [], []), (10, .getfield 65, 3, .null, [12, 48, 1, 0, 6017], []), (13, .aload_n 0, 1, .null, [], []), (14, .getfield 352, 3, .null, [12, 49, 0, 0, 6018], []), (17, .iload_n 1, 1, .null, [], []), (18, .iastore, 1, .null, [], []), (19, .aload_n 0, 1, .null, [], []), (20, .dup, 1, .null, [], []), (21, .getfield 352, 3, .null, [12, 49, 0, 0, 6018], []), (24, .iconst 1, 1, .int 1, [], []), (25, .iadd, 1, .null, [], []), (26, .putfield 352, 3, .null, [12, 49, 0, 0, 6018], []), (29, .return_, 1, .null, [], [])]
def i_c251 : List I_En := [(0, .iload_n 1, 1, .null, [], []), (1, .iconst 3, 1, .int 3, [], []), (2, .if_icmp .eq 8, 3, .null, [10], []), (5, .iload_n 1, 1, .null, [], []), (6, .iconst 5, 1, .int 5, [], []), (7, .if_icmp .ne 18, 3, .null, [25], []), (10, .aload_n 0, 1, .null, [], []), (11, .bipush 41, 2, .int 41, [], []), (13, .invokevirtual 355, 3, .null, [250, 1, 0, 7222, 7224, 130, 1014, 7225], []), (16, .aload_n 0, 1, .null, [], []), (17, .iconst 2, 1, .int 2, [], []), (18, .iload_n 2, 1, .null, [], []), (19, .iconst 1, 1, .int 1, [], []), (20, .iadd, 1, .null, [], []), (21, .invokevirtual 365, 3, .null, [251, 2, 0, 7226, 7228, 131, 1014, 7229], []), (24, .ireturn, 1, .null, [1], []), (25, .iload_n 1, 1, .null, [], []), (26, .iconst 2, 1, .int 2, [], []), (27, .if_icmp .ne 17, 3, .null, [44], []), (30, .aload_n 0, 1, .null, [], []), (31, .bipush 30, 2, .int 30, [], []), (33, .invokevirtual 355, 3, .null, [250, 1, 0, 7222, 7224, 130, 1014, 7225], []), (36, .aload_n 0, 1, .null, [], []), (37, .iconst 0, 1, .int 0, [], []), (38, .iload_n 2, 1, .null, [], []), (39, .invokevirtual 365, 3, .null, [251, 2, 0, 7226, 7228, 131, 1014, 7229], []), (42, .ineg, 1, .null, [], []), (43, .ireturn, 1, .null, [1], []), (44, .iload_n 1, 1, .null, [], []), (45, .bipush 7, 2, .int 7, [], []), (47, .if_icmp .ne 28, 3, .null, [75], []), (50, .aload_n 0, 1, .null, [], []), (51, .bipush 80, 2, .int 80, [], []), (53, .invokevirtual 355, 3, .null, [250, 1, 0, 7222, 7224, 130, 1014, 7225], []), (56, .aload_n 0, 1, .null, [], []), (57, .iconst 4, 1, .int 4, [], []), (58, .iload_n 2, 1, .null, [], []), (59, .invokevirtual 365, 3, .null, [251, 2, 0, 7226, 7228, 131, 1014, 7229], []), (62, .istore_n 3, 1, .null, [], []), (63, .iload_n 3, 1, .null, [], []), (64, .aload_n 0, 1, .null, [], []), (65, .aload_n 0, 1, .null, [], []), (66, .getfield 368, 3, .null, [12, 50, 0, 0, 6019], []), (69, .iconst 2, 1, .int 2, [], []), (70, .invokevirtual 371, 3, .null, [252, 2, 0, 7230, 7232, 132, 1014, 7233], []), (73, .iadd, 1, .null, [], []), (74, .ireturn, 1, .null, [1], []), (75, .aload_n 0, 1, .null, [], []), (76, .bipush 10, 2, .int 10, [], []), (78, .invokevirtual 355, 3, .null, [250, 1, 0, 7222, 7224, 130, 1014, 7225], []), (81, .aload_n 0, 1, .null, [], []), (82, .aload_n 0, 1, .null, [], []), (83, .getfield 368, 3, .null, [12, 50, 0, 0, 6019], []), (86, .iload_n 2, 1, .null, [], []), (87, .invokevirtual 359, 3, .null, [249, 2, 0, 7218, 7220, 129, 1014, 7221], []), (90, .iconst 2, 1, .int 2, [], []), (91, .imul, 1, .null, [], []), (92, .ireturn, 1, .null, [1], [])]
def i_c252 : List I_En := [(0, .iload_n 1, 1, .null, [], []), (1, .iconst 3, 1, .int 3, [], []), (2, .if_icmp .eq 8, 3, .null, [10], []), (5, .iload_n 1, 1, .null, [], []), (6, .iconst 5, 1, .int 5, [], []), (7, .if_icmp .ne 18, 3, .null, [25], []), (10, .aload_n 0, 1, .null, [], []), (11, .bipush 40, 2, .int 40, [], []), (13, .invokevirtual 355, 3, .null, [250, 1, 0, 7222, 7224, 130, 1014, 7225], []), (16, .aload_n 0, 1, .null, [], []), (17, .iconst 2, 1, .int 2, [], []), (18, .iload_n 2, 1, .null, [], []), (19, .invokevirtual 371, 3, .null, [252, 2, 0, 7230, 7232, 132, 1014, 7233], []), (22, .iconst 3, 1, .int 3, [], []), (23, .imul, 1, .null, [], []), (24, .ireturn, 1, .null, [1], []), (25, .iload_n 1, 1, .null, [], []), (26, .iconst 4, 1, .int 4, [], []), (27, .if_icmp .eq 9, 3, .null, [36], []), (30, .iload_n 1, 1, .null, [], []), (31, .bipush 7, 2, .int 7, [], []), (33, .if_icmp .ne 28, 3, .null, [61], []), (36, .aload_n 0, 1, .null, [], []), (37, .bipush 50, 2, .int 50, [], []), (39, .invokevirtual 355, 3, .null, [250, 1, 0, 7222, 7224, 130, 1014, 7225], []), (42, .aload_n 0, 1, .null, [], []), (43, .iconst 1, 1, .int 1, [], []), (44, .iload_n 2, 1, .null, [], []), (45, .invokevirtual 371, 3, .null, [252, 2, 0, 7230, 7232, 132, 1014, 7233], []), (48, .istore_n 3, 1, .null, [], []), (49, .iload_n 3, 1, .null, [], []), (50, .aload_n 0, 1, .null, [], []), (51, .aload_n 0, 1, .null, [], []), (52, .getfield 368, 3, .null, [12, 50, 0, 0, 6019], []), (55, .iconst 2, 1, .int 2, [], []), (56, .invokevirtual 359, 3, .null, [249, 2, 0, 7218, 7220, 129, 1014, 7221], []), (59, .isub, 1, .null, [], []), (60, .ireturn, 1, .null, [1], []), (61, .aload_n 0, 1, .null, [], []), (62, .bipush 11, 2, .int 11, [], []), (64, .invokevirtual 355, 3, .null, [250, 1, 0, 7222, 7224, 130, 1014, 7225], []), (67, .iload_n 2, 1, .null, [], []), (68, .aload_n 0, 1, .null, [], []), (69, .getfield 362, 3, .null, [12, 51, 0, 0, 6020], []), (72, .ixor, 1, .null, [], []), (73, .ireturn, 1, .null, [1], [])]
def i_c253 : List I_En := [(0, .iload_n 1, 1, .null, [], []), (1, .iconst 5, 1, .int 5, [], []), (2, .if_icmp .ne 18, 3, .null, [20], []), (5, .aload_n 0, 1, .null, [], []), (6, .bipush 60, 2, .int 60, [], []), (8, .invokevirtual 355, 3, .null, [250, 1, 0, 7222, 7224, 130, 1014, 7225], []), (11, .aload_n 0, 1, .null, [], []), (12, .iconst 3, 1, .int 3, [], []), (13, .iload_n 2, 1, .null, [], []), (14, .invokevirtual 374, 3, .null, [253, 2, 0, 7234, 7236, 133, 1014, 7237], []), (17, .iconst 5, 1, .int 5, [], []), (18, .ixor, 1, .null, [], []), (19, .ireturn, 1, .null, [1], []), (20, .iload_n 1, 1, .null, [], []), (21, .bipush 7, 2, .int 7, [], []), (23, .if_icmp .ne 18, 3, .null, [41], []), (26, .aload_n 0, 1, .null, [], []), (27, .bipush 81, 2, .int 81, [], []), (29, .invokevirtual 355, 3, .null, [250, 1, 0, 7222, 7224, 130, 1014, 7225], []), (32, .aload_n 0, 1, .null, [], []), (33, .iconst 4, 1, .int 4, [], []), (34, .iload_n 2, 1, .null, [], []), (35, .invokevirtual 374, 3, .null, [253, 2, 0, 7234, 7236, 133, 1014, 7237], []), (38, .iconst 1, 1, .int 1, [], []), (39, .isub, 1, .null, [], []), (40, .ireturn, 1, .null, [1], []), (41, .aload_n 0, 1, .null, [], []), (42, .iconst 2, 1, .int 2, [], []), (43, .invokevirtual 355, 3, .null, [250, 1, 0, 7222, 7224, 130, 1014, 7225], []), (46, .aload_n 0, 1, .null, [], []), (47, .aload_n 0, 1, .null, [], []), (48, .getfield 368, 3, .null, [12, 50, 0, 0, 6019], []), (51, .iload_n 2, 1, .null, [], []), (52, .invokevirtual 365, 3, .null, [251, 2, 0, 7226, 7228, 131, 1014, 7229], []), (55, .istore_n 3, 1, .null, [], []), (56, .iload_n 3, 1, .null, [], []), (57, .aload_n 0, 1, .null, [], []), (58, .aload_n 0, 1, .null, [], []), (59, .getfield 368, 3, .null, [12, 50, 0, 0, 6019], []), (62, .iconst 1, 1, .int 1, [], []), (63, .invokevirtual 371, 3, .null, [252, 2, 0, 7230, 7232, 132, 1014, 7233], []), (66, .isub, 1, .null, [], []), (67, .ireturn, 1, .null, [1], [])]
def i_c254 : List I_En := [(0, .iload_n 1, 1, .null, [], []), (1, .ifCond .lt 26, 3, .null, [27], []), (4, .iload_n 1, 1, .null, [], []), (5, .aload_n 0, 1, .null, [], []), (6, .getfield 352, 3, .null, [12, 49, 0, 0, 6018], []), (9, .if_icmp .ge 18, 3, .null, [27], []), (12, .iload_n 1, 1, .null, [], []), (13, .bipush 24, 2, .int 24, [], []), (15, .if_icmp .ge 12, 3, .null, [27], []), (18, .aload_n 0, 1, .null, [], []), (19, .getfield 65, 3, .null, [12, 48, 1, 0, 6017], []), (22, .iload_n 1, 1, .null, [], []), (23, .iaload, 1, .null, [], []), (24, .goto 4, 3, .null, [28], []), (27, .iconst (-1), 1, .int (-1), [], []), (28, .ireturn, 1, .null, [1], [])]
def i_c255 : List I_En := [(0, .iload_n 1, 1, .null, [], []), (1, .invokestatic 128, 3, .null, [181, 1, 0, 6175, 6176, 0, 1014, 6177], []), (4, .ifCond .eq 16, 3, .null, [20], []), (7, .iload_n 2, 1, .null, [], []), (8, .iconst (-1), 1, .int (-1), [], []), (9, .if_icmp .eq 13, 3, .null, [22], []), (12, .aload_n 0, 1, .null, [], []), (13, .iload_n 2, 1, .null, [], []), (14, .invokevirtual 377, 3, .null, [248, 1, 0, 7214, 7216, 128, 1014, 7217], []), (17, .ifCond .ne 5, 3, .null, [22], []), (20, .iconst (-1), 1, .int (-1), [], []), (21, .ireturn, 1, .null, [1], []), (22, .aload_n 0, 1, .null, [], []), (23, .getfield 68, 3, .null, [12, 52, 1, 0, 6021], []), (26, .iload_n 1, 1, .null, [], []), (27, .iload_n 2, 1, .null, [], []), (28, .iastore, 1, .null, [], []), (29, .aload_n 0, 1, .null, [], []), (30, .getfield 71, 3, .null, [12, 53, 1, 0, 6022], []), (33, .iload_n 1, 1, .null, [], []), (34, .iconst 0, 1, .int 0, [], []), (35, .iastore, 1, .null, [], []), (36, .iconst 1, 1, .int 1, [], []), (37, .ireturn, 1, .null, [1], [])]
def i_c256 : List I_En := [(0, .iload_n 1, 1, .null, [], []), (1, .invokestatic 128, 3, .null, [181, 1, 0, 6175, 6176, 0, 1014, 6177], []), (4, .ifCond .eq 21, 3, .null, [25], []), (7, .iload_n 2, 1, .null, [], []), (8, .i2l, 1, .null, [], []), (9, .lconst 0, 1, .long 0, [], []), (10, .ldc2_w 380, 3, .long 4, [8010], []), (13, .invokestatic 104, 3, .null, [175, 3, 0, 6152, 6153, 0, 1014, 6154], []), (16, .ifCond .eq 9, 3, .null, [25], []), (19, .iload_n 3, 1, .null, [], []), (20, .bipush 60, 2, .int 60, [], []), (22, .if_icmp .le 5, 3, .null, [27], []), (25, .iconst (-1), 1, .int (-1), [], []), (26, .ireturn, 1, .null, [1], []), (27, .iload_n 3, 1, .null, [], []), (28, .ifCond .ge 6, 3, .null, [34], []), (31, .bipush (-14), 2, .int (-14), [], []), (33, .ireturn, 1, .null, [1], []), (34, .aload_n 0, 1, .null, [], []), (35, .getfield 68, 3, .null, [12, 52, 1, 0, 6021], []), (38, .iload_n 1, 1, .null, [], []), (39, .bipush 50, 2, .int 50, [], []), (41, .iload_n 2, 1, .null, [], []), (42, .iadd, 1, .null, [], []), (43, .iastore, 1, .null, [], []), (44, .aload_n 0, 1, .null, [], []), (45, .getfield 71, 3, .null, [12, 53, 1, 0, 6022], []), (48, .iload_n 1, 1, .null, [], []), (49, .iload_n 3, 1, .null, [], []), (50, .iastore, 1, .null, [], []), (51, .bipush 60, 2, .int 60, [], []), (53, .iload_n 1, 1, .null, [], []), (54, .imul, 1, .null, [], []), (55, .istore 4, 2, .null, [], []), (57, .iload 4, 2, .null, [], []), (59, .bipush 60, 2, .int 60, [], []), (61, .iload_n 1, 1, .null, [], []), (62, .imul, 1, .null, [], []), (63, .bipush 60, 2, .int 60, [], []), (65, .iadd, 1, .null, [], []), (66, .if_icmp .ge 17, 3, .null, [83], []), (69, .aload_n 0, 1, .null, [], []), (70, .getfield 74, 3, .null, [12, 54, 1, 0, 6023], []), (73, .iload 4, 2, .null, [], []), (75, .lconst 0, 1, .long 0, [], []), (76, .lastore, 1, .null, [], []), (77, .iinc 4 1, 3, .int 1, [], []), (80, .goto (-23), 3, .null, [57], []), (83, .iconst 1, 1, .int 1, [], []), (84, .ireturn, 1, .null, [1], [])]
def i_c257 : List I_En := [(0, .aload_n 0, 1, .null, [], []), (1, .iload_n 1, 1, .null, [], []), (2, .iload_n 2, 1, .null, [], []), (3, .invokevirtual 382, 3, .null, [258, 2, 0, 8015, 8017, 134, 1014, 8018], []), (6, .istore 5, 2, .null, [], []), (8, .iload 5, 2, .null, [], []), (10, .ifCond .ne 27, 3, .null, [37], []), (13, .aload_n 0, 1, .null, [], []), (14, .getfield 74, 3, .null, [12, 54, 1, 0, 6023], []), (17, .bipush 60, 2, .int 60, [], []), (19, .iload_n 1, 1, .null, [], []), (20, .imul, 1, .null, [], []), (21, .iload_n 2, 1, .null, [], []), (22, .iadd, 1, .null, [], []), (23, .aload_n 0, 1, .null, [], []), (24, .getfield 68, 3, .null, [12, 52, 1, 0, 6021], []), (27, .iload_n 1, 1, .null, [], []), (28, .iaload, 1, .null, [], []), (29, .bipush 50, 2, .int 50, [], []), (31, .isub, 1, .null, [], []), (32, .lload_n 3, 1, .null, [], []), (33, .invokestatic 385, 3, .null, [259, 2, 0, 8019, 8020, 0, 1014, 8021], []), (36, .lastore, 1, .null, [], []), (37, .iload 5, 2, .null, [], []), (39, .ifCond .ne 7, 3, .null, [46], []), (42, .iconst 1, 1, .int 1, [], []), (43, .goto 5, 3, .null, [48], []), (46, .iload 5, 2, .null, [], []), (48, .ireturn, 1, .null, [1], [])]
def i_c258 : List I_En := [(0, .iload_n 1, 1, .null, [], []), (1, .invokestatic 128, 3, .null, [181, 1, 0, 6175, 6176, 0, 1014, 6177], []), (4, .ifCond .ne 5, 3, .null, [9], []), (7, .iconst (-1), 1, .int (-1), [], []), (8, .ireturn, 1, .null, [1], []), (9, .aload_n 0, 1, .null, [], []), (10, .getfield 68, 3, .null, [12, 52, 1, 0, 6021], []), (13, .iload_n 1, 1, .null, [], []), (14, .iaload, 1, .null, [], []), (15, .ifCond .ge 6, 3, .null, [21], []), (18, .bipush (-11), 2, .int (-11), [], []), (20, .ireturn, 1, .null, [1], []), (21, .aload_n 0, 1, .null, [], []), (22, .getfield 68, 3, .null, [12, 52, 1, 0, 6021], []), (25, .iload_n 1, 1, .null, [], []), (26, .iaload, 1, .null, [], []), (27, .bipush 50, 2, .int 50, [], []), (29, .if_icmp .ge 6, 3, .null, [35], []), (32, .bipush (-12), 2, .int (-12), [], []), (34, .ireturn, 1, .null, [1], []), (35, .iload_n 2, 1, .null, [], []), (36, .ifCond .lt 17, 3, .null, [53], []), (39, .iload_n 2, 1, .null, [], []), (40, .aload_n 0, 1, .null, [], []), (41, .getfield 71, 3, .null, [12, 53, 1, 0, 6022], []), (44, .iload_n 1, 1, .null, [], []), (45, .iaload, 1, .null, [], []), (46, .if_icmp .ge 7, 3, .null, [53], []), (49, .iconst 0, 1, .int 0, [], []), (50, .goto 5, 3, .null, [55], []), (53, .bipush (-13), 2, .int (-13), [], []), (55, .ireturn, 1, .null, [1], [])]
def i_c259 : List I_En := [(0, .iload_n 0, 1, .null, [], []), (1, .ifCond .ne 10, 3, .null, [11], []), (4, .lload_n 1, 1, .null, [], []), (5, .l2i, 1, .null, [], []), (6, .i2b, 1, .null, [], []), (7, .i2l, 1, .null, [], []), (8, .goto 46, 3, .null, [54], []), (11, .iload_n 0, 1, .null, [], []), (12, .iconst 1, 1, .int 1, [], []), (13, .if_icmp .ne 10, 3, .null, [23], []), (16, .lload_n 1, 1, .null, [], []), (17, .l2i, 1, .null, [], []), (18, .i2s, 1, .null, [], []), (19, .i2l, 1, .null, [], []), (20, .goto 34, 3, .null, [54], []), (23, .iload_n 0, 1, .null, [], []), (24, .iconst 2, 1, .int 2, [], []), (25, .if_icmp .ne 9, 3, .null, [34], []), (28, .lload_n 1, 1, .null, [], []), (29, .l2i, 1, .null, [], []), (30, .i2l, 1, .null, [], []), (31, .goto 23, 3, .null, [54], []), (34, .iload_n 0, 1, .null, [], []), (35, .iconst 4, 1, .int 4, [], []), (36, .if_icmp .ne 17, 3, .null, [53], []), (39, .lload_n 1, 1, .null, [], []), (40, .lconst 0, 1, .long 0, [], []), (41, .lcmp, 1, .null, [], []), (42, .ifCond .eq 7, 3, .null, [49], []), (45, .lconst 1, 1, .long 1, [], []), (46, .goto 8, 3, .null, [54], []), (49, .lconst 0, 1, .long 0, [], []), (50, .goto 4, 3, .null, [54], []), (53, .lload_n 1, 1, .null, [], []), (54, .lreturn, 1, .null, [], [])]
def i_c260 : List I_En := [(0, .aload_n 0, 1, .null, [], []), (1, .iload_n 1, 1, .null, [], []), (2, .iload_n 2, 1, .null, [], []), (3, .invokevirtual 382, 3, .null, [258, 2, 0, 8015, 8017, 134, 1014, 8018], []), (6, .ifCond .eq 9, 3, .null, [15], []), (9, .ldc2_w 391, 3, .long (-9223372036854775808), [8026], []), (12, .goto 14, 3, .null, [26], []), (15, .aload_n 0, 1, .null, [], []), (16, .getfield 74, 3, .null, [12, 54, 1, 0, 6023], []), (19, .bipush 60, 2, .int 60, [], []), (21, .iload_n 1, 1, .null, [], []), (22, .imul, 1, .null, [], []), (23, .iload_n 2, 1, .null, [], []), (24, .iadd, 1, .null, [], []), (25, .laload, 1, .null, [], []), (26, .lreturn, 1, .null, [], [])]
def i_c261 : List I_En := [(0, .iload_n 1, 1, .null, [], []), (1, .invokestatic 128, 3, .null, [181, 1, 0, 6175, 6176, 0, 1014, 6177], []), (4, .ifCond .eq 10, 3, .null, [14], []), (7, .iload_n 3, 1, .null, [], []), (8, .invokestatic 128, 3, .null, [181, 1, 0, 6175, 6176, 0, 1014, 6177], []), (11, .ifCond .ne 5, 3, .null, [16], []), (14, .iconst (-1), 1, .int (-1), [], []), (15, .ireturn, 1, .null, [1], []), (16, .aload_n 0, 1, .null, [], []), (17, .getfield 68, 3, .null, [12, 52, 1, 0, 6021], []), (20, .iload_n 1, 1, .null, [], []), (21, .iaload, 1, .null, [], []), (22, .ifCond .lt 12, 3, .null, [34], []), (25, .aload_n 0, 1, .null, [], []), (26, .getfield 68, 3, .null, [12, 52, 1, 0, 6021], []), (29, .iload_n 3, 1, .null, [], []), (30, .iaload, 1, .null, [], []), (31, .ifCond .ge 6, 3, .null, [37], []), (34, .bipush (-11), 2, .int (-11), [], []), (36, .ireturn, 1, .null, [1], []), (37, .aload_n 0, 1, .null, [], []), (38, .getfield 68, 3, .null, [12, 52, 1, 0, 6021], []), (41, .iload_n 1, 1, .null, [], []), (42, .iaload, 1, .null, [], []), (43, .bipush 50, 2, .int 50, [], []), (45, .if_icmp .lt 18, 3, .null, [63], []), (48, .aload_n 0, 1, .null, [], []), (49, .getfield 68, 3, .null, [12, 52, 1, 0, 6021], []), (52, .iload_n 1, 1, .null, [], []), (53, .iaload, 1, .null, [], []), (54, .aload_n 0, 1, .null, [], []), (55, .getfield 68, 3, .null, [12, 52, 1, 0, 6021], []), (58, .iload_n 3, 1, .null, [], []), (59, .iaload, 1, .null, [], []), (60, .if_icmp .eq 6, 3, .null, [66], []), (63, .bipush (-12), 2, .int (-12), [], []), (65, .ireturn, 1, .null, [1], []), (66, .iload 5, 2, .null, [], []), (68, .ifCond .lt 39, 3, .null, [107], []), (71, .iload_n 2, 1, .null, [], []), (72, .ifCond .lt 35, 3, .null, [107], []), (75, .iload 4, 2, .null, [], []), (77, .ifCond .lt 30, 3, .null, [107], []), (80, .iload_n 2, 1, .null, [], []), (81, .aload_n 0, 1, .null, [], []), (82, .getfield 71, 3, .null, [12, 53, 1, 0, 6022], []), (85, .iload_n 1, 1, .null, [], []), (86, .iaload, 1, .null, [], []), (87, .iload 5, 2, .null, [], []), (89, .isub, 1, .null, [], []), (90, .if_icmp .gt 17, 3, .null, [107], []), (93, .iload 4, 2, .null, [], []), (95, .aload_n 0, 1, .null, [], []), (96, .getfield 71, 3, .null, [12, 53, 1, 0, 6022], []), (99, .iload_n 3, 1, .null, [], []), (100, .iaload, 1, .null, [], []), (101, .iload 5, 2, .null, [], []), (103, .isub, 1, .null, [], []), (104, .if_icmp .le 6, 3, .null, [110], []), (107, .bipush (-13), 2, .int (-13), [], []), (109, .ireturn, 1, .null, [1], []), (110, .iconst 0, 1, .int 0, [], []), (111, .istore 6, 2, .null, [], []), (113, .iload 6, 2, .null, [], []), (115, .iload 5, 2, .null, [], []), (117, .if_icmp .ge 30, 3, .null, [147], []), (120, .aload_n 0, 1, .null, [], []), (121, .getfield 78, 3, .null, [12, 55, 1, 0, 6024], []), (124, .iload 6, 2, .null, [], []), (126, .aload_n 0, 1, .null, [], []), (127, .getfield 74, 3, .null, [12, 54, 1, 0, 6023], []), (130, .bipush 60, 2, .int 60, [], []), (132, .iload_n 1, 1, .null, [], []), (133, .imul, 1, .null, [], []), (134, .iload_n 2, 1, .null, [], []), (135, .iadd, 1, .null, [], []), (136, .iload 6, 2, .null, [], []), (138, .iadd, 1, .null, [], []), (139, .laload, 1, .null, [], []), (140, .lastore, 1, .null, [], []), (141, .iinc 6 1, 3, .int 1, [], []), (144, .goto (-31), 3, .null, [113], []), (147, .iconst 0, 1, .int 0, [], []), (148, .istore 6, 2, .null, [], []), (150, .iload 6, 2, .null, [], []), (152, .iload 5, 2, .null, [], []), (154, .if_icmp .ge 31, 3, .null, [185], []), (157, .aload_n 0, 1, .null, [], []), (158, .getfield 74, 3, .null, [12, 54, 1, 0, 6023], []), (161, .bipush 60, 2, .int 60, [], []), (163, .iload_n 3, 1, .null, [], []), (164, .imul, 1, .null, [], []), (165, .iload 4, 2, .null, [], []), (167, .iadd, 1, .null, [], []), (168, .iload 6, 2, .null, [], []), (170, .iadd, 1, .null, [], []), (171, .aload_n 0, 1, .null, [], []), (172, .getfield 78, 3, .null, [12, 55, 1, 0, 6024], []), (175, .iload 6, 2, .null, [], []), (177, .laload, 1, .null, [], []), (178, .lastore, 1, .null, [], []), (179, .iinc 6 1, 3, .int 1, [], []), (182, .goto (-32), 3, .null, [150], []), (185, .iload 5, 2, .null, [], []), (187, .ireturn, 1, .null, [1], [])]
def i_c262 : List I_En := [(0, .iload_n 1, 1, .null, [], []), (1, .invokestatic 128, 3, .null, [181, 1, 0, 6175, 6176, 0, 1014, 6177], []), (4, .ifCond .eq 15, 3, .null, [19], []), (7, .iload_n 2, 1, .null, [], []), (8, .i2l, 1, .null, [], []), (9, .lconst 0, 1, .long 0, [], []), (10, .ldc2_w 350, 3, .long 7, [7209], []), (13, .invokestatic 104, 3, .null, [175, 3, 0, 6152, 6153, 0, 1014, 6154], []), (16, .ifCond .ne 5, 3, .null, [21], []), (19, .iconst (-1), 1, .int (-1), [], []), (20, .ireturn, 1, .null, [1], []), (21, .aload_n 0, 1, .null, [], []), (22, .getfield 68, 3, .null, [12, 52, 1, 0, 6021], []), (25, .iload_n 1, 1, .null, [], []), (26, .iaload, 1, .null, [], []), (27, .ifCond .ge 6, 3, .null, [33], []), (30, .bipush (-11), 2, .int (-11), [], []), (32, .ireturn, 1, .null, [1], []), (33, .aload_n 0, 1, .null, [], []), (34, .getfield 68, 3, .null, [12, 52, 1, 0, 6021], []), (37, .iload_n 1, 1, .null, [], []), (38, .iaload, 1, .null, [], []), (39, .bipush 50, 2, .int 50, [], []), (41, .if_icmp .lt 6, 3, .null, [47], []), (44, .bipush (-12), 2, .int (-12), [], []), (46, .ireturn, 1, .null, [1], []), (47, .aload_n 0, 1, .null, [], []), (48, .aload_n 0, 1, .null, [], []), (49, .getfield 68, 3, .null, [12, 52, 1, 0, 6021], []), (52, .iload_n 1, 1, .null, [], []), (53, .iaload, 1, .null, [], []), (54, .invokevirtual 393, 3, .null, [263, 1, 0, 8035, 8037, 135, 1014, 8038], []), (57, .istore_n 3, 1, .null, [], []), (58, .iload_n 3, 1, .null, [], []), (59, .iload_n 2, 1, .null, [], []), (60, .if_icmp .eq 15, 3, .null, [75], []), (63, .iload_n 3, 1, .null, [], []), (64, .ifCond .le 11, 3, .null, [75], []), (67, .iload_n 3, 1, .null, [], []), (68, .invokestatic 396, 3, .null, [264, 1, 0, 8039, 8040, 0, 1014, 8041], []), (71, .istore_n 3, 1, .null, [], []), (72, .goto (-14), 3, .null, [58], []), (75, .iload_n 3, 1, .null, [], []), (76, .iload_n 2, 1, .null, [], []), (77, .if_icmp .ne 16, 3, .null, [93], []), (80, .aload_n 0, 1, .null, [], []), (81, .aload_n 0, 1, .null, [], []), (82, .getfield 68, 3, .null, [12, 52, 1, 0, 6021], []), (85, .iload_n 1, 1, .null, [], []), (86, .iaload, 1, .null, [], []), (87, .invokevirtual 393, 3, .null, [263, 1, 0, 8035, 8037, 135, 1014, 8038], []), (90, .goto 5, 3, .null, [95], []), (93, .bipush (-12), 2, .int (-12), [], []), (95, .ireturn, 1, .null, [1], [])]
def i_c263 : List I_En := [(0, .aload_n 0, 1, .null, [], []), (1, .getfield 62, 3, .null, [12, 47, 1, 0, 6016], []), (4, .iload_n 1, 1, .null, [], []), (5, .iaload, 1, .null, [], []), (6, .ireturn, 1, .null, [1], [])]
def i_c264 : List I_En := [(0, .iload_n 0, 1, .null, [], []), (1, .iconst 3, 1, .int 3, [], []), (2, .if_icmp .ne 7, 3, .null, [9], []), (5, .iconst 2, 1, .int 2, [], []), (6, .goto 32, 3, .null, [38], []), (9, .iload_n 0, 1, .null, [], []), (10, .iconst 4, 1, .int 4, [], []), (11, .if_icmp .ne 7, 3, .null, [18], []), (14, .iconst 1, 1, .int 1, [], []), (15, .goto 23, 3, .null, [38], []), (18, .iload_n 0, 1, .null, [], []), (19, .iconst 5, 1, .int 5, [], []), (20, .if_icmp .ne 7, 3, .null, [27], []), (23, .iconst 3, 1, .int 3, [], []), (24, .goto 14, 3, .null, [38], []), (27, .iload_n 0, 1, .null, [], []), (28, .bipush 7, 2, .int 7, [], []), (30, .if_icmp .ne 7, 3, .null, [37], []), (33, .iconst 4, 1, .int 4, [], []), (34, .goto 4, 3, .null, [38], []), (37, .iconst 0, 1, .int 0, [], []), (38, .ireturn, 1, .null, [1], [])]
def i_c265 : List I_En := [(0, .iload_n 1, 1, .null, [], []), (1, .tableswitch 90 0 7 #[47, 52, 57, 62, 70, 75, 80, 85], 47, .null, [91], [(0, 48), (1, 53), (2, 58), (3, 63), (4, 71), (5, 76), (6, 81), (7, 86)]), (48, .aload_n 0, 1, .null, [], []), (49, .getfield 108, 3, .null, [12, 8, 0, 0, 5217], []), (52, .ireturn, 1, .null, [1], []), (53, .aload_n 0, 1, .null, [], []), (54, .invokevirtual 100, 3, .null, [178, 0, 0, 6163, 6165, 93, 1014, 6166], []), (57, .ireturn, 1, .null, [1], []), (58, .aload_n 0, 1, .null, [], []), (59, .getfield 113, 3, .null, [12, 24, 0, 0, 5233], []), (62, .ireturn, 1, .null, [1], []), (63, .aload_n 0, 1, .null, [], []), (64, .getfield 148, 3, .null, [12, 12, 0, 0, 5221], []), (67, .invokestatic 255, 3, .null, [218, 1, 0, 7092, 7093, 0, 1014, 7094], []), (70, .ireturn, 1, .null, [1], []), (71, .aload_n 0, 1, .null, [], []), (72, .getfield 175, 3, .null, [12, 15, 0, 0, 5224], []), (75, .ireturn, 1, .null, [1], []), (76, .aload_n 0, 1, .null, [], []), (77, .getfield 94, 3, .null, [12, 5, 0, 0, 5214], []), (80, .ireturn, 1, .null, [1], []), (81, .aload_n 0, 1, .null, [], []), (82, .getfield 347, 3, .null, [12, 46, 0, 0, 6015], []), (85, .ireturn, 1, .null, [1], []), (86, .aload_n 0, 1, .null, [], []), (87, .getfield 352, 3, .null, [12, 49, 0, 0, 6018], []), (90, .ireturn, 1, .null, [1], []), (91, .iconst (-1), 1, .int (-1), [], []), (92, .ireturn, 1, .null, [1], [])]
def i_c266_0 : List I_En := [(0, .new 7, 3, .null, [11, 1023, 1024, 1001], []), (3, .dup, 1, .null, [], []), (4, .invokespecial 9, 3, .null, [0, 0, 0, 1025, 1026, 0, 1001, 1027], []), (7, .astore_n 1, 1, .null, [], []), (8, .new 10, 3, .null, [12, 5199, 5200, 1014], []), (11, .dup, 1, .null, [], []), (12, .invokespecial 12, 3, .null, [170, 0, 0, 5201, 5202, 0, 1014, 5203], []), (15, .astore_n 2, 1, .null, [], []), (16, .iconst 0, 1, .int 0, [], []), (17, .istore_n 3, 1, .null, [], []), (18, .iload_n 3, 1, .null, [], []), (19, .aload_n 0, 1, .null, [], []), (20, .arraylength, 1, .null, [], []), (21, .bipush 6, 2, .int 6, [], []), (23, .isub, 1, .null, [], []), (24, .if_icmp .gt 1448, 3, .null, [1472], []), (27, .aload_n 0, 1, .null, [], []), (28, .iload_n 3, 1, .null, [], []), (29, .iaload, 1, .null, [], []), (30, .bipush 63, 2, .int 63, [], []), (32, .iand, 1, .null, [], []), (33, .tableswitch 1433 0 40 #[179, 202, 235, 278, 321, 354, 377, 390, 433, 466, 509, 522, 555, 588, 631, 654, 687, 720, 743, 766, 789, 822, 835, 868, 901, 934, 967, 990, 1003, 1016, 1029, 1042, 1065, 1108, 1131, 1164, 1207, 1280, 1314, 1377, 1410], 179, .null, [1466], [(0, 212), (1, 235), (2, 268), (3, 311), (4, 354), (5, 387), (6, 410), (7, 423), (8, 466), (9, 499), (10, 542), (11, 555), (12, 588), (13, 621), (14, 664), (15, 687), (16, 720), (17, 753), (18, 776), (19, 799), (20, 822), (21, 855), (22, 868), (23, 901), (24, 934), (25, 967), (26, 1000), (27, 1023), (28, 1036), (29, 1049), (30, 1062), (31, 1075), (32, 1098), (33, 1141), (34, 1164), (35, 1197), (36, 1240), (37, 1313), (38, 1347), (39, 1410), (40, 1443)]), (212, .aload_n 1, 1, .null, [], []), (213, .aload_n 0, 1, .null, [], []), (214, .iload_n 3, 1, .null, [], []), (215, .iconst 1, 1, .int 1, [], []), (216, .iadd, 1, .null, [], []), (217, .iaload, 1, .null, [], []), (218, .invokevirtual 13, 3, .null, [14, 1, 0, 2200, 2201, 2202, 1001, 2203], []), (221, .aload_n 2, 1, .null, [], []), (222, .aload_n 0, 1, .null, [], []), (223, .iload_n 3, 1, .null, [], []), (224, .iconst 1, 1, .int 1, [], []), (225, .iadd, 1, .null, [], []), (226, .iaload, 1, .null, [], []), (227, .invokevirtual 17, 3, .null, [174, 1, 0, 6147, 6148, 6149, 1014, 6150], []), (230, .if_icmp .eq 1236, 3, .null, [1466], []), (233, .iconst 0, 1, .int 0, [], []), (234, .ireturn, 1, .null, [2], []), (235, .aload_n 1, 1, .null, [], []), (236, .aload_n 0, 1, .null, [], []), (237, .iload_n 3, 1, .null, [], []), (238, .iconst 1, 1, .int 1, [], []), (239, .iadd, 1, .null, [], []), (240, .iaload, 1, .null, [], []), (241, .aload_n 0, 1, .null, [], []), (242, .iload_n 3, 1, .null, [], []), (243, .iconst 2, 1, .int 2, [], []), (244, .iadd, 1, .null, [], []), (245, .iaload, 1, .null, [], []), (246, .invokevirtual 18, 3, .null, [18, 2, 0, 2216, 2217, 2218, 1001, 2219], []), (249, .aload_n 2, 1, .null, [], []), (250, .aload_n 0, 1, .null, [], []), (251, .iload_n 3, 1, .null, [], []), (252, .iconst 1, 1, .int 1, [], []), (253, .iadd, 1, .null, [], []), (254, .iaload, 1, .null, [], []), (255, .aload_n 0, 1, .null, [], []), (256, .iload_n 3, 1, .null, [], []), (257, .iconst 2, 1, .int 2, [], []), (258, .iadd, 1, .null, [], []), (259, .iaload, 1, .null, [], []), (260, .invokevirtual 22, 3, .null, [176, 2, 0, 6155, 6156, 6157, 1014, 6158], []), (263, .if_icmp .eq 1203, 3, .null, [1466], []), (266, .iconst 0, 1, .int 0, [], []), (267, .ireturn, 1, .null, [2], []), (268, .aload_n 1, 1, .null, [], []), (269, .aload_n 0, 1, .null, [], []), (270, .iload_n 3, 1, .null, [], []), (271, .iconst 1, 1, .int 1, [], []), (272, .iadd, 1, .null, [], []), (273, .iaload, 1, .null, [], []), (274, .aload_n 0, 1, .null, [], []), (275, .iload_n 3, 1, .null, [], []), (276, .iconst 2, 1, .int 2, [], []), (277, .iadd, 1, .null, [], []), (278, .iaload, 1, .null, [], []), (279, .aload_n 0, 1, .null, [], []), (280, .iload_n 3, 1, .null, [], []), (281, .iconst 3, 1, .int 3, [], []), (282, .iadd, 1, .null, [], []), (283, .iaload, 1, .null, [], []), (284, .invokevirtual 23, 3, .null, [23, 3, 0, 2236, 2237, 2238, 1001, 2239], []), (287, .aload_n 2, 1, .null, [], []), (288, .aload_n 0, 1, .null, [], []), (289, .iload_n 3, 1, .null, [], []), (290, .iconst 1, 1, .int 1, [], []), (291, .iadd, 1, .null, [], []), (292, .iaload, 1, .null, [], []), (293, .aload_n 0, 1, .null, [], []), (294, .iload_n 3, 1, .null, [], []), (295, .iconst 2, 1, .int 2, [], []), (296, .iadd, 1, .null, [], []), (297, .iaload, 1, .null, [], []), (298, .aload_n 0, 1, .null, [], []), (299, .iload_n 3, 1, .null, [], []), (300, .iconst 3, 1, .int 3, [], []), (301, .iadd, 1, .null, [], []), (302, .iaload, 1, .null, [], []), (303, .invokevirtual 27, 3, .null, [180, 3, 0, 6171, 6172, 6173, 1014, 6174], [])]
def i_c266_1 : List I_En := [(306, .if_icmp .eq 1160, 3, .null, [1466], []), (309, .iconst 0, 1, .int 0, [], []), (310, .ireturn, 1, .null, [2], []), (311, .aload_n 1, 1, .null, [], []), (312, .aload_n 0, 1, .null, [], []), (313, .iload_n 3, 1, .null, [], []), (314, .iconst 1, 1, .int 1, [], []), (315, .iadd, 1, .null, [], []), (316, .iaload, 1, .null, [], []), (317, .aload_n 0, 1, .null, [], []), (318, .iload_n 3, 1, .null, [], []), (319, .iconst 2, 1, .int 2, [], []), (320, .iadd, 1, .null, [], []), (321, .iaload, 1, .null, [], []), (322, .aload_n 0, 1, .null, [], []), (323, .iload_n 3, 1, .null, [], []), (324, .iconst 3, 1, .int 3, [], []), (325, .iadd, 1, .null, [], []), (326, .iaload, 1, .null, [], []), (327, .invokevirtual 28, 3, .null, [28, 3, 0, 3016, 3017, 3018, 1001, 3019], []), (330, .aload_n 2, 1, .null, [], []), (331, .aload_n 0, 1, .null, [], []), (332, .iload_n 3, 1, .null, [], []), (333, .iconst 1, 1, .int 1, [], []), (334, .iadd, 1, .null, [], []), (335, .iaload, 1, .null, [], []), (336, .aload_n 0, 1, .null, [], []), (337, .iload_n 3, 1, .null, [], []), (338, .iconst 2, 1, .int 2, [], []), (339, .iadd, 1, .null, [], []), (340, .iaload, 1, .null, [], []), (341, .aload_n 0, 1, .null, [], []), (342, .iload_n 3, 1, .null, [], []), (343, .iconst 3, 1, .int 3, [], []), (344, .iadd, 1, .null, [], []), (345, .iaload, 1, .null, [], []), (346, .invokevirtual 31, 3, .null, [182, 3, 0, 6180, 6181, 6182, 1014, 6183], []), (349, .if_icmp .eq 1117, 3, .null, [1466], []), (352, .iconst 0, 1, .int 0, [], []), (353, .ireturn, 1, .null, [2], []), (354, .aload_n 1, 1, .null, [], []), (355, .aload_n 0, 1, .null, [], []), (356, .iload_n 3, 1, .null, [], []), (357, .iconst 1, 1, .int 1, [], []), (358, .iadd, 1, .null, [], []), (359, .iaload, 1, .null, [], []), (360, .aload_n 0, 1, .null, [], []), (361, .iload_n 3, 1, .null, [], []), (362, .iconst 2, 1, .int 2, [], []), (363, .iadd, 1, .null, [], []), (364, .iaload, 1, .null, [], []), (365, .invokevirtual 32, 3, .null, [35, 2, 0, 3050, 3051, 3052, 1001, 3053], []), (368, .aload_n 2, 1, .null, [], []), (369, .aload_n 0, 1, .null, [], []), (370, .iload_n 3, 1, .null, [], []), (371, .iconst 1, 1, .int 1, [], []), (372, .iadd, 1, .null, [], []), (373, .iaload, 1, .null, [], []), (374, .aload_n 0, 1, .null, [], []), (375, .iload_n 3, 1, .null, [], []), (376, .iconst 2, 1, .int 2, [], []), (377, .iadd, 1, .null, [], []), (378, .iaload, 1, .null, [], []), (379, .invokevirtual 35, 3, .null, [186, 2, 0, 6197, 6198, 6199, 1014, 6200], []), (382, .if_icmp .eq 1084, 3, .null, [1466], []), (385, .iconst 0, 1, .int 0, [], []), (386, .ireturn, 1, .null, [2], []), (387, .aload_n 1, 1, .null, [], []), (388, .aload_n 0, 1, .null, [], []), (389, .iload_n 3, 1, .null, [], []), (390, .iconst 1, 1, .int 1, [], []), (391, .iadd, 1, .null, [], []), (392, .iaload, 1, .null, [], []), (393, .invokevirtual 36, 3, .null, [42, 1, 0, 3078, 3079, 3080, 1001, 3081], []), (396, .aload_n 2, 1, .null, [], []), (397, .aload_n 0, 1, .null, [], []), (398, .iload_n 3, 1, .null, [], []), (399, .iconst 1, 1, .int 1, [], []), (400, .iadd, 1, .null, [], []), (401, .iaload, 1, .null, [], []), (402, .invokevirtual 39, 3, .null, [189, 1, 0, 6214, 6215, 6216, 1014, 6217], []), (405, .if_icmp .eq 1061, 3, .null, [1466], []), (408, .iconst 0, 1, .int 0, [], []), (409, .ireturn, 1, .null, [2], []), (410, .aload_n 1, 1, .null, [], []), (411, .invokevirtual 40, 3, .null, [44, 0, 0, 3086, 3087, 3088, 1001, 3089], []), (414, .aload_n 2, 1, .null, [], []), (415, .invokevirtual 44, 3, .null, [190, 0, 0, 6219, 6220, 6221, 1014, 6222], []), (418, .if_icmp .eq 1048, 3, .null, [1466], []), (421, .iconst 0, 1, .int 0, [], []), (422, .ireturn, 1, .null, [2], []), (423, .aload_n 1, 1, .null, [], []), (424, .aload_n 0, 1, .null, [], []), (425, .iload_n 3, 1, .null, [], []), (426, .iconst 1, 1, .int 1, [], []), (427, .iadd, 1, .null, [], []), (428, .iaload, 1, .null, [], []), (429, .aload_n 0, 1, .null, [], []), (430, .iload_n 3, 1, .null, [], []), (431, .iconst 2, 1, .int 2, [], [])]
def i_c266_2 : List I_En := [(432, .iadd, 1, .null, [], []), (433, .iaload, 1, .null, [], []), (434, .aload_n 0, 1, .null, [], []), (435, .iload_n 3, 1, .null, [], []), (436, .iconst 3, 1, .int 3, [], []), (437, .iadd, 1, .null, [], []), (438, .iaload, 1, .null, [], []), (439, .invokevirtual 45, 3, .null, [64, 3, 0, 3221, 3222, 3223, 1001, 3224], []), (442, .aload_n 2, 1, .null, [], []), (443, .aload_n 0, 1, .null, [], []), (444, .iload_n 3, 1, .null, [], []), (445, .iconst 1, 1, .int 1, [], []), (446, .iadd, 1, .null, [], []), (447, .iaload, 1, .null, [], []), (448, .aload_n 0, 1, .null, [], []), (449, .iload_n 3, 1, .null, [], []), (450, .iconst 2, 1, .int 2, [], []), (451, .iadd, 1, .null, [], []), (452, .iaload, 1, .null, [], []), (453, .aload_n 0, 1, .null, [], []), (454, .iload_n 3, 1, .null, [], []), (455, .iconst 3, 1, .int 3, [], []), (456, .iadd, 1, .null, [], []), (457, .iaload, 1, .null, [], []), (458, .invokevirtual 48, 3, .null, [202, 3, 0, 7026, 7027, 7028, 1014, 7029], []), (461, .if_icmp .eq 1005, 3, .null, [1466], []), (464, .iconst 0, 1, .int 0, [], []), (465, .ireturn, 1, .null, [2], []), (466, .aload_n 1, 1, .null, [], []), (467, .aload_n 0, 1, .null, [], []), (468, .iload_n 3, 1, .null, [], []), (469, .iconst 1, 1, .int 1, [], []), (470, .iadd, 1, .null, [], []), (471, .iaload, 1, .null, [], []), (472, .aload_n 0, 1, .null, [], []), (473, .iload_n 3, 1, .null, [], []), (474, .iconst 2, 1, .int 2, [], []), (475, .iadd, 1, .null, [], []), (476, .iaload, 1, .null, [], []), (477, .invokevirtual 49, 3, .null, [74, 2, 0, 4028, 4029, 4030, 1001, 4031], []), (480, .aload_n 2, 1, .null, [], []), (481, .aload_n 0, 1, .null, [], []), (482, .iload_n 3, 1, .null, [], []), (483, .iconst 1, 1, .int 1, [], []), (484, .iadd, 1, .null, [], []), (485, .iaload, 1, .null, [], []), (486, .aload_n 0, 1, .null, [], []), (487, .iload_n 3, 1, .null, [], []), (488, .iconst 2, 1, .int 2, [], []), (489, .iadd, 1, .null, [], []), (490, .iaload, 1, .null, [], []), (491, .invokevirtual 52, 3, .null, [207, 2, 0, 7047, 7048, 7049, 1014, 7050], []), (494, .if_icmp .eq 972, 3, .null, [1466], []), (497, .iconst 0, 1, .int 0, [], []), (498, .ireturn, 1, .null, [2], []), (499, .aload_n 1, 1, .null, [], []), (500, .aload_n 0, 1, .null, [], []), (501, .iload_n 3, 1, .null, [], []), (502, .iconst 1, 1, .int 1, [], []), (503, .iadd, 1, .null, [], []), (504, .iaload, 1, .null, [], []), (505, .aload_n 0, 1, .null, [], []), (506, .iload_n 3, 1, .null, [], []), (507, .iconst 2, 1, .int 2, [], []), (508, .iadd, 1, .null, [], []), (509, .iaload, 1, .null, [], []), (510, .aload_n 0, 1, .null, [], []), (511, .iload_n 3, 1, .null, [], []), (512, .iconst 3, 1, .int 3, [], []), (513, .iadd, 1, .null, [], []), (514, .iaload, 1, .null, [], []), (515, .invokevirtual 53, 3, .null, [77, 3, 0, 4042, 4043, 4044, 1001, 4045], []), (518, .aload_n 2, 1, .null, [], []), (519, .aload_n 0, 1, .null, [], []), (520, .iload_n 3, 1, .null, [], []), (521, .iconst 1, 1, .int 1, [], []), (522, .iadd, 1, .null, [], []), (523, .iaload, 1, .null, [], []), (524, .aload_n 0, 1, .null, [], []), (525, .iload_n 3, 1, .null, [], []), (526, .iconst 2, 1, .int 2, [], []), (527, .iadd, 1, .null, [], []), (528, .iaload, 1, .null, [], []), (529, .aload_n 0, 1, .null, [], []), (530, .iload_n 3, 1, .null, [], []), (531, .iconst 3, 1, .int 3, [], []), (532, .iadd, 1, .null, [], []), (533, .iaload, 1, .null, [], []), (534, .invokevirtual 56, 3, .null, [210, 3, 0, 7059, 7060, 7061, 1014, 7062], []), (537, .if_icmp .eq 929, 3, .null, [1466], []), (540, .iconst 0, 1, .int 0, [], []), (541, .ireturn, 1, .null, [2], []), (542, .aload_n 1, 1, .null, [], []), (543, .invokevirtual 57, 3, .null, [79, 0, 0, 4050, 4051, 4052, 1001, 4053], []), (546, .aload_n 2, 1, .null, [], []), (547, .invokevirtual 60, 3, .null, [211, 0, 0, 7063, 7064, 7065, 1014, 7066], []), (550, .if_icmp .eq 916, 3, .null, [1466], []), (553, .iconst 0, 1, .int 0, [], []), (554, .ireturn, 1, .null, [2], []), (555, .aload_n 1, 1, .null, [], [])]
def i_c266_3 : List I_En := [(556, .aload_n 0, 1, .null, [], []), (557, .iload_n 3, 1, .null, [], []), (558, .iconst 1, 1, .int 1, [], []), (559, .iadd, 1, .null, [], []), (560, .iaload, 1, .null, [], []), (561, .aload_n 0, 1, .null, [], []), (562, .iload_n 3, 1, .null, [], []), (563, .iconst 2, 1, .int 2, [], []), (564, .iadd, 1, .null, [], []), (565, .iaload, 1, .null, [], []), (566, .invokevirtual 61, 3, .null, [80, 2, 0, 4054, 4055, 4056, 1001, 4057], []), (569, .aload_n 2, 1, .null, [], []), (570, .aload_n 0, 1, .null, [], []), (571, .iload_n 3, 1, .null, [], []), (572, .iconst 1, 1, .int 1, [], []), (573, .iadd, 1, .null, [], []), (574, .iaload, 1, .null, [], []), (575, .aload_n 0, 1, .null, [], []), (576, .iload_n 3, 1, .null, [], []), (577, .iconst 2, 1, .int 2, [], []), (578, .iadd, 1, .null, [], []), (579, .iaload, 1, .null, [], []), (580, .invokevirtual 64, 3, .null, [212, 2, 0, 7067, 7068, 7069, 1014, 7070], []), (583, .if_icmp .eq 883, 3, .null, [1466], []), (586, .iconst 0, 1, .int 0, [], []), (587, .ireturn, 1, .null, [2], []), (588, .aload_n 1, 1, .null, [], []), (589, .aload_n 0, 1, .null, [], []), (590, .iload_n 3, 1, .null, [], []), (591, .iconst 1, 1, .int 1, [], []), (592, .iadd, 1, .null, [], []), (593, .iaload, 1, .null, [], []), (594, .aload_n 0, 1, .null, [], []), (595, .iload_n 3, 1, .null, [], []), (596, .iconst 2, 1, .int 2, [], []), (597, .iadd, 1, .null, [], []), (598, .iaload, 1, .null, [], []), (599, .invokevirtual 65, 3, .null, [90, 2, 0, 4099, 4100, 4101, 1001, 4102], []), (602, .aload_n 2, 1, .null, [], []), (603, .aload_n 0, 1, .null, [], []), (604, .iload_n 3, 1, .null, [], []), (605, .iconst 1, 1, .int 1, [], []), (606, .iadd, 1, .null, [], []), (607, .iaload, 1, .null, [], []), (608, .aload_n 0, 1, .null, [], []), (609, .iload_n 3, 1, .null, [], []), (610, .iconst 2, 1, .int 2, [], []), (611, .iadd, 1, .null, [], []), (612, .iaload, 1, .null, [], []), (613, .invokevirtual 68, 3, .null, [219, 2, 0, 7095, 7096, 7097, 1014, 7098], []), (616, .if_icmp .eq 850, 3, .null, [1466], []), (619, .iconst 0, 1, .int 0, [], []), (620, .ireturn, 1, .null, [2], []), (621, .aload_n 1, 1, .null, [], []), (622, .aload_n 0, 1, .null, [], []), (623, .iload_n 3, 1, .null, [], []), (624, .iconst 1, 1, .int 1, [], []), (625, .iadd, 1, .null, [], []), (626, .iaload, 1, .null, [], []), (627, .aload_n 0, 1, .null, [], []), (628, .iload_n 3, 1, .null, [], []), (629, .iconst 2, 1, .int 2, [], []), (630, .iadd, 1, .null, [], []), (631, .iaload, 1, .null, [], []), (632, .aload_n 0, 1, .null, [], []), (633, .iload_n 3, 1, .null, [], []), (634, .iconst 3, 1, .int 3, [], []), (635, .iadd, 1, .null, [], []), (636, .iaload, 1, .null, [], []), (637, .invokevirtual 69, 3, .null, [92, 3, 0, 4107, 4108, 4109, 1001, 4110], []), (640, .aload_n 2, 1, .null, [], []), (641, .aload_n 0, 1, .null, [], []), (642, .iload_n 3, 1, .null, [], []), (643, .iconst 1, 1, .int 1, [], []), (644, .iadd, 1, .null, [], []), (645, .iaload, 1, .null, [], []), (646, .aload_n 0, 1, .null, [], []), (647, .iload_n 3, 1, .null, [], []), (648, .iconst 2, 1, .int 2, [], []), (649, .iadd, 1, .null, [], []), (650, .iaload, 1, .null, [], []), (651, .aload_n 0, 1, .null, [], []), (652, .iload_n 3, 1, .null, [], []), (653, .iconst 3, 1, .int 3, [], []), (654, .iadd, 1, .null, [], []), (655, .iaload, 1, .null, [], []), (656, .invokevirtual 72, 3, .null, [220, 3, 0, 7099, 7100, 7101, 1014, 7102], []), (659, .if_icmp .eq 807, 3, .null, [1466], []), (662, .iconst 0, 1, .int 0, [], []), (663, .ireturn, 1, .null, [2], []), (664, .aload_n 1, 1, .null, [], []), (665, .aload_n 0, 1, .null, [], []), (666, .iload_n 3, 1, .null, [], []), (667, .iconst 1, 1, .int 1, [], []), (668, .iadd, 1, .null, [], []), (669, .iaload, 1, .null, [], []), (670, .invokevirtual 73, 3, .null, [94, 1, 0, 4114, 4115, 4116, 1001, 4117], []), (673, .aload_n 2, 1, .null, [], []), (674, .aload_n 0, 1, .null, [], []), (675, .iload_n 3, 1, .null, [], [])]
def i_c266_4 : List I_En := [(676, .iconst 1, 1, .int 1, [], []), (677, .iadd, 1, .null, [], []), (678, .iaload, 1, .null, [], []), (679, .invokevirtual 76, 3, .null, [222, 1, 0, 7106, 7107, 7108, 1014, 7109], []), (682, .if_icmp .eq 784, 3, .null, [1466], []), (685, .iconst 0, 1, .int 0, [], []), (686, .ireturn, 1, .null, [2], []), (687, .aload_n 1, 1, .null, [], []), (688, .aload_n 0, 1, .null, [], []), (689, .iload_n 3, 1, .null, [], []), (690, .iconst 1, 1, .int 1, [], []), (691, .iadd, 1, .null, [], []), (692, .iaload, 1, .null, [], []), (693, .aload_n 0, 1, .null, [], []), (694, .iload_n 3, 1, .null, [], []), (695, .iconst 2, 1, .int 2, [], []), (696, .iadd, 1, .null, [], []), (697, .iaload, 1, .null, [], []), (698, .invokevirtual 77, 3, .null, [96, 2, 0, 4122, 4123, 4124, 1001, 4125], []), (701, .aload_n 2, 1, .null, [], []), (702, .aload_n 0, 1, .null, [], []), (703, .iload_n 3, 1, .null, [], []), (704, .iconst 1, 1, .int 1, [], []), (705, .iadd, 1, .null, [], []), (706, .iaload, 1, .null, [], []), (707, .aload_n 0, 1, .null, [], []), (708, .iload_n 3, 1, .null, [], []), (709, .iconst 2, 1, .int 2, [], []), (710, .iadd, 1, .null, [], []), (711, .iaload, 1, .null, [], []), (712, .invokevirtual 80, 3, .null, [223, 2, 0, 7110, 7111, 7112, 1014, 7113], []), (715, .if_icmp .eq 751, 3, .null, [1466], []), (718, .iconst 0, 1, .int 0, [], []), (719, .ireturn, 1, .null, [2], []), (720, .aload_n 1, 1, .null, [], []), (721, .aload_n 0, 1, .null, [], []), (722, .iload_n 3, 1, .null, [], []), (723, .iconst 1, 1, .int 1, [], []), (724, .iadd, 1, .null, [], []), (725, .iaload, 1, .null, [], []), (726, .aload_n 0, 1, .null, [], []), (727, .iload_n 3, 1, .null, [], []), (728, .iconst 2, 1, .int 2, [], []), (729, .iadd, 1, .null, [], []), (730, .iaload, 1, .null, [], []), (731, .invokevirtual 81, 3, .null, [101, 2, 0, 4143, 4144, 4145, 1001, 4146], []), (734, .aload_n 2, 1, .null, [], []), (735, .aload_n 0, 1, .null, [], []), (736, .iload_n 3, 1, .null, [], []), (737, .iconst 1, 1, .int 1, [], []), (738, .iadd, 1, .null, [], []), (739, .iaload, 1, .null, [], []), (740, .aload_n 0, 1, .null, [], []), (741, .iload_n 3, 1, .null, [], []), (742, .iconst 2, 1, .int 2, [], []), (743, .iadd, 1, .null, [], []), (744, .iaload, 1, .null, [], []), (745, .invokevirtual 84, 3, .null, [225, 2, 0, 7118, 7119, 7120, 1014, 7121], []), (748, .if_icmp .eq 718, 3, .null, [1466], []), (751, .iconst 0, 1, .int 0, [], []), (752, .ireturn, 1, .null, [2], []), (753, .aload_n 1, 1, .null, [], []), (754, .aload_n 0, 1, .null, [], []), (755, .iload_n 3, 1, .null, [], []), (756, .iconst 1, 1, .int 1, [], []), (757, .iadd, 1, .null, [], []), (758, .iaload, 1, .null, [], []), (759, .invokevirtual 85, 3, .null, [102, 1, 0, 4147, 4148, 4149, 1001, 4150], []), (762, .aload_n 2, 1, .null, [], []), (763, .aload_n 0, 1, .null, [], []), (764, .iload_n 3, 1, .null, [], []), (765, .iconst 1, 1, .int 1, [], []), (766, .iadd, 1, .null, [], []), (767, .iaload, 1, .null, [], []), (768, .invokevirtual 88, 3, .null, [226, 1, 0, 7122, 7123, 7124, 1014, 7125], []), (771, .if_icmp .eq 695, 3, .null, [1466], []), (774, .iconst 0, 1, .int 0, [], []), (775, .ireturn, 1, .null, [2], []), (776, .aload_n 1, 1, .null, [], []), (777, .aload_n 0, 1, .null, [], []), (778, .iload_n 3, 1, .null, [], []), (779, .iconst 1, 1, .int 1, [], []), (780, .iadd, 1, .null, [], []), (781, .iaload, 1, .null, [], []), (782, .invokevirtual 89, 3, .null, [106, 1, 0, 4166, 4167, 4168, 1001, 4169], []), (785, .aload_n 2, 1, .null, [], []), (786, .aload_n 0, 1, .null, [], []), (787, .iload_n 3, 1, .null, [], []), (788, .iconst 1, 1, .int 1, [], []), (789, .iadd, 1, .null, [], []), (790, .iaload, 1, .null, [], []), (791, .invokevirtual 92, 3, .null, [227, 1, 0, 7126, 7127, 7128, 1014, 7129], []), (794, .if_icmp .eq 672, 3, .null, [1466], []), (797, .iconst 0, 1, .int 0, [], []), (798, .ireturn, 1, .null, [2], []), (799, .aload_n 1, 1, .null, [], []), (800, .aload_n 0, 1, .null, [], []), (801, .iload_n 3, 1, .null, [], []), (802, .iconst 1, 1, .int 1, [], []), (803, .iadd, 1, .null, [], [])]
def i_c266_5 : List I_En := [(804, .iaload, 1, .null, [], []), (805, .invokevirtual 93, 3, .null, [108, 1, 0, 4176, 4177, 4178, 1001, 4179], []), (808, .aload_n 2, 1, .null, [], []), (809, .aload_n 0, 1, .null, [], []), (810, .iload_n 3, 1, .null, [], []), (811, .iconst 1, 1, .int 1, [], []), (812, .iadd, 1, .null, [], []), (813, .iaload, 1, .null, [], []), (814, .invokevirtual 96, 3, .null, [229, 1, 0, 7134, 7135, 7136, 1014, 7137], []), (817, .if_icmp .eq 649, 3, .null, [1466], []), (820, .iconst 0, 1, .int 0, [], []), (821, .ireturn, 1, .null, [2], []), (822, .aload_n 1, 1, .null, [], []), (823, .aload_n 0, 1, .null, [], []), (824, .iload_n 3, 1, .null, [], []), (825, .iconst 1, 1, .int 1, [], []), (826, .iadd, 1, .null, [], []), (827, .iaload, 1, .null, [], []), (828, .aload_n 0, 1, .null, [], []), (829, .iload_n 3, 1, .null, [], []), (830, .iconst 2, 1, .int 2, [], []), (831, .iadd, 1, .null, [], []), (832, .iaload, 1, .null, [], []), (833, .invokevirtual 97, 3, .null, [114, 2, 0, 4200, 4201, 4202, 1001, 4203], []), (836, .aload_n 2, 1, .null, [], []), (837, .aload_n 0, 1, .null, [], []), (838, .iload_n 3, 1, .null, [], []), (839, .iconst 1, 1, .int 1, [], []), (840, .iadd, 1, .null, [], []), (841, .iaload, 1, .null, [], []), (842, .aload_n 0, 1, .null, [], []), (843, .iload_n 3, 1, .null, [], []), (844, .iconst 2, 1, .int 2, [], []), (845, .iadd, 1, .null, [], []), (846, .iaload, 1, .null, [], []), (847, .invokevirtual 100, 3, .null, [233, 2, 0, 7150, 7151, 7152, 1014, 7153], []), (850, .if_icmp .eq 616, 3, .null, [1466], []), (853, .iconst 0, 1, .int 0, [], []), (854, .ireturn, 1, .null, [2], []), (855, .aload_n 1, 1, .null, [], []), (856, .invokevirtual 101, 3, .null, [118, 0, 0, 4218, 4219, 4220, 1001, 4221], []), (859, .aload_n 2, 1, .null, [], []), (860, .invokevirtual 104, 3, .null, [235, 0, 0, 7158, 7159, 7160, 1014, 7161], []), (863, .if_icmp .eq 603, 3, .null, [1466], []), (866, .iconst 0, 1, .int 0, [], []), (867, .ireturn, 1, .null, [2], []), (868, .aload_n 1, 1, .null, [], []), (869, .aload_n 0, 1, .null, [], []), (870, .iload_n 3, 1, .null, [], []), (871, .iconst 1, 1, .int 1, [], []), (872, .iadd, 1, .null, [], []), (873, .iaload, 1, .null, [], []), (874, .aload_n 0, 1, .null, [], []), (875, .iload_n 3, 1, .null, [], []), (876, .iconst 2, 1, .int 2, [], []), (877, .iadd, 1, .null, [], []), (878, .iaload, 1, .null, [], []), (879, .invokevirtual 105, 3, .null, [120, 2, 0, 4228, 4229, 4230, 1001, 4231], []), (882, .aload_n 2, 1, .null, [], []), (883, .aload_n 0, 1, .null, [], []), (884, .iload_n 3, 1, .null, [], []), (885, .iconst 1, 1, .int 1, [], []), (886, .iadd, 1, .null, [], []), (887, .iaload, 1, .null, [], []), (888, .aload_n 0, 1, .null, [], []), (889, .iload_n 3, 1, .null, [], []), (890, .iconst 2, 1, .int 2, [], []), (891, .iadd, 1, .null, [], []), (892, .iaload, 1, .null, [], []), (893, .invokevirtual 108, 3, .null, [236, 2, 0, 7162, 7163, 7164, 1014, 7165], []), (896, .if_icmp .eq 570, 3, .null, [1466], []), (899, .iconst 0, 1, .int 0, [], []), (900, .ireturn, 1, .null, [2], []), (901, .aload_n 1, 1, .null, [], []), (902, .aload_n 0, 1, .null, [], []), (903, .iload_n 3, 1, .null, [], []), (904, .iconst 1, 1, .int 1, [], []), (905, .iadd, 1, .null, [], []), (906, .iaload, 1, .null, [], []), (907, .aload_n 0, 1, .null, [], []), (908, .iload_n 3, 1, .null, [], []), (909, .iconst 2, 1, .int 2, [], []), (910, .iadd, 1, .null, [], []), (911, .iaload, 1, .null, [], []), (912, .invokevirtual 109, 3, .null, [121, 2, 0, 4232, 4233, 4234, 1001, 4235], []), (915, .aload_n 2, 1, .null, [], []), (916, .aload_n 0, 1, .null, [], []), (917, .iload_n 3, 1, .null, [], []), (918, .iconst 1, 1, .int 1, [], []), (919, .iadd, 1, .null, [], []), (920, .iaload, 1, .null, [], []), (921, .aload_n 0, 1, .null, [], []), (922, .iload_n 3, 1, .null, [], []), (923, .iconst 2, 1, .int 2, [], []), (924, .iadd, 1, .null, [], []), (925, .iaload, 1, .null, [], []), (926, .invokevirtual 112, 3, .null, [237, 2, 0, 7167, 7168, 7169, 1014, 7170], []), (929, .if_icmp .eq 537, 3, .null, [1466], []), (932, .iconst 0, 1, .int 0, [], []), (933, .ireturn, 1, .null, [2], [])]
def i_c266_6 : List I_En := [(934, .aload_n 1, 1, .null, [], []), (935, .aload_n 0, 1, .null, [], []), (936, .iload_n 3, 1, .null, [], []), (937, .iconst 1, 1, .int 1, [], []), (938, .iadd, 1, .null, [], []), (939, .iaload, 1, .null, [], []), (940, .aload_n 0, 1, .null, [], []), (941, .iload_n 3, 1, .null, [], []), (942, .iconst 2, 1, .int 2, [], []), (943, .iadd, 1, .null, [], []), (944, .iaload, 1, .null, [], []), (945, .invokevirtual 113, 3, .null, [124, 2, 0, 5006, 5007, 5008, 1001, 5009], []), (948, .aload_n 2, 1, .null, [], []), (949, .aload_n 0, 1, .null, [], []), (950, .iload_n 3, 1, .null, [], []), (951, .iconst 1, 1, .int 1, [], []), (952, .iadd, 1, .null, [], []), (953, .iaload, 1, .null, [], []), (954, .aload_n 0, 1, .null, [], []), (955, .iload_n 3, 1, .null, [], []), (956, .iconst 2, 1, .int 2, [], []), (957, .iadd, 1, .null, [], []), (958, .iaload, 1, .null, [], []), (959, .invokevirtual 116, 3, .null, [239, 2, 0, 7176, 7177, 7178, 1014, 7179], []), (962, .if_icmp .eq 504, 3, .null, [1466], []), (965, .iconst 0, 1, .int 0, [], []), (966, .ireturn, 1, .null, [2], []), (967, .aload_n 1, 1, .null, [], []), (968, .aload_n 0, 1, .null, [], []), (969, .iload_n 3, 1, .null, [], []), (970, .iconst 1, 1, .int 1, [], []), (971, .iadd, 1, .null, [], []), (972, .iaload, 1, .null, [], []), (973, .aload_n 0, 1, .null, [], []), (974, .iload_n 3, 1, .null, [], []), (975, .iconst 2, 1, .int 2, [], []), (976, .iadd, 1, .null, [], []), (977, .iaload, 1, .null, [], []), (978, .invokevirtual 117, 3, .null, [130, 2, 0, 5034, 5035, 5036, 1001, 5037], []), (981, .aload_n 2, 1, .null, [], []), (982, .aload_n 0, 1, .null, [], []), (983, .iload_n 3, 1, .null, [], []), (984, .iconst 1, 1, .int 1, [], []), (985, .iadd, 1, .null, [], []), (986, .iaload, 1, .null, [], []), (987, .aload_n 0, 1, .null, [], []), (988, .iload_n 3, 1, .null, [], []), (989, .iconst 2, 1, .int 2, [], []), (990, .iadd, 1, .null, [], []), (991, .iaload, 1, .null, [], []), (992, .invokevirtual 120, 3, .null, [242, 2, 0, 7189, 7190, 7191, 1014, 7192], []), (995, .if_icmp .eq 471, 3, .null, [1466], []), (998, .iconst 0, 1, .int 0, [], []), (999, .ireturn, 1, .null, [2], []), (1000, .aload_n 1, 1, .null, [], []), (1001, .aload_n 0, 1, .null, [], []), (1002, .iload_n 3, 1, .null, [], []), (1003, .iconst 1, 1, .int 1, [], []), (1004, .iadd, 1, .null, [], []), (1005, .iaload, 1, .null, [], []), (1006, .invokevirtual 121, 3, .null, [132, 1, 0, 5042, 5043, 5044, 1001, 5045], []), (1009, .aload_n 2, 1, .null, [], []), (1010, .aload_n 0, 1, .null, [], []), (1011, .iload_n 3, 1, .null, [], []), (1012, .iconst 1, 1, .int 1, [], []), (1013, .iadd, 1, .null, [], []), (1014, .iaload, 1, .null, [], []), (1015, .invokevirtual 124, 3, .null, [243, 1, 0, 7193, 7194, 7195, 1014, 7196], []), (1018, .if_icmp .eq 448, 3, .null, [1466], []), (1021, .iconst 0, 1, .int 0, [], []), (1022, .ireturn, 1, .null, [2], []), (1023, .aload_n 1, 1, .null, [], []), (1024, .invokevirtual 125, 3, .null, [133, 0, 0, 5046, 5047, 5048, 1001, 5049], []), (1027, .aload_n 2, 1, .null, [], []), (1028, .invokevirtual 128, 3, .null, [244, 0, 0, 7197, 7198, 7199, 1014, 7200], []), (1031, .if_icmp .eq 435, 3, .null, [1466], []), (1034, .iconst 0, 1, .int 0, [], []), (1035, .ireturn, 1, .null, [2], []), (1036, .aload_n 1, 1, .null, [], []), (1037, .invokevirtual 129, 3, .null, [135, 0, 0, 5055, 5056, 5057, 1001, 5058], []), (1040, .aload_n 2, 1, .null, [], []), (1041, .invokevirtual 132, 3, .null, [245, 0, 0, 7201, 7202, 7203, 1014, 7204], []), (1044, .if_icmp .eq 422, 3, .null, [1466], []), (1047, .iconst 0, 1, .int 0, [], []), (1048, .ireturn, 1, .null, [2], []), (1049, .aload_n 1, 1, .null, [], []), (1050, .invokevirtual 133, 3, .null, [136, 0, 0, 5059, 5060, 5061, 1001, 5062], []), (1053, .aload_n 2, 1, .null, [], []), (1054, .invokevirtual 136, 3, .null, [172, 0, 0, 6139, 6140, 6141, 1014, 6142], []), (1057, .if_icmp .eq 409, 3, .null, [1466], []), (1060, .iconst 0, 1, .int 0, [], []), (1061, .ireturn, 1, .null, [2], []), (1062, .aload_n 1, 1, .null, [], []), (1063, .invokevirtual 137, 3, .null, [138, 0, 0, 5067, 5068, 5069, 1001, 5070], []), (1066, .aload_n 2, 1, .null, [], []), (1067, .invokevirtual 140, 3, .null, [173, 0, 0, 6143, 6144, 6145, 1014, 6146], []), (1070, .if_icmp .eq 396, 3, .null, [1466], []), (1073, .iconst 0, 1, .int 0, [], []), (1074, .ireturn, 1, .null, [2], []), (1075, .aload_n 1, 1, .null, [], [])]
def i_c266_7 : List I_En := [(1076, .aload_n 0, 1, .null, [], []), (1077, .iload_n 3, 1, .null, [], []), (1078, .iconst 1, 1, .int 1, [], []), (1079, .iadd, 1, .null, [], []), (1080, .iaload, 1, .null, [], []), (1081, .invokevirtual 141, 3, .null, [140, 1, 0, 5075, 5076, 5077, 1001, 5078], []), (1084, .aload_n 2, 1, .null, [], []), (1085, .aload_n 0, 1, .null, [], []), (1086, .iload_n 3, 1, .null, [], []), (1087, .iconst 1, 1, .int 1, [], []), (1088, .iadd, 1, .null, [], []), (1089, .iaload, 1, .null, [], []), (1090, .invokevirtual 144, 3, .null, [246, 1, 0, 7205, 7206, 7207, 1014, 7208], []), (1093, .if_icmp .eq 373, 3, .null, [1466], []), (1096, .iconst 0, 1, .int 0, [], []), (1097, .ireturn, 1, .null, [2], []), (1098, .aload_n 1, 1, .null, [], []), (1099, .aload_n 0, 1, .null, [], []), (1100, .iload_n 3, 1, .null, [], []), (1101, .iconst 1, 1, .int 1, [], []), (1102, .iadd, 1, .null, [], []), (1103, .iaload, 1, .null, [], []), (1104, .aload_n 0, 1, .null, [], []), (1105, .iload_n 3, 1, .null, [], []), (1106, .iconst 2, 1, .int 2, [], []), (1107, .iadd, 1, .null, [], []), (1108, .iaload, 1, .null, [], []), (1109, .aload_n 0, 1, .null, [], []), (1110, .iload_n 3, 1, .null, [], []), (1111, .iconst 3, 1, .int 3, [], []), (1112, .iadd, 1, .null, [], []), (1113, .iaload, 1, .null, [], []), (1114, .invokevirtual 145, 3, .null, [143, 3, 0, 5086, 5087, 5088, 1001, 5089], []), (1117, .aload_n 2, 1, .null, [], []), (1118, .aload_n 0, 1, .null, [], []), (1119, .iload_n 3, 1, .null, [], []), (1120, .iconst 1, 1, .int 1, [], []), (1121, .iadd, 1, .null, [], []), (1122, .iaload, 1, .null, [], []), (1123, .aload_n 0, 1, .null, [], []), (1124, .iload_n 3, 1, .null, [], []), (1125, .iconst 2, 1, .int 2, [], []), (1126, .iadd, 1, .null, [], []), (1127, .iaload, 1, .null, [], []), (1128, .aload_n 0, 1, .null, [], []), (1129, .iload_n 3, 1, .null, [], []), (1130, .iconst 3, 1, .int 3, [], []), (1131, .iadd, 1, .null, [], []), (1132, .iaload, 1, .null, [], []), (1133, .invokevirtual 148, 3, .null, [247, 3, 0, 7210, 7211, 7212, 1014, 7213], []), (1136, .if_icmp .eq 330, 3, .null, [1466], []), (1139, .iconst 0, 1, .int 0, [], []), (1140, .ireturn, 1, .null, [2], []), (1141, .aload_n 1, 1, .null, [], []), (1142, .aload_n 0, 1, .null, [], []), (1143, .iload_n 3, 1, .null, [], []), (1144, .iconst 1, 1, .int 1, [], []), (1145, .iadd, 1, .null, [], []), (1146, .iaload, 1, .null, [], []), (1147, .invokevirtual 149, 3, .null, [152, 1, 0, 5126, 5127, 5128, 1001, 5129], []), (1150, .aload_n 2, 1, .null, [], []), (1151, .aload_n 0, 1, .null, [], []), (1152, .iload_n 3, 1, .null, [], []), (1153, .iconst 1, 1, .int 1, [], []), (1154, .iadd, 1, .null, [], []), (1155, .iaload, 1, .null, [], []), (1156, .invokevirtual 152, 3, .null, [254, 1, 0, 7238, 7239, 8000, 1014, 8001], []), (1159, .if_icmp .eq 307, 3, .null, [1466], []), (1162, .iconst 0, 1, .int 0, [], []), (1163, .ireturn, 1, .null, [2], []), (1164, .aload_n 1, 1, .null, [], []), (1165, .aload_n 0, 1, .null, [], []), (1166, .iload_n 3, 1, .null, [], []), (1167, .iconst 1, 1, .int 1, [], []), (1168, .iadd, 1, .null, [], []), (1169, .iaload, 1, .null, [], []), (1170, .aload_n 0, 1, .null, [], []), (1171, .iload_n 3, 1, .null, [], []), (1172, .iconst 2, 1, .int 2, [], []), (1173, .iadd, 1, .null, [], []), (1174, .iaload, 1, .null, [], []), (1175, .invokevirtual 153, 3, .null, [154, 2, 0, 5135, 5136, 5137, 1001, 5138], []), (1178, .aload_n 2, 1, .null, [], []), (1179, .aload_n 0, 1, .null, [], []), (1180, .iload_n 3, 1, .null, [], []), (1181, .iconst 1, 1, .int 1, [], []), (1182, .iadd, 1, .null, [], []), (1183, .iaload, 1, .null, [], []), (1184, .aload_n 0, 1, .null, [], []), (1185, .iload_n 3, 1, .null, [], []), (1186, .iconst 2, 1, .int 2, [], []), (1187, .iadd, 1, .null, [], []), (1188, .iaload, 1, .null, [], []), (1189, .invokevirtual 156, 3, .null, [255, 2, 0, 8002, 8003, 8004, 1014, 8005], []), (1192, .if_icmp .eq 274, 3, .null, [1466], []), (1195, .iconst 0, 1, .int 0, [], []), (1196, .ireturn, 1, .null, [2], []), (1197, .aload_n 1, 1, .null, [], []), (1198, .aload_n 0, 1, .null, [], []), (1199, .iload_n 3, 1, .null, [], [])]
def i_c266_8 : List I_En := [(1200, .iconst 1, 1, .int 1, [], []), (1201, .iadd, 1, .null, [], []), (1202, .iaload, 1, .null, [], []), (1203, .aload_n 0, 1, .null, [], []), (1204, .iload_n 3, 1, .null, [], []), (1205, .iconst 2, 1, .int 2, [], []), (1206, .iadd, 1, .null, [], []), (1207, .iaload, 1, .null, [], []), (1208, .aload_n 0, 1, .null, [], []), (1209, .iload_n 3, 1, .null, [], []), (1210, .iconst 3, 1, .int 3, [], []), (1211, .iadd, 1, .null, [], []), (1212, .iaload, 1, .null, [], []), (1213, .invokevirtual 157, 3, .null, [158, 3, 0, 5150, 5151, 5152, 1001, 5153], []), (1216, .aload_n 2, 1, .null, [], []), (1217, .aload_n 0, 1, .null, [], []), (1218, .iload_n 3, 1, .null, [], []), (1219, .iconst 1, 1, .int 1, [], []), (1220, .iadd, 1, .null, [], []), (1221, .iaload, 1, .null, [], []), (1222, .aload_n 0, 1, .null, [], []), (1223, .iload_n 3, 1, .null, [], []), (1224, .iconst 2, 1, .int 2, [], []), (1225, .iadd, 1, .null, [], []), (1226, .iaload, 1, .null, [], []), (1227, .aload_n 0, 1, .null, [], []), (1228, .iload_n 3, 1, .null, [], []), (1229, .iconst 3, 1, .int 3, [], []), (1230, .iadd, 1, .null, [], []), (1231, .iaload, 1, .null, [], []), (1232, .invokevirtual 160, 3, .null, [256, 3, 0, 8006, 8007, 8008, 1014, 8009], []), (1235, .if_icmp .eq 231, 3, .null, [1466], []), (1238, .iconst 0, 1, .int 0, [], []), (1239, .ireturn, 1, .null, [2], []), (1240, .aload_n 1, 1, .null, [], []), (1241, .aload_n 0, 1, .null, [], []), (1242, .iload_n 3, 1, .null, [], []), (1243, .iconst 1, 1, .int 1, [], []), (1244, .iadd, 1, .null, [], []), (1245, .iaload, 1, .null, [], []), (1246, .aload_n 0, 1, .null, [], []), (1247, .iload_n 3, 1, .null, [], []), (1248, .iconst 2, 1, .int 2, [], []), (1249, .iadd, 1, .null, [], []), (1250, .iaload, 1, .null, [], []), (1251, .aload_n 0, 1, .null, [], []), (1252, .iload_n 3, 1, .null, [], []), (1253, .iconst 3, 1, .int 3, [], []), (1254, .iadd, 1, .null, [], []), (1255, .iaload, 1, .null, [], []), (1256, .i2l, 1, .null, [], []), (1257, .bipush 32, 2, .int 32, [], []), (1259, .lshl, 1, .null, [], []), (1260, .aload_n 0, 1, .null, [], []), (1261, .iload_n 3, 1, .null, [], []), (1262, .iconst 4, 1, .int 4, [], []), (1263, .iadd, 1, .null, [], []), (1264, .iaload, 1, .null, [], []), (1265, .i2l, 1, .null, [], []), (1266, .ldc2_w 161, 3, .long 4294967295, [8046], []), (1269, .land, 1, .null, [], []), (1270, .lor, 1, .null, [], []), (1271, .invokevirtual 163, 3, .null, [159, 3, 0, 5154, 5155, 5156, 1001, 5157], []), (1274, .aload_n 2, 1, .null, [], []), (1275, .aload_n 0, 1, .null, [], []), (1276, .iload_n 3, 1, .null, [], []), (1277, .iconst 1, 1, .int 1, [], []), (1278, .iadd, 1, .null, [], []), (1279, .iaload, 1, .null, [], []), (1280, .aload_n 0, 1, .null, [], []), (1281, .iload_n 3, 1, .null, [], []), (1282, .iconst 2, 1, .int 2, [], []), (1283, .iadd, 1, .null, [], []), (1284, .iaload, 1, .null, [], []), (1285, .aload_n 0, 1, .null, [], []), (1286, .iload_n 3, 1, .null, [], []), (1287, .iconst 3, 1, .int 3, [], []), (1288, .iadd, 1, .null, [], []), (1289, .iaload, 1, .null, [], []), (1290, .i2l, 1, .null, [], []), (1291, .bipush 32, 2, .int 32, [], []), (1293, .lshl, 1, .null, [], []), (1294, .aload_n 0, 1, .null, [], []), (1295, .iload_n 3, 1, .null, [], []), (1296, .iconst 4, 1, .int 4, [], []), (1297, .iadd, 1, .null, [], []), (1298, .iaload, 1, .null, [], []), (1299, .i2l, 1, .null, [], []), (1300, .ldc2_w 161, 3, .long 4294967295, [8046], []), (1303, .land, 1, .null, [], []), (1304, .lor, 1, .null, [], []), (1305, .invokevirtual 167, 3, .null, [257, 3, 0, 8011, 8012, 8013, 1014, 8014], []), (1308, .if_icmp .eq 158, 3, .null, [1466], []), (1311, .iconst 0, 1, .int 0, [], []), (1312, .ireturn, 1, .null, [2], []), (1313, .aload_n 1, 1, .null, [], []), (1314, .aload_n 0, 1, .null, [], []), (1315, .iload_n 3, 1, .null, [], []), (1316, .iconst 1, 1, .int 1, [], []), (1317, .iadd, 1, .null, [], [])]
def i_c266_9 : List I_En := [(1318, .iaload, 1, .null, [], []), (1319, .aload_n 0, 1, .null, [], []), (1320, .iload_n 3, 1, .null, [], []), (1321, .iconst 2, 1, .int 2, [], []), (1322, .iadd, 1, .null, [], []), (1323, .iaload, 1, .null, [], []), (1324, .invokevirtual 168, 3, .null, [163, 2, 0, 5169, 5170, 5171, 1001, 5172], []), (1327, .aload_n 2, 1, .null, [], []), (1328, .aload_n 0, 1, .null, [], []), (1329, .iload_n 3, 1, .null, [], []), (1330, .iconst 1, 1, .int 1, [], []), (1331, .iadd, 1, .null, [], []), (1332, .iaload, 1, .null, [], []), (1333, .aload_n 0, 1, .null, [], []), (1334, .iload_n 3, 1, .null, [], []), (1335, .iconst 2, 1, .int 2, [], []), (1336, .iadd, 1, .null, [], []), (1337, .iaload, 1, .null, [], []), (1338, .invokevirtual 172, 3, .null, [260, 2, 0, 8022, 8023, 8024, 1014, 8025], []), (1341, .lcmp, 1, .null, [], []), (1342, .ifCond .eq 124, 3, .null, [1466], []), (1345, .iconst 0, 1, .int 0, [], []), (1346, .ireturn, 1, .null, [2], []), (1347, .aload_n 1, 1, .null, [], []), (1348, .aload_n 0, 1, .null, [], []), (1349, .iload_n 3, 1, .null, [], []), (1350, .iconst 1, 1, .int 1, [], []), (1351, .iadd, 1, .null, [], []), (1352, .iaload, 1, .null, [], []), (1353, .aload_n 0, 1, .null, [], []), (1354, .iload_n 3, 1, .null, [], []), (1355, .iconst 2, 1, .int 2, [], []), (1356, .iadd, 1, .null, [], []), (1357, .iaload, 1, .null, [], []), (1358, .aload_n 0, 1, .null, [], []), (1359, .iload_n 3, 1, .null, [], []), (1360, .iconst 3, 1, .int 3, [], []), (1361, .iadd, 1, .null, [], []), (1362, .iaload, 1, .null, [], []), (1363, .aload_n 0, 1, .null, [], []), (1364, .iload_n 3, 1, .null, [], []), (1365, .iconst 4, 1, .int 4, [], []), (1366, .iadd, 1, .null, [], []), (1367, .iaload, 1, .null, [], []), (1368, .aload_n 0, 1, .null, [], []), (1369, .iload_n 3, 1, .null, [], []), (1370, .iconst 5, 1, .int 5, [], []), (1371, .iadd, 1, .null, [], []), (1372, .iaload, 1, .null, [], []), (1373, .invokevirtual 173, 3, .null, [164, 5, 0, 5174, 5175, 5176, 1001, 5177], []), (1376, .aload_n 2, 1, .null, [], []), (1377, .aload_n 0, 1, .null, [], []), (1378, .iload_n 3, 1, .null, [], []), (1379, .iconst 1, 1, .int 1, [], []), (1380, .iadd, 1, .null, [], []), (1381, .iaload, 1, .null, [], []), (1382, .aload_n 0, 1, .null, [], []), (1383, .iload_n 3, 1, .null, [], []), (1384, .iconst 2, 1, .int 2, [], []), (1385, .iadd, 1, .null, [], []), (1386, .iaload, 1, .null, [], []), (1387, .aload_n 0, 1, .null, [], []), (1388, .iload_n 3, 1, .null, [], []), (1389, .iconst 3, 1, .int 3, [], []), (1390, .iadd, 1, .null, [], []), (1391, .iaload, 1, .null, [], []), (1392, .aload_n 0, 1, .null, [], []), (1393, .iload_n 3, 1, .null, [], []), (1394, .iconst 4, 1, .int 4, [], []), (1395, .iadd, 1, .null, [], []), (1396, .iaload, 1, .null, [], []), (1397, .aload_n 0, 1, .null, [], []), (1398, .iload_n 3, 1, .null, [], []), (1399, .iconst 5, 1, .int 5, [], []), (1400, .iadd, 1, .null, [], []), (1401, .iaload, 1, .null, [], []), (1402, .invokevirtual 177, 3, .null, [261, 5, 0, 8027, 8028, 8029, 1014, 8030], []), (1405, .if_icmp .eq 61, 3, .null, [1466], []), (1408, .iconst 0, 1, .int 0, [], []), (1409, .ireturn, 1, .null, [2], []), (1410, .aload_n 1, 1, .null, [], []), (1411, .aload_n 0, 1, .null, [], []), (1412, .iload_n 3, 1, .null, [], []), (1413, .iconst 1, 1, .int 1, [], []), (1414, .iadd, 1, .null, [], []), (1415, .iaload, 1, .null, [], []), (1416, .aload_n 0, 1, .null, [], []), (1417, .iload_n 3, 1, .null, [], []), (1418, .iconst 2, 1, .int 2, [], []), (1419, .iadd, 1, .null, [], []), (1420, .iaload, 1, .null, [], []), (1421, .invokevirtual 178, 3, .null, [167, 2, 0, 5187, 5188, 5189, 1001, 5190], []), (1424, .aload_n 2, 1, .null, [], []), (1425, .aload_n 0, 1, .null, [], []), (1426, .iload_n 3, 1, .null, [], []), (1427, .iconst 1, 1, .int 1, [], []), (1428, .iadd, 1, .null, [], []), (1429, .iaload, 1, .null, [], []), (1430, .aload_n 0, 1, .null, [], []), (1431, .iload_n 3, 1, .null, [], [])]
def i_c266_10 : List I_En := [(1432, .iconst 2, 1, .int 2, [], []), (1433, .iadd, 1, .null, [], []), (1434, .iaload, 1, .null, [], []), (1435, .invokevirtual 181, 3, .null, [262, 2, 0, 8031, 8032, 8033, 1014, 8034], []), (1438, .if_icmp .eq 28, 3, .null, [1466], []), (1441, .iconst 0, 1, .int 0, [], []), (1442, .ireturn, 1, .null, [2], []), (1443, .aload_n 1, 1, .null, [], []), (1444, .aload_n 0, 1, .null, [], []), (1445, .iload_n 3, 1, .null, [], []), (1446, .iconst 1, 1, .int 1, [], []), (1447, .iadd, 1, .null, [], []), (1448, .iaload, 1, .null, [], []), (1449, .invokevirtual 182, 3, .null, [169, 1, 0, 5194, 5195, 5196, 1001, 5197], []), (1452, .aload_n 2, 1, .null, [], []), (1453, .aload_n 0, 1, .null, [], []), (1454, .iload_n 3, 1, .null, [], []), (1455, .iconst 1, 1, .int 1, [], []), (1456, .iadd, 1, .null, [], []), (1457, .iaload, 1, .null, [], []), (1458, .invokevirtual 185, 3, .null, [265, 1, 0, 8042, 8043, 8044, 1014, 8045], []), (1461, .if_icmp .eq 5, 3, .null, [1466], []), (1464, .iconst 0, 1, .int 0, [], []), (1465, .ireturn, 1, .null, [2], []), (1466, .iinc 3 6, 3, .int 6, [], []), (1469, .goto (-1451), 3, .null, [18], []), (1472, .iconst 1, 1, .int 1, [], []), (1473, .ireturn, 1, .null, [2], [])]
def i_c266 : List I_En := i_c266_0 ++ i_c266_1 ++ i_c266_2 ++ i_c266_3 ++ i_c266_4 ++ i_c266_5 ++ i_c266_6 ++ i_c266_7 ++ i_c266_8 ++ i_c266_9 ++ i_c266_10
abbrev I_Row : Type := MethodName × ByteArray × Nat × Option FieldType × List I_En × Nat
def i_r0 : I_Row := (⟨"BellGround", "<init>", "()V"⟩, prog_1_method_1_code, 1, none, i_c0, 11)
def i_r1 : I_Row := (⟨"BellGround$Land", "<init>", "()V"⟩, prog_6_method_1_code, 1, none, i_c1, 4)
def i_r2 : I_Row := (⟨"BellGround$Land", "lay", "(II)V"⟩, prog_6_method_2_code, 6, none, i_c2, 4)
def i_r3 : I_Row := (⟨"java/util/Arrays", "fill", "([II)V"⟩, prog_22_method_103_code, 4, none, i_c3, 99)
def i_r4 : I_Row := (⟨"BellGround$Tape", "<init>", "()V"⟩, prog_11_method_1_code, 1, none, i_c4, 9)
def i_r5 : I_Row := (⟨"BellGround$Law", "<init>", "(LBellGround$Land;)V"⟩, prog_7_method_1_code, 2, none, i_c5, 5)
def i_r6 : I_Row := (⟨"BellGround$Buried", "<init>", "(LBellGround$Land;LBellGround$Law;)V"⟩, prog_3_method_1_code, 3, none, i_c6, 1)
def i_r7 : I_Row := (⟨"BellGround$Hearings", "<init>", "()V"⟩, prog_5_method_1_code, 1, none, i_c7, 3)
def i_r8 : I_Row := (⟨"BellGround$Search", "<init>", "(LBellGround$Land;LBellGround$Law;LBellGround$Hearings;)V"⟩, prog_9_method_1_code, 4, none, i_c8, 7)
def i_r9 : I_Row := (⟨"BellGround$Links", "<init>", "(LBellGround$Law;LBellGround$Buried;)V"⟩, prog_8_method_1_code, 3, none, i_c9, 6)
def i_r10 : I_Row := (⟨"BellGround$Changes", "<init>", "()V"⟩, prog_4_method_1_code, 1, none, i_c10, 2)
def i_r11 : I_Row := (⟨"BellGround$Villages", "<init>", "()V"⟩, prog_12_method_1_code, 1, none, i_c11, 10)
def i_r12 : I_Row := (⟨"BellGround$Bodies", "<init>", "()V"⟩, prog_2_method_1_code, 1, none, i_c12, 0)
def i_r13 : I_Row := (⟨"BellGround$Shelves", "<init>", "()V"⟩, prog_10_method_1_code, 1, none, i_c13, 8)
def i_r14 : I_Row := (⟨"BellGround", "land", "(I)I"⟩, prog_1_method_2_code, 5, (some .int), i_c14, 11)
def i_r15 : I_Row := (⟨"BellGround", "isSide", "(I)Z"⟩, prog_1_method_3_code, 1, (some .boolean), i_c15, 11)
def i_r16 : I_Row := (⟨"BellGround$Hearings", "clear", "()V"⟩, prog_5_method_4_code, 1, none, i_c16, 3)
def i_r17 : I_Row := (⟨"BellGround$Changes", "clear", "()V"⟩, prog_4_method_2_code, 1, none, i_c17, 2)
def i_r18 : I_Row := (⟨"BellGround", "bell", "(II)I"⟩, prog_1_method_4_code, 3, (some .int), i_c18, 11)
def i_r19 : I_Row := (⟨"BellGround$Buried", "bury", "(IIII)I"⟩, prog_3_method_6_code, 5, (some .int), i_c19, 1)
def i_r20 : I_Row := (⟨"BellGround$Land", "has", "(I)Z"⟩, prog_6_method_4_code, 2, (some .boolean), i_c20, 4)
def i_r21 : I_Row := (⟨"BellGround$Land", "cells", "()I"⟩, prog_6_method_3_code, 1, (some .int), i_c21, 4)
def i_r22 : I_Row := (⟨"BellGround$Buried", "inCell", "(I)I"⟩, prog_3_method_5_code, 3, (some .int), i_c22, 1)
def i_r23 : I_Row := (⟨"BellGround", "bells", "(III)I"⟩, prog_1_method_5_code, 5, (some .int), i_c23, 11)
def i_r24 : I_Row := (⟨"BellGround$Shelves", "isShelf", "(I)Z"⟩, prog_10_method_2_code, 2, (some .boolean), i_c24, 8)
def i_r25 : I_Row := (⟨"BellGround", "comesFrom", "(III)Z"⟩, prog_1_method_6_code, 5, (some .boolean), i_c25, 11)
def i_r26 : I_Row := (⟨"BellGround$Shelves", "hasPlace", "(II)Z"⟩, prog_10_method_4_code, 3, (some .boolean), i_c26, 8)
def i_r27 : I_Row := (⟨"BellGround$Shelves", "get", "(II)J"⟩, prog_10_method_6_code, 3, (some .long), i_c27, 8)
def i_r28 : I_Row := (⟨"BellGround", "mend", "(III)I"⟩, prog_1_method_7_code, 5, (some .int), i_c28, 11)
def i_r29 : I_Row := (⟨"BellGround", "isMendable", "(II)Z"⟩, prog_1_method_8_code, 3, (some .boolean), i_c29, 11)
def i_r30 : I_Row := (⟨"BellGround$Buried", "has", "(I)Z"⟩, prog_3_method_2_code, 2, (some .boolean), i_c30, 1)
def i_r31 : I_Row := (⟨"BellGround", "valueOf", "(II)I"⟩, prog_1_method_9_code, 3, (some .int), i_c31, 11)
def i_r32 : I_Row := (⟨"BellGround$Changes", "add", "(IIII)V"⟩, prog_4_method_3_code, 5, none, i_c32, 2)
def i_r33 : I_Row := (⟨"BellGround$Changes", "dropOldest", "()V"⟩, prog_4_method_4_code, 1, none, i_c33, 2)
def i_r34 : I_Row := (⟨"BellGround", "setValue", "(III)V"⟩, prog_1_method_10_code, 4, none, i_c34, 11)
def i_r35 : I_Row := (⟨"BellGround", "of", "(II)I"⟩, prog_1_method_11_code, 3, (some .int), i_c35, 11)
def i_r36 : I_Row := (⟨"BellGround", "ofCell", "(II)I"⟩, prog_1_method_12_code, 3, (some .int), i_c36, 11)
def i_r37 : I_Row := (⟨"BellGround", "ofBell", "(II)I"⟩, prog_1_method_13_code, 3, (some .int), i_c37, 11)
def i_r38 : I_Row := (⟨"BellGround$Buried", "isFound", "(I)Z"⟩, prog_3_method_3_code, 2, (some .boolean), i_c38, 1)
def i_r39 : I_Row := (⟨"BellGround", "ofAll", "(I)I"⟩, prog_1_method_14_code, 2, (some .int), i_c39, 11)
def i_r40 : I_Row := (⟨"BellGround", "ofHearing", "(II)I"⟩, prog_1_method_15_code, 3, (some .int), i_c40, 11)
def i_r41 : I_Row := (⟨"BellGround$Hearings", "has", "(I)Z"⟩, prog_5_method_2_code, 2, (some .boolean), i_c41, 3)
def i_r42 : I_Row := (⟨"BellGround", "feed", "(I)I"⟩, prog_1_method_16_code, 2, (some .int), i_c42, 11)
def i_r43 : I_Row := (⟨"BellGround$Tape", "add", "(I)Z"⟩, prog_11_method_2_code, 2, (some .boolean), i_c43, 9)
def i_r44 : I_Row := (⟨"BellGround", "law", "()I"⟩, prog_1_method_17_code, 2, (some .int), i_c44, 11)
def i_r45 : I_Row := (⟨"BellGround$Tape", "readText", "()I"⟩, prog_11_method_3_code, 2, (some .int), i_c45, 9)
def i_r46 : I_Row := (⟨"BellGround$Tape", "readLine", "()V"⟩, prog_11_method_4_code, 1, none, i_c46, 9)
def i_r47 : I_Row := (⟨"BellGround$Tape", "readPart", "(II)V"⟩, prog_11_method_5_code, 5, none, i_c47, 9)
def i_r48 : I_Row := (⟨"BellGround$Tape", "readOperand", "(I)V"⟩, prog_11_method_6_code, 4, none, i_c48, 9)
def i_r49 : I_Row := (⟨"BellGround$Tape", "ahead", "()I"⟩, prog_11_method_10_code, 1, (some .int), i_c49, 9)
def i_r50 : I_Row := (⟨"java/lang/String", "indexOf", "(I)I"⟩, prog_18_method_79_code, 2, (some .int), i_c50, 90)
def i_r51 : I_Row := (⟨"java/lang/String", "indexOf", "(II)I"⟩, prog_18_method_80_code, 3, (some .int), i_c51, 90)
def i_r52 : I_Row := (⟨"java/lang/String", "isLatin1", "()Z"⟩, prog_18_method_154_code, 1, (some .boolean), i_c52, 90)
def i_r53 : I_Row := (⟨"java/lang/String", "length", "()I"⟩, prog_18_method_54_code, 1, (some .int), i_c53, 90)
def i_r54 : I_Row := (⟨"java/lang/String", "coder", "()B"⟩, prog_18_method_152_code, 1, (some .byte), i_c54, 90)
def i_r55 : I_Row := (⟨"java/lang/StringLatin1", "indexOf", "([BIII)I"⟩, prog_19_method_22_code, 4, (some .int), i_c55, 99)
def i_r56 : I_Row := (⟨"java/lang/StringLatin1", "canEncode", "(I)Z"⟩, prog_19_method_4_code, 1, (some .boolean), i_c56, 99)
def i_r57 : I_Row := (⟨"java/lang/StringLatin1", "indexOfChar", "([BIII)I"⟩, prog_19_method_23_code, 6, (some .int), i_c57, 99)
def i_r58 : I_Row := (⟨"BellGround$Tape", "isDigit", "(I)Z"⟩, prog_11_method_8_code, 1, (some .boolean), i_c58, 9)
def i_r59 : I_Row := (⟨"BellGround$Tape", "readNumber", "()V"⟩, prog_11_method_7_code, 3, none, i_c59, 9)
def i_r60 : I_Row := (⟨"BellGround$Tape", "step", "(I)V"⟩, prog_11_method_12_code, 2, none, i_c60, 9)
def i_r61 : I_Row := (⟨"BellGround$Tape", "fail", "()V"⟩, prog_11_method_11_code, 1, none, i_c61, 9)
def i_r62 : I_Row := (⟨"BellGround$Tape", "levelOf", "(I)I"⟩, prog_11_method_9_code, 1, (some .int), i_c62, 9)
def i_r63 : I_Row := (⟨"BellGround$Law", "become", "([II)V"⟩, prog_7_method_2_code, 3, none, i_c63, 5)
def i_r64 : I_Row := (⟨"BellGround", "hum", "(III)I"⟩, prog_1_method_18_code, 4, (some .int), i_c64, 11)
def i_r65 : I_Row := (⟨"BellGround$Land", "isStrike", "(I)Z"⟩, prog_6_method_5_code, 2, (some .boolean), i_c65, 4)
def i_r66 : I_Row := (⟨"BellGround$Buried", "humOf", "(III)I"⟩, prog_3_method_7_code, 7, (some .int), i_c66, 1)
def i_r67 : I_Row := (⟨"BellGround$Land", "far", "(II)I"⟩, prog_6_method_6_code, 3, (some .int), i_c67, 4)
def i_r68 : I_Row := (⟨"BellGround$Law", "loudness", "(IIIII)I"⟩, prog_7_method_3_code, 9, (some .int), i_c68, 5)
def i_r69 : I_Row := (⟨"BellGround$Law", "byText", "(IIIII)I"⟩, prog_7_method_5_code, 9, (some .int), i_c69, 5)
def i_r70 : I_Row := (⟨"BellGround$Law", "pop", "()I"⟩, prog_7_method_9_code, 1, (some .int), i_c70, 5)
def i_r71 : I_Row := (⟨"BellGround$Law", "take", "(I)V"⟩, prog_7_method_6_code, 4, none, i_c71, 5)
def i_r72 : I_Row := (⟨"BellGround$Law", "push", "(I)V"⟩, prog_7_method_8_code, 2, none, i_c72, 5)
def i_r73 : I_Row := (⟨"BellGround$Law", "joined", "(III)I"⟩, prog_7_method_7_code, 3, (some .int), i_c73, 5)
def i_r74 : I_Row := (⟨"BellGround", "heard", "(II)I"⟩, prog_1_method_19_code, 3, (some .int), i_c74, 11)
def i_r75 : I_Row := (⟨"BellGround$Buried", "heardOfAll", "(II)I"⟩, prog_3_method_8_code, 5, (some .int), i_c75, 1)
def i_r76 : I_Row := (⟨"BellGround$Law", "heardOf", "(I)I"⟩, prog_7_method_4_code, 3, (some .int), i_c76, 5)
def i_r77 : I_Row := (⟨"BellGround", "hearing", "(III)I"⟩, prog_1_method_20_code, 4, (some .int), i_c77, 11)
def i_r78 : I_Row := (⟨"BellGround$Hearings", "add", "(III)Z"⟩, prog_5_method_3_code, 4, (some .boolean), i_c78, 3)
def i_r79 : I_Row := (⟨"BellGround", "forget", "()I"⟩, prog_1_method_21_code, 1, (some .int), i_c79, 11)
def i_r80 : I_Row := (⟨"BellGround", "ways", "(II)I"⟩, prog_1_method_23_code, 3, (some .int), i_c80, 11)
def i_r81 : I_Row := (⟨"BellGround", "isSize", "(I)Z"⟩, prog_1_method_22_code, 1, (some .boolean), i_c81, 11)
def i_r82 : I_Row := (⟨"BellGround$Search", "goThrough", "(II)V"⟩, prog_9_method_8_code, 6, none, i_c82, 7)
def i_r83 : I_Row := (⟨"BellGround$Search", "listen", "()V"⟩, prog_9_method_3_code, 6, none, i_c83, 7)
def i_r84 : I_Row := (⟨"BellGround$Search", "places", "()I"⟩, prog_9_method_2_code, 1, (some .int), i_c84, 7)
def i_r85 : I_Row := (⟨"BellGround$Search", "secondsEnd", "(II)I"⟩, prog_9_method_5_code, 3, (some .int), i_c85, 7)
def i_r86 : I_Row := (⟨"BellGround$Search", "seconds", "(II)I"⟩, prog_9_method_4_code, 3, (some .int), i_c86, 7)
def i_r87 : I_Row := (⟨"BellGround$Search", "fits", "(III)Z"⟩, prog_9_method_7_code, 5, (some .boolean), i_c87, 7)
def i_r88 : I_Row := (⟨"BellGround$Search", "isSo", "(III)Z"⟩, prog_9_method_6_code, 5, (some .boolean), i_c88, 7)
def i_r89 : I_Row := (⟨"BellGround$Search", "countWay", "(II)V"⟩, prog_9_method_9_code, 3, none, i_c89, 7)
def i_r90 : I_Row := (⟨"BellGround", "sure", "(II)I"⟩, prog_1_method_24_code, 3, (some .int), i_c90, 11)
def i_r91 : I_Row := (⟨"BellGround$Search", "cellsIn", "(I)I"⟩, prog_9_method_10_code, 4, (some .int), i_c91, 7)
def i_r92 : I_Row := (⟨"BellGround", "chance", "(III)I"⟩, prog_1_method_25_code, 6, (some .int), i_c92, 11)
def i_r93 : I_Row := (⟨"BellGround", "commonDivisor", "(II)I"⟩, prog_1_method_26_code, 6, (some .int), i_c93, 11)
def i_r94 : I_Row := (⟨"BellGround", "dig", "(I)I"⟩, prog_1_method_27_code, 2, (some .int), i_c94, 11)
def i_r95 : I_Row := (⟨"BellGround$Search", "bestCell", "()I"⟩, prog_9_method_11_code, 3, (some .int), i_c95, 7)
def i_r96 : I_Row := (⟨"BellGround", "next", "(II)I"⟩, prog_1_method_28_code, 3, (some .int), i_c96, 11)
def i_r97 : I_Row := (⟨"BellGround$Search", "gatherFitting", "()V"⟩, prog_9_method_15_code, 2, none, i_c97, 7)
def i_r98 : I_Row := (⟨"BellGround$Search", "partBest", "(I)V"⟩, prog_9_method_14_code, 5, none, i_c98, 7)
def i_r99 : I_Row := (⟨"BellGround$Search", "tellHeardBy", "(I)V"⟩, prog_9_method_16_code, 5, none, i_c99, 7)
def i_r100 : I_Row := (⟨"BellGround$Search", "greatestPart", "(II)I"⟩, prog_9_method_17_code, 8, (some .int), i_c100, 7)
def i_r101 : I_Row := (⟨"BellGround", "told", "(II)I"⟩, prog_1_method_29_code, 4, (some .int), i_c101, 11)
def i_r102 : I_Row := (⟨"BellGround", "liars", "(I)I"⟩, prog_1_method_30_code, 2, (some .int), i_c102, 11)
def i_r103 : I_Row := (⟨"BellGround$Search", "fewestFalse", "(I)I"⟩, prog_9_method_12_code, 8, (some .int), i_c103, 7)
def i_r104 : I_Row := (⟨"BellGround$Search", "falseBits", "(II)I"⟩, prog_9_method_13_code, 5, (some .int), i_c104, 7)
def i_r105 : I_Row := (⟨"java/lang/Integer", "bitCount", "(I)I"⟩, prog_16_method_49_code, 1, (some .int), i_c105, 99)
def i_r106 : I_Row := (⟨"BellGround", "shows", "(I)I"⟩, prog_1_method_31_code, 4, (some .int), i_c106, 11)
def i_r107 : I_Row := (⟨"BellGround$Links", "isShownBy", "(II)Z"⟩, prog_8_method_2_code, 4, (some .boolean), i_c107, 6)
def i_r108 : I_Row := (⟨"BellGround", "chain", "(I)I"⟩, prog_1_method_33_code, 2, (some .int), i_c108, 11)
def i_r109 : I_Row := (⟨"BellGround", "isBellSet", "(I)Z"⟩, prog_1_method_32_code, 2, (some .boolean), i_c109, 11)
def i_r110 : I_Row := (⟨"BellGround$Buried", "allBits", "()I"⟩, prog_3_method_4_code, 1, (some .int), i_c110, 1)
def i_r111 : I_Row := (⟨"BellGround$Links", "lookAtAll", "()V"⟩, prog_8_method_3_code, 3, none, i_c111, 6)
def i_r112 : I_Row := (⟨"BellGround$Links", "chainOf", "(I)I"⟩, prog_8_method_5_code, 5, (some .int), i_c112, 6)
def i_r113 : I_Row := (⟨"BellGround$Links", "holds", "(II)Z"⟩, prog_8_method_4_code, 2, (some .boolean), i_c113, 6)
def i_r114 : I_Row := (⟨"BellGround", "strikes", "(II)I"⟩, prog_1_method_34_code, 3, (some .int), i_c114, 11)
def i_r115 : I_Row := (⟨"BellGround$Links", "planFor", "(I)V"⟩, prog_8_method_6_code, 4, none, i_c115, 6)
def i_r116 : I_Row := (⟨"BellGround$Links", "firstRow", "(I)I"⟩, prog_8_method_7_code, 6, (some .int), i_c116, 6)
def i_r117 : I_Row := (⟨"BellGround$Links", "firstStruck", "(I)I"⟩, prog_8_method_8_code, 3, (some .int), i_c117, 6)
def i_r118 : I_Row := (⟨"BellGround", "source", "()I"⟩, prog_1_method_35_code, 1, (some .int), i_c118, 11)
def i_r119 : I_Row := (⟨"BellGround$Links", "fewestForAll", "()I"⟩, prog_8_method_9_code, 4, (some .int), i_c119, 6)
def i_r120 : I_Row := (⟨"BellGround", "tune", "(II)I"⟩, prog_1_method_36_code, 4, (some .int), i_c120, 11)
def i_r121 : I_Row := (⟨"BellGround", "whose", "(II)I"⟩, prog_1_method_37_code, 3, (some .int), i_c121, 11)
def i_r122 : I_Row := (⟨"BellGround$Villages", "findOwner", "(LBellGround$Shelves;I)V"⟩, prog_12_method_2_code, 6, none, i_c122, 10)
def i_r123 : I_Row := (⟨"BellGround$Villages", "differences", "(LBellGround$Shelves;III)I"⟩, prog_12_method_3_code, 7, (some .int), i_c123, 10)
def i_r124 : I_Row := (⟨"BellGround", "years", "(II)I"⟩, prog_1_method_38_code, 5, (some .int), i_c124, 11)
def i_r125 : I_Row := (⟨"BellGround$Buried", "sink", "(I)I"⟩, prog_3_method_10_code, 5, (some .int), i_c125, 1)
def i_r126 : I_Row := (⟨"BellGround", "drawn", "(I)I"⟩, prog_1_method_39_code, 1, (some .int), i_c126, 11)
def i_r127 : I_Row := (⟨"BellGround", "lotOf", "(I)I"⟩, prog_1_method_40_code, 1, (some .int), i_c127, 11)
def i_r128 : I_Row := (⟨"BellGround$Land", "soak", "(I)I"⟩, prog_6_method_7_code, 4, (some .int), i_c128, 4)
def i_r129 : I_Row := (⟨"BellGround$Buried", "depths", "()I"⟩, prog_3_method_11_code, 3, (some .int), i_c129, 1)
def i_r130 : I_Row := (⟨"BellGround", "dug", "(II)I"⟩, prog_1_method_41_code, 3, (some .int), i_c130, 11)
def i_r131 : I_Row := (⟨"BellGround$Buried", "digUp", "(II)I"⟩, prog_3_method_9_code, 4, (some .int), i_c131, 1)
def i_r132 : I_Row := (⟨"BellGround", "judge", "(I)I"⟩, prog_1_method_42_code, 5, (some .int), i_c132, 11)
def i_r133 : I_Row := (⟨"BellGround", "image", "()I"⟩, prog_1_method_43_code, 1, (some .int), i_c133, 11)
def i_r134 : I_Row := (⟨"BellGround$Hearings", "copyFrom", "(LBellGround$Hearings;)V"⟩, prog_5_method_5_code, 2, none, i_c134, 3)
def i_r135 : I_Row := (⟨"BellGround", "back", "()I"⟩, prog_1_method_44_code, 1, (some .int), i_c135, 11)
def i_r136 : I_Row := (⟨"BellGround", "undo", "()I"⟩, prog_1_method_45_code, 2, (some .int), i_c136, 11)
def i_r137 : I_Row := (⟨"BellGround$Changes", "stepBack", "()V"⟩, prog_4_method_5_code, 1, none, i_c137, 2)
def i_r138 : I_Row := (⟨"BellGround", "redo", "()I"⟩, prog_1_method_46_code, 2, (some .int), i_c138, 11)
def i_r139 : I_Row := (⟨"BellGround$Changes", "stepOn", "()V"⟩, prog_4_method_6_code, 1, none, i_c139, 2)
def i_r140 : I_Row := (⟨"BellGround", "body", "(I)I"⟩, prog_1_method_47_code, 2, (some .int), i_c140, 11)
def i_r141 : I_Row := (⟨"BellGround$Bodies", "isKind", "(I)Z"⟩, prog_2_method_2_code, 1, (some .boolean), i_c141, 0)
def i_r142 : I_Row := (⟨"BellGround$Bodies", "add", "(I)Z"⟩, prog_2_method_5_code, 2, (some .boolean), i_c142, 0)
def i_r143 : I_Row := (⟨"BellGround", "act", "(III)I"⟩, prog_1_method_48_code, 4, (some .int), i_c143, 11)
def i_r144 : I_Row := (⟨"BellGround$Bodies", "perform", "(III)I"⟩, prog_2_method_7_code, 4, (some .int), i_c144, 0)
def i_r145 : I_Row := (⟨"BellGround$Bodies", "has", "(I)Z"⟩, prog_2_method_4_code, 2, (some .boolean), i_c145, 0)
def i_r146 : I_Row := (⟨"BellGround$Bodies", "own", "(III)I"⟩, prog_2_method_8_code, 4, (some .int), i_c146, 0)
def i_r147 : I_Row := (⟨"BellGround$Bodies", "from", "(IIII)I"⟩, prog_2_method_10_code, 6, (some .int), i_c147, 0)
def i_r148 : I_Row := (⟨"BellGround$Bodies", "bodyFrom", "(II)I"⟩, prog_2_method_11_code, 4, (some .int), i_c148, 0)
def i_r149 : I_Row := (⟨"BellGround$Bodies", "begin", "(I)V"⟩, prog_2_method_12_code, 2, none, i_c149, 0)
def i_r150 : I_Row := (⟨"BellGround$Bodies", "runBody", "(III)I"⟩, prog_2_method_13_code, 4, (some .int), i_c150, 0)
def i_r151 : I_Row := (⟨"BellGround$Bodies", "above", "(IIII)I"⟩, prog_2_method_9_code, 5, (some .int), i_c151, 0)
def i_r152 : I_Row := (⟨"BellGround", "trace", "(I)I"⟩, prog_1_method_49_code, 2, (some .int), i_c152, 11)
def i_r153 : I_Row := (⟨"BellGround$Bodies", "traced", "()I"⟩, prog_2_method_6_code, 1, (some .int), i_c153, 0)
def i_r154 : I_Row := (⟨"BellGround", "keep", "(II)I"⟩, prog_1_method_50_code, 3, (some .int), i_c154, 11)
def i_r155 : I_Row := (⟨"BellGround$Shelves", "hold", "(III)V"⟩, prog_10_method_3_code, 4, none, i_c155, 8)
def i_r156 : I_Row := (⟨"java/util/Arrays", "fill", "([JIIJ)V"⟩, prog_22_method_102_code, 6, none, i_c156, 99)
def i_r157 : I_Row := (⟨"java/util/Arrays", "rangeCheck", "(III)V"⟩, prog_22_method_30_code, 3, none, i_c157, 99)
def i_r158 : I_Row := (⟨"BellGround", "row", "(III)I"⟩, prog_1_method_51_code, 4, (some .int), i_c158, 11)
def i_r159 : I_Row := (⟨"BellGround", "put", "(IIJ)I"⟩, prog_1_method_53_code, 6, (some .int), i_c159, 11)
def i_r160 : I_Row := (⟨"BellGround", "refusal", "(II)I"⟩, prog_1_method_52_code, 3, (some .int), i_c160, 11)
def i_r161 : I_Row := (⟨"BellGround$Shelves", "set", "(IIJ)V"⟩, prog_10_method_7_code, 5, none, i_c161, 8)
def i_r162 : I_Row := (⟨"BellGround$Shelves", "held", "(IJ)J"⟩, prog_10_method_8_code, 3, (some .long), i_c162, 8)
def i_r163 : I_Row := (⟨"BellGround", "element", "(II)J"⟩, prog_1_method_54_code, 3, (some .long), i_c163, 11)
def i_r164 : I_Row := (⟨"BellGround", "shift", "(IIIII)I"⟩, prog_1_method_55_code, 8, (some .int), i_c164, 11)
def i_r165 : I_Row := (⟨"BellGround$Shelves", "hasSpan", "(III)Z"⟩, prog_10_method_5_code, 4, (some .boolean), i_c165, 8)
def i_r166 : I_Row := (⟨"BellGround$Shelves", "move", "(IIIII)V"⟩, prog_10_method_9_code, 6, none, i_c166, 8)
def i_r167 : I_Row := (⟨"BellGround", "taken", "(II)I"⟩, prog_1_method_56_code, 5, (some .int), i_c167, 11)
def i_r168 : I_Row := (⟨"BellGround$Bodies", "isUnder", "(II)Z"⟩, prog_2_method_3_code, 4, (some .boolean), i_c168, 0)
def i_r169 : I_Row := (⟨"BellGround", "count", "(I)I"⟩, prog_1_method_57_code, 2, (some .int), i_c169, 11)
def i_r170 : I_Row := (⟨"BellGroundModel", "<init>", "()V"⟩, prog_14_method_4_code, 2, none, i_c170, 12)
def i_r171 : I_Row := (⟨"BellGroundModel", "laysLand", "()V"⟩, prog_14_method_11_code, 2, none, i_c171, 12)
def i_r172 : I_Row := (⟨"BellGroundModel", "undo", "()I"⟩, prog_14_method_6_code, 1, (some .int), i_c172, 12)
def i_r173 : I_Row := (⟨"BellGroundModel", "redo", "()I"⟩, prog_14_method_7_code, 1, (some .int), i_c173, 12)
def i_r174 : I_Row := (⟨"BellGroundModel", "land", "(I)I"⟩, prog_14_method_13_code, 3, (some .int), i_c174, 12)
def i_r175 : I_Row := (⟨"BellGroundModel", "within", "(JJJ)Z"⟩, prog_14_method_1_code, 6, (some .boolean), i_c175, 12)
def i_r176 : I_Row := (⟨"BellGroundModel", "bell", "(II)I"⟩, prog_14_method_16_code, 3, (some .int), i_c176, 12)
def i_r177 : I_Row := (⟨"BellGroundModel", "isBare", "(J)Z"⟩, prog_14_method_14_code, 4, (some .boolean), i_c177, 12)
def i_r178 : I_Row := (⟨"BellGroundModel", "cells", "()I"⟩, prog_14_method_8_code, 1, (some .int), i_c178, 12)
def i_r179 : I_Row := (⟨"BellGroundModel", "adds", "(IIII)V"⟩, prog_14_method_15_code, 5, none, i_c179, 12)
def i_r180 : I_Row := (⟨"BellGroundModel", "bells", "(III)I"⟩, prog_14_method_17_code, 7, (some .int), i_c180, 12)
def i_r181 : I_Row := (⟨"BellGroundModel", "isShelf", "(I)Z"⟩, prog_14_method_87_code, 1, (some .boolean), i_c181, 12)
def i_r182 : I_Row := (⟨"BellGroundModel", "mend", "(III)I"⟩, prog_14_method_18_code, 4, (some .int), i_c182, 12)
def i_r183 : I_Row := (⟨"BellGroundModel", "isCell", "(I)Z"⟩, prog_14_method_9_code, 2, (some .boolean), i_c183, 12)
def i_r184 : I_Row := (⟨"BellGroundModel", "becomes", "(II)I"⟩, prog_14_method_5_code, 5, (some .int), i_c184, 12)
def i_r185 : I_Row := (⟨"BellGroundModel", "isBell", "(I)Z"⟩, prog_14_method_10_code, 2, (some .boolean), i_c185, 12)
def i_r186 : I_Row := (⟨"BellGroundModel", "of", "(II)I"⟩, prog_14_method_20_code, 3, (some .int), i_c186, 12)
def i_r187 : I_Row := (⟨"BellGroundModel", "ofBell", "(II)I"⟩, prog_14_method_19_code, 3, (some .int), i_c187, 12)
def i_r188 : I_Row := (⟨"BellGroundModel", "isIn", "(II)Z"⟩, prog_14_method_3_code, 2, (some .boolean), i_c188, 12)
def i_r189 : I_Row := (⟨"BellGroundModel", "feed", "(I)I"⟩, prog_14_method_21_code, 2, (some .int), i_c189, 12)
def i_r190 : I_Row := (⟨"BellGroundModel", "law", "()I"⟩, prog_14_method_33_code, 4, (some .int), i_c190, 12)
def i_r191 : I_Row := (⟨"BellGroundModel", "workOut", "(II)I"⟩, prog_14_method_32_code, 8, (some .int), i_c191, 12)
def i_r192 : I_Row := (⟨"BellGroundModel", "either", "()I"⟩, prog_14_method_25_code, 3, (some .int), i_c192, 12)
def i_r193 : I_Row := (⟨"BellGroundModel", "both", "()I"⟩, prog_14_method_26_code, 3, (some .int), i_c193, 12)
def i_r194 : I_Row := (⟨"BellGroundModel", "compared", "()I"⟩, prog_14_method_27_code, 4, (some .int), i_c194, 12)
def i_r195 : I_Row := (⟨"BellGroundModel", "sums", "()I"⟩, prog_14_method_28_code, 4, (some .int), i_c195, 12)
def i_r196 : I_Row := (⟨"BellGroundModel", "product", "()I"⟩, prog_14_method_29_code, 4, (some .int), i_c196, 12)
def i_r197 : I_Row := (⟨"BellGroundModel", "one", "()I"⟩, prog_14_method_31_code, 5, (some .int), i_c197, 12)
def i_r198 : I_Row := (⟨"BellGroundModel", "byteAt", "()I"⟩, prog_14_method_22_code, 1, (some .int), i_c198, 12)
def i_r199 : I_Row := (⟨"BellGroundModel", "wrong", "()I"⟩, prog_14_method_23_code, 1, (some .int), i_c199, 12)
def i_r200 : I_Row := (⟨"BellGroundModel", "takes", "(I)Z"⟩, prog_14_method_24_code, 2, (some .boolean), i_c200, 12)
def i_r201 : I_Row := (⟨"BellGroundModel", "nameOf", "(I)I"⟩, prog_14_method_30_code, 1, (some .int), i_c201, 12)
def i_r202 : I_Row := (⟨"BellGroundModel", "hum", "(III)I"⟩, prog_14_method_37_code, 4, (some .int), i_c202, 12)
def i_r203 : I_Row := (⟨"BellGroundModel", "isNc", "(I)Z"⟩, prog_14_method_36_code, 2, (some .boolean), i_c203, 12)
def i_r204 : I_Row := (⟨"BellGroundModel", "humOfBell", "(IIII)I"⟩, prog_14_method_35_code, 6, (some .int), i_c204, 12)
def i_r205 : I_Row := (⟨"BellGroundModel", "humOf", "(IIIIII)I"⟩, prog_14_method_34_code, 12, (some .int), i_c205, 12)
def i_r206 : I_Row := (⟨"BellGroundModel", "farOf", "(II)I"⟩, prog_14_method_12_code, 5, (some .int), i_c206, 12)
def i_r207 : I_Row := (⟨"BellGroundModel", "heard", "(II)I"⟩, prog_14_method_40_code, 3, (some .int), i_c207, 12)
def i_r208 : I_Row := (⟨"BellGroundModel", "heardNow", "(II)I"⟩, prog_14_method_39_code, 5, (some .int), i_c208, 12)
def i_r209 : I_Row := (⟨"BellGroundModel", "heardOf", "(I)I"⟩, prog_14_method_38_code, 3, (some .int), i_c209, 12)
def i_r210 : I_Row := (⟨"BellGroundModel", "hearing", "(III)I"⟩, prog_14_method_41_code, 4, (some .int), i_c210, 12)
def i_r211 : I_Row := (⟨"BellGroundModel", "forget", "()I"⟩, prog_14_method_42_code, 1, (some .int), i_c211, 12)
def i_r212 : I_Row := (⟨"BellGroundModel", "ways", "(II)I"⟩, prog_14_method_48_code, 3, (some .int), i_c212, 12)
def i_r213 : I_Row := (⟨"BellGroundModel", "isN", "(I)Z"⟩, prog_14_method_47_code, 1, (some .boolean), i_c213, 12)
def i_r214 : I_Row := (⟨"BellGroundModel", "goesThrough", "(II)V"⟩, prog_14_method_46_code, 5, none, i_c214, 12)
def i_r215 : I_Row := (⟨"BellGroundModel", "humsAll", "()V"⟩, prog_14_method_43_code, 4, none, i_c215, 12)
def i_r216 : I_Row := (⟨"BellGroundModel", "counts", "(II)V"⟩, prog_14_method_45_code, 6, none, i_c216, 12)
def i_r217 : I_Row := (⟨"BellGroundModel", "liesWith", "(II)I"⟩, prog_14_method_44_code, 6, (some .int), i_c217, 12)
def i_r218 : I_Row := (⟨"BellGroundModel", "bitsOf", "(I)I"⟩, prog_14_method_2_code, 3, (some .int), i_c218, 12)
def i_r219 : I_Row := (⟨"BellGroundModel", "sure", "(II)I"⟩, prog_14_method_49_code, 3, (some .int), i_c219, 12)
def i_r220 : I_Row := (⟨"BellGroundModel", "chance", "(III)I"⟩, prog_14_method_51_code, 5, (some .int), i_c220, 12)
def i_r221 : I_Row := (⟨"BellGroundModel", "common", "(II)I"⟩, prog_14_method_50_code, 5, (some .int), i_c221, 12)
def i_r222 : I_Row := (⟨"BellGroundModel", "dig", "(I)I"⟩, prog_14_method_52_code, 5, (some .int), i_c222, 12)
def i_r223 : I_Row := (⟨"BellGroundModel", "next", "(II)I"⟩, prog_14_method_54_code, 8, (some .int), i_c223, 12)
def i_r224 : I_Row := (⟨"BellGroundModel", "greatestPart", "(II)I"⟩, prog_14_method_53_code, 6, (some .int), i_c224, 12)
def i_r225 : I_Row := (⟨"BellGroundModel", "told", "(II)I"⟩, prog_14_method_55_code, 4, (some .int), i_c225, 12)
def i_r226 : I_Row := (⟨"BellGroundModel", "liars", "(I)I"⟩, prog_14_method_56_code, 2, (some .int), i_c226, 12)
def i_r227 : I_Row := (⟨"BellGroundModel", "shows", "(I)I"⟩, prog_14_method_58_code, 2, (some .int), i_c227, 12)
def i_r228 : I_Row := (⟨"BellGroundModel", "doesShow", "(II)Z"⟩, prog_14_method_57_code, 3, (some .boolean), i_c228, 12)
def i_r229 : I_Row := (⟨"BellGroundModel", "chain", "(I)I"⟩, prog_14_method_62_code, 2, (some .int), i_c229, 12)
def i_r230 : I_Row := (⟨"BellGroundModel", "isSet", "(I)Z"⟩, prog_14_method_61_code, 2, (some .boolean), i_c230, 12)
def i_r231 : I_Row := (⟨"BellGroundModel", "chainOf", "(I)I"⟩, prog_14_method_60_code, 6, (some .int), i_c231, 12)
def i_r232 : I_Row := (⟨"BellGroundModel", "shownBy", "(I)I"⟩, prog_14_method_59_code, 4, (some .int), i_c232, 12)
def i_r233 : I_Row := (⟨"BellGroundModel", "strikes", "(II)I"⟩, prog_14_method_64_code, 3, (some .int), i_c233, 12)
def i_r234 : I_Row := (⟨"BellGroundModel", "strikesOn", "(IIII)V"⟩, prog_14_method_63_code, 7, none, i_c234, 12)
def i_r235 : I_Row := (⟨"BellGroundModel", "source", "()I"⟩, prog_14_method_65_code, 4, (some .int), i_c235, 12)
def i_r236 : I_Row := (⟨"BellGroundModel", "tune", "(II)I"⟩, prog_14_method_66_code, 4, (some .int), i_c236, 12)
def i_r237 : I_Row := (⟨"BellGroundModel", "whose", "(II)I"⟩, prog_14_method_68_code, 10, (some .int), i_c237, 12)
def i_r238 : I_Row := (⟨"BellGroundModel", "differs", "(III)J"⟩, prog_14_method_67_code, 10, (some .long), i_c238, 12)
def i_r239 : I_Row := (⟨"BellGroundModel", "years", "(II)I"⟩, prog_14_method_71_code, 5, (some .int), i_c239, 12)
def i_r240 : I_Row := (⟨"BellGroundModel", "yearGoes", "()V"⟩, prog_14_method_70_code, 4, none, i_c240, 12)
def i_r241 : I_Row := (⟨"BellGroundModel", "draws", "()I"⟩, prog_14_method_69_code, 1, (some .int), i_c241, 12)
def i_r242 : I_Row := (⟨"BellGroundModel", "dug", "(II)I"⟩, prog_14_method_72_code, 4, (some .int), i_c242, 12)
def i_r243 : I_Row := (⟨"BellGroundModel", "judge", "(I)I"⟩, prog_14_method_73_code, 6, (some .int), i_c243, 12)
def i_r244 : I_Row := (⟨"BellGroundModel", "image", "()I"⟩, prog_14_method_74_code, 2, (some .int), i_c244, 12)
def i_r245 : I_Row := (⟨"BellGroundModel", "back", "()I"⟩, prog_14_method_75_code, 2, (some .int), i_c245, 12)
def i_r246 : I_Row := (⟨"BellGroundModel", "body", "(I)I"⟩, prog_14_method_78_code, 2, (some .int), i_c246, 12)
def i_r247 : I_Row := (⟨"BellGroundModel", "act", "(III)I"⟩, prog_14_method_85_code, 4, (some .int), i_c247, 12)
def i_r248 : I_Row := (⟨"BellGroundModel", "isBody", "(I)Z"⟩, prog_14_method_76_code, 2, (some .boolean), i_c248, 12)
def i_r249 : I_Row := (⟨"BellGroundModel", "humsAs", "(II)I"⟩, prog_14_method_81_code, 3, (some .int), i_c249, 12)
def i_r250 : I_Row := (⟨"BellGroundModel", "begins", "(I)V"⟩, prog_14_method_80_code, 2, none, i_c250, 12)
def i_r251 : I_Row := (⟨"BellGroundModel", "liesAs", "(II)I"⟩, prog_14_method_82_code, 4, (some .int), i_c251, 12)
def i_r252 : I_Row := (⟨"BellGroundModel", "ringsAs", "(II)I"⟩, prog_14_method_83_code, 4, (some .int), i_c252, 12)
def i_r253 : I_Row := (⟨"BellGroundModel", "tellsAs", "(II)I"⟩, prog_14_method_84_code, 4, (some .int), i_c253, 12)
def i_r254 : I_Row := (⟨"BellGroundModel", "trace", "(I)I"⟩, prog_14_method_86_code, 2, (some .int), i_c254, 12)
def i_r255 : I_Row := (⟨"BellGroundModel", "keep", "(II)I"⟩, prog_14_method_88_code, 3, (some .int), i_c255, 12)
def i_r256 : I_Row := (⟨"BellGroundModel", "row", "(III)I"⟩, prog_14_method_89_code, 5, (some .int), i_c256, 12)
def i_r257 : I_Row := (⟨"BellGroundModel", "put", "(IIJ)I"⟩, prog_14_method_92_code, 6, (some .int), i_c257, 12)
def i_r258 : I_Row := (⟨"BellGroundModel", "refusal", "(II)I"⟩, prog_14_method_90_code, 3, (some .int), i_c258, 12)
def i_r259 : I_Row := (⟨"BellGroundModel", "asSort", "(IJ)J"⟩, prog_14_method_91_code, 3, (some .long), i_c259, 12)
def i_r260 : I_Row := (⟨"BellGroundModel", "element", "(II)J"⟩, prog_14_method_93_code, 3, (some .long), i_c260, 12)
def i_r261 : I_Row := (⟨"BellGroundModel", "shift", "(IIIII)I"⟩, prog_14_method_94_code, 7, (some .int), i_c261, 12)
def i_r262 : I_Row := (⟨"BellGroundModel", "taken", "(II)I"⟩, prog_14_method_95_code, 4, (some .int), i_c262, 12)
def i_r263 : I_Row := (⟨"BellGroundModel", "kindOf", "(I)I"⟩, prog_14_method_77_code, 2, (some .int), i_c263, 12)
def i_r264 : I_Row := (⟨"BellGroundModel", "above", "(I)I"⟩, prog_14_method_79_code, 1, (some .int), i_c264, 12)
def i_r265 : I_Row := (⟨"BellGroundModel", "count", "(I)I"⟩, prog_14_method_96_code, 2, (some .int), i_c265, 12)
def i_r266 : I_Row := (⟨"BellGroundLaw", "law", "([I)Z"⟩, code, 4, (some .boolean), i_c266, 99)
def i_mt_0 : List I_Row := [i_r0, i_r1, i_r2, i_r3, i_r4, i_r5, i_r6, i_r7, i_r8, i_r9, i_r10, i_r11, i_r12, i_r13, i_r14, i_r15, i_r16, i_r17, i_r18, i_r19, i_r20, i_r21, i_r22, i_r23, i_r24, i_r25, i_r26, i_r27, i_r28, i_r29, i_r30, i_r31, i_r32, i_r33, i_r34, i_r35, i_r36, i_r37, i_r38, i_r39, i_r40, i_r41, i_r42, i_r43, i_r44, i_r45, i_r46, i_r47, i_r48, i_r49]
def i_mt_1 : List I_Row := [i_r50, i_r51, i_r52, i_r53, i_r54, i_r55, i_r56, i_r57, i_r58, i_r59, i_r60, i_r61, i_r62, i_r63, i_r64, i_r65, i_r66, i_r67, i_r68, i_r69, i_r70, i_r71, i_r72, i_r73, i_r74, i_r75, i_r76, i_r77, i_r78, i_r79, i_r80, i_r81, i_r82, i_r83, i_r84, i_r85, i_r86, i_r87, i_r88, i_r89, i_r90, i_r91, i_r92, i_r93, i_r94, i_r95, i_r96, i_r97, i_r98, i_r99]
def i_mt_2 : List I_Row := [i_r100, i_r101, i_r102, i_r103, i_r104, i_r105, i_r106, i_r107, i_r108, i_r109, i_r110, i_r111, i_r112, i_r113, i_r114, i_r115, i_r116, i_r117, i_r118, i_r119, i_r120, i_r121, i_r122, i_r123, i_r124, i_r125, i_r126, i_r127, i_r128, i_r129, i_r130, i_r131, i_r132, i_r133, i_r134, i_r135, i_r136, i_r137, i_r138, i_r139, i_r140, i_r141, i_r142, i_r143, i_r144, i_r145, i_r146, i_r147, i_r148, i_r149]
def i_mt_3 : List I_Row := [i_r150, i_r151, i_r152, i_r153, i_r154, i_r155, i_r156, i_r157, i_r158, i_r159, i_r160, i_r161, i_r162, i_r163, i_r164, i_r165, i_r166, i_r167, i_r168, i_r169, i_r170, i_r171, i_r172, i_r173, i_r174, i_r175, i_r176, i_r177, i_r178, i_r179, i_r180, i_r181, i_r182, i_r183, i_r184, i_r185, i_r186, i_r187, i_r188, i_r189, i_r190, i_r191, i_r192, i_r193, i_r194, i_r195, i_r196, i_r197, i_r198, i_r199]
def i_mt_4 : List I_Row := [i_r200, i_r201, i_r202, i_r203, i_r204, i_r205, i_r206, i_r207, i_r208, i_r209, i_r210, i_r211, i_r212, i_r213, i_r214, i_r215, i_r216, i_r217, i_r218, i_r219, i_r220, i_r221, i_r222, i_r223, i_r224, i_r225, i_r226, i_r227, i_r228, i_r229, i_r230, i_r231, i_r232, i_r233, i_r234, i_r235, i_r236, i_r237, i_r238, i_r239, i_r240, i_r241, i_r242, i_r243, i_r244, i_r245, i_r246, i_r247, i_r248, i_r249]
def i_mt_5 : List I_Row := [i_r250, i_r251, i_r252, i_r253, i_r254, i_r255, i_r256, i_r257, i_r258, i_r259, i_r260, i_r261, i_r262, i_r263, i_r264, i_r265, i_r266]
def i_mt (j : Nat) : Option I_Row := match j / 50 with
  | 0 => i_mt_0[j % 50]?
  | 1 => i_mt_1[j % 50]?
  | 2 => i_mt_2[j % 50]?
  | 3 => i_mt_3[j % 50]?
  | 4 => i_mt_4[j % 50]?
  | 5 => i_mt_5[j % 50]?
  | _ => none
def i_law : Nat := 266
end
section
/-! ===== part 03: the small machine: bytecode over cells that are numbered ===== -/
/-- a cell's shape: 0 an int array, 1 a long array, 2 a boolean array, 10 + c an object of class c; its length (how many fields); the references in its fields -/
abbrev I_Sh : Type := Nat × Nat × List (Option Nat)
/-- the shapes; what ints (booleans) stand in the cells; what longs; the script -/
abbrev I_St : Type := List I_Sh × (Nat → Nat → Int32) × (Nat → Nat → Int64) × (Nat × (Nat → Int32))
abbrev I_Cf : Type := Nat × List (Option Value) × List Value × I_St
abbrev I_Out : Type := I_Cf ⊕ ((Nat × List Value × I_Cf) ⊕ Option Value)
def i_row {α : Type} (f : Nat → α) (q : Nat) (g : α) : Nat → α := fun a => if a = q then g else f a
def i_upI (f : Nat → Nat → Int32) (q k : Nat) (v : Int32) : Nat → Nat → Int32 := i_row f q (upd (f q) k v)
def i_upL (f : Nat → Nat → Int64) (q k : Nat) (v : Int64) : Nat → Nat → Int64 := i_row f q (vp_updL (f q) k v)
def i_get (lv : List (Option Value)) (i : Nat) : Option Value := (lv[i]?).getD none
def i_clr (lv : List (Option Value)) (k : Nat) : List (Option Value) := match i_get lv k with
  | some (.long _) => lv.set k none
  | some (.double _) => lv.set k none
  | _ => lv
def i_st1 (lv : List (Option Value)) (i : Nat) (v : Value) : List (Option Value) := match i with
  | 0 => lv.set 0 (some v)
  | k + 1 => (i_clr lv k).set (k + 1) (some v)
def i_st2 (lv : List (Option Value)) (i : Nat) (v : Value) : List (Option Value) := (i_st1 lv i v).set (i + 1) none
/-- arrays outside: the script, the class's tables, the bytes of the one text -/
def i_ext (X : Nat × (Nat → Int32)) (q : Nat) : Option (Nat × Nat × (Nat → Int32)) :=
  if q = 100 then some (0, X.1, X.2)
  else if q = 101 then some (0, 7, fun j => ([9, 99, 9, 9, 1, 99, 9] : List Int32).getD j 0)
  else if q = 102 then some (0, 32, fun j => ([1, 10, 11, 2, 20, 0, 0, 0, 0, 30, 0, 0, 0, 41, 40, 0, 0, 0, 50, 0, 0, 0, 0, 60, 70, 0, 0, 0, 0, 80, 0, 81] : List Int32).getD j 0)
  else if q = 103 then some (0, 8, fun j => ([-1, 0, 0, 2, 1, 3, 0, 4] : List Int32).getD j 0)
  else if q = 104 then some (3, 7, fun j => ([100, 103, 113, 122, 115, 119, 102] : List Int32).getD j 0)
  else none
def i_arr (S : I_St) (q : Nat) : Option (Nat × Nat × (Nat → Int32)) := match S.1[q]? with
  | some (t, n, _) => if t = 0 then some (0, n, S.2.1 q) else if t = 2 then some (2, n, S.2.1 q) else none
  | none => i_ext S.2.2.2 q
def i_isC (S : I_St) (q ci : Nat) : Bool := match S.1[q]? with
  | some (t, _, _) => decide (t = 10 + ci)
  | none => decide (q = 105) && decide (ci = 90)
def i_clsOf (j : Nat) : Nat := match i_mt j with
  | some e => e.2.2.2.2.2
  | none => 98
def i_nth (ci : Nat) : Nat := match i_cls[ci]? with
  | some q => q.2.2
  | none => 0
def i_isR (ci k : Nat) : Bool := decide (((i_kd[ci]?).getD [])[k]? = some 1)
def i_rem (x y : Int32) : Int32 := x - x / y * y
def i_ushr (x y : Int32) : Int32 := (x.toUInt32 >>> (y.toUInt32 &&& Int32.toUInt32 31)).toInt32
def i_sw (x : Int32) (d : Nat) : List (Int32 × Nat) → Nat
  | [] => d
  | (k, t) :: r => if x = k then t else i_sw x d r
def i_n (pc : Nat) (lv : List (Option Value)) (stk : List Value) (S : I_St) : Option I_Out := some (.inl (pc, lv, stk, S))
def i_bin (f : Int32 → Int32 → Int32) (pc : Nat) (lv : List (Option Value)) (stk : List Value) (S : I_St) : Option I_Out := match stk with
  | .int y :: .int x :: rest => i_n (pc + 1) lv (.int (f x y) :: rest) S
  | _ => none
def i_binL (f : Int64 → Int64 → Int64) (pc : Nat) (lv : List (Option Value)) (stk : List Value) (S : I_St) : Option I_Out := match stk with
  | .long y :: .long x :: rest => i_n (pc + 1) lv (.long (f x y) :: rest) S
  | _ => none
def i_ld (i len : Nat) (kind : Nat) (pc : Nat) (lv : List (Option Value)) (stk : List Value) (S : I_St) : Option I_Out := match kind, i_get lv i with
  | 0, some (.int x) => i_n (pc + len) lv (.int x :: stk) S
  | 1, some (.long x) => i_n (pc + len) lv (.long x :: stk) S
  | 2, some (.ref x) => i_n (pc + len) lv (.ref x :: stk) S
  | _, _ => none
def i_sto (i len : Nat) (kind : Nat) (pc : Nat) (lv : List (Option Value)) (stk : List Value) (S : I_St) : Option I_Out := match kind, stk with
  | 0, .int x :: rest => if i < lv.length then i_n (pc + len) (i_st1 lv i (.int x)) rest S else none
  | 1, .long x :: rest => if i + 1 < lv.length then i_n (pc + len) (i_st2 lv i (.long x)) rest S else none
  | 2, .ref x :: rest => if i < lv.length then i_n (pc + len) (i_st1 lv i (.ref x)) rest S else none
  | _, _ => none
def i_br (cnd : ClassFile.Cond) (x y : Int32) (t n : Nat) : Nat := match cnd with
  | .eq => if x = y then t else n
  | .ne => if x = y then n else t
  | .lt => if x < y then t else n
  | .ge => if x < y then n else t
  | .gt => if y < x then t else n
  | .le => if y < x then n else t
def i_gf (r : List Nat) (pc : Nat) (lv : List (Option Value)) (stk : List Value) (S : I_St) : Option I_Out := match r, stk with
  | [ci, k, kind, _, _], .ref q :: rest => match S.1[q]? with
    | some (t, _, refs) =>
      if t = 10 + ci then
        if kind = 1 then match refs[k]? with
          | some (some a) => i_n (pc + 3) lv (.ref a :: rest) S
          | _ => none
        else if kind = 3 then none else i_n (pc + 3) lv (.int (S.2.1 q k) :: rest) S
      else none
    | none => if q = 105 ∧ kind = 3 then (if k = 0 then i_n (pc + 3) lv (.int 0 :: rest) S else i_n (pc + 3) lv (.ref 104 :: rest) S) else none
  | _, _ => none
def i_pf (r : List Nat) (pc : Nat) (lv : List (Option Value)) (stk : List Value) (S : I_St) : Option I_Out := match r, stk with
  | [ci, k, kind, _, _], .int x :: .ref q :: rest => match S.1[q]? with
    | some (t, _, _) =>
      if t = 10 + ci then
        if kind = 0 then i_n (pc + 3) lv rest (S.1, i_upI S.2.1 q k x, S.2.2)
        else if kind = 2 ∧ (x = 0 ∨ x = 1) then i_n (pc + 3) lv rest (S.1, i_upI S.2.1 q k x, S.2.2)
        else none
      else none
    | none => none
  | [ci, k, kind, _, _], .ref a :: .ref q :: rest => match S.1[q]? with
    | some (t, n, refs) =>
      if t = 10 + ci ∧ kind = 1 ∧ a < 100 ∧ k < refs.length then i_n (pc + 3) lv rest (S.1.set q (t, n, refs.set k (some a)), S.2)
      else none
    | none => none
  | _, _ => none
def i_ald (tag : Nat) (pc : Nat) (lv : List (Option Value)) (stk : List Value) (S : I_St) : Option I_Out := match stk with
  | .int i :: .ref q :: rest => match i_arr S q with
    | some (t, n, f) => if t = tag ∨ (tag = 2 ∧ t = 3) then (if i < 0 ∨ n ≤ i.toNatClampNeg then none else i_n (pc + 1) lv (.int (f i.toNatClampNeg) :: rest) S) else none
    | none => none
  | _ => none
def i_lald (pc : Nat) (lv : List (Option Value)) (stk : List Value) (S : I_St) : Option I_Out := match stk with
  | .int i :: .ref q :: rest => match S.1[q]? with
    | some (t, n, _) => if t = 1 then (if i < 0 ∨ n ≤ i.toNatClampNeg then none else i_n (pc + 1) lv (.long (S.2.2.1 q i.toNatClampNeg) :: rest) S) else none
    | none => none
  | _ => none
def i_ast (tag : Nat) (pc : Nat) (lv : List (Option Value)) (stk : List Value) (S : I_St) : Option I_Out := match stk with
  | .int x :: .int i :: .ref q :: rest => match S.1[q]? with
    | some (t, n, _) => if t = tag ∧ (tag = 0 ∨ x = 0 ∨ x = 1) then (if i < 0 ∨ n ≤ i.toNatClampNeg then none else i_n (pc + 1) lv rest (S.1, i_upI S.2.1 q i.toNatClampNeg x, S.2.2)) else none
    | none => none
  | _ => none
def i_last (pc : Nat) (lv : List (Option Value)) (stk : List Value) (S : I_St) : Option I_Out := match stk with
  | .long x :: .int i :: .ref q :: rest => match S.1[q]? with
    | some (t, n, _) => if t = 1 then (if i < 0 ∨ n ≤ i.toNatClampNeg then none else i_n (pc + 1) lv rest (S.1, S.2.1, i_upL S.2.2.1 q i.toNatClampNeg x, S.2.2.2)) else none
    | none => none
  | _ => none
def i_alen (pc : Nat) (lv : List (Option Value)) (stk : List Value) (S : I_St) : Option I_Out := match stk with
  | .ref q :: rest => match S.1[q]? with
    | some (t, n, _) => if t < 3 then i_n (pc + 1) lv (.int (Int32.ofNat n) :: rest) S else none
    | none => match i_ext S.2.2.2 q with
      | some (_, n, _) => i_n (pc + 1) lv (.int (Int32.ofNat n) :: rest) S
      | none => none
  | _ => none
def i_cpy (pc : Nat) (lv : List (Option Value)) (stk : List Value) (S : I_St) : Option I_Out := match stk with
  | .int n :: .int dp :: .ref d :: .int sp :: .ref a :: rest => match S.1[a]?, S.1[d]? with
    | some (t0, n0, _), some (t1, n1, _) =>
      if ¬ sp < 0 ∧ ¬ dp < 0 ∧ ¬ n < 0 ∧ sp.toNatClampNeg + n.toNatClampNeg ≤ n0 ∧ dp.toNatClampNeg + n.toNatClampNeg ≤ n1 ∧ (rest.map fun v => v.category).sum ≤ 8 then
        if t0 = 0 ∧ t1 = 0 then i_n (pc + 3) lv rest (S.1, i_row S.2.1 d (va_cpy (S.2.1 a) (S.2.1 d) sp.toNatClampNeg dp.toNatClampNeg n.toNatClampNeg), S.2.2)
        else if t0 = 1 ∧ t1 = 1 then i_n (pc + 3) lv rest (S.1, S.2.1, i_row S.2.2.1 d (va_cpy (S.2.2.1 a) (S.2.2.1 d) sp.toNatClampNeg dp.toNatClampNeg n.toNatClampNeg), S.2.2.2)
        else none
      else none
    | _, _ => none
  | _ => none
def i_new (r : List Nat) (pc : Nat) (lv : List (Option Value)) (stk : List Value) (S : I_St) : Option I_Out := match r with
  | [ci, _, _, _] => if S.1.length < 100 then i_n (pc + 3) lv (.ref S.1.length :: stk) (S.1 ++ [(10 + ci, i_nth ci, List.replicate (i_nth ci) none)], i_row S.2.1 S.1.length (fun _ => 0), S.2.2) else none
  | _ => none
def i_newa (r : List Nat) (pc : Nat) (lv : List (Option Value)) (stk : List Value) (S : I_St) : Option I_Out := match r, stk with
  | [tag, _], .int n :: rest => if S.1.length < 100 ∧ ¬ n < 0 ∧ n.toNatClampNeg ≤ 60000000 then i_n (pc + 2) lv (.ref S.1.length :: rest) (S.1 ++ [(tag, n.toNatClampNeg, [])], i_row S.2.1 S.1.length (fun _ => 0), i_row S.2.2.1 S.1.length (fun _ => 0), S.2.2.2) else none
  | _, _ => none
def i_cl (j : Nat) (args : List Value) (pc : Nat) (lv : List (Option Value)) (rest : List Value) (S : I_St) : Option I_Out :=
  if (rest.map fun v => v.category).sum ≤ 8 then some (.inr (.inl (j, args, (pc + 3, lv, rest, S)))) else none
def i_inv (r : List Nat) (pc : Nat) (lv : List (Option Value)) (stk : List Value) (S : I_St) : Option I_Out := match r with
  | [j, na, _, _, _, _, _, _] => match stk.drop na with
    | .ref q :: rest => if i_isC S q (i_clsOf j) = true then i_cl j (.ref q :: (stk.take na).reverse) pc lv rest S else none
    | _ => none
  | _ => none
def i_ins (r : List Nat) (pc : Nat) (lv : List (Option Value)) (stk : List Value) (S : I_St) : Option I_Out := match r with
  | [_, _, _, _] => match stk with
    | .ref _ :: rest => if (rest.map fun v => v.category).sum ≤ 8 then i_n (pc + 3) lv rest S else none
    | _ => none
  | [j, na, _, _, _, _, _, _] => match stk.drop na with
    | .ref q :: rest => i_cl j (.ref q :: (stk.take na).reverse) pc lv rest S
    | _ => none
  | _ => none
/-- Math.max 1, min 2, abs 3 -/
def i_math (k : Nat) (pc : Nat) (lv : List (Option Value)) (stk : List Value) (S : I_St) : Option I_Out := match stk with
  | .int y :: rest => if (rest.map fun v => v.category).sum ≤ 8 then (
      if k = 3 then i_n (pc + 3) lv (.int (if 0 ≤ y then y else 0 - y) :: rest) S
      else match rest with
        | .int x :: rest2 => if k = 1 then i_n (pc + 3) lv (.int (if x < y then y else x) :: rest2) S else if k = 2 then i_n (pc + 3) lv (.int (if y < x then y else x) :: rest2) S else none
        | _ => none) else none
  | _ => none
def i_invS (r : List Nat) (pc : Nat) (lv : List (Option Value)) (stk : List Value) (S : I_St) : Option I_Out := match r with
  | [_, _, _, _, _] => i_cpy pc lv stk S
  | [k, _, _, _, _, _] => i_math k pc lv stk S
  | [j, na, _, _, _, _, _, _] => if na ≤ stk.length then i_cl j (stk.take na).reverse pc lv (stk.drop na) S else none
  | _ => none
def i_ret (v : Option Value) : Option I_Out := some (.inr (.inr v))
def i_iret (r : List Nat) (stk : List Value) : Option I_Out := match r, stk with
  | [k], [.int x] => if k = 1 ∨ (k = 2 ∧ (x = 0 ∨ x = 1)) ∨ (k = 4 ∧ x = 0) then i_ret (some (.int x)) else none
  | _, _ => none
def i_un (stk : List Value) (f : Int32 → Value) (pc : Nat) (lv : List (Option Value)) (S : I_St) : Option I_Out := match stk with
  | .int x :: rest => i_n (pc + 1) lv (f x :: rest) S
  | _ => none
def i_unL (stk : List Value) (f : Int64 → Value) (pc : Nat) (lv : List (Option Value)) (S : I_St) : Option I_Out := match stk with
  | .long x :: rest => i_n (pc + 1) lv (f x :: rest) S
  | _ => none
def i_do (ins : Instr) (c : Value) (r : List Nat) (sw : List (Int32 × Nat)) (pc : Nat) (lv : List (Option Value)) (stk : List Value) (S : I_St) : Option I_Out := match ins with
  | .iconst _ => i_n (pc + 1) lv (c :: stk) S
  | .bipush _ => i_n (pc + 2) lv (c :: stk) S
  | .sipush _ => i_n (pc + 3) lv (c :: stk) S
  | .lconst _ => i_n (pc + 1) lv (c :: stk) S
  | .ldc _ => match r with
    | [_, _] => i_n (pc + 2) lv (c :: stk) S
    | _ => none
  | .ldc_w _ => match r with
    | [_, _] => i_n (pc + 3) lv (c :: stk) S
    | _ => none
  | .ldc2_w _ => match r with
    | [_] => i_n (pc + 3) lv (c :: stk) S
    | _ => none
  | .getstatic _ => match r with
    | [_, _] => i_n (pc + 3) lv (c :: stk) S
    | _ => none
  | .iload i => i_ld i 2 0 pc lv stk S
  | .iload_n i => i_ld i.val 1 0 pc lv stk S
  | .lload i => i_ld i 2 1 pc lv stk S
  | .lload_n i => i_ld i.val 1 1 pc lv stk S
  | .aload i => i_ld i 2 2 pc lv stk S
  | .aload_n i => i_ld i.val 1 2 pc lv stk S
  | .istore i => i_sto i 2 0 pc lv stk S
  | .istore_n i => i_sto i.val 1 0 pc lv stk S
  | .lstore i => i_sto i 2 1 pc lv stk S
  | .lstore_n i => i_sto i.val 1 1 pc lv stk S
  | .astore i => i_sto i 2 2 pc lv stk S
  | .astore_n i => i_sto i.val 1 2 pc lv stk S
  | .iinc i _ => match i_get lv i, c with
    | some (.int x), .int d => if i < lv.length then i_n (pc + 3) (i_st1 lv i (.int (x + d))) stk S else none
    | _, _ => none
  | .iadd => i_bin (fun x y => x + y) pc lv stk S
  | .isub => i_bin (fun x y => x - y) pc lv stk S
  | .imul => i_bin (fun x y => x * y) pc lv stk S
  | .iand => i_bin (fun x y => x &&& y) pc lv stk S
  | .ior => i_bin (fun x y => x ||| y) pc lv stk S
  | .ixor => i_bin (fun x y => x ^^^ y) pc lv stk S
  | .ishl => i_bin (fun x y => x <<< (y &&& 31)) pc lv stk S
  | .ishr => i_bin (fun x y => x >>> (y &&& 31)) pc lv stk S
  | .iushr => i_bin i_ushr pc lv stk S
  | .idiv => match stk with
    | .int y :: .int x :: rest => if y = 0 then none else i_n (pc + 1) lv (.int (x / y) :: rest) S
    | _ => none
  | .irem => match stk with
    | .int y :: .int x :: rest => if y = 0 then none else i_n (pc + 1) lv (.int (i_rem x y) :: rest) S
    | _ => none
  | .ineg => i_un stk (fun x => .int (-x)) pc lv S
  | .i2l => i_un stk (fun x => .long x.toInt64) pc lv S
  | .i2b => i_un stk (fun x => .int x.toInt8.toInt32) pc lv S
  | .i2s => i_un stk (fun x => .int x.toInt16.toInt32) pc lv S
  | .i2c => i_un stk (fun x => .int (x.toUInt32 % 65536).toInt32) pc lv S
  | .l2i => i_unL stk (fun x => .int x.toInt32) pc lv S
  | .lneg => i_unL stk (fun x => .long (-x)) pc lv S
  | .ladd => i_binL (fun x y => x + y) pc lv stk S
  | .lsub => i_binL (fun x y => x - y) pc lv stk S
  | .lmul => i_binL (fun x y => x * y) pc lv stk S
  | .land => i_binL (fun x y => x &&& y) pc lv stk S
  | .lor => i_binL (fun x y => x ||| y) pc lv stk S
  | .lshl => match stk with
    | .int y :: .long x :: rest => i_n (pc + 1) lv (.long (x <<< (y.toInt64 &&& 63)) :: rest) S
    | _ => none
  | .lcmp => match stk with
    | .long y :: .long x :: rest => i_n (pc + 1) lv (.int (lg_cmp x y) :: rest) S
    | _ => none
  | .dup => match stk with
    | v :: rest => if v.category = 1 then i_n (pc + 1) lv (v :: v :: rest) S else none
    | _ => none
  | .dup2 => match stk with
    | v :: w :: rest => if v.category = 1 ∧ w.category = 1 then i_n (pc + 1) lv (v :: w :: v :: w :: rest) S else none
    | _ => none
  | .pop => match stk with
    | v :: rest => if v.category = 1 then i_n (pc + 1) lv rest S else none
    | _ => none
  | .ifCond cnd _ => match r, stk with
    | [t], .int x :: rest => i_n (i_br cnd x 0 t (pc + 3)) lv rest S
    | _, _ => none
  | .if_icmp cnd _ => match r, stk with
    | [t], .int y :: .int x :: rest => i_n (i_br cnd x y t (pc + 3)) lv rest S
    | _, _ => none
  | .goto _ => match r with
    | [t] => i_n t lv stk S
    | _ => none
  | .tableswitch _ _ _ _ => match r, stk with
    | [d], .int x :: rest => i_n (i_sw x d sw) lv rest S
    | _, _ => none
  | .lookupswitch _ _ => match r, stk with
    | [d], .int x :: rest => i_n (i_sw x d sw) lv rest S
    | _, _ => none
  | .getfield _ => i_gf r pc lv stk S
  | .putfield _ => i_pf r pc lv stk S
  | .iaload => i_ald 0 pc lv stk S
  | .baload => i_ald 2 pc lv stk S
  | .laload => i_lald pc lv stk S
  | .iastore => i_ast 0 pc lv stk S
  | .bastore => i_ast 2 pc lv stk S
  | .lastore => i_last pc lv stk S
  | .arraylength => i_alen pc lv stk S
  | .new _ => i_new r pc lv stk S
  | .newarray _ => i_newa r pc lv stk S
  | .invokevirtual _ => i_inv r pc lv stk S
  | .invokespecial _ => i_ins r pc lv stk S
  | .invokestatic _ => i_invS r pc lv stk S
  | .ireturn => i_iret r stk
  | .lreturn => match stk with
    | [.long x] => i_ret (some (.long x))
    | _ => none
  | .return_ => match stk with
    | [] => i_ret none
    | _ => none
  | _ => none
def i_stp (code : List I_En) (cf : I_Cf) : Option I_Out := match code.lookup cf.1 with
  | none => none
  | some e => i_do e.1 e.2.2.1 e.2.2.2.1 e.2.2.2.2 cf.1 cf.2.1 cf.2.2.1 cf.2.2.2
/-- the answer of a call comes onto the stack -/
def i_res (cf : I_Cf) (v : Option Value) (S : I_St) : I_Cf := (cf.1, cf.2.1, v.toList ++ cf.2.2.1, S)
/-- n steps of a method's code from cf end it with r, S; calls by E -/
def I_Rn (E : Nat → List Value → I_St → Option Value → I_St → Prop) (code : List I_En) : Nat → I_Cf → Option Value → I_St → Prop
  | 0, _, _, _ => False
  | n + 1, cf, r, S' => match i_stp code cf with
    | none => False
    | some (.inl cf') => I_Rn E code n cf' r S'
    | some (.inr (.inl (k, args, cf'))) => ∃ (v : Option Value) (S1 : I_St), E k args cf'.2.2.2 v S1 ∧ I_Rn E code n (i_res cf' v S1) r S'
    | some (.inr (.inr v)) => r = v ∧ S' = cf.2.2.2
def i_slots : List Value → List (Option Value)
  | [] => []
  | v :: vs => if v.category = 2 then some v :: none :: i_slots vs else some v :: i_slots vs
def i_entry (args : List Value) (n : Nat) : List (Option Value) := i_slots args ++ List.replicate (n - (i_slots args).length) none
/-- method j, called with args in S, answers r and leaves S'; at most d frames deep -/
def I_Ex : Nat → Nat → List Value → I_St → Option Value → I_St → Prop
  | 0, _, _, _, _, _ => False
  | d + 1, j, args, S, r, S' => match i_mt j with
    | none => False
    | some e => (i_slots args).length ≤ e.2.2.1 ∧ ∃ n : Nat, I_Rn (I_Ex d) e.2.2.2.2.1 n (0, i_entry args e.2.2.1, [], S) r S'
end
section
/-! ===== part 04: the decoded code is the bytes' code, its links are the tables' words ===== -/
def i_word (p : Nat) : Option Jvm.Cond := match p / 1000 with
  | 0 => (k2_sels lw_privs)[p % 1000]?
  | 1 => tables_1_1[p % 1000]?
  | 2 => tables_1_2[p % 1000]?
  | 3 => tables_1_3[p % 1000]?
  | 4 => tables_1_4[p % 1000]?
  | 5 => tables_1_5[p % 1000]?
  | 6 => tables_1_6[p % 1000]?
  | 7 => tables_1_7[p % 1000]?
  | 8 => tables_1_8[p % 1000]?
  | _ => none
theorem i_word_in {p : Nat} {w : Jvm.Cond} (h : i_word p = some w) : w ∈ lw_tbl := by
  have key : w ∈ k2_sels lw_privs ∨ w ∈ tables_1_1 ∨ w ∈ tables_1_2 ∨ w ∈ tables_1_3 ∨ w ∈ tables_1_4 ∨ w ∈ tables_1_5 ∨ w ∈ tables_1_6 ∨ w ∈ tables_1_7 ∨ w ∈ tables_1_8 := by
    unfold i_word at h
    split at h
    · exact Or.inl (List.mem_of_getElem? h)
    · exact Or.inr (Or.inl (List.mem_of_getElem? h))
    · exact Or.inr (Or.inr (Or.inl (List.mem_of_getElem? h)))
    · exact Or.inr (Or.inr (Or.inr (Or.inl (List.mem_of_getElem? h))))
    · exact Or.inr (Or.inr (Or.inr (Or.inr (Or.inl (List.mem_of_getElem? h)))))
    · exact Or.inr (Or.inr (Or.inr (Or.inr (Or.inr (Or.inl (List.mem_of_getElem? h))))))
    · exact Or.inr (Or.inr (Or.inr (Or.inr (Or.inr (Or.inr (Or.inl (List.mem_of_getElem? h)))))))
    · exact Or.inr (Or.inr (Or.inr (Or.inr (Or.inr (Or.inr (Or.inr (Or.inl (List.mem_of_getElem? h))))))))
    · exact Or.inr (Or.inr (Or.inr (Or.inr (Or.inr (Or.inr (Or.inr (Or.inr (List.mem_of_getElem? h))))))))
    · cases h
  unfold lw_tbl tables_1
  simp only [List.mem_append]
  rcases key with h | h | h | h | h | h | h | h | h
  · exact Or.inl h
  · exact Or.inr (Or.inl h)
  · exact Or.inr (Or.inr (Or.inl h))
  · exact Or.inr (Or.inr (Or.inr (Or.inl h)))
  · exact Or.inr (Or.inr (Or.inr (Or.inr (Or.inl h))))
  · exact Or.inr (Or.inr (Or.inr (Or.inr (Or.inr (Or.inl h)))))
  · exact Or.inr (Or.inr (Or.inr (Or.inr (Or.inr (Or.inr (Or.inl h))))))
  · exact Or.inr (Or.inr (Or.inr (Or.inr (Or.inr (Or.inr (Or.inr (Or.inl h)))))))
  · exact Or.inr (Or.inr (Or.inr (Or.inr (Or.inr (Or.inr (Or.inr (Or.inr h)))))))
def i_isNest : Jvm.Cond → Bool
  | .fieldLinkNest _ _ _ _ _ _ => true
  | .methodLinkNest _ _ _ _ => true
  | _ => false
/-- the words that a method's contract may ask for; those of nest mates, which are carried beside them -/
def i_W0 : List Jvm.Cond := lw_tbl.filter goodWord
def i_NW : List Jvm.Cond := lw_tbl.filter i_isNest
def i_has (p : Nat) (w : Jvm.Cond) : Bool := decide (i_word p = some w) && goodWord w
def i_hasN (p : Nat) (w : Jvm.Cond) : Bool := decide (i_word p = some w)
theorem i_has_in {p : Nat} {w : Jvm.Cond} (h : i_has p w = true) : w ∈ i_W0 := by
  unfold i_has at h
  simp only [Bool.and_eq_true, decide_eq_true_eq] at h
  exact List.mem_filter.mpr ⟨i_word_in h.1, h.2⟩
theorem i_hasN_in {p : Nat} {w : Jvm.Cond} (h : i_hasN p w = true) (hn : i_isNest w = true) : w ∈ i_NW := by
  unfold i_hasN at h
  simp only [decide_eq_true_eq] at h
  exact List.mem_filter.mpr ⟨i_word_in h, hn⟩
def i_tyOf (ci k : Nat) : FieldType := match i_tys[ci]? with
  | some t => t k
  | none => .int
/-- a field's link, through the class itself or as a nest mate -/
def i_okF (own : String) (idx : Nat) (r : List Nat) : Bool := match r with
  | [ci, k, kind, nest, p] => match i_cls[ci]? with
    | some (C, Tb, N) => decide (k < N) && decide ((Tb k).1 = C) && (if nest = 0 then i_has p (.fieldLink own idx C (Tb k).2.1 (Tb k).2.2.1) else i_hasN p (.fieldLinkNest own idx C (Tb k).2.1 (Tb k).2.2.1 "BellGround")) && decide (((i_kd[ci]?).getD [])[k]? = some kind)
    | none => decide (kind = 3) && decide (ci = 90) && (if k = 0 then i_has p (.fieldLink own idx "java/lang/String" "coder" "B") else i_has p (.fieldLink own idx "java/lang/String" "value" "[B"))
  | _ => true
def i_okP (own nm : String) (r : List Nat) : Bool := match r with
  | [ci, k, kind, nest, _] => match i_cls[ci]? with
    | some (C, Tb, _) => (if (Tb k).2.2.2 = true then decide (nest = 0) && decide (nm = "<init>") && decide (own = C) else true) && (if kind = 0 then decide (i_tyOf ci k = .int) else if kind = 2 then decide (i_tyOf ci k = .boolean) else match i_tyOf ci k with
      | .object _ => true
      | .array _ => true
      | _ => false)
    | none => false
  | _ => true
def i_okC (own : String) (idx : Nat) (how : Nat) (r : List Nat) : Bool := match r with
  | [j, na, nest, p1, p2, p3, p4, p5] => match i_mt j with
    | some (y, bytes, maxL, ret, _, ci) =>
      (if nest = 0 then i_has p1 (.methodLink own idx y) else i_hasN p1 (.methodLinkNest own idx y "BellGround")) &&
      (if how = 1 then i_has p2 (.static y) else i_has p2 (.instanceMethod y)) &&
      (if how = 0 then i_has p3 (.selects y.cls y y) && (if ci = 90 then decide (y.cls = "java/lang/String") else match i_cls[ci]? with
        | some q => decide (q.1 = y.cls)
        | none => false) else true) &&
      (if how = 2 then decide (y.name = "<init>") && decide (ret = none) else true) &&
      i_has p4 (.initialized y.cls) && i_has p5 (.code y bytes maxL ret) && decide (maxL ≤ 30) &&
      decide (y.cls ≠ "java/lang/invoke/MethodHandle") && decide (y.cls ≠ "java/lang/invoke/VarHandle") && decide ((parseMethodDescriptor y.desc).map (fun d => d.parameters.length) = some na)
    | none => false
  | _ => true
def i_len : Instr → Nat
  | .bipush _ => 2
  | .ldc _ => 2
  | .iload _ => 2
  | .lload _ => 2
  | .aload _ => 2
  | .istore _ => 2
  | .lstore _ => 2
  | .astore _ => 2
  | .newarray _ => 2
  | .sipush _ => 3
  | .ldc_w _ => 3
  | .ldc2_w _ => 3
  | .getstatic _ => 3
  | .getfield _ => 3
  | .putfield _ => 3
  | .iinc _ _ => 3
  | .ifCond _ _ => 3
  | .if_icmp _ _ => 3
  | .goto _ => 3
  | .new _ => 3
  | .invokevirtual _ => 3
  | .invokespecial _ => 3
  | .invokestatic _ => 3
  | .tableswitch _ _ _ _ => 0
  | .lookupswitch _ _ => 0
  | _ => 1
def i_okR (own nm : String) (pc : Nat) (ins : Instr) (c : Value) (r : List Nat) (sw : List (Int32 × Nat)) (ret : Option FieldType) : Bool := match ins with
  | .iconst n => decide (c = .int (Int32.ofInt n))
  | .bipush n => decide (c = .int (Int8.ofInt n).toInt32)
  | .sipush n => decide (c = .int (Int16.ofInt n).toInt32)
  | .lconst n => decide (c = .long (Int64.ofNat (n : Nat)))
  | .iinc _ n => decide (c = .int (Int32.ofInt n))
  | .ldc idx => match r, c with
    | [0, p], .int v => i_has p (.constant own idx v)
    | [1, _], .ref q => decide (own = "BellGround$Tape") && decide (idx = 54) && decide (q = 105)
    | [], _ => true
    | _, _ => false
  | .ldc_w idx => match r, c with
    | [0, p], .int v => i_has p (.constant own idx v)
    | [], _ => true
    | _, _ => false
  | .ldc2_w idx => match r, c with
    | [p], .long v => i_has p (.constantLong own idx v)
    | [], _ => true
    | _, _ => false
  | .getstatic idx => match r, c with
    | [1, p], .ref q => decide (q = 101) && i_has p (.fieldLink own idx "BellGround" "MOST_OF" "[I")
    | [2, p], .ref q => decide (q = 102) && i_has p (.fieldLink own idx "BellGround$Bodies" "OWN" "[I")
    | [3, p], .ref q => decide (q = 103) && i_has p (.fieldLink own idx "BellGround$Bodies" "ABOVE" "[I")
    | [9, p], .int v => decide (v = 1) && i_has p (.fieldLink own idx "java/lang/String" "COMPACT_STRINGS" "Z")
    | [], _ => true
    | _, _ => false
  | .ifCond _ off => match r with
    | [t] => decide ((pc : Int) + off = (t : Int))
    | _ => true
  | .if_icmp _ off => match r with
    | [t] => decide ((pc : Int) + off = (t : Int))
    | _ => true
  | .goto off => match r with
    | [t] => decide ((pc : Int) + off = (t : Int))
    | _ => true
  | .tableswitch dflt lo hi offs => match r with
    | [d] => decide ((pc : Int) + dflt = (d : Int)) && decide (lo ≤ hi) && decide (-1000 < lo) && decide (hi < 1000) && decide (sw = (List.range (hi - lo + 1).toNat).map (fun i : Nat => (Int32.ofInt (lo + (i : Int)), ((pc : Int) + (offs[i]?).getD 0).toNat))) && decide (offs.size = (hi - lo + 1).toNat) && offs.toList.all (fun o => decide (0 ≤ (pc : Int) + o))
    | _ => true
  | .lookupswitch dflt ps => match r with
    | [d] => decide ((pc : Int) + dflt = (d : Int)) && (ps.toList.zip (ps.toList.drop 1)).all (fun (a, next) => a.1 < next.1) && decide (sw = ps.toList.map (fun q => (Int32.ofInt q.1, ((pc : Int) + q.2).toNat))) && ps.toList.all (fun q => decide (0 ≤ (pc : Int) + q.2) && decide (-1000 < q.1) && decide (q.1 < 1000))
    | _ => true
  | .getfield idx => i_okF own idx r
  | .putfield idx => i_okF own idx r && i_okP own nm r
  | .new idx => match r with
    | [ci, p1, p2, p3] => match i_cls[ci]? with
      | some (C, _, N) => i_has p1 (.classLink own idx C) && i_has p2 (.instantiable C N) && i_has p3 (.initialized C)
      | none => false
    | _ => true
  | .newarray ty => match r with
    | [tag, p] => i_has p (.arrayClass (newarray.typeOf ty)) && (match tag with
      | 0 => decide (ty = .int)
      | 1 => decide (ty = .long)
      | 2 => decide (ty = .boolean)
      | _ => false)
    | _ => true
  | .invokevirtual idx => i_okC own idx 0 r
  | .invokestatic idx => match r with
    | [_, p1, p2, p3, p4] => i_has p1 (.methodLink own idx arraycopyName) && i_has p2 (.native arraycopyName) && i_has p3 (.static arraycopyName) && i_has p4 (.initialized "java/lang/System")
    | [k, p1, p2, p3, p4, _] => i_has p3 (.initialized "java/lang/Math") && (match k with
      | 1 => i_has p1 (.methodLink own idx Lib.Math.max.name) && i_has p2 (.static Lib.Math.max.name) && i_has p4 (.code Lib.Math.max.name Lib.Math.max.code 2 (some .int))
      | 2 => i_has p1 (.methodLink own idx Lib.Math.min.name) && i_has p2 (.static Lib.Math.min.name) && i_has p4 (.code Lib.Math.min.name Lib.Math.min.code 2 (some .int))
      | 3 => i_has p1 (.methodLink own idx Lib.Math.abs.name) && i_has p2 (.static Lib.Math.abs.name) && i_has p4 (.code Lib.Math.abs.name Lib.Math.abs.code 1 (some .int))
      | _ => false)
    | _ => i_okC own idx 1 r
  | .invokespecial idx => match r with
    | [_, p1, p2, p3] => i_has p1 (.methodLink own idx objectInit) && i_has p2 (.instanceMethod objectInit) && i_has p3 (.code objectInit object_method_1_code 1 none)
    | _ => i_okC own idx 2 r
  | .ireturn => match r with
    | [1] => decide (ret = some .int)
    | [2] => decide (ret = some .boolean)
    | [4] => decide (ret = some .byte)
    | _ => false
  | .lreturn => decide (ret = some .long)
  | .return_ => decide (ret = none)
  | _ => true
def i_okE (own nm : String) (bytes : ByteArray) (ret : Option FieldType) (e : I_En) : Bool :=
  decide (decode bytes e.1 = .ok (e.2.1, e.2.2.1)) && (decide (i_len e.2.1 = 0) || decide (e.2.2.1 = i_len e.2.1)) && i_okR own nm e.1 e.2.1 e.2.2.2.1 e.2.2.2.2.1 e.2.2.2.2.2 ret
def i_okM (e : I_Row) : Bool := e.2.2.2.2.1.all (i_okE e.1.cls e.1.name e.2.1 e.2.2.2.1) && plainName e.1.cls && decide (e.2.2.1 ≤ 30)
end
section
theorem i_ok {j : Nat} {e : I_Row} (h : i_mt j = some e) : i_okM e = true := sorry
end
section
/-! ===== part 06: a state of the small machine as a picture of the heap ===== -/
/-- where the cells begin; where the things outside lie; the classes of int, long, boolean arrays -/
abbrev I_G : Type := Nat × (Nat → Nat) × ClassId × ClassId × ClassId
def i_ad (G : I_G) (k : Nat) : Nat := if k < 100 then G.1 + k else G.2.1 k
def i_cv (G : I_G) : Value → Value
  | .ref k => .ref (i_ad G k)
  | v => v
theorem i_cv_cat (G : I_G) (v : Value) : (i_cv G v).category = v.category := by cases v <;> rfl
theorem i_cv_sum (G : I_G) (st : List Value) : ((st.map (i_cv G)).map fun v => v.category).sum = (st.map fun v => v.category).sum := by
  rw [List.map_map]
  congr 1
  exact List.map_congr_left (fun v _ => i_cv_cat G v)
def i_fld (G : I_G) (ci : Nat) (row : Nat → Int32) (refs : List (Option Nat)) (k : Nat) : Value :=
  if i_isR ci k = true then (match refs[k]? with
    | some (some a) => .ref (i_ad G a)
    | _ => .null) else .int (row k)
def i_cell (G : I_G) (row : Nat → Int32) (rowL : Nat → Int64) (sh : I_Sh) : va_E :=
  if sh.1 = 0 then .inl (G.2.2.1, sh.2.1, .inl row)
  else if sh.1 = 1 then .inl (G.2.2.2.1, sh.2.1, .inr (.inl rowL))
  else if sh.1 = 2 then .inl (G.2.2.2.2, sh.2.1, .inl row)
  else .inr (sh.1 - 10, (List.range sh.2.1).map (i_fld G (sh.1 - 10) row sh.2.2))
def i_ws (G : I_G) (S : I_St) : va_W := S.1.mapIdx (fun q sh => (G.1 + q, i_cell G (S.2.1 q) (S.2.2.1 q) sh))
def i_A (G : I_G) : Nat → Prop := fun a => G.1 ≤ a
/-- the shapes are shapes -/
def i_wf1 (sh : I_Sh) : Prop := sh.1 = 0 ∨ sh.1 = 1 ∨ sh.1 = 2 ∨ ∃ ci, sh.1 = 10 + ci ∧ sh.2.1 = i_nth ci ∧ sh.2.2.length = i_nth ci
def i_wf (S : I_St) : Prop := ∀ (q : Nat) (sh : I_Sh), S.1[q]? = some sh → i_wf1 sh
def i_P (D : va_G) (G : I_G) (S : I_St) (H : Heap) : Prop := va_P D i_cls (i_ws G S) H ∧ H.size = G.1 + S.1.length ∧ S.1.length ≤ 100 ∧ i_wf S
theorem i_ws_get (G : I_G) (S : I_St) (q : Nat) : (i_ws G S)[q]? = (S.1[q]?).map (fun sh => (G.1 + q, i_cell G (S.2.1 q) (S.2.2.1 q) sh)) := by
  simp [i_ws]
theorem i_ws_some {G : I_G} {S : I_St} {q : Nat} {sh : I_Sh} (h : S.1[q]? = some sh) : (i_ws G S)[q]? = some (G.1 + q, i_cell G (S.2.1 q) (S.2.2.1 q) sh) := by
  rw [i_ws_get, h]; rfl
theorem i_ws_D (G : I_G) (S : I_St) : va_D (i_A G) (i_ws G S) := by
  refine ⟨fun i j p q hi hj hpq => ?_, fun k q hk => ?_⟩
  · rw [i_ws_get] at hi hj
    cases h1 : S.1[i]? with
    | none => rw [h1] at hi; cases hi
    | some a =>
      cases h2 : S.1[j]? with
      | none => rw [h2] at hj; cases hj
      | some b =>
        rw [h1] at hi; rw [h2] at hj
        cases hi; cases hj
        exact Nat.add_left_cancel hpq
  · rw [i_ws_get] at hk
    cases h1 : S.1[k]? with
    | none => rw [h1] at hk; cases hk
    | some a =>
      rw [h1] at hk
      cases hk
      exact Nat.le_add_right _ _
theorem i_ad_lt {G : I_G} {D : va_G} {S : I_St} {H : Heap} (hP : i_P D G S H) {q : Nat} {sh : I_Sh} (h : S.1[q]? = some sh) : i_ad G q = G.1 + q := by
  have h1 : q < S.1.length := (List.getElem?_eq_some_iff.mp h).1
  have h2 := hP.2.2.1
  unfold i_ad
  rw [if_pos (by omega)]
theorem i_ws_set {G : I_G} {S S' : I_St} {q : Nat} {sh sh' : I_Sh} (h : S.1[q]? = some sh) (h1 : S'.1 = S.1.set q sh') (h2 : ∀ i, i ≠ q → S'.2.1 i = S.2.1 i) (h3 : ∀ i, i ≠ q → S'.2.2.1 i = S.2.2.1 i) : i_ws G S' = (i_ws G S).set q (G.1 + q, i_cell G (S'.2.1 q) (S'.2.2.1 q) sh') := by
  have hl : q < S.1.length := (List.getElem?_eq_some_iff.mp h).1
  apply List.ext_getElem?
  intro i
  rw [i_ws_get, h1, List.getElem?_set]
  by_cases hi : q = i
  · subst hi
    rw [if_pos rfl, if_pos hl, List.getElem?_set_self (by simp [i_ws, hl])]
    rfl
  · rw [if_neg hi, List.getElem?_set_ne hi, i_ws_get, h2 i (Ne.symm hi), h3 i (Ne.symm hi)]
theorem i_set_same {S : I_St} {q : Nat} {sh : I_Sh} (h : S.1[q]? = some sh) : S.1 = S.1.set q sh := by
  apply List.ext_getElem?
  intro i
  rw [List.getElem?_set]
  by_cases hi : q = i
  · subst hi
    rw [if_pos rfl, if_pos (List.getElem?_eq_some_iff.mp h).1, h]
  · rw [if_neg hi]
/-- one cell has changed -/
theorem i_P_set {D : va_G} {G : I_G} {S S' : I_St} {H H1 : Heap} {q : Nat} {sh sh' : I_Sh} (hP : i_P D G S H) (h : S.1[q]? = some sh) (h1 : S'.1 = S.1.set q sh') (h2 : ∀ i, i ≠ q → S'.2.1 i = S.2.1 i) (h3 : ∀ i, i ≠ q → S'.2.2.1 i = S.2.2.1 i) (hw : i_wf1 sh')
    (he : va_at D i_cls (G.1 + q, i_cell G (S'.2.1 q) (S'.2.2.1 q) sh') H1) (z : H1.size = H.size) (oq : ∀ x : Nat, x ≠ G.1 + q → H1[x]? = H[x]?) : i_P D G S' H1 := by
  obtain ⟨p1, p2, p3, p4⟩ := hP
  have hlen : S'.1.length = S.1.length := by rw [h1, List.length_set]
  refine ⟨?_, by rw [z, p2, hlen], by rw [hlen]; exact p3, fun k x hk => ?_⟩
  · rw [i_ws_set h h1 h2 h3]
    exact p1.set (i_ws_D G S) (i_ws_some h) he oq
  · rw [h1, List.getElem?_set] at hk
    by_cases hq : q = k
    · subst hq
      rw [if_pos rfl] at hk
      split at hk
      · cases hk; exact hw
      · cases hk
    · rw [if_neg hq] at hk
      exact p4 k x hk
/-- one cell has come -/
theorem i_P_push {D : va_G} {G : I_G} {S S' : I_St} {H H1 : Heap} {sh' : I_Sh} (hP : i_P D G S H) (hl : S.1.length < 100) (h1 : S'.1 = S.1 ++ [sh']) (h2 : ∀ i, i < S.1.length → S'.2.1 i = S.2.1 i) (h3 : ∀ i, i < S.1.length → S'.2.2.1 i = S.2.2.1 i) (hw : i_wf1 sh')
    (he : va_at D i_cls (G.1 + S.1.length, i_cell G (S'.2.1 S.1.length) (S'.2.2.1 S.1.length) sh') H1) (z : H1.size = H.size + 1) (oq : ∀ x : Nat, x < H.size → H1[x]? = H[x]?) : i_P D G S' H1 := by
  obtain ⟨p1, p2, p3, p4⟩ := hP
  have hlen : S'.1.length = S.1.length + 1 := by rw [h1]; simp
  refine ⟨?_, by rw [z, p2, hlen]; omega, by omega, fun k x hk => ?_⟩
  · intro k x hk
    rw [i_ws_get, h1] at hk
    by_cases hq : k < S.1.length
    · rw [List.getElem?_append_left hq, h2 k hq, h3 k hq, ← i_ws_get] at hk
      have hat := p1 k x hk
      exact hat.kept (oq _ hat.lt)
    · rw [List.getElem?_append_right (by omega)] at hk
      have hz : k - S.1.length = 0 := by
        rcases Nat.eq_zero_or_pos (k - S.1.length) with h | h
        · exact h
        · rw [List.getElem?_eq_none (by simp; omega)] at hk
          cases hk
      have hk2 : k = S.1.length := by omega
      rw [hz] at hk
      subst hk2
      cases hk
      exact he
  · rw [h1] at hk
    by_cases hq : k < S.1.length
    · rw [List.getElem?_append_left hq] at hk
      exact p4 k x hk
    · rw [List.getElem?_append_right (by omega)] at hk
      have hm := List.mem_of_getElem? hk
      rw [List.mem_singleton] at hm
      rw [hm]; exact hw
/-! locals -/
def i_L (G : I_G) (ls : Array Slot) (nL : Nat) (lv : List (Option Value)) : Prop := lv.length = nL ∧ ls.size = nL ∧ lv_wf ls ∧ ∀ (i : Nat) (v : Value), lv[i]? = some (some v) → ls[i]? = some (.val (i_cv G v))
theorem i_get_some {lv : List (Option Value)} {i : Nat} {v : Value} (h : i_get lv i = some v) : lv[i]? = some (some v) := by
  unfold i_get at h
  cases hx : lv[i]? with
  | none => rw [hx] at h; cases h
  | some o => rw [hx] at h; rw [show o = some v from h]
def i_as (G : I_G) (lv : List (Option Value)) : List (Nat × Value) := lv.zipIdx.filterMap (fun q => q.1.map (fun v => (q.2, i_cv G v)))
theorem i_as_mem {G : I_G} {lv : List (Option Value)} {q : Nat × Value} : q ∈ i_as G lv ↔ ∃ v, lv[q.1]? = some (some v) ∧ q.2 = i_cv G v := by
  unfold i_as
  rw [List.mem_filterMap]
  constructor
  · rintro ⟨⟨o, i⟩, hm, he⟩
    have hg := List.mk_mem_zipIdx_iff_getElem?.mp hm
    cases o with
    | none => cases he
    | some v =>
      cases he
      exact ⟨v, hg, rfl⟩
  · rintro ⟨v, h1, h2⟩
    refine ⟨(some v, q.1), List.mk_mem_zipIdx_iff_getElem?.mpr h1, ?_⟩
    show some (q.1, i_cv G v) = some q
    rw [← h2]
theorem i_L.has {G : I_G} {ls : Array Slot} {nL : Nat} {lv : List (Option Value)} (h : i_L G ls nL lv) : lv_has ls nL (i_as G lv) := by
  refine ⟨h.2.1, h.2.2.1, fun q hq => ?_⟩
  obtain ⟨v, h1, h2⟩ := i_as_mem.mp hq
  rw [h2]
  exact h.2.2.2 _ _ h1
theorem i_clr_get {lv : List (Option Value)} {k j : Nat} {w : Value} (h : (i_clr lv k)[j]? = some (some w)) : lv[j]? = some (some w) ∧ ¬ (j = k ∧ w.category = 2) := by
  have key : ∀ l2 : List (Option Value), l2 = lv.set k none → l2[j]? = some (some w) → lv[j]? = some (some w) ∧ ¬ (j = k ∧ w.category = 2) := by
    intro l2 h2 h
    rw [h2, List.getElem?_set] at h
    by_cases hj : k = j
    · rw [if_pos hj] at h
      split at h <;> cases h
    · rw [if_neg hj] at h
      exact ⟨h, fun q => hj q.1.symm⟩
  unfold i_clr at h
  split at h
  · exact key _ rfl h
  · exact key _ rfl h
  · rename_i h1 h2
    refine ⟨h, fun q => ?_⟩
    obtain ⟨q1, q2⟩ := q
    subst q1
    have hg : i_get lv j = some w := by unfold i_get; rw [h]; rfl
    cases w with
    | long x => exact h1 x hg
    | double x => exact h2 x hg
    | _ => simp [Value.category] at q2
theorem i_clr_len (lv : List (Option Value)) (k : Nat) : (i_clr lv k).length = lv.length := by
  unfold i_clr
  split <;> simp
theorem i_st1_len (lv : List (Option Value)) (i : Nat) (v : Value) : (i_st1 lv i v).length = lv.length := by
  unfold i_st1
  split
  · simp
  · simp [i_clr_len]
theorem i_st1_get {lv : List (Option Value)} {i j : Nat} {v w : Value} (h : (i_st1 lv i v)[j]? = some (some w)) : (j = i ∧ w = v) ∨ (j ≠ i ∧ lv[j]? = some (some w) ∧ ¬ (j + 1 = i ∧ w.category = 2)) := by
  unfold i_st1 at h
  split at h
  · rw [List.getElem?_set] at h
    by_cases hj : 0 = j
    · rw [if_pos hj] at h
      split at h
      · cases h; exact Or.inl ⟨hj.symm, rfl⟩
      · cases h
    · rw [if_neg hj] at h
      exact Or.inr ⟨fun q => hj q.symm, h, fun q => by omega⟩
  · rename_i k
    rw [List.getElem?_set] at h
    by_cases hj : k + 1 = j
    · rw [if_pos hj] at h
      split at h
      · cases h; exact Or.inl ⟨hj.symm, rfl⟩
      · cases h
    · rw [if_neg hj] at h
      obtain ⟨g1, g2⟩ := i_clr_get h
      exact Or.inr ⟨fun q => hj q.symm, g1, fun q => g2 ⟨by omega, q.2⟩⟩
theorem i_L_st1 {G : I_G} {ls ls' : Array Slot} {nL : Nat} {lv : List (Option Value)} {i : Nat} {v : Value} (h : i_L G ls nL lv) (h' : lv_has ls' nL ((i, i_cv G v) :: (i_as G lv).filter (fun q => !(q.1 == i) && !(q.1 + 1 == i && q.2.category == 2)))) : i_L G ls' nL (i_st1 lv i v) := by
  refine ⟨by rw [i_st1_len]; exact h.1, h'.1, h'.2.1, fun j w hw => ?_⟩
  refine h'.2.2 (j, i_cv G w) ?_
  rcases i_st1_get hw with ⟨rfl, rfl⟩ | ⟨h1, h2, h3⟩
  · exact List.mem_cons_self
  · refine List.mem_cons_of_mem _ (List.mem_filter.mpr ⟨i_as_mem.mpr ⟨w, h2, rfl⟩, ?_⟩)
    rw [i_cv_cat]
    simp only [Bool.and_eq_true, Bool.not_eq_true', beq_eq_false_iff_ne, ne_eq, Bool.and_eq_false_iff]
    refine ⟨h1, ?_⟩
    by_cases hj : j + 1 = i
    · exact Or.inr (fun q => h3 ⟨hj, q⟩)
    · exact Or.inl hj
theorem i_L_st2 {G : I_G} {ls ls' : Array Slot} {nL : Nat} {lv : List (Option Value)} {i : Nat} {v : Value} (h : i_L G ls nL lv) (h' : lv_has ls' nL ((i, i_cv G v) :: (i_as G lv).filter (fun q => !(q.1 == i) && (!(q.1 == i + 1) && !(q.1 + 1 == i && q.2.category == 2))))) : i_L G ls' nL (i_st2 lv i v) := by
  refine ⟨by unfold i_st2; rw [List.length_set, i_st1_len]; exact h.1, h'.1, h'.2.1, fun j w hw => ?_⟩
  refine h'.2.2 (j, i_cv G w) ?_
  unfold i_st2 at hw
  rw [List.getElem?_set] at hw
  by_cases hj : i + 1 = j
  · rw [if_pos hj] at hw
    split at hw <;> cases hw
  · rw [if_neg hj] at hw
    rcases i_st1_get hw with ⟨rfl, rfl⟩ | ⟨h1, h2, h3⟩
    · exact List.mem_cons_self
    · refine List.mem_cons_of_mem _ (List.mem_filter.mpr ⟨i_as_mem.mpr ⟨w, h2, rfl⟩, ?_⟩)
      rw [i_cv_cat]
      simp only [Bool.and_eq_true, Bool.not_eq_true', beq_eq_false_iff_ne, ne_eq, Bool.and_eq_false_iff]
      refine ⟨h1, fun q => hj q.symm, ?_⟩
      by_cases hj : j + 1 = i
      · exact Or.inr (fun q => h3 ⟨hj, q⟩)
      · exact Or.inl hj
/-! what stands outside, and what the tables say of the state -/
def i_K (D : va_G) (G : I_G) (U : State) : Prop := va_K D i_cls [(G.2.2.1, .int), (G.2.2.2.1, .long), (G.2.2.2.2, .boolean)] U ∧ (∀ w ∈ i_NW, va_Nw w U) ∧ vk_R "BellGround$Tape" 54 "dgqzswf" (G.2.1 105) U
def i_E (G : I_G) (X : Nat × (Nat → Int32)) (U : State) (H : Heap) : Prop :=
  (∀ (q t n : Nat) (f : Nat → Int32), i_ext X q = some (t, n, f) → va_T (if t = 0 then .int else .byte) (G.2.1 q) n (fun j => .int (f j)) (i_A G) U H) ∧
  va_Z "BellGround" "MOST_OF" "[I" (.ref (G.2.1 101)) (i_A G) U H ∧ va_Z "BellGround$Bodies" "OWN" "[I" (.ref (G.2.1 102)) (i_A G) U H ∧ va_Z "BellGround$Bodies" "ABOVE" "[I" (.ref (G.2.1 103)) (i_A G) U H ∧ va_Z "java/lang/String" "COMPACT_STRINGS" "Z" (.int 1) (i_A G) U H ∧
  va_O "java/lang/String" (G.2.1 105) (i_A G) U H ∧ va_OF "java/lang/String" "coder" "B" (.int 0) (G.2.1 105) (i_A G) U H ∧ va_OF "java/lang/String" "value" "[B" (.ref (G.2.1 104)) (G.2.1 105) (i_A G) U H
theorem i_E.moved {G : I_G} {X : Nat × (Nat → Int32)} {u U : State} {H : Heap} (hvm : u.vm.Alike U.vm) (h : i_E G X u H) : i_E G X U H :=
  ⟨fun q t n f hq => va_T.moved hvm (h.1 q t n f hq), va_Z.moved hvm h.2.1, va_Z.moved hvm h.2.2.1, va_Z.moved hvm h.2.2.2.1, va_Z.moved hvm h.2.2.2.2.1, va_O.moved hvm h.2.2.2.2.2.1, va_OF.moved hvm h.2.2.2.2.2.2.1, va_OF.moved hvm h.2.2.2.2.2.2.2⟩
theorem i_E.kept {G : I_G} {X : Nat × (Nat → Int32)} {U : State} {H H1 : Heap} (h : i_E G X U H) (hq : ∀ a : Nat, a < H.size → ¬ i_A G a → H1[a]? = H[a]?) : i_E G X U H1 :=
  ⟨fun q t n f e => va_T.kept (h.1 q t n f e) hq, va_Z.kept h.2.1 hq, va_Z.kept h.2.2.1 hq, va_Z.kept h.2.2.2.1 hq, va_Z.kept h.2.2.2.2.1 hq, va_O.kept h.2.2.2.2.2.1 hq, va_OF.kept h.2.2.2.2.2.2.1 hq, va_OF.kept h.2.2.2.2.2.2.2 hq⟩
theorem i_nest {w : Jvm.Cond} (h : i_isNest w = true) : (∃ a i b n d h', w = .fieldLinkNest a i b n d h') ∨ ∃ a i x h', w = .methodLinkNest a i x h' := by
  cases w <;> first | (simp [i_isNest] at h; done) | exact Or.inl ⟨_, _, _, _, _, _, rfl⟩ | exact Or.inr ⟨_, _, _, _, rfl⟩
theorem i_K.warm {D : va_G} {G : I_G} {s U : State} (hW : s.WarmedH U.vm) (h : i_K D G s) : i_K D G U := by
  refine ⟨va_K.moved hW.alike h.1, fun w hw => ?_, vk_R.warm hW h.2.2⟩
  have h1 := h.2.1 w hw
  rcases i_nest (List.mem_filter.mp hw).2 with ⟨a, i, b, n, d, h', rfl⟩ | ⟨a, i, x, h', rfl⟩
  · exact va_Nw.warmF hW h1
  · exact va_Nw.warmM hW h1
theorem i_K.same {D : va_G} {G : I_G} {u U : State} (hv : u.vm = U.vm) (h : i_K D G u) : i_K D G U := by
  refine ⟨va_K.moved (by rw [hv]; exact Vm.Alike.refl U.vm) h.1, fun w hw => ?_, vk_R.same hv.symm h.2.2⟩
  have h1 := h.2.1 w hw
  rcases i_nest (List.mem_filter.mp hw).2 with ⟨a, i, b, n, d, h', rfl⟩ | ⟨a, i, x, h', rfl⟩
  · exact va_Nw.same rfl hv h1
  · exact va_Nw.same rfl hv h1
end
section
/-! ===== part 07: one step of the small machine is a step of the machine ===== -/
def i_lp : List (List Nat) := [[2119, 2121, 2123, 2125, 2127], [1172, 1174, 1176, 1178, 1180, 1182, 1184, 1186, 1188], [2072, 2074, 2076, 2078, 2080, 2082], [1209, 1211, 1213, 1215], [1069, 1071, 1073, 1075, 1077, 1079, 1081, 1083, 1085, 1087], [1132, 1134, 1136, 1138, 1140, 1142, 1144], [2045, 2047, 2049, 2051], [2005, 2007, 2009, 2011, 2013, 2015, 2017, 2019, 2021, 2023, 2025, 2027, 2029, 2031], [2144, 2146, 2148, 2150], [1106, 1108, 1110, 1112, 1114, 1116], [2097, 2099, 2101], [2169, 2171, 2173, 2175, 2177, 2179, 2181, 2183, 2185, 2187, 2189, 2191, 2193, 2195, 2197], [6025, 6027, 6029, 6031, 6033, 6035, 6037, 6039, 6041, 6043, 6045, 6047, 6049, 6051, 6053, 6055, 6057, 6059, 6061, 6063, 6065, 6067, 6069, 6071, 6073, 6075, 6077, 6079, 6081, 6083, 6085, 6087, 6089, 6091, 6093, 6095, 6097, 6099, 6101, 6103, 6105, 6107, 6109, 6111, 6113, 6115, 6117, 6119, 6121, 6123, 6125, 6127, 6129, 6131, 6133, 6135]]
def i_layok : Bool := (List.range i_cls.length).all fun ci => match i_cls[ci]? with
  | some (C, Tb, N) => (List.range N).all fun k => i_has (((i_lp[ci]?).getD [])[k]?.getD 0) (u_lay C Tb k)
  | none => true
set_option maxRecDepth 100000 in
theorem i_layok_true : i_layok = true := by decide +kernel
theorem i_lays {ci : Nat} {C : String} {Tb : u_T} {N : Nat} (h : i_cls[ci]? = some (C, Tb, N)) : ∀ w ∈ u_ws C Tb N, w ∈ i_W0 := by
  intro w hw
  obtain ⟨k, hk, rfl⟩ := List.mem_map.mp hw
  have hl : ci < i_cls.length := (List.getElem?_eq_some_iff.mp h).1
  have h1 := List.all_eq_true.mp i_layok_true ci (List.mem_range.mpr hl)
  rw [h] at h1
  exact i_has_in (List.all_eq_true.mp h1 k hk)
theorem i_clsT {ci : Nat} {C : String} {Tb : u_T} {N : Nat} (h : i_cls[ci]? = some (C, Tb, N)) : (∀ k, k < N → parseFieldDescriptor (Tb k).2.2.1 = some (i_tyOf ci k)) ∧ (∀ a, a < N → ∀ b, b < N → a ≠ b → (Tb a).2.1 ≠ (Tb b).2.1) := by
  match ci, h with
  | 0, h => cases h; exact ⟨tyX0_ok, nmX0⟩
  | 1, h => cases h; exact ⟨tyX1_ok, nmX1⟩
  | 2, h => cases h; exact ⟨tyX2_ok, nmX2⟩
  | 3, h => cases h; exact ⟨tyX3_ok, nmX3⟩
  | 4, h => cases h; exact ⟨tyX4_ok, nmX4⟩
  | 5, h => cases h; exact ⟨tyX5_ok, nmX5⟩
  | 6, h => cases h; exact ⟨tyX6_ok, nmX6⟩
  | 7, h => cases h; exact ⟨tyX7_ok, nmX7⟩
  | 8, h => cases h; exact ⟨tyX8_ok, nmX8⟩
  | 9, h => cases h; exact ⟨tyX9_ok, nmX9⟩
  | 10, h => cases h; exact ⟨tyX10_ok, nmX10⟩
  | 11, h => cases h; exact ⟨tyX11_ok, nmX11⟩
  | 12, h => cases h; exact ⟨tyX12_ok, nmX12⟩
  | n + 13, h => simp [i_cls] at h
theorem i_nth_of {ci : Nat} {C : String} {Tb : u_T} {N : Nat} (h : i_cls[ci]? = some (C, Tb, N)) : i_nth ci = N := by
  unfold i_nth; rw [h]
theorem i_cell_obj {G : I_G} {row : Nat → Int32} {rowL : Nat → Int64} {sh : I_Sh} {ci : Nat} (h : sh.1 = 10 + ci) : i_cell G row rowL sh = .inr (ci, (List.range sh.2.1).map (i_fld G ci row sh.2.2)) := by
  unfold i_cell
  rw [if_neg (by omega), if_neg (by omega), if_neg (by omega), h, show 10 + ci - 10 = ci by omega]
theorem i_cell_0 {G : I_G} {row : Nat → Int32} {rowL : Nat → Int64} {sh : I_Sh} (h : sh.1 = 0) : i_cell G row rowL sh = .inl (G.2.2.1, sh.2.1, .inl row) := by
  unfold i_cell; rw [if_pos h]
theorem i_cell_1 {G : I_G} {row : Nat → Int32} {rowL : Nat → Int64} {sh : I_Sh} (h : sh.1 = 1) : i_cell G row rowL sh = .inl (G.2.2.2.1, sh.2.1, .inr (.inl rowL)) := by
  unfold i_cell; rw [if_neg (by omega), if_pos h]
theorem i_cell_2 {G : I_G} {row : Nat → Int32} {rowL : Nat → Int64} {sh : I_Sh} (h : sh.1 = 2) : i_cell G row rowL sh = .inl (G.2.2.2.2, sh.2.1, .inl row) := by
  unfold i_cell; rw [if_neg (by omega), if_neg (by omega), if_pos h]
def i_sl (S : I_St) : Nat := (S.1.map fun sh => sh.2.1).sum
theorem i_upI_ne {f : Nat → Nat → Int32} {q k i : Nat} {v : Int32} (h : i ≠ q) : i_upI f q k v i = f i := by
  unfold i_upI i_row; rw [if_neg h]
theorem i_upI_eq {f : Nat → Nat → Int32} {q k : Nat} {v : Int32} : i_upI f q k v q = upd (f q) k v := by
  unfold i_upI i_row; rw [if_pos rfl]
theorem i_upL_ne {f : Nat → Nat → Int64} {q k i : Nat} {v : Int64} (h : i ≠ q) : i_upL f q k v i = f i := by
  unfold i_upL i_row; rw [if_neg h]
theorem i_upL_eq {f : Nat → Nat → Int64} {q k : Nat} {v : Int64} : i_upL f q k v q = vp_updL (f q) k v := by
  unfold i_upL i_row; rw [if_pos rfl]
theorem i_row_ne {α : Type} {f : Nat → α} {q i : Nat} {g : α} (h : i ≠ q) : i_row f q g i = f i := by
  unfold i_row; rw [if_neg h]
theorem i_row_eq {α : Type} {f : Nat → α} {q : Nat} {g : α} : i_row f q g q = g := by
  unfold i_row; rw [if_pos rfl]
/-- a frame of a method of ours, from its start on -/
def i_Fr (p : Program) (s : State) (m : MethodId) (args : Array Value) (meth : Method) (c : Code) (cc : ByteArray) (D : va_G) (G : I_G) (own nm : String) (nL : Nat) (ret : Option FieldType) (X : Nat × (Nat → Int32)) : Prop :=
  p.tables.exec = Jvm.exec ∧ c.code = cc ∧ meth.sig.returnType = ret ∧ meth.locks = false ∧ c.maxLocals = nL ∧ s.vm.findClass own = some m.cls ∧ meth.name = nm ∧ (∀ w ∈ i_W0, w.before args s = true) ∧ i_K D G s ∧ i_E G X s s.heap ∧ G.1 ≤ s.heap.size
/-- the goal behind a step -/
def i_KK (p : Program) (l : Launch) (e : Env) (R : Room) (s : State) (m : MethodId) (args : Array Value) (below : List Frame) (meth : Method) (c : Code) (cells slots : Nat) (Q : State → Prop) (D : va_G) (G : I_G) (nL : Nat) (S : I_St) (cf : I_Cf) : Prop :=
  ∀ (ls' : Array Slot) (H' : Heap) (locs' : List Loc) (cells' slots' : Nat), cells' + S.1.length = cells + cf.2.2.2.1.length → slots' + i_sl S = slots + i_sl cf.2.2.2 → i_L G ls' nL cf.2.1 → i_P D G cf.2.2.2 H' → va_S (i_A G) s.heap H' locs' →
    W p l e R s m args below meth c H' locs' cells' slots' Q (F0 m cf.1 ls' (cf.2.2.1.map (i_cv G)))
section ISIM
variable {p : Program} {l : Launch} {e : Env} {R : Room} {s : State} {m : MethodId} {args : Array Value} {below : List Frame} {meth : Method} {c : Code} {H : Heap} {locs : List Loc} {cells slots : Nat} {Q : State → Prop}
variable {cc : ByteArray} {D : va_G} {G : I_G} {own nm : String} {nL : Nat} {ret : Option FieldType} {X : Nat × (Nat → Int32)} {pc : Nat} {ls : Array Slot} {lv : List (Option Value)} {stk : List Value} {S : I_St} {cf : I_Cf}
/-- a step that leaves cells and locals -/
theorem i_pure {pc' : Nat} {stk' : List Value} (hL : i_L G ls nL lv) (hP : i_P D G S H) (hS : va_S (i_A G) s.heap H locs) (kk : i_KK p l e R s m args below meth c cells slots Q D G nL S (pc', lv, stk', S)) : W p l e R s m args below meth c H locs cells slots Q (F0 m pc' ls (stk'.map (i_cv G))) :=
  kk ls H locs cells slots rfl rfl hL hP hS
/-- a field is written -/
theorem i_putcore {Ts : List Jvm.Cond} (hts : ∀ w ∈ Ts, w.before args s = true) (hP : i_P D G S H) (hS : va_S (i_A G) s.heap H locs) (hK : i_K D G s) {C : String} {Tb : u_T} {N ci k q : Nat} {sh : I_Sh} (hc : i_cls[ci]? = some (C, Tb, N)) (hin : ∀ w ∈ u_ws C Tb N, w ∈ Ts) (hk : k < N) (hq : S.1[q]? = some sh) (hsh : sh.1 = 10 + ci) {v : Value} {S' : I_St} {sh' : I_Sh}
    (h1 : S'.1 = S.1.set q sh') (h2 : ∀ i, i ≠ q → S'.2.1 i = S.2.1 i) (h3 : ∀ i, i ≠ q → S'.2.2.1 i = S.2.2.1 i) (hs1 : sh'.1 = 10 + ci) (hs2 : sh'.2.1 = sh.2.1) (hs3 : sh'.2.2.length = sh.2.2.length)
    (hf : ∀ j, j < N → i_fld G ci (S'.2.1 q) sh'.2.2 j = if j = k then i_cv G v else i_fld G ci (S.2.1 q) sh.2.2 j) (hn : narrow (i_tyOf ci k) (i_cv G v) = i_cv G v) (hfit : fits (i_tyOf ci k) (i_cv G v) = true) {rest : List Value} {pc' : Nat}
    (row : ∀ (cf' : Nat) (kf : Class) (fi : Nat) (f : Field) (cell : Cell), s.fieldFound? (Tb k).1 (Tb k).2.1 (Tb k).2.2.1 = some (cf', kf, fi, f) → f.isStatic = false → H[G.1 + q]? = some cell → cell.vm = .none → f.slot < cell.slots.size → narrow f.type (i_cv G v) = i_cv G v → s.fitsSlot cell.cls cell.vm f.slot (i_cv G v) = true → ((Tb k).2.2.2 = false → k2_Sd s f cell.cls (i_cv G v)) →
      (∀ H' : Heap, H'[G.1 + q]? = some (cell.setSlot f.slot (i_cv G v)) → H'.size = H.size → (∀ x, x ≠ G.1 + q → H'[x]? = H[x]?) → W p l e R s m args below meth c H' (locs ++ [⟨G.1 + q, f.slot⟩]) cells slots Q (F0 m pc' ls (rest.map (i_cv G)))) → W p l e R s m args below meth c H locs cells slots Q (F0 m pc ls (i_cv G v :: .ref (G.1 + q) :: rest.map (i_cv G))))
    (hL : i_L G ls nL lv) (hlen : S'.1.length = S.1.length) (hsl : i_sl S' = i_sl S) (kk : i_KK p l e R s m args below meth c cells slots Q D G nL S (pc', lv, rest, S')) : W p l e R s m args below meth c H locs cells slots Q (F0 m pc ls (i_cv G v :: .ref (G.1 + q) :: rest.map (i_cv G))) := by
  have hT := i_clsT hc
  have hap := va_apart (own := "") hts hin (i_tyOf ci) hT.1 hT.2 hK.1 hc
  have he := i_ws_some (G := G) hq
  rw [i_cell_obj hsh] at he
  have hwf := hP.2.2.2 q sh hq
  have hN : sh.2.1 = N := by
    rcases hwf with h | h | h | ⟨ci', h, h', -⟩
    · omega
    · omega
    · omega
    · rw [h', show ci' = ci by omega, i_nth_of hc]
  obtain ⟨r, g1, cell, q1, q2, q3, q4⟩ := hP.1 q _ he
  have hr : r = (C, Tb, N) := Option.some.inj (g1.symm.trans hc)
  subst hr
  obtain ⟨hSl, hfc, kC, hkC, hkind⟩ := hK.1.1 ci _ hc
  obtain ⟨cf', kf, fi, f, hi, hsl2⟩ := hSl k hk
  have hst := (u_facts hfc hkC (u_lays hts hin hk) hi).1
  have hfit2 := u_fits hfc hkC hkind (u_lays hts hin hk) hi (hT.1 k hk) hn hfit
  refine row cf' kf fi f cell hi hst q1 q3 (by rw [hsl2]; exact k2_hasslot (q4 k hk)) hfit2.1 (by rw [q2, q3]; exact hfit2.2) (fun hfin => ?_) (fun H' e1 e2 e3 => ?_)
  · have hlay := hts _ (hin _ (u_in_lay hk))
    unfold u_lay at hlay
    rw [if_neg (by rw [hfin]; decide)] at hlay
    rw [q2]
    exact u_store hfc hkC hkind hlay hi (hT.1 k hk) hn hfit
  · refine kk ls H' _ cells slots (by show _ = _ + S'.1.length; rw [hlen]) (by show _ = _ + i_sl S'; rw [hsl]) hL ?_ (hS.put e2 e3 (Nat.le_add_right _ _))
    refine i_P_set hP hq h1 h2 h3 (Or.inr (Or.inr (Or.inr ⟨ci, hs1, by rw [hs2, hN, i_nth_of hc], ?_⟩))) ?_ e2 e3
    · rcases hwf with h | h | h | ⟨ci', h, h', h''⟩
      · omega
      · omega
      · omega
      · rw [hs3, h'', show ci' = ci by omega]
    · rw [i_cell_obj hs1, hs2, hN]
      refine ⟨_, hc, t_OB.to (V := updV (vp_V ((List.range sh.2.1).map (i_fld G ci (S.2.1 q) sh.2.2))) k (i_cv G v)) ⟨_, e1, q2, q3, by rw [hsl2]; exact t_set q4 hap hk (i_cv G v)⟩ (fun j hj => ?_)⟩
      unfold updV vp_V
      rw [List.getD_eq_getElem?_getD, List.getD_eq_getElem?_getD, List.getElem?_map, List.getElem?_map, hN, List.getElem?_range hj]
      show _ = i_fld G ci (S'.2.1 q) sh'.2.2 j
      rw [hf j hj]
      by_cases hjk : j = k
      · rw [if_pos hjk, if_pos hjk]
      · rw [if_neg hjk, if_neg hjk]; rfl
end ISIM
end
section
/-! ===== part 08: one step, by the kind of its instruction ===== -/
section ISIM2
variable {p : Program} {l : Launch} {e : Env} {R : Room} {s : State} {m : MethodId} {args : Array Value} {below : List Frame} {meth : Method} {c : Code} {H : Heap} {locs : List Loc} {cells slots : Nat} {Q : State → Prop}
variable {cc : ByteArray} {D : va_G} {G : I_G} {own nm : String} {nL : Nat} {ret : Option FieldType} {X : Nat × (Nat → Int32)} {pc : Nat} {ls : Array Slot} {lv : List (Option Value)} {stk : List Value} {S : I_St} {cf : I_Cf}
theorem i_s_ld {i len kind : Nat} (hL : i_L G ls nL lv) (hP : i_P D G S H) (hS : va_S (i_A G) s.heap H locs)
    (h : i_ld i len kind pc lv stk S = some (.inl cf)) (kk : i_KK p l e R s m args below meth c cells slots Q D G nL S cf)
    (row0 : kind = 0 → ∀ x : Int32, ls[i]? = some (.val (.int x)) → W p l e R s m args below meth c H locs cells slots Q (F0 m (pc + len) ls (.int x :: stk.map (i_cv G))) → W p l e R s m args below meth c H locs cells slots Q (F0 m pc ls (stk.map (i_cv G))))
    (row1 : kind = 1 → ∀ x : Int64, ls[i]? = some (.val (.long x)) → W p l e R s m args below meth c H locs cells slots Q (F0 m (pc + len) ls (.long x :: stk.map (i_cv G))) → W p l e R s m args below meth c H locs cells slots Q (F0 m pc ls (stk.map (i_cv G))))
    (row2 : kind = 2 → ∀ x : Nat, ls[i]? = some (.val (.ref x)) → W p l e R s m args below meth c H locs cells slots Q (F0 m (pc + len) ls (.ref x :: stk.map (i_cv G))) → W p l e R s m args below meth c H locs cells slots Q (F0 m pc ls (stk.map (i_cv G)))) :
    W p l e R s m args below meth c H locs cells slots Q (F0 m pc ls (stk.map (i_cv G))) := by
  unfold i_ld at h
  split at h
  · rename_i x hg
    cases h
    exact row0 rfl x (hL.2.2.2 _ _ (i_get_some hg)) (i_pure hL hP hS kk)
  · rename_i x hg
    cases h
    exact row1 rfl x (hL.2.2.2 _ _ (i_get_some hg)) (i_pure hL hP hS kk)
  · rename_i x hg
    cases h
    exact row2 rfl _ (hL.2.2.2 _ _ (i_get_some hg)) (i_pure hL hP hS kk)
  · cases h
theorem i_s_sto {i len kind : Nat} (hL : i_L G ls nL lv) (hP : i_P D G S H) (hS : va_S (i_A G) s.heap H locs)
    (h : i_sto i len kind pc lv stk S = some (.inl cf)) (kk : i_KK p l e R s m args below meth c cells slots Q D G nL S cf)
    (row0 : kind = 0 → ∀ (x : Int32) (st : List Value), i < nL → (∀ ls' : Array Slot, lv_has ls' nL ((i, .int x) :: (i_as G lv).filter (fun q => !(q.1 == i) && !(q.1 + 1 == i && q.2.category == 2))) → W p l e R s m args below meth c H locs cells slots Q (F0 m (pc + len) ls' st)) → W p l e R s m args below meth c H locs cells slots Q (F0 m pc ls (.int x :: st)))
    (row1 : kind = 1 → ∀ (x : Int64) (st : List Value), i + 1 < nL → (∀ ls' : Array Slot, lv_has ls' nL ((i, .long x) :: (i_as G lv).filter (fun q => !(q.1 == i) && (!(q.1 == i + 1) && !(q.1 + 1 == i && q.2.category == 2)))) → W p l e R s m args below meth c H locs cells slots Q (F0 m (pc + len) ls' st)) → W p l e R s m args below meth c H locs cells slots Q (F0 m pc ls (.long x :: st)))
    (row2 : kind = 2 → ∀ (x : Nat) (st : List Value), i < nL → (∀ ls' : Array Slot, lv_has ls' nL ((i, .ref x) :: (i_as G lv).filter (fun q => !(q.1 == i) && !(q.1 + 1 == i && q.2.category == 2))) → W p l e R s m args below meth c H locs cells slots Q (F0 m (pc + len) ls' st)) → W p l e R s m args below meth c H locs cells slots Q (F0 m pc ls (.ref x :: st))) :
    W p l e R s m args below meth c H locs cells slots Q (F0 m pc ls (stk.map (i_cv G))) := by
  unfold i_sto at h
  split at h
  · split at h
    · rename_i hi
      cases h
      exact row0 rfl _ _ (by rw [← hL.1]; exact hi) (fun ls' h' => kk ls' H locs cells slots rfl rfl (i_L_st1 (v := .int _) hL h') hP hS)
    · cases h
  · split at h
    · rename_i hi
      cases h
      exact row1 rfl _ _ (by rw [← hL.1]; exact hi) (fun ls' h' => kk ls' H locs cells slots rfl rfl (i_L_st2 (v := .long _) hL h') hP hS)
    · cases h
  · split at h
    · rename_i hi
      cases h
      exact row2 rfl _ _ (by rw [← hL.1]; exact hi) (fun ls' h' => kk ls' H locs cells slots rfl rfl (i_L_st1 (v := .ref _) hL h') hP hS)
    · cases h
  · cases h
theorem i_s_bin {f : Int32 → Int32 → Int32} (hL : i_L G ls nL lv) (hP : i_P D G S H) (hS : va_S (i_A G) s.heap H locs)
    (h : i_bin f pc lv stk S = some (.inl cf)) (kk : i_KK p l e R s m args below meth c cells slots Q D G nL S cf)
    (row : ∀ (x y : Int32) (st : List Value), W p l e R s m args below meth c H locs cells slots Q (F0 m (pc + 1) ls (.int (f x y) :: st)) → W p l e R s m args below meth c H locs cells slots Q (F0 m pc ls (.int y :: .int x :: st))) :
    W p l e R s m args below meth c H locs cells slots Q (F0 m pc ls (stk.map (i_cv G))) := by
  unfold i_bin at h
  split at h
  · cases h
    exact row _ _ _ (i_pure hL hP hS kk)
  · cases h
theorem i_s_binL {f : Int64 → Int64 → Int64} (hL : i_L G ls nL lv) (hP : i_P D G S H) (hS : va_S (i_A G) s.heap H locs)
    (h : i_binL f pc lv stk S = some (.inl cf)) (kk : i_KK p l e R s m args below meth c cells slots Q D G nL S cf)
    (row : ∀ (x y : Int64) (st : List Value), W p l e R s m args below meth c H locs cells slots Q (F0 m (pc + 1) ls (.long (f x y) :: st)) → W p l e R s m args below meth c H locs cells slots Q (F0 m pc ls (.long y :: .long x :: st))) :
    W p l e R s m args below meth c H locs cells slots Q (F0 m pc ls (stk.map (i_cv G))) := by
  unfold i_binL at h
  split at h
  · cases h
    exact row _ _ _ (i_pure hL hP hS kk)
  · cases h
theorem i_s_un {f : Int32 → Value} (hf : ∀ x, i_cv G (f x) = f x) (hL : i_L G ls nL lv) (hP : i_P D G S H) (hS : va_S (i_A G) s.heap H locs)
    (h : i_un stk f pc lv S = some (.inl cf)) (kk : i_KK p l e R s m args below meth c cells slots Q D G nL S cf)
    (row : ∀ (x : Int32) (st : List Value), W p l e R s m args below meth c H locs cells slots Q (F0 m (pc + 1) ls (f x :: st)) → W p l e R s m args below meth c H locs cells slots Q (F0 m pc ls (.int x :: st))) :
    W p l e R s m args below meth c H locs cells slots Q (F0 m pc ls (stk.map (i_cv G))) := by
  unfold i_un at h
  split at h
  · cases h
    refine row _ _ ?_
    rw [← hf]
    exact i_pure hL hP hS kk
  · cases h
theorem i_s_unL {f : Int64 → Value} (hf : ∀ x, i_cv G (f x) = f x) (hL : i_L G ls nL lv) (hP : i_P D G S H) (hS : va_S (i_A G) s.heap H locs)
    (h : i_unL stk f pc lv S = some (.inl cf)) (kk : i_KK p l e R s m args below meth c cells slots Q D G nL S cf)
    (row : ∀ (x : Int64) (st : List Value), W p l e R s m args below meth c H locs cells slots Q (F0 m (pc + 1) ls (f x :: st)) → W p l e R s m args below meth c H locs cells slots Q (F0 m pc ls (.long x :: st))) :
    W p l e R s m args below meth c H locs cells slots Q (F0 m pc ls (stk.map (i_cv G))) := by
  unfold i_unL at h
  split at h
  · cases h
    refine row _ _ ?_
    rw [← hf]
    exact i_pure hL hP hS kk
  · cases h
theorem i_s_if {cnd : ClassFile.Cond} {off : Int} {t : Nat} {x : Int32} {st : List Value} (hx : p.tables.exec = Jvm.exec) (hb : c.code = cc) (hdg : decode cc pc = .ok (.ifCond cnd off, 3)) (ht : (pc : Int) + off = (t : Int))
    (k : W p l e R s m args below meth c H locs cells slots Q (F0 m (i_br cnd x 0 t (pc + 3)) ls st)) : W p l e R s m args below meth c H locs cells slots Q (F0 m pc ls (.int x :: st)) := by
  cases cnd <;> unfold i_br at k <;> dsimp only at k
  · exact lv_if_eq hx hb hdg ht (fun q => by rw [if_pos q] at k; exact k) (fun q => by rw [if_neg q] at k; exact k)
  · exact lv_if_ne hx hb hdg ht (fun q => by rw [if_neg q] at k; exact k) (fun q => by rw [if_pos q] at k; exact k)
  · exact lv_if_lt hx hb hdg ht (fun q => by rw [if_pos q] at k; exact k) (fun q => by rw [if_neg q] at k; exact k)
  · exact lv_if_ge hx hb hdg ht (fun q => by rw [if_neg (Int32.not_lt.mpr q)] at k; exact k) (fun q => by rw [if_pos (Int32.not_le.mp q)] at k; exact k)
  · exact lv_if_gt hx hb hdg ht (fun q => by rw [if_pos q] at k; exact k) (fun q => by rw [if_neg q] at k; exact k)
  · exact lv_if_le hx hb hdg ht (fun q => by rw [if_neg (Int32.not_lt.mpr q)] at k; exact k) (fun q => by rw [if_pos (Int32.not_le.mp q)] at k; exact k)
theorem i_s_icmp {cnd : ClassFile.Cond} {off : Int} {t : Nat} {x y : Int32} {st : List Value} (hx : p.tables.exec = Jvm.exec) (hb : c.code = cc) (hdg : decode cc pc = .ok (.if_icmp cnd off, 3)) (ht : (pc : Int) + off = (t : Int))
    (k : W p l e R s m args below meth c H locs cells slots Q (F0 m (i_br cnd x y t (pc + 3)) ls st)) : W p l e R s m args below meth c H locs cells slots Q (F0 m pc ls (.int y :: .int x :: st)) := by
  cases cnd <;> unfold i_br at k <;> dsimp only at k
  · exact lv_icmp_eq hx hb hdg ht (fun q => by rw [if_pos q] at k; exact k) (fun q => by rw [if_neg q] at k; exact k)
  · exact lv_icmp_ne hx hb hdg ht (fun q => by rw [if_neg q] at k; exact k) (fun q => by rw [if_pos q] at k; exact k)
  · exact lv_icmp_lt hx hb hdg ht (fun q => by rw [if_pos q] at k; exact k) (fun q => by rw [if_neg q] at k; exact k)
  · exact lv_icmp_ge hx hb hdg ht (fun q => by rw [if_neg (Int32.not_lt.mpr q)] at k; exact k) (fun q => by rw [if_pos (Int32.not_le.mp q)] at k; exact k)
  · exact lv_icmp_gt hx hb hdg ht (fun q => by rw [if_pos q] at k; exact k) (fun q => by rw [if_neg q] at k; exact k)
  · exact lv_icmp_le hx hb hdg ht (fun q => by rw [if_neg (Int32.not_lt.mpr q)] at k; exact k) (fun q => by rw [if_pos (Int32.not_le.mp q)] at k; exact k)
theorem i_ofInt {a : Int} (h1 : -1000 < a) (h2 : a < 1000) : (Int32.ofInt a).toInt = a := Int32.toInt_ofInt_of_le (by omega) (by omega)
theorem i_sw_range (x : Int32) (d : Nat) (g : Int → Nat) : ∀ (n : Nat) (lo : Int), -1000 < lo → lo + n < 1001 →
    i_sw x d ((List.range n).map (fun i : Nat => (Int32.ofInt (lo + (i : Int)), g (i : Int)))) = if lo ≤ x.toInt ∧ x.toInt < lo + n then g (x.toInt - lo) else d := by
  intro n
  induction n generalizing g with
  | zero =>
    intro lo _ _
    show d = _
    rw [if_neg (by omega)]
  | succ n ih =>
    intro lo h1 h2
    rw [List.range_succ_eq_map, List.map_cons, List.map_map]
    show (if x = Int32.ofInt (lo + ((0 : Nat) : Int)) then g ((0 : Nat) : Int) else i_sw x d _) = _
    by_cases hx : x = Int32.ofInt (lo + ((0 : Nat) : Int))
    · rw [if_pos hx]
      have : x.toInt = lo := by rw [hx, i_ofInt (by omega) (by omega)]; omega
      rw [if_pos (by omega), this]
      congr 1
      omega
    · rw [if_neg hx]
      have hne : x.toInt ≠ lo := fun q => hx (Int32.toInt_inj.mp (by rw [i_ofInt (by omega) (by omega), q]; omega))
      have h3 := ih (fun i => g (i + 1)) (lo + 1) (by omega) (by omega)
      have e : (List.map ((fun i : Nat => (Int32.ofInt (lo + (i : Int)), g (i : Int))) ∘ Nat.succ) (List.range n)) = (List.range n).map (fun i : Nat => (Int32.ofInt (lo + 1 + (i : Int)), g ((i : Int) + 1))) := by
        apply List.map_congr_left
        intro i _
        show (Int32.ofInt (lo + ((i + 1 : Nat) : Int)), g ((i + 1 : Nat) : Int)) = _
        rw [show lo + ((i + 1 : Nat) : Int) = lo + 1 + (i : Int) by omega, show ((i + 1 : Nat) : Int) = (i : Int) + 1 by omega]
      rw [e, h3]
      by_cases hc : lo + 1 ≤ x.toInt ∧ x.toInt < lo + 1 + n
      · rw [if_pos hc, if_pos (by omega)]
        congr 1
        omega
      · rw [if_neg hc, if_neg (by omega)]
theorem i_s_table {dflt lo hi : Int} {offs : Array Int} {len d : Nat} {sw : List (Int32 × Nat)} {x : Int32} {st : List Value} (hx : p.tables.exec = Jvm.exec) (hb : c.code = cc) (hdg : decode cc pc = .ok (.tableswitch dflt lo hi offs, len)) (hd : (pc : Int) + dflt = (d : Int)) (h1 : lo ≤ hi) (h2 : -1000 < lo) (h3 : hi < 1000)
    (hsw : sw = (List.range (hi - lo + 1).toNat).map (fun i : Nat => (Int32.ofInt (lo + (i : Int)), ((pc : Int) + (offs[i]?).getD 0).toNat))) (hsz : offs.size = (hi - lo + 1).toNat) (hoff : offs.toList.all (fun o => decide (0 ≤ (pc : Int) + o)) = true)
    (k : W p l e R s m args below meth c H locs cells slots Q (F0 m (i_sw x d sw) ls st)) : W p l e R s m args below meth c H locs cells slots Q (F0 m pc ls (.int x :: st)) := by
  have hn : ((hi - lo + 1).toNat : Int) = hi - lo + 1 := by omega
  have e := i_sw_range x d (fun i => ((pc : Int) + (offs[i.toNat]?).getD 0).toNat) (hi - lo + 1).toNat lo h2 (by omega)
  have e2 : i_sw x d sw = if lo ≤ x.toInt ∧ x.toInt < lo + ((hi - lo + 1).toNat : Int) then ((pc : Int) + (offs[(x.toInt - lo).toNat]?).getD 0).toNat else d := by
    rw [hsw, ← e]
    rfl
  rw [e2] at k
  by_cases hin : lo ≤ x.toInt ∧ x.toInt < lo + ((hi - lo + 1).toNat : Int)
  · rw [if_pos hin] at k
    have hlt : (x.toInt - lo).toNat < offs.size := by omega
    have hget : offs[(x.toInt - lo).toNat]? = some offs[(x.toInt - lo).toNat] := Array.getElem?_eq_getElem hlt
    have hpos : 0 ≤ (pc : Int) + offs[(x.toInt - lo).toNat] := of_decide_eq_true (List.all_eq_true.mp hoff _ (Array.getElem_mem_toList hlt))
    rw [hget] at k
    refine lv_tableIn hx hb hdg (by omega) (by omega) hget ?_ k
    show _ = ((((pc : Int) + offs[(x.toInt - lo).toNat]).toNat : Nat) : Int)
    omega
  · rw [if_neg hin] at k
    exact lv_tableOut hx hb hdg (by omega) hd k
theorem i_sw_look (x : Int32) (d pc : Nat) (dflt : Int) (hd : (pc : Int) + dflt = (d : Int)) : ∀ ps : List (Int × Int), (∀ q ∈ ps, 0 ≤ (pc : Int) + q.2 ∧ -1000 < q.1 ∧ q.1 < 1000) →
    (pc : Int) + Op.lookupswitch.offset ps dflt x.toInt = ((i_sw x d (ps.map (fun q => (Int32.ofInt q.1, ((pc : Int) + q.2).toNat))) : Nat) : Int)
  | [], _ => hd
  | q :: ps, h => by
    have hq := h q List.mem_cons_self
    rw [List.map_cons]
    show _ = (((if x = Int32.ofInt q.1 then ((pc : Int) + q.2).toNat else i_sw x d _) : Nat) : Int)
    by_cases hx : x = Int32.ofInt q.1
    · rw [if_pos hx]
      have ex : x.toInt = q.1 := by rw [hx, i_ofInt hq.2.1 hq.2.2]
      obtain ⟨a, o⟩ := q
      rw [Op.lookupswitch.offset_cons, if_pos ex.symm]
      simp only at hq ⊢
      omega
    · rw [if_neg hx, ← i_sw_look x d pc dflt hd ps (fun r hr => h r (List.mem_cons_of_mem _ hr))]
      obtain ⟨a, o⟩ := q
      rw [Op.lookupswitch.offset_cons, if_neg]
      intro e
      exact hx (Int32.toInt_inj.mp (by rw [i_ofInt hq.2.1 hq.2.2]; exact e.symm))
end ISIM2
end
section
/-! ===== part 09: one step: fields, arrays, new cells ===== -/
theorem i_kd3 : i_kd.all (fun l => l.all (fun k => decide (k ≠ 3))) = true := by decide +kernel
theorem i_kd_ne3 {ci k : Nat} (h : ((i_kd[ci]?).getD [])[k]? = some 3) : False := by
  cases hx : i_kd[ci]? with
  | none => rw [hx] at h; simp at h
  | some l2 =>
    rw [hx] at h
    have h1 := List.all_eq_true.mp i_kd3 l2 (List.mem_of_getElem? hx)
    have h2 := List.all_eq_true.mp h1 3 (List.mem_of_getElem? h)
    exact absurd rfl (of_decide_eq_true h2)
theorem i_sum_set {l2 : List I_Sh} {q : Nat} {sh sh' : I_Sh} (h : l2[q]? = some sh) (e : sh'.2.1 = sh.2.1) : ((l2.set q sh').map fun z => z.2.1).sum = (l2.map fun z => z.2.1).sum := by
  rw [List.map_set]
  congr 1
  apply List.ext_getElem?
  intro i
  rw [List.getElem?_set]
  by_cases hi : q = i
  · subst hi
    rw [if_pos rfl, if_pos (by rw [List.length_map]; exact (List.getElem?_eq_some_iff.mp h).1), List.getElem?_map, h, e]
    rfl
  · rw [if_neg hi]
theorem i_ext_ge {X : Nat × (Nat → Int32)} {q : Nat} {y : Nat × Nat × (Nat → Int32)} (h : i_ext X q = some y) : 100 ≤ q := by
  unfold i_ext at h
  split at h
  · omega
  split at h
  · omega
  split at h
  · omega
  split at h
  · omega
  split at h
  · omega
  · cases h
theorem i_ad_ext {G : I_G} {q : Nat} (h : 100 ≤ q) : i_ad G q = G.2.1 q := by
  unfold i_ad; rw [if_neg (by omega)]
theorem i_objN {S : I_St} (hw : i_wf S) {q ci : Nat} {sh : I_Sh} (hq : S.1[q]? = some sh) (ht : sh.1 = 10 + ci) : sh.2.1 = i_nth ci ∧ sh.2.2.length = i_nth ci := by
  rcases hw q sh hq with h | h | h | ⟨ci', h, h', h''⟩
  · omega
  · omega
  · omega
  · have e : ci' = ci := by omega
    rw [← e]; exact ⟨h', h''⟩
section ISIM3
variable {p : Program} {l : Launch} {e : Env} {R : Room} {s : State} {m : MethodId} {args : Array Value} {below : List Frame} {meth : Method} {c : Code} {H : Heap} {locs : List Loc} {cells slots : Nat} {Q : State → Prop}
variable {cc : ByteArray} {D : va_G} {G : I_G} {own nm : String} {nL : Nat} {ret : Option FieldType} {X : Nat × (Nat → Int32)} {pc : Nat} {ls : Array Slot} {lv : List (Option Value)} {stk : List Value} {S : I_St} {cf : I_Cf}
theorem i_s_gf {idx : Nat} {r : List Nat} (F : i_Fr p s m args meth c cc D G own nm nL ret S.2.2.2) (hL : i_L G ls nL lv) (hP : i_P D G S H) (hS : va_S (i_A G) s.heap H locs) (hok : i_okF own idx r = true) (hdg : decode cc pc = .ok (.getfield idx, 3))
    (h : i_gf r pc lv stk S = some (.inl cf)) (kk : i_KK p l e R s m args below meth c cells slots Q D G nL S cf) : W p l e R s m args below meth c H locs cells slots Q (F0 m pc ls (stk.map (i_cv G))) := by
  obtain ⟨hx, hb, hr, hlk, hml, hown, hnm, hts, hK, hE, hG⟩ := F
  unfold i_gf at h
  split at h
  · rename_i ci k kind nest wp q rest
    unfold i_okF at hok
    dsimp only at hok
    cases hq : S.1[q]? with
    | some sh =>
      rw [hq] at h
      obtain ⟨t, n, refs⟩ := sh
      dsimp only at h
      by_cases ht : t = 10 + ci
      · rw [if_pos ht] at h
        cases hc : i_cls[ci]? with
        | some y =>
          obtain ⟨C, Tb, N⟩ := y
          rw [hc] at hok
          simp only [Bool.and_eq_true, decide_eq_true_eq] at hok
          obtain ⟨⟨⟨hk, hC⟩, hw⟩, hkd⟩ := hok
          have hN : n = N := ((i_objN hP.2.2.2 hq ht).1).trans (i_nth_of hc)
          have he := i_ws_some (G := G) hq
          rw [i_cell_obj ht] at he
          have hv : ((List.range n).map (i_fld G ci (S.2.1 q) refs))[k]? = some (i_fld G ci (S.2.1 q) refs k) := by
            rw [List.getElem?_map, List.getElem?_range (by omega)]; rfl
          have key : W p l e R s m args below meth c H locs cells slots Q (F0 m (pc + 3) ls (i_fld G ci (S.2.1 q) refs k :: rest.map (i_cv G))) → W p l e R s m args below meth c H locs cells slots Q (F0 m pc ls ((Value.ref q :: rest).map (i_cv G))) := by
            intro k2
            show W p l e R s m args below meth c H locs cells slots Q (F0 m pc ls (Value.ref (i_ad G q) :: rest.map (i_cv G)))
            rw [i_ad_lt hP hq]
            by_cases hn : nest = 0
            · rw [if_pos hn] at hw
              exact va_get (ref := C) hx hb hts (i_lays hc) hown hK.1 hP.1 q he hc k hk (hts _ (i_has_in hw)) (fun x hx2 => by rw [← hC]; exact hx2) hv hdg k2
            · rw [if_neg hn] at hw
              exact va_getN (ref := C) hx hb hts (i_lays hc) hown hK.1 hP.1 q he hc k hk (va_Nw.use rfl (hK.2.1 _ (i_hasN_in hw rfl))) (fun x hx2 => by rw [← hC]; exact hx2) hv hdg k2
          by_cases h1 : kind = 1
          · rw [if_pos h1] at h
            split at h
            · rename_i a ha
              cases h
              refine key ?_
              have e1 : i_fld G ci (S.2.1 q) refs k = i_cv G (.ref a) := by
                unfold i_fld i_isR
                rw [hkd, h1, decide_eq_true rfl, if_pos rfl, ha]
                rfl
              rw [e1]
              exact i_pure hL hP hS kk
            · cases h
          · rw [if_neg h1] at h
            split at h
            · cases h
            · cases h
              refine key ?_
              have e1 : i_fld G ci (S.2.1 q) refs k = i_cv G (.int (S.2.1 q k)) := by
                unfold i_fld i_isR
                rw [hkd, decide_eq_false (fun z => h1 (Option.some.inj z)), if_neg (by decide)]
                rfl
              rw [e1]
              exact i_pure hL hP hS kk
        | none =>
          rw [hc] at hok
          simp only [Bool.and_eq_true, decide_eq_true_eq] at hok
          obtain ⟨⟨h3, -⟩, -⟩ := hok
          rw [if_neg (by omega), if_pos h3] at h
          cases h
      · rw [if_neg ht] at h
        cases h
    | none =>
      rw [hq] at h
      dsimp only at h
      by_cases h5 : q = 105 ∧ kind = 3
      · rw [if_pos h5] at h
        obtain ⟨rfl, rfl⟩ := h5
        cases hc : i_cls[ci]? with
        | some y =>
          obtain ⟨C, Tb, N⟩ := y
          rw [hc] at hok
          simp only [Bool.and_eq_true, decide_eq_true_eq] at hok
          exact (i_kd_ne3 hok.2).elim
        | none =>
          rw [hc] at hok
          simp only [Bool.and_eq_true, decide_eq_true_eq] at hok
          obtain ⟨⟨-, -⟩, hw⟩ := hok
          have ea : i_ad G 105 = G.2.1 105 := i_ad_ext (by decide)
          by_cases hk : k = 0
          · rw [if_pos hk] at h hw
            cases h
            show W p l e R s m args below meth c H locs cells slots Q (F0 m pc ls (Value.ref (i_ad G 105) :: rest.map (i_cv G)))
            rw [ea]
            exact vk_getf hx hb hE.2.2.2.2.2.2.1 hS hown (hts _ (i_has_in hw)) (fun _ h9 => h9) hdg (i_pure (stk' := .int 0 :: rest) hL hP hS kk)
          · rw [if_neg hk] at h hw
            cases h
            show W p l e R s m args below meth c H locs cells slots Q (F0 m pc ls (Value.ref (i_ad G 105) :: rest.map (i_cv G)))
            rw [ea]
            have e4 : i_ad G 104 = G.2.1 104 := i_ad_ext (by decide)
            refine vk_getf hx hb hE.2.2.2.2.2.2.2 hS hown (hts _ (i_has_in hw)) (fun _ h9 => h9) hdg ?_
            rw [← e4]
            exact i_pure (stk' := .ref 104 :: rest) hL hP hS kk
      · rw [if_neg h5] at h
        cases h
  · cases h
/-- putfield: the three ways to a field -/
theorem i_putrow {idx : Nat} {C : String} {Tb : u_T} {N ci k : Nat} (F : i_Fr p s m args meth c cc D G own nm nL ret S.2.2.2) (hc : i_cls[ci]? = some (C, Tb, N)) (hk : k < N) (hC : (Tb k).1 = C) {nest wp : Nat} (hw : (if nest = 0 then i_has wp (.fieldLink own idx C (Tb k).2.1 (Tb k).2.2.1) else i_hasN wp (.fieldLinkNest own idx C (Tb k).2.1 (Tb k).2.2.1 "BellGround")) = true)
    (hfin : (if (Tb k).2.2.2 = true then decide (nest = 0) && decide (nm = "<init>") && decide (own = C) else true) = true) (hdg : decode cc pc = .ok (.putfield idx, 3)) {q : Nat} {v : Value} {st : List Value}
    {cf' : Nat} {kf : Class} {fi : Nat} {f : Field} {cell : Cell} (hi : s.fieldFound? (Tb k).1 (Tb k).2.1 (Tb k).2.2.1 = some (cf', kf, fi, f)) (hst : f.isStatic = false) (hcell : H[q]? = some cell) (hvm : cell.vm = .none) (hlt : f.slot < cell.slots.size) (hn : narrow f.type v = v) (hfit : s.fitsSlot cell.cls cell.vm f.slot v = true) (hsd : (Tb k).2.2.2 = false → k2_Sd s f cell.cls v)
    (k2 : ∀ H' : Heap, H'[q]? = some (cell.setSlot f.slot v) → H'.size = H.size → (∀ x, x ≠ q → H'[x]? = H[x]?) → W p l e R s m args below meth c H' (locs ++ [⟨q, f.slot⟩]) cells slots Q (F0 m (pc + 3) ls st)) : W p l e R s m args below meth c H locs cells slots Q (F0 m pc ls (v :: .ref q :: st)) := by
  obtain ⟨hx, hb, hr, hlk, hml, hown, hnm, hts, hK, hE, hG⟩ := F
  cases hf : (Tb k).2.2.2 with
  | true =>
    rw [if_pos hf] at hfin
    simp only [Bool.and_eq_true, decide_eq_true_eq] at hfin
    obtain ⟨⟨h0, h1⟩, h2⟩ := hfin
    rw [if_pos h0] at hw
    have hlay := hts _ (i_lays hc _ (u_in_lay hk))
    unfold u_lay at hlay
    rw [if_pos hf] at hlay
    have hcf : m.cls = cf' := by
      obtain ⟨_, _, c', _, _, _, -, -, hf', -, -, -, hown2, -⟩ := Cond.laysFinal_spec hlay
      have e1 : c' = cf' := by have := hi.symm.trans hf'; simp at this; exact this.1.symm
      rw [hC, ← h2] at hown2
      rw [← e1]; exact Option.some.inj (hown.symm.trans hown2)
    refine W.putFinK hx hb hown (hts _ (i_has_in hw)) (by rw [← hC]; exact hi) hst hcf (hnm.trans h1) ⟨hn, ?_⟩ hcell hvm hlt rfl rfl hdg k2
    rw [← hvm]; exact hfit
  | false =>
    by_cases h0 : nest = 0
    · rw [if_pos h0] at hw
      exact W.putK hx hb (f := f) ⟨hown, hts _ (i_has_in hw), ⟨_, _, _, by rw [← hC]; exact hi⟩, hst⟩ (hsd hf) hcell hvm hlt rfl rfl hdg k2
    · rw [if_neg h0] at hw
      exact va_WputK hx hb (f := f) hown (va_Nw.use rfl (hK.2.1 _ (i_hasN_in hw rfl))) (by rw [← hC]; exact hi) hst (hsd hf) hcell hvm hlt rfl rfl hdg k2
theorem i_bool_nf {x : Int32} (h : x = 0 ∨ x = 1) : narrow .boolean (.int x) = .int x ∧ fits .boolean (.int x) = true := by
  rcases h with rfl | rfl <;> exact ⟨by decide +kernel, by decide +kernel⟩
theorem i_s_pf {idx : Nat} {r : List Nat} (F : i_Fr p s m args meth c cc D G own nm nL ret S.2.2.2) (hL : i_L G ls nL lv) (hP : i_P D G S H) (hS : va_S (i_A G) s.heap H locs) (hok : i_okF own idx r = true) (hok2 : i_okP own nm r = true) (hdg : decode cc pc = .ok (.putfield idx, 3))
    (h : i_pf r pc lv stk S = some (.inl cf)) (kk : i_KK p l e R s m args below meth c cells slots Q D G nL S cf) : W p l e R s m args below meth c H locs cells slots Q (F0 m pc ls (stk.map (i_cv G))) := by
  have F' := F
  obtain ⟨hx, hb, hr, hlk, hml, hown, hnm, hts, hK, hE, hG⟩ := F'
  unfold i_pf at h
  split at h
  · rename_i ci k kind nest wp x q rest
    unfold i_okF at hok
    unfold i_okP at hok2
    dsimp only at hok hok2
    cases hq : S.1[q]? with
    | none => rw [hq] at h; cases h
    | some sh =>
      rw [hq] at h
      obtain ⟨t, n, refs⟩ := sh
      dsimp only at h
      by_cases ht : t = 10 + ci
      · rw [if_pos ht] at h
        cases hc : i_cls[ci]? with
        | none => rw [hc] at hok2; cases hok2
        | some y =>
          obtain ⟨C, Tb, N⟩ := y
          rw [hc] at hok hok2
          simp only [Bool.and_eq_true, decide_eq_true_eq] at hok
          obtain ⟨⟨⟨hk, hC⟩, hw⟩, hkd⟩ := hok
          rw [Bool.and_eq_true] at hok2
          obtain ⟨hfin, hty⟩ := hok2
          have main : (kind = 0 ∨ kind = 2 ∧ (x = 0 ∨ x = 1)) → i_KK p l e R s m args below meth c cells slots Q D G nL S (pc + 3, lv, rest, (S.1, i_upI S.2.1 q k x, S.2.2)) → W p l e R s m args below meth c H locs cells slots Q (F0 m pc ls ((Value.int x :: Value.ref q :: rest).map (i_cv G))) := by
            intro hkind kk
            have hnR : i_isR ci k = false := by
              unfold i_isR
              rw [hkd]
              exact decide_eq_false (fun z => by have := Option.some.inj z; omega)
            show W p l e R s m args below meth c H locs cells slots Q (F0 m pc ls (i_cv G (Value.int x) :: Value.ref (i_ad G q) :: rest.map (i_cv G)))
            rw [i_ad_lt hP hq]
            have hnf : narrow (i_tyOf ci k) (i_cv G (.int x)) = i_cv G (.int x) ∧ fits (i_tyOf ci k) (i_cv G (.int x)) = true := by
              rcases hkind with h0 | ⟨h2, hx01⟩
              · rw [if_pos h0] at hty
                rw [of_decide_eq_true hty]
                exact ⟨rfl, rfl⟩
              · rw [if_neg (by omega), if_pos h2] at hty
                rw [of_decide_eq_true hty]
                exact i_bool_nf hx01
            refine i_putcore (v := .int x) (S' := (S.1, i_upI S.2.1 q k x, S.2.2)) (sh' := (t, n, refs)) (pc' := pc + 3) hts hP hS hK hc (i_lays hc) hk hq ht (i_set_same hq) (fun i hi => i_upI_ne hi) (fun _ _ => rfl) ht rfl rfl (fun j hj => ?_) hnf.1 hnf.2 (fun cf' kf fi f cell hi hst hcell hvm hlt hn hfit hsd k2 => i_putrow F hc hk hC hw hfin hdg hi hst hcell hvm hlt hn hfit hsd k2) hL rfl rfl kk
            show i_fld G ci (i_upI S.2.1 q k x q) refs j = _
            rw [i_upI_eq]
            by_cases hjk : j = k
            · rw [if_pos hjk, hjk]
              unfold i_fld
              rw [hnR, if_neg (by decide)]
              unfold upd
              rw [if_pos rfl]
              rfl
            · rw [if_neg hjk]
              unfold i_fld upd
              rw [if_neg hjk]
          by_cases h0 : kind = 0
          · rw [if_pos h0] at h
            cases h
            exact main (Or.inl h0) kk
          · rw [if_neg h0] at h
            split at h
            · rename_i h2
              cases h
              exact main (Or.inr h2) kk
            · cases h
      · rw [if_neg ht] at h
        cases h
  · rename_i ci k kind nest wp a q rest
    unfold i_okF at hok
    unfold i_okP at hok2
    dsimp only at hok hok2
    cases hq : S.1[q]? with
    | none => rw [hq] at h; cases h
    | some sh =>
      rw [hq] at h
      obtain ⟨t, n, refs⟩ := sh
      dsimp only at h
      split at h
      · rename_i h4
        obtain ⟨ht, h1, ha, hkl⟩ := h4
        cases h
        cases hc : i_cls[ci]? with
        | none => rw [hc] at hok2; cases hok2
        | some y =>
          obtain ⟨C, Tb, N⟩ := y
          rw [hc] at hok hok2
          simp only [Bool.and_eq_true, decide_eq_true_eq] at hok
          obtain ⟨⟨⟨hk, hC⟩, hw⟩, hkd⟩ := hok
          rw [Bool.and_eq_true] at hok2
          obtain ⟨hfin, hty⟩ := hok2
          have hR : i_isR ci k = true := by
            unfold i_isR
            rw [hkd, h1]
            exact decide_eq_true rfl
          rw [if_neg (by omega), if_neg (by omega)] at hty
          have hnf : narrow (i_tyOf ci k) (i_cv G (.ref a)) = i_cv G (.ref a) ∧ fits (i_tyOf ci k) (i_cv G (.ref a)) = true := by
            split at hty
            · rename_i e1; rw [e1]; exact ⟨rfl, rfl⟩
            · rename_i e1; rw [e1]; exact ⟨rfl, rfl⟩
            · cases hty
          show W p l e R s m args below meth c H locs cells slots Q (F0 m pc ls (i_cv G (Value.ref a) :: Value.ref (i_ad G q) :: rest.map (i_cv G)))
          rw [i_ad_lt hP hq]
          refine i_putcore (v := .ref a) (S' := (S.1.set q (t, n, refs.set k (some a)), S.2)) (sh' := (t, n, refs.set k (some a))) (pc' := pc + 3) hts hP hS hK hc (i_lays hc) hk hq ht rfl (fun i hi => rfl) (fun _ _ => rfl) ht rfl (by simp) (fun j hj => ?_) hnf.1 hnf.2 (fun cf' kf fi f cell hi hst hcell hvm hlt hn hfit hsd k2 => i_putrow F hc hk hC hw hfin hdg hi hst hcell hvm hlt hn hfit hsd k2) hL (by simp) (i_sum_set (sh' := (t, n, refs.set k (some a))) hq rfl) kk
          by_cases hjk : j = k
          · rw [if_pos hjk, hjk]
            unfold i_fld
            rw [hR, if_pos rfl, List.getElem?_set_self hkl]
            rfl
          · rw [if_neg hjk]
            unfold i_fld
            rw [List.getElem?_set_ne (Ne.symm hjk)]
      · cases h
  · cases h
end ISIM3
end
section
/-! ===== part 10: one step: arrays, new cells ===== -/
def i_kdok : Bool := (List.range i_cls.length).all fun ci => (List.range (i_nth ci)).all fun k => if i_isR ci k = true then (match i_tyOf ci k with
  | .object _ => true
  | .array _ => true
  | _ => false) else decide (i_tyOf ci k = .int) || decide (i_tyOf ci k = .boolean)
theorem i_kdok_true : i_kdok = true := by decide +kernel
theorem i_kdty {ci k : Nat} {C : String} {Tb : u_T} {N : Nat} (h : i_cls[ci]? = some (C, Tb, N)) (hk : k < N) : (i_isR ci k = true → (∃ z, i_tyOf ci k = .object z) ∨ ∃ z, i_tyOf ci k = .array z) ∧ (i_isR ci k = false → i_tyOf ci k = .int ∨ i_tyOf ci k = .boolean) := by
  have hl : ci < i_cls.length := (List.getElem?_eq_some_iff.mp h).1
  have h1 := List.all_eq_true.mp (List.all_eq_true.mp i_kdok_true ci (List.mem_range.mpr hl)) k (List.mem_range.mpr (by rw [i_nth_of h]; exact hk))
  refine ⟨fun hR => ?_, fun hR => ?_⟩
  · rw [if_pos hR] at h1
    split at h1
    · exact Or.inl ⟨_, by assumption⟩
    · exact Or.inr ⟨_, by assumption⟩
    · cases h1
  · rw [if_neg (by rw [hR]; decide), Bool.or_eq_true] at h1
    exact h1.imp of_decide_eq_true of_decide_eq_true
section ISIM4
variable {p : Program} {l : Launch} {e : Env} {R : Room} {s : State} {m : MethodId} {args : Array Value} {below : List Frame} {meth : Method} {c : Code} {H : Heap} {locs : List Loc} {cells slots : Nat} {Q : State → Prop}
variable {cc : ByteArray} {D : va_G} {G : I_G} {own nm : String} {nL : Nat} {ret : Option FieldType} {X : Nat × (Nat → Int32)} {pc : Nat} {ls : Array Slot} {lv : List (Option Value)} {stk : List Value} {S : I_St} {cf : I_Cf}
theorem i_arr_cases {q t n : Nat} {f : Nat → Int32} (h : i_arr S q = some (t, n, f)) : (∃ refs, S.1[q]? = some (t, n, refs) ∧ (t = 0 ∨ t = 2) ∧ f = S.2.1 q) ∨ (S.1[q]? = none ∧ i_ext S.2.2.2 q = some (t, n, f)) := by
  unfold i_arr at h
  cases hq : S.1[q]? with
  | none => rw [hq] at h; exact Or.inr ⟨rfl, h⟩
  | some sh =>
    obtain ⟨t', n', refs⟩ := sh
    rw [hq] at h
    dsimp only at h
    split at h
    · rename_i h0
      cases h
      exact Or.inl ⟨refs, by rw [h0], Or.inl rfl, rfl⟩
    · split at h
      · rename_i h2
        cases h
        exact Or.inl ⟨refs, by rw [h2], Or.inr rfl, rfl⟩
      · cases h
theorem i_s_ald {tag : Nat} (F : i_Fr p s m args meth c cc D G own nm nL ret S.2.2.2) (hL : i_L G ls nL lv) (hP : i_P D G S H) (hS : va_S (i_A G) s.heap H locs) (hdg : (tag = 0 ∧ decode cc pc = .ok (.iaload, 1)) ∨ (tag = 2 ∧ decode cc pc = .ok (.baload, 1)))
    (h : i_ald tag pc lv stk S = some (.inl cf)) (kk : i_KK p l e R s m args below meth c cells slots Q D G nL S cf) : W p l e R s m args below meth c H locs cells slots Q (F0 m pc ls (stk.map (i_cv G))) := by
  obtain ⟨hx, hb, hr, hlk, hml, hown, hnm, hts, hK, hE, hG⟩ := F
  unfold i_ald at h
  split at h
  · rename_i i q rest
    cases ha : i_arr S q with
    | none => rw [ha] at h; cases h
    | some y =>
      obtain ⟨t, n, f⟩ := y
      rw [ha] at h
      dsimp only at h
      split at h
      · rename_i ht
        split at h
        · cases h
        · rename_i hin
          cases h
          have k2 : W p l e R s m args below meth c H locs cells slots Q (F0 m (pc + 1) ls (.int (f i.toNatClampNeg) :: rest.map (i_cv G))) := i_pure (stk' := .int (f i.toNatClampNeg) :: rest) hL hP hS kk
          show W p l e R s m args below meth c H locs cells slots Q (F0 m pc ls (.int i :: Value.ref (i_ad G q) :: rest.map (i_cv G)))
          rcases i_arr_cases ha with ⟨refs, hq, ht2, rfl⟩ | ⟨hq, hex⟩
          · have he := i_ws_some (G := G) hq
            rw [i_ad_lt hP hq]
            rcases ht2 with rfl | rfl
            · rw [i_cell_0 rfl] at he
              rcases hdg with ⟨h0, hdg⟩ | ⟨h0, hdg⟩
              · exact va_iald hx hb hK.1 hP.1 q 0 he rfl hin hdg k2
              · omega
            · rw [i_cell_2 rfl] at he
              rcases hdg with ⟨h0, hdg⟩ | ⟨h0, hdg⟩
              · omega
              · exact va_zald hx hb hK.1 hP.1 q 2 he rfl hin hdg k2
          · have hT := hE.1 q t n f hex
            rw [i_ad_ext (i_ext_ge hex)]
            rcases hdg with ⟨h0, hdg⟩ | ⟨h0, hdg⟩
            · have ht0 : t = 0 := by omega
              rw [if_pos ht0] at hT
              exact va_ti hx hb hT hS hin rfl hdg k2
            · have ht0 : t = 2 ∨ t = 3 := by omega
              rw [if_neg (by omega)] at hT
              exact va_tb hx hb hT hS hin rfl hdg k2
      · cases h
  · cases h
theorem i_s_lald (F : i_Fr p s m args meth c cc D G own nm nL ret S.2.2.2) (hL : i_L G ls nL lv) (hP : i_P D G S H) (hS : va_S (i_A G) s.heap H locs) (hdg : decode cc pc = .ok (.laload, 1))
    (h : i_lald pc lv stk S = some (.inl cf)) (kk : i_KK p l e R s m args below meth c cells slots Q D G nL S cf) : W p l e R s m args below meth c H locs cells slots Q (F0 m pc ls (stk.map (i_cv G))) := by
  obtain ⟨hx, hb, hr, hlk, hml, hown, hnm, hts, hK, hE, hG⟩ := F
  unfold i_lald at h
  split at h
  · rename_i i q rest
    cases hq : S.1[q]? with
    | none => rw [hq] at h; cases h
    | some sh =>
      obtain ⟨t, n, refs⟩ := sh
      rw [hq] at h
      dsimp only at h
      split at h
      · rename_i ht
        split at h
        · cases h
        · rename_i hin
          cases h
          have he := i_ws_some (G := G) hq
          rw [i_cell_1 ht] at he
          show W p l e R s m args below meth c H locs cells slots Q (F0 m pc ls (.int i :: Value.ref (i_ad G q) :: rest.map (i_cv G)))
          rw [i_ad_lt hP hq]
          exact va_lald hx hb hK.1 hP.1 q 1 he rfl hin hdg (i_pure (stk' := .long (S.2.2.1 q i.toNatClampNeg) :: rest) hL hP hS kk)
      · cases h
  · cases h
theorem i_s_ast {tag : Nat} (F : i_Fr p s m args meth c cc D G own nm nL ret S.2.2.2) (hL : i_L G ls nL lv) (hP : i_P D G S H) (hS : va_S (i_A G) s.heap H locs) (hdg : (tag = 0 ∧ decode cc pc = .ok (.iastore, 1)) ∨ (tag = 2 ∧ decode cc pc = .ok (.bastore, 1)))
    (h : i_ast tag pc lv stk S = some (.inl cf)) (kk : i_KK p l e R s m args below meth c cells slots Q D G nL S cf) : W p l e R s m args below meth c H locs cells slots Q (F0 m pc ls (stk.map (i_cv G))) := by
  obtain ⟨hx, hb, hr, hlk, hml, hown, hnm, hts, hK, hE, hG⟩ := F
  unfold i_ast at h
  split at h
  · rename_i x i q rest
    cases hq : S.1[q]? with
    | none => rw [hq] at h; cases h
    | some sh =>
      obtain ⟨t, n, refs⟩ := sh
      rw [hq] at h
      dsimp only at h
      split at h
      · rename_i ht
        split at h
        · cases h
        · rename_i hin
          cases h
          have he := i_ws_some (G := G) hq
          show W p l e R s m args below meth c H locs cells slots Q (F0 m pc ls (.int x :: .int i :: Value.ref (i_ad G q) :: rest.map (i_cv G)))
          rw [i_ad_lt hP hq]
          have fin : ∀ (H1 : Heap), va_at D i_cls (G.1 + q, i_cell G (i_upI S.2.1 q i.toNatClampNeg x q) (S.2.2.1 q) (t, n, refs)) H1 → H1.size = H.size → (∀ y : Nat, y ≠ G.1 + q → H1[y]? = H[y]?) → W p l e R s m args below meth c H1 (locs ++ [⟨G.1 + q, i.toNatClampNeg⟩]) cells slots Q (F0 m (pc + 1) ls (rest.map (i_cv G))) := by
            intro H1 hat z oq
            exact kk ls H1 _ cells slots rfl rfl hL (i_P_set (S' := (S.1, i_upI S.2.1 q i.toNatClampNeg x, S.2.2)) hP hq (i_set_same hq) (fun i hi => i_upI_ne hi) (fun _ _ => rfl) (hP.2.2.2 q _ hq) hat z oq) (hS.put z oq (Nat.le_add_right _ _))
          rcases hdg with ⟨h0, hdg⟩ | ⟨h0, hdg⟩
          · have ht0 : t = 0 := by omega
            rw [i_cell_0 ht0] at he
            refine W.iast hx hb (hP.1 q _ he) ((hK.1.2 0 _ rfl).1 n (fun j => .int (S.2.1 q j))) (fun q => by cases q) (by show ¬ (i < 0 ∨ (arrV _ _ _).slots.size ≤ _); rw [arrV_size]; exact hin) rfl rfl hdg fun H1 e z oq => fin H1 ?_ z oq
            rw [i_cell_0 ht0, i_upI_eq]
            show H1[G.1 + q]? = some (vp_cell _ _)
            rw [e, vp_cell_i, vp_cell_i, arrV_store]
            congr 2
            funext y
            by_cases hy : y = i.toNatClampNeg
            · subst hy
              simp [updV, upd]
            · simp [updV, upd, hy]
          · have ht0 : t = 2 := by omega
            rw [i_cell_2 ht0] at he
            refine W.zast hx hb (hP.1 q _ he) ((hK.1.2 2 _ rfl).1 n (fun j => .int (S.2.1 q j))) (fun q => by cases q) (by show ¬ (i < 0 ∨ (arrV _ _ _).slots.size ≤ _); rw [arrV_size]; exact hin) rfl rfl hdg fun H1 e z oq => fin H1 ?_ z oq
            rw [i_cell_2 ht0, i_upI_eq]
            show H1[G.1 + q]? = some (vp_cell _ _)
            rw [(i_bool_nf (ht.2.resolve_left (by omega))).1] at e
            rw [e, vp_cell_i, vp_cell_i, arrV_store]
            congr 2
            funext y
            by_cases hy : y = i.toNatClampNeg
            · subst hy
              simp [updV, upd]
            · simp [updV, upd, hy]
      · cases h
  · cases h
theorem i_s_last (F : i_Fr p s m args meth c cc D G own nm nL ret S.2.2.2) (hL : i_L G ls nL lv) (hP : i_P D G S H) (hS : va_S (i_A G) s.heap H locs) (hdg : decode cc pc = .ok (.lastore, 1))
    (h : i_last pc lv stk S = some (.inl cf)) (kk : i_KK p l e R s m args below meth c cells slots Q D G nL S cf) : W p l e R s m args below meth c H locs cells slots Q (F0 m pc ls (stk.map (i_cv G))) := by
  obtain ⟨hx, hb, hr, hlk, hml, hown, hnm, hts, hK, hE, hG⟩ := F
  unfold i_last at h
  split at h
  · rename_i x i q rest
    cases hq : S.1[q]? with
    | none => rw [hq] at h; cases h
    | some sh =>
      obtain ⟨t, n, refs⟩ := sh
      rw [hq] at h
      dsimp only at h
      split at h
      · rename_i ht
        split at h
        · cases h
        · rename_i hin
          cases h
          have he := i_ws_some (G := G) hq
          show W p l e R s m args below meth c H locs cells slots Q (F0 m pc ls (.long x :: .int i :: Value.ref (i_ad G q) :: rest.map (i_cv G)))
          rw [i_ad_lt hP hq]
          rw [i_cell_1 ht] at he
          refine W.last hx hb (hP.1 q _ he) ((hK.1.2 1 _ rfl).1 n (fun j => .long (S.2.2.1 q j))) (fun q => by cases q) (by show ¬ (i < 0 ∨ (arrV _ _ _).slots.size ≤ _); rw [arrV_size]; exact hin) rfl rfl hdg fun H1 e z oq => ?_
          refine kk ls H1 _ cells slots rfl rfl hL (i_P_set (S' := (S.1, S.2.1, i_upL S.2.2.1 q i.toNatClampNeg x, S.2.2.2)) hP hq (i_set_same hq) (fun _ _ => rfl) (fun i hi => i_upL_ne hi) (hP.2.2.2 q _ hq) ?_ z oq) (hS.put z oq (Nat.le_add_right _ _))
          show va_at D i_cls (G.1 + q, i_cell G (S.2.1 q) (i_upL S.2.2.1 q i.toNatClampNeg x q) (t, n, refs)) H1
          rw [i_cell_1 ht, i_upL_eq]
          show H1[G.1 + q]? = some (vp_cell _ _)
          rw [e, vp_cell_l, vp_cell_l, arrV_store]
          congr 2
          funext y
          by_cases hy : y = i.toNatClampNeg
          · subst hy
            simp [updV, vp_updL]
          · simp [updV, vp_updL, hy]
      · cases h
  · cases h
theorem i_s_alen (F : i_Fr p s m args meth c cc D G own nm nL ret S.2.2.2) (hL : i_L G ls nL lv) (hP : i_P D G S H) (hS : va_S (i_A G) s.heap H locs) (hdg : decode cc pc = .ok (.arraylength, 1))
    (h : i_alen pc lv stk S = some (.inl cf)) (kk : i_KK p l e R s m args below meth c cells slots Q D G nL S cf) : W p l e R s m args below meth c H locs cells slots Q (F0 m pc ls (stk.map (i_cv G))) := by
  obtain ⟨hx, hb, hr, hlk, hml, hown, hnm, hts, hK, hE, hG⟩ := F
  unfold i_alen at h
  split at h
  · rename_i q rest
    cases hq : S.1[q]? with
    | none =>
      rw [hq] at h
      dsimp only at h
      cases hex : i_ext S.2.2.2 q with
      | none => rw [hex] at h; cases h
      | some y =>
        obtain ⟨t, n, f⟩ := y
        rw [hex] at h
        cases h
        show W p l e R s m args below meth c H locs cells slots Q (F0 m pc ls (Value.ref (i_ad G q) :: rest.map (i_cv G)))
        rw [i_ad_ext (i_ext_ge hex)]
        exact va_tlen hx hb (hE.1 q t n f hex) hS rfl hdg (i_pure (stk' := .int (Int32.ofNat n) :: rest) hL hP hS kk)
    | some sh =>
      obtain ⟨t, n, refs⟩ := sh
      rw [hq] at h
      dsimp only at h
      split at h
      · rename_i ht
        cases h
        have he := i_ws_some (G := G) hq
        show W p l e R s m args below meth c H locs cells slots Q (F0 m pc ls (Value.ref (i_ad G q) :: rest.map (i_cv G)))
        rw [i_ad_lt hP hq]
        have k2 : W p l e R s m args below meth c H locs cells slots Q (F0 m (pc + 1) ls (.int (Int32.ofNat n) :: rest.map (i_cv G))) := i_pure (stk' := .int (Int32.ofNat n) :: rest) hL hP hS kk
        rcases (show t = 0 ∨ t = 1 ∨ t = 2 by omega) with rfl | rfl | rfl
        · rw [i_cell_0 rfl] at he
          exact va_alen hx hb hK.1 hP.1 q 0 he rfl rfl hdg k2
        · rw [i_cell_1 rfl] at he
          exact va_alen hx hb hK.1 hP.1 q 1 he rfl rfl hdg k2
        · rw [i_cell_2 rfl] at he
          exact va_alen hx hb hK.1 hP.1 q 2 he rfl rfl hdg k2
      · cases h
  · cases h
theorem i_s_new {idx : Nat} {r : List Nat} (F : i_Fr p s m args meth c cc D G own nm nL ret S.2.2.2) (hL : i_L G ls nL lv) (hP : i_P D G S H) (hS : va_S (i_A G) s.heap H locs)
    (hok : (match r with
    | [ci, p1, p2, p3] => match i_cls[ci]? with
      | some (C, _, N) => i_has p1 (.classLink own idx C) && i_has p2 (.instantiable C N) && i_has p3 (.initialized C)
      | none => false
    | _ => true) = true) (hdg : decode cc pc = .ok (.new idx, 3))
    (h : i_new r pc lv stk S = some (.inl cf)) (hr1 : cells + cf.2.2.2.1.length ≤ R.cells + S.1.length) (hr2 : slots + i_sl cf.2.2.2 ≤ R.slots + i_sl S) (kk : i_KK p l e R s m args below meth c cells slots Q D G nL S cf) : W p l e R s m args below meth c H locs cells slots Q (F0 m pc ls (stk.map (i_cv G))) := by
  obtain ⟨hx, hb, hr, hlk, hml, hown, hnm, hts, hK, hE, hG⟩ := F
  unfold i_new at h
  split at h
  · rename_i ci p1 p2 p3
    dsimp only at hok
    cases hc : i_cls[ci]? with
    | none => rw [hc] at hok; cases hok
    | some y =>
      obtain ⟨C, Tb, N⟩ := y
      rw [hc] at hok
      simp only [Bool.and_eq_true] at hok
      split at h
      · rename_i hl
        cases h
        rw [i_nth_of hc] at hr1 hr2 kk
        simp only [List.length_append, List.length_singleton] at hr1
        simp only [i_sl, List.map_append, List.sum_append, List.map_cons, List.map_nil, List.sum_cons, List.sum_nil] at hr2
        have hT := i_clsT hc
        have hKn := hK.1.1 ci _ hc
        refine W.newcK hx hb hown (hts _ (i_has_in hok.1.1)) (hts _ (i_has_in hok.1.2)) (hts _ (i_has_in hok.2)) rfl hdg (by omega) (by omega) hKn.2.1 hP.2.1 fun H1 kC hkC e1 z1 o1 => ?_
        have hat : va_at D i_cls (G.1 + S.1.length, .inr (ci, (List.range N).map (i_fld G ci (fun _ => 0) (List.replicate N none)))) H1 := by
          refine ⟨_, hc, (u_born (i_tyOf ci) hts (i_lays hc) hKn hkC e1 hT.1).to fun j hj => ?_⟩
          unfold vp_V
          rw [List.getD_eq_getElem?_getD, List.getElem?_map, List.getElem?_range hj]
          show _ = i_fld G ci (fun _ => 0) (List.replicate N none) j
          unfold i_fld
          rw [List.getElem?_replicate, if_pos hj]
          have ht := i_kdty hc hj
          by_cases hR : i_isR ci j = true
          · rw [if_pos hR]
            rcases ht.1 hR with ⟨z, hz⟩ | ⟨z, hz⟩ <;> rw [hz] <;> rfl
          · rw [if_neg hR]
            rcases ht.2 (by simpa using hR) with hz | hz <;> rw [hz] <;> rfl
        have hk := kk ls H1 locs (cells + 1) (slots + N) (by show _ = _ + (S.1 ++ [_]).length; rw [List.length_append]; show _ = _ + (S.1.length + 1); omega) (by
          show slots + N + i_sl S = slots + ((S.1 ++ [(10 + ci, N, List.replicate N none)]).map fun sh : I_Sh => sh.2.1).sum
          rw [List.map_append, List.sum_append]
          show slots + N + (S.1.map fun sh => sh.2.1).sum = slots + ((S.1.map fun sh => sh.2.1).sum + (N + 0))
          omega) hL (i_P_push (S' := (S.1 ++ [(10 + ci, N, List.replicate N none)], i_row S.2.1 S.1.length (fun _ => 0), S.2.2)) hP hl rfl (fun i hi => i_row_ne (by omega)) (fun _ _ => rfl) (Or.inr (Or.inr (Or.inr ⟨ci, rfl, (i_nth_of hc).symm, by rw [i_nth_of hc]; exact List.length_replicate⟩))) (by
            show va_at D i_cls (G.1 + S.1.length, i_cell G (i_row S.2.1 S.1.length (fun _ => 0) S.1.length) _ (10 + ci, N, List.replicate N none)) H1
            rw [i_row_eq, i_cell_obj rfl]
            exact hat) (by rw [z1, hP.2.1]) (fun x hx2 => o1 x (by rw [← hP.2.1]; exact hx2))) ⟨by rw [z1]; have := hS.1; rw [hP.2.1] at this; omega, fun x h1 h2 => by
              rw [o1 x (by have := hS.1; rw [hP.2.1] at this; omega)]; exact hS.2.1 x h1 h2, hS.2.2⟩
        have e9 : i_ad G S.1.length = G.1 + S.1.length := by unfold i_ad; rw [if_pos hl]
        rw [show ((Value.ref S.1.length :: stk).map (i_cv G)) = Value.ref (G.1 + S.1.length) :: stk.map (i_cv G) by rw [← e9]; rfl] at hk
        exact hk
      · cases h
  · cases h
theorem i_s_newa {aty : ArrayType} {r : List Nat} (F : i_Fr p s m args meth c cc D G own nm nL ret S.2.2.2) (hL : i_L G ls nL lv) (hP : i_P D G S H) (hS : va_S (i_A G) s.heap H locs)
    (hok : (match r with
    | [tag, p] => i_has p (.arrayClass (newarray.typeOf aty)) && (match tag with
      | 0 => decide (aty = .int)
      | 1 => decide (aty = .long)
      | 2 => decide (aty = .boolean)
      | _ => false)
    | _ => true) = true) (hdg : decode cc pc = .ok (.newarray aty, 2))
    (h : i_newa r pc lv stk S = some (.inl cf)) (hr1 : cells + cf.2.2.2.1.length ≤ R.cells + S.1.length) (hr2 : slots + i_sl cf.2.2.2 ≤ R.slots + i_sl S) (kk : i_KK p l e R s m args below meth c cells slots Q D G nL S cf) : W p l e R s m args below meth c H locs cells slots Q (F0 m pc ls (stk.map (i_cv G))) := by
  obtain ⟨hx, hb, hr, hlk, hml, hown, hnm, hts, hK, hE, hG⟩ := F
  unfold i_newa at h
  split at h
  · rename_i tag pw n rest
    rw [Bool.and_eq_true] at hok
    split at h
    · rename_i hl
      obtain ⟨hl, hn, hbig⟩ := hl
      cases h
      simp only [List.length_append, List.length_singleton] at hr1
      simp only [i_sl, List.map_append, List.sum_append, List.map_cons, List.map_nil, List.sum_cons, List.sum_nil] at hr2
      have htag : (tag = 0 ∧ aty = .int) ∨ (tag = 1 ∧ aty = .long) ∨ (tag = 2 ∧ aty = .boolean) := by
        have h2 := hok.2
        split at h2
        · exact Or.inl ⟨rfl, of_decide_eq_true h2⟩
        · exact Or.inr (Or.inl ⟨rfl, of_decide_eq_true h2⟩)
        · exact Or.inr (Or.inr ⟨rfl, of_decide_eq_true h2⟩)
        · cases h2
      have hbytes : n.toNatClampNeg * componentBytes (newarray.typeOf aty) ≤ 536870912 := by
        have : componentBytes (newarray.typeOf aty) ≤ 8 := by rcases htag with ⟨-, rfl⟩ | ⟨-, rfl⟩ | ⟨-, rfl⟩ <;> decide
        calc _ ≤ 60000000 * 8 := Nat.mul_le_mul hbig this
          _ ≤ _ := by decide
      refine va_newaK hx hb (hts _ (i_has_in hok.1)) rfl hdg rfl hn rfl hbytes (by omega) (by omega) hP.2.1 fun H1 cA e1 z1 o1 hAr hNm => ?_
      have hat : va_at D i_cls (G.1 + S.1.length, i_cell G (fun _ => 0) (fun _ => 0) (tag, n.toNatClampNeg, [])) H1 := by
        rcases htag with ⟨rfl, rfl⟩ | ⟨rfl, rfl⟩ | ⟨rfl, rfl⟩
        · rw [i_cell_0 rfl]
          have ec : cA = G.2.2.1 := Option.some.inj (hNm.symm.trans (hK.1.2 0 _ rfl).2)
          rw [ec] at e1
          exact e1
        · rw [i_cell_1 rfl]
          have ec : cA = G.2.2.2.1 := Option.some.inj (hNm.symm.trans (hK.1.2 1 _ rfl).2)
          rw [ec] at e1
          exact e1
        · rw [i_cell_2 rfl]
          have ec : cA = G.2.2.2.2 := Option.some.inj (hNm.symm.trans (hK.1.2 2 _ rfl).2)
          rw [ec] at e1
          exact e1
      have hk := kk ls H1 locs (cells + 1) (slots + n.toNatClampNeg) (by show _ = _ + (S.1 ++ [_]).length; rw [List.length_append]; show _ = _ + (S.1.length + 1); omega) (by
        show slots + n.toNatClampNeg + i_sl S = slots + ((S.1 ++ [(tag, n.toNatClampNeg, [])]).map fun sh : I_Sh => sh.2.1).sum
        rw [List.map_append, List.sum_append]
        show slots + n.toNatClampNeg + (S.1.map fun sh => sh.2.1).sum = slots + ((S.1.map fun sh => sh.2.1).sum + (n.toNatClampNeg + 0))
        omega) hL (i_P_push (S' := (S.1 ++ [(tag, n.toNatClampNeg, [])], i_row S.2.1 S.1.length (fun _ => 0), i_row S.2.2.1 S.1.length (fun _ => 0), S.2.2.2)) hP hl rfl (fun i hi => i_row_ne (by omega)) (fun i hi => i_row_ne (by omega)) (by
          rcases htag with ⟨rfl, -⟩ | ⟨rfl, -⟩ | ⟨rfl, -⟩
          · exact Or.inl rfl
          · exact Or.inr (Or.inl rfl)
          · exact Or.inr (Or.inr (Or.inl rfl))) (by
          show va_at D i_cls (G.1 + S.1.length, i_cell G (i_row S.2.1 S.1.length (fun _ => 0) S.1.length) (i_row S.2.2.1 S.1.length (fun _ => 0) S.1.length) (tag, n.toNatClampNeg, [])) H1
          rw [i_row_eq, i_row_eq]
          exact hat) (by rw [z1, hP.2.1]) (fun x hx2 => o1 x (by rw [← hP.2.1]; exact hx2))) ⟨by rw [z1]; have := hS.1; rw [hP.2.1] at this; omega, fun x h1 h2 => by
            rw [o1 x (by have := hS.1; rw [hP.2.1] at this; omega)]; exact hS.2.1 x h1 h2, hS.2.2⟩
      have e9 : i_ad G S.1.length = G.1 + S.1.length := by unfold i_ad; rw [if_pos hl]
      rw [show ((Value.ref S.1.length :: rest).map (i_cv G)) = Value.ref (G.1 + S.1.length) :: rest.map (i_cv G) by rw [← e9]; rfl] at hk
      exact hk
    · cases h
  · cases h
end ISIM4
end
section
/-! ===== part 11: one step: System.arraycopy, Math; every instruction ===== -/
section ISIM5
variable {p : Program} {l : Launch} {e : Env} {R : Room} {s : State} {m : MethodId} {args : Array Value} {below : List Frame} {meth : Method} {c : Code} {H : Heap} {locs : List Loc} {cells slots : Nat} {Q : State → Prop}
variable {cc : ByteArray} {D : va_G} {G : I_G} {own nm : String} {nL : Nat} {ret : Option FieldType} {X : Nat × (Nat → Int32)} {pc : Nat} {ls : Array Slot} {lv : List (Option Value)} {stk : List Value} {S : I_St} {cf : I_Cf}
theorem i_nn {z : Int32} (hz : ¬ z < 0) : z.toInt = (z.toNatClampNeg : Int) := by
  have hz0 : (0 : Int) ≤ z.toInt := by
    have := Int32.not_lt.mp hz
    simpa using Int32.le_iff_toInt_le.mp this
  show z.toInt = ((z.toInt.toNat : Nat) : Int)
  omega
theorem i_copyI (hexec : p.tables.exec = Jvm.exec) (hb : c.code = cc) (hml : c.maxLocals = ls.size) {index : Nat} (hown : s.vm.findClass own = some m.cls) (hlink : (Cond.methodLink own index arraycopyName).before args s = true) (hnat : (Cond.native arraycopyName).before args s = true) (hstat : (Cond.static arraycopyName).before args s = true) (hini : (Cond.initialized "java/lang/System").before args s = true)
    {a0 a1 : Nat} {cA : ClassId} {n0 n1 : Nat} {f g : Nat → Int32} {ty : FieldType} (hA : ArrOfT s cA ty) (hc0 : H[a0]? = some (vp_cell cA (n0, .inl f))) (hc1 : H[a1]? = some (vp_cell cA (n1, .inl g))) (hprim : refKind ty = false)
    {sp dp n : Int32} (h1 : ¬ sp < 0) (h2 : ¬ dp < 0) (h3 : ¬ n < 0) (h4 : sp.toNatClampNeg + n.toNatClampNeg ≤ n0) (h5 : dp.toNatClampNeg + n.toNatClampNeg ≤ n1) (hfit : ∀ i, i < n.toNatClampNeg → fits ty (.int (f (sp.toNatClampNeg + i))) = true)
    {rest : List Value} (hframes : 1 ≤ R.frames) (hlocals : (rest.map fun v => v.category).sum + (nativeFrameWords "java/lang/System" "arraycopy" 5 + 11) ≤ R.locals) (hdg : decode cc pc = .ok (.invokestatic index, 3))
    (kk : ∀ (H1 : Heap) (L : List Loc), H1[a1]? = some (vp_cell cA (n1, .inl (va_cpy f g sp.toNatClampNeg dp.toNatClampNeg n.toNatClampNeg))) → H1.size = H.size → (∀ q : Nat, q ≠ a1 → H1[q]? = H[q]?) → (∀ q ∈ L, q.base = a1) → W p l e R s m args below meth c H1 (locs ++ L) cells slots Q (F0 m (pc + 3) ls rest)) : W p l e R s m args below meth c H locs cells slots Q (F0 m pc ls (.int n :: .int dp :: .ref a1 :: .int sp :: .ref a0 :: rest)) := by
  intro T hT X
  obtain ⟨-, k0, hk0, cm0, hkk0⟩ := hA n0 (fun j => .int (f j))
  obtain ⟨-, k1, hk1, cm1, hkk1⟩ := hA n1 (fun j => .int (g j))
  obtain ⟨vm', X', step⟩ := X.arraycopy hexec hown hlink hnat hstat hini (src := a0) (dst := a1) (cs := vp_cell cA (n0, .inl f)) (cd := vp_cell cA (n1, .inl g)) (srcPos := sp) (destPos := dp) (n := n) (by rw [hT]; exact hc0) (by rw [hT]; exact hc1)
    (fun _ h => by cases h) (fun _ h => by cases h) (fun h => by cases h) (fun h => by cases h) hk0 hk1 hkk0 hkk1 (by simp [hprim]) h1 h2 h3
    (by rw [i_nn h1, i_nn h3]; show ¬ _ > ((arrV cA n0 (fun j => .int (f j))).slots.size : Int); rw [arrV_size]; omega)
    (by rw [i_nn h2, i_nn h3]; show ¬ _ > ((arrV cA n1 (fun j => .int (g j))).slots.size : Int); rw [arrV_size]; omega)
    (fun vm₁ _ i hi => by
      have e : (vp_cell cA (n0, .inl f)).slots.getD (sp.toNatClampNeg + i) .null = .int (f (sp.toNatClampNeg + i)) := by
        show (arrV cA n0 (fun j => .int (f j))).slots.getD _ _ = _
        rw [Array.getD_eq_getD_getElem?, arrV_read _ _ (by omega)]
        rfl
      refine ⟨?_, ?_⟩
      · rw [e]
        exact hfit i hi
      · rw [e]
        exact trivial)
    (g := F0 m pc ls (.int n :: .int dp :: .ref a1 :: .int sp :: .ref a0 :: rest)) rfl (by rw [hml]) (rest := rest) rfl (by rw [hb]; exact hdg) hframes (by show 2 * 0 + _ + _ ≤ _; omega)
  have e1 : copied (vp_cell cA (n0, .inl f)) (vp_cell cA (n1, .inl g)) sp dp n = vp_cell cA (n1, .inl (va_cpy f g sp.toNatClampNeg dp.toNatClampNeg n.toNatClampNeg)) := va_copied (fun z => .int z) cA cA f g h4
  rw [e1] at X' step
  have hl : a1 < H.size := (Array.getElem?_eq_some_iff.mp hc1).1
  have hheap : ((T.setVm vm').setCell a1 (vp_cell cA (n1, .inl (va_cpy f g sp.toNatClampNeg dp.toNatClampNeg n.toNatClampNeg)))).heap = H.setIfInBounds a1 (vp_cell cA (n1, .inl (va_cpy f g sp.toNatClampNeg dp.toNatClampNeg n.toNatClampNeg))) := by rw [← hT]; rfl
  obtain ⟨t, b1, b2⟩ := kk _ _ (show (H.setIfInBounds a1 _)[a1]? = some _ by simp [Array.getElem?_setIfInBounds, hl]) (by simp) (fun q hq => by simp [Array.getElem?_setIfInBounds, Ne.symm hq]) (fun q hq => by
      obtain ⟨z, -, hz⟩ := List.mem_map.mp hq
      rw [← hz]) _ hheap X'
  exact ⟨t, step t b1, b2⟩
theorem i_copyL (hexec : p.tables.exec = Jvm.exec) (hb : c.code = cc) (hml : c.maxLocals = ls.size) {index : Nat} (hown : s.vm.findClass own = some m.cls) (hlink : (Cond.methodLink own index arraycopyName).before args s = true) (hnat : (Cond.native arraycopyName).before args s = true) (hstat : (Cond.static arraycopyName).before args s = true) (hini : (Cond.initialized "java/lang/System").before args s = true)
    {a0 a1 : Nat} {cA : ClassId} {n0 n1 : Nat} {f g : Nat → Int64} {ty : FieldType} (hA : ArrOfT s cA ty) (hc0 : H[a0]? = some (vp_cell cA (n0, .inr (.inl f)))) (hc1 : H[a1]? = some (vp_cell cA (n1, .inr (.inl g)))) (hprim : refKind ty = false)
    {sp dp n : Int32} (h1 : ¬ sp < 0) (h2 : ¬ dp < 0) (h3 : ¬ n < 0) (h4 : sp.toNatClampNeg + n.toNatClampNeg ≤ n0) (h5 : dp.toNatClampNeg + n.toNatClampNeg ≤ n1) (hfit : ∀ i, i < n.toNatClampNeg → fits ty (.long (f (sp.toNatClampNeg + i))) = true)
    {rest : List Value} (hframes : 1 ≤ R.frames) (hlocals : (rest.map fun v => v.category).sum + (nativeFrameWords "java/lang/System" "arraycopy" 5 + 11) ≤ R.locals) (hdg : decode cc pc = .ok (.invokestatic index, 3))
    (kk : ∀ (H1 : Heap) (L : List Loc), H1[a1]? = some (vp_cell cA (n1, .inr (.inl (va_cpy f g sp.toNatClampNeg dp.toNatClampNeg n.toNatClampNeg)))) → H1.size = H.size → (∀ q : Nat, q ≠ a1 → H1[q]? = H[q]?) → (∀ q ∈ L, q.base = a1) → W p l e R s m args below meth c H1 (locs ++ L) cells slots Q (F0 m (pc + 3) ls rest)) : W p l e R s m args below meth c H locs cells slots Q (F0 m pc ls (.int n :: .int dp :: .ref a1 :: .int sp :: .ref a0 :: rest)) := by
  intro T hT X
  obtain ⟨-, k0, hk0, cm0, hkk0⟩ := hA n0 (fun j => .long (f j))
  obtain ⟨-, k1, hk1, cm1, hkk1⟩ := hA n1 (fun j => .long (g j))
  obtain ⟨vm', X', step⟩ := X.arraycopy hexec hown hlink hnat hstat hini (src := a0) (dst := a1) (cs := vp_cell cA (n0, .inr (.inl f))) (cd := vp_cell cA (n1, .inr (.inl g))) (srcPos := sp) (destPos := dp) (n := n) (by rw [hT]; exact hc0) (by rw [hT]; exact hc1)
    (fun _ h => by cases h) (fun _ h => by cases h) (fun h => by cases h) (fun h => by cases h) hk0 hk1 hkk0 hkk1 (by simp [hprim]) h1 h2 h3
    (by rw [i_nn h1, i_nn h3]; show ¬ _ > ((arrV cA n0 (fun j => .long (f j))).slots.size : Int); rw [arrV_size]; omega)
    (by rw [i_nn h2, i_nn h3]; show ¬ _ > ((arrV cA n1 (fun j => .long (g j))).slots.size : Int); rw [arrV_size]; omega)
    (fun vm₁ _ i hi => by
      have e : (vp_cell cA (n0, .inr (.inl f))).slots.getD (sp.toNatClampNeg + i) .null = .long (f (sp.toNatClampNeg + i)) := by
        show (arrV cA n0 (fun j => .long (f j))).slots.getD _ _ = _
        rw [Array.getD_eq_getD_getElem?, arrV_read _ _ (by omega)]
        rfl
      refine ⟨?_, ?_⟩
      · rw [e]
        exact hfit i hi
      · rw [e]
        exact trivial)
    (g := F0 m pc ls (.int n :: .int dp :: .ref a1 :: .int sp :: .ref a0 :: rest)) rfl (by rw [hml]) (rest := rest) rfl (by rw [hb]; exact hdg) hframes (by show 2 * 0 + _ + _ ≤ _; omega)
  have e1 : copied (vp_cell cA (n0, .inr (.inl f))) (vp_cell cA (n1, .inr (.inl g))) sp dp n = vp_cell cA (n1, .inr (.inl (va_cpy f g sp.toNatClampNeg dp.toNatClampNeg n.toNatClampNeg))) := va_copied (fun z => .long z) cA cA f g h4
  rw [e1] at X' step
  have hl : a1 < H.size := (Array.getElem?_eq_some_iff.mp hc1).1
  have hheap : ((T.setVm vm').setCell a1 (vp_cell cA (n1, .inr (.inl (va_cpy f g sp.toNatClampNeg dp.toNatClampNeg n.toNatClampNeg))))).heap = H.setIfInBounds a1 (vp_cell cA (n1, .inr (.inl (va_cpy f g sp.toNatClampNeg dp.toNatClampNeg n.toNatClampNeg)))) := by rw [← hT]; rfl
  obtain ⟨t, b1, b2⟩ := kk _ _ (show (H.setIfInBounds a1 _)[a1]? = some _ by simp [Array.getElem?_setIfInBounds, hl]) (by simp) (fun q hq => by simp [Array.getElem?_setIfInBounds, Ne.symm hq]) (fun q hq => by
      obtain ⟨z, -, hz⟩ := List.mem_map.mp hq
      rw [← hz]) _ hheap X'
  exact ⟨t, step t b1, b2⟩
theorem i_S_upd {H1 : Heap} {L : List Loc} {a : Nat} (hS : va_S (i_A G) s.heap H locs) (ha : i_A G a) (z : H1.size = H.size) (oq : ∀ q : Nat, q ≠ a → H1[q]? = H[q]?) (hL : ∀ q ∈ L, q.base = a) : va_S (i_A G) s.heap H1 (locs ++ L) := by
  refine ⟨by rw [z]; exact hS.1, fun q h1 h2 => ?_, fun q hq => ?_⟩
  · rw [oq q (fun e => h2 (by rw [e]; exact ha))]
    exact hS.2.1 q h1 h2
  · rcases List.mem_append.mp hq with h | h
    · exact hS.2.2 q h
    · rw [hL q h]; exact ha
theorem i_s_cpy {idx p1 p2 p3 p4 k0 : Nat} (F : i_Fr p s m args meth c cc D G own nm nL ret S.2.2.2) (hL : i_L G ls nL lv) (hP : i_P D G S H) (hS : va_S (i_A G) s.heap H locs) (hRf : 1 ≤ R.frames) (hRl : 40 ≤ R.locals)
    (hok : (i_has p1 (.methodLink own idx arraycopyName) && i_has p2 (.native arraycopyName) && i_has p3 (.static arraycopyName) && i_has p4 (.initialized "java/lang/System")) = true) (hdg : decode cc pc = .ok (.invokestatic idx, 3))
    (h : i_cpy pc lv stk S = some (.inl cf)) (kk : i_KK p l e R s m args below meth c cells slots Q D G nL S cf) : W p l e R s m args below meth c H locs cells slots Q (F0 m pc ls (stk.map (i_cv G))) := by
  obtain ⟨hx, hb, hr, hlk, hml, hown, hnm, hts, hK, hE, hG⟩ := F
  simp only [Bool.and_eq_true] at hok
  obtain ⟨⟨⟨w1, w2⟩, w3⟩, w4⟩ := hok
  unfold i_cpy at h
  split at h
  · rename_i n dp d sp a rest
    cases hqa : S.1[a]? with
    | none => rw [hqa] at h; cases h
    | some sa =>
      cases hqd : S.1[d]? with
      | none => rw [hqa, hqd] at h; cases h
      | some sd =>
        obtain ⟨t0, n0, refs0⟩ := sa
        obtain ⟨t1, n1, refs1⟩ := sd
        rw [hqa, hqd] at h
        dsimp only at h
        split at h
        · rename_i hc
          obtain ⟨h1, h2, h3, h4, h5, h6⟩ := hc
          have hea := i_ws_some (G := G) hqa
          have hed := i_ws_some (G := G) hqd
          have hrest : ((rest.map (i_cv G)).map fun v => v.category).sum + (nativeFrameWords "java/lang/System" "arraycopy" 5 + 11) ≤ R.locals := by
            rw [i_cv_sum]
            have : nativeFrameWords "java/lang/System" "arraycopy" 5 ≤ 7 := by decide
            omega
          show W p l e R s m args below meth c H locs cells slots Q (F0 m pc ls (.int n :: .int dp :: Value.ref (i_ad G d) :: .int sp :: Value.ref (i_ad G a) :: rest.map (i_cv G)))
          rw [i_ad_lt hP hqa, i_ad_lt hP hqd]
          split at h
          · rename_i ht
            cases h
            rw [i_cell_0 ht.1] at hea
            rw [i_cell_0 ht.2] at hed
            refine i_copyI hx hb (by rw [hml, hL.2.1]) hown (hts _ (i_has_in w1)) (hts _ (i_has_in w2)) (hts _ (i_has_in w3)) (hts _ (i_has_in w4)) ((hK.1.2 0 _ rfl).1) (hP.1 a _ hea) (hP.1 d _ hed) rfl h1 h2 h3 h4 h5 (fun _ _ => rfl) hRf hrest hdg (fun H1 L e1 z oq hL1 => ?_)
            refine kk ls H1 _ cells slots rfl rfl hL (i_P_set (S' := (S.1, i_row S.2.1 d (va_cpy (S.2.1 a) (S.2.1 d) sp.toNatClampNeg dp.toNatClampNeg n.toNatClampNeg), S.2.2)) hP hqd (i_set_same hqd) (fun i hi => i_row_ne hi) (fun _ _ => rfl) (hP.2.2.2 d _ hqd) ?_ z oq) (i_S_upd hS (Nat.le_add_right _ _) z oq hL1)
            show va_at D i_cls (G.1 + d, i_cell G (i_row S.2.1 d _ d) (S.2.2.1 d) (t1, n1, refs1)) H1
            rw [i_row_eq, i_cell_0 ht.2]
            exact e1
          · split at h
            · rename_i ht
              cases h
              rw [i_cell_1 ht.1] at hea
              rw [i_cell_1 ht.2] at hed
              refine i_copyL hx hb (by rw [hml, hL.2.1]) hown (hts _ (i_has_in w1)) (hts _ (i_has_in w2)) (hts _ (i_has_in w3)) (hts _ (i_has_in w4)) ((hK.1.2 1 _ rfl).1) (hP.1 a _ hea) (hP.1 d _ hed) rfl h1 h2 h3 h4 h5 (fun _ _ => rfl) hRf hrest hdg (fun H1 L e1 z oq hL1 => ?_)
              refine kk ls H1 _ cells slots rfl rfl hL (i_P_set (S' := (S.1, S.2.1, i_row S.2.2.1 d (va_cpy (S.2.2.1 a) (S.2.2.1 d) sp.toNatClampNeg dp.toNatClampNeg n.toNatClampNeg), S.2.2.2)) hP hqd (i_set_same hqd) (fun _ _ => rfl) (fun i hi => i_row_ne hi) (hP.2.2.2 d _ hqd) ?_ z oq) (i_S_upd hS (Nat.le_add_right _ _) z oq hL1)
              show va_at D i_cls (G.1 + d, i_cell G (S.2.1 d) (i_row S.2.2.1 d _ d) (t1, n1, refs1)) H1
              rw [i_row_eq, i_cell_1 ht.2]
              exact e1
            · cases h
        · cases h
  · cases h
end ISIM5
end
section
/-! ===== part 12: every instruction that is no call and no return ===== -/
section ISIM6
variable {p : Program} {l : Launch} {e : Env} {R : Room} {s : State} {m : MethodId} {args : Array Value} {below : List Frame} {meth : Method} {c : Code} {H : Heap} {locs : List Loc} {cells slots : Nat} {Q : State → Prop}
variable {cc : ByteArray} {D : va_G} {G : I_G} {own nm : String} {nL : Nat} {ret : Option FieldType} {X : Nat × (Nat → Int32)} {pc : Nat} {ls : Array Slot} {lv : List (Option Value)} {stk : List Value} {S : I_St} {cf : I_Cf}
theorem i_cat_int {v : Value} {x : Int32} (h : v = .int x) : i_cv G v = v := by subst h; rfl
theorem i_cat_long {v : Value} {x : Int64} (h : v = .long x) : i_cv G v = v := by subst h; rfl
theorem i_s_math {idx k p1 p2 p3 p4 : Nat} (F : i_Fr p s m args meth c cc D G own nm nL ret S.2.2.2) (hL : i_L G ls nL lv) (hP : i_P D G S H) (hS : va_S (i_A G) s.heap H locs) (hRf : 1 ≤ R.frames) (hRl : 40 ≤ R.locals)
    (hok : (i_has p3 (.initialized "java/lang/Math") && (match k with
        | 1 => i_has p1 (.methodLink own idx Lib.Math.max.name) && i_has p2 (.static Lib.Math.max.name) && i_has p4 (.code Lib.Math.max.name Lib.Math.max.code 2 (some .int))
        | 2 => i_has p1 (.methodLink own idx Lib.Math.min.name) && i_has p2 (.static Lib.Math.min.name) && i_has p4 (.code Lib.Math.min.name Lib.Math.min.code 2 (some .int))
        | 3 => i_has p1 (.methodLink own idx Lib.Math.abs.name) && i_has p2 (.static Lib.Math.abs.name) && i_has p4 (.code Lib.Math.abs.name Lib.Math.abs.code 1 (some .int))
        | _ => false)) = true) (hdg : decode cc pc = .ok (.invokestatic idx, 3))
    (h : i_math k pc lv stk S = some (.inl cf)) (hr1 : cells + cf.2.2.2.1.length ≤ R.cells + S.1.length) (hr2 : slots + i_sl cf.2.2.2 ≤ R.slots + i_sl S) (hm1 : S.1.length ≤ cf.2.2.2.1.length) (hm2 : i_sl S ≤ i_sl cf.2.2.2) (kk : i_KK p l e R s m args below meth c cells slots Q D G nL S cf) : W p l e R s m args below meth c H locs cells slots Q (F0 m pc ls (stk.map (i_cv G))) := by
  obtain ⟨hx, hb, hr, hlk, hml, hown, hnm, hts, hK, hE, hG⟩ := F
  rw [Bool.and_eq_true] at hok
  obtain ⟨hini, hR3⟩ := hok
  have hcr : cells ≤ R.cells := by omega
  have hsr : slots ≤ R.slots := by omega
  have hmls : c.maxLocals = ls.size := by rw [hml, hL.2.1]
  cases stk with
  | nil => cases h
  | cons v rest =>
    cases v with
    | int y =>
      unfold i_math at h
      dsimp only at h
      by_cases hsum : (rest.map fun v => v.category).sum ≤ 8
      · rw [if_pos hsum] at h
        have hq : ((rest.map (i_cv G)).map fun v => v.category).sum + 13 ≤ R.locals := by rw [i_cv_sum]; omega
        by_cases hk : k = 3
        · rw [if_pos hk] at h
          subst hk
          cases h
          simp only [Bool.and_eq_true] at hR3
          exact va_mabs hx hb hmls hown (hts _ (i_has_in hR3.1.1)) (hts _ (i_has_in hR3.1.2)) (hts _ (i_has_in hini)) (hts _ (i_has_in hR3.2)) hRf hq hcr hsr hdg (i_pure (stk' := .int _ :: rest) hL hP hS kk)
        · rw [if_neg hk] at h
          cases rest with
          | nil => cases h
          | cons w rest2 =>
            have hq2 : ((rest2.map (i_cv G)).map fun v => v.category).sum + 13 ≤ R.locals := by
              rw [i_cv_sum]
              have : ((w :: rest2).map fun v => v.category).sum = w.category + (rest2.map fun v => v.category).sum := rfl
              omega
            cases w with
            | int x =>
              dsimp only at h
              by_cases hk1 : k = 1
              · rw [if_pos hk1] at h
                subst hk1
                cases h
                simp only [Bool.and_eq_true] at hR3
                exact va_mmax hx hb hmls hown (hts _ (i_has_in hR3.1.1)) (hts _ (i_has_in hR3.1.2)) (hts _ (i_has_in hini)) (hts _ (i_has_in hR3.2)) hRf hq2 hcr hsr hdg (i_pure (stk' := .int _ :: rest2) hL hP hS kk)
              · rw [if_neg hk1] at h
                by_cases hk2 : k = 2
                · rw [if_pos hk2] at h
                  subst hk2
                  cases h
                  simp only [Bool.and_eq_true] at hR3
                  exact va_mmin hx hb hmls hown (hts _ (i_has_in hR3.1.1)) (hts _ (i_has_in hR3.1.2)) (hts _ (i_has_in hini)) (hts _ (i_has_in hR3.2)) hRf hq2 hcr hsr hdg (i_pure (stk' := .int _ :: rest2) hL hP hS kk)
                · rw [if_neg hk2] at h
                  cases h
            | _ => cases h
      · rw [if_neg hsum] at h
        cases h
    | _ => cases h
set_option maxHeartbeats 4000000 in
theorem i_step {ins : Instr} {len : Nat} {cst : Value} {r : List Nat} {sw : List (Int32 × Nat)} (F : i_Fr p s m args meth c cc D G own nm nL ret S.2.2.2) (hL : i_L G ls nL lv) (hP : i_P D G S H) (hS : va_S (i_A G) s.heap H locs) (hRf : 1 ≤ R.frames) (hRl : 40 ≤ R.locals)
    (hok : i_okE own nm cc ret (pc, ins, len, cst, r, sw) = true) (h : i_do ins cst r sw pc lv stk S = some (.inl cf)) (hr1 : cells + cf.2.2.2.1.length ≤ R.cells + S.1.length) (hr2 : slots + i_sl cf.2.2.2 ≤ R.slots + i_sl S) (hm1 : S.1.length ≤ cf.2.2.2.1.length) (hm2 : i_sl S ≤ i_sl cf.2.2.2)
    (kk : i_KK p l e R s m args below meth c cells slots Q D G nL S cf) : W p l e R s m args below meth c H locs cells slots Q (F0 m pc ls (stk.map (i_cv G))) := by
  have F' := F
  obtain ⟨hx, hb, hr, hlk, hml, hown, hnm, hts, hK, hE, hG⟩ := F'
  simp only [i_okE, Bool.and_eq_true, Bool.or_eq_true, decide_eq_true_eq] at hok
  obtain ⟨⟨hdg, hlen⟩, hR⟩ := hok
  cases ins
  case iconst n =>
    rcases hlen with h0 | rfl
    · exact absurd h0 (by simp [i_len])
    have hc := of_decide_eq_true hR
    cases h
    exact lv_iconst hx hb hdg rfl (by rw [hc] at kk; exact i_pure hL hP hS kk)
  case bipush n =>
    rcases hlen with h0 | rfl
    · exact absurd h0 (by simp [i_len])
    have hc := of_decide_eq_true hR
    cases h
    exact lv_bipush hx hb hdg rfl (by rw [hc] at kk; exact i_pure hL hP hS kk)
  case sipush n =>
    rcases hlen with h0 | rfl
    · exact absurd h0 (by simp [i_len])
    have hc := of_decide_eq_true hR
    cases h
    exact lv_sipush hx hb hdg rfl (by rw [hc] at kk; exact i_pure hL hP hS kk)
  case lconst n =>
    rcases hlen with h0 | rfl
    · exact absurd h0 (by simp [i_len])
    have hc := of_decide_eq_true hR
    cases h
    exact lv_lconst hx hb hdg rfl (by rw [hc] at kk; exact i_pure hL hP hS kk)
  case ldc idx =>
    rcases hlen with h0 | rfl
    · exact absurd h0 (by simp [i_len])
    unfold i_okR at hR
    dsimp only at hR
    split at hR
    · cases h
      exact lv_ldc hx hb hown (hts _ (i_has_in hR)) hdg (i_pure hL hP hS kk)
    · simp only [Bool.and_eq_true, decide_eq_true_eq] at hR
      obtain ⟨⟨h1, rfl⟩, rfl⟩ := hR
      cases h
      rw [h1] at hown
      refine va_ldcS hx hb hown hK.2.2 hdg ?_
      have e5 : i_ad G 105 = G.2.1 105 := i_ad_ext (by decide)
      rw [← e5]
      exact i_pure (stk' := .ref 105 :: stk) hL hP hS kk
    · cases h
    · cases hR
  case ldc_w idx =>
    rcases hlen with h0 | rfl
    · exact absurd h0 (by simp [i_len])
    unfold i_okR at hR
    dsimp only at hR
    split at hR
    · cases h
      exact lv_ldcw hx hb hown (hts _ (i_has_in hR)) hdg (i_pure hL hP hS kk)
    · cases h
    · cases hR
  case ldc2_w idx =>
    rcases hlen with h0 | rfl
    · exact absurd h0 (by simp [i_len])
    unfold i_okR at hR
    dsimp only at hR
    split at hR
    · cases h
      exact lv_ldc2 hx hb hown (hts _ (i_has_in hR)) hdg (i_pure hL hP hS kk)
    · cases h
    · cases hR
  case getstatic idx =>
    rcases hlen with h0 | rfl
    · exact absurd h0 (by simp [i_len])
    have e1 : i_ad G 101 = G.2.1 101 := i_ad_ext (by decide)
    have e2 : i_ad G 102 = G.2.1 102 := i_ad_ext (by decide)
    have e3 : i_ad G 103 = G.2.1 103 := i_ad_ext (by decide)
    unfold i_okR at hR
    dsimp only at hR
    split at hR
    · simp only [Bool.and_eq_true, decide_eq_true_eq] at hR
      obtain ⟨rfl, hw⟩ := hR
      cases h
      refine va_gets hx hb hE.2.1 hS hown (hts _ (i_has_in hw)) (fun _ h9 => h9) hdg ?_
      rw [← e1]
      exact i_pure (stk' := .ref 101 :: stk) hL hP hS kk
    · simp only [Bool.and_eq_true, decide_eq_true_eq] at hR
      obtain ⟨rfl, hw⟩ := hR
      cases h
      refine va_gets hx hb hE.2.2.1 hS hown (hts _ (i_has_in hw)) (fun _ h9 => h9) hdg ?_
      rw [← e2]
      exact i_pure (stk' := .ref 102 :: stk) hL hP hS kk
    · simp only [Bool.and_eq_true, decide_eq_true_eq] at hR
      obtain ⟨rfl, hw⟩ := hR
      cases h
      refine va_gets hx hb hE.2.2.2.1 hS hown (hts _ (i_has_in hw)) (fun _ h9 => h9) hdg ?_
      rw [← e3]
      exact i_pure (stk' := .ref 103 :: stk) hL hP hS kk
    · simp only [Bool.and_eq_true, decide_eq_true_eq] at hR
      obtain ⟨rfl, hw⟩ := hR
      cases h
      exact va_gets hx hb hE.2.2.2.2.1 hS hown (hts _ (i_has_in hw)) (fun _ h9 => h9) hdg (i_pure (stk' := .int 1 :: stk) hL hP hS kk)
    · cases h
    · cases hR
  case iload i =>
    rcases hlen with h0 | rfl
    · exact absurd h0 (by simp [i_len])
    exact i_s_ld hL hP hS h kk (fun _ x hl k => lv_iload hx hb hdg hl k) (fun z => by cases z) (fun z => by cases z)
  case iload_n i =>
    rcases hlen with h0 | rfl
    · exact absurd h0 (by simp [i_len])
    exact i_s_ld hL hP hS h kk (fun _ x hl k => lv_iload_n hx hb hdg rfl hl k) (fun z => by cases z) (fun z => by cases z)
  case lload i =>
    rcases hlen with h0 | rfl
    · exact absurd h0 (by simp [i_len])
    exact i_s_ld hL hP hS h kk (fun z => by cases z) (fun _ x hl k => lv_lload hx hb hdg hl k) (fun z => by cases z)
  case lload_n i =>
    rcases hlen with h0 | rfl
    · exact absurd h0 (by simp [i_len])
    exact i_s_ld hL hP hS h kk (fun z => by cases z) (fun _ x hl k => lv_lload_n hx hb hdg rfl hl k) (fun z => by cases z)
  case aload i =>
    rcases hlen with h0 | rfl
    · exact absurd h0 (by simp [i_len])
    exact i_s_ld hL hP hS h kk (fun z => by cases z) (fun z => by cases z) (fun _ x hl k => lv_aload hx hb hdg hl k)
  case aload_n i =>
    rcases hlen with h0 | rfl
    · exact absurd h0 (by simp [i_len])
    exact i_s_ld hL hP hS h kk (fun z => by cases z) (fun z => by cases z) (fun _ x hl k => lv_aload_n hx hb hdg rfl hl k)
  case istore i =>
    rcases hlen with h0 | rfl
    · exact absurd h0 (by simp [i_len])
    exact i_s_sto hL hP hS h kk (fun _ x st hi k => lv_istore hx hb hdg hL.has hi rfl k) (fun z => by cases z) (fun z => by cases z)
  case istore_n i =>
    rcases hlen with h0 | rfl
    · exact absurd h0 (by simp [i_len])
    exact i_s_sto hL hP hS h kk (fun _ x st hi k => lv_istore_n hx hb hdg rfl hL.has hi rfl k) (fun z => by cases z) (fun z => by cases z)
  case lstore i =>
    rcases hlen with h0 | rfl
    · exact absurd h0 (by simp [i_len])
    exact i_s_sto hL hP hS h kk (fun z => by cases z) (fun _ x st hi k => lv_lstore hx hb hdg hL.has hi rfl k) (fun z => by cases z)
  case lstore_n i =>
    rcases hlen with h0 | rfl
    · exact absurd h0 (by simp [i_len])
    exact i_s_sto hL hP hS h kk (fun z => by cases z) (fun _ x st hi k => lv_lstore_n hx hb hdg rfl hL.has hi rfl k) (fun z => by cases z)
  case astore i =>
    rcases hlen with h0 | rfl
    · exact absurd h0 (by simp [i_len])
    exact i_s_sto hL hP hS h kk (fun z => by cases z) (fun z => by cases z) (fun _ x st hi k => lv_astore hx hb hdg hL.has hi rfl k)
  case astore_n i =>
    rcases hlen with h0 | rfl
    · exact absurd h0 (by simp [i_len])
    exact i_s_sto hL hP hS h kk (fun z => by cases z) (fun z => by cases z) (fun _ x st hi k => lv_astore_n hx hb hdg rfl hL.has hi rfl k)
  case iinc i n =>
    rcases hlen with h0 | rfl
    · exact absurd h0 (by simp [i_len])
    have hc := of_decide_eq_true hR
    subst hc
    unfold i_do at h
    dsimp only at h
    split at h
    · rename_i x d hg hd
      cases hd
      split at h
      · rename_i hi
        cases h
        obtain ⟨k, hk⟩ := List.getElem?_of_mem (i_as_mem (G := G) (q := (i, .int x)).mpr ⟨.int x, i_get_some hg, rfl⟩)
        exact lv_iinc hx hb hdg hL.has hk rfl (by rw [← hL.1]; exact hi) rfl (fun ls' h' => kk ls' H locs cells slots rfl rfl (i_L_st1 (v := .int _) hL h') hP hS)
      · cases h
    · cases h
  case iadd =>
    rcases hlen with h0 | rfl
    · exact absurd h0 (by simp [i_len])
    exact i_s_bin hL hP hS h kk (fun x y st k => lv_iadd hx hb hdg k)
  case isub =>
    rcases hlen with h0 | rfl
    · exact absurd h0 (by simp [i_len])
    exact i_s_bin hL hP hS h kk (fun x y st k => lv_isub hx hb hdg k)
  case imul =>
    rcases hlen with h0 | rfl
    · exact absurd h0 (by simp [i_len])
    exact i_s_bin hL hP hS h kk (fun x y st k => lv_imul hx hb hdg k)
  case iand =>
    rcases hlen with h0 | rfl
    · exact absurd h0 (by simp [i_len])
    exact i_s_bin hL hP hS h kk (fun x y st k => lv_iand hx hb hdg k)
  case ior =>
    rcases hlen with h0 | rfl
    · exact absurd h0 (by simp [i_len])
    exact i_s_bin hL hP hS h kk (fun x y st k => lv_ior hx hb hdg k)
  case ixor =>
    rcases hlen with h0 | rfl
    · exact absurd h0 (by simp [i_len])
    exact i_s_bin hL hP hS h kk (fun x y st k => lv_ixor hx hb hdg k)
  case ishl =>
    rcases hlen with h0 | rfl
    · exact absurd h0 (by simp [i_len])
    exact i_s_bin hL hP hS h kk (fun x y st k => lv_ishl hx hb hdg k)
  case ishr =>
    rcases hlen with h0 | rfl
    · exact absurd h0 (by simp [i_len])
    exact i_s_bin hL hP hS h kk (fun x y st k => lv_ishr hx hb hdg k)
  case iushr =>
    rcases hlen with h0 | rfl
    · exact absurd h0 (by simp [i_len])
    exact i_s_bin hL hP hS h kk (fun x y st k => lv_iushr hx hb hdg rfl k)
  case idiv =>
    rcases hlen with h0 | rfl
    · exact absurd h0 (by simp [i_len])
    unfold i_do at h
    dsimp only at h
    split at h
    · split at h
      · cases h
      · rename_i hne
        cases h
        exact lv_idiv hx hb hdg hne (i_pure (stk' := .int _ :: _) hL hP hS kk)
    · cases h
  case irem =>
    rcases hlen with h0 | rfl
    · exact absurd h0 (by simp [i_len])
    unfold i_do at h
    dsimp only at h
    split at h
    · split at h
      · cases h
      · rename_i hne
        cases h
        exact lv_irem hx hb hdg hne (i_pure (stk' := .int (i_rem _ _) :: _) hL hP hS kk)
    · cases h
  case ineg =>
    rcases hlen with h0 | rfl
    · exact absurd h0 (by simp [i_len])
    exact i_s_un (fun _ => rfl) hL hP hS h kk (fun x st k => lv_ineg hx hb hdg k)
  case i2l =>
    rcases hlen with h0 | rfl
    · exact absurd h0 (by simp [i_len])
    exact i_s_un (fun _ => rfl) hL hP hS h kk (fun x st k => lv_i2l hx hb hdg rfl k)
  case i2b =>
    rcases hlen with h0 | rfl
    · exact absurd h0 (by simp [i_len])
    exact i_s_un (fun _ => rfl) hL hP hS h kk (fun x st k => lv_i2b hx hb hdg rfl k)
  case i2s =>
    rcases hlen with h0 | rfl
    · exact absurd h0 (by simp [i_len])
    exact i_s_un (fun _ => rfl) hL hP hS h kk (fun x st k => lv_i2s hx hb hdg rfl k)
  case i2c =>
    rcases hlen with h0 | rfl
    · exact absurd h0 (by simp [i_len])
    exact i_s_un (fun _ => rfl) hL hP hS h kk (fun x st k => lv_i2c hx hb hdg rfl k)
  case l2i =>
    rcases hlen with h0 | rfl
    · exact absurd h0 (by simp [i_len])
    exact i_s_unL (fun _ => rfl) hL hP hS h kk (fun x st k => lv_l2i hx hb hdg rfl k)
  case lneg =>
    rcases hlen with h0 | rfl
    · exact absurd h0 (by simp [i_len])
    exact i_s_unL (fun _ => rfl) hL hP hS h kk (fun x st k => lv_lneg hx hb hdg k)
  case ladd =>
    rcases hlen with h0 | rfl
    · exact absurd h0 (by simp [i_len])
    exact i_s_binL hL hP hS h kk (fun x y st k => lv_ladd hx hb hdg k)
  case lsub =>
    rcases hlen with h0 | rfl
    · exact absurd h0 (by simp [i_len])
    exact i_s_binL hL hP hS h kk (fun x y st k => lv_lsub hx hb hdg k)
  case lmul =>
    rcases hlen with h0 | rfl
    · exact absurd h0 (by simp [i_len])
    exact i_s_binL hL hP hS h kk (fun x y st k => lv_lmul hx hb hdg k)
  case land =>
    rcases hlen with h0 | rfl
    · exact absurd h0 (by simp [i_len])
    exact i_s_binL hL hP hS h kk (fun x y st k => lv_land hx hb hdg k)
  case lor =>
    rcases hlen with h0 | rfl
    · exact absurd h0 (by simp [i_len])
    exact i_s_binL hL hP hS h kk (fun x y st k => lv_lor hx hb hdg k)
  case lshl =>
    rcases hlen with h0 | rfl
    · exact absurd h0 (by simp [i_len])
    unfold i_do at h
    dsimp only at h
    split at h
    · cases h
      exact lv_lshl hx hb hdg rfl (i_pure (stk' := .long _ :: _) hL hP hS kk)
    · cases h
  case lcmp =>
    rcases hlen with h0 | rfl
    · exact absurd h0 (by simp [i_len])
    unfold i_do at h
    dsimp only at h
    split at h
    · cases h
      exact W.lcmp hx hb hdg (i_pure (stk' := .int _ :: _) hL hP hS kk)
    · cases h
  case dup =>
    rcases hlen with h0 | rfl
    · exact absurd h0 (by simp [i_len])
    unfold i_do at h
    dsimp only at h
    split at h
    · split at h
      · rename_i hc
        cases h
        exact lv_dup hx hb hdg (by rw [i_cv_cat]; exact hc) (i_pure (stk' := _ :: _ :: _) hL hP hS kk)
      · cases h
    · cases h
  case dup2 =>
    rcases hlen with h0 | rfl
    · exact absurd h0 (by simp [i_len])
    unfold i_do at h
    dsimp only at h
    split at h
    · split at h
      · rename_i hc
        cases h
        exact lv_dup2_11 hx hb hdg (by rw [i_cv_cat]; exact hc.1) (by rw [i_cv_cat]; exact hc.2) (i_pure (stk' := _ :: _ :: _ :: _ :: _) hL hP hS kk)
      · cases h
    · cases h
  case pop =>
    rcases hlen with h0 | rfl
    · exact absurd h0 (by simp [i_len])
    unfold i_do at h
    dsimp only at h
    split at h
    · split at h
      · rename_i hc
        cases h
        exact lv_pop hx hb hdg (by rw [i_cv_cat]; exact hc) (i_pure hL hP hS kk)
      · cases h
    · cases h
  case ifCond cnd off =>
    rcases hlen with h0 | rfl
    · exact absurd h0 (by simp [i_len])
    unfold i_do at h
    dsimp only at h
    split at h
    · cases h
      exact i_s_if hx hb hdg (of_decide_eq_true hR) (i_pure hL hP hS kk)
    · cases h
  case if_icmp cnd off =>
    rcases hlen with h0 | rfl
    · exact absurd h0 (by simp [i_len])
    unfold i_do at h
    dsimp only at h
    split at h
    · cases h
      exact i_s_icmp hx hb hdg (of_decide_eq_true hR) (i_pure hL hP hS kk)
    · cases h
  case goto off =>
    rcases hlen with h0 | rfl
    · exact absurd h0 (by simp [i_len])
    unfold i_do at h
    dsimp only at h
    split at h
    · cases h
      exact lv_goto hx hb hdg (of_decide_eq_true hR) (i_pure hL hP hS kk)
    · cases h
  case tableswitch dflt lo hi offs =>
    unfold i_do at h
    dsimp only at h
    split at h
    · cases h
      unfold i_okR at hR
      simp only [Bool.and_eq_true, decide_eq_true_eq] at hR
      obtain ⟨⟨⟨⟨⟨⟨g1, g2⟩, g3⟩, g4⟩, g5⟩, g6⟩, g7⟩ := hR
      exact i_s_table hx hb hdg g1 g2 g3 g4 g5 g6 g7 (i_pure hL hP hS kk)
    · cases h
  case lookupswitch dflt ps =>
    unfold i_do at h
    dsimp only at h
    split at h
    · rename_i d x rest
      cases h
      unfold i_okR at hR
      simp only [Bool.and_eq_true, decide_eq_true_eq] at hR
      obtain ⟨⟨⟨g1, g2⟩, g3⟩, g4⟩ := hR
      refine lv_lookup hx hb hdg g2 rfl (i_sw_look x d pc dflt g1 ps.toList (fun q hq => ?_)) ?_
      · have := List.all_eq_true.mp g4 q hq
        simp only [Bool.and_eq_true, decide_eq_true_eq] at this
        exact ⟨this.1.1, this.1.2, this.2⟩
      · rw [← g3]
        exact i_pure hL hP hS kk
    · cases h
  case getfield idx =>
    rcases hlen with h0 | rfl
    · exact absurd h0 (by simp [i_len])
    exact i_s_gf F hL hP hS hR hdg h kk
  case putfield idx =>
    rcases hlen with h0 | rfl
    · exact absurd h0 (by simp [i_len])
    have hR2 : (i_okF own idx r && i_okP own nm r) = true := hR
    rw [Bool.and_eq_true] at hR2
    exact i_s_pf F hL hP hS hR2.1 hR2.2 hdg h kk
  case iaload =>
    rcases hlen with h0 | rfl
    · exact absurd h0 (by simp [i_len])
    exact i_s_ald F hL hP hS (Or.inl ⟨rfl, hdg⟩) h kk
  case baload =>
    rcases hlen with h0 | rfl
    · exact absurd h0 (by simp [i_len])
    exact i_s_ald F hL hP hS (Or.inr ⟨rfl, hdg⟩) h kk
  case laload =>
    rcases hlen with h0 | rfl
    · exact absurd h0 (by simp [i_len])
    exact i_s_lald F hL hP hS hdg h kk
  case iastore =>
    rcases hlen with h0 | rfl
    · exact absurd h0 (by simp [i_len])
    exact i_s_ast F hL hP hS (Or.inl ⟨rfl, hdg⟩) h kk
  case bastore =>
    rcases hlen with h0 | rfl
    · exact absurd h0 (by simp [i_len])
    exact i_s_ast F hL hP hS (Or.inr ⟨rfl, hdg⟩) h kk
  case lastore =>
    rcases hlen with h0 | rfl
    · exact absurd h0 (by simp [i_len])
    exact i_s_last F hL hP hS hdg h kk
  case arraylength =>
    rcases hlen with h0 | rfl
    · exact absurd h0 (by simp [i_len])
    exact i_s_alen F hL hP hS hdg h kk
  case new idx =>
    rcases hlen with h0 | rfl
    · exact absurd h0 (by simp [i_len])
    exact i_s_new F hL hP hS hR hdg h hr1 hr2 kk
  case newarray aty =>
    rcases hlen with h0 | rfl
    · exact absurd h0 (by simp [i_len])
    exact i_s_newa F hL hP hS hR hdg h hr1 hr2 kk
  case invokevirtual idx =>
    unfold i_do i_inv i_cl at h
    dsimp only at h
    split at h
    · split at h
      · split at h
        · split at h
          · cases h
          · cases h
        · cases h
      · cases h
    · cases h
  case invokespecial idx =>
    rcases hlen with h0 | rfl
    · exact absurd h0 (by simp [i_len])
    unfold i_do i_ins at h
    dsimp only at h
    split at h
    · rename_i k0 p1 p2 p3
      split at h
      · rename_i a rest
        split at h
        · rename_i hsum
          cases h
          have hR2 : (i_has p1 (.methodLink own idx objectInit) && i_has p2 (.instanceMethod objectInit) && i_has p3 (.code objectInit object_method_1_code 1 none)) = true := hR
          simp only [Bool.and_eq_true] at hR2
          refine W.objInit hx hb hown (hts _ (i_has_in hR2.1.1)) (hts _ (i_has_in hR2.1.2)) (hts _ (i_has_in hR2.2)) (g := F0 m pc ls _) (rest := rest.map (i_cv G)) rfl (by rw [hml]; exact hL.2.1) rfl hdg hRf ?_ (i_pure hL hP hS kk)
          rw [i_cv_sum]
          show 2 * 0 + _ + 12 ≤ _
          omega
        · cases h
      · cases h
    · split at h
      · unfold i_cl at h
        split at h <;> cases h
      · cases h
    · cases h
  case invokestatic idx =>
    rcases hlen with h0 | rfl
    · exact absurd h0 (by simp [i_len])
    unfold i_do i_invS at h
    dsimp only at h
    split at h
    · rename_i k0 p1 p2 p3 p4
      exact i_s_cpy (k0 := k0) F hL hP hS hRf hRl hR hdg h kk
    · exact i_s_math F hL hP hS hRf hRl hR hdg h hr1 hr2 hm1 hm2 kk
    · split at h
      · unfold i_cl at h
        split at h <;> cases h
      · cases h
    · cases h
  case ireturn =>
    unfold i_do i_iret i_ret at h
    dsimp only at h
    split at h
    · split at h <;> cases h
    · cases h
  case lreturn =>
    unfold i_do i_ret at h
    dsimp only at h
    split at h <;> cases h
  case return_ =>
    unfold i_do i_ret at h
    dsimp only at h
    split at h <;> cases h
  all_goals (exact absurd h (by unfold i_do; simp))
end ISIM6
end
section
/-! ===== part 13: calls, returns; a run of the small machine is a run of the machine ===== -/
def i_le (S S' : I_St) : Prop := S.1.length ≤ S'.1.length ∧ i_sl S ≤ i_sl S' ∧ S'.2.2.2 = S.2.2.2
theorem i_le_rf (S : I_St) : i_le S S := ⟨Nat.le_refl _, Nat.le_refl _, rfl⟩
theorem i_le_tr {A B C : I_St} (h : i_le A B) (h2 : i_le B C) : i_le A C := ⟨Nat.le_trans h.1 h2.1, Nat.le_trans h.2.1 h2.2.1, h2.2.2.trans h.2.2⟩
def i_okO (S : I_St) (o : Option I_Out) : Prop := match o with
  | none => True
  | some (.inl cf) => i_le S cf.2.2.2
  | some (.inr (.inl q)) => q.2.2.2.2.2 = S
  | some (.inr (.inr _)) => True
theorem i_okO_n {pc : Nat} {lv : List (Option Value)} {stk : List Value} {S : I_St} : i_okO S (i_n pc lv stk S) := i_le_rf S
theorem i_okO_ld {i len kind pc : Nat} {lv : List (Option Value)} {stk : List Value} {S : I_St} : i_okO S (i_ld i len kind pc lv stk S) := by
  unfold i_ld
  split <;> first | exact i_okO_n | trivial
theorem i_okO_sto {i len kind pc : Nat} {lv : List (Option Value)} {stk : List Value} {S : I_St} : i_okO S (i_sto i len kind pc lv stk S) := by
  unfold i_sto
  split
  · split <;> first | exact i_okO_n | trivial
  · split <;> first | exact i_okO_n | trivial
  · split <;> first | exact i_okO_n | trivial
  · trivial
theorem i_okO_bin {f : Int32 → Int32 → Int32} {pc : Nat} {lv : List (Option Value)} {stk : List Value} {S : I_St} : i_okO S (i_bin f pc lv stk S) := by
  unfold i_bin
  split <;> first | exact i_okO_n | trivial
theorem i_okO_binL {f : Int64 → Int64 → Int64} {pc : Nat} {lv : List (Option Value)} {stk : List Value} {S : I_St} : i_okO S (i_binL f pc lv stk S) := by
  unfold i_binL
  split <;> first | exact i_okO_n | trivial
theorem i_okO_un {f : Int32 → Value} {pc : Nat} {lv : List (Option Value)} {stk : List Value} {S : I_St} : i_okO S (i_un stk f pc lv S) := by
  unfold i_un
  split <;> first | exact i_okO_n | trivial
theorem i_okO_unL {f : Int64 → Value} {pc : Nat} {lv : List (Option Value)} {stk : List Value} {S : I_St} : i_okO S (i_unL stk f pc lv S) := by
  unfold i_unL
  split <;> first | exact i_okO_n | trivial
theorem i_okO_gf {r : List Nat} {pc : Nat} {lv : List (Option Value)} {stk : List Value} {S : I_St} : i_okO S (i_gf r pc lv stk S) := by
  unfold i_gf
  repeat' split
  all_goals first | exact i_okO_n | trivial
theorem i_okO_pf {r : List Nat} {pc : Nat} {lv : List (Option Value)} {stk : List Value} {S : I_St} : i_okO S (i_pf r pc lv stk S) := by
  unfold i_pf
  repeat' split
  all_goals first | trivial | exact ⟨Nat.le_refl _, Nat.le_refl _, rfl⟩ | skip
  rename_i t n refs hq hc
  refine ⟨?_, ?_, rfl⟩
  · show _ ≤ (S.1.set _ _).length
    rw [List.length_set]
    exact Nat.le_refl _
  · show i_sl S ≤ ((S.1.set _ _).map fun z : I_Sh => z.2.1).sum
    exact Nat.le_of_eq (i_sum_set hq (by rfl)).symm
theorem i_okO_ald {tag : Nat} {pc : Nat} {lv : List (Option Value)} {stk : List Value} {S : I_St} : i_okO S (i_ald tag pc lv stk S) := by
  unfold i_ald
  repeat' split
  all_goals first | exact i_okO_n | trivial
theorem i_okO_lald {pc : Nat} {lv : List (Option Value)} {stk : List Value} {S : I_St} : i_okO S (i_lald pc lv stk S) := by
  unfold i_lald
  repeat' split
  all_goals first | exact i_okO_n | trivial
theorem i_okO_ast {tag : Nat} {pc : Nat} {lv : List (Option Value)} {stk : List Value} {S : I_St} : i_okO S (i_ast tag pc lv stk S) := by
  unfold i_ast
  repeat' split
  all_goals first | trivial | exact ⟨Nat.le_refl _, Nat.le_refl _, rfl⟩
theorem i_okO_last {pc : Nat} {lv : List (Option Value)} {stk : List Value} {S : I_St} : i_okO S (i_last pc lv stk S) := by
  unfold i_last
  repeat' split
  all_goals first | trivial | exact ⟨Nat.le_refl _, Nat.le_refl _, rfl⟩
theorem i_okO_alen {pc : Nat} {lv : List (Option Value)} {stk : List Value} {S : I_St} : i_okO S (i_alen pc lv stk S) := by
  unfold i_alen
  repeat' split
  all_goals first | exact i_okO_n | trivial
theorem i_okO_cpy {pc : Nat} {lv : List (Option Value)} {stk : List Value} {S : I_St} : i_okO S (i_cpy pc lv stk S) := by
  unfold i_cpy
  repeat' split
  all_goals first | trivial | exact ⟨Nat.le_refl _, Nat.le_refl _, rfl⟩
theorem i_okO_math {k : Nat} {pc : Nat} {lv : List (Option Value)} {stk : List Value} {S : I_St} : i_okO S (i_math k pc lv stk S) := by
  unfold i_math
  repeat' split
  all_goals first | exact i_okO_n | trivial
theorem i_okO_new {r : List Nat} {pc : Nat} {lv : List (Option Value)} {stk : List Value} {S : I_St} : i_okO S (i_new r pc lv stk S) := by
  unfold i_new
  repeat' split
  all_goals first | trivial | skip
  refine ⟨?_, ?_, rfl⟩
  · show _ ≤ (S.1 ++ _).length
    simp
  · show i_sl S ≤ ((S.1 ++ _).map fun z : I_Sh => z.2.1).sum
    rw [List.map_append, List.sum_append]
    exact Nat.le_add_right _ _
theorem i_okO_newa {r : List Nat} {pc : Nat} {lv : List (Option Value)} {stk : List Value} {S : I_St} : i_okO S (i_newa r pc lv stk S) := by
  unfold i_newa
  repeat' split
  all_goals first | trivial | skip
  refine ⟨?_, ?_, rfl⟩
  · show _ ≤ (S.1 ++ _).length
    simp
  · show i_sl S ≤ ((S.1 ++ _).map fun z : I_Sh => z.2.1).sum
    rw [List.map_append, List.sum_append]
    exact Nat.le_add_right _ _
theorem i_okO_cl {j : Nat} {as : List Value} {pc : Nat} {lv : List (Option Value)} {stk : List Value} {S : I_St} : i_okO S (i_cl j as pc lv stk S) := by
  unfold i_cl
  split
  · rfl
  · trivial
theorem i_okO_do {ins : Instr} {c : Value} {r : List Nat} {sw : List (Int32 × Nat)} {pc : Nat} {lv : List (Option Value)} {stk : List Value} {S : I_St} : i_okO S (i_do ins c r sw pc lv stk S) := by
  unfold i_do
  cases ins <;> dsimp only <;> first
    | trivial
    | exact i_okO_n
    | exact i_okO_ld
    | exact i_okO_sto
    | exact i_okO_bin
    | exact i_okO_binL
    | exact i_okO_un
    | exact i_okO_unL
    | exact i_okO_gf
    | exact i_okO_pf
    | exact i_okO_ald
    | exact i_okO_lald
    | exact i_okO_ast
    | exact i_okO_last
    | exact i_okO_alen
    | exact i_okO_new
    | exact i_okO_newa
    | (repeat' split
       all_goals first | exact i_okO_n | trivial)
    | (unfold i_inv
       repeat' split
       all_goals first | exact i_okO_cl | trivial)
    | (unfold i_ins
       repeat' split
       all_goals first | exact i_okO_cl | exact i_okO_n | trivial)
    | (unfold i_invS
       repeat' split
       all_goals first | exact i_okO_cl | exact i_okO_cpy | exact i_okO_math | trivial)
    | (unfold i_iret
       repeat' split
       all_goals trivial)
theorem i_Rn_le {E : Nat → List Value → I_St → Option Value → I_St → Prop} (hE : ∀ k as S v S1, E k as S v S1 → i_le S S1) {code : List I_En} : ∀ (n : Nat) (cf : I_Cf) (r : Option Value) (S' : I_St), I_Rn E code n cf r S' → i_le cf.2.2.2 S' := by
  intro n
  induction n with
  | zero => intro cf r S' h; exact h.elim
  | succ n ih =>
    intro cf r S' h
    have hO : i_okO cf.2.2.2 (i_stp code cf) := by
      unfold i_stp
      split
      · trivial
      · exact i_okO_do
    unfold I_Rn at h
    split at h
    · exact h.elim
    · rename_i cf' e1
      rw [e1] at hO
      exact i_le_tr hO (ih _ _ _ h)
    · rename_i k as cf' e1
      rw [e1] at hO
      obtain ⟨v, S1, h1, h2⟩ := h
      have h3 := ih _ _ _ h2
      have e2 : cf'.2.2.2 = cf.2.2.2 := hO
      rw [← e2]
      exact i_le_tr (hE _ _ _ _ _ h1) h3
    · obtain ⟨-, rfl⟩ := h
      exact i_le_rf _
theorem i_Ex_le : ∀ (d j : Nat) (as : List Value) (S : I_St) (r : Option Value) (S' : I_St), I_Ex d j as S r S' → i_le S S' := by
  intro d
  induction d with
  | zero => intro j as S r S' h; exact h.elim
  | succ d ih =>
    intro j as S r S' h
    unfold I_Ex at h
    split at h
    · exact h.elim
    · obtain ⟨-, n, h⟩ := h
      exact i_Rn_le (fun k as S v S1 => ih k as S v S1) n _ _ _ h
/-! contracts -/
def i_room (d : Nat) (S S' : I_St) : Room := { frames := d, cells := S'.1.length - S.1.length, slots := i_sl S' - i_sl S, locals := 64 * d }
def i_Q (D : va_G) (G : I_G) (r : Option Value) (S' : I_St) : Array Value → State → Outcome → State → Prop := match r with
  | none => va_Qv (fun _ : Unit => True) (fun _ t => i_P D G S' t.heap) (i_A G)
  | some (.int v) => va_Qi (fun x (_ : Unit) => x = v) (fun _ t => i_P D G S' t.heap) (i_A G)
  | some (.long v) => va_Ql (fun x (_ : Unit) => x = v) (fun _ t => i_P D G S' t.heap) (i_A G)
  | some _ => fun _ _ _ _ => False
def i_B (D : va_G) (G : I_G) (S : I_St) : State → Prop := fun U => i_P D G S U.heap ∧ i_K D G U ∧ i_E G S.2.2.2 U U.heap
def i_Ws (e : I_Row) : List Jvm.Cond := .code e.1 e.2.1 e.2.2.1 e.2.2.2.1 :: i_W0
def i_MetAt (l : Launch) (D : va_G) (G : I_G) (d j : Nat) (as : List Value) (S : I_St) (r : Option Value) (S' : I_St) : Prop :=
  ∀ e : I_Row, i_mt j = some e → Met l e.1 (i_Ws e) (i_room d S S') (va_Pc (as.map (i_cv G)) (i_B D G S)) (i_Q D G r S') (S'.1.length - S.1.length) (i_sl S' - i_sl S) (i_A G)
theorem i_good {L : List Jvm.Cond} (h : ∀ w ∈ L, w ∈ i_W0) : GoodIn i_W0 L := fun w hw => ⟨h w hw, good_of_word (List.mem_filter.mp (h w hw)).2⟩
theorem i_blind {av : List Value} {D : va_G} {G : I_G} {S : I_St} : FrameBlind (va_Pc av (i_B D G S)) := fun a U g mk q => ⟨q.1, q.2.1, i_K.same (u := U) (U := U.calling g mk a) rfl q.2.2.1, i_E.moved (u := U) (U := U.calling g mk a) (Vm.Alike.refl U.vm) q.2.2.2⟩
theorem i_nc_n {pc : Nat} {lv : List (Option Value)} {stk : List Value} {S : I_St} {q : Nat × List Value × I_Cf} : ¬ i_n pc lv stk S = some (.inr (.inl q)) := by
  intro z; cases z
theorem i_nc_ld {i len kind pc : Nat} {lv : List (Option Value)} {stk : List Value} {S : I_St} {q : Nat × List Value × I_Cf} : ¬ i_ld i len kind pc lv stk S = some (.inr (.inl q)) := by
  unfold i_ld
  repeat' split
  all_goals (intro z; cases z)
theorem i_nc_sto {i len kind pc : Nat} {lv : List (Option Value)} {stk : List Value} {S : I_St} {q : Nat × List Value × I_Cf} : ¬ i_sto i len kind pc lv stk S = some (.inr (.inl q)) := by
  unfold i_sto
  repeat' split
  all_goals (intro z; cases z)
theorem i_nc_bin {f : Int32 → Int32 → Int32} {pc : Nat} {lv : List (Option Value)} {stk : List Value} {S : I_St} {q : Nat × List Value × I_Cf} : ¬ i_bin f pc lv stk S = some (.inr (.inl q)) := by
  unfold i_bin
  repeat' split
  all_goals (intro z; cases z)
theorem i_nc_binL {f : Int64 → Int64 → Int64} {pc : Nat} {lv : List (Option Value)} {stk : List Value} {S : I_St} {q : Nat × List Value × I_Cf} : ¬ i_binL f pc lv stk S = some (.inr (.inl q)) := by
  unfold i_binL
  repeat' split
  all_goals (intro z; cases z)
theorem i_nc_un {f : Int32 → Value} {pc : Nat} {lv : List (Option Value)} {stk : List Value} {S : I_St} {q : Nat × List Value × I_Cf} : ¬ i_un stk f pc lv S = some (.inr (.inl q)) := by
  unfold i_un
  repeat' split
  all_goals (intro z; cases z)
theorem i_nc_unL {f : Int64 → Value} {pc : Nat} {lv : List (Option Value)} {stk : List Value} {S : I_St} {q : Nat × List Value × I_Cf} : ¬ i_unL stk f pc lv S = some (.inr (.inl q)) := by
  unfold i_unL
  repeat' split
  all_goals (intro z; cases z)
theorem i_nc_gf {r : List Nat} {pc : Nat} {lv : List (Option Value)} {stk : List Value} {S : I_St} {q : Nat × List Value × I_Cf} : ¬ i_gf r pc lv stk S = some (.inr (.inl q)) := by
  unfold i_gf
  repeat' split
  all_goals (intro z; cases z)
theorem i_nc_pf {r : List Nat} {pc : Nat} {lv : List (Option Value)} {stk : List Value} {S : I_St} {q : Nat × List Value × I_Cf} : ¬ i_pf r pc lv stk S = some (.inr (.inl q)) := by
  unfold i_pf
  repeat' split
  all_goals (intro z; cases z)
theorem i_nc_ald {tag pc : Nat} {lv : List (Option Value)} {stk : List Value} {S : I_St} {q : Nat × List Value × I_Cf} : ¬ i_ald tag pc lv stk S = some (.inr (.inl q)) := by
  unfold i_ald
  repeat' split
  all_goals (intro z; cases z)
theorem i_nc_lald {pc : Nat} {lv : List (Option Value)} {stk : List Value} {S : I_St} {q : Nat × List Value × I_Cf} : ¬ i_lald pc lv stk S = some (.inr (.inl q)) := by
  unfold i_lald
  repeat' split
  all_goals (intro z; cases z)
theorem i_nc_ast {tag pc : Nat} {lv : List (Option Value)} {stk : List Value} {S : I_St} {q : Nat × List Value × I_Cf} : ¬ i_ast tag pc lv stk S = some (.inr (.inl q)) := by
  unfold i_ast
  repeat' split
  all_goals (intro z; cases z)
theorem i_nc_last {pc : Nat} {lv : List (Option Value)} {stk : List Value} {S : I_St} {q : Nat × List Value × I_Cf} : ¬ i_last pc lv stk S = some (.inr (.inl q)) := by
  unfold i_last
  repeat' split
  all_goals (intro z; cases z)
theorem i_nc_alen {pc : Nat} {lv : List (Option Value)} {stk : List Value} {S : I_St} {q : Nat × List Value × I_Cf} : ¬ i_alen pc lv stk S = some (.inr (.inl q)) := by
  unfold i_alen
  repeat' split
  all_goals (intro z; cases z)
theorem i_nc_new {r : List Nat} {pc : Nat} {lv : List (Option Value)} {stk : List Value} {S : I_St} {q : Nat × List Value × I_Cf} : ¬ i_new r pc lv stk S = some (.inr (.inl q)) := by
  unfold i_new
  repeat' split
  all_goals (intro z; cases z)
theorem i_nc_newa {r : List Nat} {pc : Nat} {lv : List (Option Value)} {stk : List Value} {S : I_St} {q : Nat × List Value × I_Cf} : ¬ i_newa r pc lv stk S = some (.inr (.inl q)) := by
  unfold i_newa
  repeat' split
  all_goals (intro z; cases z)
theorem i_nc_iret {r : List Nat} {stk : List Value} {q : Nat × List Value × I_Cf} : ¬ i_iret r stk = some (.inr (.inl q)) := by
  unfold i_iret
  repeat' split
  all_goals (intro z; cases z)
def i_nR (o : Option I_Out) : Prop := ∀ v, ¬ o = some (.inr (.inr v))
theorem i_nr {o : Option I_Out} {v : Option Value} (h : i_nR o) (h2 : o = some (.inr (.inr v))) : False := h v h2
theorem i_nr_n {pc : Nat} {lv : List (Option Value)} {stk : List Value} {S : I_St} : i_nR (i_n pc lv stk S) := by
  intro v z; cases z
theorem i_nr_cl {j : Nat} {as : List Value} {pc : Nat} {lv : List (Option Value)} {stk : List Value} {S : I_St} : i_nR (i_cl j as pc lv stk S) := by
  unfold i_cl
  split <;> (intro v z; cases z)
theorem i_nr_ld {i len kind pc : Nat} {lv : List (Option Value)} {stk : List Value} {S : I_St} : i_nR (i_ld i len kind pc lv stk S) := by
  unfold i_ld
  repeat' split
  all_goals (intro v z; cases z)
theorem i_nr_sto {i len kind pc : Nat} {lv : List (Option Value)} {stk : List Value} {S : I_St} : i_nR (i_sto i len kind pc lv stk S) := by
  unfold i_sto
  repeat' split
  all_goals (intro v z; cases z)
theorem i_nr_bin {f : Int32 → Int32 → Int32} {pc : Nat} {lv : List (Option Value)} {stk : List Value} {S : I_St} : i_nR (i_bin f pc lv stk S) := by
  unfold i_bin
  repeat' split
  all_goals (intro v z; cases z)
theorem i_nr_binL {f : Int64 → Int64 → Int64} {pc : Nat} {lv : List (Option Value)} {stk : List Value} {S : I_St} : i_nR (i_binL f pc lv stk S) := by
  unfold i_binL
  repeat' split
  all_goals (intro v z; cases z)
theorem i_nr_un {f : Int32 → Value} {pc : Nat} {lv : List (Option Value)} {stk : List Value} {S : I_St} : i_nR (i_un stk f pc lv S) := by
  unfold i_un
  repeat' split
  all_goals (intro v z; cases z)
theorem i_nr_unL {f : Int64 → Value} {pc : Nat} {lv : List (Option Value)} {stk : List Value} {S : I_St} : i_nR (i_unL stk f pc lv S) := by
  unfold i_unL
  repeat' split
  all_goals (intro v z; cases z)
theorem i_nr_gf {r : List Nat} {pc : Nat} {lv : List (Option Value)} {stk : List Value} {S : I_St} : i_nR (i_gf r pc lv stk S) := by
  unfold i_gf
  repeat' split
  all_goals (intro v z; cases z)
theorem i_nr_pf {r : List Nat} {pc : Nat} {lv : List (Option Value)} {stk : List Value} {S : I_St} : i_nR (i_pf r pc lv stk S) := by
  unfold i_pf
  repeat' split
  all_goals (intro v z; cases z)
theorem i_nr_ald {tag : Nat} {pc : Nat} {lv : List (Option Value)} {stk : List Value} {S : I_St} : i_nR (i_ald tag pc lv stk S) := by
  unfold i_ald
  repeat' split
  all_goals (intro v z; cases z)
theorem i_nr_lald {pc : Nat} {lv : List (Option Value)} {stk : List Value} {S : I_St} : i_nR (i_lald pc lv stk S) := by
  unfold i_lald
  repeat' split
  all_goals (intro v z; cases z)
theorem i_nr_ast {tag : Nat} {pc : Nat} {lv : List (Option Value)} {stk : List Value} {S : I_St} : i_nR (i_ast tag pc lv stk S) := by
  unfold i_ast
  repeat' split
  all_goals (intro v z; cases z)
theorem i_nr_last {pc : Nat} {lv : List (Option Value)} {stk : List Value} {S : I_St} : i_nR (i_last pc lv stk S) := by
  unfold i_last
  repeat' split
  all_goals (intro v z; cases z)
theorem i_nr_alen {pc : Nat} {lv : List (Option Value)} {stk : List Value} {S : I_St} : i_nR (i_alen pc lv stk S) := by
  unfold i_alen
  repeat' split
  all_goals (intro v z; cases z)
theorem i_nr_cpy {pc : Nat} {lv : List (Option Value)} {stk : List Value} {S : I_St} : i_nR (i_cpy pc lv stk S) := by
  unfold i_cpy
  repeat' split
  all_goals (intro v z; cases z)
theorem i_nr_math {k : Nat} {pc : Nat} {lv : List (Option Value)} {stk : List Value} {S : I_St} : i_nR (i_math k pc lv stk S) := by
  unfold i_math
  repeat' split
  all_goals (intro v z; cases z)
theorem i_nr_new {r : List Nat} {pc : Nat} {lv : List (Option Value)} {stk : List Value} {S : I_St} : i_nR (i_new r pc lv stk S) := by
  unfold i_new
  repeat' split
  all_goals (intro v z; cases z)
theorem i_nr_newa {r : List Nat} {pc : Nat} {lv : List (Option Value)} {stk : List Value} {S : I_St} : i_nR (i_newa r pc lv stk S) := by
  unfold i_newa
  repeat' split
  all_goals (intro v z; cases z)
theorem i_nr_inv {r : List Nat} {pc : Nat} {lv : List (Option Value)} {stk : List Value} {S : I_St} : i_nR (i_inv r pc lv stk S) := by
  unfold i_inv
  repeat' split
  all_goals first | exact i_nr_cl | exact i_nr_n | exact i_nr_cpy | exact i_nr_math | (intro v z; cases z)
theorem i_nr_ins {r : List Nat} {pc : Nat} {lv : List (Option Value)} {stk : List Value} {S : I_St} : i_nR (i_ins r pc lv stk S) := by
  unfold i_ins
  repeat' split
  all_goals first | exact i_nr_cl | exact i_nr_n | exact i_nr_cpy | exact i_nr_math | (intro v z; cases z)
theorem i_nr_invS {r : List Nat} {pc : Nat} {lv : List (Option Value)} {stk : List Value} {S : I_St} : i_nR (i_invS r pc lv stk S) := by
  unfold i_invS
  repeat' split
  all_goals first | exact i_nr_cl | exact i_nr_n | exact i_nr_cpy | exact i_nr_math | (intro v z; cases z)
section ISIM7
variable {p : Program} {l : Launch} {e : Env} {R : Room} {s : State} {m : MethodId} {args : Array Value} {below : List Frame} {meth : Method} {c : Code} {H : Heap} {locs : List Loc} {cells slots : Nat} {Q : State → Prop}
variable {cc : ByteArray} {D : va_G} {G : I_G} {own nm : String} {nL : Nat} {ret : Option FieldType} {X : Nat × (Nat → Int32)} {pc : Nat} {ls : Array Slot} {lv : List (Option Value)} {stk : List Value} {S : I_St} {cf : I_Cf}
theorem i_after {mc ms : Nat} {v : Option Value} {S1 : I_St} {st0 rest : List Value} {a : Array Value} (hr : va_Run p l e R s m args below meth c H locs cells slots mc ms (F0 m pc ls st0) (rest.map (i_cv G)) (i_Q D G v S1 a) (i_A G)) (hS : va_S (i_A G) s.heap H locs)
    (kk : ∀ (H1 : Heap) (locs1 : List Loc), i_P D G S1 H1 → va_S (i_A G) s.heap H1 locs1 → W p l e R s m args below meth c H1 locs1 (cells + mc) (slots + ms) Q (F0 m (pc + 3) ls ((v.toList ++ rest).map (i_cv G)))) : W p l e R s m args below meth c H locs cells slots Q (F0 m pc ls st0) := by
  cases v with
  | none => exact va_callv (a := a) hr hS (fun q _ h => h) (fun q h => h) (fun u t H1 locs1 ht hvm _ hB _ _ hS1 => kk H1 locs1 (by rw [← ht]; exact hB) hS1)
  | some w =>
    cases w with
    | int x => exact va_calli (a := a) hr hS (fun q _ h => h) (fun q h => h) (fun r u t H1 locs1 ht hvm hp hB _ _ hS1 => by cases hp; exact kk H1 locs1 (by rw [← ht]; exact hB) hS1)
    | long x => exact va_calll (a := a) hr hS (fun q _ h => h) (fun q h => h) (fun r u t H1 locs1 ht hvm hp hB _ _ hS1 => by cases hp; exact kk H1 locs1 (by rw [← ht]; exact hB) hS1)
    | _ =>
      intro T hT X
      obtain ⟨v, st₀, t, T', L, h0, X', hL, e1, e2, hq, st⟩ := hr T hT X
      exact hq.elim
theorem i_preU (hP : i_P D G S H) (hK : i_K D G s) (hE : i_E G S.2.2.2 s s.heap) (hS : va_S (i_A G) s.heap H locs) (av : List Value) : ∀ U : State, U.heap = H → s.WarmedH U.vm → va_Pc av (i_B D G S) av.toArray U := by
  intro U hU hW
  refine ⟨rfl, by rw [hU]; exact hP, hK.warm hW, ?_⟩
  rw [hU]
  exact (hE.moved hW.alike).kept hS.2.1
theorem i_take {α : Type} {l2 : List α} {n : Nat} {x : α} {r : List α} (h : l2.drop n = x :: r) : l2 = l2.take n ++ x :: r ∧ (l2.take n).length = n := by
  refine ⟨by rw [← h, List.take_append_drop], ?_⟩
  rw [List.length_take]
  have : (l2.drop n).length = r.length + 1 := by rw [h]; rfl
  rw [List.length_drop] at this
  omega
/-- a call -/
theorem i_call {d : Nat} {ins : Instr} {len : Nat} {cst : Value} {r : List Nat} {sw : List (Int32 × Nat)} (IH : ∀ (j : Nat) (as : List Value) (S : I_St) (r : Option Value) (S' : I_St), I_Ex d j as S r S' → i_MetAt l D G d j as S r S')
    (F : i_Fr p s m args meth c cc D G own nm nL ret S.2.2.2) (hL : i_L G ls nL lv) (hP : i_P D G S H) (hS : va_S (i_A G) s.heap H locs) (hRf : d + 1 ≤ R.frames) (hRl : 64 * d + 64 ≤ R.locals)
    (hok : i_okE own nm cc ret (pc, ins, len, cst, r, sw) = true) {k : Nat} {as : List Value} (h : i_do ins cst r sw pc lv stk S = some (.inr (.inl (k, as, cf)))) {v : Option Value} {S1 : I_St} (hE1 : I_Ex d k as S v S1)
    (hr1 : cells + S1.1.length ≤ R.cells + S.1.length) (hr2 : slots + i_sl S1 ≤ R.slots + i_sl S)
    (kk : i_KK p l e R s m args below meth c cells slots Q D G nL S (i_res cf v S1)) : W p l e R s m args below meth c H locs cells slots Q (F0 m pc ls (stk.map (i_cv G))) := by
  obtain ⟨hx, hb, hr, hlk, hml, hown, hnm, hts, hK, hE, hG⟩ := F
  have hle := i_Ex_le d k as S v S1 hE1
  have hf : cells + (S1.1.length - S.1.length) ≤ R.cells ∧ slots + (i_sl S1 - i_sl S) ≤ R.slots := ⟨by have := hle.1; omega, by have := hle.2.1; omega⟩
  have fin : ∀ {rest : List Value}, cf = (pc + 3, lv, rest, S) → ∀ (H1 : Heap) (locs1 : List Loc), i_P D G S1 H1 → va_S (i_A G) s.heap H1 locs1 → W p l e R s m args below meth c H1 locs1 (cells + (S1.1.length - S.1.length)) (slots + (i_sl S1 - i_sl S)) Q (F0 m (pc + 3) ls ((v.toList ++ rest).map (i_cv G))) := by
    intro rest hcf H1 locs1 hP1 hS1
    rw [hcf] at kk
    exact kk ls H1 locs1 _ _ (by show _ = cells + S1.1.length; have := hle.1; omega) (by show _ = slots + i_sl S1; have := hle.2.1; omega) hL hP1 hS1
  simp only [i_okE, Bool.and_eq_true, Bool.or_eq_true, decide_eq_true_eq] at hok
  obtain ⟨⟨hdg, hlen⟩, hR⟩ := hok
  have noO : ∀ {o : Option I_Out}, o = some (.inr (.inl (k, as, cf))) → (∀ q, o ≠ some (.inr (.inl q))) → False := fun h1 h2 => h2 _ h1
  cases ins
  case invokevirtual idx =>
    rcases hlen with h0 | rfl
    · exact absurd h0 (by simp [i_len])
    unfold i_do i_inv i_cl at h
    dsimp only at h
    split at h
    · rename_i j na nest p1 p2 p3 p4 p5
      split at h
      · rename_i q rest hdrop
        split at h
        · rename_i hisC
          split at h
          · rename_i hsum
            cases h
            have hR2 : i_okC own idx 0 [k, na, nest, p1, p2, p3, p4, p5] = true := hR
            unfold i_okC at hR2
            dsimp only at hR2
            cases hmt : i_mt k with
            | none => rw [hmt] at hR2; cases hR2
            | some row =>
              obtain ⟨y, bytes, maxL, rt, es, ci⟩ := row
              rw [hmt] at hR2
              simp only [Bool.and_eq_true, decide_eq_true_eq] at hR2
              obtain ⟨⟨⟨⟨⟨⟨⟨⟨⟨g1, g2⟩, g3x⟩, -⟩, g4⟩, g5⟩, g6⟩, g7⟩, g8⟩, g9⟩ := hR2
              rw [if_neg (by decide)] at g2
              rw [if_pos trivial, Bool.and_eq_true] at g3x
              obtain ⟨g3, g3c⟩ := g3x
              have hM := IH k _ S v S1 hE1 _ hmt
              obtain ⟨es1, es2⟩ := i_take hdrop
              have hcl : i_clsOf k = ci := by unfold i_clsOf; rw [hmt]
              have hrecv : ∃ cellB : Cell, H[i_ad G q]? = some cellB ∧ cellB.vm.isStatics = false ∧ s.vm.findClass y.cls = some cellB.cls := by
                rw [hcl] at hisC
                unfold i_isC at hisC
                cases hq : S.1[q]? with
                | some sh =>
                  obtain ⟨t, n, refs⟩ := sh
                  rw [hq] at hisC
                  have ht : t = 10 + ci := of_decide_eq_true hisC
                  have he := i_ws_some (G := G) hq
                  rw [i_cell_obj ht] at he
                  rw [i_ad_lt hP hq]
                  by_cases h90 : ci = 90
                  · exfalso
                    rcases hP.2.2.2 q _ hq with h | h | h | ⟨ci', h, h', -⟩
                    · simp only at h; omega
                    · simp only at h; omega
                    · simp only at h; omega
                    · obtain ⟨r9, h9, -⟩ := hP.1 q _ he
                      rw [h90] at h9
                      simp [i_cls] at h9
                  · rw [if_neg h90] at g3c
                    cases hc : i_cls[ci]? with
                    | none => rw [hc] at g3c; cases g3c
                    | some y2 =>
                      rw [hc] at g3c
                      rw [← of_decide_eq_true g3c]
                      exact va_recv hK.1 hP.1 hc he
                | none =>
                  rw [hq] at hisC
                  simp only [Bool.and_eq_true, decide_eq_true_eq] at hisC
                  obtain ⟨rfl, rfl⟩ := hisC
                  rw [if_pos rfl] at g3c
                  rw [i_ad_ext (by decide), of_decide_eq_true g3c]
                  obtain ⟨cell, h1, h2, h3, -⟩ := (hE.2.2.2.2.2.1).kept hS.2.1
                  exact ⟨cell, h1, h2, h3⟩
              have hst : stk.map (i_cv G) = (((stk.take na).reverse.map (i_cv G)).reverse) ++ .ref (i_ad G q) :: rest.map (i_cv G) := by
                rw [List.map_reverse, List.reverse_reverse]
                conv => lhs; rw [es1]
                rw [List.map_append]
                rfl
              have hn : ((stk.take na).reverse.map (i_cv G)).length = na := by rw [List.length_map, List.length_reverse, es2]
              have hsum2 : 2 * (F0 m pc ls (stk.map (i_cv G))).monitorRoom + ((rest.map (i_cv G)).map fun v => v.category).sum ≤ 8 := lv_room (by rw [i_cv_sum]; exact hsum)
              have hws : ∀ w ∈ i_Ws (y, bytes, maxL, rt, es, ci), w ∈ i_W0 := fun w hw => by
                rcases List.mem_cons.mp hw with rfl | hw
                · exact i_has_in g5
                · exact hw
              have hRm : (i_room d S S1).frames + 1 ≤ R.frames ∧ 8 + (maxL + 11) + (i_room d S S1).locals ≤ R.locals := ⟨hRf, by show 8 + (maxL + 11) + 64 * d ≤ _; omega⟩
              have hpre : PreV s H y.cls (i_ad G q) (va_Pc ((Value.ref q :: (stk.take na).reverse).map (i_cv G)) (i_B D G S)) ((stk.take na).reverse.map (i_cv G)) := ⟨i_blind, hrecv, i_preU hP hK hE hS ((Value.ref q :: (stk.take na).reverse).map (i_cv G))⟩
              by_cases hnest : nest = 0
              · rw [if_pos hnest] at g1
                refine i_after (va_runV (C := y.cls) (n := na) (rest := rest.map (i_cv G)) ⟨hx, hb, hml, hown, hts⟩ hM (cwV na hts (i_good (fun w hw => ?_)) rfl rfl rfl ⟨rfl, g7, g8, g9⟩ hRm) hpre rfl hn hL.2.1 hst hsum2 hdg hf) hS (fin rfl)
                unfold wsV at hw
                rcases List.mem_append.mp hw with hw | hw
                · rcases List.mem_cons.mp hw with rfl | hw
                  · exact i_has_in g1
                  rcases List.mem_cons.mp hw with rfl | hw
                  · exact i_has_in g2
                  rcases List.mem_cons.mp hw with rfl | hw
                  · exact i_has_in g3
                  rcases List.mem_cons.mp hw with rfl | hw
                  · exact i_has_in g4
                  cases hw
                · exact hws w hw
              · rw [if_neg hnest] at g1
                exact i_after (va_runVN (C := y.cls) (n := na) (rest := rest.map (i_cv G)) ⟨hx, hb, hml, hown, hts⟩ hM ⟨va_cnB na hts (i_good hws) rfl rfl rfl (hK.2.1 _ (i_hasN_in g1 rfl)) (hts _ (i_has_in g4)) ⟨g7, g8, g9⟩ hRm, hts _ (i_has_in g2), hts _ (i_has_in g3)⟩ hpre rfl hn hL.2.1 hst hsum2 hdg hf) hS (fin rfl)
          · cases h
        · cases h
      · cases h
    · cases h
  case invokespecial idx =>
    rcases hlen with h0 | rfl
    · exact absurd h0 (by simp [i_len])
    unfold i_do i_ins at h
    dsimp only at h
    split at h
    · split at h
      · split at h <;> cases h
      · cases h
    · rename_i j na nest p1 p2 p3 p4 p5
      split at h
      · rename_i q rest hdrop
        unfold i_cl at h
        split at h
        · rename_i hsum
          cases h
          have hR2 : i_okC own idx 2 [k, na, nest, p1, p2, p3, p4, p5] = true := hR
          unfold i_okC at hR2
          dsimp only at hR2
          cases hmt : i_mt k with
          | none => rw [hmt] at hR2; cases hR2
          | some row =>
            obtain ⟨y, bytes, maxL, rt, es, ci⟩ := row
            rw [hmt] at hR2
            simp only [Bool.and_eq_true, decide_eq_true_eq] at hR2
            obtain ⟨⟨⟨⟨⟨⟨⟨⟨⟨g1, g2⟩, -⟩, g3x⟩, g4⟩, g5⟩, g6⟩, g7⟩, g8⟩, g9⟩ := hR2
            rw [if_neg (by decide)] at g2
            rw [if_pos trivial, Bool.and_eq_true, decide_eq_true_eq, decide_eq_true_eq] at g3x
            obtain ⟨g3, g3r⟩ := g3x
            subst g3r
            have hM := IH k _ S v S1 hE1 _ hmt
            obtain ⟨es1, es2⟩ := i_take hdrop
            have hst : stk.map (i_cv G) = (((stk.take na).reverse.map (i_cv G)).reverse) ++ .ref (i_ad G q) :: rest.map (i_cv G) := by
              rw [List.map_reverse, List.reverse_reverse]
              conv => lhs; rw [es1]
              rw [List.map_append]
              rfl
            have hn : ((stk.take na).reverse.map (i_cv G)).length = na := by rw [List.length_map, List.length_reverse, es2]
            have hsum2 : 2 * (F0 m pc ls (stk.map (i_cv G))).monitorRoom + ((rest.map (i_cv G)).map fun v => v.category).sum ≤ 8 := lv_room (by rw [i_cv_sum]; exact hsum)
            have hws : ∀ w ∈ i_Ws (y, bytes, maxL, none, es, ci), w ∈ i_W0 := fun w hw => by
              rcases List.mem_cons.mp hw with rfl | hw
              · exact i_has_in g5
              · exact hw
            have hRm : (i_room d S S1).frames + 1 ≤ R.frames ∧ 8 + (maxL + 11) + (i_room d S S1).locals ≤ R.locals := ⟨hRf, by show 8 + (maxL + 11) + 64 * d ≤ _; omega⟩
            have hpre : PreS s H (va_Pc ((Value.ref q :: (stk.take na).reverse).map (i_cv G)) (i_B D G S)) (.ref (i_ad G q) :: (stk.take na).reverse.map (i_cv G)) := ⟨i_blind, i_preU hP hK hE hS ((Value.ref q :: (stk.take na).reverse).map (i_cv G))⟩
            by_cases hnest : nest = 0
            · rw [if_pos hnest] at g1
              exact i_after (va_runI (n := na) (rest := rest.map (i_cv G)) ⟨hx, hb, hml, hown, hts⟩ hM (cwI na hts (i_good hws) rfl rfl rfl (hts _ (i_has_in g4)) (hts _ (i_has_in g1)) (hts _ (i_has_in g2)) g3 ⟨g7, g8, g9⟩ hRm) hpre rfl hn hL.2.1 hst hsum2 hdg hf) hS (fin rfl)
            · rw [if_neg hnest] at g1
              exact i_after (va_runIN (n := na) (rest := rest.map (i_cv G)) ⟨hx, hb, hml, hown, hts⟩ hM ⟨va_cnB na hts (i_good hws) rfl rfl rfl (hK.2.1 _ (i_hasN_in g1 rfl)) (hts _ (i_has_in g4)) ⟨g7, g8, g9⟩ hRm, g3, hts _ (i_has_in g2)⟩ hpre rfl hn hL.2.1 hst hsum2 hdg hf) hS (fin rfl)
        · cases h
      · cases h
    · cases h
  case invokestatic idx =>
    rcases hlen with h0 | rfl
    · exact absurd h0 (by simp [i_len])
    unfold i_do i_invS at h
    dsimp only at h
    split at h
    · have hO := i_okO_cpy (pc := pc) (lv := lv) (stk := stk) (S := S)
      unfold i_cpy i_n at h
      repeat' split at h
      all_goals cases h
    · unfold i_math i_n at h
      repeat' split at h
      all_goals cases h
    · rename_i j na nest p1 p2 p3 p4 p5
      split at h
      · rename_i hna
        unfold i_cl at h
        split at h
        · rename_i hsum
          cases h
          have hR2 : i_okC own idx 1 [k, na, nest, p1, p2, p3, p4, p5] = true := hR
          unfold i_okC at hR2
          dsimp only at hR2
          cases hmt : i_mt k with
          | none => rw [hmt] at hR2; cases hR2
          | some row =>
            obtain ⟨y, bytes, maxL, rt, es, ci⟩ := row
            rw [hmt] at hR2
            simp only [Bool.and_eq_true, decide_eq_true_eq] at hR2
            obtain ⟨⟨⟨⟨⟨⟨⟨⟨⟨g1, g2⟩, -⟩, -⟩, g4⟩, g5⟩, g6⟩, g7⟩, g8⟩, g9⟩ := hR2
            rw [if_pos trivial] at g2
            have hM := IH k _ S v S1 hE1 _ hmt
            have hst : stk.map (i_cv G) = (((stk.take na).reverse.map (i_cv G)).reverse) ++ (stk.drop na).map (i_cv G) := by
              rw [List.map_reverse, List.reverse_reverse, ← List.map_append, List.take_append_drop]
            have hn : ((stk.take na).reverse.map (i_cv G)).length = na := by rw [List.length_map, List.length_reverse, List.length_take]; omega
            have hsum2 : 2 * (F0 m pc ls (stk.map (i_cv G))).monitorRoom + (((stk.drop na).map (i_cv G)).map fun v => v.category).sum ≤ 8 := lv_room (by rw [i_cv_sum]; exact hsum)
            have hws : ∀ w ∈ i_Ws (y, bytes, maxL, rt, es, ci), w ∈ i_W0 := fun w hw => by
              rcases List.mem_cons.mp hw with rfl | hw
              · exact i_has_in g5
              · exact hw
            have hRm : (i_room d S S1).frames + 1 ≤ R.frames ∧ 8 + (maxL + 11) + (i_room d S S1).locals ≤ R.locals := ⟨hRf, by show 8 + (maxL + 11) + 64 * d ≤ _; omega⟩
            have hpre : PreS s H (va_Pc ((stk.take na).reverse.map (i_cv G)) (i_B D G S)) ((stk.take na).reverse.map (i_cv G)) := ⟨i_blind, i_preU hP hK hE hS _⟩
            by_cases hnest : nest = 0
            · rw [if_pos hnest] at g1
              refine i_after (va_runS (n := na) (rest := (stk.drop na).map (i_cv G)) ⟨hx, hb, hml, hown, hts⟩ hM (va_cwS na hts (i_good (fun w hw => ?_)) rfl rfl rfl ⟨g7, g8, g9⟩ hRm) hpre rfl hn hL.2.1 hst hsum2 hdg hf) hS (fin rfl)
              unfold va_wsS at hw
              rcases List.mem_append.mp hw with hw | hw
              · rcases List.mem_cons.mp hw with rfl | hw
                · exact i_has_in g1
                rcases List.mem_cons.mp hw with rfl | hw
                · exact i_has_in g2
                rcases List.mem_cons.mp hw with rfl | hw
                · exact i_has_in g4
                cases hw
              · exact hws w hw
            · rw [if_neg hnest] at g1
              exact i_after (va_runSN (n := na) (rest := (stk.drop na).map (i_cv G)) ⟨hx, hb, hml, hown, hts⟩ hM ⟨va_cnB na hts (i_good hws) rfl rfl rfl (hK.2.1 _ (i_hasN_in g1 rfl)) (hts _ (i_has_in g4)) ⟨g7, g8, g9⟩ hRm, hts _ (i_has_in g2), trivial⟩ hpre rfl hn hL.2.1 hst hsum2 hdg hf) hS (fin rfl)
        · cases h
      · cases h
    · cases h
  all_goals (exact absurd h (by
    unfold i_do
    dsimp only
    first
      | exact i_nc_n
      | exact i_nc_ld
      | exact i_nc_sto
      | exact i_nc_bin
      | exact i_nc_binL
      | exact i_nc_un
      | exact i_nc_unL
      | exact i_nc_gf
      | exact i_nc_pf
      | exact i_nc_ald
      | exact i_nc_lald
      | exact i_nc_ast
      | exact i_nc_last
      | exact i_nc_alen
      | exact i_nc_new
      | exact i_nc_newa
      | exact i_nc_iret
      | (intro z; cases z; done)
      | (repeat' split
         all_goals (intro z; cases z))))
/-- what a return instruction is -/
theorem i_retc {ins : Instr} {len : Nat} {cst : Value} {r : List Nat} {sw : List (Int32 × Nat)} {v : Option Value} (hok : i_okE own nm cc ret (pc, ins, len, cst, r, sw) = true) (h : i_do ins cst r sw pc lv stk S = some (.inr (.inr v))) :
    (∃ (x : Int32) (ty : FieldType), v = some (.int x) ∧ stk = [.int x] ∧ decode cc pc = .ok (.ireturn, 1) ∧ ret = some ty ∧ narrow ty (.int x) = .int x) ∨ (∃ x : Int64, v = some (.long x) ∧ stk = [.long x] ∧ decode cc pc = .ok (.lreturn, 1) ∧ ret = some .long) ∨ (v = none ∧ stk = [] ∧ decode cc pc = .ok (.return_, 1) ∧ ret = none) := by
  simp only [i_okE, Bool.and_eq_true, Bool.or_eq_true, decide_eq_true_eq] at hok
  obtain ⟨⟨hdg, hlen⟩, hR⟩ := hok
  cases ins
  case ireturn =>
    rcases hlen with h0 | rfl
    · exact absurd h0 (by simp [i_len])
    unfold i_do i_iret at h
    dsimp only at h
    split at h
    · rename_i k x
      split at h
      · rename_i hk
        cases h
        unfold i_okR at hR
        dsimp only at hR
        refine Or.inl ⟨x, ?_⟩
        rcases hk with rfl | ⟨rfl, h01⟩ | ⟨rfl, h0⟩
        · exact ⟨.int, rfl, rfl, hdg, of_decide_eq_true hR, rfl⟩
        · exact ⟨.boolean, rfl, rfl, hdg, of_decide_eq_true hR, (i_bool_nf h01).1⟩
        · subst h0
          exact ⟨.byte, rfl, rfl, hdg, of_decide_eq_true hR, by decide +kernel⟩
      · cases h
    · cases h
  case lreturn =>
    rcases hlen with h0 | rfl
    · exact absurd h0 (by simp [i_len])
    unfold i_do at h
    dsimp only at h
    split at h
    · cases h
      exact Or.inr (Or.inl ⟨_, rfl, rfl, hdg, of_decide_eq_true hR⟩)
    · cases h
  case return_ =>
    rcases hlen with h0 | rfl
    · exact absurd h0 (by simp [i_len])
    unfold i_do at h
    dsimp only at h
    split at h
    · cases h
      exact Or.inr (Or.inr ⟨rfl, rfl, hdg, of_decide_eq_true hR⟩)
    · cases h
  all_goals (exfalso; first
    | (cases h; done)
    | exact i_nr (by unfold i_do; dsimp only; first
      | exact i_nr_n
      | exact i_nr_ld
      | exact i_nr_sto
      | exact i_nr_bin
      | exact i_nr_binL
      | exact i_nr_un
      | exact i_nr_unL
      | exact i_nr_gf
      | exact i_nr_pf
      | exact i_nr_ald
      | exact i_nr_lald
      | exact i_nr_ast
      | exact i_nr_last
      | exact i_nr_alen
      | exact i_nr_new
      | exact i_nr_newa
      | exact i_nr_inv
      | exact i_nr_ins
      | exact i_nr_invS
      | (repeat' split
         all_goals (intro q z; cases z))) h)
end ISIM7
end
section
/-! ===== part 14: what the small machine says of a method is the method's contract ===== -/
theorem i_lookup {β : Type} {pc : Nat} {e : β} : ∀ {code : List (Nat × β)}, code.lookup pc = some e → (pc, e) ∈ code
  | [], h => by cases h
  | (k, b) :: es, h => by
    rw [List.lookup_cons] at h
    split at h
    · rename_i hk
      cases h
      rw [eq_of_beq hk]
      exact List.mem_cons_self
    · exact List.mem_cons_of_mem _ (i_lookup h)
def i_RF (cc : ByteArray) (ret : Option FieldType) (pc : Nat) (stk : List Value) (v : Option Value) : Prop :=
  (∃ (x : Int32) (ty : FieldType), v = some (.int x) ∧ stk = [.int x] ∧ decode cc pc = .ok (.ireturn, 1) ∧ ret = some ty ∧ narrow ty (.int x) = .int x) ∨ (∃ x : Int64, v = some (.long x) ∧ stk = [.long x] ∧ decode cc pc = .ok (.lreturn, 1) ∧ ret = some .long) ∨ (v = none ∧ stk = [] ∧ decode cc pc = .ok (.return_, 1) ∧ ret = none)
section ISIM8
variable {p : Program} {l : Launch} {e : Env} {R : Room} {s : State} {m : MethodId} {args : Array Value} {below : List Frame} {meth : Method} {c : Code} {Q : State → Prop}
variable {cc : ByteArray} {D : va_G} {G : I_G} {own nm : String} {nL : Nat} {ret : Option FieldType} {X : Nat × (Nat → Int32)}
theorem i_run {d : Nat} {code : List I_En} (IH : ∀ (j : Nat) (as : List Value) (S : I_St) (r : Option Value) (S' : I_St), I_Ex d j as S r S' → i_MetAt l D G d j as S r S')
    (hcode : code.all (i_okE own nm cc ret) = true) (hRf : d + 1 ≤ R.frames) (hRl : 64 * d + 64 ≤ R.locals) (F : i_Fr p s m args meth c cc D G own nm nL ret X) {c0 s0 : Nat} {r : Option Value} {S' : I_St} (hrm : S'.1.length ≤ R.cells + c0) (hrs : i_sl S' ≤ R.slots + s0)
    (hret : ∀ (pc : Nat) (ls : Array Slot) (stk : List Value) (H : Heap) (locs : List Loc) (cells slots : Nat), i_RF cc ret pc stk r → i_P D G S' H → va_S (i_A G) s.heap H locs → cells + c0 = S'.1.length → slots + s0 = i_sl S' → W p l e R s m args below meth c H locs cells slots Q (F0 m pc ls (stk.map (i_cv G)))) :
    ∀ (n : Nat) (cf : I_Cf), I_Rn (I_Ex d) code n cf r S' → cf.2.2.2.2.2.2 = X → ∀ (ls : Array Slot) (H : Heap) (locs : List Loc) (cells slots : Nat), i_L G ls nL cf.2.1 → i_P D G cf.2.2.2 H → va_S (i_A G) s.heap H locs → cells + c0 = cf.2.2.2.1.length → slots + s0 = i_sl cf.2.2.2 →
      W p l e R s m args below meth c H locs cells slots Q (F0 m cf.1 ls (cf.2.2.1.map (i_cv G))) := by
  intro n
  induction n with
  | zero => intro cf h; exact h.elim
  | succ n ih =>
    intro cf h hX ls H locs cells slots hL hP hS hc hs
    obtain ⟨pc, lv, stk, S⟩ := cf
    have hle := i_Rn_le (fun k as S v S1 h1 => i_Ex_le d k as S v S1 h1) (n + 1) _ _ _ h
    dsimp only at hX hL hP hc hs hle ⊢
    subst hX
    unfold I_Rn at h
    have hmonO : i_okO S (i_stp code (pc, lv, stk, S)) := by
      unfold i_stp
      split
      · trivial
      · exact i_okO_do
    unfold i_stp at h hmonO
    dsimp only at h hmonO
    cases hlk : code.lookup pc with
    | none => rw [hlk] at h; exact h.elim
    | some q =>
      obtain ⟨ins, len, cst, rr, sw⟩ := q
      rw [hlk] at h hmonO
      dsimp only at h hmonO
      have hok : i_okE own nm cc ret (pc, ins, len, cst, rr, sw) = true := List.all_eq_true.mp hcode _ (i_lookup hlk)
      split at h
      · exact h.elim
      · rename_i cf' e1
        rw [e1] at hmonO
        have h2 := i_Rn_le (fun k as S v S1 h1 => i_Ex_le d k as S v S1 h1) n _ _ _ h
        refine i_step F hL hP hS (by omega) (by omega) hok e1 (by have := h2.1; omega) (by have := h2.2.1; omega) hmonO.1 hmonO.2.1 ?_
        intro ls' H' locs' cells' slots' hc' hs' hL' hP' hS'
        exact ih cf' h hmonO.2.2 ls' H' locs' cells' slots' hL' hP' hS' (by omega) (by omega)
      · rename_i k as cf' e1
        rw [e1] at hmonO
        obtain ⟨v, S1, hE1, h⟩ := h
        have h2 := i_Rn_le (fun k as S v S1 h1 => i_Ex_le d k as S v S1 h1) n _ _ _ h
        have e2 : cf'.2.2.2 = S := hmonO
        rw [e2] at hE1
        have h3 := i_Ex_le d _ _ _ _ _ hE1
        have hr1 : cells + S1.1.length ≤ R.cells + S.1.length := by
          have a1 : S1.1.length ≤ S'.1.length := h2.1
          omega
        have hr2 : slots + i_sl S1 ≤ R.slots + i_sl S := by
          have a1 : i_sl S1 ≤ i_sl S' := h2.2.1
          omega
        refine i_call IH F hL hP hS hRf hRl hok e1 hE1 hr1 hr2 ?_
        intro ls' H' locs' cells' slots' hc' hs' hL' hP' hS'
        exact ih (i_res cf' v S1) h h3.2.2 ls' H' locs' cells' slots' hL' hP' hS' (by omega) (by omega)
      · rename_i v e1
        obtain ⟨rfl, rfl⟩ := h
        exact hret pc ls stk H locs cells slots (i_retc hok e1) hP hS hc hs
end ISIM8
theorem i_slots_len (G : I_G) : ∀ as : List Value, (lg_sl (as.map (i_cv G))).length = (i_slots as).length
  | [] => rfl
  | v :: vs => by
    unfold i_slots lg_sl
    rw [List.map_cons, List.flatMap_cons, i_cv_cat, List.length_append]
    have ih := i_slots_len G vs
    unfold lg_sl at ih
    rw [ih]
    split <;> simp <;> omega
theorem i_slots_args (G : I_G) : ∀ (as : List Value) (k i : Nat) (v : Value), (i_slots as)[i]? = some (some v) → (k + i, i_cv G v) ∈ lv_args k (as.map (i_cv G))
  | [], k, i, v, h => by simp [i_slots] at h
  | w :: vs, k, i, v, h => by
    rw [List.map_cons]
    show _ ∈ (k, i_cv G w) :: lv_args (if (i_cv G w).category = 2 then k + 2 else k + 1) (vs.map (i_cv G))
    rw [i_cv_cat]
    unfold i_slots at h
    split at h
    · rename_i hc
      rw [if_pos hc]
      match i, h with
      | 0, h => cases h; exact List.mem_cons_self
      | 1, h => cases h
      | i + 2, h =>
        have := i_slots_args G vs (k + 2) i v h
        rw [show k + (i + 2) = k + 2 + i by omega]
        exact List.mem_cons_of_mem _ this
    · rename_i hc
      rw [if_neg hc]
      match i, h with
      | 0, h => cases h; exact List.mem_cons_self
      | i + 1, h =>
        have := i_slots_args G vs (k + 1) i v h
        rw [show k + (i + 1) = k + 1 + i by omega]
        exact List.mem_cons_of_mem _ this
theorem i_L_entry (G : I_G) (as : List Value) {n : Nat} (h : (i_slots as).length ≤ n) : i_L G ((lg_sl (as.map (i_cv G)) ++ List.replicate (n - (lg_sl (as.map (i_cv G))).length) Slot.unset).toArray) n (i_entry as n) := by
  have h1 := lv_entry (as.map (i_cv G)) (n := n) (by rw [i_slots_len]; exact h)
  refine ⟨by unfold i_entry; rw [List.length_append, List.length_replicate]; omega, h1.1, h1.2.1, fun i v hv => ?_⟩
  refine h1.2.2 (i, i_cv G v) ?_
  unfold i_entry at hv
  by_cases hi : i < (i_slots as).length
  · rw [List.getElem?_append_left hi] at hv
    have := i_slots_args G as 0 i v hv
    rwa [Nat.zero_add] at this
  · rw [List.getElem?_append_right (by omega), List.getElem?_replicate] at hv
    split at hv <;> cases hv
/-- THE SMALL MACHINE's word on a method is a contract of the method -/
theorem i_sim (l : Launch) (D : va_G) (G : I_G) : ∀ (d j : Nat) (as : List Value) (S : I_St) (r : Option Value) (S' : I_St), I_Ex d j as S r S' → i_MetAt l D G d j as S r S' := by
  intro d
  induction d with
  | zero => intro j as S r S' h; exact h.elim
  | succ d ih =>
    intro j as S r S' h row hrow
    have hm := i_ok hrow
    unfold I_Ex at h
    rw [hrow] at h
    obtain ⟨y, bytes, maxL, ret, code, ci⟩ := row
    obtain ⟨hlen, n, hRn⟩ := h
    have hle := i_Rn_le (fun k as S v S1 h1 => i_Ex_le d k as S v S1 h1) n _ _ _ hRn
    unfold i_okM at hm
    simp only [Bool.and_eq_true] at hm
    obtain ⟨⟨hcode, hplain⟩, -⟩ := hm
    refine Met.ofW (cc := bytes) (maxL := maxL) (ret := ret) hplain rfl ?_
    intro p e s m args below meth c s₁ B hml hv
    obtain ⟨rfl, hP, hK, hE⟩ := hv
    have hts := atoms_spec (ws := i_Ws (y, bytes, maxL, ret, code, ci)) B.pre
    rw [lg_entry_eq]
    have F : i_Fr p s m (as.map (i_cv G)).toArray meth c bytes D G y.cls y.name maxL ret S.2.2.2 := ⟨B.exec, B.bytes, B.returns, B.notSynchronized, hml, findClass_of_methodNamed B.named, (name_of_methodNamed B.named B.method).1, fun w hw => hts w (List.mem_cons_of_mem _ hw), hK, hE, by rw [hP.2.1]; exact Nat.le_add_right _ _⟩
    have hlocks := B.notSynchronized
    have hx := B.exec
    have hb := B.bytes
    have hr := B.returns
    refine i_run (R := i_room (d + 1) S S') (c0 := S.1.length) (s0 := i_sl S) (S' := S') (r := r) (fun j as S r S' => ih j as S r S') hcode (Nat.le_refl _) (by show _ ≤ 64 * (d + 1); omega) F (by show _ ≤ (S'.1.length - S.1.length) + _; have := hle.1; omega) (by show _ ≤ (i_sl S' - i_sl S) + _; have := hle.2.1; omega) ?_ n _ hRn rfl _ s.heap [] 0 0 (i_L_entry G as hlen) hP va_S.rf (Nat.zero_add _) (Nat.zero_add _)
    intro pc ls stk H locs cells slots hRF hP' hS' hc hs
    have ec : S'.1.length - S.1.length = cells := by omega
    have es : i_sl S' - i_sl S = slots := by omega
    rw [ec, es]
    rcases hRF with ⟨x, ty, rfl, rfl, hdg, e1, e2⟩ | ⟨x, rfl, rfl, hdg, e1⟩ | ⟨rfl, rfl, hdg, e1⟩
    · exact W.zret (v := x) hx hb (hr.trans e1) e2 (fun t ht hW => ⟨⟨x, (), rfl, rfl, by show i_P D G S' t.heap; rw [ht]; exact hP'⟩, hS'.F ht⟩) hS'.2.2 hdg hlocks
    · exact W.lret (v := x) hx hb (hr.trans e1) (fun t ht hW => ⟨⟨x, (), rfl, rfl, by show i_P D G S' t.heap; rw [ht]; exact hP'⟩, hS'.F ht⟩) hS'.2.2 hdg hlocks
    · exact W.vret hx hb (hr.trans e1) (fun t ht hW => ⟨⟨(), rfl, trivial, by show i_P D G S' t.heap; rw [ht]; exact hP'⟩, hS'.F ht⟩) hS'.2.2 hdg hlocks
end
section
/-! ===== part 15: rules of the small machine's runs ===== -/
def I_RnE (E : Nat → List Value → I_St → Option Value → I_St → Prop) (code : List I_En) (cf : I_Cf) (r : Option Value) (S' : I_St) : Prop := ∃ n, I_Rn E code n cf r S'
/-- fewer locals -/
def i_sub : List (Option Value) → List (Option Value) → Prop
  | [], [] => True
  | none :: a, _ :: b => i_sub a b
  | some v :: a, o :: b => o = some v ∧ i_sub a b
  | _, _ => False
theorem i_sub_len : ∀ {a b : List (Option Value)}, i_sub a b → a.length = b.length
  | [], [], _ => rfl
  | none :: a, _ :: b, h => congrArg (· + 1) (i_sub_len (a := a) (b := b) h)
  | some v :: a, o :: b, h => congrArg (· + 1) (i_sub_len (a := a) (b := b) h.2)
  | [], _ :: _, h => h.elim
  | none :: _, [], h => h.elim
  | some _ :: _, [], h => h.elim
theorem i_sub_get : ∀ {a b : List (Option Value)} {i : Nat} {v : Value}, i_sub a b → i_get a i = some v → i_get b i = some v
  | [], [], _, _, _, h => h
  | none :: a, _ :: b, 0, v, _, h => by cases h
  | none :: a, o :: b, i + 1, v, h1, h => i_sub_get (a := a) (b := b) (i := i) h1 h
  | some w :: a, o :: b, 0, v, h1, h => by
    have e : some w = some v := h
    show o = some v
    rw [h1.1, e]
  | some w :: a, o :: b, i + 1, v, h1, h => i_sub_get (a := a) (b := b) (i := i) h1.2 h
  | [], _ :: _, _, _, h, _ => h.elim
  | none :: _, [], _, _, h, _ => h.elim
  | some _ :: _, [], _, _, h, _ => h.elim
theorem i_sub_set : ∀ {a b : List (Option Value)} (i : Nat) (o : Option Value), i_sub a b → i_sub (a.set i o) (b.set i o)
  | [], [], _, _, _ => trivial
  | none :: a, o2 :: b, 0, o, h => by
    cases o with
    | none => exact h
    | some v => exact ⟨rfl, h⟩
  | none :: a, o2 :: b, i + 1, o, h => i_sub_set (a := a) (b := b) i o h
  | some w :: a, o2 :: b, 0, o, h => by
    cases o with
    | none => exact h.2
    | some v => exact ⟨rfl, h.2⟩
  | some w :: a, o2 :: b, i + 1, o, h => ⟨h.1, i_sub_set (a := a) (b := b) i o h.2⟩
  | [], _ :: _, _, _, h => h.elim
  | none :: _, [], _, _, h => h.elim
  | some _ :: _, [], _, _, h => h.elim
theorem i_sub_none : ∀ {a b : List (Option Value)} (i : Nat), i_get a i = none → i_sub a b → i_sub a (b.set i none)
  | [], [], _, _, _ => trivial
  | none :: a, o2 :: b, 0, _, h => h
  | none :: a, o2 :: b, i + 1, h1, h => i_sub_none (a := a) (b := b) i h1 h
  | some w :: a, o2 :: b, 0, h1, _ => by cases h1
  | some w :: a, o2 :: b, i + 1, h1, h => ⟨h.1, i_sub_none (a := a) (b := b) i h1 h.2⟩
  | [], _ :: _, _, _, h => h.elim
  | none :: _, [], _, _, h => h.elim
  | some _ :: _, [], _, _, h => h.elim
theorem i_sub_clr {a b : List (Option Value)} (k : Nat) (h : i_sub a b) : i_sub (i_clr a k) (i_clr b k) := by
  cases ha : i_get a k with
  | some v =>
    have hb := i_sub_get h ha
    unfold i_clr
    rw [ha, hb]
    cases v with
    | long x => exact i_sub_set k none h
    | double x => exact i_sub_set k none h
    | _ => exact h
  | none =>
    have e : i_clr a k = a := by unfold i_clr; rw [ha]
    rw [e]
    unfold i_clr
    split
    · exact i_sub_none k ha h
    · exact i_sub_none k ha h
    · exact h
theorem i_sub_st1 {a b : List (Option Value)} (i : Nat) (v : Value) (h : i_sub a b) : i_sub (i_st1 a i v) (i_st1 b i v) := by
  unfold i_st1
  cases i with
  | zero => exact i_sub_set 0 (some v) h
  | succ k => exact i_sub_set (k + 1) (some v) (i_sub_clr k h)
theorem i_sub_st2 {a b : List (Option Value)} (i : Nat) (v : Value) (h : i_sub a b) : i_sub (i_st2 a i v) (i_st2 b i v) := i_sub_set (i + 1) none (i_sub_st1 i v h)
def i_relC (c' c : I_Cf) : Prop := c'.1 = c.1 ∧ i_sub c'.2.1 c.2.1 ∧ c'.2.2 = c.2.2
def i_rel (o' o : Option I_Out) : Prop := match o' with
  | none => True
  | some (.inl c') => ∃ c, o = some (.inl c) ∧ i_relC c' c
  | some (.inr (.inl q)) => ∃ c, o = some (.inr (.inl (q.1, q.2.1, c))) ∧ i_relC q.2.2 c
  | some (.inr (.inr v)) => o = some (.inr (.inr v))
section IFG
variable {pc : Nat} {a b : List (Option Value)} {stk : List Value} {S : I_St}
theorem i_rel_n (h : i_sub a b) : i_rel (i_n pc a stk S) (i_n pc b stk S) := ⟨_, rfl, rfl, h, rfl⟩
theorem i_rel_cl {j : Nat} {as : List Value} (h : i_sub a b) : i_rel (i_cl j as pc a stk S) (i_cl j as pc b stk S) := by
  unfold i_cl
  split
  · exact ⟨_, rfl, rfl, h, rfl⟩
  · trivial
theorem i_rel_ld {i len kind : Nat} (h : i_sub a b) : i_rel (i_ld i len kind pc a stk S) (i_ld i len kind pc b stk S) := by
  cases ha : i_get a i with
  | none =>
    unfold i_ld
    rw [ha]
    split
    · rename_i e; cases e
    · rename_i e; cases e
    · rename_i e; cases e
    · trivial
  | some v =>
    have hb := i_sub_get h ha
    unfold i_ld
    rw [ha, hb]
    split
    · exact i_rel_n h
    · exact i_rel_n h
    · exact i_rel_n h
    · trivial
theorem i_rel_sto {i len kind : Nat} (h : i_sub a b) : i_rel (i_sto i len kind pc a stk S) (i_sto i len kind pc b stk S) := by
  unfold i_sto
  rw [i_sub_len h]
  split
  · split
    · exact i_rel_n (i_sub_st1 i _ h)
    · trivial
  · split
    · exact i_rel_n (i_sub_st2 i _ h)
    · trivial
  · split
    · exact i_rel_n (i_sub_st1 i _ h)
    · trivial
  · trivial
theorem i_rel_bin {f : Int32 → Int32 → Int32} (h : i_sub a b) : i_rel (i_bin f pc a stk S) (i_bin f pc b stk S) := by
  unfold i_bin
  split <;> first | exact i_rel_n h | trivial
theorem i_rel_binL {f : Int64 → Int64 → Int64} (h : i_sub a b) : i_rel (i_binL f pc a stk S) (i_binL f pc b stk S) := by
  unfold i_binL
  split <;> first | exact i_rel_n h | trivial
theorem i_rel_un {f : Int32 → Value} (h : i_sub a b) : i_rel (i_un stk f pc a S) (i_un stk f pc b S) := by
  unfold i_un
  split <;> first | exact i_rel_n h | trivial
theorem i_rel_unL {f : Int64 → Value} (h : i_sub a b) : i_rel (i_unL stk f pc a S) (i_unL stk f pc b S) := by
  unfold i_unL
  split <;> first | exact i_rel_n h | trivial
theorem i_rel_gf {r : List Nat} (h : i_sub a b) : i_rel (i_gf r pc a stk S) (i_gf r pc b stk S) := by
  unfold i_gf
  repeat' split
  all_goals first | exact i_rel_n h | trivial
theorem i_rel_pf {r : List Nat} (h : i_sub a b) : i_rel (i_pf r pc a stk S) (i_pf r pc b stk S) := by
  unfold i_pf
  repeat' split
  all_goals first | exact i_rel_n h | trivial
theorem i_rel_ald {tag : Nat} (h : i_sub a b) : i_rel (i_ald tag pc a stk S) (i_ald tag pc b stk S) := by
  unfold i_ald
  repeat' split
  all_goals first | exact i_rel_n h | trivial
theorem i_rel_lald (h : i_sub a b) : i_rel (i_lald pc a stk S) (i_lald pc b stk S) := by
  unfold i_lald
  repeat' split
  all_goals first | exact i_rel_n h | trivial
theorem i_rel_ast {tag : Nat} (h : i_sub a b) : i_rel (i_ast tag pc a stk S) (i_ast tag pc b stk S) := by
  unfold i_ast
  repeat' split
  all_goals first | exact i_rel_n h | trivial
theorem i_rel_last (h : i_sub a b) : i_rel (i_last pc a stk S) (i_last pc b stk S) := by
  unfold i_last
  repeat' split
  all_goals first | exact i_rel_n h | trivial
theorem i_rel_alen (h : i_sub a b) : i_rel (i_alen pc a stk S) (i_alen pc b stk S) := by
  unfold i_alen
  repeat' split
  all_goals first | exact i_rel_n h | trivial
theorem i_rel_cpy (h : i_sub a b) : i_rel (i_cpy pc a stk S) (i_cpy pc b stk S) := by
  unfold i_cpy
  repeat' split
  all_goals first | exact i_rel_n h | trivial
theorem i_rel_math {k : Nat} (h : i_sub a b) : i_rel (i_math k pc a stk S) (i_math k pc b stk S) := by
  unfold i_math
  repeat' split
  all_goals first | exact i_rel_n h | trivial
theorem i_rel_new {r : List Nat} (h : i_sub a b) : i_rel (i_new r pc a stk S) (i_new r pc b stk S) := by
  unfold i_new
  repeat' split
  all_goals first | exact i_rel_n h | trivial
theorem i_rel_newa {r : List Nat} (h : i_sub a b) : i_rel (i_newa r pc a stk S) (i_newa r pc b stk S) := by
  unfold i_newa
  repeat' split
  all_goals first | exact i_rel_n h | trivial
theorem i_rel_ret {v : Option Value} : i_rel (i_ret v) (i_ret v) := rfl
theorem i_rel_do {ins : Instr} {c : Value} {r : List Nat} {sw : List (Int32 × Nat)} (h : i_sub a b) : i_rel (i_do ins c r sw pc a stk S) (i_do ins c r sw pc b stk S) := by
  unfold i_do
  cases ins <;> dsimp only <;> first
    | trivial
    | exact i_rel_n h
    | exact i_rel_ld h
    | exact i_rel_sto h
    | exact i_rel_bin h
    | exact i_rel_binL h
    | exact i_rel_un h
    | exact i_rel_unL h
    | exact i_rel_gf h
    | exact i_rel_pf h
    | exact i_rel_ald h
    | exact i_rel_lald h
    | exact i_rel_ast h
    | exact i_rel_last h
    | exact i_rel_alen h
    | exact i_rel_new h
    | exact i_rel_newa h
    | (unfold i_inv
       repeat' split
       all_goals first | exact i_rel_cl h | trivial)
    | (unfold i_ins
       repeat' split
       all_goals first | exact i_rel_cl h | exact i_rel_n h | trivial)
    | (unfold i_invS
       repeat' split
       all_goals first | exact i_rel_cl h | exact i_rel_cpy h | exact i_rel_math h | trivial)
    | (unfold i_iret
       repeat' split
       all_goals first | exact i_rel_ret | trivial)
    | (rename_i i n
       cases ha : i_get a i with
       | none => trivial
       | some v =>
         rw [i_sub_get h ha, i_sub_len h]
         repeat' split
         all_goals first | exact i_rel_n (i_sub_st1 i _ h) | trivial)
    | (repeat' split
       all_goals first | exact i_rel_n h | exact i_rel_ret | trivial)
end IFG
theorem i_Rn_sub {E : Nat → List Value → I_St → Option Value → I_St → Prop} {code : List I_En} : ∀ (n : Nat) (c' c : I_Cf) (r : Option Value) (S' : I_St), i_relC c' c → I_Rn E code n c' r S' → I_Rn E code n c r S' := by
  intro n
  induction n with
  | zero => intro c' c r S' _ h; exact h.elim
  | succ n ih =>
    intro c' c r S' hc h
    obtain ⟨pc, lv, stk, S⟩ := c
    obtain ⟨pc', lv', stk', S2⟩ := c'
    obtain ⟨e1, e2, e3⟩ := hc
    cases e1
    cases e3
    have hO : i_rel (i_stp code (pc, lv', stk, S)) (i_stp code (pc, lv, stk, S)) := by
      unfold i_stp
      dsimp only
      split
      · trivial
      · exact i_rel_do e2
    unfold I_Rn at h ⊢
    split at h
    · exact h.elim
    · rename_i cf' e4
      rw [e4] at hO
      obtain ⟨c2, h5, h6⟩ := hO
      rw [h5]
      exact ih _ _ _ _ h6 h
    · rename_i k as cf' e4
      rw [e4] at hO
      obtain ⟨c2, h5, h6⟩ := hO
      rw [h5]
      obtain ⟨v, S1, h7, h8⟩ := h
      have h6 : i_relC cf' c2 := h6
      have e9 : cf'.2.2 = c2.2.2 := h6.2.2
      refine ⟨v, S1, ?_, ih (i_res cf' v S1) (i_res c2 v S1) _ _ ⟨h6.1, h6.2.1, ?_⟩ h8⟩
      · rw [← e9]; exact h7
      · show (v.toList ++ cf'.2.2.1, S1) = (v.toList ++ c2.2.2.1, S1)
        rw [e9]
    · rename_i v e4
      rw [e4] at hO
      rw [show i_stp code (pc, lv, stk, S) = some (.inr (.inr v)) from hO]
      exact h
/-- locals may be forgotten -/
theorem i_fg {E : Nat → List Value → I_St → Option Value → I_St → Prop} {code : List I_En} {pc : Nat} {lv lv' : List (Option Value)} {stk : List Value} {S : I_St} {r : Option Value} {S' : I_St} (hs : i_sub lv' lv) (h : I_RnE E code (pc, lv', stk, S) r S') : I_RnE E code (pc, lv, stk, S) r S' := by
  obtain ⟨n, h⟩ := h
  exact ⟨n, i_Rn_sub n (pc, lv', stk, S) (pc, lv, stk, S) _ _ ⟨rfl, hs, rfl⟩ h⟩
def i_stps (code : List I_En) : Nat → I_Cf → Option I_Cf
  | 0, cf => some cf
  | n + 1, cf => match i_stp code cf with
    | some (.inl cf') => i_stps code n cf'
    | _ => none
section IRUL
variable {E : Nat → List Value → I_St → Option Value → I_St → Prop} {code : List I_En} {r : Option Value} {S' : I_St}
theorem i_stp1 {cf cf' : I_Cf} (h : i_stp code cf = some (.inl cf')) (h2 : I_RnE E code cf' r S') : I_RnE E code cf r S' := by
  obtain ⟨n, h2⟩ := h2
  refine ⟨n + 1, ?_⟩
  unfold I_Rn
  rw [h]
  exact h2
theorem i_rs : ∀ (k : Nat) {cf cf' : I_Cf}, i_stps code k cf = some cf' → I_RnE E code cf' r S' → I_RnE E code cf r S'
  | 0, cf, cf', h, h2 => by
    cases h
    exact h2
  | k + 1, cf, cf', h, h2 => by
    unfold i_stps at h
    split at h
    · rename_i c1 e1
      exact i_stp1 e1 (i_rs k h h2)
    · cases h
theorem i_rbT {c : Prop} [Decidable c] {t n : Nat} {cf : I_Cf} {lv : List (Option Value)} {stk : List Value} {S : I_St} (h : i_stp code cf = some (.inl (if c then t else n, lv, stk, S))) (hc : c) (h2 : I_RnE E code (t, lv, stk, S) r S') : I_RnE E code cf r S' := by
  rw [if_pos hc] at h
  exact i_stp1 h h2
theorem i_rbF {c : Prop} [Decidable c] {t n : Nat} {cf : I_Cf} {lv : List (Option Value)} {stk : List Value} {S : I_St} (h : i_stp code cf = some (.inl (if c then t else n, lv, stk, S))) (hc : ¬ c) (h2 : I_RnE E code (n, lv, stk, S) r S') : I_RnE E code cf r S' := by
  rw [if_neg hc] at h
  exact i_stp1 h h2
theorem i_rswT {x k : Int32} {d t : Nat} {l2 : List (Int32 × Nat)} {lv : List (Option Value)} {stk : List Value} {S : I_St} (hc : x = k) (h2 : I_RnE E code (t, lv, stk, S) r S') : I_RnE E code (i_sw x d ((k, t) :: l2), lv, stk, S) r S' := by
  show I_RnE E code (if x = k then t else i_sw x d l2, lv, stk, S) r S'
  rw [if_pos hc]
  exact h2
theorem i_rswF {x k : Int32} {d t : Nat} {l2 : List (Int32 × Nat)} {lv : List (Option Value)} {stk : List Value} {S : I_St} (hc : ¬ x = k) (h2 : I_RnE E code (i_sw x d l2, lv, stk, S) r S') : I_RnE E code (i_sw x d ((k, t) :: l2), lv, stk, S) r S' := by
  show I_RnE E code (if x = k then t else i_sw x d l2, lv, stk, S) r S'
  rw [if_neg hc]
  exact h2
theorem i_rret {cf : I_Cf} {v : Option Value} {S : I_St} (h : i_stp code cf = some (.inr (.inr v))) (hS : cf.2.2.2 = S) : I_RnE E code cf v S := by
  refine ⟨1, ?_⟩
  unfold I_Rn
  rw [h]
  exact ⟨rfl, hS.symm⟩
theorem i_rcall {cf cf1 cf' : I_Cf} {k : Nat} {as : List Value} {v : Option Value} {S1 : I_St} (h : i_stp code cf = some (.inr (.inl (k, as, cf1)))) (hE : E k as cf1.2.2.2 v S1) (he : i_res cf1 v S1 = cf') (h2 : I_RnE E code cf' r S') : I_RnE E code cf r S' := by
  obtain ⟨n, h2⟩ := h2
  refine ⟨n + 1, ?_⟩
  unfold I_Rn
  rw [h]
  exact ⟨v, S1, hE, by rw [he]; exact h2⟩
/-- a step that looks first -/
theorem i_rg {c : Prop} [Decidable c] {cf cf' : I_Cf} {o : Option I_Out} (h : i_stp code cf = o) (ho : o = if c then none else some (.inl cf')) (hc : ¬ c) (h2 : I_RnE E code cf' r S') : I_RnE E code cf r S' := by
  rw [ho, if_neg hc] at h
  exact i_stp1 h h2
end IRUL
/-- a call, from the run of its body -/
theorem i_ex {d j : Nat} {e : I_Row} {as : List Value} {S : I_St} {r : Option Value} {S' : I_St} (h : i_mt j = some e) (hl : (i_slots as).length ≤ e.2.2.1) {lv : List (Option Value)} (hlv : i_entry as e.2.2.1 = lv) (h2 : I_RnE (I_Ex d) e.2.2.2.2.1 (0, lv, [], S) r S') : I_Ex (d + 1) j as S r S' := by
  unfold I_Ex
  rw [h]
  subst hlv
  exact ⟨hl, h2⟩
theorem i_Rn_mono {E E' : Nat → List Value → I_St → Option Value → I_St → Prop} (hE : ∀ k as S v S1, E k as S v S1 → E' k as S v S1) {code : List I_En} : ∀ (n : Nat) (cf : I_Cf) (r : Option Value) (S' : I_St), I_Rn E code n cf r S' → I_Rn E' code n cf r S' := by
  intro n
  induction n with
  | zero => intro cf r S' h; exact h
  | succ n ih =>
    intro cf r S' h
    unfold I_Rn at h ⊢
    split at h
    · exact h.elim
    · exact ih _ _ _ h
    · obtain ⟨v, S1, h1, h2⟩ := h
      exact ⟨v, S1, hE _ _ _ _ _ h1, ih _ _ _ h2⟩
    · exact h
theorem i_Ex_up {d : Nat} : ∀ {j : Nat} {as : List Value} {S : I_St} {r : Option Value} {S' : I_St}, I_Ex d j as S r S' → I_Ex (d + 1) j as S r S' := by
  induction d with
  | zero => intro j as S r S' h; exact h.elim
  | succ d ih =>
    intro j as S r S' h
    unfold I_Ex at h ⊢
    split at h
    · exact h.elim
    · obtain ⟨h1, n, h2⟩ := h
      exact ⟨h1, n, i_Rn_mono (fun k as S v S1 => ih) n _ _ _ h2⟩
theorem i_Ex_mono {d d' j : Nat} {as : List Value} {S : I_St} {r : Option Value} {S' : I_St} (hd : d ≤ d') (h : I_Ex d j as S r S') : I_Ex d' j as S r S' := by
  obtain ⟨k, rfl⟩ := Nat.exists_eq_add_of_le hd
  induction k with
  | zero => exact h
  | succ k ih => exact i_Ex_up (ih (Nat.le_add_right _ _))
end
section
/-! ===== part 16: the cells behind the constructors; what the mirrors are made of ===== -/
/-- the shapes (written by program: the small machine in Python made them) -/
def i_SH : List I_Sh := [(21, 15, [some 1, some 6, some 9, some 13, some 18, some 22, some 28, some 31, some 36, some 38, some 41, some 46, none, none, none]), (14, 10, [none, none, some 2, some 3, some 4, some 5, none, none, none, none]), (0, 25, []), (0, 25, []), (0, 25, []), (0, 25, []), (19, 6, [some 7, none, some 8, none, none, none]), (0, 120, []), (0, 128, []), (15, 7, [some 1, none, some 10, none, some 11, some 12, none]), (0, 128, []), (0, 7, []), (0, 64, []), (11, 9, [some 1, some 9, some 14, some 15, some 16, some 17, none, none, none]), (0, 6, []), (0, 6, []), (0, 6, []), (0, 6, []), (13, 4, [some 19, some 20, some 21, none]), (0, 10, []), (0, 10, []), (0, 10, []), (17, 14, [some 1, some 9, some 18, some 23, some 24, none, none, none, some 25, some 26, none, some 27, none, none]), (0, 2500, []), (0, 25, []), (0, 2250, []), (0, 250, []), (0, 100, []), (16, 4, [some 9, some 13, some 29, some 30]), (0, 6, []), (0, 64, []), (12, 6, [some 32, some 33, some 34, some 35, none, none]), (0, 40, []), (0, 40, []), (0, 40, []), (0, 40, []), (20, 3, [some 37, none, none]), (0, 6, []), (10, 5, [some 39, none, some 40, none, none]), (0, 50, []), (0, 24, []), (18, 4, [some 42, some 43, some 44, some 45]), (0, 6, []), (0, 6, []), (0, 6, []), (1, 360, []), (13, 4, [some 47, some 48, some 49, none]), (0, 10, []), (0, 10, []), (0, 10, []), (22, 56, [some 51, some 52, some 53, some 54, none, none, none, none, none, some 55, some 56, some 57, none, none, some 58, none, some 59, none, none, none, none, none, none, some 60, none, some 61, some 62, none, none, none, none, none, some 63, none, none, some 64, some 65, none, none, some 66, none, none, none, none, none, some 67, none, some 68, some 69, none, none, none, some 70, some 71, some 72, some 73]), (0, 60, []), (0, 40, []), (0, 40, []), (0, 40, []), (0, 6, []), (0, 6, []), (0, 6, []), (0, 120, []), (0, 120, []), (0, 7, []), (0, 30, []), (0, 2500, []), (0, 25, []), (2, 250, []), (0, 100, []), (0, 6, []), (0, 30, []), (0, 50, []), (0, 24, []), (0, 6, []), (0, 6, []), (1, 360, []), (1, 60, [])]
abbrev I_M : Type := (Nat → Nat → Int32) × (Nat → Nat → Int64)
def i_S (X : Nat × (Nat → Int32)) (M : I_M) : I_St := (i_SH, M.1, M.2, X)
def i_wI (M : I_M) (q k : Nat) (v : Int32) : I_M := (i_upI M.1 q k v, M.2)
def i_wL (M : I_M) (q k : Nat) (v : Int64) : I_M := (M.1, i_upL M.2 q k v)
def i_cI (M : I_M) (a d : Nat) (sp dp n : Int32) : I_M := (i_row M.1 d (va_cpy (M.1 a) (M.1 d) sp.toNatClampNeg dp.toNatClampNeg n.toNatClampNeg), M.2)
def i_cL (M : I_M) (a d : Nat) (sp dp n : Int32) : I_M := (M.1, i_row M.2 d (va_cpy (M.2 a) (M.2 d) sp.toNatClampNeg dp.toNatClampNeg n.toNatClampNeg))
def i_g {α : Type} (i : Int32) (n : Nat) (x : Option α) : Option α := if i < 0 ∨ n ≤ i.toNatClampNeg then none else x
def i_nz {α : Type} (y : Int32) (x : Option α) : Option α := if y = 0 then none else x
def i_zo {α : Type} (y : Int32) (x : Option α) : Option α := if y = 0 ∨ y = 1 then x else none
def i_cgP (sp dp n : Int32) (n0 n1 : Nat) : Prop := ¬ sp < 0 ∧ ¬ dp < 0 ∧ ¬ n < 0 ∧ sp.toNatClampNeg + n.toNatClampNeg ≤ n0 ∧ dp.toNatClampNeg + n.toNatClampNeg ≤ n1
def i_cg {α : Type} (sp dp n : Int32) (n0 n1 : Nat) (x : Option α) : Option α := if ¬ sp < 0 ∧ ¬ dp < 0 ∧ ¬ n < 0 ∧ sp.toNatClampNeg + n.toNatClampNeg ≤ n0 ∧ dp.toNatClampNeg + n.toNatClampNeg ≤ n1 then x else none
def i_let {α β : Type} (e : α) (f : α → β) : β := f e
def i_max (x y : Int32) : Int32 := if x < y then y else x
def i_min (x y : Int32) : Int32 := if y < x then y else x
def i_abs (y : Int32) : Int32 := if 0 ≤ y then y else 0 - y
def i_F : Nat := 5000
def i_x101 (k : Nat) : Int32 := ([9, 99, 9, 9, 1, 99, 9] : List Int32).getD k 0
def i_x102 (k : Nat) : Int32 := ([1, 10, 11, 2, 20, 0, 0, 0, 0, 30, 0, 0, 0, 41, 40, 0, 0, 0, 50, 0, 0, 0, 0, 60, 70, 0, 0, 0, 0, 80, 0, 81] : List Int32).getD k 0
def i_x103 (k : Nat) : Int32 := ([-1, 0, 0, 2, 1, 3, 0, 4] : List Int32).getD k 0
def i_x104 (k : Nat) : Int32 := ([100, 103, 113, 122, 115, 119, 102] : List Int32).getD k 0
theorem i_gE {α : Type} {i : Int32} {n : Nat} {x : Option α} {r : α} (h : i_g i n x = some r) : ¬ (i < 0 ∨ n ≤ i.toNatClampNeg) ∧ x = some r := by
  unfold i_g at h
  split at h
  · cases h
  · exact ⟨by assumption, h⟩
theorem i_nzE {α : Type} {y : Int32} {x : Option α} {r : α} (h : i_nz y x = some r) : ¬ y = 0 ∧ x = some r := by
  unfold i_nz at h
  split at h
  · cases h
  · exact ⟨by assumption, h⟩
theorem i_zoE {α : Type} {y : Int32} {x : Option α} {r : α} (h : i_zo y x = some r) : (y = 0 ∨ y = 1) ∧ x = some r := by
  unfold i_zo at h
  split at h
  · exact ⟨by assumption, h⟩
  · cases h
theorem i_cgE {α : Type} {sp dp n : Int32} {n0 n1 : Nat} {x : Option α} {r : α} (h : i_cg sp dp n n0 n1 x = some r) : i_cgP sp dp n n0 n1 ∧ x = some r := by
  unfold i_cg at h
  split at h
  · exact ⟨by assumption, h⟩
  · cases h
theorem i_bdE {α β : Type} {x : Option α} {f : α → Option β} {r : β} (h : Option.bind x f = some r) : ∃ q, x = some q ∧ f q = some r := by
  cases x with
  | none => cases h
  | some q => exact ⟨q, rfl, h⟩
theorem i_letE {α β : Type} {e : α} {f : α → Option β} {r : β} (h : i_let e f = some r) : ∃ x, x = e ∧ f x = some r := ⟨e, rfl, h⟩
section IRUL2
variable {E : Nat → List Value → I_St → Option Value → I_St → Prop} {code : List I_En} {r : Option Value} {S' : I_St} {cf' : I_Cf} {pc : Nat} {lv : List (Option Value)} {rest : List Value} {S : I_St}
theorem i_cfe {cf : I_Cf} (h : cf = cf') (h2 : I_RnE E code cf' r S') : I_RnE E code cf r S' := h ▸ h2
theorem i_rdiv {x y : Int32} (hs : i_stp code (pc, lv, .int y :: .int x :: rest, S) = if y = 0 then none else i_n (pc + 1) lv (.int (x / y) :: rest) S) (hy : ¬ y = 0) (he : (pc + 1, lv, Value.int (x / y) :: rest, S) = cf') (h2 : I_RnE E code cf' r S') : I_RnE E code (pc, lv, .int y :: .int x :: rest, S) r S' := by
  rw [if_neg hy] at hs
  rw [← he] at h2
  exact i_stp1 hs h2
theorem i_rrem {x y : Int32} (hs : i_stp code (pc, lv, .int y :: .int x :: rest, S) = if y = 0 then none else i_n (pc + 1) lv (.int (i_rem x y) :: rest) S) (hy : ¬ y = 0) (he : (pc + 1, lv, Value.int (i_rem x y) :: rest, S) = cf') (h2 : I_RnE E code cf' r S') : I_RnE E code (pc, lv, .int y :: .int x :: rest, S) r S' := by
  rw [if_neg hy] at hs
  rw [← he] at h2
  exact i_stp1 hs h2
theorem i_riald {i : Int32} {q t n : Nat} {f : Nat → Int32} (hs : i_stp code (pc, lv, .int i :: .ref q :: rest, S) = i_ald 0 pc lv (.int i :: .ref q :: rest) S) (ha : i_arr S q = some (t, n, f)) (ht : t = 0 ∨ (0 = 2 ∧ t = 3)) (hg : ¬ (i < 0 ∨ n ≤ i.toNatClampNeg)) (he : (pc + 1, lv, Value.int (f i.toNatClampNeg) :: rest, S) = cf') (h2 : I_RnE E code cf' r S') : I_RnE E code (pc, lv, .int i :: .ref q :: rest, S) r S' := by
  unfold i_ald at hs
  dsimp only at hs
  rw [ha] at hs
  dsimp only at hs
  rw [if_pos ht, if_neg hg] at hs
  rw [← he] at h2
  exact i_stp1 hs h2
theorem i_rbald {i : Int32} {q t n : Nat} {f : Nat → Int32} (hs : i_stp code (pc, lv, .int i :: .ref q :: rest, S) = i_ald 2 pc lv (.int i :: .ref q :: rest) S) (ha : i_arr S q = some (t, n, f)) (ht : t = 2 ∨ (2 = 2 ∧ t = 3)) (hg : ¬ (i < 0 ∨ n ≤ i.toNatClampNeg)) (he : (pc + 1, lv, Value.int (f i.toNatClampNeg) :: rest, S) = cf') (h2 : I_RnE E code cf' r S') : I_RnE E code (pc, lv, .int i :: .ref q :: rest, S) r S' := by
  unfold i_ald at hs
  dsimp only at hs
  rw [ha] at hs
  dsimp only at hs
  rw [if_pos ht, if_neg hg] at hs
  rw [← he] at h2
  exact i_stp1 hs h2
theorem i_rlald {i : Int32} {q n : Nat} {refs : List (Option Nat)} (hs : i_stp code (pc, lv, .int i :: .ref q :: rest, S) = i_lald pc lv (.int i :: .ref q :: rest) S) (ha : S.1[q]? = some (1, n, refs)) (hg : ¬ (i < 0 ∨ n ≤ i.toNatClampNeg)) (he : (pc + 1, lv, Value.long (S.2.2.1 q i.toNatClampNeg) :: rest, S) = cf') (h2 : I_RnE E code cf' r S') : I_RnE E code (pc, lv, .int i :: .ref q :: rest, S) r S' := by
  unfold i_lald at hs
  dsimp only at hs
  rw [ha] at hs
  dsimp only at hs
  rw [if_pos rfl, if_neg hg] at hs
  rw [← he] at h2
  exact i_stp1 hs h2
theorem i_riast {x i : Int32} {q n : Nat} {refs : List (Option Nat)} (hs : i_stp code (pc, lv, .int x :: .int i :: .ref q :: rest, S) = i_ast 0 pc lv (.int x :: .int i :: .ref q :: rest) S) (ha : S.1[q]? = some (0, n, refs)) (hx : 0 = 0 ∨ x = 0 ∨ x = 1) (hg : ¬ (i < 0 ∨ n ≤ i.toNatClampNeg)) (he : (pc + 1, lv, rest, (S.1, i_upI S.2.1 q i.toNatClampNeg x, S.2.2)) = cf') (h2 : I_RnE E code cf' r S') : I_RnE E code (pc, lv, .int x :: .int i :: .ref q :: rest, S) r S' := by
  unfold i_ast at hs
  dsimp only at hs
  rw [ha] at hs
  dsimp only at hs
  rw [if_pos ⟨rfl, hx⟩, if_neg hg] at hs
  rw [← he] at h2
  exact i_stp1 hs h2
theorem i_rbast {x i : Int32} {q n : Nat} {refs : List (Option Nat)} (hs : i_stp code (pc, lv, .int x :: .int i :: .ref q :: rest, S) = i_ast 2 pc lv (.int x :: .int i :: .ref q :: rest) S) (ha : S.1[q]? = some (2, n, refs)) (hx : 2 = 0 ∨ x = 0 ∨ x = 1) (hg : ¬ (i < 0 ∨ n ≤ i.toNatClampNeg)) (he : (pc + 1, lv, rest, (S.1, i_upI S.2.1 q i.toNatClampNeg x, S.2.2)) = cf') (h2 : I_RnE E code cf' r S') : I_RnE E code (pc, lv, .int x :: .int i :: .ref q :: rest, S) r S' := by
  unfold i_ast at hs
  dsimp only at hs
  rw [ha] at hs
  dsimp only at hs
  rw [if_pos ⟨rfl, hx⟩, if_neg hg] at hs
  rw [← he] at h2
  exact i_stp1 hs h2
theorem i_rlast {x : Int64} {i : Int32} {q n : Nat} {refs : List (Option Nat)} (hs : i_stp code (pc, lv, .long x :: .int i :: .ref q :: rest, S) = i_last pc lv (.long x :: .int i :: .ref q :: rest) S) (ha : S.1[q]? = some (1, n, refs)) (hg : ¬ (i < 0 ∨ n ≤ i.toNatClampNeg)) (he : (pc + 1, lv, rest, (S.1, S.2.1, i_upL S.2.2.1 q i.toNatClampNeg x, S.2.2.2)) = cf') (h2 : I_RnE E code cf' r S') : I_RnE E code (pc, lv, .long x :: .int i :: .ref q :: rest, S) r S' := by
  unfold i_last at hs
  dsimp only at hs
  rw [ha] at hs
  dsimp only at hs
  rw [if_pos rfl, if_neg hg] at hs
  rw [← he] at h2
  exact i_stp1 hs h2
theorem i_rpz {x : Int32} {q t n ci k a b : Nat} {refs : List (Option Nat)} (hs : i_stp code (pc, lv, .int x :: .ref q :: rest, S) = i_pf [ci, k, 2, a, b] pc lv (.int x :: .ref q :: rest) S) (ha : S.1[q]? = some (t, n, refs)) (ht : t = 10 + ci) (hx : x = 0 ∨ x = 1) (he : (pc + 3, lv, rest, (S.1, i_upI S.2.1 q k x, S.2.2)) = cf') (h2 : I_RnE E code cf' r S') : I_RnE E code (pc, lv, .int x :: .ref q :: rest, S) r S' := by
  unfold i_pf at hs
  dsimp only at hs
  rw [ha] at hs
  dsimp only at hs
  rw [if_pos ht, if_neg (by decide), if_pos ⟨rfl, hx⟩] at hs
  rw [← he] at h2
  exact i_stp1 hs h2
theorem i_rcpyI {n dp sp : Int32} {d a n0 n1 : Nat} {refs0 refs1 : List (Option Nat)} (hs : i_stp code (pc, lv, .int n :: .int dp :: .ref d :: .int sp :: .ref a :: rest, S) = i_cpy pc lv (.int n :: .int dp :: .ref d :: .int sp :: .ref a :: rest) S) (ha : S.1[a]? = some (0, n0, refs0)) (hd : S.1[d]? = some (0, n1, refs1)) (hg : i_cgP sp dp n n0 n1) (hr : (rest.map fun v => v.category).sum ≤ 8) (he : (pc + 3, lv, rest, (S.1, i_row S.2.1 d (va_cpy (S.2.1 a) (S.2.1 d) sp.toNatClampNeg dp.toNatClampNeg n.toNatClampNeg), S.2.2)) = cf') (h2 : I_RnE E code cf' r S') : I_RnE E code (pc, lv, .int n :: .int dp :: .ref d :: .int sp :: .ref a :: rest, S) r S' := by
  unfold i_cpy at hs
  dsimp only at hs
  rw [ha, hd] at hs
  dsimp only at hs
  rw [if_pos ⟨hg.1, hg.2.1, hg.2.2.1, hg.2.2.2.1, hg.2.2.2.2, hr⟩, if_pos ⟨rfl, rfl⟩] at hs
  rw [← he] at h2
  exact i_stp1 hs h2
theorem i_rcpyL {n dp sp : Int32} {d a n0 n1 : Nat} {refs0 refs1 : List (Option Nat)} (hs : i_stp code (pc, lv, .int n :: .int dp :: .ref d :: .int sp :: .ref a :: rest, S) = i_cpy pc lv (.int n :: .int dp :: .ref d :: .int sp :: .ref a :: rest) S) (ha : S.1[a]? = some (1, n0, refs0)) (hd : S.1[d]? = some (1, n1, refs1)) (hg : i_cgP sp dp n n0 n1) (hr : (rest.map fun v => v.category).sum ≤ 8) (he : (pc + 3, lv, rest, (S.1, S.2.1, i_row S.2.2.1 d (va_cpy (S.2.2.1 a) (S.2.2.1 d) sp.toNatClampNeg dp.toNatClampNeg n.toNatClampNeg), S.2.2.2)) = cf') (h2 : I_RnE E code cf' r S') : I_RnE E code (pc, lv, .int n :: .int dp :: .ref d :: .int sp :: .ref a :: rest, S) r S' := by
  unfold i_cpy at hs
  dsimp only at hs
  rw [ha, hd] at hs
  dsimp only at hs
  rw [if_pos ⟨hg.1, hg.2.1, hg.2.2.1, hg.2.2.2.1, hg.2.2.2.2, hr⟩, if_neg (by decide), if_pos ⟨rfl, rfl⟩] at hs
  rw [← he] at h2
  exact i_stp1 hs h2
theorem i_rretZ {x : Int32} {cf : I_Cf} (hs : i_stp code cf = i_iret [2] [.int x]) (hx : x = 0 ∨ x = 1) (hS : cf.2.2.2 = S) : I_RnE E code cf (some (.int x)) S := by
  unfold i_iret at hs
  dsimp only at hs
  rw [if_pos (Or.inr (Or.inl ⟨rfl, hx⟩))] at hs
  exact i_rret hs hS
end IRUL2
end
section
def j_fillI_4_L5 (l1 : Int32) (l3 : Int32) (k20 : I_M → Option I_M) : Nat → Int32 → I_M → Option I_M
  | 0, _, _ => none
  | n + 1, l2, M =>
    (if l2 < l3 then
        i_g l2 25 ((j_fillI_4_L5 l1 l3 k20 n) (l2 + (1 : Int32)) (i_wI M 4 (Int32.toNatClampNeg l2) l1))
      else
        k20  M)
theorem ok_j_fillI_4_L5 {X : Nat × (Nat → Int32)} {d : Nat} {l1 : Int32} {l3 : Int32} {k20 : I_M → Option I_M} (hd : 1 ≤ d + 1) (hk20 : ∀ (M : I_M) (r : I_M), k20 M = some r → I_RnE (I_Ex d) i_c3 (20, [none, none, none, none], [], i_S X M) none (i_S X r)) : ∀ (n : Nat) (l2 : Int32) (M : I_M) (r : I_M), j_fillI_4_L5 l1 l3 k20 n l2 M = some r → I_RnE (I_Ex d) i_c3 (5, [some (.ref 4), some (.int l1), some (.int l2), some (.int l3)], [], i_S X M) none (i_S X r) := by
  intro n
  induction n with
  | zero => intro _ M r h; cases h
  | succ n hself =>
    intro l2 M r h
    rw [j_fillI_4_L5] at h
    refine i_rs 2 (cf' := (7, [some (.ref 4), some (.int l1), some (.int l2), some (.int l3)], [.int l3, .int l2], i_S X M)) rfl ?_
    by_cases c1 : l2 < l3
    · replace h := (if_pos c1).symm.trans h
      refine i_rbT (c := l2 < l3) (t := 10) (n := 20) rfl c1 ?_
      refine i_rs 3 (cf' := (13, [some (.ref 4), some (.int l1), some (.int l2), some (.int l3)], [.int l1, .int l2, .ref 4], i_S X M)) rfl ?_
      obtain ⟨g2, h⟩ := i_gE h
      refine i_riast (n := 25) (cf' := (14, [some (.ref 4), some (.int l1), some (.int l2), some (.int l3)], [], i_S X (i_wI M 4 (Int32.toNatClampNeg l2) l1))) rfl rfl (Or.inl rfl) g2 rfl ?_
      refine i_rs 2 (cf' := (5, [some (.ref 4), some (.int l1), some (.int (l2 + (1 : Int32))), some (.int l3)], [], i_S X (i_wI M 4 (Int32.toNatClampNeg l2) l1))) rfl ?_
      refine i_fg (lv' := [some (.ref 4), some (.int l1), some (.int (l2 + (1 : Int32))), some (.int l3)]) (And.intro rfl (And.intro rfl (And.intro rfl (And.intro rfl True.intro)))) ?_
      exact hself (l2 + (1 : Int32)) (i_wI M 4 (Int32.toNatClampNeg l2) l1) _ h
    · replace h := (if_neg c1).symm.trans h
      refine i_rbF (c := l2 < l3) (t := 10) (n := 20) rfl c1 ?_
      refine i_fg (lv' := [none, none, none, none]) True.intro ?_
      exact hk20  M _ h
def j_fillI_4 (l1 : Int32) (M : I_M) : Option I_M :=
  j_fillI_4_L5 l1 (25 : Int32) (fun M3 =>
        some M3) i_F (0 : Int32) M
theorem ok_j_fillI_4 {X : Nat × (Nat → Int32)} {d : Nat} {l1 : Int32} {M : I_M} {r : I_M} (hd : 1 ≤ d) (h : j_fillI_4 l1 M = some r) : I_Ex d 3 [.ref 4, .int l1] (i_S X M) none (i_S X r) := by
  obtain ⟨d, rfl⟩ : ∃ d1, d = d1 + 1 := ⟨d - 1, by omega⟩
  unfold j_fillI_4 at h
  refine i_ex (e := i_r3) (lv := [some (.ref 4), some (.int l1), none, none]) rfl (Nat.le_of_ble_eq_true rfl) rfl ?_
  show I_RnE (I_Ex d) i_c3 (0, [some (.ref 4), some (.int l1), none, none], [], i_S X M) _ _
  refine i_rs 5 (cf' := (5, [some (.ref 4), some (.int l1), some (.int (0 : Int32)), some (.int (25 : Int32))], [], i_S X M)) rfl ?_
  refine i_fg (lv' := [some (.ref 4), some (.int l1), some (.int (0 : Int32)), some (.int (25 : Int32))]) (And.intro rfl (And.intro rfl (And.intro rfl (And.intro rfl True.intro)))) ?_
  refine ok_j_fillI_4_L5 (by omega) (fun M3 r h => ?_) i_F (0 : Int32) M _ h
  cases h
  exact i_rret rfl rfl
def j_fillI_5_L5 (l1 : Int32) (l3 : Int32) (k20 : I_M → Option I_M) : Nat → Int32 → I_M → Option I_M
  | 0, _, _ => none
  | n + 1, l2, M =>
    (if l2 < l3 then
        i_g l2 25 ((j_fillI_5_L5 l1 l3 k20 n) (l2 + (1 : Int32)) (i_wI M 5 (Int32.toNatClampNeg l2) l1))
      else
        k20  M)
theorem ok_j_fillI_5_L5 {X : Nat × (Nat → Int32)} {d : Nat} {l1 : Int32} {l3 : Int32} {k20 : I_M → Option I_M} (hd : 1 ≤ d + 1) (hk20 : ∀ (M : I_M) (r : I_M), k20 M = some r → I_RnE (I_Ex d) i_c3 (20, [none, none, none, none], [], i_S X M) none (i_S X r)) : ∀ (n : Nat) (l2 : Int32) (M : I_M) (r : I_M), j_fillI_5_L5 l1 l3 k20 n l2 M = some r → I_RnE (I_Ex d) i_c3 (5, [some (.ref 5), some (.int l1), some (.int l2), some (.int l3)], [], i_S X M) none (i_S X r) := by
  intro n
  induction n with
  | zero => intro _ M r h; cases h
  | succ n hself =>
    intro l2 M r h
    rw [j_fillI_5_L5] at h
    refine i_rs 2 (cf' := (7, [some (.ref 5), some (.int l1), some (.int l2), some (.int l3)], [.int l3, .int l2], i_S X M)) rfl ?_
    by_cases c1 : l2 < l3
    · replace h := (if_pos c1).symm.trans h
      refine i_rbT (c := l2 < l3) (t := 10) (n := 20) rfl c1 ?_
      refine i_rs 3 (cf' := (13, [some (.ref 5), some (.int l1), some (.int l2), some (.int l3)], [.int l1, .int l2, .ref 5], i_S X M)) rfl ?_
      obtain ⟨g2, h⟩ := i_gE h
      refine i_riast (n := 25) (cf' := (14, [some (.ref 5), some (.int l1), some (.int l2), some (.int l3)], [], i_S X (i_wI M 5 (Int32.toNatClampNeg l2) l1))) rfl rfl (Or.inl rfl) g2 rfl ?_
      refine i_rs 2 (cf' := (5, [some (.ref 5), some (.int l1), some (.int (l2 + (1 : Int32))), some (.int l3)], [], i_S X (i_wI M 5 (Int32.toNatClampNeg l2) l1))) rfl ?_
      refine i_fg (lv' := [some (.ref 5), some (.int l1), some (.int (l2 + (1 : Int32))), some (.int l3)]) (And.intro rfl (And.intro rfl (And.intro rfl (And.intro rfl True.intro)))) ?_
      exact hself (l2 + (1 : Int32)) (i_wI M 5 (Int32.toNatClampNeg l2) l1) _ h
    · replace h := (if_neg c1).symm.trans h
      refine i_rbF (c := l2 < l3) (t := 10) (n := 20) rfl c1 ?_
      refine i_fg (lv' := [none, none, none, none]) True.intro ?_
      exact hk20  M _ h
def j_fillI_5 (l1 : Int32) (M : I_M) : Option I_M :=
  j_fillI_5_L5 l1 (25 : Int32) (fun M3 =>
        some M3) i_F (0 : Int32) M
theorem ok_j_fillI_5 {X : Nat × (Nat → Int32)} {d : Nat} {l1 : Int32} {M : I_M} {r : I_M} (hd : 1 ≤ d) (h : j_fillI_5 l1 M = some r) : I_Ex d 3 [.ref 5, .int l1] (i_S X M) none (i_S X r) := by
  obtain ⟨d, rfl⟩ : ∃ d1, d = d1 + 1 := ⟨d - 1, by omega⟩
  unfold j_fillI_5 at h
  refine i_ex (e := i_r3) (lv := [some (.ref 5), some (.int l1), none, none]) rfl (Nat.le_of_ble_eq_true rfl) rfl ?_
  show I_RnE (I_Ex d) i_c3 (0, [some (.ref 5), some (.int l1), none, none], [], i_S X M) _ _
  refine i_rs 5 (cf' := (5, [some (.ref 5), some (.int l1), some (.int (0 : Int32)), some (.int (25 : Int32))], [], i_S X M)) rfl ?_
  refine i_fg (lv' := [some (.ref 5), some (.int l1), some (.int (0 : Int32)), some (.int (25 : Int32))]) (And.intro rfl (And.intro rfl (And.intro rfl (And.intro rfl True.intro)))) ?_
  refine ok_j_fillI_5_L5 (by omega) (fun M3 r h => ?_) i_F (0 : Int32) M _ h
  cases h
  exact i_rret rfl rfl
def b_Land_lay_L27 (l4 : Int32) (k61 : Int32 → I_M → Option I_M) : Nat → Int32 → Int32 → I_M → Option I_M
  | 0, _, _, _ => none
  | n + 1, l3, l5, M =>
    (if l5 < (M.1 1 1) then
        i_g l3 25 ((b_Land_lay_L27 l4 k61 n) (l3 + (1 : Int32)) (l5 + (1 : Int32)) (i_wI (i_wI M 2 (Int32.toNatClampNeg l3) l4) 3 (Int32.toNatClampNeg l3) l5))
      else
        k61 l3 M)
theorem ok_b_Land_lay_L27 {X : Nat × (Nat → Int32)} {d : Nat} {l4 : Int32} {k61 : Int32 → I_M → Option I_M} (hd : 2 ≤ d + 1) (hk61 : ∀ (l3 : Int32) (M : I_M) (r : I_M), k61 l3 M = some r → I_RnE (I_Ex d) i_c2 (61, [some (.ref 1), none, none, some (.int l3), some (.int l4), none], [], i_S X M) none (i_S X r)) : ∀ (n : Nat) (l3 : Int32) (l5 : Int32) (M : I_M) (r : I_M), b_Land_lay_L27 l4 k61 n l3 l5 M = some r → I_RnE (I_Ex d) i_c2 (27, [some (.ref 1), none, none, some (.int l3), some (.int l4), some (.int l5)], [], i_S X M) none (i_S X r) := by
  intro n
  induction n with
  | zero => intro _ _ M r h; cases h
  | succ n hself =>
    intro l3 l5 M r h
    rw [b_Land_lay_L27] at h
    refine i_rs 3 (cf' := (33, [some (.ref 1), none, none, some (.int l3), some (.int l4), some (.int l5)], [.int (M.1 1 1), .int l5], i_S X M)) rfl ?_
    by_cases c3 : l5 < (M.1 1 1)
    · replace h := (if_pos c3).symm.trans h
      refine i_rbT (c := l5 < (M.1 1 1)) (t := 36) (n := 61) rfl c3 ?_
      refine i_rs 4 (cf' := (43, [some (.ref 1), none, none, some (.int l3), some (.int l4), some (.int l5)], [.int l4, .int l3, .ref 2], i_S X M)) rfl ?_
      obtain ⟨g4, h⟩ := i_gE h
      refine i_riast (n := 25) (cf' := (44, [some (.ref 1), none, none, some (.int l3), some (.int l4), some (.int l5)], [], i_S X (i_wI M 2 (Int32.toNatClampNeg l3) l4))) rfl rfl (Or.inl rfl) g4 rfl ?_
      refine i_rs 4 (cf' := (51, [some (.ref 1), none, none, some (.int l3), some (.int l4), some (.int l5)], [.int l5, .int l3, .ref 3], i_S X (i_wI M 2 (Int32.toNatClampNeg l3) l4))) rfl ?_
      refine i_riast (n := 25) (cf' := (52, [some (.ref 1), none, none, some (.int l3), some (.int l4), some (.int l5)], [], i_S X (i_wI (i_wI M 2 (Int32.toNatClampNeg l3) l4) 3 (Int32.toNatClampNeg l3) l5))) rfl rfl (Or.inl rfl) g4 rfl ?_
      refine i_rs 3 (cf' := (27, [some (.ref 1), none, none, some (.int (l3 + (1 : Int32))), some (.int l4), some (.int (l5 + (1 : Int32)))], [], i_S X (i_wI (i_wI M 2 (Int32.toNatClampNeg l3) l4) 3 (Int32.toNatClampNeg l3) l5))) rfl ?_
      refine i_fg (lv' := [some (.ref 1), none, none, some (.int (l3 + (1 : Int32))), some (.int l4), some (.int (l5 + (1 : Int32)))]) (And.intro rfl (And.intro rfl (And.intro rfl (And.intro rfl True.intro)))) ?_
      exact hself (l3 + (1 : Int32)) (l5 + (1 : Int32)) (i_wI (i_wI M 2 (Int32.toNatClampNeg l3) l4) 3 (Int32.toNatClampNeg l3) l5) _ h
    · replace h := (if_neg c3).symm.trans h
      refine i_rbF (c := l5 < (M.1 1 1)) (t := 36) (n := 61) rfl c3 ?_
      refine i_fg (lv' := [some (.ref 1), none, none, some (.int l3), some (.int l4), none]) (And.intro rfl (And.intro rfl (And.intro rfl True.intro))) ?_
      exact hk61 l3 M _ h
def b_Land_lay_L15 (k67 : I_M → Option I_M) : Nat → Int32 → Int32 → I_M → Option I_M
  | 0, _, _, _ => none
  | n + 1, l3, l4, M =>
    (if l4 < (M.1 1 0) then
        b_Land_lay_L27 l4 (fun l3_2 M2 =>
            (b_Land_lay_L15 k67 n) l3_2 (l4 + (1 : Int32)) M2) i_F l3 (0 : Int32) M
      else
        k67  M)
theorem ok_b_Land_lay_L15 {X : Nat × (Nat → Int32)} {d : Nat} {k67 : I_M → Option I_M} (hd : 2 ≤ d + 1) (hk67 : ∀ (M : I_M) (r : I_M), k67 M = some r → I_RnE (I_Ex d) i_c2 (67, [some (.ref 1), none, none, none, none, none], [], i_S X M) none (i_S X r)) : ∀ (n : Nat) (l3 : Int32) (l4 : Int32) (M : I_M) (r : I_M), b_Land_lay_L15 k67 n l3 l4 M = some r → I_RnE (I_Ex d) i_c2 (15, [some (.ref 1), none, none, some (.int l3), some (.int l4), none], [], i_S X M) none (i_S X r) := by
  intro n
  induction n with
  | zero => intro _ _ M r h; cases h
  | succ n hself =>
    intro l3 l4 M r h
    rw [b_Land_lay_L15] at h
    refine i_rs 3 (cf' := (21, [some (.ref 1), none, none, some (.int l3), some (.int l4), none], [.int (M.1 1 0), .int l4], i_S X M)) rfl ?_
    by_cases c1 : l4 < (M.1 1 0)
    · replace h := (if_pos c1).symm.trans h
      refine i_rbT (c := l4 < (M.1 1 0)) (t := 24) (n := 67) rfl c1 ?_
      refine i_rs 2 (cf' := (27, [some (.ref 1), none, none, some (.int l3), some (.int l4), some (.int (0 : Int32))], [], i_S X M)) rfl ?_
      refine i_fg (lv' := [some (.ref 1), none, none, some (.int l3), some (.int l4), some (.int (0 : Int32))]) (And.intro rfl (And.intro rfl (And.intro rfl (And.intro rfl True.intro)))) ?_
      refine ok_b_Land_lay_L27 (by omega) (fun l3_2 M2 r h => ?_) i_F l3 (0 : Int32) M _ h
      refine i_rs 2 (cf' := (15, [some (.ref 1), none, none, some (.int l3_2), some (.int (l4 + (1 : Int32))), none], [], i_S X M2)) rfl ?_
      refine i_fg (lv' := [some (.ref 1), none, none, some (.int l3_2), some (.int (l4 + (1 : Int32))), none]) (And.intro rfl (And.intro rfl (And.intro rfl True.intro))) ?_
      exact hself l3_2 (l4 + (1 : Int32)) M2 _ h
    · replace h := (if_neg c1).symm.trans h
      refine i_rbF (c := l4 < (M.1 1 0)) (t := 24) (n := 67) rfl c1 ?_
      refine i_fg (lv' := [some (.ref 1), none, none, none, none, none]) (And.intro rfl True.intro) ?_
      exact hk67  M _ h
def b_Land_lay (l1 : Int32) (l2 : Int32) (M : I_M) : Option I_M :=
  b_Land_lay_L15 (fun M5 =>
        Option.bind (j_fillI_4 (3 : Int32) M5) (fun q6 => Option.bind (j_fillI_5 (10 : Int32) q6) (fun q7 => some q7))) i_F (0 : Int32) (0 : Int32) (i_wI (i_wI M 1 0 l1) 1 1 l2)
theorem ok_b_Land_lay {X : Nat × (Nat → Int32)} {d : Nat} {l1 : Int32} {l2 : Int32} {M : I_M} {r : I_M} (hd : 2 ≤ d) (h : b_Land_lay l1 l2 M = some r) : I_Ex d 2 [.ref 1, .int l1, .int l2] (i_S X M) none (i_S X r) := by
  obtain ⟨d, rfl⟩ : ∃ d1, d = d1 + 1 := ⟨d - 1, by omega⟩
  unfold b_Land_lay at h
  refine i_ex (e := i_r2) (lv := [some (.ref 1), some (.int l1), some (.int l2), none, none, none]) rfl (Nat.le_of_ble_eq_true rfl) rfl ?_
  show I_RnE (I_Ex d) i_c2 (0, [some (.ref 1), some (.int l1), some (.int l2), none, none, none], [], i_S X M) _ _
  refine i_rs 10 (cf' := (15, [some (.ref 1), some (.int l1), some (.int l2), some (.int (0 : Int32)), some (.int (0 : Int32)), none], [], i_S X (i_wI (i_wI M 1 0 l1) 1 1 l2))) rfl ?_
  refine i_fg (lv' := [some (.ref 1), none, none, some (.int (0 : Int32)), some (.int (0 : Int32)), none]) (And.intro rfl (And.intro rfl (And.intro rfl True.intro))) ?_
  refine ok_b_Land_lay_L15 (by omega) (fun M5 r h => ?_) i_F (0 : Int32) (0 : Int32) (i_wI (i_wI M 1 0 l1) 1 1 l2) _ h
  refine i_rs 3 (cf' := (72, [some (.ref 1), none, none, none, none, none], [.int (3 : Int32), .ref 4], i_S X M5)) rfl ?_
  obtain ⟨q6, hq6, h⟩ := i_bdE h
  refine i_rcall (k := 3) (as := [.ref 4, .int (3 : Int32)]) (cf1 := (75, [some (.ref 1), none, none, none, none, none], [], i_S X M5)) (cf' := (75, [some (.ref 1), none, none, none, none, none], [], i_S X q6)) rfl (ok_j_fillI_4 (by omega) hq6) rfl ?_
  refine i_rs 3 (cf' := (81, [some (.ref 1), none, none, none, none, none], [.int (10 : Int32), .ref 5], i_S X q6)) rfl ?_
  obtain ⟨q7, hq7, h⟩ := i_bdE h
  refine i_rcall (k := 3) (as := [.ref 5, .int (10 : Int32)]) (cf1 := (84, [some (.ref 1), none, none, none, none, none], [], i_S X q6)) (cf' := (84, [some (.ref 1), none, none, none, none, none], [], i_S X q7)) rfl (ok_j_fillI_5 (by omega) hq7) rfl ?_
  cases h
  exact i_rret rfl rfl
def b_Land_cells (M : I_M) : Option (Int32 × I_M) :=
  some (((M.1 1 0) * (M.1 1 1)), M)
theorem ok_b_Land_cells {X : Nat × (Nat → Int32)} {d : Nat} {M : I_M} {r : (Int32 × I_M)} (hd : 1 ≤ d) (h : b_Land_cells M = some r) : I_Ex d 21 [.ref 1] (i_S X M) (some (.int r.1)) (i_S X r.2) := by
  obtain ⟨d, rfl⟩ : ∃ d1, d = d1 + 1 := ⟨d - 1, by omega⟩
  unfold b_Land_cells at h
  refine i_ex (e := i_r21) (lv := [some (.ref 1)]) rfl (Nat.le_of_ble_eq_true rfl) rfl ?_
  show I_RnE (I_Ex d) i_c21 (0, [some (.ref 1)], [], i_S X M) _ _
  refine i_rs 5 (cf' := (9, [some (.ref 1)], [.int ((M.1 1 0) * (M.1 1 1))], i_S X M)) rfl ?_
  cases h
  exact i_rret rfl rfl
def b_Land_has (l1 : Int32) (M : I_M) : Option (Int32 × I_M) :=
  (if l1 < (0 : Int32) then
      some ((0 : Int32), M)
    else
      Option.bind (b_Land_cells M) (fun q2 => (if l1 < q2.1 then
        some ((1 : Int32), q2.2)
      else
        some ((0 : Int32), q2.2))))
theorem ok_b_Land_has {X : Nat × (Nat → Int32)} {d : Nat} {l1 : Int32} {M : I_M} {r : (Int32 × I_M)} (hd : 2 ≤ d) (h : b_Land_has l1 M = some r) : I_Ex d 20 [.ref 1, .int l1] (i_S X M) (some (.int r.1)) (i_S X r.2) := by
  obtain ⟨d, rfl⟩ : ∃ d1, d = d1 + 1 := ⟨d - 1, by omega⟩
  unfold b_Land_has at h
  refine i_ex (e := i_r20) (lv := [some (.ref 1), some (.int l1)]) rfl (Nat.le_of_ble_eq_true rfl) rfl ?_
  show I_RnE (I_Ex d) i_c20 (0, [some (.ref 1), some (.int l1)], [], i_S X M) _ _
  refine i_rs 1 (cf' := (1, [some (.ref 1), some (.int l1)], [.int l1], i_S X M)) rfl ?_
  by_cases c1 : l1 < (0 : Int32)
  · replace h := (if_pos c1).symm.trans h
    refine i_rbT (c := l1 < (0 : Int32)) (t := 16) (n := 4) rfl c1 ?_
    refine i_rs 1 (cf' := (17, [some (.ref 1), some (.int l1)], [.int (0 : Int32)], i_S X M)) rfl ?_
    cases h
    exact i_rretZ rfl (Or.inl rfl) rfl
  · replace h := (if_neg c1).symm.trans h
    refine i_rbF (c := l1 < (0 : Int32)) (t := 16) (n := 4) rfl c1 ?_
    refine i_rs 2 (cf' := (6, [some (.ref 1), some (.int l1)], [.ref 1, .int l1], i_S X M)) rfl ?_
    obtain ⟨q2, hq2, h⟩ := i_bdE h
    refine i_rcall (k := 21) (as := [.ref 1]) (cf1 := (9, [some (.ref 1), some (.int l1)], [.int l1], i_S X M)) (cf' := (9, [some (.ref 1), some (.int l1)], [.int q2.1, .int l1], i_S X q2.2)) rfl (ok_b_Land_cells (by omega) hq2) rfl ?_
    by_cases c3 : l1 < q2.1
    · replace h := (if_pos c3).symm.trans h
      refine i_rbT (c := l1 < q2.1) (t := 12) (n := 16) rfl c3 ?_
      refine i_rs 2 (cf' := (17, [some (.ref 1), some (.int l1)], [.int (1 : Int32)], i_S X q2.2)) rfl ?_
      cases h
      exact i_rretZ rfl (Or.inr rfl) rfl
    · replace h := (if_neg c3).symm.trans h
      refine i_rbF (c := l1 < q2.1) (t := 12) (n := 16) rfl c3 ?_
      refine i_rs 1 (cf' := (17, [some (.ref 1), some (.int l1)], [.int (0 : Int32)], i_S X q2.2)) rfl ?_
      cases h
      exact i_rretZ rfl (Or.inl rfl) rfl
def b_Land_isStrike (l1 : Int32) (M : I_M) : Option (Int32 × I_M) :=
  (if l1 < (0 : Int32) then
      some ((0 : Int32), M)
    else
      (if (l1 / (100 : Int32)) < (10 : Int32) then
        Option.bind (b_Land_has (i_rem l1 (100 : Int32)) M) (fun q3 => (if q3.1 = (0 : Int32) then
          some ((0 : Int32), q3.2)
        else
          some ((1 : Int32), q3.2)))
      else
        some ((0 : Int32), M)))
theorem ok_b_Land_isStrike {X : Nat × (Nat → Int32)} {d : Nat} {l1 : Int32} {M : I_M} {r : (Int32 × I_M)} (hd : 3 ≤ d) (h : b_Land_isStrike l1 M = some r) : I_Ex d 65 [.ref 1, .int l1] (i_S X M) (some (.int r.1)) (i_S X r.2) := by
  obtain ⟨d, rfl⟩ : ∃ d1, d = d1 + 1 := ⟨d - 1, by omega⟩
  unfold b_Land_isStrike at h
  refine i_ex (e := i_r65) (lv := [some (.ref 1), some (.int l1)]) rfl (Nat.le_of_ble_eq_true rfl) rfl ?_
  show I_RnE (I_Ex d) i_c65 (0, [some (.ref 1), some (.int l1)], [], i_S X M) _ _
  refine i_rs 1 (cf' := (1, [some (.ref 1), some (.int l1)], [.int l1], i_S X M)) rfl ?_
  by_cases c1 : l1 < (0 : Int32)
  · replace h := (if_pos c1).symm.trans h
    refine i_rbT (c := l1 < (0 : Int32)) (t := 28) (n := 4) rfl c1 ?_
    refine i_rs 1 (cf' := (29, [some (.ref 1), some (.int l1)], [.int (0 : Int32)], i_S X M)) rfl ?_
    cases h
    exact i_rretZ rfl (Or.inl rfl) rfl
  · replace h := (if_neg c1).symm.trans h
    refine i_rbF (c := l1 < (0 : Int32)) (t := 28) (n := 4) rfl c1 ?_
    refine i_rs 2 (cf' := (7, [some (.ref 1), some (.int l1)], [.int (100 : Int32), .int l1], i_S X M)) rfl ?_
    refine i_rdiv (cf' := (8, [some (.ref 1), some (.int l1)], [.int (l1 / (100 : Int32))], i_S X M)) rfl (by decide) rfl ?_
    refine i_rs 1 (cf' := (10, [some (.ref 1), some (.int l1)], [.int (10 : Int32), .int (l1 / (100 : Int32))], i_S X M)) rfl ?_
    by_cases c2 : (l1 / (100 : Int32)) < (10 : Int32)
    · replace h := (if_pos c2).symm.trans h
      refine i_rbT (c := (l1 / (100 : Int32)) < (10 : Int32)) (t := 13) (n := 28) rfl c2 ?_
      refine i_rs 3 (cf' := (17, [some (.ref 1), some (.int l1)], [.int (100 : Int32), .int l1, .ref 1], i_S X M)) rfl ?_
      refine i_rrem (cf' := (18, [some (.ref 1), some (.int l1)], [.int (i_rem l1 (100 : Int32)), .ref 1], i_S X M)) rfl (by decide) rfl ?_
      obtain ⟨q3, hq3, h⟩ := i_bdE h
      refine i_rcall (k := 20) (as := [.ref 1, .int (i_rem l1 (100 : Int32))]) (cf1 := (21, [some (.ref 1), some (.int l1)], [], i_S X M)) (cf' := (21, [some (.ref 1), some (.int l1)], [.int q3.1], i_S X q3.2)) rfl (ok_b_Land_has (by omega) hq3) rfl ?_
      by_cases c4 : q3.1 = (0 : Int32)
      · replace h := (if_pos c4).symm.trans h
        refine i_rbT (c := q3.1 = (0 : Int32)) (t := 28) (n := 24) rfl c4 ?_
        refine i_rs 1 (cf' := (29, [some (.ref 1), some (.int l1)], [.int (0 : Int32)], i_S X q3.2)) rfl ?_
        cases h
        exact i_rretZ rfl (Or.inl rfl) rfl
      · replace h := (if_neg c4).symm.trans h
        refine i_rbF (c := q3.1 = (0 : Int32)) (t := 28) (n := 24) rfl c4 ?_
        refine i_rs 2 (cf' := (29, [some (.ref 1), some (.int l1)], [.int (1 : Int32)], i_S X q3.2)) rfl ?_
        cases h
        exact i_rretZ rfl (Or.inr rfl) rfl
    · replace h := (if_neg c2).symm.trans h
      refine i_rbF (c := (l1 / (100 : Int32)) < (10 : Int32)) (t := 13) (n := 28) rfl c2 ?_
      refine i_rs 1 (cf' := (29, [some (.ref 1), some (.int l1)], [.int (0 : Int32)], i_S X M)) rfl ?_
      cases h
      exact i_rretZ rfl (Or.inl rfl) rfl
def b_Land_far (l1 : Int32) (l2 : Int32) (M : I_M) : Option (Int32 × I_M) :=
  i_g l1 25 (i_g l2 25 (some (((i_abs ((M.1 2 (Int32.toNatClampNeg l1)) - (M.1 2 (Int32.toNatClampNeg l2)))) + (i_abs ((M.1 3 (Int32.toNatClampNeg l1)) - (M.1 3 (Int32.toNatClampNeg l2))))), M)))
theorem ok_b_Land_far {X : Nat × (Nat → Int32)} {d : Nat} {l1 : Int32} {l2 : Int32} {M : I_M} {r : (Int32 × I_M)} (hd : 1 ≤ d) (h : b_Land_far l1 l2 M = some r) : I_Ex d 67 [.ref 1, .int l1, .int l2] (i_S X M) (some (.int r.1)) (i_S X r.2) := by
  obtain ⟨d, rfl⟩ : ∃ d1, d = d1 + 1 := ⟨d - 1, by omega⟩
  unfold b_Land_far at h
  refine i_ex (e := i_r67) (lv := [some (.ref 1), some (.int l1), some (.int l2)]) rfl (Nat.le_of_ble_eq_true rfl) rfl ?_
  show I_RnE (I_Ex d) i_c67 (0, [some (.ref 1), some (.int l1), some (.int l2)], [], i_S X M) _ _
  refine i_rs 3 (cf' := (5, [some (.ref 1), some (.int l1), some (.int l2)], [.int l1, .ref 2], i_S X M)) rfl ?_
  obtain ⟨g1, h⟩ := i_gE h
  refine i_riald (n := 25) (cf' := (6, [some (.ref 1), some (.int l1), some (.int l2)], [.int (M.1 2 (Int32.toNatClampNeg l1))], i_S X M)) rfl rfl (by decide) g1 rfl ?_
  refine i_rs 3 (cf' := (11, [some (.ref 1), some (.int l1), some (.int l2)], [.int l2, .ref 2, .int (M.1 2 (Int32.toNatClampNeg l1))], i_S X M)) rfl ?_
  obtain ⟨g2, h⟩ := i_gE h
  refine i_riald (n := 25) (cf' := (12, [some (.ref 1), some (.int l1), some (.int l2)], [.int (M.1 2 (Int32.toNatClampNeg l2)), .int (M.1 2 (Int32.toNatClampNeg l1))], i_S X M)) rfl rfl (by decide) g2 rfl ?_
  refine i_rs 5 (cf' := (21, [some (.ref 1), some (.int l1), some (.int l2)], [.int l1, .ref 3, .int (i_abs ((M.1 2 (Int32.toNatClampNeg l1)) - (M.1 2 (Int32.toNatClampNeg l2))))], i_S X M)) rfl ?_
  refine i_riald (n := 25) (cf' := (22, [some (.ref 1), some (.int l1), some (.int l2)], [.int (M.1 3 (Int32.toNatClampNeg l1)), .int (i_abs ((M.1 2 (Int32.toNatClampNeg l1)) - (M.1 2 (Int32.toNatClampNeg l2))))], i_S X M)) rfl rfl (by decide) g1 rfl ?_
  refine i_rs 3 (cf' := (27, [some (.ref 1), some (.int l1), some (.int l2)], [.int l2, .ref 3, .int (M.1 3 (Int32.toNatClampNeg l1)), .int (i_abs ((M.1 2 (Int32.toNatClampNeg l1)) - (M.1 2 (Int32.toNatClampNeg l2))))], i_S X M)) rfl ?_
  refine i_riald (n := 25) (cf' := (28, [some (.ref 1), some (.int l1), some (.int l2)], [.int (M.1 3 (Int32.toNatClampNeg l2)), .int (M.1 3 (Int32.toNatClampNeg l1)), .int (i_abs ((M.1 2 (Int32.toNatClampNeg l1)) - (M.1 2 (Int32.toNatClampNeg l2))))], i_S X M)) rfl rfl (by decide) g2 rfl ?_
  refine i_rs 3 (cf' := (33, [some (.ref 1), some (.int l1), some (.int l2)], [.int ((i_abs ((M.1 2 (Int32.toNatClampNeg l1)) - (M.1 2 (Int32.toNatClampNeg l2)))) + (i_abs ((M.1 3 (Int32.toNatClampNeg l1)) - (M.1 3 (Int32.toNatClampNeg l2)))))], i_S X M)) rfl ?_
  cases h
  exact i_rret rfl rfl
def b_drawn (l0 : Int32) (M : I_M) : Option (Int32 × I_M) :=
  some (((l0 * (1103515245 : Int32)) + (12345 : Int32)), M)
theorem ok_b_drawn {X : Nat × (Nat → Int32)} {d : Nat} {l0 : Int32} {M : I_M} {r : (Int32 × I_M)} (hd : 1 ≤ d) (h : b_drawn l0 M = some r) : I_Ex d 126 [.int l0] (i_S X M) (some (.int r.1)) (i_S X r.2) := by
  obtain ⟨d, rfl⟩ : ∃ d1, d = d1 + 1 := ⟨d - 1, by omega⟩
  unfold b_drawn at h
  refine i_ex (e := i_r126) (lv := [some (.int l0)]) rfl (Nat.le_of_ble_eq_true rfl) rfl ?_
  show I_RnE (I_Ex d) i_c126 (0, [some (.int l0)], [], i_S X M) _ _
  refine i_rs 5 (cf' := (9, [some (.int l0)], [.int ((l0 * (1103515245 : Int32)) + (12345 : Int32))], i_S X M)) rfl ?_
  cases h
  exact i_rret rfl rfl
def b_lotOf (l0 : Int32) (M : I_M) : Option (Int32 × I_M) :=
  some ((i_rem (i_ushr l0 (8 : Int32)) (12 : Int32)), M)
theorem ok_b_lotOf {X : Nat × (Nat → Int32)} {d : Nat} {l0 : Int32} {M : I_M} {r : (Int32 × I_M)} (hd : 1 ≤ d) (h : b_lotOf l0 M = some r) : I_Ex d 127 [.int l0] (i_S X M) (some (.int r.1)) (i_S X r.2) := by
  obtain ⟨d, rfl⟩ : ∃ d1, d = d1 + 1 := ⟨d - 1, by omega⟩
  unfold b_lotOf at h
  refine i_ex (e := i_r127) (lv := [some (.int l0)]) rfl (Nat.le_of_ble_eq_true rfl) rfl ?_
  show I_RnE (I_Ex d) i_c127 (0, [some (.int l0)], [], i_S X M) _ _
  refine i_rs 4 (cf' := (6, [some (.int l0)], [.int (12 : Int32), .int (i_ushr l0 (8 : Int32))], i_S X M)) rfl ?_
  refine i_rrem (cf' := (7, [some (.int l0)], [.int (i_rem (i_ushr l0 (8 : Int32)) (12 : Int32))], i_S X M)) rfl (by decide) rfl ?_
  cases h
  exact i_rret rfl rfl
def b_Land_soak_L4 (k53 : Int32 → I_M → Option (Int32 × I_M)) : Nat → Int32 → Int32 → I_M → Option (Int32 × I_M)
  | 0, _, _, _ => none
  | n + 1, l2, l3, M =>
    Option.bind (b_Land_cells M) (fun q1 => (if l3 < q1.1 then
        Option.bind (b_drawn l2 q1.2) (fun q3 => Option.bind (b_lotOf q3.1 q3.2) (fun q4 => (if q4.1 < (q4.2.1 1 6) then
          i_g l3 25 ((b_Land_soak_L4 k53 n) q3.1 (l3 + (1 : Int32)) (i_wI q4.2 4 (Int32.toNatClampNeg l3) (i_min ((q4.2.1 4 (Int32.toNatClampNeg l3)) + (1 : Int32)) (9 : Int32))))
        else
          (b_Land_soak_L4 k53 n) q3.1 (l3 + (1 : Int32)) q4.2)))
      else
        k53 l2 q1.2))
theorem ok_b_Land_soak_L4 {X : Nat × (Nat → Int32)} {d : Nat} {k53 : Int32 → I_M → Option (Int32 × I_M)} (hd : 2 ≤ d + 1) (hk53 : ∀ (l2 : Int32) (M : I_M) (r : (Int32 × I_M)), k53 l2 M = some r → I_RnE (I_Ex d) i_c128 (53, [none, none, some (.int l2), none], [], i_S X M) (some (.int r.1)) (i_S X r.2)) : ∀ (n : Nat) (l2 : Int32) (l3 : Int32) (M : I_M) (r : (Int32 × I_M)), b_Land_soak_L4 k53 n l2 l3 M = some r → I_RnE (I_Ex d) i_c128 (4, [some (.ref 1), none, some (.int l2), some (.int l3)], [], i_S X M) (some (.int r.1)) (i_S X r.2) := by
  intro n
  induction n with
  | zero => intro _ _ M r h; cases h
  | succ n hself =>
    intro l2 l3 M r h
    rw [b_Land_soak_L4] at h
    refine i_rs 2 (cf' := (6, [some (.ref 1), none, some (.int l2), some (.int l3)], [.ref 1, .int l3], i_S X M)) rfl ?_
    obtain ⟨q1, hq1, h⟩ := i_bdE h
    refine i_rcall (k := 21) (as := [.ref 1]) (cf1 := (9, [some (.ref 1), none, some (.int l2), some (.int l3)], [.int l3], i_S X M)) (cf' := (9, [some (.ref 1), none, some (.int l2), some (.int l3)], [.int q1.1, .int l3], i_S X q1.2)) rfl (ok_b_Land_cells (by omega) hq1) rfl ?_
    by_cases c2 : l3 < q1.1
    · replace h := (if_pos c2).symm.trans h
      refine i_rbT (c := l3 < q1.1) (t := 12) (n := 53) rfl c2 ?_
      refine i_rs 1 (cf' := (13, [some (.ref 1), none, some (.int l2), some (.int l3)], [.int l2], i_S X q1.2)) rfl ?_
      obtain ⟨q3, hq3, h⟩ := i_bdE h
      refine i_rcall (k := 126) (as := [.int l2]) (cf1 := (16, [some (.ref 1), none, some (.int l2), some (.int l3)], [], i_S X q1.2)) (cf' := (16, [some (.ref 1), none, some (.int l2), some (.int l3)], [.int q3.1], i_S X q3.2)) rfl (ok_b_drawn (by omega) hq3) rfl ?_
      refine i_rs 2 (cf' := (18, [some (.ref 1), none, some (.int q3.1), some (.int l3)], [.int q3.1], i_S X q3.2)) rfl ?_
      obtain ⟨q4, hq4, h⟩ := i_bdE h
      refine i_rcall (k := 127) (as := [.int q3.1]) (cf1 := (21, [some (.ref 1), none, some (.int q3.1), some (.int l3)], [], i_S X q3.2)) (cf' := (21, [some (.ref 1), none, some (.int q3.1), some (.int l3)], [.int q4.1], i_S X q4.2)) rfl (ok_b_lotOf (by omega) hq4) rfl ?_
      refine i_rs 2 (cf' := (25, [some (.ref 1), none, some (.int q3.1), some (.int l3)], [.int (q4.2.1 1 6), .int q4.1], i_S X q4.2)) rfl ?_
      by_cases c5 : q4.1 < (q4.2.1 1 6)
      · replace h := (if_pos c5).symm.trans h
        refine i_rbT (c := q4.1 < (q4.2.1 1 6)) (t := 28) (n := 47) rfl c5 ?_
        refine i_rs 6 (cf' := (38, [some (.ref 1), none, some (.int q3.1), some (.int l3)], [.int l3, .ref 4, .int l3, .ref 4], i_S X q4.2)) rfl ?_
        obtain ⟨g6, h⟩ := i_gE h
        refine i_riald (n := 25) (cf' := (39, [some (.ref 1), none, some (.int q3.1), some (.int l3)], [.int (q4.2.1 4 (Int32.toNatClampNeg l3)), .int l3, .ref 4], i_S X q4.2)) rfl rfl (by decide) g6 rfl ?_
        refine i_rs 4 (cf' := (46, [some (.ref 1), none, some (.int q3.1), some (.int l3)], [.int (i_min ((q4.2.1 4 (Int32.toNatClampNeg l3)) + (1 : Int32)) (9 : Int32)), .int l3, .ref 4], i_S X q4.2)) rfl ?_
        refine i_riast (n := 25) (cf' := (47, [some (.ref 1), none, some (.int q3.1), some (.int l3)], [], i_S X (i_wI q4.2 4 (Int32.toNatClampNeg l3) (i_min ((q4.2.1 4 (Int32.toNatClampNeg l3)) + (1 : Int32)) (9 : Int32))))) rfl rfl (Or.inl rfl) g6 rfl ?_
        refine i_rs 2 (cf' := (4, [some (.ref 1), none, some (.int q3.1), some (.int (l3 + (1 : Int32)))], [], i_S X (i_wI q4.2 4 (Int32.toNatClampNeg l3) (i_min ((q4.2.1 4 (Int32.toNatClampNeg l3)) + (1 : Int32)) (9 : Int32))))) rfl ?_
        refine i_fg (lv' := [some (.ref 1), none, some (.int q3.1), some (.int (l3 + (1 : Int32)))]) (And.intro rfl (And.intro rfl (And.intro rfl True.intro))) ?_
        exact hself q3.1 (l3 + (1 : Int32)) (i_wI q4.2 4 (Int32.toNatClampNeg l3) (i_min ((q4.2.1 4 (Int32.toNatClampNeg l3)) + (1 : Int32)) (9 : Int32))) _ h
      · replace h := (if_neg c5).symm.trans h
        refine i_rbF (c := q4.1 < (q4.2.1 1 6)) (t := 28) (n := 47) rfl c5 ?_
        refine i_rs 2 (cf' := (4, [some (.ref 1), none, some (.int q3.1), some (.int (l3 + (1 : Int32)))], [], i_S X q4.2)) rfl ?_
        refine i_fg (lv' := [some (.ref 1), none, some (.int q3.1), some (.int (l3 + (1 : Int32)))]) (And.intro rfl (And.intro rfl (And.intro rfl True.intro))) ?_
        exact hself q3.1 (l3 + (1 : Int32)) q4.2 _ h
    · replace h := (if_neg c2).symm.trans h
      refine i_rbF (c := l3 < q1.1) (t := 12) (n := 53) rfl c2 ?_
      refine i_fg (lv' := [none, none, some (.int l2), none]) (And.intro rfl True.intro) ?_
      exact hk53 l2 q1.2 _ h
def b_Land_soak (l1 : Int32) (M : I_M) : Option (Int32 × I_M) :=
  b_Land_soak_L4 (fun l2_7 M7 =>
        some (l2_7, M7)) i_F l1 (0 : Int32) M
theorem ok_b_Land_soak {X : Nat × (Nat → Int32)} {d : Nat} {l1 : Int32} {M : I_M} {r : (Int32 × I_M)} (hd : 2 ≤ d) (h : b_Land_soak l1 M = some r) : I_Ex d 128 [.ref 1, .int l1] (i_S X M) (some (.int r.1)) (i_S X r.2) := by
  obtain ⟨d, rfl⟩ : ∃ d1, d = d1 + 1 := ⟨d - 1, by omega⟩
  unfold b_Land_soak at h
  refine i_ex (e := i_r128) (lv := [some (.ref 1), some (.int l1), none, none]) rfl (Nat.le_of_ble_eq_true rfl) rfl ?_
  show I_RnE (I_Ex d) i_c128 (0, [some (.ref 1), some (.int l1), none, none], [], i_S X M) _ _
  refine i_rs 4 (cf' := (4, [some (.ref 1), some (.int l1), some (.int l1), some (.int (0 : Int32))], [], i_S X M)) rfl ?_
  refine i_fg (lv' := [some (.ref 1), none, some (.int l1), some (.int (0 : Int32))]) (And.intro rfl (And.intro rfl (And.intro rfl True.intro))) ?_
  refine ok_b_Land_soak_L4 (by omega) (fun l2_7 M7 r h => ?_) i_F l1 (0 : Int32) M _ h
  refine i_rs 1 (cf' := (54, [none, none, some (.int l2_7), none], [.int l2_7], i_S X M7)) rfl ?_
  cases h
  exact i_rret rfl rfl
end
