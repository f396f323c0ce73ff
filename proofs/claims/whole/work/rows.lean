section
-- ===== PART A: goes FIRST, ahead of the names: the tables' words, and 'selects' of the private methods out of them =====
/-- a private method of a class that the tables say can be made, by its rows of tables_1 -/
def lw_okq (q : MethodName × Nat) : Prop := (q.1.cls ≠ "java/lang/invoke/MethodHandle" ∧ q.1.cls ≠ "java/lang/invoke/VarHandle") ∧ Cond.instantiable q.1.cls q.2 ∈ tables_1 ∧ Cond.privateMethod q.1 ∈ tables_1 ∧ Cond.instanceMethod q.1 ∈ tables_1
theorem lw_p0 : lw_okq (⟨"DrawnTalks$Reader", "nextIs", "(I)Z"⟩, 6) := ⟨⟨by decide +kernel, by decide +kernel⟩, List.mem_of_getElem? (i := 82) (by decide +kernel), List.mem_of_getElem? (i := 267) (by decide +kernel), List.mem_of_getElem? (i := 268) (by decide +kernel)⟩
theorem lw_p1 : lw_okq (⟨"DrawnTalks$Reader", "readWord", "()V"⟩, 6) := ⟨⟨by decide +kernel, by decide +kernel⟩, List.mem_of_getElem? (i := 82) (by decide +kernel), List.mem_of_getElem? (i := 274) (by decide +kernel), List.mem_of_getElem? (i := 275) (by decide +kernel)⟩
theorem lw_p2 : lw_okq (⟨"DrawnTalks$Reader", "wordIs", "(Ljava/lang/String;)Z"⟩, 6) := ⟨⟨by decide +kernel, by decide +kernel⟩, List.mem_of_getElem? (i := 82) (by decide +kernel), List.mem_of_getElem? (i := 279) (by decide +kernel), List.mem_of_getElem? (i := 280) (by decide +kernel)⟩
theorem lw_p3 : lw_okq (⟨"DrawnTalks$Reader", "readSign", "(I)V"⟩, 6) := ⟨⟨by decide +kernel, by decide +kernel⟩, List.mem_of_getElem? (i := 82) (by decide +kernel), List.mem_of_getElem? (i := 332) (by decide +kernel), List.mem_of_getElem? (i := 333) (by decide +kernel)⟩
theorem lw_p4 : lw_okq (⟨"DrawnTalks$Reader", "readEvent", "(LDrawnTalks$Talk;)Z"⟩, 6) := ⟨⟨by decide +kernel, by decide +kernel⟩, List.mem_of_getElem? (i := 82) (by decide +kernel), List.mem_of_getElem? (i := 340) (by decide +kernel), List.mem_of_getElem? (i := 341) (by decide +kernel)⟩
theorem lw_p5 : lw_okq (⟨"DrawnTalks$Talk", "add", "(III)Z"⟩, 9) := ⟨⟨by decide +kernel, by decide +kernel⟩, List.mem_of_getElem? (i := 24) (by decide +kernel), List.mem_of_getElem? (i := 353) (by decide +kernel), List.mem_of_getElem? (i := 354) (by decide +kernel)⟩
theorem lw_p6 : lw_okq (⟨"DrawnTalks", "keepBuilt", "(I)I"⟩, 7) := ⟨⟨by decide +kernel, by decide +kernel⟩, List.mem_of_getElem? (i := 15) (by decide +kernel), List.mem_of_getElem? (i := 361) (by decide +kernel), List.mem_of_getElem? (i := 362) (by decide +kernel)⟩
theorem lw_p7 : lw_okq (⟨"DrawnTalks", "isEvent", "(II)Z"⟩, 7) := ⟨⟨by decide +kernel, by decide +kernel⟩, List.mem_of_getElem? (i := 15) (by decide +kernel), List.mem_of_getElem? (i := 389) (by decide +kernel), List.mem_of_getElem? (i := 390) (by decide +kernel)⟩
theorem lw_p8 : lw_okq (⟨"DrawnTalks$Relation", "isDirect", "(LDrawnTalks$Talk;III)Z"⟩, 1) := ⟨⟨by decide +kernel, by decide +kernel⟩, List.mem_of_getElem? (i := 108) (by decide +kernel), List.mem_of_getElem? (i := 415) (by decide +kernel), List.mem_of_getElem? (i := 416) (by decide +kernel)⟩
theorem lw_p9 : lw_okq (⟨"DrawnTalks$Relation", "isRace", "(LDrawnTalks$Talk;II)Z"⟩, 1) := ⟨⟨by decide +kernel, by decide +kernel⟩, List.mem_of_getElem? (i := 108) (by decide +kernel), List.mem_of_getElem? (i := 439) (by decide +kernel), List.mem_of_getElem? (i := 440) (by decide +kernel)⟩
theorem lw_p10 : lw_okq (⟨"DrawnTalks$Lattice", "prepare", "(LDrawnTalks$Talk;)I"⟩, 10) := ⟨⟨by decide +kernel, by decide +kernel⟩, List.mem_of_getElem? (i := 118) (by decide +kernel), List.mem_of_getElem? (i := 456) (by decide +kernel), List.mem_of_getElem? (i := 457) (by decide +kernel)⟩
theorem lw_p11 : lw_okq (⟨"DrawnTalks$Lattice", "visit", "(LDrawnTalks$Talk;II)V"⟩, 10) := ⟨⟨by decide +kernel, by decide +kernel⟩, List.mem_of_getElem? (i := 118) (by decide +kernel), List.mem_of_getElem? (i := 464) (by decide +kernel), List.mem_of_getElem? (i := 465) (by decide +kernel)⟩
theorem lw_p12 : lw_okq (⟨"DrawnTalks$Lattice", "mayHappen", "(LDrawnTalks$Talk;I)Z"⟩, 10) := ⟨⟨by decide +kernel, by decide +kernel⟩, List.mem_of_getElem? (i := 118) (by decide +kernel), List.mem_of_getElem? (i := 471) (by decide +kernel), List.mem_of_getElem? (i := 472) (by decide +kernel)⟩
theorem lw_p13 : lw_okq (⟨"DrawnTalks$Lattice", "goToNextCut", "(LDrawnTalks$Talk;)V"⟩, 10) := ⟨⟨by decide +kernel, by decide +kernel⟩, List.mem_of_getElem? (i := 118) (by decide +kernel), List.mem_of_getElem? (i := 475) (by decide +kernel), List.mem_of_getElem? (i := 476) (by decide +kernel)⟩
theorem lw_p14 : lw_okq (⟨"DrawnTalks$Player", "goToStart", "()V"⟩, 10) := ⟨⟨by decide +kernel, by decide +kernel⟩, List.mem_of_getElem? (i := 160) (by decide +kernel), List.mem_of_getElem? (i := 511) (by decide +kernel), List.mem_of_getElem? (i := 512) (by decide +kernel)⟩
theorem lw_p15 : lw_okq (⟨"DrawnTalks$Player", "talkOf", "(I)LDrawnTalks$Talk;"⟩, 10) := ⟨⟨by decide +kernel, by decide +kernel⟩, List.mem_of_getElem? (i := 160) (by decide +kernel), List.mem_of_getElem? (i := 515) (by decide +kernel), List.mem_of_getElem? (i := 516) (by decide +kernel)⟩
def lw_privs_1 : List (MethodName × Nat) := [(⟨"DrawnTalks$Reader", "nextIs", "(I)Z"⟩, 6), (⟨"DrawnTalks$Reader", "readWord", "()V"⟩, 6), (⟨"DrawnTalks$Reader", "wordIs", "(Ljava/lang/String;)Z"⟩, 6), (⟨"DrawnTalks$Reader", "readSign", "(I)V"⟩, 6), (⟨"DrawnTalks$Reader", "readEvent", "(LDrawnTalks$Talk;)Z"⟩, 6), (⟨"DrawnTalks$Talk", "add", "(III)Z"⟩, 9), (⟨"DrawnTalks", "keepBuilt", "(I)I"⟩, 7), (⟨"DrawnTalks", "isEvent", "(II)Z"⟩, 7), (⟨"DrawnTalks$Relation", "isDirect", "(LDrawnTalks$Talk;III)Z"⟩, 1), (⟨"DrawnTalks$Relation", "isRace", "(LDrawnTalks$Talk;II)Z"⟩, 1), (⟨"DrawnTalks$Lattice", "prepare", "(LDrawnTalks$Talk;)I"⟩, 10), (⟨"DrawnTalks$Lattice", "visit", "(LDrawnTalks$Talk;II)V"⟩, 10), (⟨"DrawnTalks$Lattice", "mayHappen", "(LDrawnTalks$Talk;I)Z"⟩, 10), (⟨"DrawnTalks$Lattice", "goToNextCut", "(LDrawnTalks$Talk;)V"⟩, 10), (⟨"DrawnTalks$Player", "goToStart", "()V"⟩, 10), (⟨"DrawnTalks$Player", "talkOf", "(I)LDrawnTalks$Talk;"⟩, 10)]
theorem lw_r1 : ∀ q ∈ lw_privs_1, lw_okq q := List.forall_mem_cons.mpr ⟨lw_p0, List.forall_mem_cons.mpr ⟨lw_p1, List.forall_mem_cons.mpr ⟨lw_p2, List.forall_mem_cons.mpr ⟨lw_p3, List.forall_mem_cons.mpr ⟨lw_p4, List.forall_mem_cons.mpr ⟨lw_p5, List.forall_mem_cons.mpr ⟨lw_p6, List.forall_mem_cons.mpr ⟨lw_p7, List.forall_mem_cons.mpr ⟨lw_p8, List.forall_mem_cons.mpr ⟨lw_p9, List.forall_mem_cons.mpr ⟨lw_p10, List.forall_mem_cons.mpr ⟨lw_p11, List.forall_mem_cons.mpr ⟨lw_p12, List.forall_mem_cons.mpr ⟨lw_p13, List.forall_mem_cons.mpr ⟨lw_p14, List.forall_mem_cons.mpr ⟨lw_p15, fun _ h => absurd h List.not_mem_nil⟩⟩⟩⟩⟩⟩⟩⟩⟩⟩⟩⟩⟩⟩⟩⟩
theorem lw_p16 : lw_okq (⟨"DrawnTalks$Player", "firstThatCan", "()I"⟩, 10) := ⟨⟨by decide +kernel, by decide +kernel⟩, List.mem_of_getElem? (i := 160) (by decide +kernel), List.mem_of_getElem? (i := 523) (by decide +kernel), List.mem_of_getElem? (i := 524) (by decide +kernel)⟩
theorem lw_p17 : lw_okq (⟨"DrawnTalks$Player", "can", "(I)Z"⟩, 10) := ⟨⟨by decide +kernel, by decide +kernel⟩, List.mem_of_getElem? (i := 160) (by decide +kernel), List.mem_of_getElem? (i := 527) (by decide +kernel), List.mem_of_getElem? (i := 528) (by decide +kernel)⟩
theorem lw_p18 : lw_okq (⟨"DrawnTalks$Player", "act", "(I)V"⟩, 10) := ⟨⟨by decide +kernel, by decide +kernel⟩, List.mem_of_getElem? (i := 160) (by decide +kernel), List.mem_of_getElem? (i := 531) (by decide +kernel), List.mem_of_getElem? (i := 532) (by decide +kernel)⟩
theorem lw_p19 : lw_okq (⟨"DrawnTalks$Player", "post", "(II)V"⟩, 10) := ⟨⟨by decide +kernel, by decide +kernel⟩, List.mem_of_getElem? (i := 160) (by decide +kernel), List.mem_of_getElem? (i := 535) (by decide +kernel), List.mem_of_getElem? (i := 536) (by decide +kernel)⟩
theorem lw_p20 : lw_okq (⟨"DrawnTalks$Player", "goOn", "(I)V"⟩, 10) := ⟨⟨by decide +kernel, by decide +kernel⟩, List.mem_of_getElem? (i := 160) (by decide +kernel), List.mem_of_getElem? (i := 539) (by decide +kernel), List.mem_of_getElem? (i := 540) (by decide +kernel)⟩
theorem lw_p21 : lw_okq (⟨"DrawnTalks$Mixer", "choose", "(I)V"⟩, 4) := ⟨⟨by decide +kernel, by decide +kernel⟩, List.mem_of_getElem? (i := 199) (by decide +kernel), List.mem_of_getElem? (i := 558) (by decide +kernel), List.mem_of_getElem? (i := 559) (by decide +kernel)⟩
theorem lw_p22 : lw_okq (⟨"DrawnTalks$Mixer", "has", "(I)Z"⟩, 4) := ⟨⟨by decide +kernel, by decide +kernel⟩, List.mem_of_getElem? (i := 199) (by decide +kernel), List.mem_of_getElem? (i := 562) (by decide +kernel), List.mem_of_getElem? (i := 563) (by decide +kernel)⟩
theorem lw_p23 : lw_okq (⟨"DrawnTalks$Mixer", "firstLike", "(II)I"⟩, 4) := ⟨⟨by decide +kernel, by decide +kernel⟩, List.mem_of_getElem? (i := 199) (by decide +kernel), List.mem_of_getElem? (i := 566) (by decide +kernel), List.mem_of_getElem? (i := 567) (by decide +kernel)⟩
theorem lw_p24 : lw_okq (⟨"DrawnTalks$Mixer", "isFirst", "(I)Z"⟩, 4) := ⟨⟨by decide +kernel, by decide +kernel⟩, List.mem_of_getElem? (i := 199) (by decide +kernel), List.mem_of_getElem? (i := 571) (by decide +kernel), List.mem_of_getElem? (i := 572) (by decide +kernel)⟩
theorem lw_p25 : lw_okq (⟨"DrawnTalks$Mixer", "isSuch", "(II)Z"⟩, 4) := ⟨⟨by decide +kernel, by decide +kernel⟩, List.mem_of_getElem? (i := 199) (by decide +kernel), List.mem_of_getElem? (i := 577) (by decide +kernel), List.mem_of_getElem? (i := 578) (by decide +kernel)⟩
theorem lw_p26 : lw_okq (⟨"DrawnTalks$Mixer", "isOfOne", "(I)Z"⟩, 4) := ⟨⟨by decide +kernel, by decide +kernel⟩, List.mem_of_getElem? (i := 199) (by decide +kernel), List.mem_of_getElem? (i := 582) (by decide +kernel), List.mem_of_getElem? (i := 583) (by decide +kernel)⟩
theorem lw_p27 : lw_okq (⟨"DrawnTalks$Mixer", "isOf", "(II)Z"⟩, 4) := ⟨⟨by decide +kernel, by decide +kernel⟩, List.mem_of_getElem? (i := 199) (by decide +kernel), List.mem_of_getElem? (i := 586) (by decide +kernel), List.mem_of_getElem? (i := 587) (by decide +kernel)⟩
theorem lw_p28 : lw_okq (⟨"DrawnTalksModel", "readTalk", "()I"⟩, 35) := ⟨⟨by decide +kernel, by decide +kernel⟩, List.mem_of_getElem? (i := 612) (by decide +kernel), List.mem_of_getElem? (i := 745) (by decide +kernel), List.mem_of_getElem? (i := 746) (by decide +kernel)⟩
theorem lw_p29 : lw_okq (⟨"DrawnTalksModel", "beginTalk", "()V"⟩, 35) := ⟨⟨by decide +kernel, by decide +kernel⟩, List.mem_of_getElem? (i := 612) (by decide +kernel), List.mem_of_getElem? (i := 749) (by decide +kernel), List.mem_of_getElem? (i := 750) (by decide +kernel)⟩
theorem lw_p30 : lw_okq (⟨"DrawnTalksModel", "readToken", "()V"⟩, 35) := ⟨⟨by decide +kernel, by decide +kernel⟩, List.mem_of_getElem? (i := 612) (by decide +kernel), List.mem_of_getElem? (i := 753) (by decide +kernel), List.mem_of_getElem? (i := 754) (by decide +kernel)⟩
theorem lw_p31 : lw_okq (⟨"DrawnTalksModel", "readsEvent", "(Z)Z"⟩, 35) := ⟨⟨by decide +kernel, by decide +kernel⟩, List.mem_of_getElem? (i := 612) (by decide +kernel), List.mem_of_getElem? (i := 769) (by decide +kernel), List.mem_of_getElem? (i := 770) (by decide +kernel)⟩
def lw_privs_2 : List (MethodName × Nat) := [(⟨"DrawnTalks$Player", "firstThatCan", "()I"⟩, 10), (⟨"DrawnTalks$Player", "can", "(I)Z"⟩, 10), (⟨"DrawnTalks$Player", "act", "(I)V"⟩, 10), (⟨"DrawnTalks$Player", "post", "(II)V"⟩, 10), (⟨"DrawnTalks$Player", "goOn", "(I)V"⟩, 10), (⟨"DrawnTalks$Mixer", "choose", "(I)V"⟩, 4), (⟨"DrawnTalks$Mixer", "has", "(I)Z"⟩, 4), (⟨"DrawnTalks$Mixer", "firstLike", "(II)I"⟩, 4), (⟨"DrawnTalks$Mixer", "isFirst", "(I)Z"⟩, 4), (⟨"DrawnTalks$Mixer", "isSuch", "(II)Z"⟩, 4), (⟨"DrawnTalks$Mixer", "isOfOne", "(I)Z"⟩, 4), (⟨"DrawnTalks$Mixer", "isOf", "(II)Z"⟩, 4), (⟨"DrawnTalksModel", "readTalk", "()I"⟩, 35), (⟨"DrawnTalksModel", "beginTalk", "()V"⟩, 35), (⟨"DrawnTalksModel", "readToken", "()V"⟩, 35), (⟨"DrawnTalksModel", "readsEvent", "(Z)Z"⟩, 35)]
theorem lw_r2 : ∀ q ∈ lw_privs_2, lw_okq q := List.forall_mem_cons.mpr ⟨lw_p16, List.forall_mem_cons.mpr ⟨lw_p17, List.forall_mem_cons.mpr ⟨lw_p18, List.forall_mem_cons.mpr ⟨lw_p19, List.forall_mem_cons.mpr ⟨lw_p20, List.forall_mem_cons.mpr ⟨lw_p21, List.forall_mem_cons.mpr ⟨lw_p22, List.forall_mem_cons.mpr ⟨lw_p23, List.forall_mem_cons.mpr ⟨lw_p24, List.forall_mem_cons.mpr ⟨lw_p25, List.forall_mem_cons.mpr ⟨lw_p26, List.forall_mem_cons.mpr ⟨lw_p27, List.forall_mem_cons.mpr ⟨lw_p28, List.forall_mem_cons.mpr ⟨lw_p29, List.forall_mem_cons.mpr ⟨lw_p30, List.forall_mem_cons.mpr ⟨lw_p31, fun _ h => absurd h List.not_mem_nil⟩⟩⟩⟩⟩⟩⟩⟩⟩⟩⟩⟩⟩⟩⟩⟩
theorem lw_p32 : lw_okq (⟨"DrawnTalksModel", "openSend", "(III)I"⟩, 35) := ⟨⟨by decide +kernel, by decide +kernel⟩, List.mem_of_getElem? (i := 612) (by decide +kernel), List.mem_of_getElem? (i := 774) (by decide +kernel), List.mem_of_getElem? (i := 775) (by decide +kernel)⟩
theorem lw_p33 : lw_okq (⟨"DrawnTalksModel", "addEvent", "(ZIIII)V"⟩, 35) := ⟨⟨by decide +kernel, by decide +kernel⟩, List.mem_of_getElem? (i := 612) (by decide +kernel), List.mem_of_getElem? (i := 778) (by decide +kernel), List.mem_of_getElem? (i := 779) (by decide +kernel)⟩
theorem lw_p34 : lw_okq (⟨"DrawnTalksModel", "keep", "(I)I"⟩, 35) := ⟨⟨by decide +kernel, by decide +kernel⟩, List.mem_of_getElem? (i := 612) (by decide +kernel), List.mem_of_getElem? (i := 782) (by decide +kernel), List.mem_of_getElem? (i := 783) (by decide +kernel)⟩
theorem lw_p35 : lw_okq (⟨"DrawnTalksModel", "noEvent", "(II)Z"⟩, 35) := ⟨⟨by decide +kernel, by decide +kernel⟩, List.mem_of_getElem? (i := 612) (by decide +kernel), List.mem_of_getElem? (i := 795) (by decide +kernel), List.mem_of_getElem? (i := 796) (by decide +kernel)⟩
theorem lw_p36 : lw_okq (⟨"DrawnTalksModel", "layDrawn", "(I)V"⟩, 35) := ⟨⟨by decide +kernel, by decide +kernel⟩, List.mem_of_getElem? (i := 612) (by decide +kernel), List.mem_of_getElem? (i := 808) (by decide +kernel), List.mem_of_getElem? (i := 809) (by decide +kernel)⟩
theorem lw_p37 : lw_okq (⟨"DrawnTalksModel", "clearAhead", "()V"⟩, 35) := ⟨⟨by decide +kernel, by decide +kernel⟩, List.mem_of_getElem? (i := 612) (by decide +kernel), List.mem_of_getElem? (i := 812) (by decide +kernel), List.mem_of_getElem? (i := 813) (by decide +kernel)⟩
theorem lw_p38 : lw_okq (⟨"DrawnTalksModel", "layMates", "(I)V"⟩, 35) := ⟨⟨by decide +kernel, by decide +kernel⟩, List.mem_of_getElem? (i := 612) (by decide +kernel), List.mem_of_getElem? (i := 816) (by decide +kernel), List.mem_of_getElem? (i := 817) (by decide +kernel)⟩
theorem lw_p39 : lw_okq (⟨"DrawnTalksModel", "onOneLine", "(III)Z"⟩, 35) := ⟨⟨by decide +kernel, by decide +kernel⟩, List.mem_of_getElem? (i := 612) (by decide +kernel), List.mem_of_getElem? (i := 820) (by decide +kernel), List.mem_of_getElem? (i := 821) (by decide +kernel)⟩
theorem lw_p40 : lw_okq (⟨"DrawnTalksModel", "closeAhead", "(I)V"⟩, 35) := ⟨⟨by decide +kernel, by decide +kernel⟩, List.mem_of_getElem? (i := 612) (by decide +kernel), List.mem_of_getElem? (i := 824) (by decide +kernel), List.mem_of_getElem? (i := 825) (by decide +kernel)⟩
theorem lw_p41 : lw_okq (⟨"DrawnTalksModel", "layKept", "(II)V"⟩, 35) := ⟨⟨by decide +kernel, by decide +kernel⟩, List.mem_of_getElem? (i := 612) (by decide +kernel), List.mem_of_getElem? (i := 832) (by decide +kernel), List.mem_of_getElem? (i := 833) (by decide +kernel)⟩
theorem lw_p42 : lw_okq (⟨"DrawnTalksModel", "isKeptTake", "(IIII)Z"⟩, 35) := ⟨⟨by decide +kernel, by decide +kernel⟩, List.mem_of_getElem? (i := 612) (by decide +kernel), List.mem_of_getElem? (i := 836) (by decide +kernel), List.mem_of_getElem? (i := 837) (by decide +kernel)⟩
theorem lw_p43 : lw_okq (⟨"DrawnTalksModel", "layMoments", "(I)V"⟩, 35) := ⟨⟨by decide +kernel, by decide +kernel⟩, List.mem_of_getElem? (i := 612) (by decide +kernel), List.mem_of_getElem? (i := 848) (by decide +kernel), List.mem_of_getElem? (i := 849) (by decide +kernel)⟩
theorem lw_p44 : lw_okq (⟨"DrawnTalksModel", "underAt", "(I)I"⟩, 35) := ⟨⟨by decide +kernel, by decide +kernel⟩, List.mem_of_getElem? (i := 612) (by decide +kernel), List.mem_of_getElem? (i := 852) (by decide +kernel), List.mem_of_getElem? (i := 853) (by decide +kernel)⟩
theorem lw_p45 : lw_okq (⟨"DrawnTalksModel", "isDone", "(II)Z"⟩, 35) := ⟨⟨by decide +kernel, by decide +kernel⟩, List.mem_of_getElem? (i := 612) (by decide +kernel), List.mem_of_getElem? (i := 856) (by decide +kernel), List.mem_of_getElem? (i := 857) (by decide +kernel)⟩
theorem lw_p46 : lw_okq (⟨"DrawnTalksModel", "come", "(II)I"⟩, 35) := ⟨⟨by decide +kernel, by decide +kernel⟩, List.mem_of_getElem? (i := 612) (by decide +kernel), List.mem_of_getElem? (i := 860) (by decide +kernel), List.mem_of_getElem? (i := 861) (by decide +kernel)⟩
theorem lw_p47 : lw_okq (⟨"DrawnTalksModel", "layMoment", "(II)V"⟩, 35) := ⟨⟨by decide +kernel, by decide +kernel⟩, List.mem_of_getElem? (i := 612) (by decide +kernel), List.mem_of_getElem? (i := 864) (by decide +kernel), List.mem_of_getElem? (i := 865) (by decide +kernel)⟩
def lw_privs_3 : List (MethodName × Nat) := [(⟨"DrawnTalksModel", "openSend", "(III)I"⟩, 35), (⟨"DrawnTalksModel", "addEvent", "(ZIIII)V"⟩, 35), (⟨"DrawnTalksModel", "keep", "(I)I"⟩, 35), (⟨"DrawnTalksModel", "noEvent", "(II)Z"⟩, 35), (⟨"DrawnTalksModel", "layDrawn", "(I)V"⟩, 35), (⟨"DrawnTalksModel", "clearAhead", "()V"⟩, 35), (⟨"DrawnTalksModel", "layMates", "(I)V"⟩, 35), (⟨"DrawnTalksModel", "onOneLine", "(III)Z"⟩, 35), (⟨"DrawnTalksModel", "closeAhead", "(I)V"⟩, 35), (⟨"DrawnTalksModel", "layKept", "(II)V"⟩, 35), (⟨"DrawnTalksModel", "isKeptTake", "(IIII)Z"⟩, 35), (⟨"DrawnTalksModel", "layMoments", "(I)V"⟩, 35), (⟨"DrawnTalksModel", "underAt", "(I)I"⟩, 35), (⟨"DrawnTalksModel", "isDone", "(II)Z"⟩, 35), (⟨"DrawnTalksModel", "come", "(II)I"⟩, 35), (⟨"DrawnTalksModel", "layMoment", "(II)V"⟩, 35)]
theorem lw_r3 : ∀ q ∈ lw_privs_3, lw_okq q := List.forall_mem_cons.mpr ⟨lw_p32, List.forall_mem_cons.mpr ⟨lw_p33, List.forall_mem_cons.mpr ⟨lw_p34, List.forall_mem_cons.mpr ⟨lw_p35, List.forall_mem_cons.mpr ⟨lw_p36, List.forall_mem_cons.mpr ⟨lw_p37, List.forall_mem_cons.mpr ⟨lw_p38, List.forall_mem_cons.mpr ⟨lw_p39, List.forall_mem_cons.mpr ⟨lw_p40, List.forall_mem_cons.mpr ⟨lw_p41, List.forall_mem_cons.mpr ⟨lw_p42, List.forall_mem_cons.mpr ⟨lw_p43, List.forall_mem_cons.mpr ⟨lw_p44, List.forall_mem_cons.mpr ⟨lw_p45, List.forall_mem_cons.mpr ⟨lw_p46, List.forall_mem_cons.mpr ⟨lw_p47, fun _ h => absurd h List.not_mem_nil⟩⟩⟩⟩⟩⟩⟩⟩⟩⟩⟩⟩⟩⟩⟩⟩
theorem lw_p48 : lw_okq (⟨"DrawnTalksModel", "areAlike", "(II)Z"⟩, 35) := ⟨⟨by decide +kernel, by decide +kernel⟩, List.mem_of_getElem? (i := 612) (by decide +kernel), List.mem_of_getElem? (i := 880) (by decide +kernel), List.mem_of_getElem? (i := 881) (by decide +kernel)⟩
theorem lw_p49 : lw_okq (⟨"DrawnTalksModel", "isSameLine", "(III)Z"⟩, 35) := ⟨⟨by decide +kernel, by decide +kernel⟩, List.mem_of_getElem? (i := 612) (by decide +kernel), List.mem_of_getElem? (i := 884) (by decide +kernel), List.mem_of_getElem? (i := 885) (by decide +kernel)⟩
theorem lw_p50 : lw_okq (⟨"DrawnTalksModel", "addTalk", "(I)V"⟩, 35) := ⟨⟨by decide +kernel, by decide +kernel⟩, List.mem_of_getElem? (i := 612) (by decide +kernel), List.mem_of_getElem? (i := 892) (by decide +kernel), List.mem_of_getElem? (i := 893) (by decide +kernel)⟩
theorem lw_p51 : lw_okq (⟨"DrawnTalksModel", "plays", "(I)Z"⟩, 35) := ⟨⟨by decide +kernel, by decide +kernel⟩, List.mem_of_getElem? (i := 612) (by decide +kernel), List.mem_of_getElem? (i := 900) (by decide +kernel), List.mem_of_getElem? (i := 901) (by decide +kernel)⟩
theorem lw_p52 : lw_okq (⟨"DrawnTalksModel", "canDo", "(II)Z"⟩, 35) := ⟨⟨by decide +kernel, by decide +kernel⟩, List.mem_of_getElem? (i := 612) (by decide +kernel), List.mem_of_getElem? (i := 904) (by decide +kernel), List.mem_of_getElem? (i := 905) (by decide +kernel)⟩
theorem lw_p53 : lw_okq (⟨"DrawnTalksModel", "doNext", "(II)V"⟩, 35) := ⟨⟨by decide +kernel, by decide +kernel⟩, List.mem_of_getElem? (i := 612) (by decide +kernel), List.mem_of_getElem? (i := 911) (by decide +kernel), List.mem_of_getElem? (i := 912) (by decide +kernel)⟩
theorem lw_p54 : lw_okq (⟨"DrawnTalksModel", "isFirst", "(II)Z"⟩, 35) := ⟨⟨by decide +kernel, by decide +kernel⟩, List.mem_of_getElem? (i := 612) (by decide +kernel), List.mem_of_getElem? (i := 920) (by decide +kernel), List.mem_of_getElem? (i := 921) (by decide +kernel)⟩
theorem lw_p55 : lw_okq (⟨"DrawnTalksModel", "isOfOne", "(II)Z"⟩, 35) := ⟨⟨by decide +kernel, by decide +kernel⟩, List.mem_of_getElem? (i := 612) (by decide +kernel), List.mem_of_getElem? (i := 927) (by decide +kernel), List.mem_of_getElem? (i := 928) (by decide +kernel)⟩
def lw_privs_4 : List (MethodName × Nat) := [(⟨"DrawnTalksModel", "areAlike", "(II)Z"⟩, 35), (⟨"DrawnTalksModel", "isSameLine", "(III)Z"⟩, 35), (⟨"DrawnTalksModel", "addTalk", "(I)V"⟩, 35), (⟨"DrawnTalksModel", "plays", "(I)Z"⟩, 35), (⟨"DrawnTalksModel", "canDo", "(II)Z"⟩, 35), (⟨"DrawnTalksModel", "doNext", "(II)V"⟩, 35), (⟨"DrawnTalksModel", "isFirst", "(II)Z"⟩, 35), (⟨"DrawnTalksModel", "isOfOne", "(II)Z"⟩, 35)]
theorem lw_r4 : ∀ q ∈ lw_privs_4, lw_okq q := List.forall_mem_cons.mpr ⟨lw_p48, List.forall_mem_cons.mpr ⟨lw_p49, List.forall_mem_cons.mpr ⟨lw_p50, List.forall_mem_cons.mpr ⟨lw_p51, List.forall_mem_cons.mpr ⟨lw_p52, List.forall_mem_cons.mpr ⟨lw_p53, List.forall_mem_cons.mpr ⟨lw_p54, List.forall_mem_cons.mpr ⟨lw_p55, fun _ h => absurd h List.not_mem_nil⟩⟩⟩⟩⟩⟩⟩⟩
def lw_privs : List (MethodName × Nat) := lw_privs_1 ++ (lw_privs_2 ++ (lw_privs_3 ++ (lw_privs_4)))
def lw_tbl : List Cond := k2_sels lw_privs ++ tables_1
theorem lw_privs_ok : ∀ q ∈ lw_privs, lw_okq q := by
  show ∀ q ∈ lw_privs_1 ++ (lw_privs_2 ++ (lw_privs_3 ++ (lw_privs_4))), lw_okq q
  exact List.forall_mem_append.mpr ⟨lw_r1, List.forall_mem_append.mpr ⟨lw_r2, List.forall_mem_append.mpr ⟨lw_r3, lw_r4⟩⟩⟩
-- ===== end of PART A; then your names; then what follows =====
/-! ===== BEGIN words of one list among another's, by their places ===== -/
theorem goodIn_r {big : List Cond} (ws : List Cond) (ps : List Nat) (hp : ws = ps.filterMap (fun i => big[i]?)) (h : ws.all goodWord = true) : GoodIn big ws := by
  intro w hw
  have h1 := List.all_eq_true.mp h w hw
  rw [hp] at hw
  obtain ⟨i, -, hi⟩ := List.mem_filterMap.mp hw
  have hm : w ∈ big := by first | exact List.mem_of_getElem? hi | exact List.getElem?_mem hi
  exact ⟨hm, good_of_word h1⟩
theorem goodIn_app {big a b : List Cond} (ha : GoodIn big a) (hb : GoodIn big b) : GoodIn big (a ++ b) := fun w h => (List.mem_append.mp h).elim (ha w) (hb w)
theorem goodIn_ca {big a b : List Cond} {c : Cond} (ha : GoodIn big (c :: a)) (hb : GoodIn big b) : GoodIn big (c :: (a ++ b)) := fun w h => (List.mem_cons.mp h).elim (fun e => ha w (List.mem_cons.mpr (Or.inl e))) (fun h => (List.mem_append.mp h).elim (fun h => ha w (List.mem_cons.mpr (Or.inr h))) (hb w))
theorem goodIn_sub {big ws : List Cond} (hm : ∀ w ∈ ws, w ∈ big) (h : ws.all goodWord = true) : GoodIn big ws := fun w hw => ⟨hm w hw, good_of_word (List.all_eq_true.mp h w hw)⟩
/-! ===== END ===== -/

/-! ===== BEGIN printed: names, fields, word lists, decode rows ===== -/
def RX0 : String := "DrawnTalks$Lattice"
def TX0 : u_T := fun k => match k with
  | 0 => ("DrawnTalks$Lattice", "rows", "[J", true)
  | 1 => ("DrawnTalks$Lattice", "underWay", "[I", true)
  | 2 => ("DrawnTalks$Lattice", "leastTo", "[I", true)
  | 3 => ("DrawnTalks$Lattice", "step", "[I", true)
  | 4 => ("DrawnTalks$Lattice", "passed", "[I", true)
  | 5 => ("DrawnTalks$Lattice", "place", "[I", true)
  | 6 => ("DrawnTalks$Lattice", "rowsInAll", "J", false)
  | 7 => ("DrawnTalks$Lattice", "reached", "I", false)
  | 8 => ("DrawnTalks$Lattice", "most", "I", false)
  | _ => ("DrawnTalks$Lattice", "least", "I", false)
def tyX0 : Nat → FieldType := fun k => match k with
  | 0 => .array .long
  | 1 => .array .int
  | 2 => .array .int
  | 3 => .array .int
  | 4 => .array .int
  | 5 => .array .int
  | 6 => .long
  | 7 => .int
  | 8 => .int
  | _ => .int
abbrev wsX00 : List Cond := u_ws RX0 TX0 10
theorem nmX0 : ∀ a, a < 10 → ∀ b, b < 10 → a ≠ b → (TX0 a).2.1 ≠ (TX0 b).2.1 := by decide +kernel
theorem tyX0_ok : ∀ k, k < 10 → parseFieldDescriptor (TX0 k).2.2.1 = some (tyX0 k) := by decide +kernel
abbrev cX0_init : ByteArray := prog_2_method_1_code
def yX0_init : MethodName := ⟨RX0, "<init>", "()V"⟩
abbrev cX0_walk : ByteArray := prog_2_method_2_code
def yX0_walk : MethodName := ⟨RX0, "walk", "(LDrawnTalks$Talk;)V"⟩
abbrev cX0_prepare : ByteArray := prog_2_method_3_code
def yX0_prepare : MethodName := ⟨RX0, "prepare", "(LDrawnTalks$Talk;)I"⟩
abbrev cX0_visit : ByteArray := prog_2_method_4_code
def yX0_visit : MethodName := ⟨RX0, "visit", "(LDrawnTalks$Talk;II)V"⟩
abbrev cX0_mayHappen : ByteArray := prog_2_method_5_code
def yX0_mayHappen : MethodName := ⟨RX0, "mayHappen", "(LDrawnTalks$Talk;I)Z"⟩
abbrev cX0_goToNextCut : ByteArray := prog_2_method_6_code
def yX0_goToNextCut : MethodName := ⟨RX0, "goToNextCut", "(LDrawnTalks$Talk;)V"⟩
def RX1 : String := "DrawnTalks$Mixer"
def TX1 : u_T := fun k => match k with
  | 0 => ("DrawnTalks$Mixer", "talks", "[LDrawnTalks$Talk;", true)
  | 1 => ("DrawnTalks$Mixer", "player", "LDrawnTalks$Player;", true)
  | 2 => ("DrawnTalks$Mixer", "first", "[I", true)
  | _ => ("DrawnTalks$Mixer", "set", "I", false)
def tyX1 : Nat → FieldType := fun k => match k with
  | 0 => .array (.object "DrawnTalks$Talk")
  | 1 => .object "DrawnTalks$Player"
  | 2 => .array .int
  | _ => .int
abbrev wsX10 : List Cond := u_ws RX1 TX1 4
theorem nmX1 : ∀ a, a < 4 → ∀ b, b < 4 → a ≠ b → (TX1 a).2.1 ≠ (TX1 b).2.1 := by decide +kernel
theorem tyX1_ok : ∀ k, k < 4 → parseFieldDescriptor (TX1 k).2.2.1 = some (tyX1 k) := by decide +kernel
abbrev cX1_init : ByteArray := prog_3_method_1_code
def yX1_init : MethodName := ⟨RX1, "<init>", "([LDrawnTalks$Talk;LDrawnTalks$Player;)V"⟩
abbrev cX1_howMany : ByteArray := prog_3_method_2_code
def yX1_howMany : MethodName := ⟨RX1, "howMany", "(II)I"⟩
abbrev cX1_newAt : ByteArray := prog_3_method_3_code
def yX1_newAt : MethodName := ⟨RX1, "newAt", "(II)I"⟩
abbrev cX1_choose : ByteArray := prog_3_method_4_code
def yX1_choose : MethodName := ⟨RX1, "choose", "(I)V"⟩
abbrev cX1_has : ByteArray := prog_3_method_5_code
def yX1_has : MethodName := ⟨RX1, "has", "(I)Z"⟩
abbrev cX1_firstLike : ByteArray := prog_3_method_6_code
def yX1_firstLike : MethodName := ⟨RX1, "firstLike", "(II)I"⟩
abbrev cX1_isFirst : ByteArray := prog_3_method_7_code
def yX1_isFirst : MethodName := ⟨RX1, "isFirst", "(I)Z"⟩
abbrev cX1_isSuch : ByteArray := prog_3_method_8_code
def yX1_isSuch : MethodName := ⟨RX1, "isSuch", "(II)Z"⟩
abbrev cX1_isOfOne : ByteArray := prog_3_method_9_code
def yX1_isOfOne : MethodName := ⟨RX1, "isOfOne", "(I)Z"⟩
abbrev cX1_isOf : ByteArray := prog_3_method_10_code
def yX1_isOf : MethodName := ⟨RX1, "isOf", "(II)Z"⟩
def RX2 : String := "DrawnTalks$Player"
def TX2 : u_T := fun k => match k with
  | 0 => ("DrawnTalks$Player", "talks", "[LDrawnTalks$Talk;", true)
  | 1 => ("DrawnTalks$Player", "passed", "[I", true)
  | 2 => ("DrawnTalks$Player", "next", "[I", true)
  | 3 => ("DrawnTalks$Player", "names", "[I", true)
  | 4 => ("DrawnTalks$Player", "sent", "[I", true)
  | 5 => ("DrawnTalks$Player", "taken", "[I", true)
  | 6 => ("DrawnTalks$Player", "doer", "[I", true)
  | 7 => ("DrawnTalks$Player", "mix", "I", false)
  | 8 => ("DrawnTalks$Player", "done", "I", false)
  | _ => ("DrawnTalks$Player", "left", "I", false)
def tyX2 : Nat → FieldType := fun k => match k with
  | 0 => .array (.object "DrawnTalks$Talk")
  | 1 => .array .int
  | 2 => .array .int
  | 3 => .array .int
  | 4 => .array .int
  | 5 => .array .int
  | 6 => .array .int
  | 7 => .int
  | 8 => .int
  | _ => .int
abbrev wsX20 : List Cond := u_ws RX2 TX2 10
theorem nmX2 : ∀ a, a < 10 → ∀ b, b < 10 → a ≠ b → (TX2 a).2.1 ≠ (TX2 b).2.1 := by decide +kernel
theorem tyX2_ok : ∀ k, k < 10 → parseFieldDescriptor (TX2 k).2.2.1 = some (tyX2 k) := by decide +kernel
abbrev cX2_init : ByteArray := prog_4_method_1_code
def yX2_init : MethodName := ⟨RX2, "<init>", "([LDrawnTalks$Talk;)V"⟩
abbrev cX2_perform : ByteArray := prog_4_method_2_code
def yX2_perform : MethodName := ⟨RX2, "perform", "(I)V"⟩
abbrev cX2_ends : ByteArray := prog_4_method_3_code
def yX2_ends : MethodName := ⟨RX2, "ends", "()Z"⟩
abbrev cX2_copyInto : ByteArray := prog_4_method_4_code
def yX2_copyInto : MethodName := ⟨RX2, "copyInto", "(LDrawnTalks$Talk;)V"⟩
abbrev cX2_talkOf : ByteArray := prog_4_method_5_code
def yX2_talkOf : MethodName := ⟨RX2, "talkOf", "(I)LDrawnTalks$Talk;"⟩
abbrev cX2_goToStart : ByteArray := prog_4_method_6_code
def yX2_goToStart : MethodName := ⟨RX2, "goToStart", "()V"⟩
abbrev cX2_goOn : ByteArray := prog_4_method_7_code
def yX2_goOn : MethodName := ⟨RX2, "goOn", "(I)V"⟩
abbrev cX2_firstThatCan : ByteArray := prog_4_method_8_code
def yX2_firstThatCan : MethodName := ⟨RX2, "firstThatCan", "()I"⟩
abbrev cX2_can : ByteArray := prog_4_method_9_code
def yX2_can : MethodName := ⟨RX2, "can", "(I)Z"⟩
abbrev cX2_act : ByteArray := prog_4_method_10_code
def yX2_act : MethodName := ⟨RX2, "act", "(I)V"⟩
abbrev cX2_post : ByteArray := prog_4_method_11_code
def yX2_post : MethodName := ⟨RX2, "post", "(II)V"⟩
def RX3 : String := "DrawnTalks$Reader"
def TX3 : u_T := fun k => match k with
  | 0 => ("DrawnTalks$Reader", "text", "[I", true)
  | 1 => ("DrawnTalks$Reader", "length", "I", false)
  | 2 => ("DrawnTalks$Reader", "at", "I", false)
  | 3 => ("DrawnTalks$Reader", "start", "I", false)
  | 4 => ("DrawnTalks$Reader", "kind", "I", false)
  | _ => ("DrawnTalks$Reader", "value", "I", false)
def tyX3 : Nat → FieldType := fun k => match k with
  | 0 => .array .int
  | 1 => .int
  | 2 => .int
  | 3 => .int
  | 4 => .int
  | _ => .int
abbrev wsX30 : List Cond := u_ws RX3 TX3 6
theorem nmX3 : ∀ a, a < 6 → ∀ b, b < 6 → a ≠ b → (TX3 a).2.1 ≠ (TX3 b).2.1 := by decide +kernel
theorem tyX3_ok : ∀ k, k < 6 → parseFieldDescriptor (TX3 k).2.2.1 = some (tyX3 k) := by decide +kernel
abbrev cX3_init : ByteArray := prog_5_method_1_code
def yX3_init : MethodName := ⟨RX3, "<init>", "()V"⟩
abbrev cX3_append : ByteArray := prog_5_method_2_code
def yX3_append : MethodName := ⟨RX3, "append", "(I)V"⟩
abbrev cX3_readInto : ByteArray := prog_5_method_3_code
def yX3_readInto : MethodName := ⟨RX3, "readInto", "(LDrawnTalks$Talk;)I"⟩
abbrev cX3_readEvent : ByteArray := prog_5_method_4_code
def yX3_readEvent : MethodName := ⟨RX3, "readEvent", "(LDrawnTalks$Talk;)Z"⟩
abbrev cX3_nextIs : ByteArray := prog_5_method_5_code
def yX3_nextIs : MethodName := ⟨RX3, "nextIs", "(I)Z"⟩
abbrev cX3_readSign : ByteArray := prog_5_method_6_code
def yX3_readSign : MethodName := ⟨RX3, "readSign", "(I)V"⟩
abbrev cX3_readWord : ByteArray := prog_5_method_7_code
def yX3_readWord : MethodName := ⟨RX3, "readWord", "()V"⟩
abbrev cX3_wordIs : ByteArray := prog_5_method_8_code
def yX3_wordIs : MethodName := ⟨RX3, "wordIs", "(Ljava/lang/String;)Z"⟩
abbrev cX3_isSmallLetter : ByteArray := prog_5_method_9_code
def yX3_isSmallLetter : MethodName := ⟨RX3, "isSmallLetter", "(I)Z"⟩
def RX4 : String := "DrawnTalks$Relation"
def TX4 : u_T := fun k => match k with
  | _ => ("DrawnTalks$Relation", "ahead", "[I", true)
def tyX4 : Nat → FieldType := fun k => match k with
  | _ => .array .int
abbrev wsX40 : List Cond := u_ws RX4 TX4 1
theorem nmX4 : ∀ a, a < 1 → ∀ b, b < 1 → a ≠ b → (TX4 a).2.1 ≠ (TX4 b).2.1 := by decide +kernel
theorem tyX4_ok : ∀ k, k < 1 → parseFieldDescriptor (TX4 k).2.2.1 = some (tyX4 k) := by decide +kernel
abbrev cX4_init : ByteArray := prog_6_method_1_code
def yX4_init : MethodName := ⟨RX4, "<init>", "()V"⟩
abbrev cX4_workOut : ByteArray := prog_6_method_2_code
def yX4_workOut : MethodName := ⟨RX4, "workOut", "(LDrawnTalks$Talk;I)V"⟩
abbrev cX4_isAhead : ByteArray := prog_6_method_3_code
def yX4_isAhead : MethodName := ⟨RX4, "isAhead", "(II)Z"⟩
abbrev cX4_isDirect : ByteArray := prog_6_method_4_code
def yX4_isDirect : MethodName := ⟨RX4, "isDirect", "(LDrawnTalks$Talk;III)Z"⟩
abbrev cX4_isRace : ByteArray := prog_6_method_5_code
def yX4_isRace : MethodName := ⟨RX4, "isRace", "(LDrawnTalks$Talk;II)Z"⟩
abbrev cX4_howManyRaces : ByteArray := prog_6_method_6_code
def yX4_howManyRaces : MethodName := ⟨RX4, "howManyRaces", "(LDrawnTalks$Talk;)I"⟩
abbrev cX4_raceAt : ByteArray := prog_6_method_7_code
def yX4_raceAt : MethodName := ⟨RX4, "raceAt", "(LDrawnTalks$Talk;I)I"⟩
def RX5 : String := "DrawnTalks$Talk"
def TX5 : u_T := fun k => match k with
  | 0 => ("DrawnTalks$Talk", "isTake", "[Z", true)
  | 1 => ("DrawnTalks$Talk", "part", "[I", true)
  | 2 => ("DrawnTalks$Talk", "other", "[I", true)
  | 3 => ("DrawnTalks$Talk", "name", "[I", true)
  | 4 => ("DrawnTalks$Talk", "mate", "[I", true)
  | 5 => ("DrawnTalks$Talk", "lineSize", "[I", true)
  | 6 => ("DrawnTalks$Talk", "lineEvents", "[I", true)
  | 7 => ("DrawnTalks$Talk", "size", "I", false)
  | _ => ("DrawnTalks$Talk", "sends", "I", false)
def tyX5 : Nat → FieldType := fun k => match k with
  | 0 => .array .boolean
  | 1 => .array .int
  | 2 => .array .int
  | 3 => .array .int
  | 4 => .array .int
  | 5 => .array .int
  | 6 => .array .int
  | 7 => .int
  | _ => .int
abbrev wsX50 : List Cond := u_ws RX5 TX5 9
theorem nmX5 : ∀ a, a < 9 → ∀ b, b < 9 → a ≠ b → (TX5 a).2.1 ≠ (TX5 b).2.1 := by decide +kernel
theorem tyX5_ok : ∀ k, k < 9 → parseFieldDescriptor (TX5 k).2.2.1 = some (tyX5 k) := by decide +kernel
abbrev cX5_init : ByteArray := prog_7_method_1_code
def yX5_init : MethodName := ⟨RX5, "<init>", "()V"⟩
abbrev cX5_empty : ByteArray := prog_7_method_2_code
def yX5_empty : MethodName := ⟨RX5, "empty", "()V"⟩
abbrev cX5_isWhole : ByteArray := prog_7_method_3_code
def yX5_isWhole : MethodName := ⟨RX5, "isWhole", "()Z"⟩
abbrev cX5_onLine : ByteArray := prog_7_method_4_code
def yX5_onLine : MethodName := ⟨RX5, "onLine", "(II)I"⟩
abbrev cX5_partsWithEvents : ByteArray := prog_7_method_5_code
def yX5_partsWithEvents : MethodName := ⟨RX5, "partsWithEvents", "()I"⟩
abbrev cX5_firstWaiting : ByteArray := prog_7_method_6_code
def yX5_firstWaiting : MethodName := ⟨RX5, "firstWaiting", "(III)I"⟩
abbrev cX5_addSend : ByteArray := prog_7_method_7_code
def yX5_addSend : MethodName := ⟨RX5, "addSend", "(III)V"⟩
abbrev cX5_addTake : ByteArray := prog_7_method_8_code
def yX5_addTake : MethodName := ⟨RX5, "addTake", "(III)V"⟩
abbrev cX5_add : ByteArray := prog_7_method_9_code
def yX5_add : MethodName := ⟨RX5, "add", "(III)Z"⟩
abbrev cX5_addCopy : ByteArray := prog_7_method_10_code
def yX5_addCopy : MethodName := ⟨RX5, "addCopy", "(LDrawnTalks$Talk;I)V"⟩
abbrev cX5_addAll : ByteArray := prog_7_method_11_code
def yX5_addAll : MethodName := ⟨RX5, "addAll", "(LDrawnTalks$Talk;)V"⟩
abbrev cX5_hasSameLine : ByteArray := prog_7_method_12_code
def yX5_hasSameLine : MethodName := ⟨RX5, "hasSameLine", "(LDrawnTalks$Talk;I)Z"⟩
def RX6 : String := "DrawnTalks"
def TX6 : u_T := fun k => match k with
  | 0 => ("DrawnTalks", "talks", "[LDrawnTalks$Talk;", true)
  | 1 => ("DrawnTalks", "built", "LDrawnTalks$Talk;", true)
  | 2 => ("DrawnTalks", "reader", "LDrawnTalks$Reader;", true)
  | 3 => ("DrawnTalks", "relation", "LDrawnTalks$Relation;", true)
  | 4 => ("DrawnTalks", "lattice", "LDrawnTalks$Lattice;", true)
  | 5 => ("DrawnTalks", "player", "LDrawnTalks$Player;", true)
  | _ => ("DrawnTalks", "mixer", "LDrawnTalks$Mixer;", true)
def tyX6 : Nat → FieldType := fun k => match k with
  | 0 => .array (.object "DrawnTalks$Talk")
  | 1 => .object "DrawnTalks$Talk"
  | 2 => .object "DrawnTalks$Reader"
  | 3 => .object "DrawnTalks$Relation"
  | 4 => .object "DrawnTalks$Lattice"
  | 5 => .object "DrawnTalks$Player"
  | _ => .object "DrawnTalks$Mixer"
abbrev wsX60 : List Cond := u_ws RX6 TX6 7
theorem nmX6 : ∀ a, a < 7 → ∀ b, b < 7 → a ≠ b → (TX6 a).2.1 ≠ (TX6 b).2.1 := by decide +kernel
theorem tyX6_ok : ∀ k, k < 7 → parseFieldDescriptor (TX6 k).2.2.1 = some (tyX6 k) := by decide +kernel
abbrev cX6_init : ByteArray := prog_1_method_1_code
def yX6_init : MethodName := ⟨RX6, "<init>", "()V"⟩
abbrev cX6_type : ByteArray := prog_1_method_2_code
def yX6_type : MethodName := ⟨RX6, "type", "(JI)I"⟩
abbrev cX6_clear : ByteArray := prog_1_method_3_code
def yX6_clear : MethodName := ⟨RX6, "clear", "()I"⟩
abbrev cX6_talk : ByteArray := prog_1_method_4_code
def yX6_talk : MethodName := ⟨RX6, "talk", "(I)I"⟩
abbrev cX6_about : ByteArray := prog_1_method_5_code
def yX6_about : MethodName := ⟨RX6, "about", "(II)I"⟩
abbrev cX6_event : ByteArray := prog_1_method_6_code
def yX6_event : MethodName := ⟨RX6, "event", "(III)I"⟩
abbrev cX6_line : ByteArray := prog_1_method_7_code
def yX6_line : MethodName := ⟨RX6, "line", "(III)I"⟩
abbrev cX6_drawn : ByteArray := prog_1_method_8_code
def yX6_drawn : MethodName := ⟨RX6, "drawn", "(III)I"⟩
abbrev cX6_kept : ByteArray := prog_1_method_9_code
def yX6_kept : MethodName := ⟨RX6, "kept", "(IIII)I"⟩
abbrev cX6_race : ByteArray := prog_1_method_10_code
def yX6_race : MethodName := ⟨RX6, "race", "(III)I"⟩
abbrev cX6_orders : ByteArray := prog_1_method_11_code
def yX6_orders : MethodName := ⟨RX6, "orders", "(I)J"⟩
abbrev cX6_moments : ByteArray := prog_1_method_12_code
def yX6_moments : MethodName := ⟨RX6, "moments", "(I)I"⟩
abbrev cX6_under : ByteArray := prog_1_method_13_code
def yX6_under : MethodName := ⟨RX6, "under", "(II)I"⟩
abbrev cX6_alike : ByteArray := prog_1_method_14_code
def yX6_alike : MethodName := ⟨RX6, "alike", "(II)I"⟩
abbrev cX6_behind : ByteArray := prog_1_method_15_code
def yX6_behind : MethodName := ⟨RX6, "behind", "(III)I"⟩
abbrev cX6_play : ByteArray := prog_1_method_16_code
def yX6_play : MethodName := ⟨RX6, "play", "(II)I"⟩
abbrev cX6_mixes : ByteArray := prog_1_method_17_code
def yX6_mixes : MethodName := ⟨RX6, "mixes", "(II)I"⟩
abbrev cX6_fresh : ByteArray := prog_1_method_18_code
def yX6_fresh : MethodName := ⟨RX6, "fresh", "(II)I"⟩
abbrev cX6_take : ByteArray := prog_1_method_19_code
def yX6_take : MethodName := ⟨RX6, "take", "(II)I"⟩
abbrev cX6_count : ByteArray := prog_1_method_20_code
def yX6_count : MethodName := ⟨RX6, "count", "(I)I"⟩
abbrev cX6_keepBuilt : ByteArray := prog_1_method_21_code
def yX6_keepBuilt : MethodName := ⟨RX6, "keepBuilt", "(I)I"⟩
abbrev cX6_isEvent : ByteArray := prog_1_method_22_code
def yX6_isEvent : MethodName := ⟨RX6, "isEvent", "(II)Z"⟩
abbrev cX6_isTalk : ByteArray := prog_1_method_23_code
def yX6_isTalk : MethodName := ⟨RX6, "isTalk", "(I)Z"⟩
abbrev cX6_isPart : ByteArray := prog_1_method_24_code
def yX6_isPart : MethodName := ⟨RX6, "isPart", "(I)Z"⟩
abbrev cX6_isWay : ByteArray := prog_1_method_25_code
def yX6_isWay : MethodName := ⟨RX6, "isWay", "(I)Z"⟩
abbrev cX6_isMix : ByteArray := prog_1_method_26_code
def yX6_isMix : MethodName := ⟨RX6, "isMix", "(I)Z"⟩
abbrev cX6_isSet : ByteArray := prog_1_method_27_code
def yX6_isSet : MethodName := ⟨RX6, "isSet", "(I)Z"⟩
abbrev cX6_asNumber : ByteArray := prog_1_method_28_code
def yX6_asNumber : MethodName := ⟨RX6, "asNumber", "(Z)I"⟩
abbrev cX6_choice : ByteArray := prog_1_method_29_code
def yX6_choice : MethodName := ⟨RX6, "choice", "(II)I"⟩
def RX7 : String := "DrawnTalksModel"
def TX7 : u_T := fun k => match k with
  | 0 => ("DrawnTalksModel", "events", "[I", true)
  | 1 => ("DrawnTalksModel", "isTake", "[Z", true)
  | 2 => ("DrawnTalksModel", "partOf", "[I", true)
  | 3 => ("DrawnTalksModel", "otherOf", "[I", true)
  | 4 => ("DrawnTalksModel", "nameOf", "[I", true)
  | 5 => ("DrawnTalksModel", "mateOf", "[I", true)
  | 6 => ("DrawnTalksModel", "lineSize", "[I", true)
  | 7 => ("DrawnTalksModel", "lineAt", "[I", true)
  | 8 => ("DrawnTalksModel", "bytes", "I", false)
  | 9 => ("DrawnTalksModel", "text", "[I", true)
  | 10 => ("DrawnTalksModel", "newMany", "I", false)
  | 11 => ("DrawnTalksModel", "newSends", "I", false)
  | 12 => ("DrawnTalksModel", "newOpen", "I", false)
  | 13 => ("DrawnTalksModel", "newTake", "[Z", true)
  | 14 => ("DrawnTalksModel", "newPart", "[I", true)
  | 15 => ("DrawnTalksModel", "newOther", "[I", true)
  | 16 => ("DrawnTalksModel", "newName", "[I", true)
  | 17 => ("DrawnTalksModel", "newMate", "[I", true)
  | 18 => ("DrawnTalksModel", "readAt", "I", false)
  | 19 => ("DrawnTalksModel", "tokenAt", "I", false)
  | 20 => ("DrawnTalksModel", "token", "I", false)
  | 21 => ("DrawnTalksModel", "ahead", "[Z", true)
  | 22 => ("DrawnTalksModel", "stride", "[I", true)
  | 23 => ("DrawnTalksModel", "ordersFrom", "[J", true)
  | 24 => ("DrawnTalksModel", "leastFrom", "[I", true)
  | 25 => ("DrawnTalksModel", "manyMoments", "I", false)
  | 26 => ("DrawnTalksModel", "mostUnder", "I", false)
  | 27 => ("DrawnTalksModel", "momentsOf", "I", false)
  | 28 => ("DrawnTalksModel", "sentName", "[I", true)
  | 29 => ("DrawnTalksModel", "sent", "[I", true)
  | 30 => ("DrawnTalksModel", "taken", "[I", true)
  | 31 => ("DrawnTalksModel", "reached", "[I", true)
  | 32 => ("DrawnTalksModel", "doneMany", "I", false)
  | 33 => ("DrawnTalksModel", "doneSends", "I", false)
  | _ => ("DrawnTalksModel", "doneAt", "[I", true)
def tyX7 : Nat → FieldType := fun k => match k with
  | 0 => .array .int
  | 1 => .array .boolean
  | 2 => .array .int
  | 3 => .array .int
  | 4 => .array .int
  | 5 => .array .int
  | 6 => .array .int
  | 7 => .array .int
  | 8 => .int
  | 9 => .array .int
  | 10 => .int
  | 11 => .int
  | 12 => .int
  | 13 => .array .boolean
  | 14 => .array .int
  | 15 => .array .int
  | 16 => .array .int
  | 17 => .array .int
  | 18 => .int
  | 19 => .int
  | 20 => .int
  | 21 => .array .boolean
  | 22 => .array .int
  | 23 => .array .long
  | 24 => .array .int
  | 25 => .int
  | 26 => .int
  | 27 => .int
  | 28 => .array .int
  | 29 => .array .int
  | 30 => .array .int
  | 31 => .array .int
  | 32 => .int
  | 33 => .int
  | _ => .array .int
abbrev wsX70 : List Cond := u_ws RX7 TX7 35
theorem nmX7 : ∀ a, a < 35 → ∀ b, b < 35 → a ≠ b → (TX7 a).2.1 ≠ (TX7 b).2.1 := by decide +kernel
theorem tyX7_ok : ∀ k, k < 35 → parseFieldDescriptor (TX7 k).2.2.1 = some (tyX7 k) := by decide +kernel
abbrev cX7_init : ByteArray := prog_9_method_1_code
def yX7_init : MethodName := ⟨RX7, "<init>", "()V"⟩
abbrev cX7_in : ByteArray := prog_9_method_2_code
def yX7_in : MethodName := ⟨RX7, "in", "(JJJ)Z"⟩
abbrev cX7_hasBit : ByteArray := prog_9_method_3_code
def yX7_hasBit : MethodName := ⟨RX7, "hasBit", "(II)Z"⟩
abbrev cX7_noTalk : ByteArray := prog_9_method_4_code
def yX7_noTalk : MethodName := ⟨RX7, "noTalk", "(I)Z"⟩
abbrev cX7_type : ByteArray := prog_9_method_5_code
def yX7_type : MethodName := ⟨RX7, "type", "(JI)I"⟩
abbrev cX7_clear : ByteArray := prog_9_method_6_code
def yX7_clear : MethodName := ⟨RX7, "clear", "()I"⟩
abbrev cX7_wordBy : ByteArray := prog_9_method_7_code
def yX7_wordBy : MethodName := ⟨RX7, "wordBy", "(J)I"⟩
abbrev cX7_readToken : ByteArray := prog_9_method_8_code
def yX7_readToken : MethodName := ⟨RX7, "readToken", "()V"⟩
abbrev cX7_openSend : ByteArray := prog_9_method_9_code
def yX7_openSend : MethodName := ⟨RX7, "openSend", "(III)I"⟩
abbrev cX7_addEvent : ByteArray := prog_9_method_10_code
def yX7_addEvent : MethodName := ⟨RX7, "addEvent", "(ZIIII)V"⟩
abbrev cX7_beginTalk : ByteArray := prog_9_method_11_code
def yX7_beginTalk : MethodName := ⟨RX7, "beginTalk", "()V"⟩
abbrev cX7_readsEvent : ByteArray := prog_9_method_12_code
def yX7_readsEvent : MethodName := ⟨RX7, "readsEvent", "(Z)Z"⟩
abbrev cX7_readTalk : ByteArray := prog_9_method_13_code
def yX7_readTalk : MethodName := ⟨RX7, "readTalk", "()I"⟩
abbrev cX7_keep : ByteArray := prog_9_method_14_code
def yX7_keep : MethodName := ⟨RX7, "keep", "(I)I"⟩
abbrev cX7_talk : ByteArray := prog_9_method_15_code
def yX7_talk : MethodName := ⟨RX7, "talk", "(I)I"⟩
abbrev cX7_about : ByteArray := prog_9_method_16_code
def yX7_about : MethodName := ⟨RX7, "about", "(II)I"⟩
abbrev cX7_noEvent : ByteArray := prog_9_method_17_code
def yX7_noEvent : MethodName := ⟨RX7, "noEvent", "(II)Z"⟩
abbrev cX7_event : ByteArray := prog_9_method_18_code
def yX7_event : MethodName := ⟨RX7, "event", "(III)I"⟩
abbrev cX7_line : ByteArray := prog_9_method_19_code
def yX7_line : MethodName := ⟨RX7, "line", "(III)I"⟩
abbrev cX7_clearAhead : ByteArray := prog_9_method_20_code
def yX7_clearAhead : MethodName := ⟨RX7, "clearAhead", "()V"⟩
abbrev cX7_closeAhead : ByteArray := prog_9_method_21_code
def yX7_closeAhead : MethodName := ⟨RX7, "closeAhead", "(I)V"⟩
abbrev cX7_layMates : ByteArray := prog_9_method_22_code
def yX7_layMates : MethodName := ⟨RX7, "layMates", "(I)V"⟩
abbrev cX7_onOneLine : ByteArray := prog_9_method_23_code
def yX7_onOneLine : MethodName := ⟨RX7, "onOneLine", "(III)Z"⟩
abbrev cX7_layDrawn : ByteArray := prog_9_method_24_code
def yX7_layDrawn : MethodName := ⟨RX7, "layDrawn", "(I)V"⟩
abbrev cX7_isKeptTake : ByteArray := prog_9_method_25_code
def yX7_isKeptTake : MethodName := ⟨RX7, "isKeptTake", "(IIII)Z"⟩
abbrev cX7_layKept : ByteArray := prog_9_method_26_code
def yX7_layKept : MethodName := ⟨RX7, "layKept", "(II)V"⟩
abbrev cX7_drawn : ByteArray := prog_9_method_27_code
def yX7_drawn : MethodName := ⟨RX7, "drawn", "(III)I"⟩
abbrev cX7_kept : ByteArray := prog_9_method_28_code
def yX7_kept : MethodName := ⟨RX7, "kept", "(IIII)I"⟩
abbrev cX7_race : ByteArray := prog_9_method_29_code
def yX7_race : MethodName := ⟨RX7, "race", "(III)I"⟩
abbrev cX7_come : ByteArray := prog_9_method_30_code
def yX7_come : MethodName := ⟨RX7, "come", "(II)I"⟩
abbrev cX7_underAt : ByteArray := prog_9_method_31_code
def yX7_underAt : MethodName := ⟨RX7, "underAt", "(I)I"⟩
abbrev cX7_isDone : ByteArray := prog_9_method_32_code
def yX7_isDone : MethodName := ⟨RX7, "isDone", "(II)Z"⟩
abbrev cX7_layMoments : ByteArray := prog_9_method_33_code
def yX7_layMoments : MethodName := ⟨RX7, "layMoments", "(I)V"⟩
abbrev cX7_layMoment : ByteArray := prog_9_method_34_code
def yX7_layMoment : MethodName := ⟨RX7, "layMoment", "(II)V"⟩
abbrev cX7_orders : ByteArray := prog_9_method_35_code
def yX7_orders : MethodName := ⟨RX7, "orders", "(I)J"⟩
abbrev cX7_moments : ByteArray := prog_9_method_36_code
def yX7_moments : MethodName := ⟨RX7, "moments", "(I)I"⟩
abbrev cX7_under : ByteArray := prog_9_method_37_code
def yX7_under : MethodName := ⟨RX7, "under", "(II)I"⟩
abbrev cX7_isSameLine : ByteArray := prog_9_method_38_code
def yX7_isSameLine : MethodName := ⟨RX7, "isSameLine", "(III)Z"⟩
abbrev cX7_areAlike : ByteArray := prog_9_method_39_code
def yX7_areAlike : MethodName := ⟨RX7, "areAlike", "(II)Z"⟩
abbrev cX7_alike : ByteArray := prog_9_method_40_code
def yX7_alike : MethodName := ⟨RX7, "alike", "(II)I"⟩
abbrev cX7_addTalk : ByteArray := prog_9_method_41_code
def yX7_addTalk : MethodName := ⟨RX7, "addTalk", "(I)V"⟩
abbrev cX7_behind : ByteArray := prog_9_method_42_code
def yX7_behind : MethodName := ⟨RX7, "behind", "(III)I"⟩
abbrev cX7_talkOf : ByteArray := prog_9_method_43_code
def yX7_talkOf : MethodName := ⟨RX7, "talkOf", "(II)I"⟩
abbrev cX7_canDo : ByteArray := prog_9_method_44_code
def yX7_canDo : MethodName := ⟨RX7, "canDo", "(II)Z"⟩
abbrev cX7_doNext : ByteArray := prog_9_method_45_code
def yX7_doNext : MethodName := ⟨RX7, "doNext", "(II)V"⟩
abbrev cX7_plays : ByteArray := prog_9_method_46_code
def yX7_plays : MethodName := ⟨RX7, "plays", "(I)Z"⟩
abbrev cX7_play : ByteArray := prog_9_method_47_code
def yX7_play : MethodName := ⟨RX7, "play", "(II)I"⟩
abbrev cX7_isFirst : ByteArray := prog_9_method_48_code
def yX7_isFirst : MethodName := ⟨RX7, "isFirst", "(II)Z"⟩
abbrev cX7_isOfOne : ByteArray := prog_9_method_49_code
def yX7_isOfOne : MethodName := ⟨RX7, "isOfOne", "(II)Z"⟩
abbrev cX7_mixes : ByteArray := prog_9_method_50_code
def yX7_mixes : MethodName := ⟨RX7, "mixes", "(II)I"⟩
abbrev cX7_fresh : ByteArray := prog_9_method_51_code
def yX7_fresh : MethodName := ⟨RX7, "fresh", "(II)I"⟩
abbrev cX7_take : ByteArray := prog_9_method_52_code
def yX7_take : MethodName := ⟨RX7, "take", "(II)I"⟩
abbrev cX7_count : ByteArray := prog_9_method_53_code
def yX7_count : MethodName := ⟨RX7, "count", "(I)I"⟩
def RJ9 : String := "java/lang/Math"
def TJ9 : u_T := fun k => match k with
  | _ => ("", "", "", false)
def tyJ9 : Nat → FieldType := fun k => match k with
  | _ => .int
abbrev wsJ90 : List Cond := u_ws RJ9 TJ9 0
theorem nmJ9 : ∀ a, a < 0 → ∀ b, b < 0 → a ≠ b → (TJ9 a).2.1 ≠ (TJ9 b).2.1 := by decide +kernel
theorem tyJ9_ok : ∀ k, k < 0 → parseFieldDescriptor (TJ9 k).2.2.1 = some (tyJ9 k) := by decide +kernel
abbrev cJ9_max_7cf53 : ByteArray := prog_10_method_65_code
def yJ9_max_7cf53 : MethodName := ⟨RJ9, "max", "(II)I"⟩
abbrev cJ9_min_7cf53 : ByteArray := prog_10_method_69_code
def yJ9_min_7cf53 : MethodName := ⟨RJ9, "min", "(II)I"⟩
def RJ0 : String := "java/lang/String"
def TJ0 : u_T := fun k => match k with
  | _ => ("", "", "", false)
def tyJ0 : Nat → FieldType := fun k => match k with
  | _ => .int
abbrev wsJ00 : List Cond := u_ws RJ0 TJ0 0
theorem nmJ0 : ∀ a, a < 0 → ∀ b, b < 0 → a ≠ b → (TJ0 a).2.1 ≠ (TJ0 b).2.1 := by decide +kernel
theorem tyJ0_ok : ∀ k, k < 0 → parseFieldDescriptor (TJ0 k).2.2.1 = some (tyJ0 k) := by decide +kernel
abbrev cJ0_length_8abf5 : ByteArray := prog_11_method_54_code
def yJ0_length_8abf5 : MethodName := ⟨RJ0, "length", "()I"⟩
abbrev cJ0_charAt_5068e : ByteArray := prog_11_method_56_code
def yJ0_charAt_5068e : MethodName := ⟨RJ0, "charAt", "(I)C"⟩
abbrev cJ0_coder_7d493 : ByteArray := prog_11_method_152_code
def yJ0_coder_7d493 : MethodName := ⟨RJ0, "coder", "()B"⟩
abbrev cJ0_isLatin1_aae02 : ByteArray := prog_11_method_154_code
def yJ0_isLatin1_aae02 : MethodName := ⟨RJ0, "isLatin1", "()Z"⟩
abbrev cJ0_checkIndex_df160 : ByteArray := prog_11_method_155_code
def yJ0_checkIndex_df160 : MethodName := ⟨RJ0, "checkIndex", "(II)V"⟩
def RJ1 : String := "java/lang/StringLatin1"
def TJ1 : u_T := fun k => match k with
  | _ => ("", "", "", false)
def tyJ1 : Nat → FieldType := fun k => match k with
  | _ => .int
abbrev wsJ10 : List Cond := u_ws RJ1 TJ1 0
theorem nmJ1 : ∀ a, a < 0 → ∀ b, b < 0 → a ≠ b → (TJ1 a).2.1 ≠ (TJ1 b).2.1 := by decide +kernel
theorem tyJ1_ok : ∀ k, k < 0 → parseFieldDescriptor (TJ1 k).2.2.1 = some (tyJ1 k) := by decide +kernel
abbrev cJ1_charAt_3b067 : ByteArray := prog_12_method_2_code
def yJ1_charAt_3b067 : MethodName := ⟨RJ1, "charAt", "([BI)C"⟩
def RJ2 : String := "java/lang/StringUTF16"
def TJ2 : u_T := fun k => match k with
  | _ => ("", "", "", false)
def tyJ2 : Nat → FieldType := fun k => match k with
  | _ => .int
abbrev wsJ20 : List Cond := u_ws RJ2 TJ2 0
theorem nmJ2 : ∀ a, a < 0 → ∀ b, b < 0 → a ≠ b → (TJ2 a).2.1 ≠ (TJ2 b).2.1 := by decide +kernel
theorem tyJ2_ok : ∀ k, k < 0 → parseFieldDescriptor (TJ2 k).2.2.1 = some (tyJ2 k) := by decide +kernel
abbrev cJ2_getChar_3b067 : ByteArray := prog_13_method_5_code
def yJ2_getChar_3b067 : MethodName := ⟨RJ2, "getChar", "([BI)C"⟩
abbrev cJ2_length_9d52b : ByteArray := prog_13_method_6_code
def yJ2_length_9d52b : MethodName := ⟨RJ2, "length", "([B)I"⟩
abbrev cJ2_charAt_3b067 : ByteArray := prog_13_method_83_code
def yJ2_charAt_3b067 : MethodName := ⟨RJ2, "charAt", "([BI)C"⟩
abbrev cJ2_checkIndex_2214a : ByteArray := prog_13_method_91_code
def yJ2_checkIndex_2214a : MethodName := ⟨RJ2, "checkIndex", "(I[B)V"⟩
def RJ3 : String := "jdk/internal/util/Preconditions"
def TJ3 : u_T := fun k => match k with
  | _ => ("", "", "", false)
def tyJ3 : Nat → FieldType := fun k => match k with
  | _ => .int
abbrev wsJ30 : List Cond := u_ws RJ3 TJ3 0
theorem nmJ3 : ∀ a, a < 0 → ∀ b, b < 0 → a ≠ b → (TJ3 a).2.1 ≠ (TJ3 b).2.1 := by decide +kernel
theorem tyJ3_ok : ∀ k, k < 0 → parseFieldDescriptor (TJ3 k).2.2.1 = some (tyJ3 k) := by decide +kernel
abbrev cJ3_checkIndex_8e157 : ByteArray := prog_14_method_11_code
def yJ3_checkIndex_8e157 : MethodName := ⟨RJ3, "checkIndex", "(IILjava/util/function/BiFunction;)I"⟩
def RL : String := "DrawnTalksLaw"
abbrev cL_law : ByteArray := code
def yL_law : MethodName := ⟨RL, "law", "([I)Z"⟩
abbrev vwCl : List vw_C := [(RX0, TX0, 10), (RX1, TX1, 4), (RX2, TX2, 10), (RX3, TX3, 6), (RX4, TX4, 1), (RX5, TX5, 9), (RX6, TX6, 7), (RX7, TX7, 35)]
/-! words of the tables, a row each: wq_<list>_<place> -/
theorem wq_l1 {w : Cond} : w ∈ tables_1_1 → w ∈ lw_tbl := fun h => List.mem_append_right _ (List.mem_append_left _ h)
theorem wq_l2 {w : Cond} : w ∈ tables_1_2 → w ∈ lw_tbl := fun h => List.mem_append_right _ (List.mem_append_right _ (List.mem_append_left _ h))
theorem wq_l3 {w : Cond} : w ∈ tables_1_3 → w ∈ lw_tbl := fun h => List.mem_append_right _ (List.mem_append_right _ (List.mem_append_right _ (List.mem_append_left _ h)))
theorem wq_l4 {w : Cond} : w ∈ tables_1_4 → w ∈ lw_tbl := fun h => List.mem_append_right _ (List.mem_append_right _ (List.mem_append_right _ (List.mem_append_right _ h)))
end
section
/-! ===== THE ABSTRACT MACHINE: values and memory in whole numbers, cells by their places ===== -/
/-- a value: an int, a long, or a reference (kind of cell, size, place) -/
abbrev dt_V : Type := Int ⊕ (Int ⊕ (Nat × Nat × Nat))
/-- the memory: ints and longs, by place and slot -/
abbrev dt_M : Type := (Nat → Nat → Int) × (Nat → Nat → Int)
/-- a method: its name, code, locals, answer -/
abbrev dt_Y : Type := MethodName × ByteArray × Nat × Option FieldType
abbrev dt_L : Type := List (Option dt_V)
abbrev dt_K : Type := Nat → dt_L → List dt_V → dt_M → Prop
abbrev dt_T : Type := Nat → (Option dt_V → dt_M → Prop) → dt_K → dt_K
def dt_r (x : Int) : Prop := -2147483648 ≤ x ∧ x ≤ 2147483647
def dt_rL (x : Int) : Prop := -9223372036854775808 ≤ x ∧ x ≤ 9223372036854775807
/-- kinds: 0 int[], 1 boolean[], 2 long[], 3 Talk[], 4 + class number: an object; 50: a text constant -/
def dt_lay : List (Nat × Nat) := [(10, 7), (3, 4),
  (9, 9), (1, 20), (0, 20), (0, 20), (0, 20), (0, 20), (0, 4), (0, 40),
  (9, 9), (1, 20), (0, 20), (0, 20), (0, 20), (0, 20), (0, 4), (0, 40),
  (9, 9), (1, 20), (0, 20), (0, 20), (0, 20), (0, 20), (0, 4), (0, 40),
  (9, 9), (1, 20), (0, 20), (0, 20), (0, 20), (0, 20), (0, 4), (0, 40),
  (9, 9), (1, 20), (0, 20), (0, 20), (0, 20), (0, 20), (0, 4), (0, 40),
  (7, 6), (0, 300), (8, 1), (0, 20),
  (4, 10), (2, 1296), (0, 1296), (0, 1296), (0, 4), (0, 4), (0, 20),
  (6, 10), (0, 4), (0, 4), (0, 160), (0, 16), (0, 16), (0, 40),
  (5, 4), (0, 16),
  (11, 35), (0, 4), (1, 80), (0, 80), (0, 80), (0, 80), (0, 80), (0, 16), (0, 320), (0, 300), (1, 20), (0, 20), (0, 20), (0, 20), (0, 20), (1, 400), (0, 5), (2, 1296), (0, 1296), (0, 320), (0, 16), (0, 16), (0, 4), (0, 80),
  (50, 4), (50, 4)]
def dt_kd (k : Nat) : Nat × Nat := dt_lay.getD k (99, 0)
/-- the fields of each class: 0 an int, 1 a long, 2 a reference to a place, 3 a reference to a place behind its own -/
def dt_ft : List (List (Nat × Nat × Nat × Nat)) := [
  [(2, 2, 1296, 47), (2, 0, 1296, 48), (2, 0, 1296, 49), (2, 0, 4, 50), (2, 0, 4, 51), (2, 0, 20, 52), (1, 0, 0, 0), (0, 0, 0, 0), (0, 0, 0, 0), (0, 0, 0, 0)],
  [(2, 3, 4, 1), (2, 6, 10, 53), (2, 0, 16, 61), (0, 0, 0, 0)],
  [(2, 3, 4, 1), (2, 0, 4, 54), (2, 0, 4, 55), (2, 0, 160, 56), (2, 0, 16, 57), (2, 0, 16, 58), (2, 0, 40, 59), (0, 0, 0, 0), (0, 0, 0, 0), (0, 0, 0, 0)],
  [(2, 0, 300, 43), (0, 0, 0, 0), (0, 0, 0, 0), (0, 0, 0, 0), (0, 0, 0, 0), (0, 0, 0, 0)],
  [(2, 0, 20, 45)],
  [(3, 1, 20, 1), (3, 0, 20, 2), (3, 0, 20, 3), (3, 0, 20, 4), (3, 0, 20, 5), (3, 0, 4, 6), (3, 0, 40, 7), (0, 0, 0, 0), (0, 0, 0, 0)],
  [(2, 3, 4, 1), (2, 9, 9, 34), (2, 7, 6, 42), (2, 8, 1, 44), (2, 4, 10, 46), (2, 6, 10, 53), (2, 5, 4, 60)],
  [(2, 0, 4, 63), (2, 1, 80, 64), (2, 0, 80, 65), (2, 0, 80, 66), (2, 0, 80, 67), (2, 0, 80, 68), (2, 0, 16, 69), (2, 0, 320, 70), (0, 0, 0, 0), (2, 0, 300, 71), (0, 0, 0, 0), (0, 0, 0, 0), (0, 0, 0, 0), (2, 1, 20, 72), (2, 0, 20, 73), (2, 0, 20, 74), (2, 0, 20, 75), (2, 0, 20, 76), (0, 0, 0, 0), (0, 0, 0, 0), (0, 0, 0, 0), (2, 1, 400, 77), (2, 0, 5, 78), (2, 2, 1296, 79), (2, 0, 1296, 80), (0, 0, 0, 0), (0, 0, 0, 0), (0, 0, 0, 0), (2, 0, 320, 81), (2, 0, 16, 82), (2, 0, 16, 83), (2, 0, 4, 84), (0, 0, 0, 0), (0, 0, 0, 0), (2, 0, 80, 85)]]
def dt_fd (ci j : Nat) : Nat × Nat × Nat × Nat := (dt_ft.getD ci []).getD j (0, 0, 0, 0)
def dt_gf (ci j k : Nat) (M : dt_M) : dt_V := match dt_fd ci j with
  | (0, _, _, _) => .inl (M.1 k j)
  | (1, _, _, _) => .inr (.inl (M.2 k j))
  | (2, t, n, q) => .inr (.inr (t, n, q))
  | (_, t, n, q) => .inr (.inr (t, n, k + q))
def dt_okv (v : dt_V) : Prop := match v with
  | .inl x => dt_r x
  | .inr (.inl x) => dt_rL x
  | .inr (.inr q) => dt_kd q.2.2 = (q.1, q.2.1)
def dt_cv (ad : Nat → Nat) (v : dt_V) : Value := match v with
  | .inl x => .int (Int32.ofInt x)
  | .inr (.inl x) => .long (Int64.ofInt x)
  | .inr (.inr q) => .ref (ad q.2.2)
def dt_up {α : Type} (f : Nat → α) (k : Nat) (v : α) : Nat → α := fun a => if a = k then v else f a
def dt_wi (M : dt_M) (k j : Nat) (x : Int) : dt_M := (dt_up M.1 k (dt_up (M.1 k) j x), M.2)
def dt_wl (M : dt_M) (k j : Nat) (x : Int) : dt_M := (M.1, dt_up M.2 k (dt_up (M.2 k) j x))
def dt_RM (M : dt_M) : Prop := (∀ k j, dt_r (M.1 k j)) ∧ ∀ k j, dt_rL (M.2 k j)
def dt_ok (lv : dt_L) (st : List dt_V) (M : dt_M) : Prop := (∀ v, some v ∈ lv → dt_okv v) ∧ (∀ v ∈ st, dt_okv v) ∧ dt_RM M
/-- the world of cells -/
def dt_wc (M : dt_M) (ad : Nat → Nat) (cA : Nat → ClassId) (k : Nat) : va_E :=
  if (dt_kd k).1 = 0 then .inl (cA 0, (dt_kd k).2, .inl (fun j => Int32.ofInt (M.1 k j)))
  else if (dt_kd k).1 = 1 then .inl (cA 1, (dt_kd k).2, .inl (fun j => Int32.ofInt (M.1 k j)))
  else if (dt_kd k).1 = 2 then .inl (cA 2, (dt_kd k).2, .inr (.inl (fun j => Int64.ofInt (M.2 k j))))
  else if (dt_kd k).1 = 3 then .inl (cA 3, (dt_kd k).2, .inr (.inr (.inr (.inr (fun j => some (ad (2 + 8 * j)))))))
  else .inr ((dt_kd k).1 - 4, (List.range (dt_kd k).2).map (fun j => dt_cv ad (dt_gf ((dt_kd k).1 - 4) j k M)))
def dt_wd (M : dt_M) (ad : Nat → Nat) (cA : Nat → ClassId) : va_W := (List.range 86).map (fun k => (ad k, dt_wc M ad cA k))
def dt_tys (cA : Nat → ClassId) : List (ClassId × FieldType) := [(cA 0, .int), (cA 1, .boolean), (cA 2, .long), (cA 3, .object "DrawnTalks$Talk")]
def dt_W (D : va_G) (ad : Nat → Nat) (cA : Nat → ClassId) (A : Nat → Prop) (s : State) (H : Heap) (locs : List Loc) (M : dt_M) : Prop :=
  va_P D vwCl (dt_wd M ad cA) H ∧ va_D A (dt_wd M ad cA) ∧ va_S A s.heap H locs
def dt_A (ad : Nat → Nat) : Nat → Prop := fun q => ∃ k, k < 86 ∧ q = ad k
/-- the locals -/
def dt_H (ad : Nat → Nat) (ls : Array Slot) (nL : Nat) (lv : dt_L) : Prop := ls.size = nL ∧ lv_wf ls ∧ ∀ (i : Nat) (v : dt_V), lv[i]? = some (some v) → ls[i]? = some (Slot.val (dt_cv ad v))
/-- the words that every method has -/
def dt_W0 : List Cond := lw_tbl.filter goodWord
def dt_nst : Cond → Bool
  | .fieldLinkNest _ _ _ _ _ _ => true
  | .methodLinkNest _ _ _ _ => true
  | _ => false
def dt_NW : List Cond := lw_tbl.filter dt_nst
theorem dt_in {w : Cond} (h : w ∈ lw_tbl) (g : goodWord w = true) : w ∈ dt_W0 := List.mem_filter.mpr ⟨h, g⟩
theorem dt_inN {w : Cond} (h : w ∈ lw_tbl) (g : dt_nst w = true) : w ∈ dt_NW := List.mem_filter.mpr ⟨h, g⟩
/-- the text constants, and the statics that the texts' methods read -/
def dt_SF (ad : Nat → Nat) (A : Nat → Prop) (U : State) (H : Heap) : Prop :=
  (∃ adV : Nat → Nat, vk_S 2 [4, 4] [[115, 101, 110, 100], [116, 97, 107, 101]] (fun i => ad (86 + i)) adV A U H) ∧
  va_Z "java/lang/String" "COMPACT_STRINGS" "Z" (.int 1) A U H ∧
  va_Zq "jdk/internal/util/Preconditions" "SIOOBE_FORMATTER" "Ljava/util/function/BiFunction;" A U H ∧
  vk_R "DrawnTalks$Reader" 72 "send" (ad 86) U ∧ vk_R "DrawnTalks$Reader" 78 "take" (ad 87) U
/-- what an answer must be -/
def dt_okr (rt : Option FieldType) (r : Option dt_V) : Prop := match rt, r with
  | none, none => True
  | some .int, some (.inl x) => dt_r x
  | some .boolean, some (.inl x) => x = 0 ∨ x = 1
  | some .long, some (.inr (.inl x)) => dt_rL x
  | some (.object _), some (.inr (.inr q)) => dt_kd q.2.2 = (q.1, q.2.1)
  | _, _ => False
def dt_ri (r : Option dt_V) (cc : ByteArray) (pc : Nat) : Prop := match r with
  | none => decode cc pc = .ok (.return_, 1)
  | some (.inl _) => decode cc pc = .ok (.ireturn, 1)
  | some (.inr (.inl _)) => decode cc pc = .ok (.lreturn, 1)
  | some (.inr (.inr _)) => decode cc pc = .ok (.areturn, 1)
/-- where a method's walk stands -/
def dt_C (y : dt_Y) (d : Nat) (Q : Option dt_V → dt_M → Prop) (p : Program) (l : Launch) (e : Env) (R : Room) (s : State) (m : MethodId) (args : Array Value) (below : List Frame) (meth : Method) (c : Code) (cells slots : Nat) (Qf : State → Prop) (D : va_G) (ad : Nat → Nat) (cA : Nat → ClassId) (A : Nat → Prop) : Prop :=
  p.tables.exec = Jvm.exec ∧ c.code = y.2.1 ∧ c.maxLocals = y.2.2.1 ∧ s.vm.findClass y.1.cls = some m.cls ∧ (∀ w ∈ dt_W0, w.before args s = true) ∧ va_K D vwCl (dt_tys cA) s ∧ (∀ w ∈ dt_NW, va_Nw w s) ∧
  (d ≤ R.frames ∧ 39 * d ≤ R.locals ∧ cells ≤ R.cells ∧ slots ≤ R.slots) ∧ dt_SF ad A s s.heap ∧
  ∀ (H : Heap) (locs : List Loc) (M : dt_M) (r : Option dt_V) (pc : Nat) (ls : Array Slot), dt_W D ad cA A s H locs M → dt_RM M → dt_okr y.2.2.2 r → Q r M → dt_ri r y.2.1 pc →
    W p l e R s m args below meth c H locs cells slots Qf (F0 m pc ls (r.toList.map (dt_cv ad)))
/-- THE JUDGEMENT: from here the method comes to its end with Q -/
def dt_J (y : dt_Y) (d : Nat) (Q : Option dt_V → dt_M → Prop) : dt_K := fun pc lv st M =>
  dt_ok lv st M → ∀ (p : Program) (l : Launch) (e : Env) (R : Room) (s : State) (m : MethodId) (args : Array Value) (below : List Frame) (meth : Method) (c : Code) (cells slots : Nat) (Qf : State → Prop) (D : va_G) (ad : Nat → Nat) (cA : Nat → ClassId) (A : Nat → Prop),
    dt_C y d Q p l e R s m args below meth c cells slots Qf D ad cA A → ∀ (H : Heap) (locs : List Loc) (ls : Array Slot), dt_W D ad cA A s H locs M → dt_H ad ls y.2.2.1 lv →
      W p l e R s m args below meth c H locs cells slots Qf (F0 m pc ls (st.map (dt_cv ad)))
/-- a step's meaning is right -/
def dt_S (y : dt_Y) (tr : dt_T) (pc : Nat) : Prop := ∀ (d : Nat) (Q : Option dt_V → dt_M → Prop) (K : dt_K), (∀ pc lv st M, K pc lv st M → dt_J y d Q pc lv st M) → ∀ (lv : dt_L) (st : List dt_V) (M : dt_M), tr d Q K pc lv st M → dt_J y d Q pc lv st M
/-- a call of a method: from this memory, with these arguments, it comes back with Φ -/
def dt_room (d : Nat) : Room := { frames := d, cells := 0, slots := 0, locals := 39 * d }
def dt_Pc (D : va_G) (ad : Nat → Nat) (cA : Nat → ClassId) (av : List dt_V) (M : dt_M) : Array Value → State → Prop := fun v U =>
  v = (av.map (dt_cv ad)).toArray ∧ (∀ x ∈ av, dt_okv x) ∧ dt_RM M ∧ va_P D vwCl (dt_wd M ad cA) U.heap ∧ va_D (dt_A ad) (dt_wd M ad cA) ∧ va_K D vwCl (dt_tys cA) U ∧ (∀ w ∈ dt_NW, va_Nw w U) ∧ dt_SF ad (dt_A ad) U U.heap
def dt_Qc (D : va_G) (ad : Nat → Nat) (cA : Nat → ClassId) (rt : Option FieldType) (Φ : Option dt_V → dt_M → Prop) : Array Value → State → Outcome → State → Prop := fun _ st oc t =>
  (∃ (r : Option dt_V) (M : dt_M), oc = .returned (r.map (dt_cv ad)) ∧ Φ r M ∧ dt_okr rt r ∧ dt_RM M ∧ va_P D vwCl (dt_wd M ad cA) t.heap) ∧ va_F (dt_A ad) st t
def dt_Sp (y : dt_Y) (d : Nat) (av : List dt_V) (M : dt_M) (Φ : Option dt_V → dt_M → Prop) : Prop :=
  ∀ (l : Launch) (D : va_G) (ad : Nat → Nat) (cA : Nat → ClassId), Met l y.1 (Cond.code y.1 y.2.1 y.2.2.1 y.2.2.2 :: dt_W0) (dt_room d) (dt_Pc D ad cA av M) (dt_Qc D ad cA y.2.2.2 Φ) 0 0 (dt_A ad)
end
section
/-! ===== numbers ===== -/
theorem dn_ti {x : Int} (h : dt_r x) : (Int32.ofInt x).toInt = x := Int32.toInt_ofInt_of_le (by have := h.1; omega) (by have := h.2; omega)
theorem dn_tl {x : Int} (h : dt_rL x) : (Int64.ofInt x).toInt = x := Int64.toInt_ofInt_of_le (by have := h.1; omega) (by have := h.2; omega)
theorem dn_ri (x : Int32) : dt_r x.toInt := ⟨by have := Int32.le_toInt x; omega, by have := Int32.toInt_lt x; omega⟩
theorem dn_rl (x : Int64) : dt_rL x.toInt := ⟨by have := Int64.le_toInt x; omega, by have := Int64.toInt_lt x; omega⟩
theorem dn_lt {x y : Int} (hx : dt_r x) (hy : dt_r y) : Int32.ofInt x < Int32.ofInt y ↔ x < y := by rw [Int32.lt_iff_toInt_lt, dn_ti hx, dn_ti hy]
theorem dn_le {x y : Int} (hx : dt_r x) (hy : dt_r y) : Int32.ofInt x ≤ Int32.ofInt y ↔ x ≤ y := by rw [Int32.le_iff_toInt_le, dn_ti hx, dn_ti hy]
theorem dn_eq {x y : Int} (hx : dt_r x) (hy : dt_r y) : Int32.ofInt x = Int32.ofInt y ↔ x = y := by rw [← Int32.toInt_inj, dn_ti hx, dn_ti hy]
theorem dn_0 : (0 : Int32) = Int32.ofInt 0 := rfl
theorem dn_r0 : dt_r 0 := ⟨by decide, by decide⟩
theorem dn_eq0 {x : Int} (hx : dt_r x) : Int32.ofInt x = 0 ↔ x = 0 := by rw [dn_0]; exact dn_eq hx dn_r0
theorem dn_lt0 {x : Int} (hx : dt_r x) : Int32.ofInt x < 0 ↔ x < 0 := by rw [dn_0]; exact dn_lt hx dn_r0
theorem dn_le0 {x : Int} (hx : dt_r x) : Int32.ofInt x ≤ 0 ↔ x ≤ 0 := by rw [dn_0]; exact dn_le hx dn_r0
theorem dn_0lt {x : Int} (hx : dt_r x) : 0 < Int32.ofInt x ↔ 0 < x := by rw [dn_0]; exact dn_lt dn_r0 hx
theorem dn_0le {x : Int} (hx : dt_r x) : 0 ≤ Int32.ofInt x ↔ 0 ≤ x := by rw [dn_0]; exact dn_le dn_r0 hx
theorem dn_cl {x : Int} (hx : dt_r x) : (Int32.ofInt x).toNatClampNeg = x.toNat := by
  show (Int32.ofInt x).toInt.toNat = x.toNat
  rw [dn_ti hx]
theorem dn_in {x : Int} {n : Nat} (hx : dt_r x) (h0 : 0 ≤ x) (hn : x < (n : Int)) : vp_in (Int32.ofInt x) n := by
  unfold vp_in
  rw [dn_lt0 hx, dn_cl hx]
  omega
theorem dn_i2l {x : Int} (hx : dt_r x) : (Int32.ofInt x).toInt64 = Int64.ofInt x := by
  apply Int64.toInt_inj.mp
  rw [Int32.toInt_toInt64, dn_ti hx, dn_tl ⟨by have := hx.1; omega, by have := hx.2; omega⟩]
def dt_cmp (x y : Int) : Int := if y < x then 1 else if x = y then 0 else -1
theorem dn_cmp {x y : Int} (hx : dt_rL x) (hy : dt_rL y) : lg_cmp (Int64.ofInt x) (Int64.ofInt y) = Int32.ofInt (dt_cmp x y) := by
  unfold lg_cmp dt_cmp
  simp only [gt_iff_lt, Int64.lt_iff_toInt_lt, ← Int64.toInt_inj, dn_tl hx, dn_tl hy]
  split
  · rfl
  · split <;> rfl
theorem dn_rcmp (x y : Int) : dt_r (dt_cmp x y) := by unfold dt_cmp; split; exact ⟨by decide, by decide⟩; split <;> exact ⟨by decide, by decide⟩
def dt_and (x y : Int) : Int := (Int32.ofInt x &&& Int32.ofInt y).toInt
def dt_or (x y : Int) : Int := (Int32.ofInt x ||| Int32.ofInt y).toInt
def dt_shl (x y : Int) : Int := (Int32.ofInt x <<< (Int32.ofInt y &&& 31)).toInt
def dt_shr (x y : Int) : Int := (Int32.ofInt x >>> (Int32.ofInt y &&& 31)).toInt
def dt_div (x y : Int) : Int := (Int32.ofInt x / Int32.ofInt y).toInt
def dt_rem (x y : Int) : Int := (Int32.ofInt x - Int32.ofInt x / Int32.ofInt y * Int32.ofInt y).toInt
def dt_l2i (x : Int) : Int := (Int64.ofInt x).toInt32.toInt
def dt_andL (x y : Int) : Int := (Int64.ofInt x &&& Int64.ofInt y).toInt
def dt_orL (x y : Int) : Int := (Int64.ofInt x ||| Int64.ofInt y).toInt
def dt_shlL (x y : Int) : Int := (Int64.ofInt x <<< ((Int32.ofInt y).toInt64 &&& 63)).toInt
def dt_shrL (x y : Int) : Int := (Int64.ofInt x >>> ((Int32.ofInt y).toInt64 &&& 63)).toInt
def dt_ushrL (x y : Int) : Int := ((Int64.ofInt x).toUInt64 >>> ((Int32.ofInt y).toInt64.toUInt64 &&& Int64.toUInt64 63)).toInt64.toInt
/-! ===== the world ===== -/
theorem dw_at {M : dt_M} {ad : Nat → Nat} {cA : Nat → ClassId} {k : Nat} (hk : k < 86) : (dt_wd M ad cA)[k]? = some (ad k, dt_wc M ad cA k) := by
  simp [dt_wd, hk]
theorem dw_gfc {M M' : dt_M} {k : Nat} (ci j : Nat) (h1 : M'.1 k = M.1 k) (h2 : M'.2 k = M.2 k) : dt_gf ci j k M' = dt_gf ci j k M := by
  unfold dt_gf
  rw [h1, h2]
theorem dw_cong {M M' : dt_M} {ad : Nat → Nat} {cA : Nat → ClassId} {k : Nat} (h1 : M'.1 k = M.1 k) (h2 : M'.2 k = M.2 k) : dt_wc M' ad cA k = dt_wc M ad cA k := by
  unfold dt_wc
  rw [h1, h2]
  simp only [dw_gfc _ _ h1 h2]
theorem dw_set {M M' : dt_M} {ad : Nat → Nat} {cA : Nat → ClassId} {k : Nat} {e : va_E} (hk : k < 86) (he : dt_wc M' ad cA k = e) (h : ∀ j, j ≠ k → M'.1 j = M.1 j ∧ M'.2 j = M.2 j) : (dt_wd M ad cA).set k (ad k, e) = dt_wd M' ad cA := by
  subst he
  apply List.ext_getElem?
  intro j
  by_cases hj : j < 86
  · rw [dw_at hj]
    by_cases hjk : j = k
    · subst hjk
      rw [List.getElem?_set_self (by simp [dt_wd, hj])]
    · rw [List.getElem?_set_ne (Ne.symm hjk), dw_at hj, dw_cong (h j hjk).1 (h j hjk).2]
  · rw [List.getElem?_eq_none (by simp [dt_wd]; omega), List.getElem?_eq_none (by simp [dt_wd]; omega)]
theorem dk_88 : ∀ k, k < 88 → 86 ≤ k → ¬ (dt_kd k).1 < 50 := by decide +kernel
theorem dk_lt {k t n : Nat} (h : dt_kd k = (t, n)) (ht : t < 50) : k < 86 := by
  rcases Nat.lt_or_ge k 86 with q | q
  · exact q
  · exfalso
    rcases Nat.lt_or_ge k 88 with q2 | q2
    · exact dk_88 k q2 q (by rw [h]; exact ht)
    · have h2 : dt_kd k = (99, 0) := by
        unfold dt_kd
        rw [List.getD_eq_getElem?_getD, List.getElem?_eq_none (show dt_lay.length ≤ k from q2)]
        rfl
      rw [h2] at h
      cases h
      omega
theorem dk_35 : ∀ k, k < 86 → 4 ≤ (dt_kd k).1 → (dt_kd k).2 ≤ 35 := by decide +kernel
def dt_cf1 (k : Nat) (q : Nat × Nat × Nat × Nat) : Bool := (!(q.1 == 2) || (dt_kd q.2.2.2 == (q.2.1, q.2.2.1))) && (!(Nat.ble 3 q.1) || (dt_kd (k + q.2.2.2) == (q.2.1, q.2.2.1)))
def dt_cf2 (k : Nat) : Bool := !(Nat.ble 4 (dt_kd k).1) || (List.range (dt_kd k).2).all (fun j => dt_cf1 k (dt_fd ((dt_kd k).1 - 4) j))
theorem dk_cf : (List.range 86).all dt_cf2 = true := by decide +kernel
theorem dk_fd0 (k : Nat) (hk : k < 86) (j : Nat) (_ : j < 35) (h : 4 ≤ (dt_kd k).1 ∧ j < (dt_kd k).2) : ((dt_fd ((dt_kd k).1 - 4) j).1 = 2 → dt_kd (dt_fd ((dt_kd k).1 - 4) j).2.2.2 = ((dt_fd ((dt_kd k).1 - 4) j).2.1, (dt_fd ((dt_kd k).1 - 4) j).2.2.1)) ∧ (3 ≤ (dt_fd ((dt_kd k).1 - 4) j).1 → dt_kd (k + (dt_fd ((dt_kd k).1 - 4) j).2.2.2) = ((dt_fd ((dt_kd k).1 - 4) j).2.1, (dt_fd ((dt_kd k).1 - 4) j).2.2.1)) := by
  have h1 := List.all_eq_true.mp dk_cf k (List.mem_range.mpr hk)
  have h4 : Nat.ble 4 (dt_kd k).1 = true := Nat.ble_eq.mpr h.1
  unfold dt_cf2 at h1
  rw [h4, Bool.not_true, Bool.false_or] at h1
  have h2 := List.all_eq_true.mp h1 j (List.mem_range.mpr h.2)
  generalize dt_fd ((dt_kd k).1 - 4) j = q at h2 ⊢
  unfold dt_cf1 at h2
  rw [Bool.and_eq_true, Bool.or_eq_true, Bool.or_eq_true] at h2
  refine ⟨fun e => ?_, fun e => ?_⟩
  · rcases h2.1 with a | a
    · rw [e] at a; cases a
    · exact eq_of_beq a
  · rcases h2.2 with a | a
    · rw [Nat.ble_eq.mpr e] at a; cases a
    · exact eq_of_beq a
theorem dk_fd (k : Nat) (hk : k < 86) (h4 : 4 ≤ (dt_kd k).1) (j : Nat) (hj : j < (dt_kd k).2) : ((dt_fd ((dt_kd k).1 - 4) j).1 = 2 → dt_kd (dt_fd ((dt_kd k).1 - 4) j).2.2.2 = ((dt_fd ((dt_kd k).1 - 4) j).2.1, (dt_fd ((dt_kd k).1 - 4) j).2.2.1)) ∧ (3 ≤ (dt_fd ((dt_kd k).1 - 4) j).1 → dt_kd (k + (dt_fd ((dt_kd k).1 - 4) j).2.2.2) = ((dt_fd ((dt_kd k).1 - 4) j).2.1, (dt_fd ((dt_kd k).1 - 4) j).2.2.1)) := dk_fd0 k hk j (Nat.lt_of_lt_of_le hj (dk_35 k hk h4)) ⟨h4, hj⟩
theorem dk_gf {ci j k N : Nat} {M : dt_M} (hM : dt_RM M) (hk : dt_kd k = (ci + 4, N)) (hc : ci < 46) (hj : j < N) : dt_okv (dt_gf ci j k M) := by
  have hl : k < 86 := dk_lt hk (by omega)
  have h := dk_fd k hl (by rw [hk]; omega) j (by rw [hk]; exact hj)
  rw [hk, show ci + 4 - 4 = ci by omega] at h
  unfold dt_gf
  obtain ⟨a, b, c, d, hq⟩ : ∃ a b c d, dt_fd ci j = (a, b, c, d) := ⟨_, _, _, _, rfl⟩
  rw [hq] at h ⊢
  match a, h with
  | 0, h => exact hM.1 k j
  | 1, h => exact hM.2 k j
  | 2, h => exact h.1 rfl
  | a + 3, h => exact h.2 (by simp)
theorem dw_obj {M : dt_M} {ad : Nat → Nat} {cA : Nat → ClassId} {ci k N : Nat} (hk : dt_kd k = (ci + 4, N)) : dt_wc M ad cA k = .inr (ci, (List.range N).map (fun j => dt_cv ad (dt_gf ci j k M))) := by
  unfold dt_wc
  rw [hk]
  simp only
  rw [if_neg (by omega), if_neg (by omega), if_neg (by omega), if_neg (by omega), show ci + 4 - 4 = ci by omega]
theorem dw_int {M : dt_M} {ad : Nat → Nat} {cA : Nat → ClassId} {k n : Nat} (hk : dt_kd k = (0, n)) : dt_wc M ad cA k = .inl (cA 0, n, .inl (fun j => Int32.ofInt (M.1 k j))) := by
  unfold dt_wc
  rw [hk]
  rfl
theorem dw_bool {M : dt_M} {ad : Nat → Nat} {cA : Nat → ClassId} {k n : Nat} (hk : dt_kd k = (1, n)) : dt_wc M ad cA k = .inl (cA 1, n, .inl (fun j => Int32.ofInt (M.1 k j))) := by
  unfold dt_wc
  rw [hk]
  rfl
theorem dw_long {M : dt_M} {ad : Nat → Nat} {cA : Nat → ClassId} {k n : Nat} (hk : dt_kd k = (2, n)) : dt_wc M ad cA k = .inl (cA 2, n, .inr (.inl (fun j => Int64.ofInt (M.2 k j)))) := by
  unfold dt_wc
  rw [hk]
  rfl
theorem dw_refs {M : dt_M} {ad : Nat → Nat} {cA : Nat → ClassId} {k n : Nat} (hk : dt_kd k = (3, n)) : dt_wc M ad cA k = .inl (cA 3, n, .inr (.inr (.inr (.inr (fun j => some (ad (2 + 8 * j))))))) := by
  unfold dt_wc
  rw [hk]
  rfl
theorem dm_wi1 {M : dt_M} {k j : Nat} {x : Int} : (dt_wi M k j x).1 k = dt_up (M.1 k) j x := by simp [dt_wi, dt_up]
theorem dm_wi2 {M : dt_M} {k j a : Nat} {x : Int} (h : a ≠ k) : (dt_wi M k j x).1 a = M.1 a := by simp [dt_wi, dt_up, h]
theorem dm_wi3 {M : dt_M} {k j : Nat} {x : Int} : (dt_wi M k j x).2 = M.2 := rfl
theorem dm_wl1 {M : dt_M} {k j : Nat} {x : Int} : (dt_wl M k j x).2 k = dt_up (M.2 k) j x := by simp [dt_wl, dt_up]
theorem dm_wl2 {M : dt_M} {k j a : Nat} {x : Int} (h : a ≠ k) : (dt_wl M k j x).2 a = M.2 a := by simp [dt_wl, dt_up, h]
theorem dm_wl3 {M : dt_M} {k j : Nat} {x : Int} : (dt_wl M k j x).1 = M.1 := rfl
theorem dm_up1 {α : Type} {f : Nat → α} {k : Nat} {v : α} : dt_up f k v k = v := by simp [dt_up]
theorem dm_up2 {α : Type} {f : Nat → α} {k a : Nat} {v : α} (h : a ≠ k) : dt_up f k v a = f a := by simp [dt_up, h]
theorem dm_rwi {M : dt_M} {k j : Nat} {x : Int} (h : dt_RM M) (hx : dt_r x) : dt_RM (dt_wi M k j x) := by
  refine ⟨fun a b => ?_, h.2⟩
  by_cases ha : a = k
  · subst ha
    rw [dm_wi1]
    by_cases hb : b = j
    · subst hb; rw [dm_up1]; exact hx
    · rw [dm_up2 hb]; exact h.1 a b
  · rw [dm_wi2 ha]; exact h.1 a b
theorem dm_rwl {M : dt_M} {k j : Nat} {x : Int} (h : dt_RM M) (hx : dt_rL x) : dt_RM (dt_wl M k j x) := by
  refine ⟨h.1, fun a b => ?_⟩
  by_cases ha : a = k
  · subst ha
    rw [dm_wl1]
    by_cases hb : b = j
    · subst hb; rw [dm_up1]; exact hx
    · rw [dm_up2 hb]; exact h.2 a b
  · rw [dm_wl2 ha]; exact h.2 a b
/-! ===== the locals ===== -/
def dt_as (ad : Nat → Nat) (lv : dt_L) : List (Nat × Value) := (List.range lv.length).filterMap (fun i => match lv[i]? with
  | some (some v) => some (i, dt_cv ad v)
  | _ => none)
theorem dl_mem {ad : Nat → Nat} {lv : dt_L} {i : Nat} {v : dt_V} (h : lv[i]? = some (some v)) : (i, dt_cv ad v) ∈ dt_as ad lv := by
  refine List.mem_filterMap.mpr ⟨i, List.mem_range.mpr (List.getElem?_eq_some_iff.mp h).1, ?_⟩
  rw [h]
theorem dl_of {ad : Nat → Nat} {lv : dt_L} {q : Nat × Value} (h : q ∈ dt_as ad lv) : ∃ v, lv[q.1]? = some (some v) ∧ q.2 = dt_cv ad v := by
  obtain ⟨i, -, hi⟩ := List.mem_filterMap.mp h
  split at hi
  · next v hv => cases hi; exact ⟨v, hv, rfl⟩
  · cases hi
theorem dl_has {ad : Nat → Nat} {ls : Array Slot} {nL : Nat} {lv : dt_L} (h : dt_H ad ls nL lv) : lv_has ls nL (dt_as ad lv) := by
  refine ⟨h.1, h.2.1, fun q hq => ?_⟩
  obtain ⟨v, h1, h2⟩ := dl_of hq
  rw [h.2.2 _ _ h1, h2]
def dt_set1 (lv : dt_L) (i : Nat) (v : dt_V) : dt_L := (match lv.getD (i - 1) none with
  | some (.inr (.inl _)) => lv.set (i - 1) none
  | _ => lv).set i (some v)
def dt_set2 (lv : dt_L) (i : Nat) (v : dt_V) : dt_L := ((match lv.getD (i - 1) none with
  | some (.inr (.inl _)) => lv.set (i - 1) none
  | _ => lv).set i (some v)).set (i + 1) none
theorem dl_pre {lv : dt_L} {i j : Nat} {v : dt_V} (h : (match lv.getD (i - 1) none with
  | some (.inr (.inl _)) => lv.set (i - 1) none
  | _ => lv)[j]? = some (some v)) : lv[j]? = some (some v) ∧ ¬ (j + 1 = i ∧ ∃ x, v = .inr (.inl x)) := by
  split at h
  · next x hx =>
    by_cases hj : j = i - 1
    · subst hj
      by_cases hl : i - 1 < lv.length
      · rw [List.getElem?_set_self hl] at h; cases h
      · rw [List.getElem?_eq_none (by simp; omega)] at h; cases h
    · rw [List.getElem?_set_ne (Ne.symm hj)] at h
      exact ⟨h, fun ⟨a, _⟩ => hj (by omega)⟩
  · next hx =>
    refine ⟨h, fun ⟨a, x, b⟩ => ?_⟩
    subst b
    have : j = i - 1 := by omega
    subst this
    rw [List.getD_eq_getElem?_getD, h] at hx
    exact hx _ rfl
theorem dl_cat {ad : Nat → Nat} {v : dt_V} (h : (dt_cv ad v).category = 2) : ∃ x, v = .inr (.inl x) := by
  match v, h with
  | .inl x, h => cases h
  | .inr (.inl x), _ => exact ⟨x, rfl⟩
  | .inr (.inr q), h => cases h
theorem dl_set1 {ad : Nat → Nat} {ls ls' : Array Slot} {nL i : Nat} {lv : dt_L} {v : dt_V} (h : lv_has ls' nL ((i, dt_cv ad v) :: (dt_as ad lv).filter (fun q => !(q.1 == i) && !(q.1 + 1 == i && q.2.category == 2)))) : dt_H ad ls' nL (dt_set1 lv i v) := by
  refine ⟨h.1, h.2.1, fun j w hj => ?_⟩
  by_cases hji : j = i
  · subst hji
    have hw : w = v := by
      by_cases hl : j < (dt_set1 lv j v).length
      · rw [show (dt_set1 lv j v) = List.set _ j (some v) from rfl, List.getElem?_set_self (by simpa [dt_set1] using hl)] at hj
        cases hj; rfl
      · rw [List.getElem?_eq_none (by omega)] at hj; cases hj
    subst hw
    exact h.2.2 (j, dt_cv ad w) List.mem_cons_self
  · rw [show (dt_set1 lv i v) = List.set _ i (some v) from rfl, List.getElem?_set_ne (Ne.symm hji)] at hj
    obtain ⟨h1, h2⟩ := dl_pre hj
    refine h.2.2 (j, dt_cv ad w) (List.mem_cons_of_mem _ (List.mem_filter.mpr ⟨dl_mem h1, ?_⟩))
    simp only [Bool.and_eq_true, Bool.not_eq_true', beq_eq_false_iff_ne, ne_eq, Bool.and_eq_false_iff]
    refine ⟨hji, ?_⟩
    by_cases ha : j + 1 = i
    · right
      intro hc
      exact h2 ⟨ha, dl_cat hc⟩
    · left; exact ha
theorem dl_set2 {ad : Nat → Nat} {ls ls' : Array Slot} {nL i : Nat} {lv : dt_L} {v : dt_V} (h : lv_has ls' nL ((i, dt_cv ad v) :: (dt_as ad lv).filter (fun q => !(q.1 == i) && (!(q.1 == i + 1) && !(q.1 + 1 == i && q.2.category == 2))))) : dt_H ad ls' nL (dt_set2 lv i v) := by
  refine ⟨h.1, h.2.1, fun j w hj => ?_⟩
  have hj1 : j ≠ i + 1 := by
    intro e
    subst e
    by_cases hl : i + 1 < (dt_set2 lv i v).length
    · rw [show (dt_set2 lv i v) = List.set _ (i + 1) none from rfl, List.getElem?_set_self (by simpa [dt_set2] using hl)] at hj
      cases hj
    · rw [List.getElem?_eq_none (by omega)] at hj; cases hj
  rw [show (dt_set2 lv i v) = List.set _ (i + 1) none from rfl, List.getElem?_set_ne (Ne.symm hj1)] at hj
  by_cases hji : j = i
  · subst hji
    have hw : w = v := by
      have hl := (List.getElem?_eq_some_iff.mp hj).1
      rw [List.getElem?_set_self (by simpa using hl)] at hj
      cases hj; rfl
    subst hw
    exact h.2.2 (j, dt_cv ad w) List.mem_cons_self
  · rw [List.getElem?_set_ne (Ne.symm hji)] at hj
    obtain ⟨h1, h2⟩ := dl_pre hj
    refine h.2.2 (j, dt_cv ad w) (List.mem_cons_of_mem _ (List.mem_filter.mpr ⟨dl_mem h1, ?_⟩))
    simp only [Bool.and_eq_true, Bool.not_eq_true', beq_eq_false_iff_ne, ne_eq, Bool.and_eq_false_iff]
    refine ⟨hji, hj1, ?_⟩
    by_cases ha : j + 1 = i
    · right
      intro hc
      exact h2 ⟨ha, dl_cat hc⟩
    · left; exact ha
theorem dl_ok1 {lv : dt_L} {i : Nat} {v : dt_V} (h : ∀ v, some v ∈ lv → dt_okv v) (hv : dt_okv v) : ∀ w, some w ∈ dt_set1 lv i v → dt_okv w := by
  intro w hw
  obtain ⟨j, hj⟩ := List.getElem?_of_mem hw
  by_cases hji : j = i
  · subst hji
    have hl := (List.getElem?_eq_some_iff.mp hj).1
    rw [show (dt_set1 lv j v) = List.set _ j (some v) from rfl, List.getElem?_set_self (by simpa [dt_set1] using hl)] at hj
    cases hj; exact hv
  · rw [show (dt_set1 lv i v) = List.set _ i (some v) from rfl, List.getElem?_set_ne (Ne.symm hji)] at hj
    exact h w (List.mem_of_getElem? (dl_pre hj).1)
theorem dl_ok2 {lv : dt_L} {i : Nat} {v : dt_V} (h : ∀ v, some v ∈ lv → dt_okv v) (hv : dt_okv v) : ∀ w, some w ∈ dt_set2 lv i v → dt_okv w := by
  intro w hw
  obtain ⟨j, hj⟩ := List.getElem?_of_mem hw
  have hj1 : j ≠ i + 1 := by
    intro e
    subst e
    have hl := (List.getElem?_eq_some_iff.mp hj).1
    rw [show (dt_set2 lv i v) = List.set _ (i + 1) none from rfl, List.getElem?_set_self (by simpa [dt_set2] using hl)] at hj
    cases hj
  rw [show (dt_set2 lv i v) = List.set _ (i + 1) none from rfl, List.getElem?_set_ne (Ne.symm hj1)] at hj
  by_cases hji : j = i
  · subst hji
    have hl := (List.getElem?_eq_some_iff.mp hj).1
    rw [List.getElem?_set_self (by simpa using hl)] at hj
    cases hj; exact hv
  · rw [List.getElem?_set_ne (Ne.symm hji)] at hj
    exact h w (List.mem_of_getElem? (dl_pre hj).1)
end
section
/-! ===== the steps: what an instruction means, and that it is right ===== -/
theorem ds_c {v : dt_V} {r : List dt_V} (h : dt_okv v) (hr : ∀ v ∈ r, dt_okv v) : ∀ w ∈ v :: r, dt_okv w := fun w hw => (List.mem_cons.mp hw).elim (fun e => e ▸ h) (hr w)
theorem ds_t {v : dt_V} {r : List dt_V} (h : ∀ w ∈ v :: r, dt_okv w) : ∀ w ∈ r, dt_okv w := fun w hw => h w (List.mem_cons_of_mem _ hw)
theorem ds_h {v : dt_V} {r : List dt_V} (h : ∀ w ∈ v :: r, dt_okv w) : dt_okv v := h v List.mem_cons_self
def tc_no : dt_T := fun _ _ _ _ _ _ _ => False
theorem sn_no {y : dt_Y} {pc : Nat} : dt_S y tc_no pc := fun _ _ _ _ _ _ _ h => h.elim
def tc_ic (n : Int) (nx : Nat) : dt_T := fun _ _ K pc lv st M => K nx lv (.inl n :: st) M
theorem sn_ic {y : dt_Y} {pc : Nat} {n : Int} {nx : Nat} (hn : dt_r n) (hd : decode y.2.1 pc = .ok (.iconst n, 1)) (hl : nx = pc + 1) : dt_S y (tc_ic n nx) pc := by
  intro d Q K hK lv st M h ok p l e R s m args below meth c cells slots Qf D ad cA A C H locs ls hW hL
  have := hK _ _ _ _ h ⟨ok.1, ds_c (show dt_r n from hn) ok.2.1, ok.2.2⟩ p l e R s m args below meth c cells slots Qf D ad cA A C H locs ls hW hL
  subst hl; exact lv_iconst C.1 C.2.1 hd rfl this
theorem sn_bi {y : dt_Y} {pc : Nat} {n : Int} {nx : Nat} (hn : dt_r n) (hv : (Int8.ofInt n).toInt32 = Int32.ofInt n) (hd : decode y.2.1 pc = .ok (.bipush n, 2)) (hl : nx = pc + 2) : dt_S y (tc_ic n nx) pc := by
  intro d Q K hK lv st M h ok p l e R s m args below meth c cells slots Qf D ad cA A C H locs ls hW hL
  have := hK _ _ _ _ h ⟨ok.1, ds_c (show dt_r n from hn) ok.2.1, ok.2.2⟩ p l e R s m args below meth c cells slots Qf D ad cA A C H locs ls hW hL
  subst hl; exact lv_bipush C.1 C.2.1 hd hv this
theorem sn_si {y : dt_Y} {pc : Nat} {n : Int} {nx : Nat} (hn : dt_r n) (hv : (Int16.ofInt n).toInt32 = Int32.ofInt n) (hd : decode y.2.1 pc = .ok (.sipush n, 3)) (hl : nx = pc + 3) : dt_S y (tc_ic n nx) pc := by
  intro d Q K hK lv st M h ok p l e R s m args below meth c cells slots Qf D ad cA A C H locs ls hW hL
  have := hK _ _ _ _ h ⟨ok.1, ds_c (show dt_r n from hn) ok.2.1, ok.2.2⟩ p l e R s m args below meth c cells slots Qf D ad cA A C H locs ls hW hL
  subst hl; exact lv_sipush C.1 C.2.1 hd hv this
def tc_lc (n : Int) (nx : Nat) : dt_T := fun _ _ K pc lv st M => K nx lv (.inr (.inl n) :: st) M
theorem sn_lc {y : dt_Y} {pc : Nat} {n : Int} {nx : Nat} {k : Fin 2} (hn : dt_rL n) (hv : Int64.ofNat (k : Nat) = Int64.ofInt n) (hd : decode y.2.1 pc = .ok (.lconst k, 1)) (hl : nx = pc + 1) : dt_S y (tc_lc n nx) pc := by
  intro d Q K hK lv st M h ok p l e R s m args below meth c cells slots Qf D ad cA A C H locs ls hW hL
  have := hK _ _ _ _ h ⟨ok.1, ds_c (show dt_rL n from hn) ok.2.1, ok.2.2⟩ p l e R s m args below meth c cells slots Qf D ad cA A C H locs ls hW hL
  subst hl; exact lv_lconst C.1 C.2.1 hd hv this
theorem sn_ldc2 {y : dt_Y} {pc : Nat} {n : Int} {nx index : Nat} {own : String} (ho : y.1.cls = own) (hn : dt_rL n) (hw : Cond.constantLong own index (Int64.ofInt n) ∈ dt_W0) (hd : decode y.2.1 pc = .ok (.ldc2_w index, 3)) (hl : nx = pc + 3) : dt_S y (tc_lc n nx) pc := by
  intro d Q K hK lv st M h ok p l e R s m args below meth c cells slots Qf D ad cA A C H locs ls hW hL
  have := hK _ _ _ _ h ⟨ok.1, ds_c (show dt_rL n from hn) ok.2.1, ok.2.2⟩ p l e R s m args below meth c cells slots Qf D ad cA A C H locs ls hW hL
  subst hl; exact lv_ldc2 C.1 C.2.1 (own := own) (ho ▸ C.2.2.2.1) (C.2.2.2.2.1 _ hw) hd this
def tc_ldI (i nx : Nat) : dt_T := fun _ _ K pc lv st M => match lv.getD i none with
  | some (.inl x) => K nx lv (.inl x :: st) M
  | _ => False
theorem sn_ldIn {y : dt_Y} {pc : Nat} {i nx : Nat} {k : Fin 4} (hi : (k : Nat) = i) (hd : decode y.2.1 pc = .ok (.iload_n k, 1)) (hl : nx = pc + 1) : dt_S y (tc_ldI i nx) pc := by
  intro d Q K hK lv st M h
  unfold tc_ldI at h
  split at h
  · next x hx =>
    intro ok p l e R s m args below meth c cells slots Qf D ad cA A C H locs ls hW hL
    have hx : lv[i]? = some (some (.inl x)) := by
      rw [List.getD_eq_getElem?_getD] at hx
      cases hq : lv[i]? with
      | none => rw [hq] at hx; cases hx
      | some z => rw [hq] at hx; exact congrArg some hx
    have := hK _ _ _ _ h ⟨ok.1, ds_c (ok.1 _ (List.mem_of_getElem? hx)) ok.2.1, ok.2.2⟩ p l e R s m args below meth c cells slots Qf D ad cA A C H locs ls hW hL
    subst hl
    exact lv_iload_n C.1 C.2.1 hd hi (hL.2.2 _ _ hx) this
  · exact h.elim
theorem sn_ldI {y : dt_Y} {pc : Nat} {i nx : Nat} (hd : decode y.2.1 pc = .ok (.iload i, 2)) (hl : nx = pc + 2) : dt_S y (tc_ldI i nx) pc := by
  intro d Q K hK lv st M h
  unfold tc_ldI at h
  split at h
  · next x hx =>
    intro ok p l e R s m args below meth c cells slots Qf D ad cA A C H locs ls hW hL
    have hx : lv[i]? = some (some (.inl x)) := by
      rw [List.getD_eq_getElem?_getD] at hx
      cases hq : lv[i]? with
      | none => rw [hq] at hx; cases hx
      | some z => rw [hq] at hx; exact congrArg some hx
    have := hK _ _ _ _ h ⟨ok.1, ds_c (ok.1 _ (List.mem_of_getElem? hx)) ok.2.1, ok.2.2⟩ p l e R s m args below meth c cells slots Qf D ad cA A C H locs ls hW hL
    subst hl
    exact lv_iload C.1 C.2.1 hd (hL.2.2 _ _ hx) this
  · exact h.elim
def tc_ldL (i nx : Nat) : dt_T := fun _ _ K pc lv st M => match lv.getD i none with
  | some (.inr (.inl x)) => K nx lv (.inr (.inl x) :: st) M
  | _ => False
theorem sn_ldLn {y : dt_Y} {pc : Nat} {i nx : Nat} {k : Fin 4} (hi : (k : Nat) = i) (hd : decode y.2.1 pc = .ok (.lload_n k, 1)) (hl : nx = pc + 1) : dt_S y (tc_ldL i nx) pc := by
  intro d Q K hK lv st M h
  unfold tc_ldL at h
  split at h
  · next x hx =>
    intro ok p l e R s m args below meth c cells slots Qf D ad cA A C H locs ls hW hL
    have hx : lv[i]? = some (some (.inr (.inl x))) := by
      rw [List.getD_eq_getElem?_getD] at hx
      cases hq : lv[i]? with
      | none => rw [hq] at hx; cases hx
      | some z => rw [hq] at hx; exact congrArg some hx
    have := hK _ _ _ _ h ⟨ok.1, ds_c (ok.1 _ (List.mem_of_getElem? hx)) ok.2.1, ok.2.2⟩ p l e R s m args below meth c cells slots Qf D ad cA A C H locs ls hW hL
    subst hl
    exact lv_lload_n C.1 C.2.1 hd hi (hL.2.2 _ _ hx) this
  · exact h.elim
theorem sn_ldL {y : dt_Y} {pc : Nat} {i nx : Nat} (hd : decode y.2.1 pc = .ok (.lload i, 2)) (hl : nx = pc + 2) : dt_S y (tc_ldL i nx) pc := by
  intro d Q K hK lv st M h
  unfold tc_ldL at h
  split at h
  · next x hx =>
    intro ok p l e R s m args below meth c cells slots Qf D ad cA A C H locs ls hW hL
    have hx : lv[i]? = some (some (.inr (.inl x))) := by
      rw [List.getD_eq_getElem?_getD] at hx
      cases hq : lv[i]? with
      | none => rw [hq] at hx; cases hx
      | some z => rw [hq] at hx; exact congrArg some hx
    have := hK _ _ _ _ h ⟨ok.1, ds_c (ok.1 _ (List.mem_of_getElem? hx)) ok.2.1, ok.2.2⟩ p l e R s m args below meth c cells slots Qf D ad cA A C H locs ls hW hL
    subst hl
    exact lv_lload C.1 C.2.1 hd (hL.2.2 _ _ hx) this
  · exact h.elim
def tc_ldA (i nx : Nat) : dt_T := fun _ _ K pc lv st M => match lv.getD i none with
  | some (.inr (.inr x)) => K nx lv (.inr (.inr x) :: st) M
  | _ => False
theorem sn_ldAn {y : dt_Y} {pc : Nat} {i nx : Nat} {k : Fin 4} (hi : (k : Nat) = i) (hd : decode y.2.1 pc = .ok (.aload_n k, 1)) (hl : nx = pc + 1) : dt_S y (tc_ldA i nx) pc := by
  intro d Q K hK lv st M h
  unfold tc_ldA at h
  split at h
  · next x hx =>
    intro ok p l e R s m args below meth c cells slots Qf D ad cA A C H locs ls hW hL
    have hx : lv[i]? = some (some (.inr (.inr x))) := by
      rw [List.getD_eq_getElem?_getD] at hx
      cases hq : lv[i]? with
      | none => rw [hq] at hx; cases hx
      | some z => rw [hq] at hx; exact congrArg some hx
    have := hK _ _ _ _ h ⟨ok.1, ds_c (ok.1 _ (List.mem_of_getElem? hx)) ok.2.1, ok.2.2⟩ p l e R s m args below meth c cells slots Qf D ad cA A C H locs ls hW hL
    subst hl
    exact lv_aload_n C.1 C.2.1 hd hi (hL.2.2 _ _ hx) this
  · exact h.elim
theorem sn_ldA {y : dt_Y} {pc : Nat} {i nx : Nat} (hd : decode y.2.1 pc = .ok (.aload i, 2)) (hl : nx = pc + 2) : dt_S y (tc_ldA i nx) pc := by
  intro d Q K hK lv st M h
  unfold tc_ldA at h
  split at h
  · next x hx =>
    intro ok p l e R s m args below meth c cells slots Qf D ad cA A C H locs ls hW hL
    have hx : lv[i]? = some (some (.inr (.inr x))) := by
      rw [List.getD_eq_getElem?_getD] at hx
      cases hq : lv[i]? with
      | none => rw [hq] at hx; cases hx
      | some z => rw [hq] at hx; exact congrArg some hx
    have := hK _ _ _ _ h ⟨ok.1, ds_c (ok.1 _ (List.mem_of_getElem? hx)) ok.2.1, ok.2.2⟩ p l e R s m args below meth c cells slots Qf D ad cA A C H locs ls hW hL
    subst hl
    exact lv_aload C.1 C.2.1 hd (hL.2.2 _ _ hx) this
  · exact h.elim
def tc_stI (i nx : Nat) : dt_T := fun _ _ K pc lv st M => match st with
  | .inl x :: r => K nx (dt_set1 lv i (.inl x)) r M
  | _ => False
theorem sn_stIn {y : dt_Y} {pc : Nat} {i nx : Nat} {k : Fin 4} (hi : (k : Nat) = i) (hn : i < y.2.2.1) (hd : decode y.2.1 pc = .ok (.istore_n k, 1)) (hl : nx = pc + 1) : dt_S y (tc_stI i nx) pc := by
  intro d Q K hK lv st M h
  unfold tc_stI at h
  split at h
  · next x r =>
    intro ok p l e R s m args below meth c cells slots Qf D ad cA A C H locs ls hW hL
    subst hl
    refine lv_istore_n (nL := y.2.2.1) (lv := dt_as ad lv) C.1 C.2.1 hd hi (dl_has hL) hn rfl (fun ls1 hl1 => ?_)
    exact hK _ _ _ _ h ⟨dl_ok1 ok.1 (ds_h ok.2.1), ds_t ok.2.1, ok.2.2⟩ p l e R s m args below meth c cells slots Qf D ad cA A C H locs ls1 hW (dl_set1 (ls := ls) (v := .inl x) hl1)
  · exact h.elim
theorem sn_stI {y : dt_Y} {pc : Nat} {i nx : Nat} (hn : i < y.2.2.1) (hd : decode y.2.1 pc = .ok (.istore i, 2)) (hl : nx = pc + 2) : dt_S y (tc_stI i nx) pc := by
  intro d Q K hK lv st M h
  unfold tc_stI at h
  split at h
  · next x r =>
    intro ok p l e R s m args below meth c cells slots Qf D ad cA A C H locs ls hW hL
    subst hl
    refine lv_istore (nL := y.2.2.1) (lv := dt_as ad lv) C.1 C.2.1 hd (dl_has hL) hn rfl (fun ls1 hl1 => ?_)
    exact hK _ _ _ _ h ⟨dl_ok1 ok.1 (ds_h ok.2.1), ds_t ok.2.1, ok.2.2⟩ p l e R s m args below meth c cells slots Qf D ad cA A C H locs ls1 hW (dl_set1 (ls := ls) (v := .inl x) hl1)
  · exact h.elim
def tc_stL (i nx : Nat) : dt_T := fun _ _ K pc lv st M => match st with
  | .inr (.inl x) :: r => K nx (dt_set2 lv i (.inr (.inl x))) r M
  | _ => False
theorem sn_stLn {y : dt_Y} {pc : Nat} {i nx : Nat} {k : Fin 4} (hi : (k : Nat) = i) (hn : i + 1 < y.2.2.1) (hd : decode y.2.1 pc = .ok (.lstore_n k, 1)) (hl : nx = pc + 1) : dt_S y (tc_stL i nx) pc := by
  intro d Q K hK lv st M h
  unfold tc_stL at h
  split at h
  · next x r =>
    intro ok p l e R s m args below meth c cells slots Qf D ad cA A C H locs ls hW hL
    subst hl
    refine lv_lstore_n (nL := y.2.2.1) (lv := dt_as ad lv) C.1 C.2.1 hd hi (dl_has hL) hn rfl (fun ls1 hl1 => ?_)
    exact hK _ _ _ _ h ⟨dl_ok2 ok.1 (ds_h ok.2.1), ds_t ok.2.1, ok.2.2⟩ p l e R s m args below meth c cells slots Qf D ad cA A C H locs ls1 hW (dl_set2 (ls := ls) (v := .inr (.inl x)) hl1)
  · exact h.elim
theorem sn_stL {y : dt_Y} {pc : Nat} {i nx : Nat} (hn : i + 1 < y.2.2.1) (hd : decode y.2.1 pc = .ok (.lstore i, 2)) (hl : nx = pc + 2) : dt_S y (tc_stL i nx) pc := by
  intro d Q K hK lv st M h
  unfold tc_stL at h
  split at h
  · next x r =>
    intro ok p l e R s m args below meth c cells slots Qf D ad cA A C H locs ls hW hL
    subst hl
    refine lv_lstore (nL := y.2.2.1) (lv := dt_as ad lv) C.1 C.2.1 hd (dl_has hL) hn rfl (fun ls1 hl1 => ?_)
    exact hK _ _ _ _ h ⟨dl_ok2 ok.1 (ds_h ok.2.1), ds_t ok.2.1, ok.2.2⟩ p l e R s m args below meth c cells slots Qf D ad cA A C H locs ls1 hW (dl_set2 (ls := ls) (v := .inr (.inl x)) hl1)
  · exact h.elim
def tc_stA (i nx : Nat) : dt_T := fun _ _ K pc lv st M => match st with
  | .inr (.inr x) :: r => K nx (dt_set1 lv i (.inr (.inr x))) r M
  | _ => False
theorem sn_stAn {y : dt_Y} {pc : Nat} {i nx : Nat} {k : Fin 4} (hi : (k : Nat) = i) (hn : i < y.2.2.1) (hd : decode y.2.1 pc = .ok (.astore_n k, 1)) (hl : nx = pc + 1) : dt_S y (tc_stA i nx) pc := by
  intro d Q K hK lv st M h
  unfold tc_stA at h
  split at h
  · next x r =>
    intro ok p l e R s m args below meth c cells slots Qf D ad cA A C H locs ls hW hL
    subst hl
    refine lv_astore_n (nL := y.2.2.1) (lv := dt_as ad lv) C.1 C.2.1 hd hi (dl_has hL) hn rfl (fun ls1 hl1 => ?_)
    exact hK _ _ _ _ h ⟨dl_ok1 ok.1 (ds_h ok.2.1), ds_t ok.2.1, ok.2.2⟩ p l e R s m args below meth c cells slots Qf D ad cA A C H locs ls1 hW (dl_set1 (ls := ls) (v := .inr (.inr x)) hl1)
  · exact h.elim
theorem sn_stA {y : dt_Y} {pc : Nat} {i nx : Nat} (hn : i < y.2.2.1) (hd : decode y.2.1 pc = .ok (.astore i, 2)) (hl : nx = pc + 2) : dt_S y (tc_stA i nx) pc := by
  intro d Q K hK lv st M h
  unfold tc_stA at h
  split at h
  · next x r =>
    intro ok p l e R s m args below meth c cells slots Qf D ad cA A C H locs ls hW hL
    subst hl
    refine lv_astore (nL := y.2.2.1) (lv := dt_as ad lv) C.1 C.2.1 hd (dl_has hL) hn rfl (fun ls1 hl1 => ?_)
    exact hK _ _ _ _ h ⟨dl_ok1 ok.1 (ds_h ok.2.1), ds_t ok.2.1, ok.2.2⟩ p l e R s m args below meth c cells slots Qf D ad cA A C H locs ls1 hW (dl_set1 (ls := ls) (v := .inr (.inr x)) hl1)
  · exact h.elim
def tc_iinc (i : Nat) (n : Int) (nx : Nat) : dt_T := fun _ _ K pc lv st M => match lv.getD i none with
  | some (.inl x) => dt_r (x + n) ∧ K nx (dt_set1 lv i (.inl (x + n))) st M
  | _ => False
theorem sn_iinc {y : dt_Y} {nx pc i : Nat} {n : Int} (hn : i < y.2.2.1) (hd : decode y.2.1 pc = .ok (.iinc i n, 3)) (hx9 : nx = pc + 3) : dt_S y (tc_iinc i n nx) pc := by
  subst hx9
  intro d Q K hK lv st M h
  unfold tc_iinc at h
  split at h
  · next x hx =>
    intro ok p l e R s m args below meth c cells slots Qf D ad cA A C H locs ls hW hL
    have hx : lv[i]? = some (some (.inl x)) := by
      rw [List.getD_eq_getElem?_getD] at hx
      cases hq : lv[i]? with
      | none => rw [hq] at hx; cases hx
      | some z => rw [hq] at hx; exact congrArg some hx
    obtain ⟨k, hk⟩ := List.getElem?_of_mem (dl_mem (ad := ad) hx)
    refine lv_iinc (nL := y.2.2.1) (lv := dt_as ad lv) (k := k) (v := Int32.ofInt (x + n)) C.1 C.2.1 hd (dl_has hL) hk (Int32.ofInt_add x n).symm hn rfl (fun ls1 hl1 => ?_)
    exact hK _ _ _ _ h.2 ⟨dl_ok1 ok.1 (show dt_r _ from h.1), ok.2.1, ok.2.2⟩ p l e R s m args below meth c cells slots Qf D ad cA A C H locs ls1 hW (dl_set1 (ls := ls) (v := .inl (x + n)) hl1)
  · exact h.elim
def tc_iadd (nx : Nat) : dt_T := fun _ _ K pc lv st M => match st with
  | .inl b :: .inl a :: r => dt_r (a + b) ∧ K nx lv (.inl (a + b) :: r) M
  | _ => False
theorem sn_iadd {y : dt_Y} {nx pc : Nat} (hd : decode y.2.1 pc = .ok (.iadd, 1)) (hx9 : nx = pc + 1) : dt_S y (tc_iadd nx) pc := by
  subst hx9
  intro d Q K hK lv st M h
  unfold tc_iadd at h
  split at h
  · next b a r =>
    intro ok p l e R s m args below meth c cells slots Qf D ad cA A C H locs ls hW hL
    have := hK _ _ _ _ h.2 ⟨ok.1, ds_c (show dt_r _ from h.1) (ds_t (ds_t (ok.2.1))), ok.2.2⟩ p l e R s m args below meth c cells slots Qf D ad cA A C H locs ls hW hL
    refine lv_iadd C.1 C.2.1 hd ?_
    rw [← Int32.ofInt_add]
    exact this
  · exact h.elim
def tc_isub (nx : Nat) : dt_T := fun _ _ K pc lv st M => match st with
  | .inl b :: .inl a :: r => dt_r (a - b) ∧ K nx lv (.inl (a - b) :: r) M
  | _ => False
theorem sn_isub {y : dt_Y} {nx pc : Nat} (hd : decode y.2.1 pc = .ok (.isub, 1)) (hx9 : nx = pc + 1) : dt_S y (tc_isub nx) pc := by
  subst hx9
  intro d Q K hK lv st M h
  unfold tc_isub at h
  split at h
  · next b a r =>
    intro ok p l e R s m args below meth c cells slots Qf D ad cA A C H locs ls hW hL
    have := hK _ _ _ _ h.2 ⟨ok.1, ds_c (show dt_r _ from h.1) (ds_t (ds_t (ok.2.1))), ok.2.2⟩ p l e R s m args below meth c cells slots Qf D ad cA A C H locs ls hW hL
    refine lv_isub C.1 C.2.1 hd ?_
    rw [← Int32.ofInt_sub]
    exact this
  · exact h.elim
def tc_imul (nx : Nat) : dt_T := fun _ _ K pc lv st M => match st with
  | .inl b :: .inl a :: r => dt_r (a * b) ∧ K nx lv (.inl (a * b) :: r) M
  | _ => False
theorem sn_imul {y : dt_Y} {nx pc : Nat} (hd : decode y.2.1 pc = .ok (.imul, 1)) (hx9 : nx = pc + 1) : dt_S y (tc_imul nx) pc := by
  subst hx9
  intro d Q K hK lv st M h
  unfold tc_imul at h
  split at h
  · next b a r =>
    intro ok p l e R s m args below meth c cells slots Qf D ad cA A C H locs ls hW hL
    have := hK _ _ _ _ h.2 ⟨ok.1, ds_c (show dt_r _ from h.1) (ds_t (ds_t (ok.2.1))), ok.2.2⟩ p l e R s m args below meth c cells slots Qf D ad cA A C H locs ls hW hL
    refine lv_imul C.1 C.2.1 hd ?_
    rw [← Int32.ofInt_mul]
    exact this
  · exact h.elim
def tc_iand (nx : Nat) : dt_T := fun _ _ K pc lv st M => match st with
  | .inl b :: .inl a :: r => K nx lv (.inl (dt_and a b) :: r) M
  | _ => False
theorem sn_iand {y : dt_Y} {nx pc : Nat} (hd : decode y.2.1 pc = .ok (.iand, 1)) (hx9 : nx = pc + 1) : dt_S y (tc_iand nx) pc := by
  subst hx9
  intro d Q K hK lv st M h
  unfold tc_iand at h
  split at h
  · next b a r =>
    intro ok p l e R s m args below meth c cells slots Qf D ad cA A C H locs ls hW hL
    have := hK _ _ _ _ h ⟨ok.1, ds_c (show dt_r _ from dn_ri _) (ds_t (ds_t (ok.2.1))), ok.2.2⟩ p l e R s m args below meth c cells slots Qf D ad cA A C H locs ls hW hL
    refine lv_iand C.1 C.2.1 hd ?_
    have e := Int32.ofInt_toInt
    unfold dt_and at this
    simp only [List.map_cons, dt_cv, Int32.ofInt_toInt] at this
    exact this
  · exact h.elim
def tc_ior (nx : Nat) : dt_T := fun _ _ K pc lv st M => match st with
  | .inl b :: .inl a :: r => K nx lv (.inl (dt_or a b) :: r) M
  | _ => False
theorem sn_ior {y : dt_Y} {nx pc : Nat} (hd : decode y.2.1 pc = .ok (.ior, 1)) (hx9 : nx = pc + 1) : dt_S y (tc_ior nx) pc := by
  subst hx9
  intro d Q K hK lv st M h
  unfold tc_ior at h
  split at h
  · next b a r =>
    intro ok p l e R s m args below meth c cells slots Qf D ad cA A C H locs ls hW hL
    have := hK _ _ _ _ h ⟨ok.1, ds_c (show dt_r _ from dn_ri _) (ds_t (ds_t (ok.2.1))), ok.2.2⟩ p l e R s m args below meth c cells slots Qf D ad cA A C H locs ls hW hL
    refine lv_ior C.1 C.2.1 hd ?_
    have e := Int32.ofInt_toInt
    unfold dt_or at this
    simp only [List.map_cons, dt_cv, Int32.ofInt_toInt] at this
    exact this
  · exact h.elim
def tc_ishl (nx : Nat) : dt_T := fun _ _ K pc lv st M => match st with
  | .inl b :: .inl a :: r => K nx lv (.inl (dt_shl a b) :: r) M
  | _ => False
theorem sn_ishl {y : dt_Y} {nx pc : Nat} (hd : decode y.2.1 pc = .ok (.ishl, 1)) (hx9 : nx = pc + 1) : dt_S y (tc_ishl nx) pc := by
  subst hx9
  intro d Q K hK lv st M h
  unfold tc_ishl at h
  split at h
  · next b a r =>
    intro ok p l e R s m args below meth c cells slots Qf D ad cA A C H locs ls hW hL
    have := hK _ _ _ _ h ⟨ok.1, ds_c (show dt_r _ from dn_ri _) (ds_t (ds_t (ok.2.1))), ok.2.2⟩ p l e R s m args below meth c cells slots Qf D ad cA A C H locs ls hW hL
    refine lv_ishl C.1 C.2.1 hd ?_
    have e := Int32.ofInt_toInt
    unfold dt_shl at this
    simp only [List.map_cons, dt_cv, Int32.ofInt_toInt] at this
    exact this
  · exact h.elim
def tc_ishr (nx : Nat) : dt_T := fun _ _ K pc lv st M => match st with
  | .inl b :: .inl a :: r => K nx lv (.inl (dt_shr a b) :: r) M
  | _ => False
theorem sn_ishr {y : dt_Y} {nx pc : Nat} (hd : decode y.2.1 pc = .ok (.ishr, 1)) (hx9 : nx = pc + 1) : dt_S y (tc_ishr nx) pc := by
  subst hx9
  intro d Q K hK lv st M h
  unfold tc_ishr at h
  split at h
  · next b a r =>
    intro ok p l e R s m args below meth c cells slots Qf D ad cA A C H locs ls hW hL
    have := hK _ _ _ _ h ⟨ok.1, ds_c (show dt_r _ from dn_ri _) (ds_t (ds_t (ok.2.1))), ok.2.2⟩ p l e R s m args below meth c cells slots Qf D ad cA A C H locs ls hW hL
    refine lv_ishr C.1 C.2.1 hd ?_
    have e := Int32.ofInt_toInt
    unfold dt_shr at this
    simp only [List.map_cons, dt_cv, Int32.ofInt_toInt] at this
    exact this
  · exact h.elim
def tc_idiv (nx : Nat) : dt_T := fun _ _ K pc lv st M => match st with
  | .inl b :: .inl a :: r => ¬ b = 0 ∧ K nx lv (.inl (dt_div a b) :: r) M
  | _ => False
theorem sn_idiv {y : dt_Y} {nx pc : Nat} (hd : decode y.2.1 pc = .ok (.idiv, 1)) (hx9 : nx = pc + 1) : dt_S y (tc_idiv nx) pc := by
  subst hx9
  intro d Q K hK lv st M h
  unfold tc_idiv at h
  split at h
  · next b a r =>
    intro ok p l e R s m args below meth c cells slots Qf D ad cA A C H locs ls hW hL
    have := hK _ _ _ _ h.2 ⟨ok.1, ds_c (show dt_r _ from dn_ri _) (ds_t (ds_t (ok.2.1))), ok.2.2⟩ p l e R s m args below meth c cells slots Qf D ad cA A C H locs ls hW hL
    refine lv_idiv C.1 C.2.1 hd (fun q => h.1 ((dn_eq0 (ds_h ok.2.1)).mp q)) ?_
    unfold dt_div at this
    simp only [List.map_cons, dt_cv, Int32.ofInt_toInt] at this
    exact this
  · exact h.elim
def tc_irem (nx : Nat) : dt_T := fun _ _ K pc lv st M => match st with
  | .inl b :: .inl a :: r => ¬ b = 0 ∧ K nx lv (.inl (dt_rem a b) :: r) M
  | _ => False
theorem sn_irem {y : dt_Y} {nx pc : Nat} (hd : decode y.2.1 pc = .ok (.irem, 1)) (hx9 : nx = pc + 1) : dt_S y (tc_irem nx) pc := by
  subst hx9
  intro d Q K hK lv st M h
  unfold tc_irem at h
  split at h
  · next b a r =>
    intro ok p l e R s m args below meth c cells slots Qf D ad cA A C H locs ls hW hL
    have := hK _ _ _ _ h.2 ⟨ok.1, ds_c (show dt_r _ from dn_ri _) (ds_t (ds_t (ok.2.1))), ok.2.2⟩ p l e R s m args below meth c cells slots Qf D ad cA A C H locs ls hW hL
    refine lv_irem C.1 C.2.1 hd (fun q => h.1 ((dn_eq0 (ds_h ok.2.1)).mp q)) ?_
    unfold dt_rem at this
    simp only [List.map_cons, dt_cv, Int32.ofInt_toInt] at this
    exact this
  · exact h.elim
def tc_ladd (nx : Nat) : dt_T := fun _ _ K pc lv st M => match st with
  | .inr (.inl b) :: .inr (.inl a) :: r => dt_rL (a + b) ∧ K nx lv (.inr (.inl (a + b)) :: r) M
  | _ => False
theorem sn_ladd {y : dt_Y} {nx pc : Nat} (hd : decode y.2.1 pc = .ok (.ladd, 1)) (hx9 : nx = pc + 1) : dt_S y (tc_ladd nx) pc := by
  subst hx9
  intro d Q K hK lv st M h
  unfold tc_ladd at h
  split at h
  · next b a r =>
    intro ok p l e R s m args below meth c cells slots Qf D ad cA A C H locs ls hW hL
    have := hK _ _ _ _ h.2 ⟨ok.1, ds_c (show dt_rL _ from h.1) (ds_t (ds_t (ok.2.1))), ok.2.2⟩ p l e R s m args below meth c cells slots Qf D ad cA A C H locs ls hW hL
    refine lv_ladd C.1 C.2.1 hd ?_
    rw [← Int64.ofInt_add]
    exact this
  · exact h.elim
def tc_lsub (nx : Nat) : dt_T := fun _ _ K pc lv st M => match st with
  | .inr (.inl b) :: .inr (.inl a) :: r => dt_rL (a - b) ∧ K nx lv (.inr (.inl (a - b)) :: r) M
  | _ => False
theorem sn_lsub {y : dt_Y} {nx pc : Nat} (hd : decode y.2.1 pc = .ok (.lsub, 1)) (hx9 : nx = pc + 1) : dt_S y (tc_lsub nx) pc := by
  subst hx9
  intro d Q K hK lv st M h
  unfold tc_lsub at h
  split at h
  · next b a r =>
    intro ok p l e R s m args below meth c cells slots Qf D ad cA A C H locs ls hW hL
    have := hK _ _ _ _ h.2 ⟨ok.1, ds_c (show dt_rL _ from h.1) (ds_t (ds_t (ok.2.1))), ok.2.2⟩ p l e R s m args below meth c cells slots Qf D ad cA A C H locs ls hW hL
    refine lv_lsub C.1 C.2.1 hd ?_
    rw [← Int64.ofInt_sub]
    exact this
  · exact h.elim
def tc_lmul (nx : Nat) : dt_T := fun _ _ K pc lv st M => match st with
  | .inr (.inl b) :: .inr (.inl a) :: r => dt_rL (a * b) ∧ K nx lv (.inr (.inl (a * b)) :: r) M
  | _ => False
theorem sn_lmul {y : dt_Y} {nx pc : Nat} (hd : decode y.2.1 pc = .ok (.lmul, 1)) (hx9 : nx = pc + 1) : dt_S y (tc_lmul nx) pc := by
  subst hx9
  intro d Q K hK lv st M h
  unfold tc_lmul at h
  split at h
  · next b a r =>
    intro ok p l e R s m args below meth c cells slots Qf D ad cA A C H locs ls hW hL
    have := hK _ _ _ _ h.2 ⟨ok.1, ds_c (show dt_rL _ from h.1) (ds_t (ds_t (ok.2.1))), ok.2.2⟩ p l e R s m args below meth c cells slots Qf D ad cA A C H locs ls hW hL
    refine lv_lmul C.1 C.2.1 hd ?_
    rw [← Int64.ofInt_mul]
    exact this
  · exact h.elim
def tc_land (nx : Nat) : dt_T := fun _ _ K pc lv st M => match st with
  | .inr (.inl b) :: .inr (.inl a) :: r => K nx lv (.inr (.inl (dt_andL a b)) :: r) M
  | _ => False
theorem sn_land {y : dt_Y} {nx pc : Nat} (hd : decode y.2.1 pc = .ok (.land, 1)) (hx9 : nx = pc + 1) : dt_S y (tc_land nx) pc := by
  subst hx9
  intro d Q K hK lv st M h
  unfold tc_land at h
  split at h
  · next b a r =>
    intro ok p l e R s m args below meth c cells slots Qf D ad cA A C H locs ls hW hL
    have := hK _ _ _ _ h ⟨ok.1, ds_c (show dt_rL _ from dn_rl _) (ds_t (ds_t (ok.2.1))), ok.2.2⟩ p l e R s m args below meth c cells slots Qf D ad cA A C H locs ls hW hL
    refine lv_land C.1 C.2.1 hd ?_
    unfold dt_andL at this
    simp only [List.map_cons, dt_cv, Int64.ofInt_toInt] at this
    exact this
  · exact h.elim
def tc_lor (nx : Nat) : dt_T := fun _ _ K pc lv st M => match st with
  | .inr (.inl b) :: .inr (.inl a) :: r => K nx lv (.inr (.inl (dt_orL a b)) :: r) M
  | _ => False
theorem sn_lor {y : dt_Y} {nx pc : Nat} (hd : decode y.2.1 pc = .ok (.lor, 1)) (hx9 : nx = pc + 1) : dt_S y (tc_lor nx) pc := by
  subst hx9
  intro d Q K hK lv st M h
  unfold tc_lor at h
  split at h
  · next b a r =>
    intro ok p l e R s m args below meth c cells slots Qf D ad cA A C H locs ls hW hL
    have := hK _ _ _ _ h ⟨ok.1, ds_c (show dt_rL _ from dn_rl _) (ds_t (ds_t (ok.2.1))), ok.2.2⟩ p l e R s m args below meth c cells slots Qf D ad cA A C H locs ls hW hL
    refine lv_lor C.1 C.2.1 hd ?_
    unfold dt_orL at this
    simp only [List.map_cons, dt_cv, Int64.ofInt_toInt] at this
    exact this
  · exact h.elim
def tc_lshl (nx : Nat) : dt_T := fun _ _ K pc lv st M => match st with
  | .inl b :: .inr (.inl a) :: r => K nx lv (.inr (.inl (dt_shlL a b)) :: r) M
  | _ => False
theorem sn_lshl {y : dt_Y} {nx pc : Nat} (hd : decode y.2.1 pc = .ok (.lshl, 1)) (hx9 : nx = pc + 1) : dt_S y (tc_lshl nx) pc := by
  subst hx9
  intro d Q K hK lv st M h
  unfold tc_lshl at h
  split at h
  · next b a r =>
    intro ok p l e R s m args below meth c cells slots Qf D ad cA A C H locs ls hW hL
    have := hK _ _ _ _ h ⟨ok.1, ds_c (show dt_rL _ from dn_rl _) (ds_t (ds_t (ok.2.1))), ok.2.2⟩ p l e R s m args below meth c cells slots Qf D ad cA A C H locs ls hW hL
    unfold dt_shlL at this
    simp only [List.map_cons, dt_cv, Int64.ofInt_toInt] at this
    exact lv_lshl C.1 C.2.1 hd rfl this
  · exact h.elim
def tc_lshr (nx : Nat) : dt_T := fun _ _ K pc lv st M => match st with
  | .inl b :: .inr (.inl a) :: r => K nx lv (.inr (.inl (dt_shrL a b)) :: r) M
  | _ => False
theorem sn_lshr {y : dt_Y} {nx pc : Nat} (hd : decode y.2.1 pc = .ok (.lshr, 1)) (hx9 : nx = pc + 1) : dt_S y (tc_lshr nx) pc := by
  subst hx9
  intro d Q K hK lv st M h
  unfold tc_lshr at h
  split at h
  · next b a r =>
    intro ok p l e R s m args below meth c cells slots Qf D ad cA A C H locs ls hW hL
    have := hK _ _ _ _ h ⟨ok.1, ds_c (show dt_rL _ from dn_rl _) (ds_t (ds_t (ok.2.1))), ok.2.2⟩ p l e R s m args below meth c cells slots Qf D ad cA A C H locs ls hW hL
    unfold dt_shrL at this
    simp only [List.map_cons, dt_cv, Int64.ofInt_toInt] at this
    exact lv_lshr C.1 C.2.1 hd rfl this
  · exact h.elim
def tc_lushr (nx : Nat) : dt_T := fun _ _ K pc lv st M => match st with
  | .inl b :: .inr (.inl a) :: r => K nx lv (.inr (.inl (dt_ushrL a b)) :: r) M
  | _ => False
theorem sn_lushr {y : dt_Y} {nx pc : Nat} (hd : decode y.2.1 pc = .ok (.lushr, 1)) (hx9 : nx = pc + 1) : dt_S y (tc_lushr nx) pc := by
  subst hx9
  intro d Q K hK lv st M h
  unfold tc_lushr at h
  split at h
  · next b a r =>
    intro ok p l e R s m args below meth c cells slots Qf D ad cA A C H locs ls hW hL
    have := hK _ _ _ _ h ⟨ok.1, ds_c (show dt_rL _ from dn_rl _) (ds_t (ds_t (ok.2.1))), ok.2.2⟩ p l e R s m args below meth c cells slots Qf D ad cA A C H locs ls hW hL
    unfold dt_ushrL at this
    simp only [List.map_cons, dt_cv, Int64.ofInt_toInt] at this
    exact lv_lushr C.1 C.2.1 hd rfl this
  · exact h.elim
def tc_lcmp (nx : Nat) : dt_T := fun _ _ K pc lv st M => match st with
  | .inr (.inl b) :: .inr (.inl a) :: r => K nx lv (.inl (dt_cmp a b) :: r) M
  | _ => False
theorem sn_lcmp {y : dt_Y} {nx pc : Nat} (hd : decode y.2.1 pc = .ok (.lcmp, 1)) (hx9 : nx = pc + 1) : dt_S y (tc_lcmp nx) pc := by
  subst hx9
  intro d Q K hK lv st M h
  unfold tc_lcmp at h
  split at h
  · next b a r =>
    intro ok p l e R s m args below meth c cells slots Qf D ad cA A C H locs ls hW hL
    have := hK _ _ _ _ h ⟨ok.1, ds_c (show dt_r _ from dn_rcmp _ _) (ds_t (ds_t (ok.2.1))), ok.2.2⟩ p l e R s m args below meth c cells slots Qf D ad cA A C H locs ls hW hL
    refine W.lcmp C.1 C.2.1 hd ?_
    rw [dn_cmp (ds_h (ds_t ok.2.1)) (ds_h ok.2.1)]
    exact this
  · exact h.elim
def tc_i2l (nx : Nat) : dt_T := fun _ _ K pc lv st M => match st with
  | .inl a :: r => K nx lv (.inr (.inl a) :: r) M
  | _ => False
theorem sn_i2l {y : dt_Y} {nx pc : Nat} (hd : decode y.2.1 pc = .ok (.i2l, 1)) (hx9 : nx = pc + 1) : dt_S y (tc_i2l nx) pc := by
  subst hx9
  intro d Q K hK lv st M h
  unfold tc_i2l at h
  split at h
  · next a r =>
    intro ok p l e R s m args below meth c cells slots Qf D ad cA A C H locs ls hW hL
    have := hK _ _ _ _ h ⟨ok.1, ds_c (show dt_rL a from ⟨by have := (show dt_r a from ds_h ok.2.1).1; omega, by have := (show dt_r a from ds_h ok.2.1).2; omega⟩) (ds_t (ok.2.1)), ok.2.2⟩ p l e R s m args below meth c cells slots Qf D ad cA A C H locs ls hW hL
    exact lv_i2l C.1 C.2.1 hd (dn_i2l (ds_h ok.2.1)) this
  · exact h.elim
def tc_l2i (nx : Nat) : dt_T := fun _ _ K pc lv st M => match st with
  | .inr (.inl a) :: r => K nx lv (.inl (dt_l2i a) :: r) M
  | _ => False
theorem sn_l2i {y : dt_Y} {nx pc : Nat} (hd : decode y.2.1 pc = .ok (.l2i, 1)) (hx9 : nx = pc + 1) : dt_S y (tc_l2i nx) pc := by
  subst hx9
  intro d Q K hK lv st M h
  unfold tc_l2i at h
  split at h
  · next a r =>
    intro ok p l e R s m args below meth c cells slots Qf D ad cA A C H locs ls hW hL
    have := hK _ _ _ _ h ⟨ok.1, ds_c (show dt_r _ from dn_ri _) (ds_t (ok.2.1)), ok.2.2⟩ p l e R s m args below meth c cells slots Qf D ad cA A C H locs ls hW hL
    unfold dt_l2i at this
    simp only [List.map_cons, dt_cv, Int32.ofInt_toInt] at this
    exact lv_l2i C.1 C.2.1 hd rfl this
  · exact h.elim
def tc_dup (nx : Nat) : dt_T := fun _ _ K pc lv st M => match st with
  | .inl x :: r => K nx lv (.inl x :: .inl x :: r) M
  | .inr (.inr x) :: r => K nx lv (.inr (.inr x) :: .inr (.inr x) :: r) M
  | _ => False
theorem sn_dup {y : dt_Y} {nx pc : Nat} (hd : decode y.2.1 pc = .ok (.dup, 1)) (hx9 : nx = pc + 1) : dt_S y (tc_dup nx) pc := by
  subst hx9
  intro d Q K hK lv st M h
  unfold tc_dup at h
  split at h
  · next x r =>
    intro ok p l e R s m args below meth c cells slots Qf D ad cA A C H locs ls hW hL
    exact lv_dup C.1 C.2.1 hd rfl (hK _ _ _ _ h ⟨ok.1, ds_c (ds_h ok.2.1) ok.2.1, ok.2.2⟩ p l e R s m args below meth c cells slots Qf D ad cA A C H locs ls hW hL)
  · next x r =>
    intro ok p l e R s m args below meth c cells slots Qf D ad cA A C H locs ls hW hL
    exact lv_dup C.1 C.2.1 hd rfl (hK _ _ _ _ h ⟨ok.1, ds_c (ds_h ok.2.1) ok.2.1, ok.2.2⟩ p l e R s m args below meth c cells slots Qf D ad cA A C H locs ls hW hL)
  · exact h.elim
def tc_dup2 (nx : Nat) : dt_T := fun _ _ K pc lv st M => match st with
  | .inl x :: .inr (.inr q) :: r => K nx lv (.inl x :: .inr (.inr q) :: .inl x :: .inr (.inr q) :: r) M
  | _ => False
theorem sn_dup2 {y : dt_Y} {nx pc : Nat} (hd : decode y.2.1 pc = .ok (.dup2, 1)) (hx9 : nx = pc + 1) : dt_S y (tc_dup2 nx) pc := by
  subst hx9
  intro d Q K hK lv st M h
  unfold tc_dup2 at h
  split at h
  · next x q r =>
    intro ok p l e R s m args below meth c cells slots Qf D ad cA A C H locs ls hW hL
    exact lv_dup2_11 C.1 C.2.1 hd rfl rfl (hK _ _ _ _ h ⟨ok.1, ds_c (ds_h ok.2.1) (ds_c (ds_h (ds_t ok.2.1)) ok.2.1), ok.2.2⟩ p l e R s m args below meth c cells slots Qf D ad cA A C H locs ls hW hL)
  · exact h.elim
def tc_goto (t : Nat) : dt_T := fun _ _ K _ lv st M => K t lv st M
theorem sn_goto {y : dt_Y} {pc t : Nat} {o : Int} (hd : decode y.2.1 pc = .ok (.goto o, 3)) (ht : (pc : Int) + o = (t : Int)) : dt_S y (tc_goto t) pc := by
  intro d Q K hK lv st M h ok p l e R s m args below meth c cells slots Qf D ad cA A C H locs ls hW hL
  exact lv_goto C.1 C.2.1 hd ht (hK _ _ _ _ h ⟨ok.1, ok.2.1, ok.2.2⟩ p l e R s m args below meth c cells slots Qf D ad cA A C H locs ls hW hL)
def tc_ifeq (t : Nat) (nx : Nat) : dt_T := fun _ _ K pc lv st M => match st with
  | .inl a :: r => (a = 0 → K t lv r M) ∧ (¬ a = 0 → K nx lv r M)
  | _ => False
theorem sn_ifeq {y : dt_Y} {nx pc t : Nat} {o : Int} (hd : decode y.2.1 pc = .ok (.ifCond .eq o, 3)) (ht : (pc : Int) + o = (t : Int)) (hx9 : nx = pc + 3) : dt_S y (tc_ifeq t nx) pc := by
  subst hx9
  intro d Q K hK lv st M h
  unfold tc_ifeq at h
  split at h
  · next a r =>
    intro ok p l e R s m args below meth c cells slots Qf D ad cA A C H locs ls hW hL
    have ra : dt_r a := ds_h ok.2.1
    have e9 := dn_eq0 ra
    exact lv_if_eq C.1 C.2.1 hd ht (fun q => hK _ _ _ _ (h.1 (e9.mp q)) ⟨ok.1, ds_t ok.2.1, ok.2.2⟩ p l e R s m args below meth c cells slots Qf D ad cA A C H locs ls hW hL) (fun q => hK _ _ _ _ (h.2 (fun z => q (e9.mpr z))) ⟨ok.1, ds_t ok.2.1, ok.2.2⟩ p l e R s m args below meth c cells slots Qf D ad cA A C H locs ls hW hL)
  · exact h.elim
def tc_icmpeq (t : Nat) (nx : Nat) : dt_T := fun _ _ K pc lv st M => match st with
  | .inl b :: .inl a :: r => (a = b → K t lv r M) ∧ (¬ a = b → K nx lv r M)
  | _ => False
theorem sn_icmpeq {y : dt_Y} {nx pc t : Nat} {o : Int} (hd : decode y.2.1 pc = .ok (.if_icmp .eq o, 3)) (ht : (pc : Int) + o = (t : Int)) (hx9 : nx = pc + 3) : dt_S y (tc_icmpeq t nx) pc := by
  subst hx9
  intro d Q K hK lv st M h
  unfold tc_icmpeq at h
  split at h
  · next b a r =>
    intro ok p l e R s m args below meth c cells slots Qf D ad cA A C H locs ls hW hL
    have rb : dt_r b := ds_h ok.2.1
    have ra : dt_r a := ds_h (ds_t ok.2.1)
    have e9 := dn_eq ra rb
    exact lv_icmp_eq C.1 C.2.1 hd ht (fun q => hK _ _ _ _ (h.1 (e9.mp q)) ⟨ok.1, ds_t (ds_t ok.2.1), ok.2.2⟩ p l e R s m args below meth c cells slots Qf D ad cA A C H locs ls hW hL) (fun q => hK _ _ _ _ (h.2 (fun z => q (e9.mpr z))) ⟨ok.1, ds_t (ds_t ok.2.1), ok.2.2⟩ p l e R s m args below meth c cells slots Qf D ad cA A C H locs ls hW hL)
  · exact h.elim
def tc_ifne (t : Nat) (nx : Nat) : dt_T := fun _ _ K pc lv st M => match st with
  | .inl a :: r => (¬ a = 0 → K t lv r M) ∧ (a = 0 → K nx lv r M)
  | _ => False
theorem sn_ifne {y : dt_Y} {nx pc t : Nat} {o : Int} (hd : decode y.2.1 pc = .ok (.ifCond .ne o, 3)) (ht : (pc : Int) + o = (t : Int)) (hx9 : nx = pc + 3) : dt_S y (tc_ifne t nx) pc := by
  subst hx9
  intro d Q K hK lv st M h
  unfold tc_ifne at h
  split at h
  · next a r =>
    intro ok p l e R s m args below meth c cells slots Qf D ad cA A C H locs ls hW hL
    have ra : dt_r a := ds_h ok.2.1
    have e9 := not_congr (dn_eq0 ra)
    exact lv_if_ne C.1 C.2.1 hd ht (fun q => hK _ _ _ _ (h.1 (e9.mp q)) ⟨ok.1, ds_t ok.2.1, ok.2.2⟩ p l e R s m args below meth c cells slots Qf D ad cA A C H locs ls hW hL) (fun q => hK _ _ _ _ (h.2 ((dn_eq0 ra).mp q)) ⟨ok.1, ds_t ok.2.1, ok.2.2⟩ p l e R s m args below meth c cells slots Qf D ad cA A C H locs ls hW hL)
  · exact h.elim
def tc_icmpne (t : Nat) (nx : Nat) : dt_T := fun _ _ K pc lv st M => match st with
  | .inl b :: .inl a :: r => (¬ a = b → K t lv r M) ∧ (a = b → K nx lv r M)
  | _ => False
theorem sn_icmpne {y : dt_Y} {nx pc t : Nat} {o : Int} (hd : decode y.2.1 pc = .ok (.if_icmp .ne o, 3)) (ht : (pc : Int) + o = (t : Int)) (hx9 : nx = pc + 3) : dt_S y (tc_icmpne t nx) pc := by
  subst hx9
  intro d Q K hK lv st M h
  unfold tc_icmpne at h
  split at h
  · next b a r =>
    intro ok p l e R s m args below meth c cells slots Qf D ad cA A C H locs ls hW hL
    have rb : dt_r b := ds_h ok.2.1
    have ra : dt_r a := ds_h (ds_t ok.2.1)
    have e9 := not_congr (dn_eq ra rb)
    exact lv_icmp_ne C.1 C.2.1 hd ht (fun q => hK _ _ _ _ (h.1 (e9.mp q)) ⟨ok.1, ds_t (ds_t ok.2.1), ok.2.2⟩ p l e R s m args below meth c cells slots Qf D ad cA A C H locs ls hW hL) (fun q => hK _ _ _ _ (h.2 ((dn_eq ra rb).mp q)) ⟨ok.1, ds_t (ds_t ok.2.1), ok.2.2⟩ p l e R s m args below meth c cells slots Qf D ad cA A C H locs ls hW hL)
  · exact h.elim
def tc_iflt (t : Nat) (nx : Nat) : dt_T := fun _ _ K pc lv st M => match st with
  | .inl a :: r => (a < 0 → K t lv r M) ∧ (0 ≤ a → K nx lv r M)
  | _ => False
theorem sn_iflt {y : dt_Y} {nx pc t : Nat} {o : Int} (hd : decode y.2.1 pc = .ok (.ifCond .lt o, 3)) (ht : (pc : Int) + o = (t : Int)) (hx9 : nx = pc + 3) : dt_S y (tc_iflt t nx) pc := by
  subst hx9
  intro d Q K hK lv st M h
  unfold tc_iflt at h
  split at h
  · next a r =>
    intro ok p l e R s m args below meth c cells slots Qf D ad cA A C H locs ls hW hL
    have ra : dt_r a := ds_h ok.2.1
    have e9 := dn_lt0 ra
    exact lv_if_lt C.1 C.2.1 hd ht (fun q => hK _ _ _ _ (h.1 (e9.mp q)) ⟨ok.1, ds_t ok.2.1, ok.2.2⟩ p l e R s m args below meth c cells slots Qf D ad cA A C H locs ls hW hL) (fun q => hK _ _ _ _ (h.2 (Int.not_lt.mp (fun z => q (e9.mpr z)))) ⟨ok.1, ds_t ok.2.1, ok.2.2⟩ p l e R s m args below meth c cells slots Qf D ad cA A C H locs ls hW hL)
  · exact h.elim
def tc_icmplt (t : Nat) (nx : Nat) : dt_T := fun _ _ K pc lv st M => match st with
  | .inl b :: .inl a :: r => (a < b → K t lv r M) ∧ (b ≤ a → K nx lv r M)
  | _ => False
theorem sn_icmplt {y : dt_Y} {nx pc t : Nat} {o : Int} (hd : decode y.2.1 pc = .ok (.if_icmp .lt o, 3)) (ht : (pc : Int) + o = (t : Int)) (hx9 : nx = pc + 3) : dt_S y (tc_icmplt t nx) pc := by
  subst hx9
  intro d Q K hK lv st M h
  unfold tc_icmplt at h
  split at h
  · next b a r =>
    intro ok p l e R s m args below meth c cells slots Qf D ad cA A C H locs ls hW hL
    have rb : dt_r b := ds_h ok.2.1
    have ra : dt_r a := ds_h (ds_t ok.2.1)
    have e9 := dn_lt ra rb
    exact lv_icmp_lt C.1 C.2.1 hd ht (fun q => hK _ _ _ _ (h.1 (e9.mp q)) ⟨ok.1, ds_t (ds_t ok.2.1), ok.2.2⟩ p l e R s m args below meth c cells slots Qf D ad cA A C H locs ls hW hL) (fun q => hK _ _ _ _ (h.2 (Int.not_lt.mp (fun z => q (e9.mpr z)))) ⟨ok.1, ds_t (ds_t ok.2.1), ok.2.2⟩ p l e R s m args below meth c cells slots Qf D ad cA A C H locs ls hW hL)
  · exact h.elim
def tc_ifge (t : Nat) (nx : Nat) : dt_T := fun _ _ K pc lv st M => match st with
  | .inl a :: r => (0 ≤ a → K t lv r M) ∧ (a < 0 → K nx lv r M)
  | _ => False
theorem sn_ifge {y : dt_Y} {nx pc t : Nat} {o : Int} (hd : decode y.2.1 pc = .ok (.ifCond .ge o, 3)) (ht : (pc : Int) + o = (t : Int)) (hx9 : nx = pc + 3) : dt_S y (tc_ifge t nx) pc := by
  subst hx9
  intro d Q K hK lv st M h
  unfold tc_ifge at h
  split at h
  · next a r =>
    intro ok p l e R s m args below meth c cells slots Qf D ad cA A C H locs ls hW hL
    have ra : dt_r a := ds_h ok.2.1
    have e9 := dn_0le ra
    exact lv_if_ge C.1 C.2.1 hd ht (fun q => hK _ _ _ _ (h.1 (e9.mp q)) ⟨ok.1, ds_t ok.2.1, ok.2.2⟩ p l e R s m args below meth c cells slots Qf D ad cA A C H locs ls hW hL) (fun q => hK _ _ _ _ (h.2 (Int.not_le.mp (fun z => q (e9.mpr z)))) ⟨ok.1, ds_t ok.2.1, ok.2.2⟩ p l e R s m args below meth c cells slots Qf D ad cA A C H locs ls hW hL)
  · exact h.elim
def tc_icmpge (t : Nat) (nx : Nat) : dt_T := fun _ _ K pc lv st M => match st with
  | .inl b :: .inl a :: r => (b ≤ a → K t lv r M) ∧ (a < b → K nx lv r M)
  | _ => False
theorem sn_icmpge {y : dt_Y} {nx pc t : Nat} {o : Int} (hd : decode y.2.1 pc = .ok (.if_icmp .ge o, 3)) (ht : (pc : Int) + o = (t : Int)) (hx9 : nx = pc + 3) : dt_S y (tc_icmpge t nx) pc := by
  subst hx9
  intro d Q K hK lv st M h
  unfold tc_icmpge at h
  split at h
  · next b a r =>
    intro ok p l e R s m args below meth c cells slots Qf D ad cA A C H locs ls hW hL
    have rb : dt_r b := ds_h ok.2.1
    have ra : dt_r a := ds_h (ds_t ok.2.1)
    have e9 := dn_le rb ra
    exact lv_icmp_ge C.1 C.2.1 hd ht (fun q => hK _ _ _ _ (h.1 (e9.mp q)) ⟨ok.1, ds_t (ds_t ok.2.1), ok.2.2⟩ p l e R s m args below meth c cells slots Qf D ad cA A C H locs ls hW hL) (fun q => hK _ _ _ _ (h.2 (Int.not_le.mp (fun z => q (e9.mpr z)))) ⟨ok.1, ds_t (ds_t ok.2.1), ok.2.2⟩ p l e R s m args below meth c cells slots Qf D ad cA A C H locs ls hW hL)
  · exact h.elim
def tc_ifgt (t : Nat) (nx : Nat) : dt_T := fun _ _ K pc lv st M => match st with
  | .inl a :: r => (0 < a → K t lv r M) ∧ (a ≤ 0 → K nx lv r M)
  | _ => False
theorem sn_ifgt {y : dt_Y} {nx pc t : Nat} {o : Int} (hd : decode y.2.1 pc = .ok (.ifCond .gt o, 3)) (ht : (pc : Int) + o = (t : Int)) (hx9 : nx = pc + 3) : dt_S y (tc_ifgt t nx) pc := by
  subst hx9
  intro d Q K hK lv st M h
  unfold tc_ifgt at h
  split at h
  · next a r =>
    intro ok p l e R s m args below meth c cells slots Qf D ad cA A C H locs ls hW hL
    have ra : dt_r a := ds_h ok.2.1
    have e9 := dn_0lt ra
    exact lv_if_gt C.1 C.2.1 hd ht (fun q => hK _ _ _ _ (h.1 (e9.mp q)) ⟨ok.1, ds_t ok.2.1, ok.2.2⟩ p l e R s m args below meth c cells slots Qf D ad cA A C H locs ls hW hL) (fun q => hK _ _ _ _ (h.2 (Int.not_lt.mp (fun z => q (e9.mpr z)))) ⟨ok.1, ds_t ok.2.1, ok.2.2⟩ p l e R s m args below meth c cells slots Qf D ad cA A C H locs ls hW hL)
  · exact h.elim
def tc_icmpgt (t : Nat) (nx : Nat) : dt_T := fun _ _ K pc lv st M => match st with
  | .inl b :: .inl a :: r => (b < a → K t lv r M) ∧ (a ≤ b → K nx lv r M)
  | _ => False
theorem sn_icmpgt {y : dt_Y} {nx pc t : Nat} {o : Int} (hd : decode y.2.1 pc = .ok (.if_icmp .gt o, 3)) (ht : (pc : Int) + o = (t : Int)) (hx9 : nx = pc + 3) : dt_S y (tc_icmpgt t nx) pc := by
  subst hx9
  intro d Q K hK lv st M h
  unfold tc_icmpgt at h
  split at h
  · next b a r =>
    intro ok p l e R s m args below meth c cells slots Qf D ad cA A C H locs ls hW hL
    have rb : dt_r b := ds_h ok.2.1
    have ra : dt_r a := ds_h (ds_t ok.2.1)
    have e9 := dn_lt rb ra
    exact lv_icmp_gt C.1 C.2.1 hd ht (fun q => hK _ _ _ _ (h.1 (e9.mp q)) ⟨ok.1, ds_t (ds_t ok.2.1), ok.2.2⟩ p l e R s m args below meth c cells slots Qf D ad cA A C H locs ls hW hL) (fun q => hK _ _ _ _ (h.2 (Int.not_lt.mp (fun z => q (e9.mpr z)))) ⟨ok.1, ds_t (ds_t ok.2.1), ok.2.2⟩ p l e R s m args below meth c cells slots Qf D ad cA A C H locs ls hW hL)
  · exact h.elim
def tc_ifle (t : Nat) (nx : Nat) : dt_T := fun _ _ K pc lv st M => match st with
  | .inl a :: r => (a ≤ 0 → K t lv r M) ∧ (0 < a → K nx lv r M)
  | _ => False
theorem sn_ifle {y : dt_Y} {nx pc t : Nat} {o : Int} (hd : decode y.2.1 pc = .ok (.ifCond .le o, 3)) (ht : (pc : Int) + o = (t : Int)) (hx9 : nx = pc + 3) : dt_S y (tc_ifle t nx) pc := by
  subst hx9
  intro d Q K hK lv st M h
  unfold tc_ifle at h
  split at h
  · next a r =>
    intro ok p l e R s m args below meth c cells slots Qf D ad cA A C H locs ls hW hL
    have ra : dt_r a := ds_h ok.2.1
    have e9 := dn_le0 ra
    exact lv_if_le C.1 C.2.1 hd ht (fun q => hK _ _ _ _ (h.1 (e9.mp q)) ⟨ok.1, ds_t ok.2.1, ok.2.2⟩ p l e R s m args below meth c cells slots Qf D ad cA A C H locs ls hW hL) (fun q => hK _ _ _ _ (h.2 (Int.not_le.mp (fun z => q (e9.mpr z)))) ⟨ok.1, ds_t ok.2.1, ok.2.2⟩ p l e R s m args below meth c cells slots Qf D ad cA A C H locs ls hW hL)
  · exact h.elim
def tc_icmple (t : Nat) (nx : Nat) : dt_T := fun _ _ K pc lv st M => match st with
  | .inl b :: .inl a :: r => (a ≤ b → K t lv r M) ∧ (b < a → K nx lv r M)
  | _ => False
theorem sn_icmple {y : dt_Y} {nx pc t : Nat} {o : Int} (hd : decode y.2.1 pc = .ok (.if_icmp .le o, 3)) (ht : (pc : Int) + o = (t : Int)) (hx9 : nx = pc + 3) : dt_S y (tc_icmple t nx) pc := by
  subst hx9
  intro d Q K hK lv st M h
  unfold tc_icmple at h
  split at h
  · next b a r =>
    intro ok p l e R s m args below meth c cells slots Qf D ad cA A C H locs ls hW hL
    have rb : dt_r b := ds_h ok.2.1
    have ra : dt_r a := ds_h (ds_t ok.2.1)
    have e9 := dn_le ra rb
    exact lv_icmp_le C.1 C.2.1 hd ht (fun q => hK _ _ _ _ (h.1 (e9.mp q)) ⟨ok.1, ds_t (ds_t ok.2.1), ok.2.2⟩ p l e R s m args below meth c cells slots Qf D ad cA A C H locs ls hW hL) (fun q => hK _ _ _ _ (h.2 (Int.not_le.mp (fun z => q (e9.mpr z)))) ⟨ok.1, ds_t (ds_t ok.2.1), ok.2.2⟩ p l e R s m args below meth c cells slots Qf D ad cA A C H locs ls hW hL)
  · exact h.elim
end
section
/-! ===== fields and arrays ===== -/
/-- what is known of a class: its row, its words, its fields' types and names -/
def dt_F (ci : Nat) (C : String) (T : u_T) (N : Nat) : Prop := vwCl[ci]? = some (C, T, N) ∧ (∀ w ∈ u_ws C T N, w ∈ dt_W0) ∧ (∃ ty : Nat → FieldType, ∀ k, k < N → parseFieldDescriptor (T k).2.2.1 = some (ty k)) ∧ (∀ a, a < N → ∀ b, b < N → a ≠ b → (T a).2.1 ≠ (T b).2.1)
def dt_cn (k : Nat) : Bool := !(Nat.ble 4 (dt_kd k).1) || ((vwCl[(dt_kd k).1 - 4]?).map (fun q => q.2.2) == some (dt_kd k).2)
theorem dk_cn : (List.range 86).all dt_cn = true := by decide +kernel
theorem dk_N {ci k n N : Nat} {C : String} {T : u_T} (hk : dt_kd k = (ci + 4, n)) (hc : ci < 46) (hF : vwCl[ci]? = some (C, T, N)) : n = N := by
  have h := List.all_eq_true.mp dk_cn k (List.mem_range.mpr (dk_lt hk (by omega)))
  unfold dt_cn at h
  rw [hk] at h
  simp only at h
  rw [show Nat.ble 4 (ci + 4) = true from Nat.ble_eq.mpr (by omega), Bool.not_true, Bool.false_or, show ci + 4 - 4 = ci by omega, hF] at h
  have h2 : some N = some n := eq_of_beq h
  cases h2; rfl
theorem dk_c8 {ci : Nat} {q : vw_C} (h : vwCl[ci]? = some q) : ci < 46 := by
  have := (List.getElem?_eq_some_iff.mp h).1
  have e : vwCl.length = 8 := rfl
  omega
theorem dt_cd {b : Bool} {A : Prop} (h : cond b A False) : b = true ∧ A := by
  cases b
  · exact h.elim
  · exact ⟨rfl, h⟩
def tc_getf (ci j : Nat) (nx : Nat) : dt_T := fun _ _ K pc lv st M => match st with
  | .inr (.inr (t, _, k)) :: r => cond (t == ci + 4) (K nx lv (dt_gf ci j k M :: r) M) False
  | _ => False
theorem sn_getf {y : dt_Y} {nx pc ci j index N : Nat} {own C : String} {T : u_T} (ho : y.1.cls = own) (hF : dt_F ci C T N) (hj : j < N) (hw : Cond.fieldLink own index (T j).1 (T j).2.1 (T j).2.2.1 ∈ dt_W0) (hd : decode y.2.1 pc = .ok (.getfield index, 3)) (hx9 : nx = pc + 3) : dt_S y (tc_getf ci j nx) pc := by
  subst hx9
  intro d Q K hK lv st M h
  unfold tc_getf at h
  split at h
  · next t n k r =>
    obtain ⟨ht0, h9⟩ := dt_cd h
    have ht : t = ci + 4 := eq_of_beq ht0
    clear h
    subst ht
    intro ok p l e R s m args below meth c cells slots Qf D ad cA A C H locs ls hW hL
    have hk : dt_kd k = (ci + 4, n) := ds_h ok.2.1
    have hn := dk_N hk (dk_c8 hF.1) hF.1
    subst hn
    have := hK _ _ _ _ h9 ⟨ok.1, ds_c (dk_gf ok.2.2 hk (dk_c8 hF.1) hj) (ds_t ok.2.1), ok.2.2⟩ p l e R s m args below meth c cells slots Qf D ad cA A C H locs ls hW hL
    refine va_get C.1 C.2.1 C.2.2.2.2.1 hF.2.1 (own := own) (ho ▸ C.2.2.2.1) C.2.2.2.2.2.1 hW.1 k (by rw [dw_at (dk_lt hk (by have := dk_c8 hF.1; omega)), dw_obj hk]) hF.1 j hj (C.2.2.2.2.1 _ hw) (fun _ h9 => h9) (v := dt_cv ad (dt_gf ci j k M)) (by simp [hj]) hd this
  · exact h.elim
theorem sn_getfN {y : dt_Y} {nx pc ci j index N : Nat} {own C host : String} {T : u_T} (ho : y.1.cls = own) (hF : dt_F ci C T N) (hj : j < N) (hw : Cond.fieldLinkNest own index (T j).1 (T j).2.1 (T j).2.2.1 host ∈ dt_NW) (hd : decode y.2.1 pc = .ok (.getfield index, 3)) (hx9 : nx = pc + 3) : dt_S y (tc_getf ci j nx) pc := by
  subst hx9
  intro d Q K hK lv st M h
  unfold tc_getf at h
  split at h
  · next t n k r =>
    obtain ⟨ht0, h9⟩ := dt_cd h
    have ht : t = ci + 4 := eq_of_beq ht0
    clear h
    subst ht
    intro ok p l e R s m args below meth c cells slots Qf D ad cA A C H locs ls hW hL
    have hk : dt_kd k = (ci + 4, n) := ds_h ok.2.1
    have hn := dk_N hk (dk_c8 hF.1) hF.1
    subst hn
    have := hK _ _ _ _ h9 ⟨ok.1, ds_c (dk_gf ok.2.2 hk (dk_c8 hF.1) hj) (ds_t ok.2.1), ok.2.2⟩ p l e R s m args below meth c cells slots Qf D ad cA A C H locs ls hW hL
    refine va_getN C.1 C.2.1 C.2.2.2.2.1 hF.2.1 (own := own) (ho ▸ C.2.2.2.1) C.2.2.2.2.2.1 hW.1 k (by rw [dw_at (dk_lt hk (by have := dk_c8 hF.1; omega)), dw_obj hk]) hF.1 j hj (va_Nw.use rfl (C.2.2.2.2.2.2.1 _ hw)) (fun _ h9 => h9) (v := dt_cv ad (dt_gf ci j k M)) (by simp [hj]) hd this
  · exact h.elim
theorem dw_putI {M : dt_M} {ad : Nat → Nat} {cA : Nat → ClassId} {ci j k N : Nat} {x : Int} (hk : dt_kd k = (ci + 4, N)) (hj : j < N) (h0 : (dt_fd ci j).1 = 0) : dt_wc (dt_wi M k j x) ad cA k = .inr (ci, ((List.range N).map (fun i => dt_cv ad (dt_gf ci i k M))).set j (.int (Int32.ofInt x))) := by
  rw [dw_obj hk]
  congr 2
  apply List.ext_getElem?
  intro i
  by_cases hij : i = j
  · subst hij
    rw [List.getElem?_set_self (by simpa using hj)]
    simp only [List.getElem?_map, List.getElem?_range hj, Option.map_some]
    congr 1
    unfold dt_gf
    obtain ⟨a, b, c, d, hq⟩ : ∃ a b c d, dt_fd ci i = (a, b, c, d) := ⟨_, _, _, _, rfl⟩
    rw [hq] at h0 ⊢
    simp only at h0
    subst h0
    simp only [dm_wi1, dm_up1, dt_cv]
  · rw [List.getElem?_set_ne (Ne.symm hij)]
    by_cases hi : i < N
    · simp only [List.getElem?_map, List.getElem?_range hi, Option.map_some]
      congr 2
      unfold dt_gf
      rw [dm_wi1, dm_up2 hij, dm_wi3]
    · rw [List.getElem?_eq_none (by simp; omega), List.getElem?_eq_none (by simp; omega)]
theorem dw_putL {M : dt_M} {ad : Nat → Nat} {cA : Nat → ClassId} {ci j k N : Nat} {x : Int} (hk : dt_kd k = (ci + 4, N)) (hj : j < N) (h0 : (dt_fd ci j).1 = 1) : dt_wc (dt_wl M k j x) ad cA k = .inr (ci, ((List.range N).map (fun i => dt_cv ad (dt_gf ci i k M))).set j (.long (Int64.ofInt x))) := by
  rw [dw_obj hk]
  congr 2
  apply List.ext_getElem?
  intro i
  by_cases hij : i = j
  · subst hij
    rw [List.getElem?_set_self (by simpa using hj)]
    simp only [List.getElem?_map, List.getElem?_range hj, Option.map_some]
    congr 1
    unfold dt_gf
    obtain ⟨a, b, c, d, hq⟩ : ∃ a b c d, dt_fd ci i = (a, b, c, d) := ⟨_, _, _, _, rfl⟩
    rw [hq] at h0 ⊢
    simp only at h0
    subst h0
    simp only [dm_wl1, dm_up1, dt_cv]
  · rw [List.getElem?_set_ne (Ne.symm hij)]
    by_cases hi : i < N
    · simp only [List.getElem?_map, List.getElem?_range hi, Option.map_some]
      congr 2
      unfold dt_gf
      rw [dm_wl1, dm_up2 hij, dm_wl3]
    · rw [List.getElem?_eq_none (by simp; omega), List.getElem?_eq_none (by simp; omega)]
theorem dw_onlyi {M : dt_M} {k j : Nat} {x : Int} : ∀ i, i ≠ k → (dt_wi M k j x).1 i = M.1 i ∧ (dt_wi M k j x).2 i = M.2 i := fun _ h => ⟨dm_wi2 h, rfl⟩
theorem dw_onlyl {M : dt_M} {k j : Nat} {x : Int} : ∀ i, i ≠ k → (dt_wl M k j x).1 i = M.1 i ∧ (dt_wl M k j x).2 i = M.2 i := fun _ h => ⟨rfl, dm_wl2 h⟩
def tc_putI (ci j : Nat) (nx : Nat) : dt_T := fun _ _ K pc lv st M => match st with
  | .inl x :: .inr (.inr (t, _, k)) :: r => cond (t == ci + 4) (∀ M1, M1 = dt_wi M k j x → K nx lv r M1) False
  | _ => False
theorem sn_putI {y : dt_Y} {nx pc ci j index N : Nat} {own C : String} {T : u_T} (ho : y.1.cls = own) (hF : dt_F ci C T N) (hj : j < N) (h0 : (dt_fd ci j).1 = 0) (hfin : (T j).2.2.2 = false) (hty : parseFieldDescriptor (T j).2.2.1 = some .int) (hw : Cond.fieldLink own index (T j).1 (T j).2.1 (T j).2.2.1 ∈ dt_W0) (hd : decode y.2.1 pc = .ok (.putfield index, 3)) (hx9 : nx = pc + 3) : dt_S y (tc_putI ci j nx) pc := by
  subst hx9
  intro d Q K hK lv st M h
  unfold tc_putI at h
  split at h
  · next x t n k r =>
    obtain ⟨ht0, h9⟩ := dt_cd h
    have ht : t = ci + 4 := eq_of_beq ht0
    clear h
    subst ht
    intro ok p l e R s m args below meth c cells slots Qf D ad cA A C H locs ls hW hL
    have hk : dt_kd k = (ci + 4, n) := ds_h (ds_t ok.2.1)
    have hn := dk_N hk (dk_c8 hF.1) hF.1
    subst hn
    have hkl := dk_lt hk (by have := dk_c8 hF.1; omega)
    obtain ⟨ty0, hty0⟩ := hF.2.2.1
    refine va_put C.1 C.2.1 C.2.2.2.2.1 hF.2.1 ty0 hty0 hF.2.2.2 (own := own) (ho ▸ C.2.2.2.1) C.2.2.2.2.2.1 hW.1 hW.2.1 hW.2.2 k (by rw [dw_at hkl, dw_obj hk]) hF.1 j hj (C.2.2.2.2.1 _ hw) (fun _ h9 => h9) hfin (v := .int (Int32.ofInt x)) hty (vp_nar_int _) rfl (by simpa using hj) hd (fun H1 locs1 hP1 hD1 hS1 => ?_)
    rw [dw_set hkl (dw_putI hk hj h0) dw_onlyi] at hP1 hD1
    exact hK _ _ _ _ (h9 _ rfl) ⟨ok.1, ds_t (ds_t ok.2.1), dm_rwi ok.2.2 (ds_h ok.2.1)⟩ p l e R s m args below meth c cells slots Qf D ad cA A C H1 locs1 ls ⟨hP1, hD1, hS1⟩ hL
  · exact h.elim
theorem sn_putIN {y : dt_Y} {nx pc ci j index N : Nat} {own C host : String} {T : u_T} (ho : y.1.cls = own) (hF : dt_F ci C T N) (hj : j < N) (h0 : (dt_fd ci j).1 = 0) (hfin : (T j).2.2.2 = false) (hty : parseFieldDescriptor (T j).2.2.1 = some .int) (hw : Cond.fieldLinkNest own index (T j).1 (T j).2.1 (T j).2.2.1 host ∈ dt_NW) (hd : decode y.2.1 pc = .ok (.putfield index, 3)) (hx9 : nx = pc + 3) : dt_S y (tc_putI ci j nx) pc := by
  subst hx9
  intro d Q K hK lv st M h
  unfold tc_putI at h
  split at h
  · next x t n k r =>
    obtain ⟨ht0, h9⟩ := dt_cd h
    have ht : t = ci + 4 := eq_of_beq ht0
    clear h
    subst ht
    intro ok p l e R s m args below meth c cells slots Qf D ad cA A C H locs ls hW hL
    have hk : dt_kd k = (ci + 4, n) := ds_h (ds_t ok.2.1)
    have hn := dk_N hk (dk_c8 hF.1) hF.1
    subst hn
    have hkl := dk_lt hk (by have := dk_c8 hF.1; omega)
    obtain ⟨ty0, hty0⟩ := hF.2.2.1
    refine va_putN C.1 C.2.1 C.2.2.2.2.1 hF.2.1 ty0 hty0 hF.2.2.2 (own := own) (ho ▸ C.2.2.2.1) C.2.2.2.2.2.1 hW.1 hW.2.1 hW.2.2 k (by rw [dw_at hkl, dw_obj hk]) hF.1 j hj (va_Nw.use rfl (C.2.2.2.2.2.2.1 _ hw)) (fun _ h9 => h9) hfin (v := .int (Int32.ofInt x)) hty (vp_nar_int _) rfl (by simpa using hj) hd (fun H1 locs1 hP1 hD1 hS1 => ?_)
    rw [dw_set hkl (dw_putI hk hj h0) dw_onlyi] at hP1 hD1
    exact hK _ _ _ _ (h9 _ rfl) ⟨ok.1, ds_t (ds_t ok.2.1), dm_rwi ok.2.2 (ds_h ok.2.1)⟩ p l e R s m args below meth c cells slots Qf D ad cA A C H1 locs1 ls ⟨hP1, hD1, hS1⟩ hL
  · exact h.elim
def tc_putL (ci j : Nat) (nx : Nat) : dt_T := fun _ _ K pc lv st M => match st with
  | .inr (.inl x) :: .inr (.inr (t, _, k)) :: r => cond (t == ci + 4) (∀ M1, M1 = dt_wl M k j x → K nx lv r M1) False
  | _ => False
theorem sn_putL {y : dt_Y} {nx pc ci j index N : Nat} {own C : String} {T : u_T} (ho : y.1.cls = own) (hF : dt_F ci C T N) (hj : j < N) (h0 : (dt_fd ci j).1 = 1) (hfin : (T j).2.2.2 = false) (hty : parseFieldDescriptor (T j).2.2.1 = some .long) (hw : Cond.fieldLink own index (T j).1 (T j).2.1 (T j).2.2.1 ∈ dt_W0) (hd : decode y.2.1 pc = .ok (.putfield index, 3)) (hx9 : nx = pc + 3) : dt_S y (tc_putL ci j nx) pc := by
  subst hx9
  intro d Q K hK lv st M h
  unfold tc_putL at h
  split at h
  · next x t n k r =>
    obtain ⟨ht0, h9⟩ := dt_cd h
    have ht : t = ci + 4 := eq_of_beq ht0
    clear h
    subst ht
    intro ok p l e R s m args below meth c cells slots Qf D ad cA A C H locs ls hW hL
    have hk : dt_kd k = (ci + 4, n) := ds_h (ds_t ok.2.1)
    have hn := dk_N hk (dk_c8 hF.1) hF.1
    subst hn
    have hkl := dk_lt hk (by have := dk_c8 hF.1; omega)
    obtain ⟨ty0, hty0⟩ := hF.2.2.1
    refine va_put C.1 C.2.1 C.2.2.2.2.1 hF.2.1 ty0 hty0 hF.2.2.2 (own := own) (ho ▸ C.2.2.2.1) C.2.2.2.2.2.1 hW.1 hW.2.1 hW.2.2 k (by rw [dw_at hkl, dw_obj hk]) hF.1 j hj (C.2.2.2.2.1 _ hw) (fun _ h9 => h9) hfin (v := .long (Int64.ofInt x)) hty (rfl) rfl (by simpa using hj) hd (fun H1 locs1 hP1 hD1 hS1 => ?_)
    rw [dw_set hkl (dw_putL hk hj h0) dw_onlyl] at hP1 hD1
    exact hK _ _ _ _ (h9 _ rfl) ⟨ok.1, ds_t (ds_t ok.2.1), dm_rwl ok.2.2 (ds_h ok.2.1)⟩ p l e R s m args below meth c cells slots Qf D ad cA A C H1 locs1 ls ⟨hP1, hD1, hS1⟩ hL
  · exact h.elim
theorem sn_putLN {y : dt_Y} {nx pc ci j index N : Nat} {own C host : String} {T : u_T} (ho : y.1.cls = own) (hF : dt_F ci C T N) (hj : j < N) (h0 : (dt_fd ci j).1 = 1) (hfin : (T j).2.2.2 = false) (hty : parseFieldDescriptor (T j).2.2.1 = some .long) (hw : Cond.fieldLinkNest own index (T j).1 (T j).2.1 (T j).2.2.1 host ∈ dt_NW) (hd : decode y.2.1 pc = .ok (.putfield index, 3)) (hx9 : nx = pc + 3) : dt_S y (tc_putL ci j nx) pc := by
  subst hx9
  intro d Q K hK lv st M h
  unfold tc_putL at h
  split at h
  · next x t n k r =>
    obtain ⟨ht0, h9⟩ := dt_cd h
    have ht : t = ci + 4 := eq_of_beq ht0
    clear h
    subst ht
    intro ok p l e R s m args below meth c cells slots Qf D ad cA A C H locs ls hW hL
    have hk : dt_kd k = (ci + 4, n) := ds_h (ds_t ok.2.1)
    have hn := dk_N hk (dk_c8 hF.1) hF.1
    subst hn
    have hkl := dk_lt hk (by have := dk_c8 hF.1; omega)
    obtain ⟨ty0, hty0⟩ := hF.2.2.1
    refine va_putN C.1 C.2.1 C.2.2.2.2.1 hF.2.1 ty0 hty0 hF.2.2.2 (own := own) (ho ▸ C.2.2.2.1) C.2.2.2.2.2.1 hW.1 hW.2.1 hW.2.2 k (by rw [dw_at hkl, dw_obj hk]) hF.1 j hj (va_Nw.use rfl (C.2.2.2.2.2.2.1 _ hw)) (fun _ h9 => h9) hfin (v := .long (Int64.ofInt x)) hty (rfl) rfl (by simpa using hj) hd (fun H1 locs1 hP1 hD1 hS1 => ?_)
    rw [dw_set hkl (dw_putL hk hj h0) dw_onlyl] at hP1 hD1
    exact hK _ _ _ _ (h9 _ rfl) ⟨ok.1, ds_t (ds_t ok.2.1), dm_rwl ok.2.2 (ds_h ok.2.1)⟩ p l e R s m args below meth c cells slots Qf D ad cA A C H1 locs1 ls ⟨hP1, hD1, hS1⟩ hL
  · exact h.elim
def tc_iald (nx : Nat) : dt_T := fun _ _ K pc lv st M => match st with
  | .inl i :: .inr (.inr (0, n, k)) :: r => (0 ≤ i ∧ i < (n : Int)) ∧ K nx lv (.inl (M.1 k i.toNat) :: r) M
  | _ => False
theorem sn_iald {y : dt_Y} {nx pc : Nat} (hd : decode y.2.1 pc = .ok (.iaload, 1)) (hx9 : nx = pc + 1) : dt_S y (tc_iald nx) pc := by
  subst hx9
  intro d Q K hK lv st M h
  unfold tc_iald at h
  split at h
  · next i n k r =>
    intro ok p l e R s m args below meth c cells slots Qf D ad cA A C H locs ls hW hL
    have hk : dt_kd k = (0, n) := ds_h (ds_t ok.2.1)
    have hi : dt_r i := ds_h ok.2.1
    have hkl := dk_lt hk (by decide)
    have := hK _ _ _ _ h.2 ⟨ok.1, ds_c (show dt_okv _ from ok.2.2.1 _ _) (ds_t (ds_t ok.2.1)), ok.2.2⟩ p l e R s m args below meth c cells slots Qf D ad cA A C H locs ls hW hL
    refine va_iald C.1 C.2.1 C.2.2.2.2.2.1 hW.1 k 0 (by rw [dw_at hkl, dw_int hk]) rfl (dn_in hi h.1.1 h.1.2) hd ?_
    rw [dn_cl hi]
    exact this
  · exact h.elim
def tc_zald (nx : Nat) : dt_T := fun _ _ K pc lv st M => match st with
  | .inl i :: .inr (.inr (1, n, k)) :: r => (0 ≤ i ∧ i < (n : Int)) ∧ K nx lv (.inl (M.1 k i.toNat) :: r) M
  | _ => False
theorem sn_zald {y : dt_Y} {nx pc : Nat} (hd : decode y.2.1 pc = .ok (.baload, 1)) (hx9 : nx = pc + 1) : dt_S y (tc_zald nx) pc := by
  subst hx9
  intro d Q K hK lv st M h
  unfold tc_zald at h
  split at h
  · next i n k r =>
    intro ok p l e R s m args below meth c cells slots Qf D ad cA A C H locs ls hW hL
    have hk : dt_kd k = (1, n) := ds_h (ds_t ok.2.1)
    have hi : dt_r i := ds_h ok.2.1
    have hkl := dk_lt hk (by decide)
    have := hK _ _ _ _ h.2 ⟨ok.1, ds_c (show dt_okv _ from ok.2.2.1 _ _) (ds_t (ds_t ok.2.1)), ok.2.2⟩ p l e R s m args below meth c cells slots Qf D ad cA A C H locs ls hW hL
    refine va_zald C.1 C.2.1 C.2.2.2.2.2.1 hW.1 k 1 (by rw [dw_at hkl, dw_bool hk]) rfl (dn_in hi h.1.1 h.1.2) hd ?_
    rw [dn_cl hi]
    exact this
  · exact h.elim
def tc_lald (nx : Nat) : dt_T := fun _ _ K pc lv st M => match st with
  | .inl i :: .inr (.inr (2, n, k)) :: r => (0 ≤ i ∧ i < (n : Int)) ∧ K nx lv (.inr (.inl (M.2 k i.toNat)) :: r) M
  | _ => False
theorem sn_lald {y : dt_Y} {nx pc : Nat} (hd : decode y.2.1 pc = .ok (.laload, 1)) (hx9 : nx = pc + 1) : dt_S y (tc_lald nx) pc := by
  subst hx9
  intro d Q K hK lv st M h
  unfold tc_lald at h
  split at h
  · next i n k r =>
    intro ok p l e R s m args below meth c cells slots Qf D ad cA A C H locs ls hW hL
    have hk : dt_kd k = (2, n) := ds_h (ds_t ok.2.1)
    have hi : dt_r i := ds_h ok.2.1
    have hkl := dk_lt hk (by decide)
    have := hK _ _ _ _ h.2 ⟨ok.1, ds_c (show dt_okv _ from ok.2.2.2 _ _) (ds_t (ds_t ok.2.1)), ok.2.2⟩ p l e R s m args below meth c cells slots Qf D ad cA A C H locs ls hW hL
    refine va_lald C.1 C.2.1 C.2.2.2.2.2.1 hW.1 k 2 (by rw [dw_at hkl, dw_long hk]) rfl (dn_in hi h.1.1 h.1.2) hd ?_
    rw [dn_cl hi]
    exact this
  · exact h.elim
theorem dk_T0 : ∀ k, k < 86 → (dt_kd k).1 = 3 → (dt_kd k).2 = 4 := by decide +kernel
theorem dk_T (k i n : Nat) (hk : k < 86) (h : dt_kd k = (3, n)) (hi : i < n) : dt_okv (.inr (.inr (9, 9, 2 + 8 * i))) := by
  have h4 := dk_T0 k hk (by rw [h])
  rw [h] at h4
  simp only at h4
  subst h4
  match i, hi with
  | 0, _ => exact (by decide +kernel : dt_kd 2 = (9, 9))
  | 1, _ => exact (by decide +kernel : dt_kd 10 = (9, 9))
  | 2, _ => exact (by decide +kernel : dt_kd 18 = (9, 9))
  | 3, _ => exact (by decide +kernel : dt_kd 26 = (9, 9))
  | i + 4, h => omega
def tc_aald (nx : Nat) : dt_T := fun _ _ K pc lv st M => match st with
  | .inl i :: .inr (.inr (3, n, k)) :: r => (0 ≤ i ∧ i < (n : Int)) ∧ K nx lv (.inr (.inr (9, 9, 2 + 8 * i.toNat)) :: r) M
  | _ => False
theorem sn_aald {y : dt_Y} {nx pc : Nat} (hd : decode y.2.1 pc = .ok (.aaload, 1)) (hx9 : nx = pc + 1) : dt_S y (tc_aald nx) pc := by
  subst hx9
  intro d Q K hK lv st M h
  unfold tc_aald at h
  split at h
  · next i n k r =>
    intro ok p l e R s m args below meth c cells slots Qf D ad cA A C H locs ls hW hL
    have hk : dt_kd k = (3, n) := ds_h (ds_t ok.2.1)
    have hi : dt_r i := ds_h ok.2.1
    have hkl := dk_lt hk (by decide)
    have hz : dt_okv (.inr (.inr (9, 9, 2 + 8 * i.toNat))) := dk_T k i.toNat n hkl hk (by have := h.1; omega)
    have := hK _ _ _ _ h.2 ⟨ok.1, ds_c (hz) (ds_t (ds_t ok.2.1)), ok.2.2⟩ p l e R s m args below meth c cells slots Qf D ad cA A C H locs ls hW hL
    refine va_aldq C.1 C.2.1 C.2.2.2.2.2.1 hW.1 k 3 (by rw [dw_at hkl, dw_refs hk]) rfl (dn_in hi h.1.1 h.1.2) hd ?_
    rw [dn_cl hi]
    exact this
  · exact h.elim
def tc_iast (nx : Nat) : dt_T := fun _ _ K pc lv st M => match st with
  | .inl x :: .inl i :: .inr (.inr (0, n, k)) :: r => (0 ≤ i ∧ i < (n : Int)) ∧ ∀ M1, M1 = dt_wi M k i.toNat x → K nx lv r M1
  | _ => False
theorem sn_iast {y : dt_Y} {nx pc : Nat} (hd : decode y.2.1 pc = .ok (.iastore, 1)) (hx9 : nx = pc + 1) : dt_S y (tc_iast nx) pc := by
  subst hx9
  intro d Q K hK lv st M h
  unfold tc_iast at h
  split at h
  · next x i n k r =>
    intro ok p l e R s m args below meth c cells slots Qf D ad cA A C H locs ls hW hL
    have hk : dt_kd k = (0, n) := ds_h (ds_t (ds_t ok.2.1))
    have hi : dt_r i := ds_h (ds_t ok.2.1)
    have hkl := dk_lt hk (by decide)
    refine va_iast C.1 C.2.1 C.2.2.2.2.2.1 hW.1 hW.2.1 hW.2.2 k 0 (by rw [dw_at hkl, dw_int hk]) rfl (dn_in hi h.1.1 h.1.2) hd (fun H1 locs1 hP1 hD1 hS1 => ?_)
    have e8 : dt_wc (dt_wi M k i.toNat x) ad cA k = .inl (cA 0, n, .inl (upd (fun j => Int32.ofInt (M.1 k j)) (Int32.ofInt i).toNatClampNeg (Int32.ofInt x))) := by
      rw [dw_int hk, dn_cl hi]
      congr 4
      funext j
      by_cases hj : j = i.toNat
      · simp [upd, hj, dm_wi1, dm_up1]
      · simp [upd, hj, dm_wi1, dm_up2 hj]
    rw [dw_set hkl e8 dw_onlyi] at hP1 hD1
    exact hK _ _ _ _ (h.2 _ rfl) ⟨ok.1, ds_t (ds_t (ds_t ok.2.1)), dm_rwi ok.2.2 (ds_h ok.2.1)⟩ p l e R s m args below meth c cells slots Qf D ad cA A C H1 locs1 ls ⟨hP1, hD1, hS1⟩ hL
  · exact h.elim
def tc_zast (nx : Nat) : dt_T := fun _ _ K pc lv st M => match st with
  | .inl x :: .inl i :: .inr (.inr (1, n, k)) :: r => (0 ≤ i ∧ i < (n : Int)) ∧ (x = 0 ∨ x = 1) ∧ ∀ M1, M1 = dt_wi M k i.toNat x → K nx lv r M1
  | _ => False
theorem sn_zast {y : dt_Y} {nx pc : Nat} (hd : decode y.2.1 pc = .ok (.bastore, 1)) (hx9 : nx = pc + 1) : dt_S y (tc_zast nx) pc := by
  subst hx9
  intro d Q K hK lv st M h
  unfold tc_zast at h
  split at h
  · next x i n k r =>
    intro ok p l e R s m args below meth c cells slots Qf D ad cA A C H locs ls hW hL
    have hk : dt_kd k = (1, n) := ds_h (ds_t (ds_t ok.2.1))
    have hi : dt_r i := ds_h (ds_t ok.2.1)
    have hkl := dk_lt hk (by decide)
    refine va_zast C.1 C.2.1 C.2.2.2.2.2.1 hW.1 hW.2.1 hW.2.2 k 1 (by rw [dw_at hkl, dw_bool hk]) rfl (dn_in hi h.1.1 h.1.2) hd (fun H1 locs1 hP1 hD1 hS1 => ?_)
    have e9 : vp_nar .boolean (Int32.ofInt x) = Int32.ofInt x := by rcases h.2.1 with q | q <;> subst q <;> rfl
    rw [e9] at hP1 hD1
    have e8 : dt_wc (dt_wi M k i.toNat x) ad cA k = .inl (cA 1, n, .inl (upd (fun j => Int32.ofInt (M.1 k j)) (Int32.ofInt i).toNatClampNeg (Int32.ofInt x))) := by
      rw [dw_bool hk, dn_cl hi]
      congr 4
      funext j
      by_cases hj : j = i.toNat
      · simp [upd, hj, dm_wi1, dm_up1]
      · simp [upd, hj, dm_wi1, dm_up2 hj]
    rw [dw_set hkl e8 dw_onlyi] at hP1 hD1
    exact hK _ _ _ _ (h.2.2 _ rfl) ⟨ok.1, ds_t (ds_t (ds_t ok.2.1)), dm_rwi ok.2.2 (ds_h ok.2.1)⟩ p l e R s m args below meth c cells slots Qf D ad cA A C H1 locs1 ls ⟨hP1, hD1, hS1⟩ hL
  · exact h.elim
def tc_last (nx : Nat) : dt_T := fun _ _ K pc lv st M => match st with
  | .inr (.inl x) :: .inl i :: .inr (.inr (2, n, k)) :: r => (0 ≤ i ∧ i < (n : Int)) ∧ ∀ M1, M1 = dt_wl M k i.toNat x → K nx lv r M1
  | _ => False
theorem sn_last {y : dt_Y} {nx pc : Nat} (hd : decode y.2.1 pc = .ok (.lastore, 1)) (hx9 : nx = pc + 1) : dt_S y (tc_last nx) pc := by
  subst hx9
  intro d Q K hK lv st M h
  unfold tc_last at h
  split at h
  · next x i n k r =>
    intro ok p l e R s m args below meth c cells slots Qf D ad cA A C H locs ls hW hL
    have hk : dt_kd k = (2, n) := ds_h (ds_t (ds_t ok.2.1))
    have hi : dt_r i := ds_h (ds_t ok.2.1)
    have hkl := dk_lt hk (by decide)
    refine va_last C.1 C.2.1 C.2.2.2.2.2.1 hW.1 hW.2.1 hW.2.2 k 2 (by rw [dw_at hkl, dw_long hk]) rfl (dn_in hi h.1.1 h.1.2) hd (fun H1 locs1 hP1 hD1 hS1 => ?_)
    have e8 : dt_wc (dt_wl M k i.toNat x) ad cA k = .inl (cA 2, n, .inr (.inl (vp_updL (fun j => Int64.ofInt (M.2 k j)) (Int32.ofInt i).toNatClampNeg (Int64.ofInt x)))) := by
      rw [dw_long hk, dn_cl hi]
      congr 5
      funext j
      by_cases hj : j = i.toNat
      · simp [vp_updL, hj, dm_wl1, dm_up1]
      · simp [vp_updL, hj, dm_wl1, dm_up2 hj]
    rw [dw_set hkl e8 dw_onlyl] at hP1 hD1
    exact hK _ _ _ _ (h.2 _ rfl) ⟨ok.1, ds_t (ds_t (ds_t ok.2.1)), dm_rwl ok.2.2 (ds_h ok.2.1)⟩ p l e R s m args below meth c cells slots Qf D ad cA A C H1 locs1 ls ⟨hP1, hD1, hS1⟩ hL
  · exact h.elim
end
section
/-! ===== calls, ends, entries ===== -/
def dt_sz : List dt_V → Nat
  | [] => 0
  | .inr (.inl _) :: r => dt_sz r + 2
  | _ :: r => dt_sz r + 1
theorem dc_sz (ad : Nat → Nat) : ∀ r : List dt_V, ((r.map (dt_cv ad)).map fun v => v.category).sum = dt_sz r
  | [] => rfl
  | .inl x :: r => by
    have := dc_sz ad r
    show 1 + ((r.map (dt_cv ad)).map fun v => v.category).sum = dt_sz r + 1
    rw [this]; omega
  | .inr (.inl x) :: r => by
    have := dc_sz ad r
    show 2 + ((r.map (dt_cv ad)).map fun v => v.category).sum = dt_sz r + 2
    rw [this]; omega
  | .inr (.inr x) :: r => by
    have := dc_sz ad r
    show 1 + ((r.map (dt_cv ad)).map fun v => v.category).sum = dt_sz r + 1
    rw [this]; omega
theorem dc_D {A : Nat → Prop} {M M' : dt_M} {ad : Nat → Nat} {cA : Nat → ClassId} (h : va_D A (dt_wd M ad cA)) : va_D A (dt_wd M' ad cA) := by
  have key : ∀ (k : Nat) (q : Nat × va_E), (dt_wd M' ad cA)[k]? = some q → k < 86 ∧ q.1 = ad k := by
    intro k q hk
    by_cases hl : k < 86
    · rw [dw_at hl] at hk; cases hk; exact ⟨hl, rfl⟩
    · rw [List.getElem?_eq_none (by simp [dt_wd]; omega)] at hk; cases hk
  refine ⟨fun i j p q hi hj hpq => ?_, fun k q hk => ?_⟩
  · obtain ⟨a1, a2⟩ := key i p hi
    obtain ⟨b1, b2⟩ := key j q hj
    exact h.1 i j _ _ (dw_at a1) (dw_at b1) (by rw [← a2, ← b2]; exact hpq)
  · obtain ⟨a1, a2⟩ := key k q hk
    rw [a2]
    exact h.2 k _ (dw_at a1)
theorem dc_A {A : Nat → Prop} {M : dt_M} {ad : Nat → Nat} {cA : Nat → ClassId} (h : va_D A (dt_wd M ad cA)) : ∀ q, dt_A ad q → A q := by
  rintro q ⟨k, hk, rfl⟩
  exact h.2 k _ (dw_at hk)
theorem dc_self {A : Nat → Prop} {M : dt_M} {ad : Nat → Nat} {cA : Nat → ClassId} (h : va_D A (dt_wd M ad cA)) : va_D (dt_A ad) (dt_wd M ad cA) := by
  refine ⟨h.1, fun k q hk => ?_⟩
  by_cases hl : k < 86
  · rw [dw_at hl] at hk; cases hk; exact ⟨k, hl, rfl⟩
  · rw [List.getElem?_eq_none (by simp [dt_wd]; omega)] at hk; cases hk
theorem dc_NW {s U : State} (hW : s.WarmedH U.vm) (h : ∀ w ∈ dt_NW, va_Nw w s) : ∀ w ∈ dt_NW, va_Nw w U := by
  intro w hw
  have h1 := h w hw
  have h2 := (List.mem_filter.mp hw).2
  unfold dt_nst at h2
  split at h2
  · exact va_Nw.warmF hW h1
  · exact va_Nw.warmM hW h1
  · cases h2
theorem dc_NWs {s U : State} (hv : s.vm = U.vm) (h : ∀ w ∈ dt_NW, va_Nw w s) : ∀ w ∈ dt_NW, va_Nw w U := by
  intro w hw
  have h1 := h w hw
  have h2 := (List.mem_filter.mp hw).2
  unfold dt_nst at h2
  split at h2
  · exact va_Nw.same rfl hv h1
  · exact va_Nw.same rfl hv h1
  · cases h2
theorem dc_SF {ad : Nat → Nat} {A B : Nat → Prop} {s U : State} {H H1 : Heap} (hW : s.WarmedH U.vm) (hq : ∀ a : Nat, a < H.size → ¬ A a → H1[a]? = H[a]?) (hAB : ∀ q, B q → A q) (h : dt_SF ad A s H) : dt_SF ad B U H1 := by
  obtain ⟨⟨adV, h1⟩, h2, h3, h4, h5⟩ := h
  exact ⟨⟨adV, ((h1.kept hq).narrow hAB).moved hW.alike⟩, ((h2.kept hq).narrow hAB).moved hW.alike, ((h3.kept hq).narrow hAB).moved hW.alike, vk_R.warm hW h4, vk_R.warm hW h5⟩
theorem dc_SFs {ad : Nat → Nat} {A : Nat → Prop} {s U : State} {H : Heap} (hv : U.vm = s.vm) (h : dt_SF ad A s H) : dt_SF ad A U H := by
  obtain ⟨⟨adV, h1⟩, h2, h3, h4, h5⟩ := h
  have ha : s.vm.Alike U.vm := by rw [hv]; exact Vm.Alike.refl s.vm
  exact ⟨⟨adV, h1.moved ha⟩, h2.moved ha, h3.moved ha, vk_R.same hv h4, vk_R.same hv h5⟩
theorem dc_blind {D : va_G} {ad : Nat → Nat} {cA : Nat → ClassId} {av : List dt_V} {M : dt_M} : FrameBlind (dt_Pc D ad cA av M) := by
  intro a U g mk q
  obtain ⟨h1, h2, h3, h4, h5, h6, h7, h8⟩ := q
  exact ⟨h1, h2, h3, h4, h5, va_K.moved (u := U) (U := U.calling g mk a) (Vm.Alike.refl U.vm) h6, dc_NWs (s := U) (U := U.calling g mk a) rfl h7, dc_SFs (s := U) (U := U.calling g mk a) rfl h8⟩
theorem dc_good {y : dt_Y} (hc : Cond.code y.1 y.2.1 y.2.2.1 y.2.2.2 ∈ dt_W0) : GoodIn dt_W0 (Cond.code y.1 y.2.1 y.2.2.1 y.2.2.2 :: dt_W0) := by
  intro w hw
  have h : w ∈ dt_W0 := (List.mem_cons.mp hw).elim (fun e => e ▸ hc) id
  exact ⟨h, good_of_word (List.mem_filter.mp h).2⟩
/-- what a caller knows of a method that it calls -/
def dt_N (y : dt_Y) (n : Nat) : Prop := Cond.code y.1 y.2.1 y.2.2.1 y.2.2.2 ∈ dt_W0 ∧ Cond.initialized y.1.cls ∈ dt_W0 ∧ (y.1.cls ≠ "java/lang/invoke/MethodHandle" ∧ y.1.cls ≠ "java/lang/invoke/VarHandle" ∧ (parseMethodDescriptor y.1.desc).map (fun d => d.parameters.length) = some n) ∧ y.2.2.1 ≤ 20
/-- behind a call -/
theorem dc_back {y : dt_Y} {d : Nat} {Q : Option dt_V → dt_M → Prop} {p : Program} {l : Launch} {e : Env} {R : Room} {s : State} {m : MethodId} {args : Array Value} {below : List Frame} {meth : Method} {c : Code} {cells slots : Nat} {Qf : State → Prop} {D : va_G} {ad : Nat → Nat} {cA : Nat → ClassId} {A : Nat → Prop}
    (C : dt_C y d Q p l e R s m args below meth c cells slots Qf D ad cA A) {H : Heap} {locs : List Loc} {ls : Array Slot} {M : dt_M} (hW : dt_W D ad cA A s H locs M) {K : dt_K} (hK : ∀ pc lv st M, K pc lv st M → dt_J y d Q pc lv st M) {pc : Nat} {lv : dt_L} (hlv : ∀ v, some v ∈ lv → dt_okv v) (hL : dt_H ad ls y.2.2.1 lv) {r : List dt_V} (hr : ∀ v ∈ r, dt_okv v) {rt : Option FieldType} {Φ : Option dt_V → dt_M → Prop} {a : Array Value} {st0 : List Value}
    (hrun : va_Run p l e R s m args below meth c H locs cells slots 0 0 (F0 m pc ls st0) (r.map (dt_cv ad)) (dt_Qc D ad cA rt Φ a) (dt_A ad)) (hcont : ∀ rv M', Φ rv M' → K (pc + 3) lv (rv.toList ++ r) M') :
    W p l e R s m args below meth c H locs cells slots Qf (F0 m pc ls st0) := by
  intro T hT X
  obtain ⟨v, st₀, t, T', L, h0, X', hLo, e1, e2, ⟨⟨rv, M', hv, hΦ, hok, hRM, hP⟩, hF⟩, st⟩ := hrun T hT X
  have hv : v = rv.map (dt_cv ad) := by cases hv; rfl
  subst hv
  have hrv : ∀ w ∈ rv.toList, dt_okv w := by
    intro w hw
    cases rv with
    | none => cases hw
    | some z =>
      rw [Option.toList_some, List.mem_singleton] at hw
      subst hw
      unfold dt_okr at hok
      split at hok
      · next h => cases h
      · next x h => cases h; exact hok
      · next x h => cases h; rcases hok with q | q <;> subst q <;> exact ⟨by decide, by decide⟩
      · next x h => cases h; exact hok
      · next x h => cases h; exact hok
      · exact hok.elim
  have hA := dc_A hW.2.1
  have hW' : dt_W D ad cA A s T'.heap (locs ++ L) M' := by
    refine ⟨by rw [e1]; exact hP, dc_D hW.2.1, ?_⟩
    obtain ⟨hz, hk⟩ := hF
    rw [h0] at hz hk
    refine ⟨Nat.le_trans hW.2.2.1 (by rw [e1]; exact hz), fun q h1 h2 => ?_, fun q hq => ?_⟩
    · rw [e1, hk q (Nat.lt_of_lt_of_le h1 hW.2.2.1) (fun z => h2 (hA q z))]
      exact hW.2.2.2.1 q h1 h2
    · rcases List.mem_append.mp hq with h | h
      · exact hW.2.2.2.2 q h
      · exact hA _ (hLo q h)
  have hJ := hK _ _ _ _ (hcont rv M' hΦ) ⟨hlv, fun w hw => (List.mem_append.mp hw).elim (hrv w) (hr w), hRM⟩ p l e R s m args below meth c cells slots Qf D ad cA A C T'.heap (locs ++ L) ls hW' hL
  obtain ⟨t2, a1, b1⟩ := hJ T' rfl X'
  refine ⟨t2, st t2 ?_, b1⟩
  have e3 : List.map (dt_cv ad) (rv.toList ++ r) = (rv.map (dt_cv ad)).toList ++ r.map (dt_cv ad) := by cases rv <;> simp
  rw [← e3]
  exact a1
theorem dc_pre {y : dt_Y} {d : Nat} {Q : Option dt_V → dt_M → Prop} {p : Program} {l : Launch} {e : Env} {R : Room} {s : State} {m : MethodId} {args : Array Value} {below : List Frame} {meth : Method} {c : Code} {cells slots : Nat} {Qf : State → Prop} {D : va_G} {ad : Nat → Nat} {cA : Nat → ClassId} {A : Nat → Prop}
    (C : dt_C y d Q p l e R s m args below meth c cells slots Qf D ad cA A) {H : Heap} {locs : List Loc} {M : dt_M} (hW : dt_W D ad cA A s H locs M) (hM : dt_RM M) {av : List dt_V} (hav : ∀ v ∈ av, dt_okv v) : PreS s H (dt_Pc D ad cA av M) (av.map (dt_cv ad)) := by
  refine ⟨dc_blind, fun U hU hw => ⟨rfl, hav, hM, by rw [hU]; exact hW.1, dc_self hW.2.1, va_K.moved hw.alike C.2.2.2.2.2.1, dc_NW hw C.2.2.2.2.2.2.1, ?_⟩⟩
  rw [hU]
  exact dc_SF hw hW.2.2.2.1 (dc_A hW.2.1) C.2.2.2.2.2.2.2.2.1
def tc_callV (ci : Nat) (z : dt_Y) (n : Nat) (nx : Nat) : dt_T := fun d _ K pc lv st M => match d, st.drop n with
  | d' + 1, .inr (.inr (t, nn, k)) :: r => cond (t == ci + 4 && Nat.ble (dt_sz r) 8) (∃ Φ : Option dt_V → dt_M → Prop, dt_Sp z d' (.inr (.inr (t, nn, k)) :: (st.take n).reverse) M Φ ∧ ∀ rv M', Φ rv M' → K nx lv (rv.toList ++ r) M') False
  | _, _ => False
theorem dc_st {st r : List dt_V} {n : Nat} {v : dt_V} (h : st.drop n = v :: r) : st = st.take n ++ v :: r ∧ (st.take n).length = n := by
  refine ⟨by rw [← h, List.take_append_drop], ?_⟩
  have : n < st.length := by
    rcases Nat.lt_or_ge n st.length with q | q
    · exact q
    · rw [List.drop_eq_nil_of_le q] at h; cases h
  rw [List.length_take]; omega
theorem sn_callV {y z : dt_Y} {nx pc ci index n N : Nat} {own CN : String} {T : u_T} (ho : y.1.cls = own) (hF : dt_F ci CN T N) (hz : dt_N z n) (hc : z.1.cls = CN) (hw1 : Cond.methodLink own index z.1 ∈ dt_W0) (hw2 : Cond.instanceMethod z.1 ∈ dt_W0) (hw3 : Cond.selects CN z.1 z.1 ∈ dt_W0) (hd : decode y.2.1 pc = .ok (.invokevirtual index, 3)) (hx9 : nx = pc + 3) : dt_S y (tc_callV ci z n nx) pc := by
  subst hx9
  intro d Q K hK lv st M h
  unfold tc_callV at h
  split at h
  · next d' t nn k r hst =>
    obtain ⟨hb, Φ, hSp, hcont⟩ := dt_cd h
    rw [Bool.and_eq_true] at hb
    have ht : t = ci + 4 := eq_of_beq hb.1
    have hsz : dt_sz r ≤ 8 := Nat.ble_eq.mp hb.2
    clear h hb
    subst ht
    obtain ⟨e1, e2⟩ := dc_st hst
    intro ok p l e R s m args below meth c cells slots Qf D ad cA A C H locs ls hW hL
    have hst' : ∀ v ∈ st.take n ++ .inr (.inr (ci + 4, nn, k)) :: r, dt_okv v := by rw [← e1]; exact ok.2.1
    have hk : dt_kd k = (ci + 4, nn) := hst' (.inr (.inr (ci + 4, nn, k))) (by simp)
    have hav : ∀ v ∈ ((.inr (.inr (ci + 4, nn, k)) : dt_V) :: (st.take n).reverse), dt_okv v := fun v hv => hst' v (by
      rcases List.mem_cons.mp hv with q | q
      · rw [q]; simp
      · exact List.mem_append_left _ (List.mem_reverse.mp q))
    have hr : ∀ v ∈ r, dt_okv v := fun v hv => hst' v (by simp [hv])
    have hN := dk_N hk (dk_c8 hF.1) hF.1
    subst hN
    have hkl := dk_lt hk (by have := dk_c8 hF.1; omega)
    have hpre := dc_pre C hW ok.2.2 hav
    have hrecv := va_recv (q0 := k) (a := ad k) C.2.2.2.2.2.1 hW.1 hF.1 (by rw [dw_at hkl, dw_obj hk])
    have hrun := va_runV (e := e) (below := below) (meth := meth) (locs := locs) (As := ((st.take n).reverse).map (dt_cv ad)) (rest := r.map (dt_cv ad)) (b := ad k) (C := CN) (n := n) (index := index) (g := F0 m pc ls (st.map (dt_cv ad)))
      ⟨C.1, C.2.1, C.2.2.1, (ho ▸ C.2.2.2.1 : s.vm.findClass own = some m.cls), C.2.2.2.2.1⟩ (hSp l D ad cA)
      (⟨callB_of n C.2.2.2.2.1 (dc_good hz.1) rfl rfl rfl (C.2.2.2.2.1 _ hz.2.1) (C.2.2.2.2.1 _ hw1) hz.2.2.1 ⟨C.2.2.2.2.2.2.2.1.1, by have := C.2.2.2.2.2.2.2.1.2.1; have := hz.2.2.2; show 8 + (z.2.2.1 + 11) + 39 * d' ≤ R.locals; omega⟩, C.2.2.2.2.1 _ hw2, C.2.2.2.2.1 _ hw3⟩)
      ⟨hpre.1, hrecv, hpre.2⟩ rfl (by rw [List.length_map, List.length_reverse, e2]) hL.1
      (by show List.map (dt_cv ad) st = _; rw [List.map_reverse, List.reverse_reverse]; conv => lhs; rw [e1]
          rw [List.map_append, List.map_cons]; rfl)
      (by rw [dc_sz]; show 2 * 0 + dt_sz r ≤ 8; omega) hd ⟨C.2.2.2.2.2.2.2.1.2.2.1, C.2.2.2.2.2.2.2.1.2.2.2⟩
    exact dc_back C hW hK ok.1 hL hr hrun hcont
  · exact h.elim
theorem sn_callVN {y z : dt_Y} {nx pc ci index n N : Nat} {own CN host : String} {T : u_T} (ho : y.1.cls = own) (hF : dt_F ci CN T N) (hz : dt_N z n) (hc : z.1.cls = CN) (hw1 : Cond.methodLinkNest own index z.1 host ∈ dt_NW) (hw2 : Cond.instanceMethod z.1 ∈ dt_W0) (hw3 : Cond.selects CN z.1 z.1 ∈ dt_W0) (hd : decode y.2.1 pc = .ok (.invokevirtual index, 3)) (hx9 : nx = pc + 3) : dt_S y (tc_callV ci z n nx) pc := by
  subst hx9
  intro d Q K hK lv st M h
  unfold tc_callV at h
  split at h
  · next d' t nn k r hst =>
    obtain ⟨hb, Φ, hSp, hcont⟩ := dt_cd h
    rw [Bool.and_eq_true] at hb
    have ht : t = ci + 4 := eq_of_beq hb.1
    have hsz : dt_sz r ≤ 8 := Nat.ble_eq.mp hb.2
    clear h hb
    subst ht
    obtain ⟨e1, e2⟩ := dc_st hst
    intro ok p l e R s m args below meth c cells slots Qf D ad cA A C H locs ls hW hL
    have hst' : ∀ v ∈ st.take n ++ .inr (.inr (ci + 4, nn, k)) :: r, dt_okv v := by rw [← e1]; exact ok.2.1
    have hk : dt_kd k = (ci + 4, nn) := hst' (.inr (.inr (ci + 4, nn, k))) (by simp)
    have hav : ∀ v ∈ ((.inr (.inr (ci + 4, nn, k)) : dt_V) :: (st.take n).reverse), dt_okv v := fun v hv => hst' v (by
      rcases List.mem_cons.mp hv with q | q
      · rw [q]; simp
      · exact List.mem_append_left _ (List.mem_reverse.mp q))
    have hr : ∀ v ∈ r, dt_okv v := fun v hv => hst' v (by simp [hv])
    have hN := dk_N hk (dk_c8 hF.1) hF.1
    subst hN
    have hkl := dk_lt hk (by have := dk_c8 hF.1; omega)
    have hpre := dc_pre C hW ok.2.2 hav
    have hrecv := va_recv (q0 := k) (a := ad k) C.2.2.2.2.2.1 hW.1 hF.1 (by rw [dw_at hkl, dw_obj hk])
    have hrun := va_runVN (host := host) (e := e) (below := below) (meth := meth) (locs := locs) (As := ((st.take n).reverse).map (dt_cv ad)) (rest := r.map (dt_cv ad)) (b := ad k) (C := CN) (n := n) (index := index) (g := F0 m pc ls (st.map (dt_cv ad)))
      ⟨C.1, C.2.1, C.2.2.1, (ho ▸ C.2.2.2.1 : s.vm.findClass own = some m.cls), C.2.2.2.2.1⟩ (hSp l D ad cA)
      (⟨va_cnB n C.2.2.2.2.1 (dc_good hz.1) rfl rfl rfl (C.2.2.2.2.2.2.1 _ hw1) (C.2.2.2.2.1 _ hz.2.1) hz.2.2.1 ⟨C.2.2.2.2.2.2.2.1.1, by have := C.2.2.2.2.2.2.2.1.2.1; have := hz.2.2.2; show 8 + (z.2.2.1 + 11) + 39 * d' ≤ R.locals; omega⟩, C.2.2.2.2.1 _ hw2, C.2.2.2.2.1 _ hw3⟩)
      ⟨hpre.1, hrecv, hpre.2⟩ rfl (by rw [List.length_map, List.length_reverse, e2]) hL.1
      (by show List.map (dt_cv ad) st = _; rw [List.map_reverse, List.reverse_reverse]; conv => lhs; rw [e1]
          rw [List.map_append, List.map_cons]; rfl)
      (by rw [dc_sz]; show 2 * 0 + dt_sz r ≤ 8; omega) hd ⟨C.2.2.2.2.2.2.2.1.2.2.1, C.2.2.2.2.2.2.2.1.2.2.2⟩
    exact dc_back C hW hK ok.1 hL hr hrun hcont
  · exact h.elim
def tc_callS (z : dt_Y) (n : Nat) (nx : Nat) : dt_T := fun d _ K pc lv st M => match d with
  | d' + 1 => cond (Nat.ble n st.length && Nat.ble (dt_sz (st.drop n)) 8) (∃ Φ : Option dt_V → dt_M → Prop, dt_Sp z d' (st.take n).reverse M Φ ∧ ∀ rv M', Φ rv M' → K nx lv (rv.toList ++ st.drop n) M') False
  | 0 => False
theorem sn_callS {y z : dt_Y} {nx pc index n : Nat} {own : String} (ho : y.1.cls = own) (hz : dt_N z n) (hw1 : Cond.methodLink own index z.1 ∈ dt_W0) (hw2 : Cond.static z.1 ∈ dt_W0) (hd : decode y.2.1 pc = .ok (.invokestatic index, 3)) (hx9 : nx = pc + 3) : dt_S y (tc_callS z n nx) pc := by
  subst hx9
  intro d Q K hK lv st M h
  unfold tc_callS at h
  split at h
  · next d' =>
    obtain ⟨hb, Φ, hSp, hcont⟩ := dt_cd h
    rw [Bool.and_eq_true] at hb
    have hn : n ≤ st.length := Nat.ble_eq.mp hb.1
    have hsz : dt_sz (st.drop n) ≤ 8 := Nat.ble_eq.mp hb.2
    clear h hb
    intro ok p l e R s m args below meth c cells slots Qf D ad cA A C H locs ls hW hL
    have hav : ∀ v ∈ (st.take n).reverse, dt_okv v := fun v hv => ok.2.1 v (List.mem_of_mem_take (List.mem_reverse.mp hv))
    have hr : ∀ v ∈ st.drop n, dt_okv v := fun v hv => ok.2.1 v (List.mem_of_mem_drop hv)
    have hpre := dc_pre C hW ok.2.2 hav
    have hrun := va_runS (e := e) (below := below) (meth := meth) (locs := locs) (As := ((st.take n).reverse).map (dt_cv ad)) (rest := (st.drop n).map (dt_cv ad)) (n := n) (index := index) (g := F0 m pc ls (st.map (dt_cv ad)))
      ⟨C.1, C.2.1, C.2.2.1, (ho ▸ C.2.2.2.1 : s.vm.findClass own = some m.cls), C.2.2.2.2.1⟩ (hSp l D ad cA)
      (⟨callB_of n C.2.2.2.2.1 (dc_good hz.1) rfl rfl rfl (C.2.2.2.2.1 _ hz.2.1) (C.2.2.2.2.1 _ hw1) hz.2.2.1 ⟨C.2.2.2.2.2.2.2.1.1, by have := C.2.2.2.2.2.2.2.1.2.1; have := hz.2.2.2; show 8 + (z.2.2.1 + 11) + 39 * d' ≤ R.locals; omega⟩, C.2.2.2.2.1 _ hw2⟩)
      hpre rfl (by rw [List.length_map, List.length_reverse, List.length_take]; omega) hL.1
      (by show List.map (dt_cv ad) st = _; rw [List.map_reverse, List.reverse_reverse, ← List.map_append, List.take_append_drop])
      (by rw [dc_sz]; show 2 * 0 + dt_sz (st.drop n) ≤ 8; omega) hd ⟨C.2.2.2.2.2.2.2.1.2.2.1, C.2.2.2.2.2.2.2.1.2.2.2⟩
    exact dc_back C hW hK ok.1 hL hr hrun hcont
  · exact h.elim
theorem sn_callSN {y z : dt_Y} {nx pc index n : Nat} {own host : String} (ho : y.1.cls = own) (hz : dt_N z n) (hw1 : Cond.methodLinkNest own index z.1 host ∈ dt_NW) (hw2 : Cond.static z.1 ∈ dt_W0) (hd : decode y.2.1 pc = .ok (.invokestatic index, 3)) (hx9 : nx = pc + 3) : dt_S y (tc_callS z n nx) pc := by
  subst hx9
  intro d Q K hK lv st M h
  unfold tc_callS at h
  split at h
  · next d' =>
    obtain ⟨hb, Φ, hSp, hcont⟩ := dt_cd h
    rw [Bool.and_eq_true] at hb
    have hn : n ≤ st.length := Nat.ble_eq.mp hb.1
    have hsz : dt_sz (st.drop n) ≤ 8 := Nat.ble_eq.mp hb.2
    clear h hb
    intro ok p l e R s m args below meth c cells slots Qf D ad cA A C H locs ls hW hL
    have hav : ∀ v ∈ (st.take n).reverse, dt_okv v := fun v hv => ok.2.1 v (List.mem_of_mem_take (List.mem_reverse.mp hv))
    have hr : ∀ v ∈ st.drop n, dt_okv v := fun v hv => ok.2.1 v (List.mem_of_mem_drop hv)
    have hpre := dc_pre C hW ok.2.2 hav
    have hrun := va_runSN (host := host) (e := e) (below := below) (meth := meth) (locs := locs) (As := ((st.take n).reverse).map (dt_cv ad)) (rest := (st.drop n).map (dt_cv ad)) (n := n) (index := index) (g := F0 m pc ls (st.map (dt_cv ad)))
      ⟨C.1, C.2.1, C.2.2.1, (ho ▸ C.2.2.2.1 : s.vm.findClass own = some m.cls), C.2.2.2.2.1⟩ (hSp l D ad cA)
      (⟨va_cnB n C.2.2.2.2.1 (dc_good hz.1) rfl rfl rfl (C.2.2.2.2.2.2.1 _ hw1) (C.2.2.2.2.1 _ hz.2.1) hz.2.2.1 ⟨C.2.2.2.2.2.2.2.1.1, by have := C.2.2.2.2.2.2.2.1.2.1; have := hz.2.2.2; show 8 + (z.2.2.1 + 11) + 39 * d' ≤ R.locals; omega⟩, C.2.2.2.2.1 _ hw2, trivial⟩)
      hpre rfl (by rw [List.length_map, List.length_reverse, List.length_take]; omega) hL.1
      (by show List.map (dt_cv ad) st = _; rw [List.map_reverse, List.reverse_reverse, ← List.map_append, List.take_append_drop])
      (by rw [dc_sz]; show 2 * 0 + dt_sz (st.drop n) ≤ 8; omega) hd ⟨C.2.2.2.2.2.2.2.1.2.2.1, C.2.2.2.2.2.2.2.1.2.2.2⟩
    exact dc_back C hW hK ok.1 hL hr hrun hcont
  · exact h.elim
/-! ends -/
def tc_ret : dt_T := fun _ Q _ _ _ st M => match st with
  | [] => Q none M
  | _ => False
theorem sn_ret {y : dt_Y} {pc : Nat} (hr : y.2.2.2 = none) (hd : decode y.2.1 pc = .ok (.return_, 1)) : dt_S y tc_ret pc := by
  intro d Q K hK lv st M h
  unfold tc_ret at h
  split at h
  · intro ok p l e R s m args below meth c cells slots Qf D ad cA A C H locs ls hW hL
    exact C.2.2.2.2.2.2.2.2.2 H locs M none pc ls hW ok.2.2 (by rw [hr]; trivial) h hd
  · exact h.elim
def tc_iret : dt_T := fun _ Q _ _ _ st M => match st with
  | [.inl x] => Q (some (.inl x)) M
  | _ => False
theorem sn_iret {y : dt_Y} {pc : Nat} (hr : y.2.2.2 = some .int) (hd : decode y.2.1 pc = .ok (.ireturn, 1)) : dt_S y tc_iret pc := by
  intro d Q K hK lv st M h
  unfold tc_iret at h
  split at h
  · next x =>
    intro ok p l e R s m args below meth c cells slots Qf D ad cA A C H locs ls hW hL
    exact C.2.2.2.2.2.2.2.2.2 H locs M (some (.inl x)) pc ls hW ok.2.2 (by rw [hr]; exact ds_h ok.2.1) h hd
  · exact h.elim
def tc_zret : dt_T := fun _ Q _ _ _ st M => match st with
  | [.inl x] => (x = 0 ∨ x = 1) ∧ Q (some (.inl x)) M
  | _ => False
theorem sn_zret {y : dt_Y} {pc : Nat} (hr : y.2.2.2 = some .boolean) (hd : decode y.2.1 pc = .ok (.ireturn, 1)) : dt_S y tc_zret pc := by
  intro d Q K hK lv st M h
  unfold tc_zret at h
  split at h
  · next x =>
    intro ok p l e R s m args below meth c cells slots Qf D ad cA A C H locs ls hW hL
    exact C.2.2.2.2.2.2.2.2.2 H locs M (some (.inl x)) pc ls hW ok.2.2 (by rw [hr]; exact h.1) h.2 hd
  · exact h.elim
def tc_lret : dt_T := fun _ Q _ _ _ st M => match st with
  | [.inr (.inl x)] => Q (some (.inr (.inl x))) M
  | _ => False
theorem sn_lret {y : dt_Y} {pc : Nat} (hr : y.2.2.2 = some .long) (hd : decode y.2.1 pc = .ok (.lreturn, 1)) : dt_S y tc_lret pc := by
  intro d Q K hK lv st M h
  unfold tc_lret at h
  split at h
  · next x =>
    intro ok p l e R s m args below meth c cells slots Qf D ad cA A C H locs ls hW hL
    exact C.2.2.2.2.2.2.2.2.2 H locs M (some (.inr (.inl x))) pc ls hW ok.2.2 (by rw [hr]; exact ds_h ok.2.1) h hd
  · exact h.elim
def tc_aret : dt_T := fun _ Q _ _ _ st M => match st with
  | [.inr (.inr x)] => Q (some (.inr (.inr x))) M
  | _ => False
theorem sn_aret {y : dt_Y} {pc : Nat} {C : String} (hr : y.2.2.2 = some (.object C)) (hd : decode y.2.1 pc = .ok (.areturn, 1)) : dt_S y tc_aret pc := by
  intro d Q K hK lv st M h
  unfold tc_aret at h
  split at h
  · next x =>
    intro ok p l e R s m args below meth c cells slots Qf D ad cA A C H locs ls hW hL
    exact C.2.2.2.2.2.2.2.2.2 H locs M (some (.inr (.inr x))) pc ls hW ok.2.2 (by rw [hr]; exact ds_h ok.2.1) h hd
  · exact h.elim
/-! Math.max, Math.min -/
def tc_max (nx : Nat) : dt_T := fun d _ K pc lv st M => match d, st with
  | _ + 1, .inl b :: .inl a :: r => cond (Nat.ble (dt_sz r) 8) (K nx lv (.inl (if a < b then b else a) :: r) M) False
  | _, _ => False
def tc_min (nx : Nat) : dt_T := fun d _ K pc lv st M => match d, st with
  | _ + 1, .inl b :: .inl a :: r => cond (Nat.ble (dt_sz r) 8) (K nx lv (.inl (if b < a then b else a) :: r) M) False
  | _, _ => False
theorem sn_max {y : dt_Y} {nx pc index : Nat} {own : String} (ho : y.1.cls = own) (hw1 : Cond.methodLink own index Lib.Math.max.name ∈ dt_W0) (hw2 : Cond.static Lib.Math.max.name ∈ dt_W0) (hw3 : Cond.initialized "java/lang/Math" ∈ dt_W0) (hw4 : Cond.code Lib.Math.max.name Lib.Math.max.code 2 (some .int) ∈ dt_W0) (hd : decode y.2.1 pc = .ok (.invokestatic index, 3)) (hx9 : nx = pc + 3) : dt_S y (tc_max nx) pc := by
  subst hx9
  intro d Q K hK lv st M h
  unfold tc_max at h
  split at h
  · next d' b a r =>
    obtain ⟨hb, h9⟩ := dt_cd h
    have hsz : dt_sz r ≤ 8 := Nat.ble_eq.mp hb
    intro ok p l e R s m args below meth c cells slots Qf D ad cA A C H locs ls hW hL
    have rb : dt_r b := ds_h ok.2.1
    have ra : dt_r a := ds_h (ds_t ok.2.1)
    have := hK _ _ _ _ h9 ⟨ok.1, ds_c (show dt_r _ by split <;> assumption) (ds_t (ds_t ok.2.1)), ok.2.2⟩ p l e R s m args below meth c cells slots Qf D ad cA A C H locs ls hW hL
    refine va_mmax C.1 C.2.1 (by rw [C.2.2.1, hL.1]) (own := own) (ho ▸ C.2.2.2.1) (C.2.2.2.2.1 _ hw1) (C.2.2.2.2.1 _ hw2) (C.2.2.2.2.1 _ hw3) (C.2.2.2.2.1 _ hw4) (by have := C.2.2.2.2.2.2.2.1.1; omega) (by rw [dc_sz]; have := C.2.2.2.2.2.2.2.1.2.1; omega) C.2.2.2.2.2.2.2.1.2.2.1 C.2.2.2.2.2.2.2.1.2.2.2 hd ?_
    have e9 : (if Int32.ofInt a < Int32.ofInt b then Int32.ofInt b else Int32.ofInt a) = Int32.ofInt (if a < b then b else a) := by
      simp only [dn_lt ra rb]
      split <;> rfl
    rw [e9]
    exact this
  · exact h.elim
theorem sn_min {y : dt_Y} {nx pc index : Nat} {own : String} (ho : y.1.cls = own) (hw1 : Cond.methodLink own index Lib.Math.min.name ∈ dt_W0) (hw2 : Cond.static Lib.Math.min.name ∈ dt_W0) (hw3 : Cond.initialized "java/lang/Math" ∈ dt_W0) (hw4 : Cond.code Lib.Math.min.name Lib.Math.min.code 2 (some .int) ∈ dt_W0) (hd : decode y.2.1 pc = .ok (.invokestatic index, 3)) (hx9 : nx = pc + 3) : dt_S y (tc_min nx) pc := by
  subst hx9
  intro d Q K hK lv st M h
  unfold tc_min at h
  split at h
  · next d' b a r =>
    obtain ⟨hb, h9⟩ := dt_cd h
    have hsz : dt_sz r ≤ 8 := Nat.ble_eq.mp hb
    intro ok p l e R s m args below meth c cells slots Qf D ad cA A C H locs ls hW hL
    have rb : dt_r b := ds_h ok.2.1
    have ra : dt_r a := ds_h (ds_t ok.2.1)
    have := hK _ _ _ _ h9 ⟨ok.1, ds_c (show dt_r _ by split <;> assumption) (ds_t (ds_t ok.2.1)), ok.2.2⟩ p l e R s m args below meth c cells slots Qf D ad cA A C H locs ls hW hL
    refine va_mmin C.1 C.2.1 (by rw [C.2.2.1, hL.1]) (own := own) (ho ▸ C.2.2.2.1) (C.2.2.2.2.1 _ hw1) (C.2.2.2.2.1 _ hw2) (C.2.2.2.2.1 _ hw3) (C.2.2.2.2.1 _ hw4) (by have := C.2.2.2.2.2.2.2.1.1; omega) (by rw [dc_sz]; have := C.2.2.2.2.2.2.2.1.2.1; omega) C.2.2.2.2.2.2.2.1.2.2.1 C.2.2.2.2.2.2.2.1.2.2.2 hd ?_
    have e9 : (if Int32.ofInt b < Int32.ofInt a then Int32.ofInt b else Int32.ofInt a) = Int32.ofInt (if b < a then b else a) := by
      simp only [dn_lt rb ra]
      split <;> rfl
    rw [e9]
    exact this
  · exact h.elim
end
section
/-! ===== entries; walking a method ===== -/
def dt_lv0 : List dt_V → dt_L
  | [] => []
  | .inr (.inl x) :: r => some (.inr (.inl x)) :: none :: dt_lv0 r
  | v :: r => some v :: dt_lv0 r
def dt_lv (av : List dt_V) (n : Nat) : dt_L := dt_lv0 av ++ List.replicate (n - (dt_lv0 av).length) none
theorem de_len (ad : Nat → Nat) : ∀ av : List dt_V, (lg_sl (av.map (dt_cv ad))).length = (dt_lv0 av).length
  | [] => rfl
  | .inl x :: r => by
    have := de_len ad r
    show ([Slot.val (dt_cv ad (.inl x))] ++ lg_sl (r.map (dt_cv ad))).length = (dt_lv0 r).length + 1
    rw [List.length_append, this]; simp; omega
  | .inr (.inl x) :: r => by
    have := de_len ad r
    show ([Slot.val (dt_cv ad (.inr (.inl x))), Slot.second] ++ lg_sl (r.map (dt_cv ad))).length = (dt_lv0 r).length + 1 + 1
    rw [List.length_append, this]; simp; omega
  | .inr (.inr x) :: r => by
    have := de_len ad r
    show ([Slot.val (dt_cv ad (.inr (.inr x)))] ++ lg_sl (r.map (dt_cv ad))).length = (dt_lv0 r).length + 1
    rw [List.length_append, this]; simp; omega
theorem de_args (ad : Nat → Nat) : ∀ (av : List dt_V) (o i : Nat) (v : dt_V), (dt_lv0 av)[i]? = some (some v) → (o + i, dt_cv ad v) ∈ lv_args o (av.map (dt_cv ad))
  | [], o, i, v, h => by simp [dt_lv0] at h
  | .inl x :: r, o, i, v, h => by
    show (o + i, dt_cv ad v) ∈ (o, dt_cv ad (.inl x)) :: lv_args (o + 1) (r.map (dt_cv ad))
    cases i with
    | zero => cases h; exact List.mem_cons_self
    | succ i =>
      have h2 : (dt_lv0 r)[i]? = some (some v) := h
      have := de_args ad r (o + 1) i v h2
      rw [show o + (i + 1) = o + 1 + i by omega]
      exact List.mem_cons_of_mem _ this
  | .inr (.inl x) :: r, o, i, v, h => by
    show (o + i, dt_cv ad v) ∈ (o, dt_cv ad (.inr (.inl x))) :: lv_args (o + 2) (r.map (dt_cv ad))
    match i, h with
    | 0, h => cases h; exact List.mem_cons_self
    | 1, h => cases h
    | i + 2, h =>
      have h2 : (dt_lv0 r)[i]? = some (some v) := h
      have := de_args ad r (o + 2) i v h2
      rw [show o + (i + 2) = o + 2 + i by omega]
      exact List.mem_cons_of_mem _ this
  | .inr (.inr x) :: r, o, i, v, h => by
    show (o + i, dt_cv ad v) ∈ (o, dt_cv ad (.inr (.inr x))) :: lv_args (o + 1) (r.map (dt_cv ad))
    cases i with
    | zero => cases h; exact List.mem_cons_self
    | succ i =>
      have h2 : (dt_lv0 r)[i]? = some (some v) := h
      have := de_args ad r (o + 1) i v h2
      rw [show o + (i + 1) = o + 1 + i by omega]
      exact List.mem_cons_of_mem _ this
theorem de_lv {av : List dt_V} {n i : Nat} {v : dt_V} (h : (dt_lv av n)[i]? = some (some v)) : (dt_lv0 av)[i]? = some (some v) := by
  unfold dt_lv at h
  by_cases hi : i < (dt_lv0 av).length
  · rw [List.getElem?_append_left hi] at h; exact h
  · rw [List.getElem?_append_right (by omega)] at h
    have := List.eq_of_mem_replicate (List.mem_of_getElem? h)
    cases this
theorem de_ok : ∀ {av : List dt_V}, (∀ v ∈ av, dt_okv v) → ∀ v, some v ∈ dt_lv0 av → dt_okv v
  | [], _, v, hv => by cases hv
  | .inl x :: r, h, v, hv => by
    rcases List.mem_cons.mp hv with q | q
    · cases q; exact h _ List.mem_cons_self
    · exact de_ok (ds_t h) v q
  | .inr (.inl x) :: r, h, v, hv => by
    rcases List.mem_cons.mp hv with q | q
    · cases q; exact h _ List.mem_cons_self
    · rcases List.mem_cons.mp q with q | q
      · cases q
      · exact de_ok (ds_t h) v q
  | .inr (.inr x) :: r, h, v, hv => by
    rcases List.mem_cons.mp hv with q | q
    · cases q; exact h _ List.mem_cons_self
    · exact de_ok (ds_t h) v q
theorem de_ok2 {av : List dt_V} {n : Nat} (h : ∀ v ∈ av, dt_okv v) : ∀ v, some v ∈ dt_lv av n → dt_okv v := by
  intro v hv
  obtain ⟨i, hi⟩ := List.getElem?_of_mem hv
  exact de_ok h v (List.mem_of_getElem? (de_lv hi))
/-- A METHOD'S CONTRACT out of its walk -/
theorem dt_enter {y : dt_Y} {d : Nat} {av : List dt_V} {M : dt_M} {Φ : Option dt_V → dt_M → Prop} (hy : plainName y.1.cls = true) (hs : (dt_lv0 av).length ≤ y.2.2.1) (h : dt_J y d Φ 0 (dt_lv av y.2.2.1) [] M) : dt_Sp y d av M Φ := by
  intro l D ad cA
  refine Met.ofW (cc := y.2.1) (maxL := y.2.2.1) (ret := y.2.2.2) hy rfl ?_
  intro p e s m args below meth c s₁ B hml hv
  obtain ⟨rfl, hav, hM, hP, hD, hK, hN, hSF⟩ := hv
  have hts := atoms_spec (ws := Cond.code y.1 y.2.1 y.2.2.1 y.2.2.2 :: dt_W0) B.pre
  have hown : s.vm.findClass y.1.cls = some m.cls := findClass_of_methodNamed B.named
  have hx := B.exec
  have hb := B.bytes
  have hr := B.returns
  have hlocks := B.notSynchronized
  have hl := lv_entry (av.map (dt_cv ad)) (n := y.2.2.1) (by rw [de_len]; exact hs)
  rw [lg_entry_eq]
  generalize (lg_sl (av.map (dt_cv ad)) ++ List.replicate (y.2.2.1 - (lg_sl (av.map (dt_cv ad))).length) Slot.unset).toArray = ls at hl ⊢
  refine h ⟨de_ok2 hav, fun v hv => absurd hv List.not_mem_nil, hM⟩ p l e (dt_room d) s m _ below meth c 0 0 _ D ad cA (dt_A ad) ⟨hx, hb, hml, hown, fun w hw => hts w (List.mem_cons_of_mem _ hw), hK, hN, ⟨Nat.le_refl _, Nat.le_refl _, Nat.le_refl _, Nat.le_refl _⟩, hSF, ?_⟩ s.heap [] ls ⟨hP, hD, va_S.rf⟩ ⟨hl.1, hl.2.1, fun i v hi => ?_⟩
  · intro H locs M' r pc ls' hW hM' hok hQ hri
    have hq : ∀ t : State, t.heap = H → s.WarmedH t.vm → dt_Qc D ad cA y.2.2.2 Φ (av.map (dt_cv ad)).toArray s (.returned (r.map (dt_cv ad))) t := fun t ht _ =>
      ⟨⟨r, M', rfl, hQ, hok, hM', by rw [ht]; exact hW.1⟩, hW.2.2.F ht⟩
    have hf : ∀ q ∈ locs, dt_A ad q.base := hW.2.2.2.2
    generalize hrt : y.2.2.2 = rt at hok hr hq
    unfold dt_okr at hok
    unfold dt_ri at hri
    split at hok
    · exact W.vret hx hb hr hq hf hri
    · next x => exact W.iret hx hb hr hq hf hri
    · next x => exact W.zret (ty := .boolean) hx hb hr (by rcases hok with z | z <;> subst z <;> rfl) hq hf hri
    · next x => exact W.lret hx hb hr hq hf hri
    · next x => exact W.aret hx hb hr (Or.inl ⟨_, rfl⟩) (Or.inr ⟨_, rfl⟩) hq hf hri
    · exact hok.elim
  · have := de_args ad av 0 i v (de_lv hi)
    rw [Nat.zero_add] at this
    exact hl.2.2 _ this
/-! a walk: from a place on, up to the places where one stops -/
def dt_w (tb : Nat → dt_T) (cut : Nat → Bool) (d : Nat) (Q : Option dt_V → dt_M → Prop) (J : dt_K) (n : Nat) : dt_K :=
  Nat.rec (motive := fun _ => dt_K) J (fun _ ih pc lv st M => cond (cut pc) (J pc lv st M) (tb pc d Q ih pc lv st M)) n
theorem dt_w_ok {y : dt_Y} {tb : Nat → dt_T} (ht : ∀ pc, dt_S y (tb pc) pc) (cut : Nat → Bool) (d : Nat) (Q : Option dt_V → dt_M → Prop) : ∀ (n : Nat) (pc : Nat) (lv : dt_L) (st : List dt_V) (M : dt_M), dt_w tb cut d Q (dt_J y d Q) n pc lv st M → dt_J y d Q pc lv st M
  | 0, _, _, _, _, h => h
  | n + 1, pc, lv, st, M, h => by
    have h' : cond (cut pc) (dt_J y d Q pc lv st M) (tb pc d Q (dt_w tb cut d Q (dt_J y d Q) n) pc lv st M) := h
    cases hc : cut pc with
    | true => rw [hc] at h'; exact h'
    | false => rw [hc] at h'; exact ht pc d Q _ (dt_w_ok ht cut d Q n) lv st M h'
/-- the first step even where one would stop, then the walk -/
theorem dt_go {y : dt_Y} {tb : Nat → dt_T} (ht : ∀ pc, dt_S y (tb pc) pc) (cut : Nat → Bool) (n : Nat) {d : Nat} {Q : Option dt_V → dt_M → Prop} {pc : Nat} {lv : dt_L} {st : List dt_V} {M : dt_M} (h : tb pc d Q (dt_w tb cut d Q (dt_J y d Q) n) pc lv st M) : dt_J y d Q pc lv st M := ht pc d Q _ (dt_w_ok ht cut d Q n) lv st M h
/-- fewer locals known -/
theorem dt_less {y : dt_Y} {d : Nat} {Q : Option dt_V → dt_M → Prop} {pc : Nat} {lv lv' : dt_L} {st : List dt_V} {M : dt_M} (hl : ∀ (i : Nat) (v : dt_V), lv[i]? = some (some v) → lv'[i]? = some (some v)) (h : dt_J y d Q pc lv st M) : dt_J y d Q pc lv' st M := by
  intro ok p l e R s m args below meth c cells slots Qf D ad cA A C H locs ls hW hL
  exact h ⟨fun v hv => by
    obtain ⟨i, hi⟩ := List.getElem?_of_mem hv
    exact ok.1 v (List.mem_of_getElem? (hl i v hi)), ok.2⟩ p l e R s m args below meth c cells slots Qf D ad cA A C H locs ls hW ⟨hL.1, hL.2.1, fun i v hi => hL.2.2 i v (hl i v hi)⟩
theorem dt_post {y : dt_Y} {d : Nat} {av : List dt_V} {M : dt_M} {Φ Ψ : Option dt_V → dt_M → Prop} (h : dt_Sp y d av M Φ) (hi : ∀ r M', Φ r M' → Ψ r M') : dt_Sp y d av M Ψ := by
  intro l D ad cA p e ha hc hk s m args below hf hS hP hK
  obtain ⟨k, o, h1, h2, h3, h4, h5⟩ := h l D ad cA p e ha hc hk s m args below hf hS hP hK
  refine ⟨k, o, h1, h2, h3, ?_, h5⟩
  obtain ⟨⟨r, M', g1, g2, g3⟩, g4⟩ := h4
  exact ⟨⟨r, M', g1, hi r M' g2, g3⟩, g4⟩
theorem dt_okJ {y : dt_Y} {d : Nat} {Q : Option dt_V → dt_M → Prop} {pc : Nat} {lv : dt_L} {st : List dt_V} {M : dt_M} (h : dt_ok lv st M → dt_J y d Q pc lv st M) : dt_J y d Q pc lv st M := fun ok => h ok ok
/-! switches -/
def dt_sw (x : Int) (dflt : Nat) (G : Nat → Prop) : List (Int × Nat) → Prop
  | [] => G dflt
  | (v, t) :: r => (x = v → G t) ∧ (¬ x = v → dt_sw x dflt G r)
def dt_swt (x : Int) (dflt : Nat) : List (Int × Nat) → Nat
  | [] => dflt
  | (v, t) :: r => if x = v then t else dt_swt x dflt r
theorem dt_sw_t {x : Int} {dflt : Nat} {G : Nat → Prop} : ∀ {cs : List (Int × Nat)}, dt_sw x dflt G cs → G (dt_swt x dflt cs)
  | [], h => h
  | (v, t) :: r, h => by
    unfold dt_swt
    split
    · next e => exact h.1 e
    · next e => exact dt_sw_t (h.2 e)
def tc_sw (cs : List (Int × Nat)) (dflt : Nat) : dt_T := fun _ _ K _ lv st M => match st with
  | .inl x :: r => dt_sw x dflt (fun t => K t lv r M) cs
  | _ => False
theorem sn_ts {y : dt_Y} {pc len dflt : Nat} {cs : List (Int × Nat)} {dfl lo hi : Int} {offs : Array Int} (hd : decode y.2.1 pc = .ok (.tableswitch dfl lo hi offs, len)) (h1 : (pc : Int) + dfl = (dflt : Int)) (h2 : ∀ x : Int, x < lo ∨ hi < x → dt_swt x dflt cs = dflt) (h3 : ∀ x : Int, lo ≤ x → x ≤ hi → ∃ o, offs[(x - lo).toNat]? = some o ∧ (pc : Int) + o = (dt_swt x dflt cs : Int)) : dt_S y (tc_sw cs dflt) pc := by
  intro d Q K hK lv st M h
  unfold tc_sw at h
  split at h
  · next x r =>
    intro ok p l e R s m args below meth c cells slots Qf D ad cA A C H locs ls hW hL
    have rx : dt_r x := ds_h ok.2.1
    have := hK _ _ _ _ (dt_sw_t h) ⟨ok.1, ds_t ok.2.1, ok.2.2⟩ p l e R s m args below meth c cells slots Qf D ad cA A C H locs ls hW hL
    by_cases hx : x < lo ∨ hi < x
    · refine lv_tableOut (x := Int32.ofInt x) C.1 C.2.1 hd (by rw [dn_ti rx]; exact hx) h1 ?_
      rw [h2 x hx] at this
      exact this
    · obtain ⟨o, g1, g2⟩ := h3 x (by omega) (by omega)
      exact lv_tableIn (x := Int32.ofInt x) C.1 C.2.1 hd (by rw [dn_ti rx]; omega) (by rw [dn_ti rx]; omega) (by rw [dn_ti rx]; exact g1) g2 this
  · exact h.elim
theorem sn_ls {y : dt_Y} {pc len dflt : Nat} {cs : List (Int × Nat)} {dfl : Int} {ps : Array (Int × Int)} (hd : decode y.2.1 pc = .ok (.lookupswitch dfl ps, len)) (hp : (ps.toList.zip (ps.toList.drop 1)).all (fun (a, next) => a.1 < next.1) = true) (h3 : ∀ x : Int, (pc : Int) + Op.lookupswitch.offset ps.toList dfl x = (dt_swt x dflt cs : Int)) : dt_S y (tc_sw cs dflt) pc := by
  intro d Q K hK lv st M h
  unfold tc_sw at h
  split at h
  · next x r =>
    intro ok p l e R s m args below meth c cells slots Qf D ad cA A C H locs ls hW hL
    have rx : dt_r x := ds_h ok.2.1
    have := hK _ _ _ _ (dt_sw_t h) ⟨ok.1, ds_t ok.2.1, ok.2.2⟩ p l e R s m args below meth c cells slots Qf D ad cA A C H locs ls hW hL
    exact lv_lookup (x := Int32.ofInt x) C.1 C.2.1 hd hp rfl (by rw [dn_ti rx]; exact h3 x) this
  · exact h.elim
end
section
theorem wq_1_0 : (Cond.initialized "DrawnTalksLaw") ∈ dt_W0 := dt_in (wq_l1 (List.mem_of_getElem? (i := 0) (by decide +kernel))) rfl
theorem wq_1_1 : (Cond.initialized "DrawnTalks") ∈ dt_W0 := dt_in (wq_l1 (List.mem_of_getElem? (i := 1) (by decide +kernel))) rfl
theorem wq_1_2 : (Cond.initialized "DrawnTalks$Talk") ∈ dt_W0 := dt_in (wq_l1 (List.mem_of_getElem? (i := 2) (by decide +kernel))) rfl
theorem wq_1_3 : (Cond.initialized "DrawnTalks$Reader") ∈ dt_W0 := dt_in (wq_l1 (List.mem_of_getElem? (i := 3) (by decide +kernel))) rfl
theorem wq_1_4 : (Cond.initialized "DrawnTalks$Relation") ∈ dt_W0 := dt_in (wq_l1 (List.mem_of_getElem? (i := 4) (by decide +kernel))) rfl
theorem wq_1_5 : (Cond.initialized "DrawnTalks$Lattice") ∈ dt_W0 := dt_in (wq_l1 (List.mem_of_getElem? (i := 5) (by decide +kernel))) rfl
theorem wq_1_6 : (Cond.initialized "DrawnTalks$Player") ∈ dt_W0 := dt_in (wq_l1 (List.mem_of_getElem? (i := 6) (by decide +kernel))) rfl
theorem wq_1_7 : (Cond.initialized "DrawnTalks$Mixer") ∈ dt_W0 := dt_in (wq_l1 (List.mem_of_getElem? (i := 7) (by decide +kernel))) rfl
theorem wq_1_8 : (Cond.initialized "DrawnTalksModel") ∈ dt_W0 := dt_in (wq_l1 (List.mem_of_getElem? (i := 8) (by decide +kernel))) rfl
theorem wq_1_9 : (Cond.initialized "java/lang/String") ∈ dt_W0 := dt_in (wq_l1 (List.mem_of_getElem? (i := 9) (by decide +kernel))) rfl
theorem wq_1_10 : (Cond.initialized "java/lang/StringLatin1") ∈ dt_W0 := dt_in (wq_l1 (List.mem_of_getElem? (i := 10) (by decide +kernel))) rfl
theorem wq_1_11 : (Cond.initialized "jdk/internal/util/Preconditions") ∈ dt_W0 := dt_in (wq_l1 (List.mem_of_getElem? (i := 11) (by decide +kernel))) rfl
theorem wq_1_12 : (Cond.initialized "java/lang/StringUTF16") ∈ dt_W0 := dt_in (wq_l1 (List.mem_of_getElem? (i := 12) (by decide +kernel))) rfl
theorem wq_1_13 : (Cond.initialized "java/lang/Math") ∈ dt_W0 := dt_in (wq_l1 (List.mem_of_getElem? (i := 13) (by decide +kernel))) rfl
theorem wq_1_14 : (Cond.classLink "DrawnTalksLaw" (7) "DrawnTalks") ∈ dt_W0 := dt_in (wq_l1 (List.mem_of_getElem? (i := 14) (by decide +kernel))) rfl
theorem wq_1_15 : (Cond.instantiable "DrawnTalks" (7)) ∈ dt_W0 := dt_in (wq_l1 (List.mem_of_getElem? (i := 15) (by decide +kernel))) rfl
theorem wq_1_16 : (Cond.methodLink "DrawnTalksLaw" (9) (⟨"DrawnTalks", "<init>", "()V"⟩ : MethodName)) ∈ dt_W0 := dt_in (wq_l1 (List.mem_of_getElem? (i := 16) (by decide +kernel))) rfl
theorem wq_1_17 : (Cond.instanceMethod (⟨"DrawnTalks", "<init>", "()V"⟩ : MethodName)) ∈ dt_W0 := dt_in (wq_l1 (List.mem_of_getElem? (i := 17) (by decide +kernel))) rfl
theorem wq_1_18 : (Cond.code (⟨"DrawnTalks", "<init>", "()V"⟩ : MethodName) prog_1_method_1_code (2) (Option.none : Option Jvm.ClassFile.FieldType)) ∈ dt_W0 := dt_in (wq_l1 (List.mem_of_getElem? (i := 18) (by decide +kernel))) rfl
theorem wq_1_19 : (Cond.methodLink "DrawnTalks" (3) (⟨"java/lang/Object", "<init>", "()V"⟩ : MethodName)) ∈ dt_W0 := dt_in (wq_l1 (List.mem_of_getElem? (i := 19) (by decide +kernel))) rfl
theorem wq_1_20 : (Cond.instanceMethod (⟨"java/lang/Object", "<init>", "()V"⟩ : MethodName)) ∈ dt_W0 := dt_in (wq_l1 (List.mem_of_getElem? (i := 20) (by decide +kernel))) rfl
theorem wq_1_21 : (Cond.code (⟨"java/lang/Object", "<init>", "()V"⟩ : MethodName) object_method_1_code (1) (Option.none : Option Jvm.ClassFile.FieldType)) ∈ dt_W0 := dt_in (wq_l1 (List.mem_of_getElem? (i := 21) (by decide +kernel))) rfl
theorem wq_1_22 : (Cond.classLink "DrawnTalks" (9) "DrawnTalks$Talk") ∈ dt_W0 := dt_in (wq_l1 (List.mem_of_getElem? (i := 22) (by decide +kernel))) rfl
theorem wq_1_24 : (Cond.instantiable "DrawnTalks$Talk" (9)) ∈ dt_W0 := dt_in (wq_l1 (List.mem_of_getElem? (i := 24) (by decide +kernel))) rfl
theorem wq_1_25 : (Cond.methodLinkNest "DrawnTalks" (15) (⟨"DrawnTalks$Talk", "<init>", "()V"⟩ : MethodName) "DrawnTalks") ∈ dt_NW := dt_inN (wq_l1 (List.mem_of_getElem? (i := 25) (by decide +kernel))) rfl
theorem wq_1_26 : (Cond.instanceMethod (⟨"DrawnTalks$Talk", "<init>", "()V"⟩ : MethodName)) ∈ dt_W0 := dt_in (wq_l1 (List.mem_of_getElem? (i := 26) (by decide +kernel))) rfl
theorem wq_1_27 : (Cond.code (⟨"DrawnTalks$Talk", "<init>", "()V"⟩ : MethodName) prog_7_method_1_code (1) (Option.none : Option Jvm.ClassFile.FieldType)) ∈ dt_W0 := dt_in (wq_l1 (List.mem_of_getElem? (i := 27) (by decide +kernel))) rfl
theorem wq_1_28 : (Cond.methodLink "DrawnTalks$Talk" (3) (⟨"java/lang/Object", "<init>", "()V"⟩ : MethodName)) ∈ dt_W0 := dt_in (wq_l1 (List.mem_of_getElem? (i := 28) (by decide +kernel))) rfl
theorem wq_1_29 : (Cond.fieldLink "DrawnTalks$Talk" (9) "DrawnTalks$Talk" "isTake" "[Z") ∈ dt_W0 := dt_in (wq_l1 (List.mem_of_getElem? (i := 29) (by decide +kernel))) rfl
theorem wq_1_30 : (Cond.fieldLinkNest "DrawnTalks$Relation" (31) "DrawnTalks$Talk" "isTake" "[Z" "DrawnTalks") ∈ dt_NW := dt_inN (wq_l1 (List.mem_of_getElem? (i := 30) (by decide +kernel))) rfl
theorem wq_1_31 : (Cond.fieldLinkNest "DrawnTalks$Lattice" (78) "DrawnTalks$Talk" "isTake" "[Z" "DrawnTalks") ∈ dt_NW := dt_inN (wq_l1 (List.mem_of_getElem? (i := 31) (by decide +kernel))) rfl
theorem wq_1_32 : (Cond.fieldLinkNest "DrawnTalks" (93) "DrawnTalks$Talk" "isTake" "[Z" "DrawnTalks") ∈ dt_NW := dt_inN (wq_l1 (List.mem_of_getElem? (i := 32) (by decide +kernel))) rfl
theorem wq_1_33 : (Cond.fieldLinkNest "DrawnTalks$Player" (82) "DrawnTalks$Talk" "isTake" "[Z" "DrawnTalks") ∈ dt_NW := dt_inN (wq_l1 (List.mem_of_getElem? (i := 33) (by decide +kernel))) rfl
theorem wq_1_34 : (Cond.fieldLink "DrawnTalks$Talk" (15) "DrawnTalks$Talk" "part" "[I") ∈ dt_W0 := dt_in (wq_l1 (List.mem_of_getElem? (i := 34) (by decide +kernel))) rfl
theorem wq_1_35 : (Cond.fieldLinkNest "DrawnTalks$Relation" (28) "DrawnTalks$Talk" "part" "[I" "DrawnTalks") ∈ dt_NW := dt_inN (wq_l1 (List.mem_of_getElem? (i := 35) (by decide +kernel))) rfl
theorem wq_1_36 : (Cond.fieldLinkNest "DrawnTalks$Lattice" (88) "DrawnTalks$Talk" "part" "[I" "DrawnTalks") ∈ dt_NW := dt_inN (wq_l1 (List.mem_of_getElem? (i := 36) (by decide +kernel))) rfl
theorem wq_1_37 : (Cond.fieldLinkNest "DrawnTalks" (101) "DrawnTalks$Talk" "part" "[I" "DrawnTalks") ∈ dt_NW := dt_inN (wq_l1 (List.mem_of_getElem? (i := 37) (by decide +kernel))) rfl
theorem wq_1_38 : (Cond.fieldLink "DrawnTalks$Talk" (19) "DrawnTalks$Talk" "other" "[I") ∈ dt_W0 := dt_in (wq_l1 (List.mem_of_getElem? (i := 38) (by decide +kernel))) rfl
theorem wq_1_39 : (Cond.fieldLinkNest "DrawnTalks$Relation" (35) "DrawnTalks$Talk" "other" "[I" "DrawnTalks") ∈ dt_NW := dt_inN (wq_l1 (List.mem_of_getElem? (i := 39) (by decide +kernel))) rfl
theorem wq_1_40 : (Cond.fieldLinkNest "DrawnTalks" (105) "DrawnTalks$Talk" "other" "[I" "DrawnTalks") ∈ dt_NW := dt_inN (wq_l1 (List.mem_of_getElem? (i := 40) (by decide +kernel))) rfl
theorem wq_1_41 : (Cond.fieldLinkNest "DrawnTalks$Player" (86) "DrawnTalks$Talk" "other" "[I" "DrawnTalks") ∈ dt_NW := dt_inN (wq_l1 (List.mem_of_getElem? (i := 41) (by decide +kernel))) rfl
theorem wq_1_42 : (Cond.fieldLink "DrawnTalks$Talk" (22) "DrawnTalks$Talk" "name" "[I") ∈ dt_W0 := dt_in (wq_l1 (List.mem_of_getElem? (i := 42) (by decide +kernel))) rfl
theorem wq_1_43 : (Cond.fieldLinkNest "DrawnTalks" (108) "DrawnTalks$Talk" "name" "[I" "DrawnTalks") ∈ dt_NW := dt_inN (wq_l1 (List.mem_of_getElem? (i := 43) (by decide +kernel))) rfl
theorem wq_1_44 : (Cond.fieldLinkNest "DrawnTalks$Player" (89) "DrawnTalks$Talk" "name" "[I" "DrawnTalks") ∈ dt_NW := dt_inN (wq_l1 (List.mem_of_getElem? (i := 44) (by decide +kernel))) rfl
theorem wq_1_45 : (Cond.fieldLink "DrawnTalks$Talk" (25) "DrawnTalks$Talk" "mate" "[I") ∈ dt_W0 := dt_in (wq_l1 (List.mem_of_getElem? (i := 45) (by decide +kernel))) rfl
theorem wq_1_46 : (Cond.fieldLinkNest "DrawnTalks$Relation" (25) "DrawnTalks$Talk" "mate" "[I" "DrawnTalks") ∈ dt_NW := dt_inN (wq_l1 (List.mem_of_getElem? (i := 46) (by decide +kernel))) rfl
theorem wq_1_47 : (Cond.fieldLinkNest "DrawnTalks$Lattice" (82) "DrawnTalks$Talk" "mate" "[I" "DrawnTalks") ∈ dt_NW := dt_inN (wq_l1 (List.mem_of_getElem? (i := 47) (by decide +kernel))) rfl
theorem wq_1_48 : (Cond.fieldLinkNest "DrawnTalks" (111) "DrawnTalks$Talk" "mate" "[I" "DrawnTalks") ∈ dt_NW := dt_inN (wq_l1 (List.mem_of_getElem? (i := 48) (by decide +kernel))) rfl
theorem wq_1_49 : (Cond.fieldLink "DrawnTalks$Talk" (28) "DrawnTalks$Talk" "lineSize" "[I") ∈ dt_W0 := dt_in (wq_l1 (List.mem_of_getElem? (i := 49) (by decide +kernel))) rfl
theorem wq_1_50 : (Cond.fieldLinkNest "DrawnTalks$Lattice" (51) "DrawnTalks$Talk" "lineSize" "[I" "DrawnTalks") ∈ dt_NW := dt_inN (wq_l1 (List.mem_of_getElem? (i := 50) (by decide +kernel))) rfl
theorem wq_1_51 : (Cond.fieldLinkNest "DrawnTalks" (117) "DrawnTalks$Talk" "lineSize" "[I" "DrawnTalks") ∈ dt_NW := dt_inN (wq_l1 (List.mem_of_getElem? (i := 51) (by decide +kernel))) rfl
theorem wq_1_52 : (Cond.fieldLink "DrawnTalks$Talk" (31) "DrawnTalks$Talk" "lineEvents" "[I") ∈ dt_W0 := dt_in (wq_l1 (List.mem_of_getElem? (i := 52) (by decide +kernel))) rfl
theorem wq_1_53 : (Cond.fieldLink "DrawnTalks$Talk" (34) "DrawnTalks$Talk" "size" "I") ∈ dt_W0 := dt_in (wq_l1 (List.mem_of_getElem? (i := 53) (by decide +kernel))) rfl
theorem wq_1_54 : (Cond.fieldLinkNest "DrawnTalks$Relation" (15) "DrawnTalks$Talk" "size" "I" "DrawnTalks") ∈ dt_NW := dt_inN (wq_l1 (List.mem_of_getElem? (i := 54) (by decide +kernel))) rfl
theorem wq_1_55 : (Cond.fieldLinkNest "DrawnTalks$Lattice" (85) "DrawnTalks$Talk" "size" "I" "DrawnTalks") ∈ dt_NW := dt_inN (wq_l1 (List.mem_of_getElem? (i := 55) (by decide +kernel))) rfl
theorem wq_1_56 : (Cond.fieldLinkNest "DrawnTalks" (79) "DrawnTalks$Talk" "size" "I" "DrawnTalks") ∈ dt_NW := dt_inN (wq_l1 (List.mem_of_getElem? (i := 56) (by decide +kernel))) rfl
theorem wq_1_57 : (Cond.fieldLink "DrawnTalks$Talk" (38) "DrawnTalks$Talk" "sends" "I") ∈ dt_W0 := dt_in (wq_l1 (List.mem_of_getElem? (i := 57) (by decide +kernel))) rfl
theorem wq_1_58 : (Cond.fieldLinkNest "DrawnTalks$Reader" (45) "DrawnTalks$Talk" "sends" "I" "DrawnTalks") ∈ dt_NW := dt_inN (wq_l1 (List.mem_of_getElem? (i := 58) (by decide +kernel))) rfl
theorem wq_1_59 : (Cond.fieldLinkNest "DrawnTalks" (82) "DrawnTalks$Talk" "sends" "I" "DrawnTalks") ∈ dt_NW := dt_inN (wq_l1 (List.mem_of_getElem? (i := 59) (by decide +kernel))) rfl
theorem wq_1_60 : (Cond.laysFinal "DrawnTalks$Talk" "DrawnTalks$Talk" "isTake" "[Z") ∈ dt_W0 := dt_in (wq_l1 (List.mem_of_getElem? (i := 60) (by decide +kernel))) rfl
theorem wq_1_62 : (Cond.laysFinal "DrawnTalks$Talk" "DrawnTalks$Talk" "part" "[I") ∈ dt_W0 := dt_in (wq_l1 (List.mem_of_getElem? (i := 62) (by decide +kernel))) rfl
theorem wq_1_64 : (Cond.laysFinal "DrawnTalks$Talk" "DrawnTalks$Talk" "other" "[I") ∈ dt_W0 := dt_in (wq_l1 (List.mem_of_getElem? (i := 64) (by decide +kernel))) rfl
theorem wq_1_66 : (Cond.laysFinal "DrawnTalks$Talk" "DrawnTalks$Talk" "name" "[I") ∈ dt_W0 := dt_in (wq_l1 (List.mem_of_getElem? (i := 66) (by decide +kernel))) rfl
theorem wq_1_68 : (Cond.laysFinal "DrawnTalks$Talk" "DrawnTalks$Talk" "mate" "[I") ∈ dt_W0 := dt_in (wq_l1 (List.mem_of_getElem? (i := 68) (by decide +kernel))) rfl
theorem wq_1_70 : (Cond.laysFinal "DrawnTalks$Talk" "DrawnTalks$Talk" "lineSize" "[I") ∈ dt_W0 := dt_in (wq_l1 (List.mem_of_getElem? (i := 70) (by decide +kernel))) rfl
theorem wq_1_72 : (Cond.laysFinal "DrawnTalks$Talk" "DrawnTalks$Talk" "lineEvents" "[I") ∈ dt_W0 := dt_in (wq_l1 (List.mem_of_getElem? (i := 72) (by decide +kernel))) rfl
theorem wq_1_74 : (Cond.lays "DrawnTalks$Talk" "DrawnTalks$Talk" "size" "I") ∈ dt_W0 := dt_in (wq_l1 (List.mem_of_getElem? (i := 74) (by decide +kernel))) rfl
theorem wq_1_76 : (Cond.lays "DrawnTalks$Talk" "DrawnTalks$Talk" "sends" "I") ∈ dt_W0 := dt_in (wq_l1 (List.mem_of_getElem? (i := 76) (by decide +kernel))) rfl
theorem wq_1_79 : (Cond.arrayClass Jvm.ClassFile.FieldType.boolean) ∈ dt_W0 := dt_in (wq_l1 (List.mem_of_getElem? (i := 79) (by decide +kernel))) rfl
theorem wq_1_80 : (Cond.arrayClass Jvm.ClassFile.FieldType.int) ∈ dt_W0 := dt_in (wq_l1 (List.mem_of_getElem? (i := 80) (by decide +kernel))) rfl
theorem wq_1_81 : (Cond.classLink "DrawnTalks" (20) "DrawnTalks$Reader") ∈ dt_W0 := dt_in (wq_l1 (List.mem_of_getElem? (i := 81) (by decide +kernel))) rfl
theorem wq_1_82 : (Cond.instantiable "DrawnTalks$Reader" (6)) ∈ dt_W0 := dt_in (wq_l1 (List.mem_of_getElem? (i := 82) (by decide +kernel))) rfl
theorem wq_1_83 : (Cond.methodLinkNest "DrawnTalks" (22) (⟨"DrawnTalks$Reader", "<init>", "()V"⟩ : MethodName) "DrawnTalks") ∈ dt_NW := dt_inN (wq_l1 (List.mem_of_getElem? (i := 83) (by decide +kernel))) rfl
theorem wq_1_84 : (Cond.instanceMethod (⟨"DrawnTalks$Reader", "<init>", "()V"⟩ : MethodName)) ∈ dt_W0 := dt_in (wq_l1 (List.mem_of_getElem? (i := 84) (by decide +kernel))) rfl
theorem wq_1_85 : (Cond.code (⟨"DrawnTalks$Reader", "<init>", "()V"⟩ : MethodName) prog_5_method_1_code (1) (Option.none : Option Jvm.ClassFile.FieldType)) ∈ dt_W0 := dt_in (wq_l1 (List.mem_of_getElem? (i := 85) (by decide +kernel))) rfl
theorem wq_1_86 : (Cond.methodLink "DrawnTalks$Reader" (3) (⟨"java/lang/Object", "<init>", "()V"⟩ : MethodName)) ∈ dt_W0 := dt_in (wq_l1 (List.mem_of_getElem? (i := 86) (by decide +kernel))) rfl
theorem wq_1_87 : (Cond.fieldLink "DrawnTalks$Reader" (9) "DrawnTalks$Reader" "text" "[I") ∈ dt_W0 := dt_in (wq_l1 (List.mem_of_getElem? (i := 87) (by decide +kernel))) rfl
theorem wq_1_88 : (Cond.fieldLink "DrawnTalks$Reader" (15) "DrawnTalks$Reader" "length" "I") ∈ dt_W0 := dt_in (wq_l1 (List.mem_of_getElem? (i := 88) (by decide +kernel))) rfl
theorem wq_1_89 : (Cond.fieldLinkNest "DrawnTalks" (59) "DrawnTalks$Reader" "length" "I" "DrawnTalks") ∈ dt_NW := dt_inN (wq_l1 (List.mem_of_getElem? (i := 89) (by decide +kernel))) rfl
theorem wq_1_90 : (Cond.fieldLink "DrawnTalks$Reader" (24) "DrawnTalks$Reader" "at" "I") ∈ dt_W0 := dt_in (wq_l1 (List.mem_of_getElem? (i := 90) (by decide +kernel))) rfl
theorem wq_1_91 : (Cond.fieldLink "DrawnTalks$Reader" (39) "DrawnTalks$Reader" "start" "I") ∈ dt_W0 := dt_in (wq_l1 (List.mem_of_getElem? (i := 91) (by decide +kernel))) rfl
theorem wq_1_92 : (Cond.fieldLink "DrawnTalks$Reader" (42) "DrawnTalks$Reader" "kind" "I") ∈ dt_W0 := dt_in (wq_l1 (List.mem_of_getElem? (i := 92) (by decide +kernel))) rfl
theorem wq_1_93 : (Cond.fieldLink "DrawnTalks$Reader" (48) "DrawnTalks$Reader" "value" "I") ∈ dt_W0 := dt_in (wq_l1 (List.mem_of_getElem? (i := 93) (by decide +kernel))) rfl
theorem wq_1_94 : (Cond.laysFinal "DrawnTalks$Reader" "DrawnTalks$Reader" "text" "[I") ∈ dt_W0 := dt_in (wq_l1 (List.mem_of_getElem? (i := 94) (by decide +kernel))) rfl
theorem wq_1_96 : (Cond.lays "DrawnTalks$Reader" "DrawnTalks$Reader" "length" "I") ∈ dt_W0 := dt_in (wq_l1 (List.mem_of_getElem? (i := 96) (by decide +kernel))) rfl
theorem wq_1_98 : (Cond.lays "DrawnTalks$Reader" "DrawnTalks$Reader" "at" "I") ∈ dt_W0 := dt_in (wq_l1 (List.mem_of_getElem? (i := 98) (by decide +kernel))) rfl
theorem wq_1_100 : (Cond.lays "DrawnTalks$Reader" "DrawnTalks$Reader" "start" "I") ∈ dt_W0 := dt_in (wq_l1 (List.mem_of_getElem? (i := 100) (by decide +kernel))) rfl
theorem wq_1_102 : (Cond.lays "DrawnTalks$Reader" "DrawnTalks$Reader" "kind" "I") ∈ dt_W0 := dt_in (wq_l1 (List.mem_of_getElem? (i := 102) (by decide +kernel))) rfl
theorem wq_1_104 : (Cond.lays "DrawnTalks$Reader" "DrawnTalks$Reader" "value" "I") ∈ dt_W0 := dt_in (wq_l1 (List.mem_of_getElem? (i := 104) (by decide +kernel))) rfl
theorem wq_1_107 : (Cond.classLink "DrawnTalks" (27) "DrawnTalks$Relation") ∈ dt_W0 := dt_in (wq_l1 (List.mem_of_getElem? (i := 107) (by decide +kernel))) rfl
theorem wq_1_108 : (Cond.instantiable "DrawnTalks$Relation" (1)) ∈ dt_W0 := dt_in (wq_l1 (List.mem_of_getElem? (i := 108) (by decide +kernel))) rfl
theorem wq_1_109 : (Cond.methodLinkNest "DrawnTalks" (29) (⟨"DrawnTalks$Relation", "<init>", "()V"⟩ : MethodName) "DrawnTalks") ∈ dt_NW := dt_inN (wq_l1 (List.mem_of_getElem? (i := 109) (by decide +kernel))) rfl
theorem wq_1_110 : (Cond.instanceMethod (⟨"DrawnTalks$Relation", "<init>", "()V"⟩ : MethodName)) ∈ dt_W0 := dt_in (wq_l1 (List.mem_of_getElem? (i := 110) (by decide +kernel))) rfl
theorem wq_1_111 : (Cond.code (⟨"DrawnTalks$Relation", "<init>", "()V"⟩ : MethodName) prog_6_method_1_code (1) (Option.none : Option Jvm.ClassFile.FieldType)) ∈ dt_W0 := dt_in (wq_l1 (List.mem_of_getElem? (i := 111) (by decide +kernel))) rfl
theorem wq_1_112 : (Cond.methodLink "DrawnTalks$Relation" (3) (⟨"java/lang/Object", "<init>", "()V"⟩ : MethodName)) ∈ dt_W0 := dt_in (wq_l1 (List.mem_of_getElem? (i := 112) (by decide +kernel))) rfl
theorem wq_1_113 : (Cond.fieldLink "DrawnTalks$Relation" (9) "DrawnTalks$Relation" "ahead" "[I") ∈ dt_W0 := dt_in (wq_l1 (List.mem_of_getElem? (i := 113) (by decide +kernel))) rfl
theorem wq_1_114 : (Cond.laysFinal "DrawnTalks$Relation" "DrawnTalks$Relation" "ahead" "[I") ∈ dt_W0 := dt_in (wq_l1 (List.mem_of_getElem? (i := 114) (by decide +kernel))) rfl
theorem wq_1_117 : (Cond.classLink "DrawnTalks" (34) "DrawnTalks$Lattice") ∈ dt_W0 := dt_in (wq_l1 (List.mem_of_getElem? (i := 117) (by decide +kernel))) rfl
theorem wq_1_118 : (Cond.instantiable "DrawnTalks$Lattice" (10)) ∈ dt_W0 := dt_in (wq_l1 (List.mem_of_getElem? (i := 118) (by decide +kernel))) rfl
theorem wq_1_119 : (Cond.methodLinkNest "DrawnTalks" (36) (⟨"DrawnTalks$Lattice", "<init>", "()V"⟩ : MethodName) "DrawnTalks") ∈ dt_NW := dt_inN (wq_l1 (List.mem_of_getElem? (i := 119) (by decide +kernel))) rfl
theorem wq_1_120 : (Cond.instanceMethod (⟨"DrawnTalks$Lattice", "<init>", "()V"⟩ : MethodName)) ∈ dt_W0 := dt_in (wq_l1 (List.mem_of_getElem? (i := 120) (by decide +kernel))) rfl
theorem wq_1_121 : (Cond.code (⟨"DrawnTalks$Lattice", "<init>", "()V"⟩ : MethodName) prog_2_method_1_code (1) (Option.none : Option Jvm.ClassFile.FieldType)) ∈ dt_W0 := dt_in (wq_l1 (List.mem_of_getElem? (i := 121) (by decide +kernel))) rfl
theorem wq_1_122 : (Cond.methodLink "DrawnTalks$Lattice" (3) (⟨"java/lang/Object", "<init>", "()V"⟩ : MethodName)) ∈ dt_W0 := dt_in (wq_l1 (List.mem_of_getElem? (i := 122) (by decide +kernel))) rfl
theorem wq_1_123 : (Cond.fieldLink "DrawnTalks$Lattice" (9) "DrawnTalks$Lattice" "rows" "[J") ∈ dt_W0 := dt_in (wq_l1 (List.mem_of_getElem? (i := 123) (by decide +kernel))) rfl
theorem wq_1_124 : (Cond.fieldLink "DrawnTalks$Lattice" (15) "DrawnTalks$Lattice" "underWay" "[I") ∈ dt_W0 := dt_in (wq_l1 (List.mem_of_getElem? (i := 124) (by decide +kernel))) rfl
theorem wq_1_125 : (Cond.fieldLink "DrawnTalks$Lattice" (19) "DrawnTalks$Lattice" "leastTo" "[I") ∈ dt_W0 := dt_in (wq_l1 (List.mem_of_getElem? (i := 125) (by decide +kernel))) rfl
theorem wq_1_126 : (Cond.fieldLink "DrawnTalks$Lattice" (22) "DrawnTalks$Lattice" "step" "[I") ∈ dt_W0 := dt_in (wq_l1 (List.mem_of_getElem? (i := 126) (by decide +kernel))) rfl
theorem wq_1_127 : (Cond.fieldLink "DrawnTalks$Lattice" (25) "DrawnTalks$Lattice" "passed" "[I") ∈ dt_W0 := dt_in (wq_l1 (List.mem_of_getElem? (i := 127) (by decide +kernel))) rfl
theorem wq_1_128 : (Cond.fieldLink "DrawnTalks$Lattice" (28) "DrawnTalks$Lattice" "place" "[I") ∈ dt_W0 := dt_in (wq_l1 (List.mem_of_getElem? (i := 128) (by decide +kernel))) rfl
theorem wq_1_129 : (Cond.fieldLink "DrawnTalks$Lattice" (43) "DrawnTalks$Lattice" "rowsInAll" "J") ∈ dt_W0 := dt_in (wq_l1 (List.mem_of_getElem? (i := 129) (by decide +kernel))) rfl
theorem wq_1_130 : (Cond.fieldLinkNest "DrawnTalks" (147) "DrawnTalks$Lattice" "rowsInAll" "J" "DrawnTalks") ∈ dt_NW := dt_inN (wq_l1 (List.mem_of_getElem? (i := 130) (by decide +kernel))) rfl
theorem wq_1_131 : (Cond.fieldLink "DrawnTalks$Lattice" (65) "DrawnTalks$Lattice" "reached" "I") ∈ dt_W0 := dt_in (wq_l1 (List.mem_of_getElem? (i := 131) (by decide +kernel))) rfl
theorem wq_1_132 : (Cond.fieldLinkNest "DrawnTalks" (151) "DrawnTalks$Lattice" "reached" "I" "DrawnTalks") ∈ dt_NW := dt_inN (wq_l1 (List.mem_of_getElem? (i := 132) (by decide +kernel))) rfl
theorem wq_1_133 : (Cond.fieldLink "DrawnTalks$Lattice" (68) "DrawnTalks$Lattice" "most" "I") ∈ dt_W0 := dt_in (wq_l1 (List.mem_of_getElem? (i := 133) (by decide +kernel))) rfl
theorem wq_1_134 : (Cond.fieldLinkNest "DrawnTalks" (154) "DrawnTalks$Lattice" "most" "I" "DrawnTalks") ∈ dt_NW := dt_inN (wq_l1 (List.mem_of_getElem? (i := 134) (by decide +kernel))) rfl
theorem wq_1_135 : (Cond.fieldLink "DrawnTalks$Lattice" (47) "DrawnTalks$Lattice" "least" "I") ∈ dt_W0 := dt_in (wq_l1 (List.mem_of_getElem? (i := 135) (by decide +kernel))) rfl
theorem wq_1_136 : (Cond.fieldLinkNest "DrawnTalks" (157) "DrawnTalks$Lattice" "least" "I" "DrawnTalks") ∈ dt_NW := dt_inN (wq_l1 (List.mem_of_getElem? (i := 136) (by decide +kernel))) rfl
theorem wq_1_137 : (Cond.laysFinal "DrawnTalks$Lattice" "DrawnTalks$Lattice" "rows" "[J") ∈ dt_W0 := dt_in (wq_l1 (List.mem_of_getElem? (i := 137) (by decide +kernel))) rfl
theorem wq_1_139 : (Cond.laysFinal "DrawnTalks$Lattice" "DrawnTalks$Lattice" "underWay" "[I") ∈ dt_W0 := dt_in (wq_l1 (List.mem_of_getElem? (i := 139) (by decide +kernel))) rfl
theorem wq_1_141 : (Cond.laysFinal "DrawnTalks$Lattice" "DrawnTalks$Lattice" "leastTo" "[I") ∈ dt_W0 := dt_in (wq_l1 (List.mem_of_getElem? (i := 141) (by decide +kernel))) rfl
theorem wq_1_143 : (Cond.laysFinal "DrawnTalks$Lattice" "DrawnTalks$Lattice" "step" "[I") ∈ dt_W0 := dt_in (wq_l1 (List.mem_of_getElem? (i := 143) (by decide +kernel))) rfl
theorem wq_1_145 : (Cond.laysFinal "DrawnTalks$Lattice" "DrawnTalks$Lattice" "passed" "[I") ∈ dt_W0 := dt_in (wq_l1 (List.mem_of_getElem? (i := 145) (by decide +kernel))) rfl
theorem wq_1_147 : (Cond.laysFinal "DrawnTalks$Lattice" "DrawnTalks$Lattice" "place" "[I") ∈ dt_W0 := dt_in (wq_l1 (List.mem_of_getElem? (i := 147) (by decide +kernel))) rfl
theorem wq_1_149 : (Cond.lays "DrawnTalks$Lattice" "DrawnTalks$Lattice" "rowsInAll" "J") ∈ dt_W0 := dt_in (wq_l1 (List.mem_of_getElem? (i := 149) (by decide +kernel))) rfl
theorem wq_1_151 : (Cond.lays "DrawnTalks$Lattice" "DrawnTalks$Lattice" "reached" "I") ∈ dt_W0 := dt_in (wq_l1 (List.mem_of_getElem? (i := 151) (by decide +kernel))) rfl
theorem wq_1_153 : (Cond.lays "DrawnTalks$Lattice" "DrawnTalks$Lattice" "most" "I") ∈ dt_W0 := dt_in (wq_l1 (List.mem_of_getElem? (i := 153) (by decide +kernel))) rfl
theorem wq_1_155 : (Cond.lays "DrawnTalks$Lattice" "DrawnTalks$Lattice" "least" "I") ∈ dt_W0 := dt_in (wq_l1 (List.mem_of_getElem? (i := 155) (by decide +kernel))) rfl
theorem wq_1_158 : (Cond.arrayClass Jvm.ClassFile.FieldType.long) ∈ dt_W0 := dt_in (wq_l1 (List.mem_of_getElem? (i := 158) (by decide +kernel))) rfl
theorem wq_1_159 : (Cond.classLink "DrawnTalks" (41) "DrawnTalks$Player") ∈ dt_W0 := dt_in (wq_l1 (List.mem_of_getElem? (i := 159) (by decide +kernel))) rfl
theorem wq_1_160 : (Cond.instantiable "DrawnTalks$Player" (10)) ∈ dt_W0 := dt_in (wq_l1 (List.mem_of_getElem? (i := 160) (by decide +kernel))) rfl
theorem wq_1_161 : (Cond.methodLink "DrawnTalks" (43) (⟨"DrawnTalks$Player", "<init>", "([LDrawnTalks$Talk;)V"⟩ : MethodName)) ∈ dt_W0 := dt_in (wq_l1 (List.mem_of_getElem? (i := 161) (by decide +kernel))) rfl
theorem wq_1_162 : (Cond.instanceMethod (⟨"DrawnTalks$Player", "<init>", "([LDrawnTalks$Talk;)V"⟩ : MethodName)) ∈ dt_W0 := dt_in (wq_l1 (List.mem_of_getElem? (i := 162) (by decide +kernel))) rfl
theorem wq_1_163 : (Cond.code (⟨"DrawnTalks$Player", "<init>", "([LDrawnTalks$Talk;)V"⟩ : MethodName) prog_4_method_1_code (2) (Option.none : Option Jvm.ClassFile.FieldType)) ∈ dt_W0 := dt_in (wq_l1 (List.mem_of_getElem? (i := 163) (by decide +kernel))) rfl
theorem wq_1_164 : (Cond.methodLink "DrawnTalks$Player" (3) (⟨"java/lang/Object", "<init>", "()V"⟩ : MethodName)) ∈ dt_W0 := dt_in (wq_l1 (List.mem_of_getElem? (i := 164) (by decide +kernel))) rfl
theorem wq_1_165 : (Cond.fieldLink "DrawnTalks$Player" (30) "DrawnTalks$Player" "talks" "[LDrawnTalks$Talk;") ∈ dt_W0 := dt_in (wq_l1 (List.mem_of_getElem? (i := 165) (by decide +kernel))) rfl
theorem wq_1_166 : (Cond.fieldLink "DrawnTalks$Player" (9) "DrawnTalks$Player" "passed" "[I") ∈ dt_W0 := dt_in (wq_l1 (List.mem_of_getElem? (i := 166) (by decide +kernel))) rfl
theorem wq_1_167 : (Cond.fieldLink "DrawnTalks$Player" (15) "DrawnTalks$Player" "next" "[I") ∈ dt_W0 := dt_in (wq_l1 (List.mem_of_getElem? (i := 167) (by decide +kernel))) rfl
theorem wq_1_168 : (Cond.fieldLink "DrawnTalks$Player" (18) "DrawnTalks$Player" "names" "[I") ∈ dt_W0 := dt_in (wq_l1 (List.mem_of_getElem? (i := 168) (by decide +kernel))) rfl
theorem wq_1_169 : (Cond.fieldLink "DrawnTalks$Player" (21) "DrawnTalks$Player" "sent" "[I") ∈ dt_W0 := dt_in (wq_l1 (List.mem_of_getElem? (i := 169) (by decide +kernel))) rfl
theorem wq_1_170 : (Cond.fieldLink "DrawnTalks$Player" (24) "DrawnTalks$Player" "taken" "[I") ∈ dt_W0 := dt_in (wq_l1 (List.mem_of_getElem? (i := 170) (by decide +kernel))) rfl
theorem wq_1_171 : (Cond.fieldLink "DrawnTalks$Player" (27) "DrawnTalks$Player" "doer" "[I") ∈ dt_W0 := dt_in (wq_l1 (List.mem_of_getElem? (i := 171) (by decide +kernel))) rfl
theorem wq_1_172 : (Cond.fieldLink "DrawnTalks$Player" (34) "DrawnTalks$Player" "mix" "I") ∈ dt_W0 := dt_in (wq_l1 (List.mem_of_getElem? (i := 172) (by decide +kernel))) rfl
theorem wq_1_173 : (Cond.fieldLink "DrawnTalks$Player" (38) "DrawnTalks$Player" "done" "I") ∈ dt_W0 := dt_in (wq_l1 (List.mem_of_getElem? (i := 173) (by decide +kernel))) rfl
theorem wq_1_174 : (Cond.fieldLinkNest "DrawnTalks" (176) "DrawnTalks$Player" "done" "I" "DrawnTalks") ∈ dt_NW := dt_inN (wq_l1 (List.mem_of_getElem? (i := 174) (by decide +kernel))) rfl
theorem wq_1_175 : (Cond.fieldLink "DrawnTalks$Player" (41) "DrawnTalks$Player" "left" "I") ∈ dt_W0 := dt_in (wq_l1 (List.mem_of_getElem? (i := 175) (by decide +kernel))) rfl
theorem wq_1_176 : (Cond.fieldLinkNest "DrawnTalks" (183) "DrawnTalks$Player" "left" "I" "DrawnTalks") ∈ dt_NW := dt_inN (wq_l1 (List.mem_of_getElem? (i := 176) (by decide +kernel))) rfl
theorem wq_1_177 : (Cond.laysFinal "DrawnTalks$Player" "DrawnTalks$Player" "talks" "[LDrawnTalks$Talk;") ∈ dt_W0 := dt_in (wq_l1 (List.mem_of_getElem? (i := 177) (by decide +kernel))) rfl
theorem wq_1_179 : (Cond.laysFinal "DrawnTalks$Player" "DrawnTalks$Player" "passed" "[I") ∈ dt_W0 := dt_in (wq_l1 (List.mem_of_getElem? (i := 179) (by decide +kernel))) rfl
theorem wq_1_181 : (Cond.laysFinal "DrawnTalks$Player" "DrawnTalks$Player" "next" "[I") ∈ dt_W0 := dt_in (wq_l1 (List.mem_of_getElem? (i := 181) (by decide +kernel))) rfl
theorem wq_1_183 : (Cond.laysFinal "DrawnTalks$Player" "DrawnTalks$Player" "names" "[I") ∈ dt_W0 := dt_in (wq_l1 (List.mem_of_getElem? (i := 183) (by decide +kernel))) rfl
theorem wq_1_185 : (Cond.laysFinal "DrawnTalks$Player" "DrawnTalks$Player" "sent" "[I") ∈ dt_W0 := dt_in (wq_l1 (List.mem_of_getElem? (i := 185) (by decide +kernel))) rfl
theorem wq_1_187 : (Cond.laysFinal "DrawnTalks$Player" "DrawnTalks$Player" "taken" "[I") ∈ dt_W0 := dt_in (wq_l1 (List.mem_of_getElem? (i := 187) (by decide +kernel))) rfl
theorem wq_1_189 : (Cond.laysFinal "DrawnTalks$Player" "DrawnTalks$Player" "doer" "[I") ∈ dt_W0 := dt_in (wq_l1 (List.mem_of_getElem? (i := 189) (by decide +kernel))) rfl
theorem wq_1_191 : (Cond.lays "DrawnTalks$Player" "DrawnTalks$Player" "mix" "I") ∈ dt_W0 := dt_in (wq_l1 (List.mem_of_getElem? (i := 191) (by decide +kernel))) rfl
theorem wq_1_193 : (Cond.lays "DrawnTalks$Player" "DrawnTalks$Player" "done" "I") ∈ dt_W0 := dt_in (wq_l1 (List.mem_of_getElem? (i := 193) (by decide +kernel))) rfl
theorem wq_1_195 : (Cond.lays "DrawnTalks$Player" "DrawnTalks$Player" "left" "I") ∈ dt_W0 := dt_in (wq_l1 (List.mem_of_getElem? (i := 195) (by decide +kernel))) rfl
theorem wq_1_198 : (Cond.classLink "DrawnTalks" (50) "DrawnTalks$Mixer") ∈ dt_W0 := dt_in (wq_l1 (List.mem_of_getElem? (i := 198) (by decide +kernel))) rfl
theorem wq_1_199 : (Cond.instantiable "DrawnTalks$Mixer" (4)) ∈ dt_W0 := dt_in (wq_l1 (List.mem_of_getElem? (i := 199) (by decide +kernel))) rfl
theorem wq_1_200 : (Cond.methodLink "DrawnTalks" (52) (⟨"DrawnTalks$Mixer", "<init>", "([LDrawnTalks$Talk;LDrawnTalks$Player;)V"⟩ : MethodName)) ∈ dt_W0 := dt_in (wq_l1 (List.mem_of_getElem? (i := 200) (by decide +kernel))) rfl
theorem wq_1_201 : (Cond.instanceMethod (⟨"DrawnTalks$Mixer", "<init>", "([LDrawnTalks$Talk;LDrawnTalks$Player;)V"⟩ : MethodName)) ∈ dt_W0 := dt_in (wq_l1 (List.mem_of_getElem? (i := 201) (by decide +kernel))) rfl
theorem wq_1_202 : (Cond.code (⟨"DrawnTalks$Mixer", "<init>", "([LDrawnTalks$Talk;LDrawnTalks$Player;)V"⟩ : MethodName) prog_3_method_1_code (3) (Option.none : Option Jvm.ClassFile.FieldType)) ∈ dt_W0 := dt_in (wq_l1 (List.mem_of_getElem? (i := 202) (by decide +kernel))) rfl
theorem wq_1_203 : (Cond.methodLink "DrawnTalks$Mixer" (3) (⟨"java/lang/Object", "<init>", "()V"⟩ : MethodName)) ∈ dt_W0 := dt_in (wq_l1 (List.mem_of_getElem? (i := 203) (by decide +kernel))) rfl
theorem wq_1_204 : (Cond.fieldLink "DrawnTalks$Mixer" (15) "DrawnTalks$Mixer" "talks" "[LDrawnTalks$Talk;") ∈ dt_W0 := dt_in (wq_l1 (List.mem_of_getElem? (i := 204) (by decide +kernel))) rfl
theorem wq_1_205 : (Cond.fieldLink "DrawnTalks$Mixer" (19) "DrawnTalks$Mixer" "player" "LDrawnTalks$Player;") ∈ dt_W0 := dt_in (wq_l1 (List.mem_of_getElem? (i := 205) (by decide +kernel))) rfl
theorem wq_1_206 : (Cond.fieldLink "DrawnTalks$Mixer" (9) "DrawnTalks$Mixer" "first" "[I") ∈ dt_W0 := dt_in (wq_l1 (List.mem_of_getElem? (i := 206) (by decide +kernel))) rfl
theorem wq_1_207 : (Cond.fieldLink "DrawnTalks$Mixer" (47) "DrawnTalks$Mixer" "set" "I") ∈ dt_W0 := dt_in (wq_l1 (List.mem_of_getElem? (i := 207) (by decide +kernel))) rfl
theorem wq_1_208 : (Cond.laysFinal "DrawnTalks$Mixer" "DrawnTalks$Mixer" "talks" "[LDrawnTalks$Talk;") ∈ dt_W0 := dt_in (wq_l1 (List.mem_of_getElem? (i := 208) (by decide +kernel))) rfl
theorem wq_1_210 : (Cond.laysFinal "DrawnTalks$Mixer" "DrawnTalks$Mixer" "player" "LDrawnTalks$Player;") ∈ dt_W0 := dt_in (wq_l1 (List.mem_of_getElem? (i := 210) (by decide +kernel))) rfl
theorem wq_1_212 : (Cond.laysFinal "DrawnTalks$Mixer" "DrawnTalks$Mixer" "first" "[I") ∈ dt_W0 := dt_in (wq_l1 (List.mem_of_getElem? (i := 212) (by decide +kernel))) rfl
theorem wq_1_214 : (Cond.lays "DrawnTalks$Mixer" "DrawnTalks$Mixer" "set" "I") ∈ dt_W0 := dt_in (wq_l1 (List.mem_of_getElem? (i := 214) (by decide +kernel))) rfl
theorem wq_1_217 : (Cond.fieldLink "DrawnTalks" (11) "DrawnTalks" "talks" "[LDrawnTalks$Talk;") ∈ dt_W0 := dt_in (wq_l1 (List.mem_of_getElem? (i := 217) (by decide +kernel))) rfl
theorem wq_1_218 : (Cond.fieldLink "DrawnTalks" (16) "DrawnTalks" "built" "LDrawnTalks$Talk;") ∈ dt_W0 := dt_in (wq_l1 (List.mem_of_getElem? (i := 218) (by decide +kernel))) rfl
theorem wq_1_219 : (Cond.fieldLink "DrawnTalks" (23) "DrawnTalks" "reader" "LDrawnTalks$Reader;") ∈ dt_W0 := dt_in (wq_l1 (List.mem_of_getElem? (i := 219) (by decide +kernel))) rfl
theorem wq_1_220 : (Cond.fieldLink "DrawnTalks" (30) "DrawnTalks" "relation" "LDrawnTalks$Relation;") ∈ dt_W0 := dt_in (wq_l1 (List.mem_of_getElem? (i := 220) (by decide +kernel))) rfl
theorem wq_1_221 : (Cond.fieldLink "DrawnTalks" (37) "DrawnTalks" "lattice" "LDrawnTalks$Lattice;") ∈ dt_W0 := dt_in (wq_l1 (List.mem_of_getElem? (i := 221) (by decide +kernel))) rfl
theorem wq_1_222 : (Cond.fieldLink "DrawnTalks" (46) "DrawnTalks" "player" "LDrawnTalks$Player;") ∈ dt_W0 := dt_in (wq_l1 (List.mem_of_getElem? (i := 222) (by decide +kernel))) rfl
theorem wq_1_223 : (Cond.fieldLink "DrawnTalks" (55) "DrawnTalks" "mixer" "LDrawnTalks$Mixer;") ∈ dt_W0 := dt_in (wq_l1 (List.mem_of_getElem? (i := 223) (by decide +kernel))) rfl
theorem wq_1_224 : (Cond.laysFinal "DrawnTalks" "DrawnTalks" "talks" "[LDrawnTalks$Talk;") ∈ dt_W0 := dt_in (wq_l1 (List.mem_of_getElem? (i := 224) (by decide +kernel))) rfl
theorem wq_1_226 : (Cond.laysFinal "DrawnTalks" "DrawnTalks" "built" "LDrawnTalks$Talk;") ∈ dt_W0 := dt_in (wq_l1 (List.mem_of_getElem? (i := 226) (by decide +kernel))) rfl
theorem wq_1_228 : (Cond.laysFinal "DrawnTalks" "DrawnTalks" "reader" "LDrawnTalks$Reader;") ∈ dt_W0 := dt_in (wq_l1 (List.mem_of_getElem? (i := 228) (by decide +kernel))) rfl
theorem wq_1_230 : (Cond.laysFinal "DrawnTalks" "DrawnTalks" "relation" "LDrawnTalks$Relation;") ∈ dt_W0 := dt_in (wq_l1 (List.mem_of_getElem? (i := 230) (by decide +kernel))) rfl
theorem wq_1_232 : (Cond.laysFinal "DrawnTalks" "DrawnTalks" "lattice" "LDrawnTalks$Lattice;") ∈ dt_W0 := dt_in (wq_l1 (List.mem_of_getElem? (i := 232) (by decide +kernel))) rfl
theorem wq_1_234 : (Cond.laysFinal "DrawnTalks" "DrawnTalks" "player" "LDrawnTalks$Player;") ∈ dt_W0 := dt_in (wq_l1 (List.mem_of_getElem? (i := 234) (by decide +kernel))) rfl
theorem wq_1_236 : (Cond.laysFinal "DrawnTalks" "DrawnTalks" "mixer" "LDrawnTalks$Mixer;") ∈ dt_W0 := dt_in (wq_l1 (List.mem_of_getElem? (i := 236) (by decide +kernel))) rfl
theorem wq_1_239 : (Cond.methodLink "DrawnTalksLaw" (15) (⟨"DrawnTalks", "type", "(JI)I"⟩ : MethodName)) ∈ dt_W0 := dt_in (wq_l1 (List.mem_of_getElem? (i := 239) (by decide +kernel))) rfl
theorem wq_2_0 : (Cond.instanceMethod (⟨"DrawnTalks", "type", "(JI)I"⟩ : MethodName)) ∈ dt_W0 := dt_in (wq_l2 (List.mem_of_getElem? (i := 0) (by decide +kernel))) rfl
theorem wq_2_1 : (Cond.selects "DrawnTalks" (⟨"DrawnTalks", "type", "(JI)I"⟩ : MethodName) (⟨"DrawnTalks", "type", "(JI)I"⟩ : MethodName)) ∈ dt_W0 := dt_in (wq_l2 (List.mem_of_getElem? (i := 1) (by decide +kernel))) rfl
theorem wq_2_2 : (Cond.code (⟨"DrawnTalks", "type", "(JI)I"⟩ : MethodName) prog_1_method_2_code (5) (Option.some Jvm.ClassFile.FieldType.int)) ∈ dt_W0 := dt_in (wq_l2 (List.mem_of_getElem? (i := 2) (by decide +kernel))) rfl
theorem wq_2_3 : (Cond.methodLink "DrawnTalks" (63) (⟨"DrawnTalks$Reader", "append", "(I)V"⟩ : MethodName)) ∈ dt_W0 := dt_in (wq_l2 (List.mem_of_getElem? (i := 3) (by decide +kernel))) rfl
theorem wq_2_4 : (Cond.instanceMethod (⟨"DrawnTalks$Reader", "append", "(I)V"⟩ : MethodName)) ∈ dt_W0 := dt_in (wq_l2 (List.mem_of_getElem? (i := 4) (by decide +kernel))) rfl
theorem wq_2_5 : (Cond.selects "DrawnTalks$Reader" (⟨"DrawnTalks$Reader", "append", "(I)V"⟩ : MethodName) (⟨"DrawnTalks$Reader", "append", "(I)V"⟩ : MethodName)) ∈ dt_W0 := dt_in (wq_l2 (List.mem_of_getElem? (i := 5) (by decide +kernel))) rfl
theorem wq_2_6 : (Cond.code (⟨"DrawnTalks$Reader", "append", "(I)V"⟩ : MethodName) prog_5_method_2_code (2) (Option.none : Option Jvm.ClassFile.FieldType)) ∈ dt_W0 := dt_in (wq_l2 (List.mem_of_getElem? (i := 6) (by decide +kernel))) rfl
theorem wq_2_7 : (Cond.methodLink "DrawnTalksLaw" (20) (⟨"DrawnTalks", "clear", "()I"⟩ : MethodName)) ∈ dt_W0 := dt_in (wq_l2 (List.mem_of_getElem? (i := 7) (by decide +kernel))) rfl
theorem wq_2_8 : (Cond.instanceMethod (⟨"DrawnTalks", "clear", "()I"⟩ : MethodName)) ∈ dt_W0 := dt_in (wq_l2 (List.mem_of_getElem? (i := 8) (by decide +kernel))) rfl
theorem wq_2_9 : (Cond.selects "DrawnTalks" (⟨"DrawnTalks", "clear", "()I"⟩ : MethodName) (⟨"DrawnTalks", "clear", "()I"⟩ : MethodName)) ∈ dt_W0 := dt_in (wq_l2 (List.mem_of_getElem? (i := 9) (by decide +kernel))) rfl
theorem wq_2_10 : (Cond.code (⟨"DrawnTalks", "clear", "()I"⟩ : MethodName) prog_1_method_3_code (2) (Option.some Jvm.ClassFile.FieldType.int)) ∈ dt_W0 := dt_in (wq_l2 (List.mem_of_getElem? (i := 10) (by decide +kernel))) rfl
theorem wq_2_11 : (Cond.methodLink "DrawnTalksLaw" (25) (⟨"DrawnTalks", "talk", "(I)I"⟩ : MethodName)) ∈ dt_W0 := dt_in (wq_l2 (List.mem_of_getElem? (i := 11) (by decide +kernel))) rfl
theorem wq_2_12 : (Cond.instanceMethod (⟨"DrawnTalks", "talk", "(I)I"⟩ : MethodName)) ∈ dt_W0 := dt_in (wq_l2 (List.mem_of_getElem? (i := 12) (by decide +kernel))) rfl
theorem wq_2_13 : (Cond.selects "DrawnTalks" (⟨"DrawnTalks", "talk", "(I)I"⟩ : MethodName) (⟨"DrawnTalks", "talk", "(I)I"⟩ : MethodName)) ∈ dt_W0 := dt_in (wq_l2 (List.mem_of_getElem? (i := 13) (by decide +kernel))) rfl
theorem wq_2_14 : (Cond.code (⟨"DrawnTalks", "talk", "(I)I"⟩ : MethodName) prog_1_method_4_code (3) (Option.some Jvm.ClassFile.FieldType.int)) ∈ dt_W0 := dt_in (wq_l2 (List.mem_of_getElem? (i := 14) (by decide +kernel))) rfl
theorem wq_2_15 : (Cond.methodLink "DrawnTalks" (67) (⟨"DrawnTalks", "isTalk", "(I)Z"⟩ : MethodName)) ∈ dt_W0 := dt_in (wq_l2 (List.mem_of_getElem? (i := 15) (by decide +kernel))) rfl
theorem wq_2_16 : (Cond.static (⟨"DrawnTalks", "isTalk", "(I)Z"⟩ : MethodName)) ∈ dt_W0 := dt_in (wq_l2 (List.mem_of_getElem? (i := 16) (by decide +kernel))) rfl
theorem wq_2_17 : (Cond.code (⟨"DrawnTalks", "isTalk", "(I)Z"⟩ : MethodName) prog_1_method_23_code (1) (Option.some Jvm.ClassFile.FieldType.boolean)) ∈ dt_W0 := dt_in (wq_l2 (List.mem_of_getElem? (i := 17) (by decide +kernel))) rfl
theorem wq_2_18 : (Cond.methodLink "DrawnTalks" (71) (⟨"DrawnTalks$Reader", "readInto", "(LDrawnTalks$Talk;)I"⟩ : MethodName)) ∈ dt_W0 := dt_in (wq_l2 (List.mem_of_getElem? (i := 18) (by decide +kernel))) rfl
theorem wq_2_19 : (Cond.instanceMethod (⟨"DrawnTalks$Reader", "readInto", "(LDrawnTalks$Talk;)I"⟩ : MethodName)) ∈ dt_W0 := dt_in (wq_l2 (List.mem_of_getElem? (i := 19) (by decide +kernel))) rfl
theorem wq_2_20 : (Cond.selects "DrawnTalks$Reader" (⟨"DrawnTalks$Reader", "readInto", "(LDrawnTalks$Talk;)I"⟩ : MethodName) (⟨"DrawnTalks$Reader", "readInto", "(LDrawnTalks$Talk;)I"⟩ : MethodName)) ∈ dt_W0 := dt_in (wq_l2 (List.mem_of_getElem? (i := 20) (by decide +kernel))) rfl
theorem wq_2_21 : (Cond.code (⟨"DrawnTalks$Reader", "readInto", "(LDrawnTalks$Talk;)I"⟩ : MethodName) prog_5_method_3_code (3) (Option.some Jvm.ClassFile.FieldType.int)) ∈ dt_W0 := dt_in (wq_l2 (List.mem_of_getElem? (i := 21) (by decide +kernel))) rfl
theorem wq_2_22 : (Cond.methodLink "DrawnTalks$Reader" (19) (⟨"DrawnTalks$Talk", "empty", "()V"⟩ : MethodName)) ∈ dt_W0 := dt_in (wq_l2 (List.mem_of_getElem? (i := 22) (by decide +kernel))) rfl
theorem wq_2_23 : (Cond.instanceMethod (⟨"DrawnTalks$Talk", "empty", "()V"⟩ : MethodName)) ∈ dt_W0 := dt_in (wq_l2 (List.mem_of_getElem? (i := 23) (by decide +kernel))) rfl
theorem wq_2_24 : (Cond.selects "DrawnTalks$Talk" (⟨"DrawnTalks$Talk", "empty", "()V"⟩ : MethodName) (⟨"DrawnTalks$Talk", "empty", "()V"⟩ : MethodName)) ∈ dt_W0 := dt_in (wq_l2 (List.mem_of_getElem? (i := 24) (by decide +kernel))) rfl
theorem wq_2_25 : (Cond.code (⟨"DrawnTalks$Talk", "empty", "()V"⟩ : MethodName) prog_7_method_2_code (2) (Option.none : Option Jvm.ClassFile.FieldType)) ∈ dt_W0 := dt_in (wq_l2 (List.mem_of_getElem? (i := 25) (by decide +kernel))) rfl
theorem wq_2_26 : (Cond.methodLink "DrawnTalks$Reader" (27) (⟨"DrawnTalks$Reader", "nextIs", "(I)Z"⟩ : MethodName)) ∈ dt_W0 := dt_in (wq_l2 (List.mem_of_getElem? (i := 26) (by decide +kernel))) rfl
theorem wq_2_28 : (Cond.instanceMethod (⟨"DrawnTalks$Reader", "nextIs", "(I)Z"⟩ : MethodName)) ∈ dt_W0 := dt_in (wq_l2 (List.mem_of_getElem? (i := 28) (by decide +kernel))) rfl
theorem wq_2_29 : (Cond.code (⟨"DrawnTalks$Reader", "nextIs", "(I)Z"⟩ : MethodName) prog_5_method_5_code (2) (Option.some Jvm.ClassFile.FieldType.boolean)) ∈ dt_W0 := dt_in (wq_l2 (List.mem_of_getElem? (i := 29) (by decide +kernel))) rfl
theorem wq_2_30 : (Cond.methodLink "DrawnTalks$Reader" (62) (⟨"DrawnTalks$Reader", "isSmallLetter", "(I)Z"⟩ : MethodName)) ∈ dt_W0 := dt_in (wq_l2 (List.mem_of_getElem? (i := 30) (by decide +kernel))) rfl
theorem wq_2_31 : (Cond.static (⟨"DrawnTalks$Reader", "isSmallLetter", "(I)Z"⟩ : MethodName)) ∈ dt_W0 := dt_in (wq_l2 (List.mem_of_getElem? (i := 31) (by decide +kernel))) rfl
theorem wq_2_32 : (Cond.code (⟨"DrawnTalks$Reader", "isSmallLetter", "(I)Z"⟩ : MethodName) prog_5_method_9_code (1) (Option.some Jvm.ClassFile.FieldType.boolean)) ∈ dt_W0 := dt_in (wq_l2 (List.mem_of_getElem? (i := 32) (by decide +kernel))) rfl
theorem wq_2_33 : (Cond.methodLink "DrawnTalks$Reader" (65) (⟨"DrawnTalks$Reader", "readWord", "()V"⟩ : MethodName)) ∈ dt_W0 := dt_in (wq_l2 (List.mem_of_getElem? (i := 33) (by decide +kernel))) rfl
theorem wq_2_35 : (Cond.instanceMethod (⟨"DrawnTalks$Reader", "readWord", "()V"⟩ : MethodName)) ∈ dt_W0 := dt_in (wq_l2 (List.mem_of_getElem? (i := 35) (by decide +kernel))) rfl
theorem wq_2_36 : (Cond.code (⟨"DrawnTalks$Reader", "readWord", "()V"⟩ : MethodName) prog_5_method_7_code (1) (Option.none : Option Jvm.ClassFile.FieldType)) ∈ dt_W0 := dt_in (wq_l2 (List.mem_of_getElem? (i := 36) (by decide +kernel))) rfl
theorem wq_2_38 : (Cond.methodLink "DrawnTalks$Reader" (74) (⟨"DrawnTalks$Reader", "wordIs", "(Ljava/lang/String;)Z"⟩ : MethodName)) ∈ dt_W0 := dt_in (wq_l2 (List.mem_of_getElem? (i := 38) (by decide +kernel))) rfl
theorem wq_2_40 : (Cond.instanceMethod (⟨"DrawnTalks$Reader", "wordIs", "(Ljava/lang/String;)Z"⟩ : MethodName)) ∈ dt_W0 := dt_in (wq_l2 (List.mem_of_getElem? (i := 40) (by decide +kernel))) rfl
theorem wq_2_41 : (Cond.code (⟨"DrawnTalks$Reader", "wordIs", "(Ljava/lang/String;)Z"⟩ : MethodName) prog_5_method_8_code (3) (Option.some Jvm.ClassFile.FieldType.boolean)) ∈ dt_W0 := dt_in (wq_l2 (List.mem_of_getElem? (i := 41) (by decide +kernel))) rfl
theorem wq_2_42 : (Cond.methodLink "DrawnTalks$Reader" (80) (⟨"java/lang/String", "length", "()I"⟩ : MethodName)) ∈ dt_W0 := dt_in (wq_l2 (List.mem_of_getElem? (i := 42) (by decide +kernel))) rfl
theorem wq_2_43 : (Cond.instanceMethod (⟨"java/lang/String", "length", "()I"⟩ : MethodName)) ∈ dt_W0 := dt_in (wq_l2 (List.mem_of_getElem? (i := 43) (by decide +kernel))) rfl
theorem wq_2_44 : (Cond.selects "java/lang/String" (⟨"java/lang/String", "length", "()I"⟩ : MethodName) (⟨"java/lang/String", "length", "()I"⟩ : MethodName)) ∈ dt_W0 := dt_in (wq_l2 (List.mem_of_getElem? (i := 44) (by decide +kernel))) rfl
theorem wq_2_45 : (Cond.code (⟨"java/lang/String", "length", "()I"⟩ : MethodName) prog_11_method_54_code (1) (Option.some Jvm.ClassFile.FieldType.int)) ∈ dt_W0 := dt_in (wq_l2 (List.mem_of_getElem? (i := 45) (by decide +kernel))) rfl
theorem wq_2_46 : (Cond.methodLink "java/lang/String" (335) (⟨"java/lang/String", "coder", "()B"⟩ : MethodName)) ∈ dt_W0 := dt_in (wq_l2 (List.mem_of_getElem? (i := 46) (by decide +kernel))) rfl
theorem wq_2_47 : (Cond.instanceMethod (⟨"java/lang/String", "coder", "()B"⟩ : MethodName)) ∈ dt_W0 := dt_in (wq_l2 (List.mem_of_getElem? (i := 47) (by decide +kernel))) rfl
theorem wq_2_48 : (Cond.selects "java/lang/String" (⟨"java/lang/String", "coder", "()B"⟩ : MethodName) (⟨"java/lang/String", "coder", "()B"⟩ : MethodName)) ∈ dt_W0 := dt_in (wq_l2 (List.mem_of_getElem? (i := 48) (by decide +kernel))) rfl
theorem wq_2_49 : (Cond.code (⟨"java/lang/String", "coder", "()B"⟩ : MethodName) prog_11_method_152_code (1) (Option.some Jvm.ClassFile.FieldType.byte)) ∈ dt_W0 := dt_in (wq_l2 (List.mem_of_getElem? (i := 49) (by decide +kernel))) rfl
theorem wq_2_50 : (Cond.fieldLink "java/lang/String" (38) "java/lang/String" "COMPACT_STRINGS" "Z") ∈ dt_W0 := dt_in (wq_l2 (List.mem_of_getElem? (i := 50) (by decide +kernel))) rfl
theorem wq_2_52 : (Cond.methodLink "DrawnTalks$Reader" (85) (⟨"java/lang/String", "charAt", "(I)C"⟩ : MethodName)) ∈ dt_W0 := dt_in (wq_l2 (List.mem_of_getElem? (i := 52) (by decide +kernel))) rfl
theorem wq_2_53 : (Cond.instanceMethod (⟨"java/lang/String", "charAt", "(I)C"⟩ : MethodName)) ∈ dt_W0 := dt_in (wq_l2 (List.mem_of_getElem? (i := 53) (by decide +kernel))) rfl
theorem wq_2_54 : (Cond.selects "java/lang/String" (⟨"java/lang/String", "charAt", "(I)C"⟩ : MethodName) (⟨"java/lang/String", "charAt", "(I)C"⟩ : MethodName)) ∈ dt_W0 := dt_in (wq_l2 (List.mem_of_getElem? (i := 54) (by decide +kernel))) rfl
theorem wq_2_55 : (Cond.code (⟨"java/lang/String", "charAt", "(I)C"⟩ : MethodName) prog_11_method_56_code (2) (Option.some Jvm.ClassFile.FieldType.char)) ∈ dt_W0 := dt_in (wq_l2 (List.mem_of_getElem? (i := 55) (by decide +kernel))) rfl
theorem wq_2_56 : (Cond.methodLink "java/lang/String" (492) (⟨"java/lang/String", "isLatin1", "()Z"⟩ : MethodName)) ∈ dt_W0 := dt_in (wq_l2 (List.mem_of_getElem? (i := 56) (by decide +kernel))) rfl
theorem wq_2_57 : (Cond.instanceMethod (⟨"java/lang/String", "isLatin1", "()Z"⟩ : MethodName)) ∈ dt_W0 := dt_in (wq_l2 (List.mem_of_getElem? (i := 57) (by decide +kernel))) rfl
theorem wq_2_58 : (Cond.selects "java/lang/String" (⟨"java/lang/String", "isLatin1", "()Z"⟩ : MethodName) (⟨"java/lang/String", "isLatin1", "()Z"⟩ : MethodName)) ∈ dt_W0 := dt_in (wq_l2 (List.mem_of_getElem? (i := 58) (by decide +kernel))) rfl
theorem wq_2_59 : (Cond.code (⟨"java/lang/String", "isLatin1", "()Z"⟩ : MethodName) prog_11_method_154_code (1) (Option.some Jvm.ClassFile.FieldType.boolean)) ∈ dt_W0 := dt_in (wq_l2 (List.mem_of_getElem? (i := 59) (by decide +kernel))) rfl
theorem wq_2_60 : (Cond.methodLink "java/lang/String" (495) (⟨"java/lang/StringLatin1", "charAt", "([BI)C"⟩ : MethodName)) ∈ dt_W0 := dt_in (wq_l2 (List.mem_of_getElem? (i := 60) (by decide +kernel))) rfl
theorem wq_2_61 : (Cond.static (⟨"java/lang/StringLatin1", "charAt", "([BI)C"⟩ : MethodName)) ∈ dt_W0 := dt_in (wq_l2 (List.mem_of_getElem? (i := 61) (by decide +kernel))) rfl
theorem wq_2_62 : (Cond.code (⟨"java/lang/StringLatin1", "charAt", "([BI)C"⟩ : MethodName) prog_12_method_2_code (2) (Option.some Jvm.ClassFile.FieldType.char)) ∈ dt_W0 := dt_in (wq_l2 (List.mem_of_getElem? (i := 62) (by decide +kernel))) rfl
theorem wq_2_63 : (Cond.methodLink "java/lang/StringLatin1" (9) (⟨"java/lang/String", "checkIndex", "(II)V"⟩ : MethodName)) ∈ dt_W0 := dt_in (wq_l2 (List.mem_of_getElem? (i := 63) (by decide +kernel))) rfl
theorem wq_2_64 : (Cond.static (⟨"java/lang/String", "checkIndex", "(II)V"⟩ : MethodName)) ∈ dt_W0 := dt_in (wq_l2 (List.mem_of_getElem? (i := 64) (by decide +kernel))) rfl
theorem wq_2_65 : (Cond.code (⟨"java/lang/String", "checkIndex", "(II)V"⟩ : MethodName) prog_11_method_155_code (2) (Option.none : Option Jvm.ClassFile.FieldType)) ∈ dt_W0 := dt_in (wq_l2 (List.mem_of_getElem? (i := 65) (by decide +kernel))) rfl
theorem wq_2_66 : (Cond.fieldLink "java/lang/String" (1053) "jdk/internal/util/Preconditions" "SIOOBE_FORMATTER" "Ljava/util/function/BiFunction;") ∈ dt_W0 := dt_in (wq_l2 (List.mem_of_getElem? (i := 66) (by decide +kernel))) rfl
theorem wq_2_68 : (Cond.methodLink "java/lang/String" (1059) (⟨"jdk/internal/util/Preconditions", "checkIndex", "(IILjava/util/function/BiFunction;)I"⟩ : MethodName)) ∈ dt_W0 := dt_in (wq_l2 (List.mem_of_getElem? (i := 68) (by decide +kernel))) rfl
theorem wq_2_69 : (Cond.static (⟨"jdk/internal/util/Preconditions", "checkIndex", "(IILjava/util/function/BiFunction;)I"⟩ : MethodName)) ∈ dt_W0 := dt_in (wq_l2 (List.mem_of_getElem? (i := 69) (by decide +kernel))) rfl
theorem wq_2_70 : (Cond.code (⟨"jdk/internal/util/Preconditions", "checkIndex", "(IILjava/util/function/BiFunction;)I"⟩ : MethodName) prog_14_method_11_code (3) (Option.some Jvm.ClassFile.FieldType.int)) ∈ dt_W0 := dt_in (wq_l2 (List.mem_of_getElem? (i := 70) (by decide +kernel))) rfl
theorem wq_2_71 : (Cond.methodLink "java/lang/String" (498) (⟨"java/lang/StringUTF16", "charAt", "([BI)C"⟩ : MethodName)) ∈ dt_W0 := dt_in (wq_l2 (List.mem_of_getElem? (i := 71) (by decide +kernel))) rfl
theorem wq_2_72 : (Cond.static (⟨"java/lang/StringUTF16", "charAt", "([BI)C"⟩ : MethodName)) ∈ dt_W0 := dt_in (wq_l2 (List.mem_of_getElem? (i := 72) (by decide +kernel))) rfl
theorem wq_2_73 : (Cond.code (⟨"java/lang/StringUTF16", "charAt", "([BI)C"⟩ : MethodName) prog_13_method_83_code (2) (Option.some Jvm.ClassFile.FieldType.char)) ∈ dt_W0 := dt_in (wq_l2 (List.mem_of_getElem? (i := 73) (by decide +kernel))) rfl
theorem wq_2_74 : (Cond.methodLink "java/lang/StringUTF16" (67) (⟨"java/lang/StringUTF16", "checkIndex", "(I[B)V"⟩ : MethodName)) ∈ dt_W0 := dt_in (wq_l2 (List.mem_of_getElem? (i := 74) (by decide +kernel))) rfl
theorem wq_2_75 : (Cond.static (⟨"java/lang/StringUTF16", "checkIndex", "(I[B)V"⟩ : MethodName)) ∈ dt_W0 := dt_in (wq_l2 (List.mem_of_getElem? (i := 75) (by decide +kernel))) rfl
theorem wq_2_76 : (Cond.code (⟨"java/lang/StringUTF16", "checkIndex", "(I[B)V"⟩ : MethodName) prog_13_method_91_code (2) (Option.none : Option Jvm.ClassFile.FieldType)) ∈ dt_W0 := dt_in (wq_l2 (List.mem_of_getElem? (i := 76) (by decide +kernel))) rfl
theorem wq_2_77 : (Cond.methodLink "java/lang/StringUTF16" (48) (⟨"java/lang/StringUTF16", "length", "([B)I"⟩ : MethodName)) ∈ dt_W0 := dt_in (wq_l2 (List.mem_of_getElem? (i := 77) (by decide +kernel))) rfl
theorem wq_2_78 : (Cond.static (⟨"java/lang/StringUTF16", "length", "([B)I"⟩ : MethodName)) ∈ dt_W0 := dt_in (wq_l2 (List.mem_of_getElem? (i := 78) (by decide +kernel))) rfl
theorem wq_2_79 : (Cond.code (⟨"java/lang/StringUTF16", "length", "([B)I"⟩ : MethodName) prog_13_method_6_code (1) (Option.some Jvm.ClassFile.FieldType.int)) ∈ dt_W0 := dt_in (wq_l2 (List.mem_of_getElem? (i := 79) (by decide +kernel))) rfl
theorem wq_2_80 : (Cond.methodLink "java/lang/StringUTF16" (414) (⟨"java/lang/String", "checkIndex", "(II)V"⟩ : MethodName)) ∈ dt_W0 := dt_in (wq_l2 (List.mem_of_getElem? (i := 80) (by decide +kernel))) rfl
theorem wq_2_81 : (Cond.methodLink "java/lang/StringUTF16" (71) (⟨"java/lang/StringUTF16", "getChar", "([BI)C"⟩ : MethodName)) ∈ dt_W0 := dt_in (wq_l2 (List.mem_of_getElem? (i := 81) (by decide +kernel))) rfl
theorem wq_2_82 : (Cond.static (⟨"java/lang/StringUTF16", "getChar", "([BI)C"⟩ : MethodName)) ∈ dt_W0 := dt_in (wq_l2 (List.mem_of_getElem? (i := 82) (by decide +kernel))) rfl
theorem wq_2_83 : (Cond.code (⟨"java/lang/StringUTF16", "getChar", "([BI)C"⟩ : MethodName) prog_13_method_5_code (2) (Option.some Jvm.ClassFile.FieldType.char)) ∈ dt_W0 := dt_in (wq_l2 (List.mem_of_getElem? (i := 83) (by decide +kernel))) rfl
theorem wq_2_84 : (Cond.fieldLink "java/lang/StringUTF16" (44) "java/lang/StringUTF16" "$assertionsDisabled" "Z") ∈ dt_W0 := dt_in (wq_l2 (List.mem_of_getElem? (i := 84) (by decide +kernel))) rfl
theorem wq_2_86 : (Cond.fieldLink "java/lang/StringUTF16" (59) "java/lang/StringUTF16" "HI_BYTE_SHIFT" "I") ∈ dt_W0 := dt_in (wq_l2 (List.mem_of_getElem? (i := 86) (by decide +kernel))) rfl
theorem wq_2_88 : (Cond.fieldLink "java/lang/StringUTF16" (63) "java/lang/StringUTF16" "LO_BYTE_SHIFT" "I") ∈ dt_W0 := dt_in (wq_l2 (List.mem_of_getElem? (i := 88) (by decide +kernel))) rfl
theorem wq_2_91 : (Cond.methodLink "DrawnTalks$Reader" (68) (⟨"DrawnTalks$Reader", "readSign", "(I)V"⟩ : MethodName)) ∈ dt_W0 := dt_in (wq_l2 (List.mem_of_getElem? (i := 91) (by decide +kernel))) rfl
theorem wq_2_93 : (Cond.instanceMethod (⟨"DrawnTalks$Reader", "readSign", "(I)V"⟩ : MethodName)) ∈ dt_W0 := dt_in (wq_l2 (List.mem_of_getElem? (i := 93) (by decide +kernel))) rfl
theorem wq_2_94 : (Cond.code (⟨"DrawnTalks$Reader", "readSign", "(I)V"⟩ : MethodName) prog_5_method_6_code (2) (Option.none : Option Jvm.ClassFile.FieldType)) ∈ dt_W0 := dt_in (wq_l2 (List.mem_of_getElem? (i := 94) (by decide +kernel))) rfl
theorem wq_2_95 : (Cond.methodLink "DrawnTalks$Reader" (31) (⟨"DrawnTalks$Talk", "isWhole", "()Z"⟩ : MethodName)) ∈ dt_W0 := dt_in (wq_l2 (List.mem_of_getElem? (i := 95) (by decide +kernel))) rfl
theorem wq_2_96 : (Cond.instanceMethod (⟨"DrawnTalks$Talk", "isWhole", "()Z"⟩ : MethodName)) ∈ dt_W0 := dt_in (wq_l2 (List.mem_of_getElem? (i := 96) (by decide +kernel))) rfl
theorem wq_2_97 : (Cond.selects "DrawnTalks$Talk" (⟨"DrawnTalks$Talk", "isWhole", "()Z"⟩ : MethodName) (⟨"DrawnTalks$Talk", "isWhole", "()Z"⟩ : MethodName)) ∈ dt_W0 := dt_in (wq_l2 (List.mem_of_getElem? (i := 97) (by decide +kernel))) rfl
theorem wq_2_98 : (Cond.code (⟨"DrawnTalks$Talk", "isWhole", "()Z"⟩ : MethodName) prog_7_method_3_code (1) (Option.some Jvm.ClassFile.FieldType.boolean)) ∈ dt_W0 := dt_in (wq_l2 (List.mem_of_getElem? (i := 98) (by decide +kernel))) rfl
theorem wq_2_99 : (Cond.methodLink "DrawnTalks$Reader" (35) (⟨"DrawnTalks$Reader", "readEvent", "(LDrawnTalks$Talk;)Z"⟩ : MethodName)) ∈ dt_W0 := dt_in (wq_l2 (List.mem_of_getElem? (i := 99) (by decide +kernel))) rfl
theorem wq_2_101 : (Cond.instanceMethod (⟨"DrawnTalks$Reader", "readEvent", "(LDrawnTalks$Talk;)Z"⟩ : MethodName)) ∈ dt_W0 := dt_in (wq_l2 (List.mem_of_getElem? (i := 101) (by decide +kernel))) rfl
theorem wq_2_102 : (Cond.code (⟨"DrawnTalks$Reader", "readEvent", "(LDrawnTalks$Talk;)Z"⟩ : MethodName) prog_5_method_4_code (6) (Option.some Jvm.ClassFile.FieldType.boolean)) ∈ dt_W0 := dt_in (wq_l2 (List.mem_of_getElem? (i := 102) (by decide +kernel))) rfl
theorem wq_2_103 : (Cond.methodLink "DrawnTalks$Reader" (51) (⟨"DrawnTalks$Talk", "firstWaiting", "(III)I"⟩ : MethodName)) ∈ dt_W0 := dt_in (wq_l2 (List.mem_of_getElem? (i := 103) (by decide +kernel))) rfl
theorem wq_2_104 : (Cond.instanceMethod (⟨"DrawnTalks$Talk", "firstWaiting", "(III)I"⟩ : MethodName)) ∈ dt_W0 := dt_in (wq_l2 (List.mem_of_getElem? (i := 104) (by decide +kernel))) rfl
theorem wq_2_105 : (Cond.selects "DrawnTalks$Talk" (⟨"DrawnTalks$Talk", "firstWaiting", "(III)I"⟩ : MethodName) (⟨"DrawnTalks$Talk", "firstWaiting", "(III)I"⟩ : MethodName)) ∈ dt_W0 := dt_in (wq_l2 (List.mem_of_getElem? (i := 105) (by decide +kernel))) rfl
theorem wq_2_106 : (Cond.code (⟨"DrawnTalks$Talk", "firstWaiting", "(III)I"⟩ : MethodName) prog_7_method_6_code (5) (Option.some Jvm.ClassFile.FieldType.int)) ∈ dt_W0 := dt_in (wq_l2 (List.mem_of_getElem? (i := 106) (by decide +kernel))) rfl
theorem wq_2_107 : (Cond.methodLink "DrawnTalks$Reader" (55) (⟨"DrawnTalks$Talk", "addTake", "(III)V"⟩ : MethodName)) ∈ dt_W0 := dt_in (wq_l2 (List.mem_of_getElem? (i := 107) (by decide +kernel))) rfl
theorem wq_2_108 : (Cond.instanceMethod (⟨"DrawnTalks$Talk", "addTake", "(III)V"⟩ : MethodName)) ∈ dt_W0 := dt_in (wq_l2 (List.mem_of_getElem? (i := 108) (by decide +kernel))) rfl
theorem wq_2_109 : (Cond.selects "DrawnTalks$Talk" (⟨"DrawnTalks$Talk", "addTake", "(III)V"⟩ : MethodName) (⟨"DrawnTalks$Talk", "addTake", "(III)V"⟩ : MethodName)) ∈ dt_W0 := dt_in (wq_l2 (List.mem_of_getElem? (i := 109) (by decide +kernel))) rfl
theorem wq_2_110 : (Cond.code (⟨"DrawnTalks$Talk", "addTake", "(III)V"⟩ : MethodName) prog_7_method_8_code (5) (Option.none : Option Jvm.ClassFile.FieldType)) ∈ dt_W0 := dt_in (wq_l2 (List.mem_of_getElem? (i := 110) (by decide +kernel))) rfl
theorem wq_2_111 : (Cond.methodLink "DrawnTalks$Talk" (45) (⟨"DrawnTalks$Talk", "firstWaiting", "(III)I"⟩ : MethodName)) ∈ dt_W0 := dt_in (wq_l2 (List.mem_of_getElem? (i := 111) (by decide +kernel))) rfl
theorem wq_2_112 : (Cond.methodLink "DrawnTalks$Talk" (41) (⟨"DrawnTalks$Talk", "add", "(III)Z"⟩ : MethodName)) ∈ dt_W0 := dt_in (wq_l2 (List.mem_of_getElem? (i := 112) (by decide +kernel))) rfl
theorem wq_2_114 : (Cond.instanceMethod (⟨"DrawnTalks$Talk", "add", "(III)Z"⟩ : MethodName)) ∈ dt_W0 := dt_in (wq_l2 (List.mem_of_getElem? (i := 114) (by decide +kernel))) rfl
theorem wq_2_115 : (Cond.code (⟨"DrawnTalks$Talk", "add", "(III)Z"⟩ : MethodName) prog_7_method_9_code (4) (Option.some Jvm.ClassFile.FieldType.boolean)) ∈ dt_W0 := dt_in (wq_l2 (List.mem_of_getElem? (i := 115) (by decide +kernel))) rfl
theorem wq_2_116 : (Cond.methodLink "DrawnTalks$Reader" (59) (⟨"DrawnTalks$Talk", "addSend", "(III)V"⟩ : MethodName)) ∈ dt_W0 := dt_in (wq_l2 (List.mem_of_getElem? (i := 116) (by decide +kernel))) rfl
theorem wq_2_117 : (Cond.instanceMethod (⟨"DrawnTalks$Talk", "addSend", "(III)V"⟩ : MethodName)) ∈ dt_W0 := dt_in (wq_l2 (List.mem_of_getElem? (i := 117) (by decide +kernel))) rfl
theorem wq_2_118 : (Cond.selects "DrawnTalks$Talk" (⟨"DrawnTalks$Talk", "addSend", "(III)V"⟩ : MethodName) (⟨"DrawnTalks$Talk", "addSend", "(III)V"⟩ : MethodName)) ∈ dt_W0 := dt_in (wq_l2 (List.mem_of_getElem? (i := 118) (by decide +kernel))) rfl
theorem wq_2_119 : (Cond.code (⟨"DrawnTalks$Talk", "addSend", "(III)V"⟩ : MethodName) prog_7_method_7_code (4) (Option.none : Option Jvm.ClassFile.FieldType)) ∈ dt_W0 := dt_in (wq_l2 (List.mem_of_getElem? (i := 119) (by decide +kernel))) rfl
theorem wq_2_120 : (Cond.methodLink "DrawnTalks" (75) (⟨"DrawnTalks", "keepBuilt", "(I)I"⟩ : MethodName)) ∈ dt_W0 := dt_in (wq_l2 (List.mem_of_getElem? (i := 120) (by decide +kernel))) rfl
theorem wq_2_122 : (Cond.instanceMethod (⟨"DrawnTalks", "keepBuilt", "(I)I"⟩ : MethodName)) ∈ dt_W0 := dt_in (wq_l2 (List.mem_of_getElem? (i := 122) (by decide +kernel))) rfl
theorem wq_2_123 : (Cond.code (⟨"DrawnTalks", "keepBuilt", "(I)I"⟩ : MethodName) prog_1_method_21_code (2) (Option.some Jvm.ClassFile.FieldType.int)) ∈ dt_W0 := dt_in (wq_l2 (List.mem_of_getElem? (i := 123) (by decide +kernel))) rfl
theorem wq_2_124 : (Cond.methodLink "DrawnTalks" (164) (⟨"DrawnTalks$Talk", "empty", "()V"⟩ : MethodName)) ∈ dt_W0 := dt_in (wq_l2 (List.mem_of_getElem? (i := 124) (by decide +kernel))) rfl
theorem wq_2_125 : (Cond.methodLink "DrawnTalks" (167) (⟨"DrawnTalks$Talk", "addAll", "(LDrawnTalks$Talk;)V"⟩ : MethodName)) ∈ dt_W0 := dt_in (wq_l2 (List.mem_of_getElem? (i := 125) (by decide +kernel))) rfl
theorem wq_2_126 : (Cond.instanceMethod (⟨"DrawnTalks$Talk", "addAll", "(LDrawnTalks$Talk;)V"⟩ : MethodName)) ∈ dt_W0 := dt_in (wq_l2 (List.mem_of_getElem? (i := 126) (by decide +kernel))) rfl
theorem wq_2_127 : (Cond.selects "DrawnTalks$Talk" (⟨"DrawnTalks$Talk", "addAll", "(LDrawnTalks$Talk;)V"⟩ : MethodName) (⟨"DrawnTalks$Talk", "addAll", "(LDrawnTalks$Talk;)V"⟩ : MethodName)) ∈ dt_W0 := dt_in (wq_l2 (List.mem_of_getElem? (i := 127) (by decide +kernel))) rfl
theorem wq_2_128 : (Cond.code (⟨"DrawnTalks$Talk", "addAll", "(LDrawnTalks$Talk;)V"⟩ : MethodName) prog_7_method_11_code (3) (Option.none : Option Jvm.ClassFile.FieldType)) ∈ dt_W0 := dt_in (wq_l2 (List.mem_of_getElem? (i := 128) (by decide +kernel))) rfl
theorem wq_2_129 : (Cond.methodLink "DrawnTalks$Talk" (56) (⟨"DrawnTalks$Talk", "addCopy", "(LDrawnTalks$Talk;I)V"⟩ : MethodName)) ∈ dt_W0 := dt_in (wq_l2 (List.mem_of_getElem? (i := 129) (by decide +kernel))) rfl
theorem wq_2_130 : (Cond.instanceMethod (⟨"DrawnTalks$Talk", "addCopy", "(LDrawnTalks$Talk;I)V"⟩ : MethodName)) ∈ dt_W0 := dt_in (wq_l2 (List.mem_of_getElem? (i := 130) (by decide +kernel))) rfl
theorem wq_2_131 : (Cond.selects "DrawnTalks$Talk" (⟨"DrawnTalks$Talk", "addCopy", "(LDrawnTalks$Talk;I)V"⟩ : MethodName) (⟨"DrawnTalks$Talk", "addCopy", "(LDrawnTalks$Talk;I)V"⟩ : MethodName)) ∈ dt_W0 := dt_in (wq_l2 (List.mem_of_getElem? (i := 131) (by decide +kernel))) rfl
theorem wq_2_132 : (Cond.code (⟨"DrawnTalks$Talk", "addCopy", "(LDrawnTalks$Talk;I)V"⟩ : MethodName) prog_7_method_10_code (3) (Option.none : Option Jvm.ClassFile.FieldType)) ∈ dt_W0 := dt_in (wq_l2 (List.mem_of_getElem? (i := 132) (by decide +kernel))) rfl
theorem wq_2_133 : (Cond.methodLink "DrawnTalks$Talk" (49) (⟨"DrawnTalks$Talk", "addTake", "(III)V"⟩ : MethodName)) ∈ dt_W0 := dt_in (wq_l2 (List.mem_of_getElem? (i := 133) (by decide +kernel))) rfl
theorem wq_2_134 : (Cond.methodLink "DrawnTalks$Talk" (53) (⟨"DrawnTalks$Talk", "addSend", "(III)V"⟩ : MethodName)) ∈ dt_W0 := dt_in (wq_l2 (List.mem_of_getElem? (i := 134) (by decide +kernel))) rfl
theorem wq_2_135 : (Cond.arrayClass Jvm.ClassFile.FieldType.byte) ∈ dt_W0 := dt_in (wq_l2 (List.mem_of_getElem? (i := 135) (by decide +kernel))) rfl
theorem wq_2_136 : (Cond.methodLink "DrawnTalksLaw" (30) (⟨"DrawnTalks", "about", "(II)I"⟩ : MethodName)) ∈ dt_W0 := dt_in (wq_l2 (List.mem_of_getElem? (i := 136) (by decide +kernel))) rfl
theorem wq_2_137 : (Cond.instanceMethod (⟨"DrawnTalks", "about", "(II)I"⟩ : MethodName)) ∈ dt_W0 := dt_in (wq_l2 (List.mem_of_getElem? (i := 137) (by decide +kernel))) rfl
theorem wq_2_138 : (Cond.selects "DrawnTalks" (⟨"DrawnTalks", "about", "(II)I"⟩ : MethodName) (⟨"DrawnTalks", "about", "(II)I"⟩ : MethodName)) ∈ dt_W0 := dt_in (wq_l2 (List.mem_of_getElem? (i := 138) (by decide +kernel))) rfl
theorem wq_2_139 : (Cond.code (⟨"DrawnTalks", "about", "(II)I"⟩ : MethodName) prog_1_method_5_code (3) (Option.some Jvm.ClassFile.FieldType.int)) ∈ dt_W0 := dt_in (wq_l2 (List.mem_of_getElem? (i := 139) (by decide +kernel))) rfl
theorem wq_2_140 : (Cond.methodLink "DrawnTalks" (85) (⟨"DrawnTalks$Talk", "partsWithEvents", "()I"⟩ : MethodName)) ∈ dt_W0 := dt_in (wq_l2 (List.mem_of_getElem? (i := 140) (by decide +kernel))) rfl
theorem wq_2_141 : (Cond.instanceMethod (⟨"DrawnTalks$Talk", "partsWithEvents", "()I"⟩ : MethodName)) ∈ dt_W0 := dt_in (wq_l2 (List.mem_of_getElem? (i := 141) (by decide +kernel))) rfl
theorem wq_2_142 : (Cond.selects "DrawnTalks$Talk" (⟨"DrawnTalks$Talk", "partsWithEvents", "()I"⟩ : MethodName) (⟨"DrawnTalks$Talk", "partsWithEvents", "()I"⟩ : MethodName)) ∈ dt_W0 := dt_in (wq_l2 (List.mem_of_getElem? (i := 142) (by decide +kernel))) rfl
theorem wq_2_143 : (Cond.code (⟨"DrawnTalks$Talk", "partsWithEvents", "()I"⟩ : MethodName) prog_7_method_5_code (3) (Option.some Jvm.ClassFile.FieldType.int)) ∈ dt_W0 := dt_in (wq_l2 (List.mem_of_getElem? (i := 143) (by decide +kernel))) rfl
theorem wq_2_144 : (Cond.methodLink "DrawnTalksLaw" (35) (⟨"DrawnTalks", "event", "(III)I"⟩ : MethodName)) ∈ dt_W0 := dt_in (wq_l2 (List.mem_of_getElem? (i := 144) (by decide +kernel))) rfl
theorem wq_2_145 : (Cond.instanceMethod (⟨"DrawnTalks", "event", "(III)I"⟩ : MethodName)) ∈ dt_W0 := dt_in (wq_l2 (List.mem_of_getElem? (i := 145) (by decide +kernel))) rfl
theorem wq_2_146 : (Cond.selects "DrawnTalks" (⟨"DrawnTalks", "event", "(III)I"⟩ : MethodName) (⟨"DrawnTalks", "event", "(III)I"⟩ : MethodName)) ∈ dt_W0 := dt_in (wq_l2 (List.mem_of_getElem? (i := 146) (by decide +kernel))) rfl
theorem wq_2_147 : (Cond.code (⟨"DrawnTalks", "event", "(III)I"⟩ : MethodName) prog_1_method_6_code (5) (Option.some Jvm.ClassFile.FieldType.int)) ∈ dt_W0 := dt_in (wq_l2 (List.mem_of_getElem? (i := 147) (by decide +kernel))) rfl
theorem wq_2_148 : (Cond.methodLink "DrawnTalks" (89) (⟨"DrawnTalks", "isEvent", "(II)Z"⟩ : MethodName)) ∈ dt_W0 := dt_in (wq_l2 (List.mem_of_getElem? (i := 148) (by decide +kernel))) rfl
theorem wq_2_150 : (Cond.instanceMethod (⟨"DrawnTalks", "isEvent", "(II)Z"⟩ : MethodName)) ∈ dt_W0 := dt_in (wq_l2 (List.mem_of_getElem? (i := 150) (by decide +kernel))) rfl
theorem wq_2_151 : (Cond.code (⟨"DrawnTalks", "isEvent", "(II)Z"⟩ : MethodName) prog_1_method_22_code (3) (Option.some Jvm.ClassFile.FieldType.boolean)) ∈ dt_W0 := dt_in (wq_l2 (List.mem_of_getElem? (i := 151) (by decide +kernel))) rfl
theorem wq_2_152 : (Cond.methodLink "DrawnTalks" (97) (⟨"DrawnTalks", "asNumber", "(Z)I"⟩ : MethodName)) ∈ dt_W0 := dt_in (wq_l2 (List.mem_of_getElem? (i := 152) (by decide +kernel))) rfl
theorem wq_2_153 : (Cond.static (⟨"DrawnTalks", "asNumber", "(Z)I"⟩ : MethodName)) ∈ dt_W0 := dt_in (wq_l2 (List.mem_of_getElem? (i := 153) (by decide +kernel))) rfl
theorem wq_2_154 : (Cond.code (⟨"DrawnTalks", "asNumber", "(Z)I"⟩ : MethodName) prog_1_method_28_code (1) (Option.some Jvm.ClassFile.FieldType.int)) ∈ dt_W0 := dt_in (wq_l2 (List.mem_of_getElem? (i := 154) (by decide +kernel))) rfl
theorem wq_2_155 : (Cond.methodLink "DrawnTalksLaw" (40) (⟨"DrawnTalks", "line", "(III)I"⟩ : MethodName)) ∈ dt_W0 := dt_in (wq_l2 (List.mem_of_getElem? (i := 155) (by decide +kernel))) rfl
theorem wq_2_156 : (Cond.instanceMethod (⟨"DrawnTalks", "line", "(III)I"⟩ : MethodName)) ∈ dt_W0 := dt_in (wq_l2 (List.mem_of_getElem? (i := 156) (by decide +kernel))) rfl
theorem wq_2_157 : (Cond.selects "DrawnTalks" (⟨"DrawnTalks", "line", "(III)I"⟩ : MethodName) (⟨"DrawnTalks", "line", "(III)I"⟩ : MethodName)) ∈ dt_W0 := dt_in (wq_l2 (List.mem_of_getElem? (i := 157) (by decide +kernel))) rfl
theorem wq_2_158 : (Cond.code (⟨"DrawnTalks", "line", "(III)I"⟩ : MethodName) prog_1_method_7_code (5) (Option.some Jvm.ClassFile.FieldType.int)) ∈ dt_W0 := dt_in (wq_l2 (List.mem_of_getElem? (i := 158) (by decide +kernel))) rfl
theorem wq_2_159 : (Cond.methodLink "DrawnTalks" (114) (⟨"DrawnTalks", "isPart", "(I)Z"⟩ : MethodName)) ∈ dt_W0 := dt_in (wq_l2 (List.mem_of_getElem? (i := 159) (by decide +kernel))) rfl
theorem wq_2_160 : (Cond.static (⟨"DrawnTalks", "isPart", "(I)Z"⟩ : MethodName)) ∈ dt_W0 := dt_in (wq_l2 (List.mem_of_getElem? (i := 160) (by decide +kernel))) rfl
theorem wq_2_161 : (Cond.code (⟨"DrawnTalks", "isPart", "(I)Z"⟩ : MethodName) prog_1_method_24_code (1) (Option.some Jvm.ClassFile.FieldType.boolean)) ∈ dt_W0 := dt_in (wq_l2 (List.mem_of_getElem? (i := 161) (by decide +kernel))) rfl
theorem wq_2_162 : (Cond.methodLink "DrawnTalks" (120) (⟨"DrawnTalks$Talk", "onLine", "(II)I"⟩ : MethodName)) ∈ dt_W0 := dt_in (wq_l2 (List.mem_of_getElem? (i := 162) (by decide +kernel))) rfl
theorem wq_2_163 : (Cond.instanceMethod (⟨"DrawnTalks$Talk", "onLine", "(II)I"⟩ : MethodName)) ∈ dt_W0 := dt_in (wq_l2 (List.mem_of_getElem? (i := 163) (by decide +kernel))) rfl
theorem wq_2_164 : (Cond.selects "DrawnTalks$Talk" (⟨"DrawnTalks$Talk", "onLine", "(II)I"⟩ : MethodName) (⟨"DrawnTalks$Talk", "onLine", "(II)I"⟩ : MethodName)) ∈ dt_W0 := dt_in (wq_l2 (List.mem_of_getElem? (i := 164) (by decide +kernel))) rfl
theorem wq_2_165 : (Cond.code (⟨"DrawnTalks$Talk", "onLine", "(II)I"⟩ : MethodName) prog_7_method_4_code (3) (Option.some Jvm.ClassFile.FieldType.int)) ∈ dt_W0 := dt_in (wq_l2 (List.mem_of_getElem? (i := 165) (by decide +kernel))) rfl
theorem wq_2_166 : (Cond.methodLink "DrawnTalksLaw" (44) (⟨"DrawnTalks", "drawn", "(III)I"⟩ : MethodName)) ∈ dt_W0 := dt_in (wq_l2 (List.mem_of_getElem? (i := 166) (by decide +kernel))) rfl
theorem wq_2_167 : (Cond.instanceMethod (⟨"DrawnTalks", "drawn", "(III)I"⟩ : MethodName)) ∈ dt_W0 := dt_in (wq_l2 (List.mem_of_getElem? (i := 167) (by decide +kernel))) rfl
theorem wq_2_168 : (Cond.selects "DrawnTalks" (⟨"DrawnTalks", "drawn", "(III)I"⟩ : MethodName) (⟨"DrawnTalks", "drawn", "(III)I"⟩ : MethodName)) ∈ dt_W0 := dt_in (wq_l2 (List.mem_of_getElem? (i := 168) (by decide +kernel))) rfl
theorem wq_2_169 : (Cond.code (⟨"DrawnTalks", "drawn", "(III)I"⟩ : MethodName) prog_1_method_8_code (4) (Option.some Jvm.ClassFile.FieldType.int)) ∈ dt_W0 := dt_in (wq_l2 (List.mem_of_getElem? (i := 169) (by decide +kernel))) rfl
theorem wq_2_170 : (Cond.methodLink "DrawnTalks" (124) (⟨"DrawnTalks$Relation", "workOut", "(LDrawnTalks$Talk;I)V"⟩ : MethodName)) ∈ dt_W0 := dt_in (wq_l2 (List.mem_of_getElem? (i := 170) (by decide +kernel))) rfl
theorem wq_2_171 : (Cond.instanceMethod (⟨"DrawnTalks$Relation", "workOut", "(LDrawnTalks$Talk;I)V"⟩ : MethodName)) ∈ dt_W0 := dt_in (wq_l2 (List.mem_of_getElem? (i := 171) (by decide +kernel))) rfl
theorem wq_2_172 : (Cond.selects "DrawnTalks$Relation" (⟨"DrawnTalks$Relation", "workOut", "(LDrawnTalks$Talk;I)V"⟩ : MethodName) (⟨"DrawnTalks$Relation", "workOut", "(LDrawnTalks$Talk;I)V"⟩ : MethodName)) ∈ dt_W0 := dt_in (wq_l2 (List.mem_of_getElem? (i := 172) (by decide +kernel))) rfl
theorem wq_2_173 : (Cond.code (⟨"DrawnTalks$Relation", "workOut", "(LDrawnTalks$Talk;I)V"⟩ : MethodName) prog_6_method_2_code (6) (Option.none : Option Jvm.ClassFile.FieldType)) ∈ dt_W0 := dt_in (wq_l2 (List.mem_of_getElem? (i := 173) (by decide +kernel))) rfl
theorem wq_2_174 : (Cond.methodLink "DrawnTalks$Relation" (21) (⟨"DrawnTalks$Relation", "isDirect", "(LDrawnTalks$Talk;III)Z"⟩ : MethodName)) ∈ dt_W0 := dt_in (wq_l2 (List.mem_of_getElem? (i := 174) (by decide +kernel))) rfl
theorem wq_2_176 : (Cond.instanceMethod (⟨"DrawnTalks$Relation", "isDirect", "(LDrawnTalks$Talk;III)Z"⟩ : MethodName)) ∈ dt_W0 := dt_in (wq_l2 (List.mem_of_getElem? (i := 176) (by decide +kernel))) rfl
theorem wq_2_177 : (Cond.code (⟨"DrawnTalks$Relation", "isDirect", "(LDrawnTalks$Talk;III)Z"⟩ : MethodName) prog_6_method_4_code (5) (Option.some Jvm.ClassFile.FieldType.boolean)) ∈ dt_W0 := dt_in (wq_l2 (List.mem_of_getElem? (i := 177) (by decide +kernel))) rfl
theorem wq_2_178 : (Cond.methodLink "DrawnTalks$Relation" (38) (⟨"DrawnTalks$Relation", "isAhead", "(II)Z"⟩ : MethodName)) ∈ dt_W0 := dt_in (wq_l2 (List.mem_of_getElem? (i := 178) (by decide +kernel))) rfl
theorem wq_2_179 : (Cond.instanceMethod (⟨"DrawnTalks$Relation", "isAhead", "(II)Z"⟩ : MethodName)) ∈ dt_W0 := dt_in (wq_l2 (List.mem_of_getElem? (i := 179) (by decide +kernel))) rfl
theorem wq_2_180 : (Cond.selects "DrawnTalks$Relation" (⟨"DrawnTalks$Relation", "isAhead", "(II)Z"⟩ : MethodName) (⟨"DrawnTalks$Relation", "isAhead", "(II)Z"⟩ : MethodName)) ∈ dt_W0 := dt_in (wq_l2 (List.mem_of_getElem? (i := 180) (by decide +kernel))) rfl
theorem wq_2_181 : (Cond.code (⟨"DrawnTalks$Relation", "isAhead", "(II)Z"⟩ : MethodName) prog_6_method_3_code (3) (Option.some Jvm.ClassFile.FieldType.boolean)) ∈ dt_W0 := dt_in (wq_l2 (List.mem_of_getElem? (i := 181) (by decide +kernel))) rfl
theorem wq_2_182 : (Cond.methodLink "DrawnTalks" (128) (⟨"DrawnTalks$Relation", "isAhead", "(II)Z"⟩ : MethodName)) ∈ dt_W0 := dt_in (wq_l2 (List.mem_of_getElem? (i := 182) (by decide +kernel))) rfl
theorem wq_2_183 : (Cond.methodLink "DrawnTalksLaw" (48) (⟨"DrawnTalks", "kept", "(IIII)I"⟩ : MethodName)) ∈ dt_W0 := dt_in (wq_l2 (List.mem_of_getElem? (i := 183) (by decide +kernel))) rfl
theorem wq_2_184 : (Cond.instanceMethod (⟨"DrawnTalks", "kept", "(IIII)I"⟩ : MethodName)) ∈ dt_W0 := dt_in (wq_l2 (List.mem_of_getElem? (i := 184) (by decide +kernel))) rfl
theorem wq_2_185 : (Cond.selects "DrawnTalks" (⟨"DrawnTalks", "kept", "(IIII)I"⟩ : MethodName) (⟨"DrawnTalks", "kept", "(IIII)I"⟩ : MethodName)) ∈ dt_W0 := dt_in (wq_l2 (List.mem_of_getElem? (i := 185) (by decide +kernel))) rfl
theorem wq_2_186 : (Cond.code (⟨"DrawnTalks", "kept", "(IIII)I"⟩ : MethodName) prog_1_method_9_code (5) (Option.some Jvm.ClassFile.FieldType.int)) ∈ dt_W0 := dt_in (wq_l2 (List.mem_of_getElem? (i := 186) (by decide +kernel))) rfl
theorem wq_2_187 : (Cond.methodLink "DrawnTalks" (131) (⟨"DrawnTalks", "isWay", "(I)Z"⟩ : MethodName)) ∈ dt_W0 := dt_in (wq_l2 (List.mem_of_getElem? (i := 187) (by decide +kernel))) rfl
theorem wq_2_188 : (Cond.static (⟨"DrawnTalks", "isWay", "(I)Z"⟩ : MethodName)) ∈ dt_W0 := dt_in (wq_l2 (List.mem_of_getElem? (i := 188) (by decide +kernel))) rfl
theorem wq_2_189 : (Cond.code (⟨"DrawnTalks", "isWay", "(I)Z"⟩ : MethodName) prog_1_method_25_code (1) (Option.some Jvm.ClassFile.FieldType.boolean)) ∈ dt_W0 := dt_in (wq_l2 (List.mem_of_getElem? (i := 189) (by decide +kernel))) rfl
theorem wq_2_190 : (Cond.methodLink "DrawnTalksLaw" (53) (⟨"DrawnTalks", "race", "(III)I"⟩ : MethodName)) ∈ dt_W0 := dt_in (wq_l2 (List.mem_of_getElem? (i := 190) (by decide +kernel))) rfl
theorem wq_2_191 : (Cond.instanceMethod (⟨"DrawnTalks", "race", "(III)I"⟩ : MethodName)) ∈ dt_W0 := dt_in (wq_l2 (List.mem_of_getElem? (i := 191) (by decide +kernel))) rfl
theorem wq_2_192 : (Cond.selects "DrawnTalks" (⟨"DrawnTalks", "race", "(III)I"⟩ : MethodName) (⟨"DrawnTalks", "race", "(III)I"⟩ : MethodName)) ∈ dt_W0 := dt_in (wq_l2 (List.mem_of_getElem? (i := 192) (by decide +kernel))) rfl
theorem wq_2_193 : (Cond.code (⟨"DrawnTalks", "race", "(III)I"⟩ : MethodName) prog_1_method_10_code (4) (Option.some Jvm.ClassFile.FieldType.int)) ∈ dt_W0 := dt_in (wq_l2 (List.mem_of_getElem? (i := 193) (by decide +kernel))) rfl
theorem wq_2_194 : (Cond.methodLink "DrawnTalks" (134) (⟨"DrawnTalks$Relation", "howManyRaces", "(LDrawnTalks$Talk;)I"⟩ : MethodName)) ∈ dt_W0 := dt_in (wq_l2 (List.mem_of_getElem? (i := 194) (by decide +kernel))) rfl
theorem wq_2_195 : (Cond.instanceMethod (⟨"DrawnTalks$Relation", "howManyRaces", "(LDrawnTalks$Talk;)I"⟩ : MethodName)) ∈ dt_W0 := dt_in (wq_l2 (List.mem_of_getElem? (i := 195) (by decide +kernel))) rfl
theorem wq_2_196 : (Cond.selects "DrawnTalks$Relation" (⟨"DrawnTalks$Relation", "howManyRaces", "(LDrawnTalks$Talk;)I"⟩ : MethodName) (⟨"DrawnTalks$Relation", "howManyRaces", "(LDrawnTalks$Talk;)I"⟩ : MethodName)) ∈ dt_W0 := dt_in (wq_l2 (List.mem_of_getElem? (i := 196) (by decide +kernel))) rfl
theorem wq_2_197 : (Cond.code (⟨"DrawnTalks$Relation", "howManyRaces", "(LDrawnTalks$Talk;)I"⟩ : MethodName) prog_6_method_6_code (5) (Option.some Jvm.ClassFile.FieldType.int)) ∈ dt_W0 := dt_in (wq_l2 (List.mem_of_getElem? (i := 197) (by decide +kernel))) rfl
theorem wq_2_198 : (Cond.methodLink "DrawnTalks$Relation" (42) (⟨"DrawnTalks$Relation", "isRace", "(LDrawnTalks$Talk;II)Z"⟩ : MethodName)) ∈ dt_W0 := dt_in (wq_l2 (List.mem_of_getElem? (i := 198) (by decide +kernel))) rfl
theorem wq_2_200 : (Cond.instanceMethod (⟨"DrawnTalks$Relation", "isRace", "(LDrawnTalks$Talk;II)Z"⟩ : MethodName)) ∈ dt_W0 := dt_in (wq_l2 (List.mem_of_getElem? (i := 200) (by decide +kernel))) rfl
theorem wq_2_201 : (Cond.code (⟨"DrawnTalks$Relation", "isRace", "(LDrawnTalks$Talk;II)Z"⟩ : MethodName) prog_6_method_5_code (4) (Option.some Jvm.ClassFile.FieldType.boolean)) ∈ dt_W0 := dt_in (wq_l2 (List.mem_of_getElem? (i := 201) (by decide +kernel))) rfl
theorem wq_2_202 : (Cond.methodLink "DrawnTalks" (137) (⟨"DrawnTalks$Relation", "raceAt", "(LDrawnTalks$Talk;I)I"⟩ : MethodName)) ∈ dt_W0 := dt_in (wq_l2 (List.mem_of_getElem? (i := 202) (by decide +kernel))) rfl
theorem wq_2_203 : (Cond.instanceMethod (⟨"DrawnTalks$Relation", "raceAt", "(LDrawnTalks$Talk;I)I"⟩ : MethodName)) ∈ dt_W0 := dt_in (wq_l2 (List.mem_of_getElem? (i := 203) (by decide +kernel))) rfl
theorem wq_2_204 : (Cond.selects "DrawnTalks$Relation" (⟨"DrawnTalks$Relation", "raceAt", "(LDrawnTalks$Talk;I)I"⟩ : MethodName) (⟨"DrawnTalks$Relation", "raceAt", "(LDrawnTalks$Talk;I)I"⟩ : MethodName)) ∈ dt_W0 := dt_in (wq_l2 (List.mem_of_getElem? (i := 204) (by decide +kernel))) rfl
theorem wq_2_205 : (Cond.code (⟨"DrawnTalks$Relation", "raceAt", "(LDrawnTalks$Talk;I)I"⟩ : MethodName) prog_6_method_7_code (6) (Option.some Jvm.ClassFile.FieldType.int)) ∈ dt_W0 := dt_in (wq_l2 (List.mem_of_getElem? (i := 205) (by decide +kernel))) rfl
theorem wq_2_206 : (Cond.methodLink "DrawnTalksLaw" (57) (⟨"DrawnTalks", "orders", "(I)J"⟩ : MethodName)) ∈ dt_W0 := dt_in (wq_l2 (List.mem_of_getElem? (i := 206) (by decide +kernel))) rfl
theorem wq_2_207 : (Cond.instanceMethod (⟨"DrawnTalks", "orders", "(I)J"⟩ : MethodName)) ∈ dt_W0 := dt_in (wq_l2 (List.mem_of_getElem? (i := 207) (by decide +kernel))) rfl
theorem wq_2_208 : (Cond.selects "DrawnTalks" (⟨"DrawnTalks", "orders", "(I)J"⟩ : MethodName) (⟨"DrawnTalks", "orders", "(I)J"⟩ : MethodName)) ∈ dt_W0 := dt_in (wq_l2 (List.mem_of_getElem? (i := 208) (by decide +kernel))) rfl
theorem wq_2_209 : (Cond.code (⟨"DrawnTalks", "orders", "(I)J"⟩ : MethodName) prog_1_method_11_code (2) (Option.some Jvm.ClassFile.FieldType.long)) ∈ dt_W0 := dt_in (wq_l2 (List.mem_of_getElem? (i := 209) (by decide +kernel))) rfl
theorem wq_2_210 : (Cond.constantLong "DrawnTalks" (141) (-1 : Int64)) ∈ dt_W0 := dt_in (wq_l2 (List.mem_of_getElem? (i := 210) (by decide +kernel))) rfl
theorem wq_2_211 : (Cond.methodLink "DrawnTalks" (143) (⟨"DrawnTalks$Lattice", "walk", "(LDrawnTalks$Talk;)V"⟩ : MethodName)) ∈ dt_W0 := dt_in (wq_l2 (List.mem_of_getElem? (i := 211) (by decide +kernel))) rfl
theorem wq_2_212 : (Cond.instanceMethod (⟨"DrawnTalks$Lattice", "walk", "(LDrawnTalks$Talk;)V"⟩ : MethodName)) ∈ dt_W0 := dt_in (wq_l2 (List.mem_of_getElem? (i := 212) (by decide +kernel))) rfl
theorem wq_2_213 : (Cond.selects "DrawnTalks$Lattice" (⟨"DrawnTalks$Lattice", "walk", "(LDrawnTalks$Talk;)V"⟩ : MethodName) (⟨"DrawnTalks$Lattice", "walk", "(LDrawnTalks$Talk;)V"⟩ : MethodName)) ∈ dt_W0 := dt_in (wq_l2 (List.mem_of_getElem? (i := 213) (by decide +kernel))) rfl
theorem wq_2_214 : (Cond.code (⟨"DrawnTalks$Lattice", "walk", "(LDrawnTalks$Talk;)V"⟩ : MethodName) prog_2_method_2_code (4) (Option.none : Option Jvm.ClassFile.FieldType)) ∈ dt_W0 := dt_in (wq_l2 (List.mem_of_getElem? (i := 214) (by decide +kernel))) rfl
theorem wq_2_215 : (Cond.methodLink "DrawnTalks$Lattice" (31) (⟨"DrawnTalks$Lattice", "prepare", "(LDrawnTalks$Talk;)I"⟩ : MethodName)) ∈ dt_W0 := dt_in (wq_l2 (List.mem_of_getElem? (i := 215) (by decide +kernel))) rfl
theorem wq_2_217 : (Cond.instanceMethod (⟨"DrawnTalks$Lattice", "prepare", "(LDrawnTalks$Talk;)I"⟩ : MethodName)) ∈ dt_W0 := dt_in (wq_l2 (List.mem_of_getElem? (i := 217) (by decide +kernel))) rfl
theorem wq_2_218 : (Cond.code (⟨"DrawnTalks$Lattice", "prepare", "(LDrawnTalks$Talk;)I"⟩ : MethodName) prog_2_method_3_code (6) (Option.some Jvm.ClassFile.FieldType.int)) ∈ dt_W0 := dt_in (wq_l2 (List.mem_of_getElem? (i := 218) (by decide +kernel))) rfl
theorem wq_2_219 : (Cond.methodLink "DrawnTalks$Lattice" (56) (⟨"DrawnTalks$Talk", "onLine", "(II)I"⟩ : MethodName)) ∈ dt_W0 := dt_in (wq_l2 (List.mem_of_getElem? (i := 219) (by decide +kernel))) rfl
theorem wq_2_220 : (Cond.methodLink "DrawnTalks$Lattice" (60) (⟨"java/lang/Math", "min", "(II)I"⟩ : MethodName)) ∈ dt_W0 := dt_in (wq_l2 (List.mem_of_getElem? (i := 220) (by decide +kernel))) rfl
theorem wq_2_221 : (Cond.static (⟨"java/lang/Math", "min", "(II)I"⟩ : MethodName)) ∈ dt_W0 := dt_in (wq_l2 (List.mem_of_getElem? (i := 221) (by decide +kernel))) rfl
theorem wq_2_222 : (Cond.code (⟨"java/lang/Math", "min", "(II)I"⟩ : MethodName) prog_10_method_69_code (2) (Option.some Jvm.ClassFile.FieldType.int)) ∈ dt_W0 := dt_in (wq_l2 (List.mem_of_getElem? (i := 222) (by decide +kernel))) rfl
theorem wq_2_223 : (Cond.methodLink "DrawnTalks$Lattice" (35) (⟨"DrawnTalks$Lattice", "visit", "(LDrawnTalks$Talk;II)V"⟩ : MethodName)) ∈ dt_W0 := dt_in (wq_l2 (List.mem_of_getElem? (i := 223) (by decide +kernel))) rfl
theorem wq_2_225 : (Cond.instanceMethod (⟨"DrawnTalks$Lattice", "visit", "(LDrawnTalks$Talk;II)V"⟩ : MethodName)) ∈ dt_W0 := dt_in (wq_l2 (List.mem_of_getElem? (i := 225) (by decide +kernel))) rfl
theorem wq_2_226 : (Cond.code (⟨"DrawnTalks$Lattice", "visit", "(LDrawnTalks$Talk;II)V"⟩ : MethodName) prog_2_method_4_code (7) (Option.none : Option Jvm.ClassFile.FieldType)) ∈ dt_W0 := dt_in (wq_l2 (List.mem_of_getElem? (i := 226) (by decide +kernel))) rfl
theorem wq_2_227 : (Cond.methodLink "DrawnTalks$Lattice" (71) (⟨"java/lang/Math", "max", "(II)I"⟩ : MethodName)) ∈ dt_W0 := dt_in (wq_l2 (List.mem_of_getElem? (i := 227) (by decide +kernel))) rfl
theorem wq_2_228 : (Cond.static (⟨"java/lang/Math", "max", "(II)I"⟩ : MethodName)) ∈ dt_W0 := dt_in (wq_l2 (List.mem_of_getElem? (i := 228) (by decide +kernel))) rfl
theorem wq_2_229 : (Cond.code (⟨"java/lang/Math", "max", "(II)I"⟩ : MethodName) prog_10_method_65_code (2) (Option.some Jvm.ClassFile.FieldType.int)) ∈ dt_W0 := dt_in (wq_l2 (List.mem_of_getElem? (i := 229) (by decide +kernel))) rfl
theorem wq_2_230 : (Cond.methodLink "DrawnTalks$Lattice" (74) (⟨"DrawnTalks$Lattice", "mayHappen", "(LDrawnTalks$Talk;I)Z"⟩ : MethodName)) ∈ dt_W0 := dt_in (wq_l2 (List.mem_of_getElem? (i := 230) (by decide +kernel))) rfl
theorem wq_2_232 : (Cond.instanceMethod (⟨"DrawnTalks$Lattice", "mayHappen", "(LDrawnTalks$Talk;I)Z"⟩ : MethodName)) ∈ dt_W0 := dt_in (wq_l2 (List.mem_of_getElem? (i := 232) (by decide +kernel))) rfl
theorem wq_2_233 : (Cond.code (⟨"DrawnTalks$Lattice", "mayHappen", "(LDrawnTalks$Talk;I)Z"⟩ : MethodName) prog_2_method_5_code (4) (Option.some Jvm.ClassFile.FieldType.boolean)) ∈ dt_W0 := dt_in (wq_l2 (List.mem_of_getElem? (i := 233) (by decide +kernel))) rfl
theorem wq_2_234 : (Cond.methodLink "DrawnTalks$Lattice" (39) (⟨"DrawnTalks$Lattice", "goToNextCut", "(LDrawnTalks$Talk;)V"⟩ : MethodName)) ∈ dt_W0 := dt_in (wq_l2 (List.mem_of_getElem? (i := 234) (by decide +kernel))) rfl
theorem wq_2_236 : (Cond.instanceMethod (⟨"DrawnTalks$Lattice", "goToNextCut", "(LDrawnTalks$Talk;)V"⟩ : MethodName)) ∈ dt_W0 := dt_in (wq_l2 (List.mem_of_getElem? (i := 236) (by decide +kernel))) rfl
theorem wq_2_237 : (Cond.code (⟨"DrawnTalks$Lattice", "goToNextCut", "(LDrawnTalks$Talk;)V"⟩ : MethodName) prog_2_method_6_code (3) (Option.none : Option Jvm.ClassFile.FieldType)) ∈ dt_W0 := dt_in (wq_l2 (List.mem_of_getElem? (i := 237) (by decide +kernel))) rfl
theorem wq_2_238 : (Cond.methodLink "DrawnTalksLaw" (62) (⟨"DrawnTalks", "moments", "(I)I"⟩ : MethodName)) ∈ dt_W0 := dt_in (wq_l2 (List.mem_of_getElem? (i := 238) (by decide +kernel))) rfl
theorem wq_2_239 : (Cond.instanceMethod (⟨"DrawnTalks", "moments", "(I)I"⟩ : MethodName)) ∈ dt_W0 := dt_in (wq_l2 (List.mem_of_getElem? (i := 239) (by decide +kernel))) rfl
theorem wq_3_0 : (Cond.selects "DrawnTalks" (⟨"DrawnTalks", "moments", "(I)I"⟩ : MethodName) (⟨"DrawnTalks", "moments", "(I)I"⟩ : MethodName)) ∈ dt_W0 := dt_in (wq_l3 (List.mem_of_getElem? (i := 0) (by decide +kernel))) rfl
theorem wq_3_1 : (Cond.code (⟨"DrawnTalks", "moments", "(I)I"⟩ : MethodName) prog_1_method_12_code (2) (Option.some Jvm.ClassFile.FieldType.int)) ∈ dt_W0 := dt_in (wq_l3 (List.mem_of_getElem? (i := 1) (by decide +kernel))) rfl
theorem wq_3_2 : (Cond.methodLink "DrawnTalksLaw" (66) (⟨"DrawnTalks", "under", "(II)I"⟩ : MethodName)) ∈ dt_W0 := dt_in (wq_l3 (List.mem_of_getElem? (i := 2) (by decide +kernel))) rfl
theorem wq_3_3 : (Cond.instanceMethod (⟨"DrawnTalks", "under", "(II)I"⟩ : MethodName)) ∈ dt_W0 := dt_in (wq_l3 (List.mem_of_getElem? (i := 3) (by decide +kernel))) rfl
theorem wq_3_4 : (Cond.selects "DrawnTalks" (⟨"DrawnTalks", "under", "(II)I"⟩ : MethodName) (⟨"DrawnTalks", "under", "(II)I"⟩ : MethodName)) ∈ dt_W0 := dt_in (wq_l3 (List.mem_of_getElem? (i := 4) (by decide +kernel))) rfl
theorem wq_3_5 : (Cond.code (⟨"DrawnTalks", "under", "(II)I"⟩ : MethodName) prog_1_method_13_code (3) (Option.some Jvm.ClassFile.FieldType.int)) ∈ dt_W0 := dt_in (wq_l3 (List.mem_of_getElem? (i := 5) (by decide +kernel))) rfl
theorem wq_3_6 : (Cond.methodLink "DrawnTalksLaw" (70) (⟨"DrawnTalks", "alike", "(II)I"⟩ : MethodName)) ∈ dt_W0 := dt_in (wq_l3 (List.mem_of_getElem? (i := 6) (by decide +kernel))) rfl
theorem wq_3_7 : (Cond.instanceMethod (⟨"DrawnTalks", "alike", "(II)I"⟩ : MethodName)) ∈ dt_W0 := dt_in (wq_l3 (List.mem_of_getElem? (i := 7) (by decide +kernel))) rfl
theorem wq_3_8 : (Cond.selects "DrawnTalks" (⟨"DrawnTalks", "alike", "(II)I"⟩ : MethodName) (⟨"DrawnTalks", "alike", "(II)I"⟩ : MethodName)) ∈ dt_W0 := dt_in (wq_l3 (List.mem_of_getElem? (i := 8) (by decide +kernel))) rfl
theorem wq_3_9 : (Cond.code (⟨"DrawnTalks", "alike", "(II)I"⟩ : MethodName) prog_1_method_14_code (4) (Option.some Jvm.ClassFile.FieldType.int)) ∈ dt_W0 := dt_in (wq_l3 (List.mem_of_getElem? (i := 9) (by decide +kernel))) rfl
theorem wq_3_10 : (Cond.methodLink "DrawnTalks" (160) (⟨"DrawnTalks$Talk", "hasSameLine", "(LDrawnTalks$Talk;I)Z"⟩ : MethodName)) ∈ dt_W0 := dt_in (wq_l3 (List.mem_of_getElem? (i := 10) (by decide +kernel))) rfl
theorem wq_3_11 : (Cond.instanceMethod (⟨"DrawnTalks$Talk", "hasSameLine", "(LDrawnTalks$Talk;I)Z"⟩ : MethodName)) ∈ dt_W0 := dt_in (wq_l3 (List.mem_of_getElem? (i := 11) (by decide +kernel))) rfl
theorem wq_3_12 : (Cond.selects "DrawnTalks$Talk" (⟨"DrawnTalks$Talk", "hasSameLine", "(LDrawnTalks$Talk;I)Z"⟩ : MethodName) (⟨"DrawnTalks$Talk", "hasSameLine", "(LDrawnTalks$Talk;I)Z"⟩ : MethodName)) ∈ dt_W0 := dt_in (wq_l3 (List.mem_of_getElem? (i := 12) (by decide +kernel))) rfl
theorem wq_3_13 : (Cond.code (⟨"DrawnTalks$Talk", "hasSameLine", "(LDrawnTalks$Talk;I)Z"⟩ : MethodName) prog_7_method_12_code (6) (Option.some Jvm.ClassFile.FieldType.boolean)) ∈ dt_W0 := dt_in (wq_l3 (List.mem_of_getElem? (i := 13) (by decide +kernel))) rfl
theorem wq_3_14 : (Cond.methodLink "DrawnTalks$Talk" (60) (⟨"DrawnTalks$Talk", "onLine", "(II)I"⟩ : MethodName)) ∈ dt_W0 := dt_in (wq_l3 (List.mem_of_getElem? (i := 14) (by decide +kernel))) rfl
theorem wq_3_15 : (Cond.methodLink "DrawnTalksLaw" (74) (⟨"DrawnTalks", "behind", "(III)I"⟩ : MethodName)) ∈ dt_W0 := dt_in (wq_l3 (List.mem_of_getElem? (i := 15) (by decide +kernel))) rfl
theorem wq_3_16 : (Cond.instanceMethod (⟨"DrawnTalks", "behind", "(III)I"⟩ : MethodName)) ∈ dt_W0 := dt_in (wq_l3 (List.mem_of_getElem? (i := 16) (by decide +kernel))) rfl
theorem wq_3_17 : (Cond.selects "DrawnTalks" (⟨"DrawnTalks", "behind", "(III)I"⟩ : MethodName) (⟨"DrawnTalks", "behind", "(III)I"⟩ : MethodName)) ∈ dt_W0 := dt_in (wq_l3 (List.mem_of_getElem? (i := 17) (by decide +kernel))) rfl
theorem wq_3_18 : (Cond.code (⟨"DrawnTalks", "behind", "(III)I"⟩ : MethodName) prog_1_method_15_code (4) (Option.some Jvm.ClassFile.FieldType.int)) ∈ dt_W0 := dt_in (wq_l3 (List.mem_of_getElem? (i := 18) (by decide +kernel))) rfl
theorem wq_3_19 : (Cond.methodLink "DrawnTalksLaw" (78) (⟨"DrawnTalks", "play", "(II)I"⟩ : MethodName)) ∈ dt_W0 := dt_in (wq_l3 (List.mem_of_getElem? (i := 19) (by decide +kernel))) rfl
theorem wq_3_20 : (Cond.instanceMethod (⟨"DrawnTalks", "play", "(II)I"⟩ : MethodName)) ∈ dt_W0 := dt_in (wq_l3 (List.mem_of_getElem? (i := 20) (by decide +kernel))) rfl
theorem wq_3_21 : (Cond.selects "DrawnTalks" (⟨"DrawnTalks", "play", "(II)I"⟩ : MethodName) (⟨"DrawnTalks", "play", "(II)I"⟩ : MethodName)) ∈ dt_W0 := dt_in (wq_l3 (List.mem_of_getElem? (i := 21) (by decide +kernel))) rfl
theorem wq_3_22 : (Cond.code (⟨"DrawnTalks", "play", "(II)I"⟩ : MethodName) prog_1_method_16_code (3) (Option.some Jvm.ClassFile.FieldType.int)) ∈ dt_W0 := dt_in (wq_l3 (List.mem_of_getElem? (i := 22) (by decide +kernel))) rfl
theorem wq_3_23 : (Cond.methodLink "DrawnTalks" (170) (⟨"DrawnTalks", "isMix", "(I)Z"⟩ : MethodName)) ∈ dt_W0 := dt_in (wq_l3 (List.mem_of_getElem? (i := 23) (by decide +kernel))) rfl
theorem wq_3_24 : (Cond.static (⟨"DrawnTalks", "isMix", "(I)Z"⟩ : MethodName)) ∈ dt_W0 := dt_in (wq_l3 (List.mem_of_getElem? (i := 24) (by decide +kernel))) rfl
theorem wq_3_25 : (Cond.code (⟨"DrawnTalks", "isMix", "(I)Z"⟩ : MethodName) prog_1_method_26_code (1) (Option.some Jvm.ClassFile.FieldType.boolean)) ∈ dt_W0 := dt_in (wq_l3 (List.mem_of_getElem? (i := 25) (by decide +kernel))) rfl
theorem wq_3_26 : (Cond.methodLink "DrawnTalks" (173) (⟨"DrawnTalks$Player", "perform", "(I)V"⟩ : MethodName)) ∈ dt_W0 := dt_in (wq_l3 (List.mem_of_getElem? (i := 26) (by decide +kernel))) rfl
theorem wq_3_27 : (Cond.instanceMethod (⟨"DrawnTalks$Player", "perform", "(I)V"⟩ : MethodName)) ∈ dt_W0 := dt_in (wq_l3 (List.mem_of_getElem? (i := 27) (by decide +kernel))) rfl
theorem wq_3_28 : (Cond.selects "DrawnTalks$Player" (⟨"DrawnTalks$Player", "perform", "(I)V"⟩ : MethodName) (⟨"DrawnTalks$Player", "perform", "(I)V"⟩ : MethodName)) ∈ dt_W0 := dt_in (wq_l3 (List.mem_of_getElem? (i := 28) (by decide +kernel))) rfl
theorem wq_3_29 : (Cond.code (⟨"DrawnTalks$Player", "perform", "(I)V"⟩ : MethodName) prog_4_method_2_code (4) (Option.none : Option Jvm.ClassFile.FieldType)) ∈ dt_W0 := dt_in (wq_l3 (List.mem_of_getElem? (i := 29) (by decide +kernel))) rfl
theorem wq_3_30 : (Cond.methodLink "DrawnTalks$Player" (44) (⟨"DrawnTalks$Player", "goToStart", "()V"⟩ : MethodName)) ∈ dt_W0 := dt_in (wq_l3 (List.mem_of_getElem? (i := 30) (by decide +kernel))) rfl
theorem wq_3_32 : (Cond.instanceMethod (⟨"DrawnTalks$Player", "goToStart", "()V"⟩ : MethodName)) ∈ dt_W0 := dt_in (wq_l3 (List.mem_of_getElem? (i := 32) (by decide +kernel))) rfl
theorem wq_3_33 : (Cond.code (⟨"DrawnTalks$Player", "goToStart", "()V"⟩ : MethodName) prog_4_method_6_code (2) (Option.none : Option Jvm.ClassFile.FieldType)) ∈ dt_W0 := dt_in (wq_l3 (List.mem_of_getElem? (i := 33) (by decide +kernel))) rfl
theorem wq_3_34 : (Cond.methodLink "DrawnTalks$Player" (63) (⟨"DrawnTalks$Player", "talkOf", "(I)LDrawnTalks$Talk;"⟩ : MethodName)) ∈ dt_W0 := dt_in (wq_l3 (List.mem_of_getElem? (i := 34) (by decide +kernel))) rfl
theorem wq_3_36 : (Cond.instanceMethod (⟨"DrawnTalks$Player", "talkOf", "(I)LDrawnTalks$Talk;"⟩ : MethodName)) ∈ dt_W0 := dt_in (wq_l3 (List.mem_of_getElem? (i := 36) (by decide +kernel))) rfl
theorem wq_3_37 : (Cond.code (⟨"DrawnTalks$Player", "talkOf", "(I)LDrawnTalks$Talk;"⟩ : MethodName) prog_4_method_5_code (2) (Option.some (Jvm.ClassFile.FieldType.object "DrawnTalks$Talk"))) ∈ dt_W0 := dt_in (wq_l3 (List.mem_of_getElem? (i := 37) (by decide +kernel))) rfl
theorem wq_3_38 : (Cond.methodLinkNest "DrawnTalks$Player" (71) (⟨"DrawnTalks", "choice", "(II)I"⟩ : MethodName) "DrawnTalks") ∈ dt_NW := dt_inN (wq_l3 (List.mem_of_getElem? (i := 38) (by decide +kernel))) rfl
theorem wq_3_39 : (Cond.static (⟨"DrawnTalks", "choice", "(II)I"⟩ : MethodName)) ∈ dt_W0 := dt_in (wq_l3 (List.mem_of_getElem? (i := 39) (by decide +kernel))) rfl
theorem wq_3_40 : (Cond.code (⟨"DrawnTalks", "choice", "(II)I"⟩ : MethodName) prog_1_method_29_code (2) (Option.some Jvm.ClassFile.FieldType.int)) ∈ dt_W0 := dt_in (wq_l3 (List.mem_of_getElem? (i := 40) (by decide +kernel))) rfl
theorem wq_3_41 : (Cond.methodLink "DrawnTalks$Player" (75) (⟨"DrawnTalks$Talk", "onLine", "(II)I"⟩ : MethodName)) ∈ dt_W0 := dt_in (wq_l3 (List.mem_of_getElem? (i := 41) (by decide +kernel))) rfl
theorem wq_3_42 : (Cond.methodLink "DrawnTalks$Player" (47) (⟨"DrawnTalks$Player", "firstThatCan", "()I"⟩ : MethodName)) ∈ dt_W0 := dt_in (wq_l3 (List.mem_of_getElem? (i := 42) (by decide +kernel))) rfl
theorem wq_3_44 : (Cond.instanceMethod (⟨"DrawnTalks$Player", "firstThatCan", "()I"⟩ : MethodName)) ∈ dt_W0 := dt_in (wq_l3 (List.mem_of_getElem? (i := 44) (by decide +kernel))) rfl
theorem wq_3_45 : (Cond.code (⟨"DrawnTalks$Player", "firstThatCan", "()I"⟩ : MethodName) prog_4_method_8_code (2) (Option.some Jvm.ClassFile.FieldType.int)) ∈ dt_W0 := dt_in (wq_l3 (List.mem_of_getElem? (i := 45) (by decide +kernel))) rfl
theorem wq_3_46 : (Cond.methodLink "DrawnTalks$Player" (78) (⟨"DrawnTalks$Player", "can", "(I)Z"⟩ : MethodName)) ∈ dt_W0 := dt_in (wq_l3 (List.mem_of_getElem? (i := 46) (by decide +kernel))) rfl
theorem wq_3_48 : (Cond.instanceMethod (⟨"DrawnTalks$Player", "can", "(I)Z"⟩ : MethodName)) ∈ dt_W0 := dt_in (wq_l3 (List.mem_of_getElem? (i := 48) (by decide +kernel))) rfl
theorem wq_3_49 : (Cond.code (⟨"DrawnTalks$Player", "can", "(I)Z"⟩ : MethodName) prog_4_method_9_code (5) (Option.some Jvm.ClassFile.FieldType.boolean)) ∈ dt_W0 := dt_in (wq_l3 (List.mem_of_getElem? (i := 49) (by decide +kernel))) rfl
theorem wq_3_50 : (Cond.methodLink "DrawnTalks$Player" (51) (⟨"DrawnTalks$Player", "act", "(I)V"⟩ : MethodName)) ∈ dt_W0 := dt_in (wq_l3 (List.mem_of_getElem? (i := 50) (by decide +kernel))) rfl
theorem wq_3_52 : (Cond.instanceMethod (⟨"DrawnTalks$Player", "act", "(I)V"⟩ : MethodName)) ∈ dt_W0 := dt_in (wq_l3 (List.mem_of_getElem? (i := 52) (by decide +kernel))) rfl
theorem wq_3_53 : (Cond.code (⟨"DrawnTalks$Player", "act", "(I)V"⟩ : MethodName) prog_4_method_10_code (4) (Option.none : Option Jvm.ClassFile.FieldType)) ∈ dt_W0 := dt_in (wq_l3 (List.mem_of_getElem? (i := 53) (by decide +kernel))) rfl
theorem wq_3_54 : (Cond.methodLink "DrawnTalks$Player" (92) (⟨"DrawnTalks$Player", "post", "(II)V"⟩ : MethodName)) ∈ dt_W0 := dt_in (wq_l3 (List.mem_of_getElem? (i := 54) (by decide +kernel))) rfl
theorem wq_3_56 : (Cond.instanceMethod (⟨"DrawnTalks$Player", "post", "(II)V"⟩ : MethodName)) ∈ dt_W0 := dt_in (wq_l3 (List.mem_of_getElem? (i := 56) (by decide +kernel))) rfl
theorem wq_3_57 : (Cond.code (⟨"DrawnTalks$Player", "post", "(II)V"⟩ : MethodName) prog_4_method_11_code (3) (Option.none : Option Jvm.ClassFile.FieldType)) ∈ dt_W0 := dt_in (wq_l3 (List.mem_of_getElem? (i := 57) (by decide +kernel))) rfl
theorem wq_3_58 : (Cond.methodLink "DrawnTalks$Player" (55) (⟨"DrawnTalks$Player", "goOn", "(I)V"⟩ : MethodName)) ∈ dt_W0 := dt_in (wq_l3 (List.mem_of_getElem? (i := 58) (by decide +kernel))) rfl
theorem wq_3_60 : (Cond.instanceMethod (⟨"DrawnTalks$Player", "goOn", "(I)V"⟩ : MethodName)) ∈ dt_W0 := dt_in (wq_l3 (List.mem_of_getElem? (i := 60) (by decide +kernel))) rfl
theorem wq_3_61 : (Cond.code (⟨"DrawnTalks$Player", "goOn", "(I)V"⟩ : MethodName) prog_4_method_7_code (2) (Option.none : Option Jvm.ClassFile.FieldType)) ∈ dt_W0 := dt_in (wq_l3 (List.mem_of_getElem? (i := 61) (by decide +kernel))) rfl
theorem wq_3_62 : (Cond.methodLink "DrawnTalks" (179) (⟨"DrawnTalks$Player", "ends", "()Z"⟩ : MethodName)) ∈ dt_W0 := dt_in (wq_l3 (List.mem_of_getElem? (i := 62) (by decide +kernel))) rfl
theorem wq_3_63 : (Cond.instanceMethod (⟨"DrawnTalks$Player", "ends", "()Z"⟩ : MethodName)) ∈ dt_W0 := dt_in (wq_l3 (List.mem_of_getElem? (i := 63) (by decide +kernel))) rfl
theorem wq_3_64 : (Cond.selects "DrawnTalks$Player" (⟨"DrawnTalks$Player", "ends", "()Z"⟩ : MethodName) (⟨"DrawnTalks$Player", "ends", "()Z"⟩ : MethodName)) ∈ dt_W0 := dt_in (wq_l3 (List.mem_of_getElem? (i := 64) (by decide +kernel))) rfl
theorem wq_3_65 : (Cond.code (⟨"DrawnTalks$Player", "ends", "()Z"⟩ : MethodName) prog_4_method_3_code (2) (Option.some Jvm.ClassFile.FieldType.boolean)) ∈ dt_W0 := dt_in (wq_l3 (List.mem_of_getElem? (i := 65) (by decide +kernel))) rfl
theorem wq_3_66 : (Cond.methodLink "DrawnTalksLaw" (82) (⟨"DrawnTalks", "mixes", "(II)I"⟩ : MethodName)) ∈ dt_W0 := dt_in (wq_l3 (List.mem_of_getElem? (i := 66) (by decide +kernel))) rfl
theorem wq_3_67 : (Cond.instanceMethod (⟨"DrawnTalks", "mixes", "(II)I"⟩ : MethodName)) ∈ dt_W0 := dt_in (wq_l3 (List.mem_of_getElem? (i := 67) (by decide +kernel))) rfl
theorem wq_3_68 : (Cond.selects "DrawnTalks" (⟨"DrawnTalks", "mixes", "(II)I"⟩ : MethodName) (⟨"DrawnTalks", "mixes", "(II)I"⟩ : MethodName)) ∈ dt_W0 := dt_in (wq_l3 (List.mem_of_getElem? (i := 68) (by decide +kernel))) rfl
theorem wq_3_69 : (Cond.code (⟨"DrawnTalks", "mixes", "(II)I"⟩ : MethodName) prog_1_method_17_code (3) (Option.some Jvm.ClassFile.FieldType.int)) ∈ dt_W0 := dt_in (wq_l3 (List.mem_of_getElem? (i := 69) (by decide +kernel))) rfl
theorem wq_3_70 : (Cond.methodLink "DrawnTalks" (186) (⟨"DrawnTalks", "isSet", "(I)Z"⟩ : MethodName)) ∈ dt_W0 := dt_in (wq_l3 (List.mem_of_getElem? (i := 70) (by decide +kernel))) rfl
theorem wq_3_71 : (Cond.static (⟨"DrawnTalks", "isSet", "(I)Z"⟩ : MethodName)) ∈ dt_W0 := dt_in (wq_l3 (List.mem_of_getElem? (i := 71) (by decide +kernel))) rfl
theorem wq_3_72 : (Cond.code (⟨"DrawnTalks", "isSet", "(I)Z"⟩ : MethodName) prog_1_method_27_code (1) (Option.some Jvm.ClassFile.FieldType.boolean)) ∈ dt_W0 := dt_in (wq_l3 (List.mem_of_getElem? (i := 72) (by decide +kernel))) rfl
theorem wq_3_73 : (Cond.methodLink "DrawnTalks" (189) (⟨"DrawnTalks$Mixer", "howMany", "(II)I"⟩ : MethodName)) ∈ dt_W0 := dt_in (wq_l3 (List.mem_of_getElem? (i := 73) (by decide +kernel))) rfl
theorem wq_3_74 : (Cond.instanceMethod (⟨"DrawnTalks$Mixer", "howMany", "(II)I"⟩ : MethodName)) ∈ dt_W0 := dt_in (wq_l3 (List.mem_of_getElem? (i := 74) (by decide +kernel))) rfl
theorem wq_3_75 : (Cond.selects "DrawnTalks$Mixer" (⟨"DrawnTalks$Mixer", "howMany", "(II)I"⟩ : MethodName) (⟨"DrawnTalks$Mixer", "howMany", "(II)I"⟩ : MethodName)) ∈ dt_W0 := dt_in (wq_l3 (List.mem_of_getElem? (i := 75) (by decide +kernel))) rfl
theorem wq_3_76 : (Cond.code (⟨"DrawnTalks$Mixer", "howMany", "(II)I"⟩ : MethodName) prog_3_method_2_code (5) (Option.some Jvm.ClassFile.FieldType.int)) ∈ dt_W0 := dt_in (wq_l3 (List.mem_of_getElem? (i := 76) (by decide +kernel))) rfl
theorem wq_3_77 : (Cond.methodLink "DrawnTalks$Mixer" (23) (⟨"DrawnTalks$Mixer", "choose", "(I)V"⟩ : MethodName)) ∈ dt_W0 := dt_in (wq_l3 (List.mem_of_getElem? (i := 77) (by decide +kernel))) rfl
theorem wq_3_79 : (Cond.instanceMethod (⟨"DrawnTalks$Mixer", "choose", "(I)V"⟩ : MethodName)) ∈ dt_W0 := dt_in (wq_l3 (List.mem_of_getElem? (i := 79) (by decide +kernel))) rfl
theorem wq_3_80 : (Cond.code (⟨"DrawnTalks$Mixer", "choose", "(I)V"⟩ : MethodName) prog_3_method_4_code (4) (Option.none : Option Jvm.ClassFile.FieldType)) ∈ dt_W0 := dt_in (wq_l3 (List.mem_of_getElem? (i := 80) (by decide +kernel))) rfl
theorem wq_3_81 : (Cond.methodLink "DrawnTalks$Mixer" (51) (⟨"DrawnTalks$Mixer", "has", "(I)Z"⟩ : MethodName)) ∈ dt_W0 := dt_in (wq_l3 (List.mem_of_getElem? (i := 81) (by decide +kernel))) rfl
theorem wq_3_83 : (Cond.instanceMethod (⟨"DrawnTalks$Mixer", "has", "(I)Z"⟩ : MethodName)) ∈ dt_W0 := dt_in (wq_l3 (List.mem_of_getElem? (i := 83) (by decide +kernel))) rfl
theorem wq_3_84 : (Cond.code (⟨"DrawnTalks$Mixer", "has", "(I)Z"⟩ : MethodName) prog_3_method_5_code (2) (Option.some Jvm.ClassFile.FieldType.boolean)) ∈ dt_W0 := dt_in (wq_l3 (List.mem_of_getElem? (i := 84) (by decide +kernel))) rfl
theorem wq_3_85 : (Cond.methodLink "DrawnTalks$Mixer" (54) (⟨"DrawnTalks$Mixer", "firstLike", "(II)I"⟩ : MethodName)) ∈ dt_W0 := dt_in (wq_l3 (List.mem_of_getElem? (i := 85) (by decide +kernel))) rfl
theorem wq_3_87 : (Cond.instanceMethod (⟨"DrawnTalks$Mixer", "firstLike", "(II)I"⟩ : MethodName)) ∈ dt_W0 := dt_in (wq_l3 (List.mem_of_getElem? (i := 87) (by decide +kernel))) rfl
theorem wq_3_88 : (Cond.code (⟨"DrawnTalks$Mixer", "firstLike", "(II)I"⟩ : MethodName) prog_3_method_6_code (4) (Option.some Jvm.ClassFile.FieldType.int)) ∈ dt_W0 := dt_in (wq_l3 (List.mem_of_getElem? (i := 88) (by decide +kernel))) rfl
theorem wq_3_89 : (Cond.methodLink "DrawnTalks$Mixer" (58) (⟨"DrawnTalks$Talk", "hasSameLine", "(LDrawnTalks$Talk;I)Z"⟩ : MethodName)) ∈ dt_W0 := dt_in (wq_l3 (List.mem_of_getElem? (i := 89) (by decide +kernel))) rfl
theorem wq_3_90 : (Cond.methodLink "DrawnTalks$Mixer" (27) (⟨"DrawnTalks$Mixer", "isFirst", "(I)Z"⟩ : MethodName)) ∈ dt_W0 := dt_in (wq_l3 (List.mem_of_getElem? (i := 90) (by decide +kernel))) rfl
theorem wq_3_92 : (Cond.instanceMethod (⟨"DrawnTalks$Mixer", "isFirst", "(I)Z"⟩ : MethodName)) ∈ dt_W0 := dt_in (wq_l3 (List.mem_of_getElem? (i := 92) (by decide +kernel))) rfl
theorem wq_3_93 : (Cond.code (⟨"DrawnTalks$Mixer", "isFirst", "(I)Z"⟩ : MethodName) prog_3_method_7_code (4) (Option.some Jvm.ClassFile.FieldType.boolean)) ∈ dt_W0 := dt_in (wq_l3 (List.mem_of_getElem? (i := 93) (by decide +kernel))) rfl
theorem wq_3_94 : (Cond.methodLinkNest "DrawnTalks$Mixer" (64) (⟨"DrawnTalks", "choice", "(II)I"⟩ : MethodName) "DrawnTalks") ∈ dt_NW := dt_inN (wq_l3 (List.mem_of_getElem? (i := 94) (by decide +kernel))) rfl
theorem wq_3_95 : (Cond.methodLink "DrawnTalks$Mixer" (31) (⟨"DrawnTalks$Player", "perform", "(I)V"⟩ : MethodName)) ∈ dt_W0 := dt_in (wq_l3 (List.mem_of_getElem? (i := 95) (by decide +kernel))) rfl
theorem wq_3_96 : (Cond.methodLink "DrawnTalks$Mixer" (36) (⟨"DrawnTalks$Mixer", "isSuch", "(II)Z"⟩ : MethodName)) ∈ dt_W0 := dt_in (wq_l3 (List.mem_of_getElem? (i := 96) (by decide +kernel))) rfl
theorem wq_3_98 : (Cond.instanceMethod (⟨"DrawnTalks$Mixer", "isSuch", "(II)Z"⟩ : MethodName)) ∈ dt_W0 := dt_in (wq_l3 (List.mem_of_getElem? (i := 98) (by decide +kernel))) rfl
theorem wq_3_99 : (Cond.code (⟨"DrawnTalks$Mixer", "isSuch", "(II)Z"⟩ : MethodName) prog_3_method_8_code (3) (Option.some Jvm.ClassFile.FieldType.boolean)) ∈ dt_W0 := dt_in (wq_l3 (List.mem_of_getElem? (i := 99) (by decide +kernel))) rfl
theorem wq_3_100 : (Cond.methodLink "DrawnTalks$Mixer" (43) (⟨"DrawnTalks$Player", "ends", "()Z"⟩ : MethodName)) ∈ dt_W0 := dt_in (wq_l3 (List.mem_of_getElem? (i := 100) (by decide +kernel))) rfl
theorem wq_3_101 : (Cond.methodLink "DrawnTalks$Mixer" (40) (⟨"DrawnTalks$Mixer", "isOfOne", "(I)Z"⟩ : MethodName)) ∈ dt_W0 := dt_in (wq_l3 (List.mem_of_getElem? (i := 101) (by decide +kernel))) rfl
theorem wq_3_103 : (Cond.instanceMethod (⟨"DrawnTalks$Mixer", "isOfOne", "(I)Z"⟩ : MethodName)) ∈ dt_W0 := dt_in (wq_l3 (List.mem_of_getElem? (i := 103) (by decide +kernel))) rfl
theorem wq_3_104 : (Cond.code (⟨"DrawnTalks$Mixer", "isOfOne", "(I)Z"⟩ : MethodName) prog_3_method_9_code (3) (Option.some Jvm.ClassFile.FieldType.boolean)) ∈ dt_W0 := dt_in (wq_l3 (List.mem_of_getElem? (i := 104) (by decide +kernel))) rfl
theorem wq_3_105 : (Cond.methodLink "DrawnTalks$Mixer" (67) (⟨"DrawnTalks$Mixer", "isOf", "(II)Z"⟩ : MethodName)) ∈ dt_W0 := dt_in (wq_l3 (List.mem_of_getElem? (i := 105) (by decide +kernel))) rfl
theorem wq_3_107 : (Cond.instanceMethod (⟨"DrawnTalks$Mixer", "isOf", "(II)Z"⟩ : MethodName)) ∈ dt_W0 := dt_in (wq_l3 (List.mem_of_getElem? (i := 107) (by decide +kernel))) rfl
theorem wq_3_108 : (Cond.code (⟨"DrawnTalks$Mixer", "isOf", "(II)Z"⟩ : MethodName) prog_3_method_10_code (4) (Option.some Jvm.ClassFile.FieldType.boolean)) ∈ dt_W0 := dt_in (wq_l3 (List.mem_of_getElem? (i := 108) (by decide +kernel))) rfl
theorem wq_3_109 : (Cond.methodLink "DrawnTalksLaw" (86) (⟨"DrawnTalks", "fresh", "(II)I"⟩ : MethodName)) ∈ dt_W0 := dt_in (wq_l3 (List.mem_of_getElem? (i := 109) (by decide +kernel))) rfl
theorem wq_3_110 : (Cond.instanceMethod (⟨"DrawnTalks", "fresh", "(II)I"⟩ : MethodName)) ∈ dt_W0 := dt_in (wq_l3 (List.mem_of_getElem? (i := 110) (by decide +kernel))) rfl
theorem wq_3_111 : (Cond.selects "DrawnTalks" (⟨"DrawnTalks", "fresh", "(II)I"⟩ : MethodName) (⟨"DrawnTalks", "fresh", "(II)I"⟩ : MethodName)) ∈ dt_W0 := dt_in (wq_l3 (List.mem_of_getElem? (i := 111) (by decide +kernel))) rfl
theorem wq_3_112 : (Cond.code (⟨"DrawnTalks", "fresh", "(II)I"⟩ : MethodName) prog_1_method_18_code (3) (Option.some Jvm.ClassFile.FieldType.int)) ∈ dt_W0 := dt_in (wq_l3 (List.mem_of_getElem? (i := 112) (by decide +kernel))) rfl
theorem wq_3_113 : (Cond.methodLink "DrawnTalks" (192) (⟨"DrawnTalks$Mixer", "newAt", "(II)I"⟩ : MethodName)) ∈ dt_W0 := dt_in (wq_l3 (List.mem_of_getElem? (i := 113) (by decide +kernel))) rfl
theorem wq_3_114 : (Cond.instanceMethod (⟨"DrawnTalks$Mixer", "newAt", "(II)I"⟩ : MethodName)) ∈ dt_W0 := dt_in (wq_l3 (List.mem_of_getElem? (i := 114) (by decide +kernel))) rfl
theorem wq_3_115 : (Cond.selects "DrawnTalks$Mixer" (⟨"DrawnTalks$Mixer", "newAt", "(II)I"⟩ : MethodName) (⟨"DrawnTalks$Mixer", "newAt", "(II)I"⟩ : MethodName)) ∈ dt_W0 := dt_in (wq_l3 (List.mem_of_getElem? (i := 115) (by decide +kernel))) rfl
theorem wq_3_116 : (Cond.code (⟨"DrawnTalks$Mixer", "newAt", "(II)I"⟩ : MethodName) prog_3_method_3_code (5) (Option.some Jvm.ClassFile.FieldType.int)) ∈ dt_W0 := dt_in (wq_l3 (List.mem_of_getElem? (i := 116) (by decide +kernel))) rfl
theorem wq_3_117 : (Cond.methodLink "DrawnTalksLaw" (90) (⟨"DrawnTalks", "take", "(II)I"⟩ : MethodName)) ∈ dt_W0 := dt_in (wq_l3 (List.mem_of_getElem? (i := 117) (by decide +kernel))) rfl
theorem wq_3_118 : (Cond.instanceMethod (⟨"DrawnTalks", "take", "(II)I"⟩ : MethodName)) ∈ dt_W0 := dt_in (wq_l3 (List.mem_of_getElem? (i := 118) (by decide +kernel))) rfl
theorem wq_3_119 : (Cond.selects "DrawnTalks" (⟨"DrawnTalks", "take", "(II)I"⟩ : MethodName) (⟨"DrawnTalks", "take", "(II)I"⟩ : MethodName)) ∈ dt_W0 := dt_in (wq_l3 (List.mem_of_getElem? (i := 119) (by decide +kernel))) rfl
theorem wq_3_120 : (Cond.code (⟨"DrawnTalks", "take", "(II)I"⟩ : MethodName) prog_1_method_19_code (3) (Option.some Jvm.ClassFile.FieldType.int)) ∈ dt_W0 := dt_in (wq_l3 (List.mem_of_getElem? (i := 120) (by decide +kernel))) rfl
theorem wq_3_121 : (Cond.methodLink "DrawnTalks" (195) (⟨"DrawnTalks$Player", "copyInto", "(LDrawnTalks$Talk;)V"⟩ : MethodName)) ∈ dt_W0 := dt_in (wq_l3 (List.mem_of_getElem? (i := 121) (by decide +kernel))) rfl
theorem wq_3_122 : (Cond.instanceMethod (⟨"DrawnTalks$Player", "copyInto", "(LDrawnTalks$Talk;)V"⟩ : MethodName)) ∈ dt_W0 := dt_in (wq_l3 (List.mem_of_getElem? (i := 122) (by decide +kernel))) rfl
theorem wq_3_123 : (Cond.selects "DrawnTalks$Player" (⟨"DrawnTalks$Player", "copyInto", "(LDrawnTalks$Talk;)V"⟩ : MethodName) (⟨"DrawnTalks$Player", "copyInto", "(LDrawnTalks$Talk;)V"⟩ : MethodName)) ∈ dt_W0 := dt_in (wq_l3 (List.mem_of_getElem? (i := 123) (by decide +kernel))) rfl
theorem wq_3_124 : (Cond.code (⟨"DrawnTalks$Player", "copyInto", "(LDrawnTalks$Talk;)V"⟩ : MethodName) prog_4_method_4_code (4) (Option.none : Option Jvm.ClassFile.FieldType)) ∈ dt_W0 := dt_in (wq_l3 (List.mem_of_getElem? (i := 124) (by decide +kernel))) rfl
theorem wq_3_125 : (Cond.methodLink "DrawnTalks$Player" (58) (⟨"DrawnTalks$Talk", "empty", "()V"⟩ : MethodName)) ∈ dt_W0 := dt_in (wq_l3 (List.mem_of_getElem? (i := 125) (by decide +kernel))) rfl
theorem wq_3_126 : (Cond.methodLink "DrawnTalks$Player" (67) (⟨"DrawnTalks$Talk", "addCopy", "(LDrawnTalks$Talk;I)V"⟩ : MethodName)) ∈ dt_W0 := dt_in (wq_l3 (List.mem_of_getElem? (i := 126) (by decide +kernel))) rfl
theorem wq_3_127 : (Cond.methodLink "DrawnTalksLaw" (94) (⟨"DrawnTalks", "count", "(I)I"⟩ : MethodName)) ∈ dt_W0 := dt_in (wq_l3 (List.mem_of_getElem? (i := 127) (by decide +kernel))) rfl
theorem wq_3_128 : (Cond.instanceMethod (⟨"DrawnTalks", "count", "(I)I"⟩ : MethodName)) ∈ dt_W0 := dt_in (wq_l3 (List.mem_of_getElem? (i := 128) (by decide +kernel))) rfl
theorem wq_3_129 : (Cond.selects "DrawnTalks" (⟨"DrawnTalks", "count", "(I)I"⟩ : MethodName) (⟨"DrawnTalks", "count", "(I)I"⟩ : MethodName)) ∈ dt_W0 := dt_in (wq_l3 (List.mem_of_getElem? (i := 129) (by decide +kernel))) rfl
theorem wq_3_130 : (Cond.code (⟨"DrawnTalks", "count", "(I)I"⟩ : MethodName) prog_1_method_20_code (4) (Option.some Jvm.ClassFile.FieldType.int)) ∈ dt_W0 := dt_in (wq_l3 (List.mem_of_getElem? (i := 130) (by decide +kernel))) rfl
theorem wq_3_131 : (Cond.classLink "DrawnTalksLaw" (10) "DrawnTalksModel") ∈ dt_W0 := dt_in (wq_l3 (List.mem_of_getElem? (i := 131) (by decide +kernel))) rfl
theorem wq_3_132 : (Cond.instantiable "DrawnTalksModel" (35)) ∈ dt_W0 := dt_in (wq_l3 (List.mem_of_getElem? (i := 132) (by decide +kernel))) rfl
theorem wq_3_133 : (Cond.methodLink "DrawnTalksLaw" (12) (⟨"DrawnTalksModel", "<init>", "()V"⟩ : MethodName)) ∈ dt_W0 := dt_in (wq_l3 (List.mem_of_getElem? (i := 133) (by decide +kernel))) rfl
theorem wq_3_134 : (Cond.instanceMethod (⟨"DrawnTalksModel", "<init>", "()V"⟩ : MethodName)) ∈ dt_W0 := dt_in (wq_l3 (List.mem_of_getElem? (i := 134) (by decide +kernel))) rfl
theorem wq_3_135 : (Cond.code (⟨"DrawnTalksModel", "<init>", "()V"⟩ : MethodName) prog_9_method_1_code (1) (Option.none : Option Jvm.ClassFile.FieldType)) ∈ dt_W0 := dt_in (wq_l3 (List.mem_of_getElem? (i := 135) (by decide +kernel))) rfl
theorem wq_3_136 : (Cond.methodLink "DrawnTalksModel" (1) (⟨"java/lang/Object", "<init>", "()V"⟩ : MethodName)) ∈ dt_W0 := dt_in (wq_l3 (List.mem_of_getElem? (i := 136) (by decide +kernel))) rfl
theorem wq_3_137 : (Cond.fieldLink "DrawnTalksModel" (7) "DrawnTalksModel" "events" "[I") ∈ dt_W0 := dt_in (wq_l3 (List.mem_of_getElem? (i := 137) (by decide +kernel))) rfl
theorem wq_3_138 : (Cond.fieldLink "DrawnTalksModel" (13) "DrawnTalksModel" "isTake" "[Z") ∈ dt_W0 := dt_in (wq_l3 (List.mem_of_getElem? (i := 138) (by decide +kernel))) rfl
theorem wq_3_139 : (Cond.fieldLink "DrawnTalksModel" (17) "DrawnTalksModel" "partOf" "[I") ∈ dt_W0 := dt_in (wq_l3 (List.mem_of_getElem? (i := 139) (by decide +kernel))) rfl
theorem wq_3_140 : (Cond.fieldLink "DrawnTalksModel" (20) "DrawnTalksModel" "otherOf" "[I") ∈ dt_W0 := dt_in (wq_l3 (List.mem_of_getElem? (i := 140) (by decide +kernel))) rfl
theorem wq_3_141 : (Cond.fieldLink "DrawnTalksModel" (23) "DrawnTalksModel" "nameOf" "[I") ∈ dt_W0 := dt_in (wq_l3 (List.mem_of_getElem? (i := 141) (by decide +kernel))) rfl
theorem wq_3_142 : (Cond.fieldLink "DrawnTalksModel" (26) "DrawnTalksModel" "mateOf" "[I") ∈ dt_W0 := dt_in (wq_l3 (List.mem_of_getElem? (i := 142) (by decide +kernel))) rfl
theorem wq_3_143 : (Cond.fieldLink "DrawnTalksModel" (29) "DrawnTalksModel" "lineSize" "[I") ∈ dt_W0 := dt_in (wq_l3 (List.mem_of_getElem? (i := 143) (by decide +kernel))) rfl
theorem wq_3_144 : (Cond.fieldLink "DrawnTalksModel" (32) "DrawnTalksModel" "lineAt" "[I") ∈ dt_W0 := dt_in (wq_l3 (List.mem_of_getElem? (i := 144) (by decide +kernel))) rfl
theorem wq_3_145 : (Cond.fieldLink "DrawnTalksModel" (89) "DrawnTalksModel" "bytes" "I") ∈ dt_W0 := dt_in (wq_l3 (List.mem_of_getElem? (i := 145) (by decide +kernel))) rfl
theorem wq_3_146 : (Cond.fieldLink "DrawnTalksModel" (35) "DrawnTalksModel" "text" "[I") ∈ dt_W0 := dt_in (wq_l3 (List.mem_of_getElem? (i := 146) (by decide +kernel))) rfl
theorem wq_3_147 : (Cond.fieldLink "DrawnTalksModel" (126) "DrawnTalksModel" "newMany" "I") ∈ dt_W0 := dt_in (wq_l3 (List.mem_of_getElem? (i := 147) (by decide +kernel))) rfl
theorem wq_3_148 : (Cond.fieldLink "DrawnTalksModel" (129) "DrawnTalksModel" "newSends" "I") ∈ dt_W0 := dt_in (wq_l3 (List.mem_of_getElem? (i := 148) (by decide +kernel))) rfl
theorem wq_3_149 : (Cond.fieldLink "DrawnTalksModel" (132) "DrawnTalksModel" "newOpen" "I") ∈ dt_W0 := dt_in (wq_l3 (List.mem_of_getElem? (i := 149) (by decide +kernel))) rfl
theorem wq_3_150 : (Cond.fieldLink "DrawnTalksModel" (38) "DrawnTalksModel" "newTake" "[Z") ∈ dt_W0 := dt_in (wq_l3 (List.mem_of_getElem? (i := 150) (by decide +kernel))) rfl
theorem wq_3_151 : (Cond.fieldLink "DrawnTalksModel" (41) "DrawnTalksModel" "newPart" "[I") ∈ dt_W0 := dt_in (wq_l3 (List.mem_of_getElem? (i := 151) (by decide +kernel))) rfl
theorem wq_3_152 : (Cond.fieldLink "DrawnTalksModel" (44) "DrawnTalksModel" "newOther" "[I") ∈ dt_W0 := dt_in (wq_l3 (List.mem_of_getElem? (i := 152) (by decide +kernel))) rfl
theorem wq_3_153 : (Cond.fieldLink "DrawnTalksModel" (47) "DrawnTalksModel" "newName" "[I") ∈ dt_W0 := dt_in (wq_l3 (List.mem_of_getElem? (i := 153) (by decide +kernel))) rfl
theorem wq_3_154 : (Cond.fieldLink "DrawnTalksModel" (50) "DrawnTalksModel" "newMate" "[I") ∈ dt_W0 := dt_in (wq_l3 (List.mem_of_getElem? (i := 154) (by decide +kernel))) rfl
theorem wq_3_155 : (Cond.fieldLink "DrawnTalksModel" (99) "DrawnTalksModel" "readAt" "I") ∈ dt_W0 := dt_in (wq_l3 (List.mem_of_getElem? (i := 155) (by decide +kernel))) rfl
theorem wq_3_156 : (Cond.fieldLink "DrawnTalksModel" (102) "DrawnTalksModel" "tokenAt" "I") ∈ dt_W0 := dt_in (wq_l3 (List.mem_of_getElem? (i := 156) (by decide +kernel))) rfl
theorem wq_3_157 : (Cond.fieldLink "DrawnTalksModel" (105) "DrawnTalksModel" "token" "I") ∈ dt_W0 := dt_in (wq_l3 (List.mem_of_getElem? (i := 157) (by decide +kernel))) rfl
theorem wq_3_158 : (Cond.fieldLink "DrawnTalksModel" (53) "DrawnTalksModel" "ahead" "[Z") ∈ dt_W0 := dt_in (wq_l3 (List.mem_of_getElem? (i := 158) (by decide +kernel))) rfl
theorem wq_3_159 : (Cond.fieldLink "DrawnTalksModel" (56) "DrawnTalksModel" "stride" "[I") ∈ dt_W0 := dt_in (wq_l3 (List.mem_of_getElem? (i := 159) (by decide +kernel))) rfl
theorem wq_3_160 : (Cond.fieldLink "DrawnTalksModel" (59) "DrawnTalksModel" "ordersFrom" "[J") ∈ dt_W0 := dt_in (wq_l3 (List.mem_of_getElem? (i := 160) (by decide +kernel))) rfl
theorem wq_3_161 : (Cond.fieldLink "DrawnTalksModel" (63) "DrawnTalksModel" "leastFrom" "[I") ∈ dt_W0 := dt_in (wq_l3 (List.mem_of_getElem? (i := 161) (by decide +kernel))) rfl
theorem wq_3_162 : (Cond.fieldLink "DrawnTalksModel" (210) "DrawnTalksModel" "manyMoments" "I") ∈ dt_W0 := dt_in (wq_l3 (List.mem_of_getElem? (i := 162) (by decide +kernel))) rfl
theorem wq_3_163 : (Cond.fieldLink "DrawnTalksModel" (213) "DrawnTalksModel" "mostUnder" "I") ∈ dt_W0 := dt_in (wq_l3 (List.mem_of_getElem? (i := 163) (by decide +kernel))) rfl
theorem wq_3_164 : (Cond.fieldLink "DrawnTalksModel" (200) "DrawnTalksModel" "momentsOf" "I") ∈ dt_W0 := dt_in (wq_l3 (List.mem_of_getElem? (i := 164) (by decide +kernel))) rfl
theorem wq_3_165 : (Cond.fieldLink "DrawnTalksModel" (66) "DrawnTalksModel" "sentName" "[I") ∈ dt_W0 := dt_in (wq_l3 (List.mem_of_getElem? (i := 165) (by decide +kernel))) rfl
theorem wq_3_166 : (Cond.fieldLink "DrawnTalksModel" (69) "DrawnTalksModel" "sent" "[I") ∈ dt_W0 := dt_in (wq_l3 (List.mem_of_getElem? (i := 166) (by decide +kernel))) rfl
theorem wq_3_167 : (Cond.fieldLink "DrawnTalksModel" (72) "DrawnTalksModel" "taken" "[I") ∈ dt_W0 := dt_in (wq_l3 (List.mem_of_getElem? (i := 167) (by decide +kernel))) rfl
theorem wq_3_168 : (Cond.fieldLink "DrawnTalksModel" (75) "DrawnTalksModel" "reached" "[I") ∈ dt_W0 := dt_in (wq_l3 (List.mem_of_getElem? (i := 168) (by decide +kernel))) rfl
theorem wq_3_169 : (Cond.fieldLink "DrawnTalksModel" (240) "DrawnTalksModel" "doneMany" "I") ∈ dt_W0 := dt_in (wq_l3 (List.mem_of_getElem? (i := 169) (by decide +kernel))) rfl
theorem wq_3_170 : (Cond.fieldLink "DrawnTalksModel" (237) "DrawnTalksModel" "doneSends" "I") ∈ dt_W0 := dt_in (wq_l3 (List.mem_of_getElem? (i := 170) (by decide +kernel))) rfl
theorem wq_3_171 : (Cond.fieldLink "DrawnTalksModel" (78) "DrawnTalksModel" "doneAt" "[I") ∈ dt_W0 := dt_in (wq_l3 (List.mem_of_getElem? (i := 171) (by decide +kernel))) rfl
theorem wq_3_172 : (Cond.laysFinal "DrawnTalksModel" "DrawnTalksModel" "events" "[I") ∈ dt_W0 := dt_in (wq_l3 (List.mem_of_getElem? (i := 172) (by decide +kernel))) rfl
theorem wq_3_174 : (Cond.laysFinal "DrawnTalksModel" "DrawnTalksModel" "isTake" "[Z") ∈ dt_W0 := dt_in (wq_l3 (List.mem_of_getElem? (i := 174) (by decide +kernel))) rfl
theorem wq_3_176 : (Cond.laysFinal "DrawnTalksModel" "DrawnTalksModel" "partOf" "[I") ∈ dt_W0 := dt_in (wq_l3 (List.mem_of_getElem? (i := 176) (by decide +kernel))) rfl
theorem wq_3_178 : (Cond.laysFinal "DrawnTalksModel" "DrawnTalksModel" "otherOf" "[I") ∈ dt_W0 := dt_in (wq_l3 (List.mem_of_getElem? (i := 178) (by decide +kernel))) rfl
theorem wq_3_180 : (Cond.laysFinal "DrawnTalksModel" "DrawnTalksModel" "nameOf" "[I") ∈ dt_W0 := dt_in (wq_l3 (List.mem_of_getElem? (i := 180) (by decide +kernel))) rfl
theorem wq_3_182 : (Cond.laysFinal "DrawnTalksModel" "DrawnTalksModel" "mateOf" "[I") ∈ dt_W0 := dt_in (wq_l3 (List.mem_of_getElem? (i := 182) (by decide +kernel))) rfl
theorem wq_3_184 : (Cond.laysFinal "DrawnTalksModel" "DrawnTalksModel" "lineSize" "[I") ∈ dt_W0 := dt_in (wq_l3 (List.mem_of_getElem? (i := 184) (by decide +kernel))) rfl
theorem wq_3_186 : (Cond.laysFinal "DrawnTalksModel" "DrawnTalksModel" "lineAt" "[I") ∈ dt_W0 := dt_in (wq_l3 (List.mem_of_getElem? (i := 186) (by decide +kernel))) rfl
theorem wq_3_188 : (Cond.lays "DrawnTalksModel" "DrawnTalksModel" "bytes" "I") ∈ dt_W0 := dt_in (wq_l3 (List.mem_of_getElem? (i := 188) (by decide +kernel))) rfl
theorem wq_3_190 : (Cond.laysFinal "DrawnTalksModel" "DrawnTalksModel" "text" "[I") ∈ dt_W0 := dt_in (wq_l3 (List.mem_of_getElem? (i := 190) (by decide +kernel))) rfl
theorem wq_3_192 : (Cond.lays "DrawnTalksModel" "DrawnTalksModel" "newMany" "I") ∈ dt_W0 := dt_in (wq_l3 (List.mem_of_getElem? (i := 192) (by decide +kernel))) rfl
theorem wq_3_194 : (Cond.lays "DrawnTalksModel" "DrawnTalksModel" "newSends" "I") ∈ dt_W0 := dt_in (wq_l3 (List.mem_of_getElem? (i := 194) (by decide +kernel))) rfl
theorem wq_3_196 : (Cond.lays "DrawnTalksModel" "DrawnTalksModel" "newOpen" "I") ∈ dt_W0 := dt_in (wq_l3 (List.mem_of_getElem? (i := 196) (by decide +kernel))) rfl
theorem wq_3_198 : (Cond.laysFinal "DrawnTalksModel" "DrawnTalksModel" "newTake" "[Z") ∈ dt_W0 := dt_in (wq_l3 (List.mem_of_getElem? (i := 198) (by decide +kernel))) rfl
theorem wq_3_200 : (Cond.laysFinal "DrawnTalksModel" "DrawnTalksModel" "newPart" "[I") ∈ dt_W0 := dt_in (wq_l3 (List.mem_of_getElem? (i := 200) (by decide +kernel))) rfl
theorem wq_3_202 : (Cond.laysFinal "DrawnTalksModel" "DrawnTalksModel" "newOther" "[I") ∈ dt_W0 := dt_in (wq_l3 (List.mem_of_getElem? (i := 202) (by decide +kernel))) rfl
theorem wq_3_204 : (Cond.laysFinal "DrawnTalksModel" "DrawnTalksModel" "newName" "[I") ∈ dt_W0 := dt_in (wq_l3 (List.mem_of_getElem? (i := 204) (by decide +kernel))) rfl
theorem wq_3_206 : (Cond.laysFinal "DrawnTalksModel" "DrawnTalksModel" "newMate" "[I") ∈ dt_W0 := dt_in (wq_l3 (List.mem_of_getElem? (i := 206) (by decide +kernel))) rfl
theorem wq_3_208 : (Cond.lays "DrawnTalksModel" "DrawnTalksModel" "readAt" "I") ∈ dt_W0 := dt_in (wq_l3 (List.mem_of_getElem? (i := 208) (by decide +kernel))) rfl
theorem wq_3_210 : (Cond.lays "DrawnTalksModel" "DrawnTalksModel" "tokenAt" "I") ∈ dt_W0 := dt_in (wq_l3 (List.mem_of_getElem? (i := 210) (by decide +kernel))) rfl
theorem wq_3_212 : (Cond.lays "DrawnTalksModel" "DrawnTalksModel" "token" "I") ∈ dt_W0 := dt_in (wq_l3 (List.mem_of_getElem? (i := 212) (by decide +kernel))) rfl
theorem wq_3_214 : (Cond.laysFinal "DrawnTalksModel" "DrawnTalksModel" "ahead" "[Z") ∈ dt_W0 := dt_in (wq_l3 (List.mem_of_getElem? (i := 214) (by decide +kernel))) rfl
theorem wq_3_216 : (Cond.laysFinal "DrawnTalksModel" "DrawnTalksModel" "stride" "[I") ∈ dt_W0 := dt_in (wq_l3 (List.mem_of_getElem? (i := 216) (by decide +kernel))) rfl
theorem wq_3_218 : (Cond.laysFinal "DrawnTalksModel" "DrawnTalksModel" "ordersFrom" "[J") ∈ dt_W0 := dt_in (wq_l3 (List.mem_of_getElem? (i := 218) (by decide +kernel))) rfl
theorem wq_3_220 : (Cond.laysFinal "DrawnTalksModel" "DrawnTalksModel" "leastFrom" "[I") ∈ dt_W0 := dt_in (wq_l3 (List.mem_of_getElem? (i := 220) (by decide +kernel))) rfl
theorem wq_3_222 : (Cond.lays "DrawnTalksModel" "DrawnTalksModel" "manyMoments" "I") ∈ dt_W0 := dt_in (wq_l3 (List.mem_of_getElem? (i := 222) (by decide +kernel))) rfl
theorem wq_3_224 : (Cond.lays "DrawnTalksModel" "DrawnTalksModel" "mostUnder" "I") ∈ dt_W0 := dt_in (wq_l3 (List.mem_of_getElem? (i := 224) (by decide +kernel))) rfl
theorem wq_3_226 : (Cond.lays "DrawnTalksModel" "DrawnTalksModel" "momentsOf" "I") ∈ dt_W0 := dt_in (wq_l3 (List.mem_of_getElem? (i := 226) (by decide +kernel))) rfl
theorem wq_3_228 : (Cond.laysFinal "DrawnTalksModel" "DrawnTalksModel" "sentName" "[I") ∈ dt_W0 := dt_in (wq_l3 (List.mem_of_getElem? (i := 228) (by decide +kernel))) rfl
theorem wq_3_230 : (Cond.laysFinal "DrawnTalksModel" "DrawnTalksModel" "sent" "[I") ∈ dt_W0 := dt_in (wq_l3 (List.mem_of_getElem? (i := 230) (by decide +kernel))) rfl
theorem wq_3_232 : (Cond.laysFinal "DrawnTalksModel" "DrawnTalksModel" "taken" "[I") ∈ dt_W0 := dt_in (wq_l3 (List.mem_of_getElem? (i := 232) (by decide +kernel))) rfl
theorem wq_3_234 : (Cond.laysFinal "DrawnTalksModel" "DrawnTalksModel" "reached" "[I") ∈ dt_W0 := dt_in (wq_l3 (List.mem_of_getElem? (i := 234) (by decide +kernel))) rfl
theorem wq_3_236 : (Cond.lays "DrawnTalksModel" "DrawnTalksModel" "doneMany" "I") ∈ dt_W0 := dt_in (wq_l3 (List.mem_of_getElem? (i := 236) (by decide +kernel))) rfl
theorem wq_3_238 : (Cond.lays "DrawnTalksModel" "DrawnTalksModel" "doneSends" "I") ∈ dt_W0 := dt_in (wq_l3 (List.mem_of_getElem? (i := 238) (by decide +kernel))) rfl
theorem wq_4_0 : (Cond.laysFinal "DrawnTalksModel" "DrawnTalksModel" "doneAt" "[I") ∈ dt_W0 := dt_in (wq_l4 (List.mem_of_getElem? (i := 0) (by decide +kernel))) rfl
theorem wq_4_3 : (Cond.methodLink "DrawnTalksLaw" (19) (⟨"DrawnTalksModel", "type", "(JI)I"⟩ : MethodName)) ∈ dt_W0 := dt_in (wq_l4 (List.mem_of_getElem? (i := 3) (by decide +kernel))) rfl
theorem wq_4_4 : (Cond.instanceMethod (⟨"DrawnTalksModel", "type", "(JI)I"⟩ : MethodName)) ∈ dt_W0 := dt_in (wq_l4 (List.mem_of_getElem? (i := 4) (by decide +kernel))) rfl
theorem wq_4_5 : (Cond.selects "DrawnTalksModel" (⟨"DrawnTalksModel", "type", "(JI)I"⟩ : MethodName) (⟨"DrawnTalksModel", "type", "(JI)I"⟩ : MethodName)) ∈ dt_W0 := dt_in (wq_l4 (List.mem_of_getElem? (i := 5) (by decide +kernel))) rfl
theorem wq_4_6 : (Cond.code (⟨"DrawnTalksModel", "type", "(JI)I"⟩ : MethodName) prog_9_method_5_code (5) (Option.some Jvm.ClassFile.FieldType.int)) ∈ dt_W0 := dt_in (wq_l4 (List.mem_of_getElem? (i := 6) (by decide +kernel))) rfl
theorem wq_4_7 : (Cond.constantLong "DrawnTalksModel" (87) (8 : Int64)) ∈ dt_W0 := dt_in (wq_l4 (List.mem_of_getElem? (i := 7) (by decide +kernel))) rfl
theorem wq_4_8 : (Cond.methodLink "DrawnTalksModel" (83) (⟨"DrawnTalksModel", "in", "(JJJ)Z"⟩ : MethodName)) ∈ dt_W0 := dt_in (wq_l4 (List.mem_of_getElem? (i := 8) (by decide +kernel))) rfl
theorem wq_4_9 : (Cond.static (⟨"DrawnTalksModel", "in", "(JJJ)Z"⟩ : MethodName)) ∈ dt_W0 := dt_in (wq_l4 (List.mem_of_getElem? (i := 9) (by decide +kernel))) rfl
theorem wq_4_10 : (Cond.code (⟨"DrawnTalksModel", "in", "(JJJ)Z"⟩ : MethodName) prog_9_method_2_code (6) (Option.some Jvm.ClassFile.FieldType.boolean)) ∈ dt_W0 := dt_in (wq_l4 (List.mem_of_getElem? (i := 10) (by decide +kernel))) rfl
theorem wq_4_11 : (Cond.constantLong "DrawnTalksModel" (93) (255 : Int64)) ∈ dt_W0 := dt_in (wq_l4 (List.mem_of_getElem? (i := 11) (by decide +kernel))) rfl
theorem wq_4_12 : (Cond.methodLink "DrawnTalksLaw" (24) (⟨"DrawnTalksModel", "clear", "()I"⟩ : MethodName)) ∈ dt_W0 := dt_in (wq_l4 (List.mem_of_getElem? (i := 12) (by decide +kernel))) rfl
theorem wq_4_13 : (Cond.instanceMethod (⟨"DrawnTalksModel", "clear", "()I"⟩ : MethodName)) ∈ dt_W0 := dt_in (wq_l4 (List.mem_of_getElem? (i := 13) (by decide +kernel))) rfl
theorem wq_4_14 : (Cond.selects "DrawnTalksModel" (⟨"DrawnTalksModel", "clear", "()I"⟩ : MethodName) (⟨"DrawnTalksModel", "clear", "()I"⟩ : MethodName)) ∈ dt_W0 := dt_in (wq_l4 (List.mem_of_getElem? (i := 14) (by decide +kernel))) rfl
theorem wq_4_15 : (Cond.code (⟨"DrawnTalksModel", "clear", "()I"⟩ : MethodName) prog_9_method_6_code (2) (Option.some Jvm.ClassFile.FieldType.int)) ∈ dt_W0 := dt_in (wq_l4 (List.mem_of_getElem? (i := 15) (by decide +kernel))) rfl
theorem wq_4_16 : (Cond.methodLink "DrawnTalksLaw" (29) (⟨"DrawnTalksModel", "talk", "(I)I"⟩ : MethodName)) ∈ dt_W0 := dt_in (wq_l4 (List.mem_of_getElem? (i := 16) (by decide +kernel))) rfl
theorem wq_4_17 : (Cond.instanceMethod (⟨"DrawnTalksModel", "talk", "(I)I"⟩ : MethodName)) ∈ dt_W0 := dt_in (wq_l4 (List.mem_of_getElem? (i := 17) (by decide +kernel))) rfl
theorem wq_4_18 : (Cond.selects "DrawnTalksModel" (⟨"DrawnTalksModel", "talk", "(I)I"⟩ : MethodName) (⟨"DrawnTalksModel", "talk", "(I)I"⟩ : MethodName)) ∈ dt_W0 := dt_in (wq_l4 (List.mem_of_getElem? (i := 18) (by decide +kernel))) rfl
theorem wq_4_19 : (Cond.code (⟨"DrawnTalksModel", "talk", "(I)I"⟩ : MethodName) prog_9_method_15_code (3) (Option.some Jvm.ClassFile.FieldType.int)) ∈ dt_W0 := dt_in (wq_l4 (List.mem_of_getElem? (i := 19) (by decide +kernel))) rfl
theorem wq_4_20 : (Cond.methodLink "DrawnTalksModel" (155) (⟨"DrawnTalksModel", "noTalk", "(I)Z"⟩ : MethodName)) ∈ dt_W0 := dt_in (wq_l4 (List.mem_of_getElem? (i := 20) (by decide +kernel))) rfl
theorem wq_4_21 : (Cond.static (⟨"DrawnTalksModel", "noTalk", "(I)Z"⟩ : MethodName)) ∈ dt_W0 := dt_in (wq_l4 (List.mem_of_getElem? (i := 21) (by decide +kernel))) rfl
theorem wq_4_22 : (Cond.code (⟨"DrawnTalksModel", "noTalk", "(I)Z"⟩ : MethodName) prog_9_method_4_code (1) (Option.some Jvm.ClassFile.FieldType.boolean)) ∈ dt_W0 := dt_in (wq_l4 (List.mem_of_getElem? (i := 22) (by decide +kernel))) rfl
theorem wq_4_23 : (Cond.constantLong "DrawnTalksModel" (81) (3 : Int64)) ∈ dt_W0 := dt_in (wq_l4 (List.mem_of_getElem? (i := 23) (by decide +kernel))) rfl
theorem wq_4_24 : (Cond.methodLink "DrawnTalksModel" (159) (⟨"DrawnTalksModel", "readTalk", "()I"⟩ : MethodName)) ∈ dt_W0 := dt_in (wq_l4 (List.mem_of_getElem? (i := 24) (by decide +kernel))) rfl
theorem wq_4_26 : (Cond.instanceMethod (⟨"DrawnTalksModel", "readTalk", "()I"⟩ : MethodName)) ∈ dt_W0 := dt_in (wq_l4 (List.mem_of_getElem? (i := 26) (by decide +kernel))) rfl
theorem wq_4_27 : (Cond.code (⟨"DrawnTalksModel", "readTalk", "()I"⟩ : MethodName) prog_9_method_13_code (2) (Option.some Jvm.ClassFile.FieldType.int)) ∈ dt_W0 := dt_in (wq_l4 (List.mem_of_getElem? (i := 27) (by decide +kernel))) rfl
theorem wq_4_28 : (Cond.methodLink "DrawnTalksModel" (148) (⟨"DrawnTalksModel", "beginTalk", "()V"⟩ : MethodName)) ∈ dt_W0 := dt_in (wq_l4 (List.mem_of_getElem? (i := 28) (by decide +kernel))) rfl
theorem wq_4_30 : (Cond.instanceMethod (⟨"DrawnTalksModel", "beginTalk", "()V"⟩ : MethodName)) ∈ dt_W0 := dt_in (wq_l4 (List.mem_of_getElem? (i := 30) (by decide +kernel))) rfl
theorem wq_4_31 : (Cond.code (⟨"DrawnTalksModel", "beginTalk", "()V"⟩ : MethodName) prog_9_method_11_code (1) (Option.none : Option Jvm.ClassFile.FieldType)) ∈ dt_W0 := dt_in (wq_l4 (List.mem_of_getElem? (i := 31) (by decide +kernel))) rfl
theorem wq_4_32 : (Cond.methodLink "DrawnTalksModel" (135) (⟨"DrawnTalksModel", "readToken", "()V"⟩ : MethodName)) ∈ dt_W0 := dt_in (wq_l4 (List.mem_of_getElem? (i := 32) (by decide +kernel))) rfl
theorem wq_4_34 : (Cond.instanceMethod (⟨"DrawnTalksModel", "readToken", "()V"⟩ : MethodName)) ∈ dt_W0 := dt_in (wq_l4 (List.mem_of_getElem? (i := 34) (by decide +kernel))) rfl
theorem wq_4_35 : (Cond.code (⟨"DrawnTalksModel", "readToken", "()V"⟩ : MethodName) prog_9_method_8_code (4) (Option.none : Option Jvm.ClassFile.FieldType)) ∈ dt_W0 := dt_in (wq_l4 (List.mem_of_getElem? (i := 35) (by decide +kernel))) rfl
theorem wq_4_36 : (Cond.constantLong "DrawnTalksModel" (108) (65 : Int64)) ∈ dt_W0 := dt_in (wq_l4 (List.mem_of_getElem? (i := 36) (by decide +kernel))) rfl
theorem wq_4_37 : (Cond.constantLong "DrawnTalksModel" (110) (68 : Int64)) ∈ dt_W0 := dt_in (wq_l4 (List.mem_of_getElem? (i := 37) (by decide +kernel))) rfl
theorem wq_4_38 : (Cond.constantLong "DrawnTalksModel" (112) (97 : Int64)) ∈ dt_W0 := dt_in (wq_l4 (List.mem_of_getElem? (i := 38) (by decide +kernel))) rfl
theorem wq_4_39 : (Cond.constantLong "DrawnTalksModel" (114) (122 : Int64)) ∈ dt_W0 := dt_in (wq_l4 (List.mem_of_getElem? (i := 39) (by decide +kernel))) rfl
theorem wq_4_40 : (Cond.constantLong "DrawnTalksModel" (116) (100000000 : Int64)) ∈ dt_W0 := dt_in (wq_l4 (List.mem_of_getElem? (i := 40) (by decide +kernel))) rfl
theorem wq_4_41 : (Cond.constantLong "DrawnTalksModel" (118) (32 : Int64)) ∈ dt_W0 := dt_in (wq_l4 (List.mem_of_getElem? (i := 41) (by decide +kernel))) rfl
theorem wq_4_42 : (Cond.constantLong "DrawnTalksModel" (120) (96 : Int64)) ∈ dt_W0 := dt_in (wq_l4 (List.mem_of_getElem? (i := 42) (by decide +kernel))) rfl
theorem wq_4_43 : (Cond.methodLink "DrawnTalksModel" (122) (⟨"DrawnTalksModel", "wordBy", "(J)I"⟩ : MethodName)) ∈ dt_W0 := dt_in (wq_l4 (List.mem_of_getElem? (i := 43) (by decide +kernel))) rfl
theorem wq_4_44 : (Cond.static (⟨"DrawnTalksModel", "wordBy", "(J)I"⟩ : MethodName)) ∈ dt_W0 := dt_in (wq_l4 (List.mem_of_getElem? (i := 44) (by decide +kernel))) rfl
theorem wq_4_45 : (Cond.code (⟨"DrawnTalksModel", "wordBy", "(J)I"⟩ : MethodName) prog_9_method_7_code (2) (Option.some Jvm.ClassFile.FieldType.int)) ∈ dt_W0 := dt_in (wq_l4 (List.mem_of_getElem? (i := 45) (by decide +kernel))) rfl
theorem wq_4_46 : (Cond.constantLong "DrawnTalksModel" (95) (628164 : Int64)) ∈ dt_W0 := dt_in (wq_l4 (List.mem_of_getElem? (i := 46) (by decide +kernel))) rfl
theorem wq_4_47 : (Cond.constantLong "DrawnTalksModel" (97) (656741 : Int64)) ∈ dt_W0 := dt_in (wq_l4 (List.mem_of_getElem? (i := 47) (by decide +kernel))) rfl
theorem wq_4_48 : (Cond.methodLink "DrawnTalksModel" (151) (⟨"DrawnTalksModel", "readsEvent", "(Z)Z"⟩ : MethodName)) ∈ dt_W0 := dt_in (wq_l4 (List.mem_of_getElem? (i := 48) (by decide +kernel))) rfl
theorem wq_4_50 : (Cond.instanceMethod (⟨"DrawnTalksModel", "readsEvent", "(Z)Z"⟩ : MethodName)) ∈ dt_W0 := dt_in (wq_l4 (List.mem_of_getElem? (i := 50) (by decide +kernel))) rfl
theorem wq_4_51 : (Cond.code (⟨"DrawnTalksModel", "readsEvent", "(Z)Z"⟩ : MethodName) prog_9_method_12_code (6) (Option.some Jvm.ClassFile.FieldType.boolean)) ∈ dt_W0 := dt_in (wq_l4 (List.mem_of_getElem? (i := 51) (by decide +kernel))) rfl
theorem wq_4_52 : (Cond.constantLong "DrawnTalksModel" (138) (7 : Int64)) ∈ dt_W0 := dt_in (wq_l4 (List.mem_of_getElem? (i := 52) (by decide +kernel))) rfl
theorem wq_4_53 : (Cond.methodLink "DrawnTalksModel" (140) (⟨"DrawnTalksModel", "openSend", "(III)I"⟩ : MethodName)) ∈ dt_W0 := dt_in (wq_l4 (List.mem_of_getElem? (i := 53) (by decide +kernel))) rfl
theorem wq_4_55 : (Cond.instanceMethod (⟨"DrawnTalksModel", "openSend", "(III)I"⟩ : MethodName)) ∈ dt_W0 := dt_in (wq_l4 (List.mem_of_getElem? (i := 55) (by decide +kernel))) rfl
theorem wq_4_56 : (Cond.code (⟨"DrawnTalksModel", "openSend", "(III)I"⟩ : MethodName) prog_9_method_9_code (6) (Option.some Jvm.ClassFile.FieldType.int)) ∈ dt_W0 := dt_in (wq_l4 (List.mem_of_getElem? (i := 56) (by decide +kernel))) rfl
theorem wq_4_57 : (Cond.methodLink "DrawnTalksModel" (144) (⟨"DrawnTalksModel", "addEvent", "(ZIIII)V"⟩ : MethodName)) ∈ dt_W0 := dt_in (wq_l4 (List.mem_of_getElem? (i := 57) (by decide +kernel))) rfl
theorem wq_4_59 : (Cond.instanceMethod (⟨"DrawnTalksModel", "addEvent", "(ZIIII)V"⟩ : MethodName)) ∈ dt_W0 := dt_in (wq_l4 (List.mem_of_getElem? (i := 59) (by decide +kernel))) rfl
theorem wq_4_60 : (Cond.code (⟨"DrawnTalksModel", "addEvent", "(ZIIII)V"⟩ : MethodName) prog_9_method_10_code (6) (Option.none : Option Jvm.ClassFile.FieldType)) ∈ dt_W0 := dt_in (wq_l4 (List.mem_of_getElem? (i := 60) (by decide +kernel))) rfl
theorem wq_4_61 : (Cond.methodLink "DrawnTalksModel" (163) (⟨"DrawnTalksModel", "keep", "(I)I"⟩ : MethodName)) ∈ dt_W0 := dt_in (wq_l4 (List.mem_of_getElem? (i := 61) (by decide +kernel))) rfl
theorem wq_4_63 : (Cond.instanceMethod (⟨"DrawnTalksModel", "keep", "(I)I"⟩ : MethodName)) ∈ dt_W0 := dt_in (wq_l4 (List.mem_of_getElem? (i := 63) (by decide +kernel))) rfl
theorem wq_4_64 : (Cond.code (⟨"DrawnTalksModel", "keep", "(I)I"⟩ : MethodName) prog_9_method_14_code (5) (Option.some Jvm.ClassFile.FieldType.int)) ∈ dt_W0 := dt_in (wq_l4 (List.mem_of_getElem? (i := 64) (by decide +kernel))) rfl
theorem wq_4_65 : (Cond.methodLink "DrawnTalksLaw" (34) (⟨"DrawnTalksModel", "about", "(II)I"⟩ : MethodName)) ∈ dt_W0 := dt_in (wq_l4 (List.mem_of_getElem? (i := 65) (by decide +kernel))) rfl
theorem wq_4_66 : (Cond.instanceMethod (⟨"DrawnTalksModel", "about", "(II)I"⟩ : MethodName)) ∈ dt_W0 := dt_in (wq_l4 (List.mem_of_getElem? (i := 66) (by decide +kernel))) rfl
theorem wq_4_67 : (Cond.selects "DrawnTalksModel" (⟨"DrawnTalksModel", "about", "(II)I"⟩ : MethodName) (⟨"DrawnTalksModel", "about", "(II)I"⟩ : MethodName)) ∈ dt_W0 := dt_in (wq_l4 (List.mem_of_getElem? (i := 67) (by decide +kernel))) rfl
theorem wq_4_68 : (Cond.code (⟨"DrawnTalksModel", "about", "(II)I"⟩ : MethodName) prog_9_method_16_code (5) (Option.some Jvm.ClassFile.FieldType.int)) ∈ dt_W0 := dt_in (wq_l4 (List.mem_of_getElem? (i := 68) (by decide +kernel))) rfl
theorem wq_4_69 : (Cond.constantLong "DrawnTalksModel" (167) (2 : Int64)) ∈ dt_W0 := dt_in (wq_l4 (List.mem_of_getElem? (i := 69) (by decide +kernel))) rfl
theorem wq_4_70 : (Cond.methodLink "DrawnTalksLaw" (39) (⟨"DrawnTalksModel", "event", "(III)I"⟩ : MethodName)) ∈ dt_W0 := dt_in (wq_l4 (List.mem_of_getElem? (i := 70) (by decide +kernel))) rfl
theorem wq_4_71 : (Cond.instanceMethod (⟨"DrawnTalksModel", "event", "(III)I"⟩ : MethodName)) ∈ dt_W0 := dt_in (wq_l4 (List.mem_of_getElem? (i := 71) (by decide +kernel))) rfl
theorem wq_4_72 : (Cond.selects "DrawnTalksModel" (⟨"DrawnTalksModel", "event", "(III)I"⟩ : MethodName) (⟨"DrawnTalksModel", "event", "(III)I"⟩ : MethodName)) ∈ dt_W0 := dt_in (wq_l4 (List.mem_of_getElem? (i := 72) (by decide +kernel))) rfl
theorem wq_4_73 : (Cond.code (⟨"DrawnTalksModel", "event", "(III)I"⟩ : MethodName) prog_9_method_18_code (5) (Option.some Jvm.ClassFile.FieldType.int)) ∈ dt_W0 := dt_in (wq_l4 (List.mem_of_getElem? (i := 73) (by decide +kernel))) rfl
theorem wq_4_74 : (Cond.methodLink "DrawnTalksModel" (169) (⟨"DrawnTalksModel", "noEvent", "(II)Z"⟩ : MethodName)) ∈ dt_W0 := dt_in (wq_l4 (List.mem_of_getElem? (i := 74) (by decide +kernel))) rfl
theorem wq_4_76 : (Cond.instanceMethod (⟨"DrawnTalksModel", "noEvent", "(II)Z"⟩ : MethodName)) ∈ dt_W0 := dt_in (wq_l4 (List.mem_of_getElem? (i := 76) (by decide +kernel))) rfl
theorem wq_4_77 : (Cond.code (⟨"DrawnTalksModel", "noEvent", "(II)Z"⟩ : MethodName) prog_9_method_17_code (3) (Option.some Jvm.ClassFile.FieldType.boolean)) ∈ dt_W0 := dt_in (wq_l4 (List.mem_of_getElem? (i := 77) (by decide +kernel))) rfl
theorem wq_4_78 : (Cond.methodLink "DrawnTalksLaw" (43) (⟨"DrawnTalksModel", "line", "(III)I"⟩ : MethodName)) ∈ dt_W0 := dt_in (wq_l4 (List.mem_of_getElem? (i := 78) (by decide +kernel))) rfl
theorem wq_4_79 : (Cond.instanceMethod (⟨"DrawnTalksModel", "line", "(III)I"⟩ : MethodName)) ∈ dt_W0 := dt_in (wq_l4 (List.mem_of_getElem? (i := 79) (by decide +kernel))) rfl
theorem wq_4_80 : (Cond.selects "DrawnTalksModel" (⟨"DrawnTalksModel", "line", "(III)I"⟩ : MethodName) (⟨"DrawnTalksModel", "line", "(III)I"⟩ : MethodName)) ∈ dt_W0 := dt_in (wq_l4 (List.mem_of_getElem? (i := 80) (by decide +kernel))) rfl
theorem wq_4_81 : (Cond.code (⟨"DrawnTalksModel", "line", "(III)I"⟩ : MethodName) prog_9_method_19_code (5) (Option.some Jvm.ClassFile.FieldType.int)) ∈ dt_W0 := dt_in (wq_l4 (List.mem_of_getElem? (i := 81) (by decide +kernel))) rfl
theorem wq_4_82 : (Cond.constantLong "DrawnTalksModel" (173) (-1 : Int64)) ∈ dt_W0 := dt_in (wq_l4 (List.mem_of_getElem? (i := 82) (by decide +kernel))) rfl
theorem wq_4_83 : (Cond.methodLink "DrawnTalksLaw" (47) (⟨"DrawnTalksModel", "drawn", "(III)I"⟩ : MethodName)) ∈ dt_W0 := dt_in (wq_l4 (List.mem_of_getElem? (i := 83) (by decide +kernel))) rfl
theorem wq_4_84 : (Cond.instanceMethod (⟨"DrawnTalksModel", "drawn", "(III)I"⟩ : MethodName)) ∈ dt_W0 := dt_in (wq_l4 (List.mem_of_getElem? (i := 84) (by decide +kernel))) rfl
theorem wq_4_85 : (Cond.selects "DrawnTalksModel" (⟨"DrawnTalksModel", "drawn", "(III)I"⟩ : MethodName) (⟨"DrawnTalksModel", "drawn", "(III)I"⟩ : MethodName)) ∈ dt_W0 := dt_in (wq_l4 (List.mem_of_getElem? (i := 85) (by decide +kernel))) rfl
theorem wq_4_86 : (Cond.code (⟨"DrawnTalksModel", "drawn", "(III)I"⟩ : MethodName) prog_9_method_27_code (4) (Option.some Jvm.ClassFile.FieldType.int)) ∈ dt_W0 := dt_in (wq_l4 (List.mem_of_getElem? (i := 86) (by decide +kernel))) rfl
theorem wq_4_87 : (Cond.methodLink "DrawnTalksModel" (193) (⟨"DrawnTalksModel", "layDrawn", "(I)V"⟩ : MethodName)) ∈ dt_W0 := dt_in (wq_l4 (List.mem_of_getElem? (i := 87) (by decide +kernel))) rfl
theorem wq_4_89 : (Cond.instanceMethod (⟨"DrawnTalksModel", "layDrawn", "(I)V"⟩ : MethodName)) ∈ dt_W0 := dt_in (wq_l4 (List.mem_of_getElem? (i := 89) (by decide +kernel))) rfl
theorem wq_4_90 : (Cond.code (⟨"DrawnTalksModel", "layDrawn", "(I)V"⟩ : MethodName) prog_9_method_24_code (4) (Option.none : Option Jvm.ClassFile.FieldType)) ∈ dt_W0 := dt_in (wq_l4 (List.mem_of_getElem? (i := 90) (by decide +kernel))) rfl
theorem wq_4_91 : (Cond.methodLink "DrawnTalksModel" (175) (⟨"DrawnTalksModel", "clearAhead", "()V"⟩ : MethodName)) ∈ dt_W0 := dt_in (wq_l4 (List.mem_of_getElem? (i := 91) (by decide +kernel))) rfl
theorem wq_4_93 : (Cond.instanceMethod (⟨"DrawnTalksModel", "clearAhead", "()V"⟩ : MethodName)) ∈ dt_W0 := dt_in (wq_l4 (List.mem_of_getElem? (i := 93) (by decide +kernel))) rfl
theorem wq_4_94 : (Cond.code (⟨"DrawnTalksModel", "clearAhead", "()V"⟩ : MethodName) prog_9_method_20_code (2) (Option.none : Option Jvm.ClassFile.FieldType)) ∈ dt_W0 := dt_in (wq_l4 (List.mem_of_getElem? (i := 94) (by decide +kernel))) rfl
theorem wq_4_95 : (Cond.methodLink "DrawnTalksModel" (178) (⟨"DrawnTalksModel", "layMates", "(I)V"⟩ : MethodName)) ∈ dt_W0 := dt_in (wq_l4 (List.mem_of_getElem? (i := 95) (by decide +kernel))) rfl
theorem wq_4_97 : (Cond.instanceMethod (⟨"DrawnTalksModel", "layMates", "(I)V"⟩ : MethodName)) ∈ dt_W0 := dt_in (wq_l4 (List.mem_of_getElem? (i := 97) (by decide +kernel))) rfl
theorem wq_4_98 : (Cond.code (⟨"DrawnTalksModel", "layMates", "(I)V"⟩ : MethodName) prog_9_method_22_code (3) (Option.none : Option Jvm.ClassFile.FieldType)) ∈ dt_W0 := dt_in (wq_l4 (List.mem_of_getElem? (i := 98) (by decide +kernel))) rfl
theorem wq_4_99 : (Cond.methodLink "DrawnTalksModel" (182) (⟨"DrawnTalksModel", "onOneLine", "(III)Z"⟩ : MethodName)) ∈ dt_W0 := dt_in (wq_l4 (List.mem_of_getElem? (i := 99) (by decide +kernel))) rfl
theorem wq_4_101 : (Cond.instanceMethod (⟨"DrawnTalksModel", "onOneLine", "(III)Z"⟩ : MethodName)) ∈ dt_W0 := dt_in (wq_l4 (List.mem_of_getElem? (i := 101) (by decide +kernel))) rfl
theorem wq_4_102 : (Cond.code (⟨"DrawnTalksModel", "onOneLine", "(III)Z"⟩ : MethodName) prog_9_method_23_code (4) (Option.some Jvm.ClassFile.FieldType.boolean)) ∈ dt_W0 := dt_in (wq_l4 (List.mem_of_getElem? (i := 102) (by decide +kernel))) rfl
theorem wq_4_103 : (Cond.methodLink "DrawnTalksModel" (186) (⟨"DrawnTalksModel", "closeAhead", "(I)V"⟩ : MethodName)) ∈ dt_W0 := dt_in (wq_l4 (List.mem_of_getElem? (i := 103) (by decide +kernel))) rfl
theorem wq_4_105 : (Cond.instanceMethod (⟨"DrawnTalksModel", "closeAhead", "(I)V"⟩ : MethodName)) ∈ dt_W0 := dt_in (wq_l4 (List.mem_of_getElem? (i := 105) (by decide +kernel))) rfl
theorem wq_4_106 : (Cond.code (⟨"DrawnTalksModel", "closeAhead", "(I)V"⟩ : MethodName) prog_9_method_21_code (5) (Option.none : Option Jvm.ClassFile.FieldType)) ∈ dt_W0 := dt_in (wq_l4 (List.mem_of_getElem? (i := 106) (by decide +kernel))) rfl
theorem wq_4_107 : (Cond.methodLink "DrawnTalksLaw" (52) (⟨"DrawnTalksModel", "kept", "(IIII)I"⟩ : MethodName)) ∈ dt_W0 := dt_in (wq_l4 (List.mem_of_getElem? (i := 107) (by decide +kernel))) rfl
theorem wq_4_108 : (Cond.instanceMethod (⟨"DrawnTalksModel", "kept", "(IIII)I"⟩ : MethodName)) ∈ dt_W0 := dt_in (wq_l4 (List.mem_of_getElem? (i := 108) (by decide +kernel))) rfl
theorem wq_4_109 : (Cond.selects "DrawnTalksModel" (⟨"DrawnTalksModel", "kept", "(IIII)I"⟩ : MethodName) (⟨"DrawnTalksModel", "kept", "(IIII)I"⟩ : MethodName)) ∈ dt_W0 := dt_in (wq_l4 (List.mem_of_getElem? (i := 109) (by decide +kernel))) rfl
theorem wq_4_110 : (Cond.code (⟨"DrawnTalksModel", "kept", "(IIII)I"⟩ : MethodName) prog_9_method_28_code (5) (Option.some Jvm.ClassFile.FieldType.int)) ∈ dt_W0 := dt_in (wq_l4 (List.mem_of_getElem? (i := 110) (by decide +kernel))) rfl
theorem wq_4_111 : (Cond.methodLink "DrawnTalksModel" (196) (⟨"DrawnTalksModel", "layKept", "(II)V"⟩ : MethodName)) ∈ dt_W0 := dt_in (wq_l4 (List.mem_of_getElem? (i := 111) (by decide +kernel))) rfl
theorem wq_4_113 : (Cond.instanceMethod (⟨"DrawnTalksModel", "layKept", "(II)V"⟩ : MethodName)) ∈ dt_W0 := dt_in (wq_l4 (List.mem_of_getElem? (i := 113) (by decide +kernel))) rfl
theorem wq_4_114 : (Cond.code (⟨"DrawnTalksModel", "layKept", "(II)V"⟩ : MethodName) prog_9_method_26_code (7) (Option.none : Option Jvm.ClassFile.FieldType)) ∈ dt_W0 := dt_in (wq_l4 (List.mem_of_getElem? (i := 114) (by decide +kernel))) rfl
theorem wq_4_115 : (Cond.methodLink "DrawnTalksModel" (189) (⟨"DrawnTalksModel", "isKeptTake", "(IIII)Z"⟩ : MethodName)) ∈ dt_W0 := dt_in (wq_l4 (List.mem_of_getElem? (i := 115) (by decide +kernel))) rfl
theorem wq_4_117 : (Cond.instanceMethod (⟨"DrawnTalksModel", "isKeptTake", "(IIII)Z"⟩ : MethodName)) ∈ dt_W0 := dt_in (wq_l4 (List.mem_of_getElem? (i := 117) (by decide +kernel))) rfl
theorem wq_4_118 : (Cond.code (⟨"DrawnTalksModel", "isKeptTake", "(IIII)Z"⟩ : MethodName) prog_9_method_25_code (7) (Option.some Jvm.ClassFile.FieldType.boolean)) ∈ dt_W0 := dt_in (wq_l4 (List.mem_of_getElem? (i := 118) (by decide +kernel))) rfl
theorem wq_4_119 : (Cond.methodLink "DrawnTalksLaw" (56) (⟨"DrawnTalksModel", "race", "(III)I"⟩ : MethodName)) ∈ dt_W0 := dt_in (wq_l4 (List.mem_of_getElem? (i := 119) (by decide +kernel))) rfl
theorem wq_4_120 : (Cond.instanceMethod (⟨"DrawnTalksModel", "race", "(III)I"⟩ : MethodName)) ∈ dt_W0 := dt_in (wq_l4 (List.mem_of_getElem? (i := 120) (by decide +kernel))) rfl
theorem wq_4_121 : (Cond.selects "DrawnTalksModel" (⟨"DrawnTalksModel", "race", "(III)I"⟩ : MethodName) (⟨"DrawnTalksModel", "race", "(III)I"⟩ : MethodName)) ∈ dt_W0 := dt_in (wq_l4 (List.mem_of_getElem? (i := 121) (by decide +kernel))) rfl
theorem wq_4_122 : (Cond.code (⟨"DrawnTalksModel", "race", "(III)I"⟩ : MethodName) prog_9_method_29_code (8) (Option.some Jvm.ClassFile.FieldType.int)) ∈ dt_W0 := dt_in (wq_l4 (List.mem_of_getElem? (i := 122) (by decide +kernel))) rfl
theorem wq_4_123 : (Cond.methodLink "DrawnTalksLaw" (61) (⟨"DrawnTalksModel", "orders", "(I)J"⟩ : MethodName)) ∈ dt_W0 := dt_in (wq_l4 (List.mem_of_getElem? (i := 123) (by decide +kernel))) rfl
theorem wq_4_124 : (Cond.instanceMethod (⟨"DrawnTalksModel", "orders", "(I)J"⟩ : MethodName)) ∈ dt_W0 := dt_in (wq_l4 (List.mem_of_getElem? (i := 124) (by decide +kernel))) rfl
theorem wq_4_125 : (Cond.selects "DrawnTalksModel" (⟨"DrawnTalksModel", "orders", "(I)J"⟩ : MethodName) (⟨"DrawnTalksModel", "orders", "(I)J"⟩ : MethodName)) ∈ dt_W0 := dt_in (wq_l4 (List.mem_of_getElem? (i := 125) (by decide +kernel))) rfl
theorem wq_4_126 : (Cond.code (⟨"DrawnTalksModel", "orders", "(I)J"⟩ : MethodName) prog_9_method_35_code (2) (Option.some Jvm.ClassFile.FieldType.long)) ∈ dt_W0 := dt_in (wq_l4 (List.mem_of_getElem? (i := 126) (by decide +kernel))) rfl
theorem wq_4_127 : (Cond.methodLink "DrawnTalksModel" (222) (⟨"DrawnTalksModel", "layMoments", "(I)V"⟩ : MethodName)) ∈ dt_W0 := dt_in (wq_l4 (List.mem_of_getElem? (i := 127) (by decide +kernel))) rfl
theorem wq_4_129 : (Cond.instanceMethod (⟨"DrawnTalksModel", "layMoments", "(I)V"⟩ : MethodName)) ∈ dt_W0 := dt_in (wq_l4 (List.mem_of_getElem? (i := 129) (by decide +kernel))) rfl
theorem wq_4_130 : (Cond.code (⟨"DrawnTalksModel", "layMoments", "(I)V"⟩ : MethodName) prog_9_method_33_code (4) (Option.none : Option Jvm.ClassFile.FieldType)) ∈ dt_W0 := dt_in (wq_l4 (List.mem_of_getElem? (i := 130) (by decide +kernel))) rfl
theorem wq_4_131 : (Cond.methodLink "DrawnTalksModel" (216) (⟨"DrawnTalksModel", "underAt", "(I)I"⟩ : MethodName)) ∈ dt_W0 := dt_in (wq_l4 (List.mem_of_getElem? (i := 131) (by decide +kernel))) rfl
theorem wq_4_133 : (Cond.instanceMethod (⟨"DrawnTalksModel", "underAt", "(I)I"⟩ : MethodName)) ∈ dt_W0 := dt_in (wq_l4 (List.mem_of_getElem? (i := 133) (by decide +kernel))) rfl
theorem wq_4_134 : (Cond.code (⟨"DrawnTalksModel", "underAt", "(I)I"⟩ : MethodName) prog_9_method_31_code (6) (Option.some Jvm.ClassFile.FieldType.int)) ∈ dt_W0 := dt_in (wq_l4 (List.mem_of_getElem? (i := 134) (by decide +kernel))) rfl
theorem wq_4_135 : (Cond.methodLink "DrawnTalksModel" (203) (⟨"DrawnTalksModel", "isDone", "(II)Z"⟩ : MethodName)) ∈ dt_W0 := dt_in (wq_l4 (List.mem_of_getElem? (i := 135) (by decide +kernel))) rfl
theorem wq_4_137 : (Cond.instanceMethod (⟨"DrawnTalksModel", "isDone", "(II)Z"⟩ : MethodName)) ∈ dt_W0 := dt_in (wq_l4 (List.mem_of_getElem? (i := 137) (by decide +kernel))) rfl
theorem wq_4_138 : (Cond.code (⟨"DrawnTalksModel", "isDone", "(II)Z"⟩ : MethodName) prog_9_method_32_code (7) (Option.some Jvm.ClassFile.FieldType.boolean)) ∈ dt_W0 := dt_in (wq_l4 (List.mem_of_getElem? (i := 138) (by decide +kernel))) rfl
theorem wq_4_139 : (Cond.methodLink "DrawnTalksModel" (206) (⟨"DrawnTalksModel", "come", "(II)I"⟩ : MethodName)) ∈ dt_W0 := dt_in (wq_l4 (List.mem_of_getElem? (i := 139) (by decide +kernel))) rfl
theorem wq_4_141 : (Cond.instanceMethod (⟨"DrawnTalksModel", "come", "(II)I"⟩ : MethodName)) ∈ dt_W0 := dt_in (wq_l4 (List.mem_of_getElem? (i := 141) (by decide +kernel))) rfl
theorem wq_4_142 : (Cond.code (⟨"DrawnTalksModel", "come", "(II)I"⟩ : MethodName) prog_9_method_30_code (3) (Option.some Jvm.ClassFile.FieldType.int)) ∈ dt_W0 := dt_in (wq_l4 (List.mem_of_getElem? (i := 142) (by decide +kernel))) rfl
theorem wq_4_143 : (Cond.methodLink "DrawnTalksModel" (219) (⟨"DrawnTalksModel", "layMoment", "(II)V"⟩ : MethodName)) ∈ dt_W0 := dt_in (wq_l4 (List.mem_of_getElem? (i := 143) (by decide +kernel))) rfl
theorem wq_4_145 : (Cond.instanceMethod (⟨"DrawnTalksModel", "layMoment", "(II)V"⟩ : MethodName)) ∈ dt_W0 := dt_in (wq_l4 (List.mem_of_getElem? (i := 145) (by decide +kernel))) rfl
theorem wq_4_146 : (Cond.code (⟨"DrawnTalksModel", "layMoment", "(II)V"⟩ : MethodName) prog_9_method_34_code (6) (Option.none : Option Jvm.ClassFile.FieldType)) ∈ dt_W0 := dt_in (wq_l4 (List.mem_of_getElem? (i := 146) (by decide +kernel))) rfl
theorem wq_4_147 : (Cond.methodLink "DrawnTalksLaw" (65) (⟨"DrawnTalksModel", "moments", "(I)I"⟩ : MethodName)) ∈ dt_W0 := dt_in (wq_l4 (List.mem_of_getElem? (i := 147) (by decide +kernel))) rfl
theorem wq_4_148 : (Cond.instanceMethod (⟨"DrawnTalksModel", "moments", "(I)I"⟩ : MethodName)) ∈ dt_W0 := dt_in (wq_l4 (List.mem_of_getElem? (i := 148) (by decide +kernel))) rfl
theorem wq_4_149 : (Cond.selects "DrawnTalksModel" (⟨"DrawnTalksModel", "moments", "(I)I"⟩ : MethodName) (⟨"DrawnTalksModel", "moments", "(I)I"⟩ : MethodName)) ∈ dt_W0 := dt_in (wq_l4 (List.mem_of_getElem? (i := 149) (by decide +kernel))) rfl
theorem wq_4_150 : (Cond.code (⟨"DrawnTalksModel", "moments", "(I)I"⟩ : MethodName) prog_9_method_36_code (2) (Option.some Jvm.ClassFile.FieldType.int)) ∈ dt_W0 := dt_in (wq_l4 (List.mem_of_getElem? (i := 150) (by decide +kernel))) rfl
theorem wq_4_151 : (Cond.methodLink "DrawnTalksLaw" (69) (⟨"DrawnTalksModel", "under", "(II)I"⟩ : MethodName)) ∈ dt_W0 := dt_in (wq_l4 (List.mem_of_getElem? (i := 151) (by decide +kernel))) rfl
theorem wq_4_152 : (Cond.instanceMethod (⟨"DrawnTalksModel", "under", "(II)I"⟩ : MethodName)) ∈ dt_W0 := dt_in (wq_l4 (List.mem_of_getElem? (i := 152) (by decide +kernel))) rfl
theorem wq_4_153 : (Cond.selects "DrawnTalksModel" (⟨"DrawnTalksModel", "under", "(II)I"⟩ : MethodName) (⟨"DrawnTalksModel", "under", "(II)I"⟩ : MethodName)) ∈ dt_W0 := dt_in (wq_l4 (List.mem_of_getElem? (i := 153) (by decide +kernel))) rfl
theorem wq_4_154 : (Cond.code (⟨"DrawnTalksModel", "under", "(II)I"⟩ : MethodName) prog_9_method_37_code (3) (Option.some Jvm.ClassFile.FieldType.int)) ∈ dt_W0 := dt_in (wq_l4 (List.mem_of_getElem? (i := 154) (by decide +kernel))) rfl
theorem wq_4_155 : (Cond.methodLink "DrawnTalksLaw" (73) (⟨"DrawnTalksModel", "alike", "(II)I"⟩ : MethodName)) ∈ dt_W0 := dt_in (wq_l4 (List.mem_of_getElem? (i := 155) (by decide +kernel))) rfl
theorem wq_4_156 : (Cond.instanceMethod (⟨"DrawnTalksModel", "alike", "(II)I"⟩ : MethodName)) ∈ dt_W0 := dt_in (wq_l4 (List.mem_of_getElem? (i := 156) (by decide +kernel))) rfl
theorem wq_4_157 : (Cond.selects "DrawnTalksModel" (⟨"DrawnTalksModel", "alike", "(II)I"⟩ : MethodName) (⟨"DrawnTalksModel", "alike", "(II)I"⟩ : MethodName)) ∈ dt_W0 := dt_in (wq_l4 (List.mem_of_getElem? (i := 157) (by decide +kernel))) rfl
theorem wq_4_158 : (Cond.code (⟨"DrawnTalksModel", "alike", "(II)I"⟩ : MethodName) prog_9_method_40_code (3) (Option.some Jvm.ClassFile.FieldType.int)) ∈ dt_W0 := dt_in (wq_l4 (List.mem_of_getElem? (i := 158) (by decide +kernel))) rfl
theorem wq_4_159 : (Cond.methodLink "DrawnTalksModel" (228) (⟨"DrawnTalksModel", "areAlike", "(II)Z"⟩ : MethodName)) ∈ dt_W0 := dt_in (wq_l4 (List.mem_of_getElem? (i := 159) (by decide +kernel))) rfl
theorem wq_4_161 : (Cond.instanceMethod (⟨"DrawnTalksModel", "areAlike", "(II)Z"⟩ : MethodName)) ∈ dt_W0 := dt_in (wq_l4 (List.mem_of_getElem? (i := 161) (by decide +kernel))) rfl
theorem wq_4_162 : (Cond.code (⟨"DrawnTalksModel", "areAlike", "(II)Z"⟩ : MethodName) prog_9_method_39_code (3) (Option.some Jvm.ClassFile.FieldType.boolean)) ∈ dt_W0 := dt_in (wq_l4 (List.mem_of_getElem? (i := 162) (by decide +kernel))) rfl
theorem wq_4_163 : (Cond.methodLink "DrawnTalksModel" (225) (⟨"DrawnTalksModel", "isSameLine", "(III)Z"⟩ : MethodName)) ∈ dt_W0 := dt_in (wq_l4 (List.mem_of_getElem? (i := 163) (by decide +kernel))) rfl
theorem wq_4_165 : (Cond.instanceMethod (⟨"DrawnTalksModel", "isSameLine", "(III)Z"⟩ : MethodName)) ∈ dt_W0 := dt_in (wq_l4 (List.mem_of_getElem? (i := 165) (by decide +kernel))) rfl
theorem wq_4_166 : (Cond.code (⟨"DrawnTalksModel", "isSameLine", "(III)Z"⟩ : MethodName) prog_9_method_38_code (8) (Option.some Jvm.ClassFile.FieldType.boolean)) ∈ dt_W0 := dt_in (wq_l4 (List.mem_of_getElem? (i := 166) (by decide +kernel))) rfl
theorem wq_4_167 : (Cond.methodLink "DrawnTalksLaw" (77) (⟨"DrawnTalksModel", "behind", "(III)I"⟩ : MethodName)) ∈ dt_W0 := dt_in (wq_l4 (List.mem_of_getElem? (i := 167) (by decide +kernel))) rfl
theorem wq_4_168 : (Cond.instanceMethod (⟨"DrawnTalksModel", "behind", "(III)I"⟩ : MethodName)) ∈ dt_W0 := dt_in (wq_l4 (List.mem_of_getElem? (i := 168) (by decide +kernel))) rfl
theorem wq_4_169 : (Cond.selects "DrawnTalksModel" (⟨"DrawnTalksModel", "behind", "(III)I"⟩ : MethodName) (⟨"DrawnTalksModel", "behind", "(III)I"⟩ : MethodName)) ∈ dt_W0 := dt_in (wq_l4 (List.mem_of_getElem? (i := 169) (by decide +kernel))) rfl
theorem wq_4_170 : (Cond.code (⟨"DrawnTalksModel", "behind", "(III)I"⟩ : MethodName) prog_9_method_42_code (4) (Option.some Jvm.ClassFile.FieldType.int)) ∈ dt_W0 := dt_in (wq_l4 (List.mem_of_getElem? (i := 170) (by decide +kernel))) rfl
theorem wq_4_171 : (Cond.methodLink "DrawnTalksModel" (231) (⟨"DrawnTalksModel", "addTalk", "(I)V"⟩ : MethodName)) ∈ dt_W0 := dt_in (wq_l4 (List.mem_of_getElem? (i := 171) (by decide +kernel))) rfl
theorem wq_4_173 : (Cond.instanceMethod (⟨"DrawnTalksModel", "addTalk", "(I)V"⟩ : MethodName)) ∈ dt_W0 := dt_in (wq_l4 (List.mem_of_getElem? (i := 173) (by decide +kernel))) rfl
theorem wq_4_174 : (Cond.code (⟨"DrawnTalksModel", "addTalk", "(I)V"⟩ : MethodName) prog_9_method_41_code (5) (Option.none : Option Jvm.ClassFile.FieldType)) ∈ dt_W0 := dt_in (wq_l4 (List.mem_of_getElem? (i := 174) (by decide +kernel))) rfl
theorem wq_4_175 : (Cond.methodLink "DrawnTalksLaw" (81) (⟨"DrawnTalksModel", "play", "(II)I"⟩ : MethodName)) ∈ dt_W0 := dt_in (wq_l4 (List.mem_of_getElem? (i := 175) (by decide +kernel))) rfl
theorem wq_4_176 : (Cond.instanceMethod (⟨"DrawnTalksModel", "play", "(II)I"⟩ : MethodName)) ∈ dt_W0 := dt_in (wq_l4 (List.mem_of_getElem? (i := 176) (by decide +kernel))) rfl
theorem wq_4_177 : (Cond.selects "DrawnTalksModel" (⟨"DrawnTalksModel", "play", "(II)I"⟩ : MethodName) (⟨"DrawnTalksModel", "play", "(II)I"⟩ : MethodName)) ∈ dt_W0 := dt_in (wq_l4 (List.mem_of_getElem? (i := 177) (by decide +kernel))) rfl
theorem wq_4_178 : (Cond.code (⟨"DrawnTalksModel", "play", "(II)I"⟩ : MethodName) prog_9_method_47_code (4) (Option.some Jvm.ClassFile.FieldType.int)) ∈ dt_W0 := dt_in (wq_l4 (List.mem_of_getElem? (i := 178) (by decide +kernel))) rfl
theorem wq_4_179 : (Cond.methodLink "DrawnTalksModel" (249) (⟨"DrawnTalksModel", "plays", "(I)Z"⟩ : MethodName)) ∈ dt_W0 := dt_in (wq_l4 (List.mem_of_getElem? (i := 179) (by decide +kernel))) rfl
theorem wq_4_181 : (Cond.instanceMethod (⟨"DrawnTalksModel", "plays", "(I)Z"⟩ : MethodName)) ∈ dt_W0 := dt_in (wq_l4 (List.mem_of_getElem? (i := 181) (by decide +kernel))) rfl
theorem wq_4_182 : (Cond.code (⟨"DrawnTalksModel", "plays", "(I)Z"⟩ : MethodName) prog_9_method_46_code (5) (Option.some Jvm.ClassFile.FieldType.boolean)) ∈ dt_W0 := dt_in (wq_l4 (List.mem_of_getElem? (i := 182) (by decide +kernel))) rfl
theorem wq_4_183 : (Cond.methodLink "DrawnTalksModel" (243) (⟨"DrawnTalksModel", "canDo", "(II)Z"⟩ : MethodName)) ∈ dt_W0 := dt_in (wq_l4 (List.mem_of_getElem? (i := 183) (by decide +kernel))) rfl
theorem wq_4_185 : (Cond.instanceMethod (⟨"DrawnTalksModel", "canDo", "(II)Z"⟩ : MethodName)) ∈ dt_W0 := dt_in (wq_l4 (List.mem_of_getElem? (i := 185) (by decide +kernel))) rfl
theorem wq_4_186 : (Cond.code (⟨"DrawnTalksModel", "canDo", "(II)Z"⟩ : MethodName) prog_9_method_44_code (6) (Option.some Jvm.ClassFile.FieldType.boolean)) ∈ dt_W0 := dt_in (wq_l4 (List.mem_of_getElem? (i := 186) (by decide +kernel))) rfl
theorem wq_4_187 : (Cond.methodLink "DrawnTalksModel" (234) (⟨"DrawnTalksModel", "talkOf", "(II)I"⟩ : MethodName)) ∈ dt_W0 := dt_in (wq_l4 (List.mem_of_getElem? (i := 187) (by decide +kernel))) rfl
theorem wq_4_188 : (Cond.static (⟨"DrawnTalksModel", "talkOf", "(II)I"⟩ : MethodName)) ∈ dt_W0 := dt_in (wq_l4 (List.mem_of_getElem? (i := 188) (by decide +kernel))) rfl
theorem wq_4_189 : (Cond.code (⟨"DrawnTalksModel", "talkOf", "(II)I"⟩ : MethodName) prog_9_method_43_code (2) (Option.some Jvm.ClassFile.FieldType.int)) ∈ dt_W0 := dt_in (wq_l4 (List.mem_of_getElem? (i := 189) (by decide +kernel))) rfl
theorem wq_4_190 : (Cond.methodLink "DrawnTalksModel" (246) (⟨"DrawnTalksModel", "doNext", "(II)V"⟩ : MethodName)) ∈ dt_W0 := dt_in (wq_l4 (List.mem_of_getElem? (i := 190) (by decide +kernel))) rfl
theorem wq_4_192 : (Cond.instanceMethod (⟨"DrawnTalksModel", "doNext", "(II)V"⟩ : MethodName)) ∈ dt_W0 := dt_in (wq_l4 (List.mem_of_getElem? (i := 192) (by decide +kernel))) rfl
theorem wq_4_193 : (Cond.code (⟨"DrawnTalksModel", "doNext", "(II)V"⟩ : MethodName) prog_9_method_45_code (5) (Option.none : Option Jvm.ClassFile.FieldType)) ∈ dt_W0 := dt_in (wq_l4 (List.mem_of_getElem? (i := 193) (by decide +kernel))) rfl
theorem wq_4_194 : (Cond.methodLink "DrawnTalksLaw" (85) (⟨"DrawnTalksModel", "mixes", "(II)I"⟩ : MethodName)) ∈ dt_W0 := dt_in (wq_l4 (List.mem_of_getElem? (i := 194) (by decide +kernel))) rfl
theorem wq_4_195 : (Cond.instanceMethod (⟨"DrawnTalksModel", "mixes", "(II)I"⟩ : MethodName)) ∈ dt_W0 := dt_in (wq_l4 (List.mem_of_getElem? (i := 195) (by decide +kernel))) rfl
theorem wq_4_196 : (Cond.selects "DrawnTalksModel" (⟨"DrawnTalksModel", "mixes", "(II)I"⟩ : MethodName) (⟨"DrawnTalksModel", "mixes", "(II)I"⟩ : MethodName)) ∈ dt_W0 := dt_in (wq_l4 (List.mem_of_getElem? (i := 196) (by decide +kernel))) rfl
theorem wq_4_197 : (Cond.code (⟨"DrawnTalksModel", "mixes", "(II)I"⟩ : MethodName) prog_9_method_50_code (6) (Option.some Jvm.ClassFile.FieldType.int)) ∈ dt_W0 := dt_in (wq_l4 (List.mem_of_getElem? (i := 197) (by decide +kernel))) rfl
theorem wq_4_198 : (Cond.constantLong "DrawnTalksModel" (255) (15 : Int64)) ∈ dt_W0 := dt_in (wq_l4 (List.mem_of_getElem? (i := 198) (by decide +kernel))) rfl
theorem wq_4_199 : (Cond.methodLink "DrawnTalksModel" (257) (⟨"DrawnTalksModel", "isFirst", "(II)Z"⟩ : MethodName)) ∈ dt_W0 := dt_in (wq_l4 (List.mem_of_getElem? (i := 199) (by decide +kernel))) rfl
theorem wq_4_201 : (Cond.instanceMethod (⟨"DrawnTalksModel", "isFirst", "(II)Z"⟩ : MethodName)) ∈ dt_W0 := dt_in (wq_l4 (List.mem_of_getElem? (i := 201) (by decide +kernel))) rfl
theorem wq_4_202 : (Cond.code (⟨"DrawnTalksModel", "isFirst", "(II)Z"⟩ : MethodName) prog_9_method_48_code (7) (Option.some Jvm.ClassFile.FieldType.boolean)) ∈ dt_W0 := dt_in (wq_l4 (List.mem_of_getElem? (i := 202) (by decide +kernel))) rfl
theorem wq_4_203 : (Cond.methodLink "DrawnTalksModel" (252) (⟨"DrawnTalksModel", "hasBit", "(II)Z"⟩ : MethodName)) ∈ dt_W0 := dt_in (wq_l4 (List.mem_of_getElem? (i := 203) (by decide +kernel))) rfl
theorem wq_4_204 : (Cond.static (⟨"DrawnTalksModel", "hasBit", "(II)Z"⟩ : MethodName)) ∈ dt_W0 := dt_in (wq_l4 (List.mem_of_getElem? (i := 204) (by decide +kernel))) rfl
theorem wq_4_205 : (Cond.code (⟨"DrawnTalksModel", "hasBit", "(II)Z"⟩ : MethodName) prog_9_method_3_code (2) (Option.some Jvm.ClassFile.FieldType.boolean)) ∈ dt_W0 := dt_in (wq_l4 (List.mem_of_getElem? (i := 205) (by decide +kernel))) rfl
theorem wq_4_206 : (Cond.methodLink "DrawnTalksModel" (260) (⟨"DrawnTalksModel", "isOfOne", "(II)Z"⟩ : MethodName)) ∈ dt_W0 := dt_in (wq_l4 (List.mem_of_getElem? (i := 206) (by decide +kernel))) rfl
theorem wq_4_208 : (Cond.instanceMethod (⟨"DrawnTalksModel", "isOfOne", "(II)Z"⟩ : MethodName)) ∈ dt_W0 := dt_in (wq_l4 (List.mem_of_getElem? (i := 208) (by decide +kernel))) rfl
theorem wq_4_209 : (Cond.code (⟨"DrawnTalksModel", "isOfOne", "(II)Z"⟩ : MethodName) prog_9_method_49_code (7) (Option.some Jvm.ClassFile.FieldType.boolean)) ∈ dt_W0 := dt_in (wq_l4 (List.mem_of_getElem? (i := 209) (by decide +kernel))) rfl
theorem wq_4_210 : (Cond.methodLink "DrawnTalksLaw" (89) (⟨"DrawnTalksModel", "fresh", "(II)I"⟩ : MethodName)) ∈ dt_W0 := dt_in (wq_l4 (List.mem_of_getElem? (i := 210) (by decide +kernel))) rfl
theorem wq_4_211 : (Cond.instanceMethod (⟨"DrawnTalksModel", "fresh", "(II)I"⟩ : MethodName)) ∈ dt_W0 := dt_in (wq_l4 (List.mem_of_getElem? (i := 211) (by decide +kernel))) rfl
theorem wq_4_212 : (Cond.selects "DrawnTalksModel" (⟨"DrawnTalksModel", "fresh", "(II)I"⟩ : MethodName) (⟨"DrawnTalksModel", "fresh", "(II)I"⟩ : MethodName)) ∈ dt_W0 := dt_in (wq_l4 (List.mem_of_getElem? (i := 212) (by decide +kernel))) rfl
theorem wq_4_213 : (Cond.code (⟨"DrawnTalksModel", "fresh", "(II)I"⟩ : MethodName) prog_9_method_51_code (5) (Option.some Jvm.ClassFile.FieldType.int)) ∈ dt_W0 := dt_in (wq_l4 (List.mem_of_getElem? (i := 213) (by decide +kernel))) rfl
theorem wq_4_214 : (Cond.methodLink "DrawnTalksLaw" (93) (⟨"DrawnTalksModel", "take", "(II)I"⟩ : MethodName)) ∈ dt_W0 := dt_in (wq_l4 (List.mem_of_getElem? (i := 214) (by decide +kernel))) rfl
theorem wq_4_215 : (Cond.instanceMethod (⟨"DrawnTalksModel", "take", "(II)I"⟩ : MethodName)) ∈ dt_W0 := dt_in (wq_l4 (List.mem_of_getElem? (i := 215) (by decide +kernel))) rfl
theorem wq_4_216 : (Cond.selects "DrawnTalksModel" (⟨"DrawnTalksModel", "take", "(II)I"⟩ : MethodName) (⟨"DrawnTalksModel", "take", "(II)I"⟩ : MethodName)) ∈ dt_W0 := dt_in (wq_l4 (List.mem_of_getElem? (i := 216) (by decide +kernel))) rfl
theorem wq_4_217 : (Cond.code (⟨"DrawnTalksModel", "take", "(II)I"⟩ : MethodName) prog_9_method_52_code (6) (Option.some Jvm.ClassFile.FieldType.int)) ∈ dt_W0 := dt_in (wq_l4 (List.mem_of_getElem? (i := 217) (by decide +kernel))) rfl
theorem wq_4_218 : (Cond.methodLink "DrawnTalksLaw" (97) (⟨"DrawnTalksModel", "count", "(I)I"⟩ : MethodName)) ∈ dt_W0 := dt_in (wq_l4 (List.mem_of_getElem? (i := 218) (by decide +kernel))) rfl
theorem wq_4_219 : (Cond.instanceMethod (⟨"DrawnTalksModel", "count", "(I)I"⟩ : MethodName)) ∈ dt_W0 := dt_in (wq_l4 (List.mem_of_getElem? (i := 219) (by decide +kernel))) rfl
theorem wq_4_220 : (Cond.selects "DrawnTalksModel" (⟨"DrawnTalksModel", "count", "(I)I"⟩ : MethodName) (⟨"DrawnTalksModel", "count", "(I)I"⟩ : MethodName)) ∈ dt_W0 := dt_in (wq_l4 (List.mem_of_getElem? (i := 220) (by decide +kernel))) rfl
theorem wq_4_221 : (Cond.code (⟨"DrawnTalksModel", "count", "(I)I"⟩ : MethodName) prog_9_method_53_code (2) (Option.some Jvm.ClassFile.FieldType.int)) ∈ dt_W0 := dt_in (wq_l4 (List.mem_of_getElem? (i := 221) (by decide +kernel))) rfl
theorem wq_4_222 : (Cond.constantLong "DrawnTalksLaw" (13) (4294967295 : Int64)) ∈ dt_W0 := dt_in (wq_l4 (List.mem_of_getElem? (i := 222) (by decide +kernel))) rfl
theorem wq_4_223 : (Cond.fieldLink "java/lang/String" (9) "java/lang/String" "value" "[B") ∈ dt_W0 := dt_in (wq_l4 (List.mem_of_getElem? (i := 223) (by decide +kernel))) rfl
theorem wq_4_224 : (Cond.fieldLink "java/lang/String" (15) "java/lang/String" "coder" "B") ∈ dt_W0 := dt_in (wq_l4 (List.mem_of_getElem? (i := 224) (by decide +kernel))) rfl
theorem wq_0_0 : (Cond.selects "DrawnTalks$Reader" (⟨"DrawnTalks$Reader", "nextIs", "(I)Z"⟩ : MethodName) (⟨"DrawnTalks$Reader", "nextIs", "(I)Z"⟩ : MethodName)) ∈ dt_W0 := dt_in (List.mem_append_left _ (List.mem_of_getElem? (i := 0) (by decide +kernel))) rfl
theorem wq_0_1 : (Cond.selects "DrawnTalks$Reader" (⟨"DrawnTalks$Reader", "readWord", "()V"⟩ : MethodName) (⟨"DrawnTalks$Reader", "readWord", "()V"⟩ : MethodName)) ∈ dt_W0 := dt_in (List.mem_append_left _ (List.mem_of_getElem? (i := 1) (by decide +kernel))) rfl
theorem wq_0_2 : (Cond.selects "DrawnTalks$Reader" (⟨"DrawnTalks$Reader", "wordIs", "(Ljava/lang/String;)Z"⟩ : MethodName) (⟨"DrawnTalks$Reader", "wordIs", "(Ljava/lang/String;)Z"⟩ : MethodName)) ∈ dt_W0 := dt_in (List.mem_append_left _ (List.mem_of_getElem? (i := 2) (by decide +kernel))) rfl
theorem wq_0_3 : (Cond.selects "DrawnTalks$Reader" (⟨"DrawnTalks$Reader", "readSign", "(I)V"⟩ : MethodName) (⟨"DrawnTalks$Reader", "readSign", "(I)V"⟩ : MethodName)) ∈ dt_W0 := dt_in (List.mem_append_left _ (List.mem_of_getElem? (i := 3) (by decide +kernel))) rfl
theorem wq_0_4 : (Cond.selects "DrawnTalks$Reader" (⟨"DrawnTalks$Reader", "readEvent", "(LDrawnTalks$Talk;)Z"⟩ : MethodName) (⟨"DrawnTalks$Reader", "readEvent", "(LDrawnTalks$Talk;)Z"⟩ : MethodName)) ∈ dt_W0 := dt_in (List.mem_append_left _ (List.mem_of_getElem? (i := 4) (by decide +kernel))) rfl
theorem wq_0_5 : (Cond.selects "DrawnTalks$Talk" (⟨"DrawnTalks$Talk", "add", "(III)Z"⟩ : MethodName) (⟨"DrawnTalks$Talk", "add", "(III)Z"⟩ : MethodName)) ∈ dt_W0 := dt_in (List.mem_append_left _ (List.mem_of_getElem? (i := 5) (by decide +kernel))) rfl
theorem wq_0_6 : (Cond.selects "DrawnTalks" (⟨"DrawnTalks", "keepBuilt", "(I)I"⟩ : MethodName) (⟨"DrawnTalks", "keepBuilt", "(I)I"⟩ : MethodName)) ∈ dt_W0 := dt_in (List.mem_append_left _ (List.mem_of_getElem? (i := 6) (by decide +kernel))) rfl
theorem wq_0_7 : (Cond.selects "DrawnTalks" (⟨"DrawnTalks", "isEvent", "(II)Z"⟩ : MethodName) (⟨"DrawnTalks", "isEvent", "(II)Z"⟩ : MethodName)) ∈ dt_W0 := dt_in (List.mem_append_left _ (List.mem_of_getElem? (i := 7) (by decide +kernel))) rfl
theorem wq_0_8 : (Cond.selects "DrawnTalks$Relation" (⟨"DrawnTalks$Relation", "isDirect", "(LDrawnTalks$Talk;III)Z"⟩ : MethodName) (⟨"DrawnTalks$Relation", "isDirect", "(LDrawnTalks$Talk;III)Z"⟩ : MethodName)) ∈ dt_W0 := dt_in (List.mem_append_left _ (List.mem_of_getElem? (i := 8) (by decide +kernel))) rfl
theorem wq_0_9 : (Cond.selects "DrawnTalks$Relation" (⟨"DrawnTalks$Relation", "isRace", "(LDrawnTalks$Talk;II)Z"⟩ : MethodName) (⟨"DrawnTalks$Relation", "isRace", "(LDrawnTalks$Talk;II)Z"⟩ : MethodName)) ∈ dt_W0 := dt_in (List.mem_append_left _ (List.mem_of_getElem? (i := 9) (by decide +kernel))) rfl
theorem wq_0_10 : (Cond.selects "DrawnTalks$Lattice" (⟨"DrawnTalks$Lattice", "prepare", "(LDrawnTalks$Talk;)I"⟩ : MethodName) (⟨"DrawnTalks$Lattice", "prepare", "(LDrawnTalks$Talk;)I"⟩ : MethodName)) ∈ dt_W0 := dt_in (List.mem_append_left _ (List.mem_of_getElem? (i := 10) (by decide +kernel))) rfl
theorem wq_0_11 : (Cond.selects "DrawnTalks$Lattice" (⟨"DrawnTalks$Lattice", "visit", "(LDrawnTalks$Talk;II)V"⟩ : MethodName) (⟨"DrawnTalks$Lattice", "visit", "(LDrawnTalks$Talk;II)V"⟩ : MethodName)) ∈ dt_W0 := dt_in (List.mem_append_left _ (List.mem_of_getElem? (i := 11) (by decide +kernel))) rfl
theorem wq_0_12 : (Cond.selects "DrawnTalks$Lattice" (⟨"DrawnTalks$Lattice", "mayHappen", "(LDrawnTalks$Talk;I)Z"⟩ : MethodName) (⟨"DrawnTalks$Lattice", "mayHappen", "(LDrawnTalks$Talk;I)Z"⟩ : MethodName)) ∈ dt_W0 := dt_in (List.mem_append_left _ (List.mem_of_getElem? (i := 12) (by decide +kernel))) rfl
theorem wq_0_13 : (Cond.selects "DrawnTalks$Lattice" (⟨"DrawnTalks$Lattice", "goToNextCut", "(LDrawnTalks$Talk;)V"⟩ : MethodName) (⟨"DrawnTalks$Lattice", "goToNextCut", "(LDrawnTalks$Talk;)V"⟩ : MethodName)) ∈ dt_W0 := dt_in (List.mem_append_left _ (List.mem_of_getElem? (i := 13) (by decide +kernel))) rfl
theorem wq_0_14 : (Cond.selects "DrawnTalks$Player" (⟨"DrawnTalks$Player", "goToStart", "()V"⟩ : MethodName) (⟨"DrawnTalks$Player", "goToStart", "()V"⟩ : MethodName)) ∈ dt_W0 := dt_in (List.mem_append_left _ (List.mem_of_getElem? (i := 14) (by decide +kernel))) rfl
theorem wq_0_15 : (Cond.selects "DrawnTalks$Player" (⟨"DrawnTalks$Player", "talkOf", "(I)LDrawnTalks$Talk;"⟩ : MethodName) (⟨"DrawnTalks$Player", "talkOf", "(I)LDrawnTalks$Talk;"⟩ : MethodName)) ∈ dt_W0 := dt_in (List.mem_append_left _ (List.mem_of_getElem? (i := 15) (by decide +kernel))) rfl
theorem wq_0_16 : (Cond.selects "DrawnTalks$Player" (⟨"DrawnTalks$Player", "firstThatCan", "()I"⟩ : MethodName) (⟨"DrawnTalks$Player", "firstThatCan", "()I"⟩ : MethodName)) ∈ dt_W0 := dt_in (List.mem_append_left _ (List.mem_of_getElem? (i := 16) (by decide +kernel))) rfl
theorem wq_0_17 : (Cond.selects "DrawnTalks$Player" (⟨"DrawnTalks$Player", "can", "(I)Z"⟩ : MethodName) (⟨"DrawnTalks$Player", "can", "(I)Z"⟩ : MethodName)) ∈ dt_W0 := dt_in (List.mem_append_left _ (List.mem_of_getElem? (i := 17) (by decide +kernel))) rfl
theorem wq_0_18 : (Cond.selects "DrawnTalks$Player" (⟨"DrawnTalks$Player", "act", "(I)V"⟩ : MethodName) (⟨"DrawnTalks$Player", "act", "(I)V"⟩ : MethodName)) ∈ dt_W0 := dt_in (List.mem_append_left _ (List.mem_of_getElem? (i := 18) (by decide +kernel))) rfl
theorem wq_0_19 : (Cond.selects "DrawnTalks$Player" (⟨"DrawnTalks$Player", "post", "(II)V"⟩ : MethodName) (⟨"DrawnTalks$Player", "post", "(II)V"⟩ : MethodName)) ∈ dt_W0 := dt_in (List.mem_append_left _ (List.mem_of_getElem? (i := 19) (by decide +kernel))) rfl
theorem wq_0_20 : (Cond.selects "DrawnTalks$Player" (⟨"DrawnTalks$Player", "goOn", "(I)V"⟩ : MethodName) (⟨"DrawnTalks$Player", "goOn", "(I)V"⟩ : MethodName)) ∈ dt_W0 := dt_in (List.mem_append_left _ (List.mem_of_getElem? (i := 20) (by decide +kernel))) rfl
theorem wq_0_21 : (Cond.selects "DrawnTalks$Mixer" (⟨"DrawnTalks$Mixer", "choose", "(I)V"⟩ : MethodName) (⟨"DrawnTalks$Mixer", "choose", "(I)V"⟩ : MethodName)) ∈ dt_W0 := dt_in (List.mem_append_left _ (List.mem_of_getElem? (i := 21) (by decide +kernel))) rfl
theorem wq_0_22 : (Cond.selects "DrawnTalks$Mixer" (⟨"DrawnTalks$Mixer", "has", "(I)Z"⟩ : MethodName) (⟨"DrawnTalks$Mixer", "has", "(I)Z"⟩ : MethodName)) ∈ dt_W0 := dt_in (List.mem_append_left _ (List.mem_of_getElem? (i := 22) (by decide +kernel))) rfl
theorem wq_0_23 : (Cond.selects "DrawnTalks$Mixer" (⟨"DrawnTalks$Mixer", "firstLike", "(II)I"⟩ : MethodName) (⟨"DrawnTalks$Mixer", "firstLike", "(II)I"⟩ : MethodName)) ∈ dt_W0 := dt_in (List.mem_append_left _ (List.mem_of_getElem? (i := 23) (by decide +kernel))) rfl
theorem wq_0_24 : (Cond.selects "DrawnTalks$Mixer" (⟨"DrawnTalks$Mixer", "isFirst", "(I)Z"⟩ : MethodName) (⟨"DrawnTalks$Mixer", "isFirst", "(I)Z"⟩ : MethodName)) ∈ dt_W0 := dt_in (List.mem_append_left _ (List.mem_of_getElem? (i := 24) (by decide +kernel))) rfl
theorem wq_0_25 : (Cond.selects "DrawnTalks$Mixer" (⟨"DrawnTalks$Mixer", "isSuch", "(II)Z"⟩ : MethodName) (⟨"DrawnTalks$Mixer", "isSuch", "(II)Z"⟩ : MethodName)) ∈ dt_W0 := dt_in (List.mem_append_left _ (List.mem_of_getElem? (i := 25) (by decide +kernel))) rfl
theorem wq_0_26 : (Cond.selects "DrawnTalks$Mixer" (⟨"DrawnTalks$Mixer", "isOfOne", "(I)Z"⟩ : MethodName) (⟨"DrawnTalks$Mixer", "isOfOne", "(I)Z"⟩ : MethodName)) ∈ dt_W0 := dt_in (List.mem_append_left _ (List.mem_of_getElem? (i := 26) (by decide +kernel))) rfl
theorem wq_0_27 : (Cond.selects "DrawnTalks$Mixer" (⟨"DrawnTalks$Mixer", "isOf", "(II)Z"⟩ : MethodName) (⟨"DrawnTalks$Mixer", "isOf", "(II)Z"⟩ : MethodName)) ∈ dt_W0 := dt_in (List.mem_append_left _ (List.mem_of_getElem? (i := 27) (by decide +kernel))) rfl
theorem wq_0_28 : (Cond.selects "DrawnTalksModel" (⟨"DrawnTalksModel", "readTalk", "()I"⟩ : MethodName) (⟨"DrawnTalksModel", "readTalk", "()I"⟩ : MethodName)) ∈ dt_W0 := dt_in (List.mem_append_left _ (List.mem_of_getElem? (i := 28) (by decide +kernel))) rfl
theorem wq_0_29 : (Cond.selects "DrawnTalksModel" (⟨"DrawnTalksModel", "beginTalk", "()V"⟩ : MethodName) (⟨"DrawnTalksModel", "beginTalk", "()V"⟩ : MethodName)) ∈ dt_W0 := dt_in (List.mem_append_left _ (List.mem_of_getElem? (i := 29) (by decide +kernel))) rfl
theorem wq_0_30 : (Cond.selects "DrawnTalksModel" (⟨"DrawnTalksModel", "readToken", "()V"⟩ : MethodName) (⟨"DrawnTalksModel", "readToken", "()V"⟩ : MethodName)) ∈ dt_W0 := dt_in (List.mem_append_left _ (List.mem_of_getElem? (i := 30) (by decide +kernel))) rfl
theorem wq_0_31 : (Cond.selects "DrawnTalksModel" (⟨"DrawnTalksModel", "readsEvent", "(Z)Z"⟩ : MethodName) (⟨"DrawnTalksModel", "readsEvent", "(Z)Z"⟩ : MethodName)) ∈ dt_W0 := dt_in (List.mem_append_left _ (List.mem_of_getElem? (i := 31) (by decide +kernel))) rfl
theorem wq_0_32 : (Cond.selects "DrawnTalksModel" (⟨"DrawnTalksModel", "openSend", "(III)I"⟩ : MethodName) (⟨"DrawnTalksModel", "openSend", "(III)I"⟩ : MethodName)) ∈ dt_W0 := dt_in (List.mem_append_left _ (List.mem_of_getElem? (i := 32) (by decide +kernel))) rfl
theorem wq_0_33 : (Cond.selects "DrawnTalksModel" (⟨"DrawnTalksModel", "addEvent", "(ZIIII)V"⟩ : MethodName) (⟨"DrawnTalksModel", "addEvent", "(ZIIII)V"⟩ : MethodName)) ∈ dt_W0 := dt_in (List.mem_append_left _ (List.mem_of_getElem? (i := 33) (by decide +kernel))) rfl
theorem wq_0_34 : (Cond.selects "DrawnTalksModel" (⟨"DrawnTalksModel", "keep", "(I)I"⟩ : MethodName) (⟨"DrawnTalksModel", "keep", "(I)I"⟩ : MethodName)) ∈ dt_W0 := dt_in (List.mem_append_left _ (List.mem_of_getElem? (i := 34) (by decide +kernel))) rfl
theorem wq_0_35 : (Cond.selects "DrawnTalksModel" (⟨"DrawnTalksModel", "noEvent", "(II)Z"⟩ : MethodName) (⟨"DrawnTalksModel", "noEvent", "(II)Z"⟩ : MethodName)) ∈ dt_W0 := dt_in (List.mem_append_left _ (List.mem_of_getElem? (i := 35) (by decide +kernel))) rfl
theorem wq_0_36 : (Cond.selects "DrawnTalksModel" (⟨"DrawnTalksModel", "layDrawn", "(I)V"⟩ : MethodName) (⟨"DrawnTalksModel", "layDrawn", "(I)V"⟩ : MethodName)) ∈ dt_W0 := dt_in (List.mem_append_left _ (List.mem_of_getElem? (i := 36) (by decide +kernel))) rfl
theorem wq_0_37 : (Cond.selects "DrawnTalksModel" (⟨"DrawnTalksModel", "clearAhead", "()V"⟩ : MethodName) (⟨"DrawnTalksModel", "clearAhead", "()V"⟩ : MethodName)) ∈ dt_W0 := dt_in (List.mem_append_left _ (List.mem_of_getElem? (i := 37) (by decide +kernel))) rfl
theorem wq_0_38 : (Cond.selects "DrawnTalksModel" (⟨"DrawnTalksModel", "layMates", "(I)V"⟩ : MethodName) (⟨"DrawnTalksModel", "layMates", "(I)V"⟩ : MethodName)) ∈ dt_W0 := dt_in (List.mem_append_left _ (List.mem_of_getElem? (i := 38) (by decide +kernel))) rfl
theorem wq_0_39 : (Cond.selects "DrawnTalksModel" (⟨"DrawnTalksModel", "onOneLine", "(III)Z"⟩ : MethodName) (⟨"DrawnTalksModel", "onOneLine", "(III)Z"⟩ : MethodName)) ∈ dt_W0 := dt_in (List.mem_append_left _ (List.mem_of_getElem? (i := 39) (by decide +kernel))) rfl
theorem wq_0_40 : (Cond.selects "DrawnTalksModel" (⟨"DrawnTalksModel", "closeAhead", "(I)V"⟩ : MethodName) (⟨"DrawnTalksModel", "closeAhead", "(I)V"⟩ : MethodName)) ∈ dt_W0 := dt_in (List.mem_append_left _ (List.mem_of_getElem? (i := 40) (by decide +kernel))) rfl
theorem wq_0_41 : (Cond.selects "DrawnTalksModel" (⟨"DrawnTalksModel", "layKept", "(II)V"⟩ : MethodName) (⟨"DrawnTalksModel", "layKept", "(II)V"⟩ : MethodName)) ∈ dt_W0 := dt_in (List.mem_append_left _ (List.mem_of_getElem? (i := 41) (by decide +kernel))) rfl
theorem wq_0_42 : (Cond.selects "DrawnTalksModel" (⟨"DrawnTalksModel", "isKeptTake", "(IIII)Z"⟩ : MethodName) (⟨"DrawnTalksModel", "isKeptTake", "(IIII)Z"⟩ : MethodName)) ∈ dt_W0 := dt_in (List.mem_append_left _ (List.mem_of_getElem? (i := 42) (by decide +kernel))) rfl
theorem wq_0_43 : (Cond.selects "DrawnTalksModel" (⟨"DrawnTalksModel", "layMoments", "(I)V"⟩ : MethodName) (⟨"DrawnTalksModel", "layMoments", "(I)V"⟩ : MethodName)) ∈ dt_W0 := dt_in (List.mem_append_left _ (List.mem_of_getElem? (i := 43) (by decide +kernel))) rfl
theorem wq_0_44 : (Cond.selects "DrawnTalksModel" (⟨"DrawnTalksModel", "underAt", "(I)I"⟩ : MethodName) (⟨"DrawnTalksModel", "underAt", "(I)I"⟩ : MethodName)) ∈ dt_W0 := dt_in (List.mem_append_left _ (List.mem_of_getElem? (i := 44) (by decide +kernel))) rfl
theorem wq_0_45 : (Cond.selects "DrawnTalksModel" (⟨"DrawnTalksModel", "isDone", "(II)Z"⟩ : MethodName) (⟨"DrawnTalksModel", "isDone", "(II)Z"⟩ : MethodName)) ∈ dt_W0 := dt_in (List.mem_append_left _ (List.mem_of_getElem? (i := 45) (by decide +kernel))) rfl
theorem wq_0_46 : (Cond.selects "DrawnTalksModel" (⟨"DrawnTalksModel", "come", "(II)I"⟩ : MethodName) (⟨"DrawnTalksModel", "come", "(II)I"⟩ : MethodName)) ∈ dt_W0 := dt_in (List.mem_append_left _ (List.mem_of_getElem? (i := 46) (by decide +kernel))) rfl
theorem wq_0_47 : (Cond.selects "DrawnTalksModel" (⟨"DrawnTalksModel", "layMoment", "(II)V"⟩ : MethodName) (⟨"DrawnTalksModel", "layMoment", "(II)V"⟩ : MethodName)) ∈ dt_W0 := dt_in (List.mem_append_left _ (List.mem_of_getElem? (i := 47) (by decide +kernel))) rfl
theorem wq_0_48 : (Cond.selects "DrawnTalksModel" (⟨"DrawnTalksModel", "areAlike", "(II)Z"⟩ : MethodName) (⟨"DrawnTalksModel", "areAlike", "(II)Z"⟩ : MethodName)) ∈ dt_W0 := dt_in (List.mem_append_left _ (List.mem_of_getElem? (i := 48) (by decide +kernel))) rfl
theorem wq_0_49 : (Cond.selects "DrawnTalksModel" (⟨"DrawnTalksModel", "isSameLine", "(III)Z"⟩ : MethodName) (⟨"DrawnTalksModel", "isSameLine", "(III)Z"⟩ : MethodName)) ∈ dt_W0 := dt_in (List.mem_append_left _ (List.mem_of_getElem? (i := 49) (by decide +kernel))) rfl
theorem wq_0_50 : (Cond.selects "DrawnTalksModel" (⟨"DrawnTalksModel", "addTalk", "(I)V"⟩ : MethodName) (⟨"DrawnTalksModel", "addTalk", "(I)V"⟩ : MethodName)) ∈ dt_W0 := dt_in (List.mem_append_left _ (List.mem_of_getElem? (i := 50) (by decide +kernel))) rfl
theorem wq_0_51 : (Cond.selects "DrawnTalksModel" (⟨"DrawnTalksModel", "plays", "(I)Z"⟩ : MethodName) (⟨"DrawnTalksModel", "plays", "(I)Z"⟩ : MethodName)) ∈ dt_W0 := dt_in (List.mem_append_left _ (List.mem_of_getElem? (i := 51) (by decide +kernel))) rfl
theorem wq_0_52 : (Cond.selects "DrawnTalksModel" (⟨"DrawnTalksModel", "canDo", "(II)Z"⟩ : MethodName) (⟨"DrawnTalksModel", "canDo", "(II)Z"⟩ : MethodName)) ∈ dt_W0 := dt_in (List.mem_append_left _ (List.mem_of_getElem? (i := 52) (by decide +kernel))) rfl
theorem wq_0_53 : (Cond.selects "DrawnTalksModel" (⟨"DrawnTalksModel", "doNext", "(II)V"⟩ : MethodName) (⟨"DrawnTalksModel", "doNext", "(II)V"⟩ : MethodName)) ∈ dt_W0 := dt_in (List.mem_append_left _ (List.mem_of_getElem? (i := 53) (by decide +kernel))) rfl
theorem wq_0_54 : (Cond.selects "DrawnTalksModel" (⟨"DrawnTalksModel", "isFirst", "(II)Z"⟩ : MethodName) (⟨"DrawnTalksModel", "isFirst", "(II)Z"⟩ : MethodName)) ∈ dt_W0 := dt_in (List.mem_append_left _ (List.mem_of_getElem? (i := 54) (by decide +kernel))) rfl
theorem wq_0_55 : (Cond.selects "DrawnTalksModel" (⟨"DrawnTalksModel", "isOfOne", "(II)Z"⟩ : MethodName) (⟨"DrawnTalksModel", "isOfOne", "(II)Z"⟩ : MethodName)) ∈ dt_W0 := dt_in (List.mem_append_left _ (List.mem_of_getElem? (i := 55) (by decide +kernel))) rfl
end
section
/-! ===== methods and classes ===== -/
theorem fwX0 : ∀ w ∈ u_ws RX0 TX0 10, w ∈ dt_W0 := by
  intro w hw
  obtain ⟨k, hk, rfl⟩ := List.mem_map.mp hw
  have hk := List.mem_range.mp hk
  match k, hk with
  | 0, _ => exact wq_1_137
  | 1, _ => exact wq_1_139
  | 2, _ => exact wq_1_141
  | 3, _ => exact wq_1_143
  | 4, _ => exact wq_1_145
  | 5, _ => exact wq_1_147
  | 6, _ => exact wq_1_149
  | 7, _ => exact wq_1_151
  | 8, _ => exact wq_1_153
  | 9, _ => exact wq_1_155
  | k + 10, h => exact absurd h (by omega)
theorem ffX0 : dt_F 0 RX0 TX0 10 := ⟨rfl, fwX0, ⟨tyX0, tyX0_ok⟩, nmX0⟩
theorem fwX1 : ∀ w ∈ u_ws RX1 TX1 4, w ∈ dt_W0 := by
  intro w hw
  obtain ⟨k, hk, rfl⟩ := List.mem_map.mp hw
  have hk := List.mem_range.mp hk
  match k, hk with
  | 0, _ => exact wq_1_208
  | 1, _ => exact wq_1_210
  | 2, _ => exact wq_1_212
  | 3, _ => exact wq_1_214
  | k + 4, h => exact absurd h (by omega)
theorem ffX1 : dt_F 1 RX1 TX1 4 := ⟨rfl, fwX1, ⟨tyX1, tyX1_ok⟩, nmX1⟩
theorem fwX2 : ∀ w ∈ u_ws RX2 TX2 10, w ∈ dt_W0 := by
  intro w hw
  obtain ⟨k, hk, rfl⟩ := List.mem_map.mp hw
  have hk := List.mem_range.mp hk
  match k, hk with
  | 0, _ => exact wq_1_177
  | 1, _ => exact wq_1_179
  | 2, _ => exact wq_1_181
  | 3, _ => exact wq_1_183
  | 4, _ => exact wq_1_185
  | 5, _ => exact wq_1_187
  | 6, _ => exact wq_1_189
  | 7, _ => exact wq_1_191
  | 8, _ => exact wq_1_193
  | 9, _ => exact wq_1_195
  | k + 10, h => exact absurd h (by omega)
theorem ffX2 : dt_F 2 RX2 TX2 10 := ⟨rfl, fwX2, ⟨tyX2, tyX2_ok⟩, nmX2⟩
theorem fwX3 : ∀ w ∈ u_ws RX3 TX3 6, w ∈ dt_W0 := by
  intro w hw
  obtain ⟨k, hk, rfl⟩ := List.mem_map.mp hw
  have hk := List.mem_range.mp hk
  match k, hk with
  | 0, _ => exact wq_1_94
  | 1, _ => exact wq_1_96
  | 2, _ => exact wq_1_98
  | 3, _ => exact wq_1_100
  | 4, _ => exact wq_1_102
  | 5, _ => exact wq_1_104
  | k + 6, h => exact absurd h (by omega)
theorem ffX3 : dt_F 3 RX3 TX3 6 := ⟨rfl, fwX3, ⟨tyX3, tyX3_ok⟩, nmX3⟩
theorem fwX4 : ∀ w ∈ u_ws RX4 TX4 1, w ∈ dt_W0 := by
  intro w hw
  obtain ⟨k, hk, rfl⟩ := List.mem_map.mp hw
  have hk := List.mem_range.mp hk
  match k, hk with
  | 0, _ => exact wq_1_114
  | k + 1, h => exact absurd h (by omega)
theorem ffX4 : dt_F 4 RX4 TX4 1 := ⟨rfl, fwX4, ⟨tyX4, tyX4_ok⟩, nmX4⟩
theorem fwX5 : ∀ w ∈ u_ws RX5 TX5 9, w ∈ dt_W0 := by
  intro w hw
  obtain ⟨k, hk, rfl⟩ := List.mem_map.mp hw
  have hk := List.mem_range.mp hk
  match k, hk with
  | 0, _ => exact wq_1_60
  | 1, _ => exact wq_1_62
  | 2, _ => exact wq_1_64
  | 3, _ => exact wq_1_66
  | 4, _ => exact wq_1_68
  | 5, _ => exact wq_1_70
  | 6, _ => exact wq_1_72
  | 7, _ => exact wq_1_74
  | 8, _ => exact wq_1_76
  | k + 9, h => exact absurd h (by omega)
theorem ffX5 : dt_F 5 RX5 TX5 9 := ⟨rfl, fwX5, ⟨tyX5, tyX5_ok⟩, nmX5⟩
theorem fwX6 : ∀ w ∈ u_ws RX6 TX6 7, w ∈ dt_W0 := by
  intro w hw
  obtain ⟨k, hk, rfl⟩ := List.mem_map.mp hw
  have hk := List.mem_range.mp hk
  match k, hk with
  | 0, _ => exact wq_1_224
  | 1, _ => exact wq_1_226
  | 2, _ => exact wq_1_228
  | 3, _ => exact wq_1_230
  | 4, _ => exact wq_1_232
  | 5, _ => exact wq_1_234
  | 6, _ => exact wq_1_236
  | k + 7, h => exact absurd h (by omega)
theorem ffX6 : dt_F 6 RX6 TX6 7 := ⟨rfl, fwX6, ⟨tyX6, tyX6_ok⟩, nmX6⟩
theorem fwX7 : ∀ w ∈ u_ws RX7 TX7 35, w ∈ dt_W0 := by
  intro w hw
  obtain ⟨k, hk, rfl⟩ := List.mem_map.mp hw
  have hk := List.mem_range.mp hk
  match k, hk with
  | 0, _ => exact wq_3_172
  | 1, _ => exact wq_3_174
  | 2, _ => exact wq_3_176
  | 3, _ => exact wq_3_178
  | 4, _ => exact wq_3_180
  | 5, _ => exact wq_3_182
  | 6, _ => exact wq_3_184
  | 7, _ => exact wq_3_186
  | 8, _ => exact wq_3_188
  | 9, _ => exact wq_3_190
  | 10, _ => exact wq_3_192
  | 11, _ => exact wq_3_194
  | 12, _ => exact wq_3_196
  | 13, _ => exact wq_3_198
  | 14, _ => exact wq_3_200
  | 15, _ => exact wq_3_202
  | 16, _ => exact wq_3_204
  | 17, _ => exact wq_3_206
  | 18, _ => exact wq_3_208
  | 19, _ => exact wq_3_210
  | 20, _ => exact wq_3_212
  | 21, _ => exact wq_3_214
  | 22, _ => exact wq_3_216
  | 23, _ => exact wq_3_218
  | 24, _ => exact wq_3_220
  | 25, _ => exact wq_3_222
  | 26, _ => exact wq_3_224
  | 27, _ => exact wq_3_226
  | 28, _ => exact wq_3_228
  | 29, _ => exact wq_3_230
  | 30, _ => exact wq_3_232
  | 31, _ => exact wq_3_234
  | 32, _ => exact wq_3_236
  | 33, _ => exact wq_3_238
  | 34, _ => exact wq_4_0
  | k + 35, h => exact absurd h (by omega)
theorem ffX7 : dt_F 7 RX7 TX7 35 := ⟨rfl, fwX7, ⟨tyX7, tyX7_ok⟩, nmX7⟩
abbrev mX0_walk : dt_Y := (yX0_walk, cX0_walk, 4, (none : Option FieldType))
theorem nnX0_walk : dt_N mX0_walk 1 := ⟨wq_2_214, wq_1_5, ⟨by decide +kernel, by decide +kernel, by decide +kernel⟩, by decide⟩
abbrev mX0_prepare : dt_Y := (yX0_prepare, cX0_prepare, 6, (some FieldType.int))
theorem nnX0_prepare : dt_N mX0_prepare 1 := ⟨wq_2_218, wq_1_5, ⟨by decide +kernel, by decide +kernel, by decide +kernel⟩, by decide⟩
abbrev mX0_visit : dt_Y := (yX0_visit, cX0_visit, 7, (none : Option FieldType))
theorem nnX0_visit : dt_N mX0_visit 3 := ⟨wq_2_226, wq_1_5, ⟨by decide +kernel, by decide +kernel, by decide +kernel⟩, by decide⟩
abbrev mX0_mayHappen : dt_Y := (yX0_mayHappen, cX0_mayHappen, 4, (some FieldType.boolean))
theorem nnX0_mayHappen : dt_N mX0_mayHappen 2 := ⟨wq_2_233, wq_1_5, ⟨by decide +kernel, by decide +kernel, by decide +kernel⟩, by decide⟩
abbrev mX0_goToNextCut : dt_Y := (yX0_goToNextCut, cX0_goToNextCut, 3, (none : Option FieldType))
theorem nnX0_goToNextCut : dt_N mX0_goToNextCut 1 := ⟨wq_2_237, wq_1_5, ⟨by decide +kernel, by decide +kernel, by decide +kernel⟩, by decide⟩
abbrev mX1_howMany : dt_Y := (yX1_howMany, cX1_howMany, 5, (some FieldType.int))
theorem nnX1_howMany : dt_N mX1_howMany 2 := ⟨wq_3_76, wq_1_7, ⟨by decide +kernel, by decide +kernel, by decide +kernel⟩, by decide⟩
abbrev mX1_newAt : dt_Y := (yX1_newAt, cX1_newAt, 5, (some FieldType.int))
theorem nnX1_newAt : dt_N mX1_newAt 2 := ⟨wq_3_116, wq_1_7, ⟨by decide +kernel, by decide +kernel, by decide +kernel⟩, by decide⟩
abbrev mX1_choose : dt_Y := (yX1_choose, cX1_choose, 4, (none : Option FieldType))
theorem nnX1_choose : dt_N mX1_choose 1 := ⟨wq_3_80, wq_1_7, ⟨by decide +kernel, by decide +kernel, by decide +kernel⟩, by decide⟩
abbrev mX1_has : dt_Y := (yX1_has, cX1_has, 2, (some FieldType.boolean))
theorem nnX1_has : dt_N mX1_has 1 := ⟨wq_3_84, wq_1_7, ⟨by decide +kernel, by decide +kernel, by decide +kernel⟩, by decide⟩
abbrev mX1_firstLike : dt_Y := (yX1_firstLike, cX1_firstLike, 4, (some FieldType.int))
theorem nnX1_firstLike : dt_N mX1_firstLike 2 := ⟨wq_3_88, wq_1_7, ⟨by decide +kernel, by decide +kernel, by decide +kernel⟩, by decide⟩
abbrev mX1_isFirst : dt_Y := (yX1_isFirst, cX1_isFirst, 4, (some FieldType.boolean))
theorem nnX1_isFirst : dt_N mX1_isFirst 1 := ⟨wq_3_93, wq_1_7, ⟨by decide +kernel, by decide +kernel, by decide +kernel⟩, by decide⟩
abbrev mX1_isSuch : dt_Y := (yX1_isSuch, cX1_isSuch, 3, (some FieldType.boolean))
theorem nnX1_isSuch : dt_N mX1_isSuch 2 := ⟨wq_3_99, wq_1_7, ⟨by decide +kernel, by decide +kernel, by decide +kernel⟩, by decide⟩
abbrev mX1_isOfOne : dt_Y := (yX1_isOfOne, cX1_isOfOne, 3, (some FieldType.boolean))
theorem nnX1_isOfOne : dt_N mX1_isOfOne 1 := ⟨wq_3_104, wq_1_7, ⟨by decide +kernel, by decide +kernel, by decide +kernel⟩, by decide⟩
abbrev mX1_isOf : dt_Y := (yX1_isOf, cX1_isOf, 4, (some FieldType.boolean))
theorem nnX1_isOf : dt_N mX1_isOf 2 := ⟨wq_3_108, wq_1_7, ⟨by decide +kernel, by decide +kernel, by decide +kernel⟩, by decide⟩
abbrev mX2_perform : dt_Y := (yX2_perform, cX2_perform, 4, (none : Option FieldType))
theorem nnX2_perform : dt_N mX2_perform 1 := ⟨wq_3_29, wq_1_6, ⟨by decide +kernel, by decide +kernel, by decide +kernel⟩, by decide⟩
abbrev mX2_ends : dt_Y := (yX2_ends, cX2_ends, 2, (some FieldType.boolean))
theorem nnX2_ends : dt_N mX2_ends 0 := ⟨wq_3_65, wq_1_6, ⟨by decide +kernel, by decide +kernel, by decide +kernel⟩, by decide⟩
abbrev mX2_copyInto : dt_Y := (yX2_copyInto, cX2_copyInto, 4, (none : Option FieldType))
theorem nnX2_copyInto : dt_N mX2_copyInto 1 := ⟨wq_3_124, wq_1_6, ⟨by decide +kernel, by decide +kernel, by decide +kernel⟩, by decide⟩
abbrev mX2_talkOf : dt_Y := (yX2_talkOf, cX2_talkOf, 2, (some (FieldType.object "DrawnTalks$Talk")))
theorem nnX2_talkOf : dt_N mX2_talkOf 1 := ⟨wq_3_37, wq_1_6, ⟨by decide +kernel, by decide +kernel, by decide +kernel⟩, by decide⟩
abbrev mX2_goToStart : dt_Y := (yX2_goToStart, cX2_goToStart, 2, (none : Option FieldType))
theorem nnX2_goToStart : dt_N mX2_goToStart 0 := ⟨wq_3_33, wq_1_6, ⟨by decide +kernel, by decide +kernel, by decide +kernel⟩, by decide⟩
abbrev mX2_goOn : dt_Y := (yX2_goOn, cX2_goOn, 2, (none : Option FieldType))
theorem nnX2_goOn : dt_N mX2_goOn 1 := ⟨wq_3_61, wq_1_6, ⟨by decide +kernel, by decide +kernel, by decide +kernel⟩, by decide⟩
abbrev mX2_firstThatCan : dt_Y := (yX2_firstThatCan, cX2_firstThatCan, 2, (some FieldType.int))
theorem nnX2_firstThatCan : dt_N mX2_firstThatCan 0 := ⟨wq_3_45, wq_1_6, ⟨by decide +kernel, by decide +kernel, by decide +kernel⟩, by decide⟩
abbrev mX2_can : dt_Y := (yX2_can, cX2_can, 5, (some FieldType.boolean))
theorem nnX2_can : dt_N mX2_can 1 := ⟨wq_3_49, wq_1_6, ⟨by decide +kernel, by decide +kernel, by decide +kernel⟩, by decide⟩
abbrev mX2_act : dt_Y := (yX2_act, cX2_act, 4, (none : Option FieldType))
theorem nnX2_act : dt_N mX2_act 1 := ⟨wq_3_53, wq_1_6, ⟨by decide +kernel, by decide +kernel, by decide +kernel⟩, by decide⟩
abbrev mX2_post : dt_Y := (yX2_post, cX2_post, 3, (none : Option FieldType))
theorem nnX2_post : dt_N mX2_post 2 := ⟨wq_3_57, wq_1_6, ⟨by decide +kernel, by decide +kernel, by decide +kernel⟩, by decide⟩
abbrev mX3_append : dt_Y := (yX3_append, cX3_append, 2, (none : Option FieldType))
theorem nnX3_append : dt_N mX3_append 1 := ⟨wq_2_6, wq_1_3, ⟨by decide +kernel, by decide +kernel, by decide +kernel⟩, by decide⟩
abbrev mX3_readInto : dt_Y := (yX3_readInto, cX3_readInto, 3, (some FieldType.int))
theorem nnX3_readInto : dt_N mX3_readInto 1 := ⟨wq_2_21, wq_1_3, ⟨by decide +kernel, by decide +kernel, by decide +kernel⟩, by decide⟩
abbrev mX3_readEvent : dt_Y := (yX3_readEvent, cX3_readEvent, 6, (some FieldType.boolean))
theorem nnX3_readEvent : dt_N mX3_readEvent 1 := ⟨wq_2_102, wq_1_3, ⟨by decide +kernel, by decide +kernel, by decide +kernel⟩, by decide⟩
abbrev mX3_nextIs : dt_Y := (yX3_nextIs, cX3_nextIs, 2, (some FieldType.boolean))
theorem nnX3_nextIs : dt_N mX3_nextIs 1 := ⟨wq_2_29, wq_1_3, ⟨by decide +kernel, by decide +kernel, by decide +kernel⟩, by decide⟩
abbrev mX3_readSign : dt_Y := (yX3_readSign, cX3_readSign, 2, (none : Option FieldType))
theorem nnX3_readSign : dt_N mX3_readSign 1 := ⟨wq_2_94, wq_1_3, ⟨by decide +kernel, by decide +kernel, by decide +kernel⟩, by decide⟩
abbrev mX3_readWord : dt_Y := (yX3_readWord, cX3_readWord, 1, (none : Option FieldType))
theorem nnX3_readWord : dt_N mX3_readWord 0 := ⟨wq_2_36, wq_1_3, ⟨by decide +kernel, by decide +kernel, by decide +kernel⟩, by decide⟩
abbrev mX3_wordIs : dt_Y := (yX3_wordIs, cX3_wordIs, 3, (some FieldType.boolean))
theorem nnX3_wordIs : dt_N mX3_wordIs 1 := ⟨wq_2_41, wq_1_3, ⟨by decide +kernel, by decide +kernel, by decide +kernel⟩, by decide⟩
abbrev mX3_isSmallLetter : dt_Y := (yX3_isSmallLetter, cX3_isSmallLetter, 1, (some FieldType.boolean))
theorem nnX3_isSmallLetter : dt_N mX3_isSmallLetter 1 := ⟨wq_2_32, wq_1_3, ⟨by decide +kernel, by decide +kernel, by decide +kernel⟩, by decide⟩
abbrev mX4_workOut : dt_Y := (yX4_workOut, cX4_workOut, 6, (none : Option FieldType))
theorem nnX4_workOut : dt_N mX4_workOut 2 := ⟨wq_2_173, wq_1_4, ⟨by decide +kernel, by decide +kernel, by decide +kernel⟩, by decide⟩
abbrev mX4_isAhead : dt_Y := (yX4_isAhead, cX4_isAhead, 3, (some FieldType.boolean))
theorem nnX4_isAhead : dt_N mX4_isAhead 2 := ⟨wq_2_181, wq_1_4, ⟨by decide +kernel, by decide +kernel, by decide +kernel⟩, by decide⟩
abbrev mX4_isDirect : dt_Y := (yX4_isDirect, cX4_isDirect, 5, (some FieldType.boolean))
theorem nnX4_isDirect : dt_N mX4_isDirect 4 := ⟨wq_2_177, wq_1_4, ⟨by decide +kernel, by decide +kernel, by decide +kernel⟩, by decide⟩
abbrev mX4_isRace : dt_Y := (yX4_isRace, cX4_isRace, 4, (some FieldType.boolean))
theorem nnX4_isRace : dt_N mX4_isRace 3 := ⟨wq_2_201, wq_1_4, ⟨by decide +kernel, by decide +kernel, by decide +kernel⟩, by decide⟩
abbrev mX4_howManyRaces : dt_Y := (yX4_howManyRaces, cX4_howManyRaces, 5, (some FieldType.int))
theorem nnX4_howManyRaces : dt_N mX4_howManyRaces 1 := ⟨wq_2_197, wq_1_4, ⟨by decide +kernel, by decide +kernel, by decide +kernel⟩, by decide⟩
abbrev mX4_raceAt : dt_Y := (yX4_raceAt, cX4_raceAt, 6, (some FieldType.int))
theorem nnX4_raceAt : dt_N mX4_raceAt 2 := ⟨wq_2_205, wq_1_4, ⟨by decide +kernel, by decide +kernel, by decide +kernel⟩, by decide⟩
abbrev mX5_empty : dt_Y := (yX5_empty, cX5_empty, 2, (none : Option FieldType))
theorem nnX5_empty : dt_N mX5_empty 0 := ⟨wq_2_25, wq_1_2, ⟨by decide +kernel, by decide +kernel, by decide +kernel⟩, by decide⟩
abbrev mX5_isWhole : dt_Y := (yX5_isWhole, cX5_isWhole, 1, (some FieldType.boolean))
theorem nnX5_isWhole : dt_N mX5_isWhole 0 := ⟨wq_2_98, wq_1_2, ⟨by decide +kernel, by decide +kernel, by decide +kernel⟩, by decide⟩
abbrev mX5_onLine : dt_Y := (yX5_onLine, cX5_onLine, 3, (some FieldType.int))
theorem nnX5_onLine : dt_N mX5_onLine 2 := ⟨wq_2_165, wq_1_2, ⟨by decide +kernel, by decide +kernel, by decide +kernel⟩, by decide⟩
abbrev mX5_partsWithEvents : dt_Y := (yX5_partsWithEvents, cX5_partsWithEvents, 3, (some FieldType.int))
theorem nnX5_partsWithEvents : dt_N mX5_partsWithEvents 0 := ⟨wq_2_143, wq_1_2, ⟨by decide +kernel, by decide +kernel, by decide +kernel⟩, by decide⟩
abbrev mX5_firstWaiting : dt_Y := (yX5_firstWaiting, cX5_firstWaiting, 5, (some FieldType.int))
theorem nnX5_firstWaiting : dt_N mX5_firstWaiting 3 := ⟨wq_2_106, wq_1_2, ⟨by decide +kernel, by decide +kernel, by decide +kernel⟩, by decide⟩
abbrev mX5_addSend : dt_Y := (yX5_addSend, cX5_addSend, 4, (none : Option FieldType))
theorem nnX5_addSend : dt_N mX5_addSend 3 := ⟨wq_2_119, wq_1_2, ⟨by decide +kernel, by decide +kernel, by decide +kernel⟩, by decide⟩
abbrev mX5_addTake : dt_Y := (yX5_addTake, cX5_addTake, 5, (none : Option FieldType))
theorem nnX5_addTake : dt_N mX5_addTake 3 := ⟨wq_2_110, wq_1_2, ⟨by decide +kernel, by decide +kernel, by decide +kernel⟩, by decide⟩
abbrev mX5_add : dt_Y := (yX5_add, cX5_add, 4, (some FieldType.boolean))
theorem nnX5_add : dt_N mX5_add 3 := ⟨wq_2_115, wq_1_2, ⟨by decide +kernel, by decide +kernel, by decide +kernel⟩, by decide⟩
abbrev mX5_addCopy : dt_Y := (yX5_addCopy, cX5_addCopy, 3, (none : Option FieldType))
theorem nnX5_addCopy : dt_N mX5_addCopy 2 := ⟨wq_2_132, wq_1_2, ⟨by decide +kernel, by decide +kernel, by decide +kernel⟩, by decide⟩
abbrev mX5_addAll : dt_Y := (yX5_addAll, cX5_addAll, 3, (none : Option FieldType))
theorem nnX5_addAll : dt_N mX5_addAll 1 := ⟨wq_2_128, wq_1_2, ⟨by decide +kernel, by decide +kernel, by decide +kernel⟩, by decide⟩
abbrev mX5_hasSameLine : dt_Y := (yX5_hasSameLine, cX5_hasSameLine, 6, (some FieldType.boolean))
theorem nnX5_hasSameLine : dt_N mX5_hasSameLine 2 := ⟨wq_3_13, wq_1_2, ⟨by decide +kernel, by decide +kernel, by decide +kernel⟩, by decide⟩
abbrev mX6_type : dt_Y := (yX6_type, cX6_type, 5, (some FieldType.int))
theorem nnX6_type : dt_N mX6_type 2 := ⟨wq_2_2, wq_1_1, ⟨by decide +kernel, by decide +kernel, by decide +kernel⟩, by decide⟩
abbrev mX6_clear : dt_Y := (yX6_clear, cX6_clear, 2, (some FieldType.int))
theorem nnX6_clear : dt_N mX6_clear 0 := ⟨wq_2_10, wq_1_1, ⟨by decide +kernel, by decide +kernel, by decide +kernel⟩, by decide⟩
abbrev mX6_talk : dt_Y := (yX6_talk, cX6_talk, 3, (some FieldType.int))
theorem nnX6_talk : dt_N mX6_talk 1 := ⟨wq_2_14, wq_1_1, ⟨by decide +kernel, by decide +kernel, by decide +kernel⟩, by decide⟩
abbrev mX6_about : dt_Y := (yX6_about, cX6_about, 3, (some FieldType.int))
theorem nnX6_about : dt_N mX6_about 2 := ⟨wq_2_139, wq_1_1, ⟨by decide +kernel, by decide +kernel, by decide +kernel⟩, by decide⟩
abbrev mX6_event : dt_Y := (yX6_event, cX6_event, 5, (some FieldType.int))
theorem nnX6_event : dt_N mX6_event 3 := ⟨wq_2_147, wq_1_1, ⟨by decide +kernel, by decide +kernel, by decide +kernel⟩, by decide⟩
abbrev mX6_line : dt_Y := (yX6_line, cX6_line, 5, (some FieldType.int))
theorem nnX6_line : dt_N mX6_line 3 := ⟨wq_2_158, wq_1_1, ⟨by decide +kernel, by decide +kernel, by decide +kernel⟩, by decide⟩
abbrev mX6_drawn : dt_Y := (yX6_drawn, cX6_drawn, 4, (some FieldType.int))
theorem nnX6_drawn : dt_N mX6_drawn 3 := ⟨wq_2_169, wq_1_1, ⟨by decide +kernel, by decide +kernel, by decide +kernel⟩, by decide⟩
abbrev mX6_kept : dt_Y := (yX6_kept, cX6_kept, 5, (some FieldType.int))
theorem nnX6_kept : dt_N mX6_kept 4 := ⟨wq_2_186, wq_1_1, ⟨by decide +kernel, by decide +kernel, by decide +kernel⟩, by decide⟩
abbrev mX6_race : dt_Y := (yX6_race, cX6_race, 4, (some FieldType.int))
theorem nnX6_race : dt_N mX6_race 3 := ⟨wq_2_193, wq_1_1, ⟨by decide +kernel, by decide +kernel, by decide +kernel⟩, by decide⟩
abbrev mX6_orders : dt_Y := (yX6_orders, cX6_orders, 2, (some FieldType.long))
theorem nnX6_orders : dt_N mX6_orders 1 := ⟨wq_2_209, wq_1_1, ⟨by decide +kernel, by decide +kernel, by decide +kernel⟩, by decide⟩
abbrev mX6_moments : dt_Y := (yX6_moments, cX6_moments, 2, (some FieldType.int))
theorem nnX6_moments : dt_N mX6_moments 1 := ⟨wq_3_1, wq_1_1, ⟨by decide +kernel, by decide +kernel, by decide +kernel⟩, by decide⟩
abbrev mX6_under : dt_Y := (yX6_under, cX6_under, 3, (some FieldType.int))
theorem nnX6_under : dt_N mX6_under 2 := ⟨wq_3_5, wq_1_1, ⟨by decide +kernel, by decide +kernel, by decide +kernel⟩, by decide⟩
abbrev mX6_alike : dt_Y := (yX6_alike, cX6_alike, 4, (some FieldType.int))
theorem nnX6_alike : dt_N mX6_alike 2 := ⟨wq_3_9, wq_1_1, ⟨by decide +kernel, by decide +kernel, by decide +kernel⟩, by decide⟩
abbrev mX6_behind : dt_Y := (yX6_behind, cX6_behind, 4, (some FieldType.int))
theorem nnX6_behind : dt_N mX6_behind 3 := ⟨wq_3_18, wq_1_1, ⟨by decide +kernel, by decide +kernel, by decide +kernel⟩, by decide⟩
abbrev mX6_play : dt_Y := (yX6_play, cX6_play, 3, (some FieldType.int))
theorem nnX6_play : dt_N mX6_play 2 := ⟨wq_3_22, wq_1_1, ⟨by decide +kernel, by decide +kernel, by decide +kernel⟩, by decide⟩
abbrev mX6_mixes : dt_Y := (yX6_mixes, cX6_mixes, 3, (some FieldType.int))
theorem nnX6_mixes : dt_N mX6_mixes 2 := ⟨wq_3_69, wq_1_1, ⟨by decide +kernel, by decide +kernel, by decide +kernel⟩, by decide⟩
abbrev mX6_fresh : dt_Y := (yX6_fresh, cX6_fresh, 3, (some FieldType.int))
theorem nnX6_fresh : dt_N mX6_fresh 2 := ⟨wq_3_112, wq_1_1, ⟨by decide +kernel, by decide +kernel, by decide +kernel⟩, by decide⟩
abbrev mX6_take : dt_Y := (yX6_take, cX6_take, 3, (some FieldType.int))
theorem nnX6_take : dt_N mX6_take 2 := ⟨wq_3_120, wq_1_1, ⟨by decide +kernel, by decide +kernel, by decide +kernel⟩, by decide⟩
abbrev mX6_count : dt_Y := (yX6_count, cX6_count, 4, (some FieldType.int))
theorem nnX6_count : dt_N mX6_count 1 := ⟨wq_3_130, wq_1_1, ⟨by decide +kernel, by decide +kernel, by decide +kernel⟩, by decide⟩
abbrev mX6_keepBuilt : dt_Y := (yX6_keepBuilt, cX6_keepBuilt, 2, (some FieldType.int))
theorem nnX6_keepBuilt : dt_N mX6_keepBuilt 1 := ⟨wq_2_123, wq_1_1, ⟨by decide +kernel, by decide +kernel, by decide +kernel⟩, by decide⟩
abbrev mX6_isEvent : dt_Y := (yX6_isEvent, cX6_isEvent, 3, (some FieldType.boolean))
theorem nnX6_isEvent : dt_N mX6_isEvent 2 := ⟨wq_2_151, wq_1_1, ⟨by decide +kernel, by decide +kernel, by decide +kernel⟩, by decide⟩
abbrev mX6_isTalk : dt_Y := (yX6_isTalk, cX6_isTalk, 1, (some FieldType.boolean))
theorem nnX6_isTalk : dt_N mX6_isTalk 1 := ⟨wq_2_17, wq_1_1, ⟨by decide +kernel, by decide +kernel, by decide +kernel⟩, by decide⟩
abbrev mX6_isPart : dt_Y := (yX6_isPart, cX6_isPart, 1, (some FieldType.boolean))
theorem nnX6_isPart : dt_N mX6_isPart 1 := ⟨wq_2_161, wq_1_1, ⟨by decide +kernel, by decide +kernel, by decide +kernel⟩, by decide⟩
abbrev mX6_isWay : dt_Y := (yX6_isWay, cX6_isWay, 1, (some FieldType.boolean))
theorem nnX6_isWay : dt_N mX6_isWay 1 := ⟨wq_2_189, wq_1_1, ⟨by decide +kernel, by decide +kernel, by decide +kernel⟩, by decide⟩
abbrev mX6_isMix : dt_Y := (yX6_isMix, cX6_isMix, 1, (some FieldType.boolean))
theorem nnX6_isMix : dt_N mX6_isMix 1 := ⟨wq_3_25, wq_1_1, ⟨by decide +kernel, by decide +kernel, by decide +kernel⟩, by decide⟩
abbrev mX6_isSet : dt_Y := (yX6_isSet, cX6_isSet, 1, (some FieldType.boolean))
theorem nnX6_isSet : dt_N mX6_isSet 1 := ⟨wq_3_72, wq_1_1, ⟨by decide +kernel, by decide +kernel, by decide +kernel⟩, by decide⟩
abbrev mX6_asNumber : dt_Y := (yX6_asNumber, cX6_asNumber, 1, (some FieldType.int))
theorem nnX6_asNumber : dt_N mX6_asNumber 1 := ⟨wq_2_154, wq_1_1, ⟨by decide +kernel, by decide +kernel, by decide +kernel⟩, by decide⟩
abbrev mX6_choice : dt_Y := (yX6_choice, cX6_choice, 2, (some FieldType.int))
theorem nnX6_choice : dt_N mX6_choice 2 := ⟨wq_3_40, wq_1_1, ⟨by decide +kernel, by decide +kernel, by decide +kernel⟩, by decide⟩
abbrev mX7_in : dt_Y := (yX7_in, cX7_in, 6, (some FieldType.boolean))
theorem nnX7_in : dt_N mX7_in 3 := ⟨wq_4_10, wq_1_8, ⟨by decide +kernel, by decide +kernel, by decide +kernel⟩, by decide⟩
abbrev mX7_hasBit : dt_Y := (yX7_hasBit, cX7_hasBit, 2, (some FieldType.boolean))
theorem nnX7_hasBit : dt_N mX7_hasBit 2 := ⟨wq_4_205, wq_1_8, ⟨by decide +kernel, by decide +kernel, by decide +kernel⟩, by decide⟩
abbrev mX7_noTalk : dt_Y := (yX7_noTalk, cX7_noTalk, 1, (some FieldType.boolean))
theorem nnX7_noTalk : dt_N mX7_noTalk 1 := ⟨wq_4_22, wq_1_8, ⟨by decide +kernel, by decide +kernel, by decide +kernel⟩, by decide⟩
abbrev mX7_type : dt_Y := (yX7_type, cX7_type, 5, (some FieldType.int))
theorem nnX7_type : dt_N mX7_type 2 := ⟨wq_4_6, wq_1_8, ⟨by decide +kernel, by decide +kernel, by decide +kernel⟩, by decide⟩
abbrev mX7_clear : dt_Y := (yX7_clear, cX7_clear, 2, (some FieldType.int))
theorem nnX7_clear : dt_N mX7_clear 0 := ⟨wq_4_15, wq_1_8, ⟨by decide +kernel, by decide +kernel, by decide +kernel⟩, by decide⟩
abbrev mX7_wordBy : dt_Y := (yX7_wordBy, cX7_wordBy, 2, (some FieldType.int))
theorem nnX7_wordBy : dt_N mX7_wordBy 1 := ⟨wq_4_45, wq_1_8, ⟨by decide +kernel, by decide +kernel, by decide +kernel⟩, by decide⟩
abbrev mX7_readToken : dt_Y := (yX7_readToken, cX7_readToken, 4, (none : Option FieldType))
theorem nnX7_readToken : dt_N mX7_readToken 0 := ⟨wq_4_35, wq_1_8, ⟨by decide +kernel, by decide +kernel, by decide +kernel⟩, by decide⟩
abbrev mX7_openSend : dt_Y := (yX7_openSend, cX7_openSend, 6, (some FieldType.int))
theorem nnX7_openSend : dt_N mX7_openSend 3 := ⟨wq_4_56, wq_1_8, ⟨by decide +kernel, by decide +kernel, by decide +kernel⟩, by decide⟩
abbrev mX7_addEvent : dt_Y := (yX7_addEvent, cX7_addEvent, 6, (none : Option FieldType))
theorem nnX7_addEvent : dt_N mX7_addEvent 5 := ⟨wq_4_60, wq_1_8, ⟨by decide +kernel, by decide +kernel, by decide +kernel⟩, by decide⟩
abbrev mX7_beginTalk : dt_Y := (yX7_beginTalk, cX7_beginTalk, 1, (none : Option FieldType))
theorem nnX7_beginTalk : dt_N mX7_beginTalk 0 := ⟨wq_4_31, wq_1_8, ⟨by decide +kernel, by decide +kernel, by decide +kernel⟩, by decide⟩
abbrev mX7_readsEvent : dt_Y := (yX7_readsEvent, cX7_readsEvent, 6, (some FieldType.boolean))
theorem nnX7_readsEvent : dt_N mX7_readsEvent 1 := ⟨wq_4_51, wq_1_8, ⟨by decide +kernel, by decide +kernel, by decide +kernel⟩, by decide⟩
abbrev mX7_readTalk : dt_Y := (yX7_readTalk, cX7_readTalk, 2, (some FieldType.int))
theorem nnX7_readTalk : dt_N mX7_readTalk 0 := ⟨wq_4_27, wq_1_8, ⟨by decide +kernel, by decide +kernel, by decide +kernel⟩, by decide⟩
abbrev mX7_keep : dt_Y := (yX7_keep, cX7_keep, 5, (some FieldType.int))
theorem nnX7_keep : dt_N mX7_keep 1 := ⟨wq_4_64, wq_1_8, ⟨by decide +kernel, by decide +kernel, by decide +kernel⟩, by decide⟩
abbrev mX7_talk : dt_Y := (yX7_talk, cX7_talk, 3, (some FieldType.int))
theorem nnX7_talk : dt_N mX7_talk 1 := ⟨wq_4_19, wq_1_8, ⟨by decide +kernel, by decide +kernel, by decide +kernel⟩, by decide⟩
abbrev mX7_about : dt_Y := (yX7_about, cX7_about, 5, (some FieldType.int))
theorem nnX7_about : dt_N mX7_about 2 := ⟨wq_4_68, wq_1_8, ⟨by decide +kernel, by decide +kernel, by decide +kernel⟩, by decide⟩
abbrev mX7_noEvent : dt_Y := (yX7_noEvent, cX7_noEvent, 3, (some FieldType.boolean))
theorem nnX7_noEvent : dt_N mX7_noEvent 2 := ⟨wq_4_77, wq_1_8, ⟨by decide +kernel, by decide +kernel, by decide +kernel⟩, by decide⟩
abbrev mX7_event : dt_Y := (yX7_event, cX7_event, 5, (some FieldType.int))
theorem nnX7_event : dt_N mX7_event 3 := ⟨wq_4_73, wq_1_8, ⟨by decide +kernel, by decide +kernel, by decide +kernel⟩, by decide⟩
abbrev mX7_line : dt_Y := (yX7_line, cX7_line, 5, (some FieldType.int))
theorem nnX7_line : dt_N mX7_line 3 := ⟨wq_4_81, wq_1_8, ⟨by decide +kernel, by decide +kernel, by decide +kernel⟩, by decide⟩
abbrev mX7_clearAhead : dt_Y := (yX7_clearAhead, cX7_clearAhead, 2, (none : Option FieldType))
theorem nnX7_clearAhead : dt_N mX7_clearAhead 0 := ⟨wq_4_94, wq_1_8, ⟨by decide +kernel, by decide +kernel, by decide +kernel⟩, by decide⟩
abbrev mX7_closeAhead : dt_Y := (yX7_closeAhead, cX7_closeAhead, 5, (none : Option FieldType))
theorem nnX7_closeAhead : dt_N mX7_closeAhead 1 := ⟨wq_4_106, wq_1_8, ⟨by decide +kernel, by decide +kernel, by decide +kernel⟩, by decide⟩
abbrev mX7_layMates : dt_Y := (yX7_layMates, cX7_layMates, 3, (none : Option FieldType))
theorem nnX7_layMates : dt_N mX7_layMates 1 := ⟨wq_4_98, wq_1_8, ⟨by decide +kernel, by decide +kernel, by decide +kernel⟩, by decide⟩
abbrev mX7_onOneLine : dt_Y := (yX7_onOneLine, cX7_onOneLine, 4, (some FieldType.boolean))
theorem nnX7_onOneLine : dt_N mX7_onOneLine 3 := ⟨wq_4_102, wq_1_8, ⟨by decide +kernel, by decide +kernel, by decide +kernel⟩, by decide⟩
abbrev mX7_layDrawn : dt_Y := (yX7_layDrawn, cX7_layDrawn, 4, (none : Option FieldType))
theorem nnX7_layDrawn : dt_N mX7_layDrawn 1 := ⟨wq_4_90, wq_1_8, ⟨by decide +kernel, by decide +kernel, by decide +kernel⟩, by decide⟩
abbrev mX7_isKeptTake : dt_Y := (yX7_isKeptTake, cX7_isKeptTake, 7, (some FieldType.boolean))
theorem nnX7_isKeptTake : dt_N mX7_isKeptTake 4 := ⟨wq_4_118, wq_1_8, ⟨by decide +kernel, by decide +kernel, by decide +kernel⟩, by decide⟩
abbrev mX7_layKept : dt_Y := (yX7_layKept, cX7_layKept, 7, (none : Option FieldType))
theorem nnX7_layKept : dt_N mX7_layKept 2 := ⟨wq_4_114, wq_1_8, ⟨by decide +kernel, by decide +kernel, by decide +kernel⟩, by decide⟩
abbrev mX7_drawn : dt_Y := (yX7_drawn, cX7_drawn, 4, (some FieldType.int))
theorem nnX7_drawn : dt_N mX7_drawn 3 := ⟨wq_4_86, wq_1_8, ⟨by decide +kernel, by decide +kernel, by decide +kernel⟩, by decide⟩
abbrev mX7_kept : dt_Y := (yX7_kept, cX7_kept, 5, (some FieldType.int))
theorem nnX7_kept : dt_N mX7_kept 4 := ⟨wq_4_110, wq_1_8, ⟨by decide +kernel, by decide +kernel, by decide +kernel⟩, by decide⟩
abbrev mX7_race : dt_Y := (yX7_race, cX7_race, 8, (some FieldType.int))
theorem nnX7_race : dt_N mX7_race 3 := ⟨wq_4_122, wq_1_8, ⟨by decide +kernel, by decide +kernel, by decide +kernel⟩, by decide⟩
abbrev mX7_come : dt_Y := (yX7_come, cX7_come, 3, (some FieldType.int))
theorem nnX7_come : dt_N mX7_come 2 := ⟨wq_4_142, wq_1_8, ⟨by decide +kernel, by decide +kernel, by decide +kernel⟩, by decide⟩
abbrev mX7_underAt : dt_Y := (yX7_underAt, cX7_underAt, 6, (some FieldType.int))
theorem nnX7_underAt : dt_N mX7_underAt 1 := ⟨wq_4_134, wq_1_8, ⟨by decide +kernel, by decide +kernel, by decide +kernel⟩, by decide⟩
abbrev mX7_isDone : dt_Y := (yX7_isDone, cX7_isDone, 7, (some FieldType.boolean))
theorem nnX7_isDone : dt_N mX7_isDone 2 := ⟨wq_4_138, wq_1_8, ⟨by decide +kernel, by decide +kernel, by decide +kernel⟩, by decide⟩
abbrev mX7_layMoments : dt_Y := (yX7_layMoments, cX7_layMoments, 4, (none : Option FieldType))
theorem nnX7_layMoments : dt_N mX7_layMoments 1 := ⟨wq_4_130, wq_1_8, ⟨by decide +kernel, by decide +kernel, by decide +kernel⟩, by decide⟩
abbrev mX7_layMoment : dt_Y := (yX7_layMoment, cX7_layMoment, 6, (none : Option FieldType))
theorem nnX7_layMoment : dt_N mX7_layMoment 2 := ⟨wq_4_146, wq_1_8, ⟨by decide +kernel, by decide +kernel, by decide +kernel⟩, by decide⟩
abbrev mX7_orders : dt_Y := (yX7_orders, cX7_orders, 2, (some FieldType.long))
theorem nnX7_orders : dt_N mX7_orders 1 := ⟨wq_4_126, wq_1_8, ⟨by decide +kernel, by decide +kernel, by decide +kernel⟩, by decide⟩
abbrev mX7_moments : dt_Y := (yX7_moments, cX7_moments, 2, (some FieldType.int))
theorem nnX7_moments : dt_N mX7_moments 1 := ⟨wq_4_150, wq_1_8, ⟨by decide +kernel, by decide +kernel, by decide +kernel⟩, by decide⟩
abbrev mX7_under : dt_Y := (yX7_under, cX7_under, 3, (some FieldType.int))
theorem nnX7_under : dt_N mX7_under 2 := ⟨wq_4_154, wq_1_8, ⟨by decide +kernel, by decide +kernel, by decide +kernel⟩, by decide⟩
abbrev mX7_isSameLine : dt_Y := (yX7_isSameLine, cX7_isSameLine, 8, (some FieldType.boolean))
theorem nnX7_isSameLine : dt_N mX7_isSameLine 3 := ⟨wq_4_166, wq_1_8, ⟨by decide +kernel, by decide +kernel, by decide +kernel⟩, by decide⟩
abbrev mX7_areAlike : dt_Y := (yX7_areAlike, cX7_areAlike, 3, (some FieldType.boolean))
theorem nnX7_areAlike : dt_N mX7_areAlike 2 := ⟨wq_4_162, wq_1_8, ⟨by decide +kernel, by decide +kernel, by decide +kernel⟩, by decide⟩
abbrev mX7_alike : dt_Y := (yX7_alike, cX7_alike, 3, (some FieldType.int))
theorem nnX7_alike : dt_N mX7_alike 2 := ⟨wq_4_158, wq_1_8, ⟨by decide +kernel, by decide +kernel, by decide +kernel⟩, by decide⟩
abbrev mX7_addTalk : dt_Y := (yX7_addTalk, cX7_addTalk, 5, (none : Option FieldType))
theorem nnX7_addTalk : dt_N mX7_addTalk 1 := ⟨wq_4_174, wq_1_8, ⟨by decide +kernel, by decide +kernel, by decide +kernel⟩, by decide⟩
abbrev mX7_behind : dt_Y := (yX7_behind, cX7_behind, 4, (some FieldType.int))
theorem nnX7_behind : dt_N mX7_behind 3 := ⟨wq_4_170, wq_1_8, ⟨by decide +kernel, by decide +kernel, by decide +kernel⟩, by decide⟩
abbrev mX7_talkOf : dt_Y := (yX7_talkOf, cX7_talkOf, 2, (some FieldType.int))
theorem nnX7_talkOf : dt_N mX7_talkOf 2 := ⟨wq_4_189, wq_1_8, ⟨by decide +kernel, by decide +kernel, by decide +kernel⟩, by decide⟩
abbrev mX7_canDo : dt_Y := (yX7_canDo, cX7_canDo, 6, (some FieldType.boolean))
theorem nnX7_canDo : dt_N mX7_canDo 2 := ⟨wq_4_186, wq_1_8, ⟨by decide +kernel, by decide +kernel, by decide +kernel⟩, by decide⟩
abbrev mX7_doNext : dt_Y := (yX7_doNext, cX7_doNext, 5, (none : Option FieldType))
theorem nnX7_doNext : dt_N mX7_doNext 2 := ⟨wq_4_193, wq_1_8, ⟨by decide +kernel, by decide +kernel, by decide +kernel⟩, by decide⟩
abbrev mX7_plays : dt_Y := (yX7_plays, cX7_plays, 5, (some FieldType.boolean))
theorem nnX7_plays : dt_N mX7_plays 1 := ⟨wq_4_182, wq_1_8, ⟨by decide +kernel, by decide +kernel, by decide +kernel⟩, by decide⟩
abbrev mX7_play : dt_Y := (yX7_play, cX7_play, 4, (some FieldType.int))
theorem nnX7_play : dt_N mX7_play 2 := ⟨wq_4_178, wq_1_8, ⟨by decide +kernel, by decide +kernel, by decide +kernel⟩, by decide⟩
abbrev mX7_isFirst : dt_Y := (yX7_isFirst, cX7_isFirst, 7, (some FieldType.boolean))
theorem nnX7_isFirst : dt_N mX7_isFirst 2 := ⟨wq_4_202, wq_1_8, ⟨by decide +kernel, by decide +kernel, by decide +kernel⟩, by decide⟩
abbrev mX7_isOfOne : dt_Y := (yX7_isOfOne, cX7_isOfOne, 7, (some FieldType.boolean))
theorem nnX7_isOfOne : dt_N mX7_isOfOne 2 := ⟨wq_4_209, wq_1_8, ⟨by decide +kernel, by decide +kernel, by decide +kernel⟩, by decide⟩
abbrev mX7_mixes : dt_Y := (yX7_mixes, cX7_mixes, 6, (some FieldType.int))
theorem nnX7_mixes : dt_N mX7_mixes 2 := ⟨wq_4_197, wq_1_8, ⟨by decide +kernel, by decide +kernel, by decide +kernel⟩, by decide⟩
abbrev mX7_fresh : dt_Y := (yX7_fresh, cX7_fresh, 5, (some FieldType.int))
theorem nnX7_fresh : dt_N mX7_fresh 2 := ⟨wq_4_213, wq_1_8, ⟨by decide +kernel, by decide +kernel, by decide +kernel⟩, by decide⟩
abbrev mX7_take : dt_Y := (yX7_take, cX7_take, 6, (some FieldType.int))
theorem nnX7_take : dt_N mX7_take 2 := ⟨wq_4_217, wq_1_8, ⟨by decide +kernel, by decide +kernel, by decide +kernel⟩, by decide⟩
abbrev mX7_count : dt_Y := (yX7_count, cX7_count, 2, (some FieldType.int))
theorem nnX7_count : dt_N mX7_count 1 := ⟨wq_4_221, wq_1_8, ⟨by decide +kernel, by decide +kernel, by decide +kernel⟩, by decide⟩
theorem dt_Sb {y : dt_Y} {pc k : Nat} {a b : dt_T} (ha : dt_S y a pc) (hb : dt_S y b pc) : dt_S y (cond (Nat.ble pc k) a b) pc := by
  cases Nat.ble pc k
  · exact hb
  · exact ha
theorem dt_Sl {y : dt_Y} {pc : Nat} {t : dt_T} (k : Nat) (h : dt_S y t k) : dt_S y (cond (Nat.beq pc k) t tc_no) pc := by
  cases hq : Nat.beq pc k
  · exact sn_no
  · have := Nat.eq_of_beq_eq_true hq
    subst this
    exact h
end
section
/-! ===== DrawnTalks$Talk: decode rows, step tables ===== -/
theorem dX5_empty_0 : decode cX5_empty 0 = .ok (.aload_n 0, 1) := by decide +kernel
theorem dX5_empty_1 : decode cX5_empty 1 = .ok (.iconst 0, 1) := by decide +kernel
theorem dX5_empty_2 : decode cX5_empty 2 = .ok (.putfield 34, 3) := by decide +kernel
theorem dX5_empty_5 : decode cX5_empty 5 = .ok (.aload_n 0, 1) := by decide +kernel
theorem dX5_empty_6 : decode cX5_empty 6 = .ok (.iconst 0, 1) := by decide +kernel
theorem dX5_empty_7 : decode cX5_empty 7 = .ok (.putfield 38, 3) := by decide +kernel
theorem dX5_empty_10 : decode cX5_empty 10 = .ok (.iconst 0, 1) := by decide +kernel
theorem dX5_empty_11 : decode cX5_empty 11 = .ok (.istore_n 1, 1) := by decide +kernel
theorem dX5_empty_12 : decode cX5_empty 12 = .ok (.iload_n 1, 1) := by decide +kernel
theorem dX5_empty_13 : decode cX5_empty 13 = .ok (.iconst 4, 1) := by decide +kernel
theorem dX5_empty_14 : decode cX5_empty 14 = .ok (.if_icmp .ge 16, 3) := by decide +kernel
theorem dX5_empty_17 : decode cX5_empty 17 = .ok (.aload_n 0, 1) := by decide +kernel
theorem dX5_empty_18 : decode cX5_empty 18 = .ok (.getfield 28, 3) := by decide +kernel
theorem dX5_empty_21 : decode cX5_empty 21 = .ok (.iload_n 1, 1) := by decide +kernel
theorem dX5_empty_22 : decode cX5_empty 22 = .ok (.iconst 0, 1) := by decide +kernel
theorem dX5_empty_23 : decode cX5_empty 23 = .ok (.iastore, 1) := by decide +kernel
theorem dX5_empty_24 : decode cX5_empty 24 = .ok (.iinc 1 1, 3) := by decide +kernel
theorem dX5_empty_27 : decode cX5_empty 27 = .ok (.goto (-15), 3) := by decide +kernel
theorem dX5_empty_30 : decode cX5_empty 30 = .ok (.return_, 1) := by decide +kernel
def tbX5_empty (pc : Nat) : dt_T := cond (Nat.ble pc 12) (cond (Nat.ble pc 5) (cond (Nat.ble pc 1) (cond (Nat.ble pc 0) (cond (Nat.beq pc 0) (tc_ldA 0 1) tc_no) (cond (Nat.beq pc 1) (tc_ic 0 2) tc_no)) (cond (Nat.ble pc 2) (cond (Nat.beq pc 2) (tc_putI 5 7 5) tc_no) (cond (Nat.beq pc 5) (tc_ldA 0 6) tc_no))) (cond (Nat.ble pc 7) (cond (Nat.ble pc 6) (cond (Nat.beq pc 6) (tc_ic 0 7) tc_no) (cond (Nat.beq pc 7) (tc_putI 5 8 10) tc_no)) (cond (Nat.ble pc 10) (cond (Nat.beq pc 10) (tc_ic 0 11) tc_no) (cond (Nat.ble pc 11) (cond (Nat.beq pc 11) (tc_stI 1 12) tc_no) (cond (Nat.beq pc 12) (tc_ldI 1 13) tc_no))))) (cond (Nat.ble pc 21) (cond (Nat.ble pc 14) (cond (Nat.ble pc 13) (cond (Nat.beq pc 13) (tc_ic 4 14) tc_no) (cond (Nat.beq pc 14) (tc_icmpge 30 17) tc_no)) (cond (Nat.ble pc 17) (cond (Nat.beq pc 17) (tc_ldA 0 18) tc_no) (cond (Nat.ble pc 18) (cond (Nat.beq pc 18) (tc_getf 5 5 21) tc_no) (cond (Nat.beq pc 21) (tc_ldI 1 22) tc_no)))) (cond (Nat.ble pc 23) (cond (Nat.ble pc 22) (cond (Nat.beq pc 22) (tc_ic 0 23) tc_no) (cond (Nat.beq pc 23) (tc_iast 24) tc_no)) (cond (Nat.ble pc 24) (cond (Nat.beq pc 24) (tc_iinc 1 1 27) tc_no) (cond (Nat.ble pc 27) (cond (Nat.beq pc 27) (tc_goto 12) tc_no) (cond (Nat.beq pc 30) (tc_ret) tc_no)))))
theorem okX5_empty : ∀ pc, dt_S mX5_empty (tbX5_empty pc) pc := by
  intro pc
  unfold tbX5_empty
  exact dt_Sb (dt_Sb (dt_Sb (dt_Sb (dt_Sl 0 (sn_ldAn rfl dX5_empty_0 rfl)) (dt_Sl 1 (sn_ic ⟨by decide, by decide⟩ dX5_empty_1 rfl))) (dt_Sb (dt_Sl 2 (sn_putI rfl ffX5 (by decide) rfl rfl (by decide +kernel) wq_1_53 dX5_empty_2 rfl)) (dt_Sl 5 (sn_ldAn rfl dX5_empty_5 rfl)))) (dt_Sb (dt_Sb (dt_Sl 6 (sn_ic ⟨by decide, by decide⟩ dX5_empty_6 rfl)) (dt_Sl 7 (sn_putI rfl ffX5 (by decide) rfl rfl (by decide +kernel) wq_1_57 dX5_empty_7 rfl))) (dt_Sb (dt_Sl 10 (sn_ic ⟨by decide, by decide⟩ dX5_empty_10 rfl)) (dt_Sb (dt_Sl 11 (sn_stIn rfl (by decide) dX5_empty_11 rfl)) (dt_Sl 12 (sn_ldIn rfl dX5_empty_12 rfl)))))) (dt_Sb (dt_Sb (dt_Sb (dt_Sl 13 (sn_ic ⟨by decide, by decide⟩ dX5_empty_13 rfl)) (dt_Sl 14 (sn_icmpge dX5_empty_14 (by decide) rfl))) (dt_Sb (dt_Sl 17 (sn_ldAn rfl dX5_empty_17 rfl)) (dt_Sb (dt_Sl 18 (sn_getf rfl ffX5 (by decide) wq_1_49 dX5_empty_18 rfl)) (dt_Sl 21 (sn_ldIn rfl dX5_empty_21 rfl))))) (dt_Sb (dt_Sb (dt_Sl 22 (sn_ic ⟨by decide, by decide⟩ dX5_empty_22 rfl)) (dt_Sl 23 (sn_iast dX5_empty_23 rfl))) (dt_Sb (dt_Sl 24 (sn_iinc (by decide) dX5_empty_24 rfl)) (dt_Sb (dt_Sl 27 (sn_goto dX5_empty_27 (by decide))) (dt_Sl 30 (sn_ret rfl dX5_empty_30))))))
theorem dX5_isWhole_0 : decode cX5_isWhole 0 = .ok (.aload_n 0, 1) := by decide +kernel
theorem dX5_isWhole_1 : decode cX5_isWhole 1 = .ok (.getfield 34, 3) := by decide +kernel
theorem dX5_isWhole_4 : decode cX5_isWhole 4 = .ok (.iconst 2, 1) := by decide +kernel
theorem dX5_isWhole_5 : decode cX5_isWhole 5 = .ok (.aload_n 0, 1) := by decide +kernel
theorem dX5_isWhole_6 : decode cX5_isWhole 6 = .ok (.getfield 38, 3) := by decide +kernel
theorem dX5_isWhole_9 : decode cX5_isWhole 9 = .ok (.imul, 1) := by decide +kernel
theorem dX5_isWhole_10 : decode cX5_isWhole 10 = .ok (.if_icmp .ne 7, 3) := by decide +kernel
theorem dX5_isWhole_13 : decode cX5_isWhole 13 = .ok (.iconst 1, 1) := by decide +kernel
theorem dX5_isWhole_14 : decode cX5_isWhole 14 = .ok (.goto 4, 3) := by decide +kernel
theorem dX5_isWhole_17 : decode cX5_isWhole 17 = .ok (.iconst 0, 1) := by decide +kernel
theorem dX5_isWhole_18 : decode cX5_isWhole 18 = .ok (.ireturn, 1) := by decide +kernel
def tbX5_isWhole (pc : Nat) : dt_T := cond (Nat.ble pc 6) (cond (Nat.ble pc 1) (cond (Nat.ble pc 0) (cond (Nat.beq pc 0) (tc_ldA 0 1) tc_no) (cond (Nat.beq pc 1) (tc_getf 5 7 4) tc_no)) (cond (Nat.ble pc 4) (cond (Nat.beq pc 4) (tc_ic 2 5) tc_no) (cond (Nat.ble pc 5) (cond (Nat.beq pc 5) (tc_ldA 0 6) tc_no) (cond (Nat.beq pc 6) (tc_getf 5 8 9) tc_no)))) (cond (Nat.ble pc 13) (cond (Nat.ble pc 9) (cond (Nat.beq pc 9) (tc_imul 10) tc_no) (cond (Nat.ble pc 10) (cond (Nat.beq pc 10) (tc_icmpne 17 13) tc_no) (cond (Nat.beq pc 13) (tc_ic 1 14) tc_no))) (cond (Nat.ble pc 14) (cond (Nat.beq pc 14) (tc_goto 18) tc_no) (cond (Nat.ble pc 17) (cond (Nat.beq pc 17) (tc_ic 0 18) tc_no) (cond (Nat.beq pc 18) (tc_zret) tc_no))))
theorem okX5_isWhole : ∀ pc, dt_S mX5_isWhole (tbX5_isWhole pc) pc := by
  intro pc
  unfold tbX5_isWhole
  exact dt_Sb (dt_Sb (dt_Sb (dt_Sl 0 (sn_ldAn rfl dX5_isWhole_0 rfl)) (dt_Sl 1 (sn_getf rfl ffX5 (by decide) wq_1_53 dX5_isWhole_1 rfl))) (dt_Sb (dt_Sl 4 (sn_ic ⟨by decide, by decide⟩ dX5_isWhole_4 rfl)) (dt_Sb (dt_Sl 5 (sn_ldAn rfl dX5_isWhole_5 rfl)) (dt_Sl 6 (sn_getf rfl ffX5 (by decide) wq_1_57 dX5_isWhole_6 rfl))))) (dt_Sb (dt_Sb (dt_Sl 9 (sn_imul dX5_isWhole_9 rfl)) (dt_Sb (dt_Sl 10 (sn_icmpne dX5_isWhole_10 (by decide) rfl)) (dt_Sl 13 (sn_ic ⟨by decide, by decide⟩ dX5_isWhole_13 rfl)))) (dt_Sb (dt_Sl 14 (sn_goto dX5_isWhole_14 (by decide))) (dt_Sb (dt_Sl 17 (sn_ic ⟨by decide, by decide⟩ dX5_isWhole_17 rfl)) (dt_Sl 18 (sn_zret rfl dX5_isWhole_18)))))
theorem dX5_onLine_0 : decode cX5_onLine 0 = .ok (.iload_n 1, 1) := by decide +kernel
theorem dX5_onLine_1 : decode cX5_onLine 1 = .ok (.ifCond .lt 22, 3) := by decide +kernel
theorem dX5_onLine_4 : decode cX5_onLine 4 = .ok (.iload_n 1, 1) := by decide +kernel
theorem dX5_onLine_5 : decode cX5_onLine 5 = .ok (.iconst 4, 1) := by decide +kernel
theorem dX5_onLine_6 : decode cX5_onLine 6 = .ok (.if_icmp .ge 17, 3) := by decide +kernel
theorem dX5_onLine_9 : decode cX5_onLine 9 = .ok (.iload_n 2, 1) := by decide +kernel
theorem dX5_onLine_10 : decode cX5_onLine 10 = .ok (.ifCond .lt 13, 3) := by decide +kernel
theorem dX5_onLine_13 : decode cX5_onLine 13 = .ok (.iload_n 2, 1) := by decide +kernel
theorem dX5_onLine_14 : decode cX5_onLine 14 = .ok (.aload_n 0, 1) := by decide +kernel
theorem dX5_onLine_15 : decode cX5_onLine 15 = .ok (.getfield 28, 3) := by decide +kernel
theorem dX5_onLine_18 : decode cX5_onLine 18 = .ok (.iload_n 1, 1) := by decide +kernel
theorem dX5_onLine_19 : decode cX5_onLine 19 = .ok (.iaload, 1) := by decide +kernel
theorem dX5_onLine_20 : decode cX5_onLine 20 = .ok (.if_icmp .lt 5, 3) := by decide +kernel
theorem dX5_onLine_23 : decode cX5_onLine 23 = .ok (.iconst (-1), 1) := by decide +kernel
theorem dX5_onLine_24 : decode cX5_onLine 24 = .ok (.ireturn, 1) := by decide +kernel
theorem dX5_onLine_25 : decode cX5_onLine 25 = .ok (.aload_n 0, 1) := by decide +kernel
theorem dX5_onLine_26 : decode cX5_onLine 26 = .ok (.getfield 31, 3) := by decide +kernel
theorem dX5_onLine_29 : decode cX5_onLine 29 = .ok (.iload_n 1, 1) := by decide +kernel
theorem dX5_onLine_30 : decode cX5_onLine 30 = .ok (.bipush 10, 2) := by decide +kernel
theorem dX5_onLine_32 : decode cX5_onLine 32 = .ok (.imul, 1) := by decide +kernel
theorem dX5_onLine_33 : decode cX5_onLine 33 = .ok (.iload_n 2, 1) := by decide +kernel
theorem dX5_onLine_34 : decode cX5_onLine 34 = .ok (.iadd, 1) := by decide +kernel
theorem dX5_onLine_35 : decode cX5_onLine 35 = .ok (.iaload, 1) := by decide +kernel
theorem dX5_onLine_36 : decode cX5_onLine 36 = .ok (.ireturn, 1) := by decide +kernel
def tbX5_onLine (pc : Nat) : dt_T := cond (Nat.ble pc 19) (cond (Nat.ble pc 9) (cond (Nat.ble pc 4) (cond (Nat.ble pc 0) (cond (Nat.beq pc 0) (tc_ldI 1 1) tc_no) (cond (Nat.ble pc 1) (cond (Nat.beq pc 1) (tc_iflt 23 4) tc_no) (cond (Nat.beq pc 4) (tc_ldI 1 5) tc_no))) (cond (Nat.ble pc 5) (cond (Nat.beq pc 5) (tc_ic 4 6) tc_no) (cond (Nat.ble pc 6) (cond (Nat.beq pc 6) (tc_icmpge 23 9) tc_no) (cond (Nat.beq pc 9) (tc_ldI 2 10) tc_no)))) (cond (Nat.ble pc 14) (cond (Nat.ble pc 10) (cond (Nat.beq pc 10) (tc_iflt 23 13) tc_no) (cond (Nat.ble pc 13) (cond (Nat.beq pc 13) (tc_ldI 2 14) tc_no) (cond (Nat.beq pc 14) (tc_ldA 0 15) tc_no))) (cond (Nat.ble pc 15) (cond (Nat.beq pc 15) (tc_getf 5 5 18) tc_no) (cond (Nat.ble pc 18) (cond (Nat.beq pc 18) (tc_ldI 1 19) tc_no) (cond (Nat.beq pc 19) (tc_iald 20) tc_no))))) (cond (Nat.ble pc 29) (cond (Nat.ble pc 24) (cond (Nat.ble pc 20) (cond (Nat.beq pc 20) (tc_icmplt 25 23) tc_no) (cond (Nat.ble pc 23) (cond (Nat.beq pc 23) (tc_ic (-1) 24) tc_no) (cond (Nat.beq pc 24) (tc_iret) tc_no))) (cond (Nat.ble pc 25) (cond (Nat.beq pc 25) (tc_ldA 0 26) tc_no) (cond (Nat.ble pc 26) (cond (Nat.beq pc 26) (tc_getf 5 6 29) tc_no) (cond (Nat.beq pc 29) (tc_ldI 1 30) tc_no)))) (cond (Nat.ble pc 33) (cond (Nat.ble pc 30) (cond (Nat.beq pc 30) (tc_ic 10 32) tc_no) (cond (Nat.ble pc 32) (cond (Nat.beq pc 32) (tc_imul 33) tc_no) (cond (Nat.beq pc 33) (tc_ldI 2 34) tc_no))) (cond (Nat.ble pc 34) (cond (Nat.beq pc 34) (tc_iadd 35) tc_no) (cond (Nat.ble pc 35) (cond (Nat.beq pc 35) (tc_iald 36) tc_no) (cond (Nat.beq pc 36) (tc_iret) tc_no)))))
theorem okX5_onLine : ∀ pc, dt_S mX5_onLine (tbX5_onLine pc) pc := by
  intro pc
  unfold tbX5_onLine
  exact dt_Sb (dt_Sb (dt_Sb (dt_Sb (dt_Sl 0 (sn_ldIn rfl dX5_onLine_0 rfl)) (dt_Sb (dt_Sl 1 (sn_iflt dX5_onLine_1 (by decide) rfl)) (dt_Sl 4 (sn_ldIn rfl dX5_onLine_4 rfl)))) (dt_Sb (dt_Sl 5 (sn_ic ⟨by decide, by decide⟩ dX5_onLine_5 rfl)) (dt_Sb (dt_Sl 6 (sn_icmpge dX5_onLine_6 (by decide) rfl)) (dt_Sl 9 (sn_ldIn rfl dX5_onLine_9 rfl))))) (dt_Sb (dt_Sb (dt_Sl 10 (sn_iflt dX5_onLine_10 (by decide) rfl)) (dt_Sb (dt_Sl 13 (sn_ldIn rfl dX5_onLine_13 rfl)) (dt_Sl 14 (sn_ldAn rfl dX5_onLine_14 rfl)))) (dt_Sb (dt_Sl 15 (sn_getf rfl ffX5 (by decide) wq_1_49 dX5_onLine_15 rfl)) (dt_Sb (dt_Sl 18 (sn_ldIn rfl dX5_onLine_18 rfl)) (dt_Sl 19 (sn_iald dX5_onLine_19 rfl)))))) (dt_Sb (dt_Sb (dt_Sb (dt_Sl 20 (sn_icmplt dX5_onLine_20 (by decide) rfl)) (dt_Sb (dt_Sl 23 (sn_ic ⟨by decide, by decide⟩ dX5_onLine_23 rfl)) (dt_Sl 24 (sn_iret rfl dX5_onLine_24)))) (dt_Sb (dt_Sl 25 (sn_ldAn rfl dX5_onLine_25 rfl)) (dt_Sb (dt_Sl 26 (sn_getf rfl ffX5 (by decide) wq_1_52 dX5_onLine_26 rfl)) (dt_Sl 29 (sn_ldIn rfl dX5_onLine_29 rfl))))) (dt_Sb (dt_Sb (dt_Sl 30 (sn_bi ⟨by decide, by decide⟩ rfl dX5_onLine_30 rfl)) (dt_Sb (dt_Sl 32 (sn_imul dX5_onLine_32 rfl)) (dt_Sl 33 (sn_ldIn rfl dX5_onLine_33 rfl)))) (dt_Sb (dt_Sl 34 (sn_iadd dX5_onLine_34 rfl)) (dt_Sb (dt_Sl 35 (sn_iald dX5_onLine_35 rfl)) (dt_Sl 36 (sn_iret rfl dX5_onLine_36))))))
theorem dX5_partsWithEvents_0 : decode cX5_partsWithEvents 0 = .ok (.iconst 0, 1) := by decide +kernel
theorem dX5_partsWithEvents_1 : decode cX5_partsWithEvents 1 = .ok (.istore_n 1, 1) := by decide +kernel
theorem dX5_partsWithEvents_2 : decode cX5_partsWithEvents 2 = .ok (.iconst 0, 1) := by decide +kernel
theorem dX5_partsWithEvents_3 : decode cX5_partsWithEvents 3 = .ok (.istore_n 2, 1) := by decide +kernel
theorem dX5_partsWithEvents_4 : decode cX5_partsWithEvents 4 = .ok (.iload_n 2, 1) := by decide +kernel
theorem dX5_partsWithEvents_5 : decode cX5_partsWithEvents 5 = .ok (.iconst 4, 1) := by decide +kernel
theorem dX5_partsWithEvents_6 : decode cX5_partsWithEvents 6 = .ok (.if_icmp .ge 24, 3) := by decide +kernel
theorem dX5_partsWithEvents_9 : decode cX5_partsWithEvents 9 = .ok (.aload_n 0, 1) := by decide +kernel
theorem dX5_partsWithEvents_10 : decode cX5_partsWithEvents 10 = .ok (.getfield 28, 3) := by decide +kernel
theorem dX5_partsWithEvents_13 : decode cX5_partsWithEvents 13 = .ok (.iload_n 2, 1) := by decide +kernel
theorem dX5_partsWithEvents_14 : decode cX5_partsWithEvents 14 = .ok (.iaload, 1) := by decide +kernel
theorem dX5_partsWithEvents_15 : decode cX5_partsWithEvents 15 = .ok (.ifCond .le 9, 3) := by decide +kernel
theorem dX5_partsWithEvents_18 : decode cX5_partsWithEvents 18 = .ok (.iload_n 1, 1) := by decide +kernel
theorem dX5_partsWithEvents_19 : decode cX5_partsWithEvents 19 = .ok (.iconst 1, 1) := by decide +kernel
theorem dX5_partsWithEvents_20 : decode cX5_partsWithEvents 20 = .ok (.iload_n 2, 1) := by decide +kernel
theorem dX5_partsWithEvents_21 : decode cX5_partsWithEvents 21 = .ok (.ishl, 1) := by decide +kernel
theorem dX5_partsWithEvents_22 : decode cX5_partsWithEvents 22 = .ok (.ior, 1) := by decide +kernel
theorem dX5_partsWithEvents_23 : decode cX5_partsWithEvents 23 = .ok (.istore_n 1, 1) := by decide +kernel
theorem dX5_partsWithEvents_24 : decode cX5_partsWithEvents 24 = .ok (.iinc 2 1, 3) := by decide +kernel
theorem dX5_partsWithEvents_27 : decode cX5_partsWithEvents 27 = .ok (.goto (-23), 3) := by decide +kernel
theorem dX5_partsWithEvents_30 : decode cX5_partsWithEvents 30 = .ok (.iload_n 1, 1) := by decide +kernel
theorem dX5_partsWithEvents_31 : decode cX5_partsWithEvents 31 = .ok (.ireturn, 1) := by decide +kernel
def tbX5_partsWithEvents (pc : Nat) : dt_T := cond (Nat.ble pc 14) (cond (Nat.ble pc 4) (cond (Nat.ble pc 1) (cond (Nat.ble pc 0) (cond (Nat.beq pc 0) (tc_ic 0 1) tc_no) (cond (Nat.beq pc 1) (tc_stI 1 2) tc_no)) (cond (Nat.ble pc 2) (cond (Nat.beq pc 2) (tc_ic 0 3) tc_no) (cond (Nat.ble pc 3) (cond (Nat.beq pc 3) (tc_stI 2 4) tc_no) (cond (Nat.beq pc 4) (tc_ldI 2 5) tc_no)))) (cond (Nat.ble pc 9) (cond (Nat.ble pc 5) (cond (Nat.beq pc 5) (tc_ic 4 6) tc_no) (cond (Nat.ble pc 6) (cond (Nat.beq pc 6) (tc_icmpge 30 9) tc_no) (cond (Nat.beq pc 9) (tc_ldA 0 10) tc_no))) (cond (Nat.ble pc 10) (cond (Nat.beq pc 10) (tc_getf 5 5 13) tc_no) (cond (Nat.ble pc 13) (cond (Nat.beq pc 13) (tc_ldI 2 14) tc_no) (cond (Nat.beq pc 14) (tc_iald 15) tc_no))))) (cond (Nat.ble pc 21) (cond (Nat.ble pc 18) (cond (Nat.ble pc 15) (cond (Nat.beq pc 15) (tc_ifle 24 18) tc_no) (cond (Nat.beq pc 18) (tc_ldI 1 19) tc_no)) (cond (Nat.ble pc 19) (cond (Nat.beq pc 19) (tc_ic 1 20) tc_no) (cond (Nat.ble pc 20) (cond (Nat.beq pc 20) (tc_ldI 2 21) tc_no) (cond (Nat.beq pc 21) (tc_ishl 22) tc_no)))) (cond (Nat.ble pc 24) (cond (Nat.ble pc 22) (cond (Nat.beq pc 22) (tc_ior 23) tc_no) (cond (Nat.ble pc 23) (cond (Nat.beq pc 23) (tc_stI 1 24) tc_no) (cond (Nat.beq pc 24) (tc_iinc 2 1 27) tc_no))) (cond (Nat.ble pc 27) (cond (Nat.beq pc 27) (tc_goto 4) tc_no) (cond (Nat.ble pc 30) (cond (Nat.beq pc 30) (tc_ldI 1 31) tc_no) (cond (Nat.beq pc 31) (tc_iret) tc_no)))))
theorem okX5_partsWithEvents : ∀ pc, dt_S mX5_partsWithEvents (tbX5_partsWithEvents pc) pc := by
  intro pc
  unfold tbX5_partsWithEvents
  exact dt_Sb (dt_Sb (dt_Sb (dt_Sb (dt_Sl 0 (sn_ic ⟨by decide, by decide⟩ dX5_partsWithEvents_0 rfl)) (dt_Sl 1 (sn_stIn rfl (by decide) dX5_partsWithEvents_1 rfl))) (dt_Sb (dt_Sl 2 (sn_ic ⟨by decide, by decide⟩ dX5_partsWithEvents_2 rfl)) (dt_Sb (dt_Sl 3 (sn_stIn rfl (by decide) dX5_partsWithEvents_3 rfl)) (dt_Sl 4 (sn_ldIn rfl dX5_partsWithEvents_4 rfl))))) (dt_Sb (dt_Sb (dt_Sl 5 (sn_ic ⟨by decide, by decide⟩ dX5_partsWithEvents_5 rfl)) (dt_Sb (dt_Sl 6 (sn_icmpge dX5_partsWithEvents_6 (by decide) rfl)) (dt_Sl 9 (sn_ldAn rfl dX5_partsWithEvents_9 rfl)))) (dt_Sb (dt_Sl 10 (sn_getf rfl ffX5 (by decide) wq_1_49 dX5_partsWithEvents_10 rfl)) (dt_Sb (dt_Sl 13 (sn_ldIn rfl dX5_partsWithEvents_13 rfl)) (dt_Sl 14 (sn_iald dX5_partsWithEvents_14 rfl)))))) (dt_Sb (dt_Sb (dt_Sb (dt_Sl 15 (sn_ifle dX5_partsWithEvents_15 (by decide) rfl)) (dt_Sl 18 (sn_ldIn rfl dX5_partsWithEvents_18 rfl))) (dt_Sb (dt_Sl 19 (sn_ic ⟨by decide, by decide⟩ dX5_partsWithEvents_19 rfl)) (dt_Sb (dt_Sl 20 (sn_ldIn rfl dX5_partsWithEvents_20 rfl)) (dt_Sl 21 (sn_ishl dX5_partsWithEvents_21 rfl))))) (dt_Sb (dt_Sb (dt_Sl 22 (sn_ior dX5_partsWithEvents_22 rfl)) (dt_Sb (dt_Sl 23 (sn_stIn rfl (by decide) dX5_partsWithEvents_23 rfl)) (dt_Sl 24 (sn_iinc (by decide) dX5_partsWithEvents_24 rfl)))) (dt_Sb (dt_Sl 27 (sn_goto dX5_partsWithEvents_27 (by decide))) (dt_Sb (dt_Sl 30 (sn_ldIn rfl dX5_partsWithEvents_30 rfl)) (dt_Sl 31 (sn_iret rfl dX5_partsWithEvents_31))))))
theorem dX5_firstWaiting_0 : decode cX5_firstWaiting 0 = .ok (.iconst 0, 1) := by decide +kernel
theorem dX5_firstWaiting_1 : decode cX5_firstWaiting 1 = .ok (.istore 4, 2) := by decide +kernel
theorem dX5_firstWaiting_3 : decode cX5_firstWaiting 3 = .ok (.iload 4, 2) := by decide +kernel
theorem dX5_firstWaiting_5 : decode cX5_firstWaiting 5 = .ok (.aload_n 0, 1) := by decide +kernel
theorem dX5_firstWaiting_6 : decode cX5_firstWaiting 6 = .ok (.getfield 34, 3) := by decide +kernel
theorem dX5_firstWaiting_9 : decode cX5_firstWaiting 9 = .ok (.if_icmp .ge 66, 3) := by decide +kernel
theorem dX5_firstWaiting_12 : decode cX5_firstWaiting 12 = .ok (.aload_n 0, 1) := by decide +kernel
theorem dX5_firstWaiting_13 : decode cX5_firstWaiting 13 = .ok (.getfield 9, 3) := by decide +kernel
theorem dX5_firstWaiting_16 : decode cX5_firstWaiting 16 = .ok (.iload 4, 2) := by decide +kernel
theorem dX5_firstWaiting_18 : decode cX5_firstWaiting 18 = .ok (.baload, 1) := by decide +kernel
theorem dX5_firstWaiting_19 : decode cX5_firstWaiting 19 = .ok (.ifCond .ne 50, 3) := by decide +kernel
theorem dX5_firstWaiting_22 : decode cX5_firstWaiting 22 = .ok (.aload_n 0, 1) := by decide +kernel
theorem dX5_firstWaiting_23 : decode cX5_firstWaiting 23 = .ok (.getfield 25, 3) := by decide +kernel
theorem dX5_firstWaiting_26 : decode cX5_firstWaiting 26 = .ok (.iload 4, 2) := by decide +kernel
theorem dX5_firstWaiting_28 : decode cX5_firstWaiting 28 = .ok (.iaload, 1) := by decide +kernel
theorem dX5_firstWaiting_29 : decode cX5_firstWaiting 29 = .ok (.iconst (-1), 1) := by decide +kernel
theorem dX5_firstWaiting_30 : decode cX5_firstWaiting 30 = .ok (.if_icmp .ne 39, 3) := by decide +kernel
theorem dX5_firstWaiting_33 : decode cX5_firstWaiting 33 = .ok (.aload_n 0, 1) := by decide +kernel
theorem dX5_firstWaiting_34 : decode cX5_firstWaiting 34 = .ok (.getfield 15, 3) := by decide +kernel
theorem dX5_firstWaiting_37 : decode cX5_firstWaiting 37 = .ok (.iload 4, 2) := by decide +kernel
theorem dX5_firstWaiting_39 : decode cX5_firstWaiting 39 = .ok (.iaload, 1) := by decide +kernel
theorem dX5_firstWaiting_40 : decode cX5_firstWaiting 40 = .ok (.iload_n 1, 1) := by decide +kernel
theorem dX5_firstWaiting_41 : decode cX5_firstWaiting 41 = .ok (.if_icmp .ne 28, 3) := by decide +kernel
theorem dX5_firstWaiting_44 : decode cX5_firstWaiting 44 = .ok (.aload_n 0, 1) := by decide +kernel
theorem dX5_firstWaiting_45 : decode cX5_firstWaiting 45 = .ok (.getfield 19, 3) := by decide +kernel
theorem dX5_firstWaiting_48 : decode cX5_firstWaiting 48 = .ok (.iload 4, 2) := by decide +kernel
theorem dX5_firstWaiting_50 : decode cX5_firstWaiting 50 = .ok (.iaload, 1) := by decide +kernel
theorem dX5_firstWaiting_51 : decode cX5_firstWaiting 51 = .ok (.iload_n 2, 1) := by decide +kernel
theorem dX5_firstWaiting_52 : decode cX5_firstWaiting 52 = .ok (.if_icmp .ne 17, 3) := by decide +kernel
theorem dX5_firstWaiting_55 : decode cX5_firstWaiting 55 = .ok (.aload_n 0, 1) := by decide +kernel
theorem dX5_firstWaiting_56 : decode cX5_firstWaiting 56 = .ok (.getfield 22, 3) := by decide +kernel
theorem dX5_firstWaiting_59 : decode cX5_firstWaiting 59 = .ok (.iload 4, 2) := by decide +kernel
theorem dX5_firstWaiting_61 : decode cX5_firstWaiting 61 = .ok (.iaload, 1) := by decide +kernel
theorem dX5_firstWaiting_62 : decode cX5_firstWaiting 62 = .ok (.iload_n 3, 1) := by decide +kernel
theorem dX5_firstWaiting_63 : decode cX5_firstWaiting 63 = .ok (.if_icmp .ne 6, 3) := by decide +kernel
theorem dX5_firstWaiting_66 : decode cX5_firstWaiting 66 = .ok (.iload 4, 2) := by decide +kernel
theorem dX5_firstWaiting_68 : decode cX5_firstWaiting 68 = .ok (.ireturn, 1) := by decide +kernel
theorem dX5_firstWaiting_69 : decode cX5_firstWaiting 69 = .ok (.iinc 4 1, 3) := by decide +kernel
theorem dX5_firstWaiting_72 : decode cX5_firstWaiting 72 = .ok (.goto (-69), 3) := by decide +kernel
theorem dX5_firstWaiting_75 : decode cX5_firstWaiting 75 = .ok (.iconst (-1), 1) := by decide +kernel
theorem dX5_firstWaiting_76 : decode cX5_firstWaiting 76 = .ok (.ireturn, 1) := by decide +kernel
def tbX5_firstWaiting (pc : Nat) : dt_T := cond (Nat.ble pc 37) (cond (Nat.ble pc 18) (cond (Nat.ble pc 6) (cond (Nat.ble pc 1) (cond (Nat.ble pc 0) (cond (Nat.beq pc 0) (tc_ic 0 1) tc_no) (cond (Nat.beq pc 1) (tc_stI 4 3) tc_no)) (cond (Nat.ble pc 3) (cond (Nat.beq pc 3) (tc_ldI 4 5) tc_no) (cond (Nat.ble pc 5) (cond (Nat.beq pc 5) (tc_ldA 0 6) tc_no) (cond (Nat.beq pc 6) (tc_getf 5 7 9) tc_no)))) (cond (Nat.ble pc 12) (cond (Nat.ble pc 9) (cond (Nat.beq pc 9) (tc_icmpge 75 12) tc_no) (cond (Nat.beq pc 12) (tc_ldA 0 13) tc_no)) (cond (Nat.ble pc 13) (cond (Nat.beq pc 13) (tc_getf 5 0 16) tc_no) (cond (Nat.ble pc 16) (cond (Nat.beq pc 16) (tc_ldI 4 18) tc_no) (cond (Nat.beq pc 18) (tc_zald 19) tc_no))))) (cond (Nat.ble pc 28) (cond (Nat.ble pc 22) (cond (Nat.ble pc 19) (cond (Nat.beq pc 19) (tc_ifne 69 22) tc_no) (cond (Nat.beq pc 22) (tc_ldA 0 23) tc_no)) (cond (Nat.ble pc 23) (cond (Nat.beq pc 23) (tc_getf 5 4 26) tc_no) (cond (Nat.ble pc 26) (cond (Nat.beq pc 26) (tc_ldI 4 28) tc_no) (cond (Nat.beq pc 28) (tc_iald 29) tc_no)))) (cond (Nat.ble pc 30) (cond (Nat.ble pc 29) (cond (Nat.beq pc 29) (tc_ic (-1) 30) tc_no) (cond (Nat.beq pc 30) (tc_icmpne 69 33) tc_no)) (cond (Nat.ble pc 33) (cond (Nat.beq pc 33) (tc_ldA 0 34) tc_no) (cond (Nat.ble pc 34) (cond (Nat.beq pc 34) (tc_getf 5 1 37) tc_no) (cond (Nat.beq pc 37) (tc_ldI 4 39) tc_no)))))) (cond (Nat.ble pc 55) (cond (Nat.ble pc 45) (cond (Nat.ble pc 40) (cond (Nat.ble pc 39) (cond (Nat.beq pc 39) (tc_iald 40) tc_no) (cond (Nat.beq pc 40) (tc_ldI 1 41) tc_no)) (cond (Nat.ble pc 41) (cond (Nat.beq pc 41) (tc_icmpne 69 44) tc_no) (cond (Nat.ble pc 44) (cond (Nat.beq pc 44) (tc_ldA 0 45) tc_no) (cond (Nat.beq pc 45) (tc_getf 5 2 48) tc_no)))) (cond (Nat.ble pc 50) (cond (Nat.ble pc 48) (cond (Nat.beq pc 48) (tc_ldI 4 50) tc_no) (cond (Nat.beq pc 50) (tc_iald 51) tc_no)) (cond (Nat.ble pc 51) (cond (Nat.beq pc 51) (tc_ldI 2 52) tc_no) (cond (Nat.ble pc 52) (cond (Nat.beq pc 52) (tc_icmpne 69 55) tc_no) (cond (Nat.beq pc 55) (tc_ldA 0 56) tc_no))))) (cond (Nat.ble pc 63) (cond (Nat.ble pc 59) (cond (Nat.ble pc 56) (cond (Nat.beq pc 56) (tc_getf 5 3 59) tc_no) (cond (Nat.beq pc 59) (tc_ldI 4 61) tc_no)) (cond (Nat.ble pc 61) (cond (Nat.beq pc 61) (tc_iald 62) tc_no) (cond (Nat.ble pc 62) (cond (Nat.beq pc 62) (tc_ldI 3 63) tc_no) (cond (Nat.beq pc 63) (tc_icmpne 69 66) tc_no)))) (cond (Nat.ble pc 69) (cond (Nat.ble pc 66) (cond (Nat.beq pc 66) (tc_ldI 4 68) tc_no) (cond (Nat.ble pc 68) (cond (Nat.beq pc 68) (tc_iret) tc_no) (cond (Nat.beq pc 69) (tc_iinc 4 1 72) tc_no))) (cond (Nat.ble pc 72) (cond (Nat.beq pc 72) (tc_goto 3) tc_no) (cond (Nat.ble pc 75) (cond (Nat.beq pc 75) (tc_ic (-1) 76) tc_no) (cond (Nat.beq pc 76) (tc_iret) tc_no))))))
theorem okX5_firstWaiting : ∀ pc, dt_S mX5_firstWaiting (tbX5_firstWaiting pc) pc := by
  intro pc
  unfold tbX5_firstWaiting
  exact dt_Sb (dt_Sb (dt_Sb (dt_Sb (dt_Sb (dt_Sl 0 (sn_ic ⟨by decide, by decide⟩ dX5_firstWaiting_0 rfl)) (dt_Sl 1 (sn_stI (by decide) dX5_firstWaiting_1 rfl))) (dt_Sb (dt_Sl 3 (sn_ldI dX5_firstWaiting_3 rfl)) (dt_Sb (dt_Sl 5 (sn_ldAn rfl dX5_firstWaiting_5 rfl)) (dt_Sl 6 (sn_getf rfl ffX5 (by decide) wq_1_53 dX5_firstWaiting_6 rfl))))) (dt_Sb (dt_Sb (dt_Sl 9 (sn_icmpge dX5_firstWaiting_9 (by decide) rfl)) (dt_Sl 12 (sn_ldAn rfl dX5_firstWaiting_12 rfl))) (dt_Sb (dt_Sl 13 (sn_getf rfl ffX5 (by decide) wq_1_29 dX5_firstWaiting_13 rfl)) (dt_Sb (dt_Sl 16 (sn_ldI dX5_firstWaiting_16 rfl)) (dt_Sl 18 (sn_zald dX5_firstWaiting_18 rfl)))))) (dt_Sb (dt_Sb (dt_Sb (dt_Sl 19 (sn_ifne dX5_firstWaiting_19 (by decide) rfl)) (dt_Sl 22 (sn_ldAn rfl dX5_firstWaiting_22 rfl))) (dt_Sb (dt_Sl 23 (sn_getf rfl ffX5 (by decide) wq_1_45 dX5_firstWaiting_23 rfl)) (dt_Sb (dt_Sl 26 (sn_ldI dX5_firstWaiting_26 rfl)) (dt_Sl 28 (sn_iald dX5_firstWaiting_28 rfl))))) (dt_Sb (dt_Sb (dt_Sl 29 (sn_ic ⟨by decide, by decide⟩ dX5_firstWaiting_29 rfl)) (dt_Sl 30 (sn_icmpne dX5_firstWaiting_30 (by decide) rfl))) (dt_Sb (dt_Sl 33 (sn_ldAn rfl dX5_firstWaiting_33 rfl)) (dt_Sb (dt_Sl 34 (sn_getf rfl ffX5 (by decide) wq_1_34 dX5_firstWaiting_34 rfl)) (dt_Sl 37 (sn_ldI dX5_firstWaiting_37 rfl))))))) (dt_Sb (dt_Sb (dt_Sb (dt_Sb (dt_Sl 39 (sn_iald dX5_firstWaiting_39 rfl)) (dt_Sl 40 (sn_ldIn rfl dX5_firstWaiting_40 rfl))) (dt_Sb (dt_Sl 41 (sn_icmpne dX5_firstWaiting_41 (by decide) rfl)) (dt_Sb (dt_Sl 44 (sn_ldAn rfl dX5_firstWaiting_44 rfl)) (dt_Sl 45 (sn_getf rfl ffX5 (by decide) wq_1_38 dX5_firstWaiting_45 rfl))))) (dt_Sb (dt_Sb (dt_Sl 48 (sn_ldI dX5_firstWaiting_48 rfl)) (dt_Sl 50 (sn_iald dX5_firstWaiting_50 rfl))) (dt_Sb (dt_Sl 51 (sn_ldIn rfl dX5_firstWaiting_51 rfl)) (dt_Sb (dt_Sl 52 (sn_icmpne dX5_firstWaiting_52 (by decide) rfl)) (dt_Sl 55 (sn_ldAn rfl dX5_firstWaiting_55 rfl)))))) (dt_Sb (dt_Sb (dt_Sb (dt_Sl 56 (sn_getf rfl ffX5 (by decide) wq_1_42 dX5_firstWaiting_56 rfl)) (dt_Sl 59 (sn_ldI dX5_firstWaiting_59 rfl))) (dt_Sb (dt_Sl 61 (sn_iald dX5_firstWaiting_61 rfl)) (dt_Sb (dt_Sl 62 (sn_ldIn rfl dX5_firstWaiting_62 rfl)) (dt_Sl 63 (sn_icmpne dX5_firstWaiting_63 (by decide) rfl))))) (dt_Sb (dt_Sb (dt_Sl 66 (sn_ldI dX5_firstWaiting_66 rfl)) (dt_Sb (dt_Sl 68 (sn_iret rfl dX5_firstWaiting_68)) (dt_Sl 69 (sn_iinc (by decide) dX5_firstWaiting_69 rfl)))) (dt_Sb (dt_Sl 72 (sn_goto dX5_firstWaiting_72 (by decide))) (dt_Sb (dt_Sl 75 (sn_ic ⟨by decide, by decide⟩ dX5_firstWaiting_75 rfl)) (dt_Sl 76 (sn_iret rfl dX5_firstWaiting_76)))))))
theorem dX5_addSend_0 : decode cX5_addSend 0 = .ok (.aload_n 0, 1) := by decide +kernel
theorem dX5_addSend_1 : decode cX5_addSend 1 = .ok (.getfield 38, 3) := by decide +kernel
theorem dX5_addSend_4 : decode cX5_addSend 4 = .ok (.bipush 10, 2) := by decide +kernel
theorem dX5_addSend_6 : decode cX5_addSend 6 = .ok (.if_icmp .ge 47, 3) := by decide +kernel
theorem dX5_addSend_9 : decode cX5_addSend 9 = .ok (.aload_n 0, 1) := by decide +kernel
theorem dX5_addSend_10 : decode cX5_addSend 10 = .ok (.iload_n 1, 1) := by decide +kernel
theorem dX5_addSend_11 : decode cX5_addSend 11 = .ok (.iload_n 2, 1) := by decide +kernel
theorem dX5_addSend_12 : decode cX5_addSend 12 = .ok (.iload_n 3, 1) := by decide +kernel
theorem dX5_addSend_13 : decode cX5_addSend 13 = .ok (.invokevirtual 41, 3) := by decide +kernel
theorem dX5_addSend_16 : decode cX5_addSend 16 = .ok (.ifCond .eq 37, 3) := by decide +kernel
theorem dX5_addSend_19 : decode cX5_addSend 19 = .ok (.aload_n 0, 1) := by decide +kernel
theorem dX5_addSend_20 : decode cX5_addSend 20 = .ok (.getfield 9, 3) := by decide +kernel
theorem dX5_addSend_23 : decode cX5_addSend 23 = .ok (.aload_n 0, 1) := by decide +kernel
theorem dX5_addSend_24 : decode cX5_addSend 24 = .ok (.getfield 34, 3) := by decide +kernel
theorem dX5_addSend_27 : decode cX5_addSend 27 = .ok (.iconst 1, 1) := by decide +kernel
theorem dX5_addSend_28 : decode cX5_addSend 28 = .ok (.isub, 1) := by decide +kernel
theorem dX5_addSend_29 : decode cX5_addSend 29 = .ok (.iconst 0, 1) := by decide +kernel
theorem dX5_addSend_30 : decode cX5_addSend 30 = .ok (.bastore, 1) := by decide +kernel
theorem dX5_addSend_31 : decode cX5_addSend 31 = .ok (.aload_n 0, 1) := by decide +kernel
theorem dX5_addSend_32 : decode cX5_addSend 32 = .ok (.getfield 25, 3) := by decide +kernel
theorem dX5_addSend_35 : decode cX5_addSend 35 = .ok (.aload_n 0, 1) := by decide +kernel
theorem dX5_addSend_36 : decode cX5_addSend 36 = .ok (.getfield 34, 3) := by decide +kernel
theorem dX5_addSend_39 : decode cX5_addSend 39 = .ok (.iconst 1, 1) := by decide +kernel
theorem dX5_addSend_40 : decode cX5_addSend 40 = .ok (.isub, 1) := by decide +kernel
theorem dX5_addSend_41 : decode cX5_addSend 41 = .ok (.iconst (-1), 1) := by decide +kernel
theorem dX5_addSend_42 : decode cX5_addSend 42 = .ok (.iastore, 1) := by decide +kernel
theorem dX5_addSend_43 : decode cX5_addSend 43 = .ok (.aload_n 0, 1) := by decide +kernel
theorem dX5_addSend_44 : decode cX5_addSend 44 = .ok (.dup, 1) := by decide +kernel
theorem dX5_addSend_45 : decode cX5_addSend 45 = .ok (.getfield 38, 3) := by decide +kernel
theorem dX5_addSend_48 : decode cX5_addSend 48 = .ok (.iconst 1, 1) := by decide +kernel
theorem dX5_addSend_49 : decode cX5_addSend 49 = .ok (.iadd, 1) := by decide +kernel
theorem dX5_addSend_50 : decode cX5_addSend 50 = .ok (.putfield 38, 3) := by decide +kernel
theorem dX5_addSend_53 : decode cX5_addSend 53 = .ok (.return_, 1) := by decide +kernel
def tbX5_addSend (pc : Nat) : dt_T := cond (Nat.ble pc 28) (cond (Nat.ble pc 12) (cond (Nat.ble pc 6) (cond (Nat.ble pc 1) (cond (Nat.ble pc 0) (cond (Nat.beq pc 0) (tc_ldA 0 1) tc_no) (cond (Nat.beq pc 1) (tc_getf 5 8 4) tc_no)) (cond (Nat.ble pc 4) (cond (Nat.beq pc 4) (tc_ic 10 6) tc_no) (cond (Nat.beq pc 6) (tc_icmpge 53 9) tc_no))) (cond (Nat.ble pc 10) (cond (Nat.ble pc 9) (cond (Nat.beq pc 9) (tc_ldA 0 10) tc_no) (cond (Nat.beq pc 10) (tc_ldI 1 11) tc_no)) (cond (Nat.ble pc 11) (cond (Nat.beq pc 11) (tc_ldI 2 12) tc_no) (cond (Nat.beq pc 12) (tc_ldI 3 13) tc_no)))) (cond (Nat.ble pc 20) (cond (Nat.ble pc 16) (cond (Nat.ble pc 13) (cond (Nat.beq pc 13) (tc_callV 5 mX5_add 3 16) tc_no) (cond (Nat.beq pc 16) (tc_ifeq 53 19) tc_no)) (cond (Nat.ble pc 19) (cond (Nat.beq pc 19) (tc_ldA 0 20) tc_no) (cond (Nat.beq pc 20) (tc_getf 5 0 23) tc_no))) (cond (Nat.ble pc 24) (cond (Nat.ble pc 23) (cond (Nat.beq pc 23) (tc_ldA 0 24) tc_no) (cond (Nat.beq pc 24) (tc_getf 5 7 27) tc_no)) (cond (Nat.ble pc 27) (cond (Nat.beq pc 27) (tc_ic 1 28) tc_no) (cond (Nat.beq pc 28) (tc_isub 29) tc_no))))) (cond (Nat.ble pc 40) (cond (Nat.ble pc 32) (cond (Nat.ble pc 30) (cond (Nat.ble pc 29) (cond (Nat.beq pc 29) (tc_ic 0 30) tc_no) (cond (Nat.beq pc 30) (tc_zast 31) tc_no)) (cond (Nat.ble pc 31) (cond (Nat.beq pc 31) (tc_ldA 0 32) tc_no) (cond (Nat.beq pc 32) (tc_getf 5 4 35) tc_no))) (cond (Nat.ble pc 36) (cond (Nat.ble pc 35) (cond (Nat.beq pc 35) (tc_ldA 0 36) tc_no) (cond (Nat.beq pc 36) (tc_getf 5 7 39) tc_no)) (cond (Nat.ble pc 39) (cond (Nat.beq pc 39) (tc_ic 1 40) tc_no) (cond (Nat.beq pc 40) (tc_isub 41) tc_no)))) (cond (Nat.ble pc 44) (cond (Nat.ble pc 42) (cond (Nat.ble pc 41) (cond (Nat.beq pc 41) (tc_ic (-1) 42) tc_no) (cond (Nat.beq pc 42) (tc_iast 43) tc_no)) (cond (Nat.ble pc 43) (cond (Nat.beq pc 43) (tc_ldA 0 44) tc_no) (cond (Nat.beq pc 44) (tc_dup 45) tc_no))) (cond (Nat.ble pc 48) (cond (Nat.ble pc 45) (cond (Nat.beq pc 45) (tc_getf 5 8 48) tc_no) (cond (Nat.beq pc 48) (tc_ic 1 49) tc_no)) (cond (Nat.ble pc 49) (cond (Nat.beq pc 49) (tc_iadd 50) tc_no) (cond (Nat.ble pc 50) (cond (Nat.beq pc 50) (tc_putI 5 8 53) tc_no) (cond (Nat.beq pc 53) (tc_ret) tc_no))))))
theorem okX5_addSend : ∀ pc, dt_S mX5_addSend (tbX5_addSend pc) pc := by
  intro pc
  unfold tbX5_addSend
  exact dt_Sb (dt_Sb (dt_Sb (dt_Sb (dt_Sb (dt_Sl 0 (sn_ldAn rfl dX5_addSend_0 rfl)) (dt_Sl 1 (sn_getf rfl ffX5 (by decide) wq_1_57 dX5_addSend_1 rfl))) (dt_Sb (dt_Sl 4 (sn_bi ⟨by decide, by decide⟩ rfl dX5_addSend_4 rfl)) (dt_Sl 6 (sn_icmpge dX5_addSend_6 (by decide) rfl)))) (dt_Sb (dt_Sb (dt_Sl 9 (sn_ldAn rfl dX5_addSend_9 rfl)) (dt_Sl 10 (sn_ldIn rfl dX5_addSend_10 rfl))) (dt_Sb (dt_Sl 11 (sn_ldIn rfl dX5_addSend_11 rfl)) (dt_Sl 12 (sn_ldIn rfl dX5_addSend_12 rfl))))) (dt_Sb (dt_Sb (dt_Sb (dt_Sl 13 (sn_callV rfl ffX5 nnX5_add rfl wq_2_112 wq_2_114 wq_0_5 dX5_addSend_13 rfl)) (dt_Sl 16 (sn_ifeq dX5_addSend_16 (by decide) rfl))) (dt_Sb (dt_Sl 19 (sn_ldAn rfl dX5_addSend_19 rfl)) (dt_Sl 20 (sn_getf rfl ffX5 (by decide) wq_1_29 dX5_addSend_20 rfl)))) (dt_Sb (dt_Sb (dt_Sl 23 (sn_ldAn rfl dX5_addSend_23 rfl)) (dt_Sl 24 (sn_getf rfl ffX5 (by decide) wq_1_53 dX5_addSend_24 rfl))) (dt_Sb (dt_Sl 27 (sn_ic ⟨by decide, by decide⟩ dX5_addSend_27 rfl)) (dt_Sl 28 (sn_isub dX5_addSend_28 rfl)))))) (dt_Sb (dt_Sb (dt_Sb (dt_Sb (dt_Sl 29 (sn_ic ⟨by decide, by decide⟩ dX5_addSend_29 rfl)) (dt_Sl 30 (sn_zast dX5_addSend_30 rfl))) (dt_Sb (dt_Sl 31 (sn_ldAn rfl dX5_addSend_31 rfl)) (dt_Sl 32 (sn_getf rfl ffX5 (by decide) wq_1_45 dX5_addSend_32 rfl)))) (dt_Sb (dt_Sb (dt_Sl 35 (sn_ldAn rfl dX5_addSend_35 rfl)) (dt_Sl 36 (sn_getf rfl ffX5 (by decide) wq_1_53 dX5_addSend_36 rfl))) (dt_Sb (dt_Sl 39 (sn_ic ⟨by decide, by decide⟩ dX5_addSend_39 rfl)) (dt_Sl 40 (sn_isub dX5_addSend_40 rfl))))) (dt_Sb (dt_Sb (dt_Sb (dt_Sl 41 (sn_ic ⟨by decide, by decide⟩ dX5_addSend_41 rfl)) (dt_Sl 42 (sn_iast dX5_addSend_42 rfl))) (dt_Sb (dt_Sl 43 (sn_ldAn rfl dX5_addSend_43 rfl)) (dt_Sl 44 (sn_dup dX5_addSend_44 rfl)))) (dt_Sb (dt_Sb (dt_Sl 45 (sn_getf rfl ffX5 (by decide) wq_1_57 dX5_addSend_45 rfl)) (dt_Sl 48 (sn_ic ⟨by decide, by decide⟩ dX5_addSend_48 rfl))) (dt_Sb (dt_Sl 49 (sn_iadd dX5_addSend_49 rfl)) (dt_Sb (dt_Sl 50 (sn_putI rfl ffX5 (by decide) rfl rfl (by decide +kernel) wq_1_57 dX5_addSend_50 rfl)) (dt_Sl 53 (sn_ret rfl dX5_addSend_53)))))))
theorem dX5_addTake_0 : decode cX5_addTake 0 = .ok (.aload_n 0, 1) := by decide +kernel
theorem dX5_addTake_1 : decode cX5_addTake 1 = .ok (.iload_n 1, 1) := by decide +kernel
theorem dX5_addTake_2 : decode cX5_addTake 2 = .ok (.iload_n 2, 1) := by decide +kernel
theorem dX5_addTake_3 : decode cX5_addTake 3 = .ok (.iload_n 3, 1) := by decide +kernel
theorem dX5_addTake_4 : decode cX5_addTake 4 = .ok (.invokevirtual 45, 3) := by decide +kernel
theorem dX5_addTake_7 : decode cX5_addTake 7 = .ok (.istore 4, 2) := by decide +kernel
theorem dX5_addTake_9 : decode cX5_addTake 9 = .ok (.iload 4, 2) := by decide +kernel
theorem dX5_addTake_11 : decode cX5_addTake 11 = .ok (.iconst (-1), 1) := by decide +kernel
theorem dX5_addTake_12 : decode cX5_addTake 12 = .ok (.if_icmp .eq 51, 3) := by decide +kernel
theorem dX5_addTake_15 : decode cX5_addTake 15 = .ok (.aload_n 0, 1) := by decide +kernel
theorem dX5_addTake_16 : decode cX5_addTake 16 = .ok (.iload_n 2, 1) := by decide +kernel
theorem dX5_addTake_17 : decode cX5_addTake 17 = .ok (.iload_n 1, 1) := by decide +kernel
theorem dX5_addTake_18 : decode cX5_addTake 18 = .ok (.iload_n 3, 1) := by decide +kernel
theorem dX5_addTake_19 : decode cX5_addTake 19 = .ok (.invokevirtual 41, 3) := by decide +kernel
theorem dX5_addTake_22 : decode cX5_addTake 22 = .ok (.ifCond .eq 41, 3) := by decide +kernel
theorem dX5_addTake_25 : decode cX5_addTake 25 = .ok (.aload_n 0, 1) := by decide +kernel
theorem dX5_addTake_26 : decode cX5_addTake 26 = .ok (.getfield 9, 3) := by decide +kernel
theorem dX5_addTake_29 : decode cX5_addTake 29 = .ok (.aload_n 0, 1) := by decide +kernel
theorem dX5_addTake_30 : decode cX5_addTake 30 = .ok (.getfield 34, 3) := by decide +kernel
theorem dX5_addTake_33 : decode cX5_addTake 33 = .ok (.iconst 1, 1) := by decide +kernel
theorem dX5_addTake_34 : decode cX5_addTake 34 = .ok (.isub, 1) := by decide +kernel
theorem dX5_addTake_35 : decode cX5_addTake 35 = .ok (.iconst 1, 1) := by decide +kernel
theorem dX5_addTake_36 : decode cX5_addTake 36 = .ok (.bastore, 1) := by decide +kernel
theorem dX5_addTake_37 : decode cX5_addTake 37 = .ok (.aload_n 0, 1) := by decide +kernel
theorem dX5_addTake_38 : decode cX5_addTake 38 = .ok (.getfield 25, 3) := by decide +kernel
theorem dX5_addTake_41 : decode cX5_addTake 41 = .ok (.aload_n 0, 1) := by decide +kernel
theorem dX5_addTake_42 : decode cX5_addTake 42 = .ok (.getfield 34, 3) := by decide +kernel
theorem dX5_addTake_45 : decode cX5_addTake 45 = .ok (.iconst 1, 1) := by decide +kernel
theorem dX5_addTake_46 : decode cX5_addTake 46 = .ok (.isub, 1) := by decide +kernel
theorem dX5_addTake_47 : decode cX5_addTake 47 = .ok (.iload 4, 2) := by decide +kernel
theorem dX5_addTake_49 : decode cX5_addTake 49 = .ok (.iastore, 1) := by decide +kernel
theorem dX5_addTake_50 : decode cX5_addTake 50 = .ok (.aload_n 0, 1) := by decide +kernel
theorem dX5_addTake_51 : decode cX5_addTake 51 = .ok (.getfield 25, 3) := by decide +kernel
theorem dX5_addTake_54 : decode cX5_addTake 54 = .ok (.iload 4, 2) := by decide +kernel
theorem dX5_addTake_56 : decode cX5_addTake 56 = .ok (.aload_n 0, 1) := by decide +kernel
theorem dX5_addTake_57 : decode cX5_addTake 57 = .ok (.getfield 34, 3) := by decide +kernel
theorem dX5_addTake_60 : decode cX5_addTake 60 = .ok (.iconst 1, 1) := by decide +kernel
theorem dX5_addTake_61 : decode cX5_addTake 61 = .ok (.isub, 1) := by decide +kernel
theorem dX5_addTake_62 : decode cX5_addTake 62 = .ok (.iastore, 1) := by decide +kernel
theorem dX5_addTake_63 : decode cX5_addTake 63 = .ok (.return_, 1) := by decide +kernel
def tbX5_addTake (pc : Nat) : dt_T := cond (Nat.ble pc 33) (cond (Nat.ble pc 15) (cond (Nat.ble pc 4) (cond (Nat.ble pc 1) (cond (Nat.ble pc 0) (cond (Nat.beq pc 0) (tc_ldA 0 1) tc_no) (cond (Nat.beq pc 1) (tc_ldI 1 2) tc_no)) (cond (Nat.ble pc 2) (cond (Nat.beq pc 2) (tc_ldI 2 3) tc_no) (cond (Nat.ble pc 3) (cond (Nat.beq pc 3) (tc_ldI 3 4) tc_no) (cond (Nat.beq pc 4) (tc_callV 5 mX5_firstWaiting 3 7) tc_no)))) (cond (Nat.ble pc 9) (cond (Nat.ble pc 7) (cond (Nat.beq pc 7) (tc_stI 4 9) tc_no) (cond (Nat.beq pc 9) (tc_ldI 4 11) tc_no)) (cond (Nat.ble pc 11) (cond (Nat.beq pc 11) (tc_ic (-1) 12) tc_no) (cond (Nat.ble pc 12) (cond (Nat.beq pc 12) (tc_icmpeq 63 15) tc_no) (cond (Nat.beq pc 15) (tc_ldA 0 16) tc_no))))) (cond (Nat.ble pc 22) (cond (Nat.ble pc 17) (cond (Nat.ble pc 16) (cond (Nat.beq pc 16) (tc_ldI 2 17) tc_no) (cond (Nat.beq pc 17) (tc_ldI 1 18) tc_no)) (cond (Nat.ble pc 18) (cond (Nat.beq pc 18) (tc_ldI 3 19) tc_no) (cond (Nat.ble pc 19) (cond (Nat.beq pc 19) (tc_callV 5 mX5_add 3 22) tc_no) (cond (Nat.beq pc 22) (tc_ifeq 63 25) tc_no)))) (cond (Nat.ble pc 26) (cond (Nat.ble pc 25) (cond (Nat.beq pc 25) (tc_ldA 0 26) tc_no) (cond (Nat.beq pc 26) (tc_getf 5 0 29) tc_no)) (cond (Nat.ble pc 29) (cond (Nat.beq pc 29) (tc_ldA 0 30) tc_no) (cond (Nat.ble pc 30) (cond (Nat.beq pc 30) (tc_getf 5 7 33) tc_no) (cond (Nat.beq pc 33) (tc_ic 1 34) tc_no)))))) (cond (Nat.ble pc 47) (cond (Nat.ble pc 38) (cond (Nat.ble pc 35) (cond (Nat.ble pc 34) (cond (Nat.beq pc 34) (tc_isub 35) tc_no) (cond (Nat.beq pc 35) (tc_ic 1 36) tc_no)) (cond (Nat.ble pc 36) (cond (Nat.beq pc 36) (tc_zast 37) tc_no) (cond (Nat.ble pc 37) (cond (Nat.beq pc 37) (tc_ldA 0 38) tc_no) (cond (Nat.beq pc 38) (tc_getf 5 4 41) tc_no)))) (cond (Nat.ble pc 42) (cond (Nat.ble pc 41) (cond (Nat.beq pc 41) (tc_ldA 0 42) tc_no) (cond (Nat.beq pc 42) (tc_getf 5 7 45) tc_no)) (cond (Nat.ble pc 45) (cond (Nat.beq pc 45) (tc_ic 1 46) tc_no) (cond (Nat.ble pc 46) (cond (Nat.beq pc 46) (tc_isub 47) tc_no) (cond (Nat.beq pc 47) (tc_ldI 4 49) tc_no))))) (cond (Nat.ble pc 56) (cond (Nat.ble pc 50) (cond (Nat.ble pc 49) (cond (Nat.beq pc 49) (tc_iast 50) tc_no) (cond (Nat.beq pc 50) (tc_ldA 0 51) tc_no)) (cond (Nat.ble pc 51) (cond (Nat.beq pc 51) (tc_getf 5 4 54) tc_no) (cond (Nat.ble pc 54) (cond (Nat.beq pc 54) (tc_ldI 4 56) tc_no) (cond (Nat.beq pc 56) (tc_ldA 0 57) tc_no)))) (cond (Nat.ble pc 60) (cond (Nat.ble pc 57) (cond (Nat.beq pc 57) (tc_getf 5 7 60) tc_no) (cond (Nat.beq pc 60) (tc_ic 1 61) tc_no)) (cond (Nat.ble pc 61) (cond (Nat.beq pc 61) (tc_isub 62) tc_no) (cond (Nat.ble pc 62) (cond (Nat.beq pc 62) (tc_iast 63) tc_no) (cond (Nat.beq pc 63) (tc_ret) tc_no))))))
theorem okX5_addTake : ∀ pc, dt_S mX5_addTake (tbX5_addTake pc) pc := by
  intro pc
  unfold tbX5_addTake
  exact dt_Sb (dt_Sb (dt_Sb (dt_Sb (dt_Sb (dt_Sl 0 (sn_ldAn rfl dX5_addTake_0 rfl)) (dt_Sl 1 (sn_ldIn rfl dX5_addTake_1 rfl))) (dt_Sb (dt_Sl 2 (sn_ldIn rfl dX5_addTake_2 rfl)) (dt_Sb (dt_Sl 3 (sn_ldIn rfl dX5_addTake_3 rfl)) (dt_Sl 4 (sn_callV rfl ffX5 nnX5_firstWaiting rfl wq_2_111 wq_2_104 wq_2_105 dX5_addTake_4 rfl))))) (dt_Sb (dt_Sb (dt_Sl 7 (sn_stI (by decide) dX5_addTake_7 rfl)) (dt_Sl 9 (sn_ldI dX5_addTake_9 rfl))) (dt_Sb (dt_Sl 11 (sn_ic ⟨by decide, by decide⟩ dX5_addTake_11 rfl)) (dt_Sb (dt_Sl 12 (sn_icmpeq dX5_addTake_12 (by decide) rfl)) (dt_Sl 15 (sn_ldAn rfl dX5_addTake_15 rfl)))))) (dt_Sb (dt_Sb (dt_Sb (dt_Sl 16 (sn_ldIn rfl dX5_addTake_16 rfl)) (dt_Sl 17 (sn_ldIn rfl dX5_addTake_17 rfl))) (dt_Sb (dt_Sl 18 (sn_ldIn rfl dX5_addTake_18 rfl)) (dt_Sb (dt_Sl 19 (sn_callV rfl ffX5 nnX5_add rfl wq_2_112 wq_2_114 wq_0_5 dX5_addTake_19 rfl)) (dt_Sl 22 (sn_ifeq dX5_addTake_22 (by decide) rfl))))) (dt_Sb (dt_Sb (dt_Sl 25 (sn_ldAn rfl dX5_addTake_25 rfl)) (dt_Sl 26 (sn_getf rfl ffX5 (by decide) wq_1_29 dX5_addTake_26 rfl))) (dt_Sb (dt_Sl 29 (sn_ldAn rfl dX5_addTake_29 rfl)) (dt_Sb (dt_Sl 30 (sn_getf rfl ffX5 (by decide) wq_1_53 dX5_addTake_30 rfl)) (dt_Sl 33 (sn_ic ⟨by decide, by decide⟩ dX5_addTake_33 rfl))))))) (dt_Sb (dt_Sb (dt_Sb (dt_Sb (dt_Sl 34 (sn_isub dX5_addTake_34 rfl)) (dt_Sl 35 (sn_ic ⟨by decide, by decide⟩ dX5_addTake_35 rfl))) (dt_Sb (dt_Sl 36 (sn_zast dX5_addTake_36 rfl)) (dt_Sb (dt_Sl 37 (sn_ldAn rfl dX5_addTake_37 rfl)) (dt_Sl 38 (sn_getf rfl ffX5 (by decide) wq_1_45 dX5_addTake_38 rfl))))) (dt_Sb (dt_Sb (dt_Sl 41 (sn_ldAn rfl dX5_addTake_41 rfl)) (dt_Sl 42 (sn_getf rfl ffX5 (by decide) wq_1_53 dX5_addTake_42 rfl))) (dt_Sb (dt_Sl 45 (sn_ic ⟨by decide, by decide⟩ dX5_addTake_45 rfl)) (dt_Sb (dt_Sl 46 (sn_isub dX5_addTake_46 rfl)) (dt_Sl 47 (sn_ldI dX5_addTake_47 rfl)))))) (dt_Sb (dt_Sb (dt_Sb (dt_Sl 49 (sn_iast dX5_addTake_49 rfl)) (dt_Sl 50 (sn_ldAn rfl dX5_addTake_50 rfl))) (dt_Sb (dt_Sl 51 (sn_getf rfl ffX5 (by decide) wq_1_45 dX5_addTake_51 rfl)) (dt_Sb (dt_Sl 54 (sn_ldI dX5_addTake_54 rfl)) (dt_Sl 56 (sn_ldAn rfl dX5_addTake_56 rfl))))) (dt_Sb (dt_Sb (dt_Sl 57 (sn_getf rfl ffX5 (by decide) wq_1_53 dX5_addTake_57 rfl)) (dt_Sl 60 (sn_ic ⟨by decide, by decide⟩ dX5_addTake_60 rfl))) (dt_Sb (dt_Sl 61 (sn_isub dX5_addTake_61 rfl)) (dt_Sb (dt_Sl 62 (sn_iast dX5_addTake_62 rfl)) (dt_Sl 63 (sn_ret rfl dX5_addTake_63)))))))
theorem dX5_add_0 : decode cX5_add 0 = .ok (.iload_n 1, 1) := by decide +kernel
theorem dX5_add_1 : decode cX5_add 1 = .ok (.ifCond .lt 17, 3) := by decide +kernel
theorem dX5_add_4 : decode cX5_add 4 = .ok (.iload_n 1, 1) := by decide +kernel
theorem dX5_add_5 : decode cX5_add 5 = .ok (.iconst 4, 1) := by decide +kernel
theorem dX5_add_6 : decode cX5_add 6 = .ok (.if_icmp .ge 12, 3) := by decide +kernel
theorem dX5_add_9 : decode cX5_add 9 = .ok (.iload_n 2, 1) := by decide +kernel
theorem dX5_add_10 : decode cX5_add 10 = .ok (.ifCond .lt 8, 3) := by decide +kernel
theorem dX5_add_13 : decode cX5_add 13 = .ok (.iload_n 2, 1) := by decide +kernel
theorem dX5_add_14 : decode cX5_add 14 = .ok (.iconst 4, 1) := by decide +kernel
theorem dX5_add_15 : decode cX5_add 15 = .ok (.if_icmp .lt 5, 3) := by decide +kernel
theorem dX5_add_18 : decode cX5_add 18 = .ok (.iconst 0, 1) := by decide +kernel
theorem dX5_add_19 : decode cX5_add 19 = .ok (.ireturn, 1) := by decide +kernel
theorem dX5_add_20 : decode cX5_add 20 = .ok (.aload_n 0, 1) := by decide +kernel
theorem dX5_add_21 : decode cX5_add 21 = .ok (.getfield 34, 3) := by decide +kernel
theorem dX5_add_24 : decode cX5_add 24 = .ok (.bipush 20, 2) := by decide +kernel
theorem dX5_add_26 : decode cX5_add 26 = .ok (.if_icmp .ge 14, 3) := by decide +kernel
theorem dX5_add_29 : decode cX5_add 29 = .ok (.aload_n 0, 1) := by decide +kernel
theorem dX5_add_30 : decode cX5_add 30 = .ok (.getfield 28, 3) := by decide +kernel
theorem dX5_add_33 : decode cX5_add 33 = .ok (.iload_n 1, 1) := by decide +kernel
theorem dX5_add_34 : decode cX5_add 34 = .ok (.iaload, 1) := by decide +kernel
theorem dX5_add_35 : decode cX5_add 35 = .ok (.bipush 10, 2) := by decide +kernel
theorem dX5_add_37 : decode cX5_add 37 = .ok (.if_icmp .lt 5, 3) := by decide +kernel
theorem dX5_add_40 : decode cX5_add 40 = .ok (.iconst 0, 1) := by decide +kernel
theorem dX5_add_41 : decode cX5_add 41 = .ok (.ireturn, 1) := by decide +kernel
theorem dX5_add_42 : decode cX5_add 42 = .ok (.aload_n 0, 1) := by decide +kernel
theorem dX5_add_43 : decode cX5_add 43 = .ok (.getfield 15, 3) := by decide +kernel
theorem dX5_add_46 : decode cX5_add 46 = .ok (.aload_n 0, 1) := by decide +kernel
theorem dX5_add_47 : decode cX5_add 47 = .ok (.getfield 34, 3) := by decide +kernel
theorem dX5_add_50 : decode cX5_add 50 = .ok (.iload_n 1, 1) := by decide +kernel
theorem dX5_add_51 : decode cX5_add 51 = .ok (.iastore, 1) := by decide +kernel
theorem dX5_add_52 : decode cX5_add 52 = .ok (.aload_n 0, 1) := by decide +kernel
theorem dX5_add_53 : decode cX5_add 53 = .ok (.getfield 19, 3) := by decide +kernel
theorem dX5_add_56 : decode cX5_add 56 = .ok (.aload_n 0, 1) := by decide +kernel
theorem dX5_add_57 : decode cX5_add 57 = .ok (.getfield 34, 3) := by decide +kernel
theorem dX5_add_60 : decode cX5_add 60 = .ok (.iload_n 2, 1) := by decide +kernel
theorem dX5_add_61 : decode cX5_add 61 = .ok (.iastore, 1) := by decide +kernel
theorem dX5_add_62 : decode cX5_add 62 = .ok (.aload_n 0, 1) := by decide +kernel
theorem dX5_add_63 : decode cX5_add 63 = .ok (.getfield 22, 3) := by decide +kernel
theorem dX5_add_66 : decode cX5_add 66 = .ok (.aload_n 0, 1) := by decide +kernel
theorem dX5_add_67 : decode cX5_add 67 = .ok (.getfield 34, 3) := by decide +kernel
theorem dX5_add_70 : decode cX5_add 70 = .ok (.iload_n 3, 1) := by decide +kernel
theorem dX5_add_71 : decode cX5_add 71 = .ok (.iastore, 1) := by decide +kernel
theorem dX5_add_72 : decode cX5_add 72 = .ok (.aload_n 0, 1) := by decide +kernel
theorem dX5_add_73 : decode cX5_add 73 = .ok (.getfield 31, 3) := by decide +kernel
theorem dX5_add_76 : decode cX5_add 76 = .ok (.iload_n 1, 1) := by decide +kernel
theorem dX5_add_77 : decode cX5_add 77 = .ok (.bipush 10, 2) := by decide +kernel
theorem dX5_add_79 : decode cX5_add 79 = .ok (.imul, 1) := by decide +kernel
theorem dX5_add_80 : decode cX5_add 80 = .ok (.aload_n 0, 1) := by decide +kernel
theorem dX5_add_81 : decode cX5_add 81 = .ok (.getfield 28, 3) := by decide +kernel
theorem dX5_add_84 : decode cX5_add 84 = .ok (.iload_n 1, 1) := by decide +kernel
theorem dX5_add_85 : decode cX5_add 85 = .ok (.iaload, 1) := by decide +kernel
theorem dX5_add_86 : decode cX5_add 86 = .ok (.iadd, 1) := by decide +kernel
theorem dX5_add_87 : decode cX5_add 87 = .ok (.aload_n 0, 1) := by decide +kernel
theorem dX5_add_88 : decode cX5_add 88 = .ok (.getfield 34, 3) := by decide +kernel
theorem dX5_add_91 : decode cX5_add 91 = .ok (.iastore, 1) := by decide +kernel
theorem dX5_add_92 : decode cX5_add 92 = .ok (.aload_n 0, 1) := by decide +kernel
theorem dX5_add_93 : decode cX5_add 93 = .ok (.getfield 28, 3) := by decide +kernel
theorem dX5_add_96 : decode cX5_add 96 = .ok (.iload_n 1, 1) := by decide +kernel
theorem dX5_add_97 : decode cX5_add 97 = .ok (.dup2, 1) := by decide +kernel
theorem dX5_add_98 : decode cX5_add 98 = .ok (.iaload, 1) := by decide +kernel
theorem dX5_add_99 : decode cX5_add 99 = .ok (.iconst 1, 1) := by decide +kernel
theorem dX5_add_100 : decode cX5_add 100 = .ok (.iadd, 1) := by decide +kernel
theorem dX5_add_101 : decode cX5_add 101 = .ok (.iastore, 1) := by decide +kernel
theorem dX5_add_102 : decode cX5_add 102 = .ok (.aload_n 0, 1) := by decide +kernel
theorem dX5_add_103 : decode cX5_add 103 = .ok (.dup, 1) := by decide +kernel
theorem dX5_add_104 : decode cX5_add 104 = .ok (.getfield 34, 3) := by decide +kernel
theorem dX5_add_107 : decode cX5_add 107 = .ok (.iconst 1, 1) := by decide +kernel
theorem dX5_add_108 : decode cX5_add 108 = .ok (.iadd, 1) := by decide +kernel
theorem dX5_add_109 : decode cX5_add 109 = .ok (.putfield 34, 3) := by decide +kernel
theorem dX5_add_112 : decode cX5_add 112 = .ok (.iconst 1, 1) := by decide +kernel
theorem dX5_add_113 : decode cX5_add 113 = .ok (.ireturn, 1) := by decide +kernel
def tbX5_add (pc : Nat) : dt_T := cond (Nat.ble pc 60) (cond (Nat.ble pc 29) (cond (Nat.ble pc 13) (cond (Nat.ble pc 5) (cond (Nat.ble pc 1) (cond (Nat.ble pc 0) (cond (Nat.beq pc 0) (tc_ldI 1 1) tc_no) (cond (Nat.beq pc 1) (tc_iflt 18 4) tc_no)) (cond (Nat.ble pc 4) (cond (Nat.beq pc 4) (tc_ldI 1 5) tc_no) (cond (Nat.beq pc 5) (tc_ic 4 6) tc_no))) (cond (Nat.ble pc 9) (cond (Nat.ble pc 6) (cond (Nat.beq pc 6) (tc_icmpge 18 9) tc_no) (cond (Nat.beq pc 9) (tc_ldI 2 10) tc_no)) (cond (Nat.ble pc 10) (cond (Nat.beq pc 10) (tc_iflt 18 13) tc_no) (cond (Nat.beq pc 13) (tc_ldI 2 14) tc_no)))) (cond (Nat.ble pc 19) (cond (Nat.ble pc 15) (cond (Nat.ble pc 14) (cond (Nat.beq pc 14) (tc_ic 4 15) tc_no) (cond (Nat.beq pc 15) (tc_icmplt 20 18) tc_no)) (cond (Nat.ble pc 18) (cond (Nat.beq pc 18) (tc_ic 0 19) tc_no) (cond (Nat.beq pc 19) (tc_zret) tc_no))) (cond (Nat.ble pc 21) (cond (Nat.ble pc 20) (cond (Nat.beq pc 20) (tc_ldA 0 21) tc_no) (cond (Nat.beq pc 21) (tc_getf 5 7 24) tc_no)) (cond (Nat.ble pc 24) (cond (Nat.beq pc 24) (tc_ic 20 26) tc_no) (cond (Nat.ble pc 26) (cond (Nat.beq pc 26) (tc_icmpge 40 29) tc_no) (cond (Nat.beq pc 29) (tc_ldA 0 30) tc_no)))))) (cond (Nat.ble pc 43) (cond (Nat.ble pc 35) (cond (Nat.ble pc 33) (cond (Nat.ble pc 30) (cond (Nat.beq pc 30) (tc_getf 5 5 33) tc_no) (cond (Nat.beq pc 33) (tc_ldI 1 34) tc_no)) (cond (Nat.ble pc 34) (cond (Nat.beq pc 34) (tc_iald 35) tc_no) (cond (Nat.beq pc 35) (tc_ic 10 37) tc_no))) (cond (Nat.ble pc 40) (cond (Nat.ble pc 37) (cond (Nat.beq pc 37) (tc_icmplt 42 40) tc_no) (cond (Nat.beq pc 40) (tc_ic 0 41) tc_no)) (cond (Nat.ble pc 41) (cond (Nat.beq pc 41) (tc_zret) tc_no) (cond (Nat.ble pc 42) (cond (Nat.beq pc 42) (tc_ldA 0 43) tc_no) (cond (Nat.beq pc 43) (tc_getf 5 1 46) tc_no))))) (cond (Nat.ble pc 51) (cond (Nat.ble pc 47) (cond (Nat.ble pc 46) (cond (Nat.beq pc 46) (tc_ldA 0 47) tc_no) (cond (Nat.beq pc 47) (tc_getf 5 7 50) tc_no)) (cond (Nat.ble pc 50) (cond (Nat.beq pc 50) (tc_ldI 1 51) tc_no) (cond (Nat.beq pc 51) (tc_iast 52) tc_no))) (cond (Nat.ble pc 53) (cond (Nat.ble pc 52) (cond (Nat.beq pc 52) (tc_ldA 0 53) tc_no) (cond (Nat.beq pc 53) (tc_getf 5 2 56) tc_no)) (cond (Nat.ble pc 56) (cond (Nat.beq pc 56) (tc_ldA 0 57) tc_no) (cond (Nat.ble pc 57) (cond (Nat.beq pc 57) (tc_getf 5 7 60) tc_no) (cond (Nat.beq pc 60) (tc_ldI 2 61) tc_no))))))) (cond (Nat.ble pc 87) (cond (Nat.ble pc 73) (cond (Nat.ble pc 66) (cond (Nat.ble pc 62) (cond (Nat.ble pc 61) (cond (Nat.beq pc 61) (tc_iast 62) tc_no) (cond (Nat.beq pc 62) (tc_ldA 0 63) tc_no)) (cond (Nat.ble pc 63) (cond (Nat.beq pc 63) (tc_getf 5 3 66) tc_no) (cond (Nat.beq pc 66) (tc_ldA 0 67) tc_no))) (cond (Nat.ble pc 70) (cond (Nat.ble pc 67) (cond (Nat.beq pc 67) (tc_getf 5 7 70) tc_no) (cond (Nat.beq pc 70) (tc_ldI 3 71) tc_no)) (cond (Nat.ble pc 71) (cond (Nat.beq pc 71) (tc_iast 72) tc_no) (cond (Nat.ble pc 72) (cond (Nat.beq pc 72) (tc_ldA 0 73) tc_no) (cond (Nat.beq pc 73) (tc_getf 5 6 76) tc_no))))) (cond (Nat.ble pc 80) (cond (Nat.ble pc 77) (cond (Nat.ble pc 76) (cond (Nat.beq pc 76) (tc_ldI 1 77) tc_no) (cond (Nat.beq pc 77) (tc_ic 10 79) tc_no)) (cond (Nat.ble pc 79) (cond (Nat.beq pc 79) (tc_imul 80) tc_no) (cond (Nat.beq pc 80) (tc_ldA 0 81) tc_no))) (cond (Nat.ble pc 84) (cond (Nat.ble pc 81) (cond (Nat.beq pc 81) (tc_getf 5 5 84) tc_no) (cond (Nat.beq pc 84) (tc_ldI 1 85) tc_no)) (cond (Nat.ble pc 85) (cond (Nat.beq pc 85) (tc_iald 86) tc_no) (cond (Nat.ble pc 86) (cond (Nat.beq pc 86) (tc_iadd 87) tc_no) (cond (Nat.beq pc 87) (tc_ldA 0 88) tc_no)))))) (cond (Nat.ble pc 100) (cond (Nat.ble pc 93) (cond (Nat.ble pc 91) (cond (Nat.ble pc 88) (cond (Nat.beq pc 88) (tc_getf 5 7 91) tc_no) (cond (Nat.beq pc 91) (tc_iast 92) tc_no)) (cond (Nat.ble pc 92) (cond (Nat.beq pc 92) (tc_ldA 0 93) tc_no) (cond (Nat.beq pc 93) (tc_getf 5 5 96) tc_no))) (cond (Nat.ble pc 97) (cond (Nat.ble pc 96) (cond (Nat.beq pc 96) (tc_ldI 1 97) tc_no) (cond (Nat.beq pc 97) (tc_dup2 98) tc_no)) (cond (Nat.ble pc 98) (cond (Nat.beq pc 98) (tc_iald 99) tc_no) (cond (Nat.ble pc 99) (cond (Nat.beq pc 99) (tc_ic 1 100) tc_no) (cond (Nat.beq pc 100) (tc_iadd 101) tc_no))))) (cond (Nat.ble pc 104) (cond (Nat.ble pc 102) (cond (Nat.ble pc 101) (cond (Nat.beq pc 101) (tc_iast 102) tc_no) (cond (Nat.beq pc 102) (tc_ldA 0 103) tc_no)) (cond (Nat.ble pc 103) (cond (Nat.beq pc 103) (tc_dup 104) tc_no) (cond (Nat.beq pc 104) (tc_getf 5 7 107) tc_no))) (cond (Nat.ble pc 108) (cond (Nat.ble pc 107) (cond (Nat.beq pc 107) (tc_ic 1 108) tc_no) (cond (Nat.beq pc 108) (tc_iadd 109) tc_no)) (cond (Nat.ble pc 109) (cond (Nat.beq pc 109) (tc_putI 5 7 112) tc_no) (cond (Nat.ble pc 112) (cond (Nat.beq pc 112) (tc_ic 1 113) tc_no) (cond (Nat.beq pc 113) (tc_zret) tc_no)))))))
theorem okX5_add : ∀ pc, dt_S mX5_add (tbX5_add pc) pc := by
  intro pc
  unfold tbX5_add
  exact dt_Sb (dt_Sb (dt_Sb (dt_Sb (dt_Sb (dt_Sb (dt_Sl 0 (sn_ldIn rfl dX5_add_0 rfl)) (dt_Sl 1 (sn_iflt dX5_add_1 (by decide) rfl))) (dt_Sb (dt_Sl 4 (sn_ldIn rfl dX5_add_4 rfl)) (dt_Sl 5 (sn_ic ⟨by decide, by decide⟩ dX5_add_5 rfl)))) (dt_Sb (dt_Sb (dt_Sl 6 (sn_icmpge dX5_add_6 (by decide) rfl)) (dt_Sl 9 (sn_ldIn rfl dX5_add_9 rfl))) (dt_Sb (dt_Sl 10 (sn_iflt dX5_add_10 (by decide) rfl)) (dt_Sl 13 (sn_ldIn rfl dX5_add_13 rfl))))) (dt_Sb (dt_Sb (dt_Sb (dt_Sl 14 (sn_ic ⟨by decide, by decide⟩ dX5_add_14 rfl)) (dt_Sl 15 (sn_icmplt dX5_add_15 (by decide) rfl))) (dt_Sb (dt_Sl 18 (sn_ic ⟨by decide, by decide⟩ dX5_add_18 rfl)) (dt_Sl 19 (sn_zret rfl dX5_add_19)))) (dt_Sb (dt_Sb (dt_Sl 20 (sn_ldAn rfl dX5_add_20 rfl)) (dt_Sl 21 (sn_getf rfl ffX5 (by decide) wq_1_53 dX5_add_21 rfl))) (dt_Sb (dt_Sl 24 (sn_bi ⟨by decide, by decide⟩ rfl dX5_add_24 rfl)) (dt_Sb (dt_Sl 26 (sn_icmpge dX5_add_26 (by decide) rfl)) (dt_Sl 29 (sn_ldAn rfl dX5_add_29 rfl))))))) (dt_Sb (dt_Sb (dt_Sb (dt_Sb (dt_Sl 30 (sn_getf rfl ffX5 (by decide) wq_1_49 dX5_add_30 rfl)) (dt_Sl 33 (sn_ldIn rfl dX5_add_33 rfl))) (dt_Sb (dt_Sl 34 (sn_iald dX5_add_34 rfl)) (dt_Sl 35 (sn_bi ⟨by decide, by decide⟩ rfl dX5_add_35 rfl)))) (dt_Sb (dt_Sb (dt_Sl 37 (sn_icmplt dX5_add_37 (by decide) rfl)) (dt_Sl 40 (sn_ic ⟨by decide, by decide⟩ dX5_add_40 rfl))) (dt_Sb (dt_Sl 41 (sn_zret rfl dX5_add_41)) (dt_Sb (dt_Sl 42 (sn_ldAn rfl dX5_add_42 rfl)) (dt_Sl 43 (sn_getf rfl ffX5 (by decide) wq_1_34 dX5_add_43 rfl)))))) (dt_Sb (dt_Sb (dt_Sb (dt_Sl 46 (sn_ldAn rfl dX5_add_46 rfl)) (dt_Sl 47 (sn_getf rfl ffX5 (by decide) wq_1_53 dX5_add_47 rfl))) (dt_Sb (dt_Sl 50 (sn_ldIn rfl dX5_add_50 rfl)) (dt_Sl 51 (sn_iast dX5_add_51 rfl)))) (dt_Sb (dt_Sb (dt_Sl 52 (sn_ldAn rfl dX5_add_52 rfl)) (dt_Sl 53 (sn_getf rfl ffX5 (by decide) wq_1_38 dX5_add_53 rfl))) (dt_Sb (dt_Sl 56 (sn_ldAn rfl dX5_add_56 rfl)) (dt_Sb (dt_Sl 57 (sn_getf rfl ffX5 (by decide) wq_1_53 dX5_add_57 rfl)) (dt_Sl 60 (sn_ldIn rfl dX5_add_60 rfl)))))))) (dt_Sb (dt_Sb (dt_Sb (dt_Sb (dt_Sb (dt_Sl 61 (sn_iast dX5_add_61 rfl)) (dt_Sl 62 (sn_ldAn rfl dX5_add_62 rfl))) (dt_Sb (dt_Sl 63 (sn_getf rfl ffX5 (by decide) wq_1_42 dX5_add_63 rfl)) (dt_Sl 66 (sn_ldAn rfl dX5_add_66 rfl)))) (dt_Sb (dt_Sb (dt_Sl 67 (sn_getf rfl ffX5 (by decide) wq_1_53 dX5_add_67 rfl)) (dt_Sl 70 (sn_ldIn rfl dX5_add_70 rfl))) (dt_Sb (dt_Sl 71 (sn_iast dX5_add_71 rfl)) (dt_Sb (dt_Sl 72 (sn_ldAn rfl dX5_add_72 rfl)) (dt_Sl 73 (sn_getf rfl ffX5 (by decide) wq_1_52 dX5_add_73 rfl)))))) (dt_Sb (dt_Sb (dt_Sb (dt_Sl 76 (sn_ldIn rfl dX5_add_76 rfl)) (dt_Sl 77 (sn_bi ⟨by decide, by decide⟩ rfl dX5_add_77 rfl))) (dt_Sb (dt_Sl 79 (sn_imul dX5_add_79 rfl)) (dt_Sl 80 (sn_ldAn rfl dX5_add_80 rfl)))) (dt_Sb (dt_Sb (dt_Sl 81 (sn_getf rfl ffX5 (by decide) wq_1_49 dX5_add_81 rfl)) (dt_Sl 84 (sn_ldIn rfl dX5_add_84 rfl))) (dt_Sb (dt_Sl 85 (sn_iald dX5_add_85 rfl)) (dt_Sb (dt_Sl 86 (sn_iadd dX5_add_86 rfl)) (dt_Sl 87 (sn_ldAn rfl dX5_add_87 rfl))))))) (dt_Sb (dt_Sb (dt_Sb (dt_Sb (dt_Sl 88 (sn_getf rfl ffX5 (by decide) wq_1_53 dX5_add_88 rfl)) (dt_Sl 91 (sn_iast dX5_add_91 rfl))) (dt_Sb (dt_Sl 92 (sn_ldAn rfl dX5_add_92 rfl)) (dt_Sl 93 (sn_getf rfl ffX5 (by decide) wq_1_49 dX5_add_93 rfl)))) (dt_Sb (dt_Sb (dt_Sl 96 (sn_ldIn rfl dX5_add_96 rfl)) (dt_Sl 97 (sn_dup2 dX5_add_97 rfl))) (dt_Sb (dt_Sl 98 (sn_iald dX5_add_98 rfl)) (dt_Sb (dt_Sl 99 (sn_ic ⟨by decide, by decide⟩ dX5_add_99 rfl)) (dt_Sl 100 (sn_iadd dX5_add_100 rfl)))))) (dt_Sb (dt_Sb (dt_Sb (dt_Sl 101 (sn_iast dX5_add_101 rfl)) (dt_Sl 102 (sn_ldAn rfl dX5_add_102 rfl))) (dt_Sb (dt_Sl 103 (sn_dup dX5_add_103 rfl)) (dt_Sl 104 (sn_getf rfl ffX5 (by decide) wq_1_53 dX5_add_104 rfl)))) (dt_Sb (dt_Sb (dt_Sl 107 (sn_ic ⟨by decide, by decide⟩ dX5_add_107 rfl)) (dt_Sl 108 (sn_iadd dX5_add_108 rfl))) (dt_Sb (dt_Sl 109 (sn_putI rfl ffX5 (by decide) rfl rfl (by decide +kernel) wq_1_53 dX5_add_109 rfl)) (dt_Sb (dt_Sl 112 (sn_ic ⟨by decide, by decide⟩ dX5_add_112 rfl)) (dt_Sl 113 (sn_zret rfl dX5_add_113))))))))
theorem dX5_addCopy_0 : decode cX5_addCopy 0 = .ok (.iload_n 2, 1) := by decide +kernel
theorem dX5_addCopy_1 : decode cX5_addCopy 1 = .ok (.ifCond .lt 11, 3) := by decide +kernel
theorem dX5_addCopy_4 : decode cX5_addCopy 4 = .ok (.iload_n 2, 1) := by decide +kernel
theorem dX5_addCopy_5 : decode cX5_addCopy 5 = .ok (.aload_n 1, 1) := by decide +kernel
theorem dX5_addCopy_6 : decode cX5_addCopy 6 = .ok (.getfield 34, 3) := by decide +kernel
theorem dX5_addCopy_9 : decode cX5_addCopy 9 = .ok (.if_icmp .lt 4, 3) := by decide +kernel
theorem dX5_addCopy_12 : decode cX5_addCopy 12 = .ok (.return_, 1) := by decide +kernel
theorem dX5_addCopy_13 : decode cX5_addCopy 13 = .ok (.aload_n 1, 1) := by decide +kernel
theorem dX5_addCopy_14 : decode cX5_addCopy 14 = .ok (.getfield 9, 3) := by decide +kernel
theorem dX5_addCopy_17 : decode cX5_addCopy 17 = .ok (.iload_n 2, 1) := by decide +kernel
theorem dX5_addCopy_18 : decode cX5_addCopy 18 = .ok (.baload, 1) := by decide +kernel
theorem dX5_addCopy_19 : decode cX5_addCopy 19 = .ok (.ifCond .eq 28, 3) := by decide +kernel
theorem dX5_addCopy_22 : decode cX5_addCopy 22 = .ok (.aload_n 0, 1) := by decide +kernel
theorem dX5_addCopy_23 : decode cX5_addCopy 23 = .ok (.aload_n 1, 1) := by decide +kernel
theorem dX5_addCopy_24 : decode cX5_addCopy 24 = .ok (.getfield 19, 3) := by decide +kernel
theorem dX5_addCopy_27 : decode cX5_addCopy 27 = .ok (.iload_n 2, 1) := by decide +kernel
theorem dX5_addCopy_28 : decode cX5_addCopy 28 = .ok (.iaload, 1) := by decide +kernel
theorem dX5_addCopy_29 : decode cX5_addCopy 29 = .ok (.aload_n 1, 1) := by decide +kernel
theorem dX5_addCopy_30 : decode cX5_addCopy 30 = .ok (.getfield 15, 3) := by decide +kernel
theorem dX5_addCopy_33 : decode cX5_addCopy 33 = .ok (.iload_n 2, 1) := by decide +kernel
theorem dX5_addCopy_34 : decode cX5_addCopy 34 = .ok (.iaload, 1) := by decide +kernel
theorem dX5_addCopy_35 : decode cX5_addCopy 35 = .ok (.aload_n 1, 1) := by decide +kernel
theorem dX5_addCopy_36 : decode cX5_addCopy 36 = .ok (.getfield 22, 3) := by decide +kernel
theorem dX5_addCopy_39 : decode cX5_addCopy 39 = .ok (.iload_n 2, 1) := by decide +kernel
theorem dX5_addCopy_40 : decode cX5_addCopy 40 = .ok (.iaload, 1) := by decide +kernel
theorem dX5_addCopy_41 : decode cX5_addCopy 41 = .ok (.invokevirtual 49, 3) := by decide +kernel
theorem dX5_addCopy_44 : decode cX5_addCopy 44 = .ok (.goto 25, 3) := by decide +kernel
theorem dX5_addCopy_47 : decode cX5_addCopy 47 = .ok (.aload_n 0, 1) := by decide +kernel
theorem dX5_addCopy_48 : decode cX5_addCopy 48 = .ok (.aload_n 1, 1) := by decide +kernel
theorem dX5_addCopy_49 : decode cX5_addCopy 49 = .ok (.getfield 15, 3) := by decide +kernel
theorem dX5_addCopy_52 : decode cX5_addCopy 52 = .ok (.iload_n 2, 1) := by decide +kernel
theorem dX5_addCopy_53 : decode cX5_addCopy 53 = .ok (.iaload, 1) := by decide +kernel
theorem dX5_addCopy_54 : decode cX5_addCopy 54 = .ok (.aload_n 1, 1) := by decide +kernel
theorem dX5_addCopy_55 : decode cX5_addCopy 55 = .ok (.getfield 19, 3) := by decide +kernel
theorem dX5_addCopy_58 : decode cX5_addCopy 58 = .ok (.iload_n 2, 1) := by decide +kernel
theorem dX5_addCopy_59 : decode cX5_addCopy 59 = .ok (.iaload, 1) := by decide +kernel
theorem dX5_addCopy_60 : decode cX5_addCopy 60 = .ok (.aload_n 1, 1) := by decide +kernel
theorem dX5_addCopy_61 : decode cX5_addCopy 61 = .ok (.getfield 22, 3) := by decide +kernel
theorem dX5_addCopy_64 : decode cX5_addCopy 64 = .ok (.iload_n 2, 1) := by decide +kernel
theorem dX5_addCopy_65 : decode cX5_addCopy 65 = .ok (.iaload, 1) := by decide +kernel
theorem dX5_addCopy_66 : decode cX5_addCopy 66 = .ok (.invokevirtual 53, 3) := by decide +kernel
theorem dX5_addCopy_69 : decode cX5_addCopy 69 = .ok (.return_, 1) := by decide +kernel
def tbX5_addCopy (pc : Nat) : dt_T := cond (Nat.ble pc 34) (cond (Nat.ble pc 17) (cond (Nat.ble pc 6) (cond (Nat.ble pc 1) (cond (Nat.ble pc 0) (cond (Nat.beq pc 0) (tc_ldI 2 1) tc_no) (cond (Nat.beq pc 1) (tc_iflt 12 4) tc_no)) (cond (Nat.ble pc 4) (cond (Nat.beq pc 4) (tc_ldI 2 5) tc_no) (cond (Nat.ble pc 5) (cond (Nat.beq pc 5) (tc_ldA 1 6) tc_no) (cond (Nat.beq pc 6) (tc_getf 5 7 9) tc_no)))) (cond (Nat.ble pc 12) (cond (Nat.ble pc 9) (cond (Nat.beq pc 9) (tc_icmplt 13 12) tc_no) (cond (Nat.beq pc 12) (tc_ret) tc_no)) (cond (Nat.ble pc 13) (cond (Nat.beq pc 13) (tc_ldA 1 14) tc_no) (cond (Nat.ble pc 14) (cond (Nat.beq pc 14) (tc_getf 5 0 17) tc_no) (cond (Nat.beq pc 17) (tc_ldI 2 18) tc_no))))) (cond (Nat.ble pc 24) (cond (Nat.ble pc 19) (cond (Nat.ble pc 18) (cond (Nat.beq pc 18) (tc_zald 19) tc_no) (cond (Nat.beq pc 19) (tc_ifeq 47 22) tc_no)) (cond (Nat.ble pc 22) (cond (Nat.beq pc 22) (tc_ldA 0 23) tc_no) (cond (Nat.ble pc 23) (cond (Nat.beq pc 23) (tc_ldA 1 24) tc_no) (cond (Nat.beq pc 24) (tc_getf 5 2 27) tc_no)))) (cond (Nat.ble pc 29) (cond (Nat.ble pc 27) (cond (Nat.beq pc 27) (tc_ldI 2 28) tc_no) (cond (Nat.ble pc 28) (cond (Nat.beq pc 28) (tc_iald 29) tc_no) (cond (Nat.beq pc 29) (tc_ldA 1 30) tc_no))) (cond (Nat.ble pc 30) (cond (Nat.beq pc 30) (tc_getf 5 1 33) tc_no) (cond (Nat.ble pc 33) (cond (Nat.beq pc 33) (tc_ldI 2 34) tc_no) (cond (Nat.beq pc 34) (tc_iald 35) tc_no)))))) (cond (Nat.ble pc 52) (cond (Nat.ble pc 41) (cond (Nat.ble pc 36) (cond (Nat.ble pc 35) (cond (Nat.beq pc 35) (tc_ldA 1 36) tc_no) (cond (Nat.beq pc 36) (tc_getf 5 3 39) tc_no)) (cond (Nat.ble pc 39) (cond (Nat.beq pc 39) (tc_ldI 2 40) tc_no) (cond (Nat.ble pc 40) (cond (Nat.beq pc 40) (tc_iald 41) tc_no) (cond (Nat.beq pc 41) (tc_callV 5 mX5_addTake 3 44) tc_no)))) (cond (Nat.ble pc 47) (cond (Nat.ble pc 44) (cond (Nat.beq pc 44) (tc_goto 69) tc_no) (cond (Nat.beq pc 47) (tc_ldA 0 48) tc_no)) (cond (Nat.ble pc 48) (cond (Nat.beq pc 48) (tc_ldA 1 49) tc_no) (cond (Nat.ble pc 49) (cond (Nat.beq pc 49) (tc_getf 5 1 52) tc_no) (cond (Nat.beq pc 52) (tc_ldI 2 53) tc_no))))) (cond (Nat.ble pc 59) (cond (Nat.ble pc 54) (cond (Nat.ble pc 53) (cond (Nat.beq pc 53) (tc_iald 54) tc_no) (cond (Nat.beq pc 54) (tc_ldA 1 55) tc_no)) (cond (Nat.ble pc 55) (cond (Nat.beq pc 55) (tc_getf 5 2 58) tc_no) (cond (Nat.ble pc 58) (cond (Nat.beq pc 58) (tc_ldI 2 59) tc_no) (cond (Nat.beq pc 59) (tc_iald 60) tc_no)))) (cond (Nat.ble pc 64) (cond (Nat.ble pc 60) (cond (Nat.beq pc 60) (tc_ldA 1 61) tc_no) (cond (Nat.ble pc 61) (cond (Nat.beq pc 61) (tc_getf 5 3 64) tc_no) (cond (Nat.beq pc 64) (tc_ldI 2 65) tc_no))) (cond (Nat.ble pc 65) (cond (Nat.beq pc 65) (tc_iald 66) tc_no) (cond (Nat.ble pc 66) (cond (Nat.beq pc 66) (tc_callV 5 mX5_addSend 3 69) tc_no) (cond (Nat.beq pc 69) (tc_ret) tc_no))))))
theorem okX5_addCopy : ∀ pc, dt_S mX5_addCopy (tbX5_addCopy pc) pc := by
  intro pc
  unfold tbX5_addCopy
  exact dt_Sb (dt_Sb (dt_Sb (dt_Sb (dt_Sb (dt_Sl 0 (sn_ldIn rfl dX5_addCopy_0 rfl)) (dt_Sl 1 (sn_iflt dX5_addCopy_1 (by decide) rfl))) (dt_Sb (dt_Sl 4 (sn_ldIn rfl dX5_addCopy_4 rfl)) (dt_Sb (dt_Sl 5 (sn_ldAn rfl dX5_addCopy_5 rfl)) (dt_Sl 6 (sn_getf rfl ffX5 (by decide) wq_1_53 dX5_addCopy_6 rfl))))) (dt_Sb (dt_Sb (dt_Sl 9 (sn_icmplt dX5_addCopy_9 (by decide) rfl)) (dt_Sl 12 (sn_ret rfl dX5_addCopy_12))) (dt_Sb (dt_Sl 13 (sn_ldAn rfl dX5_addCopy_13 rfl)) (dt_Sb (dt_Sl 14 (sn_getf rfl ffX5 (by decide) wq_1_29 dX5_addCopy_14 rfl)) (dt_Sl 17 (sn_ldIn rfl dX5_addCopy_17 rfl)))))) (dt_Sb (dt_Sb (dt_Sb (dt_Sl 18 (sn_zald dX5_addCopy_18 rfl)) (dt_Sl 19 (sn_ifeq dX5_addCopy_19 (by decide) rfl))) (dt_Sb (dt_Sl 22 (sn_ldAn rfl dX5_addCopy_22 rfl)) (dt_Sb (dt_Sl 23 (sn_ldAn rfl dX5_addCopy_23 rfl)) (dt_Sl 24 (sn_getf rfl ffX5 (by decide) wq_1_38 dX5_addCopy_24 rfl))))) (dt_Sb (dt_Sb (dt_Sl 27 (sn_ldIn rfl dX5_addCopy_27 rfl)) (dt_Sb (dt_Sl 28 (sn_iald dX5_addCopy_28 rfl)) (dt_Sl 29 (sn_ldAn rfl dX5_addCopy_29 rfl)))) (dt_Sb (dt_Sl 30 (sn_getf rfl ffX5 (by decide) wq_1_34 dX5_addCopy_30 rfl)) (dt_Sb (dt_Sl 33 (sn_ldIn rfl dX5_addCopy_33 rfl)) (dt_Sl 34 (sn_iald dX5_addCopy_34 rfl))))))) (dt_Sb (dt_Sb (dt_Sb (dt_Sb (dt_Sl 35 (sn_ldAn rfl dX5_addCopy_35 rfl)) (dt_Sl 36 (sn_getf rfl ffX5 (by decide) wq_1_42 dX5_addCopy_36 rfl))) (dt_Sb (dt_Sl 39 (sn_ldIn rfl dX5_addCopy_39 rfl)) (dt_Sb (dt_Sl 40 (sn_iald dX5_addCopy_40 rfl)) (dt_Sl 41 (sn_callV rfl ffX5 nnX5_addTake rfl wq_2_133 wq_2_108 wq_2_109 dX5_addCopy_41 rfl))))) (dt_Sb (dt_Sb (dt_Sl 44 (sn_goto dX5_addCopy_44 (by decide))) (dt_Sl 47 (sn_ldAn rfl dX5_addCopy_47 rfl))) (dt_Sb (dt_Sl 48 (sn_ldAn rfl dX5_addCopy_48 rfl)) (dt_Sb (dt_Sl 49 (sn_getf rfl ffX5 (by decide) wq_1_34 dX5_addCopy_49 rfl)) (dt_Sl 52 (sn_ldIn rfl dX5_addCopy_52 rfl)))))) (dt_Sb (dt_Sb (dt_Sb (dt_Sl 53 (sn_iald dX5_addCopy_53 rfl)) (dt_Sl 54 (sn_ldAn rfl dX5_addCopy_54 rfl))) (dt_Sb (dt_Sl 55 (sn_getf rfl ffX5 (by decide) wq_1_38 dX5_addCopy_55 rfl)) (dt_Sb (dt_Sl 58 (sn_ldIn rfl dX5_addCopy_58 rfl)) (dt_Sl 59 (sn_iald dX5_addCopy_59 rfl))))) (dt_Sb (dt_Sb (dt_Sl 60 (sn_ldAn rfl dX5_addCopy_60 rfl)) (dt_Sb (dt_Sl 61 (sn_getf rfl ffX5 (by decide) wq_1_42 dX5_addCopy_61 rfl)) (dt_Sl 64 (sn_ldIn rfl dX5_addCopy_64 rfl)))) (dt_Sb (dt_Sl 65 (sn_iald dX5_addCopy_65 rfl)) (dt_Sb (dt_Sl 66 (sn_callV rfl ffX5 nnX5_addSend rfl wq_2_134 wq_2_117 wq_2_118 dX5_addCopy_66 rfl)) (dt_Sl 69 (sn_ret rfl dX5_addCopy_69)))))))
theorem dX5_addAll_0 : decode cX5_addAll 0 = .ok (.iconst 0, 1) := by decide +kernel
theorem dX5_addAll_1 : decode cX5_addAll 1 = .ok (.istore_n 2, 1) := by decide +kernel
theorem dX5_addAll_2 : decode cX5_addAll 2 = .ok (.iload_n 2, 1) := by decide +kernel
theorem dX5_addAll_3 : decode cX5_addAll 3 = .ok (.aload_n 1, 1) := by decide +kernel
theorem dX5_addAll_4 : decode cX5_addAll 4 = .ok (.getfield 34, 3) := by decide +kernel
theorem dX5_addAll_7 : decode cX5_addAll 7 = .ok (.if_icmp .ge 15, 3) := by decide +kernel
theorem dX5_addAll_10 : decode cX5_addAll 10 = .ok (.aload_n 0, 1) := by decide +kernel
theorem dX5_addAll_11 : decode cX5_addAll 11 = .ok (.aload_n 1, 1) := by decide +kernel
theorem dX5_addAll_12 : decode cX5_addAll 12 = .ok (.iload_n 2, 1) := by decide +kernel
theorem dX5_addAll_13 : decode cX5_addAll 13 = .ok (.invokevirtual 56, 3) := by decide +kernel
theorem dX5_addAll_16 : decode cX5_addAll 16 = .ok (.iinc 2 1, 3) := by decide +kernel
theorem dX5_addAll_19 : decode cX5_addAll 19 = .ok (.goto (-17), 3) := by decide +kernel
theorem dX5_addAll_22 : decode cX5_addAll 22 = .ok (.return_, 1) := by decide +kernel
def tbX5_addAll (pc : Nat) : dt_T := cond (Nat.ble pc 7) (cond (Nat.ble pc 2) (cond (Nat.ble pc 0) (cond (Nat.beq pc 0) (tc_ic 0 1) tc_no) (cond (Nat.ble pc 1) (cond (Nat.beq pc 1) (tc_stI 2 2) tc_no) (cond (Nat.beq pc 2) (tc_ldI 2 3) tc_no))) (cond (Nat.ble pc 3) (cond (Nat.beq pc 3) (tc_ldA 1 4) tc_no) (cond (Nat.ble pc 4) (cond (Nat.beq pc 4) (tc_getf 5 7 7) tc_no) (cond (Nat.beq pc 7) (tc_icmpge 22 10) tc_no)))) (cond (Nat.ble pc 12) (cond (Nat.ble pc 10) (cond (Nat.beq pc 10) (tc_ldA 0 11) tc_no) (cond (Nat.ble pc 11) (cond (Nat.beq pc 11) (tc_ldA 1 12) tc_no) (cond (Nat.beq pc 12) (tc_ldI 2 13) tc_no))) (cond (Nat.ble pc 16) (cond (Nat.ble pc 13) (cond (Nat.beq pc 13) (tc_callV 5 mX5_addCopy 2 16) tc_no) (cond (Nat.beq pc 16) (tc_iinc 2 1 19) tc_no)) (cond (Nat.ble pc 19) (cond (Nat.beq pc 19) (tc_goto 2) tc_no) (cond (Nat.beq pc 22) (tc_ret) tc_no))))
theorem okX5_addAll : ∀ pc, dt_S mX5_addAll (tbX5_addAll pc) pc := by
  intro pc
  unfold tbX5_addAll
  exact dt_Sb (dt_Sb (dt_Sb (dt_Sl 0 (sn_ic ⟨by decide, by decide⟩ dX5_addAll_0 rfl)) (dt_Sb (dt_Sl 1 (sn_stIn rfl (by decide) dX5_addAll_1 rfl)) (dt_Sl 2 (sn_ldIn rfl dX5_addAll_2 rfl)))) (dt_Sb (dt_Sl 3 (sn_ldAn rfl dX5_addAll_3 rfl)) (dt_Sb (dt_Sl 4 (sn_getf rfl ffX5 (by decide) wq_1_53 dX5_addAll_4 rfl)) (dt_Sl 7 (sn_icmpge dX5_addAll_7 (by decide) rfl))))) (dt_Sb (dt_Sb (dt_Sl 10 (sn_ldAn rfl dX5_addAll_10 rfl)) (dt_Sb (dt_Sl 11 (sn_ldAn rfl dX5_addAll_11 rfl)) (dt_Sl 12 (sn_ldIn rfl dX5_addAll_12 rfl)))) (dt_Sb (dt_Sb (dt_Sl 13 (sn_callV rfl ffX5 nnX5_addCopy rfl wq_2_129 wq_2_130 wq_2_131 dX5_addAll_13 rfl)) (dt_Sl 16 (sn_iinc (by decide) dX5_addAll_16 rfl))) (dt_Sb (dt_Sl 19 (sn_goto dX5_addAll_19 (by decide))) (dt_Sl 22 (sn_ret rfl dX5_addAll_22)))))
theorem dX5_hasSameLine_0 : decode cX5_hasSameLine 0 = .ok (.iload_n 2, 1) := by decide +kernel
theorem dX5_hasSameLine_1 : decode cX5_hasSameLine 1 = .ok (.ifCond .lt 23, 3) := by decide +kernel
theorem dX5_hasSameLine_4 : decode cX5_hasSameLine 4 = .ok (.iload_n 2, 1) := by decide +kernel
theorem dX5_hasSameLine_5 : decode cX5_hasSameLine 5 = .ok (.iconst 4, 1) := by decide +kernel
theorem dX5_hasSameLine_6 : decode cX5_hasSameLine 6 = .ok (.if_icmp .ge 18, 3) := by decide +kernel
theorem dX5_hasSameLine_9 : decode cX5_hasSameLine 9 = .ok (.aload_n 0, 1) := by decide +kernel
theorem dX5_hasSameLine_10 : decode cX5_hasSameLine 10 = .ok (.getfield 28, 3) := by decide +kernel
theorem dX5_hasSameLine_13 : decode cX5_hasSameLine 13 = .ok (.iload_n 2, 1) := by decide +kernel
theorem dX5_hasSameLine_14 : decode cX5_hasSameLine 14 = .ok (.iaload, 1) := by decide +kernel
theorem dX5_hasSameLine_15 : decode cX5_hasSameLine 15 = .ok (.aload_n 1, 1) := by decide +kernel
theorem dX5_hasSameLine_16 : decode cX5_hasSameLine 16 = .ok (.getfield 28, 3) := by decide +kernel
theorem dX5_hasSameLine_19 : decode cX5_hasSameLine 19 = .ok (.iload_n 2, 1) := by decide +kernel
theorem dX5_hasSameLine_20 : decode cX5_hasSameLine 20 = .ok (.iaload, 1) := by decide +kernel
theorem dX5_hasSameLine_21 : decode cX5_hasSameLine 21 = .ok (.if_icmp .eq 5, 3) := by decide +kernel
theorem dX5_hasSameLine_24 : decode cX5_hasSameLine 24 = .ok (.iconst 0, 1) := by decide +kernel
theorem dX5_hasSameLine_25 : decode cX5_hasSameLine 25 = .ok (.ireturn, 1) := by decide +kernel
theorem dX5_hasSameLine_26 : decode cX5_hasSameLine 26 = .ok (.iconst 0, 1) := by decide +kernel
theorem dX5_hasSameLine_27 : decode cX5_hasSameLine 27 = .ok (.istore_n 3, 1) := by decide +kernel
theorem dX5_hasSameLine_28 : decode cX5_hasSameLine 28 = .ok (.iload_n 3, 1) := by decide +kernel
theorem dX5_hasSameLine_29 : decode cX5_hasSameLine 29 = .ok (.aload_n 0, 1) := by decide +kernel
theorem dX5_hasSameLine_30 : decode cX5_hasSameLine 30 = .ok (.getfield 28, 3) := by decide +kernel
theorem dX5_hasSameLine_33 : decode cX5_hasSameLine 33 = .ok (.iload_n 2, 1) := by decide +kernel
theorem dX5_hasSameLine_34 : decode cX5_hasSameLine 34 = .ok (.iaload, 1) := by decide +kernel
theorem dX5_hasSameLine_35 : decode cX5_hasSameLine 35 = .ok (.if_icmp .ge 90, 3) := by decide +kernel
theorem dX5_hasSameLine_38 : decode cX5_hasSameLine 38 = .ok (.aload_n 0, 1) := by decide +kernel
theorem dX5_hasSameLine_39 : decode cX5_hasSameLine 39 = .ok (.iload_n 2, 1) := by decide +kernel
theorem dX5_hasSameLine_40 : decode cX5_hasSameLine 40 = .ok (.iload_n 3, 1) := by decide +kernel
theorem dX5_hasSameLine_41 : decode cX5_hasSameLine 41 = .ok (.invokevirtual 60, 3) := by decide +kernel
theorem dX5_hasSameLine_44 : decode cX5_hasSameLine 44 = .ok (.istore 4, 2) := by decide +kernel
theorem dX5_hasSameLine_46 : decode cX5_hasSameLine 46 = .ok (.aload_n 1, 1) := by decide +kernel
theorem dX5_hasSameLine_47 : decode cX5_hasSameLine 47 = .ok (.iload_n 2, 1) := by decide +kernel
theorem dX5_hasSameLine_48 : decode cX5_hasSameLine 48 = .ok (.iload_n 3, 1) := by decide +kernel
theorem dX5_hasSameLine_49 : decode cX5_hasSameLine 49 = .ok (.invokevirtual 60, 3) := by decide +kernel
theorem dX5_hasSameLine_52 : decode cX5_hasSameLine 52 = .ok (.istore 5, 2) := by decide +kernel
theorem dX5_hasSameLine_54 : decode cX5_hasSameLine 54 = .ok (.iload 4, 2) := by decide +kernel
theorem dX5_hasSameLine_56 : decode cX5_hasSameLine 56 = .ok (.iconst (-1), 1) := by decide +kernel
theorem dX5_hasSameLine_57 : decode cX5_hasSameLine 57 = .ok (.if_icmp .eq 60, 3) := by decide +kernel
theorem dX5_hasSameLine_60 : decode cX5_hasSameLine 60 = .ok (.iload 5, 2) := by decide +kernel
theorem dX5_hasSameLine_62 : decode cX5_hasSameLine 62 = .ok (.iconst (-1), 1) := by decide +kernel
theorem dX5_hasSameLine_63 : decode cX5_hasSameLine 63 = .ok (.if_icmp .eq 54, 3) := by decide +kernel
theorem dX5_hasSameLine_66 : decode cX5_hasSameLine 66 = .ok (.aload_n 0, 1) := by decide +kernel
theorem dX5_hasSameLine_67 : decode cX5_hasSameLine 67 = .ok (.getfield 9, 3) := by decide +kernel
theorem dX5_hasSameLine_70 : decode cX5_hasSameLine 70 = .ok (.iload 4, 2) := by decide +kernel
theorem dX5_hasSameLine_72 : decode cX5_hasSameLine 72 = .ok (.baload, 1) := by decide +kernel
theorem dX5_hasSameLine_73 : decode cX5_hasSameLine 73 = .ok (.aload_n 1, 1) := by decide +kernel
theorem dX5_hasSameLine_74 : decode cX5_hasSameLine 74 = .ok (.getfield 9, 3) := by decide +kernel
theorem dX5_hasSameLine_77 : decode cX5_hasSameLine 77 = .ok (.iload 5, 2) := by decide +kernel
theorem dX5_hasSameLine_79 : decode cX5_hasSameLine 79 = .ok (.baload, 1) := by decide +kernel
theorem dX5_hasSameLine_80 : decode cX5_hasSameLine 80 = .ok (.if_icmp .ne 37, 3) := by decide +kernel
theorem dX5_hasSameLine_83 : decode cX5_hasSameLine 83 = .ok (.aload_n 0, 1) := by decide +kernel
theorem dX5_hasSameLine_84 : decode cX5_hasSameLine 84 = .ok (.getfield 19, 3) := by decide +kernel
theorem dX5_hasSameLine_87 : decode cX5_hasSameLine 87 = .ok (.iload 4, 2) := by decide +kernel
theorem dX5_hasSameLine_89 : decode cX5_hasSameLine 89 = .ok (.iaload, 1) := by decide +kernel
theorem dX5_hasSameLine_90 : decode cX5_hasSameLine 90 = .ok (.aload_n 1, 1) := by decide +kernel
theorem dX5_hasSameLine_91 : decode cX5_hasSameLine 91 = .ok (.getfield 19, 3) := by decide +kernel
theorem dX5_hasSameLine_94 : decode cX5_hasSameLine 94 = .ok (.iload 5, 2) := by decide +kernel
theorem dX5_hasSameLine_96 : decode cX5_hasSameLine 96 = .ok (.iaload, 1) := by decide +kernel
theorem dX5_hasSameLine_97 : decode cX5_hasSameLine 97 = .ok (.if_icmp .ne 20, 3) := by decide +kernel
theorem dX5_hasSameLine_100 : decode cX5_hasSameLine 100 = .ok (.aload_n 0, 1) := by decide +kernel
theorem dX5_hasSameLine_101 : decode cX5_hasSameLine 101 = .ok (.getfield 22, 3) := by decide +kernel
theorem dX5_hasSameLine_104 : decode cX5_hasSameLine 104 = .ok (.iload 4, 2) := by decide +kernel
theorem dX5_hasSameLine_106 : decode cX5_hasSameLine 106 = .ok (.iaload, 1) := by decide +kernel
theorem dX5_hasSameLine_107 : decode cX5_hasSameLine 107 = .ok (.aload_n 1, 1) := by decide +kernel
theorem dX5_hasSameLine_108 : decode cX5_hasSameLine 108 = .ok (.getfield 22, 3) := by decide +kernel
theorem dX5_hasSameLine_111 : decode cX5_hasSameLine 111 = .ok (.iload 5, 2) := by decide +kernel
theorem dX5_hasSameLine_113 : decode cX5_hasSameLine 113 = .ok (.iaload, 1) := by decide +kernel
theorem dX5_hasSameLine_114 : decode cX5_hasSameLine 114 = .ok (.if_icmp .eq 5, 3) := by decide +kernel
theorem dX5_hasSameLine_117 : decode cX5_hasSameLine 117 = .ok (.iconst 0, 1) := by decide +kernel
theorem dX5_hasSameLine_118 : decode cX5_hasSameLine 118 = .ok (.ireturn, 1) := by decide +kernel
theorem dX5_hasSameLine_119 : decode cX5_hasSameLine 119 = .ok (.iinc 3 1, 3) := by decide +kernel
theorem dX5_hasSameLine_122 : decode cX5_hasSameLine 122 = .ok (.goto (-94), 3) := by decide +kernel
theorem dX5_hasSameLine_125 : decode cX5_hasSameLine 125 = .ok (.iconst 1, 1) := by decide +kernel
theorem dX5_hasSameLine_126 : decode cX5_hasSameLine 126 = .ok (.ireturn, 1) := by decide +kernel
def tbX5_hasSameLine (pc : Nat) : dt_T := cond (Nat.ble pc 56) (cond (Nat.ble pc 27) (cond (Nat.ble pc 14) (cond (Nat.ble pc 5) (cond (Nat.ble pc 1) (cond (Nat.ble pc 0) (cond (Nat.beq pc 0) (tc_ldI 2 1) tc_no) (cond (Nat.beq pc 1) (tc_iflt 24 4) tc_no)) (cond (Nat.ble pc 4) (cond (Nat.beq pc 4) (tc_ldI 2 5) tc_no) (cond (Nat.beq pc 5) (tc_ic 4 6) tc_no))) (cond (Nat.ble pc 9) (cond (Nat.ble pc 6) (cond (Nat.beq pc 6) (tc_icmpge 24 9) tc_no) (cond (Nat.beq pc 9) (tc_ldA 0 10) tc_no)) (cond (Nat.ble pc 10) (cond (Nat.beq pc 10) (tc_getf 5 5 13) tc_no) (cond (Nat.ble pc 13) (cond (Nat.beq pc 13) (tc_ldI 2 14) tc_no) (cond (Nat.beq pc 14) (tc_iald 15) tc_no))))) (cond (Nat.ble pc 20) (cond (Nat.ble pc 16) (cond (Nat.ble pc 15) (cond (Nat.beq pc 15) (tc_ldA 1 16) tc_no) (cond (Nat.beq pc 16) (tc_getf 5 5 19) tc_no)) (cond (Nat.ble pc 19) (cond (Nat.beq pc 19) (tc_ldI 2 20) tc_no) (cond (Nat.beq pc 20) (tc_iald 21) tc_no))) (cond (Nat.ble pc 24) (cond (Nat.ble pc 21) (cond (Nat.beq pc 21) (tc_icmpeq 26 24) tc_no) (cond (Nat.beq pc 24) (tc_ic 0 25) tc_no)) (cond (Nat.ble pc 25) (cond (Nat.beq pc 25) (tc_zret) tc_no) (cond (Nat.ble pc 26) (cond (Nat.beq pc 26) (tc_ic 0 27) tc_no) (cond (Nat.beq pc 27) (tc_stI 3 28) tc_no)))))) (cond (Nat.ble pc 40) (cond (Nat.ble pc 33) (cond (Nat.ble pc 29) (cond (Nat.ble pc 28) (cond (Nat.beq pc 28) (tc_ldI 3 29) tc_no) (cond (Nat.beq pc 29) (tc_ldA 0 30) tc_no)) (cond (Nat.ble pc 30) (cond (Nat.beq pc 30) (tc_getf 5 5 33) tc_no) (cond (Nat.beq pc 33) (tc_ldI 2 34) tc_no))) (cond (Nat.ble pc 35) (cond (Nat.ble pc 34) (cond (Nat.beq pc 34) (tc_iald 35) tc_no) (cond (Nat.beq pc 35) (tc_icmpge 125 38) tc_no)) (cond (Nat.ble pc 38) (cond (Nat.beq pc 38) (tc_ldA 0 39) tc_no) (cond (Nat.ble pc 39) (cond (Nat.beq pc 39) (tc_ldI 2 40) tc_no) (cond (Nat.beq pc 40) (tc_ldI 3 41) tc_no))))) (cond (Nat.ble pc 47) (cond (Nat.ble pc 44) (cond (Nat.ble pc 41) (cond (Nat.beq pc 41) (tc_callV 5 mX5_onLine 2 44) tc_no) (cond (Nat.beq pc 44) (tc_stI 4 46) tc_no)) (cond (Nat.ble pc 46) (cond (Nat.beq pc 46) (tc_ldA 1 47) tc_no) (cond (Nat.beq pc 47) (tc_ldI 2 48) tc_no))) (cond (Nat.ble pc 49) (cond (Nat.ble pc 48) (cond (Nat.beq pc 48) (tc_ldI 3 49) tc_no) (cond (Nat.beq pc 49) (tc_callV 5 mX5_onLine 2 52) tc_no)) (cond (Nat.ble pc 52) (cond (Nat.beq pc 52) (tc_stI 5 54) tc_no) (cond (Nat.ble pc 54) (cond (Nat.beq pc 54) (tc_ldI 4 56) tc_no) (cond (Nat.beq pc 56) (tc_ic (-1) 57) tc_no))))))) (cond (Nat.ble pc 90) (cond (Nat.ble pc 73) (cond (Nat.ble pc 63) (cond (Nat.ble pc 60) (cond (Nat.ble pc 57) (cond (Nat.beq pc 57) (tc_icmpeq 117 60) tc_no) (cond (Nat.beq pc 60) (tc_ldI 5 62) tc_no)) (cond (Nat.ble pc 62) (cond (Nat.beq pc 62) (tc_ic (-1) 63) tc_no) (cond (Nat.beq pc 63) (tc_icmpeq 117 66) tc_no))) (cond (Nat.ble pc 67) (cond (Nat.ble pc 66) (cond (Nat.beq pc 66) (tc_ldA 0 67) tc_no) (cond (Nat.beq pc 67) (tc_getf 5 0 70) tc_no)) (cond (Nat.ble pc 70) (cond (Nat.beq pc 70) (tc_ldI 4 72) tc_no) (cond (Nat.ble pc 72) (cond (Nat.beq pc 72) (tc_zald 73) tc_no) (cond (Nat.beq pc 73) (tc_ldA 1 74) tc_no))))) (cond (Nat.ble pc 80) (cond (Nat.ble pc 77) (cond (Nat.ble pc 74) (cond (Nat.beq pc 74) (tc_getf 5 0 77) tc_no) (cond (Nat.beq pc 77) (tc_ldI 5 79) tc_no)) (cond (Nat.ble pc 79) (cond (Nat.beq pc 79) (tc_zald 80) tc_no) (cond (Nat.beq pc 80) (tc_icmpne 117 83) tc_no))) (cond (Nat.ble pc 84) (cond (Nat.ble pc 83) (cond (Nat.beq pc 83) (tc_ldA 0 84) tc_no) (cond (Nat.beq pc 84) (tc_getf 5 2 87) tc_no)) (cond (Nat.ble pc 87) (cond (Nat.beq pc 87) (tc_ldI 4 89) tc_no) (cond (Nat.ble pc 89) (cond (Nat.beq pc 89) (tc_iald 90) tc_no) (cond (Nat.beq pc 90) (tc_ldA 1 91) tc_no)))))) (cond (Nat.ble pc 107) (cond (Nat.ble pc 97) (cond (Nat.ble pc 94) (cond (Nat.ble pc 91) (cond (Nat.beq pc 91) (tc_getf 5 2 94) tc_no) (cond (Nat.beq pc 94) (tc_ldI 5 96) tc_no)) (cond (Nat.ble pc 96) (cond (Nat.beq pc 96) (tc_iald 97) tc_no) (cond (Nat.beq pc 97) (tc_icmpne 117 100) tc_no))) (cond (Nat.ble pc 101) (cond (Nat.ble pc 100) (cond (Nat.beq pc 100) (tc_ldA 0 101) tc_no) (cond (Nat.beq pc 101) (tc_getf 5 3 104) tc_no)) (cond (Nat.ble pc 104) (cond (Nat.beq pc 104) (tc_ldI 4 106) tc_no) (cond (Nat.ble pc 106) (cond (Nat.beq pc 106) (tc_iald 107) tc_no) (cond (Nat.beq pc 107) (tc_ldA 1 108) tc_no))))) (cond (Nat.ble pc 117) (cond (Nat.ble pc 111) (cond (Nat.ble pc 108) (cond (Nat.beq pc 108) (tc_getf 5 3 111) tc_no) (cond (Nat.beq pc 111) (tc_ldI 5 113) tc_no)) (cond (Nat.ble pc 113) (cond (Nat.beq pc 113) (tc_iald 114) tc_no) (cond (Nat.ble pc 114) (cond (Nat.beq pc 114) (tc_icmpeq 119 117) tc_no) (cond (Nat.beq pc 117) (tc_ic 0 118) tc_no)))) (cond (Nat.ble pc 119) (cond (Nat.ble pc 118) (cond (Nat.beq pc 118) (tc_zret) tc_no) (cond (Nat.beq pc 119) (tc_iinc 3 1 122) tc_no)) (cond (Nat.ble pc 122) (cond (Nat.beq pc 122) (tc_goto 28) tc_no) (cond (Nat.ble pc 125) (cond (Nat.beq pc 125) (tc_ic 1 126) tc_no) (cond (Nat.beq pc 126) (tc_zret) tc_no)))))))
theorem okX5_hasSameLine : ∀ pc, dt_S mX5_hasSameLine (tbX5_hasSameLine pc) pc := by
  intro pc
  unfold tbX5_hasSameLine
  exact dt_Sb (dt_Sb (dt_Sb (dt_Sb (dt_Sb (dt_Sb (dt_Sl 0 (sn_ldIn rfl dX5_hasSameLine_0 rfl)) (dt_Sl 1 (sn_iflt dX5_hasSameLine_1 (by decide) rfl))) (dt_Sb (dt_Sl 4 (sn_ldIn rfl dX5_hasSameLine_4 rfl)) (dt_Sl 5 (sn_ic ⟨by decide, by decide⟩ dX5_hasSameLine_5 rfl)))) (dt_Sb (dt_Sb (dt_Sl 6 (sn_icmpge dX5_hasSameLine_6 (by decide) rfl)) (dt_Sl 9 (sn_ldAn rfl dX5_hasSameLine_9 rfl))) (dt_Sb (dt_Sl 10 (sn_getf rfl ffX5 (by decide) wq_1_49 dX5_hasSameLine_10 rfl)) (dt_Sb (dt_Sl 13 (sn_ldIn rfl dX5_hasSameLine_13 rfl)) (dt_Sl 14 (sn_iald dX5_hasSameLine_14 rfl)))))) (dt_Sb (dt_Sb (dt_Sb (dt_Sl 15 (sn_ldAn rfl dX5_hasSameLine_15 rfl)) (dt_Sl 16 (sn_getf rfl ffX5 (by decide) wq_1_49 dX5_hasSameLine_16 rfl))) (dt_Sb (dt_Sl 19 (sn_ldIn rfl dX5_hasSameLine_19 rfl)) (dt_Sl 20 (sn_iald dX5_hasSameLine_20 rfl)))) (dt_Sb (dt_Sb (dt_Sl 21 (sn_icmpeq dX5_hasSameLine_21 (by decide) rfl)) (dt_Sl 24 (sn_ic ⟨by decide, by decide⟩ dX5_hasSameLine_24 rfl))) (dt_Sb (dt_Sl 25 (sn_zret rfl dX5_hasSameLine_25)) (dt_Sb (dt_Sl 26 (sn_ic ⟨by decide, by decide⟩ dX5_hasSameLine_26 rfl)) (dt_Sl 27 (sn_stIn rfl (by decide) dX5_hasSameLine_27 rfl))))))) (dt_Sb (dt_Sb (dt_Sb (dt_Sb (dt_Sl 28 (sn_ldIn rfl dX5_hasSameLine_28 rfl)) (dt_Sl 29 (sn_ldAn rfl dX5_hasSameLine_29 rfl))) (dt_Sb (dt_Sl 30 (sn_getf rfl ffX5 (by decide) wq_1_49 dX5_hasSameLine_30 rfl)) (dt_Sl 33 (sn_ldIn rfl dX5_hasSameLine_33 rfl)))) (dt_Sb (dt_Sb (dt_Sl 34 (sn_iald dX5_hasSameLine_34 rfl)) (dt_Sl 35 (sn_icmpge dX5_hasSameLine_35 (by decide) rfl))) (dt_Sb (dt_Sl 38 (sn_ldAn rfl dX5_hasSameLine_38 rfl)) (dt_Sb (dt_Sl 39 (sn_ldIn rfl dX5_hasSameLine_39 rfl)) (dt_Sl 40 (sn_ldIn rfl dX5_hasSameLine_40 rfl)))))) (dt_Sb (dt_Sb (dt_Sb (dt_Sl 41 (sn_callV rfl ffX5 nnX5_onLine rfl wq_3_14 wq_2_163 wq_2_164 dX5_hasSameLine_41 rfl)) (dt_Sl 44 (sn_stI (by decide) dX5_hasSameLine_44 rfl))) (dt_Sb (dt_Sl 46 (sn_ldAn rfl dX5_hasSameLine_46 rfl)) (dt_Sl 47 (sn_ldIn rfl dX5_hasSameLine_47 rfl)))) (dt_Sb (dt_Sb (dt_Sl 48 (sn_ldIn rfl dX5_hasSameLine_48 rfl)) (dt_Sl 49 (sn_callV rfl ffX5 nnX5_onLine rfl wq_3_14 wq_2_163 wq_2_164 dX5_hasSameLine_49 rfl))) (dt_Sb (dt_Sl 52 (sn_stI (by decide) dX5_hasSameLine_52 rfl)) (dt_Sb (dt_Sl 54 (sn_ldI dX5_hasSameLine_54 rfl)) (dt_Sl 56 (sn_ic ⟨by decide, by decide⟩ dX5_hasSameLine_56 rfl)))))))) (dt_Sb (dt_Sb (dt_Sb (dt_Sb (dt_Sb (dt_Sl 57 (sn_icmpeq dX5_hasSameLine_57 (by decide) rfl)) (dt_Sl 60 (sn_ldI dX5_hasSameLine_60 rfl))) (dt_Sb (dt_Sl 62 (sn_ic ⟨by decide, by decide⟩ dX5_hasSameLine_62 rfl)) (dt_Sl 63 (sn_icmpeq dX5_hasSameLine_63 (by decide) rfl)))) (dt_Sb (dt_Sb (dt_Sl 66 (sn_ldAn rfl dX5_hasSameLine_66 rfl)) (dt_Sl 67 (sn_getf rfl ffX5 (by decide) wq_1_29 dX5_hasSameLine_67 rfl))) (dt_Sb (dt_Sl 70 (sn_ldI dX5_hasSameLine_70 rfl)) (dt_Sb (dt_Sl 72 (sn_zald dX5_hasSameLine_72 rfl)) (dt_Sl 73 (sn_ldAn rfl dX5_hasSameLine_73 rfl)))))) (dt_Sb (dt_Sb (dt_Sb (dt_Sl 74 (sn_getf rfl ffX5 (by decide) wq_1_29 dX5_hasSameLine_74 rfl)) (dt_Sl 77 (sn_ldI dX5_hasSameLine_77 rfl))) (dt_Sb (dt_Sl 79 (sn_zald dX5_hasSameLine_79 rfl)) (dt_Sl 80 (sn_icmpne dX5_hasSameLine_80 (by decide) rfl)))) (dt_Sb (dt_Sb (dt_Sl 83 (sn_ldAn rfl dX5_hasSameLine_83 rfl)) (dt_Sl 84 (sn_getf rfl ffX5 (by decide) wq_1_38 dX5_hasSameLine_84 rfl))) (dt_Sb (dt_Sl 87 (sn_ldI dX5_hasSameLine_87 rfl)) (dt_Sb (dt_Sl 89 (sn_iald dX5_hasSameLine_89 rfl)) (dt_Sl 90 (sn_ldAn rfl dX5_hasSameLine_90 rfl))))))) (dt_Sb (dt_Sb (dt_Sb (dt_Sb (dt_Sl 91 (sn_getf rfl ffX5 (by decide) wq_1_38 dX5_hasSameLine_91 rfl)) (dt_Sl 94 (sn_ldI dX5_hasSameLine_94 rfl))) (dt_Sb (dt_Sl 96 (sn_iald dX5_hasSameLine_96 rfl)) (dt_Sl 97 (sn_icmpne dX5_hasSameLine_97 (by decide) rfl)))) (dt_Sb (dt_Sb (dt_Sl 100 (sn_ldAn rfl dX5_hasSameLine_100 rfl)) (dt_Sl 101 (sn_getf rfl ffX5 (by decide) wq_1_42 dX5_hasSameLine_101 rfl))) (dt_Sb (dt_Sl 104 (sn_ldI dX5_hasSameLine_104 rfl)) (dt_Sb (dt_Sl 106 (sn_iald dX5_hasSameLine_106 rfl)) (dt_Sl 107 (sn_ldAn rfl dX5_hasSameLine_107 rfl)))))) (dt_Sb (dt_Sb (dt_Sb (dt_Sl 108 (sn_getf rfl ffX5 (by decide) wq_1_42 dX5_hasSameLine_108 rfl)) (dt_Sl 111 (sn_ldI dX5_hasSameLine_111 rfl))) (dt_Sb (dt_Sl 113 (sn_iald dX5_hasSameLine_113 rfl)) (dt_Sb (dt_Sl 114 (sn_icmpeq dX5_hasSameLine_114 (by decide) rfl)) (dt_Sl 117 (sn_ic ⟨by decide, by decide⟩ dX5_hasSameLine_117 rfl))))) (dt_Sb (dt_Sb (dt_Sl 118 (sn_zret rfl dX5_hasSameLine_118)) (dt_Sl 119 (sn_iinc (by decide) dX5_hasSameLine_119 rfl))) (dt_Sb (dt_Sl 122 (sn_goto dX5_hasSameLine_122 (by decide))) (dt_Sb (dt_Sl 125 (sn_ic ⟨by decide, by decide⟩ dX5_hasSameLine_125 rfl)) (dt_Sl 126 (sn_zret rfl dX5_hasSameLine_126))))))))
end
section
theorem dt_look : True := trivial
end
