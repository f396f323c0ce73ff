-- ===== PART A: goes FIRST, ahead of the names: the tables' words, and 'selects' of the private methods out of them =====
/-- a private method of a class that the tables say can be made, by its rows of tables_1 -/
def lw_okq (q : MethodName × Nat) : Prop := (q.1.cls ≠ "java/lang/invoke/MethodHandle" ∧ q.1.cls ≠ "java/lang/invoke/VarHandle") ∧ Cond.instantiable q.1.cls q.2 ∈ tables_1 ∧ Cond.privateMethod q.1 ∈ tables_1 ∧ Cond.instanceMethod q.1 ∈ tables_1
theorem lw_p0 : lw_okq (⟨"DrawnTalks$Reader", "nextIs", "(I)Z"⟩, 6) := ⟨⟨by decide +kernel, by decide +kernel⟩, List.mem_of_getElem? (i := 82) (by decide +kernel), List.mem_of_getElem? (i := 267) (by decide +kernel), List.mem_of_getElem? (i := 268) (by decide +kernel)⟩
theorem lw_p1 : lw_okq (⟨"DrawnTalks$Reader", "readWord", "()V"⟩, 6) := ⟨⟨by decide +kernel, by decide +kernel⟩, List.mem_of_getElem? (i := 82) (by decide +kernel), List.mem_of_getElem? (i := 274) (by decide +kernel), List.mem_of_getElem? (i := 275) (by decide +kernel)⟩
theorem lw_p2 : lw_okq (⟨"DrawnTalks$Reader", "wordIs", "(Ljava/lang/String;)Z"⟩, 6) := ⟨⟨by decide +kernel, by decide +kernel⟩, List.mem_of_getElem? (i := 82) (by decide +kernel), List.mem_of_getElem? (i := 279) (by decide +kernel), List.mem_of_getElem? (i := 280) (by decide +kernel)⟩
theorem lw_p3 : lw_okq (⟨"DrawnTalks$Reader", "readSign", "(I)V"⟩, 6) := ⟨⟨by decide +kernel, by decide +kernel⟩, List.mem_of_getElem? (i := 82) (by decide +kernel), List.mem_of_getElem? (i := 332) (by decide +kernel), List.mem_of_getElem? (i := 333) (by decide +kernel)⟩
theorem lw_p4 : lw_okq (⟨"DrawnTalks$Reader", "readEvent", "(LDrawnTalks$Talk;)Z"⟩, 6) := ⟨⟨by decide +kernel, by decide +kernel⟩, List.mem_of_getElem? (i := 82) (by decide +kernel), List.mem_of_getElem? (i := 340) (by decide +kernel), List.mem_of_getElem? (i := 341) (by decide +kernel)⟩
theorem lw_p5 : lw_okq (⟨"DrawnTalks$Talk", "add", "(III)Z"⟩, 9) := ⟨⟨by decide +kernel, by decide +kernel⟩, List.mem_of_getElem? (i := 24) (by decide +kernel), List.mem_of_getElem? (i := 353) (by decide +kernel), List.mem_of_getElem? (i := 354) (by decide +kernel)⟩
theorem lw_p6 : lw_okq (⟨"DrawnTalks", "keepBuilt", "(I)I"⟩, 7) := ⟨⟨by decide +kernel, by decide +kernel⟩, List.mem_of_getElem? (i := 15) (by decide +kernel), List.mem_of_getElem? (i := 361) (by decide +kernel), List.mem_of_getElem? (i := 362) (by decide +kernel)⟩
theorem lw_p7 : lw_okq (⟨"DrawnTalks", "isEvent", "(II)Z"⟩, 7) := ⟨⟨by decide +kernel, by decide +kernel⟩, List.mem_of_getElem? (i := 15) (by decide +kernel), List.mem_of_getElem? (i := 389) (by decide +kernel), List.mem_of_getElem? (i := 390) (by decide +kernel)⟩
theorem lw_p8 : lw_okq (⟨"DrawnTalks$Relation", "isDirect", "(LDrawnTalks$Talk;III)Z"⟩, 1) := ⟨⟨by decide +kernel, by decide +kernel⟩, List.mem_of_getElem? (i := 108) (by decide +kernel), List.mem_of_getElem? (i := 415) (by decide +kernel), List.mem_of_getElem? (i := 416) (by decide +kernel)⟩
theorem lw_p9 : lw_okq (⟨"DrawnTalks$Relation", "isRace", "(LDrawnTalks$Talk;II)Z"⟩, 1) := ⟨⟨by decide +kernel, by decide +kernel⟩, List.mem_of_getElem? (i := 108) (by decide +kernel), List.mem_of_getElem? (i := 439) (by decide +kernel), List.mem_of_getElem? (i := 440) (by decide +kernel)⟩
theorem lw_p10 : lw_okq (⟨"DrawnTalks$Lattice", "prepare", "(LDrawnTalks$Talk;)I"⟩, 10) := ⟨⟨by decide +kernel, by decide +kernel⟩, List.mem_of_getElem? (i := 118) (by decide +kernel), List.mem_of_getElem? (i := 456) (by decide +kernel), List.mem_of_getElem? (i := 457) (by decide +kernel)⟩
theorem lw_p11 : lw_okq (⟨"DrawnTalks$Lattice", "visit", "(LDrawnTalks$Talk;II)V"⟩, 10) := ⟨⟨by decide +kernel, by decide +kernel⟩, List.mem_of_getElem? (i := 118) (by decide +kernel), List.mem_of_getElem? (i := 464) (by decide +kernel), List.mem_of_getElem? (i := 465) (by decide +kernel)⟩
theorem lw_p12 : lw_okq (⟨"DrawnTalks$Lattice", "mayHappen", "(LDrawnTalks$Talk;I)Z"⟩, 10) := ⟨⟨by decide +kernel, by decide +kernel⟩, List.mem_of_getElem? (i := 118) (by decide +kernel), List.mem_of_getElem? (i := 471) (by decide +kernel), List.mem_of_getElem? (i := 472) (by decide +kernel)⟩
theorem lw_p13 : lw_okq (⟨"DrawnTalks$Lattice", "goToNextCut", "(LDrawnTalks$Talk;)V"⟩, 10) := ⟨⟨by decide +kernel, by decide +kernel⟩, List.mem_of_getElem? (i := 118) (by decide +kernel), List.mem_of_getElem? (i := 475) (by decide +kernel), List.mem_of_getElem? (i := 476) (by decide +kernel)⟩
theorem lw_p14 : lw_okq (⟨"DrawnTalks$Player", "goToStart", "()V"⟩, 10) := ⟨⟨by decide +kernel, by decide +kernel⟩, List.mem_of_getElem? (i := 160) (by decide +kernel), List.mem_of_getElem? (i := 511) (by decide +kernel), List.mem_of_getElem? (i := 512) (by decide +kernel)⟩
theorem lw_p15 : lw_okq (⟨"DrawnTalks$Player", "talkOf", "(I)LDrawnTalks$Talk;"⟩, 10) := ⟨⟨by decide +kernel, by decide +kernel⟩, List.mem_of_getElem? (i := 160) (by decide +kernel), List.mem_of_getElem? (i := 515) (by decide +kernel), List.mem_of_getElem? (i := 516) (by decide +kernel)⟩
def lw_privs_1 : List (MethodName × Nat) := [(⟨"DrawnTalks$Reader", "nextIs", "(I)Z"⟩, 6), (⟨"DrawnTalks$Reader", "readWord", "()V"⟩, 6), (⟨"DrawnTalks$Reader", "wordIs", "(Ljava/lang/String;)Z"⟩, 6), (⟨"DrawnTalks$Reader", "readSign", "(I)V"⟩, 6), (⟨"DrawnTalks$Reader", "readEvent", "(LDrawnTalks$Talk;)Z"⟩, 6), (⟨"DrawnTalks$Talk", "add", "(III)Z"⟩, 9), (⟨"DrawnTalks", "keepBuilt", "(I)I"⟩, 7), (⟨"DrawnTalks", "isEvent", "(II)Z"⟩, 7), (⟨"DrawnTalks$Relation", "isDirect", "(LDrawnTalks$Talk;III)Z"⟩, 1), (⟨"DrawnTalks$Relation", "isRace", "(LDrawnTalks$Talk;II)Z"⟩, 1), (⟨"DrawnTalks$Lattice", "prepare", "(LDrawnTalks$Talk;)I"⟩, 10), (⟨"DrawnTalks$Lattice", "visit", "(LDrawnTalks$Talk;II)V"⟩, 10), (⟨"DrawnTalks$Lattice", "mayHappen", "(LDrawnTalks$Talk;I)Z"⟩, 10), (⟨"DrawnTalks$Lattice", "goToNextCut", "(LDrawnTalks$Talk;)V"⟩, 10), (⟨"DrawnTalks$Player", "goToStart", "()V"⟩, 10), (⟨"DrawnTalks$Player", "talkOf", "(I)LDrawnTalks$Talk;"⟩, 10)]
theorem lw_r1 : ∀ q ∈ lw_privs_1, lw_okq q := List.forall_mem_cons.mpr ⟨lw_p0, List.forall_mem_cons.mpr ⟨lw_p1, List.forall_mem_cons.mpr ⟨lw_p2, List.forall_mem_cons.mpr ⟨lw_p3, List.forall_mem_cons.mpr ⟨lw_p4, List.forall_mem_cons.mpr ⟨lw_p5, List.forall_mem_cons.mpr ⟨lw_p6, List.forall_mem_cons.mpr ⟨lw_p7, List.forall_mem_cons.mpr ⟨lw_p8, List.forall_mem_cons.mpr ⟨lw_p9, List.forall_mem_cons.mpr ⟨lw_p10, List.forall_mem_cons.mpr ⟨lw_p11, List.forall_mem_cons.mpr ⟨lw_p12, List.forall_mem_cons.mpr ⟨lw_p13, List.forall_mem_cons.mpr ⟨lw_p14, List.forall_mem_cons.mpr ⟨lw_p15, fun _ h => absurd h List.not_mem_nil⟩⟩⟩⟩⟩⟩⟩⟩⟩⟩⟩⟩⟩⟩⟩⟩
theorem lw_p16 : lw_okq (⟨"DrawnTalks$Player", "firstThatCan", "()I"⟩, 10) := ⟨⟨by decide +kernel, by decide +kernel⟩, List.mem_of_getElem? (i := 160) (by decide +kernel), List.mem_of_getElem? (i := 523) (by decide +kernel), List.mem_of_getElem? (i := 524) (by decide +kernel)⟩
theorem lw_p17 : lw_okq (⟨"DrawnTalks$Player", "can", "(I)Z"⟩, 10) := ⟨⟨by decide +kernel, by decide +kernel⟩, List.mem_of_getElem? (i := 160) (by decide +kernel), List.mem_of_getElem? (i := 527) (by decide +kernel), List.mem_of_getElem? (i := 528) (by decide +kernel)⟩
theorem lw_p18 : lw_okq (⟨"DrawnTalks$Player", "act", "(I)V"⟩, 10) := ⟨⟨by decide +kernel, by decide +kernel⟩, List.mem_of_getElem? (i := 160) (by decide +kernel), List.mem_of_getElem? (i := 531) (by decide +kernel), List.mem_of_getElem? (i := 532) (by decide +kernel)⟩
theorem lw_p19 : lw_okq (⟨"DrawnTalks$Player", "post", "(II)V"⟩, 10) := ⟨⟨by decide +kernel, by decide +kernel⟩, List.mem_of_getElem? (i := 160) (by decide +kernel), List.mem_of_getElem? (i := 535) (by decide +kernel), List.mem_of_getElem? (i := 536) (by decide +kernel)⟩
theorem lw_p20 : lw_okq (⟨"DrawnTalks$Player", "goOn", "(I)V"⟩, 10) := ⟨⟨by decide +kernel, by decide +kernel⟩, List.mem_of_getElem? (i := 160) (by decide +kernel), List.mem_of_getElem? (i := 539) (by decide +kernel), List.mem_of_getElem? (i := 540) (by decide +kernel)⟩
theorem lw_p21 : lw_okq (⟨"DrawnTalks$Mixer", "choose", "(I)V"⟩, 4) := ⟨⟨by decide +kernel, by decide +kernel⟩, List.mem_of_getElem? (i := 199) (by decide +kernel), List.mem_of_getElem? (i := 558) (by decide +kernel), List.mem_of_getElem? (i := 559) (by decide +kernel)⟩
theorem lw_p22 : lw_okq (⟨"DrawnTalks$Mixer", "has", "(I)Z"⟩, 4) := ⟨⟨by decide +kernel, by decide +kernel⟩, List.mem_of_getElem? (i := 199) (by decide +kernel), List.mem_of_getElem? (i := 562) (by decide +kernel), List.mem_of_getElem? (i := 563) (by decide +kernel)⟩
theorem lw_p23 : lw_okq (⟨"DrawnTalks$Mixer", "firstLike", "(II)I"⟩, 4) := ⟨⟨by decide +kernel, by decide +kernel⟩, List.mem_of_getElem? (i := 199) (by decide +kernel), List.mem_of_getElem? (i := 566) (by decide +kernel), List.mem_of_getElem? (i := 567) (by decide +kernel)⟩
theorem lw_p24 : lw_okq (⟨"DrawnTalks$Mixer", "isFirst", "(I)Z"⟩, 4) := ⟨⟨by decide +kernel, by decide +kernel⟩, List.mem_of_getElem? (i := 199) (by decide +kernel), List.mem_of_getElem? (i := 571) (by decide +kernel), List.mem_of_getElem? (i := 572) (by decide +kernel)⟩
theorem lw_p25 : lw_okq (⟨"DrawnTalks$Mixer", "isSuch", "(II)Z"⟩, 4) := ⟨⟨by decide +kernel, by decide +kernel⟩, List.mem_of_getElem? (i := 199) (by decide +kernel), List.mem_of_getElem? (i := 577) (by decide +kernel), List.mem_of_getElem? (i := 578) (by decide +kernel)⟩
theorem lw_p26 : lw_okq (⟨"DrawnTalks$Mixer", "isOfOne", "(I)Z"⟩, 4) := ⟨⟨by decide +kernel, by decide +kernel⟩, List.mem_of_getElem? (i := 199) (by decide +kernel), List.mem_of_getElem? (i := 582) (by decide +kernel), List.mem_of_getElem? (i := 583) (by decide +kernel)⟩
theorem lw_p27 : lw_okq (⟨"DrawnTalks$Mixer", "isOf", "(II)Z"⟩, 4) := ⟨⟨by decide +kernel, by decide +kernel⟩, List.mem_of_getElem? (i := 199) (by decide +kernel), List.mem_of_getElem? (i := 586) (by decide +kernel), List.mem_of_getElem? (i := 587) (by decide +kernel)⟩
theorem lw_p28 : lw_okq (⟨"DrawnTalksModel", "readTalk", "()I"⟩, 35) := ⟨⟨by decide +kernel, by decide +kernel⟩, List.mem_of_getElem? (i := 612) (by decide +kernel), List.mem_of_getElem? (i := 745) (by decide +kernel), List.mem_of_getElem? (i := 746) (by decide +kernel)⟩
theorem lw_p29 : lw_okq (⟨"DrawnTalksModel", "beginTalk", "()V"⟩, 35) := ⟨⟨by decide +kernel, by decide +kernel⟩, List.mem_of_getElem? (i := 612) (by decide +kernel), List.mem_of_getElem? (i := 749) (by decide +kernel), List.mem_of_getElem? (i := 750) (by decide +kernel)⟩
theorem lw_p30 : lw_okq (⟨"DrawnTalksModel", "readToken", "()V"⟩, 35) := ⟨⟨by decide +kernel, by decide +kernel⟩, List.mem_of_getElem? (i := 612) (by decide +kernel), List.mem_of_getElem? (i := 753) (by decide +kernel), List.mem_of_getElem? (i := 754) (by decide +kernel)⟩
theorem lw_p31 : lw_okq (⟨"DrawnTalksModel", "readsEvent", "(Z)Z"⟩, 35) := ⟨⟨by decide +kernel, by decide +kernel⟩, List.mem_of_getElem? (i := 612) (by decide +kernel), List.mem_of_getElem? (i := 769) (by decide +kernel), List.mem_of_getElem? (i := 770) (by decide +kernel)⟩
def lw_privs_2 : List (MethodName × Nat) := [(⟨"DrawnTalks$Player", "firstThatCan", "()I"⟩, 10), (⟨"DrawnTalks$Player", "can", "(I)Z"⟩, 10), (⟨"DrawnTalks$Player", "act", "(I)V"⟩, 10), (⟨"DrawnTalks$Player", "post", "(II)V"⟩, 10), (⟨"DrawnTalks$Player", "goOn", "(I)V"⟩, 10), (⟨"DrawnTalks$Mixer", "choose", "(I)V"⟩, 4), (⟨"DrawnTalks$Mixer", "has", "(I)Z"⟩, 4), (⟨"DrawnTalks$Mixer", "firstLike", "(II)I"⟩, 4), (⟨"DrawnTalks$Mixer", "isFirst", "(I)Z"⟩, 4), (⟨"DrawnTalks$Mixer", "isSuch", "(II)Z"⟩, 4), (⟨"DrawnTalks$Mixer", "isOfOne", "(I)Z"⟩, 4), (⟨"DrawnTalks$Mixer", "isOf", "(II)Z"⟩, 4), (⟨"DrawnTalksModel", "readTalk", "()I"⟩, 35), (⟨"DrawnTalksModel", "beginTalk", "()V"⟩, 35), (⟨"DrawnTalksModel", "readToken", "()V"⟩, 35), (⟨"DrawnTalksModel", "readsEvent", "(Z)Z"⟩, 35)]
theorem lw_r2 : ∀ q ∈ lw_privs_2, lw_okq q := List.forall_mem_cons.mpr ⟨lw_p16, List.forall_mem_cons.mpr ⟨lw_p17, List.forall_mem_cons.mpr ⟨lw_p18, List.forall_mem_cons.mpr ⟨lw_p19, List.forall_mem_cons.mpr ⟨lw_p20, List.forall_mem_cons.mpr ⟨lw_p21, List.forall_mem_cons.mpr ⟨lw_p22, List.forall_mem_cons.mpr ⟨lw_p23, List.forall_mem_cons.mpr ⟨lw_p24, List.forall_mem_cons.mpr ⟨lw_p25, List.forall_mem_cons.mpr ⟨lw_p26, List.forall_mem_cons.mpr ⟨lw_p27, List.forall_mem_cons.mpr ⟨lw_p28, List.forall_mem_cons.mpr ⟨lw_p29, List.forall_mem_cons.mpr ⟨lw_p30, List.forall_mem_cons.mpr ⟨lw_p31, fun _ h => absurd h List.not_mem_nil⟩⟩⟩⟩⟩⟩⟩⟩⟩⟩⟩⟩⟩⟩⟩⟩
theorem lw_p32 : lw_okq (⟨"DrawnTalksModel", "openSend", "(III)I"⟩, 35) := ⟨⟨by decide +kernel, by decide +kernel⟩, List.mem_of_getElem? (i := 612) (by decide +kernel), List.mem_of_getElem? (i := 774) (by decide +kernel), List.mem_of_getElem? (i := 775) (by decide +kernel)⟩
theorem lw_p33 : lw_okq (⟨"DrawnTalksModel", "addEvent", "(ZIIII)V"⟩, 35) := ⟨⟨by decide +kernel, by decide +kernel⟩, List.mem_of_getElem? (i := 612) (by decide +kernel), List.mem_of_getElem? (i := 778) (by decide +kernel), List.mem_of_getElem? (i := 779) (by decide +kernel)⟩
theorem lw_p34 : lw_okq (⟨"DrawnTalksModel", "keep", "(I)I"⟩, 35) := ⟨⟨by decide +kernel, by decide +kernel⟩, List.mem_of_getElem? (i := 612) (by decide +kernel), List.mem_of_getElem? (i := 782) (by decide +kernel), List.mem_of_getElem? (i := 783) (by decide +kernel)⟩
theorem lw_p35 : lw_okq (⟨"DrawnTalksModel", "noEvent", "(II)Z"⟩, 35) := ⟨⟨by decide +kernel, by decide +kernel⟩, List.mem_of_getElem? (i := 612) (by decide +kernel), List.mem_of_getElem? (i := 795) (by decide +kernel), List.mem_of_getElem? (i := 796) (by decide +kernel)⟩
theorem lw_p36 : lw_okq (⟨"DrawnTalksModel", "layDrawn", "(I)V"⟩, 35) := ⟨⟨by decide +kernel, by decide +kernel⟩, List.mem_of_getElem? (i := 612) (by decide +kernel), List.mem_of_getElem? (i := 808) (by decide +kernel), List.mem_of_getElem? (i := 809) (by decide +kernel)⟩
theorem lw_p37 : lw_okq (⟨"DrawnTalksModel", "clearAhead", "()V"⟩, 35) := ⟨⟨by decide +kernel, by decide +kernel⟩, List.mem_of_getElem? (i := 612) (by decide +kernel), List.mem_of_getElem? (i := 812) (by decide +kernel), List.mem_of_getElem? (i := 813) (by decide +kernel)⟩
theorem lw_p38 : lw_okq (⟨"DrawnTalksModel", "layMates", "(I)V"⟩, 35) := ⟨⟨by decide +kernel, by decide +kernel⟩, List.mem_of_getElem? (i := 612) (by decide +kernel), List.mem_of_getElem? (i := 816) (by decide +kernel), List.mem_of_getElem? (i := 817) (by decide +kernel)⟩
theorem lw_p39 : lw_okq (⟨"DrawnTalksModel", "onOneLine", "(III)Z"⟩, 35) := ⟨⟨by decide +kernel, by decide +kernel⟩, List.mem_of_getElem? (i := 612) (by decide +kernel), List.mem_of_getElem? (i := 820) (by decide +kernel), List.mem_of_getElem? (i := 821) (by decide +kernel)⟩
theorem lw_p40 : lw_okq (⟨"DrawnTalksModel", "closeAhead", "(I)V"⟩, 35) := ⟨⟨by decide +kernel, by decide +kernel⟩, List.mem_of_getElem? (i := 612) (by decide +kernel), List.mem_of_getElem? (i := 824) (by decide +kernel), List.mem_of_getElem? (i := 825) (by decide +kernel)⟩
theorem lw_p41 : lw_okq (⟨"DrawnTalksModel", "layKept", "(II)V"⟩, 35) := ⟨⟨by decide +kernel, by decide +kernel⟩, List.mem_of_getElem? (i := 612) (by decide +kernel), List.mem_of_getElem? (i := 832) (by decide +kernel), List.mem_of_getElem? (i := 833) (by decide +kernel)⟩
theorem lw_p42 : lw_okq (⟨"DrawnTalksModel", "isKeptTake", "(IIII)Z"⟩, 35) := ⟨⟨by decide +kernel, by decide +kernel⟩, List.mem_of_getElem? (i := 612) (by decide +kernel), List.mem_of_getElem? (i := 836) (by decide +kernel), List.mem_of_getElem? (i := 837) (by decide +kernel)⟩
theorem lw_p43 : lw_okq (⟨"DrawnTalksModel", "layMoments", "(I)V"⟩, 35) := ⟨⟨by decide +kernel, by decide +kernel⟩, List.mem_of_getElem? (i := 612) (by decide +kernel), List.mem_of_getElem? (i := 848) (by decide +kernel), List.mem_of_getElem? (i := 849) (by decide +kernel)⟩
theorem lw_p44 : lw_okq (⟨"DrawnTalksModel", "underAt", "(I)I"⟩, 35) := ⟨⟨by decide +kernel, by decide +kernel⟩, List.mem_of_getElem? (i := 612) (by decide +kernel), List.mem_of_getElem? (i := 852) (by decide +kernel), List.mem_of_getElem? (i := 853) (by decide +kernel)⟩
theorem lw_p45 : lw_okq (⟨"DrawnTalksModel", "isDone", "(II)Z"⟩, 35) := ⟨⟨by decide +kernel, by decide +kernel⟩, List.mem_of_getElem? (i := 612) (by decide +kernel), List.mem_of_getElem? (i := 856) (by decide +kernel), List.mem_of_getElem? (i := 857) (by decide +kernel)⟩
theorem lw_p46 : lw_okq (⟨"DrawnTalksModel", "come", "(II)I"⟩, 35) := ⟨⟨by decide +kernel, by decide +kernel⟩, List.mem_of_getElem? (i := 612) (by decide +kernel), List.mem_of_getElem? (i := 860) (by decide +kernel), List.mem_of_getElem? (i := 861) (by decide +kernel)⟩
theorem lw_p47 : lw_okq (⟨"DrawnTalksModel", "layMoment", "(II)V"⟩, 35) := ⟨⟨by decide +kernel, by decide +kernel⟩, List.mem_of_getElem? (i := 612) (by decide +kernel), List.mem_of_getElem? (i := 864) (by decide +kernel), List.mem_of_getElem? (i := 865) (by decide +kernel)⟩
def lw_privs_3 : List (MethodName × Nat) := [(⟨"DrawnTalksModel", "openSend", "(III)I"⟩, 35), (⟨"DrawnTalksModel", "addEvent", "(ZIIII)V"⟩, 35), (⟨"DrawnTalksModel", "keep", "(I)I"⟩, 35), (⟨"DrawnTalksModel", "noEvent", "(II)Z"⟩, 35), (⟨"DrawnTalksModel", "layDrawn", "(I)V"⟩, 35), (⟨"DrawnTalksModel", "clearAhead", "()V"⟩, 35), (⟨"DrawnTalksModel", "layMates", "(I)V"⟩, 35), (⟨"DrawnTalksModel", "onOneLine", "(III)Z"⟩, 35), (⟨"DrawnTalksModel", "closeAhead", "(I)V"⟩, 35), (⟨"DrawnTalksModel", "layKept", "(II)V"⟩, 35), (⟨"DrawnTalksModel", "isKeptTake", "(IIII)Z"⟩, 35), (⟨"DrawnTalksModel", "layMoments", "(I)V"⟩, 35), (⟨"DrawnTalksModel", "underAt", "(I)I"⟩, 35), (⟨"DrawnTalksModel", "isDone", "(II)Z"⟩, 35), (⟨"DrawnTalksModel", "come", "(II)I"⟩, 35), (⟨"DrawnTalksModel", "layMoment", "(II)V"⟩, 35)]
theorem lw_r3 : ∀ q ∈ lw_privs_3, lw_okq q := List.forall_mem_cons.mpr ⟨lw_p32, List.forall_mem_cons.mpr ⟨lw_p33, List.forall_mem_cons.mpr ⟨lw_p34, List.forall_mem_cons.mpr ⟨lw_p35, List.forall_mem_cons.mpr ⟨lw_p36, List.forall_mem_cons.mpr ⟨lw_p37, List.forall_mem_cons.mpr ⟨lw_p38, List.forall_mem_cons.mpr ⟨lw_p39, List.forall_mem_cons.mpr ⟨lw_p40, List.forall_mem_cons.mpr ⟨lw_p41, List.forall_mem_cons.mpr ⟨lw_p42, List.forall_mem_cons.mpr ⟨lw_p43, List.forall_mem_cons.mpr ⟨lw_p44, List.forall_mem_cons.mpr ⟨lw_p45, List.forall_mem_cons.mpr ⟨lw_p46, List.forall_mem_cons.mpr ⟨lw_p47, fun _ h => absurd h List.not_mem_nil⟩⟩⟩⟩⟩⟩⟩⟩⟩⟩⟩⟩⟩⟩⟩⟩
theorem lw_p48 : lw_okq (⟨"DrawnTalksModel", "areAlike", "(II)Z"⟩, 35) := ⟨⟨by decide +kernel, by decide +kernel⟩, List.mem_of_getElem? (i := 612) (by decide +kernel), List.mem_of_getElem? (i := 880) (by decide +kernel), List.mem_of_getElem? (i := 881) (by decide +kernel)⟩
theorem lw_p49 : lw_okq (⟨"DrawnTalksModel", "isSameLine", "(III)Z"⟩, 35) := ⟨⟨by decide +kernel, by decide +kernel⟩, List.mem_of_getElem? (i := 612) (by decide +kernel), List.mem_of_getElem? (i := 884) (by decide +kernel), List.mem_of_getElem? (i := 885) (by decide +kernel)⟩
theorem lw_p50 : lw_okq (⟨"DrawnTalksModel", "addTalk", "(I)V"⟩, 35) := ⟨⟨by decide +kernel, by decide +kernel⟩, List.mem_of_getElem? (i := 612) (by decide +kernel), List.mem_of_getElem? (i := 892) (by decide +kernel), List.mem_of_getElem? (i := 893) (by decide +kernel)⟩
theorem lw_p51 : lw_okq (⟨"DrawnTalksModel", "plays", "(I)Z"⟩, 35) := ⟨⟨by decide +kernel, by decide +kernel⟩, List.mem_of_getElem? (i := 612) (by decide +kernel), List.mem_of_getElem? (i := 900) (by decide +kernel), List.mem_of_getElem? (i := 901) (by decide +kernel)⟩
theorem lw_p52 : lw_okq (⟨"DrawnTalksModel", "canDo", "(II)Z"⟩, 35) := ⟨⟨by decide +kernel, by decide +kernel⟩, List.mem_of_getElem? (i := 612) (by decide +kernel), List.mem_of_getElem? (i := 904) (by decide +kernel), List.mem_of_getElem? (i := 905) (by decide +kernel)⟩
theorem lw_p53 : lw_okq (⟨"DrawnTalksModel", "doNext", "(II)V"⟩, 35) := ⟨⟨by decide +kernel, by decide +kernel⟩, List.mem_of_getElem? (i := 612) (by decide +kernel), List.mem_of_getElem? (i := 911) (by decide +kernel), List.mem_of_getElem? (i := 912) (by decide +kernel)⟩
theorem lw_p54 : lw_okq (⟨"DrawnTalksModel", "isFirst", "(II)Z"⟩, 35) := ⟨⟨by decide +kernel, by decide +kernel⟩, List.mem_of_getElem? (i := 612) (by decide +kernel), List.mem_of_getElem? (i := 920) (by decide +kernel), List.mem_of_getElem? (i := 921) (by decide +kernel)⟩
theorem lw_p55 : lw_okq (⟨"DrawnTalksModel", "isOfOne", "(II)Z"⟩, 35) := ⟨⟨by decide +kernel, by decide +kernel⟩, List.mem_of_getElem? (i := 612) (by decide +kernel), List.mem_of_getElem? (i := 927) (by decide +kernel), List.mem_of_getElem? (i := 928) (by decide +kernel)⟩
def lw_privs_4 : List (MethodName × Nat) := [(⟨"DrawnTalksModel", "areAlike", "(II)Z"⟩, 35), (⟨"DrawnTalksModel", "isSameLine", "(III)Z"⟩, 35), (⟨"DrawnTalksModel", "addTalk", "(I)V"⟩, 35), (⟨"DrawnTalksModel", "plays", "(I)Z"⟩, 35), (⟨"DrawnTalksModel", "canDo", "(II)Z"⟩, 35), (⟨"DrawnTalksModel", "doNext", "(II)V"⟩, 35), (⟨"DrawnTalksModel", "isFirst", "(II)Z"⟩, 35), (⟨"DrawnTalksModel", "isOfOne", "(II)Z"⟩, 35)]
theorem lw_r4 : ∀ q ∈ lw_privs_4, lw_okq q := List.forall_mem_cons.mpr ⟨lw_p48, List.forall_mem_cons.mpr ⟨lw_p49, List.forall_mem_cons.mpr ⟨lw_p50, List.forall_mem_cons.mpr ⟨lw_p51, List.forall_mem_cons.mpr ⟨lw_p52, List.forall_mem_cons.mpr ⟨lw_p53, List.forall_mem_cons.mpr ⟨lw_p54, List.forall_mem_cons.mpr ⟨lw_p55, fun _ h => absurd h List.not_mem_nil⟩⟩⟩⟩⟩⟩⟩⟩
def lw_privs : List (MethodName × Nat) := lw_privs_1 ++ (lw_privs_2 ++ (lw_privs_3 ++ (lw_privs_4)))
def lw_tbl : List Cond := k2_sels lw_privs ++ tables_1
theorem lw_privs_ok : ∀ q ∈ lw_privs, lw_okq q := by
  show ∀ q ∈ lw_privs_1 ++ (lw_privs_2 ++ (lw_privs_3 ++ (lw_privs_4))), lw_okq q
  exact List.forall_mem_append.mpr ⟨lw_r1, List.forall_mem_append.mpr ⟨lw_r2, List.forall_mem_append.mpr ⟨lw_r3, lw_r4⟩⟩⟩
-- ===== end of PART A; then your names; then what follows =====
/-! ===== BEGIN words of one list among another's, by their places ===== -/
theorem goodIn_r {big : List Cond} (ws : List Cond) (ps : List Nat) (hp : ws = ps.filterMap (fun i => big[i]?)) (h : ws.all goodWord = true) : GoodIn big ws := by
  intro w hw
  have h1 := List.all_eq_true.mp h w hw
  rw [hp] at hw
  obtain ⟨i, -, hi⟩ := List.mem_filterMap.mp hw
  have hm : w ∈ big := by first | exact List.mem_of_getElem? hi | exact List.getElem?_mem hi
  exact ⟨hm, good_of_word h1⟩
theorem goodIn_app {big a b : List Cond} (ha : GoodIn big a) (hb : GoodIn big b) : GoodIn big (a ++ b) := fun w h => (List.mem_append.mp h).elim (ha w) (hb w)
theorem goodIn_ca {big a b : List Cond} {c : Cond} (ha : GoodIn big (c :: a)) (hb : GoodIn big b) : GoodIn big (c :: (a ++ b)) := fun w h => (List.mem_cons.mp h).elim (fun e => ha w (List.mem_cons.mpr (Or.inl e))) (fun h => (List.mem_append.mp h).elim (fun h => ha w (List.mem_cons.mpr (Or.inr h))) (hb w))
theorem goodIn_sub {big ws : List Cond} (hm : ∀ w ∈ ws, w ∈ big) (h : ws.all goodWord = true) : GoodIn big ws := fun w hw => ⟨hm w hw, good_of_word (List.all_eq_true.mp h w hw)⟩
/-! ===== END ===== -/

/-! ===== BEGIN printed: names, fields, word lists, decode rows ===== -/
def RX0 : String := "DrawnTalks$Lattice"
def TX0 : u_T := fun k => match k with
  | 0 => ("DrawnTalks$Lattice", "rows", "[J", true)
  | 1 => ("DrawnTalks$Lattice", "underWay", "[I", true)
  | 2 => ("DrawnTalks$Lattice", "leastTo", "[I", true)
  | 3 => ("DrawnTalks$Lattice", "step", "[I", true)
  | 4 => ("DrawnTalks$Lattice", "passed", "[I", true)
  | 5 => ("DrawnTalks$Lattice", "place", "[I", true)
  | 6 => ("DrawnTalks$Lattice", "rowsInAll", "J", false)
  | 7 => ("DrawnTalks$Lattice", "reached", "I", false)
  | 8 => ("DrawnTalks$Lattice", "most", "I", false)
  | _ => ("DrawnTalks$Lattice", "least", "I", false)
def tyX0 : Nat → FieldType := fun k => match k with
  | 0 => .array .long
  | 1 => .array .int
  | 2 => .array .int
  | 3 => .array .int
  | 4 => .array .int
  | 5 => .array .int
  | 6 => .long
  | 7 => .int
  | 8 => .int
  | _ => .int
abbrev wsX00 : List Cond := u_ws RX0 TX0 10
theorem nmX0 : ∀ a, a < 10 → ∀ b, b < 10 → a ≠ b → (TX0 a).2.1 ≠ (TX0 b).2.1 := by decide +kernel
theorem tyX0_ok : ∀ k, k < 10 → parseFieldDescriptor (TX0 k).2.2.1 = some (tyX0 k) := by decide +kernel
abbrev cX0_init : ByteArray := prog_2_method_1_code
def yX0_init : MethodName := ⟨RX0, "<init>", "()V"⟩
abbrev cX0_walk : ByteArray := prog_2_method_2_code
def yX0_walk : MethodName := ⟨RX0, "walk", "(LDrawnTalks$Talk;)V"⟩
abbrev cX0_prepare : ByteArray := prog_2_method_3_code
def yX0_prepare : MethodName := ⟨RX0, "prepare", "(LDrawnTalks$Talk;)I"⟩
abbrev cX0_visit : ByteArray := prog_2_method_4_code
def yX0_visit : MethodName := ⟨RX0, "visit", "(LDrawnTalks$Talk;II)V"⟩
abbrev cX0_mayHappen : ByteArray := prog_2_method_5_code
def yX0_mayHappen : MethodName := ⟨RX0, "mayHappen", "(LDrawnTalks$Talk;I)Z"⟩
abbrev cX0_goToNextCut : ByteArray := prog_2_method_6_code
def yX0_goToNextCut : MethodName := ⟨RX0, "goToNextCut", "(LDrawnTalks$Talk;)V"⟩
def RX1 : String := "DrawnTalks$Mixer"
def TX1 : u_T := fun k => match k with
  | 0 => ("DrawnTalks$Mixer", "talks", "[LDrawnTalks$Talk;", true)
  | 1 => ("DrawnTalks$Mixer", "player", "LDrawnTalks$Player;", true)
  | 2 => ("DrawnTalks$Mixer", "first", "[I", true)
  | _ => ("DrawnTalks$Mixer", "set", "I", false)
def tyX1 : Nat → FieldType := fun k => match k with
  | 0 => .array (.object "DrawnTalks$Talk")
  | 1 => .object "DrawnTalks$Player"
  | 2 => .array .int
  | _ => .int
abbrev wsX10 : List Cond := u_ws RX1 TX1 4
theorem nmX1 : ∀ a, a < 4 → ∀ b, b < 4 → a ≠ b → (TX1 a).2.1 ≠ (TX1 b).2.1 := by decide +kernel
theorem tyX1_ok : ∀ k, k < 4 → parseFieldDescriptor (TX1 k).2.2.1 = some (tyX1 k) := by decide +kernel
abbrev cX1_init : ByteArray := prog_3_method_1_code
def yX1_init : MethodName := ⟨RX1, "<init>", "([LDrawnTalks$Talk;LDrawnTalks$Player;)V"⟩
abbrev cX1_howMany : ByteArray := prog_3_method_2_code
def yX1_howMany : MethodName := ⟨RX1, "howMany", "(II)I"⟩
abbrev cX1_newAt : ByteArray := prog_3_method_3_code
def yX1_newAt : MethodName := ⟨RX1, "newAt", "(II)I"⟩
abbrev cX1_choose : ByteArray := prog_3_method_4_code
def yX1_choose : MethodName := ⟨RX1, "choose", "(I)V"⟩
abbrev cX1_has : ByteArray := prog_3_method_5_code
def yX1_has : MethodName := ⟨RX1, "has", "(I)Z"⟩
abbrev cX1_firstLike : ByteArray := prog_3_method_6_code
def yX1_firstLike : MethodName := ⟨RX1, "firstLike", "(II)I"⟩
abbrev cX1_isFirst : ByteArray := prog_3_method_7_code
def yX1_isFirst : MethodName := ⟨RX1, "isFirst", "(I)Z"⟩
abbrev cX1_isSuch : ByteArray := prog_3_method_8_code
def yX1_isSuch : MethodName := ⟨RX1, "isSuch", "(II)Z"⟩
abbrev cX1_isOfOne : ByteArray := prog_3_method_9_code
def yX1_isOfOne : MethodName := ⟨RX1, "isOfOne", "(I)Z"⟩
abbrev cX1_isOf : ByteArray := prog_3_method_10_code
def yX1_isOf : MethodName := ⟨RX1, "isOf", "(II)Z"⟩
def RX2 : String := "DrawnTalks$Player"
def TX2 : u_T := fun k => match k with
  | 0 => ("DrawnTalks$Player", "talks", "[LDrawnTalks$Talk;", true)
  | 1 => ("DrawnTalks$Player", "passed", "[I", true)
  | 2 => ("DrawnTalks$Player", "next", "[I", true)
  | 3 => ("DrawnTalks$Player", "names", "[I", true)
  | 4 => ("DrawnTalks$Player", "sent", "[I", true)
  | 5 => ("DrawnTalks$Player", "taken", "[I", true)
  | 6 => ("DrawnTalks$Player", "doer", "[I", true)
  | 7 => ("DrawnTalks$Player", "mix", "I", false)
  | 8 => ("DrawnTalks$Player", "done", "I", false)
  | _ => ("DrawnTalks$Player", "left", "I", false)
def tyX2 : Nat → FieldType := fun k => match k with
  | 0 => .array (.object "DrawnTalks$Talk")
  | 1 => .array .int
  | 2 => .array .int
  | 3 => .array .int
  | 4 => .array .int
  | 5 => .array .int
  | 6 => .array .int
  | 7 => .int
  | 8 => .int
  | _ => .int
abbrev wsX20 : List Cond := u_ws RX2 TX2 10
theorem nmX2 : ∀ a, a < 10 → ∀ b, b < 10 → a ≠ b → (TX2 a).2.1 ≠ (TX2 b).2.1 := by decide +kernel
theorem tyX2_ok : ∀ k, k < 10 → parseFieldDescriptor (TX2 k).2.2.1 = some (tyX2 k) := by decide +kernel
abbrev cX2_init : ByteArray := prog_4_method_1_code
def yX2_init : MethodName := ⟨RX2, "<init>", "([LDrawnTalks$Talk;)V"⟩
abbrev cX2_perform : ByteArray := prog_4_method_2_code
def yX2_perform : MethodName := ⟨RX2, "perform", "(I)V"⟩
abbrev cX2_ends : ByteArray := prog_4_method_3_code
def yX2_ends : MethodName := ⟨RX2, "ends", "()Z"⟩
abbrev cX2_copyInto : ByteArray := prog_4_method_4_code
def yX2_copyInto : MethodName := ⟨RX2, "copyInto", "(LDrawnTalks$Talk;)V"⟩
abbrev cX2_talkOf : ByteArray := prog_4_method_5_code
def yX2_talkOf : MethodName := ⟨RX2, "talkOf", "(I)LDrawnTalks$Talk;"⟩
abbrev cX2_goToStart : ByteArray := prog_4_method_6_code
def yX2_goToStart : MethodName := ⟨RX2, "goToStart", "()V"⟩
abbrev cX2_goOn : ByteArray := prog_4_method_7_code
def yX2_goOn : MethodName := ⟨RX2, "goOn", "(I)V"⟩
abbrev cX2_firstThatCan : ByteArray := prog_4_method_8_code
def yX2_firstThatCan : MethodName := ⟨RX2, "firstThatCan", "()I"⟩
abbrev cX2_can : ByteArray := prog_4_method_9_code
def yX2_can : MethodName := ⟨RX2, "can", "(I)Z"⟩
abbrev cX2_act : ByteArray := prog_4_method_10_code
def yX2_act : MethodName := ⟨RX2, "act", "(I)V"⟩
abbrev cX2_post : ByteArray := prog_4_method_11_code
def yX2_post : MethodName := ⟨RX2, "post", "(II)V"⟩
def RX3 : String := "DrawnTalks$Reader"
def TX3 : u_T := fun k => match k with
  | 0 => ("DrawnTalks$Reader", "text", "[I", true)
  | 1 => ("DrawnTalks$Reader", "length", "I", false)
  | 2 => ("DrawnTalks$Reader", "at", "I", false)
  | 3 => ("DrawnTalks$Reader", "start", "I", false)
  | 4 => ("DrawnTalks$Reader", "kind", "I", false)
  | _ => ("DrawnTalks$Reader", "value", "I", false)
def tyX3 : Nat → FieldType := fun k => match k with
  | 0 => .array .int
  | 1 => .int
  | 2 => .int
  | 3 => .int
  | 4 => .int
  | _ => .int
abbrev wsX30 : List Cond := u_ws RX3 TX3 6
theorem nmX3 : ∀ a, a < 6 → ∀ b, b < 6 → a ≠ b → (TX3 a).2.1 ≠ (TX3 b).2.1 := by decide +kernel
theorem tyX3_ok : ∀ k, k < 6 → parseFieldDescriptor (TX3 k).2.2.1 = some (tyX3 k) := by decide +kernel
abbrev cX3_init : ByteArray := prog_5_method_1_code
def yX3_init : MethodName := ⟨RX3, "<init>", "()V"⟩
abbrev cX3_append : ByteArray := prog_5_method_2_code
def yX3_append : MethodName := ⟨RX3, "append", "(I)V"⟩
abbrev cX3_readInto : ByteArray := prog_5_method_3_code
def yX3_readInto : MethodName := ⟨RX3, "readInto", "(LDrawnTalks$Talk;)I"⟩
abbrev cX3_readEvent : ByteArray := prog_5_method_4_code
def yX3_readEvent : MethodName := ⟨RX3, "readEvent", "(LDrawnTalks$Talk;)Z"⟩
abbrev cX3_nextIs : ByteArray := prog_5_method_5_code
def yX3_nextIs : MethodName := ⟨RX3, "nextIs", "(I)Z"⟩
abbrev cX3_readSign : ByteArray := prog_5_method_6_code
def yX3_readSign : MethodName := ⟨RX3, "readSign", "(I)V"⟩
abbrev cX3_readWord : ByteArray := prog_5_method_7_code
def yX3_readWord : MethodName := ⟨RX3, "readWord", "()V"⟩
abbrev cX3_wordIs : ByteArray := prog_5_method_8_code
def yX3_wordIs : MethodName := ⟨RX3, "wordIs", "(Ljava/lang/String;)Z"⟩
abbrev cX3_isSmallLetter : ByteArray := prog_5_method_9_code
def yX3_isSmallLetter : MethodName := ⟨RX3, "isSmallLetter", "(I)Z"⟩
def RX4 : String := "DrawnTalks$Relation"
def TX4 : u_T := fun k => match k with
  | _ => ("DrawnTalks$Relation", "ahead", "[I", true)
def tyX4 : Nat → FieldType := fun k => match k with
  | _ => .array .int
abbrev wsX40 : List Cond := u_ws RX4 TX4 1
theorem nmX4 : ∀ a, a < 1 → ∀ b, b < 1 → a ≠ b → (TX4 a).2.1 ≠ (TX4 b).2.1 := by decide +kernel
theorem tyX4_ok : ∀ k, k < 1 → parseFieldDescriptor (TX4 k).2.2.1 = some (tyX4 k) := by decide +kernel
abbrev cX4_init : ByteArray := prog_6_method_1_code
def yX4_init : MethodName := ⟨RX4, "<init>", "()V"⟩
abbrev cX4_workOut : ByteArray := prog_6_method_2_code
def yX4_workOut : MethodName := ⟨RX4, "workOut", "(LDrawnTalks$Talk;I)V"⟩
abbrev cX4_isAhead : ByteArray := prog_6_method_3_code
def yX4_isAhead : MethodName := ⟨RX4, "isAhead", "(II)Z"⟩
abbrev cX4_isDirect : ByteArray := prog_6_method_4_code
def yX4_isDirect : MethodName := ⟨RX4, "isDirect", "(LDrawnTalks$Talk;III)Z"⟩
abbrev cX4_isRace : ByteArray := prog_6_method_5_code
def yX4_isRace : MethodName := ⟨RX4, "isRace", "(LDrawnTalks$Talk;II)Z"⟩
abbrev cX4_howManyRaces : ByteArray := prog_6_method_6_code
def yX4_howManyRaces : MethodName := ⟨RX4, "howManyRaces", "(LDrawnTalks$Talk;)I"⟩
abbrev cX4_raceAt : ByteArray := prog_6_method_7_code
def yX4_raceAt : MethodName := ⟨RX4, "raceAt", "(LDrawnTalks$Talk;I)I"⟩
def RX5 : String := "DrawnTalks$Talk"
def TX5 : u_T := fun k => match k with
  | 0 => ("DrawnTalks$Talk", "isTake", "[Z", true)
  | 1 => ("DrawnTalks$Talk", "part", "[I", true)
  | 2 => ("DrawnTalks$Talk", "other", "[I", true)
  | 3 => ("DrawnTalks$Talk", "name", "[I", true)
  | 4 => ("DrawnTalks$Talk", "mate", "[I", true)
  | 5 => ("DrawnTalks$Talk", "lineSize", "[I", true)
  | 6 => ("DrawnTalks$Talk", "lineEvents", "[I", true)
  | 7 => ("DrawnTalks$Talk", "size", "I", false)
  | _ => ("DrawnTalks$Talk", "sends", "I", false)
def tyX5 : Nat → FieldType := fun k => match k with
  | 0 => .array .boolean
  | 1 => .array .int
  | 2 => .array .int
  | 3 => .array .int
  | 4 => .array .int
  | 5 => .array .int
  | 6 => .array .int
  | 7 => .int
  | _ => .int
abbrev wsX50 : List Cond := u_ws RX5 TX5 9
theorem nmX5 : ∀ a, a < 9 → ∀ b, b < 9 → a ≠ b → (TX5 a).2.1 ≠ (TX5 b).2.1 := by decide +kernel
theorem tyX5_ok : ∀ k, k < 9 → parseFieldDescriptor (TX5 k).2.2.1 = some (tyX5 k) := by decide +kernel
abbrev cX5_init : ByteArray := prog_7_method_1_code
def yX5_init : MethodName := ⟨RX5, "<init>", "()V"⟩
abbrev cX5_empty : ByteArray := prog_7_method_2_code
def yX5_empty : MethodName := ⟨RX5, "empty", "()V"⟩
abbrev cX5_isWhole : ByteArray := prog_7_method_3_code
def yX5_isWhole : MethodName := ⟨RX5, "isWhole", "()Z"⟩
abbrev cX5_onLine : ByteArray := prog_7_method_4_code
def yX5_onLine : MethodName := ⟨RX5, "onLine", "(II)I"⟩
abbrev cX5_partsWithEvents : ByteArray := prog_7_method_5_code
def yX5_partsWithEvents : MethodName := ⟨RX5, "partsWithEvents", "()I"⟩
abbrev cX5_firstWaiting : ByteArray := prog_7_method_6_code
def yX5_firstWaiting : MethodName := ⟨RX5, "firstWaiting", "(III)I"⟩
abbrev cX5_addSend : ByteArray := prog_7_method_7_code
def yX5_addSend : MethodName := ⟨RX5, "addSend", "(III)V"⟩
abbrev cX5_addTake : ByteArray := prog_7_method_8_code
def yX5_addTake : MethodName := ⟨RX5, "addTake", "(III)V"⟩
abbrev cX5_add : ByteArray := prog_7_method_9_code
def yX5_add : MethodName := ⟨RX5, "add", "(III)Z"⟩
abbrev cX5_addCopy : ByteArray := prog_7_method_10_code
def yX5_addCopy : MethodName := ⟨RX5, "addCopy", "(LDrawnTalks$Talk;I)V"⟩
abbrev cX5_addAll : ByteArray := prog_7_method_11_code
def yX5_addAll : MethodName := ⟨RX5, "addAll", "(LDrawnTalks$Talk;)V"⟩
abbrev cX5_hasSameLine : ByteArray := prog_7_method_12_code
def yX5_hasSameLine : MethodName := ⟨RX5, "hasSameLine", "(LDrawnTalks$Talk;I)Z"⟩
def RX6 : String := "DrawnTalks"
def TX6 : u_T := fun k => match k with
  | 0 => ("DrawnTalks", "talks", "[LDrawnTalks$Talk;", true)
  | 1 => ("DrawnTalks", "built", "LDrawnTalks$Talk;", true)
  | 2 => ("DrawnTalks", "reader", "LDrawnTalks$Reader;", true)
  | 3 => ("DrawnTalks", "relation", "LDrawnTalks$Relation;", true)
  | 4 => ("DrawnTalks", "lattice", "LDrawnTalks$Lattice;", true)
  | 5 => ("DrawnTalks", "player", "LDrawnTalks$Player;", true)
  | _ => ("DrawnTalks", "mixer", "LDrawnTalks$Mixer;", true)
def tyX6 : Nat → FieldType := fun k => match k with
  | 0 => .array (.object "DrawnTalks$Talk")
  | 1 => .object "DrawnTalks$Talk"
  | 2 => .object "DrawnTalks$Reader"
  | 3 => .object "DrawnTalks$Relation"
  | 4 => .object "DrawnTalks$Lattice"
  | 5 => .object "DrawnTalks$Player"
  | _ => .object "DrawnTalks$Mixer"
abbrev wsX60 : List Cond := u_ws RX6 TX6 7
theorem nmX6 : ∀ a, a < 7 → ∀ b, b < 7 → a ≠ b → (TX6 a).2.1 ≠ (TX6 b).2.1 := by decide +kernel
theorem tyX6_ok : ∀ k, k < 7 → parseFieldDescriptor (TX6 k).2.2.1 = some (tyX6 k) := by decide +kernel
abbrev cX6_init : ByteArray := prog_1_method_1_code
def yX6_init : MethodName := ⟨RX6, "<init>", "()V"⟩
abbrev cX6_type : ByteArray := prog_1_method_2_code
def yX6_type : MethodName := ⟨RX6, "type", "(JI)I"⟩
abbrev cX6_clear : ByteArray := prog_1_method_3_code
def yX6_clear : MethodName := ⟨RX6, "clear", "()I"⟩
abbrev cX6_talk : ByteArray := prog_1_method_4_code
def yX6_talk : MethodName := ⟨RX6, "talk", "(I)I"⟩
abbrev cX6_about : ByteArray := prog_1_method_5_code
def yX6_about : MethodName := ⟨RX6, "about", "(II)I"⟩
abbrev cX6_event : ByteArray := prog_1_method_6_code
def yX6_event : MethodName := ⟨RX6, "event", "(III)I"⟩
abbrev cX6_line : ByteArray := prog_1_method_7_code
def yX6_line : MethodName := ⟨RX6, "line", "(III)I"⟩
abbrev cX6_drawn : ByteArray := prog_1_method_8_code
def yX6_drawn : MethodName := ⟨RX6, "drawn", "(III)I"⟩
abbrev cX6_kept : ByteArray := prog_1_method_9_code
def yX6_kept : MethodName := ⟨RX6, "kept", "(IIII)I"⟩
abbrev cX6_race : ByteArray := prog_1_method_10_code
def yX6_race : MethodName := ⟨RX6, "race", "(III)I"⟩
abbrev cX6_orders : ByteArray := prog_1_method_11_code
def yX6_orders : MethodName := ⟨RX6, "orders", "(I)J"⟩
abbrev cX6_moments : ByteArray := prog_1_method_12_code
def yX6_moments : MethodName := ⟨RX6, "moments", "(I)I"⟩
abbrev cX6_under : ByteArray := prog_1_method_13_code
def yX6_under : MethodName := ⟨RX6, "under", "(II)I"⟩
abbrev cX6_alike : ByteArray := prog_1_method_14_code
def yX6_alike : MethodName := ⟨RX6, "alike", "(II)I"⟩
abbrev cX6_behind : ByteArray := prog_1_method_15_code
def yX6_behind : MethodName := ⟨RX6, "behind", "(III)I"⟩
abbrev cX6_play : ByteArray := prog_1_method_16_code
def yX6_play : MethodName := ⟨RX6, "play", "(II)I"⟩
abbrev cX6_mixes : ByteArray := prog_1_method_17_code
def yX6_mixes : MethodName := ⟨RX6, "mixes", "(II)I"⟩
abbrev cX6_fresh : ByteArray := prog_1_method_18_code
def yX6_fresh : MethodName := ⟨RX6, "fresh", "(II)I"⟩
abbrev cX6_take : ByteArray := prog_1_method_19_code
def yX6_take : MethodName := ⟨RX6, "take", "(II)I"⟩
abbrev cX6_count : ByteArray := prog_1_method_20_code
def yX6_count : MethodName := ⟨RX6, "count", "(I)I"⟩
abbrev cX6_keepBuilt : ByteArray := prog_1_method_21_code
def yX6_keepBuilt : MethodName := ⟨RX6, "keepBuilt", "(I)I"⟩
abbrev cX6_isEvent : ByteArray := prog_1_method_22_code
def yX6_isEvent : MethodName := ⟨RX6, "isEvent", "(II)Z"⟩
abbrev cX6_isTalk : ByteArray := prog_1_method_23_code
def yX6_isTalk : MethodName := ⟨RX6, "isTalk", "(I)Z"⟩
abbrev cX6_isPart : ByteArray := prog_1_method_24_code
def yX6_isPart : MethodName := ⟨RX6, "isPart", "(I)Z"⟩
abbrev cX6_isWay : ByteArray := prog_1_method_25_code
def yX6_isWay : MethodName := ⟨RX6, "isWay", "(I)Z"⟩
abbrev cX6_isMix : ByteArray := prog_1_method_26_code
def yX6_isMix : MethodName := ⟨RX6, "isMix", "(I)Z"⟩
abbrev cX6_isSet : ByteArray := prog_1_method_27_code
def yX6_isSet : MethodName := ⟨RX6, "isSet", "(I)Z"⟩
abbrev cX6_asNumber : ByteArray := prog_1_method_28_code
def yX6_asNumber : MethodName := ⟨RX6, "asNumber", "(Z)I"⟩
abbrev cX6_choice : ByteArray := prog_1_method_29_code
def yX6_choice : MethodName := ⟨RX6, "choice", "(II)I"⟩
def RX7 : String := "DrawnTalksModel"
def TX7 : u_T := fun k => match k with
  | 0 => ("DrawnTalksModel", "events", "[I", true)
  | 1 => ("DrawnTalksModel", "isTake", "[Z", true)
  | 2 => ("DrawnTalksModel", "partOf", "[I", true)
  | 3 => ("DrawnTalksModel", "otherOf", "[I", true)
  | 4 => ("DrawnTalksModel", "nameOf", "[I", true)
  | 5 => ("DrawnTalksModel", "mateOf", "[I", true)
  | 6 => ("DrawnTalksModel", "lineSize", "[I", true)
  | 7 => ("DrawnTalksModel", "lineAt", "[I", true)
  | 8 => ("DrawnTalksModel", "bytes", "I", false)
  | 9 => ("DrawnTalksModel", "text", "[I", true)
  | 10 => ("DrawnTalksModel", "newMany", "I", false)
  | 11 => ("DrawnTalksModel", "newSends", "I", false)
  | 12 => ("DrawnTalksModel", "newOpen", "I", false)
  | 13 => ("DrawnTalksModel", "newTake", "[Z", true)
  | 14 => ("DrawnTalksModel", "newPart", "[I", true)
  | 15 => ("DrawnTalksModel", "newOther", "[I", true)
  | 16 => ("DrawnTalksModel", "newName", "[I", true)
  | 17 => ("DrawnTalksModel", "newMate", "[I", true)
  | 18 => ("DrawnTalksModel", "readAt", "I", false)
  | 19 => ("DrawnTalksModel", "tokenAt", "I", false)
  | 20 => ("DrawnTalksModel", "token", "I", false)
  | 21 => ("DrawnTalksModel", "ahead", "[Z", true)
  | 22 => ("DrawnTalksModel", "stride", "[I", true)
  | 23 => ("DrawnTalksModel", "ordersFrom", "[J", true)
  | 24 => ("DrawnTalksModel", "leastFrom", "[I", true)
  | 25 => ("DrawnTalksModel", "manyMoments", "I", false)
  | 26 => ("DrawnTalksModel", "mostUnder", "I", false)
  | 27 => ("DrawnTalksModel", "momentsOf", "I", false)
  | 28 => ("DrawnTalksModel", "sentName", "[I", true)
  | 29 => ("DrawnTalksModel", "sent", "[I", true)
  | 30 => ("DrawnTalksModel", "taken", "[I", true)
  | 31 => ("DrawnTalksModel", "reached", "[I", true)
  | 32 => ("DrawnTalksModel", "doneMany", "I", false)
  | 33 => ("DrawnTalksModel", "doneSends", "I", false)
  | _ => ("DrawnTalksModel", "doneAt", "[I", true)
def tyX7 : Nat → FieldType := fun k => match k with
  | 0 => .array .int
  | 1 => .array .boolean
  | 2 => .array .int
  | 3 => .array .int
  | 4 => .array .int
  | 5 => .array .int
  | 6 => .array .int
  | 7 => .array .int
  | 8 => .int
  | 9 => .array .int
  | 10 => .int
  | 11 => .int
  | 12 => .int
  | 13 => .array .boolean
  | 14 => .array .int
  | 15 => .array .int
  | 16 => .array .int
  | 17 => .array .int
  | 18 => .int
  | 19 => .int
  | 20 => .int
  | 21 => .array .boolean
  | 22 => .array .int
  | 23 => .array .long
  | 24 => .array .int
  | 25 => .int
  | 26 => .int
  | 27 => .int
  | 28 => .array .int
  | 29 => .array .int
  | 30 => .array .int
  | 31 => .array .int
  | 32 => .int
  | 33 => .int
  | _ => .array .int
abbrev wsX70 : List Cond := u_ws RX7 TX7 35
theorem nmX7 : ∀ a, a < 35 → ∀ b, b < 35 → a ≠ b → (TX7 a).2.1 ≠ (TX7 b).2.1 := by decide +kernel
theorem tyX7_ok : ∀ k, k < 35 → parseFieldDescriptor (TX7 k).2.2.1 = some (tyX7 k) := by decide +kernel
abbrev cX7_init : ByteArray := prog_9_method_1_code
def yX7_init : MethodName := ⟨RX7, "<init>", "()V"⟩
abbrev cX7_in : ByteArray := prog_9_method_2_code
def yX7_in : MethodName := ⟨RX7, "in", "(JJJ)Z"⟩
abbrev cX7_hasBit : ByteArray := prog_9_method_3_code
def yX7_hasBit : MethodName := ⟨RX7, "hasBit", "(II)Z"⟩
abbrev cX7_noTalk : ByteArray := prog_9_method_4_code
def yX7_noTalk : MethodName := ⟨RX7, "noTalk", "(I)Z"⟩
abbrev cX7_type : ByteArray := prog_9_method_5_code
def yX7_type : MethodName := ⟨RX7, "type", "(JI)I"⟩
abbrev cX7_clear : ByteArray := prog_9_method_6_code
def yX7_clear : MethodName := ⟨RX7, "clear", "()I"⟩
abbrev cX7_wordBy : ByteArray := prog_9_method_7_code
def yX7_wordBy : MethodName := ⟨RX7, "wordBy", "(J)I"⟩
abbrev cX7_readToken : ByteArray := prog_9_method_8_code
def yX7_readToken : MethodName := ⟨RX7, "readToken", "()V"⟩
abbrev cX7_openSend : ByteArray := prog_9_method_9_code
def yX7_openSend : MethodName := ⟨RX7, "openSend", "(III)I"⟩
abbrev cX7_addEvent : ByteArray := prog_9_method_10_code
def yX7_addEvent : MethodName := ⟨RX7, "addEvent", "(ZIIII)V"⟩
abbrev cX7_beginTalk : ByteArray := prog_9_method_11_code
def yX7_beginTalk : MethodName := ⟨RX7, "beginTalk", "()V"⟩
abbrev cX7_readsEvent : ByteArray := prog_9_method_12_code
def yX7_readsEvent : MethodName := ⟨RX7, "readsEvent", "(Z)Z"⟩
abbrev cX7_readTalk : ByteArray := prog_9_method_13_code
def yX7_readTalk : MethodName := ⟨RX7, "readTalk", "()I"⟩
abbrev cX7_keep : ByteArray := prog_9_method_14_code
def yX7_keep : MethodName := ⟨RX7, "keep", "(I)I"⟩
abbrev cX7_talk : ByteArray := prog_9_method_15_code
def yX7_talk : MethodName := ⟨RX7, "talk", "(I)I"⟩
abbrev cX7_about : ByteArray := prog_9_method_16_code
def yX7_about : MethodName := ⟨RX7, "about", "(II)I"⟩
abbrev cX7_noEvent : ByteArray := prog_9_method_17_code
def yX7_noEvent : MethodName := ⟨RX7, "noEvent", "(II)Z"⟩
abbrev cX7_event : ByteArray := prog_9_method_18_code
def yX7_event : MethodName := ⟨RX7, "event", "(III)I"⟩
abbrev cX7_line : ByteArray := prog_9_method_19_code
def yX7_line : MethodName := ⟨RX7, "line", "(III)I"⟩
abbrev cX7_clearAhead : ByteArray := prog_9_method_20_code
def yX7_clearAhead : MethodName := ⟨RX7, "clearAhead", "()V"⟩
abbrev cX7_closeAhead : ByteArray := prog_9_method_21_code
def yX7_closeAhead : MethodName := ⟨RX7, "closeAhead", "(I)V"⟩
abbrev cX7_layMates : ByteArray := prog_9_method_22_code
def yX7_layMates : MethodName := ⟨RX7, "layMates", "(I)V"⟩
abbrev cX7_onOneLine : ByteArray := prog_9_method_23_code
def yX7_onOneLine : MethodName := ⟨RX7, "onOneLine", "(III)Z"⟩
abbrev cX7_layDrawn : ByteArray := prog_9_method_24_code
def yX7_layDrawn : MethodName := ⟨RX7, "layDrawn", "(I)V"⟩
abbrev cX7_isKeptTake : ByteArray := prog_9_method_25_code
def yX7_isKeptTake : MethodName := ⟨RX7, "isKeptTake", "(IIII)Z"⟩
abbrev cX7_layKept : ByteArray := prog_9_method_26_code
def yX7_layKept : MethodName := ⟨RX7, "layKept", "(II)V"⟩
abbrev cX7_drawn : ByteArray := prog_9_method_27_code
def yX7_drawn : MethodName := ⟨RX7, "drawn", "(III)I"⟩
abbrev cX7_kept : ByteArray := prog_9_method_28_code
def yX7_kept : MethodName := ⟨RX7, "kept", "(IIII)I"⟩
abbrev cX7_race : ByteArray := prog_9_method_29_code
def yX7_race : MethodName := ⟨RX7, "race", "(III)I"⟩
abbrev cX7_come : ByteArray := prog_9_method_30_code
def yX7_come : MethodName := ⟨RX7, "come", "(II)I"⟩
abbrev cX7_underAt : ByteArray := prog_9_method_31_code
def yX7_underAt : MethodName := ⟨RX7, "underAt", "(I)I"⟩
abbrev cX7_isDone : ByteArray := prog_9_method_32_code
def yX7_isDone : MethodName := ⟨RX7, "isDone", "(II)Z"⟩
abbrev cX7_layMoments : ByteArray := prog_9_method_33_code
def yX7_layMoments : MethodName := ⟨RX7, "layMoments", "(I)V"⟩
abbrev cX7_layMoment : ByteArray := prog_9_method_34_code
def yX7_layMoment : MethodName := ⟨RX7, "layMoment", "(II)V"⟩
abbrev cX7_orders : ByteArray := prog_9_method_35_code
def yX7_orders : MethodName := ⟨RX7, "orders", "(I)J"⟩
abbrev cX7_moments : ByteArray := prog_9_method_36_code
def yX7_moments : MethodName := ⟨RX7, "moments", "(I)I"⟩
abbrev cX7_under : ByteArray := prog_9_method_37_code
def yX7_under : MethodName := ⟨RX7, "under", "(II)I"⟩
abbrev cX7_isSameLine : ByteArray := prog_9_method_38_code
def yX7_isSameLine : MethodName := ⟨RX7, "isSameLine", "(III)Z"⟩
abbrev cX7_areAlike : ByteArray := prog_9_method_39_code
def yX7_areAlike : MethodName := ⟨RX7, "areAlike", "(II)Z"⟩
abbrev cX7_alike : ByteArray := prog_9_method_40_code
def yX7_alike : MethodName := ⟨RX7, "alike", "(II)I"⟩
abbrev cX7_addTalk : ByteArray := prog_9_method_41_code
def yX7_addTalk : MethodName := ⟨RX7, "addTalk", "(I)V"⟩
abbrev cX7_behind : ByteArray := prog_9_method_42_code
def yX7_behind : MethodName := ⟨RX7, "behind", "(III)I"⟩
abbrev cX7_talkOf : ByteArray := prog_9_method_43_code
def yX7_talkOf : MethodName := ⟨RX7, "talkOf", "(II)I"⟩
abbrev cX7_canDo : ByteArray := prog_9_method_44_code
def yX7_canDo : MethodName := ⟨RX7, "canDo", "(II)Z"⟩
abbrev cX7_doNext : ByteArray := prog_9_method_45_code
def yX7_doNext : MethodName := ⟨RX7, "doNext", "(II)V"⟩
abbrev cX7_plays : ByteArray := prog_9_method_46_code
def yX7_plays : MethodName := ⟨RX7, "plays", "(I)Z"⟩
abbrev cX7_play : ByteArray := prog_9_method_47_code
def yX7_play : MethodName := ⟨RX7, "play", "(II)I"⟩
abbrev cX7_isFirst : ByteArray := prog_9_method_48_code
def yX7_isFirst : MethodName := ⟨RX7, "isFirst", "(II)Z"⟩
abbrev cX7_isOfOne : ByteArray := prog_9_method_49_code
def yX7_isOfOne : MethodName := ⟨RX7, "isOfOne", "(II)Z"⟩
abbrev cX7_mixes : ByteArray := prog_9_method_50_code
def yX7_mixes : MethodName := ⟨RX7, "mixes", "(II)I"⟩
abbrev cX7_fresh : ByteArray := prog_9_method_51_code
def yX7_fresh : MethodName := ⟨RX7, "fresh", "(II)I"⟩
abbrev cX7_take : ByteArray := prog_9_method_52_code
def yX7_take : MethodName := ⟨RX7, "take", "(II)I"⟩
abbrev cX7_count : ByteArray := prog_9_method_53_code
def yX7_count : MethodName := ⟨RX7, "count", "(I)I"⟩
def RJ9 : String := "java/lang/Math"
def TJ9 : u_T := fun k => match k with
  | _ => ("", "", "", false)
def tyJ9 : Nat → FieldType := fun k => match k with
  | _ => .int
abbrev wsJ90 : List Cond := u_ws RJ9 TJ9 0
theorem nmJ9 : ∀ a, a < 0 → ∀ b, b < 0 → a ≠ b → (TJ9 a).2.1 ≠ (TJ9 b).2.1 := by decide +kernel
theorem tyJ9_ok : ∀ k, k < 0 → parseFieldDescriptor (TJ9 k).2.2.1 = some (tyJ9 k) := by decide +kernel
abbrev cJ9_max_7cf53 : ByteArray := prog_10_method_65_code
def yJ9_max_7cf53 : MethodName := ⟨RJ9, "max", "(II)I"⟩
abbrev cJ9_min_7cf53 : ByteArray := prog_10_method_69_code
def yJ9_min_7cf53 : MethodName := ⟨RJ9, "min", "(II)I"⟩
def RJ0 : String := "java/lang/String"
def TJ0 : u_T := fun k => match k with
  | _ => ("", "", "", false)
def tyJ0 : Nat → FieldType := fun k => match k with
  | _ => .int
abbrev wsJ00 : List Cond := u_ws RJ0 TJ0 0
theorem nmJ0 : ∀ a, a < 0 → ∀ b, b < 0 → a ≠ b → (TJ0 a).2.1 ≠ (TJ0 b).2.1 := by decide +kernel
theorem tyJ0_ok : ∀ k, k < 0 → parseFieldDescriptor (TJ0 k).2.2.1 = some (tyJ0 k) := by decide +kernel
abbrev cJ0_length_8abf5 : ByteArray := prog_11_method_54_code
def yJ0_length_8abf5 : MethodName := ⟨RJ0, "length", "()I"⟩
abbrev cJ0_charAt_5068e : ByteArray := prog_11_method_56_code
def yJ0_charAt_5068e : MethodName := ⟨RJ0, "charAt", "(I)C"⟩
abbrev cJ0_coder_7d493 : ByteArray := prog_11_method_152_code
def yJ0_coder_7d493 : MethodName := ⟨RJ0, "coder", "()B"⟩
abbrev cJ0_isLatin1_aae02 : ByteArray := prog_11_method_154_code
def yJ0_isLatin1_aae02 : MethodName := ⟨RJ0, "isLatin1", "()Z"⟩
abbrev cJ0_checkIndex_df160 : ByteArray := prog_11_method_155_code
def yJ0_checkIndex_df160 : MethodName := ⟨RJ0, "checkIndex", "(II)V"⟩
def RJ1 : String := "java/lang/StringLatin1"
def TJ1 : u_T := fun k => match k with
  | _ => ("", "", "", false)
def tyJ1 : Nat → FieldType := fun k => match k with
  | _ => .int
abbrev wsJ10 : List Cond := u_ws RJ1 TJ1 0
theorem nmJ1 : ∀ a, a < 0 → ∀ b, b < 0 → a ≠ b → (TJ1 a).2.1 ≠ (TJ1 b).2.1 := by decide +kernel
theorem tyJ1_ok : ∀ k, k < 0 → parseFieldDescriptor (TJ1 k).2.2.1 = some (tyJ1 k) := by decide +kernel
abbrev cJ1_charAt_3b067 : ByteArray := prog_12_method_2_code
def yJ1_charAt_3b067 : MethodName := ⟨RJ1, "charAt", "([BI)C"⟩
def RJ2 : String := "java/lang/StringUTF16"
def TJ2 : u_T := fun k => match k with
  | _ => ("", "", "", false)
def tyJ2 : Nat → FieldType := fun k => match k with
  | _ => .int
abbrev wsJ20 : List Cond := u_ws RJ2 TJ2 0
theorem nmJ2 : ∀ a, a < 0 → ∀ b, b < 0 → a ≠ b → (TJ2 a).2.1 ≠ (TJ2 b).2.1 := by decide +kernel
theorem tyJ2_ok : ∀ k, k < 0 → parseFieldDescriptor (TJ2 k).2.2.1 = some (tyJ2 k) := by decide +kernel
abbrev cJ2_getChar_3b067 : ByteArray := prog_13_method_5_code
def yJ2_getChar_3b067 : MethodName := ⟨RJ2, "getChar", "([BI)C"⟩
abbrev cJ2_length_9d52b : ByteArray := prog_13_method_6_code
def yJ2_length_9d52b : MethodName := ⟨RJ2, "length", "([B)I"⟩
abbrev cJ2_charAt_3b067 : ByteArray := prog_13_method_83_code
def yJ2_charAt_3b067 : MethodName := ⟨RJ2, "charAt", "([BI)C"⟩
abbrev cJ2_checkIndex_2214a : ByteArray := prog_13_method_91_code
def yJ2_checkIndex_2214a : MethodName := ⟨RJ2, "checkIndex", "(I[B)V"⟩
def RJ3 : String := "jdk/internal/util/Preconditions"
def TJ3 : u_T := fun k => match k with
  | _ => ("", "", "", false)
def tyJ3 : Nat → FieldType := fun k => match k with
  | _ => .int
abbrev wsJ30 : List Cond := u_ws RJ3 TJ3 0
theorem nmJ3 : ∀ a, a < 0 → ∀ b, b < 0 → a ≠ b → (TJ3 a).2.1 ≠ (TJ3 b).2.1 := by decide +kernel
theorem tyJ3_ok : ∀ k, k < 0 → parseFieldDescriptor (TJ3 k).2.2.1 = some (tyJ3 k) := by decide +kernel
abbrev cJ3_checkIndex_8e157 : ByteArray := prog_14_method_11_code
def yJ3_checkIndex_8e157 : MethodName := ⟨RJ3, "checkIndex", "(IILjava/util/function/BiFunction;)I"⟩
def RL : String := "DrawnTalksLaw"
abbrev cL_law : ByteArray := code
def yL_law : MethodName := ⟨RL, "law", "([I)Z"⟩
abbrev vwCl : List vw_C := [(RX0, TX0, 10), (RX1, TX1, 4), (RX2, TX2, 10), (RX3, TX3, 6), (RX4, TX4, 1), (RX5, TX5, 9), (RX6, TX6, 7), (RX7, TX7, 35)]
/-! words of the tables, a row each: wq_<list>_<place> -/
theorem wq_l1 {w : Cond} : w ∈ tables_1_1 → w ∈ lw_tbl := fun h => List.mem_append_right _ (List.mem_append_left _ h)
theorem wq_l2 {w : Cond} : w ∈ tables_1_2 → w ∈ lw_tbl := fun h => List.mem_append_right _ (List.mem_append_right _ (List.mem_append_left _ h))
theorem wq_l3 {w : Cond} : w ∈ tables_1_3 → w ∈ lw_tbl := fun h => List.mem_append_right _ (List.mem_append_right _ (List.mem_append_right _ (List.mem_append_left _ h)))
theorem wq_l4 {w : Cond} : w ∈ tables_1_4 → w ∈ lw_tbl := fun h => List.mem_append_right _ (List.mem_append_right _ (List.mem_append_right _ (List.mem_append_right _ h)))
