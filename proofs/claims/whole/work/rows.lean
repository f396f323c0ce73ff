section
-- ===== PART A: goes FIRST, ahead of the names: the tables' words, and 'selects' of the private methods out of them =====
/-- a private method of a class that the tables say can be made, by its rows of tables_1 -/
def lw_okq (q : MethodName × Nat) : Prop := (q.1.cls ≠ "java/lang/invoke/MethodHandle" ∧ q.1.cls ≠ "java/lang/invoke/VarHandle") ∧ Cond.instantiable q.1.cls q.2 ∈ tables_1 ∧ Cond.privateMethod q.1 ∈ tables_1 ∧ Cond.instanceMethod q.1 ∈ tables_1
theorem lw_p0 : lw_okq (⟨"DrawnTalks$Reader", "nextIs", "(I)Z"⟩, 6) := ⟨⟨by decide +kernel, by decide +kernel⟩, List.mem_of_getElem? (i := 82) (by decide +kernel), List.mem_of_getElem? (i := 267) (by decide +kernel), List.mem_of_getElem? (i := 268) (by decide +kernel)⟩
theorem lw_p1 : lw_okq (⟨"DrawnTalks$Reader", "readWord", "()V"⟩, 6) := ⟨⟨by decide +kernel, by decide +kernel⟩, List.mem_of_getElem? (i := 82) (by decide +kernel), List.mem_of_getElem? (i := 274) (by decide +kernel), List.mem_of_getElem? (i := 275) (by decide +kernel)⟩
theorem lw_p2 : lw_okq (⟨"DrawnTalks$Reader", "wordIs", "(Ljava/lang/String;)Z"⟩, 6) := ⟨⟨by decide +kernel, by decide +kernel⟩, List.mem_of_getElem? (i := 82) (by decide +kernel), List.mem_of_getElem? (i := 279) (by decide +kernel), List.mem_of_getElem? (i := 280) (by decide +kernel)⟩
theorem lw_p3 : lw_okq (⟨"DrawnTalks$Reader", "readSign", "(I)V"⟩, 6) := ⟨⟨by decide +kernel, by decide +kernel⟩, List.mem_of_getElem? (i := 82) (by decide +kernel), List.mem_of_getElem? (i := 332) (by decide +kernel), List.mem_of_getElem? (i := 333) (by decide +kernel)⟩
theorem lw_p4 : lw_okq (⟨"DrawnTalks$Reader", "readEvent", "(LDrawnTalks$Talk;)Z"⟩, 6) := ⟨⟨by decide +kernel, by decide +kernel⟩, List.mem_of_getElem? (i := 82) (by decide +kernel), List.mem_of_getElem? (i := 340) (by decide +kernel), List.mem_of_getElem? (i := 341) (by decide +kernel)⟩
theorem lw_p5 : lw_okq (⟨"DrawnTalks$Talk", "add", "(III)Z"⟩, 9) := ⟨⟨by decide +kernel, by decide +kernel⟩, List.mem_of_getElem? (i := 24) (by decide +kernel), List.mem_of_getElem? (i := 353) (by decide +kernel), List.mem_of_getElem? (i := 354) (by decide +kernel)⟩
theorem lw_p6 : lw_okq (⟨"DrawnTalks", "keepBuilt", "(I)I"⟩, 7) := ⟨⟨by decide +kernel, by decide +kernel⟩, List.mem_of_getElem? (i := 15) (by decide +kernel), List.mem_of_getElem? (i := 361) (by decide +kernel), List.mem_of_getElem? (i := 362) (by decide +kernel)⟩
theorem lw_p7 : lw_okq (⟨"DrawnTalks", "isEvent", "(II)Z"⟩, 7) := ⟨⟨by decide +kernel, by decide +kernel⟩, List.mem_of_getElem? (i := 15) (by decide +kernel), List.mem_of_getElem? (i := 389) (by decide +kernel), List.mem_of_getElem? (i := 390) (by decide +kernel)⟩
theorem lw_p8 : lw_okq (⟨"DrawnTalks$Relation", "isDirect", "(LDrawnTalks$Talk;III)Z"⟩, 1) := ⟨⟨by decide +kernel, by decide +kernel⟩, List.mem_of_getElem? (i := 108) (by decide +kernel), List.mem_of_getElem? (i := 415) (by decide +kernel), List.mem_of_getElem? (i := 416) (by decide +kernel)⟩
theorem lw_p9 : lw_okq (⟨"DrawnTalks$Relation", "isRace", "(LDrawnTalks$Talk;II)Z"⟩, 1) := ⟨⟨by decide +kernel, by decide +kernel⟩, List.mem_of_getElem? (i := 108) (by decide +kernel), List.mem_of_getElem? (i := 439) (by decide +kernel), List.mem_of_getElem? (i := 440) (by decide +kernel)⟩
theorem lw_p10 : lw_okq (⟨"DrawnTalks$Lattice", "prepare", "(LDrawnTalks$Talk;)I"⟩, 10) := ⟨⟨by decide +kernel, by decide +kernel⟩, List.mem_of_getElem? (i := 118) (by decide +kernel), List.mem_of_getElem? (i := 456) (by decide +kernel), List.mem_of_getElem? (i := 457) (by decide +kernel)⟩
theorem lw_p11 : lw_okq (⟨"DrawnTalks$Lattice", "visit", "(LDrawnTalks$Talk;II)V"⟩, 10) := ⟨⟨by decide +kernel, by decide +kernel⟩, List.mem_of_getElem? (i := 118) (by decide +kernel), List.mem_of_getElem? (i := 464) (by decide +kernel), List.mem_of_getElem? (i := 465) (by decide +kernel)⟩
theorem lw_p12 : lw_okq (⟨"DrawnTalks$Lattice", "mayHappen", "(LDrawnTalks$Talk;I)Z"⟩, 10) := ⟨⟨by decide +kernel, by decide +kernel⟩, List.mem_of_getElem? (i := 118) (by decide +kernel), List.mem_of_getElem? (i := 471) (by decide +kernel), List.mem_of_getElem? (i := 472) (by decide +kernel)⟩
theorem lw_p13 : lw_okq (⟨"DrawnTalks$Lattice", "goToNextCut", "(LDrawnTalks$Talk;)V"⟩, 10) := ⟨⟨by decide +kernel, by decide +kernel⟩, List.mem_of_getElem? (i := 118) (by decide +kernel), List.mem_of_getElem? (i := 475) (by decide +kernel), List.mem_of_getElem? (i := 476) (by decide +kernel)⟩
theorem lw_p14 : lw_okq (⟨"DrawnTalks$Player", "goToStart", "()V"⟩, 10) := ⟨⟨by decide +kernel, by decide +kernel⟩, List.mem_of_getElem? (i := 160) (by decide +kernel), List.mem_of_getElem? (i := 511) (by decide +kernel), List.mem_of_getElem? (i := 512) (by decide +kernel)⟩
theorem lw_p15 : lw_okq (⟨"DrawnTalks$Player", "talkOf", "(I)LDrawnTalks$Talk;"⟩, 10) := ⟨⟨by decide +kernel, by decide +kernel⟩, List.mem_of_getElem? (i := 160) (by decide +kernel), List.mem_of_getElem? (i := 515) (by decide +kernel), List.mem_of_getElem? (i := 516) (by decide +kernel)⟩
def lw_privs_1 : List (MethodName × Nat) := [(⟨"DrawnTalks$Reader", "nextIs", "(I)Z"⟩, 6), (⟨"DrawnTalks$Reader", "readWord", "()V"⟩, 6), (⟨"DrawnTalks$Reader", "wordIs", "(Ljava/lang/String;)Z"⟩, 6), (⟨"DrawnTalks$Reader", "readSign", "(I)V"⟩, 6), (⟨"DrawnTalks$Reader", "readEvent", "(LDrawnTalks$Talk;)Z"⟩, 6), (⟨"DrawnTalks$Talk", "add", "(III)Z"⟩, 9), (⟨"DrawnTalks", "keepBuilt", "(I)I"⟩, 7), (⟨"DrawnTalks", "isEvent", "(II)Z"⟩, 7), (⟨"DrawnTalks$Relation", "isDirect", "(LDrawnTalks$Talk;III)Z"⟩, 1), (⟨"DrawnTalks$Relation", "isRace", "(LDrawnTalks$Talk;II)Z"⟩, 1), (⟨"DrawnTalks$Lattice", "prepare", "(LDrawnTalks$Talk;)I"⟩, 10), (⟨"DrawnTalks$Lattice", "visit", "(LDrawnTalks$Talk;II)V"⟩, 10), (⟨"DrawnTalks$Lattice", "mayHappen", "(LDrawnTalks$Talk;I)Z"⟩, 10), (⟨"DrawnTalks$Lattice", "goToNextCut", "(LDrawnTalks$Talk;)V"⟩, 10), (⟨"DrawnTalks$Player", "goToStart", "()V"⟩, 10), (⟨"DrawnTalks$Player", "talkOf", "(I)LDrawnTalks$Talk;"⟩, 10)]
theorem lw_r1 : ∀ q ∈ lw_privs_1, lw_okq q := List.forall_mem_cons.mpr ⟨lw_p0, List.forall_mem_cons.mpr ⟨lw_p1, List.forall_mem_cons.mpr ⟨lw_p2, List.forall_mem_cons.mpr ⟨lw_p3, List.forall_mem_cons.mpr ⟨lw_p4, List.forall_mem_cons.mpr ⟨lw_p5, List.forall_mem_cons.mpr ⟨lw_p6, List.forall_mem_cons.mpr ⟨lw_p7, List.forall_mem_cons.mpr ⟨lw_p8, List.forall_mem_cons.mpr ⟨lw_p9, List.forall_mem_cons.mpr ⟨lw_p10, List.forall_mem_cons.mpr ⟨lw_p11, List.forall_mem_cons.mpr ⟨lw_p12, List.forall_mem_cons.mpr ⟨lw_p13, List.forall_mem_cons.mpr ⟨lw_p14, List.forall_mem_cons.mpr ⟨lw_p15, fun _ h => absurd h List.not_mem_nil⟩⟩⟩⟩⟩⟩⟩⟩⟩⟩⟩⟩⟩⟩⟩⟩
theorem lw_p16 : lw_okq (⟨"DrawnTalks$Player", "firstThatCan", "()I"⟩, 10) := ⟨⟨by decide +kernel, by decide +kernel⟩, List.mem_of_getElem? (i := 160) (by decide +kernel), List.mem_of_getElem? (i := 523) (by decide +kernel), List.mem_of_getElem? (i := 524) (by decide +kernel)⟩
theorem lw_p17 : lw_okq (⟨"DrawnTalks$Player", "can", "(I)Z"⟩, 10) := ⟨⟨by decide +kernel, by decide +kernel⟩, List.mem_of_getElem? (i := 160) (by decide +kernel), List.mem_of_getElem? (i := 527) (by decide +kernel), List.mem_of_getElem? (i := 528) (by decide +kernel)⟩
theorem lw_p18 : lw_okq (⟨"DrawnTalks$Player", "act", "(I)V"⟩, 10) := ⟨⟨by decide +kernel, by decide +kernel⟩, List.mem_of_getElem? (i := 160) (by decide +kernel), List.mem_of_getElem? (i := 531) (by decide +kernel), List.mem_of_getElem? (i := 532) (by decide +kernel)⟩
theorem lw_p19 : lw_okq (⟨"DrawnTalks$Player", "post", "(II)V"⟩, 10) := ⟨⟨by decide +kernel, by decide +kernel⟩, List.mem_of_getElem? (i := 160) (by decide +kernel), List.mem_of_getElem? (i := 535) (by decide +kernel), List.mem_of_getElem? (i := 536) (by decide +kernel)⟩
theorem lw_p20 : lw_okq (⟨"DrawnTalks$Player", "goOn", "(I)V"⟩, 10) := ⟨⟨by decide +kernel, by decide +kernel⟩, List.mem_of_getElem? (i := 160) (by decide +kernel), List.mem_of_getElem? (i := 539) (by decide +kernel), List.mem_of_getElem? (i := 540) (by decide +kernel)⟩
theorem lw_p21 : lw_okq (⟨"DrawnTalks$Mixer", "choose", "(I)V"⟩, 4) := ⟨⟨by decide +kernel, by decide +kernel⟩, List.mem_of_getElem? (i := 199) (by decide +kernel), List.mem_of_getElem? (i := 558) (by decide +kernel), List.mem_of_getElem? (i := 559) (by decide +kernel)⟩
theorem lw_p22 : lw_okq (⟨"DrawnTalks$Mixer", "has", "(I)Z"⟩, 4) := ⟨⟨by decide +kernel, by decide +kernel⟩, List.mem_of_getElem? (i := 199) (by decide +kernel), List.mem_of_getElem? (i := 562) (by decide +kernel), List.mem_of_getElem? (i := 563) (by decide +kernel)⟩
theorem lw_p23 : lw_okq (⟨"DrawnTalks$Mixer", "firstLike", "(II)I"⟩, 4) := ⟨⟨by decide +kernel, by decide +kernel⟩, List.mem_of_getElem? (i := 199) (by decide +kernel), List.mem_of_getElem? (i := 566) (by decide +kernel), List.mem_of_getElem? (i := 567) (by decide +kernel)⟩
theorem lw_p24 : lw_okq (⟨"DrawnTalks$Mixer", "isFirst", "(I)Z"⟩, 4) := ⟨⟨by decide +kernel, by decide +kernel⟩, List.mem_of_getElem? (i := 199) (by decide +kernel), List.mem_of_getElem? (i := 571) (by decide +kernel), List.mem_of_getElem? (i := 572) (by decide +kernel)⟩
theorem lw_p25 : lw_okq (⟨"DrawnTalks$Mixer", "isSuch", "(II)Z"⟩, 4) := ⟨⟨by decide +kernel, by decide +kernel⟩, List.mem_of_getElem? (i := 199) (by decide +kernel), List.mem_of_getElem? (i := 577) (by decide +kernel), List.mem_of_getElem? (i := 578) (by decide +kernel)⟩
theorem lw_p26 : lw_okq (⟨"DrawnTalks$Mixer", "isOfOne", "(I)Z"⟩, 4) := ⟨⟨by decide +kernel, by decide +kernel⟩, List.mem_of_getElem? (i := 199) (by decide +kernel), List.mem_of_getElem? (i := 582) (by decide +kernel), List.mem_of_getElem? (i := 583) (by decide +kernel)⟩
theorem lw_p27 : lw_okq (⟨"DrawnTalks$Mixer", "isOf", "(II)Z"⟩, 4) := ⟨⟨by decide +kernel, by decide +kernel⟩, List.mem_of_getElem? (i := 199) (by decide +kernel), List.mem_of_getElem? (i := 586) (by decide +kernel), List.mem_of_getElem? (i := 587) (by decide +kernel)⟩
theorem lw_p28 : lw_okq (⟨"DrawnTalksModel", "readTalk", "()I"⟩, 35) := ⟨⟨by decide +kernel, by decide +kernel⟩, List.mem_of_getElem? (i := 612) (by decide +kernel), List.mem_of_getElem? (i := 745) (by decide +kernel), List.mem_of_getElem? (i := 746) (by decide +kernel)⟩
theorem lw_p29 : lw_okq (⟨"DrawnTalksModel", "beginTalk", "()V"⟩, 35) := ⟨⟨by decide +kernel, by decide +kernel⟩, List.mem_of_getElem? (i := 612) (by decide +kernel), List.mem_of_getElem? (i := 749) (by decide +kernel), List.mem_of_getElem? (i := 750) (by decide +kernel)⟩
theorem lw_p30 : lw_okq (⟨"DrawnTalksModel", "readToken", "()V"⟩, 35) := ⟨⟨by decide +kernel, by decide +kernel⟩, List.mem_of_getElem? (i := 612) (by decide +kernel), List.mem_of_getElem? (i := 753) (by decide +kernel), List.mem_of_getElem? (i := 754) (by decide +kernel)⟩
theorem lw_p31 : lw_okq (⟨"DrawnTalksModel", "readsEvent", "(Z)Z"⟩, 35) := ⟨⟨by decide +kernel, by decide +kernel⟩, List.mem_of_getElem? (i := 612) (by decide +kernel), List.mem_of_getElem? (i := 769) (by decide +kernel), List.mem_of_getElem? (i := 770) (by decide +kernel)⟩
def lw_privs_2 : List (MethodName × Nat) := [(⟨"DrawnTalks$Player", "firstThatCan", "()I"⟩, 10), (⟨"DrawnTalks$Player", "can", "(I)Z"⟩, 10), (⟨"DrawnTalks$Player", "act", "(I)V"⟩, 10), (⟨"DrawnTalks$Player", "post", "(II)V"⟩, 10), (⟨"DrawnTalks$Player", "goOn", "(I)V"⟩, 10), (⟨"DrawnTalks$Mixer", "choose", "(I)V"⟩, 4), (⟨"DrawnTalks$Mixer", "has", "(I)Z"⟩, 4), (⟨"DrawnTalks$Mixer", "firstLike", "(II)I"⟩, 4), (⟨"DrawnTalks$Mixer", "isFirst", "(I)Z"⟩, 4), (⟨"DrawnTalks$Mixer", "isSuch", "(II)Z"⟩, 4), (⟨"DrawnTalks$Mixer", "isOfOne", "(I)Z"⟩, 4), (⟨"DrawnTalks$Mixer", "isOf", "(II)Z"⟩, 4), (⟨"DrawnTalksModel", "readTalk", "()I"⟩, 35), (⟨"DrawnTalksModel", "beginTalk", "()V"⟩, 35), (⟨"DrawnTalksModel", "readToken", "()V"⟩, 35), (⟨"DrawnTalksModel", "readsEvent", "(Z)Z"⟩, 35)]
theorem lw_r2 : ∀ q ∈ lw_privs_2, lw_okq q := List.forall_mem_cons.mpr ⟨lw_p16, List.forall_mem_cons.mpr ⟨lw_p17, List.forall_mem_cons.mpr ⟨lw_p18, List.forall_mem_cons.mpr ⟨lw_p19, List.forall_mem_cons.mpr ⟨lw_p20, List.forall_mem_cons.mpr ⟨lw_p21, List.forall_mem_cons.mpr ⟨lw_p22, List.forall_mem_cons.mpr ⟨lw_p23, List.forall_mem_cons.mpr ⟨lw_p24, List.forall_mem_cons.mpr ⟨lw_p25, List.forall_mem_cons.mpr ⟨lw_p26, List.forall_mem_cons.mpr ⟨lw_p27, List.forall_mem_cons.mpr ⟨lw_p28, List.forall_mem_cons.mpr ⟨lw_p29, List.forall_mem_cons.mpr ⟨lw_p30, List.forall_mem_cons.mpr ⟨lw_p31, fun _ h => absurd h List.not_mem_nil⟩⟩⟩⟩⟩⟩⟩⟩⟩⟩⟩⟩⟩⟩⟩⟩
theorem lw_p32 : lw_okq (⟨"DrawnTalksModel", "openSend", "(III)I"⟩, 35) := ⟨⟨by decide +kernel, by decide +kernel⟩, List.mem_of_getElem? (i := 612) (by decide +kernel), List.mem_of_getElem? (i := 774) (by decide +kernel), List.mem_of_getElem? (i := 775) (by decide +kernel)⟩
theorem lw_p33 : lw_okq (⟨"DrawnTalksModel", "addEvent", "(ZIIII)V"⟩, 35) := ⟨⟨by decide +kernel, by decide +kernel⟩, List.mem_of_getElem? (i := 612) (by decide +kernel), List.mem_of_getElem? (i := 778) (by decide +kernel), List.mem_of_getElem? (i := 779) (by decide +kernel)⟩
theorem lw_p34 : lw_okq (⟨"DrawnTalksModel", "keep", "(I)I"⟩, 35) := ⟨⟨by decide +kernel, by decide +kernel⟩, List.mem_of_getElem? (i := 612) (by decide +kernel), List.mem_of_getElem? (i := 782) (by decide +kernel), List.mem_of_getElem? (i := 783) (by decide +kernel)⟩
theorem lw_p35 : lw_okq (⟨"DrawnTalksModel", "noEvent", "(II)Z"⟩, 35) := ⟨⟨by decide +kernel, by decide +kernel⟩, List.mem_of_getElem? (i := 612) (by decide +kernel), List.mem_of_getElem? (i := 795) (by decide +kernel), List.mem_of_getElem? (i := 796) (by decide +kernel)⟩
theorem lw_p36 : lw_okq (⟨"DrawnTalksModel", "layDrawn", "(I)V"⟩, 35) := ⟨⟨by decide +kernel, by decide +kernel⟩, List.mem_of_getElem? (i := 612) (by decide +kernel), List.mem_of_getElem? (i := 808) (by decide +kernel), List.mem_of_getElem? (i := 809) (by decide +kernel)⟩
theorem lw_p37 : lw_okq (⟨"DrawnTalksModel", "clearAhead", "()V"⟩, 35) := ⟨⟨by decide +kernel, by decide +kernel⟩, List.mem_of_getElem? (i := 612) (by decide +kernel), List.mem_of_getElem? (i := 812) (by decide +kernel), List.mem_of_getElem? (i := 813) (by decide +kernel)⟩
theorem lw_p38 : lw_okq (⟨"DrawnTalksModel", "layMates", "(I)V"⟩, 35) := ⟨⟨by decide +kernel, by decide +kernel⟩, List.mem_of_getElem? (i := 612) (by decide +kernel), List.mem_of_getElem? (i := 816) (by decide +kernel), List.mem_of_getElem? (i := 817) (by decide +kernel)⟩
theorem lw_p39 : lw_okq (⟨"DrawnTalksModel", "onOneLine", "(III)Z"⟩, 35) := ⟨⟨by decide +kernel, by decide +kernel⟩, List.mem_of_getElem? (i := 612) (by decide +kernel), List.mem_of_getElem? (i := 820) (by decide +kernel), List.mem_of_getElem? (i := 821) (by decide +kernel)⟩
theorem lw_p40 : lw_okq (⟨"DrawnTalksModel", "closeAhead", "(I)V"⟩, 35) := ⟨⟨by decide +kernel, by decide +kernel⟩, List.mem_of_getElem? (i := 612) (by decide +kernel), List.mem_of_getElem? (i := 824) (by decide +kernel), List.mem_of_getElem? (i := 825) (by decide +kernel)⟩
theorem lw_p41 : lw_okq (⟨"DrawnTalksModel", "layKept", "(II)V"⟩, 35) := ⟨⟨by decide +kernel, by decide +kernel⟩, List.mem_of_getElem? (i := 612) (by decide +kernel), List.mem_of_getElem? (i := 832) (by decide +kernel), List.mem_of_getElem? (i := 833) (by decide +kernel)⟩
theorem lw_p42 : lw_okq (⟨"DrawnTalksModel", "isKeptTake", "(IIII)Z"⟩, 35) := ⟨⟨by decide +kernel, by decide +kernel⟩, List.mem_of_getElem? (i := 612) (by decide +kernel), List.mem_of_getElem? (i := 836) (by decide +kernel), List.mem_of_getElem? (i := 837) (by decide +kernel)⟩
theorem lw_p43 : lw_okq (⟨"DrawnTalksModel", "layMoments", "(I)V"⟩, 35) := ⟨⟨by decide +kernel, by decide +kernel⟩, List.mem_of_getElem? (i := 612) (by decide +kernel), List.mem_of_getElem? (i := 848) (by decide +kernel), List.mem_of_getElem? (i := 849) (by decide +kernel)⟩
theorem lw_p44 : lw_okq (⟨"DrawnTalksModel", "underAt", "(I)I"⟩, 35) := ⟨⟨by decide +kernel, by decide +kernel⟩, List.mem_of_getElem? (i := 612) (by decide +kernel), List.mem_of_getElem? (i := 852) (by decide +kernel), List.mem_of_getElem? (i := 853) (by decide +kernel)⟩
theorem lw_p45 : lw_okq (⟨"DrawnTalksModel", "isDone", "(II)Z"⟩, 35) := ⟨⟨by decide +kernel, by decide +kernel⟩, List.mem_of_getElem? (i := 612) (by decide +kernel), List.mem_of_getElem? (i := 856) (by decide +kernel), List.mem_of_getElem? (i := 857) (by decide +kernel)⟩
theorem lw_p46 : lw_okq (⟨"DrawnTalksModel", "come", "(II)I"⟩, 35) := ⟨⟨by decide +kernel, by decide +kernel⟩, List.mem_of_getElem? (i := 612) (by decide +kernel), List.mem_of_getElem? (i := 860) (by decide +kernel), List.mem_of_getElem? (i := 861) (by decide +kernel)⟩
theorem lw_p47 : lw_okq (⟨"DrawnTalksModel", "layMoment", "(II)V"⟩, 35) := ⟨⟨by decide +kernel, by decide +kernel⟩, List.mem_of_getElem? (i := 612) (by decide +kernel), List.mem_of_getElem? (i := 864) (by decide +kernel), List.mem_of_getElem? (i := 865) (by decide +kernel)⟩
def lw_privs_3 : List (MethodName × Nat) := [(⟨"DrawnTalksModel", "openSend", "(III)I"⟩, 35), (⟨"DrawnTalksModel", "addEvent", "(ZIIII)V"⟩, 35), (⟨"DrawnTalksModel", "keep", "(I)I"⟩, 35), (⟨"DrawnTalksModel", "noEvent", "(II)Z"⟩, 35), (⟨"DrawnTalksModel", "layDrawn", "(I)V"⟩, 35), (⟨"DrawnTalksModel", "clearAhead", "()V"⟩, 35), (⟨"DrawnTalksModel", "layMates", "(I)V"⟩, 35), (⟨"DrawnTalksModel", "onOneLine", "(III)Z"⟩, 35), (⟨"DrawnTalksModel", "closeAhead", "(I)V"⟩, 35), (⟨"DrawnTalksModel", "layKept", "(II)V"⟩, 35), (⟨"DrawnTalksModel", "isKeptTake", "(IIII)Z"⟩, 35), (⟨"DrawnTalksModel", "layMoments", "(I)V"⟩, 35), (⟨"DrawnTalksModel", "underAt", "(I)I"⟩, 35), (⟨"DrawnTalksModel", "isDone", "(II)Z"⟩, 35), (⟨"DrawnTalksModel", "come", "(II)I"⟩, 35), (⟨"DrawnTalksModel", "layMoment", "(II)V"⟩, 35)]
theorem lw_r3 : ∀ q ∈ lw_privs_3, lw_okq q := List.forall_mem_cons.mpr ⟨lw_p32, List.forall_mem_cons.mpr ⟨lw_p33, List.forall_mem_cons.mpr ⟨lw_p34, List.forall_mem_cons.mpr ⟨lw_p35, List.forall_mem_cons.mpr ⟨lw_p36, List.forall_mem_cons.mpr ⟨lw_p37, List.forall_mem_cons.mpr ⟨lw_p38, List.forall_mem_cons.mpr ⟨lw_p39, List.forall_mem_cons.mpr ⟨lw_p40, List.forall_mem_cons.mpr ⟨lw_p41, List.forall_mem_cons.mpr ⟨lw_p42, List.forall_mem_cons.mpr ⟨lw_p43, List.forall_mem_cons.mpr ⟨lw_p44, List.forall_mem_cons.mpr ⟨lw_p45, List.forall_mem_cons.mpr ⟨lw_p46, List.forall_mem_cons.mpr ⟨lw_p47, fun _ h => absurd h List.not_mem_nil⟩⟩⟩⟩⟩⟩⟩⟩⟩⟩⟩⟩⟩⟩⟩⟩
theorem lw_p48 : lw_okq (⟨"DrawnTalksModel", "areAlike", "(II)Z"⟩, 35) := ⟨⟨by decide +kernel, by decide +kernel⟩, List.mem_of_getElem? (i := 612) (by decide +kernel), List.mem_of_getElem? (i := 880) (by decide +kernel), List.mem_of_getElem? (i := 881) (by decide +kernel)⟩
theorem lw_p49 : lw_okq (⟨"DrawnTalksModel", "isSameLine", "(III)Z"⟩, 35) := ⟨⟨by decide +kernel, by decide +kernel⟩, List.mem_of_getElem? (i := 612) (by decide +kernel), List.mem_of_getElem? (i := 884) (by decide +kernel), List.mem_of_getElem? (i := 885) (by decide +kernel)⟩
theorem lw_p50 : lw_okq (⟨"DrawnTalksModel", "addTalk", "(I)V"⟩, 35) := ⟨⟨by decide +kernel, by decide +kernel⟩, List.mem_of_getElem? (i := 612) (by decide +kernel), List.mem_of_getElem? (i := 892) (by decide +kernel), List.mem_of_getElem? (i := 893) (by decide +kernel)⟩
theorem lw_p51 : lw_okq (⟨"DrawnTalksModel", "plays", "(I)Z"⟩, 35) := ⟨⟨by decide +kernel, by decide +kernel⟩, List.mem_of_getElem? (i := 612) (by decide +kernel), List.mem_of_getElem? (i := 900) (by decide +kernel), List.mem_of_getElem? (i := 901) (by decide +kernel)⟩
theorem lw_p52 : lw_okq (⟨"DrawnTalksModel", "canDo", "(II)Z"⟩, 35) := ⟨⟨by decide +kernel, by decide +kernel⟩, List.mem_of_getElem? (i := 612) (by decide +kernel), List.mem_of_getElem? (i := 904) (by decide +kernel), List.mem_of_getElem? (i := 905) (by decide +kernel)⟩
theorem lw_p53 : lw_okq (⟨"DrawnTalksModel", "doNext", "(II)V"⟩, 35) := ⟨⟨by decide +kernel, by decide +kernel⟩, List.mem_of_getElem? (i := 612) (by decide +kernel), List.mem_of_getElem? (i := 911) (by decide +kernel), List.mem_of_getElem? (i := 912) (by decide +kernel)⟩
theorem lw_p54 : lw_okq (⟨"DrawnTalksModel", "isFirst", "(II)Z"⟩, 35) := ⟨⟨by decide +kernel, by decide +kernel⟩, List.mem_of_getElem? (i := 612) (by decide +kernel), List.mem_of_getElem? (i := 920) (by decide +kernel), List.mem_of_getElem? (i := 921) (by decide +kernel)⟩
theorem lw_p55 : lw_okq (⟨"DrawnTalksModel", "isOfOne", "(II)Z"⟩, 35) := ⟨⟨by decide +kernel, by decide +kernel⟩, List.mem_of_getElem? (i := 612) (by decide +kernel), List.mem_of_getElem? (i := 927) (by decide +kernel), List.mem_of_getElem? (i := 928) (by decide +kernel)⟩
def lw_privs_4 : List (MethodName × Nat) := [(⟨"DrawnTalksModel", "areAlike", "(II)Z"⟩, 35), (⟨"DrawnTalksModel", "isSameLine", "(III)Z"⟩, 35), (⟨"DrawnTalksModel", "addTalk", "(I)V"⟩, 35), (⟨"DrawnTalksModel", "plays", "(I)Z"⟩, 35), (⟨"DrawnTalksModel", "canDo", "(II)Z"⟩, 35), (⟨"DrawnTalksModel", "doNext", "(II)V"⟩, 35), (⟨"DrawnTalksModel", "isFirst", "(II)Z"⟩, 35), (⟨"DrawnTalksModel", "isOfOne", "(II)Z"⟩, 35)]
theorem lw_r4 : ∀ q ∈ lw_privs_4, lw_okq q := List.forall_mem_cons.mpr ⟨lw_p48, List.forall_mem_cons.mpr ⟨lw_p49, List.forall_mem_cons.mpr ⟨lw_p50, List.forall_mem_cons.mpr ⟨lw_p51, List.forall_mem_cons.mpr ⟨lw_p52, List.forall_mem_cons.mpr ⟨lw_p53, List.forall_mem_cons.mpr ⟨lw_p54, List.forall_mem_cons.mpr ⟨lw_p55, fun _ h => absurd h List.not_mem_nil⟩⟩⟩⟩⟩⟩⟩⟩
def lw_privs : List (MethodName × Nat) := lw_privs_1 ++ (lw_privs_2 ++ (lw_privs_3 ++ (lw_privs_4)))
def lw_tbl : List Cond := k2_sels lw_privs ++ tables_1
theorem lw_privs_ok : ∀ q ∈ lw_privs, lw_okq q := by
  show ∀ q ∈ lw_privs_1 ++ (lw_privs_2 ++ (lw_privs_3 ++ (lw_privs_4))), lw_okq q
  exact List.forall_mem_append.mpr ⟨lw_r1, List.forall_mem_append.mpr ⟨lw_r2, List.forall_mem_append.mpr ⟨lw_r3, lw_r4⟩⟩⟩
-- ===== end of PART A; then your names; then what follows =====
/-! ===== BEGIN words of one list among another's, by their places ===== -/
theorem goodIn_r {big : List Cond} (ws : List Cond) (ps : List Nat) (hp : ws = ps.filterMap (fun i => big[i]?)) (h : ws.all goodWord = true) : GoodIn big ws := by
  intro w hw
  have h1 := List.all_eq_true.mp h w hw
  rw [hp] at hw
  obtain ⟨i, -, hi⟩ := List.mem_filterMap.mp hw
  have hm : w ∈ big := by first | exact List.mem_of_getElem? hi | exact List.getElem?_mem hi
  exact ⟨hm, good_of_word h1⟩
theorem goodIn_app {big a b : List Cond} (ha : GoodIn big a) (hb : GoodIn big b) : GoodIn big (a ++ b) := fun w h => (List.mem_append.mp h).elim (ha w) (hb w)
theorem goodIn_ca {big a b : List Cond} {c : Cond} (ha : GoodIn big (c :: a)) (hb : GoodIn big b) : GoodIn big (c :: (a ++ b)) := fun w h => (List.mem_cons.mp h).elim (fun e => ha w (List.mem_cons.mpr (Or.inl e))) (fun h => (List.mem_append.mp h).elim (fun h => ha w (List.mem_cons.mpr (Or.inr h))) (hb w))
theorem goodIn_sub {big ws : List Cond} (hm : ∀ w ∈ ws, w ∈ big) (h : ws.all goodWord = true) : GoodIn big ws := fun w hw => ⟨hm w hw, good_of_word (List.all_eq_true.mp h w hw)⟩
/-! ===== END ===== -/

/-! ===== BEGIN printed: names, fields, word lists, decode rows ===== -/
def RX0 : String := "DrawnTalks$Lattice"
def TX0 : u_T := fun k => match k with
  | 0 => ("DrawnTalks$Lattice", "rows", "[J", true)
  | 1 => ("DrawnTalks$Lattice", "underWay", "[I", true)
  | 2 => ("DrawnTalks$Lattice", "leastTo", "[I", true)
  | 3 => ("DrawnTalks$Lattice", "step", "[I", true)
  | 4 => ("DrawnTalks$Lattice", "passed", "[I", true)
  | 5 => ("DrawnTalks$Lattice", "place", "[I", true)
  | 6 => ("DrawnTalks$Lattice", "rowsInAll", "J", false)
  | 7 => ("DrawnTalks$Lattice", "reached", "I", false)
  | 8 => ("DrawnTalks$Lattice", "most", "I", false)
  | _ => ("DrawnTalks$Lattice", "least", "I", false)
def tyX0 : Nat → FieldType := fun k => match k with
  | 0 => .array .long
  | 1 => .array .int
  | 2 => .array .int
  | 3 => .array .int
  | 4 => .array .int
  | 5 => .array .int
  | 6 => .long
  | 7 => .int
  | 8 => .int
  | _ => .int
abbrev wsX00 : List Cond := u_ws RX0 TX0 10
theorem nmX0 : ∀ a, a < 10 → ∀ b, b < 10 → a ≠ b → (TX0 a).2.1 ≠ (TX0 b).2.1 := by decide +kernel
theorem tyX0_ok : ∀ k, k < 10 → parseFieldDescriptor (TX0 k).2.2.1 = some (tyX0 k) := by decide +kernel
abbrev cX0_init : ByteArray := prog_2_method_1_code
def yX0_init : MethodName := ⟨RX0, "<init>", "()V"⟩
abbrev cX0_walk : ByteArray := prog_2_method_2_code
def yX0_walk : MethodName := ⟨RX0, "walk", "(LDrawnTalks$Talk;)V"⟩
abbrev cX0_prepare : ByteArray := prog_2_method_3_code
def yX0_prepare : MethodName := ⟨RX0, "prepare", "(LDrawnTalks$Talk;)I"⟩
abbrev cX0_visit : ByteArray := prog_2_method_4_code
def yX0_visit : MethodName := ⟨RX0, "visit", "(LDrawnTalks$Talk;II)V"⟩
abbrev cX0_mayHappen : ByteArray := prog_2_method_5_code
def yX0_mayHappen : MethodName := ⟨RX0, "mayHappen", "(LDrawnTalks$Talk;I)Z"⟩
abbrev cX0_goToNextCut : ByteArray := prog_2_method_6_code
def yX0_goToNextCut : MethodName := ⟨RX0, "goToNextCut", "(LDrawnTalks$Talk;)V"⟩
def RX1 : String := "DrawnTalks$Mixer"
def TX1 : u_T := fun k => match k with
  | 0 => ("DrawnTalks$Mixer", "talks", "[LDrawnTalks$Talk;", true)
  | 1 => ("DrawnTalks$Mixer", "player", "LDrawnTalks$Player;", true)
  | 2 => ("DrawnTalks$Mixer", "first", "[I", true)
  | _ => ("DrawnTalks$Mixer", "set", "I", false)
def tyX1 : Nat → FieldType := fun k => match k with
  | 0 => .array (.object "DrawnTalks$Talk")
  | 1 => .object "DrawnTalks$Player"
  | 2 => .array .int
  | _ => .int
abbrev wsX10 : List Cond := u_ws RX1 TX1 4
theorem nmX1 : ∀ a, a < 4 → ∀ b, b < 4 → a ≠ b → (TX1 a).2.1 ≠ (TX1 b).2.1 := by decide +kernel
theorem tyX1_ok : ∀ k, k < 4 → parseFieldDescriptor (TX1 k).2.2.1 = some (tyX1 k) := by decide +kernel
abbrev cX1_init : ByteArray := prog_3_method_1_code
def yX1_init : MethodName := ⟨RX1, "<init>", "([LDrawnTalks$Talk;LDrawnTalks$Player;)V"⟩
abbrev cX1_howMany : ByteArray := prog_3_method_2_code
def yX1_howMany : MethodName := ⟨RX1, "howMany", "(II)I"⟩
abbrev cX1_newAt : ByteArray := prog_3_method_3_code
def yX1_newAt : MethodName := ⟨RX1, "newAt", "(II)I"⟩
abbrev cX1_choose : ByteArray := prog_3_method_4_code
def yX1_choose : MethodName := ⟨RX1, "choose", "(I)V"⟩
abbrev cX1_has : ByteArray := prog_3_method_5_code
def yX1_has : MethodName := ⟨RX1, "has", "(I)Z"⟩
abbrev cX1_firstLike : ByteArray := prog_3_method_6_code
def yX1_firstLike : MethodName := ⟨RX1, "firstLike", "(II)I"⟩
abbrev cX1_isFirst : ByteArray := prog_3_method_7_code
def yX1_isFirst : MethodName := ⟨RX1, "isFirst", "(I)Z"⟩
abbrev cX1_isSuch : ByteArray := prog_3_method_8_code
def yX1_isSuch : MethodName := ⟨RX1, "isSuch", "(II)Z"⟩
abbrev cX1_isOfOne : ByteArray := prog_3_method_9_code
def yX1_isOfOne : MethodName := ⟨RX1, "isOfOne", "(I)Z"⟩
abbrev cX1_isOf : ByteArray := prog_3_method_10_code
def yX1_isOf : MethodName := ⟨RX1, "isOf", "(II)Z"⟩
def RX2 : String := "DrawnTalks$Player"
def TX2 : u_T := fun k => match k with
  | 0 => ("DrawnTalks$Player", "talks", "[LDrawnTalks$Talk;", true)
  | 1 => ("DrawnTalks$Player", "passed", "[I", true)
  | 2 => ("DrawnTalks$Player", "next", "[I", true)
  | 3 => ("DrawnTalks$Player", "names", "[I", true)
  | 4 => ("DrawnTalks$Player", "sent", "[I", true)
  | 5 => ("DrawnTalks$Player", "taken", "[I", true)
  | 6 => ("DrawnTalks$Player", "doer", "[I", true)
  | 7 => ("DrawnTalks$Player", "mix", "I", false)
  | 8 => ("DrawnTalks$Player", "done", "I", false)
  | _ => ("DrawnTalks$Player", "left", "I", false)
def tyX2 : Nat → FieldType := fun k => match k with
  | 0 => .array (.object "DrawnTalks$Talk")
  | 1 => .array .int
  | 2 => .array .int
  | 3 => .array .int
  | 4 => .array .int
  | 5 => .array .int
  | 6 => .array .int
  | 7 => .int
  | 8 => .int
  | _ => .int
abbrev wsX20 : List Cond := u_ws RX2 TX2 10
theorem nmX2 : ∀ a, a < 10 → ∀ b, b < 10 → a ≠ b → (TX2 a).2.1 ≠ (TX2 b).2.1 := by decide +kernel
theorem tyX2_ok : ∀ k, k < 10 → parseFieldDescriptor (TX2 k).2.2.1 = some (tyX2 k) := by decide +kernel
abbrev cX2_init : ByteArray := prog_4_method_1_code
def yX2_init : MethodName := ⟨RX2, "<init>", "([LDrawnTalks$Talk;)V"⟩
abbrev cX2_perform : ByteArray := prog_4_method_2_code
def yX2_perform : MethodName := ⟨RX2, "perform", "(I)V"⟩
abbrev cX2_ends : ByteArray := prog_4_method_3_code
def yX2_ends : MethodName := ⟨RX2, "ends", "()Z"⟩
abbrev cX2_copyInto : ByteArray := prog_4_method_4_code
def yX2_copyInto : MethodName := ⟨RX2, "copyInto", "(LDrawnTalks$Talk;)V"⟩
abbrev cX2_talkOf : ByteArray := prog_4_method_5_code
def yX2_talkOf : MethodName := ⟨RX2, "talkOf", "(I)LDrawnTalks$Talk;"⟩
abbrev cX2_goToStart : ByteArray := prog_4_method_6_code
def yX2_goToStart : MethodName := ⟨RX2, "goToStart", "()V"⟩
abbrev cX2_goOn : ByteArray := prog_4_method_7_code
def yX2_goOn : MethodName := ⟨RX2, "goOn", "(I)V"⟩
abbrev cX2_firstThatCan : ByteArray := prog_4_method_8_code
def yX2_firstThatCan : MethodName := ⟨RX2, "firstThatCan", "()I"⟩
abbrev cX2_can : ByteArray := prog_4_method_9_code
def yX2_can : MethodName := ⟨RX2, "can", "(I)Z"⟩
abbrev cX2_act : ByteArray := prog_4_method_10_code
def yX2_act : MethodName := ⟨RX2, "act", "(I)V"⟩
abbrev cX2_post : ByteArray := prog_4_method_11_code
def yX2_post : MethodName := ⟨RX2, "post", "(II)V"⟩
def RX3 : String := "DrawnTalks$Reader"
def TX3 : u_T := fun k => match k with
  | 0 => ("DrawnTalks$Reader", "text", "[I", true)
  | 1 => ("DrawnTalks$Reader", "length", "I", false)
  | 2 => ("DrawnTalks$Reader", "at", "I", false)
  | 3 => ("DrawnTalks$Reader", "start", "I", false)
  | 4 => ("DrawnTalks$Reader", "kind", "I", false)
  | _ => ("DrawnTalks$Reader", "value", "I", false)
def tyX3 : Nat → FieldType := fun k => match k with
  | 0 => .array .int
  | 1 => .int
  | 2 => .int
  | 3 => .int
  | 4 => .int
  | _ => .int
abbrev wsX30 : List Cond := u_ws RX3 TX3 6
theorem nmX3 : ∀ a, a < 6 → ∀ b, b < 6 → a ≠ b → (TX3 a).2.1 ≠ (TX3 b).2.1 := by decide +kernel
theorem tyX3_ok : ∀ k, k < 6 → parseFieldDescriptor (TX3 k).2.2.1 = some (tyX3 k) := by decide +kernel
abbrev cX3_init : ByteArray := prog_5_method_1_code
def yX3_init : MethodName := ⟨RX3, "<init>", "()V"⟩
abbrev cX3_append : ByteArray := prog_5_method_2_code
def yX3_append : MethodName := ⟨RX3, "append", "(I)V"⟩
abbrev cX3_readInto : ByteArray := prog_5_method_3_code
def yX3_readInto : MethodName := ⟨RX3, "readInto", "(LDrawnTalks$Talk;)I"⟩
abbrev cX3_readEvent : ByteArray := prog_5_method_4_code
def yX3_readEvent : MethodName := ⟨RX3, "readEvent", "(LDrawnTalks$Talk;)Z"⟩
abbrev cX3_nextIs : ByteArray := prog_5_method_5_code
def yX3_nextIs : MethodName := ⟨RX3, "nextIs", "(I)Z"⟩
abbrev cX3_readSign : ByteArray := prog_5_method_6_code
def yX3_readSign : MethodName := ⟨RX3, "readSign", "(I)V"⟩
abbrev cX3_readWord : ByteArray := prog_5_method_7_code
def yX3_readWord : MethodName := ⟨RX3, "readWord", "()V"⟩
abbrev cX3_wordIs : ByteArray := prog_5_method_8_code
def yX3_wordIs : MethodName := ⟨RX3, "wordIs", "(Ljava/lang/String;)Z"⟩
abbrev cX3_isSmallLetter : ByteArray := prog_5_method_9_code
def yX3_isSmallLetter : MethodName := ⟨RX3, "isSmallLetter", "(I)Z"⟩
def RX4 : String := "DrawnTalks$Relation"
def TX4 : u_T := fun k => match k with
  | _ => ("DrawnTalks$Relation", "ahead", "[I", true)
def tyX4 : Nat → FieldType := fun k => match k with
  | _ => .array .int
abbrev wsX40 : List Cond := u_ws RX4 TX4 1
theorem nmX4 : ∀ a, a < 1 → ∀ b, b < 1 → a ≠ b → (TX4 a).2.1 ≠ (TX4 b).2.1 := by decide +kernel
theorem tyX4_ok : ∀ k, k < 1 → parseFieldDescriptor (TX4 k).2.2.1 = some (tyX4 k) := by decide +kernel
abbrev cX4_init : ByteArray := prog_6_method_1_code
def yX4_init : MethodName := ⟨RX4, "<init>", "()V"⟩
abbrev cX4_workOut : ByteArray := prog_6_method_2_code
def yX4_workOut : MethodName := ⟨RX4, "workOut", "(LDrawnTalks$Talk;I)V"⟩
abbrev cX4_isAhead : ByteArray := prog_6_method_3_code
def yX4_isAhead : MethodName := ⟨RX4, "isAhead", "(II)Z"⟩
abbrev cX4_isDirect : ByteArray := prog_6_method_4_code
def yX4_isDirect : MethodName := ⟨RX4, "isDirect", "(LDrawnTalks$Talk;III)Z"⟩
abbrev cX4_isRace : ByteArray := prog_6_method_5_code
def yX4_isRace : MethodName := ⟨RX4, "isRace", "(LDrawnTalks$Talk;II)Z"⟩
abbrev cX4_howManyRaces : ByteArray := prog_6_method_6_code
def yX4_howManyRaces : MethodName := ⟨RX4, "howManyRaces", "(LDrawnTalks$Talk;)I"⟩
abbrev cX4_raceAt : ByteArray := prog_6_method_7_code
def yX4_raceAt : MethodName := ⟨RX4, "raceAt", "(LDrawnTalks$Talk;I)I"⟩
def RX5 : String := "DrawnTalks$Talk"
def TX5 : u_T := fun k => match k with
  | 0 => ("DrawnTalks$Talk", "isTake", "[Z", true)
  | 1 => ("DrawnTalks$Talk", "part", "[I", true)
  | 2 => ("DrawnTalks$Talk", "other", "[I", true)
  | 3 => ("DrawnTalks$Talk", "name", "[I", true)
  | 4 => ("DrawnTalks$Talk", "mate", "[I", true)
  | 5 => ("DrawnTalks$Talk", "lineSize", "[I", true)
  | 6 => ("DrawnTalks$Talk", "lineEvents", "[I", true)
  | 7 => ("DrawnTalks$Talk", "size", "I", false)
  | _ => ("DrawnTalks$Talk", "sends", "I", false)
def tyX5 : Nat → FieldType := fun k => match k with
  | 0 => .array .boolean
  | 1 => .array .int
  | 2 => .array .int
  | 3 => .array .int
  | 4 => .array .int
  | 5 => .array .int
  | 6 => .array .int
  | 7 => .int
  | _ => .int
abbrev wsX50 : List Cond := u_ws RX5 TX5 9
theorem nmX5 : ∀ a, a < 9 → ∀ b, b < 9 → a ≠ b → (TX5 a).2.1 ≠ (TX5 b).2.1 := by decide +kernel
theorem tyX5_ok : ∀ k, k < 9 → parseFieldDescriptor (TX5 k).2.2.1 = some (tyX5 k) := by decide +kernel
abbrev cX5_init : ByteArray := prog_7_method_1_code
def yX5_init : MethodName := ⟨RX5, "<init>", "()V"⟩
abbrev cX5_empty : ByteArray := prog_7_method_2_code
def yX5_empty : MethodName := ⟨RX5, "empty", "()V"⟩
abbrev cX5_isWhole : ByteArray := prog_7_method_3_code
def yX5_isWhole : MethodName := ⟨RX5, "isWhole", "()Z"⟩
abbrev cX5_onLine : ByteArray := prog_7_method_4_code
def yX5_onLine : MethodName := ⟨RX5, "onLine", "(II)I"⟩
abbrev cX5_partsWithEvents : ByteArray := prog_7_method_5_code
def yX5_partsWithEvents : MethodName := ⟨RX5, "partsWithEvents", "()I"⟩
abbrev cX5_firstWaiting : ByteArray := prog_7_method_6_code
def yX5_firstWaiting : MethodName := ⟨RX5, "firstWaiting", "(III)I"⟩
abbrev cX5_addSend : ByteArray := prog_7_method_7_code
def yX5_addSend : MethodName := ⟨RX5, "addSend", "(III)V"⟩
abbrev cX5_addTake : ByteArray := prog_7_method_8_code
def yX5_addTake : MethodName := ⟨RX5, "addTake", "(III)V"⟩
abbrev cX5_add : ByteArray := prog_7_method_9_code
def yX5_add : MethodName := ⟨RX5, "add", "(III)Z"⟩
abbrev cX5_addCopy : ByteArray := prog_7_method_10_code
def yX5_addCopy : MethodName := ⟨RX5, "addCopy", "(LDrawnTalks$Talk;I)V"⟩
abbrev cX5_addAll : ByteArray := prog_7_method_11_code
def yX5_addAll : MethodName := ⟨RX5, "addAll", "(LDrawnTalks$Talk;)V"⟩
abbrev cX5_hasSameLine : ByteArray := prog_7_method_12_code
def yX5_hasSameLine : MethodName := ⟨RX5, "hasSameLine", "(LDrawnTalks$Talk;I)Z"⟩
def RX6 : String := "DrawnTalks"
def TX6 : u_T := fun k => match k with
  | 0 => ("DrawnTalks", "talks", "[LDrawnTalks$Talk;", true)
  | 1 => ("DrawnTalks", "built", "LDrawnTalks$Talk;", true)
  | 2 => ("DrawnTalks", "reader", "LDrawnTalks$Reader;", true)
  | 3 => ("DrawnTalks", "relation", "LDrawnTalks$Relation;", true)
  | 4 => ("DrawnTalks", "lattice", "LDrawnTalks$Lattice;", true)
  | 5 => ("DrawnTalks", "player", "LDrawnTalks$Player;", true)
  | _ => ("DrawnTalks", "mixer", "LDrawnTalks$Mixer;", true)
def tyX6 : Nat → FieldType := fun k => match k with
  | 0 => .array (.object "DrawnTalks$Talk")
  | 1 => .object "DrawnTalks$Talk"
  | 2 => .object "DrawnTalks$Reader"
  | 3 => .object "DrawnTalks$Relation"
  | 4 => .object "DrawnTalks$Lattice"
  | 5 => .object "DrawnTalks$Player"
  | _ => .object "DrawnTalks$Mixer"
abbrev wsX60 : List Cond := u_ws RX6 TX6 7
theorem nmX6 : ∀ a, a < 7 → ∀ b, b < 7 → a ≠ b → (TX6 a).2.1 ≠ (TX6 b).2.1 := by decide +kernel
theorem tyX6_ok : ∀ k, k < 7 → parseFieldDescriptor (TX6 k).2.2.1 = some (tyX6 k) := by decide +kernel
abbrev cX6_init : ByteArray := prog_1_method_1_code
def yX6_init : MethodName := ⟨RX6, "<init>", "()V"⟩
abbrev cX6_type : ByteArray := prog_1_method_2_code
def yX6_type : MethodName := ⟨RX6, "type", "(JI)I"⟩
abbrev cX6_clear : ByteArray := prog_1_method_3_code
def yX6_clear : MethodName := ⟨RX6, "clear", "()I"⟩
abbrev cX6_talk : ByteArray := prog_1_method_4_code
def yX6_talk : MethodName := ⟨RX6, "talk", "(I)I"⟩
abbrev cX6_about : ByteArray := prog_1_method_5_code
def yX6_about : MethodName := ⟨RX6, "about", "(II)I"⟩
abbrev cX6_event : ByteArray := prog_1_method_6_code
def yX6_event : MethodName := ⟨RX6, "event", "(III)I"⟩
abbrev cX6_line : ByteArray := prog_1_method_7_code
def yX6_line : MethodName := ⟨RX6, "line", "(III)I"⟩
abbrev cX6_drawn : ByteArray := prog_1_method_8_code
def yX6_drawn : MethodName := ⟨RX6, "drawn", "(III)I"⟩
abbrev cX6_kept : ByteArray := prog_1_method_9_code
def yX6_kept : MethodName := ⟨RX6, "kept", "(IIII)I"⟩
abbrev cX6_race : ByteArray := prog_1_method_10_code
def yX6_race : MethodName := ⟨RX6, "race", "(III)I"⟩
abbrev cX6_orders : ByteArray := prog_1_method_11_code
def yX6_orders : MethodName := ⟨RX6, "orders", "(I)J"⟩
abbrev cX6_moments : ByteArray := prog_1_method_12_code
def yX6_moments : MethodName := ⟨RX6, "moments", "(I)I"⟩
abbrev cX6_under : ByteArray := prog_1_method_13_code
def yX6_under : MethodName := ⟨RX6, "under", "(II)I"⟩
abbrev cX6_alike : ByteArray := prog_1_method_14_code
def yX6_alike : MethodName := ⟨RX6, "alike", "(II)I"⟩
abbrev cX6_behind : ByteArray := prog_1_method_15_code
def yX6_behind : MethodName := ⟨RX6, "behind", "(III)I"⟩
abbrev cX6_play : ByteArray := prog_1_method_16_code
def yX6_play : MethodName := ⟨RX6, "play", "(II)I"⟩
abbrev cX6_mixes : ByteArray := prog_1_method_17_code
def yX6_mixes : MethodName := ⟨RX6, "mixes", "(II)I"⟩
abbrev cX6_fresh : ByteArray := prog_1_method_18_code
def yX6_fresh : MethodName := ⟨RX6, "fresh", "(II)I"⟩
abbrev cX6_take : ByteArray := prog_1_method_19_code
def yX6_take : MethodName := ⟨RX6, "take", "(II)I"⟩
abbrev cX6_count : ByteArray := prog_1_method_20_code
def yX6_count : MethodName := ⟨RX6, "count", "(I)I"⟩
abbrev cX6_keepBuilt : ByteArray := prog_1_method_21_code
def yX6_keepBuilt : MethodName := ⟨RX6, "keepBuilt", "(I)I"⟩
abbrev cX6_isEvent : ByteArray := prog_1_method_22_code
def yX6_isEvent : MethodName := ⟨RX6, "isEvent", "(II)Z"⟩
abbrev cX6_isTalk : ByteArray := prog_1_method_23_code
def yX6_isTalk : MethodName := ⟨RX6, "isTalk", "(I)Z"⟩
abbrev cX6_isPart : ByteArray := prog_1_method_24_code
def yX6_isPart : MethodName := ⟨RX6, "isPart", "(I)Z"⟩
abbrev cX6_isWay : ByteArray := prog_1_method_25_code
def yX6_isWay : MethodName := ⟨RX6, "isWay", "(I)Z"⟩
abbrev cX6_isMix : ByteArray := prog_1_method_26_code
def yX6_isMix : MethodName := ⟨RX6, "isMix", "(I)Z"⟩
abbrev cX6_isSet : ByteArray := prog_1_method_27_code
def yX6_isSet : MethodName := ⟨RX6, "isSet", "(I)Z"⟩
abbrev cX6_asNumber : ByteArray := prog_1_method_28_code
def yX6_asNumber : MethodName := ⟨RX6, "asNumber", "(Z)I"⟩
abbrev cX6_choice : ByteArray := prog_1_method_29_code
def yX6_choice : MethodName := ⟨RX6, "choice", "(II)I"⟩
def RX7 : String := "DrawnTalksModel"
def TX7 : u_T := fun k => match k with
  | 0 => ("DrawnTalksModel", "events", "[I", true)
  | 1 => ("DrawnTalksModel", "isTake", "[Z", true)
  | 2 => ("DrawnTalksModel", "partOf", "[I", true)
  | 3 => ("DrawnTalksModel", "otherOf", "[I", true)
  | 4 => ("DrawnTalksModel", "nameOf", "[I", true)
  | 5 => ("DrawnTalksModel", "mateOf", "[I", true)
  | 6 => ("DrawnTalksModel", "lineSize", "[I", true)
  | 7 => ("DrawnTalksModel", "lineAt", "[I", true)
  | 8 => ("DrawnTalksModel", "bytes", "I", false)
  | 9 => ("DrawnTalksModel", "text", "[I", true)
  | 10 => ("DrawnTalksModel", "newMany", "I", false)
  | 11 => ("DrawnTalksModel", "newSends", "I", false)
  | 12 => ("DrawnTalksModel", "newOpen", "I", false)
  | 13 => ("DrawnTalksModel", "newTake", "[Z", true)
  | 14 => ("DrawnTalksModel", "newPart", "[I", true)
  | 15 => ("DrawnTalksModel", "newOther", "[I", true)
  | 16 => ("DrawnTalksModel", "newName", "[I", true)
  | 17 => ("DrawnTalksModel", "newMate", "[I", true)
  | 18 => ("DrawnTalksModel", "readAt", "I", false)
  | 19 => ("DrawnTalksModel", "tokenAt", "I", false)
  | 20 => ("DrawnTalksModel", "token", "I", false)
  | 21 => ("DrawnTalksModel", "ahead", "[Z", true)
  | 22 => ("DrawnTalksModel", "stride", "[I", true)
  | 23 => ("DrawnTalksModel", "ordersFrom", "[J", true)
  | 24 => ("DrawnTalksModel", "leastFrom", "[I", true)
  | 25 => ("DrawnTalksModel", "manyMoments", "I", false)
  | 26 => ("DrawnTalksModel", "mostUnder", "I", false)
  | 27 => ("DrawnTalksModel", "momentsOf", "I", false)
  | 28 => ("DrawnTalksModel", "sentName", "[I", true)
  | 29 => ("DrawnTalksModel", "sent", "[I", true)
  | 30 => ("DrawnTalksModel", "taken", "[I", true)
  | 31 => ("DrawnTalksModel", "reached", "[I", true)
  | 32 => ("DrawnTalksModel", "doneMany", "I", false)
  | 33 => ("DrawnTalksModel", "doneSends", "I", false)
  | _ => ("DrawnTalksModel", "doneAt", "[I", true)
def tyX7 : Nat → FieldType := fun k => match k with
  | 0 => .array .int
  | 1 => .array .boolean
  | 2 => .array .int
  | 3 => .array .int
  | 4 => .array .int
  | 5 => .array .int
  | 6 => .array .int
  | 7 => .array .int
  | 8 => .int
  | 9 => .array .int
  | 10 => .int
  | 11 => .int
  | 12 => .int
  | 13 => .array .boolean
  | 14 => .array .int
  | 15 => .array .int
  | 16 => .array .int
  | 17 => .array .int
  | 18 => .int
  | 19 => .int
  | 20 => .int
  | 21 => .array .boolean
  | 22 => .array .int
  | 23 => .array .long
  | 24 => .array .int
  | 25 => .int
  | 26 => .int
  | 27 => .int
  | 28 => .array .int
  | 29 => .array .int
  | 30 => .array .int
  | 31 => .array .int
  | 32 => .int
  | 33 => .int
  | _ => .array .int
abbrev wsX70 : List Cond := u_ws RX7 TX7 35
theorem nmX7 : ∀ a, a < 35 → ∀ b, b < 35 → a ≠ b → (TX7 a).2.1 ≠ (TX7 b).2.1 := by decide +kernel
theorem tyX7_ok : ∀ k, k < 35 → parseFieldDescriptor (TX7 k).2.2.1 = some (tyX7 k) := by decide +kernel
abbrev cX7_init : ByteArray := prog_9_method_1_code
def yX7_init : MethodName := ⟨RX7, "<init>", "()V"⟩
abbrev cX7_in : ByteArray := prog_9_method_2_code
def yX7_in : MethodName := ⟨RX7, "in", "(JJJ)Z"⟩
abbrev cX7_hasBit : ByteArray := prog_9_method_3_code
def yX7_hasBit : MethodName := ⟨RX7, "hasBit", "(II)Z"⟩
abbrev cX7_noTalk : ByteArray := prog_9_method_4_code
def yX7_noTalk : MethodName := ⟨RX7, "noTalk", "(I)Z"⟩
abbrev cX7_type : ByteArray := prog_9_method_5_code
def yX7_type : MethodName := ⟨RX7, "type", "(JI)I"⟩
abbrev cX7_clear : ByteArray := prog_9_method_6_code
def yX7_clear : MethodName := ⟨RX7, "clear", "()I"⟩
abbrev cX7_wordBy : ByteArray := prog_9_method_7_code
def yX7_wordBy : MethodName := ⟨RX7, "wordBy", "(J)I"⟩
abbrev cX7_readToken : ByteArray := prog_9_method_8_code
def yX7_readToken : MethodName := ⟨RX7, "readToken", "()V"⟩
abbrev cX7_openSend : ByteArray := prog_9_method_9_code
def yX7_openSend : MethodName := ⟨RX7, "openSend", "(III)I"⟩
abbrev cX7_addEvent : ByteArray := prog_9_method_10_code
def yX7_addEvent : MethodName := ⟨RX7, "addEvent", "(ZIIII)V"⟩
abbrev cX7_beginTalk : ByteArray := prog_9_method_11_code
def yX7_beginTalk : MethodName := ⟨RX7, "beginTalk", "()V"⟩
abbrev cX7_readsEvent : ByteArray := prog_9_method_12_code
def yX7_readsEvent : MethodName := ⟨RX7, "readsEvent", "(Z)Z"⟩
abbrev cX7_readTalk : ByteArray := prog_9_method_13_code
def yX7_readTalk : MethodName := ⟨RX7, "readTalk", "()I"⟩
abbrev cX7_keep : ByteArray := prog_9_method_14_code
def yX7_keep : MethodName := ⟨RX7, "keep", "(I)I"⟩
abbrev cX7_talk : ByteArray := prog_9_method_15_code
def yX7_talk : MethodName := ⟨RX7, "talk", "(I)I"⟩
abbrev cX7_about : ByteArray := prog_9_method_16_code
def yX7_about : MethodName := ⟨RX7, "about", "(II)I"⟩
abbrev cX7_noEvent : ByteArray := prog_9_method_17_code
def yX7_noEvent : MethodName := ⟨RX7, "noEvent", "(II)Z"⟩
abbrev cX7_event : ByteArray := prog_9_method_18_code
def yX7_event : MethodName := ⟨RX7, "event", "(III)I"⟩
abbrev cX7_line : ByteArray := prog_9_method_19_code
def yX7_line : MethodName := ⟨RX7, "line", "(III)I"⟩
abbrev cX7_clearAhead : ByteArray := prog_9_method_20_code
def yX7_clearAhead : MethodName := ⟨RX7, "clearAhead", "()V"⟩
abbrev cX7_closeAhead : ByteArray := prog_9_method_21_code
def yX7_closeAhead : MethodName := ⟨RX7, "closeAhead", "(I)V"⟩
abbrev cX7_layMates : ByteArray := prog_9_method_22_code
def yX7_layMates : MethodName := ⟨RX7, "layMates", "(I)V"⟩
abbrev cX7_onOneLine : ByteArray := prog_9_method_23_code
def yX7_onOneLine : MethodName := ⟨RX7, "onOneLine", "(III)Z"⟩
abbrev cX7_layDrawn : ByteArray := prog_9_method_24_code
def yX7_layDrawn : MethodName := ⟨RX7, "layDrawn", "(I)V"⟩
abbrev cX7_isKeptTake : ByteArray := prog_9_method_25_code
def yX7_isKeptTake : MethodName := ⟨RX7, "isKeptTake", "(IIII)Z"⟩
abbrev cX7_layKept : ByteArray := prog_9_method_26_code
def yX7_layKept : MethodName := ⟨RX7, "layKept", "(II)V"⟩
abbrev cX7_drawn : ByteArray := prog_9_method_27_code
def yX7_drawn : MethodName := ⟨RX7, "drawn", "(III)I"⟩
abbrev cX7_kept : ByteArray := prog_9_method_28_code
def yX7_kept : MethodName := ⟨RX7, "kept", "(IIII)I"⟩
abbrev cX7_race : ByteArray := prog_9_method_29_code
def yX7_race : MethodName := ⟨RX7, "race", "(III)I"⟩
abbrev cX7_come : ByteArray := prog_9_method_30_code
def yX7_come : MethodName := ⟨RX7, "come", "(II)I"⟩
abbrev cX7_underAt : ByteArray := prog_9_method_31_code
def yX7_underAt : MethodName := ⟨RX7, "underAt", "(I)I"⟩
abbrev cX7_isDone : ByteArray := prog_9_method_32_code
def yX7_isDone : MethodName := ⟨RX7, "isDone", "(II)Z"⟩
abbrev cX7_layMoments : ByteArray := prog_9_method_33_code
def yX7_layMoments : MethodName := ⟨RX7, "layMoments", "(I)V"⟩
abbrev cX7_layMoment : ByteArray := prog_9_method_34_code
def yX7_layMoment : MethodName := ⟨RX7, "layMoment", "(II)V"⟩
abbrev cX7_orders : ByteArray := prog_9_method_35_code
def yX7_orders : MethodName := ⟨RX7, "orders", "(I)J"⟩
abbrev cX7_moments : ByteArray := prog_9_method_36_code
def yX7_moments : MethodName := ⟨RX7, "moments", "(I)I"⟩
abbrev cX7_under : ByteArray := prog_9_method_37_code
def yX7_under : MethodName := ⟨RX7, "under", "(II)I"⟩
abbrev cX7_isSameLine : ByteArray := prog_9_method_38_code
def yX7_isSameLine : MethodName := ⟨RX7, "isSameLine", "(III)Z"⟩
abbrev cX7_areAlike : ByteArray := prog_9_method_39_code
def yX7_areAlike : MethodName := ⟨RX7, "areAlike", "(II)Z"⟩
abbrev cX7_alike : ByteArray := prog_9_method_40_code
def yX7_alike : MethodName := ⟨RX7, "alike", "(II)I"⟩
abbrev cX7_addTalk : ByteArray := prog_9_method_41_code
def yX7_addTalk : MethodName := ⟨RX7, "addTalk", "(I)V"⟩
abbrev cX7_behind : ByteArray := prog_9_method_42_code
def yX7_behind : MethodName := ⟨RX7, "behind", "(III)I"⟩
abbrev cX7_talkOf : ByteArray := prog_9_method_43_code
def yX7_talkOf : MethodName := ⟨RX7, "talkOf", "(II)I"⟩
abbrev cX7_canDo : ByteArray := prog_9_method_44_code
def yX7_canDo : MethodName := ⟨RX7, "canDo", "(II)Z"⟩
abbrev cX7_doNext : ByteArray := prog_9_method_45_code
def yX7_doNext : MethodName := ⟨RX7, "doNext", "(II)V"⟩
abbrev cX7_plays : ByteArray := prog_9_method_46_code
def yX7_plays : MethodName := ⟨RX7, "plays", "(I)Z"⟩
abbrev cX7_play : ByteArray := prog_9_method_47_code
def yX7_play : MethodName := ⟨RX7, "play", "(II)I"⟩
abbrev cX7_isFirst : ByteArray := prog_9_method_48_code
def yX7_isFirst : MethodName := ⟨RX7, "isFirst", "(II)Z"⟩
abbrev cX7_isOfOne : ByteArray := prog_9_method_49_code
def yX7_isOfOne : MethodName := ⟨RX7, "isOfOne", "(II)Z"⟩
abbrev cX7_mixes : ByteArray := prog_9_method_50_code
def yX7_mixes : MethodName := ⟨RX7, "mixes", "(II)I"⟩
abbrev cX7_fresh : ByteArray := prog_9_method_51_code
def yX7_fresh : MethodName := ⟨RX7, "fresh", "(II)I"⟩
abbrev cX7_take : ByteArray := prog_9_method_52_code
def yX7_take : MethodName := ⟨RX7, "take", "(II)I"⟩
abbrev cX7_count : ByteArray := prog_9_method_53_code
def yX7_count : MethodName := ⟨RX7, "count", "(I)I"⟩
def RJ9 : String := "java/lang/Math"
def TJ9 : u_T := fun k => match k with
  | _ => ("", "", "", false)
def tyJ9 : Nat → FieldType := fun k => match k with
  | _ => .int
abbrev wsJ90 : List Cond := u_ws RJ9 TJ9 0
theorem nmJ9 : ∀ a, a < 0 → ∀ b, b < 0 → a ≠ b → (TJ9 a).2.1 ≠ (TJ9 b).2.1 := by decide +kernel
theorem tyJ9_ok : ∀ k, k < 0 → parseFieldDescriptor (TJ9 k).2.2.1 = some (tyJ9 k) := by decide +kernel
abbrev cJ9_max_7cf53 : ByteArray := prog_10_method_65_code
def yJ9_max_7cf53 : MethodName := ⟨RJ9, "max", "(II)I"⟩
abbrev cJ9_min_7cf53 : ByteArray := prog_10_method_69_code
def yJ9_min_7cf53 : MethodName := ⟨RJ9, "min", "(II)I"⟩
def RJ0 : String := "java/lang/String"
def TJ0 : u_T := fun k => match k with
  | _ => ("", "", "", false)
def tyJ0 : Nat → FieldType := fun k => match k with
  | _ => .int
abbrev wsJ00 : List Cond := u_ws RJ0 TJ0 0
theorem nmJ0 : ∀ a, a < 0 → ∀ b, b < 0 → a ≠ b → (TJ0 a).2.1 ≠ (TJ0 b).2.1 := by decide +kernel
theorem tyJ0_ok : ∀ k, k < 0 → parseFieldDescriptor (TJ0 k).2.2.1 = some (tyJ0 k) := by decide +kernel
abbrev cJ0_length_8abf5 : ByteArray := prog_11_method_54_code
def yJ0_length_8abf5 : MethodName := ⟨RJ0, "length", "()I"⟩
abbrev cJ0_charAt_5068e : ByteArray := prog_11_method_56_code
def yJ0_charAt_5068e : MethodName := ⟨RJ0, "charAt", "(I)C"⟩
abbrev cJ0_coder_7d493 : ByteArray := prog_11_method_152_code
def yJ0_coder_7d493 : MethodName := ⟨RJ0, "coder", "()B"⟩
abbrev cJ0_isLatin1_aae02 : ByteArray := prog_11_method_154_code
def yJ0_isLatin1_aae02 : MethodName := ⟨RJ0, "isLatin1", "()Z"⟩
abbrev cJ0_checkIndex_df160 : ByteArray := prog_11_method_155_code
def yJ0_checkIndex_df160 : MethodName := ⟨RJ0, "checkIndex", "(II)V"⟩
def RJ1 : String := "java/lang/StringLatin1"
def TJ1 : u_T := fun k => match k with
  | _ => ("", "", "", false)
def tyJ1 : Nat → FieldType := fun k => match k with
  | _ => .int
abbrev wsJ10 : List Cond := u_ws RJ1 TJ1 0
theorem nmJ1 : ∀ a, a < 0 → ∀ b, b < 0 → a ≠ b → (TJ1 a).2.1 ≠ (TJ1 b).2.1 := by decide +kernel
theorem tyJ1_ok : ∀ k, k < 0 → parseFieldDescriptor (TJ1 k).2.2.1 = some (tyJ1 k) := by decide +kernel
abbrev cJ1_charAt_3b067 : ByteArray := prog_12_method_2_code
def yJ1_charAt_3b067 : MethodName := ⟨RJ1, "charAt", "([BI)C"⟩
def RJ2 : String := "java/lang/StringUTF16"
def TJ2 : u_T := fun k => match k with
  | _ => ("", "", "", false)
def tyJ2 : Nat → FieldType := fun k => match k with
  | _ => .int
abbrev wsJ20 : List Cond := u_ws RJ2 TJ2 0
theorem nmJ2 : ∀ a, a < 0 → ∀ b, b < 0 → a ≠ b → (TJ2 a).2.1 ≠ (TJ2 b).2.1 := by decide +kernel
theorem tyJ2_ok : ∀ k, k < 0 → parseFieldDescriptor (TJ2 k).2.2.1 = some (tyJ2 k) := by decide +kernel
abbrev cJ2_getChar_3b067 : ByteArray := prog_13_method_5_code
def yJ2_getChar_3b067 : MethodName := ⟨RJ2, "getChar", "([BI)C"⟩
abbrev cJ2_length_9d52b : ByteArray := prog_13_method_6_code
def yJ2_length_9d52b : MethodName := ⟨RJ2, "length", "([B)I"⟩
abbrev cJ2_charAt_3b067 : ByteArray := prog_13_method_83_code
def yJ2_charAt_3b067 : MethodName := ⟨RJ2, "charAt", "([BI)C"⟩
abbrev cJ2_checkIndex_2214a : ByteArray := prog_13_method_91_code
def yJ2_checkIndex_2214a : MethodName := ⟨RJ2, "checkIndex", "(I[B)V"⟩
def RJ3 : String := "jdk/internal/util/Preconditions"
def TJ3 : u_T := fun k => match k with
  | _ => ("", "", "", false)
def tyJ3 : Nat → FieldType := fun k => match k with
  | _ => .int
abbrev wsJ30 : List Cond := u_ws RJ3 TJ3 0
theorem nmJ3 : ∀ a, a < 0 → ∀ b, b < 0 → a ≠ b → (TJ3 a).2.1 ≠ (TJ3 b).2.1 := by decide +kernel
theorem tyJ3_ok : ∀ k, k < 0 → parseFieldDescriptor (TJ3 k).2.2.1 = some (tyJ3 k) := by decide +kernel
abbrev cJ3_checkIndex_8e157 : ByteArray := prog_14_method_11_code
def yJ3_checkIndex_8e157 : MethodName := ⟨RJ3, "checkIndex", "(IILjava/util/function/BiFunction;)I"⟩
def RL : String := "DrawnTalksLaw"
abbrev cL_law : ByteArray := code
def yL_law : MethodName := ⟨RL, "law", "([I)Z"⟩
abbrev vwCl : List vw_C := [(RX0, TX0, 10), (RX1, TX1, 4), (RX2, TX2, 10), (RX3, TX3, 6), (RX4, TX4, 1), (RX5, TX5, 9), (RX6, TX6, 7), (RX7, TX7, 35)]
/-! words of the tables, a row each: wq_<list>_<place> -/
theorem wq_l1 {w : Cond} : w ∈ tables_1_1 → w ∈ lw_tbl := fun h => List.mem_append_right _ (List.mem_append_left _ h)
theorem wq_l2 {w : Cond} : w ∈ tables_1_2 → w ∈ lw_tbl := fun h => List.mem_append_right _ (List.mem_append_right _ (List.mem_append_left _ h))
theorem wq_l3 {w : Cond} : w ∈ tables_1_3 → w ∈ lw_tbl := fun h => List.mem_append_right _ (List.mem_append_right _ (List.mem_append_right _ (List.mem_append_left _ h)))
theorem wq_l4 {w : Cond} : w ∈ tables_1_4 → w ∈ lw_tbl := fun h => List.mem_append_right _ (List.mem_append_right _ (List.mem_append_right _ (List.mem_append_right _ h)))
end
section
/-! ===== THE ABSTRACT MACHINE: values and memory in whole numbers, cells by their places ===== -/
/-- a value: an int, a long, or a reference (kind of cell, size, place) -/
abbrev dt_V : Type := Int ⊕ (Int ⊕ (Nat × Nat × Nat))
/-- the memory: ints and longs, by place and slot -/
abbrev dt_M : Type := (Nat → Nat → Int) × (Nat → Nat → Int)
/-- a method: its name, code, locals, answer -/
abbrev dt_Y : Type := MethodName × ByteArray × Nat × Option FieldType
abbrev dt_L : Type := List (Option dt_V)
abbrev dt_K : Type := Nat → dt_L → List dt_V → dt_M → Prop
abbrev dt_T : Type := Nat → (Option dt_V → dt_M → Prop) → dt_K → dt_K
def dt_r (x : Int) : Prop := -2147483648 ≤ x ∧ x ≤ 2147483647
def dt_rL (x : Int) : Prop := -9223372036854775808 ≤ x ∧ x ≤ 9223372036854775807
/-- kinds: 0 int[], 1 boolean[], 2 long[], 3 Talk[], 4 + class number: an object; 50: a text constant -/
def dt_lay : List (Nat × Nat) := [(10, 7), (3, 4),
  (9, 9), (1, 20), (0, 20), (0, 20), (0, 20), (0, 20), (0, 4), (0, 40),
  (9, 9), (1, 20), (0, 20), (0, 20), (0, 20), (0, 20), (0, 4), (0, 40),
  (9, 9), (1, 20), (0, 20), (0, 20), (0, 20), (0, 20), (0, 4), (0, 40),
  (9, 9), (1, 20), (0, 20), (0, 20), (0, 20), (0, 20), (0, 4), (0, 40),
  (9, 9), (1, 20), (0, 20), (0, 20), (0, 20), (0, 20), (0, 4), (0, 40),
  (7, 6), (0, 300), (8, 1), (0, 20),
  (4, 10), (2, 1296), (0, 1296), (0, 1296), (0, 4), (0, 4), (0, 20),
  (6, 10), (0, 4), (0, 4), (0, 160), (0, 16), (0, 16), (0, 40),
  (5, 4), (0, 16),
  (11, 35), (0, 4), (1, 80), (0, 80), (0, 80), (0, 80), (0, 80), (0, 16), (0, 320), (0, 300), (1, 20), (0, 20), (0, 20), (0, 20), (0, 20), (1, 400), (0, 5), (2, 1296), (0, 1296), (0, 320), (0, 16), (0, 16), (0, 4), (0, 80),
  (50, 4), (50, 4)]
def dt_kd (k : Nat) : Nat × Nat := dt_lay.getD k (99, 0)
/-- the fields of each class: 0 an int, 1 a long, 2 a reference to a place, 3 a reference to a place behind its own -/
def dt_ft : List (List (Nat × Nat × Nat × Nat)) := [
  [(2, 2, 1296, 47), (2, 0, 1296, 48), (2, 0, 1296, 49), (2, 0, 4, 50), (2, 0, 4, 51), (2, 0, 20, 52), (1, 0, 0, 0), (0, 0, 0, 0), (0, 0, 0, 0), (0, 0, 0, 0)],
  [(2, 3, 4, 1), (2, 6, 10, 53), (2, 0, 16, 61), (0, 0, 0, 0)],
  [(2, 3, 4, 1), (2, 0, 4, 54), (2, 0, 4, 55), (2, 0, 160, 56), (2, 0, 16, 57), (2, 0, 16, 58), (2, 0, 40, 59), (0, 0, 0, 0), (0, 0, 0, 0), (0, 0, 0, 0)],
  [(2, 0, 300, 43), (0, 0, 0, 0), (0, 0, 0, 0), (0, 0, 0, 0), (0, 0, 0, 0), (0, 0, 0, 0)],
  [(2, 0, 20, 45)],
  [(3, 1, 20, 1), (3, 0, 20, 2), (3, 0, 20, 3), (3, 0, 20, 4), (3, 0, 20, 5), (3, 0, 4, 6), (3, 0, 40, 7), (0, 0, 0, 0), (0, 0, 0, 0)],
  [(2, 3, 4, 1), (2, 9, 9, 34), (2, 7, 6, 42), (2, 8, 1, 44), (2, 4, 10, 46), (2, 6, 10, 53), (2, 5, 4, 60)],
  [(2, 0, 4, 63), (2, 1, 80, 64), (2, 0, 80, 65), (2, 0, 80, 66), (2, 0, 80, 67), (2, 0, 80, 68), (2, 0, 16, 69), (2, 0, 320, 70), (0, 0, 0, 0), (2, 0, 300, 71), (0, 0, 0, 0), (0, 0, 0, 0), (0, 0, 0, 0), (2, 1, 20, 72), (2, 0, 20, 73), (2, 0, 20, 74), (2, 0, 20, 75), (2, 0, 20, 76), (0, 0, 0, 0), (0, 0, 0, 0), (0, 0, 0, 0), (2, 1, 400, 77), (2, 0, 5, 78), (2, 2, 1296, 79), (2, 0, 1296, 80), (0, 0, 0, 0), (0, 0, 0, 0), (0, 0, 0, 0), (2, 0, 320, 81), (2, 0, 16, 82), (2, 0, 16, 83), (2, 0, 4, 84), (0, 0, 0, 0), (0, 0, 0, 0), (2, 0, 80, 85)]]
def dt_fd (ci j : Nat) : Nat × Nat × Nat × Nat := (dt_ft.getD ci []).getD j (0, 0, 0, 0)
def dt_gf (ci j k : Nat) (M : dt_M) : dt_V := match dt_fd ci j with
  | (0, _, _, _) => .inl (M.1 k j)
  | (1, _, _, _) => .inr (.inl (M.2 k j))
  | (2, t, n, q) => .inr (.inr (t, n, q))
  | (_, t, n, q) => .inr (.inr (t, n, k + q))
def dt_okv (v : dt_V) : Prop := match v with
  | .inl x => dt_r x
  | .inr (.inl x) => dt_rL x
  | .inr (.inr q) => dt_kd q.2.2 = (q.1, q.2.1)
def dt_cv (ad : Nat → Nat) (v : dt_V) : Value := match v with
  | .inl x => .int (Int32.ofInt x)
  | .inr (.inl x) => .long (Int64.ofInt x)
  | .inr (.inr q) => .ref (ad q.2.2)
def dt_up {α : Type} (f : Nat → α) (k : Nat) (v : α) : Nat → α := fun a => if a = k then v else f a
def dt_wi (M : dt_M) (k j : Nat) (x : Int) : dt_M := (dt_up M.1 k (dt_up (M.1 k) j x), M.2)
def dt_wl (M : dt_M) (k j : Nat) (x : Int) : dt_M := (M.1, dt_up M.2 k (dt_up (M.2 k) j x))
def dt_RM (M : dt_M) : Prop := (∀ k j, dt_r (M.1 k j)) ∧ ∀ k j, dt_rL (M.2 k j)
def dt_ok (lv : dt_L) (st : List dt_V) (M : dt_M) : Prop := (∀ v, some v ∈ lv → dt_okv v) ∧ (∀ v ∈ st, dt_okv v) ∧ dt_RM M
/-- the world of cells -/
def dt_wc (M : dt_M) (ad : Nat → Nat) (cA : Nat → ClassId) (k : Nat) : va_E :=
  if (dt_kd k).1 = 0 then .inl (cA 0, (dt_kd k).2, .inl (fun j => Int32.ofInt (M.1 k j)))
  else if (dt_kd k).1 = 1 then .inl (cA 1, (dt_kd k).2, .inl (fun j => Int32.ofInt (M.1 k j)))
  else if (dt_kd k).1 = 2 then .inl (cA 2, (dt_kd k).2, .inr (.inl (fun j => Int64.ofInt (M.2 k j))))
  else if (dt_kd k).1 = 3 then .inl (cA 3, (dt_kd k).2, .inr (.inr (.inr (.inr (fun j => some (ad (2 + 8 * j)))))))
  else .inr ((dt_kd k).1 - 4, (List.range (dt_kd k).2).map (fun j => dt_cv ad (dt_gf ((dt_kd k).1 - 4) j k M)))
def dt_wd (M : dt_M) (ad : Nat → Nat) (cA : Nat → ClassId) : va_W := (List.range 86).map (fun k => (ad k, dt_wc M ad cA k))
def dt_tys (cA : Nat → ClassId) : List (ClassId × FieldType) := [(cA 0, .int), (cA 1, .boolean), (cA 2, .long), (cA 3, .object "DrawnTalks$Talk")]
def dt_W (D : va_G) (ad : Nat → Nat) (cA : Nat → ClassId) (A : Nat → Prop) (s : State) (H : Heap) (locs : List Loc) (M : dt_M) : Prop :=
  va_P D vwCl (dt_wd M ad cA) H ∧ va_D A (dt_wd M ad cA) ∧ va_S A s.heap H locs
def dt_A (ad : Nat → Nat) : Nat → Prop := fun q => ∃ k, k < 86 ∧ q = ad k
/-- the locals -/
def dt_H (ad : Nat → Nat) (ls : Array Slot) (nL : Nat) (lv : dt_L) : Prop := ls.size = nL ∧ lv_wf ls ∧ ∀ (i : Nat) (v : dt_V), lv[i]? = some (some v) → ls[i]? = some (Slot.val (dt_cv ad v))
/-- the words that every method has -/
def dt_W0 : List Cond := lw_tbl.filter goodWord
def dt_nst : Cond → Bool
  | .fieldLinkNest _ _ _ _ _ _ => true
  | .methodLinkNest _ _ _ _ => true
  | _ => false
def dt_NW : List Cond := lw_tbl.filter dt_nst
theorem dt_in {w : Cond} (h : w ∈ lw_tbl) (g : goodWord w = true) : w ∈ dt_W0 := List.mem_filter.mpr ⟨h, g⟩
theorem dt_inN {w : Cond} (h : w ∈ lw_tbl) (g : dt_nst w = true) : w ∈ dt_NW := List.mem_filter.mpr ⟨h, g⟩
/-- the text constants, and the statics that the texts' methods read -/
def dt_SF (ad : Nat → Nat) (A : Nat → Prop) (U : State) (H : Heap) : Prop :=
  (∃ adV : Nat → Nat, vk_S 2 [4, 4] [[115, 101, 110, 100], [116, 97, 107, 101]] (fun i => ad (86 + i)) adV A U H) ∧
  va_Z "java/lang/String" "COMPACT_STRINGS" "Z" (.int 1) A U H ∧
  va_Zq "jdk/internal/util/Preconditions" "SIOOBE_FORMATTER" "Ljava/util/function/BiFunction;" A U H ∧
  vk_R "DrawnTalks$Reader" 72 "send" (ad 86) U ∧ vk_R "DrawnTalks$Reader" 78 "take" (ad 87) U
/-- what an answer must be -/
def dt_okr (rt : Option FieldType) (r : Option dt_V) : Prop := match rt, r with
  | none, none => True
  | some .int, some (.inl x) => dt_r x
  | some .boolean, some (.inl x) => x = 0 ∨ x = 1
  | some .long, some (.inr (.inl x)) => dt_rL x
  | some (.object _), some (.inr (.inr q)) => dt_kd q.2.2 = (q.1, q.2.1)
  | _, _ => False
def dt_ri (r : Option dt_V) (cc : ByteArray) (pc : Nat) : Prop := match r with
  | none => decode cc pc = .ok (.return_, 1)
  | some (.inl _) => decode cc pc = .ok (.ireturn, 1)
  | some (.inr (.inl _)) => decode cc pc = .ok (.lreturn, 1)
  | some (.inr (.inr _)) => decode cc pc = .ok (.areturn, 1)
/-- where a method's walk stands -/
def dt_C (y : dt_Y) (d : Nat) (Q : Option dt_V → dt_M → Prop) (p : Program) (l : Launch) (e : Env) (R : Room) (s : State) (m : MethodId) (args : Array Value) (below : List Frame) (meth : Method) (c : Code) (cells slots : Nat) (Qf : State → Prop) (D : va_G) (ad : Nat → Nat) (cA : Nat → ClassId) (A : Nat → Prop) : Prop :=
  p.tables.exec = Jvm.exec ∧ c.code = y.2.1 ∧ c.maxLocals = y.2.2.1 ∧ s.vm.findClass y.1.cls = some m.cls ∧ (∀ w ∈ dt_W0, w.before args s = true) ∧ va_K D vwCl (dt_tys cA) s ∧ (∀ w ∈ dt_NW, va_Nw w s) ∧
  (d ≤ R.frames ∧ 39 * d ≤ R.locals ∧ cells ≤ R.cells ∧ slots ≤ R.slots) ∧ dt_SF ad A s s.heap ∧
  ∀ (H : Heap) (locs : List Loc) (M : dt_M) (r : Option dt_V) (pc : Nat) (ls : Array Slot), dt_W D ad cA A s H locs M → dt_RM M → dt_okr y.2.2.2 r → Q r M → dt_ri r y.2.1 pc →
    W p l e R s m args below meth c H locs cells slots Qf (F0 m pc ls (r.toList.map (dt_cv ad)))
/-- THE JUDGEMENT: from here the method comes to its end with Q -/
def dt_J (y : dt_Y) (d : Nat) (Q : Option dt_V → dt_M → Prop) : dt_K := fun pc lv st M =>
  dt_ok lv st M → ∀ (p : Program) (l : Launch) (e : Env) (R : Room) (s : State) (m : MethodId) (args : Array Value) (below : List Frame) (meth : Method) (c : Code) (cells slots : Nat) (Qf : State → Prop) (D : va_G) (ad : Nat → Nat) (cA : Nat → ClassId) (A : Nat → Prop),
    dt_C y d Q p l e R s m args below meth c cells slots Qf D ad cA A → ∀ (H : Heap) (locs : List Loc) (ls : Array Slot), dt_W D ad cA A s H locs M → dt_H ad ls y.2.2.1 lv →
      W p l e R s m args below meth c H locs cells slots Qf (F0 m pc ls (st.map (dt_cv ad)))
/-- a step's meaning is right -/
def dt_S (y : dt_Y) (tr : dt_T) (pc : Nat) : Prop := ∀ (d : Nat) (Q : Option dt_V → dt_M → Prop) (K : dt_K), (∀ pc lv st M, K pc lv st M → dt_J y d Q pc lv st M) → ∀ (lv : dt_L) (st : List dt_V) (M : dt_M), tr d Q K pc lv st M → dt_J y d Q pc lv st M
/-- a call of a method: from this memory, with these arguments, it comes back with Φ -/
def dt_room (d : Nat) : Room := { frames := d, cells := 0, slots := 0, locals := 39 * d }
def dt_Pc (D : va_G) (ad : Nat → Nat) (cA : Nat → ClassId) (av : List dt_V) (M : dt_M) : Array Value → State → Prop := fun v U =>
  v = (av.map (dt_cv ad)).toArray ∧ (∀ x ∈ av, dt_okv x) ∧ dt_RM M ∧ va_P D vwCl (dt_wd M ad cA) U.heap ∧ va_D (dt_A ad) (dt_wd M ad cA) ∧ va_K D vwCl (dt_tys cA) U ∧ (∀ w ∈ dt_NW, va_Nw w U) ∧ dt_SF ad (dt_A ad) U U.heap
def dt_Qc (D : va_G) (ad : Nat → Nat) (cA : Nat → ClassId) (rt : Option FieldType) (Φ : Option dt_V → dt_M → Prop) : Array Value → State → Outcome → State → Prop := fun _ st oc t =>
  (∃ (r : Option dt_V) (M : dt_M), oc = .returned (r.map (dt_cv ad)) ∧ Φ r M ∧ dt_okr rt r ∧ dt_RM M ∧ va_P D vwCl (dt_wd M ad cA) t.heap) ∧ va_F (dt_A ad) st t
def dt_Sp (y : dt_Y) (d : Nat) (av : List dt_V) (M : dt_M) (Φ : Option dt_V → dt_M → Prop) : Prop :=
  ∀ (l : Launch) (D : va_G) (ad : Nat → Nat) (cA : Nat → ClassId), Met l y.1 (Cond.code y.1 y.2.1 y.2.2.1 y.2.2.2 :: dt_W0) (dt_room d) (dt_Pc D ad cA av M) (dt_Qc D ad cA y.2.2.2 Φ) 0 0 (dt_A ad)
end
section
/-! ===== numbers ===== -/
theorem dn_ti {x : Int} (h : dt_r x) : (Int32.ofInt x).toInt = x := Int32.toInt_ofInt_of_le (by have := h.1; omega) (by have := h.2; omega)
theorem dn_tl {x : Int} (h : dt_rL x) : (Int64.ofInt x).toInt = x := Int64.toInt_ofInt_of_le (by have := h.1; omega) (by have := h.2; omega)
theorem dn_ri (x : Int32) : dt_r x.toInt := ⟨by have := Int32.le_toInt x; omega, by have := Int32.toInt_lt x; omega⟩
theorem dn_rl (x : Int64) : dt_rL x.toInt := ⟨by have := Int64.le_toInt x; omega, by have := Int64.toInt_lt x; omega⟩
theorem dn_lt {x y : Int} (hx : dt_r x) (hy : dt_r y) : Int32.ofInt x < Int32.ofInt y ↔ x < y := by rw [Int32.lt_iff_toInt_lt, dn_ti hx, dn_ti hy]
theorem dn_le {x y : Int} (hx : dt_r x) (hy : dt_r y) : Int32.ofInt x ≤ Int32.ofInt y ↔ x ≤ y := by rw [Int32.le_iff_toInt_le, dn_ti hx, dn_ti hy]
theorem dn_eq {x y : Int} (hx : dt_r x) (hy : dt_r y) : Int32.ofInt x = Int32.ofInt y ↔ x = y := by rw [← Int32.toInt_inj, dn_ti hx, dn_ti hy]
theorem dn_0 : (0 : Int32) = Int32.ofInt 0 := rfl
theorem dn_r0 : dt_r 0 := ⟨by decide, by decide⟩
theorem dn_eq0 {x : Int} (hx : dt_r x) : Int32.ofInt x = 0 ↔ x = 0 := by rw [dn_0]; exact dn_eq hx dn_r0
theorem dn_lt0 {x : Int} (hx : dt_r x) : Int32.ofInt x < 0 ↔ x < 0 := by rw [dn_0]; exact dn_lt hx dn_r0
theorem dn_le0 {x : Int} (hx : dt_r x) : Int32.ofInt x ≤ 0 ↔ x ≤ 0 := by rw [dn_0]; exact dn_le hx dn_r0
theorem dn_0lt {x : Int} (hx : dt_r x) : 0 < Int32.ofInt x ↔ 0 < x := by rw [dn_0]; exact dn_lt dn_r0 hx
theorem dn_0le {x : Int} (hx : dt_r x) : 0 ≤ Int32.ofInt x ↔ 0 ≤ x := by rw [dn_0]; exact dn_le dn_r0 hx
theorem dn_cl {x : Int} (hx : dt_r x) : (Int32.ofInt x).toNatClampNeg = x.toNat := by
  show (Int32.ofInt x).toInt.toNat = x.toNat
  rw [dn_ti hx]
theorem dn_in {x : Int} {n : Nat} (hx : dt_r x) (h0 : 0 ≤ x) (hn : x < (n : Int)) : vp_in (Int32.ofInt x) n := by
  unfold vp_in
  rw [dn_lt0 hx, dn_cl hx]
  omega
theorem dn_i2l {x : Int} (hx : dt_r x) : (Int32.ofInt x).toInt64 = Int64.ofInt x := by
  apply Int64.toInt_inj.mp
  rw [Int32.toInt_toInt64, dn_ti hx, dn_tl ⟨by have := hx.1; omega, by have := hx.2; omega⟩]
def dt_cmp (x y : Int) : Int := if y < x then 1 else if x = y then 0 else -1
theorem dn_cmp {x y : Int} (hx : dt_rL x) (hy : dt_rL y) : lg_cmp (Int64.ofInt x) (Int64.ofInt y) = Int32.ofInt (dt_cmp x y) := by
  unfold lg_cmp dt_cmp
  simp only [gt_iff_lt, Int64.lt_iff_toInt_lt, ← Int64.toInt_inj, dn_tl hx, dn_tl hy]
  split
  · rfl
  · split <;> rfl
theorem dn_rcmp (x y : Int) : dt_r (dt_cmp x y) := by unfold dt_cmp; split; exact ⟨by decide, by decide⟩; split <;> exact ⟨by decide, by decide⟩
def dt_and (x y : Int) : Int := (Int32.ofInt x &&& Int32.ofInt y).toInt
def dt_or (x y : Int) : Int := (Int32.ofInt x ||| Int32.ofInt y).toInt
def dt_shl (x y : Int) : Int := (Int32.ofInt x <<< (Int32.ofInt y &&& 31)).toInt
def dt_shr (x y : Int) : Int := (Int32.ofInt x >>> (Int32.ofInt y &&& 31)).toInt
def dt_div (x y : Int) : Int := (Int32.ofInt x / Int32.ofInt y).toInt
def dt_rem (x y : Int) : Int := (Int32.ofInt x - Int32.ofInt x / Int32.ofInt y * Int32.ofInt y).toInt
def dt_l2i (x : Int) : Int := (Int64.ofInt x).toInt32.toInt
def dt_andL (x y : Int) : Int := (Int64.ofInt x &&& Int64.ofInt y).toInt
def dt_orL (x y : Int) : Int := (Int64.ofInt x ||| Int64.ofInt y).toInt
def dt_shlL (x y : Int) : Int := (Int64.ofInt x <<< ((Int32.ofInt y).toInt64 &&& 63)).toInt
def dt_shrL (x y : Int) : Int := (Int64.ofInt x >>> ((Int32.ofInt y).toInt64 &&& 63)).toInt
def dt_ushrL (x y : Int) : Int := ((Int64.ofInt x).toUInt64 >>> ((Int32.ofInt y).toInt64.toUInt64 &&& Int64.toUInt64 63)).toInt64.toInt
/-! ===== the world ===== -/
theorem dw_at {M : dt_M} {ad : Nat → Nat} {cA : Nat → ClassId} {k : Nat} (hk : k < 86) : (dt_wd M ad cA)[k]? = some (ad k, dt_wc M ad cA k) := by
  simp [dt_wd, hk]
theorem dw_gfc {M M' : dt_M} {k : Nat} (ci j : Nat) (h1 : M'.1 k = M.1 k) (h2 : M'.2 k = M.2 k) : dt_gf ci j k M' = dt_gf ci j k M := by
  unfold dt_gf
  rw [h1, h2]
theorem dw_cong {M M' : dt_M} {ad : Nat → Nat} {cA : Nat → ClassId} {k : Nat} (h1 : M'.1 k = M.1 k) (h2 : M'.2 k = M.2 k) : dt_wc M' ad cA k = dt_wc M ad cA k := by
  unfold dt_wc
  rw [h1, h2]
  simp only [dw_gfc _ _ h1 h2]
theorem dw_set {M M' : dt_M} {ad : Nat → Nat} {cA : Nat → ClassId} {k : Nat} {e : va_E} (hk : k < 86) (he : dt_wc M' ad cA k = e) (h : ∀ j, j ≠ k → M'.1 j = M.1 j ∧ M'.2 j = M.2 j) : (dt_wd M ad cA).set k (ad k, e) = dt_wd M' ad cA := by
  subst he
  apply List.ext_getElem?
  intro j
  by_cases hj : j < 86
  · rw [dw_at hj]
    by_cases hjk : j = k
    · subst hjk
      rw [List.getElem?_set_self (by simp [dt_wd, hj])]
    · rw [List.getElem?_set_ne (Ne.symm hjk), dw_at hj, dw_cong (h j hjk).1 (h j hjk).2]
  · rw [List.getElem?_eq_none (by simp [dt_wd]; omega), List.getElem?_eq_none (by simp [dt_wd]; omega)]
theorem dk_88 : ∀ k, k < 88 → 86 ≤ k → ¬ (dt_kd k).1 < 50 := by decide +kernel
theorem dk_lt {k t n : Nat} (h : dt_kd k = (t, n)) (ht : t < 50) : k < 86 := by
  rcases Nat.lt_or_ge k 86 with q | q
  · exact q
  · exfalso
    rcases Nat.lt_or_ge k 88 with q2 | q2
    · exact dk_88 k q2 q (by rw [h]; exact ht)
    · have h2 : dt_kd k = (99, 0) := by
        unfold dt_kd
        rw [List.getD_eq_getElem?_getD, List.getElem?_eq_none (show dt_lay.length ≤ k from q2)]
        rfl
      rw [h2] at h
      cases h
      omega
theorem dk_35 : ∀ k, k < 86 → 4 ≤ (dt_kd k).1 → (dt_kd k).2 ≤ 35 := by decide +kernel
def dt_cf1 (k : Nat) (q : Nat × Nat × Nat × Nat) : Bool := (!(q.1 == 2) || (dt_kd q.2.2.2 == (q.2.1, q.2.2.1))) && (!(Nat.ble 3 q.1) || (dt_kd (k + q.2.2.2) == (q.2.1, q.2.2.1)))
def dt_cf2 (k : Nat) : Bool := !(Nat.ble 4 (dt_kd k).1) || (List.range (dt_kd k).2).all (fun j => dt_cf1 k (dt_fd ((dt_kd k).1 - 4) j))
theorem dk_cf : (List.range 86).all dt_cf2 = true := by decide +kernel
theorem dk_fd0 (k : Nat) (hk : k < 86) (j : Nat) (_ : j < 35) (h : 4 ≤ (dt_kd k).1 ∧ j < (dt_kd k).2) : ((dt_fd ((dt_kd k).1 - 4) j).1 = 2 → dt_kd (dt_fd ((dt_kd k).1 - 4) j).2.2.2 = ((dt_fd ((dt_kd k).1 - 4) j).2.1, (dt_fd ((dt_kd k).1 - 4) j).2.2.1)) ∧ (3 ≤ (dt_fd ((dt_kd k).1 - 4) j).1 → dt_kd (k + (dt_fd ((dt_kd k).1 - 4) j).2.2.2) = ((dt_fd ((dt_kd k).1 - 4) j).2.1, (dt_fd ((dt_kd k).1 - 4) j).2.2.1)) := by
  have h1 := List.all_eq_true.mp dk_cf k (List.mem_range.mpr hk)
  have h4 : Nat.ble 4 (dt_kd k).1 = true := Nat.ble_eq.mpr h.1
  unfold dt_cf2 at h1
  rw [h4, Bool.not_true, Bool.false_or] at h1
  have h2 := List.all_eq_true.mp h1 j (List.mem_range.mpr h.2)
  generalize dt_fd ((dt_kd k).1 - 4) j = q at h2 ⊢
  unfold dt_cf1 at h2
  rw [Bool.and_eq_true, Bool.or_eq_true, Bool.or_eq_true] at h2
  refine ⟨fun e => ?_, fun e => ?_⟩
  · rcases h2.1 with a | a
    · rw [e] at a; cases a
    · exact eq_of_beq a
  · rcases h2.2 with a | a
    · rw [Nat.ble_eq.mpr e] at a; cases a
    · exact eq_of_beq a
theorem dk_fd (k : Nat) (hk : k < 86) (h4 : 4 ≤ (dt_kd k).1) (j : Nat) (hj : j < (dt_kd k).2) : ((dt_fd ((dt_kd k).1 - 4) j).1 = 2 → dt_kd (dt_fd ((dt_kd k).1 - 4) j).2.2.2 = ((dt_fd ((dt_kd k).1 - 4) j).2.1, (dt_fd ((dt_kd k).1 - 4) j).2.2.1)) ∧ (3 ≤ (dt_fd ((dt_kd k).1 - 4) j).1 → dt_kd (k + (dt_fd ((dt_kd k).1 - 4) j).2.2.2) = ((dt_fd ((dt_kd k).1 - 4) j).2.1, (dt_fd ((dt_kd k).1 - 4) j).2.2.1)) := dk_fd0 k hk j (Nat.lt_of_lt_of_le hj (dk_35 k hk h4)) ⟨h4, hj⟩
theorem dk_gf {ci j k N : Nat} {M : dt_M} (hM : dt_RM M) (hk : dt_kd k = (ci + 4, N)) (hc : ci < 46) (hj : j < N) : dt_okv (dt_gf ci j k M) := by
  have hl : k < 86 := dk_lt hk (by omega)
  have h := dk_fd k hl (by rw [hk]; omega) j (by rw [hk]; exact hj)
  rw [hk, show ci + 4 - 4 = ci by omega] at h
  unfold dt_gf
  obtain ⟨a, b, c, d, hq⟩ : ∃ a b c d, dt_fd ci j = (a, b, c, d) := ⟨_, _, _, _, rfl⟩
  rw [hq] at h ⊢
  match a, h with
  | 0, h => exact hM.1 k j
  | 1, h => exact hM.2 k j
  | 2, h => exact h.1 rfl
  | a + 3, h => exact h.2 (by simp)
theorem dw_obj {M : dt_M} {ad : Nat → Nat} {cA : Nat → ClassId} {ci k N : Nat} (hk : dt_kd k = (ci + 4, N)) : dt_wc M ad cA k = .inr (ci, (List.range N).map (fun j => dt_cv ad (dt_gf ci j k M))) := by
  unfold dt_wc
  rw [hk]
  simp only
  rw [if_neg (by omega), if_neg (by omega), if_neg (by omega), if_neg (by omega), show ci + 4 - 4 = ci by omega]
theorem dw_int {M : dt_M} {ad : Nat → Nat} {cA : Nat → ClassId} {k n : Nat} (hk : dt_kd k = (0, n)) : dt_wc M ad cA k = .inl (cA 0, n, .inl (fun j => Int32.ofInt (M.1 k j))) := by
  unfold dt_wc
  rw [hk]
  rfl
theorem dw_bool {M : dt_M} {ad : Nat → Nat} {cA : Nat → ClassId} {k n : Nat} (hk : dt_kd k = (1, n)) : dt_wc M ad cA k = .inl (cA 1, n, .inl (fun j => Int32.ofInt (M.1 k j))) := by
  unfold dt_wc
  rw [hk]
  rfl
theorem dw_long {M : dt_M} {ad : Nat → Nat} {cA : Nat → ClassId} {k n : Nat} (hk : dt_kd k = (2, n)) : dt_wc M ad cA k = .inl (cA 2, n, .inr (.inl (fun j => Int64.ofInt (M.2 k j)))) := by
  unfold dt_wc
  rw [hk]
  rfl
theorem dw_refs {M : dt_M} {ad : Nat → Nat} {cA : Nat → ClassId} {k n : Nat} (hk : dt_kd k = (3, n)) : dt_wc M ad cA k = .inl (cA 3, n, .inr (.inr (.inr (.inr (fun j => some (ad (2 + 8 * j))))))) := by
  unfold dt_wc
  rw [hk]
  rfl
theorem dm_wi1 {M : dt_M} {k j : Nat} {x : Int} : (dt_wi M k j x).1 k = dt_up (M.1 k) j x := by simp [dt_wi, dt_up]
theorem dm_wi2 {M : dt_M} {k j a : Nat} {x : Int} (h : a ≠ k) : (dt_wi M k j x).1 a = M.1 a := by simp [dt_wi, dt_up, h]
theorem dm_wi3 {M : dt_M} {k j : Nat} {x : Int} : (dt_wi M k j x).2 = M.2 := rfl
theorem dm_wl1 {M : dt_M} {k j : Nat} {x : Int} : (dt_wl M k j x).2 k = dt_up (M.2 k) j x := by simp [dt_wl, dt_up]
theorem dm_wl2 {M : dt_M} {k j a : Nat} {x : Int} (h : a ≠ k) : (dt_wl M k j x).2 a = M.2 a := by simp [dt_wl, dt_up, h]
theorem dm_wl3 {M : dt_M} {k j : Nat} {x : Int} : (dt_wl M k j x).1 = M.1 := rfl
theorem dm_up1 {α : Type} {f : Nat → α} {k : Nat} {v : α} : dt_up f k v k = v := by simp [dt_up]
theorem dm_up2 {α : Type} {f : Nat → α} {k a : Nat} {v : α} (h : a ≠ k) : dt_up f k v a = f a := by simp [dt_up, h]
theorem dm_rwi {M : dt_M} {k j : Nat} {x : Int} (h : dt_RM M) (hx : dt_r x) : dt_RM (dt_wi M k j x) := by
  refine ⟨fun a b => ?_, h.2⟩
  by_cases ha : a = k
  · subst ha
    rw [dm_wi1]
    by_cases hb : b = j
    · subst hb; rw [dm_up1]; exact hx
    · rw [dm_up2 hb]; exact h.1 a b
  · rw [dm_wi2 ha]; exact h.1 a b
theorem dm_rwl {M : dt_M} {k j : Nat} {x : Int} (h : dt_RM M) (hx : dt_rL x) : dt_RM (dt_wl M k j x) := by
  refine ⟨h.1, fun a b => ?_⟩
  by_cases ha : a = k
  · subst ha
    rw [dm_wl1]
    by_cases hb : b = j
    · subst hb; rw [dm_up1]; exact hx
    · rw [dm_up2 hb]; exact h.2 a b
  · rw [dm_wl2 ha]; exact h.2 a b
/-! ===== the locals ===== -/
def dt_as (ad : Nat → Nat) (lv : dt_L) : List (Nat × Value) := (List.range lv.length).filterMap (fun i => match lv[i]? with
  | some (some v) => some (i, dt_cv ad v)
  | _ => none)
theorem dl_mem {ad : Nat → Nat} {lv : dt_L} {i : Nat} {v : dt_V} (h : lv[i]? = some (some v)) : (i, dt_cv ad v) ∈ dt_as ad lv := by
  refine List.mem_filterMap.mpr ⟨i, List.mem_range.mpr (List.getElem?_eq_some_iff.mp h).1, ?_⟩
  rw [h]
theorem dl_of {ad : Nat → Nat} {lv : dt_L} {q : Nat × Value} (h : q ∈ dt_as ad lv) : ∃ v, lv[q.1]? = some (some v) ∧ q.2 = dt_cv ad v := by
  obtain ⟨i, -, hi⟩ := List.mem_filterMap.mp h
  split at hi
  · next v hv => cases hi; exact ⟨v, hv, rfl⟩
  · cases hi
theorem dl_has {ad : Nat → Nat} {ls : Array Slot} {nL : Nat} {lv : dt_L} (h : dt_H ad ls nL lv) : lv_has ls nL (dt_as ad lv) := by
  refine ⟨h.1, h.2.1, fun q hq => ?_⟩
  obtain ⟨v, h1, h2⟩ := dl_of hq
  rw [h.2.2 _ _ h1, h2]
def dt_set1 (lv : dt_L) (i : Nat) (v : dt_V) : dt_L := (match lv.getD (i - 1) none with
  | some (.inr (.inl _)) => lv.set (i - 1) none
  | _ => lv).set i (some v)
def dt_set2 (lv : dt_L) (i : Nat) (v : dt_V) : dt_L := ((match lv.getD (i - 1) none with
  | some (.inr (.inl _)) => lv.set (i - 1) none
  | _ => lv).set i (some v)).set (i + 1) none
theorem dl_pre {lv : dt_L} {i j : Nat} {v : dt_V} (h : (match lv.getD (i - 1) none with
  | some (.inr (.inl _)) => lv.set (i - 1) none
  | _ => lv)[j]? = some (some v)) : lv[j]? = some (some v) ∧ ¬ (j + 1 = i ∧ ∃ x, v = .inr (.inl x)) := by
  split at h
  · next x hx =>
    by_cases hj : j = i - 1
    · subst hj
      by_cases hl : i - 1 < lv.length
      · rw [List.getElem?_set_self hl] at h; cases h
      · rw [List.getElem?_eq_none (by simp; omega)] at h; cases h
    · rw [List.getElem?_set_ne (Ne.symm hj)] at h
      exact ⟨h, fun ⟨a, _⟩ => hj (by omega)⟩
  · next hx =>
    refine ⟨h, fun ⟨a, x, b⟩ => ?_⟩
    subst b
    have : j = i - 1 := by omega
    subst this
    rw [List.getD_eq_getElem?_getD, h] at hx
    exact hx _ rfl
theorem dl_cat {ad : Nat → Nat} {v : dt_V} (h : (dt_cv ad v).category = 2) : ∃ x, v = .inr (.inl x) := by
  match v, h with
  | .inl x, h => cases h
  | .inr (.inl x), _ => exact ⟨x, rfl⟩
  | .inr (.inr q), h => cases h
theorem dl_set1 {ad : Nat → Nat} {ls ls' : Array Slot} {nL i : Nat} {lv : dt_L} {v : dt_V} (h : lv_has ls' nL ((i, dt_cv ad v) :: (dt_as ad lv).filter (fun q => !(q.1 == i) && !(q.1 + 1 == i && q.2.category == 2)))) : dt_H ad ls' nL (dt_set1 lv i v) := by
  refine ⟨h.1, h.2.1, fun j w hj => ?_⟩
  by_cases hji : j = i
  · subst hji
    have hw : w = v := by
      by_cases hl : j < (dt_set1 lv j v).length
      · rw [show (dt_set1 lv j v) = List.set _ j (some v) from rfl, List.getElem?_set_self (by simpa [dt_set1] using hl)] at hj
        cases hj; rfl
      · rw [List.getElem?_eq_none (by omega)] at hj; cases hj
    subst hw
    exact h.2.2 (j, dt_cv ad w) List.mem_cons_self
  · rw [show (dt_set1 lv i v) = List.set _ i (some v) from rfl, List.getElem?_set_ne (Ne.symm hji)] at hj
    obtain ⟨h1, h2⟩ := dl_pre hj
    refine h.2.2 (j, dt_cv ad w) (List.mem_cons_of_mem _ (List.mem_filter.mpr ⟨dl_mem h1, ?_⟩))
    simp only [Bool.and_eq_true, Bool.not_eq_true', beq_eq_false_iff_ne, ne_eq, Bool.and_eq_false_iff]
    refine ⟨hji, ?_⟩
    by_cases ha : j + 1 = i
    · right
      intro hc
      exact h2 ⟨ha, dl_cat hc⟩
    · left; exact ha
theorem dl_set2 {ad : Nat → Nat} {ls ls' : Array Slot} {nL i : Nat} {lv : dt_L} {v : dt_V} (h : lv_has ls' nL ((i, dt_cv ad v) :: (dt_as ad lv).filter (fun q => !(q.1 == i) && (!(q.1 == i + 1) && !(q.1 + 1 == i && q.2.category == 2))))) : dt_H ad ls' nL (dt_set2 lv i v) := by
  refine ⟨h.1, h.2.1, fun j w hj => ?_⟩
  have hj1 : j ≠ i + 1 := by
    intro e
    subst e
    by_cases hl : i + 1 < (dt_set2 lv i v).length
    · rw [show (dt_set2 lv i v) = List.set _ (i + 1) none from rfl, List.getElem?_set_self (by simpa [dt_set2] using hl)] at hj
      cases hj
    · rw [List.getElem?_eq_none (by omega)] at hj; cases hj
  rw [show (dt_set2 lv i v) = List.set _ (i + 1) none from rfl, List.getElem?_set_ne (Ne.symm hj1)] at hj
  by_cases hji : j = i
  · subst hji
    have hw : w = v := by
      have hl := (List.getElem?_eq_some_iff.mp hj).1
      rw [List.getElem?_set_self (by simpa using hl)] at hj
      cases hj; rfl
    subst hw
    exact h.2.2 (j, dt_cv ad w) List.mem_cons_self
  · rw [List.getElem?_set_ne (Ne.symm hji)] at hj
    obtain ⟨h1, h2⟩ := dl_pre hj
    refine h.2.2 (j, dt_cv ad w) (List.mem_cons_of_mem _ (List.mem_filter.mpr ⟨dl_mem h1, ?_⟩))
    simp only [Bool.and_eq_true, Bool.not_eq_true', beq_eq_false_iff_ne, ne_eq, Bool.and_eq_false_iff]
    refine ⟨hji, hj1, ?_⟩
    by_cases ha : j + 1 = i
    · right
      intro hc
      exact h2 ⟨ha, dl_cat hc⟩
    · left; exact ha
theorem dl_ok1 {lv : dt_L} {i : Nat} {v : dt_V} (h : ∀ v, some v ∈ lv → dt_okv v) (hv : dt_okv v) : ∀ w, some w ∈ dt_set1 lv i v → dt_okv w := by
  intro w hw
  obtain ⟨j, hj⟩ := List.getElem?_of_mem hw
  by_cases hji : j = i
  · subst hji
    have hl := (List.getElem?_eq_some_iff.mp hj).1
    rw [show (dt_set1 lv j v) = List.set _ j (some v) from rfl, List.getElem?_set_self (by simpa [dt_set1] using hl)] at hj
    cases hj; exact hv
  · rw [show (dt_set1 lv i v) = List.set _ i (some v) from rfl, List.getElem?_set_ne (Ne.symm hji)] at hj
    exact h w (List.mem_of_getElem? (dl_pre hj).1)
theorem dl_ok2 {lv : dt_L} {i : Nat} {v : dt_V} (h : ∀ v, some v ∈ lv → dt_okv v) (hv : dt_okv v) : ∀ w, some w ∈ dt_set2 lv i v → dt_okv w := by
  intro w hw
  obtain ⟨j, hj⟩ := List.getElem?_of_mem hw
  have hj1 : j ≠ i + 1 := by
    intro e
    subst e
    have hl := (List.getElem?_eq_some_iff.mp hj).1
    rw [show (dt_set2 lv i v) = List.set _ (i + 1) none from rfl, List.getElem?_set_self (by simpa [dt_set2] using hl)] at hj
    cases hj
  rw [show (dt_set2 lv i v) = List.set _ (i + 1) none from rfl, List.getElem?_set_ne (Ne.symm hj1)] at hj
  by_cases hji : j = i
  · subst hji
    have hl := (List.getElem?_eq_some_iff.mp hj).1
    rw [List.getElem?_set_self (by simpa using hl)] at hj
    cases hj; exact hv
  · rw [List.getElem?_set_ne (Ne.symm hji)] at hj
    exact h w (List.mem_of_getElem? (dl_pre hj).1)
end
section
/-! ===== the steps: what an instruction means, and that it is right ===== -/
theorem ds_c {v : dt_V} {r : List dt_V} (h : dt_okv v) (hr : ∀ v ∈ r, dt_okv v) : ∀ w ∈ v :: r, dt_okv w := fun w hw => (List.mem_cons.mp hw).elim (fun e => e ▸ h) (hr w)
theorem ds_t {v : dt_V} {r : List dt_V} (h : ∀ w ∈ v :: r, dt_okv w) : ∀ w ∈ r, dt_okv w := fun w hw => h w (List.mem_cons_of_mem _ hw)
theorem ds_h {v : dt_V} {r : List dt_V} (h : ∀ w ∈ v :: r, dt_okv w) : dt_okv v := h v List.mem_cons_self
def tc_no : dt_T := fun _ _ _ _ _ _ _ => False
theorem sn_no {y : dt_Y} {pc : Nat} : dt_S y tc_no pc := fun _ _ _ _ _ _ _ h => h.elim
def tc_ic (n : Int) (nx : Nat) : dt_T := fun _ _ K pc lv st M => K nx lv (.inl n :: st) M
theorem sn_ic {y : dt_Y} {pc : Nat} {n : Int} {nx : Nat} (hn : dt_r n) (hd : decode y.2.1 pc = .ok (.iconst n, 1)) (hl : nx = pc + 1) : dt_S y (tc_ic n nx) pc := by
  intro d Q K hK lv st M h ok p l e R s m args below meth c cells slots Qf D ad cA A C H locs ls hW hL
  have := hK _ _ _ _ h ⟨ok.1, ds_c (show dt_r n from hn) ok.2.1, ok.2.2⟩ p l e R s m args below meth c cells slots Qf D ad cA A C H locs ls hW hL
  subst hl; exact lv_iconst C.1 C.2.1 hd rfl this
theorem sn_bi {y : dt_Y} {pc : Nat} {n : Int} {nx : Nat} (hn : dt_r n) (hv : (Int8.ofInt n).toInt32 = Int32.ofInt n) (hd : decode y.2.1 pc = .ok (.bipush n, 2)) (hl : nx = pc + 2) : dt_S y (tc_ic n nx) pc := by
  intro d Q K hK lv st M h ok p l e R s m args below meth c cells slots Qf D ad cA A C H locs ls hW hL
  have := hK _ _ _ _ h ⟨ok.1, ds_c (show dt_r n from hn) ok.2.1, ok.2.2⟩ p l e R s m args below meth c cells slots Qf D ad cA A C H locs ls hW hL
  subst hl; exact lv_bipush C.1 C.2.1 hd hv this
theorem sn_si {y : dt_Y} {pc : Nat} {n : Int} {nx : Nat} (hn : dt_r n) (hv : (Int16.ofInt n).toInt32 = Int32.ofInt n) (hd : decode y.2.1 pc = .ok (.sipush n, 3)) (hl : nx = pc + 3) : dt_S y (tc_ic n nx) pc := by
  intro d Q K hK lv st M h ok p l e R s m args below meth c cells slots Qf D ad cA A C H locs ls hW hL
  have := hK _ _ _ _ h ⟨ok.1, ds_c (show dt_r n from hn) ok.2.1, ok.2.2⟩ p l e R s m args below meth c cells slots Qf D ad cA A C H locs ls hW hL
  subst hl; exact lv_sipush C.1 C.2.1 hd hv this
def tc_lc (n : Int) (nx : Nat) : dt_T := fun _ _ K pc lv st M => K nx lv (.inr (.inl n) :: st) M
theorem sn_lc {y : dt_Y} {pc : Nat} {n : Int} {nx : Nat} {k : Fin 2} (hn : dt_rL n) (hv : Int64.ofNat (k : Nat) = Int64.ofInt n) (hd : decode y.2.1 pc = .ok (.lconst k, 1)) (hl : nx = pc + 1) : dt_S y (tc_lc n nx) pc := by
  intro d Q K hK lv st M h ok p l e R s m args below meth c cells slots Qf D ad cA A C H locs ls hW hL
  have := hK _ _ _ _ h ⟨ok.1, ds_c (show dt_rL n from hn) ok.2.1, ok.2.2⟩ p l e R s m args below meth c cells slots Qf D ad cA A C H locs ls hW hL
  subst hl; exact lv_lconst C.1 C.2.1 hd hv this
theorem sn_ldc2 {y : dt_Y} {pc : Nat} {n : Int} {nx index : Nat} {own : String} (ho : y.1.cls = own) (hn : dt_rL n) (hw : Cond.constantLong own index (Int64.ofInt n) ∈ dt_W0) (hd : decode y.2.1 pc = .ok (.ldc2_w index, 3)) (hl : nx = pc + 3) : dt_S y (tc_lc n nx) pc := by
  intro d Q K hK lv st M h ok p l e R s m args below meth c cells slots Qf D ad cA A C H locs ls hW hL
  have := hK _ _ _ _ h ⟨ok.1, ds_c (show dt_rL n from hn) ok.2.1, ok.2.2⟩ p l e R s m args below meth c cells slots Qf D ad cA A C H locs ls hW hL
  subst hl; exact lv_ldc2 C.1 C.2.1 (own := own) (ho ▸ C.2.2.2.1) (C.2.2.2.2.1 _ hw) hd this
def tc_ldI (i nx : Nat) : dt_T := fun _ _ K pc lv st M => match lv.getD i none with
  | some (.inl x) => K nx lv (.inl x :: st) M
  | _ => False
theorem sn_ldIn {y : dt_Y} {pc : Nat} {i nx : Nat} {k : Fin 4} (hi : (k : Nat) = i) (hd : decode y.2.1 pc = .ok (.iload_n k, 1)) (hl : nx = pc + 1) : dt_S y (tc_ldI i nx) pc := by
  intro d Q K hK lv st M h
  unfold tc_ldI at h
  split at h
  · next x hx =>
    intro ok p l e R s m args below meth c cells slots Qf D ad cA A C H locs ls hW hL
    have hx : lv[i]? = some (some (.inl x)) := by
      rw [List.getD_eq_getElem?_getD] at hx
      cases hq : lv[i]? with
      | none => rw [hq] at hx; cases hx
      | some z => rw [hq] at hx; exact congrArg some hx
    have := hK _ _ _ _ h ⟨ok.1, ds_c (ok.1 _ (List.mem_of_getElem? hx)) ok.2.1, ok.2.2⟩ p l e R s m args below meth c cells slots Qf D ad cA A C H locs ls hW hL
    subst hl
    exact lv_iload_n C.1 C.2.1 hd hi (hL.2.2 _ _ hx) this
  · exact h.elim
theorem sn_ldI {y : dt_Y} {pc : Nat} {i nx : Nat} (hd : decode y.2.1 pc = .ok (.iload i, 2)) (hl : nx = pc + 2) : dt_S y (tc_ldI i nx) pc := by
  intro d Q K hK lv st M h
  unfold tc_ldI at h
  split at h
  · next x hx =>
    intro ok p l e R s m args below meth c cells slots Qf D ad cA A C H locs ls hW hL
    have hx : lv[i]? = some (some (.inl x)) := by
      rw [List.getD_eq_getElem?_getD] at hx
      cases hq : lv[i]? with
      | none => rw [hq] at hx; cases hx
      | some z => rw [hq] at hx; exact congrArg some hx
    have := hK _ _ _ _ h ⟨ok.1, ds_c (ok.1 _ (List.mem_of_getElem? hx)) ok.2.1, ok.2.2⟩ p l e R s m args below meth c cells slots Qf D ad cA A C H locs ls hW hL
    subst hl
    exact lv_iload C.1 C.2.1 hd (hL.2.2 _ _ hx) this
  · exact h.elim
def tc_ldL (i nx : Nat) : dt_T := fun _ _ K pc lv st M => match lv.getD i none with
  | some (.inr (.inl x)) => K nx lv (.inr (.inl x) :: st) M
  | _ => False
theorem sn_ldLn {y : dt_Y} {pc : Nat} {i nx : Nat} {k : Fin 4} (hi : (k : Nat) = i) (hd : decode y.2.1 pc = .ok (.lload_n k, 1)) (hl : nx = pc + 1) : dt_S y (tc_ldL i nx) pc := by
  intro d Q K hK lv st M h
  unfold tc_ldL at h
  split at h
  · next x hx =>
    intro ok p l e R s m args below meth c cells slots Qf D ad cA A C H locs ls hW hL
    have hx : lv[i]? = some (some (.inr (.inl x))) := by
      rw [List.getD_eq_getElem?_getD] at hx
      cases hq : lv[i]? with
      | none => rw [hq] at hx; cases hx
      | some z => rw [hq] at hx; exact congrArg some hx
    have := hK _ _ _ _ h ⟨ok.1, ds_c (ok.1 _ (List.mem_of_getElem? hx)) ok.2.1, ok.2.2⟩ p l e R s m args below meth c cells slots Qf D ad cA A C H locs ls hW hL
    subst hl
    exact lv_lload_n C.1 C.2.1 hd hi (hL.2.2 _ _ hx) this
  · exact h.elim
theorem sn_ldL {y : dt_Y} {pc : Nat} {i nx : Nat} (hd : decode y.2.1 pc = .ok (.lload i, 2)) (hl : nx = pc + 2) : dt_S y (tc_ldL i nx) pc := by
  intro d Q K hK lv st M h
  unfold tc_ldL at h
  split at h
  · next x hx =>
    intro ok p l e R s m args below meth c cells slots Qf D ad cA A C H locs ls hW hL
    have hx : lv[i]? = some (some (.inr (.inl x))) := by
      rw [List.getD_eq_getElem?_getD] at hx
      cases hq : lv[i]? with
      | none => rw [hq] at hx; cases hx
      | some z => rw [hq] at hx; exact congrArg some hx
    have := hK _ _ _ _ h ⟨ok.1, ds_c (ok.1 _ (List.mem_of_getElem? hx)) ok.2.1, ok.2.2⟩ p l e R s m args below meth c cells slots Qf D ad cA A C H locs ls hW hL
    subst hl
    exact lv_lload C.1 C.2.1 hd (hL.2.2 _ _ hx) this
  · exact h.elim
def tc_ldA (i nx : Nat) : dt_T := fun _ _ K pc lv st M => match lv.getD i none with
  | some (.inr (.inr x)) => K nx lv (.inr (.inr x) :: st) M
  | _ => False
theorem sn_ldAn {y : dt_Y} {pc : Nat} {i nx : Nat} {k : Fin 4} (hi : (k : Nat) = i) (hd : decode y.2.1 pc = .ok (.aload_n k, 1)) (hl : nx = pc + 1) : dt_S y (tc_ldA i nx) pc := by
  intro d Q K hK lv st M h
  unfold tc_ldA at h
  split at h
  · next x hx =>
    intro ok p l e R s m args below meth c cells slots Qf D ad cA A C H locs ls hW hL
    have hx : lv[i]? = some (some (.inr (.inr x))) := by
      rw [List.getD_eq_getElem?_getD] at hx
      cases hq : lv[i]? with
      | none => rw [hq] at hx; cases hx
      | some z => rw [hq] at hx; exact congrArg some hx
    have := hK _ _ _ _ h ⟨ok.1, ds_c (ok.1 _ (List.mem_of_getElem? hx)) ok.2.1, ok.2.2⟩ p l e R s m args below meth c cells slots Qf D ad cA A C H locs ls hW hL
    subst hl
    exact lv_aload_n C.1 C.2.1 hd hi (hL.2.2 _ _ hx) this
  · exact h.elim
theorem sn_ldA {y : dt_Y} {pc : Nat} {i nx : Nat} (hd : decode y.2.1 pc = .ok (.aload i, 2)) (hl : nx = pc + 2) : dt_S y (tc_ldA i nx) pc := by
  intro d Q K hK lv st M h
  unfold tc_ldA at h
  split at h
  · next x hx =>
    intro ok p l e R s m args below meth c cells slots Qf D ad cA A C H locs ls hW hL
    have hx : lv[i]? = some (some (.inr (.inr x))) := by
      rw [List.getD_eq_getElem?_getD] at hx
      cases hq : lv[i]? with
      | none => rw [hq] at hx; cases hx
      | some z => rw [hq] at hx; exact congrArg some hx
    have := hK _ _ _ _ h ⟨ok.1, ds_c (ok.1 _ (List.mem_of_getElem? hx)) ok.2.1, ok.2.2⟩ p l e R s m args below meth c cells slots Qf D ad cA A C H locs ls hW hL
    subst hl
    exact lv_aload C.1 C.2.1 hd (hL.2.2 _ _ hx) this
  · exact h.elim
def tc_stI (i nx : Nat) : dt_T := fun _ _ K pc lv st M => match st with
  | .inl x :: r => K nx (dt_set1 lv i (.inl x)) r M
  | _ => False
theorem sn_stIn {y : dt_Y} {pc : Nat} {i nx : Nat} {k : Fin 4} (hi : (k : Nat) = i) (hn : i < y.2.2.1) (hd : decode y.2.1 pc = .ok (.istore_n k, 1)) (hl : nx = pc + 1) : dt_S y (tc_stI i nx) pc := by
  intro d Q K hK lv st M h
  unfold tc_stI at h
  split at h
  · next x r =>
    intro ok p l e R s m args below meth c cells slots Qf D ad cA A C H locs ls hW hL
    subst hl
    refine lv_istore_n (nL := y.2.2.1) (lv := dt_as ad lv) C.1 C.2.1 hd hi (dl_has hL) hn rfl (fun ls1 hl1 => ?_)
    exact hK _ _ _ _ h ⟨dl_ok1 ok.1 (ds_h ok.2.1), ds_t ok.2.1, ok.2.2⟩ p l e R s m args below meth c cells slots Qf D ad cA A C H locs ls1 hW (dl_set1 (ls := ls) (v := .inl x) hl1)
  · exact h.elim
theorem sn_stI {y : dt_Y} {pc : Nat} {i nx : Nat} (hn : i < y.2.2.1) (hd : decode y.2.1 pc = .ok (.istore i, 2)) (hl : nx = pc + 2) : dt_S y (tc_stI i nx) pc := by
  intro d Q K hK lv st M h
  unfold tc_stI at h
  split at h
  · next x r =>
    intro ok p l e R s m args below meth c cells slots Qf D ad cA A C H locs ls hW hL
    subst hl
    refine lv_istore (nL := y.2.2.1) (lv := dt_as ad lv) C.1 C.2.1 hd (dl_has hL) hn rfl (fun ls1 hl1 => ?_)
    exact hK _ _ _ _ h ⟨dl_ok1 ok.1 (ds_h ok.2.1), ds_t ok.2.1, ok.2.2⟩ p l e R s m args below meth c cells slots Qf D ad cA A C H locs ls1 hW (dl_set1 (ls := ls) (v := .inl x) hl1)
  · exact h.elim
def tc_stL (i nx : Nat) : dt_T := fun _ _ K pc lv st M => match st with
  | .inr (.inl x) :: r => K nx (dt_set2 lv i (.inr (.inl x))) r M
  | _ => False
theorem sn_stLn {y : dt_Y} {pc : Nat} {i nx : Nat} {k : Fin 4} (hi : (k : Nat) = i) (hn : i + 1 < y.2.2.1) (hd : decode y.2.1 pc = .ok (.lstore_n k, 1)) (hl : nx = pc + 1) : dt_S y (tc_stL i nx) pc := by
  intro d Q K hK lv st M h
  unfold tc_stL at h
  split at h
  · next x r =>
    intro ok p l e R s m args below meth c cells slots Qf D ad cA A C H locs ls hW hL
    subst hl
    refine lv_lstore_n (nL := y.2.2.1) (lv := dt_as ad lv) C.1 C.2.1 hd hi (dl_has hL) hn rfl (fun ls1 hl1 => ?_)
    exact hK _ _ _ _ h ⟨dl_ok2 ok.1 (ds_h ok.2.1), ds_t ok.2.1, ok.2.2⟩ p l e R s m args below meth c cells slots Qf D ad cA A C H locs ls1 hW (dl_set2 (ls := ls) (v := .inr (.inl x)) hl1)
  · exact h.elim
theorem sn_stL {y : dt_Y} {pc : Nat} {i nx : Nat} (hn : i + 1 < y.2.2.1) (hd : decode y.2.1 pc = .ok (.lstore i, 2)) (hl : nx = pc + 2) : dt_S y (tc_stL i nx) pc := by
  intro d Q K hK lv st M h
  unfold tc_stL at h
  split at h
  · next x r =>
    intro ok p l e R s m args below meth c cells slots Qf D ad cA A C H locs ls hW hL
    subst hl
    refine lv_lstore (nL := y.2.2.1) (lv := dt_as ad lv) C.1 C.2.1 hd (dl_has hL) hn rfl (fun ls1 hl1 => ?_)
    exact hK _ _ _ _ h ⟨dl_ok2 ok.1 (ds_h ok.2.1), ds_t ok.2.1, ok.2.2⟩ p l e R s m args below meth c cells slots Qf D ad cA A C H locs ls1 hW (dl_set2 (ls := ls) (v := .inr (.inl x)) hl1)
  · exact h.elim
def tc_stA (i nx : Nat) : dt_T := fun _ _ K pc lv st M => match st with
  | .inr (.inr x) :: r => K nx (dt_set1 lv i (.inr (.inr x))) r M
  | _ => False
theorem sn_stAn {y : dt_Y} {pc : Nat} {i nx : Nat} {k : Fin 4} (hi : (k : Nat) = i) (hn : i < y.2.2.1) (hd : decode y.2.1 pc = .ok (.astore_n k, 1)) (hl : nx = pc + 1) : dt_S y (tc_stA i nx) pc := by
  intro d Q K hK lv st M h
  unfold tc_stA at h
  split at h
  · next x r =>
    intro ok p l e R s m args below meth c cells slots Qf D ad cA A C H locs ls hW hL
    subst hl
    refine lv_astore_n (nL := y.2.2.1) (lv := dt_as ad lv) C.1 C.2.1 hd hi (dl_has hL) hn rfl (fun ls1 hl1 => ?_)
    exact hK _ _ _ _ h ⟨dl_ok1 ok.1 (ds_h ok.2.1), ds_t ok.2.1, ok.2.2⟩ p l e R s m args below meth c cells slots Qf D ad cA A C H locs ls1 hW (dl_set1 (ls := ls) (v := .inr (.inr x)) hl1)
  · exact h.elim
theorem sn_stA {y : dt_Y} {pc : Nat} {i nx : Nat} (hn : i < y.2.2.1) (hd : decode y.2.1 pc = .ok (.astore i, 2)) (hl : nx = pc + 2) : dt_S y (tc_stA i nx) pc := by
  intro d Q K hK lv st M h
  unfold tc_stA at h
  split at h
  · next x r =>
    intro ok p l e R s m args below meth c cells slots Qf D ad cA A C H locs ls hW hL
    subst hl
    refine lv_astore (nL := y.2.2.1) (lv := dt_as ad lv) C.1 C.2.1 hd (dl_has hL) hn rfl (fun ls1 hl1 => ?_)
    exact hK _ _ _ _ h ⟨dl_ok1 ok.1 (ds_h ok.2.1), ds_t ok.2.1, ok.2.2⟩ p l e R s m args below meth c cells slots Qf D ad cA A C H locs ls1 hW (dl_set1 (ls := ls) (v := .inr (.inr x)) hl1)
  · exact h.elim
def tc_iinc (i : Nat) (n : Int) (nx : Nat) : dt_T := fun _ _ K pc lv st M => match lv.getD i none with
  | some (.inl x) => dt_r (x + n) ∧ K nx (dt_set1 lv i (.inl (x + n))) st M
  | _ => False
theorem sn_iinc {y : dt_Y} {nx pc i : Nat} {n : Int} (hn : i < y.2.2.1) (hd : decode y.2.1 pc = .ok (.iinc i n, 3)) (hx9 : nx = pc + 3) : dt_S y (tc_iinc i n nx) pc := by
  subst hx9
  intro d Q K hK lv st M h
  unfold tc_iinc at h
  split at h
  · next x hx =>
    intro ok p l e R s m args below meth c cells slots Qf D ad cA A C H locs ls hW hL
    have hx : lv[i]? = some (some (.inl x)) := by
      rw [List.getD_eq_getElem?_getD] at hx
      cases hq : lv[i]? with
      | none => rw [hq] at hx; cases hx
      | some z => rw [hq] at hx; exact congrArg some hx
    obtain ⟨k, hk⟩ := List.getElem?_of_mem (dl_mem (ad := ad) hx)
    refine lv_iinc (nL := y.2.2.1) (lv := dt_as ad lv) (k := k) (v := Int32.ofInt (x + n)) C.1 C.2.1 hd (dl_has hL) hk (Int32.ofInt_add x n).symm hn rfl (fun ls1 hl1 => ?_)
    exact hK _ _ _ _ h.2 ⟨dl_ok1 ok.1 (show dt_r _ from h.1), ok.2.1, ok.2.2⟩ p l e R s m args below meth c cells slots Qf D ad cA A C H locs ls1 hW (dl_set1 (ls := ls) (v := .inl (x + n)) hl1)
  · exact h.elim
def tc_iadd (nx : Nat) : dt_T := fun _ _ K pc lv st M => match st with
  | .inl b :: .inl a :: r => dt_r (a + b) ∧ K nx lv (.inl (a + b) :: r) M
  | _ => False
theorem sn_iadd {y : dt_Y} {nx pc : Nat} (hd : decode y.2.1 pc = .ok (.iadd, 1)) (hx9 : nx = pc + 1) : dt_S y (tc_iadd nx) pc := by
  subst hx9
  intro d Q K hK lv st M h
  unfold tc_iadd at h
  split at h
  · next b a r =>
    intro ok p l e R s m args below meth c cells slots Qf D ad cA A C H locs ls hW hL
    have := hK _ _ _ _ h.2 ⟨ok.1, ds_c (show dt_r _ from h.1) (ds_t (ds_t (ok.2.1))), ok.2.2⟩ p l e R s m args below meth c cells slots Qf D ad cA A C H locs ls hW hL
    refine lv_iadd C.1 C.2.1 hd ?_
    rw [← Int32.ofInt_add]
    exact this
  · exact h.elim
def tc_isub (nx : Nat) : dt_T := fun _ _ K pc lv st M => match st with
  | .inl b :: .inl a :: r => dt_r (a - b) ∧ K nx lv (.inl (a - b) :: r) M
  | _ => False
theorem sn_isub {y : dt_Y} {nx pc : Nat} (hd : decode y.2.1 pc = .ok (.isub, 1)) (hx9 : nx = pc + 1) : dt_S y (tc_isub nx) pc := by
  subst hx9
  intro d Q K hK lv st M h
  unfold tc_isub at h
  split at h
  · next b a r =>
    intro ok p l e R s m args below meth c cells slots Qf D ad cA A C H locs ls hW hL
    have := hK _ _ _ _ h.2 ⟨ok.1, ds_c (show dt_r _ from h.1) (ds_t (ds_t (ok.2.1))), ok.2.2⟩ p l e R s m args below meth c cells slots Qf D ad cA A C H locs ls hW hL
    refine lv_isub C.1 C.2.1 hd ?_
    rw [← Int32.ofInt_sub]
    exact this
  · exact h.elim
def tc_imul (nx : Nat) : dt_T := fun _ _ K pc lv st M => match st with
  | .inl b :: .inl a :: r => dt_r (a * b) ∧ K nx lv (.inl (a * b) :: r) M
  | _ => False
theorem sn_imul {y : dt_Y} {nx pc : Nat} (hd : decode y.2.1 pc = .ok (.imul, 1)) (hx9 : nx = pc + 1) : dt_S y (tc_imul nx) pc := by
  subst hx9
  intro d Q K hK lv st M h
  unfold tc_imul at h
  split at h
  · next b a r =>
    intro ok p l e R s m args below meth c cells slots Qf D ad cA A C H locs ls hW hL
    have := hK _ _ _ _ h.2 ⟨ok.1, ds_c (show dt_r _ from h.1) (ds_t (ds_t (ok.2.1))), ok.2.2⟩ p l e R s m args below meth c cells slots Qf D ad cA A C H locs ls hW hL
    refine lv_imul C.1 C.2.1 hd ?_
    rw [← Int32.ofInt_mul]
    exact this
  · exact h.elim
def tc_iand (nx : Nat) : dt_T := fun _ _ K pc lv st M => match st with
  | .inl b :: .inl a :: r => K nx lv (.inl (dt_and a b) :: r) M
  | _ => False
theorem sn_iand {y : dt_Y} {nx pc : Nat} (hd : decode y.2.1 pc = .ok (.iand, 1)) (hx9 : nx = pc + 1) : dt_S y (tc_iand nx) pc := by
  subst hx9
  intro d Q K hK lv st M h
  unfold tc_iand at h
  split at h
  · next b a r =>
    intro ok p l e R s m args below meth c cells slots Qf D ad cA A C H locs ls hW hL
    have := hK _ _ _ _ h ⟨ok.1, ds_c (show dt_r _ from dn_ri _) (ds_t (ds_t (ok.2.1))), ok.2.2⟩ p l e R s m args below meth c cells slots Qf D ad cA A C H locs ls hW hL
    refine lv_iand C.1 C.2.1 hd ?_
    have e := Int32.ofInt_toInt
    unfold dt_and at this
    simp only [List.map_cons, dt_cv, Int32.ofInt_toInt] at this
    exact this
  · exact h.elim
def tc_ior (nx : Nat) : dt_T := fun _ _ K pc lv st M => match st with
  | .inl b :: .inl a :: r => K nx lv (.inl (dt_or a b) :: r) M
  | _ => False
theorem sn_ior {y : dt_Y} {nx pc : Nat} (hd : decode y.2.1 pc = .ok (.ior, 1)) (hx9 : nx = pc + 1) : dt_S y (tc_ior nx) pc := by
  subst hx9
  intro d Q K hK lv st M h
  unfold tc_ior at h
  split at h
  · next b a r =>
    intro ok p l e R s m args below meth c cells slots Qf D ad cA A C H locs ls hW hL
    have := hK _ _ _ _ h ⟨ok.1, ds_c (show dt_r _ from dn_ri _) (ds_t (ds_t (ok.2.1))), ok.2.2⟩ p l e R s m args below meth c cells slots Qf D ad cA A C H locs ls hW hL
    refine lv_ior C.1 C.2.1 hd ?_
    have e := Int32.ofInt_toInt
    unfold dt_or at this
    simp only [List.map_cons, dt_cv, Int32.ofInt_toInt] at this
    exact this
  · exact h.elim
def tc_ishl (nx : Nat) : dt_T := fun _ _ K pc lv st M => match st with
  | .inl b :: .inl a :: r => K nx lv (.inl (dt_shl a b) :: r) M
  | _ => False
theorem sn_ishl {y : dt_Y} {nx pc : Nat} (hd : decode y.2.1 pc = .ok (.ishl, 1)) (hx9 : nx = pc + 1) : dt_S y (tc_ishl nx) pc := by
  subst hx9
  intro d Q K hK lv st M h
  unfold tc_ishl at h
  split at h
  · next b a r =>
    intro ok p l e R s m args below meth c cells slots Qf D ad cA A C H locs ls hW hL
    have := hK _ _ _ _ h ⟨ok.1, ds_c (show dt_r _ from dn_ri _) (ds_t (ds_t (ok.2.1))), ok.2.2⟩ p l e R s m args below meth c cells slots Qf D ad cA A C H locs ls hW hL
    refine lv_ishl C.1 C.2.1 hd ?_
    have e := Int32.ofInt_toInt
    unfold dt_shl at this
    simp only [List.map_cons, dt_cv, Int32.ofInt_toInt] at this
    exact this
  · exact h.elim
def tc_ishr (nx : Nat) : dt_T := fun _ _ K pc lv st M => match st with
  | .inl b :: .inl a :: r => K nx lv (.inl (dt_shr a b) :: r) M
  | _ => False
theorem sn_ishr {y : dt_Y} {nx pc : Nat} (hd : decode y.2.1 pc = .ok (.ishr, 1)) (hx9 : nx = pc + 1) : dt_S y (tc_ishr nx) pc := by
  subst hx9
  intro d Q K hK lv st M h
  unfold tc_ishr at h
  split at h
  · next b a r =>
    intro ok p l e R s m args below meth c cells slots Qf D ad cA A C H locs ls hW hL
    have := hK _ _ _ _ h ⟨ok.1, ds_c (show dt_r _ from dn_ri _) (ds_t (ds_t (ok.2.1))), ok.2.2⟩ p l e R s m args below meth c cells slots Qf D ad cA A C H locs ls hW hL
    refine lv_ishr C.1 C.2.1 hd ?_
    have e := Int32.ofInt_toInt
    unfold dt_shr at this
    simp only [List.map_cons, dt_cv, Int32.ofInt_toInt] at this
    exact this
  · exact h.elim
def tc_idiv (nx : Nat) : dt_T := fun _ _ K pc lv st M => match st with
  | .inl b :: .inl a :: r => ¬ b = 0 ∧ K nx lv (.inl (dt_div a b) :: r) M
  | _ => False
theorem sn_idiv {y : dt_Y} {nx pc : Nat} (hd : decode y.2.1 pc = .ok (.idiv, 1)) (hx9 : nx = pc + 1) : dt_S y (tc_idiv nx) pc := by
  subst hx9
  intro d Q K hK lv st M h
  unfold tc_idiv at h
  split at h
  · next b a r =>
    intro ok p l e R s m args below meth c cells slots Qf D ad cA A C H locs ls hW hL
    have := hK _ _ _ _ h.2 ⟨ok.1, ds_c (show dt_r _ from dn_ri _) (ds_t (ds_t (ok.2.1))), ok.2.2⟩ p l e R s m args below meth c cells slots Qf D ad cA A C H locs ls hW hL
    refine lv_idiv C.1 C.2.1 hd (fun q => h.1 ((dn_eq0 (ds_h ok.2.1)).mp q)) ?_
    unfold dt_div at this
    simp only [List.map_cons, dt_cv, Int32.ofInt_toInt] at this
    exact this
  · exact h.elim
def tc_irem (nx : Nat) : dt_T := fun _ _ K pc lv st M => match st with
  | .inl b :: .inl a :: r => ¬ b = 0 ∧ K nx lv (.inl (dt_rem a b) :: r) M
  | _ => False
theorem sn_irem {y : dt_Y} {nx pc : Nat} (hd : decode y.2.1 pc = .ok (.irem, 1)) (hx9 : nx = pc + 1) : dt_S y (tc_irem nx) pc := by
  subst hx9
  intro d Q K hK lv st M h
  unfold tc_irem at h
  split at h
  · next b a r =>
    intro ok p l e R s m args below meth c cells slots Qf D ad cA A C H locs ls hW hL
    have := hK _ _ _ _ h.2 ⟨ok.1, ds_c (show dt_r _ from dn_ri _) (ds_t (ds_t (ok.2.1))), ok.2.2⟩ p l e R s m args below meth c cells slots Qf D ad cA A C H locs ls hW hL
    refine lv_irem C.1 C.2.1 hd (fun q => h.1 ((dn_eq0 (ds_h ok.2.1)).mp q)) ?_
    unfold dt_rem at this
    simp only [List.map_cons, dt_cv, Int32.ofInt_toInt] at this
    exact this
  · exact h.elim
def tc_ladd (nx : Nat) : dt_T := fun _ _ K pc lv st M => match st with
  | .inr (.inl b) :: .inr (.inl a) :: r => dt_rL (a + b) ∧ K nx lv (.inr (.inl (a + b)) :: r) M
  | _ => False
theorem sn_ladd {y : dt_Y} {nx pc : Nat} (hd : decode y.2.1 pc = .ok (.ladd, 1)) (hx9 : nx = pc + 1) : dt_S y (tc_ladd nx) pc := by
  subst hx9
  intro d Q K hK lv st M h
  unfold tc_ladd at h
  split at h
  · next b a r =>
    intro ok p l e R s m args below meth c cells slots Qf D ad cA A C H locs ls hW hL
    have := hK _ _ _ _ h.2 ⟨ok.1, ds_c (show dt_rL _ from h.1) (ds_t (ds_t (ok.2.1))), ok.2.2⟩ p l e R s m args below meth c cells slots Qf D ad cA A C H locs ls hW hL
    refine lv_ladd C.1 C.2.1 hd ?_
    rw [← Int64.ofInt_add]
    exact this
  · exact h.elim
def tc_lsub (nx : Nat) : dt_T := fun _ _ K pc lv st M => match st with
  | .inr (.inl b) :: .inr (.inl a) :: r => dt_rL (a - b) ∧ K nx lv (.inr (.inl (a - b)) :: r) M
  | _ => False
theorem sn_lsub {y : dt_Y} {nx pc : Nat} (hd : decode y.2.1 pc = .ok (.lsub, 1)) (hx9 : nx = pc + 1) : dt_S y (tc_lsub nx) pc := by
  subst hx9
  intro d Q K hK lv st M h
  unfold tc_lsub at h
  split at h
  · next b a r =>
    intro ok p l e R s m args below meth c cells slots Qf D ad cA A C H locs ls hW hL
    have := hK _ _ _ _ h.2 ⟨ok.1, ds_c (show dt_rL _ from h.1) (ds_t (ds_t (ok.2.1))), ok.2.2⟩ p l e R s m args below meth c cells slots Qf D ad cA A C H locs ls hW hL
    refine lv_lsub C.1 C.2.1 hd ?_
    rw [← Int64.ofInt_sub]
    exact this
  · exact h.elim
def tc_lmul (nx : Nat) : dt_T := fun _ _ K pc lv st M => match st with
  | .inr (.inl b) :: .inr (.inl a) :: r => dt_rL (a * b) ∧ K nx lv (.inr (.inl (a * b)) :: r) M
  | _ => False
theorem sn_lmul {y : dt_Y} {nx pc : Nat} (hd : decode y.2.1 pc = .ok (.lmul, 1)) (hx9 : nx = pc + 1) : dt_S y (tc_lmul nx) pc := by
  subst hx9
  intro d Q K hK lv st M h
  unfold tc_lmul at h
  split at h
  · next b a r =>
    intro ok p l e R s m args below meth c cells slots Qf D ad cA A C H locs ls hW hL
    have := hK _ _ _ _ h.2 ⟨ok.1, ds_c (show dt_rL _ from h.1) (ds_t (ds_t (ok.2.1))), ok.2.2⟩ p l e R s m args below meth c cells slots Qf D ad cA A C H locs ls hW hL
    refine lv_lmul C.1 C.2.1 hd ?_
    rw [← Int64.ofInt_mul]
    exact this
  · exact h.elim
def tc_land (nx : Nat) : dt_T := fun _ _ K pc lv st M => match st with
  | .inr (.inl b) :: .inr (.inl a) :: r => K nx lv (.inr (.inl (dt_andL a b)) :: r) M
  | _ => False
theorem sn_land {y : dt_Y} {nx pc : Nat} (hd : decode y.2.1 pc = .ok (.land, 1)) (hx9 : nx = pc + 1) : dt_S y (tc_land nx) pc := by
  subst hx9
  intro d Q K hK lv st M h
  unfold tc_land at h
  split at h
  · next b a r =>
    intro ok p l e R s m args below meth c cells slots Qf D ad cA A C H locs ls hW hL
    have := hK _ _ _ _ h ⟨ok.1, ds_c (show dt_rL _ from dn_rl _) (ds_t (ds_t (ok.2.1))), ok.2.2⟩ p l e R s m args below meth c cells slots Qf D ad cA A C H locs ls hW hL
    refine lv_land C.1 C.2.1 hd ?_
    unfold dt_andL at this
    simp only [List.map_cons, dt_cv, Int64.ofInt_toInt] at this
    exact this
  · exact h.elim
def tc_lor (nx : Nat) : dt_T := fun _ _ K pc lv st M => match st with
  | .inr (.inl b) :: .inr (.inl a) :: r => K nx lv (.inr (.inl (dt_orL a b)) :: r) M
  | _ => False
theorem sn_lor {y : dt_Y} {nx pc : Nat} (hd : decode y.2.1 pc = .ok (.lor, 1)) (hx9 : nx = pc + 1) : dt_S y (tc_lor nx) pc := by
  subst hx9
  intro d Q K hK lv st M h
  unfold tc_lor at h
  split at h
  · next b a r =>
    intro ok p l e R s m args below meth c cells slots Qf D ad cA A C H locs ls hW hL
    have := hK _ _ _ _ h ⟨ok.1, ds_c (show dt_rL _ from dn_rl _) (ds_t (ds_t (ok.2.1))), ok.2.2⟩ p l e R s m args below meth c cells slots Qf D ad cA A C H locs ls hW hL
    refine lv_lor C.1 C.2.1 hd ?_
    unfold dt_orL at this
    simp only [List.map_cons, dt_cv, Int64.ofInt_toInt] at this
    exact this
  · exact h.elim
def tc_lshl (nx : Nat) : dt_T := fun _ _ K pc lv st M => match st with
  | .inl b :: .inr (.inl a) :: r => K nx lv (.inr (.inl (dt_shlL a b)) :: r) M
  | _ => False
theorem sn_lshl {y : dt_Y} {nx pc : Nat} (hd : decode y.2.1 pc = .ok (.lshl, 1)) (hx9 : nx = pc + 1) : dt_S y (tc_lshl nx) pc := by
  subst hx9
  intro d Q K hK lv st M h
  unfold tc_lshl at h
  split at h
  · next b a r =>
    intro ok p l e R s m args below meth c cells slots Qf D ad cA A C H locs ls hW hL
    have := hK _ _ _ _ h ⟨ok.1, ds_c (show dt_rL _ from dn_rl _) (ds_t (ds_t (ok.2.1))), ok.2.2⟩ p l e R s m args below meth c cells slots Qf D ad cA A C H locs ls hW hL
    unfold dt_shlL at this
    simp only [List.map_cons, dt_cv, Int64.ofInt_toInt] at this
    exact lv_lshl C.1 C.2.1 hd rfl this
  · exact h.elim
def tc_lshr (nx : Nat) : dt_T := fun _ _ K pc lv st M => match st with
  | .inl b :: .inr (.inl a) :: r => K nx lv (.inr (.inl (dt_shrL a b)) :: r) M
  | _ => False
theorem sn_lshr {y : dt_Y} {nx pc : Nat} (hd : decode y.2.1 pc = .ok (.lshr, 1)) (hx9 : nx = pc + 1) : dt_S y (tc_lshr nx) pc := by
  subst hx9
  intro d Q K hK lv st M h
  unfold tc_lshr at h
  split at h
  · next b a r =>
    intro ok p l e R s m args below meth c cells slots Qf D ad cA A C H locs ls hW hL
    have := hK _ _ _ _ h ⟨ok.1, ds_c (show dt_rL _ from dn_rl _) (ds_t (ds_t (ok.2.1))), ok.2.2⟩ p l e R s m args below meth c cells slots Qf D ad cA A C H locs ls hW hL
    unfold dt_shrL at this
    simp only [List.map_cons, dt_cv, Int64.ofInt_toInt] at this
    exact lv_lshr C.1 C.2.1 hd rfl this
  · exact h.elim
def tc_lushr (nx : Nat) : dt_T := fun _ _ K pc lv st M => match st with
  | .inl b :: .inr (.inl a) :: r => K nx lv (.inr (.inl (dt_ushrL a b)) :: r) M
  | _ => False
theorem sn_lushr {y : dt_Y} {nx pc : Nat} (hd : decode y.2.1 pc = .ok (.lushr, 1)) (hx9 : nx = pc + 1) : dt_S y (tc_lushr nx) pc := by
  subst hx9
  intro d Q K hK lv st M h
  unfold tc_lushr at h
  split at h
  · next b a r =>
    intro ok p l e R s m args below meth c cells slots Qf D ad cA A C H locs ls hW hL
    have := hK _ _ _ _ h ⟨ok.1, ds_c (show dt_rL _ from dn_rl _) (ds_t (ds_t (ok.2.1))), ok.2.2⟩ p l e R s m args below meth c cells slots Qf D ad cA A C H locs ls hW hL
    unfold dt_ushrL at this
    simp only [List.map_cons, dt_cv, Int64.ofInt_toInt] at this
    exact lv_lushr C.1 C.2.1 hd rfl this
  · exact h.elim
def tc_lcmp (nx : Nat) : dt_T := fun _ _ K pc lv st M => match st with
  | .inr (.inl b) :: .inr (.inl a) :: r => K nx lv (.inl (dt_cmp a b) :: r) M
  | _ => False
theorem sn_lcmp {y : dt_Y} {nx pc : Nat} (hd : decode y.2.1 pc = .ok (.lcmp, 1)) (hx9 : nx = pc + 1) : dt_S y (tc_lcmp nx) pc := by
  subst hx9
  intro d Q K hK lv st M h
  unfold tc_lcmp at h
  split at h
  · next b a r =>
    intro ok p l e R s m args below meth c cells slots Qf D ad cA A C H locs ls hW hL
    have := hK _ _ _ _ h ⟨ok.1, ds_c (show dt_r _ from dn_rcmp _ _) (ds_t (ds_t (ok.2.1))), ok.2.2⟩ p l e R s m args below meth c cells slots Qf D ad cA A C H locs ls hW hL
    refine W.lcmp C.1 C.2.1 hd ?_
    rw [dn_cmp (ds_h (ds_t ok.2.1)) (ds_h ok.2.1)]
    exact this
  · exact h.elim
def tc_i2l (nx : Nat) : dt_T := fun _ _ K pc lv st M => match st with
  | .inl a :: r => K nx lv (.inr (.inl a) :: r) M
  | _ => False
theorem sn_i2l {y : dt_Y} {nx pc : Nat} (hd : decode y.2.1 pc = .ok (.i2l, 1)) (hx9 : nx = pc + 1) : dt_S y (tc_i2l nx) pc := by
  subst hx9
  intro d Q K hK lv st M h
  unfold tc_i2l at h
  split at h
  · next a r =>
    intro ok p l e R s m args below meth c cells slots Qf D ad cA A C H locs ls hW hL
    have := hK _ _ _ _ h ⟨ok.1, ds_c (show dt_rL a from ⟨by have := (show dt_r a from ds_h ok.2.1).1; omega, by have := (show dt_r a from ds_h ok.2.1).2; omega⟩) (ds_t (ok.2.1)), ok.2.2⟩ p l e R s m args below meth c cells slots Qf D ad cA A C H locs ls hW hL
    exact lv_i2l C.1 C.2.1 hd (dn_i2l (ds_h ok.2.1)) this
  · exact h.elim
def tc_l2i (nx : Nat) : dt_T := fun _ _ K pc lv st M => match st with
  | .inr (.inl a) :: r => K nx lv (.inl (dt_l2i a) :: r) M
  | _ => False
theorem sn_l2i {y : dt_Y} {nx pc : Nat} (hd : decode y.2.1 pc = .ok (.l2i, 1)) (hx9 : nx = pc + 1) : dt_S y (tc_l2i nx) pc := by
  subst hx9
  intro d Q K hK lv st M h
  unfold tc_l2i at h
  split at h
  · next a r =>
    intro ok p l e R s m args below meth c cells slots Qf D ad cA A C H locs ls hW hL
    have := hK _ _ _ _ h ⟨ok.1, ds_c (show dt_r _ from dn_ri _) (ds_t (ok.2.1)), ok.2.2⟩ p l e R s m args below meth c cells slots Qf D ad cA A C H locs ls hW hL
    unfold dt_l2i at this
    simp only [List.map_cons, dt_cv, Int32.ofInt_toInt] at this
    exact lv_l2i C.1 C.2.1 hd rfl this
  · exact h.elim
def tc_dup (nx : Nat) : dt_T := fun _ _ K pc lv st M => match st with
  | .inl x :: r => K nx lv (.inl x :: .inl x :: r) M
  | .inr (.inr x) :: r => K nx lv (.inr (.inr x) :: .inr (.inr x) :: r) M
  | _ => False
theorem sn_dup {y : dt_Y} {nx pc : Nat} (hd : decode y.2.1 pc = .ok (.dup, 1)) (hx9 : nx = pc + 1) : dt_S y (tc_dup nx) pc := by
  subst hx9
  intro d Q K hK lv st M h
  unfold tc_dup at h
  split at h
  · next x r =>
    intro ok p l e R s m args below meth c cells slots Qf D ad cA A C H locs ls hW hL
    exact lv_dup C.1 C.2.1 hd rfl (hK _ _ _ _ h ⟨ok.1, ds_c (ds_h ok.2.1) ok.2.1, ok.2.2⟩ p l e R s m args below meth c cells slots Qf D ad cA A C H locs ls hW hL)
  · next x r =>
    intro ok p l e R s m args below meth c cells slots Qf D ad cA A C H locs ls hW hL
    exact lv_dup C.1 C.2.1 hd rfl (hK _ _ _ _ h ⟨ok.1, ds_c (ds_h ok.2.1) ok.2.1, ok.2.2⟩ p l e R s m args below meth c cells slots Qf D ad cA A C H locs ls hW hL)
  · exact h.elim
def tc_dup2 (nx : Nat) : dt_T := fun _ _ K pc lv st M => match st with
  | .inl x :: .inr (.inr q) :: r => K nx lv (.inl x :: .inr (.inr q) :: .inl x :: .inr (.inr q) :: r) M
  | _ => False
theorem sn_dup2 {y : dt_Y} {nx pc : Nat} (hd : decode y.2.1 pc = .ok (.dup2, 1)) (hx9 : nx = pc + 1) : dt_S y (tc_dup2 nx) pc := by
  subst hx9
  intro d Q K hK lv st M h
  unfold tc_dup2 at h
  split at h
  · next x q r =>
    intro ok p l e R s m args below meth c cells slots Qf D ad cA A C H locs ls hW hL
    exact lv_dup2_11 C.1 C.2.1 hd rfl rfl (hK _ _ _ _ h ⟨ok.1, ds_c (ds_h ok.2.1) (ds_c (ds_h (ds_t ok.2.1)) ok.2.1), ok.2.2⟩ p l e R s m args below meth c cells slots Qf D ad cA A C H locs ls hW hL)
  · exact h.elim
def tc_goto (t : Nat) : dt_T := fun _ _ K _ lv st M => K t lv st M
theorem sn_goto {y : dt_Y} {pc t : Nat} {o : Int} (hd : decode y.2.1 pc = .ok (.goto o, 3)) (ht : (pc : Int) + o = (t : Int)) : dt_S y (tc_goto t) pc := by
  intro d Q K hK lv st M h ok p l e R s m args below meth c cells slots Qf D ad cA A C H locs ls hW hL
  exact lv_goto C.1 C.2.1 hd ht (hK _ _ _ _ h ⟨ok.1, ok.2.1, ok.2.2⟩ p l e R s m args below meth c cells slots Qf D ad cA A C H locs ls hW hL)
def tc_ifeq (t : Nat) (nx : Nat) : dt_T := fun _ _ K pc lv st M => match st with
  | .inl a :: r => (a = 0 → K t lv r M) ∧ (¬ a = 0 → K nx lv r M)
  | _ => False
theorem sn_ifeq {y : dt_Y} {nx pc t : Nat} {o : Int} (hd : decode y.2.1 pc = .ok (.ifCond .eq o, 3)) (ht : (pc : Int) + o = (t : Int)) (hx9 : nx = pc + 3) : dt_S y (tc_ifeq t nx) pc := by
  subst hx9
  intro d Q K hK lv st M h
  unfold tc_ifeq at h
  split at h
  · next a r =>
    intro ok p l e R s m args below meth c cells slots Qf D ad cA A C H locs ls hW hL
    have ra : dt_r a := ds_h ok.2.1
    have e9 := dn_eq0 ra
    exact lv_if_eq C.1 C.2.1 hd ht (fun q => hK _ _ _ _ (h.1 (e9.mp q)) ⟨ok.1, ds_t ok.2.1, ok.2.2⟩ p l e R s m args below meth c cells slots Qf D ad cA A C H locs ls hW hL) (fun q => hK _ _ _ _ (h.2 (fun z => q (e9.mpr z))) ⟨ok.1, ds_t ok.2.1, ok.2.2⟩ p l e R s m args below meth c cells slots Qf D ad cA A C H locs ls hW hL)
  · exact h.elim
def tc_icmpeq (t : Nat) (nx : Nat) : dt_T := fun _ _ K pc lv st M => match st with
  | .inl b :: .inl a :: r => (a = b → K t lv r M) ∧ (¬ a = b → K nx lv r M)
  | _ => False
theorem sn_icmpeq {y : dt_Y} {nx pc t : Nat} {o : Int} (hd : decode y.2.1 pc = .ok (.if_icmp .eq o, 3)) (ht : (pc : Int) + o = (t : Int)) (hx9 : nx = pc + 3) : dt_S y (tc_icmpeq t nx) pc := by
  subst hx9
  intro d Q K hK lv st M h
  unfold tc_icmpeq at h
  split at h
  · next b a r =>
    intro ok p l e R s m args below meth c cells slots Qf D ad cA A C H locs ls hW hL
    have rb : dt_r b := ds_h ok.2.1
    have ra : dt_r a := ds_h (ds_t ok.2.1)
    have e9 := dn_eq ra rb
    exact lv_icmp_eq C.1 C.2.1 hd ht (fun q => hK _ _ _ _ (h.1 (e9.mp q)) ⟨ok.1, ds_t (ds_t ok.2.1), ok.2.2⟩ p l e R s m args below meth c cells slots Qf D ad cA A C H locs ls hW hL) (fun q => hK _ _ _ _ (h.2 (fun z => q (e9.mpr z))) ⟨ok.1, ds_t (ds_t ok.2.1), ok.2.2⟩ p l e R s m args below meth c cells slots Qf D ad cA A C H locs ls hW hL)
  · exact h.elim
def tc_ifne (t : Nat) (nx : Nat) : dt_T := fun _ _ K pc lv st M => match st with
  | .inl a :: r => (¬ a = 0 → K t lv r M) ∧ (a = 0 → K nx lv r M)
  | _ => False
theorem sn_ifne {y : dt_Y} {nx pc t : Nat} {o : Int} (hd : decode y.2.1 pc = .ok (.ifCond .ne o, 3)) (ht : (pc : Int) + o = (t : Int)) (hx9 : nx = pc + 3) : dt_S y (tc_ifne t nx) pc := by
  subst hx9
  intro d Q K hK lv st M h
  unfold tc_ifne at h
  split at h
  · next a r =>
    intro ok p l e R s m args below meth c cells slots Qf D ad cA A C H locs ls hW hL
    have ra : dt_r a := ds_h ok.2.1
    have e9 := not_congr (dn_eq0 ra)
    exact lv_if_ne C.1 C.2.1 hd ht (fun q => hK _ _ _ _ (h.1 (e9.mp q)) ⟨ok.1, ds_t ok.2.1, ok.2.2⟩ p l e R s m args below meth c cells slots Qf D ad cA A C H locs ls hW hL) (fun q => hK _ _ _ _ (h.2 ((dn_eq0 ra).mp q)) ⟨ok.1, ds_t ok.2.1, ok.2.2⟩ p l e R s m args below meth c cells slots Qf D ad cA A C H locs ls hW hL)
  · exact h.elim
def tc_icmpne (t : Nat) (nx : Nat) : dt_T := fun _ _ K pc lv st M => match st with
  | .inl b :: .inl a :: r => (¬ a = b → K t lv r M) ∧ (a = b → K nx lv r M)
  | _ => False
theorem sn_icmpne {y : dt_Y} {nx pc t : Nat} {o : Int} (hd : decode y.2.1 pc = .ok (.if_icmp .ne o, 3)) (ht : (pc : Int) + o = (t : Int)) (hx9 : nx = pc + 3) : dt_S y (tc_icmpne t nx) pc := by
  subst hx9
  intro d Q K hK lv st M h
  unfold tc_icmpne at h
  split at h
  · next b a r =>
    intro ok p l e R s m args below meth c cells slots Qf D ad cA A C H locs ls hW hL
    have rb : dt_r b := ds_h ok.2.1
    have ra : dt_r a := ds_h (ds_t ok.2.1)
    have e9 := not_congr (dn_eq ra rb)
    exact lv_icmp_ne C.1 C.2.1 hd ht (fun q => hK _ _ _ _ (h.1 (e9.mp q)) ⟨ok.1, ds_t (ds_t ok.2.1), ok.2.2⟩ p l e R s m args below meth c cells slots Qf D ad cA A C H locs ls hW hL) (fun q => hK _ _ _ _ (h.2 ((dn_eq ra rb).mp q)) ⟨ok.1, ds_t (ds_t ok.2.1), ok.2.2⟩ p l e R s m args below meth c cells slots Qf D ad cA A C H locs ls hW hL)
  · exact h.elim
def tc_iflt (t : Nat) (nx : Nat) : dt_T := fun _ _ K pc lv st M => match st with
  | .inl a :: r => (a < 0 → K t lv r M) ∧ (0 ≤ a → K nx lv r M)
  | _ => False
theorem sn_iflt {y : dt_Y} {nx pc t : Nat} {o : Int} (hd : decode y.2.1 pc = .ok (.ifCond .lt o, 3)) (ht : (pc : Int) + o = (t : Int)) (hx9 : nx = pc + 3) : dt_S y (tc_iflt t nx) pc := by
  subst hx9
  intro d Q K hK lv st M h
  unfold tc_iflt at h
  split at h
  · next a r =>
    intro ok p l e R s m args below meth c cells slots Qf D ad cA A C H locs ls hW hL
    have ra : dt_r a := ds_h ok.2.1
    have e9 := dn_lt0 ra
    exact lv_if_lt C.1 C.2.1 hd ht (fun q => hK _ _ _ _ (h.1 (e9.mp q)) ⟨ok.1, ds_t ok.2.1, ok.2.2⟩ p l e R s m args below meth c cells slots Qf D ad cA A C H locs ls hW hL) (fun q => hK _ _ _ _ (h.2 (Int.not_lt.mp (fun z => q (e9.mpr z)))) ⟨ok.1, ds_t ok.2.1, ok.2.2⟩ p l e R s m args below meth c cells slots Qf D ad cA A C H locs ls hW hL)
  · exact h.elim
def tc_icmplt (t : Nat) (nx : Nat) : dt_T := fun _ _ K pc lv st M => match st with
  | .inl b :: .inl a :: r => (a < b → K t lv r M) ∧ (b ≤ a → K nx lv r M)
  | _ => False
theorem sn_icmplt {y : dt_Y} {nx pc t : Nat} {o : Int} (hd : decode y.2.1 pc = .ok (.if_icmp .lt o, 3)) (ht : (pc : Int) + o = (t : Int)) (hx9 : nx = pc + 3) : dt_S y (tc_icmplt t nx) pc := by
  subst hx9
  intro d Q K hK lv st M h
  unfold tc_icmplt at h
  split at h
  · next b a r =>
    intro ok p l e R s m args below meth c cells slots Qf D ad cA A C H locs ls hW hL
    have rb : dt_r b := ds_h ok.2.1
    have ra : dt_r a := ds_h (ds_t ok.2.1)
    have e9 := dn_lt ra rb
    exact lv_icmp_lt C.1 C.2.1 hd ht (fun q => hK _ _ _ _ (h.1 (e9.mp q)) ⟨ok.1, ds_t (ds_t ok.2.1), ok.2.2⟩ p l e R s m args below meth c cells slots Qf D ad cA A C H locs ls hW hL) (fun q => hK _ _ _ _ (h.2 (Int.not_lt.mp (fun z => q (e9.mpr z)))) ⟨ok.1, ds_t (ds_t ok.2.1), ok.2.2⟩ p l e R s m args below meth c cells slots Qf D ad cA A C H locs ls hW hL)
  · exact h.elim
def tc_ifge (t : Nat) (nx : Nat) : dt_T := fun _ _ K pc lv st M => match st with
  | .inl a :: r => (0 ≤ a → K t lv r M) ∧ (a < 0 → K nx lv r M)
  | _ => False
theorem sn_ifge {y : dt_Y} {nx pc t : Nat} {o : Int} (hd : decode y.2.1 pc = .ok (.ifCond .ge o, 3)) (ht : (pc : Int) + o = (t : Int)) (hx9 : nx = pc + 3) : dt_S y (tc_ifge t nx) pc := by
  subst hx9
  intro d Q K hK lv st M h
  unfold tc_ifge at h
  split at h
  · next a r =>
    intro ok p l e R s m args below meth c cells slots Qf D ad cA A C H locs ls hW hL
    have ra : dt_r a := ds_h ok.2.1
    have e9 := dn_0le ra
    exact lv_if_ge C.1 C.2.1 hd ht (fun q => hK _ _ _ _ (h.1 (e9.mp q)) ⟨ok.1, ds_t ok.2.1, ok.2.2⟩ p l e R s m args below meth c cells slots Qf D ad cA A C H locs ls hW hL) (fun q => hK _ _ _ _ (h.2 (Int.not_le.mp (fun z => q (e9.mpr z)))) ⟨ok.1, ds_t ok.2.1, ok.2.2⟩ p l e R s m args below meth c cells slots Qf D ad cA A C H locs ls hW hL)
  · exact h.elim
def tc_icmpge (t : Nat) (nx : Nat) : dt_T := fun _ _ K pc lv st M => match st with
  | .inl b :: .inl a :: r => (b ≤ a → K t lv r M) ∧ (a < b → K nx lv r M)
  | _ => False
theorem sn_icmpge {y : dt_Y} {nx pc t : Nat} {o : Int} (hd : decode y.2.1 pc = .ok (.if_icmp .ge o, 3)) (ht : (pc : Int) + o = (t : Int)) (hx9 : nx = pc + 3) : dt_S y (tc_icmpge t nx) pc := by
  subst hx9
  intro d Q K hK lv st M h
  unfold tc_icmpge at h
  split at h
  · next b a r =>
    intro ok p l e R s m args below meth c cells slots Qf D ad cA A C H locs ls hW hL
    have rb : dt_r b := ds_h ok.2.1
    have ra : dt_r a := ds_h (ds_t ok.2.1)
    have e9 := dn_le rb ra
    exact lv_icmp_ge C.1 C.2.1 hd ht (fun q => hK _ _ _ _ (h.1 (e9.mp q)) ⟨ok.1, ds_t (ds_t ok.2.1), ok.2.2⟩ p l e R s m args below meth c cells slots Qf D ad cA A C H locs ls hW hL) (fun q => hK _ _ _ _ (h.2 (Int.not_le.mp (fun z => q (e9.mpr z)))) ⟨ok.1, ds_t (ds_t ok.2.1), ok.2.2⟩ p l e R s m args below meth c cells slots Qf D ad cA A C H locs ls hW hL)
  · exact h.elim
def tc_ifgt (t : Nat) (nx : Nat) : dt_T := fun _ _ K pc lv st M => match st with
  | .inl a :: r => (0 < a → K t lv r M) ∧ (a ≤ 0 → K nx lv r M)
  | _ => False
theorem sn_ifgt {y : dt_Y} {nx pc t : Nat} {o : Int} (hd : decode y.2.1 pc = .ok (.ifCond .gt o, 3)) (ht : (pc : Int) + o = (t : Int)) (hx9 : nx = pc + 3) : dt_S y (tc_ifgt t nx) pc := by
  subst hx9
  intro d Q K hK lv st M h
  unfold tc_ifgt at h
  split at h
  · next a r =>
    intro ok p l e R s m args below meth c cells slots Qf D ad cA A C H locs ls hW hL
    have ra : dt_r a := ds_h ok.2.1
    have e9 := dn_0lt ra
    exact lv_if_gt C.1 C.2.1 hd ht (fun q => hK _ _ _ _ (h.1 (e9.mp q)) ⟨ok.1, ds_t ok.2.1, ok.2.2⟩ p l e R s m args below meth c cells slots Qf D ad cA A C H locs ls hW hL) (fun q => hK _ _ _ _ (h.2 (Int.not_lt.mp (fun z => q (e9.mpr z)))) ⟨ok.1, ds_t ok.2.1, ok.2.2⟩ p l e R s m args below meth c cells slots Qf D ad cA A C H locs ls hW hL)
  · exact h.elim
def tc_icmpgt (t : Nat) (nx : Nat) : dt_T := fun _ _ K pc lv st M => match st with
  | .inl b :: .inl a :: r => (b < a → K t lv r M) ∧ (a ≤ b → K nx lv r M)
  | _ => False
theorem sn_icmpgt {y : dt_Y} {nx pc t : Nat} {o : Int} (hd : decode y.2.1 pc = .ok (.if_icmp .gt o, 3)) (ht : (pc : Int) + o = (t : Int)) (hx9 : nx = pc + 3) : dt_S y (tc_icmpgt t nx) pc := by
  subst hx9
  intro d Q K hK lv st M h
  unfold tc_icmpgt at h
  split at h
  · next b a r =>
    intro ok p l e R s m args below meth c cells slots Qf D ad cA A C H locs ls hW hL
    have rb : dt_r b := ds_h ok.2.1
    have ra : dt_r a := ds_h (ds_t ok.2.1)
    have e9 := dn_lt rb ra
    exact lv_icmp_gt C.1 C.2.1 hd ht (fun q => hK _ _ _ _ (h.1 (e9.mp q)) ⟨ok.1, ds_t (ds_t ok.2.1), ok.2.2⟩ p l e R s m args below meth c cells slots Qf D ad cA A C H locs ls hW hL) (fun q => hK _ _ _ _ (h.2 (Int.not_lt.mp (fun z => q (e9.mpr z)))) ⟨ok.1, ds_t (ds_t ok.2.1), ok.2.2⟩ p l e R s m args below meth c cells slots Qf D ad cA A C H locs ls hW hL)
  · exact h.elim
def tc_ifle (t : Nat) (nx : Nat) : dt_T := fun _ _ K pc lv st M => match st with
  | .inl a :: r => (a ≤ 0 → K t lv r M) ∧ (0 < a → K nx lv r M)
  | _ => False
theorem sn_ifle {y : dt_Y} {nx pc t : Nat} {o : Int} (hd : decode y.2.1 pc = .ok (.ifCond .le o, 3)) (ht : (pc : Int) + o = (t : Int)) (hx9 : nx = pc + 3) : dt_S y (tc_ifle t nx) pc := by
  subst hx9
  intro d Q K hK lv st M h
  unfold tc_ifle at h
  split at h
  · next a r =>
    intro ok p l e R s m args below meth c cells slots Qf D ad cA A C H locs ls hW hL
    have ra : dt_r a := ds_h ok.2.1
    have e9 := dn_le0 ra
    exact lv_if_le C.1 C.2.1 hd ht (fun q => hK _ _ _ _ (h.1 (e9.mp q)) ⟨ok.1, ds_t ok.2.1, ok.2.2⟩ p l e R s m args below meth c cells slots Qf D ad cA A C H locs ls hW hL) (fun q => hK _ _ _ _ (h.2 (Int.not_le.mp (fun z => q (e9.mpr z)))) ⟨ok.1, ds_t ok.2.1, ok.2.2⟩ p l e R s m args below meth c cells slots Qf D ad cA A C H locs ls hW hL)
  · exact h.elim
def tc_icmple (t : Nat) (nx : Nat) : dt_T := fun _ _ K pc lv st M => match st with
  | .inl b :: .inl a :: r => (a ≤ b → K t lv r M) ∧ (b < a → K nx lv r M)
  | _ => False
theorem sn_icmple {y : dt_Y} {nx pc t : Nat} {o : Int} (hd : decode y.2.1 pc = .ok (.if_icmp .le o, 3)) (ht : (pc : Int) + o = (t : Int)) (hx9 : nx = pc + 3) : dt_S y (tc_icmple t nx) pc := by
  subst hx9
  intro d Q K hK lv st M h
  unfold tc_icmple at h
  split at h
  · next b a r =>
    intro ok p l e R s m args below meth c cells slots Qf D ad cA A C H locs ls hW hL
    have rb : dt_r b := ds_h ok.2.1
    have ra : dt_r a := ds_h (ds_t ok.2.1)
    have e9 := dn_le ra rb
    exact lv_icmp_le C.1 C.2.1 hd ht (fun q => hK _ _ _ _ (h.1 (e9.mp q)) ⟨ok.1, ds_t (ds_t ok.2.1), ok.2.2⟩ p l e R s m args below meth c cells slots Qf D ad cA A C H locs ls hW hL) (fun q => hK _ _ _ _ (h.2 (Int.not_le.mp (fun z => q (e9.mpr z)))) ⟨ok.1, ds_t (ds_t ok.2.1), ok.2.2⟩ p l e R s m args below meth c cells slots Qf D ad cA A C H locs ls hW hL)
  · exact h.elim
end
section
/-! ===== fields and arrays ===== -/
/-- what is known of a class: its row, its words, its fields' types and names -/
def dt_F (ci : Nat) (C : String) (T : u_T) (N : Nat) : Prop := vwCl[ci]? = some (C, T, N) ∧ (∀ w ∈ u_ws C T N, w ∈ dt_W0) ∧ (∃ ty : Nat → FieldType, ∀ k, k < N → parseFieldDescriptor (T k).2.2.1 = some (ty k)) ∧ (∀ a, a < N → ∀ b, b < N → a ≠ b → (T a).2.1 ≠ (T b).2.1)
def dt_cn (k : Nat) : Bool := !(Nat.ble 4 (dt_kd k).1) || ((vwCl[(dt_kd k).1 - 4]?).map (fun q => q.2.2) == some (dt_kd k).2)
theorem dk_cn : (List.range 86).all dt_cn = true := by decide +kernel
theorem dk_N {ci k n N : Nat} {C : String} {T : u_T} (hk : dt_kd k = (ci + 4, n)) (hc : ci < 46) (hF : vwCl[ci]? = some (C, T, N)) : n = N := by
  have h := List.all_eq_true.mp dk_cn k (List.mem_range.mpr (dk_lt hk (by omega)))
  unfold dt_cn at h
  rw [hk] at h
  simp only at h
  rw [show Nat.ble 4 (ci + 4) = true from Nat.ble_eq.mpr (by omega), Bool.not_true, Bool.false_or, show ci + 4 - 4 = ci by omega, hF] at h
  have h2 : some N = some n := eq_of_beq h
  cases h2; rfl
theorem dk_c8 {ci : Nat} {q : vw_C} (h : vwCl[ci]? = some q) : ci < 46 := by
  have := (List.getElem?_eq_some_iff.mp h).1
  have e : vwCl.length = 8 := rfl
  omega
theorem dt_cd {b : Bool} {A : Prop} (h : cond b A False) : b = true ∧ A := by
  cases b
  · exact h.elim
  · exact ⟨rfl, h⟩
def tc_getf (ci j : Nat) (nx : Nat) : dt_T := fun _ _ K pc lv st M => match st with
  | .inr (.inr (t, _, k)) :: r => cond (t == ci + 4) (K nx lv (dt_gf ci j k M :: r) M) False
  | _ => False
theorem sn_getf {y : dt_Y} {nx pc ci j index N : Nat} {own C : String} {T : u_T} (ho : y.1.cls = own) (hF : dt_F ci C T N) (hj : j < N) (hw : Cond.fieldLink own index (T j).1 (T j).2.1 (T j).2.2.1 ∈ dt_W0) (hd : decode y.2.1 pc = .ok (.getfield index, 3)) (hx9 : nx = pc + 3) : dt_S y (tc_getf ci j nx) pc := by
  subst hx9
  intro d Q K hK lv st M h
  unfold tc_getf at h
  split at h
  · next t n k r =>
    obtain ⟨ht0, h9⟩ := dt_cd h
    have ht : t = ci + 4 := eq_of_beq ht0
    clear h
    subst ht
    intro ok p l e R s m args below meth c cells slots Qf D ad cA A C H locs ls hW hL
    have hk : dt_kd k = (ci + 4, n) := ds_h ok.2.1
    have hn := dk_N hk (dk_c8 hF.1) hF.1
    subst hn
    have := hK _ _ _ _ h9 ⟨ok.1, ds_c (dk_gf ok.2.2 hk (dk_c8 hF.1) hj) (ds_t ok.2.1), ok.2.2⟩ p l e R s m args below meth c cells slots Qf D ad cA A C H locs ls hW hL
    refine va_get C.1 C.2.1 C.2.2.2.2.1 hF.2.1 (own := own) (ho ▸ C.2.2.2.1) C.2.2.2.2.2.1 hW.1 k (by rw [dw_at (dk_lt hk (by have := dk_c8 hF.1; omega)), dw_obj hk]) hF.1 j hj (C.2.2.2.2.1 _ hw) (fun _ h9 => h9) (v := dt_cv ad (dt_gf ci j k M)) (by simp [hj]) hd this
  · exact h.elim
theorem sn_getfN {y : dt_Y} {nx pc ci j index N : Nat} {own C host : String} {T : u_T} (ho : y.1.cls = own) (hF : dt_F ci C T N) (hj : j < N) (hw : Cond.fieldLinkNest own index (T j).1 (T j).2.1 (T j).2.2.1 host ∈ dt_NW) (hd : decode y.2.1 pc = .ok (.getfield index, 3)) (hx9 : nx = pc + 3) : dt_S y (tc_getf ci j nx) pc := by
  subst hx9
  intro d Q K hK lv st M h
  unfold tc_getf at h
  split at h
  · next t n k r =>
    obtain ⟨ht0, h9⟩ := dt_cd h
    have ht : t = ci + 4 := eq_of_beq ht0
    clear h
    subst ht
    intro ok p l e R s m args below meth c cells slots Qf D ad cA A C H locs ls hW hL
    have hk : dt_kd k = (ci + 4, n) := ds_h ok.2.1
    have hn := dk_N hk (dk_c8 hF.1) hF.1
    subst hn
    have := hK _ _ _ _ h9 ⟨ok.1, ds_c (dk_gf ok.2.2 hk (dk_c8 hF.1) hj) (ds_t ok.2.1), ok.2.2⟩ p l e R s m args below meth c cells slots Qf D ad cA A C H locs ls hW hL
    refine va_getN C.1 C.2.1 C.2.2.2.2.1 hF.2.1 (own := own) (ho ▸ C.2.2.2.1) C.2.2.2.2.2.1 hW.1 k (by rw [dw_at (dk_lt hk (by have := dk_c8 hF.1; omega)), dw_obj hk]) hF.1 j hj (va_Nw.use rfl (C.2.2.2.2.2.2.1 _ hw)) (fun _ h9 => h9) (v := dt_cv ad (dt_gf ci j k M)) (by simp [hj]) hd this
  · exact h.elim
theorem dw_putI {M : dt_M} {ad : Nat → Nat} {cA : Nat → ClassId} {ci j k N : Nat} {x : Int} (hk : dt_kd k = (ci + 4, N)) (hj : j < N) (h0 : (dt_fd ci j).1 = 0) : dt_wc (dt_wi M k j x) ad cA k = .inr (ci, ((List.range N).map (fun i => dt_cv ad (dt_gf ci i k M))).set j (.int (Int32.ofInt x))) := by
  rw [dw_obj hk]
  congr 2
  apply List.ext_getElem?
  intro i
  by_cases hij : i = j
  · subst hij
    rw [List.getElem?_set_self (by simpa using hj)]
    simp only [List.getElem?_map, List.getElem?_range hj, Option.map_some]
    congr 1
    unfold dt_gf
    obtain ⟨a, b, c, d, hq⟩ : ∃ a b c d, dt_fd ci i = (a, b, c, d) := ⟨_, _, _, _, rfl⟩
    rw [hq] at h0 ⊢
    simp only at h0
    subst h0
    simp only [dm_wi1, dm_up1, dt_cv]
  · rw [List.getElem?_set_ne (Ne.symm hij)]
    by_cases hi : i < N
    · simp only [List.getElem?_map, List.getElem?_range hi, Option.map_some]
      congr 2
      unfold dt_gf
      rw [dm_wi1, dm_up2 hij, dm_wi3]
    · rw [List.getElem?_eq_none (by simp; omega), List.getElem?_eq_none (by simp; omega)]
theorem dw_putL {M : dt_M} {ad : Nat → Nat} {cA : Nat → ClassId} {ci j k N : Nat} {x : Int} (hk : dt_kd k = (ci + 4, N)) (hj : j < N) (h0 : (dt_fd ci j).1 = 1) : dt_wc (dt_wl M k j x) ad cA k = .inr (ci, ((List.range N).map (fun i => dt_cv ad (dt_gf ci i k M))).set j (.long (Int64.ofInt x))) := by
  rw [dw_obj hk]
  congr 2
  apply List.ext_getElem?
  intro i
  by_cases hij : i = j
  · subst hij
    rw [List.getElem?_set_self (by simpa using hj)]
    simp only [List.getElem?_map, List.getElem?_range hj, Option.map_some]
    congr 1
    unfold dt_gf
    obtain ⟨a, b, c, d, hq⟩ : ∃ a b c d, dt_fd ci i = (a, b, c, d) := ⟨_, _, _, _, rfl⟩
    rw [hq] at h0 ⊢
    simp only at h0
    subst h0
    simp only [dm_wl1, dm_up1, dt_cv]
  · rw [List.getElem?_set_ne (Ne.symm hij)]
    by_cases hi : i < N
    · simp only [List.getElem?_map, List.getElem?_range hi, Option.map_some]
      congr 2
      unfold dt_gf
      rw [dm_wl1, dm_up2 hij, dm_wl3]
    · rw [List.getElem?_eq_none (by simp; omega), List.getElem?_eq_none (by simp; omega)]
theorem dw_onlyi {M : dt_M} {k j : Nat} {x : Int} : ∀ i, i ≠ k → (dt_wi M k j x).1 i = M.1 i ∧ (dt_wi M k j x).2 i = M.2 i := fun _ h => ⟨dm_wi2 h, rfl⟩
theorem dw_onlyl {M : dt_M} {k j : Nat} {x : Int} : ∀ i, i ≠ k → (dt_wl M k j x).1 i = M.1 i ∧ (dt_wl M k j x).2 i = M.2 i := fun _ h => ⟨rfl, dm_wl2 h⟩
def tc_putI (ci j : Nat) (nx : Nat) : dt_T := fun _ _ K pc lv st M => match st with
  | .inl x :: .inr (.inr (t, _, k)) :: r => cond (t == ci + 4) (∀ M1, M1 = dt_wi M k j x → K nx lv r M1) False
  | _ => False
theorem sn_putI {y : dt_Y} {nx pc ci j index N : Nat} {own C : String} {T : u_T} (ho : y.1.cls = own) (hF : dt_F ci C T N) (hj : j < N) (h0 : (dt_fd ci j).1 = 0) (hfin : (T j).2.2.2 = false) (hty : parseFieldDescriptor (T j).2.2.1 = some .int) (hw : Cond.fieldLink own index (T j).1 (T j).2.1 (T j).2.2.1 ∈ dt_W0) (hd : decode y.2.1 pc = .ok (.putfield index, 3)) (hx9 : nx = pc + 3) : dt_S y (tc_putI ci j nx) pc := by
  subst hx9
  intro d Q K hK lv st M h
  unfold tc_putI at h
  split at h
  · next x t n k r =>
    obtain ⟨ht0, h9⟩ := dt_cd h
    have ht : t = ci + 4 := eq_of_beq ht0
    clear h
    subst ht
    intro ok p l e R s m args below meth c cells slots Qf D ad cA A C H locs ls hW hL
    have hk : dt_kd k = (ci + 4, n) := ds_h (ds_t ok.2.1)
    have hn := dk_N hk (dk_c8 hF.1) hF.1
    subst hn
    have hkl := dk_lt hk (by have := dk_c8 hF.1; omega)
    obtain ⟨ty0, hty0⟩ := hF.2.2.1
    refine va_put C.1 C.2.1 C.2.2.2.2.1 hF.2.1 ty0 hty0 hF.2.2.2 (own := own) (ho ▸ C.2.2.2.1) C.2.2.2.2.2.1 hW.1 hW.2.1 hW.2.2 k (by rw [dw_at hkl, dw_obj hk]) hF.1 j hj (C.2.2.2.2.1 _ hw) (fun _ h9 => h9) hfin (v := .int (Int32.ofInt x)) hty (vp_nar_int _) rfl (by simpa using hj) hd (fun H1 locs1 hP1 hD1 hS1 => ?_)
    rw [dw_set hkl (dw_putI hk hj h0) dw_onlyi] at hP1 hD1
    exact hK _ _ _ _ (h9 _ rfl) ⟨ok.1, ds_t (ds_t ok.2.1), dm_rwi ok.2.2 (ds_h ok.2.1)⟩ p l e R s m args below meth c cells slots Qf D ad cA A C H1 locs1 ls ⟨hP1, hD1, hS1⟩ hL
  · exact h.elim
theorem sn_putIN {y : dt_Y} {nx pc ci j index N : Nat} {own C host : String} {T : u_T} (ho : y.1.cls = own) (hF : dt_F ci C T N) (hj : j < N) (h0 : (dt_fd ci j).1 = 0) (hfin : (T j).2.2.2 = false) (hty : parseFieldDescriptor (T j).2.2.1 = some .int) (hw : Cond.fieldLinkNest own index (T j).1 (T j).2.1 (T j).2.2.1 host ∈ dt_NW) (hd : decode y.2.1 pc = .ok (.putfield index, 3)) (hx9 : nx = pc + 3) : dt_S y (tc_putI ci j nx) pc := by
  subst hx9
  intro d Q K hK lv st M h
  unfold tc_putI at h
  split at h
  · next x t n k r =>
    obtain ⟨ht0, h9⟩ := dt_cd h
    have ht : t = ci + 4 := eq_of_beq ht0
    clear h
    subst ht
    intro ok p l e R s m args below meth c cells slots Qf D ad cA A C H locs ls hW hL
    have hk : dt_kd k = (ci + 4, n) := ds_h (ds_t ok.2.1)
    have hn := dk_N hk (dk_c8 hF.1) hF.1
    subst hn
    have hkl := dk_lt hk (by have := dk_c8 hF.1; omega)
    obtain ⟨ty0, hty0⟩ := hF.2.2.1
    refine va_putN C.1 C.2.1 C.2.2.2.2.1 hF.2.1 ty0 hty0 hF.2.2.2 (own := own) (ho ▸ C.2.2.2.1) C.2.2.2.2.2.1 hW.1 hW.2.1 hW.2.2 k (by rw [dw_at hkl, dw_obj hk]) hF.1 j hj (va_Nw.use rfl (C.2.2.2.2.2.2.1 _ hw)) (fun _ h9 => h9) hfin (v := .int (Int32.ofInt x)) hty (vp_nar_int _) rfl (by simpa using hj) hd (fun H1 locs1 hP1 hD1 hS1 => ?_)
    rw [dw_set hkl (dw_putI hk hj h0) dw_onlyi] at hP1 hD1
    exact hK _ _ _ _ (h9 _ rfl) ⟨ok.1, ds_t (ds_t ok.2.1), dm_rwi ok.2.2 (ds_h ok.2.1)⟩ p l e R s m args below meth c cells slots Qf D ad cA A C H1 locs1 ls ⟨hP1, hD1, hS1⟩ hL
  · exact h.elim
def tc_putL (ci j : Nat) (nx : Nat) : dt_T := fun _ _ K pc lv st M => match st with
  | .inr (.inl x) :: .inr (.inr (t, _, k)) :: r => cond (t == ci + 4) (∀ M1, M1 = dt_wl M k j x → K nx lv r M1) False
  | _ => False
theorem sn_putL {y : dt_Y} {nx pc ci j index N : Nat} {own C : String} {T : u_T} (ho : y.1.cls = own) (hF : dt_F ci C T N) (hj : j < N) (h0 : (dt_fd ci j).1 = 1) (hfin : (T j).2.2.2 = false) (hty : parseFieldDescriptor (T j).2.2.1 = some .long) (hw : Cond.fieldLink own index (T j).1 (T j).2.1 (T j).2.2.1 ∈ dt_W0) (hd : decode y.2.1 pc = .ok (.putfield index, 3)) (hx9 : nx = pc + 3) : dt_S y (tc_putL ci j nx) pc := by
  subst hx9
  intro d Q K hK lv st M h
  unfold tc_putL at h
  split at h
  · next x t n k r =>
    obtain ⟨ht0, h9⟩ := dt_cd h
    have ht : t = ci + 4 := eq_of_beq ht0
    clear h
    subst ht
    intro ok p l e R s m args below meth c cells slots Qf D ad cA A C H locs ls hW hL
    have hk : dt_kd k = (ci + 4, n) := ds_h (ds_t ok.2.1)
    have hn := dk_N hk (dk_c8 hF.1) hF.1
    subst hn
    have hkl := dk_lt hk (by have := dk_c8 hF.1; omega)
    obtain ⟨ty0, hty0⟩ := hF.2.2.1
    refine va_put C.1 C.2.1 C.2.2.2.2.1 hF.2.1 ty0 hty0 hF.2.2.2 (own := own) (ho ▸ C.2.2.2.1) C.2.2.2.2.2.1 hW.1 hW.2.1 hW.2.2 k (by rw [dw_at hkl, dw_obj hk]) hF.1 j hj (C.2.2.2.2.1 _ hw) (fun _ h9 => h9) hfin (v := .long (Int64.ofInt x)) hty (rfl) rfl (by simpa using hj) hd (fun H1 locs1 hP1 hD1 hS1 => ?_)
    rw [dw_set hkl (dw_putL hk hj h0) dw_onlyl] at hP1 hD1
    exact hK _ _ _ _ (h9 _ rfl) ⟨ok.1, ds_t (ds_t ok.2.1), dm_rwl ok.2.2 (ds_h ok.2.1)⟩ p l e R s m args below meth c cells slots Qf D ad cA A C H1 locs1 ls ⟨hP1, hD1, hS1⟩ hL
  · exact h.elim
theorem sn_putLN {y : dt_Y} {nx pc ci j index N : Nat} {own C host : String} {T : u_T} (ho : y.1.cls = own) (hF : dt_F ci C T N) (hj : j < N) (h0 : (dt_fd ci j).1 = 1) (hfin : (T j).2.2.2 = false) (hty : parseFieldDescriptor (T j).2.2.1 = some .long) (hw : Cond.fieldLinkNest own index (T j).1 (T j).2.1 (T j).2.2.1 host ∈ dt_NW) (hd : decode y.2.1 pc = .ok (.putfield index, 3)) (hx9 : nx = pc + 3) : dt_S y (tc_putL ci j nx) pc := by
  subst hx9
  intro d Q K hK lv st M h
  unfold tc_putL at h
  split at h
  · next x t n k r =>
    obtain ⟨ht0, h9⟩ := dt_cd h
    have ht : t = ci + 4 := eq_of_beq ht0
    clear h
    subst ht
    intro ok p l e R s m args below meth c cells slots Qf D ad cA A C H locs ls hW hL
    have hk : dt_kd k = (ci + 4, n) := ds_h (ds_t ok.2.1)
    have hn := dk_N hk (dk_c8 hF.1) hF.1
    subst hn
    have hkl := dk_lt hk (by have := dk_c8 hF.1; omega)
    obtain ⟨ty0, hty0⟩ := hF.2.2.1
    refine va_putN C.1 C.2.1 C.2.2.2.2.1 hF.2.1 ty0 hty0 hF.2.2.2 (own := own) (ho ▸ C.2.2.2.1) C.2.2.2.2.2.1 hW.1 hW.2.1 hW.2.2 k (by rw [dw_at hkl, dw_obj hk]) hF.1 j hj (va_Nw.use rfl (C.2.2.2.2.2.2.1 _ hw)) (fun _ h9 => h9) hfin (v := .long (Int64.ofInt x)) hty (rfl) rfl (by simpa using hj) hd (fun H1 locs1 hP1 hD1 hS1 => ?_)
    rw [dw_set hkl (dw_putL hk hj h0) dw_onlyl] at hP1 hD1
    exact hK _ _ _ _ (h9 _ rfl) ⟨ok.1, ds_t (ds_t ok.2.1), dm_rwl ok.2.2 (ds_h ok.2.1)⟩ p l e R s m args below meth c cells slots Qf D ad cA A C H1 locs1 ls ⟨hP1, hD1, hS1⟩ hL
  · exact h.elim
def tc_iald (nx : Nat) : dt_T := fun _ _ K pc lv st M => match st with
  | .inl i :: .inr (.inr (0, n, k)) :: r => (0 ≤ i ∧ i < (n : Int)) ∧ K nx lv (.inl (M.1 k i.toNat) :: r) M
  | _ => False
theorem sn_iald {y : dt_Y} {nx pc : Nat} (hd : decode y.2.1 pc = .ok (.iaload, 1)) (hx9 : nx = pc + 1) : dt_S y (tc_iald nx) pc := by
  subst hx9
  intro d Q K hK lv st M h
  unfold tc_iald at h
  split at h
  · next i n k r =>
    intro ok p l e R s m args below meth c cells slots Qf D ad cA A C H locs ls hW hL
    have hk : dt_kd k = (0, n) := ds_h (ds_t ok.2.1)
    have hi : dt_r i := ds_h ok.2.1
    have hkl := dk_lt hk (by decide)
    have := hK _ _ _ _ h.2 ⟨ok.1, ds_c (show dt_okv _ from ok.2.2.1 _ _) (ds_t (ds_t ok.2.1)), ok.2.2⟩ p l e R s m args below meth c cells slots Qf D ad cA A C H locs ls hW hL
    refine va_iald C.1 C.2.1 C.2.2.2.2.2.1 hW.1 k 0 (by rw [dw_at hkl, dw_int hk]) rfl (dn_in hi h.1.1 h.1.2) hd ?_
    rw [dn_cl hi]
    exact this
  · exact h.elim
def tc_zald (nx : Nat) : dt_T := fun _ _ K pc lv st M => match st with
  | .inl i :: .inr (.inr (1, n, k)) :: r => (0 ≤ i ∧ i < (n : Int)) ∧ K nx lv (.inl (M.1 k i.toNat) :: r) M
  | _ => False
theorem sn_zald {y : dt_Y} {nx pc : Nat} (hd : decode y.2.1 pc = .ok (.baload, 1)) (hx9 : nx = pc + 1) : dt_S y (tc_zald nx) pc := by
  subst hx9
  intro d Q K hK lv st M h
  unfold tc_zald at h
  split at h
  · next i n k r =>
    intro ok p l e R s m args below meth c cells slots Qf D ad cA A C H locs ls hW hL
    have hk : dt_kd k = (1, n) := ds_h (ds_t ok.2.1)
    have hi : dt_r i := ds_h ok.2.1
    have hkl := dk_lt hk (by decide)
    have := hK _ _ _ _ h.2 ⟨ok.1, ds_c (show dt_okv _ from ok.2.2.1 _ _) (ds_t (ds_t ok.2.1)), ok.2.2⟩ p l e R s m args below meth c cells slots Qf D ad cA A C H locs ls hW hL
    refine va_zald C.1 C.2.1 C.2.2.2.2.2.1 hW.1 k 1 (by rw [dw_at hkl, dw_bool hk]) rfl (dn_in hi h.1.1 h.1.2) hd ?_
    rw [dn_cl hi]
    exact this
  · exact h.elim
def tc_lald (nx : Nat) : dt_T := fun _ _ K pc lv st M => match st with
  | .inl i :: .inr (.inr (2, n, k)) :: r => (0 ≤ i ∧ i < (n : Int)) ∧ K nx lv (.inr (.inl (M.2 k i.toNat)) :: r) M
  | _ => False
theorem sn_lald {y : dt_Y} {nx pc : Nat} (hd : decode y.2.1 pc = .ok (.laload, 1)) (hx9 : nx = pc + 1) : dt_S y (tc_lald nx) pc := by
  subst hx9
  intro d Q K hK lv st M h
  unfold tc_lald at h
  split at h
  · next i n k r =>
    intro ok p l e R s m args below meth c cells slots Qf D ad cA A C H locs ls hW hL
    have hk : dt_kd k = (2, n) := ds_h (ds_t ok.2.1)
    have hi : dt_r i := ds_h ok.2.1
    have hkl := dk_lt hk (by decide)
    have := hK _ _ _ _ h.2 ⟨ok.1, ds_c (show dt_okv _ from ok.2.2.2 _ _) (ds_t (ds_t ok.2.1)), ok.2.2⟩ p l e R s m args below meth c cells slots Qf D ad cA A C H locs ls hW hL
    refine va_lald C.1 C.2.1 C.2.2.2.2.2.1 hW.1 k 2 (by rw [dw_at hkl, dw_long hk]) rfl (dn_in hi h.1.1 h.1.2) hd ?_
    rw [dn_cl hi]
    exact this
  · exact h.elim
theorem dk_T0 : ∀ k, k < 86 → (dt_kd k).1 = 3 → (dt_kd k).2 = 4 := by decide +kernel
theorem dk_T (k i n : Nat) (hk : k < 86) (h : dt_kd k = (3, n)) (hi : i < n) : dt_okv (.inr (.inr (9, 9, 2 + 8 * i))) := by
  have h4 := dk_T0 k hk (by rw [h])
  rw [h] at h4
  simp only at h4
  subst h4
  match i, hi with
  | 0, _ => exact (by decide +kernel : dt_kd 2 = (9, 9))
  | 1, _ => exact (by decide +kernel : dt_kd 10 = (9, 9))
  | 2, _ => exact (by decide +kernel : dt_kd 18 = (9, 9))
  | 3, _ => exact (by decide +kernel : dt_kd 26 = (9, 9))
  | i + 4, h => omega
def tc_aald (nx : Nat) : dt_T := fun _ _ K pc lv st M => match st with
  | .inl i :: .inr (.inr (3, n, k)) :: r => (0 ≤ i ∧ i < (n : Int)) ∧ K nx lv (.inr (.inr (9, 9, 2 + 8 * i.toNat)) :: r) M
  | _ => False
theorem sn_aald {y : dt_Y} {nx pc : Nat} (hd : decode y.2.1 pc = .ok (.aaload, 1)) (hx9 : nx = pc + 1) : dt_S y (tc_aald nx) pc := by
  subst hx9
  intro d Q K hK lv st M h
  unfold tc_aald at h
  split at h
  · next i n k r =>
    intro ok p l e R s m args below meth c cells slots Qf D ad cA A C H locs ls hW hL
    have hk : dt_kd k = (3, n) := ds_h (ds_t ok.2.1)
    have hi : dt_r i := ds_h ok.2.1
    have hkl := dk_lt hk (by decide)
    have hz : dt_okv (.inr (.inr (9, 9, 2 + 8 * i.toNat))) := dk_T k i.toNat n hkl hk (by have := h.1; omega)
    have := hK _ _ _ _ h.2 ⟨ok.1, ds_c (hz) (ds_t (ds_t ok.2.1)), ok.2.2⟩ p l e R s m args below meth c cells slots Qf D ad cA A C H locs ls hW hL
    refine va_aldq C.1 C.2.1 C.2.2.2.2.2.1 hW.1 k 3 (by rw [dw_at hkl, dw_refs hk]) rfl (dn_in hi h.1.1 h.1.2) hd ?_
    rw [dn_cl hi]
    exact this
  · exact h.elim
def tc_iast (nx : Nat) : dt_T := fun _ _ K pc lv st M => match st with
  | .inl x :: .inl i :: .inr (.inr (0, n, k)) :: r => (0 ≤ i ∧ i < (n : Int)) ∧ ∀ M1, M1 = dt_wi M k i.toNat x → K nx lv r M1
  | _ => False
theorem sn_iast {y : dt_Y} {nx pc : Nat} (hd : decode y.2.1 pc = .ok (.iastore, 1)) (hx9 : nx = pc + 1) : dt_S y (tc_iast nx) pc := by
  subst hx9
  intro d Q K hK lv st M h
  unfold tc_iast at h
  split at h
  · next x i n k r =>
    intro ok p l e R s m args below meth c cells slots Qf D ad cA A C H locs ls hW hL
    have hk : dt_kd k = (0, n) := ds_h (ds_t (ds_t ok.2.1))
    have hi : dt_r i := ds_h (ds_t ok.2.1)
    have hkl := dk_lt hk (by decide)
    refine va_iast C.1 C.2.1 C.2.2.2.2.2.1 hW.1 hW.2.1 hW.2.2 k 0 (by rw [dw_at hkl, dw_int hk]) rfl (dn_in hi h.1.1 h.1.2) hd (fun H1 locs1 hP1 hD1 hS1 => ?_)
    have e8 : dt_wc (dt_wi M k i.toNat x) ad cA k = .inl (cA 0, n, .inl (upd (fun j => Int32.ofInt (M.1 k j)) (Int32.ofInt i).toNatClampNeg (Int32.ofInt x))) := by
      rw [dw_int hk, dn_cl hi]
      congr 4
      funext j
      by_cases hj : j = i.toNat
      · simp [upd, hj, dm_wi1, dm_up1]
      · simp [upd, hj, dm_wi1, dm_up2 hj]
    rw [dw_set hkl e8 dw_onlyi] at hP1 hD1
    exact hK _ _ _ _ (h.2 _ rfl) ⟨ok.1, ds_t (ds_t (ds_t ok.2.1)), dm_rwi ok.2.2 (ds_h ok.2.1)⟩ p l e R s m args below meth c cells slots Qf D ad cA A C H1 locs1 ls ⟨hP1, hD1, hS1⟩ hL
  · exact h.elim
def tc_zast (nx : Nat) : dt_T := fun _ _ K pc lv st M => match st with
  | .inl x :: .inl i :: .inr (.inr (1, n, k)) :: r => (0 ≤ i ∧ i < (n : Int)) ∧ (x = 0 ∨ x = 1) ∧ ∀ M1, M1 = dt_wi M k i.toNat x → K nx lv r M1
  | _ => False
theorem sn_zast {y : dt_Y} {nx pc : Nat} (hd : decode y.2.1 pc = .ok (.bastore, 1)) (hx9 : nx = pc + 1) : dt_S y (tc_zast nx) pc := by
  subst hx9
  intro d Q K hK lv st M h
  unfold tc_zast at h
  split at h
  · next x i n k r =>
    intro ok p l e R s m args below meth c cells slots Qf D ad cA A C H locs ls hW hL
    have hk : dt_kd k = (1, n) := ds_h (ds_t (ds_t ok.2.1))
    have hi : dt_r i := ds_h (ds_t ok.2.1)
    have hkl := dk_lt hk (by decide)
    refine va_zast C.1 C.2.1 C.2.2.2.2.2.1 hW.1 hW.2.1 hW.2.2 k 1 (by rw [dw_at hkl, dw_bool hk]) rfl (dn_in hi h.1.1 h.1.2) hd (fun H1 locs1 hP1 hD1 hS1 => ?_)
    have e9 : vp_nar .boolean (Int32.ofInt x) = Int32.ofInt x := by rcases h.2.1 with q | q <;> subst q <;> rfl
    rw [e9] at hP1 hD1
    have e8 : dt_wc (dt_wi M k i.toNat x) ad cA k = .inl (cA 1, n, .inl (upd (fun j => Int32.ofInt (M.1 k j)) (Int32.ofInt i).toNatClampNeg (Int32.ofInt x))) := by
      rw [dw_bool hk, dn_cl hi]
      congr 4
      funext j
      by_cases hj : j = i.toNat
      · simp [upd, hj, dm_wi1, dm_up1]
      · simp [upd, hj, dm_wi1, dm_up2 hj]
    rw [dw_set hkl e8 dw_onlyi] at hP1 hD1
    exact hK _ _ _ _ (h.2.2 _ rfl) ⟨ok.1, ds_t (ds_t (ds_t ok.2.1)), dm_rwi ok.2.2 (ds_h ok.2.1)⟩ p l e R s m args below meth c cells slots Qf D ad cA A C H1 locs1 ls ⟨hP1, hD1, hS1⟩ hL
  · exact h.elim
def tc_last (nx : Nat) : dt_T := fun _ _ K pc lv st M => match st with
  | .inr (.inl x) :: .inl i :: .inr (.inr (2, n, k)) :: r => (0 ≤ i ∧ i < (n : Int)) ∧ ∀ M1, M1 = dt_wl M k i.toNat x → K nx lv r M1
  | _ => False
theorem sn_last {y : dt_Y} {nx pc : Nat} (hd : decode y.2.1 pc = .ok (.lastore, 1)) (hx9 : nx = pc + 1) : dt_S y (tc_last nx) pc := by
  subst hx9
  intro d Q K hK lv st M h
  unfold tc_last at h
  split at h
  · next x i n k r =>
    intro ok p l e R s m args below meth c cells slots Qf D ad cA A C H locs ls hW hL
    have hk : dt_kd k = (2, n) := ds_h (ds_t (ds_t ok.2.1))
    have hi : dt_r i := ds_h (ds_t ok.2.1)
    have hkl := dk_lt hk (by decide)
    refine va_last C.1 C.2.1 C.2.2.2.2.2.1 hW.1 hW.2.1 hW.2.2 k 2 (by rw [dw_at hkl, dw_long hk]) rfl (dn_in hi h.1.1 h.1.2) hd (fun H1 locs1 hP1 hD1 hS1 => ?_)
    have e8 : dt_wc (dt_wl M k i.toNat x) ad cA k = .inl (cA 2, n, .inr (.inl (vp_updL (fun j => Int64.ofInt (M.2 k j)) (Int32.ofInt i).toNatClampNeg (Int64.ofInt x)))) := by
      rw [dw_long hk, dn_cl hi]
      congr 5
      funext j
      by_cases hj : j = i.toNat
      · simp [vp_updL, hj, dm_wl1, dm_up1]
      · simp [vp_updL, hj, dm_wl1, dm_up2 hj]
    rw [dw_set hkl e8 dw_onlyl] at hP1 hD1
    exact hK _ _ _ _ (h.2 _ rfl) ⟨ok.1, ds_t (ds_t (ds_t ok.2.1)), dm_rwl ok.2.2 (ds_h ok.2.1)⟩ p l e R s m args below meth c cells slots Qf D ad cA A C H1 locs1 ls ⟨hP1, hD1, hS1⟩ hL
  · exact h.elim
end
section
/-! ===== calls, ends, entries ===== -/
def dt_sz : List dt_V → Nat
  | [] => 0
  | .inr (.inl _) :: r => dt_sz r + 2
  | _ :: r => dt_sz r + 1
theorem dc_sz (ad : Nat → Nat) : ∀ r : List dt_V, ((r.map (dt_cv ad)).map fun v => v.category).sum = dt_sz r
  | [] => rfl
  | .inl x :: r => by
    have := dc_sz ad r
    show 1 + ((r.map (dt_cv ad)).map fun v => v.category).sum = dt_sz r + 1
    rw [this]; omega
  | .inr (.inl x) :: r => by
    have := dc_sz ad r
    show 2 + ((r.map (dt_cv ad)).map fun v => v.category).sum = dt_sz r + 2
    rw [this]; omega
  | .inr (.inr x) :: r => by
    have := dc_sz ad r
    show 1 + ((r.map (dt_cv ad)).map fun v => v.category).sum = dt_sz r + 1
    rw [this]; omega
theorem dc_D {A : Nat → Prop} {M M' : dt_M} {ad : Nat → Nat} {cA : Nat → ClassId} (h : va_D A (dt_wd M ad cA)) : va_D A (dt_wd M' ad cA) := by
  have key : ∀ (k : Nat) (q : Nat × va_E), (dt_wd M' ad cA)[k]? = some q → k < 86 ∧ q.1 = ad k := by
    intro k q hk
    by_cases hl : k < 86
    · rw [dw_at hl] at hk; cases hk; exact ⟨hl, rfl⟩
    · rw [List.getElem?_eq_none (by simp [dt_wd]; omega)] at hk; cases hk
  refine ⟨fun i j p q hi hj hpq => ?_, fun k q hk => ?_⟩
  · obtain ⟨a1, a2⟩ := key i p hi
    obtain ⟨b1, b2⟩ := key j q hj
    exact h.1 i j _ _ (dw_at a1) (dw_at b1) (by rw [← a2, ← b2]; exact hpq)
  · obtain ⟨a1, a2⟩ := key k q hk
    rw [a2]
    exact h.2 k _ (dw_at a1)
theorem dc_A {A : Nat → Prop} {M : dt_M} {ad : Nat → Nat} {cA : Nat → ClassId} (h : va_D A (dt_wd M ad cA)) : ∀ q, dt_A ad q → A q := by
  rintro q ⟨k, hk, rfl⟩
  exact h.2 k _ (dw_at hk)
theorem dc_self {A : Nat → Prop} {M : dt_M} {ad : Nat → Nat} {cA : Nat → ClassId} (h : va_D A (dt_wd M ad cA)) : va_D (dt_A ad) (dt_wd M ad cA) := by
  refine ⟨h.1, fun k q hk => ?_⟩
  by_cases hl : k < 86
  · rw [dw_at hl] at hk; cases hk; exact ⟨k, hl, rfl⟩
  · rw [List.getElem?_eq_none (by simp [dt_wd]; omega)] at hk; cases hk
theorem dc_NW {s U : State} (hW : s.WarmedH U.vm) (h : ∀ w ∈ dt_NW, va_Nw w s) : ∀ w ∈ dt_NW, va_Nw w U := by
  intro w hw
  have h1 := h w hw
  have h2 := (List.mem_filter.mp hw).2
  unfold dt_nst at h2
  split at h2
  · exact va_Nw.warmF hW h1
  · exact va_Nw.warmM hW h1
  · cases h2
theorem dc_NWs {s U : State} (hv : s.vm = U.vm) (h : ∀ w ∈ dt_NW, va_Nw w s) : ∀ w ∈ dt_NW, va_Nw w U := by
  intro w hw
  have h1 := h w hw
  have h2 := (List.mem_filter.mp hw).2
  unfold dt_nst at h2
  split at h2
  · exact va_Nw.same rfl hv h1
  · exact va_Nw.same rfl hv h1
  · cases h2
theorem dc_SF {ad : Nat → Nat} {A B : Nat → Prop} {s U : State} {H H1 : Heap} (hW : s.WarmedH U.vm) (hq : ∀ a : Nat, a < H.size → ¬ A a → H1[a]? = H[a]?) (hAB : ∀ q, B q → A q) (h : dt_SF ad A s H) : dt_SF ad B U H1 := by
  obtain ⟨⟨adV, h1⟩, h2, h3, h4, h5⟩ := h
  exact ⟨⟨adV, ((h1.kept hq).narrow hAB).moved hW.alike⟩, ((h2.kept hq).narrow hAB).moved hW.alike, ((h3.kept hq).narrow hAB).moved hW.alike, vk_R.warm hW h4, vk_R.warm hW h5⟩
theorem dc_SFs {ad : Nat → Nat} {A : Nat → Prop} {s U : State} {H : Heap} (hv : U.vm = s.vm) (h : dt_SF ad A s H) : dt_SF ad A U H := by
  obtain ⟨⟨adV, h1⟩, h2, h3, h4, h5⟩ := h
  have ha : s.vm.Alike U.vm := by rw [hv]; exact Vm.Alike.refl s.vm
  exact ⟨⟨adV, h1.moved ha⟩, h2.moved ha, h3.moved ha, vk_R.same hv h4, vk_R.same hv h5⟩
theorem dc_blind {D : va_G} {ad : Nat → Nat} {cA : Nat → ClassId} {av : List dt_V} {M : dt_M} : FrameBlind (dt_Pc D ad cA av M) := by
  intro a U g mk q
  obtain ⟨h1, h2, h3, h4, h5, h6, h7, h8⟩ := q
  exact ⟨h1, h2, h3, h4, h5, va_K.moved (u := U) (U := U.calling g mk a) (Vm.Alike.refl U.vm) h6, dc_NWs (s := U) (U := U.calling g mk a) rfl h7, dc_SFs (s := U) (U := U.calling g mk a) rfl h8⟩
theorem dc_good {y : dt_Y} (hc : Cond.code y.1 y.2.1 y.2.2.1 y.2.2.2 ∈ dt_W0) : GoodIn dt_W0 (Cond.code y.1 y.2.1 y.2.2.1 y.2.2.2 :: dt_W0) := by
  intro w hw
  have h : w ∈ dt_W0 := (List.mem_cons.mp hw).elim (fun e => e ▸ hc) id
  exact ⟨h, good_of_word (List.mem_filter.mp h).2⟩
/-- what a caller knows of a method that it calls -/
def dt_N (y : dt_Y) (n : Nat) : Prop := Cond.code y.1 y.2.1 y.2.2.1 y.2.2.2 ∈ dt_W0 ∧ Cond.initialized y.1.cls ∈ dt_W0 ∧ (y.1.cls ≠ "java/lang/invoke/MethodHandle" ∧ y.1.cls ≠ "java/lang/invoke/VarHandle" ∧ (parseMethodDescriptor y.1.desc).map (fun d => d.parameters.length) = some n) ∧ y.2.2.1 ≤ 20
/-- behind a call -/
theorem dc_back {y : dt_Y} {d : Nat} {Q : Option dt_V → dt_M → Prop} {p : Program} {l : Launch} {e : Env} {R : Room} {s : State} {m : MethodId} {args : Array Value} {below : List Frame} {meth : Method} {c : Code} {cells slots : Nat} {Qf : State → Prop} {D : va_G} {ad : Nat → Nat} {cA : Nat → ClassId} {A : Nat → Prop}
    (C : dt_C y d Q p l e R s m args below meth c cells slots Qf D ad cA A) {H : Heap} {locs : List Loc} {ls : Array Slot} {M : dt_M} (hW : dt_W D ad cA A s H locs M) {K : dt_K} (hK : ∀ pc lv st M, K pc lv st M → dt_J y d Q pc lv st M) {pc : Nat} {lv : dt_L} (hlv : ∀ v, some v ∈ lv → dt_okv v) (hL : dt_H ad ls y.2.2.1 lv) {r : List dt_V} (hr : ∀ v ∈ r, dt_okv v) {rt : Option FieldType} {Φ : Option dt_V → dt_M → Prop} {a : Array Value} {st0 : List Value}
    (hrun : va_Run p l e R s m args below meth c H locs cells slots 0 0 (F0 m pc ls st0) (r.map (dt_cv ad)) (dt_Qc D ad cA rt Φ a) (dt_A ad)) (hcont : ∀ rv M', Φ rv M' → K (pc + 3) lv (rv.toList ++ r) M') :
    W p l e R s m args below meth c H locs cells slots Qf (F0 m pc ls st0) := by
  intro T hT X
  obtain ⟨v, st₀, t, T', L, h0, X', hLo, e1, e2, ⟨⟨rv, M', hv, hΦ, hok, hRM, hP⟩, hF⟩, st⟩ := hrun T hT X
  have hv : v = rv.map (dt_cv ad) := by cases hv; rfl
  subst hv
  have hrv : ∀ w ∈ rv.toList, dt_okv w := by
    intro w hw
    cases rv with
    | none => cases hw
    | some z =>
      rw [Option.toList_some, List.mem_singleton] at hw
      subst hw
      unfold dt_okr at hok
      split at hok
      · next h => cases h
      · next x h => cases h; exact hok
      · next x h => cases h; rcases hok with q | q <;> subst q <;> exact ⟨by decide, by decide⟩
      · next x h => cases h; exact hok
      · next x h => cases h; exact hok
      · exact hok.elim
  have hA := dc_A hW.2.1
  have hW' : dt_W D ad cA A s T'.heap (locs ++ L) M' := by
    refine ⟨by rw [e1]; exact hP, dc_D hW.2.1, ?_⟩
    obtain ⟨hz, hk⟩ := hF
    rw [h0] at hz hk
    refine ⟨Nat.le_trans hW.2.2.1 (by rw [e1]; exact hz), fun q h1 h2 => ?_, fun q hq => ?_⟩
    · rw [e1, hk q (Nat.lt_of_lt_of_le h1 hW.2.2.1) (fun z => h2 (hA q z))]
      exact hW.2.2.2.1 q h1 h2
    · rcases List.mem_append.mp hq with h | h
      · exact hW.2.2.2.2 q h
      · exact hA _ (hLo q h)
  have hJ := hK _ _ _ _ (hcont rv M' hΦ) ⟨hlv, fun w hw => (List.mem_append.mp hw).elim (hrv w) (hr w), hRM⟩ p l e R s m args below meth c cells slots Qf D ad cA A C T'.heap (locs ++ L) ls hW' hL
  obtain ⟨t2, a1, b1⟩ := hJ T' rfl X'
  refine ⟨t2, st t2 ?_, b1⟩
  have e3 : List.map (dt_cv ad) (rv.toList ++ r) = (rv.map (dt_cv ad)).toList ++ r.map (dt_cv ad) := by cases rv <;> simp
  rw [← e3]
  exact a1
theorem dc_pre {y : dt_Y} {d : Nat} {Q : Option dt_V → dt_M → Prop} {p : Program} {l : Launch} {e : Env} {R : Room} {s : State} {m : MethodId} {args : Array Value} {below : List Frame} {meth : Method} {c : Code} {cells slots : Nat} {Qf : State → Prop} {D : va_G} {ad : Nat → Nat} {cA : Nat → ClassId} {A : Nat → Prop}
    (C : dt_C y d Q p l e R s m args below meth c cells slots Qf D ad cA A) {H : Heap} {locs : List Loc} {M : dt_M} (hW : dt_W D ad cA A s H locs M) (hM : dt_RM M) {av : List dt_V} (hav : ∀ v ∈ av, dt_okv v) : PreS s H (dt_Pc D ad cA av M) (av.map (dt_cv ad)) := by
  refine ⟨dc_blind, fun U hU hw => ⟨rfl, hav, hM, by rw [hU]; exact hW.1, dc_self hW.2.1, va_K.moved hw.alike C.2.2.2.2.2.1, dc_NW hw C.2.2.2.2.2.2.1, ?_⟩⟩
  rw [hU]
  exact dc_SF hw hW.2.2.2.1 (dc_A hW.2.1) C.2.2.2.2.2.2.2.2.1
def tc_callV (ci : Nat) (z : dt_Y) (n : Nat) (nx : Nat) : dt_T := fun d _ K pc lv st M => match d, st.drop n with
  | d' + 1, .inr (.inr (t, nn, k)) :: r => cond (t == ci + 4 && Nat.ble (dt_sz r) 8) (∃ Φ : Option dt_V → dt_M → Prop, dt_Sp z d' (.inr (.inr (t, nn, k)) :: (st.take n).reverse) M Φ ∧ ∀ rv M', Φ rv M' → K nx lv (rv.toList ++ r) M') False
  | _, _ => False
theorem dc_st {st r : List dt_V} {n : Nat} {v : dt_V} (h : st.drop n = v :: r) : st = st.take n ++ v :: r ∧ (st.take n).length = n := by
  refine ⟨by rw [← h, List.take_append_drop], ?_⟩
  have : n < st.length := by
    rcases Nat.lt_or_ge n st.length with q | q
    · exact q
    · rw [List.drop_eq_nil_of_le q] at h; cases h
  rw [List.length_take]; omega
theorem sn_callV {y z : dt_Y} {nx pc ci index n N : Nat} {own CN : String} {T : u_T} (ho : y.1.cls = own) (hF : dt_F ci CN T N) (hz : dt_N z n) (hc : z.1.cls = CN) (hw1 : Cond.methodLink own index z.1 ∈ dt_W0) (hw2 : Cond.instanceMethod z.1 ∈ dt_W0) (hw3 : Cond.selects CN z.1 z.1 ∈ dt_W0) (hd : decode y.2.1 pc = .ok (.invokevirtual index, 3)) (hx9 : nx = pc + 3) : dt_S y (tc_callV ci z n nx) pc := by
  subst hx9
  intro d Q K hK lv st M h
  unfold tc_callV at h
  split at h
  · next d' t nn k r hst =>
    obtain ⟨hb, Φ, hSp, hcont⟩ := dt_cd h
    rw [Bool.and_eq_true] at hb
    have ht : t = ci + 4 := eq_of_beq hb.1
    have hsz : dt_sz r ≤ 8 := Nat.ble_eq.mp hb.2
    clear h hb
    subst ht
    obtain ⟨e1, e2⟩ := dc_st hst
    intro ok p l e R s m args below meth c cells slots Qf D ad cA A C H locs ls hW hL
    have hst' : ∀ v ∈ st.take n ++ .inr (.inr (ci + 4, nn, k)) :: r, dt_okv v := by rw [← e1]; exact ok.2.1
    have hk : dt_kd k = (ci + 4, nn) := hst' (.inr (.inr (ci + 4, nn, k))) (by simp)
    have hav : ∀ v ∈ ((.inr (.inr (ci + 4, nn, k)) : dt_V) :: (st.take n).reverse), dt_okv v := fun v hv => hst' v (by
      rcases List.mem_cons.mp hv with q | q
      · rw [q]; simp
      · exact List.mem_append_left _ (List.mem_reverse.mp q))
    have hr : ∀ v ∈ r, dt_okv v := fun v hv => hst' v (by simp [hv])
    have hN := dk_N hk (dk_c8 hF.1) hF.1
    subst hN
    have hkl := dk_lt hk (by have := dk_c8 hF.1; omega)
    have hpre := dc_pre C hW ok.2.2 hav
    have hrecv := va_recv (q0 := k) (a := ad k) C.2.2.2.2.2.1 hW.1 hF.1 (by rw [dw_at hkl, dw_obj hk])
    have hrun := va_runV (e := e) (below := below) (meth := meth) (locs := locs) (As := ((st.take n).reverse).map (dt_cv ad)) (rest := r.map (dt_cv ad)) (b := ad k) (C := CN) (n := n) (index := index) (g := F0 m pc ls (st.map (dt_cv ad)))
      ⟨C.1, C.2.1, C.2.2.1, (ho ▸ C.2.2.2.1 : s.vm.findClass own = some m.cls), C.2.2.2.2.1⟩ (hSp l D ad cA)
      (⟨callB_of n C.2.2.2.2.1 (dc_good hz.1) rfl rfl rfl (C.2.2.2.2.1 _ hz.2.1) (C.2.2.2.2.1 _ hw1) hz.2.2.1 ⟨C.2.2.2.2.2.2.2.1.1, by have := C.2.2.2.2.2.2.2.1.2.1; have := hz.2.2.2; show 8 + (z.2.2.1 + 11) + 39 * d' ≤ R.locals; omega⟩, C.2.2.2.2.1 _ hw2, C.2.2.2.2.1 _ hw3⟩)
      ⟨hpre.1, hrecv, hpre.2⟩ rfl (by rw [List.length_map, List.length_reverse, e2]) hL.1
      (by show List.map (dt_cv ad) st = _; rw [List.map_reverse, List.reverse_reverse]; conv => lhs; rw [e1]
          rw [List.map_append, List.map_cons]; rfl)
      (by rw [dc_sz]; show 2 * 0 + dt_sz r ≤ 8; omega) hd ⟨C.2.2.2.2.2.2.2.1.2.2.1, C.2.2.2.2.2.2.2.1.2.2.2⟩
    exact dc_back C hW hK ok.1 hL hr hrun hcont
  · exact h.elim
theorem sn_callVN {y z : dt_Y} {nx pc ci index n N : Nat} {own CN host : String} {T : u_T} (ho : y.1.cls = own) (hF : dt_F ci CN T N) (hz : dt_N z n) (hc : z.1.cls = CN) (hw1 : Cond.methodLinkNest own index z.1 host ∈ dt_NW) (hw2 : Cond.instanceMethod z.1 ∈ dt_W0) (hw3 : Cond.selects CN z.1 z.1 ∈ dt_W0) (hd : decode y.2.1 pc = .ok (.invokevirtual index, 3)) (hx9 : nx = pc + 3) : dt_S y (tc_callV ci z n nx) pc := by
  subst hx9
  intro d Q K hK lv st M h
  unfold tc_callV at h
  split at h
  · next d' t nn k r hst =>
    obtain ⟨hb, Φ, hSp, hcont⟩ := dt_cd h
    rw [Bool.and_eq_true] at hb
    have ht : t = ci + 4 := eq_of_beq hb.1
    have hsz : dt_sz r ≤ 8 := Nat.ble_eq.mp hb.2
    clear h hb
    subst ht
    obtain ⟨e1, e2⟩ := dc_st hst
    intro ok p l e R s m args below meth c cells slots Qf D ad cA A C H locs ls hW hL
    have hst' : ∀ v ∈ st.take n ++ .inr (.inr (ci + 4, nn, k)) :: r, dt_okv v := by rw [← e1]; exact ok.2.1
    have hk : dt_kd k = (ci + 4, nn) := hst' (.inr (.inr (ci + 4, nn, k))) (by simp)
    have hav : ∀ v ∈ ((.inr (.inr (ci + 4, nn, k)) : dt_V) :: (st.take n).reverse), dt_okv v := fun v hv => hst' v (by
      rcases List.mem_cons.mp hv with q | q
      · rw [q]; simp
      · exact List.mem_append_left _ (List.mem_reverse.mp q))
    have hr : ∀ v ∈ r, dt_okv v := fun v hv => hst' v (by simp [hv])
    have hN := dk_N hk (dk_c8 hF.1) hF.1
    subst hN
    have hkl := dk_lt hk (by have := dk_c8 hF.1; omega)
    have hpre := dc_pre C hW ok.2.2 hav
    have hrecv := va_recv (q0 := k) (a := ad k) C.2.2.2.2.2.1 hW.1 hF.1 (by rw [dw_at hkl, dw_obj hk])
    have hrun := va_runVN (host := host) (e := e) (below := below) (meth := meth) (locs := locs) (As := ((st.take n).reverse).map (dt_cv ad)) (rest := r.map (dt_cv ad)) (b := ad k) (C := CN) (n := n) (index := index) (g := F0 m pc ls (st.map (dt_cv ad)))
      ⟨C.1, C.2.1, C.2.2.1, (ho ▸ C.2.2.2.1 : s.vm.findClass own = some m.cls), C.2.2.2.2.1⟩ (hSp l D ad cA)
      (⟨va_cnB n C.2.2.2.2.1 (dc_good hz.1) rfl rfl rfl (C.2.2.2.2.2.2.1 _ hw1) (C.2.2.2.2.1 _ hz.2.1) hz.2.2.1 ⟨C.2.2.2.2.2.2.2.1.1, by have := C.2.2.2.2.2.2.2.1.2.1; have := hz.2.2.2; show 8 + (z.2.2.1 + 11) + 39 * d' ≤ R.locals; omega⟩, C.2.2.2.2.1 _ hw2, C.2.2.2.2.1 _ hw3⟩)
      ⟨hpre.1, hrecv, hpre.2⟩ rfl (by rw [List.length_map, List.length_reverse, e2]) hL.1
      (by show List.map (dt_cv ad) st = _; rw [List.map_reverse, List.reverse_reverse]; conv => lhs; rw [e1]
          rw [List.map_append, List.map_cons]; rfl)
      (by rw [dc_sz]; show 2 * 0 + dt_sz r ≤ 8; omega) hd ⟨C.2.2.2.2.2.2.2.1.2.2.1, C.2.2.2.2.2.2.2.1.2.2.2⟩
    exact dc_back C hW hK ok.1 hL hr hrun hcont
  · exact h.elim
def tc_callS (z : dt_Y) (n : Nat) (nx : Nat) : dt_T := fun d _ K pc lv st M => match d with
  | d' + 1 => cond (Nat.ble n st.length && Nat.ble (dt_sz (st.drop n)) 8) (∃ Φ : Option dt_V → dt_M → Prop, dt_Sp z d' (st.take n).reverse M Φ ∧ ∀ rv M', Φ rv M' → K nx lv (rv.toList ++ st.drop n) M') False
  | 0 => False
theorem sn_callS {y z : dt_Y} {nx pc index n : Nat} {own : String} (ho : y.1.cls = own) (hz : dt_N z n) (hw1 : Cond.methodLink own index z.1 ∈ dt_W0) (hw2 : Cond.static z.1 ∈ dt_W0) (hd : decode y.2.1 pc = .ok (.invokestatic index, 3)) (hx9 : nx = pc + 3) : dt_S y (tc_callS z n nx) pc := by
  subst hx9
  intro d Q K hK lv st M h
  unfold tc_callS at h
  split at h
  · next d' =>
    obtain ⟨hb, Φ, hSp, hcont⟩ := dt_cd h
    rw [Bool.and_eq_true] at hb
    have hn : n ≤ st.length := Nat.ble_eq.mp hb.1
    have hsz : dt_sz (st.drop n) ≤ 8 := Nat.ble_eq.mp hb.2
    clear h hb
    intro ok p l e R s m args below meth c cells slots Qf D ad cA A C H locs ls hW hL
    have hav : ∀ v ∈ (st.take n).reverse, dt_okv v := fun v hv => ok.2.1 v (List.mem_of_mem_take (List.mem_reverse.mp hv))
    have hr : ∀ v ∈ st.drop n, dt_okv v := fun v hv => ok.2.1 v (List.mem_of_mem_drop hv)
    have hpre := dc_pre C hW ok.2.2 hav
    have hrun := va_runS (e := e) (below := below) (meth := meth) (locs := locs) (As := ((st.take n).reverse).map (dt_cv ad)) (rest := (st.drop n).map (dt_cv ad)) (n := n) (index := index) (g := F0 m pc ls (st.map (dt_cv ad)))
      ⟨C.1, C.2.1, C.2.2.1, (ho ▸ C.2.2.2.1 : s.vm.findClass own = some m.cls), C.2.2.2.2.1⟩ (hSp l D ad cA)
      (⟨callB_of n C.2.2.2.2.1 (dc_good hz.1) rfl rfl rfl (C.2.2.2.2.1 _ hz.2.1) (C.2.2.2.2.1 _ hw1) hz.2.2.1 ⟨C.2.2.2.2.2.2.2.1.1, by have := C.2.2.2.2.2.2.2.1.2.1; have := hz.2.2.2; show 8 + (z.2.2.1 + 11) + 39 * d' ≤ R.locals; omega⟩, C.2.2.2.2.1 _ hw2⟩)
      hpre rfl (by rw [List.length_map, List.length_reverse, List.length_take]; omega) hL.1
      (by show List.map (dt_cv ad) st = _; rw [List.map_reverse, List.reverse_reverse, ← List.map_append, List.take_append_drop])
      (by rw [dc_sz]; show 2 * 0 + dt_sz (st.drop n) ≤ 8; omega) hd ⟨C.2.2.2.2.2.2.2.1.2.2.1, C.2.2.2.2.2.2.2.1.2.2.2⟩
    exact dc_back C hW hK ok.1 hL hr hrun hcont
  · exact h.elim
theorem sn_callSN {y z : dt_Y} {nx pc index n : Nat} {own host : String} (ho : y.1.cls = own) (hz : dt_N z n) (hw1 : Cond.methodLinkNest own index z.1 host ∈ dt_NW) (hw2 : Cond.static z.1 ∈ dt_W0) (hd : decode y.2.1 pc = .ok (.invokestatic index, 3)) (hx9 : nx = pc + 3) : dt_S y (tc_callS z n nx) pc := by
  subst hx9
  intro d Q K hK lv st M h
  unfold tc_callS at h
  split at h
  · next d' =>
    obtain ⟨hb, Φ, hSp, hcont⟩ := dt_cd h
    rw [Bool.and_eq_true] at hb
    have hn : n ≤ st.length := Nat.ble_eq.mp hb.1
    have hsz : dt_sz (st.drop n) ≤ 8 := Nat.ble_eq.mp hb.2
    clear h hb
    intro ok p l e R s m args below meth c cells slots Qf D ad cA A C H locs ls hW hL
    have hav : ∀ v ∈ (st.take n).reverse, dt_okv v := fun v hv => ok.2.1 v (List.mem_of_mem_take (List.mem_reverse.mp hv))
    have hr : ∀ v ∈ st.drop n, dt_okv v := fun v hv => ok.2.1 v (List.mem_of_mem_drop hv)
    have hpre := dc_pre C hW ok.2.2 hav
    have hrun := va_runSN (host := host) (e := e) (below := below) (meth := meth) (locs := locs) (As := ((st.take n).reverse).map (dt_cv ad)) (rest := (st.drop n).map (dt_cv ad)) (n := n) (index := index) (g := F0 m pc ls (st.map (dt_cv ad)))
      ⟨C.1, C.2.1, C.2.2.1, (ho ▸ C.2.2.2.1 : s.vm.findClass own = some m.cls), C.2.2.2.2.1⟩ (hSp l D ad cA)
      (⟨va_cnB n C.2.2.2.2.1 (dc_good hz.1) rfl rfl rfl (C.2.2.2.2.2.2.1 _ hw1) (C.2.2.2.2.1 _ hz.2.1) hz.2.2.1 ⟨C.2.2.2.2.2.2.2.1.1, by have := C.2.2.2.2.2.2.2.1.2.1; have := hz.2.2.2; show 8 + (z.2.2.1 + 11) + 39 * d' ≤ R.locals; omega⟩, C.2.2.2.2.1 _ hw2, trivial⟩)
      hpre rfl (by rw [List.length_map, List.length_reverse, List.length_take]; omega) hL.1
      (by show List.map (dt_cv ad) st = _; rw [List.map_reverse, List.reverse_reverse, ← List.map_append, List.take_append_drop])
      (by rw [dc_sz]; show 2 * 0 + dt_sz (st.drop n) ≤ 8; omega) hd ⟨C.2.2.2.2.2.2.2.1.2.2.1, C.2.2.2.2.2.2.2.1.2.2.2⟩
    exact dc_back C hW hK ok.1 hL hr hrun hcont
  · exact h.elim
/-! ends -/
def tc_ret : dt_T := fun _ Q _ _ _ st M => match st with
  | [] => Q none M
  | _ => False
theorem sn_ret {y : dt_Y} {pc : Nat} (hr : y.2.2.2 = none) (hd : decode y.2.1 pc = .ok (.return_, 1)) : dt_S y tc_ret pc := by
  intro d Q K hK lv st M h
  unfold tc_ret at h
  split at h
  · intro ok p l e R s m args below meth c cells slots Qf D ad cA A C H locs ls hW hL
    exact C.2.2.2.2.2.2.2.2.2 H locs M none pc ls hW ok.2.2 (by rw [hr]; trivial) h hd
  · exact h.elim
def tc_iret : dt_T := fun _ Q _ _ _ st M => match st with
  | [.inl x] => Q (some (.inl x)) M
  | _ => False
theorem sn_iret {y : dt_Y} {pc : Nat} (hr : y.2.2.2 = some .int) (hd : decode y.2.1 pc = .ok (.ireturn, 1)) : dt_S y tc_iret pc := by
  intro d Q K hK lv st M h
  unfold tc_iret at h
  split at h
  · next x =>
    intro ok p l e R s m args below meth c cells slots Qf D ad cA A C H locs ls hW hL
    exact C.2.2.2.2.2.2.2.2.2 H locs M (some (.inl x)) pc ls hW ok.2.2 (by rw [hr]; exact ds_h ok.2.1) h hd
  · exact h.elim
def tc_zret : dt_T := fun _ Q _ _ _ st M => match st with
  | [.inl x] => (x = 0 ∨ x = 1) ∧ Q (some (.inl x)) M
  | _ => False
theorem sn_zret {y : dt_Y} {pc : Nat} (hr : y.2.2.2 = some .boolean) (hd : decode y.2.1 pc = .ok (.ireturn, 1)) : dt_S y tc_zret pc := by
  intro d Q K hK lv st M h
  unfold tc_zret at h
  split at h
  · next x =>
    intro ok p l e R s m args below meth c cells slots Qf D ad cA A C H locs ls hW hL
    exact C.2.2.2.2.2.2.2.2.2 H locs M (some (.inl x)) pc ls hW ok.2.2 (by rw [hr]; exact h.1) h.2 hd
  · exact h.elim
def tc_lret : dt_T := fun _ Q _ _ _ st M => match st with
  | [.inr (.inl x)] => Q (some (.inr (.inl x))) M
  | _ => False
theorem sn_lret {y : dt_Y} {pc : Nat} (hr : y.2.2.2 = some .long) (hd : decode y.2.1 pc = .ok (.lreturn, 1)) : dt_S y tc_lret pc := by
  intro d Q K hK lv st M h
  unfold tc_lret at h
  split at h
  · next x =>
    intro ok p l e R s m args below meth c cells slots Qf D ad cA A C H locs ls hW hL
    exact C.2.2.2.2.2.2.2.2.2 H locs M (some (.inr (.inl x))) pc ls hW ok.2.2 (by rw [hr]; exact ds_h ok.2.1) h hd
  · exact h.elim
def tc_aret : dt_T := fun _ Q _ _ _ st M => match st with
  | [.inr (.inr x)] => Q (some (.inr (.inr x))) M
  | _ => False
theorem sn_aret {y : dt_Y} {pc : Nat} {C : String} (hr : y.2.2.2 = some (.object C)) (hd : decode y.2.1 pc = .ok (.areturn, 1)) : dt_S y tc_aret pc := by
  intro d Q K hK lv st M h
  unfold tc_aret at h
  split at h
  · next x =>
    intro ok p l e R s m args below meth c cells slots Qf D ad cA A C H locs ls hW hL
    exact C.2.2.2.2.2.2.2.2.2 H locs M (some (.inr (.inr x))) pc ls hW ok.2.2 (by rw [hr]; exact ds_h ok.2.1) h hd
  · exact h.elim
/-! Math.max, Math.min -/
def tc_max (nx : Nat) : dt_T := fun d _ K pc lv st M => match d, st with
  | _ + 1, .inl b :: .inl a :: r => cond (Nat.ble (dt_sz r) 8) (K nx lv (.inl (if a < b then b else a) :: r) M) False
  | _, _ => False
def tc_min (nx : Nat) : dt_T := fun d _ K pc lv st M => match d, st with
  | _ + 1, .inl b :: .inl a :: r => cond (Nat.ble (dt_sz r) 8) (K nx lv (.inl (if b < a then b else a) :: r) M) False
  | _, _ => False
theorem sn_max {y : dt_Y} {nx pc index : Nat} {own : String} (ho : y.1.cls = own) (hw1 : Cond.methodLink own index Lib.Math.max.name ∈ dt_W0) (hw2 : Cond.static Lib.Math.max.name ∈ dt_W0) (hw3 : Cond.initialized "java/lang/Math" ∈ dt_W0) (hw4 : Cond.code Lib.Math.max.name Lib.Math.max.code 2 (some .int) ∈ dt_W0) (hd : decode y.2.1 pc = .ok (.invokestatic index, 3)) (hx9 : nx = pc + 3) : dt_S y (tc_max nx) pc := by
  subst hx9
  intro d Q K hK lv st M h
  unfold tc_max at h
  split at h
  · next d' b a r =>
    obtain ⟨hb, h9⟩ := dt_cd h
    have hsz : dt_sz r ≤ 8 := Nat.ble_eq.mp hb
    intro ok p l e R s m args below meth c cells slots Qf D ad cA A C H locs ls hW hL
    have rb : dt_r b := ds_h ok.2.1
    have ra : dt_r a := ds_h (ds_t ok.2.1)
    have := hK _ _ _ _ h9 ⟨ok.1, ds_c (show dt_r _ by split <;> assumption) (ds_t (ds_t ok.2.1)), ok.2.2⟩ p l e R s m args below meth c cells slots Qf D ad cA A C H locs ls hW hL
    refine va_mmax C.1 C.2.1 (by rw [C.2.2.1, hL.1]) (own := own) (ho ▸ C.2.2.2.1) (C.2.2.2.2.1 _ hw1) (C.2.2.2.2.1 _ hw2) (C.2.2.2.2.1 _ hw3) (C.2.2.2.2.1 _ hw4) (by have := C.2.2.2.2.2.2.2.1.1; omega) (by rw [dc_sz]; have := C.2.2.2.2.2.2.2.1.2.1; omega) C.2.2.2.2.2.2.2.1.2.2.1 C.2.2.2.2.2.2.2.1.2.2.2 hd ?_
    have e9 : (if Int32.ofInt a < Int32.ofInt b then Int32.ofInt b else Int32.ofInt a) = Int32.ofInt (if a < b then b else a) := by
      simp only [dn_lt ra rb]
      split <;> rfl
    rw [e9]
    exact this
  · exact h.elim
theorem sn_min {y : dt_Y} {nx pc index : Nat} {own : String} (ho : y.1.cls = own) (hw1 : Cond.methodLink own index Lib.Math.min.name ∈ dt_W0) (hw2 : Cond.static Lib.Math.min.name ∈ dt_W0) (hw3 : Cond.initialized "java/lang/Math" ∈ dt_W0) (hw4 : Cond.code Lib.Math.min.name Lib.Math.min.code 2 (some .int) ∈ dt_W0) (hd : decode y.2.1 pc = .ok (.invokestatic index, 3)) (hx9 : nx = pc + 3) : dt_S y (tc_min nx) pc := by
  subst hx9
  intro d Q K hK lv st M h
  unfold tc_min at h
  split at h
  · next d' b a r =>
    obtain ⟨hb, h9⟩ := dt_cd h
    have hsz : dt_sz r ≤ 8 := Nat.ble_eq.mp hb
    intro ok p l e R s m args below meth c cells slots Qf D ad cA A C H locs ls hW hL
    have rb : dt_r b := ds_h ok.2.1
    have ra : dt_r a := ds_h (ds_t ok.2.1)
    have := hK _ _ _ _ h9 ⟨ok.1, ds_c (show dt_r _ by split <;> assumption) (ds_t (ds_t ok.2.1)), ok.2.2⟩ p l e R s m args below meth c cells slots Qf D ad cA A C H locs ls hW hL
    refine va_mmin C.1 C.2.1 (by rw [C.2.2.1, hL.1]) (own := own) (ho ▸ C.2.2.2.1) (C.2.2.2.2.1 _ hw1) (C.2.2.2.2.1 _ hw2) (C.2.2.2.2.1 _ hw3) (C.2.2.2.2.1 _ hw4) (by have := C.2.2.2.2.2.2.2.1.1; omega) (by rw [dc_sz]; have := C.2.2.2.2.2.2.2.1.2.1; omega) C.2.2.2.2.2.2.2.1.2.2.1 C.2.2.2.2.2.2.2.1.2.2.2 hd ?_
    have e9 : (if Int32.ofInt b < Int32.ofInt a then Int32.ofInt b else Int32.ofInt a) = Int32.ofInt (if b < a then b else a) := by
      simp only [dn_lt rb ra]
      split <;> rfl
    rw [e9]
    exact this
  · exact h.elim
end
section
/-! ===== entries; walking a method ===== -/
def dt_lv0 : List dt_V → dt_L
  | [] => []
  | .inr (.inl x) :: r => some (.inr (.inl x)) :: none :: dt_lv0 r
  | v :: r => some v :: dt_lv0 r
def dt_lv (av : List dt_V) (n : Nat) : dt_L := dt_lv0 av ++ List.replicate (n - (dt_lv0 av).length) none
theorem de_len (ad : Nat → Nat) : ∀ av : List dt_V, (lg_sl (av.map (dt_cv ad))).length = (dt_lv0 av).length
  | [] => rfl
  | .inl x :: r => by
    have := de_len ad r
    show ([Slot.val (dt_cv ad (.inl x))] ++ lg_sl (r.map (dt_cv ad))).length = (dt_lv0 r).length + 1
    rw [List.length_append, this]; simp; omega
  | .inr (.inl x) :: r => by
    have := de_len ad r
    show ([Slot.val (dt_cv ad (.inr (.inl x))), Slot.second] ++ lg_sl (r.map (dt_cv ad))).length = (dt_lv0 r).length + 1 + 1
    rw [List.length_append, this]; simp; omega
  | .inr (.inr x) :: r => by
    have := de_len ad r
    show ([Slot.val (dt_cv ad (.inr (.inr x)))] ++ lg_sl (r.map (dt_cv ad))).length = (dt_lv0 r).length + 1
    rw [List.length_append, this]; simp; omega
theorem de_args (ad : Nat → Nat) : ∀ (av : List dt_V) (o i : Nat) (v : dt_V), (dt_lv0 av)[i]? = some (some v) → (o + i, dt_cv ad v) ∈ lv_args o (av.map (dt_cv ad))
  | [], o, i, v, h => by simp [dt_lv0] at h
  | .inl x :: r, o, i, v, h => by
    show (o + i, dt_cv ad v) ∈ (o, dt_cv ad (.inl x)) :: lv_args (o + 1) (r.map (dt_cv ad))
    cases i with
    | zero => cases h; exact List.mem_cons_self
    | succ i =>
      have h2 : (dt_lv0 r)[i]? = some (some v) := h
      have := de_args ad r (o + 1) i v h2
      rw [show o + (i + 1) = o + 1 + i by omega]
      exact List.mem_cons_of_mem _ this
  | .inr (.inl x) :: r, o, i, v, h => by
    show (o + i, dt_cv ad v) ∈ (o, dt_cv ad (.inr (.inl x))) :: lv_args (o + 2) (r.map (dt_cv ad))
    match i, h with
    | 0, h => cases h; exact List.mem_cons_self
    | 1, h => cases h
    | i + 2, h =>
      have h2 : (dt_lv0 r)[i]? = some (some v) := h
      have := de_args ad r (o + 2) i v h2
      rw [show o + (i + 2) = o + 2 + i by omega]
      exact List.mem_cons_of_mem _ this
  | .inr (.inr x) :: r, o, i, v, h => by
    show (o + i, dt_cv ad v) ∈ (o, dt_cv ad (.inr (.inr x))) :: lv_args (o + 1) (r.map (dt_cv ad))
    cases i with
    | zero => cases h; exact List.mem_cons_self
    | succ i =>
      have h2 : (dt_lv0 r)[i]? = some (some v) := h
      have := de_args ad r (o + 1) i v h2
      rw [show o + (i + 1) = o + 1 + i by omega]
      exact List.mem_cons_of_mem _ this
theorem de_lv {av : List dt_V} {n i : Nat} {v : dt_V} (h : (dt_lv av n)[i]? = some (some v)) : (dt_lv0 av)[i]? = some (some v) := by
  unfold dt_lv at h
  by_cases hi : i < (dt_lv0 av).length
  · rw [List.getElem?_append_left hi] at h; exact h
  · rw [List.getElem?_append_right (by omega)] at h
    have := List.eq_of_mem_replicate (List.mem_of_getElem? h)
    cases this
theorem de_ok : ∀ {av : List dt_V}, (∀ v ∈ av, dt_okv v) → ∀ v, some v ∈ dt_lv0 av → dt_okv v
  | [], _, v, hv => by cases hv
  | .inl x :: r, h, v, hv => by
    rcases List.mem_cons.mp hv with q | q
    · cases q; exact h _ List.mem_cons_self
    · exact de_ok (ds_t h) v q
  | .inr (.inl x) :: r, h, v, hv => by
    rcases List.mem_cons.mp hv with q | q
    · cases q; exact h _ List.mem_cons_self
    · rcases List.mem_cons.mp q with q | q
      · cases q
      · exact de_ok (ds_t h) v q
  | .inr (.inr x) :: r, h, v, hv => by
    rcases List.mem_cons.mp hv with q | q
    · cases q; exact h _ List.mem_cons_self
    · exact de_ok (ds_t h) v q
theorem de_ok2 {av : List dt_V} {n : Nat} (h : ∀ v ∈ av, dt_okv v) : ∀ v, some v ∈ dt_lv av n → dt_okv v := by
  intro v hv
  obtain ⟨i, hi⟩ := List.getElem?_of_mem hv
  exact de_ok h v (List.mem_of_getElem? (de_lv hi))
/-- A METHOD'S CONTRACT out of its walk -/
theorem dt_enter {y : dt_Y} {d : Nat} {av : List dt_V} {M : dt_M} {Φ : Option dt_V → dt_M → Prop} (hy : plainName y.1.cls = true) (hs : (dt_lv0 av).length ≤ y.2.2.1) (h : dt_J y d Φ 0 (dt_lv av y.2.2.1) [] M) : dt_Sp y d av M Φ := by
  intro l D ad cA
  refine Met.ofW (cc := y.2.1) (maxL := y.2.2.1) (ret := y.2.2.2) hy rfl ?_
  intro p e s m args below meth c s₁ B hml hv
  obtain ⟨rfl, hav, hM, hP, hD, hK, hN, hSF⟩ := hv
  have hts := atoms_spec (ws := Cond.code y.1 y.2.1 y.2.2.1 y.2.2.2 :: dt_W0) B.pre
  have hown : s.vm.findClass y.1.cls = some m.cls := findClass_of_methodNamed B.named
  have hx := B.exec
  have hb := B.bytes
  have hr := B.returns
  have hlocks := B.notSynchronized
  have hl := lv_entry (av.map (dt_cv ad)) (n := y.2.2.1) (by rw [de_len]; exact hs)
  rw [lg_entry_eq]
  generalize (lg_sl (av.map (dt_cv ad)) ++ List.replicate (y.2.2.1 - (lg_sl (av.map (dt_cv ad))).length) Slot.unset).toArray = ls at hl ⊢
  refine h ⟨de_ok2 hav, fun v hv => absurd hv List.not_mem_nil, hM⟩ p l e (dt_room d) s m _ below meth c 0 0 _ D ad cA (dt_A ad) ⟨hx, hb, hml, hown, fun w hw => hts w (List.mem_cons_of_mem _ hw), hK, hN, ⟨Nat.le_refl _, Nat.le_refl _, Nat.le_refl _, Nat.le_refl _⟩, hSF, ?_⟩ s.heap [] ls ⟨hP, hD, va_S.rf⟩ ⟨hl.1, hl.2.1, fun i v hi => ?_⟩
  · intro H locs M' r pc ls' hW hM' hok hQ hri
    have hq : ∀ t : State, t.heap = H → s.WarmedH t.vm → dt_Qc D ad cA y.2.2.2 Φ (av.map (dt_cv ad)).toArray s (.returned (r.map (dt_cv ad))) t := fun t ht _ =>
      ⟨⟨r, M', rfl, hQ, hok, hM', by rw [ht]; exact hW.1⟩, hW.2.2.F ht⟩
    have hf : ∀ q ∈ locs, dt_A ad q.base := hW.2.2.2.2
    generalize hrt : y.2.2.2 = rt at hok hr hq
    unfold dt_okr at hok
    unfold dt_ri at hri
    split at hok
    · exact W.vret hx hb hr hq hf hri
    · next x => exact W.iret hx hb hr hq hf hri
    · next x => exact W.zret (ty := .boolean) hx hb hr (by rcases hok with z | z <;> subst z <;> rfl) hq hf hri
    · next x => exact W.lret hx hb hr hq hf hri
    · next x => exact W.aret hx hb hr (Or.inl ⟨_, rfl⟩) (Or.inr ⟨_, rfl⟩) hq hf hri
    · exact hok.elim
  · have := de_args ad av 0 i v (de_lv hi)
    rw [Nat.zero_add] at this
    exact hl.2.2 _ this
/-! a walk: from a place on, up to the places where one stops -/
def dt_w (tb : Nat → dt_T) (cut : Nat → Bool) (d : Nat) (Q : Option dt_V → dt_M → Prop) (J : dt_K) (n : Nat) : dt_K :=
  Nat.rec (motive := fun _ => dt_K) J (fun _ ih pc lv st M => cond (cut pc) (J pc lv st M) (tb pc d Q ih pc lv st M)) n
theorem dt_w_ok {y : dt_Y} {tb : Nat → dt_T} (ht : ∀ pc, dt_S y (tb pc) pc) (cut : Nat → Bool) (d : Nat) (Q : Option dt_V → dt_M → Prop) : ∀ (n : Nat) (pc : Nat) (lv : dt_L) (st : List dt_V) (M : dt_M), dt_w tb cut d Q (dt_J y d Q) n pc lv st M → dt_J y d Q pc lv st M
  | 0, _, _, _, _, h => h
  | n + 1, pc, lv, st, M, h => by
    have h' : cond (cut pc) (dt_J y d Q pc lv st M) (tb pc d Q (dt_w tb cut d Q (dt_J y d Q) n) pc lv st M) := h
    cases hc : cut pc with
    | true => rw [hc] at h'; exact h'
    | false => rw [hc] at h'; exact ht pc d Q _ (dt_w_ok ht cut d Q n) lv st M h'
/-- the first step even where one would stop, then the walk -/
theorem dt_go {y : dt_Y} {tb : Nat → dt_T} (ht : ∀ pc, dt_S y (tb pc) pc) (cut : Nat → Bool) (n : Nat) {d : Nat} {Q : Option dt_V → dt_M → Prop} {pc : Nat} {lv : dt_L} {st : List dt_V} {M : dt_M} (h : tb pc d Q (dt_w tb cut d Q (dt_J y d Q) n) pc lv st M) : dt_J y d Q pc lv st M := ht pc d Q _ (dt_w_ok ht cut d Q n) lv st M h
/-- fewer locals known -/
theorem dt_less {y : dt_Y} {d : Nat} {Q : Option dt_V → dt_M → Prop} {pc : Nat} {lv lv' : dt_L} {st : List dt_V} {M : dt_M} (hl : ∀ (i : Nat) (v : dt_V), lv[i]? = some (some v) → lv'[i]? = some (some v)) (h : dt_J y d Q pc lv st M) : dt_J y d Q pc lv' st M := by
  intro ok p l e R s m args below meth c cells slots Qf D ad cA A C H locs ls hW hL
  exact h ⟨fun v hv => by
    obtain ⟨i, hi⟩ := List.getElem?_of_mem hv
    exact ok.1 v (List.mem_of_getElem? (hl i v hi)), ok.2⟩ p l e R s m args below meth c cells slots Qf D ad cA A C H locs ls hW ⟨hL.1, hL.2.1, fun i v hi => hL.2.2 i v (hl i v hi)⟩
theorem dt_post {y : dt_Y} {d : Nat} {av : List dt_V} {M : dt_M} {Φ Ψ : Option dt_V → dt_M → Prop} (h : dt_Sp y d av M Φ) (hi : ∀ r M', Φ r M' → Ψ r M') : dt_Sp y d av M Ψ := by
  intro l D ad cA p e ha hc hk s m args below hf hS hP hK
  obtain ⟨k, o, h1, h2, h3, h4, h5⟩ := h l D ad cA p e ha hc hk s m args below hf hS hP hK
  refine ⟨k, o, h1, h2, h3, ?_, h5⟩
  obtain ⟨⟨r, M', g1, g2, g3⟩, g4⟩ := h4
  exact ⟨⟨r, M', g1, hi r M' g2, g3⟩, g4⟩
theorem dt_okJ {y : dt_Y} {d : Nat} {Q : Option dt_V → dt_M → Prop} {pc : Nat} {lv : dt_L} {st : List dt_V} {M : dt_M} (h : dt_ok lv st M → dt_J y d Q pc lv st M) : dt_J y d Q pc lv st M := fun ok => h ok ok
/-! switches -/
def dt_sw (x : Int) (dflt : Nat) (G : Nat → Prop) : List (Int × Nat) → Prop
  | [] => G dflt
  | (v, t) :: r => (x = v → G t) ∧ (¬ x = v → dt_sw x dflt G r)
def dt_swt (x : Int) (dflt : Nat) : List (Int × Nat) → Nat
  | [] => dflt
  | (v, t) :: r => if x = v then t else dt_swt x dflt r
theorem dt_sw_t {x : Int} {dflt : Nat} {G : Nat → Prop} : ∀ {cs : List (Int × Nat)}, dt_sw x dflt G cs → G (dt_swt x dflt cs)
  | [], h => h
  | (v, t) :: r, h => by
    unfold dt_swt
    split
    · next e => exact h.1 e
    · next e => exact dt_sw_t (h.2 e)
def tc_sw (cs : List (Int × Nat)) (dflt : Nat) : dt_T := fun _ _ K _ lv st M => match st with
  | .inl x :: r => dt_sw x dflt (fun t => K t lv r M) cs
  | _ => False
theorem sn_ts {y : dt_Y} {pc len dflt : Nat} {cs : List (Int × Nat)} {dfl lo hi : Int} {offs : Array Int} (hd : decode y.2.1 pc = .ok (.tableswitch dfl lo hi offs, len)) (h1 : (pc : Int) + dfl = (dflt : Int)) (h2 : ∀ x : Int, x < lo ∨ hi < x → dt_swt x dflt cs = dflt) (h3 : ∀ x : Int, lo ≤ x → x ≤ hi → ∃ o, offs[(x - lo).toNat]? = some o ∧ (pc : Int) + o = (dt_swt x dflt cs : Int)) : dt_S y (tc_sw cs dflt) pc := by
  intro d Q K hK lv st M h
  unfold tc_sw at h
  split at h
  · next x r =>
    intro ok p l e R s m args below meth c cells slots Qf D ad cA A C H locs ls hW hL
    have rx : dt_r x := ds_h ok.2.1
    have := hK _ _ _ _ (dt_sw_t h) ⟨ok.1, ds_t ok.2.1, ok.2.2⟩ p l e R s m args below meth c cells slots Qf D ad cA A C H locs ls hW hL
    by_cases hx : x < lo ∨ hi < x
    · refine lv_tableOut (x := Int32.ofInt x) C.1 C.2.1 hd (by rw [dn_ti rx]; exact hx) h1 ?_
      rw [h2 x hx] at this
      exact this
    · obtain ⟨o, g1, g2⟩ := h3 x (by omega) (by omega)
      exact lv_tableIn (x := Int32.ofInt x) C.1 C.2.1 hd (by rw [dn_ti rx]; omega) (by rw [dn_ti rx]; omega) (by rw [dn_ti rx]; exact g1) g2 this
  · exact h.elim
theorem sn_ls {y : dt_Y} {pc len dflt : Nat} {cs : List (Int × Nat)} {dfl : Int} {ps : Array (Int × Int)} (hd : decode y.2.1 pc = .ok (.lookupswitch dfl ps, len)) (hp : (ps.toList.zip (ps.toList.drop 1)).all (fun (a, next) => a.1 < next.1) = true) (h3 : ∀ x : Int, (pc : Int) + Op.lookupswitch.offset ps.toList dfl x = (dt_swt x dflt cs : Int)) : dt_S y (tc_sw cs dflt) pc := by
  intro d Q K hK lv st M h
  unfold tc_sw at h
  split at h
  · next x r =>
    intro ok p l e R s m args below meth c cells slots Qf D ad cA A C H locs ls hW hL
    have rx : dt_r x := ds_h ok.2.1
    have := hK _ _ _ _ (dt_sw_t h) ⟨ok.1, ds_t ok.2.1, ok.2.2⟩ p l e R s m args below meth c cells slots Qf D ad cA A C H locs ls hW hL
    exact lv_lookup (x := Int32.ofInt x) C.1 C.2.1 hd hp rfl (by rw [dn_ti rx]; exact h3 x) this
  · exact h.elim
end
section
theorem dt_look : True := trivial
end
