/-! ===== DrawnTalks: decode rows, step tables ===== -/
theorem dX6_type_0 : decode cX6_type 0 = .ok (.iload_n 3, 1) := by decide +kernel
theorem dX6_type_1 : decode cX6_type 1 = .ok (.iconst 1, 1) := by decide +kernel
theorem dX6_type_2 : decode cX6_type 2 = .ok (.if_icmp .lt 9, 3) := by decide +kernel
theorem dX6_type_5 : decode cX6_type 5 = .ok (.iload_n 3, 1) := by decide +kernel
theorem dX6_type_6 : decode cX6_type 6 = .ok (.bipush 8, 2) := by decide +kernel
theorem dX6_type_8 : decode cX6_type 8 = .ok (.if_icmp .le 5, 3) := by decide +kernel
theorem dX6_type_11 : decode cX6_type 11 = .ok (.iconst (-1), 1) := by decide +kernel
theorem dX6_type_12 : decode cX6_type 12 = .ok (.ireturn, 1) := by decide +kernel
theorem dX6_type_13 : decode cX6_type 13 = .ok (.aload_n 0, 1) := by decide +kernel
theorem dX6_type_14 : decode cX6_type 14 = .ok (.getfield 23, 3) := by decide +kernel
theorem dX6_type_17 : decode cX6_type 17 = .ok (.getfield 59, 3) := by decide +kernel
theorem dX6_type_20 : decode cX6_type 20 = .ok (.iload_n 3, 1) := by decide +kernel
theorem dX6_type_21 : decode cX6_type 21 = .ok (.iadd, 1) := by decide +kernel
theorem dX6_type_22 : decode cX6_type 22 = .ok (.sipush 300, 3) := by decide +kernel
theorem dX6_type_25 : decode cX6_type 25 = .ok (.if_icmp .le 6, 3) := by decide +kernel
theorem dX6_type_28 : decode cX6_type 28 = .ok (.bipush (-3), 2) := by decide +kernel
theorem dX6_type_30 : decode cX6_type 30 = .ok (.ireturn, 1) := by decide +kernel
theorem dX6_type_31 : decode cX6_type 31 = .ok (.iload_n 3, 1) := by decide +kernel
theorem dX6_type_32 : decode cX6_type 32 = .ok (.iconst 1, 1) := by decide +kernel
theorem dX6_type_33 : decode cX6_type 33 = .ok (.isub, 1) := by decide +kernel
theorem dX6_type_34 : decode cX6_type 34 = .ok (.istore 4, 2) := by decide +kernel
theorem dX6_type_36 : decode cX6_type 36 = .ok (.iload 4, 2) := by decide +kernel
theorem dX6_type_38 : decode cX6_type 38 = .ok (.ifCond .lt 28, 3) := by decide +kernel
theorem dX6_type_41 : decode cX6_type 41 = .ok (.aload_n 0, 1) := by decide +kernel
theorem dX6_type_42 : decode cX6_type 42 = .ok (.getfield 23, 3) := by decide +kernel
theorem dX6_type_45 : decode cX6_type 45 = .ok (.lload_n 1, 1) := by decide +kernel
theorem dX6_type_46 : decode cX6_type 46 = .ok (.bipush 8, 2) := by decide +kernel
theorem dX6_type_48 : decode cX6_type 48 = .ok (.iload 4, 2) := by decide +kernel
theorem dX6_type_50 : decode cX6_type 50 = .ok (.imul, 1) := by decide +kernel
theorem dX6_type_51 : decode cX6_type 51 = .ok (.lushr, 1) := by decide +kernel
theorem dX6_type_52 : decode cX6_type 52 = .ok (.l2i, 1) := by decide +kernel
theorem dX6_type_53 : decode cX6_type 53 = .ok (.sipush 255, 3) := by decide +kernel
theorem dX6_type_56 : decode cX6_type 56 = .ok (.iand, 1) := by decide +kernel
theorem dX6_type_57 : decode cX6_type 57 = .ok (.invokevirtual 63, 3) := by decide +kernel
theorem dX6_type_60 : decode cX6_type 60 = .ok (.iinc 4 (-1), 3) := by decide +kernel
theorem dX6_type_63 : decode cX6_type 63 = .ok (.goto (-27), 3) := by decide +kernel
theorem dX6_type_66 : decode cX6_type 66 = .ok (.aload_n 0, 1) := by decide +kernel
theorem dX6_type_67 : decode cX6_type 67 = .ok (.getfield 23, 3) := by decide +kernel
theorem dX6_type_70 : decode cX6_type 70 = .ok (.getfield 59, 3) := by decide +kernel
theorem dX6_type_73 : decode cX6_type 73 = .ok (.ireturn, 1) := by decide +kernel
def tbX6_type (pc : Nat) : dt_T := cond (Nat.ble pc 33) (cond (Nat.ble pc 14) (cond (Nat.ble pc 6) (cond (Nat.ble pc 1) (cond (Nat.ble pc 0) (cond (Nat.beq pc 0) (tc_ldI 3 1) tc_no) (cond (Nat.beq pc 1) (tc_ic 1 2) tc_no)) (cond (Nat.ble pc 2) (cond (Nat.beq pc 2) (tc_icmplt 11 5) tc_no) (cond (Nat.ble pc 5) (cond (Nat.beq pc 5) (tc_ldI 3 6) tc_no) (cond (Nat.beq pc 6) (tc_ic 8 8) tc_no)))) (cond (Nat.ble pc 11) (cond (Nat.ble pc 8) (cond (Nat.beq pc 8) (tc_icmple 13 11) tc_no) (cond (Nat.beq pc 11) (tc_ic (-1) 12) tc_no)) (cond (Nat.ble pc 12) (cond (Nat.beq pc 12) (tc_iret) tc_no) (cond (Nat.ble pc 13) (cond (Nat.beq pc 13) (tc_ldA 0 14) tc_no) (cond (Nat.beq pc 14) (tc_getf 6 2 17) tc_no))))) (cond (Nat.ble pc 25) (cond (Nat.ble pc 20) (cond (Nat.ble pc 17) (cond (Nat.beq pc 17) (tc_getf 3 1 20) tc_no) (cond (Nat.beq pc 20) (tc_ldI 3 21) tc_no)) (cond (Nat.ble pc 21) (cond (Nat.beq pc 21) (tc_iadd 22) tc_no) (cond (Nat.ble pc 22) (cond (Nat.beq pc 22) (tc_ic 300 25) tc_no) (cond (Nat.beq pc 25) (tc_icmple 31 28) tc_no)))) (cond (Nat.ble pc 30) (cond (Nat.ble pc 28) (cond (Nat.beq pc 28) (tc_ic (-3) 30) tc_no) (cond (Nat.beq pc 30) (tc_iret) tc_no)) (cond (Nat.ble pc 31) (cond (Nat.beq pc 31) (tc_ldI 3 32) tc_no) (cond (Nat.ble pc 32) (cond (Nat.beq pc 32) (tc_ic 1 33) tc_no) (cond (Nat.beq pc 33) (tc_isub 34) tc_no)))))) (cond (Nat.ble pc 51) (cond (Nat.ble pc 42) (cond (Nat.ble pc 36) (cond (Nat.ble pc 34) (cond (Nat.beq pc 34) (tc_stI 4 36) tc_no) (cond (Nat.beq pc 36) (tc_ldI 4 38) tc_no)) (cond (Nat.ble pc 38) (cond (Nat.beq pc 38) (tc_iflt 66 41) tc_no) (cond (Nat.ble pc 41) (cond (Nat.beq pc 41) (tc_ldA 0 42) tc_no) (cond (Nat.beq pc 42) (tc_getf 6 2 45) tc_no)))) (cond (Nat.ble pc 46) (cond (Nat.ble pc 45) (cond (Nat.beq pc 45) (tc_ldL 1 46) tc_no) (cond (Nat.beq pc 46) (tc_ic 8 48) tc_no)) (cond (Nat.ble pc 48) (cond (Nat.beq pc 48) (tc_ldI 4 50) tc_no) (cond (Nat.ble pc 50) (cond (Nat.beq pc 50) (tc_imul 51) tc_no) (cond (Nat.beq pc 51) (tc_lushr 52) tc_no))))) (cond (Nat.ble pc 60) (cond (Nat.ble pc 53) (cond (Nat.ble pc 52) (cond (Nat.beq pc 52) (tc_l2i 53) tc_no) (cond (Nat.beq pc 53) (tc_ic 255 56) tc_no)) (cond (Nat.ble pc 56) (cond (Nat.beq pc 56) (tc_iand 57) tc_no) (cond (Nat.ble pc 57) (cond (Nat.beq pc 57) (tc_callV 3 mX3_append 1 60) tc_no) (cond (Nat.beq pc 60) (tc_iinc 4 (-1) 63) tc_no)))) (cond (Nat.ble pc 66) (cond (Nat.ble pc 63) (cond (Nat.beq pc 63) (tc_goto 36) tc_no) (cond (Nat.beq pc 66) (tc_ldA 0 67) tc_no)) (cond (Nat.ble pc 67) (cond (Nat.beq pc 67) (tc_getf 6 2 70) tc_no) (cond (Nat.ble pc 70) (cond (Nat.beq pc 70) (tc_getf 3 1 73) tc_no) (cond (Nat.beq pc 73) (tc_iret) tc_no))))))
theorem okX6_type : ∀ pc, dt_S mX6_type (tbX6_type pc) pc := by
  intro pc
  unfold tbX6_type
  exact dt_Sb (dt_Sb (dt_Sb (dt_Sb (dt_Sb (dt_Sl 0 (sn_ldIn rfl dX6_type_0 rfl)) (dt_Sl 1 (sn_ic ⟨by decide, by decide⟩ dX6_type_1 rfl))) (dt_Sb (dt_Sl 2 (sn_icmplt dX6_type_2 (by decide) rfl)) (dt_Sb (dt_Sl 5 (sn_ldIn rfl dX6_type_5 rfl)) (dt_Sl 6 (sn_bi ⟨by decide, by decide⟩ rfl dX6_type_6 rfl))))) (dt_Sb (dt_Sb (dt_Sl 8 (sn_icmple dX6_type_8 (by decide) rfl)) (dt_Sl 11 (sn_ic ⟨by decide, by decide⟩ dX6_type_11 rfl))) (dt_Sb (dt_Sl 12 (sn_iret rfl dX6_type_12)) (dt_Sb (dt_Sl 13 (sn_ldAn rfl dX6_type_13 rfl)) (dt_Sl 14 (sn_getf rfl ffX6 (by decide) wq_1_219 dX6_type_14 rfl)))))) (dt_Sb (dt_Sb (dt_Sb (dt_Sl 17 (sn_getfN rfl ffX3 (by decide) wq_1_89 dX6_type_17 rfl)) (dt_Sl 20 (sn_ldIn rfl dX6_type_20 rfl))) (dt_Sb (dt_Sl 21 (sn_iadd dX6_type_21 rfl)) (dt_Sb (dt_Sl 22 (sn_si ⟨by decide, by decide⟩ rfl dX6_type_22 rfl)) (dt_Sl 25 (sn_icmple dX6_type_25 (by decide) rfl))))) (dt_Sb (dt_Sb (dt_Sl 28 (sn_bi ⟨by decide, by decide⟩ rfl dX6_type_28 rfl)) (dt_Sl 30 (sn_iret rfl dX6_type_30))) (dt_Sb (dt_Sl 31 (sn_ldIn rfl dX6_type_31 rfl)) (dt_Sb (dt_Sl 32 (sn_ic ⟨by decide, by decide⟩ dX6_type_32 rfl)) (dt_Sl 33 (sn_isub dX6_type_33 rfl))))))) (dt_Sb (dt_Sb (dt_Sb (dt_Sb (dt_Sl 34 (sn_stI (by decide) dX6_type_34 rfl)) (dt_Sl 36 (sn_ldI dX6_type_36 rfl))) (dt_Sb (dt_Sl 38 (sn_iflt dX6_type_38 (by decide) rfl)) (dt_Sb (dt_Sl 41 (sn_ldAn rfl dX6_type_41 rfl)) (dt_Sl 42 (sn_getf rfl ffX6 (by decide) wq_1_219 dX6_type_42 rfl))))) (dt_Sb (dt_Sb (dt_Sl 45 (sn_ldLn rfl dX6_type_45 rfl)) (dt_Sl 46 (sn_bi ⟨by decide, by decide⟩ rfl dX6_type_46 rfl))) (dt_Sb (dt_Sl 48 (sn_ldI dX6_type_48 rfl)) (dt_Sb (dt_Sl 50 (sn_imul dX6_type_50 rfl)) (dt_Sl 51 (sn_lushr dX6_type_51 rfl)))))) (dt_Sb (dt_Sb (dt_Sb (dt_Sl 52 (sn_l2i dX6_type_52 rfl)) (dt_Sl 53 (sn_si ⟨by decide, by decide⟩ rfl dX6_type_53 rfl))) (dt_Sb (dt_Sl 56 (sn_iand dX6_type_56 rfl)) (dt_Sb (dt_Sl 57 (sn_callV rfl ffX3 nnX3_append rfl wq_2_3 wq_2_4 wq_2_5 dX6_type_57 rfl)) (dt_Sl 60 (sn_iinc (by decide) dX6_type_60 rfl))))) (dt_Sb (dt_Sb (dt_Sl 63 (sn_goto dX6_type_63 (by decide))) (dt_Sl 66 (sn_ldAn rfl dX6_type_66 rfl))) (dt_Sb (dt_Sl 67 (sn_getf rfl ffX6 (by decide) wq_1_219 dX6_type_67 rfl)) (dt_Sb (dt_Sl 70 (sn_getfN rfl ffX3 (by decide) wq_1_89 dX6_type_70 rfl)) (dt_Sl 73 (sn_iret rfl dX6_type_73)))))))
theorem dX6_clear_0 : decode cX6_clear 0 = .ok (.aload_n 0, 1) := by decide +kernel
theorem dX6_clear_1 : decode cX6_clear 1 = .ok (.getfield 23, 3) := by decide +kernel
theorem dX6_clear_4 : decode cX6_clear 4 = .ok (.getfield 59, 3) := by decide +kernel
theorem dX6_clear_7 : decode cX6_clear 7 = .ok (.istore_n 1, 1) := by decide +kernel
theorem dX6_clear_8 : decode cX6_clear 8 = .ok (.aload_n 0, 1) := by decide +kernel
theorem dX6_clear_9 : decode cX6_clear 9 = .ok (.getfield 23, 3) := by decide +kernel
theorem dX6_clear_12 : decode cX6_clear 12 = .ok (.iconst 0, 1) := by decide +kernel
theorem dX6_clear_13 : decode cX6_clear 13 = .ok (.putfield 59, 3) := by decide +kernel
theorem dX6_clear_16 : decode cX6_clear 16 = .ok (.iload_n 1, 1) := by decide +kernel
theorem dX6_clear_17 : decode cX6_clear 17 = .ok (.ireturn, 1) := by decide +kernel
def tbX6_clear (pc : Nat) : dt_T := cond (Nat.ble pc 8) (cond (Nat.ble pc 1) (cond (Nat.ble pc 0) (cond (Nat.beq pc 0) (tc_ldA 0 1) tc_no) (cond (Nat.beq pc 1) (tc_getf 6 2 4) tc_no)) (cond (Nat.ble pc 4) (cond (Nat.beq pc 4) (tc_getf 3 1 7) tc_no) (cond (Nat.ble pc 7) (cond (Nat.beq pc 7) (tc_stI 1 8) tc_no) (cond (Nat.beq pc 8) (tc_ldA 0 9) tc_no)))) (cond (Nat.ble pc 12) (cond (Nat.ble pc 9) (cond (Nat.beq pc 9) (tc_getf 6 2 12) tc_no) (cond (Nat.beq pc 12) (tc_ic 0 13) tc_no)) (cond (Nat.ble pc 13) (cond (Nat.beq pc 13) (tc_putI 3 1 16) tc_no) (cond (Nat.ble pc 16) (cond (Nat.beq pc 16) (tc_ldI 1 17) tc_no) (cond (Nat.beq pc 17) (tc_iret) tc_no))))
theorem okX6_clear : ∀ pc, dt_S mX6_clear (tbX6_clear pc) pc := by
  intro pc
  unfold tbX6_clear
  exact dt_Sb (dt_Sb (dt_Sb (dt_Sl 0 (sn_ldAn rfl dX6_clear_0 rfl)) (dt_Sl 1 (sn_getf rfl ffX6 (by decide) wq_1_219 dX6_clear_1 rfl))) (dt_Sb (dt_Sl 4 (sn_getfN rfl ffX3 (by decide) wq_1_89 dX6_clear_4 rfl)) (dt_Sb (dt_Sl 7 (sn_stIn rfl (by decide) dX6_clear_7 rfl)) (dt_Sl 8 (sn_ldAn rfl dX6_clear_8 rfl))))) (dt_Sb (dt_Sb (dt_Sl 9 (sn_getf rfl ffX6 (by decide) wq_1_219 dX6_clear_9 rfl)) (dt_Sl 12 (sn_ic ⟨by decide, by decide⟩ dX6_clear_12 rfl))) (dt_Sb (dt_Sl 13 (sn_putIN rfl ffX3 (by decide) rfl rfl (by decide +kernel) wq_1_89 dX6_clear_13 rfl)) (dt_Sb (dt_Sl 16 (sn_ldIn rfl dX6_clear_16 rfl)) (dt_Sl 17 (sn_iret rfl dX6_clear_17)))))
theorem dX6_talk_0 : decode cX6_talk 0 = .ok (.iload_n 1, 1) := by decide +kernel
theorem dX6_talk_1 : decode cX6_talk 1 = .ok (.invokestatic 67, 3) := by decide +kernel
theorem dX6_talk_4 : decode cX6_talk 4 = .ok (.ifCond .ne 5, 3) := by decide +kernel
theorem dX6_talk_7 : decode cX6_talk 7 = .ok (.iconst (-1), 1) := by decide +kernel
theorem dX6_talk_8 : decode cX6_talk 8 = .ok (.ireturn, 1) := by decide +kernel
theorem dX6_talk_9 : decode cX6_talk 9 = .ok (.aload_n 0, 1) := by decide +kernel
theorem dX6_talk_10 : decode cX6_talk 10 = .ok (.getfield 23, 3) := by decide +kernel
theorem dX6_talk_13 : decode cX6_talk 13 = .ok (.aload_n 0, 1) := by decide +kernel
theorem dX6_talk_14 : decode cX6_talk 14 = .ok (.getfield 16, 3) := by decide +kernel
theorem dX6_talk_17 : decode cX6_talk 17 = .ok (.invokevirtual 71, 3) := by decide +kernel
theorem dX6_talk_20 : decode cX6_talk 20 = .ok (.istore_n 2, 1) := by decide +kernel
theorem dX6_talk_21 : decode cX6_talk 21 = .ok (.iload_n 2, 1) := by decide +kernel
theorem dX6_talk_22 : decode cX6_talk 22 = .ok (.iconst (-1), 1) := by decide +kernel
theorem dX6_talk_23 : decode cX6_talk 23 = .ok (.if_icmp .eq 8, 3) := by decide +kernel
theorem dX6_talk_26 : decode cX6_talk 26 = .ok (.bipush (-10), 2) := by decide +kernel
theorem dX6_talk_28 : decode cX6_talk 28 = .ok (.iload_n 2, 1) := by decide +kernel
theorem dX6_talk_29 : decode cX6_talk 29 = .ok (.isub, 1) := by decide +kernel
theorem dX6_talk_30 : decode cX6_talk 30 = .ok (.ireturn, 1) := by decide +kernel
theorem dX6_talk_31 : decode cX6_talk 31 = .ok (.aload_n 0, 1) := by decide +kernel
theorem dX6_talk_32 : decode cX6_talk 32 = .ok (.getfield 23, 3) := by decide +kernel
theorem dX6_talk_35 : decode cX6_talk 35 = .ok (.iconst 0, 1) := by decide +kernel
theorem dX6_talk_36 : decode cX6_talk 36 = .ok (.putfield 59, 3) := by decide +kernel
theorem dX6_talk_39 : decode cX6_talk 39 = .ok (.aload_n 0, 1) := by decide +kernel
theorem dX6_talk_40 : decode cX6_talk 40 = .ok (.iload_n 1, 1) := by decide +kernel
theorem dX6_talk_41 : decode cX6_talk 41 = .ok (.invokevirtual 75, 3) := by decide +kernel
theorem dX6_talk_44 : decode cX6_talk 44 = .ok (.ireturn, 1) := by decide +kernel
def tbX6_talk (pc : Nat) : dt_T := cond (Nat.ble pc 22) (cond (Nat.ble pc 9) (cond (Nat.ble pc 4) (cond (Nat.ble pc 0) (cond (Nat.beq pc 0) (tc_ldI 1 1) tc_no) (cond (Nat.ble pc 1) (cond (Nat.beq pc 1) (tc_callS mX6_isTalk 1 4) tc_no) (cond (Nat.beq pc 4) (tc_ifne 9 7) tc_no))) (cond (Nat.ble pc 7) (cond (Nat.beq pc 7) (tc_ic (-1) 8) tc_no) (cond (Nat.ble pc 8) (cond (Nat.beq pc 8) (tc_iret) tc_no) (cond (Nat.beq pc 9) (tc_ldA 0 10) tc_no)))) (cond (Nat.ble pc 14) (cond (Nat.ble pc 10) (cond (Nat.beq pc 10) (tc_getf 6 2 13) tc_no) (cond (Nat.ble pc 13) (cond (Nat.beq pc 13) (tc_ldA 0 14) tc_no) (cond (Nat.beq pc 14) (tc_getf 6 1 17) tc_no))) (cond (Nat.ble pc 20) (cond (Nat.ble pc 17) (cond (Nat.beq pc 17) (tc_callV 3 mX3_readInto 1 20) tc_no) (cond (Nat.beq pc 20) (tc_stI 2 21) tc_no)) (cond (Nat.ble pc 21) (cond (Nat.beq pc 21) (tc_ldI 2 22) tc_no) (cond (Nat.beq pc 22) (tc_ic (-1) 23) tc_no))))) (cond (Nat.ble pc 31) (cond (Nat.ble pc 28) (cond (Nat.ble pc 23) (cond (Nat.beq pc 23) (tc_icmpeq 31 26) tc_no) (cond (Nat.ble pc 26) (cond (Nat.beq pc 26) (tc_ic (-10) 28) tc_no) (cond (Nat.beq pc 28) (tc_ldI 2 29) tc_no))) (cond (Nat.ble pc 29) (cond (Nat.beq pc 29) (tc_isub 30) tc_no) (cond (Nat.ble pc 30) (cond (Nat.beq pc 30) (tc_iret) tc_no) (cond (Nat.beq pc 31) (tc_ldA 0 32) tc_no)))) (cond (Nat.ble pc 36) (cond (Nat.ble pc 32) (cond (Nat.beq pc 32) (tc_getf 6 2 35) tc_no) (cond (Nat.ble pc 35) (cond (Nat.beq pc 35) (tc_ic 0 36) tc_no) (cond (Nat.beq pc 36) (tc_putI 3 1 39) tc_no))) (cond (Nat.ble pc 40) (cond (Nat.ble pc 39) (cond (Nat.beq pc 39) (tc_ldA 0 40) tc_no) (cond (Nat.beq pc 40) (tc_ldI 1 41) tc_no)) (cond (Nat.ble pc 41) (cond (Nat.beq pc 41) (tc_callV 6 mX6_keepBuilt 1 44) tc_no) (cond (Nat.beq pc 44) (tc_iret) tc_no)))))
theorem okX6_talk : ∀ pc, dt_S mX6_talk (tbX6_talk pc) pc := by
  intro pc
  unfold tbX6_talk
  exact dt_Sb (dt_Sb (dt_Sb (dt_Sb (dt_Sl 0 (sn_ldIn rfl dX6_talk_0 rfl)) (dt_Sb (dt_Sl 1 (sn_callS rfl nnX6_isTalk wq_2_15 wq_2_16 dX6_talk_1 rfl)) (dt_Sl 4 (sn_ifne dX6_talk_4 (by decide) rfl)))) (dt_Sb (dt_Sl 7 (sn_ic ⟨by decide, by decide⟩ dX6_talk_7 rfl)) (dt_Sb (dt_Sl 8 (sn_iret rfl dX6_talk_8)) (dt_Sl 9 (sn_ldAn rfl dX6_talk_9 rfl))))) (dt_Sb (dt_Sb (dt_Sl 10 (sn_getf rfl ffX6 (by decide) wq_1_219 dX6_talk_10 rfl)) (dt_Sb (dt_Sl 13 (sn_ldAn rfl dX6_talk_13 rfl)) (dt_Sl 14 (sn_getf rfl ffX6 (by decide) wq_1_218 dX6_talk_14 rfl)))) (dt_Sb (dt_Sb (dt_Sl 17 (sn_callV rfl ffX3 nnX3_readInto rfl wq_2_18 wq_2_19 wq_2_20 dX6_talk_17 rfl)) (dt_Sl 20 (sn_stIn rfl (by decide) dX6_talk_20 rfl))) (dt_Sb (dt_Sl 21 (sn_ldIn rfl dX6_talk_21 rfl)) (dt_Sl 22 (sn_ic ⟨by decide, by decide⟩ dX6_talk_22 rfl)))))) (dt_Sb (dt_Sb (dt_Sb (dt_Sl 23 (sn_icmpeq dX6_talk_23 (by decide) rfl)) (dt_Sb (dt_Sl 26 (sn_bi ⟨by decide, by decide⟩ rfl dX6_talk_26 rfl)) (dt_Sl 28 (sn_ldIn rfl dX6_talk_28 rfl)))) (dt_Sb (dt_Sl 29 (sn_isub dX6_talk_29 rfl)) (dt_Sb (dt_Sl 30 (sn_iret rfl dX6_talk_30)) (dt_Sl 31 (sn_ldAn rfl dX6_talk_31 rfl))))) (dt_Sb (dt_Sb (dt_Sl 32 (sn_getf rfl ffX6 (by decide) wq_1_219 dX6_talk_32 rfl)) (dt_Sb (dt_Sl 35 (sn_ic ⟨by decide, by decide⟩ dX6_talk_35 rfl)) (dt_Sl 36 (sn_putIN rfl ffX3 (by decide) rfl rfl (by decide +kernel) wq_1_89 dX6_talk_36 rfl)))) (dt_Sb (dt_Sb (dt_Sl 39 (sn_ldAn rfl dX6_talk_39 rfl)) (dt_Sl 40 (sn_ldIn rfl dX6_talk_40 rfl))) (dt_Sb (dt_Sl 41 (sn_callV rfl ffX6 nnX6_keepBuilt rfl wq_2_120 wq_2_122 wq_0_6 dX6_talk_41 rfl)) (dt_Sl 44 (sn_iret rfl dX6_talk_44))))))
theorem dX6_about_0 : decode cX6_about 0 = .ok (.iload_n 1, 1) := by decide +kernel
theorem dX6_about_1 : decode cX6_about 1 = .ok (.invokestatic 67, 3) := by decide +kernel
theorem dX6_about_4 : decode cX6_about 4 = .ok (.ifCond .ne 5, 3) := by decide +kernel
theorem dX6_about_7 : decode cX6_about 7 = .ok (.iconst (-1), 1) := by decide +kernel
theorem dX6_about_8 : decode cX6_about 8 = .ok (.ireturn, 1) := by decide +kernel
theorem dX6_about_9 : decode cX6_about 9 = .ok (.iload_n 2, 1) := by decide +kernel
theorem dX6_about_10 : decode cX6_about 10 = .ok (.tableswitch 56 0 2 #[26, 36, 46], 26) := by decide +kernel
theorem dX6_about_36 : decode cX6_about 36 = .ok (.aload_n 0, 1) := by decide +kernel
theorem dX6_about_37 : decode cX6_about 37 = .ok (.getfield 11, 3) := by decide +kernel
theorem dX6_about_40 : decode cX6_about 40 = .ok (.iload_n 1, 1) := by decide +kernel
theorem dX6_about_41 : decode cX6_about 41 = .ok (.aaload, 1) := by decide +kernel
theorem dX6_about_42 : decode cX6_about 42 = .ok (.getfield 79, 3) := by decide +kernel
theorem dX6_about_45 : decode cX6_about 45 = .ok (.ireturn, 1) := by decide +kernel
theorem dX6_about_46 : decode cX6_about 46 = .ok (.aload_n 0, 1) := by decide +kernel
theorem dX6_about_47 : decode cX6_about 47 = .ok (.getfield 11, 3) := by decide +kernel
theorem dX6_about_50 : decode cX6_about 50 = .ok (.iload_n 1, 1) := by decide +kernel
theorem dX6_about_51 : decode cX6_about 51 = .ok (.aaload, 1) := by decide +kernel
theorem dX6_about_52 : decode cX6_about 52 = .ok (.getfield 82, 3) := by decide +kernel
theorem dX6_about_55 : decode cX6_about 55 = .ok (.ireturn, 1) := by decide +kernel
theorem dX6_about_56 : decode cX6_about 56 = .ok (.aload_n 0, 1) := by decide +kernel
theorem dX6_about_57 : decode cX6_about 57 = .ok (.getfield 11, 3) := by decide +kernel
theorem dX6_about_60 : decode cX6_about 60 = .ok (.iload_n 1, 1) := by decide +kernel
theorem dX6_about_61 : decode cX6_about 61 = .ok (.aaload, 1) := by decide +kernel
theorem dX6_about_62 : decode cX6_about 62 = .ok (.invokevirtual 85, 3) := by decide +kernel
theorem dX6_about_65 : decode cX6_about 65 = .ok (.ireturn, 1) := by decide +kernel
theorem dX6_about_66 : decode cX6_about 66 = .ok (.iconst (-1), 1) := by decide +kernel
theorem dX6_about_67 : decode cX6_about 67 = .ok (.ireturn, 1) := by decide +kernel
def tbX6_about (pc : Nat) : dt_T := cond (Nat.ble pc 45) (cond (Nat.ble pc 9) (cond (Nat.ble pc 4) (cond (Nat.ble pc 0) (cond (Nat.beq pc 0) (tc_ldI 1 1) tc_no) (cond (Nat.ble pc 1) (cond (Nat.beq pc 1) (tc_callS mX6_isTalk 1 4) tc_no) (cond (Nat.beq pc 4) (tc_ifne 9 7) tc_no))) (cond (Nat.ble pc 7) (cond (Nat.beq pc 7) (tc_ic (-1) 8) tc_no) (cond (Nat.ble pc 8) (cond (Nat.beq pc 8) (tc_iret) tc_no) (cond (Nat.beq pc 9) (tc_ldI 2 10) tc_no)))) (cond (Nat.ble pc 37) (cond (Nat.ble pc 10) (cond (Nat.beq pc 10) (tc_sw [(0, 36), (1, 46), (2, 56)] 66) tc_no) (cond (Nat.ble pc 36) (cond (Nat.beq pc 36) (tc_ldA 0 37) tc_no) (cond (Nat.beq pc 37) (tc_getf 6 0 40) tc_no))) (cond (Nat.ble pc 41) (cond (Nat.ble pc 40) (cond (Nat.beq pc 40) (tc_ldI 1 41) tc_no) (cond (Nat.beq pc 41) (tc_aald 42) tc_no)) (cond (Nat.ble pc 42) (cond (Nat.beq pc 42) (tc_getf 5 7 45) tc_no) (cond (Nat.beq pc 45) (tc_iret) tc_no))))) (cond (Nat.ble pc 56) (cond (Nat.ble pc 50) (cond (Nat.ble pc 46) (cond (Nat.beq pc 46) (tc_ldA 0 47) tc_no) (cond (Nat.ble pc 47) (cond (Nat.beq pc 47) (tc_getf 6 0 50) tc_no) (cond (Nat.beq pc 50) (tc_ldI 1 51) tc_no))) (cond (Nat.ble pc 52) (cond (Nat.ble pc 51) (cond (Nat.beq pc 51) (tc_aald 52) tc_no) (cond (Nat.beq pc 52) (tc_getf 5 8 55) tc_no)) (cond (Nat.ble pc 55) (cond (Nat.beq pc 55) (tc_iret) tc_no) (cond (Nat.beq pc 56) (tc_ldA 0 57) tc_no)))) (cond (Nat.ble pc 61) (cond (Nat.ble pc 57) (cond (Nat.beq pc 57) (tc_getf 6 0 60) tc_no) (cond (Nat.ble pc 60) (cond (Nat.beq pc 60) (tc_ldI 1 61) tc_no) (cond (Nat.beq pc 61) (tc_aald 62) tc_no))) (cond (Nat.ble pc 65) (cond (Nat.ble pc 62) (cond (Nat.beq pc 62) (tc_callV 5 mX5_partsWithEvents 0 65) tc_no) (cond (Nat.beq pc 65) (tc_iret) tc_no)) (cond (Nat.ble pc 66) (cond (Nat.beq pc 66) (tc_ic (-1) 67) tc_no) (cond (Nat.beq pc 67) (tc_iret) tc_no)))))
theorem okX6_about : ∀ pc, dt_S mX6_about (tbX6_about pc) pc := by
  intro pc
  unfold tbX6_about
  exact dt_Sb (dt_Sb (dt_Sb (dt_Sb (dt_Sl 0 (sn_ldIn rfl dX6_about_0 rfl)) (dt_Sb (dt_Sl 1 (sn_callS rfl nnX6_isTalk wq_2_15 wq_2_16 dX6_about_1 rfl)) (dt_Sl 4 (sn_ifne dX6_about_4 (by decide) rfl)))) (dt_Sb (dt_Sl 7 (sn_ic ⟨by decide, by decide⟩ dX6_about_7 rfl)) (dt_Sb (dt_Sl 8 (sn_iret rfl dX6_about_8)) (dt_Sl 9 (sn_ldIn rfl dX6_about_9 rfl))))) (dt_Sb (dt_Sb (dt_Sl 10 (sn_ts dX6_about_10 (by decide) (fun x hx => by simp only [dt_swt]; rw [if_neg (by omega), if_neg (by omega), if_neg (by omega)]) (fun x h1 h2 => by rcases (show x = 0 ∨ x = 1 ∨ x = 2 by omega) with rfl | rfl | rfl <;> exact ⟨_, rfl, by decide⟩))) (dt_Sb (dt_Sl 36 (sn_ldAn rfl dX6_about_36 rfl)) (dt_Sl 37 (sn_getf rfl ffX6 (by decide) wq_1_217 dX6_about_37 rfl)))) (dt_Sb (dt_Sb (dt_Sl 40 (sn_ldIn rfl dX6_about_40 rfl)) (dt_Sl 41 (sn_aald dX6_about_41 rfl))) (dt_Sb (dt_Sl 42 (sn_getfN rfl ffX5 (by decide) wq_1_56 dX6_about_42 rfl)) (dt_Sl 45 (sn_iret rfl dX6_about_45)))))) (dt_Sb (dt_Sb (dt_Sb (dt_Sl 46 (sn_ldAn rfl dX6_about_46 rfl)) (dt_Sb (dt_Sl 47 (sn_getf rfl ffX6 (by decide) wq_1_217 dX6_about_47 rfl)) (dt_Sl 50 (sn_ldIn rfl dX6_about_50 rfl)))) (dt_Sb (dt_Sb (dt_Sl 51 (sn_aald dX6_about_51 rfl)) (dt_Sl 52 (sn_getfN rfl ffX5 (by decide) wq_1_59 dX6_about_52 rfl))) (dt_Sb (dt_Sl 55 (sn_iret rfl dX6_about_55)) (dt_Sl 56 (sn_ldAn rfl dX6_about_56 rfl))))) (dt_Sb (dt_Sb (dt_Sl 57 (sn_getf rfl ffX6 (by decide) wq_1_217 dX6_about_57 rfl)) (dt_Sb (dt_Sl 60 (sn_ldIn rfl dX6_about_60 rfl)) (dt_Sl 61 (sn_aald dX6_about_61 rfl)))) (dt_Sb (dt_Sb (dt_Sl 62 (sn_callV rfl ffX5 nnX5_partsWithEvents rfl wq_2_140 wq_2_141 wq_2_142 dX6_about_62 rfl)) (dt_Sl 65 (sn_iret rfl dX6_about_65))) (dt_Sb (dt_Sl 66 (sn_ic ⟨by decide, by decide⟩ dX6_about_66 rfl)) (dt_Sl 67 (sn_iret rfl dX6_about_67))))))
theorem dX6_event_0 : decode cX6_event 0 = .ok (.aload_n 0, 1) := by decide +kernel
theorem dX6_event_1 : decode cX6_event 1 = .ok (.iload_n 1, 1) := by decide +kernel
theorem dX6_event_2 : decode cX6_event 2 = .ok (.iload_n 2, 1) := by decide +kernel
theorem dX6_event_3 : decode cX6_event 3 = .ok (.invokevirtual 89, 3) := by decide +kernel
theorem dX6_event_6 : decode cX6_event 6 = .ok (.ifCond .ne 5, 3) := by decide +kernel
theorem dX6_event_9 : decode cX6_event 9 = .ok (.iconst (-1), 1) := by decide +kernel
theorem dX6_event_10 : decode cX6_event 10 = .ok (.ireturn, 1) := by decide +kernel
theorem dX6_event_11 : decode cX6_event 11 = .ok (.aload_n 0, 1) := by decide +kernel
theorem dX6_event_12 : decode cX6_event 12 = .ok (.getfield 11, 3) := by decide +kernel
theorem dX6_event_15 : decode cX6_event 15 = .ok (.iload_n 1, 1) := by decide +kernel
theorem dX6_event_16 : decode cX6_event 16 = .ok (.aaload, 1) := by decide +kernel
theorem dX6_event_17 : decode cX6_event 17 = .ok (.astore 4, 2) := by decide +kernel
theorem dX6_event_19 : decode cX6_event 19 = .ok (.iload_n 3, 1) := by decide +kernel
theorem dX6_event_20 : decode cX6_event 20 = .ok (.tableswitch 79 0 4 #[36, 47, 55, 63, 71], 36) := by decide +kernel
theorem dX6_event_56 : decode cX6_event 56 = .ok (.aload 4, 2) := by decide +kernel
theorem dX6_event_58 : decode cX6_event 58 = .ok (.getfield 93, 3) := by decide +kernel
theorem dX6_event_61 : decode cX6_event 61 = .ok (.iload_n 2, 1) := by decide +kernel
theorem dX6_event_62 : decode cX6_event 62 = .ok (.baload, 1) := by decide +kernel
theorem dX6_event_63 : decode cX6_event 63 = .ok (.invokestatic 97, 3) := by decide +kernel
theorem dX6_event_66 : decode cX6_event 66 = .ok (.ireturn, 1) := by decide +kernel
theorem dX6_event_67 : decode cX6_event 67 = .ok (.aload 4, 2) := by decide +kernel
theorem dX6_event_69 : decode cX6_event 69 = .ok (.getfield 101, 3) := by decide +kernel
theorem dX6_event_72 : decode cX6_event 72 = .ok (.iload_n 2, 1) := by decide +kernel
theorem dX6_event_73 : decode cX6_event 73 = .ok (.iaload, 1) := by decide +kernel
theorem dX6_event_74 : decode cX6_event 74 = .ok (.ireturn, 1) := by decide +kernel
theorem dX6_event_75 : decode cX6_event 75 = .ok (.aload 4, 2) := by decide +kernel
theorem dX6_event_77 : decode cX6_event 77 = .ok (.getfield 105, 3) := by decide +kernel
theorem dX6_event_80 : decode cX6_event 80 = .ok (.iload_n 2, 1) := by decide +kernel
theorem dX6_event_81 : decode cX6_event 81 = .ok (.iaload, 1) := by decide +kernel
theorem dX6_event_82 : decode cX6_event 82 = .ok (.ireturn, 1) := by decide +kernel
theorem dX6_event_83 : decode cX6_event 83 = .ok (.aload 4, 2) := by decide +kernel
theorem dX6_event_85 : decode cX6_event 85 = .ok (.getfield 108, 3) := by decide +kernel
theorem dX6_event_88 : decode cX6_event 88 = .ok (.iload_n 2, 1) := by decide +kernel
theorem dX6_event_89 : decode cX6_event 89 = .ok (.iaload, 1) := by decide +kernel
theorem dX6_event_90 : decode cX6_event 90 = .ok (.ireturn, 1) := by decide +kernel
theorem dX6_event_91 : decode cX6_event 91 = .ok (.aload 4, 2) := by decide +kernel
theorem dX6_event_93 : decode cX6_event 93 = .ok (.getfield 111, 3) := by decide +kernel
theorem dX6_event_96 : decode cX6_event 96 = .ok (.iload_n 2, 1) := by decide +kernel
theorem dX6_event_97 : decode cX6_event 97 = .ok (.iaload, 1) := by decide +kernel
theorem dX6_event_98 : decode cX6_event 98 = .ok (.ireturn, 1) := by decide +kernel
theorem dX6_event_99 : decode cX6_event 99 = .ok (.iconst (-1), 1) := by decide +kernel
theorem dX6_event_100 : decode cX6_event 100 = .ok (.ireturn, 1) := by decide +kernel
def tbX6_event (pc : Nat) : dt_T := cond (Nat.ble pc 67) (cond (Nat.ble pc 15) (cond (Nat.ble pc 6) (cond (Nat.ble pc 1) (cond (Nat.ble pc 0) (cond (Nat.beq pc 0) (tc_ldA 0 1) tc_no) (cond (Nat.beq pc 1) (tc_ldI 1 2) tc_no)) (cond (Nat.ble pc 2) (cond (Nat.beq pc 2) (tc_ldI 2 3) tc_no) (cond (Nat.ble pc 3) (cond (Nat.beq pc 3) (tc_callV 6 mX6_isEvent 2 6) tc_no) (cond (Nat.beq pc 6) (tc_ifne 11 9) tc_no)))) (cond (Nat.ble pc 10) (cond (Nat.ble pc 9) (cond (Nat.beq pc 9) (tc_ic (-1) 10) tc_no) (cond (Nat.beq pc 10) (tc_iret) tc_no)) (cond (Nat.ble pc 11) (cond (Nat.beq pc 11) (tc_ldA 0 12) tc_no) (cond (Nat.ble pc 12) (cond (Nat.beq pc 12) (tc_getf 6 0 15) tc_no) (cond (Nat.beq pc 15) (tc_ldI 1 16) tc_no))))) (cond (Nat.ble pc 56) (cond (Nat.ble pc 17) (cond (Nat.ble pc 16) (cond (Nat.beq pc 16) (tc_aald 17) tc_no) (cond (Nat.beq pc 17) (tc_stA 4 19) tc_no)) (cond (Nat.ble pc 19) (cond (Nat.beq pc 19) (tc_ldI 3 20) tc_no) (cond (Nat.ble pc 20) (cond (Nat.beq pc 20) (tc_sw [(0, 56), (1, 67), (2, 75), (3, 83), (4, 91)] 99) tc_no) (cond (Nat.beq pc 56) (tc_ldA 4 58) tc_no)))) (cond (Nat.ble pc 62) (cond (Nat.ble pc 58) (cond (Nat.beq pc 58) (tc_getf 5 0 61) tc_no) (cond (Nat.ble pc 61) (cond (Nat.beq pc 61) (tc_ldI 2 62) tc_no) (cond (Nat.beq pc 62) (tc_zald 63) tc_no))) (cond (Nat.ble pc 63) (cond (Nat.beq pc 63) (tc_callS mX6_asNumber 1 66) tc_no) (cond (Nat.ble pc 66) (cond (Nat.beq pc 66) (tc_iret) tc_no) (cond (Nat.beq pc 67) (tc_ldA 4 69) tc_no)))))) (cond (Nat.ble pc 83) (cond (Nat.ble pc 75) (cond (Nat.ble pc 72) (cond (Nat.ble pc 69) (cond (Nat.beq pc 69) (tc_getf 5 1 72) tc_no) (cond (Nat.beq pc 72) (tc_ldI 2 73) tc_no)) (cond (Nat.ble pc 73) (cond (Nat.beq pc 73) (tc_iald 74) tc_no) (cond (Nat.ble pc 74) (cond (Nat.beq pc 74) (tc_iret) tc_no) (cond (Nat.beq pc 75) (tc_ldA 4 77) tc_no)))) (cond (Nat.ble pc 80) (cond (Nat.ble pc 77) (cond (Nat.beq pc 77) (tc_getf 5 2 80) tc_no) (cond (Nat.beq pc 80) (tc_ldI 2 81) tc_no)) (cond (Nat.ble pc 81) (cond (Nat.beq pc 81) (tc_iald 82) tc_no) (cond (Nat.ble pc 82) (cond (Nat.beq pc 82) (tc_iret) tc_no) (cond (Nat.beq pc 83) (tc_ldA 4 85) tc_no))))) (cond (Nat.ble pc 91) (cond (Nat.ble pc 88) (cond (Nat.ble pc 85) (cond (Nat.beq pc 85) (tc_getf 5 3 88) tc_no) (cond (Nat.beq pc 88) (tc_ldI 2 89) tc_no)) (cond (Nat.ble pc 89) (cond (Nat.beq pc 89) (tc_iald 90) tc_no) (cond (Nat.ble pc 90) (cond (Nat.beq pc 90) (tc_iret) tc_no) (cond (Nat.beq pc 91) (tc_ldA 4 93) tc_no)))) (cond (Nat.ble pc 97) (cond (Nat.ble pc 93) (cond (Nat.beq pc 93) (tc_getf 5 4 96) tc_no) (cond (Nat.ble pc 96) (cond (Nat.beq pc 96) (tc_ldI 2 97) tc_no) (cond (Nat.beq pc 97) (tc_iald 98) tc_no))) (cond (Nat.ble pc 98) (cond (Nat.beq pc 98) (tc_iret) tc_no) (cond (Nat.ble pc 99) (cond (Nat.beq pc 99) (tc_ic (-1) 100) tc_no) (cond (Nat.beq pc 100) (tc_iret) tc_no))))))
theorem okX6_event : ∀ pc, dt_S mX6_event (tbX6_event pc) pc := by
  intro pc
  unfold tbX6_event
  exact dt_Sb (dt_Sb (dt_Sb (dt_Sb (dt_Sb (dt_Sl 0 (sn_ldAn rfl dX6_event_0 rfl)) (dt_Sl 1 (sn_ldIn rfl dX6_event_1 rfl))) (dt_Sb (dt_Sl 2 (sn_ldIn rfl dX6_event_2 rfl)) (dt_Sb (dt_Sl 3 (sn_callV rfl ffX6 nnX6_isEvent rfl wq_2_148 wq_2_150 wq_0_7 dX6_event_3 rfl)) (dt_Sl 6 (sn_ifne dX6_event_6 (by decide) rfl))))) (dt_Sb (dt_Sb (dt_Sl 9 (sn_ic ⟨by decide, by decide⟩ dX6_event_9 rfl)) (dt_Sl 10 (sn_iret rfl dX6_event_10))) (dt_Sb (dt_Sl 11 (sn_ldAn rfl dX6_event_11 rfl)) (dt_Sb (dt_Sl 12 (sn_getf rfl ffX6 (by decide) wq_1_217 dX6_event_12 rfl)) (dt_Sl 15 (sn_ldIn rfl dX6_event_15 rfl)))))) (dt_Sb (dt_Sb (dt_Sb (dt_Sl 16 (sn_aald dX6_event_16 rfl)) (dt_Sl 17 (sn_stA (by decide) dX6_event_17 rfl))) (dt_Sb (dt_Sl 19 (sn_ldIn rfl dX6_event_19 rfl)) (dt_Sb (dt_Sl 20 (sn_ts dX6_event_20 (by decide) (fun x hx => by simp only [dt_swt]; rw [if_neg (by omega), if_neg (by omega), if_neg (by omega), if_neg (by omega), if_neg (by omega)]) (fun x h1 h2 => by rcases (show x = 0 ∨ x = 1 ∨ x = 2 ∨ x = 3 ∨ x = 4 by omega) with rfl | rfl | rfl | rfl | rfl <;> exact ⟨_, rfl, by decide⟩))) (dt_Sl 56 (sn_ldA dX6_event_56 rfl))))) (dt_Sb (dt_Sb (dt_Sl 58 (sn_getfN rfl ffX5 (by decide) wq_1_32 dX6_event_58 rfl)) (dt_Sb (dt_Sl 61 (sn_ldIn rfl dX6_event_61 rfl)) (dt_Sl 62 (sn_zald dX6_event_62 rfl)))) (dt_Sb (dt_Sl 63 (sn_callS rfl nnX6_asNumber wq_2_152 wq_2_153 dX6_event_63 rfl)) (dt_Sb (dt_Sl 66 (sn_iret rfl dX6_event_66)) (dt_Sl 67 (sn_ldA dX6_event_67 rfl))))))) (dt_Sb (dt_Sb (dt_Sb (dt_Sb (dt_Sl 69 (sn_getfN rfl ffX5 (by decide) wq_1_37 dX6_event_69 rfl)) (dt_Sl 72 (sn_ldIn rfl dX6_event_72 rfl))) (dt_Sb (dt_Sl 73 (sn_iald dX6_event_73 rfl)) (dt_Sb (dt_Sl 74 (sn_iret rfl dX6_event_74)) (dt_Sl 75 (sn_ldA dX6_event_75 rfl))))) (dt_Sb (dt_Sb (dt_Sl 77 (sn_getfN rfl ffX5 (by decide) wq_1_40 dX6_event_77 rfl)) (dt_Sl 80 (sn_ldIn rfl dX6_event_80 rfl))) (dt_Sb (dt_Sl 81 (sn_iald dX6_event_81 rfl)) (dt_Sb (dt_Sl 82 (sn_iret rfl dX6_event_82)) (dt_Sl 83 (sn_ldA dX6_event_83 rfl)))))) (dt_Sb (dt_Sb (dt_Sb (dt_Sl 85 (sn_getfN rfl ffX5 (by decide) wq_1_43 dX6_event_85 rfl)) (dt_Sl 88 (sn_ldIn rfl dX6_event_88 rfl))) (dt_Sb (dt_Sl 89 (sn_iald dX6_event_89 rfl)) (dt_Sb (dt_Sl 90 (sn_iret rfl dX6_event_90)) (dt_Sl 91 (sn_ldA dX6_event_91 rfl))))) (dt_Sb (dt_Sb (dt_Sl 93 (sn_getfN rfl ffX5 (by decide) wq_1_48 dX6_event_93 rfl)) (dt_Sb (dt_Sl 96 (sn_ldIn rfl dX6_event_96 rfl)) (dt_Sl 97 (sn_iald dX6_event_97 rfl)))) (dt_Sb (dt_Sl 98 (sn_iret rfl dX6_event_98)) (dt_Sb (dt_Sl 99 (sn_ic ⟨by decide, by decide⟩ dX6_event_99 rfl)) (dt_Sl 100 (sn_iret rfl dX6_event_100)))))))
theorem dX6_line_0 : decode cX6_line 0 = .ok (.iload_n 1, 1) := by decide +kernel
theorem dX6_line_1 : decode cX6_line 1 = .ok (.invokestatic 67, 3) := by decide +kernel
theorem dX6_line_4 : decode cX6_line 4 = .ok (.ifCond .eq 10, 3) := by decide +kernel
theorem dX6_line_7 : decode cX6_line 7 = .ok (.iload_n 2, 1) := by decide +kernel
theorem dX6_line_8 : decode cX6_line 8 = .ok (.invokestatic 114, 3) := by decide +kernel
theorem dX6_line_11 : decode cX6_line 11 = .ok (.ifCond .ne 5, 3) := by decide +kernel
theorem dX6_line_14 : decode cX6_line 14 = .ok (.iconst (-1), 1) := by decide +kernel
theorem dX6_line_15 : decode cX6_line 15 = .ok (.ireturn, 1) := by decide +kernel
theorem dX6_line_16 : decode cX6_line 16 = .ok (.iload_n 3, 1) := by decide +kernel
theorem dX6_line_17 : decode cX6_line 17 = .ok (.iconst (-1), 1) := by decide +kernel
theorem dX6_line_18 : decode cX6_line 18 = .ok (.if_icmp .ne 15, 3) := by decide +kernel
theorem dX6_line_21 : decode cX6_line 21 = .ok (.aload_n 0, 1) := by decide +kernel
theorem dX6_line_22 : decode cX6_line 22 = .ok (.getfield 11, 3) := by decide +kernel
theorem dX6_line_25 : decode cX6_line 25 = .ok (.iload_n 1, 1) := by decide +kernel
theorem dX6_line_26 : decode cX6_line 26 = .ok (.aaload, 1) := by decide +kernel
theorem dX6_line_27 : decode cX6_line 27 = .ok (.getfield 117, 3) := by decide +kernel
theorem dX6_line_30 : decode cX6_line 30 = .ok (.iload_n 2, 1) := by decide +kernel
theorem dX6_line_31 : decode cX6_line 31 = .ok (.iaload, 1) := by decide +kernel
theorem dX6_line_32 : decode cX6_line 32 = .ok (.ireturn, 1) := by decide +kernel
theorem dX6_line_33 : decode cX6_line 33 = .ok (.aload_n 0, 1) := by decide +kernel
theorem dX6_line_34 : decode cX6_line 34 = .ok (.getfield 11, 3) := by decide +kernel
theorem dX6_line_37 : decode cX6_line 37 = .ok (.iload_n 1, 1) := by decide +kernel
theorem dX6_line_38 : decode cX6_line 38 = .ok (.aaload, 1) := by decide +kernel
theorem dX6_line_39 : decode cX6_line 39 = .ok (.iload_n 2, 1) := by decide +kernel
theorem dX6_line_40 : decode cX6_line 40 = .ok (.iload_n 3, 1) := by decide +kernel
theorem dX6_line_41 : decode cX6_line 41 = .ok (.invokevirtual 120, 3) := by decide +kernel
theorem dX6_line_44 : decode cX6_line 44 = .ok (.istore 4, 2) := by decide +kernel
theorem dX6_line_46 : decode cX6_line 46 = .ok (.iload 4, 2) := by decide +kernel
theorem dX6_line_48 : decode cX6_line 48 = .ok (.iconst (-1), 1) := by decide +kernel
theorem dX6_line_49 : decode cX6_line 49 = .ok (.if_icmp .ne 7, 3) := by decide +kernel
theorem dX6_line_52 : decode cX6_line 52 = .ok (.iconst (-1), 1) := by decide +kernel
theorem dX6_line_53 : decode cX6_line 53 = .ok (.goto 5, 3) := by decide +kernel
theorem dX6_line_56 : decode cX6_line 56 = .ok (.iload 4, 2) := by decide +kernel
theorem dX6_line_58 : decode cX6_line 58 = .ok (.ireturn, 1) := by decide +kernel
def tbX6_line (pc : Nat) : dt_T := cond (Nat.ble pc 30) (cond (Nat.ble pc 15) (cond (Nat.ble pc 7) (cond (Nat.ble pc 1) (cond (Nat.ble pc 0) (cond (Nat.beq pc 0) (tc_ldI 1 1) tc_no) (cond (Nat.beq pc 1) (tc_callS mX6_isTalk 1 4) tc_no)) (cond (Nat.ble pc 4) (cond (Nat.beq pc 4) (tc_ifeq 14 7) tc_no) (cond (Nat.beq pc 7) (tc_ldI 2 8) tc_no))) (cond (Nat.ble pc 11) (cond (Nat.ble pc 8) (cond (Nat.beq pc 8) (tc_callS mX6_isPart 1 11) tc_no) (cond (Nat.beq pc 11) (tc_ifne 16 14) tc_no)) (cond (Nat.ble pc 14) (cond (Nat.beq pc 14) (tc_ic (-1) 15) tc_no) (cond (Nat.beq pc 15) (tc_iret) tc_no)))) (cond (Nat.ble pc 21) (cond (Nat.ble pc 17) (cond (Nat.ble pc 16) (cond (Nat.beq pc 16) (tc_ldI 3 17) tc_no) (cond (Nat.beq pc 17) (tc_ic (-1) 18) tc_no)) (cond (Nat.ble pc 18) (cond (Nat.beq pc 18) (tc_icmpne 33 21) tc_no) (cond (Nat.beq pc 21) (tc_ldA 0 22) tc_no))) (cond (Nat.ble pc 25) (cond (Nat.ble pc 22) (cond (Nat.beq pc 22) (tc_getf 6 0 25) tc_no) (cond (Nat.beq pc 25) (tc_ldI 1 26) tc_no)) (cond (Nat.ble pc 26) (cond (Nat.beq pc 26) (tc_aald 27) tc_no) (cond (Nat.ble pc 27) (cond (Nat.beq pc 27) (tc_getf 5 5 30) tc_no) (cond (Nat.beq pc 30) (tc_ldI 2 31) tc_no)))))) (cond (Nat.ble pc 40) (cond (Nat.ble pc 34) (cond (Nat.ble pc 32) (cond (Nat.ble pc 31) (cond (Nat.beq pc 31) (tc_iald 32) tc_no) (cond (Nat.beq pc 32) (tc_iret) tc_no)) (cond (Nat.ble pc 33) (cond (Nat.beq pc 33) (tc_ldA 0 34) tc_no) (cond (Nat.beq pc 34) (tc_getf 6 0 37) tc_no))) (cond (Nat.ble pc 38) (cond (Nat.ble pc 37) (cond (Nat.beq pc 37) (tc_ldI 1 38) tc_no) (cond (Nat.beq pc 38) (tc_aald 39) tc_no)) (cond (Nat.ble pc 39) (cond (Nat.beq pc 39) (tc_ldI 2 40) tc_no) (cond (Nat.beq pc 40) (tc_ldI 3 41) tc_no)))) (cond (Nat.ble pc 48) (cond (Nat.ble pc 44) (cond (Nat.ble pc 41) (cond (Nat.beq pc 41) (tc_callV 5 mX5_onLine 2 44) tc_no) (cond (Nat.beq pc 44) (tc_stI 4 46) tc_no)) (cond (Nat.ble pc 46) (cond (Nat.beq pc 46) (tc_ldI 4 48) tc_no) (cond (Nat.beq pc 48) (tc_ic (-1) 49) tc_no))) (cond (Nat.ble pc 52) (cond (Nat.ble pc 49) (cond (Nat.beq pc 49) (tc_icmpne 56 52) tc_no) (cond (Nat.beq pc 52) (tc_ic (-1) 53) tc_no)) (cond (Nat.ble pc 53) (cond (Nat.beq pc 53) (tc_goto 58) tc_no) (cond (Nat.ble pc 56) (cond (Nat.beq pc 56) (tc_ldI 4 58) tc_no) (cond (Nat.beq pc 58) (tc_iret) tc_no))))))
theorem okX6_line : ∀ pc, dt_S mX6_line (tbX6_line pc) pc := by
  intro pc
  unfold tbX6_line
  exact dt_Sb (dt_Sb (dt_Sb (dt_Sb (dt_Sb (dt_Sl 0 (sn_ldIn rfl dX6_line_0 rfl)) (dt_Sl 1 (sn_callS rfl nnX6_isTalk wq_2_15 wq_2_16 dX6_line_1 rfl))) (dt_Sb (dt_Sl 4 (sn_ifeq dX6_line_4 (by decide) rfl)) (dt_Sl 7 (sn_ldIn rfl dX6_line_7 rfl)))) (dt_Sb (dt_Sb (dt_Sl 8 (sn_callS rfl nnX6_isPart wq_2_159 wq_2_160 dX6_line_8 rfl)) (dt_Sl 11 (sn_ifne dX6_line_11 (by decide) rfl))) (dt_Sb (dt_Sl 14 (sn_ic ⟨by decide, by decide⟩ dX6_line_14 rfl)) (dt_Sl 15 (sn_iret rfl dX6_line_15))))) (dt_Sb (dt_Sb (dt_Sb (dt_Sl 16 (sn_ldIn rfl dX6_line_16 rfl)) (dt_Sl 17 (sn_ic ⟨by decide, by decide⟩ dX6_line_17 rfl))) (dt_Sb (dt_Sl 18 (sn_icmpne dX6_line_18 (by decide) rfl)) (dt_Sl 21 (sn_ldAn rfl dX6_line_21 rfl)))) (dt_Sb (dt_Sb (dt_Sl 22 (sn_getf rfl ffX6 (by decide) wq_1_217 dX6_line_22 rfl)) (dt_Sl 25 (sn_ldIn rfl dX6_line_25 rfl))) (dt_Sb (dt_Sl 26 (sn_aald dX6_line_26 rfl)) (dt_Sb (dt_Sl 27 (sn_getfN rfl ffX5 (by decide) wq_1_51 dX6_line_27 rfl)) (dt_Sl 30 (sn_ldIn rfl dX6_line_30 rfl))))))) (dt_Sb (dt_Sb (dt_Sb (dt_Sb (dt_Sl 31 (sn_iald dX6_line_31 rfl)) (dt_Sl 32 (sn_iret rfl dX6_line_32))) (dt_Sb (dt_Sl 33 (sn_ldAn rfl dX6_line_33 rfl)) (dt_Sl 34 (sn_getf rfl ffX6 (by decide) wq_1_217 dX6_line_34 rfl)))) (dt_Sb (dt_Sb (dt_Sl 37 (sn_ldIn rfl dX6_line_37 rfl)) (dt_Sl 38 (sn_aald dX6_line_38 rfl))) (dt_Sb (dt_Sl 39 (sn_ldIn rfl dX6_line_39 rfl)) (dt_Sl 40 (sn_ldIn rfl dX6_line_40 rfl))))) (dt_Sb (dt_Sb (dt_Sb (dt_Sl 41 (sn_callV rfl ffX5 nnX5_onLine rfl wq_2_162 wq_2_163 wq_2_164 dX6_line_41 rfl)) (dt_Sl 44 (sn_stI (by decide) dX6_line_44 rfl))) (dt_Sb (dt_Sl 46 (sn_ldI dX6_line_46 rfl)) (dt_Sl 48 (sn_ic ⟨by decide, by decide⟩ dX6_line_48 rfl)))) (dt_Sb (dt_Sb (dt_Sl 49 (sn_icmpne dX6_line_49 (by decide) rfl)) (dt_Sl 52 (sn_ic ⟨by decide, by decide⟩ dX6_line_52 rfl))) (dt_Sb (dt_Sl 53 (sn_goto dX6_line_53 (by decide))) (dt_Sb (dt_Sl 56 (sn_ldI dX6_line_56 rfl)) (dt_Sl 58 (sn_iret rfl dX6_line_58)))))))
theorem dX6_drawn_0 : decode cX6_drawn 0 = .ok (.aload_n 0, 1) := by decide +kernel
theorem dX6_drawn_1 : decode cX6_drawn 1 = .ok (.iload_n 1, 1) := by decide +kernel
theorem dX6_drawn_2 : decode cX6_drawn 2 = .ok (.iload_n 2, 1) := by decide +kernel
theorem dX6_drawn_3 : decode cX6_drawn 3 = .ok (.invokevirtual 89, 3) := by decide +kernel
theorem dX6_drawn_6 : decode cX6_drawn 6 = .ok (.ifCond .eq 12, 3) := by decide +kernel
theorem dX6_drawn_9 : decode cX6_drawn 9 = .ok (.aload_n 0, 1) := by decide +kernel
theorem dX6_drawn_10 : decode cX6_drawn 10 = .ok (.iload_n 1, 1) := by decide +kernel
theorem dX6_drawn_11 : decode cX6_drawn 11 = .ok (.iload_n 3, 1) := by decide +kernel
theorem dX6_drawn_12 : decode cX6_drawn 12 = .ok (.invokevirtual 89, 3) := by decide +kernel
theorem dX6_drawn_15 : decode cX6_drawn 15 = .ok (.ifCond .ne 5, 3) := by decide +kernel
theorem dX6_drawn_18 : decode cX6_drawn 18 = .ok (.iconst (-1), 1) := by decide +kernel
theorem dX6_drawn_19 : decode cX6_drawn 19 = .ok (.ireturn, 1) := by decide +kernel
theorem dX6_drawn_20 : decode cX6_drawn 20 = .ok (.aload_n 0, 1) := by decide +kernel
theorem dX6_drawn_21 : decode cX6_drawn 21 = .ok (.getfield 30, 3) := by decide +kernel
theorem dX6_drawn_24 : decode cX6_drawn 24 = .ok (.aload_n 0, 1) := by decide +kernel
theorem dX6_drawn_25 : decode cX6_drawn 25 = .ok (.getfield 11, 3) := by decide +kernel
theorem dX6_drawn_28 : decode cX6_drawn 28 = .ok (.iload_n 1, 1) := by decide +kernel
theorem dX6_drawn_29 : decode cX6_drawn 29 = .ok (.aaload, 1) := by decide +kernel
theorem dX6_drawn_30 : decode cX6_drawn 30 = .ok (.iconst 3, 1) := by decide +kernel
theorem dX6_drawn_31 : decode cX6_drawn 31 = .ok (.invokevirtual 124, 3) := by decide +kernel
theorem dX6_drawn_34 : decode cX6_drawn 34 = .ok (.aload_n 0, 1) := by decide +kernel
theorem dX6_drawn_35 : decode cX6_drawn 35 = .ok (.getfield 30, 3) := by decide +kernel
theorem dX6_drawn_38 : decode cX6_drawn 38 = .ok (.iload_n 2, 1) := by decide +kernel
theorem dX6_drawn_39 : decode cX6_drawn 39 = .ok (.iload_n 3, 1) := by decide +kernel
theorem dX6_drawn_40 : decode cX6_drawn 40 = .ok (.invokevirtual 128, 3) := by decide +kernel
theorem dX6_drawn_43 : decode cX6_drawn 43 = .ok (.invokestatic 97, 3) := by decide +kernel
theorem dX6_drawn_46 : decode cX6_drawn 46 = .ok (.ireturn, 1) := by decide +kernel
def tbX6_drawn (pc : Nat) : dt_T := cond (Nat.ble pc 20) (cond (Nat.ble pc 9) (cond (Nat.ble pc 2) (cond (Nat.ble pc 0) (cond (Nat.beq pc 0) (tc_ldA 0 1) tc_no) (cond (Nat.ble pc 1) (cond (Nat.beq pc 1) (tc_ldI 1 2) tc_no) (cond (Nat.beq pc 2) (tc_ldI 2 3) tc_no))) (cond (Nat.ble pc 3) (cond (Nat.beq pc 3) (tc_callV 6 mX6_isEvent 2 6) tc_no) (cond (Nat.ble pc 6) (cond (Nat.beq pc 6) (tc_ifeq 18 9) tc_no) (cond (Nat.beq pc 9) (tc_ldA 0 10) tc_no)))) (cond (Nat.ble pc 12) (cond (Nat.ble pc 10) (cond (Nat.beq pc 10) (tc_ldI 1 11) tc_no) (cond (Nat.ble pc 11) (cond (Nat.beq pc 11) (tc_ldI 3 12) tc_no) (cond (Nat.beq pc 12) (tc_callV 6 mX6_isEvent 2 15) tc_no))) (cond (Nat.ble pc 18) (cond (Nat.ble pc 15) (cond (Nat.beq pc 15) (tc_ifne 20 18) tc_no) (cond (Nat.beq pc 18) (tc_ic (-1) 19) tc_no)) (cond (Nat.ble pc 19) (cond (Nat.beq pc 19) (tc_iret) tc_no) (cond (Nat.beq pc 20) (tc_ldA 0 21) tc_no))))) (cond (Nat.ble pc 31) (cond (Nat.ble pc 25) (cond (Nat.ble pc 21) (cond (Nat.beq pc 21) (tc_getf 6 3 24) tc_no) (cond (Nat.ble pc 24) (cond (Nat.beq pc 24) (tc_ldA 0 25) tc_no) (cond (Nat.beq pc 25) (tc_getf 6 0 28) tc_no))) (cond (Nat.ble pc 29) (cond (Nat.ble pc 28) (cond (Nat.beq pc 28) (tc_ldI 1 29) tc_no) (cond (Nat.beq pc 29) (tc_aald 30) tc_no)) (cond (Nat.ble pc 30) (cond (Nat.beq pc 30) (tc_ic 3 31) tc_no) (cond (Nat.beq pc 31) (tc_callV 4 mX4_workOut 2 34) tc_no)))) (cond (Nat.ble pc 38) (cond (Nat.ble pc 34) (cond (Nat.beq pc 34) (tc_ldA 0 35) tc_no) (cond (Nat.ble pc 35) (cond (Nat.beq pc 35) (tc_getf 6 3 38) tc_no) (cond (Nat.beq pc 38) (tc_ldI 2 39) tc_no))) (cond (Nat.ble pc 40) (cond (Nat.ble pc 39) (cond (Nat.beq pc 39) (tc_ldI 3 40) tc_no) (cond (Nat.beq pc 40) (tc_callV 4 mX4_isAhead 2 43) tc_no)) (cond (Nat.ble pc 43) (cond (Nat.beq pc 43) (tc_callS mX6_asNumber 1 46) tc_no) (cond (Nat.beq pc 46) (tc_iret) tc_no)))))
theorem okX6_drawn : ∀ pc, dt_S mX6_drawn (tbX6_drawn pc) pc := by
  intro pc
  unfold tbX6_drawn
  exact dt_Sb (dt_Sb (dt_Sb (dt_Sb (dt_Sl 0 (sn_ldAn rfl dX6_drawn_0 rfl)) (dt_Sb (dt_Sl 1 (sn_ldIn rfl dX6_drawn_1 rfl)) (dt_Sl 2 (sn_ldIn rfl dX6_drawn_2 rfl)))) (dt_Sb (dt_Sl 3 (sn_callV rfl ffX6 nnX6_isEvent rfl wq_2_148 wq_2_150 wq_0_7 dX6_drawn_3 rfl)) (dt_Sb (dt_Sl 6 (sn_ifeq dX6_drawn_6 (by decide) rfl)) (dt_Sl 9 (sn_ldAn rfl dX6_drawn_9 rfl))))) (dt_Sb (dt_Sb (dt_Sl 10 (sn_ldIn rfl dX6_drawn_10 rfl)) (dt_Sb (dt_Sl 11 (sn_ldIn rfl dX6_drawn_11 rfl)) (dt_Sl 12 (sn_callV rfl ffX6 nnX6_isEvent rfl wq_2_148 wq_2_150 wq_0_7 dX6_drawn_12 rfl)))) (dt_Sb (dt_Sb (dt_Sl 15 (sn_ifne dX6_drawn_15 (by decide) rfl)) (dt_Sl 18 (sn_ic ⟨by decide, by decide⟩ dX6_drawn_18 rfl))) (dt_Sb (dt_Sl 19 (sn_iret rfl dX6_drawn_19)) (dt_Sl 20 (sn_ldAn rfl dX6_drawn_20 rfl)))))) (dt_Sb (dt_Sb (dt_Sb (dt_Sl 21 (sn_getf rfl ffX6 (by decide) wq_1_220 dX6_drawn_21 rfl)) (dt_Sb (dt_Sl 24 (sn_ldAn rfl dX6_drawn_24 rfl)) (dt_Sl 25 (sn_getf rfl ffX6 (by decide) wq_1_217 dX6_drawn_25 rfl)))) (dt_Sb (dt_Sb (dt_Sl 28 (sn_ldIn rfl dX6_drawn_28 rfl)) (dt_Sl 29 (sn_aald dX6_drawn_29 rfl))) (dt_Sb (dt_Sl 30 (sn_ic ⟨by decide, by decide⟩ dX6_drawn_30 rfl)) (dt_Sl 31 (sn_callV rfl ffX4 nnX4_workOut rfl wq_2_170 wq_2_171 wq_2_172 dX6_drawn_31 rfl))))) (dt_Sb (dt_Sb (dt_Sl 34 (sn_ldAn rfl dX6_drawn_34 rfl)) (dt_Sb (dt_Sl 35 (sn_getf rfl ffX6 (by decide) wq_1_220 dX6_drawn_35 rfl)) (dt_Sl 38 (sn_ldIn rfl dX6_drawn_38 rfl)))) (dt_Sb (dt_Sb (dt_Sl 39 (sn_ldIn rfl dX6_drawn_39 rfl)) (dt_Sl 40 (sn_callV rfl ffX4 nnX4_isAhead rfl wq_2_182 wq_2_179 wq_2_180 dX6_drawn_40 rfl))) (dt_Sb (dt_Sl 43 (sn_callS rfl nnX6_asNumber wq_2_152 wq_2_153 dX6_drawn_43 rfl)) (dt_Sl 46 (sn_iret rfl dX6_drawn_46))))))
theorem dX6_kept_0 : decode cX6_kept 0 = .ok (.iload_n 2, 1) := by decide +kernel
theorem dX6_kept_1 : decode cX6_kept 1 = .ok (.invokestatic 131, 3) := by decide +kernel
theorem dX6_kept_4 : decode cX6_kept 4 = .ok (.ifCond .eq 22, 3) := by decide +kernel
theorem dX6_kept_7 : decode cX6_kept 7 = .ok (.aload_n 0, 1) := by decide +kernel
theorem dX6_kept_8 : decode cX6_kept 8 = .ok (.iload_n 1, 1) := by decide +kernel
theorem dX6_kept_9 : decode cX6_kept 9 = .ok (.iload_n 3, 1) := by decide +kernel
theorem dX6_kept_10 : decode cX6_kept 10 = .ok (.invokevirtual 89, 3) := by decide +kernel
theorem dX6_kept_13 : decode cX6_kept 13 = .ok (.ifCond .eq 13, 3) := by decide +kernel
theorem dX6_kept_16 : decode cX6_kept 16 = .ok (.aload_n 0, 1) := by decide +kernel
theorem dX6_kept_17 : decode cX6_kept 17 = .ok (.iload_n 1, 1) := by decide +kernel
theorem dX6_kept_18 : decode cX6_kept 18 = .ok (.iload 4, 2) := by decide +kernel
theorem dX6_kept_20 : decode cX6_kept 20 = .ok (.invokevirtual 89, 3) := by decide +kernel
theorem dX6_kept_23 : decode cX6_kept 23 = .ok (.ifCond .ne 5, 3) := by decide +kernel
theorem dX6_kept_26 : decode cX6_kept 26 = .ok (.iconst (-1), 1) := by decide +kernel
theorem dX6_kept_27 : decode cX6_kept 27 = .ok (.ireturn, 1) := by decide +kernel
theorem dX6_kept_28 : decode cX6_kept 28 = .ok (.aload_n 0, 1) := by decide +kernel
theorem dX6_kept_29 : decode cX6_kept 29 = .ok (.getfield 30, 3) := by decide +kernel
theorem dX6_kept_32 : decode cX6_kept 32 = .ok (.aload_n 0, 1) := by decide +kernel
theorem dX6_kept_33 : decode cX6_kept 33 = .ok (.getfield 11, 3) := by decide +kernel
theorem dX6_kept_36 : decode cX6_kept 36 = .ok (.iload_n 1, 1) := by decide +kernel
theorem dX6_kept_37 : decode cX6_kept 37 = .ok (.aaload, 1) := by decide +kernel
theorem dX6_kept_38 : decode cX6_kept 38 = .ok (.iload_n 2, 1) := by decide +kernel
theorem dX6_kept_39 : decode cX6_kept 39 = .ok (.invokevirtual 124, 3) := by decide +kernel
theorem dX6_kept_42 : decode cX6_kept 42 = .ok (.aload_n 0, 1) := by decide +kernel
theorem dX6_kept_43 : decode cX6_kept 43 = .ok (.getfield 30, 3) := by decide +kernel
theorem dX6_kept_46 : decode cX6_kept 46 = .ok (.iload_n 3, 1) := by decide +kernel
theorem dX6_kept_47 : decode cX6_kept 47 = .ok (.iload 4, 2) := by decide +kernel
theorem dX6_kept_49 : decode cX6_kept 49 = .ok (.invokevirtual 128, 3) := by decide +kernel
theorem dX6_kept_52 : decode cX6_kept 52 = .ok (.invokestatic 97, 3) := by decide +kernel
theorem dX6_kept_55 : decode cX6_kept 55 = .ok (.ireturn, 1) := by decide +kernel
def tbX6_kept (pc : Nat) : dt_T := cond (Nat.ble pc 27) (cond (Nat.ble pc 10) (cond (Nat.ble pc 4) (cond (Nat.ble pc 0) (cond (Nat.beq pc 0) (tc_ldI 2 1) tc_no) (cond (Nat.ble pc 1) (cond (Nat.beq pc 1) (tc_callS mX6_isWay 1 4) tc_no) (cond (Nat.beq pc 4) (tc_ifeq 26 7) tc_no))) (cond (Nat.ble pc 8) (cond (Nat.ble pc 7) (cond (Nat.beq pc 7) (tc_ldA 0 8) tc_no) (cond (Nat.beq pc 8) (tc_ldI 1 9) tc_no)) (cond (Nat.ble pc 9) (cond (Nat.beq pc 9) (tc_ldI 3 10) tc_no) (cond (Nat.beq pc 10) (tc_callV 6 mX6_isEvent 2 13) tc_no)))) (cond (Nat.ble pc 18) (cond (Nat.ble pc 16) (cond (Nat.ble pc 13) (cond (Nat.beq pc 13) (tc_ifeq 26 16) tc_no) (cond (Nat.beq pc 16) (tc_ldA 0 17) tc_no)) (cond (Nat.ble pc 17) (cond (Nat.beq pc 17) (tc_ldI 1 18) tc_no) (cond (Nat.beq pc 18) (tc_ldI 4 20) tc_no))) (cond (Nat.ble pc 23) (cond (Nat.ble pc 20) (cond (Nat.beq pc 20) (tc_callV 6 mX6_isEvent 2 23) tc_no) (cond (Nat.beq pc 23) (tc_ifne 28 26) tc_no)) (cond (Nat.ble pc 26) (cond (Nat.beq pc 26) (tc_ic (-1) 27) tc_no) (cond (Nat.beq pc 27) (tc_iret) tc_no))))) (cond (Nat.ble pc 38) (cond (Nat.ble pc 32) (cond (Nat.ble pc 28) (cond (Nat.beq pc 28) (tc_ldA 0 29) tc_no) (cond (Nat.ble pc 29) (cond (Nat.beq pc 29) (tc_getf 6 3 32) tc_no) (cond (Nat.beq pc 32) (tc_ldA 0 33) tc_no))) (cond (Nat.ble pc 36) (cond (Nat.ble pc 33) (cond (Nat.beq pc 33) (tc_getf 6 0 36) tc_no) (cond (Nat.beq pc 36) (tc_ldI 1 37) tc_no)) (cond (Nat.ble pc 37) (cond (Nat.beq pc 37) (tc_aald 38) tc_no) (cond (Nat.beq pc 38) (tc_ldI 2 39) tc_no)))) (cond (Nat.ble pc 46) (cond (Nat.ble pc 42) (cond (Nat.ble pc 39) (cond (Nat.beq pc 39) (tc_callV 4 mX4_workOut 2 42) tc_no) (cond (Nat.beq pc 42) (tc_ldA 0 43) tc_no)) (cond (Nat.ble pc 43) (cond (Nat.beq pc 43) (tc_getf 6 3 46) tc_no) (cond (Nat.beq pc 46) (tc_ldI 3 47) tc_no))) (cond (Nat.ble pc 49) (cond (Nat.ble pc 47) (cond (Nat.beq pc 47) (tc_ldI 4 49) tc_no) (cond (Nat.beq pc 49) (tc_callV 4 mX4_isAhead 2 52) tc_no)) (cond (Nat.ble pc 52) (cond (Nat.beq pc 52) (tc_callS mX6_asNumber 1 55) tc_no) (cond (Nat.beq pc 55) (tc_iret) tc_no)))))
theorem okX6_kept : ∀ pc, dt_S mX6_kept (tbX6_kept pc) pc := by
  intro pc
  unfold tbX6_kept
  exact dt_Sb (dt_Sb (dt_Sb (dt_Sb (dt_Sl 0 (sn_ldIn rfl dX6_kept_0 rfl)) (dt_Sb (dt_Sl 1 (sn_callS rfl nnX6_isWay wq_2_187 wq_2_188 dX6_kept_1 rfl)) (dt_Sl 4 (sn_ifeq dX6_kept_4 (by decide) rfl)))) (dt_Sb (dt_Sb (dt_Sl 7 (sn_ldAn rfl dX6_kept_7 rfl)) (dt_Sl 8 (sn_ldIn rfl dX6_kept_8 rfl))) (dt_Sb (dt_Sl 9 (sn_ldIn rfl dX6_kept_9 rfl)) (dt_Sl 10 (sn_callV rfl ffX6 nnX6_isEvent rfl wq_2_148 wq_2_150 wq_0_7 dX6_kept_10 rfl))))) (dt_Sb (dt_Sb (dt_Sb (dt_Sl 13 (sn_ifeq dX6_kept_13 (by decide) rfl)) (dt_Sl 16 (sn_ldAn rfl dX6_kept_16 rfl))) (dt_Sb (dt_Sl 17 (sn_ldIn rfl dX6_kept_17 rfl)) (dt_Sl 18 (sn_ldI dX6_kept_18 rfl)))) (dt_Sb (dt_Sb (dt_Sl 20 (sn_callV rfl ffX6 nnX6_isEvent rfl wq_2_148 wq_2_150 wq_0_7 dX6_kept_20 rfl)) (dt_Sl 23 (sn_ifne dX6_kept_23 (by decide) rfl))) (dt_Sb (dt_Sl 26 (sn_ic ⟨by decide, by decide⟩ dX6_kept_26 rfl)) (dt_Sl 27 (sn_iret rfl dX6_kept_27)))))) (dt_Sb (dt_Sb (dt_Sb (dt_Sl 28 (sn_ldAn rfl dX6_kept_28 rfl)) (dt_Sb (dt_Sl 29 (sn_getf rfl ffX6 (by decide) wq_1_220 dX6_kept_29 rfl)) (dt_Sl 32 (sn_ldAn rfl dX6_kept_32 rfl)))) (dt_Sb (dt_Sb (dt_Sl 33 (sn_getf rfl ffX6 (by decide) wq_1_217 dX6_kept_33 rfl)) (dt_Sl 36 (sn_ldIn rfl dX6_kept_36 rfl))) (dt_Sb (dt_Sl 37 (sn_aald dX6_kept_37 rfl)) (dt_Sl 38 (sn_ldIn rfl dX6_kept_38 rfl))))) (dt_Sb (dt_Sb (dt_Sb (dt_Sl 39 (sn_callV rfl ffX4 nnX4_workOut rfl wq_2_170 wq_2_171 wq_2_172 dX6_kept_39 rfl)) (dt_Sl 42 (sn_ldAn rfl dX6_kept_42 rfl))) (dt_Sb (dt_Sl 43 (sn_getf rfl ffX6 (by decide) wq_1_220 dX6_kept_43 rfl)) (dt_Sl 46 (sn_ldIn rfl dX6_kept_46 rfl)))) (dt_Sb (dt_Sb (dt_Sl 47 (sn_ldI dX6_kept_47 rfl)) (dt_Sl 49 (sn_callV rfl ffX4 nnX4_isAhead rfl wq_2_182 wq_2_179 wq_2_180 dX6_kept_49 rfl))) (dt_Sb (dt_Sl 52 (sn_callS rfl nnX6_asNumber wq_2_152 wq_2_153 dX6_kept_52 rfl)) (dt_Sl 55 (sn_iret rfl dX6_kept_55))))))
theorem dX6_race_0 : decode cX6_race 0 = .ok (.iload_n 1, 1) := by decide +kernel
theorem dX6_race_1 : decode cX6_race 1 = .ok (.invokestatic 67, 3) := by decide +kernel
theorem dX6_race_4 : decode cX6_race 4 = .ok (.ifCond .eq 15, 3) := by decide +kernel
theorem dX6_race_7 : decode cX6_race 7 = .ok (.iload_n 2, 1) := by decide +kernel
theorem dX6_race_8 : decode cX6_race 8 = .ok (.invokestatic 131, 3) := by decide +kernel
theorem dX6_race_11 : decode cX6_race 11 = .ok (.ifCond .eq 8, 3) := by decide +kernel
theorem dX6_race_14 : decode cX6_race 14 = .ok (.iload_n 3, 1) := by decide +kernel
theorem dX6_race_15 : decode cX6_race 15 = .ok (.iconst (-1), 1) := by decide +kernel
theorem dX6_race_16 : decode cX6_race 16 = .ok (.if_icmp .ge 5, 3) := by decide +kernel
theorem dX6_race_19 : decode cX6_race 19 = .ok (.iconst (-1), 1) := by decide +kernel
theorem dX6_race_20 : decode cX6_race 20 = .ok (.ireturn, 1) := by decide +kernel
theorem dX6_race_21 : decode cX6_race 21 = .ok (.aload_n 0, 1) := by decide +kernel
theorem dX6_race_22 : decode cX6_race 22 = .ok (.getfield 30, 3) := by decide +kernel
theorem dX6_race_25 : decode cX6_race 25 = .ok (.aload_n 0, 1) := by decide +kernel
theorem dX6_race_26 : decode cX6_race 26 = .ok (.getfield 11, 3) := by decide +kernel
theorem dX6_race_29 : decode cX6_race 29 = .ok (.iload_n 1, 1) := by decide +kernel
theorem dX6_race_30 : decode cX6_race 30 = .ok (.aaload, 1) := by decide +kernel
theorem dX6_race_31 : decode cX6_race 31 = .ok (.iload_n 2, 1) := by decide +kernel
theorem dX6_race_32 : decode cX6_race 32 = .ok (.invokevirtual 124, 3) := by decide +kernel
theorem dX6_race_35 : decode cX6_race 35 = .ok (.iload_n 3, 1) := by decide +kernel
theorem dX6_race_36 : decode cX6_race 36 = .ok (.iconst (-1), 1) := by decide +kernel
theorem dX6_race_37 : decode cX6_race 37 = .ok (.if_icmp .ne 19, 3) := by decide +kernel
theorem dX6_race_40 : decode cX6_race 40 = .ok (.aload_n 0, 1) := by decide +kernel
theorem dX6_race_41 : decode cX6_race 41 = .ok (.getfield 30, 3) := by decide +kernel
theorem dX6_race_44 : decode cX6_race 44 = .ok (.aload_n 0, 1) := by decide +kernel
theorem dX6_race_45 : decode cX6_race 45 = .ok (.getfield 11, 3) := by decide +kernel
theorem dX6_race_48 : decode cX6_race 48 = .ok (.iload_n 1, 1) := by decide +kernel
theorem dX6_race_49 : decode cX6_race 49 = .ok (.aaload, 1) := by decide +kernel
theorem dX6_race_50 : decode cX6_race 50 = .ok (.invokevirtual 134, 3) := by decide +kernel
theorem dX6_race_53 : decode cX6_race 53 = .ok (.goto 17, 3) := by decide +kernel
theorem dX6_race_56 : decode cX6_race 56 = .ok (.aload_n 0, 1) := by decide +kernel
theorem dX6_race_57 : decode cX6_race 57 = .ok (.getfield 30, 3) := by decide +kernel
theorem dX6_race_60 : decode cX6_race 60 = .ok (.aload_n 0, 1) := by decide +kernel
theorem dX6_race_61 : decode cX6_race 61 = .ok (.getfield 11, 3) := by decide +kernel
theorem dX6_race_64 : decode cX6_race 64 = .ok (.iload_n 1, 1) := by decide +kernel
theorem dX6_race_65 : decode cX6_race 65 = .ok (.aaload, 1) := by decide +kernel
theorem dX6_race_66 : decode cX6_race 66 = .ok (.iload_n 3, 1) := by decide +kernel
theorem dX6_race_67 : decode cX6_race 67 = .ok (.invokevirtual 137, 3) := by decide +kernel
theorem dX6_race_70 : decode cX6_race 70 = .ok (.ireturn, 1) := by decide +kernel
def tbX6_race (pc : Nat) : dt_T := cond (Nat.ble pc 32) (cond (Nat.ble pc 16) (cond (Nat.ble pc 7) (cond (Nat.ble pc 1) (cond (Nat.ble pc 0) (cond (Nat.beq pc 0) (tc_ldI 1 1) tc_no) (cond (Nat.beq pc 1) (tc_callS mX6_isTalk 1 4) tc_no)) (cond (Nat.ble pc 4) (cond (Nat.beq pc 4) (tc_ifeq 19 7) tc_no) (cond (Nat.beq pc 7) (tc_ldI 2 8) tc_no))) (cond (Nat.ble pc 11) (cond (Nat.ble pc 8) (cond (Nat.beq pc 8) (tc_callS mX6_isWay 1 11) tc_no) (cond (Nat.beq pc 11) (tc_ifeq 19 14) tc_no)) (cond (Nat.ble pc 14) (cond (Nat.beq pc 14) (tc_ldI 3 15) tc_no) (cond (Nat.ble pc 15) (cond (Nat.beq pc 15) (tc_ic (-1) 16) tc_no) (cond (Nat.beq pc 16) (tc_icmpge 21 19) tc_no))))) (cond (Nat.ble pc 25) (cond (Nat.ble pc 20) (cond (Nat.ble pc 19) (cond (Nat.beq pc 19) (tc_ic (-1) 20) tc_no) (cond (Nat.beq pc 20) (tc_iret) tc_no)) (cond (Nat.ble pc 21) (cond (Nat.beq pc 21) (tc_ldA 0 22) tc_no) (cond (Nat.ble pc 22) (cond (Nat.beq pc 22) (tc_getf 6 3 25) tc_no) (cond (Nat.beq pc 25) (tc_ldA 0 26) tc_no)))) (cond (Nat.ble pc 29) (cond (Nat.ble pc 26) (cond (Nat.beq pc 26) (tc_getf 6 0 29) tc_no) (cond (Nat.beq pc 29) (tc_ldI 1 30) tc_no)) (cond (Nat.ble pc 30) (cond (Nat.beq pc 30) (tc_aald 31) tc_no) (cond (Nat.ble pc 31) (cond (Nat.beq pc 31) (tc_ldI 2 32) tc_no) (cond (Nat.beq pc 32) (tc_callV 4 mX4_workOut 2 35) tc_no)))))) (cond (Nat.ble pc 50) (cond (Nat.ble pc 41) (cond (Nat.ble pc 36) (cond (Nat.ble pc 35) (cond (Nat.beq pc 35) (tc_ldI 3 36) tc_no) (cond (Nat.beq pc 36) (tc_ic (-1) 37) tc_no)) (cond (Nat.ble pc 37) (cond (Nat.beq pc 37) (tc_icmpne 56 40) tc_no) (cond (Nat.ble pc 40) (cond (Nat.beq pc 40) (tc_ldA 0 41) tc_no) (cond (Nat.beq pc 41) (tc_getf 6 3 44) tc_no)))) (cond (Nat.ble pc 45) (cond (Nat.ble pc 44) (cond (Nat.beq pc 44) (tc_ldA 0 45) tc_no) (cond (Nat.beq pc 45) (tc_getf 6 0 48) tc_no)) (cond (Nat.ble pc 48) (cond (Nat.beq pc 48) (tc_ldI 1 49) tc_no) (cond (Nat.ble pc 49) (cond (Nat.beq pc 49) (tc_aald 50) tc_no) (cond (Nat.beq pc 50) (tc_callV 4 mX4_howManyRaces 1 53) tc_no))))) (cond (Nat.ble pc 61) (cond (Nat.ble pc 56) (cond (Nat.ble pc 53) (cond (Nat.beq pc 53) (tc_goto 70) tc_no) (cond (Nat.beq pc 56) (tc_ldA 0 57) tc_no)) (cond (Nat.ble pc 57) (cond (Nat.beq pc 57) (tc_getf 6 3 60) tc_no) (cond (Nat.ble pc 60) (cond (Nat.beq pc 60) (tc_ldA 0 61) tc_no) (cond (Nat.beq pc 61) (tc_getf 6 0 64) tc_no)))) (cond (Nat.ble pc 65) (cond (Nat.ble pc 64) (cond (Nat.beq pc 64) (tc_ldI 1 65) tc_no) (cond (Nat.beq pc 65) (tc_aald 66) tc_no)) (cond (Nat.ble pc 66) (cond (Nat.beq pc 66) (tc_ldI 3 67) tc_no) (cond (Nat.ble pc 67) (cond (Nat.beq pc 67) (tc_callV 4 mX4_raceAt 2 70) tc_no) (cond (Nat.beq pc 70) (tc_iret) tc_no))))))
theorem okX6_race : ∀ pc, dt_S mX6_race (tbX6_race pc) pc := by
  intro pc
  unfold tbX6_race
  exact dt_Sb (dt_Sb (dt_Sb (dt_Sb (dt_Sb (dt_Sl 0 (sn_ldIn rfl dX6_race_0 rfl)) (dt_Sl 1 (sn_callS rfl nnX6_isTalk wq_2_15 wq_2_16 dX6_race_1 rfl))) (dt_Sb (dt_Sl 4 (sn_ifeq dX6_race_4 (by decide) rfl)) (dt_Sl 7 (sn_ldIn rfl dX6_race_7 rfl)))) (dt_Sb (dt_Sb (dt_Sl 8 (sn_callS rfl nnX6_isWay wq_2_187 wq_2_188 dX6_race_8 rfl)) (dt_Sl 11 (sn_ifeq dX6_race_11 (by decide) rfl))) (dt_Sb (dt_Sl 14 (sn_ldIn rfl dX6_race_14 rfl)) (dt_Sb (dt_Sl 15 (sn_ic ⟨by decide, by decide⟩ dX6_race_15 rfl)) (dt_Sl 16 (sn_icmpge dX6_race_16 (by decide) rfl)))))) (dt_Sb (dt_Sb (dt_Sb (dt_Sl 19 (sn_ic ⟨by decide, by decide⟩ dX6_race_19 rfl)) (dt_Sl 20 (sn_iret rfl dX6_race_20))) (dt_Sb (dt_Sl 21 (sn_ldAn rfl dX6_race_21 rfl)) (dt_Sb (dt_Sl 22 (sn_getf rfl ffX6 (by decide) wq_1_220 dX6_race_22 rfl)) (dt_Sl 25 (sn_ldAn rfl dX6_race_25 rfl))))) (dt_Sb (dt_Sb (dt_Sl 26 (sn_getf rfl ffX6 (by decide) wq_1_217 dX6_race_26 rfl)) (dt_Sl 29 (sn_ldIn rfl dX6_race_29 rfl))) (dt_Sb (dt_Sl 30 (sn_aald dX6_race_30 rfl)) (dt_Sb (dt_Sl 31 (sn_ldIn rfl dX6_race_31 rfl)) (dt_Sl 32 (sn_callV rfl ffX4 nnX4_workOut rfl wq_2_170 wq_2_171 wq_2_172 dX6_race_32 rfl))))))) (dt_Sb (dt_Sb (dt_Sb (dt_Sb (dt_Sl 35 (sn_ldIn rfl dX6_race_35 rfl)) (dt_Sl 36 (sn_ic ⟨by decide, by decide⟩ dX6_race_36 rfl))) (dt_Sb (dt_Sl 37 (sn_icmpne dX6_race_37 (by decide) rfl)) (dt_Sb (dt_Sl 40 (sn_ldAn rfl dX6_race_40 rfl)) (dt_Sl 41 (sn_getf rfl ffX6 (by decide) wq_1_220 dX6_race_41 rfl))))) (dt_Sb (dt_Sb (dt_Sl 44 (sn_ldAn rfl dX6_race_44 rfl)) (dt_Sl 45 (sn_getf rfl ffX6 (by decide) wq_1_217 dX6_race_45 rfl))) (dt_Sb (dt_Sl 48 (sn_ldIn rfl dX6_race_48 rfl)) (dt_Sb (dt_Sl 49 (sn_aald dX6_race_49 rfl)) (dt_Sl 50 (sn_callV rfl ffX4 nnX4_howManyRaces rfl wq_2_194 wq_2_195 wq_2_196 dX6_race_50 rfl)))))) (dt_Sb (dt_Sb (dt_Sb (dt_Sl 53 (sn_goto dX6_race_53 (by decide))) (dt_Sl 56 (sn_ldAn rfl dX6_race_56 rfl))) (dt_Sb (dt_Sl 57 (sn_getf rfl ffX6 (by decide) wq_1_220 dX6_race_57 rfl)) (dt_Sb (dt_Sl 60 (sn_ldAn rfl dX6_race_60 rfl)) (dt_Sl 61 (sn_getf rfl ffX6 (by decide) wq_1_217 dX6_race_61 rfl))))) (dt_Sb (dt_Sb (dt_Sl 64 (sn_ldIn rfl dX6_race_64 rfl)) (dt_Sl 65 (sn_aald dX6_race_65 rfl))) (dt_Sb (dt_Sl 66 (sn_ldIn rfl dX6_race_66 rfl)) (dt_Sb (dt_Sl 67 (sn_callV rfl ffX4 nnX4_raceAt rfl wq_2_202 wq_2_203 wq_2_204 dX6_race_67 rfl)) (dt_Sl 70 (sn_iret rfl dX6_race_70)))))))
theorem dX6_orders_0 : decode cX6_orders 0 = .ok (.iload_n 1, 1) := by decide +kernel
theorem dX6_orders_1 : decode cX6_orders 1 = .ok (.invokestatic 67, 3) := by decide +kernel
theorem dX6_orders_4 : decode cX6_orders 4 = .ok (.ifCond .ne 7, 3) := by decide +kernel
theorem dX6_orders_7 : decode cX6_orders 7 = .ok (.ldc2_w 141, 3) := by decide +kernel
theorem dX6_orders_10 : decode cX6_orders 10 = .ok (.lreturn, 1) := by decide +kernel
theorem dX6_orders_11 : decode cX6_orders 11 = .ok (.aload_n 0, 1) := by decide +kernel
theorem dX6_orders_12 : decode cX6_orders 12 = .ok (.getfield 37, 3) := by decide +kernel
theorem dX6_orders_15 : decode cX6_orders 15 = .ok (.aload_n 0, 1) := by decide +kernel
theorem dX6_orders_16 : decode cX6_orders 16 = .ok (.getfield 11, 3) := by decide +kernel
theorem dX6_orders_19 : decode cX6_orders 19 = .ok (.iload_n 1, 1) := by decide +kernel
theorem dX6_orders_20 : decode cX6_orders 20 = .ok (.aaload, 1) := by decide +kernel
theorem dX6_orders_21 : decode cX6_orders 21 = .ok (.invokevirtual 143, 3) := by decide +kernel
theorem dX6_orders_24 : decode cX6_orders 24 = .ok (.aload_n 0, 1) := by decide +kernel
theorem dX6_orders_25 : decode cX6_orders 25 = .ok (.getfield 37, 3) := by decide +kernel
theorem dX6_orders_28 : decode cX6_orders 28 = .ok (.getfield 147, 3) := by decide +kernel
theorem dX6_orders_31 : decode cX6_orders 31 = .ok (.lreturn, 1) := by decide +kernel
def tbX6_orders (pc : Nat) : dt_T := cond (Nat.ble pc 15) (cond (Nat.ble pc 7) (cond (Nat.ble pc 1) (cond (Nat.ble pc 0) (cond (Nat.beq pc 0) (tc_ldI 1 1) tc_no) (cond (Nat.beq pc 1) (tc_callS mX6_isTalk 1 4) tc_no)) (cond (Nat.ble pc 4) (cond (Nat.beq pc 4) (tc_ifne 11 7) tc_no) (cond (Nat.beq pc 7) (tc_lc (-1) 10) tc_no))) (cond (Nat.ble pc 11) (cond (Nat.ble pc 10) (cond (Nat.beq pc 10) (tc_lret) tc_no) (cond (Nat.beq pc 11) (tc_ldA 0 12) tc_no)) (cond (Nat.ble pc 12) (cond (Nat.beq pc 12) (tc_getf 6 4 15) tc_no) (cond (Nat.beq pc 15) (tc_ldA 0 16) tc_no)))) (cond (Nat.ble pc 21) (cond (Nat.ble pc 19) (cond (Nat.ble pc 16) (cond (Nat.beq pc 16) (tc_getf 6 0 19) tc_no) (cond (Nat.beq pc 19) (tc_ldI 1 20) tc_no)) (cond (Nat.ble pc 20) (cond (Nat.beq pc 20) (tc_aald 21) tc_no) (cond (Nat.beq pc 21) (tc_callV 0 mX0_walk 1 24) tc_no))) (cond (Nat.ble pc 25) (cond (Nat.ble pc 24) (cond (Nat.beq pc 24) (tc_ldA 0 25) tc_no) (cond (Nat.beq pc 25) (tc_getf 6 4 28) tc_no)) (cond (Nat.ble pc 28) (cond (Nat.beq pc 28) (tc_getf 0 6 31) tc_no) (cond (Nat.beq pc 31) (tc_lret) tc_no))))
theorem okX6_orders : ∀ pc, dt_S mX6_orders (tbX6_orders pc) pc := by
  intro pc
  unfold tbX6_orders
  exact dt_Sb (dt_Sb (dt_Sb (dt_Sb (dt_Sl 0 (sn_ldIn rfl dX6_orders_0 rfl)) (dt_Sl 1 (sn_callS rfl nnX6_isTalk wq_2_15 wq_2_16 dX6_orders_1 rfl))) (dt_Sb (dt_Sl 4 (sn_ifne dX6_orders_4 (by decide) rfl)) (dt_Sl 7 (sn_ldc2 rfl ⟨by decide, by decide⟩ wq_2_210 dX6_orders_7 rfl)))) (dt_Sb (dt_Sb (dt_Sl 10 (sn_lret rfl dX6_orders_10)) (dt_Sl 11 (sn_ldAn rfl dX6_orders_11 rfl))) (dt_Sb (dt_Sl 12 (sn_getf rfl ffX6 (by decide) wq_1_221 dX6_orders_12 rfl)) (dt_Sl 15 (sn_ldAn rfl dX6_orders_15 rfl))))) (dt_Sb (dt_Sb (dt_Sb (dt_Sl 16 (sn_getf rfl ffX6 (by decide) wq_1_217 dX6_orders_16 rfl)) (dt_Sl 19 (sn_ldIn rfl dX6_orders_19 rfl))) (dt_Sb (dt_Sl 20 (sn_aald dX6_orders_20 rfl)) (dt_Sl 21 (sn_callV rfl ffX0 nnX0_walk rfl wq_2_211 wq_2_212 wq_2_213 dX6_orders_21 rfl)))) (dt_Sb (dt_Sb (dt_Sl 24 (sn_ldAn rfl dX6_orders_24 rfl)) (dt_Sl 25 (sn_getf rfl ffX6 (by decide) wq_1_221 dX6_orders_25 rfl))) (dt_Sb (dt_Sl 28 (sn_getfN rfl ffX0 (by decide) wq_1_130 dX6_orders_28 rfl)) (dt_Sl 31 (sn_lret rfl dX6_orders_31)))))
theorem dX6_moments_0 : decode cX6_moments 0 = .ok (.iload_n 1, 1) := by decide +kernel
theorem dX6_moments_1 : decode cX6_moments 1 = .ok (.invokestatic 67, 3) := by decide +kernel
theorem dX6_moments_4 : decode cX6_moments 4 = .ok (.ifCond .ne 5, 3) := by decide +kernel
theorem dX6_moments_7 : decode cX6_moments 7 = .ok (.iconst (-1), 1) := by decide +kernel
theorem dX6_moments_8 : decode cX6_moments 8 = .ok (.ireturn, 1) := by decide +kernel
theorem dX6_moments_9 : decode cX6_moments 9 = .ok (.aload_n 0, 1) := by decide +kernel
theorem dX6_moments_10 : decode cX6_moments 10 = .ok (.getfield 37, 3) := by decide +kernel
theorem dX6_moments_13 : decode cX6_moments 13 = .ok (.aload_n 0, 1) := by decide +kernel
theorem dX6_moments_14 : decode cX6_moments 14 = .ok (.getfield 11, 3) := by decide +kernel
theorem dX6_moments_17 : decode cX6_moments 17 = .ok (.iload_n 1, 1) := by decide +kernel
theorem dX6_moments_18 : decode cX6_moments 18 = .ok (.aaload, 1) := by decide +kernel
theorem dX6_moments_19 : decode cX6_moments 19 = .ok (.invokevirtual 143, 3) := by decide +kernel
theorem dX6_moments_22 : decode cX6_moments 22 = .ok (.aload_n 0, 1) := by decide +kernel
theorem dX6_moments_23 : decode cX6_moments 23 = .ok (.getfield 37, 3) := by decide +kernel
theorem dX6_moments_26 : decode cX6_moments 26 = .ok (.getfield 151, 3) := by decide +kernel
theorem dX6_moments_29 : decode cX6_moments 29 = .ok (.ireturn, 1) := by decide +kernel
def tbX6_moments (pc : Nat) : dt_T := cond (Nat.ble pc 13) (cond (Nat.ble pc 7) (cond (Nat.ble pc 1) (cond (Nat.ble pc 0) (cond (Nat.beq pc 0) (tc_ldI 1 1) tc_no) (cond (Nat.beq pc 1) (tc_callS mX6_isTalk 1 4) tc_no)) (cond (Nat.ble pc 4) (cond (Nat.beq pc 4) (tc_ifne 9 7) tc_no) (cond (Nat.beq pc 7) (tc_ic (-1) 8) tc_no))) (cond (Nat.ble pc 9) (cond (Nat.ble pc 8) (cond (Nat.beq pc 8) (tc_iret) tc_no) (cond (Nat.beq pc 9) (tc_ldA 0 10) tc_no)) (cond (Nat.ble pc 10) (cond (Nat.beq pc 10) (tc_getf 6 4 13) tc_no) (cond (Nat.beq pc 13) (tc_ldA 0 14) tc_no)))) (cond (Nat.ble pc 19) (cond (Nat.ble pc 17) (cond (Nat.ble pc 14) (cond (Nat.beq pc 14) (tc_getf 6 0 17) tc_no) (cond (Nat.beq pc 17) (tc_ldI 1 18) tc_no)) (cond (Nat.ble pc 18) (cond (Nat.beq pc 18) (tc_aald 19) tc_no) (cond (Nat.beq pc 19) (tc_callV 0 mX0_walk 1 22) tc_no))) (cond (Nat.ble pc 23) (cond (Nat.ble pc 22) (cond (Nat.beq pc 22) (tc_ldA 0 23) tc_no) (cond (Nat.beq pc 23) (tc_getf 6 4 26) tc_no)) (cond (Nat.ble pc 26) (cond (Nat.beq pc 26) (tc_getf 0 7 29) tc_no) (cond (Nat.beq pc 29) (tc_iret) tc_no))))
theorem okX6_moments : ∀ pc, dt_S mX6_moments (tbX6_moments pc) pc := by
  intro pc
  unfold tbX6_moments
  exact dt_Sb (dt_Sb (dt_Sb (dt_Sb (dt_Sl 0 (sn_ldIn rfl dX6_moments_0 rfl)) (dt_Sl 1 (sn_callS rfl nnX6_isTalk wq_2_15 wq_2_16 dX6_moments_1 rfl))) (dt_Sb (dt_Sl 4 (sn_ifne dX6_moments_4 (by decide) rfl)) (dt_Sl 7 (sn_ic ⟨by decide, by decide⟩ dX6_moments_7 rfl)))) (dt_Sb (dt_Sb (dt_Sl 8 (sn_iret rfl dX6_moments_8)) (dt_Sl 9 (sn_ldAn rfl dX6_moments_9 rfl))) (dt_Sb (dt_Sl 10 (sn_getf rfl ffX6 (by decide) wq_1_221 dX6_moments_10 rfl)) (dt_Sl 13 (sn_ldAn rfl dX6_moments_13 rfl))))) (dt_Sb (dt_Sb (dt_Sb (dt_Sl 14 (sn_getf rfl ffX6 (by decide) wq_1_217 dX6_moments_14 rfl)) (dt_Sl 17 (sn_ldIn rfl dX6_moments_17 rfl))) (dt_Sb (dt_Sl 18 (sn_aald dX6_moments_18 rfl)) (dt_Sl 19 (sn_callV rfl ffX0 nnX0_walk rfl wq_2_211 wq_2_212 wq_2_213 dX6_moments_19 rfl)))) (dt_Sb (dt_Sb (dt_Sl 22 (sn_ldAn rfl dX6_moments_22 rfl)) (dt_Sl 23 (sn_getf rfl ffX6 (by decide) wq_1_221 dX6_moments_23 rfl))) (dt_Sb (dt_Sl 26 (sn_getfN rfl ffX0 (by decide) wq_1_132 dX6_moments_26 rfl)) (dt_Sl 29 (sn_iret rfl dX6_moments_29)))))
theorem dX6_under_0 : decode cX6_under 0 = .ok (.iload_n 1, 1) := by decide +kernel
theorem dX6_under_1 : decode cX6_under 1 = .ok (.invokestatic 67, 3) := by decide +kernel
theorem dX6_under_4 : decode cX6_under 4 = .ok (.ifCond .eq 12, 3) := by decide +kernel
theorem dX6_under_7 : decode cX6_under 7 = .ok (.iload_n 2, 1) := by decide +kernel
theorem dX6_under_8 : decode cX6_under 8 = .ok (.ifCond .lt 8, 3) := by decide +kernel
theorem dX6_under_11 : decode cX6_under 11 = .ok (.iload_n 2, 1) := by decide +kernel
theorem dX6_under_12 : decode cX6_under 12 = .ok (.iconst 1, 1) := by decide +kernel
theorem dX6_under_13 : decode cX6_under 13 = .ok (.if_icmp .le 5, 3) := by decide +kernel
theorem dX6_under_16 : decode cX6_under 16 = .ok (.iconst (-1), 1) := by decide +kernel
theorem dX6_under_17 : decode cX6_under 17 = .ok (.ireturn, 1) := by decide +kernel
theorem dX6_under_18 : decode cX6_under 18 = .ok (.aload_n 0, 1) := by decide +kernel
theorem dX6_under_19 : decode cX6_under 19 = .ok (.getfield 37, 3) := by decide +kernel
theorem dX6_under_22 : decode cX6_under 22 = .ok (.aload_n 0, 1) := by decide +kernel
theorem dX6_under_23 : decode cX6_under 23 = .ok (.getfield 11, 3) := by decide +kernel
theorem dX6_under_26 : decode cX6_under 26 = .ok (.iload_n 1, 1) := by decide +kernel
theorem dX6_under_27 : decode cX6_under 27 = .ok (.aaload, 1) := by decide +kernel
theorem dX6_under_28 : decode cX6_under 28 = .ok (.invokevirtual 143, 3) := by decide +kernel
theorem dX6_under_31 : decode cX6_under 31 = .ok (.iload_n 2, 1) := by decide +kernel
theorem dX6_under_32 : decode cX6_under 32 = .ok (.ifCond .ne 13, 3) := by decide +kernel
theorem dX6_under_35 : decode cX6_under 35 = .ok (.aload_n 0, 1) := by decide +kernel
theorem dX6_under_36 : decode cX6_under 36 = .ok (.getfield 37, 3) := by decide +kernel
theorem dX6_under_39 : decode cX6_under 39 = .ok (.getfield 154, 3) := by decide +kernel
theorem dX6_under_42 : decode cX6_under 42 = .ok (.goto 10, 3) := by decide +kernel
theorem dX6_under_45 : decode cX6_under 45 = .ok (.aload_n 0, 1) := by decide +kernel
theorem dX6_under_46 : decode cX6_under 46 = .ok (.getfield 37, 3) := by decide +kernel
theorem dX6_under_49 : decode cX6_under 49 = .ok (.getfield 157, 3) := by decide +kernel
theorem dX6_under_52 : decode cX6_under 52 = .ok (.ireturn, 1) := by decide +kernel
def tbX6_under (pc : Nat) : dt_T := cond (Nat.ble pc 22) (cond (Nat.ble pc 11) (cond (Nat.ble pc 4) (cond (Nat.ble pc 0) (cond (Nat.beq pc 0) (tc_ldI 1 1) tc_no) (cond (Nat.ble pc 1) (cond (Nat.beq pc 1) (tc_callS mX6_isTalk 1 4) tc_no) (cond (Nat.beq pc 4) (tc_ifeq 16 7) tc_no))) (cond (Nat.ble pc 7) (cond (Nat.beq pc 7) (tc_ldI 2 8) tc_no) (cond (Nat.ble pc 8) (cond (Nat.beq pc 8) (tc_iflt 16 11) tc_no) (cond (Nat.beq pc 11) (tc_ldI 2 12) tc_no)))) (cond (Nat.ble pc 16) (cond (Nat.ble pc 12) (cond (Nat.beq pc 12) (tc_ic 1 13) tc_no) (cond (Nat.ble pc 13) (cond (Nat.beq pc 13) (tc_icmple 18 16) tc_no) (cond (Nat.beq pc 16) (tc_ic (-1) 17) tc_no))) (cond (Nat.ble pc 18) (cond (Nat.ble pc 17) (cond (Nat.beq pc 17) (tc_iret) tc_no) (cond (Nat.beq pc 18) (tc_ldA 0 19) tc_no)) (cond (Nat.ble pc 19) (cond (Nat.beq pc 19) (tc_getf 6 4 22) tc_no) (cond (Nat.beq pc 22) (tc_ldA 0 23) tc_no))))) (cond (Nat.ble pc 35) (cond (Nat.ble pc 27) (cond (Nat.ble pc 23) (cond (Nat.beq pc 23) (tc_getf 6 0 26) tc_no) (cond (Nat.ble pc 26) (cond (Nat.beq pc 26) (tc_ldI 1 27) tc_no) (cond (Nat.beq pc 27) (tc_aald 28) tc_no))) (cond (Nat.ble pc 31) (cond (Nat.ble pc 28) (cond (Nat.beq pc 28) (tc_callV 0 mX0_walk 1 31) tc_no) (cond (Nat.beq pc 31) (tc_ldI 2 32) tc_no)) (cond (Nat.ble pc 32) (cond (Nat.beq pc 32) (tc_ifne 45 35) tc_no) (cond (Nat.beq pc 35) (tc_ldA 0 36) tc_no)))) (cond (Nat.ble pc 42) (cond (Nat.ble pc 36) (cond (Nat.beq pc 36) (tc_getf 6 4 39) tc_no) (cond (Nat.ble pc 39) (cond (Nat.beq pc 39) (tc_getf 0 8 42) tc_no) (cond (Nat.beq pc 42) (tc_goto 52) tc_no))) (cond (Nat.ble pc 46) (cond (Nat.ble pc 45) (cond (Nat.beq pc 45) (tc_ldA 0 46) tc_no) (cond (Nat.beq pc 46) (tc_getf 6 4 49) tc_no)) (cond (Nat.ble pc 49) (cond (Nat.beq pc 49) (tc_getf 0 9 52) tc_no) (cond (Nat.beq pc 52) (tc_iret) tc_no)))))
theorem okX6_under : ∀ pc, dt_S mX6_under (tbX6_under pc) pc := by
  intro pc
  unfold tbX6_under
  exact dt_Sb (dt_Sb (dt_Sb (dt_Sb (dt_Sl 0 (sn_ldIn rfl dX6_under_0 rfl)) (dt_Sb (dt_Sl 1 (sn_callS rfl nnX6_isTalk wq_2_15 wq_2_16 dX6_under_1 rfl)) (dt_Sl 4 (sn_ifeq dX6_under_4 (by decide) rfl)))) (dt_Sb (dt_Sl 7 (sn_ldIn rfl dX6_under_7 rfl)) (dt_Sb (dt_Sl 8 (sn_iflt dX6_under_8 (by decide) rfl)) (dt_Sl 11 (sn_ldIn rfl dX6_under_11 rfl))))) (dt_Sb (dt_Sb (dt_Sl 12 (sn_ic ⟨by decide, by decide⟩ dX6_under_12 rfl)) (dt_Sb (dt_Sl 13 (sn_icmple dX6_under_13 (by decide) rfl)) (dt_Sl 16 (sn_ic ⟨by decide, by decide⟩ dX6_under_16 rfl)))) (dt_Sb (dt_Sb (dt_Sl 17 (sn_iret rfl dX6_under_17)) (dt_Sl 18 (sn_ldAn rfl dX6_under_18 rfl))) (dt_Sb (dt_Sl 19 (sn_getf rfl ffX6 (by decide) wq_1_221 dX6_under_19 rfl)) (dt_Sl 22 (sn_ldAn rfl dX6_under_22 rfl)))))) (dt_Sb (dt_Sb (dt_Sb (dt_Sl 23 (sn_getf rfl ffX6 (by decide) wq_1_217 dX6_under_23 rfl)) (dt_Sb (dt_Sl 26 (sn_ldIn rfl dX6_under_26 rfl)) (dt_Sl 27 (sn_aald dX6_under_27 rfl)))) (dt_Sb (dt_Sb (dt_Sl 28 (sn_callV rfl ffX0 nnX0_walk rfl wq_2_211 wq_2_212 wq_2_213 dX6_under_28 rfl)) (dt_Sl 31 (sn_ldIn rfl dX6_under_31 rfl))) (dt_Sb (dt_Sl 32 (sn_ifne dX6_under_32 (by decide) rfl)) (dt_Sl 35 (sn_ldAn rfl dX6_under_35 rfl))))) (dt_Sb (dt_Sb (dt_Sl 36 (sn_getf rfl ffX6 (by decide) wq_1_221 dX6_under_36 rfl)) (dt_Sb (dt_Sl 39 (sn_getfN rfl ffX0 (by decide) wq_1_134 dX6_under_39 rfl)) (dt_Sl 42 (sn_goto dX6_under_42 (by decide))))) (dt_Sb (dt_Sb (dt_Sl 45 (sn_ldAn rfl dX6_under_45 rfl)) (dt_Sl 46 (sn_getf rfl ffX6 (by decide) wq_1_221 dX6_under_46 rfl))) (dt_Sb (dt_Sl 49 (sn_getfN rfl ffX0 (by decide) wq_1_136 dX6_under_49 rfl)) (dt_Sl 52 (sn_iret rfl dX6_under_52))))))
theorem dX6_alike_0 : decode cX6_alike 0 = .ok (.iload_n 1, 1) := by decide +kernel
theorem dX6_alike_1 : decode cX6_alike 1 = .ok (.invokestatic 67, 3) := by decide +kernel
theorem dX6_alike_4 : decode cX6_alike 4 = .ok (.ifCond .eq 10, 3) := by decide +kernel
theorem dX6_alike_7 : decode cX6_alike 7 = .ok (.iload_n 2, 1) := by decide +kernel
theorem dX6_alike_8 : decode cX6_alike 8 = .ok (.invokestatic 67, 3) := by decide +kernel
theorem dX6_alike_11 : decode cX6_alike 11 = .ok (.ifCond .ne 5, 3) := by decide +kernel
theorem dX6_alike_14 : decode cX6_alike 14 = .ok (.iconst (-1), 1) := by decide +kernel
theorem dX6_alike_15 : decode cX6_alike 15 = .ok (.ireturn, 1) := by decide +kernel
theorem dX6_alike_16 : decode cX6_alike 16 = .ok (.iconst 0, 1) := by decide +kernel
theorem dX6_alike_17 : decode cX6_alike 17 = .ok (.istore_n 3, 1) := by decide +kernel
theorem dX6_alike_18 : decode cX6_alike 18 = .ok (.iload_n 3, 1) := by decide +kernel
theorem dX6_alike_19 : decode cX6_alike 19 = .ok (.iconst 4, 1) := by decide +kernel
theorem dX6_alike_20 : decode cX6_alike 20 = .ok (.if_icmp .ge 30, 3) := by decide +kernel
theorem dX6_alike_23 : decode cX6_alike 23 = .ok (.aload_n 0, 1) := by decide +kernel
theorem dX6_alike_24 : decode cX6_alike 24 = .ok (.getfield 11, 3) := by decide +kernel
theorem dX6_alike_27 : decode cX6_alike 27 = .ok (.iload_n 1, 1) := by decide +kernel
theorem dX6_alike_28 : decode cX6_alike 28 = .ok (.aaload, 1) := by decide +kernel
theorem dX6_alike_29 : decode cX6_alike 29 = .ok (.aload_n 0, 1) := by decide +kernel
theorem dX6_alike_30 : decode cX6_alike 30 = .ok (.getfield 11, 3) := by decide +kernel
theorem dX6_alike_33 : decode cX6_alike 33 = .ok (.iload_n 2, 1) := by decide +kernel
theorem dX6_alike_34 : decode cX6_alike 34 = .ok (.aaload, 1) := by decide +kernel
theorem dX6_alike_35 : decode cX6_alike 35 = .ok (.iload_n 3, 1) := by decide +kernel
theorem dX6_alike_36 : decode cX6_alike 36 = .ok (.invokevirtual 160, 3) := by decide +kernel
theorem dX6_alike_39 : decode cX6_alike 39 = .ok (.ifCond .ne 5, 3) := by decide +kernel
theorem dX6_alike_42 : decode cX6_alike 42 = .ok (.iconst 0, 1) := by decide +kernel
theorem dX6_alike_43 : decode cX6_alike 43 = .ok (.ireturn, 1) := by decide +kernel
theorem dX6_alike_44 : decode cX6_alike 44 = .ok (.iinc 3 1, 3) := by decide +kernel
theorem dX6_alike_47 : decode cX6_alike 47 = .ok (.goto (-29), 3) := by decide +kernel
theorem dX6_alike_50 : decode cX6_alike 50 = .ok (.iconst 1, 1) := by decide +kernel
theorem dX6_alike_51 : decode cX6_alike 51 = .ok (.ireturn, 1) := by decide +kernel
def tbX6_alike (pc : Nat) : dt_T := cond (Nat.ble pc 24) (cond (Nat.ble pc 14) (cond (Nat.ble pc 4) (cond (Nat.ble pc 0) (cond (Nat.beq pc 0) (tc_ldI 1 1) tc_no) (cond (Nat.ble pc 1) (cond (Nat.beq pc 1) (tc_callS mX6_isTalk 1 4) tc_no) (cond (Nat.beq pc 4) (tc_ifeq 14 7) tc_no))) (cond (Nat.ble pc 8) (cond (Nat.ble pc 7) (cond (Nat.beq pc 7) (tc_ldI 2 8) tc_no) (cond (Nat.beq pc 8) (tc_callS mX6_isTalk 1 11) tc_no)) (cond (Nat.ble pc 11) (cond (Nat.beq pc 11) (tc_ifne 16 14) tc_no) (cond (Nat.beq pc 14) (tc_ic (-1) 15) tc_no)))) (cond (Nat.ble pc 18) (cond (Nat.ble pc 16) (cond (Nat.ble pc 15) (cond (Nat.beq pc 15) (tc_iret) tc_no) (cond (Nat.beq pc 16) (tc_ic 0 17) tc_no)) (cond (Nat.ble pc 17) (cond (Nat.beq pc 17) (tc_stI 3 18) tc_no) (cond (Nat.beq pc 18) (tc_ldI 3 19) tc_no))) (cond (Nat.ble pc 20) (cond (Nat.ble pc 19) (cond (Nat.beq pc 19) (tc_ic 4 20) tc_no) (cond (Nat.beq pc 20) (tc_icmpge 50 23) tc_no)) (cond (Nat.ble pc 23) (cond (Nat.beq pc 23) (tc_ldA 0 24) tc_no) (cond (Nat.beq pc 24) (tc_getf 6 0 27) tc_no))))) (cond (Nat.ble pc 35) (cond (Nat.ble pc 29) (cond (Nat.ble pc 27) (cond (Nat.beq pc 27) (tc_ldI 1 28) tc_no) (cond (Nat.ble pc 28) (cond (Nat.beq pc 28) (tc_aald 29) tc_no) (cond (Nat.beq pc 29) (tc_ldA 0 30) tc_no))) (cond (Nat.ble pc 33) (cond (Nat.ble pc 30) (cond (Nat.beq pc 30) (tc_getf 6 0 33) tc_no) (cond (Nat.beq pc 33) (tc_ldI 2 34) tc_no)) (cond (Nat.ble pc 34) (cond (Nat.beq pc 34) (tc_aald 35) tc_no) (cond (Nat.beq pc 35) (tc_ldI 3 36) tc_no)))) (cond (Nat.ble pc 43) (cond (Nat.ble pc 39) (cond (Nat.ble pc 36) (cond (Nat.beq pc 36) (tc_callV 5 mX5_hasSameLine 2 39) tc_no) (cond (Nat.beq pc 39) (tc_ifne 44 42) tc_no)) (cond (Nat.ble pc 42) (cond (Nat.beq pc 42) (tc_ic 0 43) tc_no) (cond (Nat.beq pc 43) (tc_iret) tc_no))) (cond (Nat.ble pc 47) (cond (Nat.ble pc 44) (cond (Nat.beq pc 44) (tc_iinc 3 1 47) tc_no) (cond (Nat.beq pc 47) (tc_goto 18) tc_no)) (cond (Nat.ble pc 50) (cond (Nat.beq pc 50) (tc_ic 1 51) tc_no) (cond (Nat.beq pc 51) (tc_iret) tc_no)))))
theorem okX6_alike : ∀ pc, dt_S mX6_alike (tbX6_alike pc) pc := by
  intro pc
  unfold tbX6_alike
  exact dt_Sb (dt_Sb (dt_Sb (dt_Sb (dt_Sl 0 (sn_ldIn rfl dX6_alike_0 rfl)) (dt_Sb (dt_Sl 1 (sn_callS rfl nnX6_isTalk wq_2_15 wq_2_16 dX6_alike_1 rfl)) (dt_Sl 4 (sn_ifeq dX6_alike_4 (by decide) rfl)))) (dt_Sb (dt_Sb (dt_Sl 7 (sn_ldIn rfl dX6_alike_7 rfl)) (dt_Sl 8 (sn_callS rfl nnX6_isTalk wq_2_15 wq_2_16 dX6_alike_8 rfl))) (dt_Sb (dt_Sl 11 (sn_ifne dX6_alike_11 (by decide) rfl)) (dt_Sl 14 (sn_ic ⟨by decide, by decide⟩ dX6_alike_14 rfl))))) (dt_Sb (dt_Sb (dt_Sb (dt_Sl 15 (sn_iret rfl dX6_alike_15)) (dt_Sl 16 (sn_ic ⟨by decide, by decide⟩ dX6_alike_16 rfl))) (dt_Sb (dt_Sl 17 (sn_stIn rfl (by decide) dX6_alike_17 rfl)) (dt_Sl 18 (sn_ldIn rfl dX6_alike_18 rfl)))) (dt_Sb (dt_Sb (dt_Sl 19 (sn_ic ⟨by decide, by decide⟩ dX6_alike_19 rfl)) (dt_Sl 20 (sn_icmpge dX6_alike_20 (by decide) rfl))) (dt_Sb (dt_Sl 23 (sn_ldAn rfl dX6_alike_23 rfl)) (dt_Sl 24 (sn_getf rfl ffX6 (by decide) wq_1_217 dX6_alike_24 rfl)))))) (dt_Sb (dt_Sb (dt_Sb (dt_Sl 27 (sn_ldIn rfl dX6_alike_27 rfl)) (dt_Sb (dt_Sl 28 (sn_aald dX6_alike_28 rfl)) (dt_Sl 29 (sn_ldAn rfl dX6_alike_29 rfl)))) (dt_Sb (dt_Sb (dt_Sl 30 (sn_getf rfl ffX6 (by decide) wq_1_217 dX6_alike_30 rfl)) (dt_Sl 33 (sn_ldIn rfl dX6_alike_33 rfl))) (dt_Sb (dt_Sl 34 (sn_aald dX6_alike_34 rfl)) (dt_Sl 35 (sn_ldIn rfl dX6_alike_35 rfl))))) (dt_Sb (dt_Sb (dt_Sb (dt_Sl 36 (sn_callV rfl ffX5 nnX5_hasSameLine rfl wq_3_10 wq_3_11 wq_3_12 dX6_alike_36 rfl)) (dt_Sl 39 (sn_ifne dX6_alike_39 (by decide) rfl))) (dt_Sb (dt_Sl 42 (sn_ic ⟨by decide, by decide⟩ dX6_alike_42 rfl)) (dt_Sl 43 (sn_iret rfl dX6_alike_43)))) (dt_Sb (dt_Sb (dt_Sl 44 (sn_iinc (by decide) dX6_alike_44 rfl)) (dt_Sl 47 (sn_goto dX6_alike_47 (by decide)))) (dt_Sb (dt_Sl 50 (sn_ic ⟨by decide, by decide⟩ dX6_alike_50 rfl)) (dt_Sl 51 (sn_iret rfl dX6_alike_51))))))
theorem dX6_behind_0 : decode cX6_behind 0 = .ok (.iload_n 1, 1) := by decide +kernel
theorem dX6_behind_1 : decode cX6_behind 1 = .ok (.invokestatic 67, 3) := by decide +kernel
theorem dX6_behind_4 : decode cX6_behind 4 = .ok (.ifCond .eq 17, 3) := by decide +kernel
theorem dX6_behind_7 : decode cX6_behind 7 = .ok (.iload_n 2, 1) := by decide +kernel
theorem dX6_behind_8 : decode cX6_behind 8 = .ok (.invokestatic 67, 3) := by decide +kernel
theorem dX6_behind_11 : decode cX6_behind 11 = .ok (.ifCond .eq 10, 3) := by decide +kernel
theorem dX6_behind_14 : decode cX6_behind 14 = .ok (.iload_n 3, 1) := by decide +kernel
theorem dX6_behind_15 : decode cX6_behind 15 = .ok (.invokestatic 67, 3) := by decide +kernel
theorem dX6_behind_18 : decode cX6_behind 18 = .ok (.ifCond .ne 5, 3) := by decide +kernel
theorem dX6_behind_21 : decode cX6_behind 21 = .ok (.iconst (-1), 1) := by decide +kernel
theorem dX6_behind_22 : decode cX6_behind 22 = .ok (.ireturn, 1) := by decide +kernel
theorem dX6_behind_23 : decode cX6_behind 23 = .ok (.aload_n 0, 1) := by decide +kernel
theorem dX6_behind_24 : decode cX6_behind 24 = .ok (.getfield 11, 3) := by decide +kernel
theorem dX6_behind_27 : decode cX6_behind 27 = .ok (.iload_n 1, 1) := by decide +kernel
theorem dX6_behind_28 : decode cX6_behind 28 = .ok (.aaload, 1) := by decide +kernel
theorem dX6_behind_29 : decode cX6_behind 29 = .ok (.getfield 82, 3) := by decide +kernel
theorem dX6_behind_32 : decode cX6_behind 32 = .ok (.aload_n 0, 1) := by decide +kernel
theorem dX6_behind_33 : decode cX6_behind 33 = .ok (.getfield 11, 3) := by decide +kernel
theorem dX6_behind_36 : decode cX6_behind 36 = .ok (.iload_n 2, 1) := by decide +kernel
theorem dX6_behind_37 : decode cX6_behind 37 = .ok (.aaload, 1) := by decide +kernel
theorem dX6_behind_38 : decode cX6_behind 38 = .ok (.getfield 82, 3) := by decide +kernel
theorem dX6_behind_41 : decode cX6_behind 41 = .ok (.iadd, 1) := by decide +kernel
theorem dX6_behind_42 : decode cX6_behind 42 = .ok (.bipush 10, 2) := by decide +kernel
theorem dX6_behind_44 : decode cX6_behind 44 = .ok (.if_icmp .le 6, 3) := by decide +kernel
theorem dX6_behind_47 : decode cX6_behind 47 = .ok (.bipush (-3), 2) := by decide +kernel
theorem dX6_behind_49 : decode cX6_behind 49 = .ok (.ireturn, 1) := by decide +kernel
theorem dX6_behind_50 : decode cX6_behind 50 = .ok (.aload_n 0, 1) := by decide +kernel
theorem dX6_behind_51 : decode cX6_behind 51 = .ok (.getfield 16, 3) := by decide +kernel
theorem dX6_behind_54 : decode cX6_behind 54 = .ok (.invokevirtual 164, 3) := by decide +kernel
theorem dX6_behind_57 : decode cX6_behind 57 = .ok (.aload_n 0, 1) := by decide +kernel
theorem dX6_behind_58 : decode cX6_behind 58 = .ok (.getfield 16, 3) := by decide +kernel
theorem dX6_behind_61 : decode cX6_behind 61 = .ok (.aload_n 0, 1) := by decide +kernel
theorem dX6_behind_62 : decode cX6_behind 62 = .ok (.getfield 11, 3) := by decide +kernel
theorem dX6_behind_65 : decode cX6_behind 65 = .ok (.iload_n 1, 1) := by decide +kernel
theorem dX6_behind_66 : decode cX6_behind 66 = .ok (.aaload, 1) := by decide +kernel
theorem dX6_behind_67 : decode cX6_behind 67 = .ok (.invokevirtual 167, 3) := by decide +kernel
theorem dX6_behind_70 : decode cX6_behind 70 = .ok (.aload_n 0, 1) := by decide +kernel
theorem dX6_behind_71 : decode cX6_behind 71 = .ok (.getfield 16, 3) := by decide +kernel
theorem dX6_behind_74 : decode cX6_behind 74 = .ok (.aload_n 0, 1) := by decide +kernel
theorem dX6_behind_75 : decode cX6_behind 75 = .ok (.getfield 11, 3) := by decide +kernel
theorem dX6_behind_78 : decode cX6_behind 78 = .ok (.iload_n 2, 1) := by decide +kernel
theorem dX6_behind_79 : decode cX6_behind 79 = .ok (.aaload, 1) := by decide +kernel
theorem dX6_behind_80 : decode cX6_behind 80 = .ok (.invokevirtual 167, 3) := by decide +kernel
theorem dX6_behind_83 : decode cX6_behind 83 = .ok (.aload_n 0, 1) := by decide +kernel
theorem dX6_behind_84 : decode cX6_behind 84 = .ok (.iload_n 3, 1) := by decide +kernel
theorem dX6_behind_85 : decode cX6_behind 85 = .ok (.invokevirtual 75, 3) := by decide +kernel
theorem dX6_behind_88 : decode cX6_behind 88 = .ok (.ireturn, 1) := by decide +kernel
def tbX6_behind (pc : Nat) : dt_T := cond (Nat.ble pc 42) (cond (Nat.ble pc 22) (cond (Nat.ble pc 8) (cond (Nat.ble pc 1) (cond (Nat.ble pc 0) (cond (Nat.beq pc 0) (tc_ldI 1 1) tc_no) (cond (Nat.beq pc 1) (tc_callS mX6_isTalk 1 4) tc_no)) (cond (Nat.ble pc 4) (cond (Nat.beq pc 4) (tc_ifeq 21 7) tc_no) (cond (Nat.ble pc 7) (cond (Nat.beq pc 7) (tc_ldI 2 8) tc_no) (cond (Nat.beq pc 8) (tc_callS mX6_isTalk 1 11) tc_no)))) (cond (Nat.ble pc 15) (cond (Nat.ble pc 11) (cond (Nat.beq pc 11) (tc_ifeq 21 14) tc_no) (cond (Nat.ble pc 14) (cond (Nat.beq pc 14) (tc_ldI 3 15) tc_no) (cond (Nat.beq pc 15) (tc_callS mX6_isTalk 1 18) tc_no))) (cond (Nat.ble pc 18) (cond (Nat.beq pc 18) (tc_ifne 23 21) tc_no) (cond (Nat.ble pc 21) (cond (Nat.beq pc 21) (tc_ic (-1) 22) tc_no) (cond (Nat.beq pc 22) (tc_iret) tc_no))))) (cond (Nat.ble pc 32) (cond (Nat.ble pc 27) (cond (Nat.ble pc 23) (cond (Nat.beq pc 23) (tc_ldA 0 24) tc_no) (cond (Nat.ble pc 24) (cond (Nat.beq pc 24) (tc_getf 6 0 27) tc_no) (cond (Nat.beq pc 27) (tc_ldI 1 28) tc_no))) (cond (Nat.ble pc 28) (cond (Nat.beq pc 28) (tc_aald 29) tc_no) (cond (Nat.ble pc 29) (cond (Nat.beq pc 29) (tc_getf 5 8 32) tc_no) (cond (Nat.beq pc 32) (tc_ldA 0 33) tc_no)))) (cond (Nat.ble pc 37) (cond (Nat.ble pc 33) (cond (Nat.beq pc 33) (tc_getf 6 0 36) tc_no) (cond (Nat.ble pc 36) (cond (Nat.beq pc 36) (tc_ldI 2 37) tc_no) (cond (Nat.beq pc 37) (tc_aald 38) tc_no))) (cond (Nat.ble pc 38) (cond (Nat.beq pc 38) (tc_getf 5 8 41) tc_no) (cond (Nat.ble pc 41) (cond (Nat.beq pc 41) (tc_iadd 42) tc_no) (cond (Nat.beq pc 42) (tc_ic 10 44) tc_no)))))) (cond (Nat.ble pc 66) (cond (Nat.ble pc 54) (cond (Nat.ble pc 49) (cond (Nat.ble pc 44) (cond (Nat.beq pc 44) (tc_icmple 50 47) tc_no) (cond (Nat.ble pc 47) (cond (Nat.beq pc 47) (tc_ic (-3) 49) tc_no) (cond (Nat.beq pc 49) (tc_iret) tc_no))) (cond (Nat.ble pc 50) (cond (Nat.beq pc 50) (tc_ldA 0 51) tc_no) (cond (Nat.ble pc 51) (cond (Nat.beq pc 51) (tc_getf 6 1 54) tc_no) (cond (Nat.beq pc 54) (tc_callV 5 mX5_empty 0 57) tc_no)))) (cond (Nat.ble pc 61) (cond (Nat.ble pc 57) (cond (Nat.beq pc 57) (tc_ldA 0 58) tc_no) (cond (Nat.ble pc 58) (cond (Nat.beq pc 58) (tc_getf 6 1 61) tc_no) (cond (Nat.beq pc 61) (tc_ldA 0 62) tc_no))) (cond (Nat.ble pc 62) (cond (Nat.beq pc 62) (tc_getf 6 0 65) tc_no) (cond (Nat.ble pc 65) (cond (Nat.beq pc 65) (tc_ldI 1 66) tc_no) (cond (Nat.beq pc 66) (tc_aald 67) tc_no))))) (cond (Nat.ble pc 78) (cond (Nat.ble pc 71) (cond (Nat.ble pc 67) (cond (Nat.beq pc 67) (tc_callV 5 mX5_addAll 1 70) tc_no) (cond (Nat.ble pc 70) (cond (Nat.beq pc 70) (tc_ldA 0 71) tc_no) (cond (Nat.beq pc 71) (tc_getf 6 1 74) tc_no))) (cond (Nat.ble pc 74) (cond (Nat.beq pc 74) (tc_ldA 0 75) tc_no) (cond (Nat.ble pc 75) (cond (Nat.beq pc 75) (tc_getf 6 0 78) tc_no) (cond (Nat.beq pc 78) (tc_ldI 2 79) tc_no)))) (cond (Nat.ble pc 83) (cond (Nat.ble pc 79) (cond (Nat.beq pc 79) (tc_aald 80) tc_no) (cond (Nat.ble pc 80) (cond (Nat.beq pc 80) (tc_callV 5 mX5_addAll 1 83) tc_no) (cond (Nat.beq pc 83) (tc_ldA 0 84) tc_no))) (cond (Nat.ble pc 84) (cond (Nat.beq pc 84) (tc_ldI 3 85) tc_no) (cond (Nat.ble pc 85) (cond (Nat.beq pc 85) (tc_callV 6 mX6_keepBuilt 1 88) tc_no) (cond (Nat.beq pc 88) (tc_iret) tc_no))))))
theorem okX6_behind : ∀ pc, dt_S mX6_behind (tbX6_behind pc) pc := by
  intro pc
  unfold tbX6_behind
  exact dt_Sb (dt_Sb (dt_Sb (dt_Sb (dt_Sb (dt_Sl 0 (sn_ldIn rfl dX6_behind_0 rfl)) (dt_Sl 1 (sn_callS rfl nnX6_isTalk wq_2_15 wq_2_16 dX6_behind_1 rfl))) (dt_Sb (dt_Sl 4 (sn_ifeq dX6_behind_4 (by decide) rfl)) (dt_Sb (dt_Sl 7 (sn_ldIn rfl dX6_behind_7 rfl)) (dt_Sl 8 (sn_callS rfl nnX6_isTalk wq_2_15 wq_2_16 dX6_behind_8 rfl))))) (dt_Sb (dt_Sb (dt_Sl 11 (sn_ifeq dX6_behind_11 (by decide) rfl)) (dt_Sb (dt_Sl 14 (sn_ldIn rfl dX6_behind_14 rfl)) (dt_Sl 15 (sn_callS rfl nnX6_isTalk wq_2_15 wq_2_16 dX6_behind_15 rfl)))) (dt_Sb (dt_Sl 18 (sn_ifne dX6_behind_18 (by decide) rfl)) (dt_Sb (dt_Sl 21 (sn_ic ⟨by decide, by decide⟩ dX6_behind_21 rfl)) (dt_Sl 22 (sn_iret rfl dX6_behind_22)))))) (dt_Sb (dt_Sb (dt_Sb (dt_Sl 23 (sn_ldAn rfl dX6_behind_23 rfl)) (dt_Sb (dt_Sl 24 (sn_getf rfl ffX6 (by decide) wq_1_217 dX6_behind_24 rfl)) (dt_Sl 27 (sn_ldIn rfl dX6_behind_27 rfl)))) (dt_Sb (dt_Sl 28 (sn_aald dX6_behind_28 rfl)) (dt_Sb (dt_Sl 29 (sn_getfN rfl ffX5 (by decide) wq_1_59 dX6_behind_29 rfl)) (dt_Sl 32 (sn_ldAn rfl dX6_behind_32 rfl))))) (dt_Sb (dt_Sb (dt_Sl 33 (sn_getf rfl ffX6 (by decide) wq_1_217 dX6_behind_33 rfl)) (dt_Sb (dt_Sl 36 (sn_ldIn rfl dX6_behind_36 rfl)) (dt_Sl 37 (sn_aald dX6_behind_37 rfl)))) (dt_Sb (dt_Sl 38 (sn_getfN rfl ffX5 (by decide) wq_1_59 dX6_behind_38 rfl)) (dt_Sb (dt_Sl 41 (sn_iadd dX6_behind_41 rfl)) (dt_Sl 42 (sn_bi ⟨by decide, by decide⟩ rfl dX6_behind_42 rfl))))))) (dt_Sb (dt_Sb (dt_Sb (dt_Sb (dt_Sl 44 (sn_icmple dX6_behind_44 (by decide) rfl)) (dt_Sb (dt_Sl 47 (sn_bi ⟨by decide, by decide⟩ rfl dX6_behind_47 rfl)) (dt_Sl 49 (sn_iret rfl dX6_behind_49)))) (dt_Sb (dt_Sl 50 (sn_ldAn rfl dX6_behind_50 rfl)) (dt_Sb (dt_Sl 51 (sn_getf rfl ffX6 (by decide) wq_1_218 dX6_behind_51 rfl)) (dt_Sl 54 (sn_callV rfl ffX5 nnX5_empty rfl wq_2_124 wq_2_23 wq_2_24 dX6_behind_54 rfl))))) (dt_Sb (dt_Sb (dt_Sl 57 (sn_ldAn rfl dX6_behind_57 rfl)) (dt_Sb (dt_Sl 58 (sn_getf rfl ffX6 (by decide) wq_1_218 dX6_behind_58 rfl)) (dt_Sl 61 (sn_ldAn rfl dX6_behind_61 rfl)))) (dt_Sb (dt_Sl 62 (sn_getf rfl ffX6 (by decide) wq_1_217 dX6_behind_62 rfl)) (dt_Sb (dt_Sl 65 (sn_ldIn rfl dX6_behind_65 rfl)) (dt_Sl 66 (sn_aald dX6_behind_66 rfl)))))) (dt_Sb (dt_Sb (dt_Sb (dt_Sl 67 (sn_callV rfl ffX5 nnX5_addAll rfl wq_2_125 wq_2_126 wq_2_127 dX6_behind_67 rfl)) (dt_Sb (dt_Sl 70 (sn_ldAn rfl dX6_behind_70 rfl)) (dt_Sl 71 (sn_getf rfl ffX6 (by decide) wq_1_218 dX6_behind_71 rfl)))) (dt_Sb (dt_Sl 74 (sn_ldAn rfl dX6_behind_74 rfl)) (dt_Sb (dt_Sl 75 (sn_getf rfl ffX6 (by decide) wq_1_217 dX6_behind_75 rfl)) (dt_Sl 78 (sn_ldIn rfl dX6_behind_78 rfl))))) (dt_Sb (dt_Sb (dt_Sl 79 (sn_aald dX6_behind_79 rfl)) (dt_Sb (dt_Sl 80 (sn_callV rfl ffX5 nnX5_addAll rfl wq_2_125 wq_2_126 wq_2_127 dX6_behind_80 rfl)) (dt_Sl 83 (sn_ldAn rfl dX6_behind_83 rfl)))) (dt_Sb (dt_Sl 84 (sn_ldIn rfl dX6_behind_84 rfl)) (dt_Sb (dt_Sl 85 (sn_callV rfl ffX6 nnX6_keepBuilt rfl wq_2_120 wq_2_122 wq_0_6 dX6_behind_85 rfl)) (dt_Sl 88 (sn_iret rfl dX6_behind_88)))))))
theorem dX6_play_0 : decode cX6_play 0 = .ok (.iload_n 1, 1) := by decide +kernel
theorem dX6_play_1 : decode cX6_play 1 = .ok (.invokestatic 170, 3) := by decide +kernel
theorem dX6_play_4 : decode cX6_play 4 = .ok (.ifCond .eq 12, 3) := by decide +kernel
theorem dX6_play_7 : decode cX6_play 7 = .ok (.iload_n 2, 1) := by decide +kernel
theorem dX6_play_8 : decode cX6_play 8 = .ok (.ifCond .lt 8, 3) := by decide +kernel
theorem dX6_play_11 : decode cX6_play 11 = .ok (.iload_n 2, 1) := by decide +kernel
theorem dX6_play_12 : decode cX6_play 12 = .ok (.iconst 2, 1) := by decide +kernel
theorem dX6_play_13 : decode cX6_play 13 = .ok (.if_icmp .le 5, 3) := by decide +kernel
theorem dX6_play_16 : decode cX6_play 16 = .ok (.iconst (-1), 1) := by decide +kernel
theorem dX6_play_17 : decode cX6_play 17 = .ok (.ireturn, 1) := by decide +kernel
theorem dX6_play_18 : decode cX6_play 18 = .ok (.aload_n 0, 1) := by decide +kernel
theorem dX6_play_19 : decode cX6_play 19 = .ok (.getfield 46, 3) := by decide +kernel
theorem dX6_play_22 : decode cX6_play 22 = .ok (.iload_n 1, 1) := by decide +kernel
theorem dX6_play_23 : decode cX6_play 23 = .ok (.invokevirtual 173, 3) := by decide +kernel
theorem dX6_play_26 : decode cX6_play 26 = .ok (.iload_n 2, 1) := by decide +kernel
theorem dX6_play_27 : decode cX6_play 27 = .ok (.lookupswitch 44 #[(0, 25), (1, 33)], 25) := by decide +kernel
theorem dX6_play_52 : decode cX6_play 52 = .ok (.aload_n 0, 1) := by decide +kernel
theorem dX6_play_53 : decode cX6_play 53 = .ok (.getfield 46, 3) := by decide +kernel
theorem dX6_play_56 : decode cX6_play 56 = .ok (.getfield 176, 3) := by decide +kernel
theorem dX6_play_59 : decode cX6_play 59 = .ok (.ireturn, 1) := by decide +kernel
theorem dX6_play_60 : decode cX6_play 60 = .ok (.aload_n 0, 1) := by decide +kernel
theorem dX6_play_61 : decode cX6_play 61 = .ok (.getfield 46, 3) := by decide +kernel
theorem dX6_play_64 : decode cX6_play 64 = .ok (.invokevirtual 179, 3) := by decide +kernel
theorem dX6_play_67 : decode cX6_play 67 = .ok (.invokestatic 97, 3) := by decide +kernel
theorem dX6_play_70 : decode cX6_play 70 = .ok (.ireturn, 1) := by decide +kernel
theorem dX6_play_71 : decode cX6_play 71 = .ok (.aload_n 0, 1) := by decide +kernel
theorem dX6_play_72 : decode cX6_play 72 = .ok (.getfield 46, 3) := by decide +kernel
theorem dX6_play_75 : decode cX6_play 75 = .ok (.getfield 183, 3) := by decide +kernel
theorem dX6_play_78 : decode cX6_play 78 = .ok (.ireturn, 1) := by decide +kernel
def tbX6_play (pc : Nat) : dt_T := cond (Nat.ble pc 23) (cond (Nat.ble pc 12) (cond (Nat.ble pc 4) (cond (Nat.ble pc 0) (cond (Nat.beq pc 0) (tc_ldI 1 1) tc_no) (cond (Nat.ble pc 1) (cond (Nat.beq pc 1) (tc_callS mX6_isMix 1 4) tc_no) (cond (Nat.beq pc 4) (tc_ifeq 16 7) tc_no))) (cond (Nat.ble pc 8) (cond (Nat.ble pc 7) (cond (Nat.beq pc 7) (tc_ldI 2 8) tc_no) (cond (Nat.beq pc 8) (tc_iflt 16 11) tc_no)) (cond (Nat.ble pc 11) (cond (Nat.beq pc 11) (tc_ldI 2 12) tc_no) (cond (Nat.beq pc 12) (tc_ic 2 13) tc_no)))) (cond (Nat.ble pc 17) (cond (Nat.ble pc 13) (cond (Nat.beq pc 13) (tc_icmple 18 16) tc_no) (cond (Nat.ble pc 16) (cond (Nat.beq pc 16) (tc_ic (-1) 17) tc_no) (cond (Nat.beq pc 17) (tc_iret) tc_no))) (cond (Nat.ble pc 19) (cond (Nat.ble pc 18) (cond (Nat.beq pc 18) (tc_ldA 0 19) tc_no) (cond (Nat.beq pc 19) (tc_getf 6 5 22) tc_no)) (cond (Nat.ble pc 22) (cond (Nat.beq pc 22) (tc_ldI 1 23) tc_no) (cond (Nat.beq pc 23) (tc_callV 2 mX2_perform 1 26) tc_no))))) (cond (Nat.ble pc 60) (cond (Nat.ble pc 52) (cond (Nat.ble pc 26) (cond (Nat.beq pc 26) (tc_ldI 2 27) tc_no) (cond (Nat.ble pc 27) (cond (Nat.beq pc 27) (tc_sw [(0, 52), (1, 60)] 71) tc_no) (cond (Nat.beq pc 52) (tc_ldA 0 53) tc_no))) (cond (Nat.ble pc 56) (cond (Nat.ble pc 53) (cond (Nat.beq pc 53) (tc_getf 6 5 56) tc_no) (cond (Nat.beq pc 56) (tc_getf 2 8 59) tc_no)) (cond (Nat.ble pc 59) (cond (Nat.beq pc 59) (tc_iret) tc_no) (cond (Nat.beq pc 60) (tc_ldA 0 61) tc_no)))) (cond (Nat.ble pc 70) (cond (Nat.ble pc 64) (cond (Nat.ble pc 61) (cond (Nat.beq pc 61) (tc_getf 6 5 64) tc_no) (cond (Nat.beq pc 64) (tc_callV 2 mX2_ends 0 67) tc_no)) (cond (Nat.ble pc 67) (cond (Nat.beq pc 67) (tc_callS mX6_asNumber 1 70) tc_no) (cond (Nat.beq pc 70) (tc_iret) tc_no))) (cond (Nat.ble pc 72) (cond (Nat.ble pc 71) (cond (Nat.beq pc 71) (tc_ldA 0 72) tc_no) (cond (Nat.beq pc 72) (tc_getf 6 5 75) tc_no)) (cond (Nat.ble pc 75) (cond (Nat.beq pc 75) (tc_getf 2 9 78) tc_no) (cond (Nat.beq pc 78) (tc_iret) tc_no)))))
theorem okX6_play : ∀ pc, dt_S mX6_play (tbX6_play pc) pc := by
  intro pc
  unfold tbX6_play
  exact dt_Sb (dt_Sb (dt_Sb (dt_Sb (dt_Sl 0 (sn_ldIn rfl dX6_play_0 rfl)) (dt_Sb (dt_Sl 1 (sn_callS rfl nnX6_isMix wq_3_23 wq_3_24 dX6_play_1 rfl)) (dt_Sl 4 (sn_ifeq dX6_play_4 (by decide) rfl)))) (dt_Sb (dt_Sb (dt_Sl 7 (sn_ldIn rfl dX6_play_7 rfl)) (dt_Sl 8 (sn_iflt dX6_play_8 (by decide) rfl))) (dt_Sb (dt_Sl 11 (sn_ldIn rfl dX6_play_11 rfl)) (dt_Sl 12 (sn_ic ⟨by decide, by decide⟩ dX6_play_12 rfl))))) (dt_Sb (dt_Sb (dt_Sl 13 (sn_icmple dX6_play_13 (by decide) rfl)) (dt_Sb (dt_Sl 16 (sn_ic ⟨by decide, by decide⟩ dX6_play_16 rfl)) (dt_Sl 17 (sn_iret rfl dX6_play_17)))) (dt_Sb (dt_Sb (dt_Sl 18 (sn_ldAn rfl dX6_play_18 rfl)) (dt_Sl 19 (sn_getf rfl ffX6 (by decide) wq_1_222 dX6_play_19 rfl))) (dt_Sb (dt_Sl 22 (sn_ldIn rfl dX6_play_22 rfl)) (dt_Sl 23 (sn_callV rfl ffX2 nnX2_perform rfl wq_3_26 wq_3_27 wq_3_28 dX6_play_23 rfl)))))) (dt_Sb (dt_Sb (dt_Sb (dt_Sl 26 (sn_ldIn rfl dX6_play_26 rfl)) (dt_Sb (dt_Sl 27 (sn_ls dX6_play_27 (by decide +kernel) (fun x => by
    rcases (show x = 0 ∨ x = 1 ∨ (¬ x = 0 ∧ ¬ x = 1) by omega) with rfl | rfl | ⟨h0, h1⟩
    · rfl
    · rfl
    · show (_ : Int) + Op.lookupswitch.offset ([((0 : Int), (25 : Int)), ((1 : Int), (33 : Int))]) _ x = _
      rw [Op.lookupswitch.offset_cons, if_neg (fun q => h0 q.symm), Op.lookupswitch.offset_cons, if_neg (fun q => h1 q.symm)]; simp only [dt_swt]; rw [if_neg h0, if_neg h1]; rfl))) (dt_Sl 52 (sn_ldAn rfl dX6_play_52 rfl)))) (dt_Sb (dt_Sb (dt_Sl 53 (sn_getf rfl ffX6 (by decide) wq_1_222 dX6_play_53 rfl)) (dt_Sl 56 (sn_getfN rfl ffX2 (by decide) wq_1_174 dX6_play_56 rfl))) (dt_Sb (dt_Sl 59 (sn_iret rfl dX6_play_59)) (dt_Sl 60 (sn_ldAn rfl dX6_play_60 rfl))))) (dt_Sb (dt_Sb (dt_Sb (dt_Sl 61 (sn_getf rfl ffX6 (by decide) wq_1_222 dX6_play_61 rfl)) (dt_Sl 64 (sn_callV rfl ffX2 nnX2_ends rfl wq_3_62 wq_3_63 wq_3_64 dX6_play_64 rfl))) (dt_Sb (dt_Sl 67 (sn_callS rfl nnX6_asNumber wq_2_152 wq_2_153 dX6_play_67 rfl)) (dt_Sl 70 (sn_iret rfl dX6_play_70)))) (dt_Sb (dt_Sb (dt_Sl 71 (sn_ldAn rfl dX6_play_71 rfl)) (dt_Sl 72 (sn_getf rfl ffX6 (by decide) wq_1_222 dX6_play_72 rfl))) (dt_Sb (dt_Sl 75 (sn_getfN rfl ffX2 (by decide) wq_1_176 dX6_play_75 rfl)) (dt_Sl 78 (sn_iret rfl dX6_play_78))))))
theorem dX6_mixes_0 : decode cX6_mixes 0 = .ok (.iload_n 1, 1) := by decide +kernel
theorem dX6_mixes_1 : decode cX6_mixes 1 = .ok (.invokestatic 186, 3) := by decide +kernel
theorem dX6_mixes_4 : decode cX6_mixes 4 = .ok (.ifCond .eq 12, 3) := by decide +kernel
theorem dX6_mixes_7 : decode cX6_mixes 7 = .ok (.iload_n 2, 1) := by decide +kernel
theorem dX6_mixes_8 : decode cX6_mixes 8 = .ok (.ifCond .lt 8, 3) := by decide +kernel
theorem dX6_mixes_11 : decode cX6_mixes 11 = .ok (.iload_n 2, 1) := by decide +kernel
theorem dX6_mixes_12 : decode cX6_mixes 12 = .ok (.iconst 2, 1) := by decide +kernel
theorem dX6_mixes_13 : decode cX6_mixes 13 = .ok (.if_icmp .le 5, 3) := by decide +kernel
theorem dX6_mixes_16 : decode cX6_mixes 16 = .ok (.iconst (-1), 1) := by decide +kernel
theorem dX6_mixes_17 : decode cX6_mixes 17 = .ok (.ireturn, 1) := by decide +kernel
theorem dX6_mixes_18 : decode cX6_mixes 18 = .ok (.aload_n 0, 1) := by decide +kernel
theorem dX6_mixes_19 : decode cX6_mixes 19 = .ok (.getfield 55, 3) := by decide +kernel
theorem dX6_mixes_22 : decode cX6_mixes 22 = .ok (.iload_n 1, 1) := by decide +kernel
theorem dX6_mixes_23 : decode cX6_mixes 23 = .ok (.iload_n 2, 1) := by decide +kernel
theorem dX6_mixes_24 : decode cX6_mixes 24 = .ok (.invokevirtual 189, 3) := by decide +kernel
theorem dX6_mixes_27 : decode cX6_mixes 27 = .ok (.ireturn, 1) := by decide +kernel
def tbX6_mixes (pc : Nat) : dt_T := cond (Nat.ble pc 13) (cond (Nat.ble pc 7) (cond (Nat.ble pc 1) (cond (Nat.ble pc 0) (cond (Nat.beq pc 0) (tc_ldI 1 1) tc_no) (cond (Nat.beq pc 1) (tc_callS mX6_isSet 1 4) tc_no)) (cond (Nat.ble pc 4) (cond (Nat.beq pc 4) (tc_ifeq 16 7) tc_no) (cond (Nat.beq pc 7) (tc_ldI 2 8) tc_no))) (cond (Nat.ble pc 11) (cond (Nat.ble pc 8) (cond (Nat.beq pc 8) (tc_iflt 16 11) tc_no) (cond (Nat.beq pc 11) (tc_ldI 2 12) tc_no)) (cond (Nat.ble pc 12) (cond (Nat.beq pc 12) (tc_ic 2 13) tc_no) (cond (Nat.beq pc 13) (tc_icmple 18 16) tc_no)))) (cond (Nat.ble pc 19) (cond (Nat.ble pc 17) (cond (Nat.ble pc 16) (cond (Nat.beq pc 16) (tc_ic (-1) 17) tc_no) (cond (Nat.beq pc 17) (tc_iret) tc_no)) (cond (Nat.ble pc 18) (cond (Nat.beq pc 18) (tc_ldA 0 19) tc_no) (cond (Nat.beq pc 19) (tc_getf 6 6 22) tc_no))) (cond (Nat.ble pc 23) (cond (Nat.ble pc 22) (cond (Nat.beq pc 22) (tc_ldI 1 23) tc_no) (cond (Nat.beq pc 23) (tc_ldI 2 24) tc_no)) (cond (Nat.ble pc 24) (cond (Nat.beq pc 24) (tc_callV 1 mX1_howMany 2 27) tc_no) (cond (Nat.beq pc 27) (tc_iret) tc_no))))
theorem okX6_mixes : ∀ pc, dt_S mX6_mixes (tbX6_mixes pc) pc := by
  intro pc
  unfold tbX6_mixes
  exact dt_Sb (dt_Sb (dt_Sb (dt_Sb (dt_Sl 0 (sn_ldIn rfl dX6_mixes_0 rfl)) (dt_Sl 1 (sn_callS rfl nnX6_isSet wq_3_70 wq_3_71 dX6_mixes_1 rfl))) (dt_Sb (dt_Sl 4 (sn_ifeq dX6_mixes_4 (by decide) rfl)) (dt_Sl 7 (sn_ldIn rfl dX6_mixes_7 rfl)))) (dt_Sb (dt_Sb (dt_Sl 8 (sn_iflt dX6_mixes_8 (by decide) rfl)) (dt_Sl 11 (sn_ldIn rfl dX6_mixes_11 rfl))) (dt_Sb (dt_Sl 12 (sn_ic ⟨by decide, by decide⟩ dX6_mixes_12 rfl)) (dt_Sl 13 (sn_icmple dX6_mixes_13 (by decide) rfl))))) (dt_Sb (dt_Sb (dt_Sb (dt_Sl 16 (sn_ic ⟨by decide, by decide⟩ dX6_mixes_16 rfl)) (dt_Sl 17 (sn_iret rfl dX6_mixes_17))) (dt_Sb (dt_Sl 18 (sn_ldAn rfl dX6_mixes_18 rfl)) (dt_Sl 19 (sn_getf rfl ffX6 (by decide) wq_1_223 dX6_mixes_19 rfl)))) (dt_Sb (dt_Sb (dt_Sl 22 (sn_ldIn rfl dX6_mixes_22 rfl)) (dt_Sl 23 (sn_ldIn rfl dX6_mixes_23 rfl))) (dt_Sb (dt_Sl 24 (sn_callV rfl ffX1 nnX1_howMany rfl wq_3_73 wq_3_74 wq_3_75 dX6_mixes_24 rfl)) (dt_Sl 27 (sn_iret rfl dX6_mixes_27)))))
theorem dX6_fresh_0 : decode cX6_fresh 0 = .ok (.iload_n 1, 1) := by decide +kernel
theorem dX6_fresh_1 : decode cX6_fresh 1 = .ok (.invokestatic 186, 3) := by decide +kernel
theorem dX6_fresh_4 : decode cX6_fresh 4 = .ok (.ifCond .eq 7, 3) := by decide +kernel
theorem dX6_fresh_7 : decode cX6_fresh 7 = .ok (.iload_n 2, 1) := by decide +kernel
theorem dX6_fresh_8 : decode cX6_fresh 8 = .ok (.ifCond .ge 5, 3) := by decide +kernel
theorem dX6_fresh_11 : decode cX6_fresh 11 = .ok (.iconst (-1), 1) := by decide +kernel
theorem dX6_fresh_12 : decode cX6_fresh 12 = .ok (.ireturn, 1) := by decide +kernel
theorem dX6_fresh_13 : decode cX6_fresh 13 = .ok (.aload_n 0, 1) := by decide +kernel
theorem dX6_fresh_14 : decode cX6_fresh 14 = .ok (.getfield 55, 3) := by decide +kernel
theorem dX6_fresh_17 : decode cX6_fresh 17 = .ok (.iload_n 1, 1) := by decide +kernel
theorem dX6_fresh_18 : decode cX6_fresh 18 = .ok (.iload_n 2, 1) := by decide +kernel
theorem dX6_fresh_19 : decode cX6_fresh 19 = .ok (.invokevirtual 192, 3) := by decide +kernel
theorem dX6_fresh_22 : decode cX6_fresh 22 = .ok (.ireturn, 1) := by decide +kernel
def tbX6_fresh (pc : Nat) : dt_T := cond (Nat.ble pc 11) (cond (Nat.ble pc 4) (cond (Nat.ble pc 0) (cond (Nat.beq pc 0) (tc_ldI 1 1) tc_no) (cond (Nat.ble pc 1) (cond (Nat.beq pc 1) (tc_callS mX6_isSet 1 4) tc_no) (cond (Nat.beq pc 4) (tc_ifeq 11 7) tc_no))) (cond (Nat.ble pc 7) (cond (Nat.beq pc 7) (tc_ldI 2 8) tc_no) (cond (Nat.ble pc 8) (cond (Nat.beq pc 8) (tc_ifge 13 11) tc_no) (cond (Nat.beq pc 11) (tc_ic (-1) 12) tc_no)))) (cond (Nat.ble pc 14) (cond (Nat.ble pc 12) (cond (Nat.beq pc 12) (tc_iret) tc_no) (cond (Nat.ble pc 13) (cond (Nat.beq pc 13) (tc_ldA 0 14) tc_no) (cond (Nat.beq pc 14) (tc_getf 6 6 17) tc_no))) (cond (Nat.ble pc 18) (cond (Nat.ble pc 17) (cond (Nat.beq pc 17) (tc_ldI 1 18) tc_no) (cond (Nat.beq pc 18) (tc_ldI 2 19) tc_no)) (cond (Nat.ble pc 19) (cond (Nat.beq pc 19) (tc_callV 1 mX1_newAt 2 22) tc_no) (cond (Nat.beq pc 22) (tc_iret) tc_no))))
theorem okX6_fresh : ∀ pc, dt_S mX6_fresh (tbX6_fresh pc) pc := by
  intro pc
  unfold tbX6_fresh
  exact dt_Sb (dt_Sb (dt_Sb (dt_Sl 0 (sn_ldIn rfl dX6_fresh_0 rfl)) (dt_Sb (dt_Sl 1 (sn_callS rfl nnX6_isSet wq_3_70 wq_3_71 dX6_fresh_1 rfl)) (dt_Sl 4 (sn_ifeq dX6_fresh_4 (by decide) rfl)))) (dt_Sb (dt_Sl 7 (sn_ldIn rfl dX6_fresh_7 rfl)) (dt_Sb (dt_Sl 8 (sn_ifge dX6_fresh_8 (by decide) rfl)) (dt_Sl 11 (sn_ic ⟨by decide, by decide⟩ dX6_fresh_11 rfl))))) (dt_Sb (dt_Sb (dt_Sl 12 (sn_iret rfl dX6_fresh_12)) (dt_Sb (dt_Sl 13 (sn_ldAn rfl dX6_fresh_13 rfl)) (dt_Sl 14 (sn_getf rfl ffX6 (by decide) wq_1_223 dX6_fresh_14 rfl)))) (dt_Sb (dt_Sb (dt_Sl 17 (sn_ldIn rfl dX6_fresh_17 rfl)) (dt_Sl 18 (sn_ldIn rfl dX6_fresh_18 rfl))) (dt_Sb (dt_Sl 19 (sn_callV rfl ffX1 nnX1_newAt rfl wq_3_113 wq_3_114 wq_3_115 dX6_fresh_19 rfl)) (dt_Sl 22 (sn_iret rfl dX6_fresh_22)))))
theorem dX6_take_0 : decode cX6_take 0 = .ok (.iload_n 1, 1) := by decide +kernel
theorem dX6_take_1 : decode cX6_take 1 = .ok (.invokestatic 170, 3) := by decide +kernel
theorem dX6_take_4 : decode cX6_take 4 = .ok (.ifCond .eq 10, 3) := by decide +kernel
theorem dX6_take_7 : decode cX6_take 7 = .ok (.iload_n 2, 1) := by decide +kernel
theorem dX6_take_8 : decode cX6_take 8 = .ok (.invokestatic 67, 3) := by decide +kernel
theorem dX6_take_11 : decode cX6_take 11 = .ok (.ifCond .ne 5, 3) := by decide +kernel
theorem dX6_take_14 : decode cX6_take 14 = .ok (.iconst (-1), 1) := by decide +kernel
theorem dX6_take_15 : decode cX6_take 15 = .ok (.ireturn, 1) := by decide +kernel
theorem dX6_take_16 : decode cX6_take 16 = .ok (.aload_n 0, 1) := by decide +kernel
theorem dX6_take_17 : decode cX6_take 17 = .ok (.getfield 46, 3) := by decide +kernel
theorem dX6_take_20 : decode cX6_take 20 = .ok (.iload_n 1, 1) := by decide +kernel
theorem dX6_take_21 : decode cX6_take 21 = .ok (.invokevirtual 173, 3) := by decide +kernel
theorem dX6_take_24 : decode cX6_take 24 = .ok (.aload_n 0, 1) := by decide +kernel
theorem dX6_take_25 : decode cX6_take 25 = .ok (.getfield 46, 3) := by decide +kernel
theorem dX6_take_28 : decode cX6_take 28 = .ok (.invokevirtual 179, 3) := by decide +kernel
theorem dX6_take_31 : decode cX6_take 31 = .ok (.ifCond .ne 6, 3) := by decide +kernel
theorem dX6_take_34 : decode cX6_take 34 = .ok (.bipush (-2), 2) := by decide +kernel
theorem dX6_take_36 : decode cX6_take 36 = .ok (.ireturn, 1) := by decide +kernel
theorem dX6_take_37 : decode cX6_take 37 = .ok (.aload_n 0, 1) := by decide +kernel
theorem dX6_take_38 : decode cX6_take 38 = .ok (.getfield 46, 3) := by decide +kernel
theorem dX6_take_41 : decode cX6_take 41 = .ok (.getfield 176, 3) := by decide +kernel
theorem dX6_take_44 : decode cX6_take 44 = .ok (.bipush 20, 2) := by decide +kernel
theorem dX6_take_46 : decode cX6_take 46 = .ok (.if_icmp .le 6, 3) := by decide +kernel
theorem dX6_take_49 : decode cX6_take 49 = .ok (.bipush (-3), 2) := by decide +kernel
theorem dX6_take_51 : decode cX6_take 51 = .ok (.ireturn, 1) := by decide +kernel
theorem dX6_take_52 : decode cX6_take 52 = .ok (.aload_n 0, 1) := by decide +kernel
theorem dX6_take_53 : decode cX6_take 53 = .ok (.getfield 46, 3) := by decide +kernel
theorem dX6_take_56 : decode cX6_take 56 = .ok (.aload_n 0, 1) := by decide +kernel
theorem dX6_take_57 : decode cX6_take 57 = .ok (.getfield 16, 3) := by decide +kernel
theorem dX6_take_60 : decode cX6_take 60 = .ok (.invokevirtual 195, 3) := by decide +kernel
theorem dX6_take_63 : decode cX6_take 63 = .ok (.aload_n 0, 1) := by decide +kernel
theorem dX6_take_64 : decode cX6_take 64 = .ok (.iload_n 2, 1) := by decide +kernel
theorem dX6_take_65 : decode cX6_take 65 = .ok (.invokevirtual 75, 3) := by decide +kernel
theorem dX6_take_68 : decode cX6_take 68 = .ok (.ireturn, 1) := by decide +kernel
def tbX6_take (pc : Nat) : dt_T := cond (Nat.ble pc 34) (cond (Nat.ble pc 15) (cond (Nat.ble pc 7) (cond (Nat.ble pc 1) (cond (Nat.ble pc 0) (cond (Nat.beq pc 0) (tc_ldI 1 1) tc_no) (cond (Nat.beq pc 1) (tc_callS mX6_isMix 1 4) tc_no)) (cond (Nat.ble pc 4) (cond (Nat.beq pc 4) (tc_ifeq 14 7) tc_no) (cond (Nat.beq pc 7) (tc_ldI 2 8) tc_no))) (cond (Nat.ble pc 11) (cond (Nat.ble pc 8) (cond (Nat.beq pc 8) (tc_callS mX6_isTalk 1 11) tc_no) (cond (Nat.beq pc 11) (tc_ifne 16 14) tc_no)) (cond (Nat.ble pc 14) (cond (Nat.beq pc 14) (tc_ic (-1) 15) tc_no) (cond (Nat.beq pc 15) (tc_iret) tc_no)))) (cond (Nat.ble pc 21) (cond (Nat.ble pc 17) (cond (Nat.ble pc 16) (cond (Nat.beq pc 16) (tc_ldA 0 17) tc_no) (cond (Nat.beq pc 17) (tc_getf 6 5 20) tc_no)) (cond (Nat.ble pc 20) (cond (Nat.beq pc 20) (tc_ldI 1 21) tc_no) (cond (Nat.beq pc 21) (tc_callV 2 mX2_perform 1 24) tc_no))) (cond (Nat.ble pc 25) (cond (Nat.ble pc 24) (cond (Nat.beq pc 24) (tc_ldA 0 25) tc_no) (cond (Nat.beq pc 25) (tc_getf 6 5 28) tc_no)) (cond (Nat.ble pc 28) (cond (Nat.beq pc 28) (tc_callV 2 mX2_ends 0 31) tc_no) (cond (Nat.ble pc 31) (cond (Nat.beq pc 31) (tc_ifne 37 34) tc_no) (cond (Nat.beq pc 34) (tc_ic (-2) 36) tc_no)))))) (cond (Nat.ble pc 51) (cond (Nat.ble pc 41) (cond (Nat.ble pc 37) (cond (Nat.ble pc 36) (cond (Nat.beq pc 36) (tc_iret) tc_no) (cond (Nat.beq pc 37) (tc_ldA 0 38) tc_no)) (cond (Nat.ble pc 38) (cond (Nat.beq pc 38) (tc_getf 6 5 41) tc_no) (cond (Nat.beq pc 41) (tc_getf 2 8 44) tc_no))) (cond (Nat.ble pc 46) (cond (Nat.ble pc 44) (cond (Nat.beq pc 44) (tc_ic 20 46) tc_no) (cond (Nat.beq pc 46) (tc_icmple 52 49) tc_no)) (cond (Nat.ble pc 49) (cond (Nat.beq pc 49) (tc_ic (-3) 51) tc_no) (cond (Nat.beq pc 51) (tc_iret) tc_no)))) (cond (Nat.ble pc 57) (cond (Nat.ble pc 53) (cond (Nat.ble pc 52) (cond (Nat.beq pc 52) (tc_ldA 0 53) tc_no) (cond (Nat.beq pc 53) (tc_getf 6 5 56) tc_no)) (cond (Nat.ble pc 56) (cond (Nat.beq pc 56) (tc_ldA 0 57) tc_no) (cond (Nat.beq pc 57) (tc_getf 6 1 60) tc_no))) (cond (Nat.ble pc 63) (cond (Nat.ble pc 60) (cond (Nat.beq pc 60) (tc_callV 2 mX2_copyInto 1 63) tc_no) (cond (Nat.beq pc 63) (tc_ldA 0 64) tc_no)) (cond (Nat.ble pc 64) (cond (Nat.beq pc 64) (tc_ldI 2 65) tc_no) (cond (Nat.ble pc 65) (cond (Nat.beq pc 65) (tc_callV 6 mX6_keepBuilt 1 68) tc_no) (cond (Nat.beq pc 68) (tc_iret) tc_no))))))
theorem okX6_take : ∀ pc, dt_S mX6_take (tbX6_take pc) pc := by
  intro pc
  unfold tbX6_take
  exact dt_Sb (dt_Sb (dt_Sb (dt_Sb (dt_Sb (dt_Sl 0 (sn_ldIn rfl dX6_take_0 rfl)) (dt_Sl 1 (sn_callS rfl nnX6_isMix wq_3_23 wq_3_24 dX6_take_1 rfl))) (dt_Sb (dt_Sl 4 (sn_ifeq dX6_take_4 (by decide) rfl)) (dt_Sl 7 (sn_ldIn rfl dX6_take_7 rfl)))) (dt_Sb (dt_Sb (dt_Sl 8 (sn_callS rfl nnX6_isTalk wq_2_15 wq_2_16 dX6_take_8 rfl)) (dt_Sl 11 (sn_ifne dX6_take_11 (by decide) rfl))) (dt_Sb (dt_Sl 14 (sn_ic ⟨by decide, by decide⟩ dX6_take_14 rfl)) (dt_Sl 15 (sn_iret rfl dX6_take_15))))) (dt_Sb (dt_Sb (dt_Sb (dt_Sl 16 (sn_ldAn rfl dX6_take_16 rfl)) (dt_Sl 17 (sn_getf rfl ffX6 (by decide) wq_1_222 dX6_take_17 rfl))) (dt_Sb (dt_Sl 20 (sn_ldIn rfl dX6_take_20 rfl)) (dt_Sl 21 (sn_callV rfl ffX2 nnX2_perform rfl wq_3_26 wq_3_27 wq_3_28 dX6_take_21 rfl)))) (dt_Sb (dt_Sb (dt_Sl 24 (sn_ldAn rfl dX6_take_24 rfl)) (dt_Sl 25 (sn_getf rfl ffX6 (by decide) wq_1_222 dX6_take_25 rfl))) (dt_Sb (dt_Sl 28 (sn_callV rfl ffX2 nnX2_ends rfl wq_3_62 wq_3_63 wq_3_64 dX6_take_28 rfl)) (dt_Sb (dt_Sl 31 (sn_ifne dX6_take_31 (by decide) rfl)) (dt_Sl 34 (sn_bi ⟨by decide, by decide⟩ rfl dX6_take_34 rfl))))))) (dt_Sb (dt_Sb (dt_Sb (dt_Sb (dt_Sl 36 (sn_iret rfl dX6_take_36)) (dt_Sl 37 (sn_ldAn rfl dX6_take_37 rfl))) (dt_Sb (dt_Sl 38 (sn_getf rfl ffX6 (by decide) wq_1_222 dX6_take_38 rfl)) (dt_Sl 41 (sn_getfN rfl ffX2 (by decide) wq_1_174 dX6_take_41 rfl)))) (dt_Sb (dt_Sb (dt_Sl 44 (sn_bi ⟨by decide, by decide⟩ rfl dX6_take_44 rfl)) (dt_Sl 46 (sn_icmple dX6_take_46 (by decide) rfl))) (dt_Sb (dt_Sl 49 (sn_bi ⟨by decide, by decide⟩ rfl dX6_take_49 rfl)) (dt_Sl 51 (sn_iret rfl dX6_take_51))))) (dt_Sb (dt_Sb (dt_Sb (dt_Sl 52 (sn_ldAn rfl dX6_take_52 rfl)) (dt_Sl 53 (sn_getf rfl ffX6 (by decide) wq_1_222 dX6_take_53 rfl))) (dt_Sb (dt_Sl 56 (sn_ldAn rfl dX6_take_56 rfl)) (dt_Sl 57 (sn_getf rfl ffX6 (by decide) wq_1_218 dX6_take_57 rfl)))) (dt_Sb (dt_Sb (dt_Sl 60 (sn_callV rfl ffX2 nnX2_copyInto rfl wq_3_121 wq_3_122 wq_3_123 dX6_take_60 rfl)) (dt_Sl 63 (sn_ldAn rfl dX6_take_63 rfl))) (dt_Sb (dt_Sl 64 (sn_ldIn rfl dX6_take_64 rfl)) (dt_Sb (dt_Sl 65 (sn_callV rfl ffX6 nnX6_keepBuilt rfl wq_2_120 wq_2_122 wq_0_6 dX6_take_65 rfl)) (dt_Sl 68 (sn_iret rfl dX6_take_68)))))))
theorem dX6_count_0 : decode cX6_count 0 = .ok (.iload_n 1, 1) := by decide +kernel
theorem dX6_count_1 : decode cX6_count 1 = .ok (.iconst 1, 1) := by decide +kernel
theorem dX6_count_2 : decode cX6_count 2 = .ok (.if_icmp .ne 11, 3) := by decide +kernel
theorem dX6_count_5 : decode cX6_count 5 = .ok (.aload_n 0, 1) := by decide +kernel
theorem dX6_count_6 : decode cX6_count 6 = .ok (.getfield 23, 3) := by decide +kernel
theorem dX6_count_9 : decode cX6_count 9 = .ok (.getfield 59, 3) := by decide +kernel
theorem dX6_count_12 : decode cX6_count 12 = .ok (.ireturn, 1) := by decide +kernel
theorem dX6_count_13 : decode cX6_count 13 = .ok (.iload_n 1, 1) := by decide +kernel
theorem dX6_count_14 : decode cX6_count 14 = .ok (.ifCond .eq 5, 3) := by decide +kernel
theorem dX6_count_17 : decode cX6_count 17 = .ok (.iconst (-1), 1) := by decide +kernel
theorem dX6_count_18 : decode cX6_count 18 = .ok (.ireturn, 1) := by decide +kernel
theorem dX6_count_19 : decode cX6_count 19 = .ok (.iconst 0, 1) := by decide +kernel
theorem dX6_count_20 : decode cX6_count 20 = .ok (.istore_n 2, 1) := by decide +kernel
theorem dX6_count_21 : decode cX6_count 21 = .ok (.iconst 0, 1) := by decide +kernel
theorem dX6_count_22 : decode cX6_count 22 = .ok (.istore_n 3, 1) := by decide +kernel
theorem dX6_count_23 : decode cX6_count 23 = .ok (.iload_n 3, 1) := by decide +kernel
theorem dX6_count_24 : decode cX6_count 24 = .ok (.iconst 4, 1) := by decide +kernel
theorem dX6_count_25 : decode cX6_count 25 = .ok (.if_icmp .ge 21, 3) := by decide +kernel
theorem dX6_count_28 : decode cX6_count 28 = .ok (.iload_n 2, 1) := by decide +kernel
theorem dX6_count_29 : decode cX6_count 29 = .ok (.aload_n 0, 1) := by decide +kernel
theorem dX6_count_30 : decode cX6_count 30 = .ok (.getfield 11, 3) := by decide +kernel
theorem dX6_count_33 : decode cX6_count 33 = .ok (.iload_n 3, 1) := by decide +kernel
theorem dX6_count_34 : decode cX6_count 34 = .ok (.aaload, 1) := by decide +kernel
theorem dX6_count_35 : decode cX6_count 35 = .ok (.getfield 79, 3) := by decide +kernel
theorem dX6_count_38 : decode cX6_count 38 = .ok (.iadd, 1) := by decide +kernel
theorem dX6_count_39 : decode cX6_count 39 = .ok (.istore_n 2, 1) := by decide +kernel
theorem dX6_count_40 : decode cX6_count 40 = .ok (.iinc 3 1, 3) := by decide +kernel
theorem dX6_count_43 : decode cX6_count 43 = .ok (.goto (-20), 3) := by decide +kernel
theorem dX6_count_46 : decode cX6_count 46 = .ok (.iload_n 2, 1) := by decide +kernel
theorem dX6_count_47 : decode cX6_count 47 = .ok (.ireturn, 1) := by decide +kernel
def tbX6_count (pc : Nat) : dt_T := cond (Nat.ble pc 22) (cond (Nat.ble pc 12) (cond (Nat.ble pc 2) (cond (Nat.ble pc 0) (cond (Nat.beq pc 0) (tc_ldI 1 1) tc_no) (cond (Nat.ble pc 1) (cond (Nat.beq pc 1) (tc_ic 1 2) tc_no) (cond (Nat.beq pc 2) (tc_icmpne 13 5) tc_no))) (cond (Nat.ble pc 6) (cond (Nat.ble pc 5) (cond (Nat.beq pc 5) (tc_ldA 0 6) tc_no) (cond (Nat.beq pc 6) (tc_getf 6 2 9) tc_no)) (cond (Nat.ble pc 9) (cond (Nat.beq pc 9) (tc_getf 3 1 12) tc_no) (cond (Nat.beq pc 12) (tc_iret) tc_no)))) (cond (Nat.ble pc 18) (cond (Nat.ble pc 14) (cond (Nat.ble pc 13) (cond (Nat.beq pc 13) (tc_ldI 1 14) tc_no) (cond (Nat.beq pc 14) (tc_ifeq 19 17) tc_no)) (cond (Nat.ble pc 17) (cond (Nat.beq pc 17) (tc_ic (-1) 18) tc_no) (cond (Nat.beq pc 18) (tc_iret) tc_no))) (cond (Nat.ble pc 20) (cond (Nat.ble pc 19) (cond (Nat.beq pc 19) (tc_ic 0 20) tc_no) (cond (Nat.beq pc 20) (tc_stI 2 21) tc_no)) (cond (Nat.ble pc 21) (cond (Nat.beq pc 21) (tc_ic 0 22) tc_no) (cond (Nat.beq pc 22) (tc_stI 3 23) tc_no))))) (cond (Nat.ble pc 33) (cond (Nat.ble pc 25) (cond (Nat.ble pc 23) (cond (Nat.beq pc 23) (tc_ldI 3 24) tc_no) (cond (Nat.ble pc 24) (cond (Nat.beq pc 24) (tc_ic 4 25) tc_no) (cond (Nat.beq pc 25) (tc_icmpge 46 28) tc_no))) (cond (Nat.ble pc 29) (cond (Nat.ble pc 28) (cond (Nat.beq pc 28) (tc_ldI 2 29) tc_no) (cond (Nat.beq pc 29) (tc_ldA 0 30) tc_no)) (cond (Nat.ble pc 30) (cond (Nat.beq pc 30) (tc_getf 6 0 33) tc_no) (cond (Nat.beq pc 33) (tc_ldI 3 34) tc_no)))) (cond (Nat.ble pc 39) (cond (Nat.ble pc 35) (cond (Nat.ble pc 34) (cond (Nat.beq pc 34) (tc_aald 35) tc_no) (cond (Nat.beq pc 35) (tc_getf 5 7 38) tc_no)) (cond (Nat.ble pc 38) (cond (Nat.beq pc 38) (tc_iadd 39) tc_no) (cond (Nat.beq pc 39) (tc_stI 2 40) tc_no))) (cond (Nat.ble pc 43) (cond (Nat.ble pc 40) (cond (Nat.beq pc 40) (tc_iinc 3 1 43) tc_no) (cond (Nat.beq pc 43) (tc_goto 23) tc_no)) (cond (Nat.ble pc 46) (cond (Nat.beq pc 46) (tc_ldI 2 47) tc_no) (cond (Nat.beq pc 47) (tc_iret) tc_no)))))
theorem okX6_count : ∀ pc, dt_S mX6_count (tbX6_count pc) pc := by
  intro pc
  unfold tbX6_count
  exact dt_Sb (dt_Sb (dt_Sb (dt_Sb (dt_Sl 0 (sn_ldIn rfl dX6_count_0 rfl)) (dt_Sb (dt_Sl 1 (sn_ic ⟨by decide, by decide⟩ dX6_count_1 rfl)) (dt_Sl 2 (sn_icmpne dX6_count_2 (by decide) rfl)))) (dt_Sb (dt_Sb (dt_Sl 5 (sn_ldAn rfl dX6_count_5 rfl)) (dt_Sl 6 (sn_getf rfl ffX6 (by decide) wq_1_219 dX6_count_6 rfl))) (dt_Sb (dt_Sl 9 (sn_getfN rfl ffX3 (by decide) wq_1_89 dX6_count_9 rfl)) (dt_Sl 12 (sn_iret rfl dX6_count_12))))) (dt_Sb (dt_Sb (dt_Sb (dt_Sl 13 (sn_ldIn rfl dX6_count_13 rfl)) (dt_Sl 14 (sn_ifeq dX6_count_14 (by decide) rfl))) (dt_Sb (dt_Sl 17 (sn_ic ⟨by decide, by decide⟩ dX6_count_17 rfl)) (dt_Sl 18 (sn_iret rfl dX6_count_18)))) (dt_Sb (dt_Sb (dt_Sl 19 (sn_ic ⟨by decide, by decide⟩ dX6_count_19 rfl)) (dt_Sl 20 (sn_stIn rfl (by decide) dX6_count_20 rfl))) (dt_Sb (dt_Sl 21 (sn_ic ⟨by decide, by decide⟩ dX6_count_21 rfl)) (dt_Sl 22 (sn_stIn rfl (by decide) dX6_count_22 rfl)))))) (dt_Sb (dt_Sb (dt_Sb (dt_Sl 23 (sn_ldIn rfl dX6_count_23 rfl)) (dt_Sb (dt_Sl 24 (sn_ic ⟨by decide, by decide⟩ dX6_count_24 rfl)) (dt_Sl 25 (sn_icmpge dX6_count_25 (by decide) rfl)))) (dt_Sb (dt_Sb (dt_Sl 28 (sn_ldIn rfl dX6_count_28 rfl)) (dt_Sl 29 (sn_ldAn rfl dX6_count_29 rfl))) (dt_Sb (dt_Sl 30 (sn_getf rfl ffX6 (by decide) wq_1_217 dX6_count_30 rfl)) (dt_Sl 33 (sn_ldIn rfl dX6_count_33 rfl))))) (dt_Sb (dt_Sb (dt_Sb (dt_Sl 34 (sn_aald dX6_count_34 rfl)) (dt_Sl 35 (sn_getfN rfl ffX5 (by decide) wq_1_56 dX6_count_35 rfl))) (dt_Sb (dt_Sl 38 (sn_iadd dX6_count_38 rfl)) (dt_Sl 39 (sn_stIn rfl (by decide) dX6_count_39 rfl)))) (dt_Sb (dt_Sb (dt_Sl 40 (sn_iinc (by decide) dX6_count_40 rfl)) (dt_Sl 43 (sn_goto dX6_count_43 (by decide)))) (dt_Sb (dt_Sl 46 (sn_ldIn rfl dX6_count_46 rfl)) (dt_Sl 47 (sn_iret rfl dX6_count_47))))))
theorem dX6_keepBuilt_0 : decode cX6_keepBuilt 0 = .ok (.iload_n 1, 1) := by decide +kernel
theorem dX6_keepBuilt_1 : decode cX6_keepBuilt 1 = .ok (.invokestatic 67, 3) := by decide +kernel
theorem dX6_keepBuilt_4 : decode cX6_keepBuilt 4 = .ok (.ifCond .ne 5, 3) := by decide +kernel
theorem dX6_keepBuilt_7 : decode cX6_keepBuilt 7 = .ok (.iconst (-1), 1) := by decide +kernel
theorem dX6_keepBuilt_8 : decode cX6_keepBuilt 8 = .ok (.ireturn, 1) := by decide +kernel
theorem dX6_keepBuilt_9 : decode cX6_keepBuilt 9 = .ok (.aload_n 0, 1) := by decide +kernel
theorem dX6_keepBuilt_10 : decode cX6_keepBuilt 10 = .ok (.getfield 11, 3) := by decide +kernel
theorem dX6_keepBuilt_13 : decode cX6_keepBuilt 13 = .ok (.iload_n 1, 1) := by decide +kernel
theorem dX6_keepBuilt_14 : decode cX6_keepBuilt 14 = .ok (.aaload, 1) := by decide +kernel
theorem dX6_keepBuilt_15 : decode cX6_keepBuilt 15 = .ok (.invokevirtual 164, 3) := by decide +kernel
theorem dX6_keepBuilt_18 : decode cX6_keepBuilt 18 = .ok (.aload_n 0, 1) := by decide +kernel
theorem dX6_keepBuilt_19 : decode cX6_keepBuilt 19 = .ok (.getfield 11, 3) := by decide +kernel
theorem dX6_keepBuilt_22 : decode cX6_keepBuilt 22 = .ok (.iload_n 1, 1) := by decide +kernel
theorem dX6_keepBuilt_23 : decode cX6_keepBuilt 23 = .ok (.aaload, 1) := by decide +kernel
theorem dX6_keepBuilt_24 : decode cX6_keepBuilt 24 = .ok (.aload_n 0, 1) := by decide +kernel
theorem dX6_keepBuilt_25 : decode cX6_keepBuilt 25 = .ok (.getfield 16, 3) := by decide +kernel
theorem dX6_keepBuilt_28 : decode cX6_keepBuilt 28 = .ok (.invokevirtual 167, 3) := by decide +kernel
theorem dX6_keepBuilt_31 : decode cX6_keepBuilt 31 = .ok (.aload_n 0, 1) := by decide +kernel
theorem dX6_keepBuilt_32 : decode cX6_keepBuilt 32 = .ok (.getfield 11, 3) := by decide +kernel
theorem dX6_keepBuilt_35 : decode cX6_keepBuilt 35 = .ok (.iload_n 1, 1) := by decide +kernel
theorem dX6_keepBuilt_36 : decode cX6_keepBuilt 36 = .ok (.aaload, 1) := by decide +kernel
theorem dX6_keepBuilt_37 : decode cX6_keepBuilt 37 = .ok (.getfield 79, 3) := by decide +kernel
theorem dX6_keepBuilt_40 : decode cX6_keepBuilt 40 = .ok (.ireturn, 1) := by decide +kernel
def tbX6_keepBuilt (pc : Nat) : dt_T := cond (Nat.ble pc 18) (cond (Nat.ble pc 8) (cond (Nat.ble pc 1) (cond (Nat.ble pc 0) (cond (Nat.beq pc 0) (tc_ldI 1 1) tc_no) (cond (Nat.beq pc 1) (tc_callS mX6_isTalk 1 4) tc_no)) (cond (Nat.ble pc 4) (cond (Nat.beq pc 4) (tc_ifne 9 7) tc_no) (cond (Nat.ble pc 7) (cond (Nat.beq pc 7) (tc_ic (-1) 8) tc_no) (cond (Nat.beq pc 8) (tc_iret) tc_no)))) (cond (Nat.ble pc 13) (cond (Nat.ble pc 9) (cond (Nat.beq pc 9) (tc_ldA 0 10) tc_no) (cond (Nat.ble pc 10) (cond (Nat.beq pc 10) (tc_getf 6 0 13) tc_no) (cond (Nat.beq pc 13) (tc_ldI 1 14) tc_no))) (cond (Nat.ble pc 14) (cond (Nat.beq pc 14) (tc_aald 15) tc_no) (cond (Nat.ble pc 15) (cond (Nat.beq pc 15) (tc_callV 5 mX5_empty 0 18) tc_no) (cond (Nat.beq pc 18) (tc_ldA 0 19) tc_no))))) (cond (Nat.ble pc 28) (cond (Nat.ble pc 23) (cond (Nat.ble pc 19) (cond (Nat.beq pc 19) (tc_getf 6 0 22) tc_no) (cond (Nat.ble pc 22) (cond (Nat.beq pc 22) (tc_ldI 1 23) tc_no) (cond (Nat.beq pc 23) (tc_aald 24) tc_no))) (cond (Nat.ble pc 24) (cond (Nat.beq pc 24) (tc_ldA 0 25) tc_no) (cond (Nat.ble pc 25) (cond (Nat.beq pc 25) (tc_getf 6 1 28) tc_no) (cond (Nat.beq pc 28) (tc_callV 5 mX5_addAll 1 31) tc_no)))) (cond (Nat.ble pc 35) (cond (Nat.ble pc 31) (cond (Nat.beq pc 31) (tc_ldA 0 32) tc_no) (cond (Nat.ble pc 32) (cond (Nat.beq pc 32) (tc_getf 6 0 35) tc_no) (cond (Nat.beq pc 35) (tc_ldI 1 36) tc_no))) (cond (Nat.ble pc 36) (cond (Nat.beq pc 36) (tc_aald 37) tc_no) (cond (Nat.ble pc 37) (cond (Nat.beq pc 37) (tc_getf 5 7 40) tc_no) (cond (Nat.beq pc 40) (tc_iret) tc_no)))))
theorem okX6_keepBuilt : ∀ pc, dt_S mX6_keepBuilt (tbX6_keepBuilt pc) pc := by
  intro pc
  unfold tbX6_keepBuilt
  exact dt_Sb (dt_Sb (dt_Sb (dt_Sb (dt_Sl 0 (sn_ldIn rfl dX6_keepBuilt_0 rfl)) (dt_Sl 1 (sn_callS rfl nnX6_isTalk wq_2_15 wq_2_16 dX6_keepBuilt_1 rfl))) (dt_Sb (dt_Sl 4 (sn_ifne dX6_keepBuilt_4 (by decide) rfl)) (dt_Sb (dt_Sl 7 (sn_ic ⟨by decide, by decide⟩ dX6_keepBuilt_7 rfl)) (dt_Sl 8 (sn_iret rfl dX6_keepBuilt_8))))) (dt_Sb (dt_Sb (dt_Sl 9 (sn_ldAn rfl dX6_keepBuilt_9 rfl)) (dt_Sb (dt_Sl 10 (sn_getf rfl ffX6 (by decide) wq_1_217 dX6_keepBuilt_10 rfl)) (dt_Sl 13 (sn_ldIn rfl dX6_keepBuilt_13 rfl)))) (dt_Sb (dt_Sl 14 (sn_aald dX6_keepBuilt_14 rfl)) (dt_Sb (dt_Sl 15 (sn_callV rfl ffX5 nnX5_empty rfl wq_2_124 wq_2_23 wq_2_24 dX6_keepBuilt_15 rfl)) (dt_Sl 18 (sn_ldAn rfl dX6_keepBuilt_18 rfl)))))) (dt_Sb (dt_Sb (dt_Sb (dt_Sl 19 (sn_getf rfl ffX6 (by decide) wq_1_217 dX6_keepBuilt_19 rfl)) (dt_Sb (dt_Sl 22 (sn_ldIn rfl dX6_keepBuilt_22 rfl)) (dt_Sl 23 (sn_aald dX6_keepBuilt_23 rfl)))) (dt_Sb (dt_Sl 24 (sn_ldAn rfl dX6_keepBuilt_24 rfl)) (dt_Sb (dt_Sl 25 (sn_getf rfl ffX6 (by decide) wq_1_218 dX6_keepBuilt_25 rfl)) (dt_Sl 28 (sn_callV rfl ffX5 nnX5_addAll rfl wq_2_125 wq_2_126 wq_2_127 dX6_keepBuilt_28 rfl))))) (dt_Sb (dt_Sb (dt_Sl 31 (sn_ldAn rfl dX6_keepBuilt_31 rfl)) (dt_Sb (dt_Sl 32 (sn_getf rfl ffX6 (by decide) wq_1_217 dX6_keepBuilt_32 rfl)) (dt_Sl 35 (sn_ldIn rfl dX6_keepBuilt_35 rfl)))) (dt_Sb (dt_Sl 36 (sn_aald dX6_keepBuilt_36 rfl)) (dt_Sb (dt_Sl 37 (sn_getfN rfl ffX5 (by decide) wq_1_56 dX6_keepBuilt_37 rfl)) (dt_Sl 40 (sn_iret rfl dX6_keepBuilt_40))))))
theorem dX6_isEvent_0 : decode cX6_isEvent 0 = .ok (.iload_n 1, 1) := by decide +kernel
theorem dX6_isEvent_1 : decode cX6_isEvent 1 = .ok (.invokestatic 67, 3) := by decide +kernel
theorem dX6_isEvent_4 : decode cX6_isEvent 4 = .ok (.ifCond .eq 24, 3) := by decide +kernel
theorem dX6_isEvent_7 : decode cX6_isEvent 7 = .ok (.iload_n 2, 1) := by decide +kernel
theorem dX6_isEvent_8 : decode cX6_isEvent 8 = .ok (.ifCond .lt 20, 3) := by decide +kernel
theorem dX6_isEvent_11 : decode cX6_isEvent 11 = .ok (.iload_n 2, 1) := by decide +kernel
theorem dX6_isEvent_12 : decode cX6_isEvent 12 = .ok (.aload_n 0, 1) := by decide +kernel
theorem dX6_isEvent_13 : decode cX6_isEvent 13 = .ok (.getfield 11, 3) := by decide +kernel
theorem dX6_isEvent_16 : decode cX6_isEvent 16 = .ok (.iload_n 1, 1) := by decide +kernel
theorem dX6_isEvent_17 : decode cX6_isEvent 17 = .ok (.aaload, 1) := by decide +kernel
theorem dX6_isEvent_18 : decode cX6_isEvent 18 = .ok (.getfield 79, 3) := by decide +kernel
theorem dX6_isEvent_21 : decode cX6_isEvent 21 = .ok (.if_icmp .ge 7, 3) := by decide +kernel
theorem dX6_isEvent_24 : decode cX6_isEvent 24 = .ok (.iconst 1, 1) := by decide +kernel
theorem dX6_isEvent_25 : decode cX6_isEvent 25 = .ok (.goto 4, 3) := by decide +kernel
theorem dX6_isEvent_28 : decode cX6_isEvent 28 = .ok (.iconst 0, 1) := by decide +kernel
theorem dX6_isEvent_29 : decode cX6_isEvent 29 = .ok (.ireturn, 1) := by decide +kernel
def tbX6_isEvent (pc : Nat) : dt_T := cond (Nat.ble pc 13) (cond (Nat.ble pc 7) (cond (Nat.ble pc 1) (cond (Nat.ble pc 0) (cond (Nat.beq pc 0) (tc_ldI 1 1) tc_no) (cond (Nat.beq pc 1) (tc_callS mX6_isTalk 1 4) tc_no)) (cond (Nat.ble pc 4) (cond (Nat.beq pc 4) (tc_ifeq 28 7) tc_no) (cond (Nat.beq pc 7) (tc_ldI 2 8) tc_no))) (cond (Nat.ble pc 11) (cond (Nat.ble pc 8) (cond (Nat.beq pc 8) (tc_iflt 28 11) tc_no) (cond (Nat.beq pc 11) (tc_ldI 2 12) tc_no)) (cond (Nat.ble pc 12) (cond (Nat.beq pc 12) (tc_ldA 0 13) tc_no) (cond (Nat.beq pc 13) (tc_getf 6 0 16) tc_no)))) (cond (Nat.ble pc 21) (cond (Nat.ble pc 17) (cond (Nat.ble pc 16) (cond (Nat.beq pc 16) (tc_ldI 1 17) tc_no) (cond (Nat.beq pc 17) (tc_aald 18) tc_no)) (cond (Nat.ble pc 18) (cond (Nat.beq pc 18) (tc_getf 5 7 21) tc_no) (cond (Nat.beq pc 21) (tc_icmpge 28 24) tc_no))) (cond (Nat.ble pc 25) (cond (Nat.ble pc 24) (cond (Nat.beq pc 24) (tc_ic 1 25) tc_no) (cond (Nat.beq pc 25) (tc_goto 29) tc_no)) (cond (Nat.ble pc 28) (cond (Nat.beq pc 28) (tc_ic 0 29) tc_no) (cond (Nat.beq pc 29) (tc_zret) tc_no))))
theorem okX6_isEvent : ∀ pc, dt_S mX6_isEvent (tbX6_isEvent pc) pc := by
  intro pc
  unfold tbX6_isEvent
  exact dt_Sb (dt_Sb (dt_Sb (dt_Sb (dt_Sl 0 (sn_ldIn rfl dX6_isEvent_0 rfl)) (dt_Sl 1 (sn_callS rfl nnX6_isTalk wq_2_15 wq_2_16 dX6_isEvent_1 rfl))) (dt_Sb (dt_Sl 4 (sn_ifeq dX6_isEvent_4 (by decide) rfl)) (dt_Sl 7 (sn_ldIn rfl dX6_isEvent_7 rfl)))) (dt_Sb (dt_Sb (dt_Sl 8 (sn_iflt dX6_isEvent_8 (by decide) rfl)) (dt_Sl 11 (sn_ldIn rfl dX6_isEvent_11 rfl))) (dt_Sb (dt_Sl 12 (sn_ldAn rfl dX6_isEvent_12 rfl)) (dt_Sl 13 (sn_getf rfl ffX6 (by decide) wq_1_217 dX6_isEvent_13 rfl))))) (dt_Sb (dt_Sb (dt_Sb (dt_Sl 16 (sn_ldIn rfl dX6_isEvent_16 rfl)) (dt_Sl 17 (sn_aald dX6_isEvent_17 rfl))) (dt_Sb (dt_Sl 18 (sn_getfN rfl ffX5 (by decide) wq_1_56 dX6_isEvent_18 rfl)) (dt_Sl 21 (sn_icmpge dX6_isEvent_21 (by decide) rfl)))) (dt_Sb (dt_Sb (dt_Sl 24 (sn_ic ⟨by decide, by decide⟩ dX6_isEvent_24 rfl)) (dt_Sl 25 (sn_goto dX6_isEvent_25 (by decide)))) (dt_Sb (dt_Sl 28 (sn_ic ⟨by decide, by decide⟩ dX6_isEvent_28 rfl)) (dt_Sl 29 (sn_zret rfl dX6_isEvent_29)))))
theorem dX6_isTalk_0 : decode cX6_isTalk 0 = .ok (.iload_n 0, 1) := by decide +kernel
theorem dX6_isTalk_1 : decode cX6_isTalk 1 = .ok (.ifCond .lt 12, 3) := by decide +kernel
theorem dX6_isTalk_4 : decode cX6_isTalk 4 = .ok (.iload_n 0, 1) := by decide +kernel
theorem dX6_isTalk_5 : decode cX6_isTalk 5 = .ok (.iconst 4, 1) := by decide +kernel
theorem dX6_isTalk_6 : decode cX6_isTalk 6 = .ok (.if_icmp .ge 7, 3) := by decide +kernel
theorem dX6_isTalk_9 : decode cX6_isTalk 9 = .ok (.iconst 1, 1) := by decide +kernel
theorem dX6_isTalk_10 : decode cX6_isTalk 10 = .ok (.goto 4, 3) := by decide +kernel
theorem dX6_isTalk_13 : decode cX6_isTalk 13 = .ok (.iconst 0, 1) := by decide +kernel
theorem dX6_isTalk_14 : decode cX6_isTalk 14 = .ok (.ireturn, 1) := by decide +kernel
def tbX6_isTalk (pc : Nat) : dt_T := cond (Nat.ble pc 5) (cond (Nat.ble pc 1) (cond (Nat.ble pc 0) (cond (Nat.beq pc 0) (tc_ldI 0 1) tc_no) (cond (Nat.beq pc 1) (tc_iflt 13 4) tc_no)) (cond (Nat.ble pc 4) (cond (Nat.beq pc 4) (tc_ldI 0 5) tc_no) (cond (Nat.beq pc 5) (tc_ic 4 6) tc_no))) (cond (Nat.ble pc 9) (cond (Nat.ble pc 6) (cond (Nat.beq pc 6) (tc_icmpge 13 9) tc_no) (cond (Nat.beq pc 9) (tc_ic 1 10) tc_no)) (cond (Nat.ble pc 10) (cond (Nat.beq pc 10) (tc_goto 14) tc_no) (cond (Nat.ble pc 13) (cond (Nat.beq pc 13) (tc_ic 0 14) tc_no) (cond (Nat.beq pc 14) (tc_zret) tc_no))))
theorem okX6_isTalk : ∀ pc, dt_S mX6_isTalk (tbX6_isTalk pc) pc := by
  intro pc
  unfold tbX6_isTalk
  exact dt_Sb (dt_Sb (dt_Sb (dt_Sl 0 (sn_ldIn rfl dX6_isTalk_0 rfl)) (dt_Sl 1 (sn_iflt dX6_isTalk_1 (by decide) rfl))) (dt_Sb (dt_Sl 4 (sn_ldIn rfl dX6_isTalk_4 rfl)) (dt_Sl 5 (sn_ic ⟨by decide, by decide⟩ dX6_isTalk_5 rfl)))) (dt_Sb (dt_Sb (dt_Sl 6 (sn_icmpge dX6_isTalk_6 (by decide) rfl)) (dt_Sl 9 (sn_ic ⟨by decide, by decide⟩ dX6_isTalk_9 rfl))) (dt_Sb (dt_Sl 10 (sn_goto dX6_isTalk_10 (by decide))) (dt_Sb (dt_Sl 13 (sn_ic ⟨by decide, by decide⟩ dX6_isTalk_13 rfl)) (dt_Sl 14 (sn_zret rfl dX6_isTalk_14)))))
theorem dX6_isPart_0 : decode cX6_isPart 0 = .ok (.iload_n 0, 1) := by decide +kernel
theorem dX6_isPart_1 : decode cX6_isPart 1 = .ok (.ifCond .lt 12, 3) := by decide +kernel
theorem dX6_isPart_4 : decode cX6_isPart 4 = .ok (.iload_n 0, 1) := by decide +kernel
theorem dX6_isPart_5 : decode cX6_isPart 5 = .ok (.iconst 4, 1) := by decide +kernel
theorem dX6_isPart_6 : decode cX6_isPart 6 = .ok (.if_icmp .ge 7, 3) := by decide +kernel
theorem dX6_isPart_9 : decode cX6_isPart 9 = .ok (.iconst 1, 1) := by decide +kernel
theorem dX6_isPart_10 : decode cX6_isPart 10 = .ok (.goto 4, 3) := by decide +kernel
theorem dX6_isPart_13 : decode cX6_isPart 13 = .ok (.iconst 0, 1) := by decide +kernel
theorem dX6_isPart_14 : decode cX6_isPart 14 = .ok (.ireturn, 1) := by decide +kernel
def tbX6_isPart (pc : Nat) : dt_T := cond (Nat.ble pc 5) (cond (Nat.ble pc 1) (cond (Nat.ble pc 0) (cond (Nat.beq pc 0) (tc_ldI 0 1) tc_no) (cond (Nat.beq pc 1) (tc_iflt 13 4) tc_no)) (cond (Nat.ble pc 4) (cond (Nat.beq pc 4) (tc_ldI 0 5) tc_no) (cond (Nat.beq pc 5) (tc_ic 4 6) tc_no))) (cond (Nat.ble pc 9) (cond (Nat.ble pc 6) (cond (Nat.beq pc 6) (tc_icmpge 13 9) tc_no) (cond (Nat.beq pc 9) (tc_ic 1 10) tc_no)) (cond (Nat.ble pc 10) (cond (Nat.beq pc 10) (tc_goto 14) tc_no) (cond (Nat.ble pc 13) (cond (Nat.beq pc 13) (tc_ic 0 14) tc_no) (cond (Nat.beq pc 14) (tc_zret) tc_no))))
theorem okX6_isPart : ∀ pc, dt_S mX6_isPart (tbX6_isPart pc) pc := by
  intro pc
  unfold tbX6_isPart
  exact dt_Sb (dt_Sb (dt_Sb (dt_Sl 0 (sn_ldIn rfl dX6_isPart_0 rfl)) (dt_Sl 1 (sn_iflt dX6_isPart_1 (by decide) rfl))) (dt_Sb (dt_Sl 4 (sn_ldIn rfl dX6_isPart_4 rfl)) (dt_Sl 5 (sn_ic ⟨by decide, by decide⟩ dX6_isPart_5 rfl)))) (dt_Sb (dt_Sb (dt_Sl 6 (sn_icmpge dX6_isPart_6 (by decide) rfl)) (dt_Sl 9 (sn_ic ⟨by decide, by decide⟩ dX6_isPart_9 rfl))) (dt_Sb (dt_Sl 10 (sn_goto dX6_isPart_10 (by decide))) (dt_Sb (dt_Sl 13 (sn_ic ⟨by decide, by decide⟩ dX6_isPart_13 rfl)) (dt_Sl 14 (sn_zret rfl dX6_isPart_14)))))
theorem dX6_isWay_0 : decode cX6_isWay 0 = .ok (.iload_n 0, 1) := by decide +kernel
theorem dX6_isWay_1 : decode cX6_isWay 1 = .ok (.ifCond .lt 12, 3) := by decide +kernel
theorem dX6_isWay_4 : decode cX6_isWay 4 = .ok (.iload_n 0, 1) := by decide +kernel
theorem dX6_isWay_5 : decode cX6_isWay 5 = .ok (.iconst 2, 1) := by decide +kernel
theorem dX6_isWay_6 : decode cX6_isWay 6 = .ok (.if_icmp .gt 7, 3) := by decide +kernel
theorem dX6_isWay_9 : decode cX6_isWay 9 = .ok (.iconst 1, 1) := by decide +kernel
theorem dX6_isWay_10 : decode cX6_isWay 10 = .ok (.goto 4, 3) := by decide +kernel
theorem dX6_isWay_13 : decode cX6_isWay 13 = .ok (.iconst 0, 1) := by decide +kernel
theorem dX6_isWay_14 : decode cX6_isWay 14 = .ok (.ireturn, 1) := by decide +kernel
def tbX6_isWay (pc : Nat) : dt_T := cond (Nat.ble pc 5) (cond (Nat.ble pc 1) (cond (Nat.ble pc 0) (cond (Nat.beq pc 0) (tc_ldI 0 1) tc_no) (cond (Nat.beq pc 1) (tc_iflt 13 4) tc_no)) (cond (Nat.ble pc 4) (cond (Nat.beq pc 4) (tc_ldI 0 5) tc_no) (cond (Nat.beq pc 5) (tc_ic 2 6) tc_no))) (cond (Nat.ble pc 9) (cond (Nat.ble pc 6) (cond (Nat.beq pc 6) (tc_icmpgt 13 9) tc_no) (cond (Nat.beq pc 9) (tc_ic 1 10) tc_no)) (cond (Nat.ble pc 10) (cond (Nat.beq pc 10) (tc_goto 14) tc_no) (cond (Nat.ble pc 13) (cond (Nat.beq pc 13) (tc_ic 0 14) tc_no) (cond (Nat.beq pc 14) (tc_zret) tc_no))))
theorem okX6_isWay : ∀ pc, dt_S mX6_isWay (tbX6_isWay pc) pc := by
  intro pc
  unfold tbX6_isWay
  exact dt_Sb (dt_Sb (dt_Sb (dt_Sl 0 (sn_ldIn rfl dX6_isWay_0 rfl)) (dt_Sl 1 (sn_iflt dX6_isWay_1 (by decide) rfl))) (dt_Sb (dt_Sl 4 (sn_ldIn rfl dX6_isWay_4 rfl)) (dt_Sl 5 (sn_ic ⟨by decide, by decide⟩ dX6_isWay_5 rfl)))) (dt_Sb (dt_Sb (dt_Sl 6 (sn_icmpgt dX6_isWay_6 (by decide) rfl)) (dt_Sl 9 (sn_ic ⟨by decide, by decide⟩ dX6_isWay_9 rfl))) (dt_Sb (dt_Sl 10 (sn_goto dX6_isWay_10 (by decide))) (dt_Sb (dt_Sl 13 (sn_ic ⟨by decide, by decide⟩ dX6_isWay_13 rfl)) (dt_Sl 14 (sn_zret rfl dX6_isWay_14)))))
theorem dX6_isMix_0 : decode cX6_isMix 0 = .ok (.iload_n 0, 1) := by decide +kernel
theorem dX6_isMix_1 : decode cX6_isMix 1 = .ok (.ifCond .lt 14, 3) := by decide +kernel
theorem dX6_isMix_4 : decode cX6_isMix 4 = .ok (.iload_n 0, 1) := by decide +kernel
theorem dX6_isMix_5 : decode cX6_isMix 5 = .ok (.sipush 256, 3) := by decide +kernel
theorem dX6_isMix_8 : decode cX6_isMix 8 = .ok (.if_icmp .ge 7, 3) := by decide +kernel
theorem dX6_isMix_11 : decode cX6_isMix 11 = .ok (.iconst 1, 1) := by decide +kernel
theorem dX6_isMix_12 : decode cX6_isMix 12 = .ok (.goto 4, 3) := by decide +kernel
theorem dX6_isMix_15 : decode cX6_isMix 15 = .ok (.iconst 0, 1) := by decide +kernel
theorem dX6_isMix_16 : decode cX6_isMix 16 = .ok (.ireturn, 1) := by decide +kernel
def tbX6_isMix (pc : Nat) : dt_T := cond (Nat.ble pc 5) (cond (Nat.ble pc 1) (cond (Nat.ble pc 0) (cond (Nat.beq pc 0) (tc_ldI 0 1) tc_no) (cond (Nat.beq pc 1) (tc_iflt 15 4) tc_no)) (cond (Nat.ble pc 4) (cond (Nat.beq pc 4) (tc_ldI 0 5) tc_no) (cond (Nat.beq pc 5) (tc_ic 256 8) tc_no))) (cond (Nat.ble pc 11) (cond (Nat.ble pc 8) (cond (Nat.beq pc 8) (tc_icmpge 15 11) tc_no) (cond (Nat.beq pc 11) (tc_ic 1 12) tc_no)) (cond (Nat.ble pc 12) (cond (Nat.beq pc 12) (tc_goto 16) tc_no) (cond (Nat.ble pc 15) (cond (Nat.beq pc 15) (tc_ic 0 16) tc_no) (cond (Nat.beq pc 16) (tc_zret) tc_no))))
theorem okX6_isMix : ∀ pc, dt_S mX6_isMix (tbX6_isMix pc) pc := by
  intro pc
  unfold tbX6_isMix
  exact dt_Sb (dt_Sb (dt_Sb (dt_Sl 0 (sn_ldIn rfl dX6_isMix_0 rfl)) (dt_Sl 1 (sn_iflt dX6_isMix_1 (by decide) rfl))) (dt_Sb (dt_Sl 4 (sn_ldIn rfl dX6_isMix_4 rfl)) (dt_Sl 5 (sn_si ⟨by decide, by decide⟩ rfl dX6_isMix_5 rfl)))) (dt_Sb (dt_Sb (dt_Sl 8 (sn_icmpge dX6_isMix_8 (by decide) rfl)) (dt_Sl 11 (sn_ic ⟨by decide, by decide⟩ dX6_isMix_11 rfl))) (dt_Sb (dt_Sl 12 (sn_goto dX6_isMix_12 (by decide))) (dt_Sb (dt_Sl 15 (sn_ic ⟨by decide, by decide⟩ dX6_isMix_15 rfl)) (dt_Sl 16 (sn_zret rfl dX6_isMix_16)))))
theorem dX6_isSet_0 : decode cX6_isSet 0 = .ok (.iload_n 0, 1) := by decide +kernel
theorem dX6_isSet_1 : decode cX6_isSet 1 = .ok (.iconst 1, 1) := by decide +kernel
theorem dX6_isSet_2 : decode cX6_isSet 2 = .ok (.if_icmp .lt 13, 3) := by decide +kernel
theorem dX6_isSet_5 : decode cX6_isSet 5 = .ok (.iload_n 0, 1) := by decide +kernel
theorem dX6_isSet_6 : decode cX6_isSet 6 = .ok (.bipush 16, 2) := by decide +kernel
theorem dX6_isSet_8 : decode cX6_isSet 8 = .ok (.if_icmp .ge 7, 3) := by decide +kernel
theorem dX6_isSet_11 : decode cX6_isSet 11 = .ok (.iconst 1, 1) := by decide +kernel
theorem dX6_isSet_12 : decode cX6_isSet 12 = .ok (.goto 4, 3) := by decide +kernel
theorem dX6_isSet_15 : decode cX6_isSet 15 = .ok (.iconst 0, 1) := by decide +kernel
theorem dX6_isSet_16 : decode cX6_isSet 16 = .ok (.ireturn, 1) := by decide +kernel
def tbX6_isSet (pc : Nat) : dt_T := cond (Nat.ble pc 6) (cond (Nat.ble pc 1) (cond (Nat.ble pc 0) (cond (Nat.beq pc 0) (tc_ldI 0 1) tc_no) (cond (Nat.beq pc 1) (tc_ic 1 2) tc_no)) (cond (Nat.ble pc 2) (cond (Nat.beq pc 2) (tc_icmplt 15 5) tc_no) (cond (Nat.ble pc 5) (cond (Nat.beq pc 5) (tc_ldI 0 6) tc_no) (cond (Nat.beq pc 6) (tc_ic 16 8) tc_no)))) (cond (Nat.ble pc 11) (cond (Nat.ble pc 8) (cond (Nat.beq pc 8) (tc_icmpge 15 11) tc_no) (cond (Nat.beq pc 11) (tc_ic 1 12) tc_no)) (cond (Nat.ble pc 12) (cond (Nat.beq pc 12) (tc_goto 16) tc_no) (cond (Nat.ble pc 15) (cond (Nat.beq pc 15) (tc_ic 0 16) tc_no) (cond (Nat.beq pc 16) (tc_zret) tc_no))))
theorem okX6_isSet : ∀ pc, dt_S mX6_isSet (tbX6_isSet pc) pc := by
  intro pc
  unfold tbX6_isSet
  exact dt_Sb (dt_Sb (dt_Sb (dt_Sl 0 (sn_ldIn rfl dX6_isSet_0 rfl)) (dt_Sl 1 (sn_ic ⟨by decide, by decide⟩ dX6_isSet_1 rfl))) (dt_Sb (dt_Sl 2 (sn_icmplt dX6_isSet_2 (by decide) rfl)) (dt_Sb (dt_Sl 5 (sn_ldIn rfl dX6_isSet_5 rfl)) (dt_Sl 6 (sn_bi ⟨by decide, by decide⟩ rfl dX6_isSet_6 rfl))))) (dt_Sb (dt_Sb (dt_Sl 8 (sn_icmpge dX6_isSet_8 (by decide) rfl)) (dt_Sl 11 (sn_ic ⟨by decide, by decide⟩ dX6_isSet_11 rfl))) (dt_Sb (dt_Sl 12 (sn_goto dX6_isSet_12 (by decide))) (dt_Sb (dt_Sl 15 (sn_ic ⟨by decide, by decide⟩ dX6_isSet_15 rfl)) (dt_Sl 16 (sn_zret rfl dX6_isSet_16)))))
theorem dX6_asNumber_0 : decode cX6_asNumber 0 = .ok (.iload_n 0, 1) := by decide +kernel
theorem dX6_asNumber_1 : decode cX6_asNumber 1 = .ok (.ifCond .eq 7, 3) := by decide +kernel
theorem dX6_asNumber_4 : decode cX6_asNumber 4 = .ok (.iconst 1, 1) := by decide +kernel
theorem dX6_asNumber_5 : decode cX6_asNumber 5 = .ok (.goto 4, 3) := by decide +kernel
theorem dX6_asNumber_8 : decode cX6_asNumber 8 = .ok (.iconst 0, 1) := by decide +kernel
theorem dX6_asNumber_9 : decode cX6_asNumber 9 = .ok (.ireturn, 1) := by decide +kernel
def tbX6_asNumber (pc : Nat) : dt_T := cond (Nat.ble pc 4) (cond (Nat.ble pc 0) (cond (Nat.beq pc 0) (tc_ldI 0 1) tc_no) (cond (Nat.ble pc 1) (cond (Nat.beq pc 1) (tc_ifeq 8 4) tc_no) (cond (Nat.beq pc 4) (tc_ic 1 5) tc_no))) (cond (Nat.ble pc 5) (cond (Nat.beq pc 5) (tc_goto 9) tc_no) (cond (Nat.ble pc 8) (cond (Nat.beq pc 8) (tc_ic 0 9) tc_no) (cond (Nat.beq pc 9) (tc_iret) tc_no)))
theorem okX6_asNumber : ∀ pc, dt_S mX6_asNumber (tbX6_asNumber pc) pc := by
  intro pc
  unfold tbX6_asNumber
  exact dt_Sb (dt_Sb (dt_Sl 0 (sn_ldIn rfl dX6_asNumber_0 rfl)) (dt_Sb (dt_Sl 1 (sn_ifeq dX6_asNumber_1 (by decide) rfl)) (dt_Sl 4 (sn_ic ⟨by decide, by decide⟩ dX6_asNumber_4 rfl)))) (dt_Sb (dt_Sl 5 (sn_goto dX6_asNumber_5 (by decide))) (dt_Sb (dt_Sl 8 (sn_ic ⟨by decide, by decide⟩ dX6_asNumber_8 rfl)) (dt_Sl 9 (sn_iret rfl dX6_asNumber_9))))
theorem dX6_choice_0 : decode cX6_choice 0 = .ok (.iload_n 0, 1) := by decide +kernel
theorem dX6_choice_1 : decode cX6_choice 1 = .ok (.iconst 2, 1) := by decide +kernel
theorem dX6_choice_2 : decode cX6_choice 2 = .ok (.iconst 3, 1) := by decide +kernel
theorem dX6_choice_3 : decode cX6_choice 3 = .ok (.iload_n 1, 1) := by decide +kernel
theorem dX6_choice_4 : decode cX6_choice 4 = .ok (.isub, 1) := by decide +kernel
theorem dX6_choice_5 : decode cX6_choice 5 = .ok (.imul, 1) := by decide +kernel
theorem dX6_choice_6 : decode cX6_choice 6 = .ok (.ishr, 1) := by decide +kernel
theorem dX6_choice_7 : decode cX6_choice 7 = .ok (.iconst 3, 1) := by decide +kernel
theorem dX6_choice_8 : decode cX6_choice 8 = .ok (.iand, 1) := by decide +kernel
theorem dX6_choice_9 : decode cX6_choice 9 = .ok (.ireturn, 1) := by decide +kernel
def tbX6_choice (pc : Nat) : dt_T := cond (Nat.ble pc 4) (cond (Nat.ble pc 1) (cond (Nat.ble pc 0) (cond (Nat.beq pc 0) (tc_ldI 0 1) tc_no) (cond (Nat.beq pc 1) (tc_ic 2 2) tc_no)) (cond (Nat.ble pc 2) (cond (Nat.beq pc 2) (tc_ic 3 3) tc_no) (cond (Nat.ble pc 3) (cond (Nat.beq pc 3) (tc_ldI 1 4) tc_no) (cond (Nat.beq pc 4) (tc_isub 5) tc_no)))) (cond (Nat.ble pc 6) (cond (Nat.ble pc 5) (cond (Nat.beq pc 5) (tc_imul 6) tc_no) (cond (Nat.beq pc 6) (tc_ishr 7) tc_no)) (cond (Nat.ble pc 7) (cond (Nat.beq pc 7) (tc_ic 3 8) tc_no) (cond (Nat.ble pc 8) (cond (Nat.beq pc 8) (tc_iand 9) tc_no) (cond (Nat.beq pc 9) (tc_iret) tc_no))))
theorem okX6_choice : ∀ pc, dt_S mX6_choice (tbX6_choice pc) pc := by
  intro pc
  unfold tbX6_choice
  exact dt_Sb (dt_Sb (dt_Sb (dt_Sl 0 (sn_ldIn rfl dX6_choice_0 rfl)) (dt_Sl 1 (sn_ic ⟨by decide, by decide⟩ dX6_choice_1 rfl))) (dt_Sb (dt_Sl 2 (sn_ic ⟨by decide, by decide⟩ dX6_choice_2 rfl)) (dt_Sb (dt_Sl 3 (sn_ldIn rfl dX6_choice_3 rfl)) (dt_Sl 4 (sn_isub dX6_choice_4 rfl))))) (dt_Sb (dt_Sb (dt_Sl 5 (sn_imul dX6_choice_5 rfl)) (dt_Sl 6 (sn_ishr dX6_choice_6 rfl))) (dt_Sb (dt_Sl 7 (sn_ic ⟨by decide, by decide⟩ dX6_choice_7 rfl)) (dt_Sb (dt_Sl 8 (sn_iand dX6_choice_8 rfl)) (dt_Sl 9 (sn_iret rfl dX6_choice_9)))))
