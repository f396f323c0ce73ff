/-! ===== DrawnTalksModel: decode rows, step tables ===== -/
theorem dX7_in_0 : decode cX7_in 0 = .ok (.lload_n 0, 1) := by decide +kernel
theorem dX7_in_1 : decode cX7_in 1 = .ok (.lload_n 2, 1) := by decide +kernel
theorem dX7_in_2 : decode cX7_in 2 = .ok (.lcmp, 1) := by decide +kernel
theorem dX7_in_3 : decode cX7_in 3 = .ok (.ifCond .lt 14, 3) := by decide +kernel
theorem dX7_in_6 : decode cX7_in 6 = .ok (.lload_n 0, 1) := by decide +kernel
theorem dX7_in_7 : decode cX7_in 7 = .ok (.lload 4, 2) := by decide +kernel
theorem dX7_in_9 : decode cX7_in 9 = .ok (.lcmp, 1) := by decide +kernel
theorem dX7_in_10 : decode cX7_in 10 = .ok (.ifCond .gt 7, 3) := by decide +kernel
theorem dX7_in_13 : decode cX7_in 13 = .ok (.iconst 1, 1) := by decide +kernel
theorem dX7_in_14 : decode cX7_in 14 = .ok (.goto 4, 3) := by decide +kernel
theorem dX7_in_17 : decode cX7_in 17 = .ok (.iconst 0, 1) := by decide +kernel
theorem dX7_in_18 : decode cX7_in 18 = .ok (.ireturn, 1) := by decide +kernel
def tbX7_in (pc : Nat) : dt_T := cond (Nat.ble pc 7) (cond (Nat.ble pc 2) (cond (Nat.ble pc 0) (cond (Nat.beq pc 0) (tc_ldL 0 1) tc_no) (cond (Nat.ble pc 1) (cond (Nat.beq pc 1) (tc_ldL 2 2) tc_no) (cond (Nat.beq pc 2) (tc_lcmp 3) tc_no))) (cond (Nat.ble pc 3) (cond (Nat.beq pc 3) (tc_iflt 17 6) tc_no) (cond (Nat.ble pc 6) (cond (Nat.beq pc 6) (tc_ldL 0 7) tc_no) (cond (Nat.beq pc 7) (tc_ldL 4 9) tc_no)))) (cond (Nat.ble pc 13) (cond (Nat.ble pc 9) (cond (Nat.beq pc 9) (tc_lcmp 10) tc_no) (cond (Nat.ble pc 10) (cond (Nat.beq pc 10) (tc_ifgt 17 13) tc_no) (cond (Nat.beq pc 13) (tc_ic 1 14) tc_no))) (cond (Nat.ble pc 14) (cond (Nat.beq pc 14) (tc_goto 18) tc_no) (cond (Nat.ble pc 17) (cond (Nat.beq pc 17) (tc_ic 0 18) tc_no) (cond (Nat.beq pc 18) (tc_zret) tc_no))))
theorem okX7_in : ∀ pc, dt_S mX7_in (tbX7_in pc) pc := by
  intro pc
  unfold tbX7_in
  exact dt_Sb (dt_Sb (dt_Sb (dt_Sl 0 (sn_ldLn rfl dX7_in_0 rfl)) (dt_Sb (dt_Sl 1 (sn_ldLn rfl dX7_in_1 rfl)) (dt_Sl 2 (sn_lcmp dX7_in_2 rfl)))) (dt_Sb (dt_Sl 3 (sn_iflt dX7_in_3 (by decide) rfl)) (dt_Sb (dt_Sl 6 (sn_ldLn rfl dX7_in_6 rfl)) (dt_Sl 7 (sn_ldL dX7_in_7 rfl))))) (dt_Sb (dt_Sb (dt_Sl 9 (sn_lcmp dX7_in_9 rfl)) (dt_Sb (dt_Sl 10 (sn_ifgt dX7_in_10 (by decide) rfl)) (dt_Sl 13 (sn_ic ⟨by decide, by decide⟩ dX7_in_13 rfl)))) (dt_Sb (dt_Sl 14 (sn_goto dX7_in_14 (by decide))) (dt_Sb (dt_Sl 17 (sn_ic ⟨by decide, by decide⟩ dX7_in_17 rfl)) (dt_Sl 18 (sn_zret rfl dX7_in_18)))))
theorem dX7_hasBit_0 : decode cX7_hasBit 0 = .ok (.iload_n 0, 1) := by decide +kernel
theorem dX7_hasBit_1 : decode cX7_hasBit 1 = .ok (.iload_n 1, 1) := by decide +kernel
theorem dX7_hasBit_2 : decode cX7_hasBit 2 = .ok (.ishr, 1) := by decide +kernel
theorem dX7_hasBit_3 : decode cX7_hasBit 3 = .ok (.iconst 1, 1) := by decide +kernel
theorem dX7_hasBit_4 : decode cX7_hasBit 4 = .ok (.iand, 1) := by decide +kernel
theorem dX7_hasBit_5 : decode cX7_hasBit 5 = .ok (.iconst 1, 1) := by decide +kernel
theorem dX7_hasBit_6 : decode cX7_hasBit 6 = .ok (.if_icmp .ne 7, 3) := by decide +kernel
theorem dX7_hasBit_9 : decode cX7_hasBit 9 = .ok (.iconst 1, 1) := by decide +kernel
theorem dX7_hasBit_10 : decode cX7_hasBit 10 = .ok (.goto 4, 3) := by decide +kernel
theorem dX7_hasBit_13 : decode cX7_hasBit 13 = .ok (.iconst 0, 1) := by decide +kernel
theorem dX7_hasBit_14 : decode cX7_hasBit 14 = .ok (.ireturn, 1) := by decide +kernel
def tbX7_hasBit (pc : Nat) : dt_T := cond (Nat.ble pc 4) (cond (Nat.ble pc 1) (cond (Nat.ble pc 0) (cond (Nat.beq pc 0) (tc_ldI 0 1) tc_no) (cond (Nat.beq pc 1) (tc_ldI 1 2) tc_no)) (cond (Nat.ble pc 2) (cond (Nat.beq pc 2) (tc_ishr 3) tc_no) (cond (Nat.ble pc 3) (cond (Nat.beq pc 3) (tc_ic 1 4) tc_no) (cond (Nat.beq pc 4) (tc_iand 5) tc_no)))) (cond (Nat.ble pc 9) (cond (Nat.ble pc 5) (cond (Nat.beq pc 5) (tc_ic 1 6) tc_no) (cond (Nat.ble pc 6) (cond (Nat.beq pc 6) (tc_icmpne 13 9) tc_no) (cond (Nat.beq pc 9) (tc_ic 1 10) tc_no))) (cond (Nat.ble pc 10) (cond (Nat.beq pc 10) (tc_goto 14) tc_no) (cond (Nat.ble pc 13) (cond (Nat.beq pc 13) (tc_ic 0 14) tc_no) (cond (Nat.beq pc 14) (tc_zret) tc_no))))
theorem okX7_hasBit : ∀ pc, dt_S mX7_hasBit (tbX7_hasBit pc) pc := by
  intro pc
  unfold tbX7_hasBit
  exact dt_Sb (dt_Sb (dt_Sb (dt_Sl 0 (sn_ldIn rfl dX7_hasBit_0 rfl)) (dt_Sl 1 (sn_ldIn rfl dX7_hasBit_1 rfl))) (dt_Sb (dt_Sl 2 (sn_ishr dX7_hasBit_2 rfl)) (dt_Sb (dt_Sl 3 (sn_ic ⟨by decide, by decide⟩ dX7_hasBit_3 rfl)) (dt_Sl 4 (sn_iand dX7_hasBit_4 rfl))))) (dt_Sb (dt_Sb (dt_Sl 5 (sn_ic ⟨by decide, by decide⟩ dX7_hasBit_5 rfl)) (dt_Sb (dt_Sl 6 (sn_icmpne dX7_hasBit_6 (by decide) rfl)) (dt_Sl 9 (sn_ic ⟨by decide, by decide⟩ dX7_hasBit_9 rfl)))) (dt_Sb (dt_Sl 10 (sn_goto dX7_hasBit_10 (by decide))) (dt_Sb (dt_Sl 13 (sn_ic ⟨by decide, by decide⟩ dX7_hasBit_13 rfl)) (dt_Sl 14 (sn_zret rfl dX7_hasBit_14)))))
theorem dX7_noTalk_0 : decode cX7_noTalk 0 = .ok (.iload_n 0, 1) := by decide +kernel
theorem dX7_noTalk_1 : decode cX7_noTalk 1 = .ok (.i2l, 1) := by decide +kernel
theorem dX7_noTalk_2 : decode cX7_noTalk 2 = .ok (.lconst 0, 1) := by decide +kernel
theorem dX7_noTalk_3 : decode cX7_noTalk 3 = .ok (.ldc2_w 81, 3) := by decide +kernel
theorem dX7_noTalk_6 : decode cX7_noTalk 6 = .ok (.invokestatic 83, 3) := by decide +kernel
theorem dX7_noTalk_9 : decode cX7_noTalk 9 = .ok (.ifCond .ne 7, 3) := by decide +kernel
theorem dX7_noTalk_12 : decode cX7_noTalk 12 = .ok (.iconst 1, 1) := by decide +kernel
theorem dX7_noTalk_13 : decode cX7_noTalk 13 = .ok (.goto 4, 3) := by decide +kernel
theorem dX7_noTalk_16 : decode cX7_noTalk 16 = .ok (.iconst 0, 1) := by decide +kernel
theorem dX7_noTalk_17 : decode cX7_noTalk 17 = .ok (.ireturn, 1) := by decide +kernel
def tbX7_noTalk (pc : Nat) : dt_T := cond (Nat.ble pc 6) (cond (Nat.ble pc 1) (cond (Nat.ble pc 0) (cond (Nat.beq pc 0) (tc_ldI 0 1) tc_no) (cond (Nat.beq pc 1) (tc_i2l 2) tc_no)) (cond (Nat.ble pc 2) (cond (Nat.beq pc 2) (tc_lc 0 3) tc_no) (cond (Nat.ble pc 3) (cond (Nat.beq pc 3) (tc_lc 3 6) tc_no) (cond (Nat.beq pc 6) (tc_callS mX7_in 3 9) tc_no)))) (cond (Nat.ble pc 12) (cond (Nat.ble pc 9) (cond (Nat.beq pc 9) (tc_ifne 16 12) tc_no) (cond (Nat.beq pc 12) (tc_ic 1 13) tc_no)) (cond (Nat.ble pc 13) (cond (Nat.beq pc 13) (tc_goto 17) tc_no) (cond (Nat.ble pc 16) (cond (Nat.beq pc 16) (tc_ic 0 17) tc_no) (cond (Nat.beq pc 17) (tc_zret) tc_no))))
theorem okX7_noTalk : ∀ pc, dt_S mX7_noTalk (tbX7_noTalk pc) pc := by
  intro pc
  unfold tbX7_noTalk
  exact dt_Sb (dt_Sb (dt_Sb (dt_Sl 0 (sn_ldIn rfl dX7_noTalk_0 rfl)) (dt_Sl 1 (sn_i2l dX7_noTalk_1 rfl))) (dt_Sb (dt_Sl 2 (sn_lc (k := 0) ⟨by decide, by decide⟩ rfl dX7_noTalk_2 rfl)) (dt_Sb (dt_Sl 3 (sn_ldc2 rfl ⟨by decide, by decide⟩ wq_4_23 dX7_noTalk_3 rfl)) (dt_Sl 6 (sn_callS rfl nnX7_in wq_4_8 wq_4_9 dX7_noTalk_6 rfl))))) (dt_Sb (dt_Sb (dt_Sl 9 (sn_ifne dX7_noTalk_9 (by decide) rfl)) (dt_Sl 12 (sn_ic ⟨by decide, by decide⟩ dX7_noTalk_12 rfl))) (dt_Sb (dt_Sl 13 (sn_goto dX7_noTalk_13 (by decide))) (dt_Sb (dt_Sl 16 (sn_ic ⟨by decide, by decide⟩ dX7_noTalk_16 rfl)) (dt_Sl 17 (sn_zret rfl dX7_noTalk_17)))))
theorem dX7_type_0 : decode cX7_type 0 = .ok (.iload_n 3, 1) := by decide +kernel
theorem dX7_type_1 : decode cX7_type 1 = .ok (.i2l, 1) := by decide +kernel
theorem dX7_type_2 : decode cX7_type 2 = .ok (.lconst 1, 1) := by decide +kernel
theorem dX7_type_3 : decode cX7_type 3 = .ok (.ldc2_w 87, 3) := by decide +kernel
theorem dX7_type_6 : decode cX7_type 6 = .ok (.invokestatic 83, 3) := by decide +kernel
theorem dX7_type_9 : decode cX7_type 9 = .ok (.ifCond .ne 5, 3) := by decide +kernel
theorem dX7_type_12 : decode cX7_type 12 = .ok (.iconst (-1), 1) := by decide +kernel
theorem dX7_type_13 : decode cX7_type 13 = .ok (.ireturn, 1) := by decide +kernel
theorem dX7_type_14 : decode cX7_type 14 = .ok (.aload_n 0, 1) := by decide +kernel
theorem dX7_type_15 : decode cX7_type 15 = .ok (.getfield 89, 3) := by decide +kernel
theorem dX7_type_18 : decode cX7_type 18 = .ok (.iload_n 3, 1) := by decide +kernel
theorem dX7_type_19 : decode cX7_type 19 = .ok (.iadd, 1) := by decide +kernel
theorem dX7_type_20 : decode cX7_type 20 = .ok (.sipush 300, 3) := by decide +kernel
theorem dX7_type_23 : decode cX7_type 23 = .ok (.if_icmp .le 6, 3) := by decide +kernel
theorem dX7_type_26 : decode cX7_type 26 = .ok (.bipush (-3), 2) := by decide +kernel
theorem dX7_type_28 : decode cX7_type 28 = .ok (.ireturn, 1) := by decide +kernel
theorem dX7_type_29 : decode cX7_type 29 = .ok (.iload_n 3, 1) := by decide +kernel
theorem dX7_type_30 : decode cX7_type 30 = .ok (.iconst 1, 1) := by decide +kernel
theorem dX7_type_31 : decode cX7_type 31 = .ok (.isub, 1) := by decide +kernel
theorem dX7_type_32 : decode cX7_type 32 = .ok (.istore 4, 2) := by decide +kernel
theorem dX7_type_34 : decode cX7_type 34 = .ok (.iload 4, 2) := by decide +kernel
theorem dX7_type_36 : decode cX7_type 36 = .ok (.ifCond .lt 40, 3) := by decide +kernel
theorem dX7_type_39 : decode cX7_type 39 = .ok (.aload_n 0, 1) := by decide +kernel
theorem dX7_type_40 : decode cX7_type 40 = .ok (.getfield 35, 3) := by decide +kernel
theorem dX7_type_43 : decode cX7_type 43 = .ok (.aload_n 0, 1) := by decide +kernel
theorem dX7_type_44 : decode cX7_type 44 = .ok (.getfield 89, 3) := by decide +kernel
theorem dX7_type_47 : decode cX7_type 47 = .ok (.lload_n 1, 1) := by decide +kernel
theorem dX7_type_48 : decode cX7_type 48 = .ok (.bipush 8, 2) := by decide +kernel
theorem dX7_type_50 : decode cX7_type 50 = .ok (.iload 4, 2) := by decide +kernel
theorem dX7_type_52 : decode cX7_type 52 = .ok (.imul, 1) := by decide +kernel
theorem dX7_type_53 : decode cX7_type 53 = .ok (.lshr, 1) := by decide +kernel
theorem dX7_type_54 : decode cX7_type 54 = .ok (.ldc2_w 93, 3) := by decide +kernel
theorem dX7_type_57 : decode cX7_type 57 = .ok (.land, 1) := by decide +kernel
theorem dX7_type_58 : decode cX7_type 58 = .ok (.l2i, 1) := by decide +kernel
theorem dX7_type_59 : decode cX7_type 59 = .ok (.iastore, 1) := by decide +kernel
theorem dX7_type_60 : decode cX7_type 60 = .ok (.aload_n 0, 1) := by decide +kernel
theorem dX7_type_61 : decode cX7_type 61 = .ok (.dup, 1) := by decide +kernel
theorem dX7_type_62 : decode cX7_type 62 = .ok (.getfield 89, 3) := by decide +kernel
theorem dX7_type_65 : decode cX7_type 65 = .ok (.iconst 1, 1) := by decide +kernel
theorem dX7_type_66 : decode cX7_type 66 = .ok (.iadd, 1) := by decide +kernel
theorem dX7_type_67 : decode cX7_type 67 = .ok (.putfield 89, 3) := by decide +kernel
theorem dX7_type_70 : decode cX7_type 70 = .ok (.iinc 4 (-1), 3) := by decide +kernel
theorem dX7_type_73 : decode cX7_type 73 = .ok (.goto (-39), 3) := by decide +kernel
theorem dX7_type_76 : decode cX7_type 76 = .ok (.aload_n 0, 1) := by decide +kernel
theorem dX7_type_77 : decode cX7_type 77 = .ok (.getfield 89, 3) := by decide +kernel
theorem dX7_type_80 : decode cX7_type 80 = .ok (.ireturn, 1) := by decide +kernel
def tbX7_type (pc : Nat) : dt_T := cond (Nat.ble pc 39) (cond (Nat.ble pc 18) (cond (Nat.ble pc 6) (cond (Nat.ble pc 1) (cond (Nat.ble pc 0) (cond (Nat.beq pc 0) (tc_ldI 3 1) tc_no) (cond (Nat.beq pc 1) (tc_i2l 2) tc_no)) (cond (Nat.ble pc 2) (cond (Nat.beq pc 2) (tc_lc 1 3) tc_no) (cond (Nat.ble pc 3) (cond (Nat.beq pc 3) (tc_lc 8 6) tc_no) (cond (Nat.beq pc 6) (tc_callS mX7_in 3 9) tc_no)))) (cond (Nat.ble pc 13) (cond (Nat.ble pc 9) (cond (Nat.beq pc 9) (tc_ifne 14 12) tc_no) (cond (Nat.ble pc 12) (cond (Nat.beq pc 12) (tc_ic (-1) 13) tc_no) (cond (Nat.beq pc 13) (tc_iret) tc_no))) (cond (Nat.ble pc 14) (cond (Nat.beq pc 14) (tc_ldA 0 15) tc_no) (cond (Nat.ble pc 15) (cond (Nat.beq pc 15) (tc_getf 7 8 18) tc_no) (cond (Nat.beq pc 18) (tc_ldI 3 19) tc_no))))) (cond (Nat.ble pc 29) (cond (Nat.ble pc 23) (cond (Nat.ble pc 19) (cond (Nat.beq pc 19) (tc_iadd 20) tc_no) (cond (Nat.ble pc 20) (cond (Nat.beq pc 20) (tc_ic 300 23) tc_no) (cond (Nat.beq pc 23) (tc_icmple 29 26) tc_no))) (cond (Nat.ble pc 26) (cond (Nat.beq pc 26) (tc_ic (-3) 28) tc_no) (cond (Nat.ble pc 28) (cond (Nat.beq pc 28) (tc_iret) tc_no) (cond (Nat.beq pc 29) (tc_ldI 3 30) tc_no)))) (cond (Nat.ble pc 32) (cond (Nat.ble pc 30) (cond (Nat.beq pc 30) (tc_ic 1 31) tc_no) (cond (Nat.ble pc 31) (cond (Nat.beq pc 31) (tc_isub 32) tc_no) (cond (Nat.beq pc 32) (tc_stI 4 34) tc_no))) (cond (Nat.ble pc 34) (cond (Nat.beq pc 34) (tc_ldI 4 36) tc_no) (cond (Nat.ble pc 36) (cond (Nat.beq pc 36) (tc_iflt 76 39) tc_no) (cond (Nat.beq pc 39) (tc_ldA 0 40) tc_no)))))) (cond (Nat.ble pc 58) (cond (Nat.ble pc 48) (cond (Nat.ble pc 43) (cond (Nat.ble pc 40) (cond (Nat.beq pc 40) (tc_getf 7 9 43) tc_no) (cond (Nat.beq pc 43) (tc_ldA 0 44) tc_no)) (cond (Nat.ble pc 44) (cond (Nat.beq pc 44) (tc_getf 7 8 47) tc_no) (cond (Nat.ble pc 47) (cond (Nat.beq pc 47) (tc_ldL 1 48) tc_no) (cond (Nat.beq pc 48) (tc_ic 8 50) tc_no)))) (cond (Nat.ble pc 53) (cond (Nat.ble pc 50) (cond (Nat.beq pc 50) (tc_ldI 4 52) tc_no) (cond (Nat.ble pc 52) (cond (Nat.beq pc 52) (tc_imul 53) tc_no) (cond (Nat.beq pc 53) (tc_lshr 54) tc_no))) (cond (Nat.ble pc 54) (cond (Nat.beq pc 54) (tc_lc 255 57) tc_no) (cond (Nat.ble pc 57) (cond (Nat.beq pc 57) (tc_land 58) tc_no) (cond (Nat.beq pc 58) (tc_l2i 59) tc_no))))) (cond (Nat.ble pc 66) (cond (Nat.ble pc 61) (cond (Nat.ble pc 59) (cond (Nat.beq pc 59) (tc_iast 60) tc_no) (cond (Nat.ble pc 60) (cond (Nat.beq pc 60) (tc_ldA 0 61) tc_no) (cond (Nat.beq pc 61) (tc_dup 62) tc_no))) (cond (Nat.ble pc 62) (cond (Nat.beq pc 62) (tc_getf 7 8 65) tc_no) (cond (Nat.ble pc 65) (cond (Nat.beq pc 65) (tc_ic 1 66) tc_no) (cond (Nat.beq pc 66) (tc_iadd 67) tc_no)))) (cond (Nat.ble pc 73) (cond (Nat.ble pc 67) (cond (Nat.beq pc 67) (tc_putI 7 8 70) tc_no) (cond (Nat.ble pc 70) (cond (Nat.beq pc 70) (tc_iinc 4 (-1) 73) tc_no) (cond (Nat.beq pc 73) (tc_goto 34) tc_no))) (cond (Nat.ble pc 76) (cond (Nat.beq pc 76) (tc_ldA 0 77) tc_no) (cond (Nat.ble pc 77) (cond (Nat.beq pc 77) (tc_getf 7 8 80) tc_no) (cond (Nat.beq pc 80) (tc_iret) tc_no))))))
theorem okX7_type : ∀ pc, dt_S mX7_type (tbX7_type pc) pc := by
  intro pc
  unfold tbX7_type
  exact dt_Sb (dt_Sb (dt_Sb (dt_Sb (dt_Sb (dt_Sl 0 (sn_ldIn rfl dX7_type_0 rfl)) (dt_Sl 1 (sn_i2l dX7_type_1 rfl))) (dt_Sb (dt_Sl 2 (sn_lc (k := 1) ⟨by decide, by decide⟩ rfl dX7_type_2 rfl)) (dt_Sb (dt_Sl 3 (sn_ldc2 rfl ⟨by decide, by decide⟩ wq_4_7 dX7_type_3 rfl)) (dt_Sl 6 (sn_callS rfl nnX7_in wq_4_8 wq_4_9 dX7_type_6 rfl))))) (dt_Sb (dt_Sb (dt_Sl 9 (sn_ifne dX7_type_9 (by decide) rfl)) (dt_Sb (dt_Sl 12 (sn_ic ⟨by decide, by decide⟩ dX7_type_12 rfl)) (dt_Sl 13 (sn_iret rfl dX7_type_13)))) (dt_Sb (dt_Sl 14 (sn_ldAn rfl dX7_type_14 rfl)) (dt_Sb (dt_Sl 15 (sn_getf rfl ffX7 (by decide) wq_3_145 dX7_type_15 rfl)) (dt_Sl 18 (sn_ldIn rfl dX7_type_18 rfl)))))) (dt_Sb (dt_Sb (dt_Sb (dt_Sl 19 (sn_iadd dX7_type_19 rfl)) (dt_Sb (dt_Sl 20 (sn_si ⟨by decide, by decide⟩ rfl dX7_type_20 rfl)) (dt_Sl 23 (sn_icmple dX7_type_23 (by decide) rfl)))) (dt_Sb (dt_Sl 26 (sn_bi ⟨by decide, by decide⟩ rfl dX7_type_26 rfl)) (dt_Sb (dt_Sl 28 (sn_iret rfl dX7_type_28)) (dt_Sl 29 (sn_ldIn rfl dX7_type_29 rfl))))) (dt_Sb (dt_Sb (dt_Sl 30 (sn_ic ⟨by decide, by decide⟩ dX7_type_30 rfl)) (dt_Sb (dt_Sl 31 (sn_isub dX7_type_31 rfl)) (dt_Sl 32 (sn_stI (by decide) dX7_type_32 rfl)))) (dt_Sb (dt_Sl 34 (sn_ldI dX7_type_34 rfl)) (dt_Sb (dt_Sl 36 (sn_iflt dX7_type_36 (by decide) rfl)) (dt_Sl 39 (sn_ldAn rfl dX7_type_39 rfl))))))) (dt_Sb (dt_Sb (dt_Sb (dt_Sb (dt_Sl 40 (sn_getf rfl ffX7 (by decide) wq_3_146 dX7_type_40 rfl)) (dt_Sl 43 (sn_ldAn rfl dX7_type_43 rfl))) (dt_Sb (dt_Sl 44 (sn_getf rfl ffX7 (by decide) wq_3_145 dX7_type_44 rfl)) (dt_Sb (dt_Sl 47 (sn_ldLn rfl dX7_type_47 rfl)) (dt_Sl 48 (sn_bi ⟨by decide, by decide⟩ rfl dX7_type_48 rfl))))) (dt_Sb (dt_Sb (dt_Sl 50 (sn_ldI dX7_type_50 rfl)) (dt_Sb (dt_Sl 52 (sn_imul dX7_type_52 rfl)) (dt_Sl 53 (sn_lshr dX7_type_53 rfl)))) (dt_Sb (dt_Sl 54 (sn_ldc2 rfl ⟨by decide, by decide⟩ wq_4_11 dX7_type_54 rfl)) (dt_Sb (dt_Sl 57 (sn_land dX7_type_57 rfl)) (dt_Sl 58 (sn_l2i dX7_type_58 rfl)))))) (dt_Sb (dt_Sb (dt_Sb (dt_Sl 59 (sn_iast dX7_type_59 rfl)) (dt_Sb (dt_Sl 60 (sn_ldAn rfl dX7_type_60 rfl)) (dt_Sl 61 (sn_dup dX7_type_61 rfl)))) (dt_Sb (dt_Sl 62 (sn_getf rfl ffX7 (by decide) wq_3_145 dX7_type_62 rfl)) (dt_Sb (dt_Sl 65 (sn_ic ⟨by decide, by decide⟩ dX7_type_65 rfl)) (dt_Sl 66 (sn_iadd dX7_type_66 rfl))))) (dt_Sb (dt_Sb (dt_Sl 67 (sn_putI rfl ffX7 (by decide) rfl rfl (by decide +kernel) wq_3_145 dX7_type_67 rfl)) (dt_Sb (dt_Sl 70 (sn_iinc (by decide) dX7_type_70 rfl)) (dt_Sl 73 (sn_goto dX7_type_73 (by decide))))) (dt_Sb (dt_Sl 76 (sn_ldAn rfl dX7_type_76 rfl)) (dt_Sb (dt_Sl 77 (sn_getf rfl ffX7 (by decide) wq_3_145 dX7_type_77 rfl)) (dt_Sl 80 (sn_iret rfl dX7_type_80)))))))
theorem dX7_clear_0 : decode cX7_clear 0 = .ok (.aload_n 0, 1) := by decide +kernel
theorem dX7_clear_1 : decode cX7_clear 1 = .ok (.getfield 89, 3) := by decide +kernel
theorem dX7_clear_4 : decode cX7_clear 4 = .ok (.istore_n 1, 1) := by decide +kernel
theorem dX7_clear_5 : decode cX7_clear 5 = .ok (.aload_n 0, 1) := by decide +kernel
theorem dX7_clear_6 : decode cX7_clear 6 = .ok (.iconst 0, 1) := by decide +kernel
theorem dX7_clear_7 : decode cX7_clear 7 = .ok (.putfield 89, 3) := by decide +kernel
theorem dX7_clear_10 : decode cX7_clear 10 = .ok (.iload_n 1, 1) := by decide +kernel
theorem dX7_clear_11 : decode cX7_clear 11 = .ok (.ireturn, 1) := by decide +kernel
def tbX7_clear (pc : Nat) : dt_T := cond (Nat.ble pc 5) (cond (Nat.ble pc 1) (cond (Nat.ble pc 0) (cond (Nat.beq pc 0) (tc_ldA 0 1) tc_no) (cond (Nat.beq pc 1) (tc_getf 7 8 4) tc_no)) (cond (Nat.ble pc 4) (cond (Nat.beq pc 4) (tc_stI 1 5) tc_no) (cond (Nat.beq pc 5) (tc_ldA 0 6) tc_no))) (cond (Nat.ble pc 7) (cond (Nat.ble pc 6) (cond (Nat.beq pc 6) (tc_ic 0 7) tc_no) (cond (Nat.beq pc 7) (tc_putI 7 8 10) tc_no)) (cond (Nat.ble pc 10) (cond (Nat.beq pc 10) (tc_ldI 1 11) tc_no) (cond (Nat.beq pc 11) (tc_iret) tc_no)))
theorem okX7_clear : ∀ pc, dt_S mX7_clear (tbX7_clear pc) pc := by
  intro pc
  unfold tbX7_clear
  exact dt_Sb (dt_Sb (dt_Sb (dt_Sl 0 (sn_ldAn rfl dX7_clear_0 rfl)) (dt_Sl 1 (sn_getf rfl ffX7 (by decide) wq_3_145 dX7_clear_1 rfl))) (dt_Sb (dt_Sl 4 (sn_stIn rfl (by decide) dX7_clear_4 rfl)) (dt_Sl 5 (sn_ldAn rfl dX7_clear_5 rfl)))) (dt_Sb (dt_Sb (dt_Sl 6 (sn_ic ⟨by decide, by decide⟩ dX7_clear_6 rfl)) (dt_Sl 7 (sn_putI rfl ffX7 (by decide) rfl rfl (by decide +kernel) wq_3_145 dX7_clear_7 rfl))) (dt_Sb (dt_Sl 10 (sn_ldIn rfl dX7_clear_10 rfl)) (dt_Sl 11 (sn_iret rfl dX7_clear_11))))
theorem dX7_wordBy_0 : decode cX7_wordBy 0 = .ok (.lload_n 0, 1) := by decide +kernel
theorem dX7_wordBy_1 : decode cX7_wordBy 1 = .ok (.ldc2_w 95, 3) := by decide +kernel
theorem dX7_wordBy_4 : decode cX7_wordBy 4 = .ok (.lcmp, 1) := by decide +kernel
theorem dX7_wordBy_5 : decode cX7_wordBy 5 = .ok (.ifCond .ne 8, 3) := by decide +kernel
theorem dX7_wordBy_8 : decode cX7_wordBy 8 = .ok (.bipush 10, 2) := by decide +kernel
theorem dX7_wordBy_10 : decode cX7_wordBy 10 = .ok (.goto 35, 3) := by decide +kernel
theorem dX7_wordBy_13 : decode cX7_wordBy 13 = .ok (.lload_n 0, 1) := by decide +kernel
theorem dX7_wordBy_14 : decode cX7_wordBy 14 = .ok (.ldc2_w 97, 3) := by decide +kernel
theorem dX7_wordBy_17 : decode cX7_wordBy 17 = .ok (.lcmp, 1) := by decide +kernel
theorem dX7_wordBy_18 : decode cX7_wordBy 18 = .ok (.ifCond .ne 8, 3) := by decide +kernel
theorem dX7_wordBy_21 : decode cX7_wordBy 21 = .ok (.bipush 11, 2) := by decide +kernel
theorem dX7_wordBy_23 : decode cX7_wordBy 23 = .ok (.goto 22, 3) := by decide +kernel
theorem dX7_wordBy_26 : decode cX7_wordBy 26 = .ok (.lload_n 0, 1) := by decide +kernel
theorem dX7_wordBy_27 : decode cX7_wordBy 27 = .ok (.lconst 1, 1) := by decide +kernel
theorem dX7_wordBy_28 : decode cX7_wordBy 28 = .ok (.ldc2_w 87, 3) := by decide +kernel
theorem dX7_wordBy_31 : decode cX7_wordBy 31 = .ok (.invokestatic 83, 3) := by decide +kernel
theorem dX7_wordBy_34 : decode cX7_wordBy 34 = .ok (.ifCond .eq 10, 3) := by decide +kernel
theorem dX7_wordBy_37 : decode cX7_wordBy 37 = .ok (.lload_n 0, 1) := by decide +kernel
theorem dX7_wordBy_38 : decode cX7_wordBy 38 = .ok (.l2i, 1) := by decide +kernel
theorem dX7_wordBy_39 : decode cX7_wordBy 39 = .ok (.iconst 1, 1) := by decide +kernel
theorem dX7_wordBy_40 : decode cX7_wordBy 40 = .ok (.isub, 1) := by decide +kernel
theorem dX7_wordBy_41 : decode cX7_wordBy 41 = .ok (.goto 4, 3) := by decide +kernel
theorem dX7_wordBy_44 : decode cX7_wordBy 44 = .ok (.iconst (-1), 1) := by decide +kernel
theorem dX7_wordBy_45 : decode cX7_wordBy 45 = .ok (.ireturn, 1) := by decide +kernel
def tbX7_wordBy (pc : Nat) : dt_T := cond (Nat.ble pc 23) (cond (Nat.ble pc 10) (cond (Nat.ble pc 4) (cond (Nat.ble pc 0) (cond (Nat.beq pc 0) (tc_ldL 0 1) tc_no) (cond (Nat.ble pc 1) (cond (Nat.beq pc 1) (tc_lc 628164 4) tc_no) (cond (Nat.beq pc 4) (tc_lcmp 5) tc_no))) (cond (Nat.ble pc 5) (cond (Nat.beq pc 5) (tc_ifne 13 8) tc_no) (cond (Nat.ble pc 8) (cond (Nat.beq pc 8) (tc_ic 10 10) tc_no) (cond (Nat.beq pc 10) (tc_goto 45) tc_no)))) (cond (Nat.ble pc 17) (cond (Nat.ble pc 13) (cond (Nat.beq pc 13) (tc_ldL 0 14) tc_no) (cond (Nat.ble pc 14) (cond (Nat.beq pc 14) (tc_lc 656741 17) tc_no) (cond (Nat.beq pc 17) (tc_lcmp 18) tc_no))) (cond (Nat.ble pc 18) (cond (Nat.beq pc 18) (tc_ifne 26 21) tc_no) (cond (Nat.ble pc 21) (cond (Nat.beq pc 21) (tc_ic 11 23) tc_no) (cond (Nat.beq pc 23) (tc_goto 45) tc_no))))) (cond (Nat.ble pc 37) (cond (Nat.ble pc 28) (cond (Nat.ble pc 26) (cond (Nat.beq pc 26) (tc_ldL 0 27) tc_no) (cond (Nat.ble pc 27) (cond (Nat.beq pc 27) (tc_lc 1 28) tc_no) (cond (Nat.beq pc 28) (tc_lc 8 31) tc_no))) (cond (Nat.ble pc 31) (cond (Nat.beq pc 31) (tc_callS mX7_in 3 34) tc_no) (cond (Nat.ble pc 34) (cond (Nat.beq pc 34) (tc_ifeq 44 37) tc_no) (cond (Nat.beq pc 37) (tc_ldL 0 38) tc_no)))) (cond (Nat.ble pc 40) (cond (Nat.ble pc 38) (cond (Nat.beq pc 38) (tc_l2i 39) tc_no) (cond (Nat.ble pc 39) (cond (Nat.beq pc 39) (tc_ic 1 40) tc_no) (cond (Nat.beq pc 40) (tc_isub 41) tc_no))) (cond (Nat.ble pc 41) (cond (Nat.beq pc 41) (tc_goto 45) tc_no) (cond (Nat.ble pc 44) (cond (Nat.beq pc 44) (tc_ic (-1) 45) tc_no) (cond (Nat.beq pc 45) (tc_iret) tc_no)))))
theorem okX7_wordBy : ∀ pc, dt_S mX7_wordBy (tbX7_wordBy pc) pc := by
  intro pc
  unfold tbX7_wordBy
  exact dt_Sb (dt_Sb (dt_Sb (dt_Sb (dt_Sl 0 (sn_ldLn rfl dX7_wordBy_0 rfl)) (dt_Sb (dt_Sl 1 (sn_ldc2 rfl ⟨by decide, by decide⟩ wq_4_46 dX7_wordBy_1 rfl)) (dt_Sl 4 (sn_lcmp dX7_wordBy_4 rfl)))) (dt_Sb (dt_Sl 5 (sn_ifne dX7_wordBy_5 (by decide) rfl)) (dt_Sb (dt_Sl 8 (sn_bi ⟨by decide, by decide⟩ rfl dX7_wordBy_8 rfl)) (dt_Sl 10 (sn_goto dX7_wordBy_10 (by decide)))))) (dt_Sb (dt_Sb (dt_Sl 13 (sn_ldLn rfl dX7_wordBy_13 rfl)) (dt_Sb (dt_Sl 14 (sn_ldc2 rfl ⟨by decide, by decide⟩ wq_4_47 dX7_wordBy_14 rfl)) (dt_Sl 17 (sn_lcmp dX7_wordBy_17 rfl)))) (dt_Sb (dt_Sl 18 (sn_ifne dX7_wordBy_18 (by decide) rfl)) (dt_Sb (dt_Sl 21 (sn_bi ⟨by decide, by decide⟩ rfl dX7_wordBy_21 rfl)) (dt_Sl 23 (sn_goto dX7_wordBy_23 (by decide))))))) (dt_Sb (dt_Sb (dt_Sb (dt_Sl 26 (sn_ldLn rfl dX7_wordBy_26 rfl)) (dt_Sb (dt_Sl 27 (sn_lc (k := 1) ⟨by decide, by decide⟩ rfl dX7_wordBy_27 rfl)) (dt_Sl 28 (sn_ldc2 rfl ⟨by decide, by decide⟩ wq_4_7 dX7_wordBy_28 rfl)))) (dt_Sb (dt_Sl 31 (sn_callS rfl nnX7_in wq_4_8 wq_4_9 dX7_wordBy_31 rfl)) (dt_Sb (dt_Sl 34 (sn_ifeq dX7_wordBy_34 (by decide) rfl)) (dt_Sl 37 (sn_ldLn rfl dX7_wordBy_37 rfl))))) (dt_Sb (dt_Sb (dt_Sl 38 (sn_l2i dX7_wordBy_38 rfl)) (dt_Sb (dt_Sl 39 (sn_ic ⟨by decide, by decide⟩ dX7_wordBy_39 rfl)) (dt_Sl 40 (sn_isub dX7_wordBy_40 rfl)))) (dt_Sb (dt_Sl 41 (sn_goto dX7_wordBy_41 (by decide))) (dt_Sb (dt_Sl 44 (sn_ic ⟨by decide, by decide⟩ dX7_wordBy_44 rfl)) (dt_Sl 45 (sn_iret rfl dX7_wordBy_45))))))
theorem dX7_readToken_0 : decode cX7_readToken 0 = .ok (.aload_n 0, 1) := by decide +kernel
theorem dX7_readToken_1 : decode cX7_readToken 1 = .ok (.getfield 99, 3) := by decide +kernel
theorem dX7_readToken_4 : decode cX7_readToken 4 = .ok (.aload_n 0, 1) := by decide +kernel
theorem dX7_readToken_5 : decode cX7_readToken 5 = .ok (.getfield 89, 3) := by decide +kernel
theorem dX7_readToken_8 : decode cX7_readToken 8 = .ok (.if_icmp .ge 30, 3) := by decide +kernel
theorem dX7_readToken_11 : decode cX7_readToken 11 = .ok (.aload_n 0, 1) := by decide +kernel
theorem dX7_readToken_12 : decode cX7_readToken 12 = .ok (.getfield 35, 3) := by decide +kernel
theorem dX7_readToken_15 : decode cX7_readToken 15 = .ok (.aload_n 0, 1) := by decide +kernel
theorem dX7_readToken_16 : decode cX7_readToken 16 = .ok (.getfield 99, 3) := by decide +kernel
theorem dX7_readToken_19 : decode cX7_readToken 19 = .ok (.iaload, 1) := by decide +kernel
theorem dX7_readToken_20 : decode cX7_readToken 20 = .ok (.bipush 32, 2) := by decide +kernel
theorem dX7_readToken_22 : decode cX7_readToken 22 = .ok (.if_icmp .ne 16, 3) := by decide +kernel
theorem dX7_readToken_25 : decode cX7_readToken 25 = .ok (.aload_n 0, 1) := by decide +kernel
theorem dX7_readToken_26 : decode cX7_readToken 26 = .ok (.dup, 1) := by decide +kernel
theorem dX7_readToken_27 : decode cX7_readToken 27 = .ok (.getfield 99, 3) := by decide +kernel
theorem dX7_readToken_30 : decode cX7_readToken 30 = .ok (.iconst 1, 1) := by decide +kernel
theorem dX7_readToken_31 : decode cX7_readToken 31 = .ok (.iadd, 1) := by decide +kernel
theorem dX7_readToken_32 : decode cX7_readToken 32 = .ok (.putfield 99, 3) := by decide +kernel
theorem dX7_readToken_35 : decode cX7_readToken 35 = .ok (.goto (-35), 3) := by decide +kernel
theorem dX7_readToken_38 : decode cX7_readToken 38 = .ok (.aload_n 0, 1) := by decide +kernel
theorem dX7_readToken_39 : decode cX7_readToken 39 = .ok (.aload_n 0, 1) := by decide +kernel
theorem dX7_readToken_40 : decode cX7_readToken 40 = .ok (.getfield 99, 3) := by decide +kernel
theorem dX7_readToken_43 : decode cX7_readToken 43 = .ok (.putfield 102, 3) := by decide +kernel
theorem dX7_readToken_46 : decode cX7_readToken 46 = .ok (.aload_n 0, 1) := by decide +kernel
theorem dX7_readToken_47 : decode cX7_readToken 47 = .ok (.getfield 99, 3) := by decide +kernel
theorem dX7_readToken_50 : decode cX7_readToken 50 = .ok (.aload_n 0, 1) := by decide +kernel
theorem dX7_readToken_51 : decode cX7_readToken 51 = .ok (.getfield 89, 3) := by decide +kernel
theorem dX7_readToken_54 : decode cX7_readToken 54 = .ok (.if_icmp .ne 10, 3) := by decide +kernel
theorem dX7_readToken_57 : decode cX7_readToken 57 = .ok (.aload_n 0, 1) := by decide +kernel
theorem dX7_readToken_58 : decode cX7_readToken 58 = .ok (.bipush 40, 2) := by decide +kernel
theorem dX7_readToken_60 : decode cX7_readToken 60 = .ok (.putfield 105, 3) := by decide +kernel
theorem dX7_readToken_63 : decode cX7_readToken 63 = .ok (.return_, 1) := by decide +kernel
theorem dX7_readToken_64 : decode cX7_readToken 64 = .ok (.aload_n 0, 1) := by decide +kernel
theorem dX7_readToken_65 : decode cX7_readToken 65 = .ok (.getfield 35, 3) := by decide +kernel
theorem dX7_readToken_68 : decode cX7_readToken 68 = .ok (.aload_n 0, 1) := by decide +kernel
theorem dX7_readToken_69 : decode cX7_readToken 69 = .ok (.getfield 99, 3) := by decide +kernel
theorem dX7_readToken_72 : decode cX7_readToken 72 = .ok (.iaload, 1) := by decide +kernel
theorem dX7_readToken_73 : decode cX7_readToken 73 = .ok (.istore_n 1, 1) := by decide +kernel
theorem dX7_readToken_74 : decode cX7_readToken 74 = .ok (.iload_n 1, 1) := by decide +kernel
theorem dX7_readToken_75 : decode cX7_readToken 75 = .ok (.bipush 59, 2) := by decide +kernel
theorem dX7_readToken_77 : decode cX7_readToken 77 = .ok (.if_icmp .eq 17, 3) := by decide +kernel
theorem dX7_readToken_80 : decode cX7_readToken 80 = .ok (.iload_n 1, 1) := by decide +kernel
theorem dX7_readToken_81 : decode cX7_readToken 81 = .ok (.i2l, 1) := by decide +kernel
theorem dX7_readToken_82 : decode cX7_readToken 82 = .ok (.ldc2_w 108, 3) := by decide +kernel
theorem dX7_readToken_85 : decode cX7_readToken 85 = .ok (.ldc2_w 110, 3) := by decide +kernel
theorem dX7_readToken_88 : decode cX7_readToken 88 = .ok (.invokestatic 83, 3) := by decide +kernel
theorem dX7_readToken_91 : decode cX7_readToken 91 = .ok (.ifCond .eq 36, 3) := by decide +kernel
theorem dX7_readToken_94 : decode cX7_readToken 94 = .ok (.aload_n 0, 1) := by decide +kernel
theorem dX7_readToken_95 : decode cX7_readToken 95 = .ok (.iload_n 1, 1) := by decide +kernel
theorem dX7_readToken_96 : decode cX7_readToken 96 = .ok (.bipush 59, 2) := by decide +kernel
theorem dX7_readToken_98 : decode cX7_readToken 98 = .ok (.if_icmp .ne 8, 3) := by decide +kernel
theorem dX7_readToken_101 : decode cX7_readToken 101 = .ok (.bipush 30, 2) := by decide +kernel
theorem dX7_readToken_103 : decode cX7_readToken 103 = .ok (.goto 10, 3) := by decide +kernel
theorem dX7_readToken_106 : decode cX7_readToken 106 = .ok (.bipush 20, 2) := by decide +kernel
theorem dX7_readToken_108 : decode cX7_readToken 108 = .ok (.iload_n 1, 1) := by decide +kernel
theorem dX7_readToken_109 : decode cX7_readToken 109 = .ok (.iadd, 1) := by decide +kernel
theorem dX7_readToken_110 : decode cX7_readToken 110 = .ok (.bipush 65, 2) := by decide +kernel
theorem dX7_readToken_112 : decode cX7_readToken 112 = .ok (.isub, 1) := by decide +kernel
theorem dX7_readToken_113 : decode cX7_readToken 113 = .ok (.putfield 105, 3) := by decide +kernel
theorem dX7_readToken_116 : decode cX7_readToken 116 = .ok (.aload_n 0, 1) := by decide +kernel
theorem dX7_readToken_117 : decode cX7_readToken 117 = .ok (.dup, 1) := by decide +kernel
theorem dX7_readToken_118 : decode cX7_readToken 118 = .ok (.getfield 99, 3) := by decide +kernel
theorem dX7_readToken_121 : decode cX7_readToken 121 = .ok (.iconst 1, 1) := by decide +kernel
theorem dX7_readToken_122 : decode cX7_readToken 122 = .ok (.iadd, 1) := by decide +kernel
theorem dX7_readToken_123 : decode cX7_readToken 123 = .ok (.putfield 99, 3) := by decide +kernel
theorem dX7_readToken_126 : decode cX7_readToken 126 = .ok (.return_, 1) := by decide +kernel
theorem dX7_readToken_127 : decode cX7_readToken 127 = .ok (.lconst 0, 1) := by decide +kernel
theorem dX7_readToken_128 : decode cX7_readToken 128 = .ok (.lstore_n 2, 1) := by decide +kernel
theorem dX7_readToken_129 : decode cX7_readToken 129 = .ok (.aload_n 0, 1) := by decide +kernel
theorem dX7_readToken_130 : decode cX7_readToken 130 = .ok (.getfield 99, 3) := by decide +kernel
theorem dX7_readToken_133 : decode cX7_readToken 133 = .ok (.aload_n 0, 1) := by decide +kernel
theorem dX7_readToken_134 : decode cX7_readToken 134 = .ok (.getfield 89, 3) := by decide +kernel
theorem dX7_readToken_137 : decode cX7_readToken 137 = .ok (.if_icmp .ge 71, 3) := by decide +kernel
theorem dX7_readToken_140 : decode cX7_readToken 140 = .ok (.aload_n 0, 1) := by decide +kernel
theorem dX7_readToken_141 : decode cX7_readToken 141 = .ok (.getfield 35, 3) := by decide +kernel
theorem dX7_readToken_144 : decode cX7_readToken 144 = .ok (.aload_n 0, 1) := by decide +kernel
theorem dX7_readToken_145 : decode cX7_readToken 145 = .ok (.getfield 99, 3) := by decide +kernel
theorem dX7_readToken_148 : decode cX7_readToken 148 = .ok (.iaload, 1) := by decide +kernel
theorem dX7_readToken_149 : decode cX7_readToken 149 = .ok (.i2l, 1) := by decide +kernel
theorem dX7_readToken_150 : decode cX7_readToken 150 = .ok (.ldc2_w 112, 3) := by decide +kernel
theorem dX7_readToken_153 : decode cX7_readToken 153 = .ok (.ldc2_w 114, 3) := by decide +kernel
theorem dX7_readToken_156 : decode cX7_readToken 156 = .ok (.invokestatic 83, 3) := by decide +kernel
theorem dX7_readToken_159 : decode cX7_readToken 159 = .ok (.ifCond .eq 49, 3) := by decide +kernel
theorem dX7_readToken_162 : decode cX7_readToken 162 = .ok (.lload_n 2, 1) := by decide +kernel
theorem dX7_readToken_163 : decode cX7_readToken 163 = .ok (.ldc2_w 116, 3) := by decide +kernel
theorem dX7_readToken_166 : decode cX7_readToken 166 = .ok (.lcmp, 1) := by decide +kernel
theorem dX7_readToken_167 : decode cX7_readToken 167 = .ok (.ifCond .le 7, 3) := by decide +kernel
theorem dX7_readToken_170 : decode cX7_readToken 170 = .ok (.lload_n 2, 1) := by decide +kernel
theorem dX7_readToken_171 : decode cX7_readToken 171 = .ok (.goto 23, 3) := by decide +kernel
theorem dX7_readToken_174 : decode cX7_readToken 174 = .ok (.ldc2_w 118, 3) := by decide +kernel
theorem dX7_readToken_177 : decode cX7_readToken 177 = .ok (.lload_n 2, 1) := by decide +kernel
theorem dX7_readToken_178 : decode cX7_readToken 178 = .ok (.lmul, 1) := by decide +kernel
theorem dX7_readToken_179 : decode cX7_readToken 179 = .ok (.aload_n 0, 1) := by decide +kernel
theorem dX7_readToken_180 : decode cX7_readToken 180 = .ok (.getfield 35, 3) := by decide +kernel
theorem dX7_readToken_183 : decode cX7_readToken 183 = .ok (.aload_n 0, 1) := by decide +kernel
theorem dX7_readToken_184 : decode cX7_readToken 184 = .ok (.getfield 99, 3) := by decide +kernel
theorem dX7_readToken_187 : decode cX7_readToken 187 = .ok (.iaload, 1) := by decide +kernel
theorem dX7_readToken_188 : decode cX7_readToken 188 = .ok (.i2l, 1) := by decide +kernel
theorem dX7_readToken_189 : decode cX7_readToken 189 = .ok (.ladd, 1) := by decide +kernel
theorem dX7_readToken_190 : decode cX7_readToken 190 = .ok (.ldc2_w 120, 3) := by decide +kernel
theorem dX7_readToken_193 : decode cX7_readToken 193 = .ok (.lsub, 1) := by decide +kernel
theorem dX7_readToken_194 : decode cX7_readToken 194 = .ok (.lstore_n 2, 1) := by decide +kernel
theorem dX7_readToken_195 : decode cX7_readToken 195 = .ok (.aload_n 0, 1) := by decide +kernel
theorem dX7_readToken_196 : decode cX7_readToken 196 = .ok (.dup, 1) := by decide +kernel
theorem dX7_readToken_197 : decode cX7_readToken 197 = .ok (.getfield 99, 3) := by decide +kernel
theorem dX7_readToken_200 : decode cX7_readToken 200 = .ok (.iconst 1, 1) := by decide +kernel
theorem dX7_readToken_201 : decode cX7_readToken 201 = .ok (.iadd, 1) := by decide +kernel
theorem dX7_readToken_202 : decode cX7_readToken 202 = .ok (.putfield 99, 3) := by decide +kernel
theorem dX7_readToken_205 : decode cX7_readToken 205 = .ok (.goto (-76), 3) := by decide +kernel
theorem dX7_readToken_208 : decode cX7_readToken 208 = .ok (.aload_n 0, 1) := by decide +kernel
theorem dX7_readToken_209 : decode cX7_readToken 209 = .ok (.lload_n 2, 1) := by decide +kernel
theorem dX7_readToken_210 : decode cX7_readToken 210 = .ok (.invokestatic 122, 3) := by decide +kernel
theorem dX7_readToken_213 : decode cX7_readToken 213 = .ok (.putfield 105, 3) := by decide +kernel
theorem dX7_readToken_216 : decode cX7_readToken 216 = .ok (.return_, 1) := by decide +kernel
def tbX7_readToken (pc : Nat) : dt_T := cond (Nat.ble pc 110) (cond (Nat.ble pc 54) (cond (Nat.ble pc 26) (cond (Nat.ble pc 12) (cond (Nat.ble pc 4) (cond (Nat.ble pc 0) (cond (Nat.beq pc 0) (tc_ldA 0 1) tc_no) (cond (Nat.ble pc 1) (cond (Nat.beq pc 1) (tc_getf 7 18 4) tc_no) (cond (Nat.beq pc 4) (tc_ldA 0 5) tc_no))) (cond (Nat.ble pc 8) (cond (Nat.ble pc 5) (cond (Nat.beq pc 5) (tc_getf 7 8 8) tc_no) (cond (Nat.beq pc 8) (tc_icmpge 38 11) tc_no)) (cond (Nat.ble pc 11) (cond (Nat.beq pc 11) (tc_ldA 0 12) tc_no) (cond (Nat.beq pc 12) (tc_getf 7 9 15) tc_no)))) (cond (Nat.ble pc 19) (cond (Nat.ble pc 15) (cond (Nat.beq pc 15) (tc_ldA 0 16) tc_no) (cond (Nat.ble pc 16) (cond (Nat.beq pc 16) (tc_getf 7 18 19) tc_no) (cond (Nat.beq pc 19) (tc_iald 20) tc_no))) (cond (Nat.ble pc 22) (cond (Nat.ble pc 20) (cond (Nat.beq pc 20) (tc_ic 32 22) tc_no) (cond (Nat.beq pc 22) (tc_icmpne 38 25) tc_no)) (cond (Nat.ble pc 25) (cond (Nat.beq pc 25) (tc_ldA 0 26) tc_no) (cond (Nat.beq pc 26) (tc_dup 27) tc_no))))) (cond (Nat.ble pc 39) (cond (Nat.ble pc 31) (cond (Nat.ble pc 27) (cond (Nat.beq pc 27) (tc_getf 7 18 30) tc_no) (cond (Nat.ble pc 30) (cond (Nat.beq pc 30) (tc_ic 1 31) tc_no) (cond (Nat.beq pc 31) (tc_iadd 32) tc_no))) (cond (Nat.ble pc 35) (cond (Nat.ble pc 32) (cond (Nat.beq pc 32) (tc_putI 7 18 35) tc_no) (cond (Nat.beq pc 35) (tc_goto 0) tc_no)) (cond (Nat.ble pc 38) (cond (Nat.beq pc 38) (tc_ldA 0 39) tc_no) (cond (Nat.beq pc 39) (tc_ldA 0 40) tc_no)))) (cond (Nat.ble pc 46) (cond (Nat.ble pc 40) (cond (Nat.beq pc 40) (tc_getf 7 18 43) tc_no) (cond (Nat.ble pc 43) (cond (Nat.beq pc 43) (tc_putI 7 19 46) tc_no) (cond (Nat.beq pc 46) (tc_ldA 0 47) tc_no))) (cond (Nat.ble pc 50) (cond (Nat.ble pc 47) (cond (Nat.beq pc 47) (tc_getf 7 18 50) tc_no) (cond (Nat.beq pc 50) (tc_ldA 0 51) tc_no)) (cond (Nat.ble pc 51) (cond (Nat.beq pc 51) (tc_getf 7 8 54) tc_no) (cond (Nat.beq pc 54) (tc_icmpne 64 57) tc_no)))))) (cond (Nat.ble pc 80) (cond (Nat.ble pc 68) (cond (Nat.ble pc 60) (cond (Nat.ble pc 57) (cond (Nat.beq pc 57) (tc_ldA 0 58) tc_no) (cond (Nat.ble pc 58) (cond (Nat.beq pc 58) (tc_ic 40 60) tc_no) (cond (Nat.beq pc 60) (tc_putI 7 20 63) tc_no))) (cond (Nat.ble pc 64) (cond (Nat.ble pc 63) (cond (Nat.beq pc 63) (tc_ret) tc_no) (cond (Nat.beq pc 64) (tc_ldA 0 65) tc_no)) (cond (Nat.ble pc 65) (cond (Nat.beq pc 65) (tc_getf 7 9 68) tc_no) (cond (Nat.beq pc 68) (tc_ldA 0 69) tc_no)))) (cond (Nat.ble pc 73) (cond (Nat.ble pc 69) (cond (Nat.beq pc 69) (tc_getf 7 18 72) tc_no) (cond (Nat.ble pc 72) (cond (Nat.beq pc 72) (tc_iald 73) tc_no) (cond (Nat.beq pc 73) (tc_stI 1 74) tc_no))) (cond (Nat.ble pc 75) (cond (Nat.ble pc 74) (cond (Nat.beq pc 74) (tc_ldI 1 75) tc_no) (cond (Nat.beq pc 75) (tc_ic 59 77) tc_no)) (cond (Nat.ble pc 77) (cond (Nat.beq pc 77) (tc_icmpeq 94 80) tc_no) (cond (Nat.beq pc 80) (tc_ldI 1 81) tc_no))))) (cond (Nat.ble pc 95) (cond (Nat.ble pc 85) (cond (Nat.ble pc 81) (cond (Nat.beq pc 81) (tc_i2l 82) tc_no) (cond (Nat.ble pc 82) (cond (Nat.beq pc 82) (tc_lc 65 85) tc_no) (cond (Nat.beq pc 85) (tc_lc 68 88) tc_no))) (cond (Nat.ble pc 91) (cond (Nat.ble pc 88) (cond (Nat.beq pc 88) (tc_callS mX7_in 3 91) tc_no) (cond (Nat.beq pc 91) (tc_ifeq 127 94) tc_no)) (cond (Nat.ble pc 94) (cond (Nat.beq pc 94) (tc_ldA 0 95) tc_no) (cond (Nat.beq pc 95) (tc_ldI 1 96) tc_no)))) (cond (Nat.ble pc 103) (cond (Nat.ble pc 98) (cond (Nat.ble pc 96) (cond (Nat.beq pc 96) (tc_ic 59 98) tc_no) (cond (Nat.beq pc 98) (tc_icmpne 106 101) tc_no)) (cond (Nat.ble pc 101) (cond (Nat.beq pc 101) (tc_ic 30 103) tc_no) (cond (Nat.beq pc 103) (tc_goto 113) tc_no))) (cond (Nat.ble pc 108) (cond (Nat.ble pc 106) (cond (Nat.beq pc 106) (tc_ic 20 108) tc_no) (cond (Nat.beq pc 108) (tc_ldI 1 109) tc_no)) (cond (Nat.ble pc 109) (cond (Nat.beq pc 109) (tc_iadd 110) tc_no) (cond (Nat.beq pc 110) (tc_ic 65 112) tc_no))))))) (cond (Nat.ble pc 163) (cond (Nat.ble pc 133) (cond (Nat.ble pc 122) (cond (Nat.ble pc 116) (cond (Nat.ble pc 112) (cond (Nat.beq pc 112) (tc_isub 113) tc_no) (cond (Nat.ble pc 113) (cond (Nat.beq pc 113) (tc_putI 7 20 116) tc_no) (cond (Nat.beq pc 116) (tc_ldA 0 117) tc_no))) (cond (Nat.ble pc 118) (cond (Nat.ble pc 117) (cond (Nat.beq pc 117) (tc_dup 118) tc_no) (cond (Nat.beq pc 118) (tc_getf 7 18 121) tc_no)) (cond (Nat.ble pc 121) (cond (Nat.beq pc 121) (tc_ic 1 122) tc_no) (cond (Nat.beq pc 122) (tc_iadd 123) tc_no)))) (cond (Nat.ble pc 127) (cond (Nat.ble pc 123) (cond (Nat.beq pc 123) (tc_putI 7 18 126) tc_no) (cond (Nat.ble pc 126) (cond (Nat.beq pc 126) (tc_ret) tc_no) (cond (Nat.beq pc 127) (tc_lc 0 128) tc_no))) (cond (Nat.ble pc 129) (cond (Nat.ble pc 128) (cond (Nat.beq pc 128) (tc_stL 2 129) tc_no) (cond (Nat.beq pc 129) (tc_ldA 0 130) tc_no)) (cond (Nat.ble pc 130) (cond (Nat.beq pc 130) (tc_getf 7 18 133) tc_no) (cond (Nat.beq pc 133) (tc_ldA 0 134) tc_no))))) (cond (Nat.ble pc 148) (cond (Nat.ble pc 140) (cond (Nat.ble pc 134) (cond (Nat.beq pc 134) (tc_getf 7 8 137) tc_no) (cond (Nat.ble pc 137) (cond (Nat.beq pc 137) (tc_icmpge 208 140) tc_no) (cond (Nat.beq pc 140) (tc_ldA 0 141) tc_no))) (cond (Nat.ble pc 144) (cond (Nat.ble pc 141) (cond (Nat.beq pc 141) (tc_getf 7 9 144) tc_no) (cond (Nat.beq pc 144) (tc_ldA 0 145) tc_no)) (cond (Nat.ble pc 145) (cond (Nat.beq pc 145) (tc_getf 7 18 148) tc_no) (cond (Nat.beq pc 148) (tc_iald 149) tc_no)))) (cond (Nat.ble pc 153) (cond (Nat.ble pc 149) (cond (Nat.beq pc 149) (tc_i2l 150) tc_no) (cond (Nat.ble pc 150) (cond (Nat.beq pc 150) (tc_lc 97 153) tc_no) (cond (Nat.beq pc 153) (tc_lc 122 156) tc_no))) (cond (Nat.ble pc 159) (cond (Nat.ble pc 156) (cond (Nat.beq pc 156) (tc_callS mX7_in 3 159) tc_no) (cond (Nat.beq pc 159) (tc_ifeq 208 162) tc_no)) (cond (Nat.ble pc 162) (cond (Nat.beq pc 162) (tc_ldL 2 163) tc_no) (cond (Nat.beq pc 163) (tc_lc 100000000 166) tc_no)))))) (cond (Nat.ble pc 189) (cond (Nat.ble pc 178) (cond (Nat.ble pc 170) (cond (Nat.ble pc 166) (cond (Nat.beq pc 166) (tc_lcmp 167) tc_no) (cond (Nat.ble pc 167) (cond (Nat.beq pc 167) (tc_ifle 174 170) tc_no) (cond (Nat.beq pc 170) (tc_ldL 2 171) tc_no))) (cond (Nat.ble pc 174) (cond (Nat.ble pc 171) (cond (Nat.beq pc 171) (tc_goto 194) tc_no) (cond (Nat.beq pc 174) (tc_lc 32 177) tc_no)) (cond (Nat.ble pc 177) (cond (Nat.beq pc 177) (tc_ldL 2 178) tc_no) (cond (Nat.beq pc 178) (tc_lmul 179) tc_no)))) (cond (Nat.ble pc 183) (cond (Nat.ble pc 179) (cond (Nat.beq pc 179) (tc_ldA 0 180) tc_no) (cond (Nat.ble pc 180) (cond (Nat.beq pc 180) (tc_getf 7 9 183) tc_no) (cond (Nat.beq pc 183) (tc_ldA 0 184) tc_no))) (cond (Nat.ble pc 187) (cond (Nat.ble pc 184) (cond (Nat.beq pc 184) (tc_getf 7 18 187) tc_no) (cond (Nat.beq pc 187) (tc_iald 188) tc_no)) (cond (Nat.ble pc 188) (cond (Nat.beq pc 188) (tc_i2l 189) tc_no) (cond (Nat.beq pc 189) (tc_ladd 190) tc_no))))) (cond (Nat.ble pc 200) (cond (Nat.ble pc 194) (cond (Nat.ble pc 190) (cond (Nat.beq pc 190) (tc_lc 96 193) tc_no) (cond (Nat.ble pc 193) (cond (Nat.beq pc 193) (tc_lsub 194) tc_no) (cond (Nat.beq pc 194) (tc_stL 2 195) tc_no))) (cond (Nat.ble pc 196) (cond (Nat.ble pc 195) (cond (Nat.beq pc 195) (tc_ldA 0 196) tc_no) (cond (Nat.beq pc 196) (tc_dup 197) tc_no)) (cond (Nat.ble pc 197) (cond (Nat.beq pc 197) (tc_getf 7 18 200) tc_no) (cond (Nat.beq pc 200) (tc_ic 1 201) tc_no)))) (cond (Nat.ble pc 208) (cond (Nat.ble pc 202) (cond (Nat.ble pc 201) (cond (Nat.beq pc 201) (tc_iadd 202) tc_no) (cond (Nat.beq pc 202) (tc_putI 7 18 205) tc_no)) (cond (Nat.ble pc 205) (cond (Nat.beq pc 205) (tc_goto 129) tc_no) (cond (Nat.beq pc 208) (tc_ldA 0 209) tc_no))) (cond (Nat.ble pc 210) (cond (Nat.ble pc 209) (cond (Nat.beq pc 209) (tc_ldL 2 210) tc_no) (cond (Nat.beq pc 210) (tc_callS mX7_wordBy 1 213) tc_no)) (cond (Nat.ble pc 213) (cond (Nat.beq pc 213) (tc_putI 7 20 216) tc_no) (cond (Nat.beq pc 216) (tc_ret) tc_no)))))))
theorem okX7_readToken : ∀ pc, dt_S mX7_readToken (tbX7_readToken pc) pc := by
  intro pc
  unfold tbX7_readToken
  exact dt_Sb (dt_Sb (dt_Sb (dt_Sb (dt_Sb (dt_Sb (dt_Sl 0 (sn_ldAn rfl dX7_readToken_0 rfl)) (dt_Sb (dt_Sl 1 (sn_getf rfl ffX7 (by decide) wq_3_155 dX7_readToken_1 rfl)) (dt_Sl 4 (sn_ldAn rfl dX7_readToken_4 rfl)))) (dt_Sb (dt_Sb (dt_Sl 5 (sn_getf rfl ffX7 (by decide) wq_3_145 dX7_readToken_5 rfl)) (dt_Sl 8 (sn_icmpge dX7_readToken_8 (by decide) rfl))) (dt_Sb (dt_Sl 11 (sn_ldAn rfl dX7_readToken_11 rfl)) (dt_Sl 12 (sn_getf rfl ffX7 (by decide) wq_3_146 dX7_readToken_12 rfl))))) (dt_Sb (dt_Sb (dt_Sl 15 (sn_ldAn rfl dX7_readToken_15 rfl)) (dt_Sb (dt_Sl 16 (sn_getf rfl ffX7 (by decide) wq_3_155 dX7_readToken_16 rfl)) (dt_Sl 19 (sn_iald dX7_readToken_19 rfl)))) (dt_Sb (dt_Sb (dt_Sl 20 (sn_bi ⟨by decide, by decide⟩ rfl dX7_readToken_20 rfl)) (dt_Sl 22 (sn_icmpne dX7_readToken_22 (by decide) rfl))) (dt_Sb (dt_Sl 25 (sn_ldAn rfl dX7_readToken_25 rfl)) (dt_Sl 26 (sn_dup dX7_readToken_26 rfl)))))) (dt_Sb (dt_Sb (dt_Sb (dt_Sl 27 (sn_getf rfl ffX7 (by decide) wq_3_155 dX7_readToken_27 rfl)) (dt_Sb (dt_Sl 30 (sn_ic ⟨by decide, by decide⟩ dX7_readToken_30 rfl)) (dt_Sl 31 (sn_iadd dX7_readToken_31 rfl)))) (dt_Sb (dt_Sb (dt_Sl 32 (sn_putI rfl ffX7 (by decide) rfl rfl (by decide +kernel) wq_3_155 dX7_readToken_32 rfl)) (dt_Sl 35 (sn_goto dX7_readToken_35 (by decide)))) (dt_Sb (dt_Sl 38 (sn_ldAn rfl dX7_readToken_38 rfl)) (dt_Sl 39 (sn_ldAn rfl dX7_readToken_39 rfl))))) (dt_Sb (dt_Sb (dt_Sl 40 (sn_getf rfl ffX7 (by decide) wq_3_155 dX7_readToken_40 rfl)) (dt_Sb (dt_Sl 43 (sn_putI rfl ffX7 (by decide) rfl rfl (by decide +kernel) wq_3_156 dX7_readToken_43 rfl)) (dt_Sl 46 (sn_ldAn rfl dX7_readToken_46 rfl)))) (dt_Sb (dt_Sb (dt_Sl 47 (sn_getf rfl ffX7 (by decide) wq_3_155 dX7_readToken_47 rfl)) (dt_Sl 50 (sn_ldAn rfl dX7_readToken_50 rfl))) (dt_Sb (dt_Sl 51 (sn_getf rfl ffX7 (by decide) wq_3_145 dX7_readToken_51 rfl)) (dt_Sl 54 (sn_icmpne dX7_readToken_54 (by decide) rfl))))))) (dt_Sb (dt_Sb (dt_Sb (dt_Sb (dt_Sl 57 (sn_ldAn rfl dX7_readToken_57 rfl)) (dt_Sb (dt_Sl 58 (sn_bi ⟨by decide, by decide⟩ rfl dX7_readToken_58 rfl)) (dt_Sl 60 (sn_putI rfl ffX7 (by decide) rfl rfl (by decide +kernel) wq_3_157 dX7_readToken_60 rfl)))) (dt_Sb (dt_Sb (dt_Sl 63 (sn_ret rfl dX7_readToken_63)) (dt_Sl 64 (sn_ldAn rfl dX7_readToken_64 rfl))) (dt_Sb (dt_Sl 65 (sn_getf rfl ffX7 (by decide) wq_3_146 dX7_readToken_65 rfl)) (dt_Sl 68 (sn_ldAn rfl dX7_readToken_68 rfl))))) (dt_Sb (dt_Sb (dt_Sl 69 (sn_getf rfl ffX7 (by decide) wq_3_155 dX7_readToken_69 rfl)) (dt_Sb (dt_Sl 72 (sn_iald dX7_readToken_72 rfl)) (dt_Sl 73 (sn_stIn rfl (by decide) dX7_readToken_73 rfl)))) (dt_Sb (dt_Sb (dt_Sl 74 (sn_ldIn rfl dX7_readToken_74 rfl)) (dt_Sl 75 (sn_bi ⟨by decide, by decide⟩ rfl dX7_readToken_75 rfl))) (dt_Sb (dt_Sl 77 (sn_icmpeq dX7_readToken_77 (by decide) rfl)) (dt_Sl 80 (sn_ldIn rfl dX7_readToken_80 rfl)))))) (dt_Sb (dt_Sb (dt_Sb (dt_Sl 81 (sn_i2l dX7_readToken_81 rfl)) (dt_Sb (dt_Sl 82 (sn_ldc2 rfl ⟨by decide, by decide⟩ wq_4_36 dX7_readToken_82 rfl)) (dt_Sl 85 (sn_ldc2 rfl ⟨by decide, by decide⟩ wq_4_37 dX7_readToken_85 rfl)))) (dt_Sb (dt_Sb (dt_Sl 88 (sn_callS rfl nnX7_in wq_4_8 wq_4_9 dX7_readToken_88 rfl)) (dt_Sl 91 (sn_ifeq dX7_readToken_91 (by decide) rfl))) (dt_Sb (dt_Sl 94 (sn_ldAn rfl dX7_readToken_94 rfl)) (dt_Sl 95 (sn_ldIn rfl dX7_readToken_95 rfl))))) (dt_Sb (dt_Sb (dt_Sb (dt_Sl 96 (sn_bi ⟨by decide, by decide⟩ rfl dX7_readToken_96 rfl)) (dt_Sl 98 (sn_icmpne dX7_readToken_98 (by decide) rfl))) (dt_Sb (dt_Sl 101 (sn_bi ⟨by decide, by decide⟩ rfl dX7_readToken_101 rfl)) (dt_Sl 103 (sn_goto dX7_readToken_103 (by decide))))) (dt_Sb (dt_Sb (dt_Sl 106 (sn_bi ⟨by decide, by decide⟩ rfl dX7_readToken_106 rfl)) (dt_Sl 108 (sn_ldIn rfl dX7_readToken_108 rfl))) (dt_Sb (dt_Sl 109 (sn_iadd dX7_readToken_109 rfl)) (dt_Sl 110 (sn_bi ⟨by decide, by decide⟩ rfl dX7_readToken_110 rfl)))))))) (dt_Sb (dt_Sb (dt_Sb (dt_Sb (dt_Sb (dt_Sl 112 (sn_isub dX7_readToken_112 rfl)) (dt_Sb (dt_Sl 113 (sn_putI rfl ffX7 (by decide) rfl rfl (by decide +kernel) wq_3_157 dX7_readToken_113 rfl)) (dt_Sl 116 (sn_ldAn rfl dX7_readToken_116 rfl)))) (dt_Sb (dt_Sb (dt_Sl 117 (sn_dup dX7_readToken_117 rfl)) (dt_Sl 118 (sn_getf rfl ffX7 (by decide) wq_3_155 dX7_readToken_118 rfl))) (dt_Sb (dt_Sl 121 (sn_ic ⟨by decide, by decide⟩ dX7_readToken_121 rfl)) (dt_Sl 122 (sn_iadd dX7_readToken_122 rfl))))) (dt_Sb (dt_Sb (dt_Sl 123 (sn_putI rfl ffX7 (by decide) rfl rfl (by decide +kernel) wq_3_155 dX7_readToken_123 rfl)) (dt_Sb (dt_Sl 126 (sn_ret rfl dX7_readToken_126)) (dt_Sl 127 (sn_lc (k := 0) ⟨by decide, by decide⟩ rfl dX7_readToken_127 rfl)))) (dt_Sb (dt_Sb (dt_Sl 128 (sn_stLn rfl (by decide) dX7_readToken_128 rfl)) (dt_Sl 129 (sn_ldAn rfl dX7_readToken_129 rfl))) (dt_Sb (dt_Sl 130 (sn_getf rfl ffX7 (by decide) wq_3_155 dX7_readToken_130 rfl)) (dt_Sl 133 (sn_ldAn rfl dX7_readToken_133 rfl)))))) (dt_Sb (dt_Sb (dt_Sb (dt_Sl 134 (sn_getf rfl ffX7 (by decide) wq_3_145 dX7_readToken_134 rfl)) (dt_Sb (dt_Sl 137 (sn_icmpge dX7_readToken_137 (by decide) rfl)) (dt_Sl 140 (sn_ldAn rfl dX7_readToken_140 rfl)))) (dt_Sb (dt_Sb (dt_Sl 141 (sn_getf rfl ffX7 (by decide) wq_3_146 dX7_readToken_141 rfl)) (dt_Sl 144 (sn_ldAn rfl dX7_readToken_144 rfl))) (dt_Sb (dt_Sl 145 (sn_getf rfl ffX7 (by decide) wq_3_155 dX7_readToken_145 rfl)) (dt_Sl 148 (sn_iald dX7_readToken_148 rfl))))) (dt_Sb (dt_Sb (dt_Sl 149 (sn_i2l dX7_readToken_149 rfl)) (dt_Sb (dt_Sl 150 (sn_ldc2 rfl ⟨by decide, by decide⟩ wq_4_38 dX7_readToken_150 rfl)) (dt_Sl 153 (sn_ldc2 rfl ⟨by decide, by decide⟩ wq_4_39 dX7_readToken_153 rfl)))) (dt_Sb (dt_Sb (dt_Sl 156 (sn_callS rfl nnX7_in wq_4_8 wq_4_9 dX7_readToken_156 rfl)) (dt_Sl 159 (sn_ifeq dX7_readToken_159 (by decide) rfl))) (dt_Sb (dt_Sl 162 (sn_ldLn rfl dX7_readToken_162 rfl)) (dt_Sl 163 (sn_ldc2 rfl ⟨by decide, by decide⟩ wq_4_40 dX7_readToken_163 rfl))))))) (dt_Sb (dt_Sb (dt_Sb (dt_Sb (dt_Sl 166 (sn_lcmp dX7_readToken_166 rfl)) (dt_Sb (dt_Sl 167 (sn_ifle dX7_readToken_167 (by decide) rfl)) (dt_Sl 170 (sn_ldLn rfl dX7_readToken_170 rfl)))) (dt_Sb (dt_Sb (dt_Sl 171 (sn_goto dX7_readToken_171 (by decide))) (dt_Sl 174 (sn_ldc2 rfl ⟨by decide, by decide⟩ wq_4_41 dX7_readToken_174 rfl))) (dt_Sb (dt_Sl 177 (sn_ldLn rfl dX7_readToken_177 rfl)) (dt_Sl 178 (sn_lmul dX7_readToken_178 rfl))))) (dt_Sb (dt_Sb (dt_Sl 179 (sn_ldAn rfl dX7_readToken_179 rfl)) (dt_Sb (dt_Sl 180 (sn_getf rfl ffX7 (by decide) wq_3_146 dX7_readToken_180 rfl)) (dt_Sl 183 (sn_ldAn rfl dX7_readToken_183 rfl)))) (dt_Sb (dt_Sb (dt_Sl 184 (sn_getf rfl ffX7 (by decide) wq_3_155 dX7_readToken_184 rfl)) (dt_Sl 187 (sn_iald dX7_readToken_187 rfl))) (dt_Sb (dt_Sl 188 (sn_i2l dX7_readToken_188 rfl)) (dt_Sl 189 (sn_ladd dX7_readToken_189 rfl)))))) (dt_Sb (dt_Sb (dt_Sb (dt_Sl 190 (sn_ldc2 rfl ⟨by decide, by decide⟩ wq_4_42 dX7_readToken_190 rfl)) (dt_Sb (dt_Sl 193 (sn_lsub dX7_readToken_193 rfl)) (dt_Sl 194 (sn_stLn rfl (by decide) dX7_readToken_194 rfl)))) (dt_Sb (dt_Sb (dt_Sl 195 (sn_ldAn rfl dX7_readToken_195 rfl)) (dt_Sl 196 (sn_dup dX7_readToken_196 rfl))) (dt_Sb (dt_Sl 197 (sn_getf rfl ffX7 (by decide) wq_3_155 dX7_readToken_197 rfl)) (dt_Sl 200 (sn_ic ⟨by decide, by decide⟩ dX7_readToken_200 rfl))))) (dt_Sb (dt_Sb (dt_Sb (dt_Sl 201 (sn_iadd dX7_readToken_201 rfl)) (dt_Sl 202 (sn_putI rfl ffX7 (by decide) rfl rfl (by decide +kernel) wq_3_155 dX7_readToken_202 rfl))) (dt_Sb (dt_Sl 205 (sn_goto dX7_readToken_205 (by decide))) (dt_Sl 208 (sn_ldAn rfl dX7_readToken_208 rfl)))) (dt_Sb (dt_Sb (dt_Sl 209 (sn_ldLn rfl dX7_readToken_209 rfl)) (dt_Sl 210 (sn_callS rfl nnX7_wordBy wq_4_43 wq_4_44 dX7_readToken_210 rfl))) (dt_Sb (dt_Sl 213 (sn_putI rfl ffX7 (by decide) rfl rfl (by decide +kernel) wq_3_157 dX7_readToken_213 rfl)) (dt_Sl 216 (sn_ret rfl dX7_readToken_216))))))))
theorem dX7_openSend_0 : decode cX7_openSend 0 = .ok (.iconst 0, 1) := by decide +kernel
theorem dX7_openSend_1 : decode cX7_openSend 1 = .ok (.istore 4, 2) := by decide +kernel
theorem dX7_openSend_3 : decode cX7_openSend 3 = .ok (.iload 4, 2) := by decide +kernel
theorem dX7_openSend_5 : decode cX7_openSend 5 = .ok (.aload_n 0, 1) := by decide +kernel
theorem dX7_openSend_6 : decode cX7_openSend 6 = .ok (.getfield 126, 3) := by decide +kernel
theorem dX7_openSend_9 : decode cX7_openSend 9 = .ok (.if_icmp .ge 79, 3) := by decide +kernel
theorem dX7_openSend_12 : decode cX7_openSend 12 = .ok (.aload_n 0, 1) := by decide +kernel
theorem dX7_openSend_13 : decode cX7_openSend 13 = .ok (.getfield 38, 3) := by decide +kernel
theorem dX7_openSend_16 : decode cX7_openSend 16 = .ok (.iload 4, 2) := by decide +kernel
theorem dX7_openSend_18 : decode cX7_openSend 18 = .ok (.baload, 1) := by decide +kernel
theorem dX7_openSend_19 : decode cX7_openSend 19 = .ok (.ifCond .ne 41, 3) := by decide +kernel
theorem dX7_openSend_22 : decode cX7_openSend 22 = .ok (.aload_n 0, 1) := by decide +kernel
theorem dX7_openSend_23 : decode cX7_openSend 23 = .ok (.getfield 50, 3) := by decide +kernel
theorem dX7_openSend_26 : decode cX7_openSend 26 = .ok (.iload 4, 2) := by decide +kernel
theorem dX7_openSend_28 : decode cX7_openSend 28 = .ok (.iaload, 1) := by decide +kernel
theorem dX7_openSend_29 : decode cX7_openSend 29 = .ok (.bipush (-9), 2) := by decide +kernel
theorem dX7_openSend_31 : decode cX7_openSend 31 = .ok (.if_icmp .ne 29, 3) := by decide +kernel
theorem dX7_openSend_34 : decode cX7_openSend 34 = .ok (.aload_n 0, 1) := by decide +kernel
theorem dX7_openSend_35 : decode cX7_openSend 35 = .ok (.getfield 41, 3) := by decide +kernel
theorem dX7_openSend_38 : decode cX7_openSend 38 = .ok (.iload 4, 2) := by decide +kernel
theorem dX7_openSend_40 : decode cX7_openSend 40 = .ok (.iaload, 1) := by decide +kernel
theorem dX7_openSend_41 : decode cX7_openSend 41 = .ok (.iload_n 1, 1) := by decide +kernel
theorem dX7_openSend_42 : decode cX7_openSend 42 = .ok (.if_icmp .ne 18, 3) := by decide +kernel
theorem dX7_openSend_45 : decode cX7_openSend 45 = .ok (.aload_n 0, 1) := by decide +kernel
theorem dX7_openSend_46 : decode cX7_openSend 46 = .ok (.getfield 44, 3) := by decide +kernel
theorem dX7_openSend_49 : decode cX7_openSend 49 = .ok (.iload 4, 2) := by decide +kernel
theorem dX7_openSend_51 : decode cX7_openSend 51 = .ok (.iaload, 1) := by decide +kernel
theorem dX7_openSend_52 : decode cX7_openSend 52 = .ok (.iload_n 2, 1) := by decide +kernel
theorem dX7_openSend_53 : decode cX7_openSend 53 = .ok (.if_icmp .ne 7, 3) := by decide +kernel
theorem dX7_openSend_56 : decode cX7_openSend 56 = .ok (.iconst 1, 1) := by decide +kernel
theorem dX7_openSend_57 : decode cX7_openSend 57 = .ok (.goto 4, 3) := by decide +kernel
theorem dX7_openSend_60 : decode cX7_openSend 60 = .ok (.iconst 0, 1) := by decide +kernel
theorem dX7_openSend_61 : decode cX7_openSend 61 = .ok (.istore 5, 2) := by decide +kernel
theorem dX7_openSend_63 : decode cX7_openSend 63 = .ok (.iload 5, 2) := by decide +kernel
theorem dX7_openSend_65 : decode cX7_openSend 65 = .ok (.ifCond .eq 17, 3) := by decide +kernel
theorem dX7_openSend_68 : decode cX7_openSend 68 = .ok (.aload_n 0, 1) := by decide +kernel
theorem dX7_openSend_69 : decode cX7_openSend 69 = .ok (.getfield 47, 3) := by decide +kernel
theorem dX7_openSend_72 : decode cX7_openSend 72 = .ok (.iload 4, 2) := by decide +kernel
theorem dX7_openSend_74 : decode cX7_openSend 74 = .ok (.iaload, 1) := by decide +kernel
theorem dX7_openSend_75 : decode cX7_openSend 75 = .ok (.iload_n 3, 1) := by decide +kernel
theorem dX7_openSend_76 : decode cX7_openSend 76 = .ok (.if_icmp .ne 6, 3) := by decide +kernel
theorem dX7_openSend_79 : decode cX7_openSend 79 = .ok (.iload 4, 2) := by decide +kernel
theorem dX7_openSend_81 : decode cX7_openSend 81 = .ok (.ireturn, 1) := by decide +kernel
theorem dX7_openSend_82 : decode cX7_openSend 82 = .ok (.iinc 4 1, 3) := by decide +kernel
theorem dX7_openSend_85 : decode cX7_openSend 85 = .ok (.goto (-82), 3) := by decide +kernel
theorem dX7_openSend_88 : decode cX7_openSend 88 = .ok (.bipush (-9), 2) := by decide +kernel
theorem dX7_openSend_90 : decode cX7_openSend 90 = .ok (.ireturn, 1) := by decide +kernel
def tbX7_openSend (pc : Nat) : dt_T := cond (Nat.ble pc 42) (cond (Nat.ble pc 19) (cond (Nat.ble pc 6) (cond (Nat.ble pc 1) (cond (Nat.ble pc 0) (cond (Nat.beq pc 0) (tc_ic 0 1) tc_no) (cond (Nat.beq pc 1) (tc_stI 4 3) tc_no)) (cond (Nat.ble pc 3) (cond (Nat.beq pc 3) (tc_ldI 4 5) tc_no) (cond (Nat.ble pc 5) (cond (Nat.beq pc 5) (tc_ldA 0 6) tc_no) (cond (Nat.beq pc 6) (tc_getf 7 10 9) tc_no)))) (cond (Nat.ble pc 13) (cond (Nat.ble pc 9) (cond (Nat.beq pc 9) (tc_icmpge 88 12) tc_no) (cond (Nat.ble pc 12) (cond (Nat.beq pc 12) (tc_ldA 0 13) tc_no) (cond (Nat.beq pc 13) (tc_getf 7 13 16) tc_no))) (cond (Nat.ble pc 16) (cond (Nat.beq pc 16) (tc_ldI 4 18) tc_no) (cond (Nat.ble pc 18) (cond (Nat.beq pc 18) (tc_zald 19) tc_no) (cond (Nat.beq pc 19) (tc_ifne 60 22) tc_no))))) (cond (Nat.ble pc 31) (cond (Nat.ble pc 26) (cond (Nat.ble pc 22) (cond (Nat.beq pc 22) (tc_ldA 0 23) tc_no) (cond (Nat.ble pc 23) (cond (Nat.beq pc 23) (tc_getf 7 17 26) tc_no) (cond (Nat.beq pc 26) (tc_ldI 4 28) tc_no))) (cond (Nat.ble pc 28) (cond (Nat.beq pc 28) (tc_iald 29) tc_no) (cond (Nat.ble pc 29) (cond (Nat.beq pc 29) (tc_ic (-9) 31) tc_no) (cond (Nat.beq pc 31) (tc_icmpne 60 34) tc_no)))) (cond (Nat.ble pc 38) (cond (Nat.ble pc 34) (cond (Nat.beq pc 34) (tc_ldA 0 35) tc_no) (cond (Nat.ble pc 35) (cond (Nat.beq pc 35) (tc_getf 7 14 38) tc_no) (cond (Nat.beq pc 38) (tc_ldI 4 40) tc_no))) (cond (Nat.ble pc 40) (cond (Nat.beq pc 40) (tc_iald 41) tc_no) (cond (Nat.ble pc 41) (cond (Nat.beq pc 41) (tc_ldI 1 42) tc_no) (cond (Nat.beq pc 42) (tc_icmpne 60 45) tc_no)))))) (cond (Nat.ble pc 65) (cond (Nat.ble pc 53) (cond (Nat.ble pc 49) (cond (Nat.ble pc 45) (cond (Nat.beq pc 45) (tc_ldA 0 46) tc_no) (cond (Nat.ble pc 46) (cond (Nat.beq pc 46) (tc_getf 7 15 49) tc_no) (cond (Nat.beq pc 49) (tc_ldI 4 51) tc_no))) (cond (Nat.ble pc 51) (cond (Nat.beq pc 51) (tc_iald 52) tc_no) (cond (Nat.ble pc 52) (cond (Nat.beq pc 52) (tc_ldI 2 53) tc_no) (cond (Nat.beq pc 53) (tc_icmpne 60 56) tc_no)))) (cond (Nat.ble pc 60) (cond (Nat.ble pc 56) (cond (Nat.beq pc 56) (tc_ic 1 57) tc_no) (cond (Nat.ble pc 57) (cond (Nat.beq pc 57) (tc_goto 61) tc_no) (cond (Nat.beq pc 60) (tc_ic 0 61) tc_no))) (cond (Nat.ble pc 61) (cond (Nat.beq pc 61) (tc_stI 5 63) tc_no) (cond (Nat.ble pc 63) (cond (Nat.beq pc 63) (tc_ldI 5 65) tc_no) (cond (Nat.beq pc 65) (tc_ifeq 82 68) tc_no))))) (cond (Nat.ble pc 76) (cond (Nat.ble pc 72) (cond (Nat.ble pc 68) (cond (Nat.beq pc 68) (tc_ldA 0 69) tc_no) (cond (Nat.ble pc 69) (cond (Nat.beq pc 69) (tc_getf 7 16 72) tc_no) (cond (Nat.beq pc 72) (tc_ldI 4 74) tc_no))) (cond (Nat.ble pc 74) (cond (Nat.beq pc 74) (tc_iald 75) tc_no) (cond (Nat.ble pc 75) (cond (Nat.beq pc 75) (tc_ldI 3 76) tc_no) (cond (Nat.beq pc 76) (tc_icmpne 82 79) tc_no)))) (cond (Nat.ble pc 82) (cond (Nat.ble pc 79) (cond (Nat.beq pc 79) (tc_ldI 4 81) tc_no) (cond (Nat.ble pc 81) (cond (Nat.beq pc 81) (tc_iret) tc_no) (cond (Nat.beq pc 82) (tc_iinc 4 1 85) tc_no))) (cond (Nat.ble pc 85) (cond (Nat.beq pc 85) (tc_goto 3) tc_no) (cond (Nat.ble pc 88) (cond (Nat.beq pc 88) (tc_ic (-9) 90) tc_no) (cond (Nat.beq pc 90) (tc_iret) tc_no))))))
theorem okX7_openSend : ∀ pc, dt_S mX7_openSend (tbX7_openSend pc) pc := by
  intro pc
  unfold tbX7_openSend
  exact dt_Sb (dt_Sb (dt_Sb (dt_Sb (dt_Sb (dt_Sl 0 (sn_ic ⟨by decide, by decide⟩ dX7_openSend_0 rfl)) (dt_Sl 1 (sn_stI (by decide) dX7_openSend_1 rfl))) (dt_Sb (dt_Sl 3 (sn_ldI dX7_openSend_3 rfl)) (dt_Sb (dt_Sl 5 (sn_ldAn rfl dX7_openSend_5 rfl)) (dt_Sl 6 (sn_getf rfl ffX7 (by decide) wq_3_147 dX7_openSend_6 rfl))))) (dt_Sb (dt_Sb (dt_Sl 9 (sn_icmpge dX7_openSend_9 (by decide) rfl)) (dt_Sb (dt_Sl 12 (sn_ldAn rfl dX7_openSend_12 rfl)) (dt_Sl 13 (sn_getf rfl ffX7 (by decide) wq_3_150 dX7_openSend_13 rfl)))) (dt_Sb (dt_Sl 16 (sn_ldI dX7_openSend_16 rfl)) (dt_Sb (dt_Sl 18 (sn_zald dX7_openSend_18 rfl)) (dt_Sl 19 (sn_ifne dX7_openSend_19 (by decide) rfl)))))) (dt_Sb (dt_Sb (dt_Sb (dt_Sl 22 (sn_ldAn rfl dX7_openSend_22 rfl)) (dt_Sb (dt_Sl 23 (sn_getf rfl ffX7 (by decide) wq_3_154 dX7_openSend_23 rfl)) (dt_Sl 26 (sn_ldI dX7_openSend_26 rfl)))) (dt_Sb (dt_Sl 28 (sn_iald dX7_openSend_28 rfl)) (dt_Sb (dt_Sl 29 (sn_bi ⟨by decide, by decide⟩ rfl dX7_openSend_29 rfl)) (dt_Sl 31 (sn_icmpne dX7_openSend_31 (by decide) rfl))))) (dt_Sb (dt_Sb (dt_Sl 34 (sn_ldAn rfl dX7_openSend_34 rfl)) (dt_Sb (dt_Sl 35 (sn_getf rfl ffX7 (by decide) wq_3_151 dX7_openSend_35 rfl)) (dt_Sl 38 (sn_ldI dX7_openSend_38 rfl)))) (dt_Sb (dt_Sl 40 (sn_iald dX7_openSend_40 rfl)) (dt_Sb (dt_Sl 41 (sn_ldIn rfl dX7_openSend_41 rfl)) (dt_Sl 42 (sn_icmpne dX7_openSend_42 (by decide) rfl))))))) (dt_Sb (dt_Sb (dt_Sb (dt_Sb (dt_Sl 45 (sn_ldAn rfl dX7_openSend_45 rfl)) (dt_Sb (dt_Sl 46 (sn_getf rfl ffX7 (by decide) wq_3_152 dX7_openSend_46 rfl)) (dt_Sl 49 (sn_ldI dX7_openSend_49 rfl)))) (dt_Sb (dt_Sl 51 (sn_iald dX7_openSend_51 rfl)) (dt_Sb (dt_Sl 52 (sn_ldIn rfl dX7_openSend_52 rfl)) (dt_Sl 53 (sn_icmpne dX7_openSend_53 (by decide) rfl))))) (dt_Sb (dt_Sb (dt_Sl 56 (sn_ic ⟨by decide, by decide⟩ dX7_openSend_56 rfl)) (dt_Sb (dt_Sl 57 (sn_goto dX7_openSend_57 (by decide))) (dt_Sl 60 (sn_ic ⟨by decide, by decide⟩ dX7_openSend_60 rfl)))) (dt_Sb (dt_Sl 61 (sn_stI (by decide) dX7_openSend_61 rfl)) (dt_Sb (dt_Sl 63 (sn_ldI dX7_openSend_63 rfl)) (dt_Sl 65 (sn_ifeq dX7_openSend_65 (by decide) rfl)))))) (dt_Sb (dt_Sb (dt_Sb (dt_Sl 68 (sn_ldAn rfl dX7_openSend_68 rfl)) (dt_Sb (dt_Sl 69 (sn_getf rfl ffX7 (by decide) wq_3_153 dX7_openSend_69 rfl)) (dt_Sl 72 (sn_ldI dX7_openSend_72 rfl)))) (dt_Sb (dt_Sl 74 (sn_iald dX7_openSend_74 rfl)) (dt_Sb (dt_Sl 75 (sn_ldIn rfl dX7_openSend_75 rfl)) (dt_Sl 76 (sn_icmpne dX7_openSend_76 (by decide) rfl))))) (dt_Sb (dt_Sb (dt_Sl 79 (sn_ldI dX7_openSend_79 rfl)) (dt_Sb (dt_Sl 81 (sn_iret rfl dX7_openSend_81)) (dt_Sl 82 (sn_iinc (by decide) dX7_openSend_82 rfl)))) (dt_Sb (dt_Sl 85 (sn_goto dX7_openSend_85 (by decide))) (dt_Sb (dt_Sl 88 (sn_bi ⟨by decide, by decide⟩ rfl dX7_openSend_88 rfl)) (dt_Sl 90 (sn_iret rfl dX7_openSend_90)))))))
theorem dX7_addEvent_0 : decode cX7_addEvent 0 = .ok (.aload_n 0, 1) := by decide +kernel
theorem dX7_addEvent_1 : decode cX7_addEvent 1 = .ok (.getfield 38, 3) := by decide +kernel
theorem dX7_addEvent_4 : decode cX7_addEvent 4 = .ok (.aload_n 0, 1) := by decide +kernel
theorem dX7_addEvent_5 : decode cX7_addEvent 5 = .ok (.getfield 126, 3) := by decide +kernel
theorem dX7_addEvent_8 : decode cX7_addEvent 8 = .ok (.iload_n 1, 1) := by decide +kernel
theorem dX7_addEvent_9 : decode cX7_addEvent 9 = .ok (.bastore, 1) := by decide +kernel
theorem dX7_addEvent_10 : decode cX7_addEvent 10 = .ok (.aload_n 0, 1) := by decide +kernel
theorem dX7_addEvent_11 : decode cX7_addEvent 11 = .ok (.getfield 41, 3) := by decide +kernel
theorem dX7_addEvent_14 : decode cX7_addEvent 14 = .ok (.aload_n 0, 1) := by decide +kernel
theorem dX7_addEvent_15 : decode cX7_addEvent 15 = .ok (.getfield 126, 3) := by decide +kernel
theorem dX7_addEvent_18 : decode cX7_addEvent 18 = .ok (.iload_n 2, 1) := by decide +kernel
theorem dX7_addEvent_19 : decode cX7_addEvent 19 = .ok (.iastore, 1) := by decide +kernel
theorem dX7_addEvent_20 : decode cX7_addEvent 20 = .ok (.aload_n 0, 1) := by decide +kernel
theorem dX7_addEvent_21 : decode cX7_addEvent 21 = .ok (.getfield 44, 3) := by decide +kernel
theorem dX7_addEvent_24 : decode cX7_addEvent 24 = .ok (.aload_n 0, 1) := by decide +kernel
theorem dX7_addEvent_25 : decode cX7_addEvent 25 = .ok (.getfield 126, 3) := by decide +kernel
theorem dX7_addEvent_28 : decode cX7_addEvent 28 = .ok (.iload_n 3, 1) := by decide +kernel
theorem dX7_addEvent_29 : decode cX7_addEvent 29 = .ok (.iastore, 1) := by decide +kernel
theorem dX7_addEvent_30 : decode cX7_addEvent 30 = .ok (.aload_n 0, 1) := by decide +kernel
theorem dX7_addEvent_31 : decode cX7_addEvent 31 = .ok (.getfield 47, 3) := by decide +kernel
theorem dX7_addEvent_34 : decode cX7_addEvent 34 = .ok (.aload_n 0, 1) := by decide +kernel
theorem dX7_addEvent_35 : decode cX7_addEvent 35 = .ok (.getfield 126, 3) := by decide +kernel
theorem dX7_addEvent_38 : decode cX7_addEvent 38 = .ok (.iload 4, 2) := by decide +kernel
theorem dX7_addEvent_40 : decode cX7_addEvent 40 = .ok (.iastore, 1) := by decide +kernel
theorem dX7_addEvent_41 : decode cX7_addEvent 41 = .ok (.aload_n 0, 1) := by decide +kernel
theorem dX7_addEvent_42 : decode cX7_addEvent 42 = .ok (.getfield 50, 3) := by decide +kernel
theorem dX7_addEvent_45 : decode cX7_addEvent 45 = .ok (.aload_n 0, 1) := by decide +kernel
theorem dX7_addEvent_46 : decode cX7_addEvent 46 = .ok (.getfield 126, 3) := by decide +kernel
theorem dX7_addEvent_49 : decode cX7_addEvent 49 = .ok (.iload 5, 2) := by decide +kernel
theorem dX7_addEvent_51 : decode cX7_addEvent 51 = .ok (.iastore, 1) := by decide +kernel
theorem dX7_addEvent_52 : decode cX7_addEvent 52 = .ok (.aload_n 0, 1) := by decide +kernel
theorem dX7_addEvent_53 : decode cX7_addEvent 53 = .ok (.dup, 1) := by decide +kernel
theorem dX7_addEvent_54 : decode cX7_addEvent 54 = .ok (.getfield 129, 3) := by decide +kernel
theorem dX7_addEvent_57 : decode cX7_addEvent 57 = .ok (.iload_n 1, 1) := by decide +kernel
theorem dX7_addEvent_58 : decode cX7_addEvent 58 = .ok (.ifCond .eq 7, 3) := by decide +kernel
theorem dX7_addEvent_61 : decode cX7_addEvent 61 = .ok (.iconst 0, 1) := by decide +kernel
theorem dX7_addEvent_62 : decode cX7_addEvent 62 = .ok (.goto 4, 3) := by decide +kernel
theorem dX7_addEvent_65 : decode cX7_addEvent 65 = .ok (.iconst 1, 1) := by decide +kernel
theorem dX7_addEvent_66 : decode cX7_addEvent 66 = .ok (.iadd, 1) := by decide +kernel
theorem dX7_addEvent_67 : decode cX7_addEvent 67 = .ok (.putfield 129, 3) := by decide +kernel
theorem dX7_addEvent_70 : decode cX7_addEvent 70 = .ok (.aload_n 0, 1) := by decide +kernel
theorem dX7_addEvent_71 : decode cX7_addEvent 71 = .ok (.dup, 1) := by decide +kernel
theorem dX7_addEvent_72 : decode cX7_addEvent 72 = .ok (.getfield 132, 3) := by decide +kernel
theorem dX7_addEvent_75 : decode cX7_addEvent 75 = .ok (.iload_n 1, 1) := by decide +kernel
theorem dX7_addEvent_76 : decode cX7_addEvent 76 = .ok (.ifCond .eq 7, 3) := by decide +kernel
theorem dX7_addEvent_79 : decode cX7_addEvent 79 = .ok (.iconst (-1), 1) := by decide +kernel
theorem dX7_addEvent_80 : decode cX7_addEvent 80 = .ok (.goto 4, 3) := by decide +kernel
theorem dX7_addEvent_83 : decode cX7_addEvent 83 = .ok (.iconst 1, 1) := by decide +kernel
theorem dX7_addEvent_84 : decode cX7_addEvent 84 = .ok (.iadd, 1) := by decide +kernel
theorem dX7_addEvent_85 : decode cX7_addEvent 85 = .ok (.putfield 132, 3) := by decide +kernel
theorem dX7_addEvent_88 : decode cX7_addEvent 88 = .ok (.iload_n 1, 1) := by decide +kernel
theorem dX7_addEvent_89 : decode cX7_addEvent 89 = .ok (.ifCond .eq 14, 3) := by decide +kernel
theorem dX7_addEvent_92 : decode cX7_addEvent 92 = .ok (.aload_n 0, 1) := by decide +kernel
theorem dX7_addEvent_93 : decode cX7_addEvent 93 = .ok (.getfield 50, 3) := by decide +kernel
theorem dX7_addEvent_96 : decode cX7_addEvent 96 = .ok (.iload 5, 2) := by decide +kernel
theorem dX7_addEvent_98 : decode cX7_addEvent 98 = .ok (.aload_n 0, 1) := by decide +kernel
theorem dX7_addEvent_99 : decode cX7_addEvent 99 = .ok (.getfield 126, 3) := by decide +kernel
theorem dX7_addEvent_102 : decode cX7_addEvent 102 = .ok (.iastore, 1) := by decide +kernel
theorem dX7_addEvent_103 : decode cX7_addEvent 103 = .ok (.aload_n 0, 1) := by decide +kernel
theorem dX7_addEvent_104 : decode cX7_addEvent 104 = .ok (.dup, 1) := by decide +kernel
theorem dX7_addEvent_105 : decode cX7_addEvent 105 = .ok (.getfield 126, 3) := by decide +kernel
theorem dX7_addEvent_108 : decode cX7_addEvent 108 = .ok (.iconst 1, 1) := by decide +kernel
theorem dX7_addEvent_109 : decode cX7_addEvent 109 = .ok (.iadd, 1) := by decide +kernel
theorem dX7_addEvent_110 : decode cX7_addEvent 110 = .ok (.putfield 126, 3) := by decide +kernel
theorem dX7_addEvent_113 : decode cX7_addEvent 113 = .ok (.return_, 1) := by decide +kernel
def tbX7_addEvent (pc : Nat) : dt_T := cond (Nat.ble pc 53) (cond (Nat.ble pc 25) (cond (Nat.ble pc 11) (cond (Nat.ble pc 5) (cond (Nat.ble pc 1) (cond (Nat.ble pc 0) (cond (Nat.beq pc 0) (tc_ldA 0 1) tc_no) (cond (Nat.beq pc 1) (tc_getf 7 13 4) tc_no)) (cond (Nat.ble pc 4) (cond (Nat.beq pc 4) (tc_ldA 0 5) tc_no) (cond (Nat.beq pc 5) (tc_getf 7 10 8) tc_no))) (cond (Nat.ble pc 9) (cond (Nat.ble pc 8) (cond (Nat.beq pc 8) (tc_ldI 1 9) tc_no) (cond (Nat.beq pc 9) (tc_zast 10) tc_no)) (cond (Nat.ble pc 10) (cond (Nat.beq pc 10) (tc_ldA 0 11) tc_no) (cond (Nat.beq pc 11) (tc_getf 7 14 14) tc_no)))) (cond (Nat.ble pc 19) (cond (Nat.ble pc 15) (cond (Nat.ble pc 14) (cond (Nat.beq pc 14) (tc_ldA 0 15) tc_no) (cond (Nat.beq pc 15) (tc_getf 7 10 18) tc_no)) (cond (Nat.ble pc 18) (cond (Nat.beq pc 18) (tc_ldI 2 19) tc_no) (cond (Nat.beq pc 19) (tc_iast 20) tc_no))) (cond (Nat.ble pc 21) (cond (Nat.ble pc 20) (cond (Nat.beq pc 20) (tc_ldA 0 21) tc_no) (cond (Nat.beq pc 21) (tc_getf 7 15 24) tc_no)) (cond (Nat.ble pc 24) (cond (Nat.beq pc 24) (tc_ldA 0 25) tc_no) (cond (Nat.beq pc 25) (tc_getf 7 10 28) tc_no))))) (cond (Nat.ble pc 40) (cond (Nat.ble pc 31) (cond (Nat.ble pc 29) (cond (Nat.ble pc 28) (cond (Nat.beq pc 28) (tc_ldI 3 29) tc_no) (cond (Nat.beq pc 29) (tc_iast 30) tc_no)) (cond (Nat.ble pc 30) (cond (Nat.beq pc 30) (tc_ldA 0 31) tc_no) (cond (Nat.beq pc 31) (tc_getf 7 16 34) tc_no))) (cond (Nat.ble pc 35) (cond (Nat.ble pc 34) (cond (Nat.beq pc 34) (tc_ldA 0 35) tc_no) (cond (Nat.beq pc 35) (tc_getf 7 10 38) tc_no)) (cond (Nat.ble pc 38) (cond (Nat.beq pc 38) (tc_ldI 4 40) tc_no) (cond (Nat.beq pc 40) (tc_iast 41) tc_no)))) (cond (Nat.ble pc 46) (cond (Nat.ble pc 42) (cond (Nat.ble pc 41) (cond (Nat.beq pc 41) (tc_ldA 0 42) tc_no) (cond (Nat.beq pc 42) (tc_getf 7 17 45) tc_no)) (cond (Nat.ble pc 45) (cond (Nat.beq pc 45) (tc_ldA 0 46) tc_no) (cond (Nat.beq pc 46) (tc_getf 7 10 49) tc_no))) (cond (Nat.ble pc 51) (cond (Nat.ble pc 49) (cond (Nat.beq pc 49) (tc_ldI 5 51) tc_no) (cond (Nat.beq pc 51) (tc_iast 52) tc_no)) (cond (Nat.ble pc 52) (cond (Nat.beq pc 52) (tc_ldA 0 53) tc_no) (cond (Nat.beq pc 53) (tc_dup 54) tc_no)))))) (cond (Nat.ble pc 83) (cond (Nat.ble pc 67) (cond (Nat.ble pc 61) (cond (Nat.ble pc 57) (cond (Nat.ble pc 54) (cond (Nat.beq pc 54) (tc_getf 7 11 57) tc_no) (cond (Nat.beq pc 57) (tc_ldI 1 58) tc_no)) (cond (Nat.ble pc 58) (cond (Nat.beq pc 58) (tc_ifeq 65 61) tc_no) (cond (Nat.beq pc 61) (tc_ic 0 62) tc_no))) (cond (Nat.ble pc 65) (cond (Nat.ble pc 62) (cond (Nat.beq pc 62) (tc_goto 66) tc_no) (cond (Nat.beq pc 65) (tc_ic 1 66) tc_no)) (cond (Nat.ble pc 66) (cond (Nat.beq pc 66) (tc_iadd 67) tc_no) (cond (Nat.beq pc 67) (tc_putI 7 11 70) tc_no)))) (cond (Nat.ble pc 75) (cond (Nat.ble pc 71) (cond (Nat.ble pc 70) (cond (Nat.beq pc 70) (tc_ldA 0 71) tc_no) (cond (Nat.beq pc 71) (tc_dup 72) tc_no)) (cond (Nat.ble pc 72) (cond (Nat.beq pc 72) (tc_getf 7 12 75) tc_no) (cond (Nat.beq pc 75) (tc_ldI 1 76) tc_no))) (cond (Nat.ble pc 79) (cond (Nat.ble pc 76) (cond (Nat.beq pc 76) (tc_ifeq 83 79) tc_no) (cond (Nat.beq pc 79) (tc_ic (-1) 80) tc_no)) (cond (Nat.ble pc 80) (cond (Nat.beq pc 80) (tc_goto 84) tc_no) (cond (Nat.beq pc 83) (tc_ic 1 84) tc_no))))) (cond (Nat.ble pc 98) (cond (Nat.ble pc 89) (cond (Nat.ble pc 85) (cond (Nat.ble pc 84) (cond (Nat.beq pc 84) (tc_iadd 85) tc_no) (cond (Nat.beq pc 85) (tc_putI 7 12 88) tc_no)) (cond (Nat.ble pc 88) (cond (Nat.beq pc 88) (tc_ldI 1 89) tc_no) (cond (Nat.beq pc 89) (tc_ifeq 103 92) tc_no))) (cond (Nat.ble pc 93) (cond (Nat.ble pc 92) (cond (Nat.beq pc 92) (tc_ldA 0 93) tc_no) (cond (Nat.beq pc 93) (tc_getf 7 17 96) tc_no)) (cond (Nat.ble pc 96) (cond (Nat.beq pc 96) (tc_ldI 5 98) tc_no) (cond (Nat.beq pc 98) (tc_ldA 0 99) tc_no)))) (cond (Nat.ble pc 104) (cond (Nat.ble pc 102) (cond (Nat.ble pc 99) (cond (Nat.beq pc 99) (tc_getf 7 10 102) tc_no) (cond (Nat.beq pc 102) (tc_iast 103) tc_no)) (cond (Nat.ble pc 103) (cond (Nat.beq pc 103) (tc_ldA 0 104) tc_no) (cond (Nat.beq pc 104) (tc_dup 105) tc_no))) (cond (Nat.ble pc 108) (cond (Nat.ble pc 105) (cond (Nat.beq pc 105) (tc_getf 7 10 108) tc_no) (cond (Nat.beq pc 108) (tc_ic 1 109) tc_no)) (cond (Nat.ble pc 109) (cond (Nat.beq pc 109) (tc_iadd 110) tc_no) (cond (Nat.ble pc 110) (cond (Nat.beq pc 110) (tc_putI 7 10 113) tc_no) (cond (Nat.beq pc 113) (tc_ret) tc_no)))))))
theorem okX7_addEvent : ∀ pc, dt_S mX7_addEvent (tbX7_addEvent pc) pc := by
  intro pc
  unfold tbX7_addEvent
  exact dt_Sb (dt_Sb (dt_Sb (dt_Sb (dt_Sb (dt_Sb (dt_Sl 0 (sn_ldAn rfl dX7_addEvent_0 rfl)) (dt_Sl 1 (sn_getf rfl ffX7 (by decide) wq_3_150 dX7_addEvent_1 rfl))) (dt_Sb (dt_Sl 4 (sn_ldAn rfl dX7_addEvent_4 rfl)) (dt_Sl 5 (sn_getf rfl ffX7 (by decide) wq_3_147 dX7_addEvent_5 rfl)))) (dt_Sb (dt_Sb (dt_Sl 8 (sn_ldIn rfl dX7_addEvent_8 rfl)) (dt_Sl 9 (sn_zast dX7_addEvent_9 rfl))) (dt_Sb (dt_Sl 10 (sn_ldAn rfl dX7_addEvent_10 rfl)) (dt_Sl 11 (sn_getf rfl ffX7 (by decide) wq_3_151 dX7_addEvent_11 rfl))))) (dt_Sb (dt_Sb (dt_Sb (dt_Sl 14 (sn_ldAn rfl dX7_addEvent_14 rfl)) (dt_Sl 15 (sn_getf rfl ffX7 (by decide) wq_3_147 dX7_addEvent_15 rfl))) (dt_Sb (dt_Sl 18 (sn_ldIn rfl dX7_addEvent_18 rfl)) (dt_Sl 19 (sn_iast dX7_addEvent_19 rfl)))) (dt_Sb (dt_Sb (dt_Sl 20 (sn_ldAn rfl dX7_addEvent_20 rfl)) (dt_Sl 21 (sn_getf rfl ffX7 (by decide) wq_3_152 dX7_addEvent_21 rfl))) (dt_Sb (dt_Sl 24 (sn_ldAn rfl dX7_addEvent_24 rfl)) (dt_Sl 25 (sn_getf rfl ffX7 (by decide) wq_3_147 dX7_addEvent_25 rfl)))))) (dt_Sb (dt_Sb (dt_Sb (dt_Sb (dt_Sl 28 (sn_ldIn rfl dX7_addEvent_28 rfl)) (dt_Sl 29 (sn_iast dX7_addEvent_29 rfl))) (dt_Sb (dt_Sl 30 (sn_ldAn rfl dX7_addEvent_30 rfl)) (dt_Sl 31 (sn_getf rfl ffX7 (by decide) wq_3_153 dX7_addEvent_31 rfl)))) (dt_Sb (dt_Sb (dt_Sl 34 (sn_ldAn rfl dX7_addEvent_34 rfl)) (dt_Sl 35 (sn_getf rfl ffX7 (by decide) wq_3_147 dX7_addEvent_35 rfl))) (dt_Sb (dt_Sl 38 (sn_ldI dX7_addEvent_38 rfl)) (dt_Sl 40 (sn_iast dX7_addEvent_40 rfl))))) (dt_Sb (dt_Sb (dt_Sb (dt_Sl 41 (sn_ldAn rfl dX7_addEvent_41 rfl)) (dt_Sl 42 (sn_getf rfl ffX7 (by decide) wq_3_154 dX7_addEvent_42 rfl))) (dt_Sb (dt_Sl 45 (sn_ldAn rfl dX7_addEvent_45 rfl)) (dt_Sl 46 (sn_getf rfl ffX7 (by decide) wq_3_147 dX7_addEvent_46 rfl)))) (dt_Sb (dt_Sb (dt_Sl 49 (sn_ldI dX7_addEvent_49 rfl)) (dt_Sl 51 (sn_iast dX7_addEvent_51 rfl))) (dt_Sb (dt_Sl 52 (sn_ldAn rfl dX7_addEvent_52 rfl)) (dt_Sl 53 (sn_dup dX7_addEvent_53 rfl))))))) (dt_Sb (dt_Sb (dt_Sb (dt_Sb (dt_Sb (dt_Sl 54 (sn_getf rfl ffX7 (by decide) wq_3_148 dX7_addEvent_54 rfl)) (dt_Sl 57 (sn_ldIn rfl dX7_addEvent_57 rfl))) (dt_Sb (dt_Sl 58 (sn_ifeq dX7_addEvent_58 (by decide) rfl)) (dt_Sl 61 (sn_ic ⟨by decide, by decide⟩ dX7_addEvent_61 rfl)))) (dt_Sb (dt_Sb (dt_Sl 62 (sn_goto dX7_addEvent_62 (by decide))) (dt_Sl 65 (sn_ic ⟨by decide, by decide⟩ dX7_addEvent_65 rfl))) (dt_Sb (dt_Sl 66 (sn_iadd dX7_addEvent_66 rfl)) (dt_Sl 67 (sn_putI rfl ffX7 (by decide) rfl rfl (by decide +kernel) wq_3_148 dX7_addEvent_67 rfl))))) (dt_Sb (dt_Sb (dt_Sb (dt_Sl 70 (sn_ldAn rfl dX7_addEvent_70 rfl)) (dt_Sl 71 (sn_dup dX7_addEvent_71 rfl))) (dt_Sb (dt_Sl 72 (sn_getf rfl ffX7 (by decide) wq_3_149 dX7_addEvent_72 rfl)) (dt_Sl 75 (sn_ldIn rfl dX7_addEvent_75 rfl)))) (dt_Sb (dt_Sb (dt_Sl 76 (sn_ifeq dX7_addEvent_76 (by decide) rfl)) (dt_Sl 79 (sn_ic ⟨by decide, by decide⟩ dX7_addEvent_79 rfl))) (dt_Sb (dt_Sl 80 (sn_goto dX7_addEvent_80 (by decide))) (dt_Sl 83 (sn_ic ⟨by decide, by decide⟩ dX7_addEvent_83 rfl)))))) (dt_Sb (dt_Sb (dt_Sb (dt_Sb (dt_Sl 84 (sn_iadd dX7_addEvent_84 rfl)) (dt_Sl 85 (sn_putI rfl ffX7 (by decide) rfl rfl (by decide +kernel) wq_3_149 dX7_addEvent_85 rfl))) (dt_Sb (dt_Sl 88 (sn_ldIn rfl dX7_addEvent_88 rfl)) (dt_Sl 89 (sn_ifeq dX7_addEvent_89 (by decide) rfl)))) (dt_Sb (dt_Sb (dt_Sl 92 (sn_ldAn rfl dX7_addEvent_92 rfl)) (dt_Sl 93 (sn_getf rfl ffX7 (by decide) wq_3_154 dX7_addEvent_93 rfl))) (dt_Sb (dt_Sl 96 (sn_ldI dX7_addEvent_96 rfl)) (dt_Sl 98 (sn_ldAn rfl dX7_addEvent_98 rfl))))) (dt_Sb (dt_Sb (dt_Sb (dt_Sl 99 (sn_getf rfl ffX7 (by decide) wq_3_147 dX7_addEvent_99 rfl)) (dt_Sl 102 (sn_iast dX7_addEvent_102 rfl))) (dt_Sb (dt_Sl 103 (sn_ldAn rfl dX7_addEvent_103 rfl)) (dt_Sl 104 (sn_dup dX7_addEvent_104 rfl)))) (dt_Sb (dt_Sb (dt_Sl 105 (sn_getf rfl ffX7 (by decide) wq_3_147 dX7_addEvent_105 rfl)) (dt_Sl 108 (sn_ic ⟨by decide, by decide⟩ dX7_addEvent_108 rfl))) (dt_Sb (dt_Sl 109 (sn_iadd dX7_addEvent_109 rfl)) (dt_Sb (dt_Sl 110 (sn_putI rfl ffX7 (by decide) rfl rfl (by decide +kernel) wq_3_147 dX7_addEvent_110 rfl)) (dt_Sl 113 (sn_ret rfl dX7_addEvent_113))))))))
theorem dX7_beginTalk_0 : decode cX7_beginTalk 0 = .ok (.aload_n 0, 1) := by decide +kernel
theorem dX7_beginTalk_1 : decode cX7_beginTalk 1 = .ok (.iconst 0, 1) := by decide +kernel
theorem dX7_beginTalk_2 : decode cX7_beginTalk 2 = .ok (.putfield 126, 3) := by decide +kernel
theorem dX7_beginTalk_5 : decode cX7_beginTalk 5 = .ok (.aload_n 0, 1) := by decide +kernel
theorem dX7_beginTalk_6 : decode cX7_beginTalk 6 = .ok (.iconst 0, 1) := by decide +kernel
theorem dX7_beginTalk_7 : decode cX7_beginTalk 7 = .ok (.putfield 129, 3) := by decide +kernel
theorem dX7_beginTalk_10 : decode cX7_beginTalk 10 = .ok (.aload_n 0, 1) := by decide +kernel
theorem dX7_beginTalk_11 : decode cX7_beginTalk 11 = .ok (.iconst 0, 1) := by decide +kernel
theorem dX7_beginTalk_12 : decode cX7_beginTalk 12 = .ok (.putfield 132, 3) := by decide +kernel
theorem dX7_beginTalk_15 : decode cX7_beginTalk 15 = .ok (.return_, 1) := by decide +kernel
def tbX7_beginTalk (pc : Nat) : dt_T := cond (Nat.ble pc 6) (cond (Nat.ble pc 1) (cond (Nat.ble pc 0) (cond (Nat.beq pc 0) (tc_ldA 0 1) tc_no) (cond (Nat.beq pc 1) (tc_ic 0 2) tc_no)) (cond (Nat.ble pc 2) (cond (Nat.beq pc 2) (tc_putI 7 10 5) tc_no) (cond (Nat.ble pc 5) (cond (Nat.beq pc 5) (tc_ldA 0 6) tc_no) (cond (Nat.beq pc 6) (tc_ic 0 7) tc_no)))) (cond (Nat.ble pc 10) (cond (Nat.ble pc 7) (cond (Nat.beq pc 7) (tc_putI 7 11 10) tc_no) (cond (Nat.beq pc 10) (tc_ldA 0 11) tc_no)) (cond (Nat.ble pc 11) (cond (Nat.beq pc 11) (tc_ic 0 12) tc_no) (cond (Nat.ble pc 12) (cond (Nat.beq pc 12) (tc_putI 7 12 15) tc_no) (cond (Nat.beq pc 15) (tc_ret) tc_no))))
theorem okX7_beginTalk : ∀ pc, dt_S mX7_beginTalk (tbX7_beginTalk pc) pc := by
  intro pc
  unfold tbX7_beginTalk
  exact dt_Sb (dt_Sb (dt_Sb (dt_Sl 0 (sn_ldAn rfl dX7_beginTalk_0 rfl)) (dt_Sl 1 (sn_ic ⟨by decide, by decide⟩ dX7_beginTalk_1 rfl))) (dt_Sb (dt_Sl 2 (sn_putI rfl ffX7 (by decide) rfl rfl (by decide +kernel) wq_3_147 dX7_beginTalk_2 rfl)) (dt_Sb (dt_Sl 5 (sn_ldAn rfl dX7_beginTalk_5 rfl)) (dt_Sl 6 (sn_ic ⟨by decide, by decide⟩ dX7_beginTalk_6 rfl))))) (dt_Sb (dt_Sb (dt_Sl 7 (sn_putI rfl ffX7 (by decide) rfl rfl (by decide +kernel) wq_3_148 dX7_beginTalk_7 rfl)) (dt_Sl 10 (sn_ldAn rfl dX7_beginTalk_10 rfl))) (dt_Sb (dt_Sl 11 (sn_ic ⟨by decide, by decide⟩ dX7_beginTalk_11 rfl)) (dt_Sb (dt_Sl 12 (sn_putI rfl ffX7 (by decide) rfl rfl (by decide +kernel) wq_3_149 dX7_beginTalk_12 rfl)) (dt_Sl 15 (sn_ret rfl dX7_beginTalk_15)))))
theorem dX7_readsEvent_0 : decode cX7_readsEvent 0 = .ok (.aload_n 0, 1) := by decide +kernel
theorem dX7_readsEvent_1 : decode cX7_readsEvent 1 = .ok (.invokevirtual 135, 3) := by decide +kernel
theorem dX7_readsEvent_4 : decode cX7_readsEvent 4 = .ok (.aload_n 0, 1) := by decide +kernel
theorem dX7_readsEvent_5 : decode cX7_readsEvent 5 = .ok (.getfield 105, 3) := by decide +kernel
theorem dX7_readsEvent_8 : decode cX7_readsEvent 8 = .ok (.bipush 20, 2) := by decide +kernel
theorem dX7_readsEvent_10 : decode cX7_readsEvent 10 = .ok (.isub, 1) := by decide +kernel
theorem dX7_readsEvent_11 : decode cX7_readsEvent 11 = .ok (.istore_n 2, 1) := by decide +kernel
theorem dX7_readsEvent_12 : decode cX7_readsEvent 12 = .ok (.iload_n 2, 1) := by decide +kernel
theorem dX7_readsEvent_13 : decode cX7_readsEvent 13 = .ok (.i2l, 1) := by decide +kernel
theorem dX7_readsEvent_14 : decode cX7_readsEvent 14 = .ok (.lconst 0, 1) := by decide +kernel
theorem dX7_readsEvent_15 : decode cX7_readsEvent 15 = .ok (.ldc2_w 81, 3) := by decide +kernel
theorem dX7_readsEvent_18 : decode cX7_readsEvent 18 = .ok (.invokestatic 83, 3) := by decide +kernel
theorem dX7_readsEvent_21 : decode cX7_readsEvent 21 = .ok (.ifCond .ne 5, 3) := by decide +kernel
theorem dX7_readsEvent_24 : decode cX7_readsEvent 24 = .ok (.iconst 0, 1) := by decide +kernel
theorem dX7_readsEvent_25 : decode cX7_readsEvent 25 = .ok (.ireturn, 1) := by decide +kernel
theorem dX7_readsEvent_26 : decode cX7_readsEvent 26 = .ok (.aload_n 0, 1) := by decide +kernel
theorem dX7_readsEvent_27 : decode cX7_readsEvent 27 = .ok (.invokevirtual 135, 3) := by decide +kernel
theorem dX7_readsEvent_30 : decode cX7_readsEvent 30 = .ok (.aload_n 0, 1) := by decide +kernel
theorem dX7_readsEvent_31 : decode cX7_readsEvent 31 = .ok (.getfield 105, 3) := by decide +kernel
theorem dX7_readsEvent_34 : decode cX7_readsEvent 34 = .ok (.bipush 20, 2) := by decide +kernel
theorem dX7_readsEvent_36 : decode cX7_readsEvent 36 = .ok (.isub, 1) := by decide +kernel
theorem dX7_readsEvent_37 : decode cX7_readsEvent 37 = .ok (.istore_n 3, 1) := by decide +kernel
theorem dX7_readsEvent_38 : decode cX7_readsEvent 38 = .ok (.iload_n 3, 1) := by decide +kernel
theorem dX7_readsEvent_39 : decode cX7_readsEvent 39 = .ok (.i2l, 1) := by decide +kernel
theorem dX7_readsEvent_40 : decode cX7_readsEvent 40 = .ok (.lconst 0, 1) := by decide +kernel
theorem dX7_readsEvent_41 : decode cX7_readsEvent 41 = .ok (.ldc2_w 81, 3) := by decide +kernel
theorem dX7_readsEvent_44 : decode cX7_readsEvent 44 = .ok (.invokestatic 83, 3) := by decide +kernel
theorem dX7_readsEvent_47 : decode cX7_readsEvent 47 = .ok (.ifCond .eq 8, 3) := by decide +kernel
theorem dX7_readsEvent_50 : decode cX7_readsEvent 50 = .ok (.iload_n 3, 1) := by decide +kernel
theorem dX7_readsEvent_51 : decode cX7_readsEvent 51 = .ok (.iload_n 2, 1) := by decide +kernel
theorem dX7_readsEvent_52 : decode cX7_readsEvent 52 = .ok (.if_icmp .ne 5, 3) := by decide +kernel
theorem dX7_readsEvent_55 : decode cX7_readsEvent 55 = .ok (.iconst 0, 1) := by decide +kernel
theorem dX7_readsEvent_56 : decode cX7_readsEvent 56 = .ok (.ireturn, 1) := by decide +kernel
theorem dX7_readsEvent_57 : decode cX7_readsEvent 57 = .ok (.aload_n 0, 1) := by decide +kernel
theorem dX7_readsEvent_58 : decode cX7_readsEvent 58 = .ok (.invokevirtual 135, 3) := by decide +kernel
theorem dX7_readsEvent_61 : decode cX7_readsEvent 61 = .ok (.aload_n 0, 1) := by decide +kernel
theorem dX7_readsEvent_62 : decode cX7_readsEvent 62 = .ok (.getfield 105, 3) := by decide +kernel
theorem dX7_readsEvent_65 : decode cX7_readsEvent 65 = .ok (.istore 4, 2) := by decide +kernel
theorem dX7_readsEvent_67 : decode cX7_readsEvent 67 = .ok (.iload_n 1, 1) := by decide +kernel
theorem dX7_readsEvent_68 : decode cX7_readsEvent 68 = .ok (.ifCond .eq 27, 3) := by decide +kernel
theorem dX7_readsEvent_71 : decode cX7_readsEvent 71 = .ok (.iload 4, 2) := by decide +kernel
theorem dX7_readsEvent_73 : decode cX7_readsEvent 73 = .ok (.i2l, 1) := by decide +kernel
theorem dX7_readsEvent_74 : decode cX7_readsEvent 74 = .ok (.lconst 0, 1) := by decide +kernel
theorem dX7_readsEvent_75 : decode cX7_readsEvent 75 = .ok (.ldc2_w 138, 3) := by decide +kernel
theorem dX7_readsEvent_78 : decode cX7_readsEvent 78 = .ok (.invokestatic 83, 3) := by decide +kernel
theorem dX7_readsEvent_81 : decode cX7_readsEvent 81 = .ok (.ifCond .eq 14, 3) := by decide +kernel
theorem dX7_readsEvent_84 : decode cX7_readsEvent 84 = .ok (.aload_n 0, 1) := by decide +kernel
theorem dX7_readsEvent_85 : decode cX7_readsEvent 85 = .ok (.iload_n 2, 1) := by decide +kernel
theorem dX7_readsEvent_86 : decode cX7_readsEvent 86 = .ok (.iload_n 3, 1) := by decide +kernel
theorem dX7_readsEvent_87 : decode cX7_readsEvent 87 = .ok (.iload 4, 2) := by decide +kernel
theorem dX7_readsEvent_89 : decode cX7_readsEvent 89 = .ok (.invokevirtual 140, 3) := by decide +kernel
theorem dX7_readsEvent_92 : decode cX7_readsEvent 92 = .ok (.goto 4, 3) := by decide +kernel
theorem dX7_readsEvent_95 : decode cX7_readsEvent 95 = .ok (.iconst 0, 1) := by decide +kernel
theorem dX7_readsEvent_96 : decode cX7_readsEvent 96 = .ok (.istore 5, 2) := by decide +kernel
theorem dX7_readsEvent_98 : decode cX7_readsEvent 98 = .ok (.iload 4, 2) := by decide +kernel
theorem dX7_readsEvent_100 : decode cX7_readsEvent 100 = .ok (.i2l, 1) := by decide +kernel
theorem dX7_readsEvent_101 : decode cX7_readsEvent 101 = .ok (.lconst 0, 1) := by decide +kernel
theorem dX7_readsEvent_102 : decode cX7_readsEvent 102 = .ok (.ldc2_w 138, 3) := by decide +kernel
theorem dX7_readsEvent_105 : decode cX7_readsEvent 105 = .ok (.invokestatic 83, 3) := by decide +kernel
theorem dX7_readsEvent_108 : decode cX7_readsEvent 108 = .ok (.ifCond .eq 8, 3) := by decide +kernel
theorem dX7_readsEvent_111 : decode cX7_readsEvent 111 = .ok (.iload 5, 2) := by decide +kernel
theorem dX7_readsEvent_113 : decode cX7_readsEvent 113 = .ok (.ifCond .ge 5, 3) := by decide +kernel
theorem dX7_readsEvent_116 : decode cX7_readsEvent 116 = .ok (.iconst 0, 1) := by decide +kernel
theorem dX7_readsEvent_117 : decode cX7_readsEvent 117 = .ok (.ireturn, 1) := by decide +kernel
theorem dX7_readsEvent_118 : decode cX7_readsEvent 118 = .ok (.aload_n 0, 1) := by decide +kernel
theorem dX7_readsEvent_119 : decode cX7_readsEvent 119 = .ok (.invokevirtual 135, 3) := by decide +kernel
theorem dX7_readsEvent_122 : decode cX7_readsEvent 122 = .ok (.aload_n 0, 1) := by decide +kernel
theorem dX7_readsEvent_123 : decode cX7_readsEvent 123 = .ok (.getfield 105, 3) := by decide +kernel
theorem dX7_readsEvent_126 : decode cX7_readsEvent 126 = .ok (.bipush 30, 2) := by decide +kernel
theorem dX7_readsEvent_128 : decode cX7_readsEvent 128 = .ok (.if_icmp .eq 5, 3) := by decide +kernel
theorem dX7_readsEvent_131 : decode cX7_readsEvent 131 = .ok (.iconst 0, 1) := by decide +kernel
theorem dX7_readsEvent_132 : decode cX7_readsEvent 132 = .ok (.ireturn, 1) := by decide +kernel
theorem dX7_readsEvent_133 : decode cX7_readsEvent 133 = .ok (.iload_n 1, 1) := by decide +kernel
theorem dX7_readsEvent_134 : decode cX7_readsEvent 134 = .ok (.ifCond .eq 17, 3) := by decide +kernel
theorem dX7_readsEvent_137 : decode cX7_readsEvent 137 = .ok (.aload_n 0, 1) := by decide +kernel
theorem dX7_readsEvent_138 : decode cX7_readsEvent 138 = .ok (.iconst 1, 1) := by decide +kernel
theorem dX7_readsEvent_139 : decode cX7_readsEvent 139 = .ok (.iload_n 3, 1) := by decide +kernel
theorem dX7_readsEvent_140 : decode cX7_readsEvent 140 = .ok (.iload_n 2, 1) := by decide +kernel
theorem dX7_readsEvent_141 : decode cX7_readsEvent 141 = .ok (.iload 4, 2) := by decide +kernel
theorem dX7_readsEvent_143 : decode cX7_readsEvent 143 = .ok (.iload 5, 2) := by decide +kernel
theorem dX7_readsEvent_145 : decode cX7_readsEvent 145 = .ok (.invokevirtual 144, 3) := by decide +kernel
theorem dX7_readsEvent_148 : decode cX7_readsEvent 148 = .ok (.goto 14, 3) := by decide +kernel
theorem dX7_readsEvent_151 : decode cX7_readsEvent 151 = .ok (.aload_n 0, 1) := by decide +kernel
theorem dX7_readsEvent_152 : decode cX7_readsEvent 152 = .ok (.iconst 0, 1) := by decide +kernel
theorem dX7_readsEvent_153 : decode cX7_readsEvent 153 = .ok (.iload_n 2, 1) := by decide +kernel
theorem dX7_readsEvent_154 : decode cX7_readsEvent 154 = .ok (.iload_n 3, 1) := by decide +kernel
theorem dX7_readsEvent_155 : decode cX7_readsEvent 155 = .ok (.iload 4, 2) := by decide +kernel
theorem dX7_readsEvent_157 : decode cX7_readsEvent 157 = .ok (.bipush (-9), 2) := by decide +kernel
theorem dX7_readsEvent_159 : decode cX7_readsEvent 159 = .ok (.invokevirtual 144, 3) := by decide +kernel
theorem dX7_readsEvent_162 : decode cX7_readsEvent 162 = .ok (.iconst 1, 1) := by decide +kernel
theorem dX7_readsEvent_163 : decode cX7_readsEvent 163 = .ok (.ireturn, 1) := by decide +kernel
def tbX7_readsEvent (pc : Nat) : dt_T := cond (Nat.ble pc 78) (cond (Nat.ble pc 37) (cond (Nat.ble pc 15) (cond (Nat.ble pc 8) (cond (Nat.ble pc 1) (cond (Nat.ble pc 0) (cond (Nat.beq pc 0) (tc_ldA 0 1) tc_no) (cond (Nat.beq pc 1) (tc_callV 7 mX7_readToken 0 4) tc_no)) (cond (Nat.ble pc 4) (cond (Nat.beq pc 4) (tc_ldA 0 5) tc_no) (cond (Nat.ble pc 5) (cond (Nat.beq pc 5) (tc_getf 7 20 8) tc_no) (cond (Nat.beq pc 8) (tc_ic 20 10) tc_no)))) (cond (Nat.ble pc 12) (cond (Nat.ble pc 10) (cond (Nat.beq pc 10) (tc_isub 11) tc_no) (cond (Nat.ble pc 11) (cond (Nat.beq pc 11) (tc_stI 2 12) tc_no) (cond (Nat.beq pc 12) (tc_ldI 2 13) tc_no))) (cond (Nat.ble pc 13) (cond (Nat.beq pc 13) (tc_i2l 14) tc_no) (cond (Nat.ble pc 14) (cond (Nat.beq pc 14) (tc_lc 0 15) tc_no) (cond (Nat.beq pc 15) (tc_lc 3 18) tc_no))))) (cond (Nat.ble pc 26) (cond (Nat.ble pc 21) (cond (Nat.ble pc 18) (cond (Nat.beq pc 18) (tc_callS mX7_in 3 21) tc_no) (cond (Nat.beq pc 21) (tc_ifne 26 24) tc_no)) (cond (Nat.ble pc 24) (cond (Nat.beq pc 24) (tc_ic 0 25) tc_no) (cond (Nat.ble pc 25) (cond (Nat.beq pc 25) (tc_zret) tc_no) (cond (Nat.beq pc 26) (tc_ldA 0 27) tc_no)))) (cond (Nat.ble pc 31) (cond (Nat.ble pc 27) (cond (Nat.beq pc 27) (tc_callV 7 mX7_readToken 0 30) tc_no) (cond (Nat.ble pc 30) (cond (Nat.beq pc 30) (tc_ldA 0 31) tc_no) (cond (Nat.beq pc 31) (tc_getf 7 20 34) tc_no))) (cond (Nat.ble pc 34) (cond (Nat.beq pc 34) (tc_ic 20 36) tc_no) (cond (Nat.ble pc 36) (cond (Nat.beq pc 36) (tc_isub 37) tc_no) (cond (Nat.beq pc 37) (tc_stI 3 38) tc_no)))))) (cond (Nat.ble pc 56) (cond (Nat.ble pc 44) (cond (Nat.ble pc 39) (cond (Nat.ble pc 38) (cond (Nat.beq pc 38) (tc_ldI 3 39) tc_no) (cond (Nat.beq pc 39) (tc_i2l 40) tc_no)) (cond (Nat.ble pc 40) (cond (Nat.beq pc 40) (tc_lc 0 41) tc_no) (cond (Nat.ble pc 41) (cond (Nat.beq pc 41) (tc_lc 3 44) tc_no) (cond (Nat.beq pc 44) (tc_callS mX7_in 3 47) tc_no)))) (cond (Nat.ble pc 51) (cond (Nat.ble pc 47) (cond (Nat.beq pc 47) (tc_ifeq 55 50) tc_no) (cond (Nat.ble pc 50) (cond (Nat.beq pc 50) (tc_ldI 3 51) tc_no) (cond (Nat.beq pc 51) (tc_ldI 2 52) tc_no))) (cond (Nat.ble pc 52) (cond (Nat.beq pc 52) (tc_icmpne 57 55) tc_no) (cond (Nat.ble pc 55) (cond (Nat.beq pc 55) (tc_ic 0 56) tc_no) (cond (Nat.beq pc 56) (tc_zret) tc_no))))) (cond (Nat.ble pc 67) (cond (Nat.ble pc 61) (cond (Nat.ble pc 57) (cond (Nat.beq pc 57) (tc_ldA 0 58) tc_no) (cond (Nat.ble pc 58) (cond (Nat.beq pc 58) (tc_callV 7 mX7_readToken 0 61) tc_no) (cond (Nat.beq pc 61) (tc_ldA 0 62) tc_no))) (cond (Nat.ble pc 62) (cond (Nat.beq pc 62) (tc_getf 7 20 65) tc_no) (cond (Nat.ble pc 65) (cond (Nat.beq pc 65) (tc_stI 4 67) tc_no) (cond (Nat.beq pc 67) (tc_ldI 1 68) tc_no)))) (cond (Nat.ble pc 73) (cond (Nat.ble pc 68) (cond (Nat.beq pc 68) (tc_ifeq 95 71) tc_no) (cond (Nat.ble pc 71) (cond (Nat.beq pc 71) (tc_ldI 4 73) tc_no) (cond (Nat.beq pc 73) (tc_i2l 74) tc_no))) (cond (Nat.ble pc 74) (cond (Nat.beq pc 74) (tc_lc 0 75) tc_no) (cond (Nat.ble pc 75) (cond (Nat.beq pc 75) (tc_lc 7 78) tc_no) (cond (Nat.beq pc 78) (tc_callS mX7_in 3 81) tc_no))))))) (cond (Nat.ble pc 123) (cond (Nat.ble pc 100) (cond (Nat.ble pc 87) (cond (Nat.ble pc 84) (cond (Nat.ble pc 81) (cond (Nat.beq pc 81) (tc_ifeq 95 84) tc_no) (cond (Nat.beq pc 84) (tc_ldA 0 85) tc_no)) (cond (Nat.ble pc 85) (cond (Nat.beq pc 85) (tc_ldI 2 86) tc_no) (cond (Nat.ble pc 86) (cond (Nat.beq pc 86) (tc_ldI 3 87) tc_no) (cond (Nat.beq pc 87) (tc_ldI 4 89) tc_no)))) (cond (Nat.ble pc 95) (cond (Nat.ble pc 89) (cond (Nat.beq pc 89) (tc_callV 7 mX7_openSend 3 92) tc_no) (cond (Nat.ble pc 92) (cond (Nat.beq pc 92) (tc_goto 96) tc_no) (cond (Nat.beq pc 95) (tc_ic 0 96) tc_no))) (cond (Nat.ble pc 96) (cond (Nat.beq pc 96) (tc_stI 5 98) tc_no) (cond (Nat.ble pc 98) (cond (Nat.beq pc 98) (tc_ldI 4 100) tc_no) (cond (Nat.beq pc 100) (tc_i2l 101) tc_no))))) (cond (Nat.ble pc 113) (cond (Nat.ble pc 105) (cond (Nat.ble pc 101) (cond (Nat.beq pc 101) (tc_lc 0 102) tc_no) (cond (Nat.ble pc 102) (cond (Nat.beq pc 102) (tc_lc 7 105) tc_no) (cond (Nat.beq pc 105) (tc_callS mX7_in 3 108) tc_no))) (cond (Nat.ble pc 108) (cond (Nat.beq pc 108) (tc_ifeq 116 111) tc_no) (cond (Nat.ble pc 111) (cond (Nat.beq pc 111) (tc_ldI 5 113) tc_no) (cond (Nat.beq pc 113) (tc_ifge 118 116) tc_no)))) (cond (Nat.ble pc 118) (cond (Nat.ble pc 116) (cond (Nat.beq pc 116) (tc_ic 0 117) tc_no) (cond (Nat.ble pc 117) (cond (Nat.beq pc 117) (tc_zret) tc_no) (cond (Nat.beq pc 118) (tc_ldA 0 119) tc_no))) (cond (Nat.ble pc 119) (cond (Nat.beq pc 119) (tc_callV 7 mX7_readToken 0 122) tc_no) (cond (Nat.ble pc 122) (cond (Nat.beq pc 122) (tc_ldA 0 123) tc_no) (cond (Nat.beq pc 123) (tc_getf 7 20 126) tc_no)))))) (cond (Nat.ble pc 141) (cond (Nat.ble pc 133) (cond (Nat.ble pc 128) (cond (Nat.ble pc 126) (cond (Nat.beq pc 126) (tc_ic 30 128) tc_no) (cond (Nat.beq pc 128) (tc_icmpeq 133 131) tc_no)) (cond (Nat.ble pc 131) (cond (Nat.beq pc 131) (tc_ic 0 132) tc_no) (cond (Nat.ble pc 132) (cond (Nat.beq pc 132) (tc_zret) tc_no) (cond (Nat.beq pc 133) (tc_ldI 1 134) tc_no)))) (cond (Nat.ble pc 138) (cond (Nat.ble pc 134) (cond (Nat.beq pc 134) (tc_ifeq 151 137) tc_no) (cond (Nat.ble pc 137) (cond (Nat.beq pc 137) (tc_ldA 0 138) tc_no) (cond (Nat.beq pc 138) (tc_ic 1 139) tc_no))) (cond (Nat.ble pc 139) (cond (Nat.beq pc 139) (tc_ldI 3 140) tc_no) (cond (Nat.ble pc 140) (cond (Nat.beq pc 140) (tc_ldI 2 141) tc_no) (cond (Nat.beq pc 141) (tc_ldI 4 143) tc_no))))) (cond (Nat.ble pc 153) (cond (Nat.ble pc 148) (cond (Nat.ble pc 143) (cond (Nat.beq pc 143) (tc_ldI 5 145) tc_no) (cond (Nat.ble pc 145) (cond (Nat.beq pc 145) (tc_callV 7 mX7_addEvent 5 148) tc_no) (cond (Nat.beq pc 148) (tc_goto 162) tc_no))) (cond (Nat.ble pc 151) (cond (Nat.beq pc 151) (tc_ldA 0 152) tc_no) (cond (Nat.ble pc 152) (cond (Nat.beq pc 152) (tc_ic 0 153) tc_no) (cond (Nat.beq pc 153) (tc_ldI 2 154) tc_no)))) (cond (Nat.ble pc 157) (cond (Nat.ble pc 154) (cond (Nat.beq pc 154) (tc_ldI 3 155) tc_no) (cond (Nat.ble pc 155) (cond (Nat.beq pc 155) (tc_ldI 4 157) tc_no) (cond (Nat.beq pc 157) (tc_ic (-9) 159) tc_no))) (cond (Nat.ble pc 159) (cond (Nat.beq pc 159) (tc_callV 7 mX7_addEvent 5 162) tc_no) (cond (Nat.ble pc 162) (cond (Nat.beq pc 162) (tc_ic 1 163) tc_no) (cond (Nat.beq pc 163) (tc_zret) tc_no)))))))
theorem okX7_readsEvent : ∀ pc, dt_S mX7_readsEvent (tbX7_readsEvent pc) pc := by
  intro pc
  unfold tbX7_readsEvent
  exact dt_Sb (dt_Sb (dt_Sb (dt_Sb (dt_Sb (dt_Sb (dt_Sl 0 (sn_ldAn rfl dX7_readsEvent_0 rfl)) (dt_Sl 1 (sn_callV rfl ffX7 nnX7_readToken rfl wq_4_32 wq_4_34 wq_0_30 dX7_readsEvent_1 rfl))) (dt_Sb (dt_Sl 4 (sn_ldAn rfl dX7_readsEvent_4 rfl)) (dt_Sb (dt_Sl 5 (sn_getf rfl ffX7 (by decide) wq_3_157 dX7_readsEvent_5 rfl)) (dt_Sl 8 (sn_bi ⟨by decide, by decide⟩ rfl dX7_readsEvent_8 rfl))))) (dt_Sb (dt_Sb (dt_Sl 10 (sn_isub dX7_readsEvent_10 rfl)) (dt_Sb (dt_Sl 11 (sn_stIn rfl (by decide) dX7_readsEvent_11 rfl)) (dt_Sl 12 (sn_ldIn rfl dX7_readsEvent_12 rfl)))) (dt_Sb (dt_Sl 13 (sn_i2l dX7_readsEvent_13 rfl)) (dt_Sb (dt_Sl 14 (sn_lc (k := 0) ⟨by decide, by decide⟩ rfl dX7_readsEvent_14 rfl)) (dt_Sl 15 (sn_ldc2 rfl ⟨by decide, by decide⟩ wq_4_23 dX7_readsEvent_15 rfl)))))) (dt_Sb (dt_Sb (dt_Sb (dt_Sl 18 (sn_callS rfl nnX7_in wq_4_8 wq_4_9 dX7_readsEvent_18 rfl)) (dt_Sl 21 (sn_ifne dX7_readsEvent_21 (by decide) rfl))) (dt_Sb (dt_Sl 24 (sn_ic ⟨by decide, by decide⟩ dX7_readsEvent_24 rfl)) (dt_Sb (dt_Sl 25 (sn_zret rfl dX7_readsEvent_25)) (dt_Sl 26 (sn_ldAn rfl dX7_readsEvent_26 rfl))))) (dt_Sb (dt_Sb (dt_Sl 27 (sn_callV rfl ffX7 nnX7_readToken rfl wq_4_32 wq_4_34 wq_0_30 dX7_readsEvent_27 rfl)) (dt_Sb (dt_Sl 30 (sn_ldAn rfl dX7_readsEvent_30 rfl)) (dt_Sl 31 (sn_getf rfl ffX7 (by decide) wq_3_157 dX7_readsEvent_31 rfl)))) (dt_Sb (dt_Sl 34 (sn_bi ⟨by decide, by decide⟩ rfl dX7_readsEvent_34 rfl)) (dt_Sb (dt_Sl 36 (sn_isub dX7_readsEvent_36 rfl)) (dt_Sl 37 (sn_stIn rfl (by decide) dX7_readsEvent_37 rfl))))))) (dt_Sb (dt_Sb (dt_Sb (dt_Sb (dt_Sl 38 (sn_ldIn rfl dX7_readsEvent_38 rfl)) (dt_Sl 39 (sn_i2l dX7_readsEvent_39 rfl))) (dt_Sb (dt_Sl 40 (sn_lc (k := 0) ⟨by decide, by decide⟩ rfl dX7_readsEvent_40 rfl)) (dt_Sb (dt_Sl 41 (sn_ldc2 rfl ⟨by decide, by decide⟩ wq_4_23 dX7_readsEvent_41 rfl)) (dt_Sl 44 (sn_callS rfl nnX7_in wq_4_8 wq_4_9 dX7_readsEvent_44 rfl))))) (dt_Sb (dt_Sb (dt_Sl 47 (sn_ifeq dX7_readsEvent_47 (by decide) rfl)) (dt_Sb (dt_Sl 50 (sn_ldIn rfl dX7_readsEvent_50 rfl)) (dt_Sl 51 (sn_ldIn rfl dX7_readsEvent_51 rfl)))) (dt_Sb (dt_Sl 52 (sn_icmpne dX7_readsEvent_52 (by decide) rfl)) (dt_Sb (dt_Sl 55 (sn_ic ⟨by decide, by decide⟩ dX7_readsEvent_55 rfl)) (dt_Sl 56 (sn_zret rfl dX7_readsEvent_56)))))) (dt_Sb (dt_Sb (dt_Sb (dt_Sl 57 (sn_ldAn rfl dX7_readsEvent_57 rfl)) (dt_Sb (dt_Sl 58 (sn_callV rfl ffX7 nnX7_readToken rfl wq_4_32 wq_4_34 wq_0_30 dX7_readsEvent_58 rfl)) (dt_Sl 61 (sn_ldAn rfl dX7_readsEvent_61 rfl)))) (dt_Sb (dt_Sl 62 (sn_getf rfl ffX7 (by decide) wq_3_157 dX7_readsEvent_62 rfl)) (dt_Sb (dt_Sl 65 (sn_stI (by decide) dX7_readsEvent_65 rfl)) (dt_Sl 67 (sn_ldIn rfl dX7_readsEvent_67 rfl))))) (dt_Sb (dt_Sb (dt_Sl 68 (sn_ifeq dX7_readsEvent_68 (by decide) rfl)) (dt_Sb (dt_Sl 71 (sn_ldI dX7_readsEvent_71 rfl)) (dt_Sl 73 (sn_i2l dX7_readsEvent_73 rfl)))) (dt_Sb (dt_Sl 74 (sn_lc (k := 0) ⟨by decide, by decide⟩ rfl dX7_readsEvent_74 rfl)) (dt_Sb (dt_Sl 75 (sn_ldc2 rfl ⟨by decide, by decide⟩ wq_4_52 dX7_readsEvent_75 rfl)) (dt_Sl 78 (sn_callS rfl nnX7_in wq_4_8 wq_4_9 dX7_readsEvent_78 rfl)))))))) (dt_Sb (dt_Sb (dt_Sb (dt_Sb (dt_Sb (dt_Sl 81 (sn_ifeq dX7_readsEvent_81 (by decide) rfl)) (dt_Sl 84 (sn_ldAn rfl dX7_readsEvent_84 rfl))) (dt_Sb (dt_Sl 85 (sn_ldIn rfl dX7_readsEvent_85 rfl)) (dt_Sb (dt_Sl 86 (sn_ldIn rfl dX7_readsEvent_86 rfl)) (dt_Sl 87 (sn_ldI dX7_readsEvent_87 rfl))))) (dt_Sb (dt_Sb (dt_Sl 89 (sn_callV rfl ffX7 nnX7_openSend rfl wq_4_53 wq_4_55 wq_0_32 dX7_readsEvent_89 rfl)) (dt_Sb (dt_Sl 92 (sn_goto dX7_readsEvent_92 (by decide))) (dt_Sl 95 (sn_ic ⟨by decide, by decide⟩ dX7_readsEvent_95 rfl)))) (dt_Sb (dt_Sl 96 (sn_stI (by decide) dX7_readsEvent_96 rfl)) (dt_Sb (dt_Sl 98 (sn_ldI dX7_readsEvent_98 rfl)) (dt_Sl 100 (sn_i2l dX7_readsEvent_100 rfl)))))) (dt_Sb (dt_Sb (dt_Sb (dt_Sl 101 (sn_lc (k := 0) ⟨by decide, by decide⟩ rfl dX7_readsEvent_101 rfl)) (dt_Sb (dt_Sl 102 (sn_ldc2 rfl ⟨by decide, by decide⟩ wq_4_52 dX7_readsEvent_102 rfl)) (dt_Sl 105 (sn_callS rfl nnX7_in wq_4_8 wq_4_9 dX7_readsEvent_105 rfl)))) (dt_Sb (dt_Sl 108 (sn_ifeq dX7_readsEvent_108 (by decide) rfl)) (dt_Sb (dt_Sl 111 (sn_ldI dX7_readsEvent_111 rfl)) (dt_Sl 113 (sn_ifge dX7_readsEvent_113 (by decide) rfl))))) (dt_Sb (dt_Sb (dt_Sl 116 (sn_ic ⟨by decide, by decide⟩ dX7_readsEvent_116 rfl)) (dt_Sb (dt_Sl 117 (sn_zret rfl dX7_readsEvent_117)) (dt_Sl 118 (sn_ldAn rfl dX7_readsEvent_118 rfl)))) (dt_Sb (dt_Sl 119 (sn_callV rfl ffX7 nnX7_readToken rfl wq_4_32 wq_4_34 wq_0_30 dX7_readsEvent_119 rfl)) (dt_Sb (dt_Sl 122 (sn_ldAn rfl dX7_readsEvent_122 rfl)) (dt_Sl 123 (sn_getf rfl ffX7 (by decide) wq_3_157 dX7_readsEvent_123 rfl))))))) (dt_Sb (dt_Sb (dt_Sb (dt_Sb (dt_Sl 126 (sn_bi ⟨by decide, by decide⟩ rfl dX7_readsEvent_126 rfl)) (dt_Sl 128 (sn_icmpeq dX7_readsEvent_128 (by decide) rfl))) (dt_Sb (dt_Sl 131 (sn_ic ⟨by decide, by decide⟩ dX7_readsEvent_131 rfl)) (dt_Sb (dt_Sl 132 (sn_zret rfl dX7_readsEvent_132)) (dt_Sl 133 (sn_ldIn rfl dX7_readsEvent_133 rfl))))) (dt_Sb (dt_Sb (dt_Sl 134 (sn_ifeq dX7_readsEvent_134 (by decide) rfl)) (dt_Sb (dt_Sl 137 (sn_ldAn rfl dX7_readsEvent_137 rfl)) (dt_Sl 138 (sn_ic ⟨by decide, by decide⟩ dX7_readsEvent_138 rfl)))) (dt_Sb (dt_Sl 139 (sn_ldIn rfl dX7_readsEvent_139 rfl)) (dt_Sb (dt_Sl 140 (sn_ldIn rfl dX7_readsEvent_140 rfl)) (dt_Sl 141 (sn_ldI dX7_readsEvent_141 rfl)))))) (dt_Sb (dt_Sb (dt_Sb (dt_Sl 143 (sn_ldI dX7_readsEvent_143 rfl)) (dt_Sb (dt_Sl 145 (sn_callV rfl ffX7 nnX7_addEvent rfl wq_4_57 wq_4_59 wq_0_33 dX7_readsEvent_145 rfl)) (dt_Sl 148 (sn_goto dX7_readsEvent_148 (by decide))))) (dt_Sb (dt_Sl 151 (sn_ldAn rfl dX7_readsEvent_151 rfl)) (dt_Sb (dt_Sl 152 (sn_ic ⟨by decide, by decide⟩ dX7_readsEvent_152 rfl)) (dt_Sl 153 (sn_ldIn rfl dX7_readsEvent_153 rfl))))) (dt_Sb (dt_Sb (dt_Sl 154 (sn_ldIn rfl dX7_readsEvent_154 rfl)) (dt_Sb (dt_Sl 155 (sn_ldI dX7_readsEvent_155 rfl)) (dt_Sl 157 (sn_bi ⟨by decide, by decide⟩ rfl dX7_readsEvent_157 rfl)))) (dt_Sb (dt_Sl 159 (sn_callV rfl ffX7 nnX7_addEvent rfl wq_4_57 wq_4_59 wq_0_33 dX7_readsEvent_159 rfl)) (dt_Sb (dt_Sl 162 (sn_ic ⟨by decide, by decide⟩ dX7_readsEvent_162 rfl)) (dt_Sl 163 (sn_zret rfl dX7_readsEvent_163))))))))
theorem dX7_readTalk_0 : decode cX7_readTalk 0 = .ok (.aload_n 0, 1) := by decide +kernel
theorem dX7_readTalk_1 : decode cX7_readTalk 1 = .ok (.invokevirtual 148, 3) := by decide +kernel
theorem dX7_readTalk_4 : decode cX7_readTalk 4 = .ok (.aload_n 0, 1) := by decide +kernel
theorem dX7_readTalk_5 : decode cX7_readTalk 5 = .ok (.iconst 0, 1) := by decide +kernel
theorem dX7_readTalk_6 : decode cX7_readTalk 6 = .ok (.putfield 99, 3) := by decide +kernel
theorem dX7_readTalk_9 : decode cX7_readTalk 9 = .ok (.aload_n 0, 1) := by decide +kernel
theorem dX7_readTalk_10 : decode cX7_readTalk 10 = .ok (.invokevirtual 135, 3) := by decide +kernel
theorem dX7_readTalk_13 : decode cX7_readTalk 13 = .ok (.aload_n 0, 1) := by decide +kernel
theorem dX7_readTalk_14 : decode cX7_readTalk 14 = .ok (.getfield 105, 3) := by decide +kernel
theorem dX7_readTalk_17 : decode cX7_readTalk 17 = .ok (.bipush 40, 2) := by decide +kernel
theorem dX7_readTalk_19 : decode cX7_readTalk 19 = .ok (.if_icmp .eq 73, 3) := by decide +kernel
theorem dX7_readTalk_22 : decode cX7_readTalk 22 = .ok (.aload_n 0, 1) := by decide +kernel
theorem dX7_readTalk_23 : decode cX7_readTalk 23 = .ok (.getfield 105, 3) := by decide +kernel
theorem dX7_readTalk_26 : decode cX7_readTalk 26 = .ok (.bipush 10, 2) := by decide +kernel
theorem dX7_readTalk_28 : decode cX7_readTalk 28 = .ok (.if_icmp .ne 12, 3) := by decide +kernel
theorem dX7_readTalk_31 : decode cX7_readTalk 31 = .ok (.aload_n 0, 1) := by decide +kernel
theorem dX7_readTalk_32 : decode cX7_readTalk 32 = .ok (.getfield 129, 3) := by decide +kernel
theorem dX7_readTalk_35 : decode cX7_readTalk 35 = .ok (.bipush 10, 2) := by decide +kernel
theorem dX7_readTalk_37 : decode cX7_readTalk 37 = .ok (.if_icmp .lt 12, 3) := by decide +kernel
theorem dX7_readTalk_40 : decode cX7_readTalk 40 = .ok (.aload_n 0, 1) := by decide +kernel
theorem dX7_readTalk_41 : decode cX7_readTalk 41 = .ok (.getfield 105, 3) := by decide +kernel
theorem dX7_readTalk_44 : decode cX7_readTalk 44 = .ok (.bipush 11, 2) := by decide +kernel
theorem dX7_readTalk_46 : decode cX7_readTalk 46 = .ok (.if_icmp .ne 7, 3) := by decide +kernel
theorem dX7_readTalk_49 : decode cX7_readTalk 49 = .ok (.iconst 1, 1) := by decide +kernel
theorem dX7_readTalk_50 : decode cX7_readTalk 50 = .ok (.goto 4, 3) := by decide +kernel
theorem dX7_readTalk_53 : decode cX7_readTalk 53 = .ok (.iconst 0, 1) := by decide +kernel
theorem dX7_readTalk_54 : decode cX7_readTalk 54 = .ok (.istore_n 1, 1) := by decide +kernel
theorem dX7_readTalk_55 : decode cX7_readTalk 55 = .ok (.iload_n 1, 1) := by decide +kernel
theorem dX7_readTalk_56 : decode cX7_readTalk 56 = .ok (.ifCond .eq 24, 3) := by decide +kernel
theorem dX7_readTalk_59 : decode cX7_readTalk 59 = .ok (.aload_n 0, 1) := by decide +kernel
theorem dX7_readTalk_60 : decode cX7_readTalk 60 = .ok (.aload_n 0, 1) := by decide +kernel
theorem dX7_readTalk_61 : decode cX7_readTalk 61 = .ok (.getfield 105, 3) := by decide +kernel
theorem dX7_readTalk_64 : decode cX7_readTalk 64 = .ok (.bipush 11, 2) := by decide +kernel
theorem dX7_readTalk_66 : decode cX7_readTalk 66 = .ok (.if_icmp .ne 7, 3) := by decide +kernel
theorem dX7_readTalk_69 : decode cX7_readTalk 69 = .ok (.iconst 1, 1) := by decide +kernel
theorem dX7_readTalk_70 : decode cX7_readTalk 70 = .ok (.goto 4, 3) := by decide +kernel
theorem dX7_readTalk_73 : decode cX7_readTalk 73 = .ok (.iconst 0, 1) := by decide +kernel
theorem dX7_readTalk_74 : decode cX7_readTalk 74 = .ok (.invokevirtual 151, 3) := by decide +kernel
theorem dX7_readTalk_77 : decode cX7_readTalk 77 = .ok (.ifCond .ne 8, 3) := by decide +kernel
theorem dX7_readTalk_80 : decode cX7_readTalk 80 = .ok (.aload_n 0, 1) := by decide +kernel
theorem dX7_readTalk_81 : decode cX7_readTalk 81 = .ok (.getfield 102, 3) := by decide +kernel
theorem dX7_readTalk_84 : decode cX7_readTalk 84 = .ok (.ireturn, 1) := by decide +kernel
theorem dX7_readTalk_85 : decode cX7_readTalk 85 = .ok (.aload_n 0, 1) := by decide +kernel
theorem dX7_readTalk_86 : decode cX7_readTalk 86 = .ok (.invokevirtual 135, 3) := by decide +kernel
theorem dX7_readTalk_89 : decode cX7_readTalk 89 = .ok (.goto (-76), 3) := by decide +kernel
theorem dX7_readTalk_92 : decode cX7_readTalk 92 = .ok (.aload_n 0, 1) := by decide +kernel
theorem dX7_readTalk_93 : decode cX7_readTalk 93 = .ok (.getfield 132, 3) := by decide +kernel
theorem dX7_readTalk_96 : decode cX7_readTalk 96 = .ok (.ifCond .le 10, 3) := by decide +kernel
theorem dX7_readTalk_99 : decode cX7_readTalk 99 = .ok (.aload_n 0, 1) := by decide +kernel
theorem dX7_readTalk_100 : decode cX7_readTalk 100 = .ok (.getfield 89, 3) := by decide +kernel
theorem dX7_readTalk_103 : decode cX7_readTalk 103 = .ok (.goto 5, 3) := by decide +kernel
theorem dX7_readTalk_106 : decode cX7_readTalk 106 = .ok (.bipush (-9), 2) := by decide +kernel
theorem dX7_readTalk_108 : decode cX7_readTalk 108 = .ok (.ireturn, 1) := by decide +kernel
def tbX7_readTalk (pc : Nat) : dt_T := cond (Nat.ble pc 53) (cond (Nat.ble pc 23) (cond (Nat.ble pc 9) (cond (Nat.ble pc 4) (cond (Nat.ble pc 0) (cond (Nat.beq pc 0) (tc_ldA 0 1) tc_no) (cond (Nat.ble pc 1) (cond (Nat.beq pc 1) (tc_callV 7 mX7_beginTalk 0 4) tc_no) (cond (Nat.beq pc 4) (tc_ldA 0 5) tc_no))) (cond (Nat.ble pc 5) (cond (Nat.beq pc 5) (tc_ic 0 6) tc_no) (cond (Nat.ble pc 6) (cond (Nat.beq pc 6) (tc_putI 7 18 9) tc_no) (cond (Nat.beq pc 9) (tc_ldA 0 10) tc_no)))) (cond (Nat.ble pc 14) (cond (Nat.ble pc 10) (cond (Nat.beq pc 10) (tc_callV 7 mX7_readToken 0 13) tc_no) (cond (Nat.ble pc 13) (cond (Nat.beq pc 13) (tc_ldA 0 14) tc_no) (cond (Nat.beq pc 14) (tc_getf 7 20 17) tc_no))) (cond (Nat.ble pc 19) (cond (Nat.ble pc 17) (cond (Nat.beq pc 17) (tc_ic 40 19) tc_no) (cond (Nat.beq pc 19) (tc_icmpeq 92 22) tc_no)) (cond (Nat.ble pc 22) (cond (Nat.beq pc 22) (tc_ldA 0 23) tc_no) (cond (Nat.beq pc 23) (tc_getf 7 20 26) tc_no))))) (cond (Nat.ble pc 37) (cond (Nat.ble pc 31) (cond (Nat.ble pc 26) (cond (Nat.beq pc 26) (tc_ic 10 28) tc_no) (cond (Nat.ble pc 28) (cond (Nat.beq pc 28) (tc_icmpne 40 31) tc_no) (cond (Nat.beq pc 31) (tc_ldA 0 32) tc_no))) (cond (Nat.ble pc 32) (cond (Nat.beq pc 32) (tc_getf 7 11 35) tc_no) (cond (Nat.ble pc 35) (cond (Nat.beq pc 35) (tc_ic 10 37) tc_no) (cond (Nat.beq pc 37) (tc_icmplt 49 40) tc_no)))) (cond (Nat.ble pc 44) (cond (Nat.ble pc 40) (cond (Nat.beq pc 40) (tc_ldA 0 41) tc_no) (cond (Nat.ble pc 41) (cond (Nat.beq pc 41) (tc_getf 7 20 44) tc_no) (cond (Nat.beq pc 44) (tc_ic 11 46) tc_no))) (cond (Nat.ble pc 49) (cond (Nat.ble pc 46) (cond (Nat.beq pc 46) (tc_icmpne 53 49) tc_no) (cond (Nat.beq pc 49) (tc_ic 1 50) tc_no)) (cond (Nat.ble pc 50) (cond (Nat.beq pc 50) (tc_goto 54) tc_no) (cond (Nat.beq pc 53) (tc_ic 0 54) tc_no)))))) (cond (Nat.ble pc 77) (cond (Nat.ble pc 61) (cond (Nat.ble pc 56) (cond (Nat.ble pc 54) (cond (Nat.beq pc 54) (tc_stI 1 55) tc_no) (cond (Nat.ble pc 55) (cond (Nat.beq pc 55) (tc_ldI 1 56) tc_no) (cond (Nat.beq pc 56) (tc_ifeq 80 59) tc_no))) (cond (Nat.ble pc 59) (cond (Nat.beq pc 59) (tc_ldA 0 60) tc_no) (cond (Nat.ble pc 60) (cond (Nat.beq pc 60) (tc_ldA 0 61) tc_no) (cond (Nat.beq pc 61) (tc_getf 7 20 64) tc_no)))) (cond (Nat.ble pc 69) (cond (Nat.ble pc 64) (cond (Nat.beq pc 64) (tc_ic 11 66) tc_no) (cond (Nat.ble pc 66) (cond (Nat.beq pc 66) (tc_icmpne 73 69) tc_no) (cond (Nat.beq pc 69) (tc_ic 1 70) tc_no))) (cond (Nat.ble pc 73) (cond (Nat.ble pc 70) (cond (Nat.beq pc 70) (tc_goto 74) tc_no) (cond (Nat.beq pc 73) (tc_ic 0 74) tc_no)) (cond (Nat.ble pc 74) (cond (Nat.beq pc 74) (tc_callV 7 mX7_readsEvent 1 77) tc_no) (cond (Nat.beq pc 77) (tc_ifne 85 80) tc_no))))) (cond (Nat.ble pc 92) (cond (Nat.ble pc 84) (cond (Nat.ble pc 80) (cond (Nat.beq pc 80) (tc_ldA 0 81) tc_no) (cond (Nat.ble pc 81) (cond (Nat.beq pc 81) (tc_getf 7 19 84) tc_no) (cond (Nat.beq pc 84) (tc_iret) tc_no))) (cond (Nat.ble pc 86) (cond (Nat.ble pc 85) (cond (Nat.beq pc 85) (tc_ldA 0 86) tc_no) (cond (Nat.beq pc 86) (tc_callV 7 mX7_readToken 0 89) tc_no)) (cond (Nat.ble pc 89) (cond (Nat.beq pc 89) (tc_goto 13) tc_no) (cond (Nat.beq pc 92) (tc_ldA 0 93) tc_no)))) (cond (Nat.ble pc 99) (cond (Nat.ble pc 93) (cond (Nat.beq pc 93) (tc_getf 7 12 96) tc_no) (cond (Nat.ble pc 96) (cond (Nat.beq pc 96) (tc_ifle 106 99) tc_no) (cond (Nat.beq pc 99) (tc_ldA 0 100) tc_no))) (cond (Nat.ble pc 103) (cond (Nat.ble pc 100) (cond (Nat.beq pc 100) (tc_getf 7 8 103) tc_no) (cond (Nat.beq pc 103) (tc_goto 108) tc_no)) (cond (Nat.ble pc 106) (cond (Nat.beq pc 106) (tc_ic (-9) 108) tc_no) (cond (Nat.beq pc 108) (tc_iret) tc_no))))))
theorem okX7_readTalk : ∀ pc, dt_S mX7_readTalk (tbX7_readTalk pc) pc := by
  intro pc
  unfold tbX7_readTalk
  exact dt_Sb (dt_Sb (dt_Sb (dt_Sb (dt_Sb (dt_Sl 0 (sn_ldAn rfl dX7_readTalk_0 rfl)) (dt_Sb (dt_Sl 1 (sn_callV rfl ffX7 nnX7_beginTalk rfl wq_4_28 wq_4_30 wq_0_29 dX7_readTalk_1 rfl)) (dt_Sl 4 (sn_ldAn rfl dX7_readTalk_4 rfl)))) (dt_Sb (dt_Sl 5 (sn_ic ⟨by decide, by decide⟩ dX7_readTalk_5 rfl)) (dt_Sb (dt_Sl 6 (sn_putI rfl ffX7 (by decide) rfl rfl (by decide +kernel) wq_3_155 dX7_readTalk_6 rfl)) (dt_Sl 9 (sn_ldAn rfl dX7_readTalk_9 rfl))))) (dt_Sb (dt_Sb (dt_Sl 10 (sn_callV rfl ffX7 nnX7_readToken rfl wq_4_32 wq_4_34 wq_0_30 dX7_readTalk_10 rfl)) (dt_Sb (dt_Sl 13 (sn_ldAn rfl dX7_readTalk_13 rfl)) (dt_Sl 14 (sn_getf rfl ffX7 (by decide) wq_3_157 dX7_readTalk_14 rfl)))) (dt_Sb (dt_Sb (dt_Sl 17 (sn_bi ⟨by decide, by decide⟩ rfl dX7_readTalk_17 rfl)) (dt_Sl 19 (sn_icmpeq dX7_readTalk_19 (by decide) rfl))) (dt_Sb (dt_Sl 22 (sn_ldAn rfl dX7_readTalk_22 rfl)) (dt_Sl 23 (sn_getf rfl ffX7 (by decide) wq_3_157 dX7_readTalk_23 rfl)))))) (dt_Sb (dt_Sb (dt_Sb (dt_Sl 26 (sn_bi ⟨by decide, by decide⟩ rfl dX7_readTalk_26 rfl)) (dt_Sb (dt_Sl 28 (sn_icmpne dX7_readTalk_28 (by decide) rfl)) (dt_Sl 31 (sn_ldAn rfl dX7_readTalk_31 rfl)))) (dt_Sb (dt_Sl 32 (sn_getf rfl ffX7 (by decide) wq_3_148 dX7_readTalk_32 rfl)) (dt_Sb (dt_Sl 35 (sn_bi ⟨by decide, by decide⟩ rfl dX7_readTalk_35 rfl)) (dt_Sl 37 (sn_icmplt dX7_readTalk_37 (by decide) rfl))))) (dt_Sb (dt_Sb (dt_Sl 40 (sn_ldAn rfl dX7_readTalk_40 rfl)) (dt_Sb (dt_Sl 41 (sn_getf rfl ffX7 (by decide) wq_3_157 dX7_readTalk_41 rfl)) (dt_Sl 44 (sn_bi ⟨by decide, by decide⟩ rfl dX7_readTalk_44 rfl)))) (dt_Sb (dt_Sb (dt_Sl 46 (sn_icmpne dX7_readTalk_46 (by decide) rfl)) (dt_Sl 49 (sn_ic ⟨by decide, by decide⟩ dX7_readTalk_49 rfl))) (dt_Sb (dt_Sl 50 (sn_goto dX7_readTalk_50 (by decide))) (dt_Sl 53 (sn_ic ⟨by decide, by decide⟩ dX7_readTalk_53 rfl))))))) (dt_Sb (dt_Sb (dt_Sb (dt_Sb (dt_Sl 54 (sn_stIn rfl (by decide) dX7_readTalk_54 rfl)) (dt_Sb (dt_Sl 55 (sn_ldIn rfl dX7_readTalk_55 rfl)) (dt_Sl 56 (sn_ifeq dX7_readTalk_56 (by decide) rfl)))) (dt_Sb (dt_Sl 59 (sn_ldAn rfl dX7_readTalk_59 rfl)) (dt_Sb (dt_Sl 60 (sn_ldAn rfl dX7_readTalk_60 rfl)) (dt_Sl 61 (sn_getf rfl ffX7 (by decide) wq_3_157 dX7_readTalk_61 rfl))))) (dt_Sb (dt_Sb (dt_Sl 64 (sn_bi ⟨by decide, by decide⟩ rfl dX7_readTalk_64 rfl)) (dt_Sb (dt_Sl 66 (sn_icmpne dX7_readTalk_66 (by decide) rfl)) (dt_Sl 69 (sn_ic ⟨by decide, by decide⟩ dX7_readTalk_69 rfl)))) (dt_Sb (dt_Sb (dt_Sl 70 (sn_goto dX7_readTalk_70 (by decide))) (dt_Sl 73 (sn_ic ⟨by decide, by decide⟩ dX7_readTalk_73 rfl))) (dt_Sb (dt_Sl 74 (sn_callV rfl ffX7 nnX7_readsEvent rfl wq_4_48 wq_4_50 wq_0_31 dX7_readTalk_74 rfl)) (dt_Sl 77 (sn_ifne dX7_readTalk_77 (by decide) rfl)))))) (dt_Sb (dt_Sb (dt_Sb (dt_Sl 80 (sn_ldAn rfl dX7_readTalk_80 rfl)) (dt_Sb (dt_Sl 81 (sn_getf rfl ffX7 (by decide) wq_3_156 dX7_readTalk_81 rfl)) (dt_Sl 84 (sn_iret rfl dX7_readTalk_84)))) (dt_Sb (dt_Sb (dt_Sl 85 (sn_ldAn rfl dX7_readTalk_85 rfl)) (dt_Sl 86 (sn_callV rfl ffX7 nnX7_readToken rfl wq_4_32 wq_4_34 wq_0_30 dX7_readTalk_86 rfl))) (dt_Sb (dt_Sl 89 (sn_goto dX7_readTalk_89 (by decide))) (dt_Sl 92 (sn_ldAn rfl dX7_readTalk_92 rfl))))) (dt_Sb (dt_Sb (dt_Sl 93 (sn_getf rfl ffX7 (by decide) wq_3_149 dX7_readTalk_93 rfl)) (dt_Sb (dt_Sl 96 (sn_ifle dX7_readTalk_96 (by decide) rfl)) (dt_Sl 99 (sn_ldAn rfl dX7_readTalk_99 rfl)))) (dt_Sb (dt_Sb (dt_Sl 100 (sn_getf rfl ffX7 (by decide) wq_3_145 dX7_readTalk_100 rfl)) (dt_Sl 103 (sn_goto dX7_readTalk_103 (by decide)))) (dt_Sb (dt_Sl 106 (sn_bi ⟨by decide, by decide⟩ rfl dX7_readTalk_106 rfl)) (dt_Sl 108 (sn_iret rfl dX7_readTalk_108)))))))
theorem dX7_keep_0 : decode cX7_keep 0 = .ok (.aload_n 0, 1) := by decide +kernel
theorem dX7_keep_1 : decode cX7_keep 1 = .ok (.getfield 7, 3) := by decide +kernel
theorem dX7_keep_4 : decode cX7_keep 4 = .ok (.iload_n 1, 1) := by decide +kernel
theorem dX7_keep_5 : decode cX7_keep 5 = .ok (.aload_n 0, 1) := by decide +kernel
theorem dX7_keep_6 : decode cX7_keep 6 = .ok (.getfield 126, 3) := by decide +kernel
theorem dX7_keep_9 : decode cX7_keep 9 = .ok (.iastore, 1) := by decide +kernel
theorem dX7_keep_10 : decode cX7_keep 10 = .ok (.iconst 0, 1) := by decide +kernel
theorem dX7_keep_11 : decode cX7_keep 11 = .ok (.istore_n 2, 1) := by decide +kernel
theorem dX7_keep_12 : decode cX7_keep 12 = .ok (.iload_n 2, 1) := by decide +kernel
theorem dX7_keep_13 : decode cX7_keep 13 = .ok (.iconst 4, 1) := by decide +kernel
theorem dX7_keep_14 : decode cX7_keep 14 = .ok (.if_icmp .ge 20, 3) := by decide +kernel
theorem dX7_keep_17 : decode cX7_keep 17 = .ok (.aload_n 0, 1) := by decide +kernel
theorem dX7_keep_18 : decode cX7_keep 18 = .ok (.getfield 29, 3) := by decide +kernel
theorem dX7_keep_21 : decode cX7_keep 21 = .ok (.iconst 4, 1) := by decide +kernel
theorem dX7_keep_22 : decode cX7_keep 22 = .ok (.iload_n 1, 1) := by decide +kernel
theorem dX7_keep_23 : decode cX7_keep 23 = .ok (.imul, 1) := by decide +kernel
theorem dX7_keep_24 : decode cX7_keep 24 = .ok (.iload_n 2, 1) := by decide +kernel
theorem dX7_keep_25 : decode cX7_keep 25 = .ok (.iadd, 1) := by decide +kernel
theorem dX7_keep_26 : decode cX7_keep 26 = .ok (.iconst 0, 1) := by decide +kernel
theorem dX7_keep_27 : decode cX7_keep 27 = .ok (.iastore, 1) := by decide +kernel
theorem dX7_keep_28 : decode cX7_keep 28 = .ok (.iinc 2 1, 3) := by decide +kernel
theorem dX7_keep_31 : decode cX7_keep 31 = .ok (.goto (-19), 3) := by decide +kernel
theorem dX7_keep_34 : decode cX7_keep 34 = .ok (.iconst 0, 1) := by decide +kernel
theorem dX7_keep_35 : decode cX7_keep 35 = .ok (.istore_n 2, 1) := by decide +kernel
theorem dX7_keep_36 : decode cX7_keep 36 = .ok (.iload_n 2, 1) := by decide +kernel
theorem dX7_keep_37 : decode cX7_keep 37 = .ok (.aload_n 0, 1) := by decide +kernel
theorem dX7_keep_38 : decode cX7_keep 38 = .ok (.getfield 126, 3) := by decide +kernel
theorem dX7_keep_41 : decode cX7_keep 41 = .ok (.if_icmp .ge 118, 3) := by decide +kernel
theorem dX7_keep_44 : decode cX7_keep 44 = .ok (.bipush 20, 2) := by decide +kernel
theorem dX7_keep_46 : decode cX7_keep 46 = .ok (.iload_n 1, 1) := by decide +kernel
theorem dX7_keep_47 : decode cX7_keep 47 = .ok (.imul, 1) := by decide +kernel
theorem dX7_keep_48 : decode cX7_keep 48 = .ok (.iload_n 2, 1) := by decide +kernel
theorem dX7_keep_49 : decode cX7_keep 49 = .ok (.iadd, 1) := by decide +kernel
theorem dX7_keep_50 : decode cX7_keep 50 = .ok (.istore_n 3, 1) := by decide +kernel
theorem dX7_keep_51 : decode cX7_keep 51 = .ok (.aload_n 0, 1) := by decide +kernel
theorem dX7_keep_52 : decode cX7_keep 52 = .ok (.getfield 13, 3) := by decide +kernel
theorem dX7_keep_55 : decode cX7_keep 55 = .ok (.iload_n 3, 1) := by decide +kernel
theorem dX7_keep_56 : decode cX7_keep 56 = .ok (.aload_n 0, 1) := by decide +kernel
theorem dX7_keep_57 : decode cX7_keep 57 = .ok (.getfield 38, 3) := by decide +kernel
theorem dX7_keep_60 : decode cX7_keep 60 = .ok (.iload_n 2, 1) := by decide +kernel
theorem dX7_keep_61 : decode cX7_keep 61 = .ok (.baload, 1) := by decide +kernel
theorem dX7_keep_62 : decode cX7_keep 62 = .ok (.bastore, 1) := by decide +kernel
theorem dX7_keep_63 : decode cX7_keep 63 = .ok (.aload_n 0, 1) := by decide +kernel
theorem dX7_keep_64 : decode cX7_keep 64 = .ok (.getfield 17, 3) := by decide +kernel
theorem dX7_keep_67 : decode cX7_keep 67 = .ok (.iload_n 3, 1) := by decide +kernel
theorem dX7_keep_68 : decode cX7_keep 68 = .ok (.aload_n 0, 1) := by decide +kernel
theorem dX7_keep_69 : decode cX7_keep 69 = .ok (.getfield 41, 3) := by decide +kernel
theorem dX7_keep_72 : decode cX7_keep 72 = .ok (.iload_n 2, 1) := by decide +kernel
theorem dX7_keep_73 : decode cX7_keep 73 = .ok (.iaload, 1) := by decide +kernel
theorem dX7_keep_74 : decode cX7_keep 74 = .ok (.iastore, 1) := by decide +kernel
theorem dX7_keep_75 : decode cX7_keep 75 = .ok (.aload_n 0, 1) := by decide +kernel
theorem dX7_keep_76 : decode cX7_keep 76 = .ok (.getfield 20, 3) := by decide +kernel
theorem dX7_keep_79 : decode cX7_keep 79 = .ok (.iload_n 3, 1) := by decide +kernel
theorem dX7_keep_80 : decode cX7_keep 80 = .ok (.aload_n 0, 1) := by decide +kernel
theorem dX7_keep_81 : decode cX7_keep 81 = .ok (.getfield 44, 3) := by decide +kernel
theorem dX7_keep_84 : decode cX7_keep 84 = .ok (.iload_n 2, 1) := by decide +kernel
theorem dX7_keep_85 : decode cX7_keep 85 = .ok (.iaload, 1) := by decide +kernel
theorem dX7_keep_86 : decode cX7_keep 86 = .ok (.iastore, 1) := by decide +kernel
theorem dX7_keep_87 : decode cX7_keep 87 = .ok (.aload_n 0, 1) := by decide +kernel
theorem dX7_keep_88 : decode cX7_keep 88 = .ok (.getfield 23, 3) := by decide +kernel
theorem dX7_keep_91 : decode cX7_keep 91 = .ok (.iload_n 3, 1) := by decide +kernel
theorem dX7_keep_92 : decode cX7_keep 92 = .ok (.aload_n 0, 1) := by decide +kernel
theorem dX7_keep_93 : decode cX7_keep 93 = .ok (.getfield 47, 3) := by decide +kernel
theorem dX7_keep_96 : decode cX7_keep 96 = .ok (.iload_n 2, 1) := by decide +kernel
theorem dX7_keep_97 : decode cX7_keep 97 = .ok (.iaload, 1) := by decide +kernel
theorem dX7_keep_98 : decode cX7_keep 98 = .ok (.iastore, 1) := by decide +kernel
theorem dX7_keep_99 : decode cX7_keep 99 = .ok (.aload_n 0, 1) := by decide +kernel
theorem dX7_keep_100 : decode cX7_keep 100 = .ok (.getfield 26, 3) := by decide +kernel
theorem dX7_keep_103 : decode cX7_keep 103 = .ok (.iload_n 3, 1) := by decide +kernel
theorem dX7_keep_104 : decode cX7_keep 104 = .ok (.aload_n 0, 1) := by decide +kernel
theorem dX7_keep_105 : decode cX7_keep 105 = .ok (.getfield 50, 3) := by decide +kernel
theorem dX7_keep_108 : decode cX7_keep 108 = .ok (.iload_n 2, 1) := by decide +kernel
theorem dX7_keep_109 : decode cX7_keep 109 = .ok (.iaload, 1) := by decide +kernel
theorem dX7_keep_110 : decode cX7_keep 110 = .ok (.iastore, 1) := by decide +kernel
theorem dX7_keep_111 : decode cX7_keep 111 = .ok (.iconst 4, 1) := by decide +kernel
theorem dX7_keep_112 : decode cX7_keep 112 = .ok (.iload_n 1, 1) := by decide +kernel
theorem dX7_keep_113 : decode cX7_keep 113 = .ok (.imul, 1) := by decide +kernel
theorem dX7_keep_114 : decode cX7_keep 114 = .ok (.aload_n 0, 1) := by decide +kernel
theorem dX7_keep_115 : decode cX7_keep 115 = .ok (.getfield 41, 3) := by decide +kernel
theorem dX7_keep_118 : decode cX7_keep 118 = .ok (.iload_n 2, 1) := by decide +kernel
theorem dX7_keep_119 : decode cX7_keep 119 = .ok (.iaload, 1) := by decide +kernel
theorem dX7_keep_120 : decode cX7_keep 120 = .ok (.iadd, 1) := by decide +kernel
theorem dX7_keep_121 : decode cX7_keep 121 = .ok (.istore 4, 2) := by decide +kernel
theorem dX7_keep_123 : decode cX7_keep 123 = .ok (.aload_n 0, 1) := by decide +kernel
theorem dX7_keep_124 : decode cX7_keep 124 = .ok (.getfield 32, 3) := by decide +kernel
theorem dX7_keep_127 : decode cX7_keep 127 = .ok (.bipush 20, 2) := by decide +kernel
theorem dX7_keep_129 : decode cX7_keep 129 = .ok (.iload 4, 2) := by decide +kernel
theorem dX7_keep_131 : decode cX7_keep 131 = .ok (.imul, 1) := by decide +kernel
theorem dX7_keep_132 : decode cX7_keep 132 = .ok (.aload_n 0, 1) := by decide +kernel
theorem dX7_keep_133 : decode cX7_keep 133 = .ok (.getfield 29, 3) := by decide +kernel
theorem dX7_keep_136 : decode cX7_keep 136 = .ok (.iload 4, 2) := by decide +kernel
theorem dX7_keep_138 : decode cX7_keep 138 = .ok (.iaload, 1) := by decide +kernel
theorem dX7_keep_139 : decode cX7_keep 139 = .ok (.iadd, 1) := by decide +kernel
theorem dX7_keep_140 : decode cX7_keep 140 = .ok (.iload_n 2, 1) := by decide +kernel
theorem dX7_keep_141 : decode cX7_keep 141 = .ok (.iastore, 1) := by decide +kernel
theorem dX7_keep_142 : decode cX7_keep 142 = .ok (.aload_n 0, 1) := by decide +kernel
theorem dX7_keep_143 : decode cX7_keep 143 = .ok (.getfield 29, 3) := by decide +kernel
theorem dX7_keep_146 : decode cX7_keep 146 = .ok (.iload 4, 2) := by decide +kernel
theorem dX7_keep_148 : decode cX7_keep 148 = .ok (.dup2, 1) := by decide +kernel
theorem dX7_keep_149 : decode cX7_keep 149 = .ok (.iaload, 1) := by decide +kernel
theorem dX7_keep_150 : decode cX7_keep 150 = .ok (.iconst 1, 1) := by decide +kernel
theorem dX7_keep_151 : decode cX7_keep 151 = .ok (.iadd, 1) := by decide +kernel
theorem dX7_keep_152 : decode cX7_keep 152 = .ok (.iastore, 1) := by decide +kernel
theorem dX7_keep_153 : decode cX7_keep 153 = .ok (.iinc 2 1, 3) := by decide +kernel
theorem dX7_keep_156 : decode cX7_keep 156 = .ok (.goto (-120), 3) := by decide +kernel
theorem dX7_keep_159 : decode cX7_keep 159 = .ok (.aload_n 0, 1) := by decide +kernel
theorem dX7_keep_160 : decode cX7_keep 160 = .ok (.getfield 126, 3) := by decide +kernel
theorem dX7_keep_163 : decode cX7_keep 163 = .ok (.ireturn, 1) := by decide +kernel
def tbX7_keep (pc : Nat) : dt_T := cond (Nat.ble pc 80) (cond (Nat.ble pc 38) (cond (Nat.ble pc 18) (cond (Nat.ble pc 9) (cond (Nat.ble pc 4) (cond (Nat.ble pc 0) (cond (Nat.beq pc 0) (tc_ldA 0 1) tc_no) (cond (Nat.ble pc 1) (cond (Nat.beq pc 1) (tc_getf 7 0 4) tc_no) (cond (Nat.beq pc 4) (tc_ldI 1 5) tc_no))) (cond (Nat.ble pc 5) (cond (Nat.beq pc 5) (tc_ldA 0 6) tc_no) (cond (Nat.ble pc 6) (cond (Nat.beq pc 6) (tc_getf 7 10 9) tc_no) (cond (Nat.beq pc 9) (tc_iast 10) tc_no)))) (cond (Nat.ble pc 12) (cond (Nat.ble pc 10) (cond (Nat.beq pc 10) (tc_ic 0 11) tc_no) (cond (Nat.ble pc 11) (cond (Nat.beq pc 11) (tc_stI 2 12) tc_no) (cond (Nat.beq pc 12) (tc_ldI 2 13) tc_no))) (cond (Nat.ble pc 14) (cond (Nat.ble pc 13) (cond (Nat.beq pc 13) (tc_ic 4 14) tc_no) (cond (Nat.beq pc 14) (tc_icmpge 34 17) tc_no)) (cond (Nat.ble pc 17) (cond (Nat.beq pc 17) (tc_ldA 0 18) tc_no) (cond (Nat.beq pc 18) (tc_getf 7 6 21) tc_no))))) (cond (Nat.ble pc 27) (cond (Nat.ble pc 23) (cond (Nat.ble pc 21) (cond (Nat.beq pc 21) (tc_ic 4 22) tc_no) (cond (Nat.ble pc 22) (cond (Nat.beq pc 22) (tc_ldI 1 23) tc_no) (cond (Nat.beq pc 23) (tc_imul 24) tc_no))) (cond (Nat.ble pc 25) (cond (Nat.ble pc 24) (cond (Nat.beq pc 24) (tc_ldI 2 25) tc_no) (cond (Nat.beq pc 25) (tc_iadd 26) tc_no)) (cond (Nat.ble pc 26) (cond (Nat.beq pc 26) (tc_ic 0 27) tc_no) (cond (Nat.beq pc 27) (tc_iast 28) tc_no)))) (cond (Nat.ble pc 34) (cond (Nat.ble pc 28) (cond (Nat.beq pc 28) (tc_iinc 2 1 31) tc_no) (cond (Nat.ble pc 31) (cond (Nat.beq pc 31) (tc_goto 12) tc_no) (cond (Nat.beq pc 34) (tc_ic 0 35) tc_no))) (cond (Nat.ble pc 36) (cond (Nat.ble pc 35) (cond (Nat.beq pc 35) (tc_stI 2 36) tc_no) (cond (Nat.beq pc 36) (tc_ldI 2 37) tc_no)) (cond (Nat.ble pc 37) (cond (Nat.beq pc 37) (tc_ldA 0 38) tc_no) (cond (Nat.beq pc 38) (tc_getf 7 10 41) tc_no)))))) (cond (Nat.ble pc 60) (cond (Nat.ble pc 49) (cond (Nat.ble pc 46) (cond (Nat.ble pc 41) (cond (Nat.beq pc 41) (tc_icmpge 159 44) tc_no) (cond (Nat.ble pc 44) (cond (Nat.beq pc 44) (tc_ic 20 46) tc_no) (cond (Nat.beq pc 46) (tc_ldI 1 47) tc_no))) (cond (Nat.ble pc 47) (cond (Nat.beq pc 47) (tc_imul 48) tc_no) (cond (Nat.ble pc 48) (cond (Nat.beq pc 48) (tc_ldI 2 49) tc_no) (cond (Nat.beq pc 49) (tc_iadd 50) tc_no)))) (cond (Nat.ble pc 52) (cond (Nat.ble pc 50) (cond (Nat.beq pc 50) (tc_stI 3 51) tc_no) (cond (Nat.ble pc 51) (cond (Nat.beq pc 51) (tc_ldA 0 52) tc_no) (cond (Nat.beq pc 52) (tc_getf 7 1 55) tc_no))) (cond (Nat.ble pc 56) (cond (Nat.ble pc 55) (cond (Nat.beq pc 55) (tc_ldI 3 56) tc_no) (cond (Nat.beq pc 56) (tc_ldA 0 57) tc_no)) (cond (Nat.ble pc 57) (cond (Nat.beq pc 57) (tc_getf 7 13 60) tc_no) (cond (Nat.beq pc 60) (tc_ldI 2 61) tc_no))))) (cond (Nat.ble pc 69) (cond (Nat.ble pc 63) (cond (Nat.ble pc 61) (cond (Nat.beq pc 61) (tc_zald 62) tc_no) (cond (Nat.ble pc 62) (cond (Nat.beq pc 62) (tc_zast 63) tc_no) (cond (Nat.beq pc 63) (tc_ldA 0 64) tc_no))) (cond (Nat.ble pc 67) (cond (Nat.ble pc 64) (cond (Nat.beq pc 64) (tc_getf 7 2 67) tc_no) (cond (Nat.beq pc 67) (tc_ldI 3 68) tc_no)) (cond (Nat.ble pc 68) (cond (Nat.beq pc 68) (tc_ldA 0 69) tc_no) (cond (Nat.beq pc 69) (tc_getf 7 14 72) tc_no)))) (cond (Nat.ble pc 74) (cond (Nat.ble pc 72) (cond (Nat.beq pc 72) (tc_ldI 2 73) tc_no) (cond (Nat.ble pc 73) (cond (Nat.beq pc 73) (tc_iald 74) tc_no) (cond (Nat.beq pc 74) (tc_iast 75) tc_no))) (cond (Nat.ble pc 76) (cond (Nat.ble pc 75) (cond (Nat.beq pc 75) (tc_ldA 0 76) tc_no) (cond (Nat.beq pc 76) (tc_getf 7 3 79) tc_no)) (cond (Nat.ble pc 79) (cond (Nat.beq pc 79) (tc_ldI 3 80) tc_no) (cond (Nat.beq pc 80) (tc_ldA 0 81) tc_no))))))) (cond (Nat.ble pc 119) (cond (Nat.ble pc 99) (cond (Nat.ble pc 88) (cond (Nat.ble pc 85) (cond (Nat.ble pc 81) (cond (Nat.beq pc 81) (tc_getf 7 15 84) tc_no) (cond (Nat.ble pc 84) (cond (Nat.beq pc 84) (tc_ldI 2 85) tc_no) (cond (Nat.beq pc 85) (tc_iald 86) tc_no))) (cond (Nat.ble pc 86) (cond (Nat.beq pc 86) (tc_iast 87) tc_no) (cond (Nat.ble pc 87) (cond (Nat.beq pc 87) (tc_ldA 0 88) tc_no) (cond (Nat.beq pc 88) (tc_getf 7 4 91) tc_no)))) (cond (Nat.ble pc 93) (cond (Nat.ble pc 91) (cond (Nat.beq pc 91) (tc_ldI 3 92) tc_no) (cond (Nat.ble pc 92) (cond (Nat.beq pc 92) (tc_ldA 0 93) tc_no) (cond (Nat.beq pc 93) (tc_getf 7 16 96) tc_no))) (cond (Nat.ble pc 97) (cond (Nat.ble pc 96) (cond (Nat.beq pc 96) (tc_ldI 2 97) tc_no) (cond (Nat.beq pc 97) (tc_iald 98) tc_no)) (cond (Nat.ble pc 98) (cond (Nat.beq pc 98) (tc_iast 99) tc_no) (cond (Nat.beq pc 99) (tc_ldA 0 100) tc_no))))) (cond (Nat.ble pc 110) (cond (Nat.ble pc 104) (cond (Nat.ble pc 100) (cond (Nat.beq pc 100) (tc_getf 7 5 103) tc_no) (cond (Nat.ble pc 103) (cond (Nat.beq pc 103) (tc_ldI 3 104) tc_no) (cond (Nat.beq pc 104) (tc_ldA 0 105) tc_no))) (cond (Nat.ble pc 108) (cond (Nat.ble pc 105) (cond (Nat.beq pc 105) (tc_getf 7 17 108) tc_no) (cond (Nat.beq pc 108) (tc_ldI 2 109) tc_no)) (cond (Nat.ble pc 109) (cond (Nat.beq pc 109) (tc_iald 110) tc_no) (cond (Nat.beq pc 110) (tc_iast 111) tc_no)))) (cond (Nat.ble pc 113) (cond (Nat.ble pc 111) (cond (Nat.beq pc 111) (tc_ic 4 112) tc_no) (cond (Nat.ble pc 112) (cond (Nat.beq pc 112) (tc_ldI 1 113) tc_no) (cond (Nat.beq pc 113) (tc_imul 114) tc_no))) (cond (Nat.ble pc 115) (cond (Nat.ble pc 114) (cond (Nat.beq pc 114) (tc_ldA 0 115) tc_no) (cond (Nat.beq pc 115) (tc_getf 7 14 118) tc_no)) (cond (Nat.ble pc 118) (cond (Nat.beq pc 118) (tc_ldI 2 119) tc_no) (cond (Nat.beq pc 119) (tc_iald 120) tc_no)))))) (cond (Nat.ble pc 140) (cond (Nat.ble pc 129) (cond (Nat.ble pc 123) (cond (Nat.ble pc 120) (cond (Nat.beq pc 120) (tc_iadd 121) tc_no) (cond (Nat.ble pc 121) (cond (Nat.beq pc 121) (tc_stI 4 123) tc_no) (cond (Nat.beq pc 123) (tc_ldA 0 124) tc_no))) (cond (Nat.ble pc 124) (cond (Nat.beq pc 124) (tc_getf 7 7 127) tc_no) (cond (Nat.ble pc 127) (cond (Nat.beq pc 127) (tc_ic 20 129) tc_no) (cond (Nat.beq pc 129) (tc_ldI 4 131) tc_no)))) (cond (Nat.ble pc 133) (cond (Nat.ble pc 131) (cond (Nat.beq pc 131) (tc_imul 132) tc_no) (cond (Nat.ble pc 132) (cond (Nat.beq pc 132) (tc_ldA 0 133) tc_no) (cond (Nat.beq pc 133) (tc_getf 7 6 136) tc_no))) (cond (Nat.ble pc 138) (cond (Nat.ble pc 136) (cond (Nat.beq pc 136) (tc_ldI 4 138) tc_no) (cond (Nat.beq pc 138) (tc_iald 139) tc_no)) (cond (Nat.ble pc 139) (cond (Nat.beq pc 139) (tc_iadd 140) tc_no) (cond (Nat.beq pc 140) (tc_ldI 2 141) tc_no))))) (cond (Nat.ble pc 150) (cond (Nat.ble pc 143) (cond (Nat.ble pc 141) (cond (Nat.beq pc 141) (tc_iast 142) tc_no) (cond (Nat.ble pc 142) (cond (Nat.beq pc 142) (tc_ldA 0 143) tc_no) (cond (Nat.beq pc 143) (tc_getf 7 6 146) tc_no))) (cond (Nat.ble pc 148) (cond (Nat.ble pc 146) (cond (Nat.beq pc 146) (tc_ldI 4 148) tc_no) (cond (Nat.beq pc 148) (tc_dup2 149) tc_no)) (cond (Nat.ble pc 149) (cond (Nat.beq pc 149) (tc_iald 150) tc_no) (cond (Nat.beq pc 150) (tc_ic 1 151) tc_no)))) (cond (Nat.ble pc 153) (cond (Nat.ble pc 151) (cond (Nat.beq pc 151) (tc_iadd 152) tc_no) (cond (Nat.ble pc 152) (cond (Nat.beq pc 152) (tc_iast 153) tc_no) (cond (Nat.beq pc 153) (tc_iinc 2 1 156) tc_no))) (cond (Nat.ble pc 159) (cond (Nat.ble pc 156) (cond (Nat.beq pc 156) (tc_goto 36) tc_no) (cond (Nat.beq pc 159) (tc_ldA 0 160) tc_no)) (cond (Nat.ble pc 160) (cond (Nat.beq pc 160) (tc_getf 7 10 163) tc_no) (cond (Nat.beq pc 163) (tc_iret) tc_no)))))))
theorem okX7_keep : ∀ pc, dt_S mX7_keep (tbX7_keep pc) pc := by
  intro pc
  unfold tbX7_keep
  exact dt_Sb (dt_Sb (dt_Sb (dt_Sb (dt_Sb (dt_Sb (dt_Sl 0 (sn_ldAn rfl dX7_keep_0 rfl)) (dt_Sb (dt_Sl 1 (sn_getf rfl ffX7 (by decide) wq_3_137 dX7_keep_1 rfl)) (dt_Sl 4 (sn_ldIn rfl dX7_keep_4 rfl)))) (dt_Sb (dt_Sl 5 (sn_ldAn rfl dX7_keep_5 rfl)) (dt_Sb (dt_Sl 6 (sn_getf rfl ffX7 (by decide) wq_3_147 dX7_keep_6 rfl)) (dt_Sl 9 (sn_iast dX7_keep_9 rfl))))) (dt_Sb (dt_Sb (dt_Sl 10 (sn_ic ⟨by decide, by decide⟩ dX7_keep_10 rfl)) (dt_Sb (dt_Sl 11 (sn_stIn rfl (by decide) dX7_keep_11 rfl)) (dt_Sl 12 (sn_ldIn rfl dX7_keep_12 rfl)))) (dt_Sb (dt_Sb (dt_Sl 13 (sn_ic ⟨by decide, by decide⟩ dX7_keep_13 rfl)) (dt_Sl 14 (sn_icmpge dX7_keep_14 (by decide) rfl))) (dt_Sb (dt_Sl 17 (sn_ldAn rfl dX7_keep_17 rfl)) (dt_Sl 18 (sn_getf rfl ffX7 (by decide) wq_3_143 dX7_keep_18 rfl)))))) (dt_Sb (dt_Sb (dt_Sb (dt_Sl 21 (sn_ic ⟨by decide, by decide⟩ dX7_keep_21 rfl)) (dt_Sb (dt_Sl 22 (sn_ldIn rfl dX7_keep_22 rfl)) (dt_Sl 23 (sn_imul dX7_keep_23 rfl)))) (dt_Sb (dt_Sb (dt_Sl 24 (sn_ldIn rfl dX7_keep_24 rfl)) (dt_Sl 25 (sn_iadd dX7_keep_25 rfl))) (dt_Sb (dt_Sl 26 (sn_ic ⟨by decide, by decide⟩ dX7_keep_26 rfl)) (dt_Sl 27 (sn_iast dX7_keep_27 rfl))))) (dt_Sb (dt_Sb (dt_Sl 28 (sn_iinc (by decide) dX7_keep_28 rfl)) (dt_Sb (dt_Sl 31 (sn_goto dX7_keep_31 (by decide))) (dt_Sl 34 (sn_ic ⟨by decide, by decide⟩ dX7_keep_34 rfl)))) (dt_Sb (dt_Sb (dt_Sl 35 (sn_stIn rfl (by decide) dX7_keep_35 rfl)) (dt_Sl 36 (sn_ldIn rfl dX7_keep_36 rfl))) (dt_Sb (dt_Sl 37 (sn_ldAn rfl dX7_keep_37 rfl)) (dt_Sl 38 (sn_getf rfl ffX7 (by decide) wq_3_147 dX7_keep_38 rfl))))))) (dt_Sb (dt_Sb (dt_Sb (dt_Sb (dt_Sl 41 (sn_icmpge dX7_keep_41 (by decide) rfl)) (dt_Sb (dt_Sl 44 (sn_bi ⟨by decide, by decide⟩ rfl dX7_keep_44 rfl)) (dt_Sl 46 (sn_ldIn rfl dX7_keep_46 rfl)))) (dt_Sb (dt_Sl 47 (sn_imul dX7_keep_47 rfl)) (dt_Sb (dt_Sl 48 (sn_ldIn rfl dX7_keep_48 rfl)) (dt_Sl 49 (sn_iadd dX7_keep_49 rfl))))) (dt_Sb (dt_Sb (dt_Sl 50 (sn_stIn rfl (by decide) dX7_keep_50 rfl)) (dt_Sb (dt_Sl 51 (sn_ldAn rfl dX7_keep_51 rfl)) (dt_Sl 52 (sn_getf rfl ffX7 (by decide) wq_3_138 dX7_keep_52 rfl)))) (dt_Sb (dt_Sb (dt_Sl 55 (sn_ldIn rfl dX7_keep_55 rfl)) (dt_Sl 56 (sn_ldAn rfl dX7_keep_56 rfl))) (dt_Sb (dt_Sl 57 (sn_getf rfl ffX7 (by decide) wq_3_150 dX7_keep_57 rfl)) (dt_Sl 60 (sn_ldIn rfl dX7_keep_60 rfl)))))) (dt_Sb (dt_Sb (dt_Sb (dt_Sl 61 (sn_zald dX7_keep_61 rfl)) (dt_Sb (dt_Sl 62 (sn_zast dX7_keep_62 rfl)) (dt_Sl 63 (sn_ldAn rfl dX7_keep_63 rfl)))) (dt_Sb (dt_Sb (dt_Sl 64 (sn_getf rfl ffX7 (by decide) wq_3_139 dX7_keep_64 rfl)) (dt_Sl 67 (sn_ldIn rfl dX7_keep_67 rfl))) (dt_Sb (dt_Sl 68 (sn_ldAn rfl dX7_keep_68 rfl)) (dt_Sl 69 (sn_getf rfl ffX7 (by decide) wq_3_151 dX7_keep_69 rfl))))) (dt_Sb (dt_Sb (dt_Sl 72 (sn_ldIn rfl dX7_keep_72 rfl)) (dt_Sb (dt_Sl 73 (sn_iald dX7_keep_73 rfl)) (dt_Sl 74 (sn_iast dX7_keep_74 rfl)))) (dt_Sb (dt_Sb (dt_Sl 75 (sn_ldAn rfl dX7_keep_75 rfl)) (dt_Sl 76 (sn_getf rfl ffX7 (by decide) wq_3_140 dX7_keep_76 rfl))) (dt_Sb (dt_Sl 79 (sn_ldIn rfl dX7_keep_79 rfl)) (dt_Sl 80 (sn_ldAn rfl dX7_keep_80 rfl)))))))) (dt_Sb (dt_Sb (dt_Sb (dt_Sb (dt_Sb (dt_Sl 81 (sn_getf rfl ffX7 (by decide) wq_3_152 dX7_keep_81 rfl)) (dt_Sb (dt_Sl 84 (sn_ldIn rfl dX7_keep_84 rfl)) (dt_Sl 85 (sn_iald dX7_keep_85 rfl)))) (dt_Sb (dt_Sl 86 (sn_iast dX7_keep_86 rfl)) (dt_Sb (dt_Sl 87 (sn_ldAn rfl dX7_keep_87 rfl)) (dt_Sl 88 (sn_getf rfl ffX7 (by decide) wq_3_141 dX7_keep_88 rfl))))) (dt_Sb (dt_Sb (dt_Sl 91 (sn_ldIn rfl dX7_keep_91 rfl)) (dt_Sb (dt_Sl 92 (sn_ldAn rfl dX7_keep_92 rfl)) (dt_Sl 93 (sn_getf rfl ffX7 (by decide) wq_3_153 dX7_keep_93 rfl)))) (dt_Sb (dt_Sb (dt_Sl 96 (sn_ldIn rfl dX7_keep_96 rfl)) (dt_Sl 97 (sn_iald dX7_keep_97 rfl))) (dt_Sb (dt_Sl 98 (sn_iast dX7_keep_98 rfl)) (dt_Sl 99 (sn_ldAn rfl dX7_keep_99 rfl)))))) (dt_Sb (dt_Sb (dt_Sb (dt_Sl 100 (sn_getf rfl ffX7 (by decide) wq_3_142 dX7_keep_100 rfl)) (dt_Sb (dt_Sl 103 (sn_ldIn rfl dX7_keep_103 rfl)) (dt_Sl 104 (sn_ldAn rfl dX7_keep_104 rfl)))) (dt_Sb (dt_Sb (dt_Sl 105 (sn_getf rfl ffX7 (by decide) wq_3_154 dX7_keep_105 rfl)) (dt_Sl 108 (sn_ldIn rfl dX7_keep_108 rfl))) (dt_Sb (dt_Sl 109 (sn_iald dX7_keep_109 rfl)) (dt_Sl 110 (sn_iast dX7_keep_110 rfl))))) (dt_Sb (dt_Sb (dt_Sl 111 (sn_ic ⟨by decide, by decide⟩ dX7_keep_111 rfl)) (dt_Sb (dt_Sl 112 (sn_ldIn rfl dX7_keep_112 rfl)) (dt_Sl 113 (sn_imul dX7_keep_113 rfl)))) (dt_Sb (dt_Sb (dt_Sl 114 (sn_ldAn rfl dX7_keep_114 rfl)) (dt_Sl 115 (sn_getf rfl ffX7 (by decide) wq_3_151 dX7_keep_115 rfl))) (dt_Sb (dt_Sl 118 (sn_ldIn rfl dX7_keep_118 rfl)) (dt_Sl 119 (sn_iald dX7_keep_119 rfl))))))) (dt_Sb (dt_Sb (dt_Sb (dt_Sb (dt_Sl 120 (sn_iadd dX7_keep_120 rfl)) (dt_Sb (dt_Sl 121 (sn_stI (by decide) dX7_keep_121 rfl)) (dt_Sl 123 (sn_ldAn rfl dX7_keep_123 rfl)))) (dt_Sb (dt_Sl 124 (sn_getf rfl ffX7 (by decide) wq_3_144 dX7_keep_124 rfl)) (dt_Sb (dt_Sl 127 (sn_bi ⟨by decide, by decide⟩ rfl dX7_keep_127 rfl)) (dt_Sl 129 (sn_ldI dX7_keep_129 rfl))))) (dt_Sb (dt_Sb (dt_Sl 131 (sn_imul dX7_keep_131 rfl)) (dt_Sb (dt_Sl 132 (sn_ldAn rfl dX7_keep_132 rfl)) (dt_Sl 133 (sn_getf rfl ffX7 (by decide) wq_3_143 dX7_keep_133 rfl)))) (dt_Sb (dt_Sb (dt_Sl 136 (sn_ldI dX7_keep_136 rfl)) (dt_Sl 138 (sn_iald dX7_keep_138 rfl))) (dt_Sb (dt_Sl 139 (sn_iadd dX7_keep_139 rfl)) (dt_Sl 140 (sn_ldIn rfl dX7_keep_140 rfl)))))) (dt_Sb (dt_Sb (dt_Sb (dt_Sl 141 (sn_iast dX7_keep_141 rfl)) (dt_Sb (dt_Sl 142 (sn_ldAn rfl dX7_keep_142 rfl)) (dt_Sl 143 (sn_getf rfl ffX7 (by decide) wq_3_143 dX7_keep_143 rfl)))) (dt_Sb (dt_Sb (dt_Sl 146 (sn_ldI dX7_keep_146 rfl)) (dt_Sl 148 (sn_dup2 dX7_keep_148 rfl))) (dt_Sb (dt_Sl 149 (sn_iald dX7_keep_149 rfl)) (dt_Sl 150 (sn_ic ⟨by decide, by decide⟩ dX7_keep_150 rfl))))) (dt_Sb (dt_Sb (dt_Sl 151 (sn_iadd dX7_keep_151 rfl)) (dt_Sb (dt_Sl 152 (sn_iast dX7_keep_152 rfl)) (dt_Sl 153 (sn_iinc (by decide) dX7_keep_153 rfl)))) (dt_Sb (dt_Sb (dt_Sl 156 (sn_goto dX7_keep_156 (by decide))) (dt_Sl 159 (sn_ldAn rfl dX7_keep_159 rfl))) (dt_Sb (dt_Sl 160 (sn_getf rfl ffX7 (by decide) wq_3_147 dX7_keep_160 rfl)) (dt_Sl 163 (sn_iret rfl dX7_keep_163))))))))
theorem dX7_talk_0 : decode cX7_talk 0 = .ok (.iload_n 1, 1) := by decide +kernel
theorem dX7_talk_1 : decode cX7_talk 1 = .ok (.invokestatic 155, 3) := by decide +kernel
theorem dX7_talk_4 : decode cX7_talk 4 = .ok (.ifCond .eq 5, 3) := by decide +kernel
theorem dX7_talk_7 : decode cX7_talk 7 = .ok (.iconst (-1), 1) := by decide +kernel
theorem dX7_talk_8 : decode cX7_talk 8 = .ok (.ireturn, 1) := by decide +kernel
theorem dX7_talk_9 : decode cX7_talk 9 = .ok (.aload_n 0, 1) := by decide +kernel
theorem dX7_talk_10 : decode cX7_talk 10 = .ok (.invokevirtual 159, 3) := by decide +kernel
theorem dX7_talk_13 : decode cX7_talk 13 = .ok (.istore_n 2, 1) := by decide +kernel
theorem dX7_talk_14 : decode cX7_talk 14 = .ok (.iload_n 2, 1) := by decide +kernel
theorem dX7_talk_15 : decode cX7_talk 15 = .ok (.ifCond .lt 8, 3) := by decide +kernel
theorem dX7_talk_18 : decode cX7_talk 18 = .ok (.bipush (-10), 2) := by decide +kernel
theorem dX7_talk_20 : decode cX7_talk 20 = .ok (.iload_n 2, 1) := by decide +kernel
theorem dX7_talk_21 : decode cX7_talk 21 = .ok (.isub, 1) := by decide +kernel
theorem dX7_talk_22 : decode cX7_talk 22 = .ok (.ireturn, 1) := by decide +kernel
theorem dX7_talk_23 : decode cX7_talk 23 = .ok (.aload_n 0, 1) := by decide +kernel
theorem dX7_talk_24 : decode cX7_talk 24 = .ok (.iconst 0, 1) := by decide +kernel
theorem dX7_talk_25 : decode cX7_talk 25 = .ok (.putfield 89, 3) := by decide +kernel
theorem dX7_talk_28 : decode cX7_talk 28 = .ok (.aload_n 0, 1) := by decide +kernel
theorem dX7_talk_29 : decode cX7_talk 29 = .ok (.iload_n 1, 1) := by decide +kernel
theorem dX7_talk_30 : decode cX7_talk 30 = .ok (.invokevirtual 163, 3) := by decide +kernel
theorem dX7_talk_33 : decode cX7_talk 33 = .ok (.ireturn, 1) := by decide +kernel
def tbX7_talk (pc : Nat) : dt_T := cond (Nat.ble pc 15) (cond (Nat.ble pc 8) (cond (Nat.ble pc 1) (cond (Nat.ble pc 0) (cond (Nat.beq pc 0) (tc_ldI 1 1) tc_no) (cond (Nat.beq pc 1) (tc_callS mX7_noTalk 1 4) tc_no)) (cond (Nat.ble pc 4) (cond (Nat.beq pc 4) (tc_ifeq 9 7) tc_no) (cond (Nat.ble pc 7) (cond (Nat.beq pc 7) (tc_ic (-1) 8) tc_no) (cond (Nat.beq pc 8) (tc_iret) tc_no)))) (cond (Nat.ble pc 10) (cond (Nat.ble pc 9) (cond (Nat.beq pc 9) (tc_ldA 0 10) tc_no) (cond (Nat.beq pc 10) (tc_callV 7 mX7_readTalk 0 13) tc_no)) (cond (Nat.ble pc 13) (cond (Nat.beq pc 13) (tc_stI 2 14) tc_no) (cond (Nat.ble pc 14) (cond (Nat.beq pc 14) (tc_ldI 2 15) tc_no) (cond (Nat.beq pc 15) (tc_iflt 23 18) tc_no))))) (cond (Nat.ble pc 23) (cond (Nat.ble pc 20) (cond (Nat.ble pc 18) (cond (Nat.beq pc 18) (tc_ic (-10) 20) tc_no) (cond (Nat.beq pc 20) (tc_ldI 2 21) tc_no)) (cond (Nat.ble pc 21) (cond (Nat.beq pc 21) (tc_isub 22) tc_no) (cond (Nat.ble pc 22) (cond (Nat.beq pc 22) (tc_iret) tc_no) (cond (Nat.beq pc 23) (tc_ldA 0 24) tc_no)))) (cond (Nat.ble pc 28) (cond (Nat.ble pc 24) (cond (Nat.beq pc 24) (tc_ic 0 25) tc_no) (cond (Nat.ble pc 25) (cond (Nat.beq pc 25) (tc_putI 7 8 28) tc_no) (cond (Nat.beq pc 28) (tc_ldA 0 29) tc_no))) (cond (Nat.ble pc 29) (cond (Nat.beq pc 29) (tc_ldI 1 30) tc_no) (cond (Nat.ble pc 30) (cond (Nat.beq pc 30) (tc_callV 7 mX7_keep 1 33) tc_no) (cond (Nat.beq pc 33) (tc_iret) tc_no)))))
theorem okX7_talk : ∀ pc, dt_S mX7_talk (tbX7_talk pc) pc := by
  intro pc
  unfold tbX7_talk
  exact dt_Sb (dt_Sb (dt_Sb (dt_Sb (dt_Sl 0 (sn_ldIn rfl dX7_talk_0 rfl)) (dt_Sl 1 (sn_callS rfl nnX7_noTalk wq_4_20 wq_4_21 dX7_talk_1 rfl))) (dt_Sb (dt_Sl 4 (sn_ifeq dX7_talk_4 (by decide) rfl)) (dt_Sb (dt_Sl 7 (sn_ic ⟨by decide, by decide⟩ dX7_talk_7 rfl)) (dt_Sl 8 (sn_iret rfl dX7_talk_8))))) (dt_Sb (dt_Sb (dt_Sl 9 (sn_ldAn rfl dX7_talk_9 rfl)) (dt_Sl 10 (sn_callV rfl ffX7 nnX7_readTalk rfl wq_4_24 wq_4_26 wq_0_28 dX7_talk_10 rfl))) (dt_Sb (dt_Sl 13 (sn_stIn rfl (by decide) dX7_talk_13 rfl)) (dt_Sb (dt_Sl 14 (sn_ldIn rfl dX7_talk_14 rfl)) (dt_Sl 15 (sn_iflt dX7_talk_15 (by decide) rfl)))))) (dt_Sb (dt_Sb (dt_Sb (dt_Sl 18 (sn_bi ⟨by decide, by decide⟩ rfl dX7_talk_18 rfl)) (dt_Sl 20 (sn_ldIn rfl dX7_talk_20 rfl))) (dt_Sb (dt_Sl 21 (sn_isub dX7_talk_21 rfl)) (dt_Sb (dt_Sl 22 (sn_iret rfl dX7_talk_22)) (dt_Sl 23 (sn_ldAn rfl dX7_talk_23 rfl))))) (dt_Sb (dt_Sb (dt_Sl 24 (sn_ic ⟨by decide, by decide⟩ dX7_talk_24 rfl)) (dt_Sb (dt_Sl 25 (sn_putI rfl ffX7 (by decide) rfl rfl (by decide +kernel) wq_3_145 dX7_talk_25 rfl)) (dt_Sl 28 (sn_ldAn rfl dX7_talk_28 rfl)))) (dt_Sb (dt_Sl 29 (sn_ldIn rfl dX7_talk_29 rfl)) (dt_Sb (dt_Sl 30 (sn_callV rfl ffX7 nnX7_keep rfl wq_4_61 wq_4_63 wq_0_34 dX7_talk_30 rfl)) (dt_Sl 33 (sn_iret rfl dX7_talk_33))))))
theorem dX7_about_0 : decode cX7_about 0 = .ok (.iload_n 1, 1) := by decide +kernel
theorem dX7_about_1 : decode cX7_about 1 = .ok (.invokestatic 155, 3) := by decide +kernel
theorem dX7_about_4 : decode cX7_about 4 = .ok (.ifCond .ne 15, 3) := by decide +kernel
theorem dX7_about_7 : decode cX7_about 7 = .ok (.iload_n 2, 1) := by decide +kernel
theorem dX7_about_8 : decode cX7_about 8 = .ok (.i2l, 1) := by decide +kernel
theorem dX7_about_9 : decode cX7_about 9 = .ok (.lconst 0, 1) := by decide +kernel
theorem dX7_about_10 : decode cX7_about 10 = .ok (.ldc2_w 167, 3) := by decide +kernel
theorem dX7_about_13 : decode cX7_about 13 = .ok (.invokestatic 83, 3) := by decide +kernel
theorem dX7_about_16 : decode cX7_about 16 = .ok (.ifCond .ne 5, 3) := by decide +kernel
theorem dX7_about_19 : decode cX7_about 19 = .ok (.iconst (-1), 1) := by decide +kernel
theorem dX7_about_20 : decode cX7_about 20 = .ok (.ireturn, 1) := by decide +kernel
theorem dX7_about_21 : decode cX7_about 21 = .ok (.iconst 0, 1) := by decide +kernel
theorem dX7_about_22 : decode cX7_about 22 = .ok (.istore_n 3, 1) := by decide +kernel
theorem dX7_about_23 : decode cX7_about 23 = .ok (.iconst 0, 1) := by decide +kernel
theorem dX7_about_24 : decode cX7_about 24 = .ok (.istore 4, 2) := by decide +kernel
theorem dX7_about_26 : decode cX7_about 26 = .ok (.iload 4, 2) := by decide +kernel
theorem dX7_about_28 : decode cX7_about 28 = .ok (.iconst 4, 1) := by decide +kernel
theorem dX7_about_29 : decode cX7_about 29 = .ok (.if_icmp .ge 34, 3) := by decide +kernel
theorem dX7_about_32 : decode cX7_about 32 = .ok (.iload_n 3, 1) := by decide +kernel
theorem dX7_about_33 : decode cX7_about 33 = .ok (.aload_n 0, 1) := by decide +kernel
theorem dX7_about_34 : decode cX7_about 34 = .ok (.getfield 29, 3) := by decide +kernel
theorem dX7_about_37 : decode cX7_about 37 = .ok (.iconst 4, 1) := by decide +kernel
theorem dX7_about_38 : decode cX7_about 38 = .ok (.iload_n 1, 1) := by decide +kernel
theorem dX7_about_39 : decode cX7_about 39 = .ok (.imul, 1) := by decide +kernel
theorem dX7_about_40 : decode cX7_about 40 = .ok (.iload 4, 2) := by decide +kernel
theorem dX7_about_42 : decode cX7_about 42 = .ok (.iadd, 1) := by decide +kernel
theorem dX7_about_43 : decode cX7_about 43 = .ok (.iaload, 1) := by decide +kernel
theorem dX7_about_44 : decode cX7_about 44 = .ok (.ifCond .le 10, 3) := by decide +kernel
theorem dX7_about_47 : decode cX7_about 47 = .ok (.iconst 1, 1) := by decide +kernel
theorem dX7_about_48 : decode cX7_about 48 = .ok (.iload 4, 2) := by decide +kernel
theorem dX7_about_50 : decode cX7_about 50 = .ok (.ishl, 1) := by decide +kernel
theorem dX7_about_51 : decode cX7_about 51 = .ok (.goto 4, 3) := by decide +kernel
theorem dX7_about_54 : decode cX7_about 54 = .ok (.iconst 0, 1) := by decide +kernel
theorem dX7_about_55 : decode cX7_about 55 = .ok (.ior, 1) := by decide +kernel
theorem dX7_about_56 : decode cX7_about 56 = .ok (.istore_n 3, 1) := by decide +kernel
theorem dX7_about_57 : decode cX7_about 57 = .ok (.iinc 4 1, 3) := by decide +kernel
theorem dX7_about_60 : decode cX7_about 60 = .ok (.goto (-34), 3) := by decide +kernel
theorem dX7_about_63 : decode cX7_about 63 = .ok (.iload_n 2, 1) := by decide +kernel
theorem dX7_about_64 : decode cX7_about 64 = .ok (.ifCond .ne 12, 3) := by decide +kernel
theorem dX7_about_67 : decode cX7_about 67 = .ok (.aload_n 0, 1) := by decide +kernel
theorem dX7_about_68 : decode cX7_about 68 = .ok (.getfield 7, 3) := by decide +kernel
theorem dX7_about_71 : decode cX7_about 71 = .ok (.iload_n 1, 1) := by decide +kernel
theorem dX7_about_72 : decode cX7_about 72 = .ok (.iaload, 1) := by decide +kernel
theorem dX7_about_73 : decode cX7_about 73 = .ok (.goto 20, 3) := by decide +kernel
theorem dX7_about_76 : decode cX7_about 76 = .ok (.iload_n 2, 1) := by decide +kernel
theorem dX7_about_77 : decode cX7_about 77 = .ok (.iconst 1, 1) := by decide +kernel
theorem dX7_about_78 : decode cX7_about 78 = .ok (.if_icmp .ne 14, 3) := by decide +kernel
theorem dX7_about_81 : decode cX7_about 81 = .ok (.aload_n 0, 1) := by decide +kernel
theorem dX7_about_82 : decode cX7_about 82 = .ok (.getfield 7, 3) := by decide +kernel
theorem dX7_about_85 : decode cX7_about 85 = .ok (.iload_n 1, 1) := by decide +kernel
theorem dX7_about_86 : decode cX7_about 86 = .ok (.iaload, 1) := by decide +kernel
theorem dX7_about_87 : decode cX7_about 87 = .ok (.iconst 2, 1) := by decide +kernel
theorem dX7_about_88 : decode cX7_about 88 = .ok (.idiv, 1) := by decide +kernel
theorem dX7_about_89 : decode cX7_about 89 = .ok (.goto 4, 3) := by decide +kernel
theorem dX7_about_92 : decode cX7_about 92 = .ok (.iload_n 3, 1) := by decide +kernel
theorem dX7_about_93 : decode cX7_about 93 = .ok (.ireturn, 1) := by decide +kernel
def tbX7_about (pc : Nat) : dt_T := cond (Nat.ble pc 44) (cond (Nat.ble pc 23) (cond (Nat.ble pc 10) (cond (Nat.ble pc 4) (cond (Nat.ble pc 0) (cond (Nat.beq pc 0) (tc_ldI 1 1) tc_no) (cond (Nat.ble pc 1) (cond (Nat.beq pc 1) (tc_callS mX7_noTalk 1 4) tc_no) (cond (Nat.beq pc 4) (tc_ifne 19 7) tc_no))) (cond (Nat.ble pc 8) (cond (Nat.ble pc 7) (cond (Nat.beq pc 7) (tc_ldI 2 8) tc_no) (cond (Nat.beq pc 8) (tc_i2l 9) tc_no)) (cond (Nat.ble pc 9) (cond (Nat.beq pc 9) (tc_lc 0 10) tc_no) (cond (Nat.beq pc 10) (tc_lc 2 13) tc_no)))) (cond (Nat.ble pc 19) (cond (Nat.ble pc 13) (cond (Nat.beq pc 13) (tc_callS mX7_in 3 16) tc_no) (cond (Nat.ble pc 16) (cond (Nat.beq pc 16) (tc_ifne 21 19) tc_no) (cond (Nat.beq pc 19) (tc_ic (-1) 20) tc_no))) (cond (Nat.ble pc 21) (cond (Nat.ble pc 20) (cond (Nat.beq pc 20) (tc_iret) tc_no) (cond (Nat.beq pc 21) (tc_ic 0 22) tc_no)) (cond (Nat.ble pc 22) (cond (Nat.beq pc 22) (tc_stI 3 23) tc_no) (cond (Nat.beq pc 23) (tc_ic 0 24) tc_no))))) (cond (Nat.ble pc 34) (cond (Nat.ble pc 28) (cond (Nat.ble pc 24) (cond (Nat.beq pc 24) (tc_stI 4 26) tc_no) (cond (Nat.ble pc 26) (cond (Nat.beq pc 26) (tc_ldI 4 28) tc_no) (cond (Nat.beq pc 28) (tc_ic 4 29) tc_no))) (cond (Nat.ble pc 32) (cond (Nat.ble pc 29) (cond (Nat.beq pc 29) (tc_icmpge 63 32) tc_no) (cond (Nat.beq pc 32) (tc_ldI 3 33) tc_no)) (cond (Nat.ble pc 33) (cond (Nat.beq pc 33) (tc_ldA 0 34) tc_no) (cond (Nat.beq pc 34) (tc_getf 7 6 37) tc_no)))) (cond (Nat.ble pc 39) (cond (Nat.ble pc 37) (cond (Nat.beq pc 37) (tc_ic 4 38) tc_no) (cond (Nat.ble pc 38) (cond (Nat.beq pc 38) (tc_ldI 1 39) tc_no) (cond (Nat.beq pc 39) (tc_imul 40) tc_no))) (cond (Nat.ble pc 42) (cond (Nat.ble pc 40) (cond (Nat.beq pc 40) (tc_ldI 4 42) tc_no) (cond (Nat.beq pc 42) (tc_iadd 43) tc_no)) (cond (Nat.ble pc 43) (cond (Nat.beq pc 43) (tc_iald 44) tc_no) (cond (Nat.beq pc 44) (tc_ifle 54 47) tc_no)))))) (cond (Nat.ble pc 71) (cond (Nat.ble pc 56) (cond (Nat.ble pc 50) (cond (Nat.ble pc 47) (cond (Nat.beq pc 47) (tc_ic 1 48) tc_no) (cond (Nat.ble pc 48) (cond (Nat.beq pc 48) (tc_ldI 4 50) tc_no) (cond (Nat.beq pc 50) (tc_ishl 51) tc_no))) (cond (Nat.ble pc 54) (cond (Nat.ble pc 51) (cond (Nat.beq pc 51) (tc_goto 55) tc_no) (cond (Nat.beq pc 54) (tc_ic 0 55) tc_no)) (cond (Nat.ble pc 55) (cond (Nat.beq pc 55) (tc_ior 56) tc_no) (cond (Nat.beq pc 56) (tc_stI 3 57) tc_no)))) (cond (Nat.ble pc 63) (cond (Nat.ble pc 57) (cond (Nat.beq pc 57) (tc_iinc 4 1 60) tc_no) (cond (Nat.ble pc 60) (cond (Nat.beq pc 60) (tc_goto 26) tc_no) (cond (Nat.beq pc 63) (tc_ldI 2 64) tc_no))) (cond (Nat.ble pc 67) (cond (Nat.ble pc 64) (cond (Nat.beq pc 64) (tc_ifne 76 67) tc_no) (cond (Nat.beq pc 67) (tc_ldA 0 68) tc_no)) (cond (Nat.ble pc 68) (cond (Nat.beq pc 68) (tc_getf 7 0 71) tc_no) (cond (Nat.beq pc 71) (tc_ldI 1 72) tc_no))))) (cond (Nat.ble pc 82) (cond (Nat.ble pc 76) (cond (Nat.ble pc 72) (cond (Nat.beq pc 72) (tc_iald 73) tc_no) (cond (Nat.ble pc 73) (cond (Nat.beq pc 73) (tc_goto 93) tc_no) (cond (Nat.beq pc 76) (tc_ldI 2 77) tc_no))) (cond (Nat.ble pc 78) (cond (Nat.ble pc 77) (cond (Nat.beq pc 77) (tc_ic 1 78) tc_no) (cond (Nat.beq pc 78) (tc_icmpne 92 81) tc_no)) (cond (Nat.ble pc 81) (cond (Nat.beq pc 81) (tc_ldA 0 82) tc_no) (cond (Nat.beq pc 82) (tc_getf 7 0 85) tc_no)))) (cond (Nat.ble pc 87) (cond (Nat.ble pc 85) (cond (Nat.beq pc 85) (tc_ldI 1 86) tc_no) (cond (Nat.ble pc 86) (cond (Nat.beq pc 86) (tc_iald 87) tc_no) (cond (Nat.beq pc 87) (tc_ic 2 88) tc_no))) (cond (Nat.ble pc 89) (cond (Nat.ble pc 88) (cond (Nat.beq pc 88) (tc_idiv 89) tc_no) (cond (Nat.beq pc 89) (tc_goto 93) tc_no)) (cond (Nat.ble pc 92) (cond (Nat.beq pc 92) (tc_ldI 3 93) tc_no) (cond (Nat.beq pc 93) (tc_iret) tc_no))))))
theorem okX7_about : ∀ pc, dt_S mX7_about (tbX7_about pc) pc := by
  intro pc
  unfold tbX7_about
  exact dt_Sb (dt_Sb (dt_Sb (dt_Sb (dt_Sb (dt_Sl 0 (sn_ldIn rfl dX7_about_0 rfl)) (dt_Sb (dt_Sl 1 (sn_callS rfl nnX7_noTalk wq_4_20 wq_4_21 dX7_about_1 rfl)) (dt_Sl 4 (sn_ifne dX7_about_4 (by decide) rfl)))) (dt_Sb (dt_Sb (dt_Sl 7 (sn_ldIn rfl dX7_about_7 rfl)) (dt_Sl 8 (sn_i2l dX7_about_8 rfl))) (dt_Sb (dt_Sl 9 (sn_lc (k := 0) ⟨by decide, by decide⟩ rfl dX7_about_9 rfl)) (dt_Sl 10 (sn_ldc2 rfl ⟨by decide, by decide⟩ wq_4_69 dX7_about_10 rfl))))) (dt_Sb (dt_Sb (dt_Sl 13 (sn_callS rfl nnX7_in wq_4_8 wq_4_9 dX7_about_13 rfl)) (dt_Sb (dt_Sl 16 (sn_ifne dX7_about_16 (by decide) rfl)) (dt_Sl 19 (sn_ic ⟨by decide, by decide⟩ dX7_about_19 rfl)))) (dt_Sb (dt_Sb (dt_Sl 20 (sn_iret rfl dX7_about_20)) (dt_Sl 21 (sn_ic ⟨by decide, by decide⟩ dX7_about_21 rfl))) (dt_Sb (dt_Sl 22 (sn_stIn rfl (by decide) dX7_about_22 rfl)) (dt_Sl 23 (sn_ic ⟨by decide, by decide⟩ dX7_about_23 rfl)))))) (dt_Sb (dt_Sb (dt_Sb (dt_Sl 24 (sn_stI (by decide) dX7_about_24 rfl)) (dt_Sb (dt_Sl 26 (sn_ldI dX7_about_26 rfl)) (dt_Sl 28 (sn_ic ⟨by decide, by decide⟩ dX7_about_28 rfl)))) (dt_Sb (dt_Sb (dt_Sl 29 (sn_icmpge dX7_about_29 (by decide) rfl)) (dt_Sl 32 (sn_ldIn rfl dX7_about_32 rfl))) (dt_Sb (dt_Sl 33 (sn_ldAn rfl dX7_about_33 rfl)) (dt_Sl 34 (sn_getf rfl ffX7 (by decide) wq_3_143 dX7_about_34 rfl))))) (dt_Sb (dt_Sb (dt_Sl 37 (sn_ic ⟨by decide, by decide⟩ dX7_about_37 rfl)) (dt_Sb (dt_Sl 38 (sn_ldIn rfl dX7_about_38 rfl)) (dt_Sl 39 (sn_imul dX7_about_39 rfl)))) (dt_Sb (dt_Sb (dt_Sl 40 (sn_ldI dX7_about_40 rfl)) (dt_Sl 42 (sn_iadd dX7_about_42 rfl))) (dt_Sb (dt_Sl 43 (sn_iald dX7_about_43 rfl)) (dt_Sl 44 (sn_ifle dX7_about_44 (by decide) rfl))))))) (dt_Sb (dt_Sb (dt_Sb (dt_Sb (dt_Sl 47 (sn_ic ⟨by decide, by decide⟩ dX7_about_47 rfl)) (dt_Sb (dt_Sl 48 (sn_ldI dX7_about_48 rfl)) (dt_Sl 50 (sn_ishl dX7_about_50 rfl)))) (dt_Sb (dt_Sb (dt_Sl 51 (sn_goto dX7_about_51 (by decide))) (dt_Sl 54 (sn_ic ⟨by decide, by decide⟩ dX7_about_54 rfl))) (dt_Sb (dt_Sl 55 (sn_ior dX7_about_55 rfl)) (dt_Sl 56 (sn_stIn rfl (by decide) dX7_about_56 rfl))))) (dt_Sb (dt_Sb (dt_Sl 57 (sn_iinc (by decide) dX7_about_57 rfl)) (dt_Sb (dt_Sl 60 (sn_goto dX7_about_60 (by decide))) (dt_Sl 63 (sn_ldIn rfl dX7_about_63 rfl)))) (dt_Sb (dt_Sb (dt_Sl 64 (sn_ifne dX7_about_64 (by decide) rfl)) (dt_Sl 67 (sn_ldAn rfl dX7_about_67 rfl))) (dt_Sb (dt_Sl 68 (sn_getf rfl ffX7 (by decide) wq_3_137 dX7_about_68 rfl)) (dt_Sl 71 (sn_ldIn rfl dX7_about_71 rfl)))))) (dt_Sb (dt_Sb (dt_Sb (dt_Sl 72 (sn_iald dX7_about_72 rfl)) (dt_Sb (dt_Sl 73 (sn_goto dX7_about_73 (by decide))) (dt_Sl 76 (sn_ldIn rfl dX7_about_76 rfl)))) (dt_Sb (dt_Sb (dt_Sl 77 (sn_ic ⟨by decide, by decide⟩ dX7_about_77 rfl)) (dt_Sl 78 (sn_icmpne dX7_about_78 (by decide) rfl))) (dt_Sb (dt_Sl 81 (sn_ldAn rfl dX7_about_81 rfl)) (dt_Sl 82 (sn_getf rfl ffX7 (by decide) wq_3_137 dX7_about_82 rfl))))) (dt_Sb (dt_Sb (dt_Sl 85 (sn_ldIn rfl dX7_about_85 rfl)) (dt_Sb (dt_Sl 86 (sn_iald dX7_about_86 rfl)) (dt_Sl 87 (sn_ic ⟨by decide, by decide⟩ dX7_about_87 rfl)))) (dt_Sb (dt_Sb (dt_Sl 88 (sn_idiv dX7_about_88 rfl)) (dt_Sl 89 (sn_goto dX7_about_89 (by decide)))) (dt_Sb (dt_Sl 92 (sn_ldIn rfl dX7_about_92 rfl)) (dt_Sl 93 (sn_iret rfl dX7_about_93)))))))
theorem dX7_noEvent_0 : decode cX7_noEvent 0 = .ok (.iload_n 1, 1) := by decide +kernel
theorem dX7_noEvent_1 : decode cX7_noEvent 1 = .ok (.invokestatic 155, 3) := by decide +kernel
theorem dX7_noEvent_4 : decode cX7_noEvent 4 = .ok (.ifCond .ne 21, 3) := by decide +kernel
theorem dX7_noEvent_7 : decode cX7_noEvent 7 = .ok (.iload_n 2, 1) := by decide +kernel
theorem dX7_noEvent_8 : decode cX7_noEvent 8 = .ok (.i2l, 1) := by decide +kernel
theorem dX7_noEvent_9 : decode cX7_noEvent 9 = .ok (.lconst 0, 1) := by decide +kernel
theorem dX7_noEvent_10 : decode cX7_noEvent 10 = .ok (.aload_n 0, 1) := by decide +kernel
theorem dX7_noEvent_11 : decode cX7_noEvent 11 = .ok (.getfield 7, 3) := by decide +kernel
theorem dX7_noEvent_14 : decode cX7_noEvent 14 = .ok (.iload_n 1, 1) := by decide +kernel
theorem dX7_noEvent_15 : decode cX7_noEvent 15 = .ok (.iaload, 1) := by decide +kernel
theorem dX7_noEvent_16 : decode cX7_noEvent 16 = .ok (.i2l, 1) := by decide +kernel
theorem dX7_noEvent_17 : decode cX7_noEvent 17 = .ok (.lconst 1, 1) := by decide +kernel
theorem dX7_noEvent_18 : decode cX7_noEvent 18 = .ok (.lsub, 1) := by decide +kernel
theorem dX7_noEvent_19 : decode cX7_noEvent 19 = .ok (.invokestatic 83, 3) := by decide +kernel
theorem dX7_noEvent_22 : decode cX7_noEvent 22 = .ok (.ifCond .ne 7, 3) := by decide +kernel
theorem dX7_noEvent_25 : decode cX7_noEvent 25 = .ok (.iconst 1, 1) := by decide +kernel
theorem dX7_noEvent_26 : decode cX7_noEvent 26 = .ok (.goto 4, 3) := by decide +kernel
theorem dX7_noEvent_29 : decode cX7_noEvent 29 = .ok (.iconst 0, 1) := by decide +kernel
theorem dX7_noEvent_30 : decode cX7_noEvent 30 = .ok (.ireturn, 1) := by decide +kernel
def tbX7_noEvent (pc : Nat) : dt_T := cond (Nat.ble pc 14) (cond (Nat.ble pc 7) (cond (Nat.ble pc 1) (cond (Nat.ble pc 0) (cond (Nat.beq pc 0) (tc_ldI 1 1) tc_no) (cond (Nat.beq pc 1) (tc_callS mX7_noTalk 1 4) tc_no)) (cond (Nat.ble pc 4) (cond (Nat.beq pc 4) (tc_ifne 25 7) tc_no) (cond (Nat.beq pc 7) (tc_ldI 2 8) tc_no))) (cond (Nat.ble pc 9) (cond (Nat.ble pc 8) (cond (Nat.beq pc 8) (tc_i2l 9) tc_no) (cond (Nat.beq pc 9) (tc_lc 0 10) tc_no)) (cond (Nat.ble pc 10) (cond (Nat.beq pc 10) (tc_ldA 0 11) tc_no) (cond (Nat.ble pc 11) (cond (Nat.beq pc 11) (tc_getf 7 0 14) tc_no) (cond (Nat.beq pc 14) (tc_ldI 1 15) tc_no))))) (cond (Nat.ble pc 19) (cond (Nat.ble pc 16) (cond (Nat.ble pc 15) (cond (Nat.beq pc 15) (tc_iald 16) tc_no) (cond (Nat.beq pc 16) (tc_i2l 17) tc_no)) (cond (Nat.ble pc 17) (cond (Nat.beq pc 17) (tc_lc 1 18) tc_no) (cond (Nat.ble pc 18) (cond (Nat.beq pc 18) (tc_lsub 19) tc_no) (cond (Nat.beq pc 19) (tc_callS mX7_in 3 22) tc_no)))) (cond (Nat.ble pc 25) (cond (Nat.ble pc 22) (cond (Nat.beq pc 22) (tc_ifne 29 25) tc_no) (cond (Nat.beq pc 25) (tc_ic 1 26) tc_no)) (cond (Nat.ble pc 26) (cond (Nat.beq pc 26) (tc_goto 30) tc_no) (cond (Nat.ble pc 29) (cond (Nat.beq pc 29) (tc_ic 0 30) tc_no) (cond (Nat.beq pc 30) (tc_zret) tc_no)))))
theorem okX7_noEvent : ∀ pc, dt_S mX7_noEvent (tbX7_noEvent pc) pc := by
  intro pc
  unfold tbX7_noEvent
  exact dt_Sb (dt_Sb (dt_Sb (dt_Sb (dt_Sl 0 (sn_ldIn rfl dX7_noEvent_0 rfl)) (dt_Sl 1 (sn_callS rfl nnX7_noTalk wq_4_20 wq_4_21 dX7_noEvent_1 rfl))) (dt_Sb (dt_Sl 4 (sn_ifne dX7_noEvent_4 (by decide) rfl)) (dt_Sl 7 (sn_ldIn rfl dX7_noEvent_7 rfl)))) (dt_Sb (dt_Sb (dt_Sl 8 (sn_i2l dX7_noEvent_8 rfl)) (dt_Sl 9 (sn_lc (k := 0) ⟨by decide, by decide⟩ rfl dX7_noEvent_9 rfl))) (dt_Sb (dt_Sl 10 (sn_ldAn rfl dX7_noEvent_10 rfl)) (dt_Sb (dt_Sl 11 (sn_getf rfl ffX7 (by decide) wq_3_137 dX7_noEvent_11 rfl)) (dt_Sl 14 (sn_ldIn rfl dX7_noEvent_14 rfl)))))) (dt_Sb (dt_Sb (dt_Sb (dt_Sl 15 (sn_iald dX7_noEvent_15 rfl)) (dt_Sl 16 (sn_i2l dX7_noEvent_16 rfl))) (dt_Sb (dt_Sl 17 (sn_lc (k := 1) ⟨by decide, by decide⟩ rfl dX7_noEvent_17 rfl)) (dt_Sb (dt_Sl 18 (sn_lsub dX7_noEvent_18 rfl)) (dt_Sl 19 (sn_callS rfl nnX7_in wq_4_8 wq_4_9 dX7_noEvent_19 rfl))))) (dt_Sb (dt_Sb (dt_Sl 22 (sn_ifne dX7_noEvent_22 (by decide) rfl)) (dt_Sl 25 (sn_ic ⟨by decide, by decide⟩ dX7_noEvent_25 rfl))) (dt_Sb (dt_Sl 26 (sn_goto dX7_noEvent_26 (by decide))) (dt_Sb (dt_Sl 29 (sn_ic ⟨by decide, by decide⟩ dX7_noEvent_29 rfl)) (dt_Sl 30 (sn_zret rfl dX7_noEvent_30))))))
theorem dX7_event_0 : decode cX7_event 0 = .ok (.aload_n 0, 1) := by decide +kernel
theorem dX7_event_1 : decode cX7_event 1 = .ok (.iload_n 1, 1) := by decide +kernel
theorem dX7_event_2 : decode cX7_event 2 = .ok (.iload_n 2, 1) := by decide +kernel
theorem dX7_event_3 : decode cX7_event 3 = .ok (.invokevirtual 169, 3) := by decide +kernel
theorem dX7_event_6 : decode cX7_event 6 = .ok (.ifCond .eq 5, 3) := by decide +kernel
theorem dX7_event_9 : decode cX7_event 9 = .ok (.iconst (-1), 1) := by decide +kernel
theorem dX7_event_10 : decode cX7_event 10 = .ok (.ireturn, 1) := by decide +kernel
theorem dX7_event_11 : decode cX7_event 11 = .ok (.bipush 20, 2) := by decide +kernel
theorem dX7_event_13 : decode cX7_event 13 = .ok (.iload_n 1, 1) := by decide +kernel
theorem dX7_event_14 : decode cX7_event 14 = .ok (.imul, 1) := by decide +kernel
theorem dX7_event_15 : decode cX7_event 15 = .ok (.iload_n 2, 1) := by decide +kernel
theorem dX7_event_16 : decode cX7_event 16 = .ok (.iadd, 1) := by decide +kernel
theorem dX7_event_17 : decode cX7_event 17 = .ok (.istore 4, 2) := by decide +kernel
theorem dX7_event_19 : decode cX7_event 19 = .ok (.iload_n 3, 1) := by decide +kernel
theorem dX7_event_20 : decode cX7_event 20 = .ok (.tableswitch 84 0 4 #[36, 52, 60, 68, 76], 36) := by decide +kernel
theorem dX7_event_56 : decode cX7_event 56 = .ok (.aload_n 0, 1) := by decide +kernel
theorem dX7_event_57 : decode cX7_event 57 = .ok (.getfield 13, 3) := by decide +kernel
theorem dX7_event_60 : decode cX7_event 60 = .ok (.iload 4, 2) := by decide +kernel
theorem dX7_event_62 : decode cX7_event 62 = .ok (.baload, 1) := by decide +kernel
theorem dX7_event_63 : decode cX7_event 63 = .ok (.ifCond .eq 7, 3) := by decide +kernel
theorem dX7_event_66 : decode cX7_event 66 = .ok (.iconst 1, 1) := by decide +kernel
theorem dX7_event_67 : decode cX7_event 67 = .ok (.goto 4, 3) := by decide +kernel
theorem dX7_event_70 : decode cX7_event 70 = .ok (.iconst 0, 1) := by decide +kernel
theorem dX7_event_71 : decode cX7_event 71 = .ok (.ireturn, 1) := by decide +kernel
theorem dX7_event_72 : decode cX7_event 72 = .ok (.aload_n 0, 1) := by decide +kernel
theorem dX7_event_73 : decode cX7_event 73 = .ok (.getfield 17, 3) := by decide +kernel
theorem dX7_event_76 : decode cX7_event 76 = .ok (.iload 4, 2) := by decide +kernel
theorem dX7_event_78 : decode cX7_event 78 = .ok (.iaload, 1) := by decide +kernel
theorem dX7_event_79 : decode cX7_event 79 = .ok (.ireturn, 1) := by decide +kernel
theorem dX7_event_80 : decode cX7_event 80 = .ok (.aload_n 0, 1) := by decide +kernel
theorem dX7_event_81 : decode cX7_event 81 = .ok (.getfield 20, 3) := by decide +kernel
theorem dX7_event_84 : decode cX7_event 84 = .ok (.iload 4, 2) := by decide +kernel
theorem dX7_event_86 : decode cX7_event 86 = .ok (.iaload, 1) := by decide +kernel
theorem dX7_event_87 : decode cX7_event 87 = .ok (.ireturn, 1) := by decide +kernel
theorem dX7_event_88 : decode cX7_event 88 = .ok (.aload_n 0, 1) := by decide +kernel
theorem dX7_event_89 : decode cX7_event 89 = .ok (.getfield 23, 3) := by decide +kernel
theorem dX7_event_92 : decode cX7_event 92 = .ok (.iload 4, 2) := by decide +kernel
theorem dX7_event_94 : decode cX7_event 94 = .ok (.iaload, 1) := by decide +kernel
theorem dX7_event_95 : decode cX7_event 95 = .ok (.ireturn, 1) := by decide +kernel
theorem dX7_event_96 : decode cX7_event 96 = .ok (.aload_n 0, 1) := by decide +kernel
theorem dX7_event_97 : decode cX7_event 97 = .ok (.getfield 26, 3) := by decide +kernel
theorem dX7_event_100 : decode cX7_event 100 = .ok (.iload 4, 2) := by decide +kernel
theorem dX7_event_102 : decode cX7_event 102 = .ok (.iaload, 1) := by decide +kernel
theorem dX7_event_103 : decode cX7_event 103 = .ok (.ireturn, 1) := by decide +kernel
theorem dX7_event_104 : decode cX7_event 104 = .ok (.iconst (-1), 1) := by decide +kernel
theorem dX7_event_105 : decode cX7_event 105 = .ok (.ireturn, 1) := by decide +kernel
def tbX7_event (pc : Nat) : dt_T := cond (Nat.ble pc 70) (cond (Nat.ble pc 15) (cond (Nat.ble pc 6) (cond (Nat.ble pc 1) (cond (Nat.ble pc 0) (cond (Nat.beq pc 0) (tc_ldA 0 1) tc_no) (cond (Nat.beq pc 1) (tc_ldI 1 2) tc_no)) (cond (Nat.ble pc 2) (cond (Nat.beq pc 2) (tc_ldI 2 3) tc_no) (cond (Nat.ble pc 3) (cond (Nat.beq pc 3) (tc_callV 7 mX7_noEvent 2 6) tc_no) (cond (Nat.beq pc 6) (tc_ifeq 11 9) tc_no)))) (cond (Nat.ble pc 11) (cond (Nat.ble pc 9) (cond (Nat.beq pc 9) (tc_ic (-1) 10) tc_no) (cond (Nat.ble pc 10) (cond (Nat.beq pc 10) (tc_iret) tc_no) (cond (Nat.beq pc 11) (tc_ic 20 13) tc_no))) (cond (Nat.ble pc 13) (cond (Nat.beq pc 13) (tc_ldI 1 14) tc_no) (cond (Nat.ble pc 14) (cond (Nat.beq pc 14) (tc_imul 15) tc_no) (cond (Nat.beq pc 15) (tc_ldI 2 16) tc_no))))) (cond (Nat.ble pc 57) (cond (Nat.ble pc 19) (cond (Nat.ble pc 16) (cond (Nat.beq pc 16) (tc_iadd 17) tc_no) (cond (Nat.ble pc 17) (cond (Nat.beq pc 17) (tc_stI 4 19) tc_no) (cond (Nat.beq pc 19) (tc_ldI 3 20) tc_no))) (cond (Nat.ble pc 20) (cond (Nat.beq pc 20) (tc_sw [(0, 56), (1, 72), (2, 80), (3, 88), (4, 96)] 104) tc_no) (cond (Nat.ble pc 56) (cond (Nat.beq pc 56) (tc_ldA 0 57) tc_no) (cond (Nat.beq pc 57) (tc_getf 7 1 60) tc_no)))) (cond (Nat.ble pc 63) (cond (Nat.ble pc 60) (cond (Nat.beq pc 60) (tc_ldI 4 62) tc_no) (cond (Nat.ble pc 62) (cond (Nat.beq pc 62) (tc_zald 63) tc_no) (cond (Nat.beq pc 63) (tc_ifeq 70 66) tc_no))) (cond (Nat.ble pc 66) (cond (Nat.beq pc 66) (tc_ic 1 67) tc_no) (cond (Nat.ble pc 67) (cond (Nat.beq pc 67) (tc_goto 71) tc_no) (cond (Nat.beq pc 70) (tc_ic 0 71) tc_no)))))) (cond (Nat.ble pc 87) (cond (Nat.ble pc 78) (cond (Nat.ble pc 72) (cond (Nat.ble pc 71) (cond (Nat.beq pc 71) (tc_iret) tc_no) (cond (Nat.beq pc 72) (tc_ldA 0 73) tc_no)) (cond (Nat.ble pc 73) (cond (Nat.beq pc 73) (tc_getf 7 2 76) tc_no) (cond (Nat.ble pc 76) (cond (Nat.beq pc 76) (tc_ldI 4 78) tc_no) (cond (Nat.beq pc 78) (tc_iald 79) tc_no)))) (cond (Nat.ble pc 81) (cond (Nat.ble pc 79) (cond (Nat.beq pc 79) (tc_iret) tc_no) (cond (Nat.ble pc 80) (cond (Nat.beq pc 80) (tc_ldA 0 81) tc_no) (cond (Nat.beq pc 81) (tc_getf 7 3 84) tc_no))) (cond (Nat.ble pc 84) (cond (Nat.beq pc 84) (tc_ldI 4 86) tc_no) (cond (Nat.ble pc 86) (cond (Nat.beq pc 86) (tc_iald 87) tc_no) (cond (Nat.beq pc 87) (tc_iret) tc_no))))) (cond (Nat.ble pc 96) (cond (Nat.ble pc 92) (cond (Nat.ble pc 88) (cond (Nat.beq pc 88) (tc_ldA 0 89) tc_no) (cond (Nat.ble pc 89) (cond (Nat.beq pc 89) (tc_getf 7 4 92) tc_no) (cond (Nat.beq pc 92) (tc_ldI 4 94) tc_no))) (cond (Nat.ble pc 94) (cond (Nat.beq pc 94) (tc_iald 95) tc_no) (cond (Nat.ble pc 95) (cond (Nat.beq pc 95) (tc_iret) tc_no) (cond (Nat.beq pc 96) (tc_ldA 0 97) tc_no)))) (cond (Nat.ble pc 102) (cond (Nat.ble pc 97) (cond (Nat.beq pc 97) (tc_getf 7 5 100) tc_no) (cond (Nat.ble pc 100) (cond (Nat.beq pc 100) (tc_ldI 4 102) tc_no) (cond (Nat.beq pc 102) (tc_iald 103) tc_no))) (cond (Nat.ble pc 103) (cond (Nat.beq pc 103) (tc_iret) tc_no) (cond (Nat.ble pc 104) (cond (Nat.beq pc 104) (tc_ic (-1) 105) tc_no) (cond (Nat.beq pc 105) (tc_iret) tc_no))))))
theorem okX7_event : ∀ pc, dt_S mX7_event (tbX7_event pc) pc := by
  intro pc
  unfold tbX7_event
  exact dt_Sb (dt_Sb (dt_Sb (dt_Sb (dt_Sb (dt_Sl 0 (sn_ldAn rfl dX7_event_0 rfl)) (dt_Sl 1 (sn_ldIn rfl dX7_event_1 rfl))) (dt_Sb (dt_Sl 2 (sn_ldIn rfl dX7_event_2 rfl)) (dt_Sb (dt_Sl 3 (sn_callV rfl ffX7 nnX7_noEvent rfl wq_4_74 wq_4_76 wq_0_35 dX7_event_3 rfl)) (dt_Sl 6 (sn_ifeq dX7_event_6 (by decide) rfl))))) (dt_Sb (dt_Sb (dt_Sl 9 (sn_ic ⟨by decide, by decide⟩ dX7_event_9 rfl)) (dt_Sb (dt_Sl 10 (sn_iret rfl dX7_event_10)) (dt_Sl 11 (sn_bi ⟨by decide, by decide⟩ rfl dX7_event_11 rfl)))) (dt_Sb (dt_Sl 13 (sn_ldIn rfl dX7_event_13 rfl)) (dt_Sb (dt_Sl 14 (sn_imul dX7_event_14 rfl)) (dt_Sl 15 (sn_ldIn rfl dX7_event_15 rfl)))))) (dt_Sb (dt_Sb (dt_Sb (dt_Sl 16 (sn_iadd dX7_event_16 rfl)) (dt_Sb (dt_Sl 17 (sn_stI (by decide) dX7_event_17 rfl)) (dt_Sl 19 (sn_ldIn rfl dX7_event_19 rfl)))) (dt_Sb (dt_Sl 20 (sn_ts dX7_event_20 (by decide) (fun x hx => by simp only [dt_swt]; rw [if_neg (by omega), if_neg (by omega), if_neg (by omega), if_neg (by omega), if_neg (by omega)]) (fun x h1 h2 => by rcases (show x = 0 ∨ x = 1 ∨ x = 2 ∨ x = 3 ∨ x = 4 by omega) with rfl | rfl | rfl | rfl | rfl <;> exact ⟨_, rfl, by decide⟩))) (dt_Sb (dt_Sl 56 (sn_ldAn rfl dX7_event_56 rfl)) (dt_Sl 57 (sn_getf rfl ffX7 (by decide) wq_3_138 dX7_event_57 rfl))))) (dt_Sb (dt_Sb (dt_Sl 60 (sn_ldI dX7_event_60 rfl)) (dt_Sb (dt_Sl 62 (sn_zald dX7_event_62 rfl)) (dt_Sl 63 (sn_ifeq dX7_event_63 (by decide) rfl)))) (dt_Sb (dt_Sl 66 (sn_ic ⟨by decide, by decide⟩ dX7_event_66 rfl)) (dt_Sb (dt_Sl 67 (sn_goto dX7_event_67 (by decide))) (dt_Sl 70 (sn_ic ⟨by decide, by decide⟩ dX7_event_70 rfl))))))) (dt_Sb (dt_Sb (dt_Sb (dt_Sb (dt_Sl 71 (sn_iret rfl dX7_event_71)) (dt_Sl 72 (sn_ldAn rfl dX7_event_72 rfl))) (dt_Sb (dt_Sl 73 (sn_getf rfl ffX7 (by decide) wq_3_139 dX7_event_73 rfl)) (dt_Sb (dt_Sl 76 (sn_ldI dX7_event_76 rfl)) (dt_Sl 78 (sn_iald dX7_event_78 rfl))))) (dt_Sb (dt_Sb (dt_Sl 79 (sn_iret rfl dX7_event_79)) (dt_Sb (dt_Sl 80 (sn_ldAn rfl dX7_event_80 rfl)) (dt_Sl 81 (sn_getf rfl ffX7 (by decide) wq_3_140 dX7_event_81 rfl)))) (dt_Sb (dt_Sl 84 (sn_ldI dX7_event_84 rfl)) (dt_Sb (dt_Sl 86 (sn_iald dX7_event_86 rfl)) (dt_Sl 87 (sn_iret rfl dX7_event_87)))))) (dt_Sb (dt_Sb (dt_Sb (dt_Sl 88 (sn_ldAn rfl dX7_event_88 rfl)) (dt_Sb (dt_Sl 89 (sn_getf rfl ffX7 (by decide) wq_3_141 dX7_event_89 rfl)) (dt_Sl 92 (sn_ldI dX7_event_92 rfl)))) (dt_Sb (dt_Sl 94 (sn_iald dX7_event_94 rfl)) (dt_Sb (dt_Sl 95 (sn_iret rfl dX7_event_95)) (dt_Sl 96 (sn_ldAn rfl dX7_event_96 rfl))))) (dt_Sb (dt_Sb (dt_Sl 97 (sn_getf rfl ffX7 (by decide) wq_3_142 dX7_event_97 rfl)) (dt_Sb (dt_Sl 100 (sn_ldI dX7_event_100 rfl)) (dt_Sl 102 (sn_iald dX7_event_102 rfl)))) (dt_Sb (dt_Sl 103 (sn_iret rfl dX7_event_103)) (dt_Sb (dt_Sl 104 (sn_ic ⟨by decide, by decide⟩ dX7_event_104 rfl)) (dt_Sl 105 (sn_iret rfl dX7_event_105)))))))
theorem dX7_line_0 : decode cX7_line 0 = .ok (.iload_n 1, 1) := by decide +kernel
theorem dX7_line_1 : decode cX7_line 1 = .ok (.invokestatic 155, 3) := by decide +kernel
theorem dX7_line_4 : decode cX7_line 4 = .ok (.ifCond .ne 39, 3) := by decide +kernel
theorem dX7_line_7 : decode cX7_line 7 = .ok (.iload_n 2, 1) := by decide +kernel
theorem dX7_line_8 : decode cX7_line 8 = .ok (.i2l, 1) := by decide +kernel
theorem dX7_line_9 : decode cX7_line 9 = .ok (.lconst 0, 1) := by decide +kernel
theorem dX7_line_10 : decode cX7_line 10 = .ok (.ldc2_w 81, 3) := by decide +kernel
theorem dX7_line_13 : decode cX7_line 13 = .ok (.invokestatic 83, 3) := by decide +kernel
theorem dX7_line_16 : decode cX7_line 16 = .ok (.ifCond .eq 27, 3) := by decide +kernel
theorem dX7_line_19 : decode cX7_line 19 = .ok (.iload_n 3, 1) := by decide +kernel
theorem dX7_line_20 : decode cX7_line 20 = .ok (.i2l, 1) := by decide +kernel
theorem dX7_line_21 : decode cX7_line 21 = .ok (.ldc2_w 173, 3) := by decide +kernel
theorem dX7_line_24 : decode cX7_line 24 = .ok (.aload_n 0, 1) := by decide +kernel
theorem dX7_line_25 : decode cX7_line 25 = .ok (.getfield 29, 3) := by decide +kernel
theorem dX7_line_28 : decode cX7_line 28 = .ok (.iconst 4, 1) := by decide +kernel
theorem dX7_line_29 : decode cX7_line 29 = .ok (.iload_n 1, 1) := by decide +kernel
theorem dX7_line_30 : decode cX7_line 30 = .ok (.imul, 1) := by decide +kernel
theorem dX7_line_31 : decode cX7_line 31 = .ok (.iload_n 2, 1) := by decide +kernel
theorem dX7_line_32 : decode cX7_line 32 = .ok (.iadd, 1) := by decide +kernel
theorem dX7_line_33 : decode cX7_line 33 = .ok (.iaload, 1) := by decide +kernel
theorem dX7_line_34 : decode cX7_line 34 = .ok (.i2l, 1) := by decide +kernel
theorem dX7_line_35 : decode cX7_line 35 = .ok (.lconst 1, 1) := by decide +kernel
theorem dX7_line_36 : decode cX7_line 36 = .ok (.lsub, 1) := by decide +kernel
theorem dX7_line_37 : decode cX7_line 37 = .ok (.invokestatic 83, 3) := by decide +kernel
theorem dX7_line_40 : decode cX7_line 40 = .ok (.ifCond .ne 5, 3) := by decide +kernel
theorem dX7_line_43 : decode cX7_line 43 = .ok (.iconst (-1), 1) := by decide +kernel
theorem dX7_line_44 : decode cX7_line 44 = .ok (.ireturn, 1) := by decide +kernel
theorem dX7_line_45 : decode cX7_line 45 = .ok (.iconst 4, 1) := by decide +kernel
theorem dX7_line_46 : decode cX7_line 46 = .ok (.iload_n 1, 1) := by decide +kernel
theorem dX7_line_47 : decode cX7_line 47 = .ok (.imul, 1) := by decide +kernel
theorem dX7_line_48 : decode cX7_line 48 = .ok (.iload_n 2, 1) := by decide +kernel
theorem dX7_line_49 : decode cX7_line 49 = .ok (.iadd, 1) := by decide +kernel
theorem dX7_line_50 : decode cX7_line 50 = .ok (.istore 4, 2) := by decide +kernel
theorem dX7_line_52 : decode cX7_line 52 = .ok (.iload_n 3, 1) := by decide +kernel
theorem dX7_line_53 : decode cX7_line 53 = .ok (.ifCond .ge 13, 3) := by decide +kernel
theorem dX7_line_56 : decode cX7_line 56 = .ok (.aload_n 0, 1) := by decide +kernel
theorem dX7_line_57 : decode cX7_line 57 = .ok (.getfield 29, 3) := by decide +kernel
theorem dX7_line_60 : decode cX7_line 60 = .ok (.iload 4, 2) := by decide +kernel
theorem dX7_line_62 : decode cX7_line 62 = .ok (.iaload, 1) := by decide +kernel
theorem dX7_line_63 : decode cX7_line 63 = .ok (.goto 15, 3) := by decide +kernel
theorem dX7_line_66 : decode cX7_line 66 = .ok (.aload_n 0, 1) := by decide +kernel
theorem dX7_line_67 : decode cX7_line 67 = .ok (.getfield 32, 3) := by decide +kernel
theorem dX7_line_70 : decode cX7_line 70 = .ok (.bipush 20, 2) := by decide +kernel
theorem dX7_line_72 : decode cX7_line 72 = .ok (.iload 4, 2) := by decide +kernel
theorem dX7_line_74 : decode cX7_line 74 = .ok (.imul, 1) := by decide +kernel
theorem dX7_line_75 : decode cX7_line 75 = .ok (.iload_n 3, 1) := by decide +kernel
theorem dX7_line_76 : decode cX7_line 76 = .ok (.iadd, 1) := by decide +kernel
theorem dX7_line_77 : decode cX7_line 77 = .ok (.iaload, 1) := by decide +kernel
theorem dX7_line_78 : decode cX7_line 78 = .ok (.ireturn, 1) := by decide +kernel
def tbX7_line (pc : Nat) : dt_T := cond (Nat.ble pc 37) (cond (Nat.ble pc 21) (cond (Nat.ble pc 9) (cond (Nat.ble pc 4) (cond (Nat.ble pc 0) (cond (Nat.beq pc 0) (tc_ldI 1 1) tc_no) (cond (Nat.ble pc 1) (cond (Nat.beq pc 1) (tc_callS mX7_noTalk 1 4) tc_no) (cond (Nat.beq pc 4) (tc_ifne 43 7) tc_no))) (cond (Nat.ble pc 7) (cond (Nat.beq pc 7) (tc_ldI 2 8) tc_no) (cond (Nat.ble pc 8) (cond (Nat.beq pc 8) (tc_i2l 9) tc_no) (cond (Nat.beq pc 9) (tc_lc 0 10) tc_no)))) (cond (Nat.ble pc 16) (cond (Nat.ble pc 10) (cond (Nat.beq pc 10) (tc_lc 3 13) tc_no) (cond (Nat.ble pc 13) (cond (Nat.beq pc 13) (tc_callS mX7_in 3 16) tc_no) (cond (Nat.beq pc 16) (tc_ifeq 43 19) tc_no))) (cond (Nat.ble pc 19) (cond (Nat.beq pc 19) (tc_ldI 3 20) tc_no) (cond (Nat.ble pc 20) (cond (Nat.beq pc 20) (tc_i2l 21) tc_no) (cond (Nat.beq pc 21) (tc_lc (-1) 24) tc_no))))) (cond (Nat.ble pc 31) (cond (Nat.ble pc 28) (cond (Nat.ble pc 24) (cond (Nat.beq pc 24) (tc_ldA 0 25) tc_no) (cond (Nat.ble pc 25) (cond (Nat.beq pc 25) (tc_getf 7 6 28) tc_no) (cond (Nat.beq pc 28) (tc_ic 4 29) tc_no))) (cond (Nat.ble pc 29) (cond (Nat.beq pc 29) (tc_ldI 1 30) tc_no) (cond (Nat.ble pc 30) (cond (Nat.beq pc 30) (tc_imul 31) tc_no) (cond (Nat.beq pc 31) (tc_ldI 2 32) tc_no)))) (cond (Nat.ble pc 34) (cond (Nat.ble pc 32) (cond (Nat.beq pc 32) (tc_iadd 33) tc_no) (cond (Nat.ble pc 33) (cond (Nat.beq pc 33) (tc_iald 34) tc_no) (cond (Nat.beq pc 34) (tc_i2l 35) tc_no))) (cond (Nat.ble pc 35) (cond (Nat.beq pc 35) (tc_lc 1 36) tc_no) (cond (Nat.ble pc 36) (cond (Nat.beq pc 36) (tc_lsub 37) tc_no) (cond (Nat.beq pc 37) (tc_callS mX7_in 3 40) tc_no)))))) (cond (Nat.ble pc 56) (cond (Nat.ble pc 47) (cond (Nat.ble pc 44) (cond (Nat.ble pc 40) (cond (Nat.beq pc 40) (tc_ifne 45 43) tc_no) (cond (Nat.ble pc 43) (cond (Nat.beq pc 43) (tc_ic (-1) 44) tc_no) (cond (Nat.beq pc 44) (tc_iret) tc_no))) (cond (Nat.ble pc 45) (cond (Nat.beq pc 45) (tc_ic 4 46) tc_no) (cond (Nat.ble pc 46) (cond (Nat.beq pc 46) (tc_ldI 1 47) tc_no) (cond (Nat.beq pc 47) (tc_imul 48) tc_no)))) (cond (Nat.ble pc 50) (cond (Nat.ble pc 48) (cond (Nat.beq pc 48) (tc_ldI 2 49) tc_no) (cond (Nat.ble pc 49) (cond (Nat.beq pc 49) (tc_iadd 50) tc_no) (cond (Nat.beq pc 50) (tc_stI 4 52) tc_no))) (cond (Nat.ble pc 52) (cond (Nat.beq pc 52) (tc_ldI 3 53) tc_no) (cond (Nat.ble pc 53) (cond (Nat.beq pc 53) (tc_ifge 66 56) tc_no) (cond (Nat.beq pc 56) (tc_ldA 0 57) tc_no))))) (cond (Nat.ble pc 67) (cond (Nat.ble pc 62) (cond (Nat.ble pc 57) (cond (Nat.beq pc 57) (tc_getf 7 6 60) tc_no) (cond (Nat.ble pc 60) (cond (Nat.beq pc 60) (tc_ldI 4 62) tc_no) (cond (Nat.beq pc 62) (tc_iald 63) tc_no))) (cond (Nat.ble pc 63) (cond (Nat.beq pc 63) (tc_goto 78) tc_no) (cond (Nat.ble pc 66) (cond (Nat.beq pc 66) (tc_ldA 0 67) tc_no) (cond (Nat.beq pc 67) (tc_getf 7 7 70) tc_no)))) (cond (Nat.ble pc 74) (cond (Nat.ble pc 70) (cond (Nat.beq pc 70) (tc_ic 20 72) tc_no) (cond (Nat.ble pc 72) (cond (Nat.beq pc 72) (tc_ldI 4 74) tc_no) (cond (Nat.beq pc 74) (tc_imul 75) tc_no))) (cond (Nat.ble pc 76) (cond (Nat.ble pc 75) (cond (Nat.beq pc 75) (tc_ldI 3 76) tc_no) (cond (Nat.beq pc 76) (tc_iadd 77) tc_no)) (cond (Nat.ble pc 77) (cond (Nat.beq pc 77) (tc_iald 78) tc_no) (cond (Nat.beq pc 78) (tc_iret) tc_no))))))
theorem okX7_line : ∀ pc, dt_S mX7_line (tbX7_line pc) pc := by
  intro pc
  unfold tbX7_line
  exact dt_Sb (dt_Sb (dt_Sb (dt_Sb (dt_Sb (dt_Sl 0 (sn_ldIn rfl dX7_line_0 rfl)) (dt_Sb (dt_Sl 1 (sn_callS rfl nnX7_noTalk wq_4_20 wq_4_21 dX7_line_1 rfl)) (dt_Sl 4 (sn_ifne dX7_line_4 (by decide) rfl)))) (dt_Sb (dt_Sl 7 (sn_ldIn rfl dX7_line_7 rfl)) (dt_Sb (dt_Sl 8 (sn_i2l dX7_line_8 rfl)) (dt_Sl 9 (sn_lc (k := 0) ⟨by decide, by decide⟩ rfl dX7_line_9 rfl))))) (dt_Sb (dt_Sb (dt_Sl 10 (sn_ldc2 rfl ⟨by decide, by decide⟩ wq_4_23 dX7_line_10 rfl)) (dt_Sb (dt_Sl 13 (sn_callS rfl nnX7_in wq_4_8 wq_4_9 dX7_line_13 rfl)) (dt_Sl 16 (sn_ifeq dX7_line_16 (by decide) rfl)))) (dt_Sb (dt_Sl 19 (sn_ldIn rfl dX7_line_19 rfl)) (dt_Sb (dt_Sl 20 (sn_i2l dX7_line_20 rfl)) (dt_Sl 21 (sn_ldc2 rfl ⟨by decide, by decide⟩ wq_4_82 dX7_line_21 rfl)))))) (dt_Sb (dt_Sb (dt_Sb (dt_Sl 24 (sn_ldAn rfl dX7_line_24 rfl)) (dt_Sb (dt_Sl 25 (sn_getf rfl ffX7 (by decide) wq_3_143 dX7_line_25 rfl)) (dt_Sl 28 (sn_ic ⟨by decide, by decide⟩ dX7_line_28 rfl)))) (dt_Sb (dt_Sl 29 (sn_ldIn rfl dX7_line_29 rfl)) (dt_Sb (dt_Sl 30 (sn_imul dX7_line_30 rfl)) (dt_Sl 31 (sn_ldIn rfl dX7_line_31 rfl))))) (dt_Sb (dt_Sb (dt_Sl 32 (sn_iadd dX7_line_32 rfl)) (dt_Sb (dt_Sl 33 (sn_iald dX7_line_33 rfl)) (dt_Sl 34 (sn_i2l dX7_line_34 rfl)))) (dt_Sb (dt_Sl 35 (sn_lc (k := 1) ⟨by decide, by decide⟩ rfl dX7_line_35 rfl)) (dt_Sb (dt_Sl 36 (sn_lsub dX7_line_36 rfl)) (dt_Sl 37 (sn_callS rfl nnX7_in wq_4_8 wq_4_9 dX7_line_37 rfl))))))) (dt_Sb (dt_Sb (dt_Sb (dt_Sb (dt_Sl 40 (sn_ifne dX7_line_40 (by decide) rfl)) (dt_Sb (dt_Sl 43 (sn_ic ⟨by decide, by decide⟩ dX7_line_43 rfl)) (dt_Sl 44 (sn_iret rfl dX7_line_44)))) (dt_Sb (dt_Sl 45 (sn_ic ⟨by decide, by decide⟩ dX7_line_45 rfl)) (dt_Sb (dt_Sl 46 (sn_ldIn rfl dX7_line_46 rfl)) (dt_Sl 47 (sn_imul dX7_line_47 rfl))))) (dt_Sb (dt_Sb (dt_Sl 48 (sn_ldIn rfl dX7_line_48 rfl)) (dt_Sb (dt_Sl 49 (sn_iadd dX7_line_49 rfl)) (dt_Sl 50 (sn_stI (by decide) dX7_line_50 rfl)))) (dt_Sb (dt_Sl 52 (sn_ldIn rfl dX7_line_52 rfl)) (dt_Sb (dt_Sl 53 (sn_ifge dX7_line_53 (by decide) rfl)) (dt_Sl 56 (sn_ldAn rfl dX7_line_56 rfl)))))) (dt_Sb (dt_Sb (dt_Sb (dt_Sl 57 (sn_getf rfl ffX7 (by decide) wq_3_143 dX7_line_57 rfl)) (dt_Sb (dt_Sl 60 (sn_ldI dX7_line_60 rfl)) (dt_Sl 62 (sn_iald dX7_line_62 rfl)))) (dt_Sb (dt_Sl 63 (sn_goto dX7_line_63 (by decide))) (dt_Sb (dt_Sl 66 (sn_ldAn rfl dX7_line_66 rfl)) (dt_Sl 67 (sn_getf rfl ffX7 (by decide) wq_3_144 dX7_line_67 rfl))))) (dt_Sb (dt_Sb (dt_Sl 70 (sn_bi ⟨by decide, by decide⟩ rfl dX7_line_70 rfl)) (dt_Sb (dt_Sl 72 (sn_ldI dX7_line_72 rfl)) (dt_Sl 74 (sn_imul dX7_line_74 rfl)))) (dt_Sb (dt_Sb (dt_Sl 75 (sn_ldIn rfl dX7_line_75 rfl)) (dt_Sl 76 (sn_iadd dX7_line_76 rfl))) (dt_Sb (dt_Sl 77 (sn_iald dX7_line_77 rfl)) (dt_Sl 78 (sn_iret rfl dX7_line_78)))))))
theorem dX7_clearAhead_0 : decode cX7_clearAhead 0 = .ok (.iconst 0, 1) := by decide +kernel
theorem dX7_clearAhead_1 : decode cX7_clearAhead 1 = .ok (.istore_n 1, 1) := by decide +kernel
theorem dX7_clearAhead_2 : decode cX7_clearAhead 2 = .ok (.iload_n 1, 1) := by decide +kernel
theorem dX7_clearAhead_3 : decode cX7_clearAhead 3 = .ok (.sipush 400, 3) := by decide +kernel
theorem dX7_clearAhead_6 : decode cX7_clearAhead 6 = .ok (.if_icmp .ge 16, 3) := by decide +kernel
theorem dX7_clearAhead_9 : decode cX7_clearAhead 9 = .ok (.aload_n 0, 1) := by decide +kernel
theorem dX7_clearAhead_10 : decode cX7_clearAhead 10 = .ok (.getfield 53, 3) := by decide +kernel
theorem dX7_clearAhead_13 : decode cX7_clearAhead 13 = .ok (.iload_n 1, 1) := by decide +kernel
theorem dX7_clearAhead_14 : decode cX7_clearAhead 14 = .ok (.iconst 0, 1) := by decide +kernel
theorem dX7_clearAhead_15 : decode cX7_clearAhead 15 = .ok (.bastore, 1) := by decide +kernel
theorem dX7_clearAhead_16 : decode cX7_clearAhead 16 = .ok (.iinc 1 1, 3) := by decide +kernel
theorem dX7_clearAhead_19 : decode cX7_clearAhead 19 = .ok (.goto (-17), 3) := by decide +kernel
theorem dX7_clearAhead_22 : decode cX7_clearAhead 22 = .ok (.return_, 1) := by decide +kernel
def tbX7_clearAhead (pc : Nat) : dt_T := cond (Nat.ble pc 9) (cond (Nat.ble pc 2) (cond (Nat.ble pc 0) (cond (Nat.beq pc 0) (tc_ic 0 1) tc_no) (cond (Nat.ble pc 1) (cond (Nat.beq pc 1) (tc_stI 1 2) tc_no) (cond (Nat.beq pc 2) (tc_ldI 1 3) tc_no))) (cond (Nat.ble pc 3) (cond (Nat.beq pc 3) (tc_ic 400 6) tc_no) (cond (Nat.ble pc 6) (cond (Nat.beq pc 6) (tc_icmpge 22 9) tc_no) (cond (Nat.beq pc 9) (tc_ldA 0 10) tc_no)))) (cond (Nat.ble pc 14) (cond (Nat.ble pc 10) (cond (Nat.beq pc 10) (tc_getf 7 21 13) tc_no) (cond (Nat.ble pc 13) (cond (Nat.beq pc 13) (tc_ldI 1 14) tc_no) (cond (Nat.beq pc 14) (tc_ic 0 15) tc_no))) (cond (Nat.ble pc 16) (cond (Nat.ble pc 15) (cond (Nat.beq pc 15) (tc_zast 16) tc_no) (cond (Nat.beq pc 16) (tc_iinc 1 1 19) tc_no)) (cond (Nat.ble pc 19) (cond (Nat.beq pc 19) (tc_goto 2) tc_no) (cond (Nat.beq pc 22) (tc_ret) tc_no))))
theorem okX7_clearAhead : ∀ pc, dt_S mX7_clearAhead (tbX7_clearAhead pc) pc := by
  intro pc
  unfold tbX7_clearAhead
  exact dt_Sb (dt_Sb (dt_Sb (dt_Sl 0 (sn_ic ⟨by decide, by decide⟩ dX7_clearAhead_0 rfl)) (dt_Sb (dt_Sl 1 (sn_stIn rfl (by decide) dX7_clearAhead_1 rfl)) (dt_Sl 2 (sn_ldIn rfl dX7_clearAhead_2 rfl)))) (dt_Sb (dt_Sl 3 (sn_si ⟨by decide, by decide⟩ rfl dX7_clearAhead_3 rfl)) (dt_Sb (dt_Sl 6 (sn_icmpge dX7_clearAhead_6 (by decide) rfl)) (dt_Sl 9 (sn_ldAn rfl dX7_clearAhead_9 rfl))))) (dt_Sb (dt_Sb (dt_Sl 10 (sn_getf rfl ffX7 (by decide) wq_3_158 dX7_clearAhead_10 rfl)) (dt_Sb (dt_Sl 13 (sn_ldIn rfl dX7_clearAhead_13 rfl)) (dt_Sl 14 (sn_ic ⟨by decide, by decide⟩ dX7_clearAhead_14 rfl)))) (dt_Sb (dt_Sb (dt_Sl 15 (sn_zast dX7_clearAhead_15 rfl)) (dt_Sl 16 (sn_iinc (by decide) dX7_clearAhead_16 rfl))) (dt_Sb (dt_Sl 19 (sn_goto dX7_clearAhead_19 (by decide))) (dt_Sl 22 (sn_ret rfl dX7_clearAhead_22)))))
theorem dX7_closeAhead_0 : decode cX7_closeAhead 0 = .ok (.iconst 0, 1) := by decide +kernel
theorem dX7_closeAhead_1 : decode cX7_closeAhead 1 = .ok (.istore_n 2, 1) := by decide +kernel
theorem dX7_closeAhead_2 : decode cX7_closeAhead 2 = .ok (.iload_n 2, 1) := by decide +kernel
theorem dX7_closeAhead_3 : decode cX7_closeAhead 3 = .ok (.iload_n 1, 1) := by decide +kernel
theorem dX7_closeAhead_4 : decode cX7_closeAhead 4 = .ok (.if_icmp .ge 98, 3) := by decide +kernel
theorem dX7_closeAhead_7 : decode cX7_closeAhead 7 = .ok (.iconst 0, 1) := by decide +kernel
theorem dX7_closeAhead_8 : decode cX7_closeAhead 8 = .ok (.istore_n 3, 1) := by decide +kernel
theorem dX7_closeAhead_9 : decode cX7_closeAhead 9 = .ok (.iload_n 3, 1) := by decide +kernel
theorem dX7_closeAhead_10 : decode cX7_closeAhead 10 = .ok (.iload_n 1, 1) := by decide +kernel
theorem dX7_closeAhead_11 : decode cX7_closeAhead 11 = .ok (.if_icmp .ge 85, 3) := by decide +kernel
theorem dX7_closeAhead_14 : decode cX7_closeAhead 14 = .ok (.iconst 0, 1) := by decide +kernel
theorem dX7_closeAhead_15 : decode cX7_closeAhead 15 = .ok (.istore 4, 2) := by decide +kernel
theorem dX7_closeAhead_17 : decode cX7_closeAhead 17 = .ok (.iload 4, 2) := by decide +kernel
theorem dX7_closeAhead_19 : decode cX7_closeAhead 19 = .ok (.iload_n 1, 1) := by decide +kernel
theorem dX7_closeAhead_20 : decode cX7_closeAhead 20 = .ok (.if_icmp .ge 70, 3) := by decide +kernel
theorem dX7_closeAhead_23 : decode cX7_closeAhead 23 = .ok (.aload_n 0, 1) := by decide +kernel
theorem dX7_closeAhead_24 : decode cX7_closeAhead 24 = .ok (.getfield 53, 3) := by decide +kernel
theorem dX7_closeAhead_27 : decode cX7_closeAhead 27 = .ok (.bipush 20, 2) := by decide +kernel
theorem dX7_closeAhead_29 : decode cX7_closeAhead 29 = .ok (.iload_n 3, 1) := by decide +kernel
theorem dX7_closeAhead_30 : decode cX7_closeAhead 30 = .ok (.imul, 1) := by decide +kernel
theorem dX7_closeAhead_31 : decode cX7_closeAhead 31 = .ok (.iload 4, 2) := by decide +kernel
theorem dX7_closeAhead_33 : decode cX7_closeAhead 33 = .ok (.iadd, 1) := by decide +kernel
theorem dX7_closeAhead_34 : decode cX7_closeAhead 34 = .ok (.aload_n 0, 1) := by decide +kernel
theorem dX7_closeAhead_35 : decode cX7_closeAhead 35 = .ok (.getfield 53, 3) := by decide +kernel
theorem dX7_closeAhead_38 : decode cX7_closeAhead 38 = .ok (.bipush 20, 2) := by decide +kernel
theorem dX7_closeAhead_40 : decode cX7_closeAhead 40 = .ok (.iload_n 3, 1) := by decide +kernel
theorem dX7_closeAhead_41 : decode cX7_closeAhead 41 = .ok (.imul, 1) := by decide +kernel
theorem dX7_closeAhead_42 : decode cX7_closeAhead 42 = .ok (.iload 4, 2) := by decide +kernel
theorem dX7_closeAhead_44 : decode cX7_closeAhead 44 = .ok (.iadd, 1) := by decide +kernel
theorem dX7_closeAhead_45 : decode cX7_closeAhead 45 = .ok (.baload, 1) := by decide +kernel
theorem dX7_closeAhead_46 : decode cX7_closeAhead 46 = .ok (.ifCond .ne 32, 3) := by decide +kernel
theorem dX7_closeAhead_49 : decode cX7_closeAhead 49 = .ok (.aload_n 0, 1) := by decide +kernel
theorem dX7_closeAhead_50 : decode cX7_closeAhead 50 = .ok (.getfield 53, 3) := by decide +kernel
theorem dX7_closeAhead_53 : decode cX7_closeAhead 53 = .ok (.bipush 20, 2) := by decide +kernel
theorem dX7_closeAhead_55 : decode cX7_closeAhead 55 = .ok (.iload_n 3, 1) := by decide +kernel
theorem dX7_closeAhead_56 : decode cX7_closeAhead 56 = .ok (.imul, 1) := by decide +kernel
theorem dX7_closeAhead_57 : decode cX7_closeAhead 57 = .ok (.iload_n 2, 1) := by decide +kernel
theorem dX7_closeAhead_58 : decode cX7_closeAhead 58 = .ok (.iadd, 1) := by decide +kernel
theorem dX7_closeAhead_59 : decode cX7_closeAhead 59 = .ok (.baload, 1) := by decide +kernel
theorem dX7_closeAhead_60 : decode cX7_closeAhead 60 = .ok (.ifCond .eq 22, 3) := by decide +kernel
theorem dX7_closeAhead_63 : decode cX7_closeAhead 63 = .ok (.aload_n 0, 1) := by decide +kernel
theorem dX7_closeAhead_64 : decode cX7_closeAhead 64 = .ok (.getfield 53, 3) := by decide +kernel
theorem dX7_closeAhead_67 : decode cX7_closeAhead 67 = .ok (.bipush 20, 2) := by decide +kernel
theorem dX7_closeAhead_69 : decode cX7_closeAhead 69 = .ok (.iload_n 2, 1) := by decide +kernel
theorem dX7_closeAhead_70 : decode cX7_closeAhead 70 = .ok (.imul, 1) := by decide +kernel
theorem dX7_closeAhead_71 : decode cX7_closeAhead 71 = .ok (.iload 4, 2) := by decide +kernel
theorem dX7_closeAhead_73 : decode cX7_closeAhead 73 = .ok (.iadd, 1) := by decide +kernel
theorem dX7_closeAhead_74 : decode cX7_closeAhead 74 = .ok (.baload, 1) := by decide +kernel
theorem dX7_closeAhead_75 : decode cX7_closeAhead 75 = .ok (.ifCond .eq 7, 3) := by decide +kernel
theorem dX7_closeAhead_78 : decode cX7_closeAhead 78 = .ok (.iconst 1, 1) := by decide +kernel
theorem dX7_closeAhead_79 : decode cX7_closeAhead 79 = .ok (.goto 4, 3) := by decide +kernel
theorem dX7_closeAhead_82 : decode cX7_closeAhead 82 = .ok (.iconst 0, 1) := by decide +kernel
theorem dX7_closeAhead_83 : decode cX7_closeAhead 83 = .ok (.bastore, 1) := by decide +kernel
theorem dX7_closeAhead_84 : decode cX7_closeAhead 84 = .ok (.iinc 4 1, 3) := by decide +kernel
theorem dX7_closeAhead_87 : decode cX7_closeAhead 87 = .ok (.goto (-70), 3) := by decide +kernel
theorem dX7_closeAhead_90 : decode cX7_closeAhead 90 = .ok (.iinc 3 1, 3) := by decide +kernel
theorem dX7_closeAhead_93 : decode cX7_closeAhead 93 = .ok (.goto (-84), 3) := by decide +kernel
theorem dX7_closeAhead_96 : decode cX7_closeAhead 96 = .ok (.iinc 2 1, 3) := by decide +kernel
theorem dX7_closeAhead_99 : decode cX7_closeAhead 99 = .ok (.goto (-97), 3) := by decide +kernel
theorem dX7_closeAhead_102 : decode cX7_closeAhead 102 = .ok (.return_, 1) := by decide +kernel
def tbX7_closeAhead (pc : Nat) : dt_T := cond (Nat.ble pc 45) (cond (Nat.ble pc 20) (cond (Nat.ble pc 8) (cond (Nat.ble pc 2) (cond (Nat.ble pc 0) (cond (Nat.beq pc 0) (tc_ic 0 1) tc_no) (cond (Nat.ble pc 1) (cond (Nat.beq pc 1) (tc_stI 2 2) tc_no) (cond (Nat.beq pc 2) (tc_ldI 2 3) tc_no))) (cond (Nat.ble pc 4) (cond (Nat.ble pc 3) (cond (Nat.beq pc 3) (tc_ldI 1 4) tc_no) (cond (Nat.beq pc 4) (tc_icmpge 102 7) tc_no)) (cond (Nat.ble pc 7) (cond (Nat.beq pc 7) (tc_ic 0 8) tc_no) (cond (Nat.beq pc 8) (tc_stI 3 9) tc_no)))) (cond (Nat.ble pc 14) (cond (Nat.ble pc 10) (cond (Nat.ble pc 9) (cond (Nat.beq pc 9) (tc_ldI 3 10) tc_no) (cond (Nat.beq pc 10) (tc_ldI 1 11) tc_no)) (cond (Nat.ble pc 11) (cond (Nat.beq pc 11) (tc_icmpge 96 14) tc_no) (cond (Nat.beq pc 14) (tc_ic 0 15) tc_no))) (cond (Nat.ble pc 17) (cond (Nat.ble pc 15) (cond (Nat.beq pc 15) (tc_stI 4 17) tc_no) (cond (Nat.beq pc 17) (tc_ldI 4 19) tc_no)) (cond (Nat.ble pc 19) (cond (Nat.beq pc 19) (tc_ldI 1 20) tc_no) (cond (Nat.beq pc 20) (tc_icmpge 90 23) tc_no))))) (cond (Nat.ble pc 33) (cond (Nat.ble pc 27) (cond (Nat.ble pc 23) (cond (Nat.beq pc 23) (tc_ldA 0 24) tc_no) (cond (Nat.ble pc 24) (cond (Nat.beq pc 24) (tc_getf 7 21 27) tc_no) (cond (Nat.beq pc 27) (tc_ic 20 29) tc_no))) (cond (Nat.ble pc 30) (cond (Nat.ble pc 29) (cond (Nat.beq pc 29) (tc_ldI 3 30) tc_no) (cond (Nat.beq pc 30) (tc_imul 31) tc_no)) (cond (Nat.ble pc 31) (cond (Nat.beq pc 31) (tc_ldI 4 33) tc_no) (cond (Nat.beq pc 33) (tc_iadd 34) tc_no)))) (cond (Nat.ble pc 40) (cond (Nat.ble pc 35) (cond (Nat.ble pc 34) (cond (Nat.beq pc 34) (tc_ldA 0 35) tc_no) (cond (Nat.beq pc 35) (tc_getf 7 21 38) tc_no)) (cond (Nat.ble pc 38) (cond (Nat.beq pc 38) (tc_ic 20 40) tc_no) (cond (Nat.beq pc 40) (tc_ldI 3 41) tc_no))) (cond (Nat.ble pc 42) (cond (Nat.ble pc 41) (cond (Nat.beq pc 41) (tc_imul 42) tc_no) (cond (Nat.beq pc 42) (tc_ldI 4 44) tc_no)) (cond (Nat.ble pc 44) (cond (Nat.beq pc 44) (tc_iadd 45) tc_no) (cond (Nat.beq pc 45) (tc_zald 46) tc_no)))))) (cond (Nat.ble pc 70) (cond (Nat.ble pc 57) (cond (Nat.ble pc 50) (cond (Nat.ble pc 46) (cond (Nat.beq pc 46) (tc_ifne 78 49) tc_no) (cond (Nat.ble pc 49) (cond (Nat.beq pc 49) (tc_ldA 0 50) tc_no) (cond (Nat.beq pc 50) (tc_getf 7 21 53) tc_no))) (cond (Nat.ble pc 55) (cond (Nat.ble pc 53) (cond (Nat.beq pc 53) (tc_ic 20 55) tc_no) (cond (Nat.beq pc 55) (tc_ldI 3 56) tc_no)) (cond (Nat.ble pc 56) (cond (Nat.beq pc 56) (tc_imul 57) tc_no) (cond (Nat.beq pc 57) (tc_ldI 2 58) tc_no)))) (cond (Nat.ble pc 63) (cond (Nat.ble pc 59) (cond (Nat.ble pc 58) (cond (Nat.beq pc 58) (tc_iadd 59) tc_no) (cond (Nat.beq pc 59) (tc_zald 60) tc_no)) (cond (Nat.ble pc 60) (cond (Nat.beq pc 60) (tc_ifeq 82 63) tc_no) (cond (Nat.beq pc 63) (tc_ldA 0 64) tc_no))) (cond (Nat.ble pc 67) (cond (Nat.ble pc 64) (cond (Nat.beq pc 64) (tc_getf 7 21 67) tc_no) (cond (Nat.beq pc 67) (tc_ic 20 69) tc_no)) (cond (Nat.ble pc 69) (cond (Nat.beq pc 69) (tc_ldI 2 70) tc_no) (cond (Nat.beq pc 70) (tc_imul 71) tc_no))))) (cond (Nat.ble pc 82) (cond (Nat.ble pc 74) (cond (Nat.ble pc 71) (cond (Nat.beq pc 71) (tc_ldI 4 73) tc_no) (cond (Nat.ble pc 73) (cond (Nat.beq pc 73) (tc_iadd 74) tc_no) (cond (Nat.beq pc 74) (tc_zald 75) tc_no))) (cond (Nat.ble pc 78) (cond (Nat.ble pc 75) (cond (Nat.beq pc 75) (tc_ifeq 82 78) tc_no) (cond (Nat.beq pc 78) (tc_ic 1 79) tc_no)) (cond (Nat.ble pc 79) (cond (Nat.beq pc 79) (tc_goto 83) tc_no) (cond (Nat.beq pc 82) (tc_ic 0 83) tc_no)))) (cond (Nat.ble pc 90) (cond (Nat.ble pc 84) (cond (Nat.ble pc 83) (cond (Nat.beq pc 83) (tc_zast 84) tc_no) (cond (Nat.beq pc 84) (tc_iinc 4 1 87) tc_no)) (cond (Nat.ble pc 87) (cond (Nat.beq pc 87) (tc_goto 17) tc_no) (cond (Nat.beq pc 90) (tc_iinc 3 1 93) tc_no))) (cond (Nat.ble pc 96) (cond (Nat.ble pc 93) (cond (Nat.beq pc 93) (tc_goto 9) tc_no) (cond (Nat.beq pc 96) (tc_iinc 2 1 99) tc_no)) (cond (Nat.ble pc 99) (cond (Nat.beq pc 99) (tc_goto 2) tc_no) (cond (Nat.beq pc 102) (tc_ret) tc_no))))))
theorem okX7_closeAhead : ∀ pc, dt_S mX7_closeAhead (tbX7_closeAhead pc) pc := by
  intro pc
  unfold tbX7_closeAhead
  exact dt_Sb (dt_Sb (dt_Sb (dt_Sb (dt_Sb (dt_Sl 0 (sn_ic ⟨by decide, by decide⟩ dX7_closeAhead_0 rfl)) (dt_Sb (dt_Sl 1 (sn_stIn rfl (by decide) dX7_closeAhead_1 rfl)) (dt_Sl 2 (sn_ldIn rfl dX7_closeAhead_2 rfl)))) (dt_Sb (dt_Sb (dt_Sl 3 (sn_ldIn rfl dX7_closeAhead_3 rfl)) (dt_Sl 4 (sn_icmpge dX7_closeAhead_4 (by decide) rfl))) (dt_Sb (dt_Sl 7 (sn_ic ⟨by decide, by decide⟩ dX7_closeAhead_7 rfl)) (dt_Sl 8 (sn_stIn rfl (by decide) dX7_closeAhead_8 rfl))))) (dt_Sb (dt_Sb (dt_Sb (dt_Sl 9 (sn_ldIn rfl dX7_closeAhead_9 rfl)) (dt_Sl 10 (sn_ldIn rfl dX7_closeAhead_10 rfl))) (dt_Sb (dt_Sl 11 (sn_icmpge dX7_closeAhead_11 (by decide) rfl)) (dt_Sl 14 (sn_ic ⟨by decide, by decide⟩ dX7_closeAhead_14 rfl)))) (dt_Sb (dt_Sb (dt_Sl 15 (sn_stI (by decide) dX7_closeAhead_15 rfl)) (dt_Sl 17 (sn_ldI dX7_closeAhead_17 rfl))) (dt_Sb (dt_Sl 19 (sn_ldIn rfl dX7_closeAhead_19 rfl)) (dt_Sl 20 (sn_icmpge dX7_closeAhead_20 (by decide) rfl)))))) (dt_Sb (dt_Sb (dt_Sb (dt_Sl 23 (sn_ldAn rfl dX7_closeAhead_23 rfl)) (dt_Sb (dt_Sl 24 (sn_getf rfl ffX7 (by decide) wq_3_158 dX7_closeAhead_24 rfl)) (dt_Sl 27 (sn_bi ⟨by decide, by decide⟩ rfl dX7_closeAhead_27 rfl)))) (dt_Sb (dt_Sb (dt_Sl 29 (sn_ldIn rfl dX7_closeAhead_29 rfl)) (dt_Sl 30 (sn_imul dX7_closeAhead_30 rfl))) (dt_Sb (dt_Sl 31 (sn_ldI dX7_closeAhead_31 rfl)) (dt_Sl 33 (sn_iadd dX7_closeAhead_33 rfl))))) (dt_Sb (dt_Sb (dt_Sb (dt_Sl 34 (sn_ldAn rfl dX7_closeAhead_34 rfl)) (dt_Sl 35 (sn_getf rfl ffX7 (by decide) wq_3_158 dX7_closeAhead_35 rfl))) (dt_Sb (dt_Sl 38 (sn_bi ⟨by decide, by decide⟩ rfl dX7_closeAhead_38 rfl)) (dt_Sl 40 (sn_ldIn rfl dX7_closeAhead_40 rfl)))) (dt_Sb (dt_Sb (dt_Sl 41 (sn_imul dX7_closeAhead_41 rfl)) (dt_Sl 42 (sn_ldI dX7_closeAhead_42 rfl))) (dt_Sb (dt_Sl 44 (sn_iadd dX7_closeAhead_44 rfl)) (dt_Sl 45 (sn_zald dX7_closeAhead_45 rfl))))))) (dt_Sb (dt_Sb (dt_Sb (dt_Sb (dt_Sl 46 (sn_ifne dX7_closeAhead_46 (by decide) rfl)) (dt_Sb (dt_Sl 49 (sn_ldAn rfl dX7_closeAhead_49 rfl)) (dt_Sl 50 (sn_getf rfl ffX7 (by decide) wq_3_158 dX7_closeAhead_50 rfl)))) (dt_Sb (dt_Sb (dt_Sl 53 (sn_bi ⟨by decide, by decide⟩ rfl dX7_closeAhead_53 rfl)) (dt_Sl 55 (sn_ldIn rfl dX7_closeAhead_55 rfl))) (dt_Sb (dt_Sl 56 (sn_imul dX7_closeAhead_56 rfl)) (dt_Sl 57 (sn_ldIn rfl dX7_closeAhead_57 rfl))))) (dt_Sb (dt_Sb (dt_Sb (dt_Sl 58 (sn_iadd dX7_closeAhead_58 rfl)) (dt_Sl 59 (sn_zald dX7_closeAhead_59 rfl))) (dt_Sb (dt_Sl 60 (sn_ifeq dX7_closeAhead_60 (by decide) rfl)) (dt_Sl 63 (sn_ldAn rfl dX7_closeAhead_63 rfl)))) (dt_Sb (dt_Sb (dt_Sl 64 (sn_getf rfl ffX7 (by decide) wq_3_158 dX7_closeAhead_64 rfl)) (dt_Sl 67 (sn_bi ⟨by decide, by decide⟩ rfl dX7_closeAhead_67 rfl))) (dt_Sb (dt_Sl 69 (sn_ldIn rfl dX7_closeAhead_69 rfl)) (dt_Sl 70 (sn_imul dX7_closeAhead_70 rfl)))))) (dt_Sb (dt_Sb (dt_Sb (dt_Sl 71 (sn_ldI dX7_closeAhead_71 rfl)) (dt_Sb (dt_Sl 73 (sn_iadd dX7_closeAhead_73 rfl)) (dt_Sl 74 (sn_zald dX7_closeAhead_74 rfl)))) (dt_Sb (dt_Sb (dt_Sl 75 (sn_ifeq dX7_closeAhead_75 (by decide) rfl)) (dt_Sl 78 (sn_ic ⟨by decide, by decide⟩ dX7_closeAhead_78 rfl))) (dt_Sb (dt_Sl 79 (sn_goto dX7_closeAhead_79 (by decide))) (dt_Sl 82 (sn_ic ⟨by decide, by decide⟩ dX7_closeAhead_82 rfl))))) (dt_Sb (dt_Sb (dt_Sb (dt_Sl 83 (sn_zast dX7_closeAhead_83 rfl)) (dt_Sl 84 (sn_iinc (by decide) dX7_closeAhead_84 rfl))) (dt_Sb (dt_Sl 87 (sn_goto dX7_closeAhead_87 (by decide))) (dt_Sl 90 (sn_iinc (by decide) dX7_closeAhead_90 rfl)))) (dt_Sb (dt_Sb (dt_Sl 93 (sn_goto dX7_closeAhead_93 (by decide))) (dt_Sl 96 (sn_iinc (by decide) dX7_closeAhead_96 rfl))) (dt_Sb (dt_Sl 99 (sn_goto dX7_closeAhead_99 (by decide))) (dt_Sl 102 (sn_ret rfl dX7_closeAhead_102)))))))
theorem dX7_layMates_0 : decode cX7_layMates 0 = .ok (.iconst 0, 1) := by decide +kernel
theorem dX7_layMates_1 : decode cX7_layMates 1 = .ok (.istore_n 2, 1) := by decide +kernel
theorem dX7_layMates_2 : decode cX7_layMates 2 = .ok (.iload_n 2, 1) := by decide +kernel
theorem dX7_layMates_3 : decode cX7_layMates 3 = .ok (.aload_n 0, 1) := by decide +kernel
theorem dX7_layMates_4 : decode cX7_layMates 4 = .ok (.getfield 7, 3) := by decide +kernel
theorem dX7_layMates_7 : decode cX7_layMates 7 = .ok (.iload_n 1, 1) := by decide +kernel
theorem dX7_layMates_8 : decode cX7_layMates 8 = .ok (.iaload, 1) := by decide +kernel
theorem dX7_layMates_9 : decode cX7_layMates 9 = .ok (.if_icmp .ge 45, 3) := by decide +kernel
theorem dX7_layMates_12 : decode cX7_layMates 12 = .ok (.aload_n 0, 1) := by decide +kernel
theorem dX7_layMates_13 : decode cX7_layMates 13 = .ok (.getfield 13, 3) := by decide +kernel
theorem dX7_layMates_16 : decode cX7_layMates 16 = .ok (.bipush 20, 2) := by decide +kernel
theorem dX7_layMates_18 : decode cX7_layMates 18 = .ok (.iload_n 1, 1) := by decide +kernel
theorem dX7_layMates_19 : decode cX7_layMates 19 = .ok (.imul, 1) := by decide +kernel
theorem dX7_layMates_20 : decode cX7_layMates 20 = .ok (.iload_n 2, 1) := by decide +kernel
theorem dX7_layMates_21 : decode cX7_layMates 21 = .ok (.iadd, 1) := by decide +kernel
theorem dX7_layMates_22 : decode cX7_layMates 22 = .ok (.baload, 1) := by decide +kernel
theorem dX7_layMates_23 : decode cX7_layMates 23 = .ok (.ifCond .ne 25, 3) := by decide +kernel
theorem dX7_layMates_26 : decode cX7_layMates 26 = .ok (.aload_n 0, 1) := by decide +kernel
theorem dX7_layMates_27 : decode cX7_layMates 27 = .ok (.getfield 53, 3) := by decide +kernel
theorem dX7_layMates_30 : decode cX7_layMates 30 = .ok (.bipush 20, 2) := by decide +kernel
theorem dX7_layMates_32 : decode cX7_layMates 32 = .ok (.iload_n 2, 1) := by decide +kernel
theorem dX7_layMates_33 : decode cX7_layMates 33 = .ok (.imul, 1) := by decide +kernel
theorem dX7_layMates_34 : decode cX7_layMates 34 = .ok (.aload_n 0, 1) := by decide +kernel
theorem dX7_layMates_35 : decode cX7_layMates 35 = .ok (.getfield 26, 3) := by decide +kernel
theorem dX7_layMates_38 : decode cX7_layMates 38 = .ok (.bipush 20, 2) := by decide +kernel
theorem dX7_layMates_40 : decode cX7_layMates 40 = .ok (.iload_n 1, 1) := by decide +kernel
theorem dX7_layMates_41 : decode cX7_layMates 41 = .ok (.imul, 1) := by decide +kernel
theorem dX7_layMates_42 : decode cX7_layMates 42 = .ok (.iload_n 2, 1) := by decide +kernel
theorem dX7_layMates_43 : decode cX7_layMates 43 = .ok (.iadd, 1) := by decide +kernel
theorem dX7_layMates_44 : decode cX7_layMates 44 = .ok (.iaload, 1) := by decide +kernel
theorem dX7_layMates_45 : decode cX7_layMates 45 = .ok (.iadd, 1) := by decide +kernel
theorem dX7_layMates_46 : decode cX7_layMates 46 = .ok (.iconst 1, 1) := by decide +kernel
theorem dX7_layMates_47 : decode cX7_layMates 47 = .ok (.bastore, 1) := by decide +kernel
theorem dX7_layMates_48 : decode cX7_layMates 48 = .ok (.iinc 2 1, 3) := by decide +kernel
theorem dX7_layMates_51 : decode cX7_layMates 51 = .ok (.goto (-49), 3) := by decide +kernel
theorem dX7_layMates_54 : decode cX7_layMates 54 = .ok (.return_, 1) := by decide +kernel
def tbX7_layMates (pc : Nat) : dt_T := cond (Nat.ble pc 26) (cond (Nat.ble pc 12) (cond (Nat.ble pc 3) (cond (Nat.ble pc 1) (cond (Nat.ble pc 0) (cond (Nat.beq pc 0) (tc_ic 0 1) tc_no) (cond (Nat.beq pc 1) (tc_stI 2 2) tc_no)) (cond (Nat.ble pc 2) (cond (Nat.beq pc 2) (tc_ldI 2 3) tc_no) (cond (Nat.beq pc 3) (tc_ldA 0 4) tc_no))) (cond (Nat.ble pc 7) (cond (Nat.ble pc 4) (cond (Nat.beq pc 4) (tc_getf 7 0 7) tc_no) (cond (Nat.beq pc 7) (tc_ldI 1 8) tc_no)) (cond (Nat.ble pc 8) (cond (Nat.beq pc 8) (tc_iald 9) tc_no) (cond (Nat.ble pc 9) (cond (Nat.beq pc 9) (tc_icmpge 54 12) tc_no) (cond (Nat.beq pc 12) (tc_ldA 0 13) tc_no))))) (cond (Nat.ble pc 19) (cond (Nat.ble pc 16) (cond (Nat.ble pc 13) (cond (Nat.beq pc 13) (tc_getf 7 1 16) tc_no) (cond (Nat.beq pc 16) (tc_ic 20 18) tc_no)) (cond (Nat.ble pc 18) (cond (Nat.beq pc 18) (tc_ldI 1 19) tc_no) (cond (Nat.beq pc 19) (tc_imul 20) tc_no))) (cond (Nat.ble pc 21) (cond (Nat.ble pc 20) (cond (Nat.beq pc 20) (tc_ldI 2 21) tc_no) (cond (Nat.beq pc 21) (tc_iadd 22) tc_no)) (cond (Nat.ble pc 22) (cond (Nat.beq pc 22) (tc_zald 23) tc_no) (cond (Nat.ble pc 23) (cond (Nat.beq pc 23) (tc_ifne 48 26) tc_no) (cond (Nat.beq pc 26) (tc_ldA 0 27) tc_no)))))) (cond (Nat.ble pc 41) (cond (Nat.ble pc 33) (cond (Nat.ble pc 30) (cond (Nat.ble pc 27) (cond (Nat.beq pc 27) (tc_getf 7 21 30) tc_no) (cond (Nat.beq pc 30) (tc_ic 20 32) tc_no)) (cond (Nat.ble pc 32) (cond (Nat.beq pc 32) (tc_ldI 2 33) tc_no) (cond (Nat.beq pc 33) (tc_imul 34) tc_no))) (cond (Nat.ble pc 35) (cond (Nat.ble pc 34) (cond (Nat.beq pc 34) (tc_ldA 0 35) tc_no) (cond (Nat.beq pc 35) (tc_getf 7 5 38) tc_no)) (cond (Nat.ble pc 38) (cond (Nat.beq pc 38) (tc_ic 20 40) tc_no) (cond (Nat.ble pc 40) (cond (Nat.beq pc 40) (tc_ldI 1 41) tc_no) (cond (Nat.beq pc 41) (tc_imul 42) tc_no))))) (cond (Nat.ble pc 45) (cond (Nat.ble pc 43) (cond (Nat.ble pc 42) (cond (Nat.beq pc 42) (tc_ldI 2 43) tc_no) (cond (Nat.beq pc 43) (tc_iadd 44) tc_no)) (cond (Nat.ble pc 44) (cond (Nat.beq pc 44) (tc_iald 45) tc_no) (cond (Nat.beq pc 45) (tc_iadd 46) tc_no))) (cond (Nat.ble pc 47) (cond (Nat.ble pc 46) (cond (Nat.beq pc 46) (tc_ic 1 47) tc_no) (cond (Nat.beq pc 47) (tc_zast 48) tc_no)) (cond (Nat.ble pc 48) (cond (Nat.beq pc 48) (tc_iinc 2 1 51) tc_no) (cond (Nat.ble pc 51) (cond (Nat.beq pc 51) (tc_goto 2) tc_no) (cond (Nat.beq pc 54) (tc_ret) tc_no))))))
theorem okX7_layMates : ∀ pc, dt_S mX7_layMates (tbX7_layMates pc) pc := by
  intro pc
  unfold tbX7_layMates
  exact dt_Sb (dt_Sb (dt_Sb (dt_Sb (dt_Sb (dt_Sl 0 (sn_ic ⟨by decide, by decide⟩ dX7_layMates_0 rfl)) (dt_Sl 1 (sn_stIn rfl (by decide) dX7_layMates_1 rfl))) (dt_Sb (dt_Sl 2 (sn_ldIn rfl dX7_layMates_2 rfl)) (dt_Sl 3 (sn_ldAn rfl dX7_layMates_3 rfl)))) (dt_Sb (dt_Sb (dt_Sl 4 (sn_getf rfl ffX7 (by decide) wq_3_137 dX7_layMates_4 rfl)) (dt_Sl 7 (sn_ldIn rfl dX7_layMates_7 rfl))) (dt_Sb (dt_Sl 8 (sn_iald dX7_layMates_8 rfl)) (dt_Sb (dt_Sl 9 (sn_icmpge dX7_layMates_9 (by decide) rfl)) (dt_Sl 12 (sn_ldAn rfl dX7_layMates_12 rfl)))))) (dt_Sb (dt_Sb (dt_Sb (dt_Sl 13 (sn_getf rfl ffX7 (by decide) wq_3_138 dX7_layMates_13 rfl)) (dt_Sl 16 (sn_bi ⟨by decide, by decide⟩ rfl dX7_layMates_16 rfl))) (dt_Sb (dt_Sl 18 (sn_ldIn rfl dX7_layMates_18 rfl)) (dt_Sl 19 (sn_imul dX7_layMates_19 rfl)))) (dt_Sb (dt_Sb (dt_Sl 20 (sn_ldIn rfl dX7_layMates_20 rfl)) (dt_Sl 21 (sn_iadd dX7_layMates_21 rfl))) (dt_Sb (dt_Sl 22 (sn_zald dX7_layMates_22 rfl)) (dt_Sb (dt_Sl 23 (sn_ifne dX7_layMates_23 (by decide) rfl)) (dt_Sl 26 (sn_ldAn rfl dX7_layMates_26 rfl))))))) (dt_Sb (dt_Sb (dt_Sb (dt_Sb (dt_Sl 27 (sn_getf rfl ffX7 (by decide) wq_3_158 dX7_layMates_27 rfl)) (dt_Sl 30 (sn_bi ⟨by decide, by decide⟩ rfl dX7_layMates_30 rfl))) (dt_Sb (dt_Sl 32 (sn_ldIn rfl dX7_layMates_32 rfl)) (dt_Sl 33 (sn_imul dX7_layMates_33 rfl)))) (dt_Sb (dt_Sb (dt_Sl 34 (sn_ldAn rfl dX7_layMates_34 rfl)) (dt_Sl 35 (sn_getf rfl ffX7 (by decide) wq_3_142 dX7_layMates_35 rfl))) (dt_Sb (dt_Sl 38 (sn_bi ⟨by decide, by decide⟩ rfl dX7_layMates_38 rfl)) (dt_Sb (dt_Sl 40 (sn_ldIn rfl dX7_layMates_40 rfl)) (dt_Sl 41 (sn_imul dX7_layMates_41 rfl)))))) (dt_Sb (dt_Sb (dt_Sb (dt_Sl 42 (sn_ldIn rfl dX7_layMates_42 rfl)) (dt_Sl 43 (sn_iadd dX7_layMates_43 rfl))) (dt_Sb (dt_Sl 44 (sn_iald dX7_layMates_44 rfl)) (dt_Sl 45 (sn_iadd dX7_layMates_45 rfl)))) (dt_Sb (dt_Sb (dt_Sl 46 (sn_ic ⟨by decide, by decide⟩ dX7_layMates_46 rfl)) (dt_Sl 47 (sn_zast dX7_layMates_47 rfl))) (dt_Sb (dt_Sl 48 (sn_iinc (by decide) dX7_layMates_48 rfl)) (dt_Sb (dt_Sl 51 (sn_goto dX7_layMates_51 (by decide))) (dt_Sl 54 (sn_ret rfl dX7_layMates_54)))))))
theorem dX7_onOneLine_0 : decode cX7_onOneLine 0 = .ok (.aload_n 0, 1) := by decide +kernel
theorem dX7_onOneLine_1 : decode cX7_onOneLine 1 = .ok (.getfield 17, 3) := by decide +kernel
theorem dX7_onOneLine_4 : decode cX7_onOneLine 4 = .ok (.bipush 20, 2) := by decide +kernel
theorem dX7_onOneLine_6 : decode cX7_onOneLine 6 = .ok (.iload_n 1, 1) := by decide +kernel
theorem dX7_onOneLine_7 : decode cX7_onOneLine 7 = .ok (.imul, 1) := by decide +kernel
theorem dX7_onOneLine_8 : decode cX7_onOneLine 8 = .ok (.iload_n 2, 1) := by decide +kernel
theorem dX7_onOneLine_9 : decode cX7_onOneLine 9 = .ok (.iadd, 1) := by decide +kernel
theorem dX7_onOneLine_10 : decode cX7_onOneLine 10 = .ok (.iaload, 1) := by decide +kernel
theorem dX7_onOneLine_11 : decode cX7_onOneLine 11 = .ok (.aload_n 0, 1) := by decide +kernel
theorem dX7_onOneLine_12 : decode cX7_onOneLine 12 = .ok (.getfield 17, 3) := by decide +kernel
theorem dX7_onOneLine_15 : decode cX7_onOneLine 15 = .ok (.bipush 20, 2) := by decide +kernel
theorem dX7_onOneLine_17 : decode cX7_onOneLine 17 = .ok (.iload_n 1, 1) := by decide +kernel
theorem dX7_onOneLine_18 : decode cX7_onOneLine 18 = .ok (.imul, 1) := by decide +kernel
theorem dX7_onOneLine_19 : decode cX7_onOneLine 19 = .ok (.iload_n 3, 1) := by decide +kernel
theorem dX7_onOneLine_20 : decode cX7_onOneLine 20 = .ok (.iadd, 1) := by decide +kernel
theorem dX7_onOneLine_21 : decode cX7_onOneLine 21 = .ok (.iaload, 1) := by decide +kernel
theorem dX7_onOneLine_22 : decode cX7_onOneLine 22 = .ok (.if_icmp .ne 7, 3) := by decide +kernel
theorem dX7_onOneLine_25 : decode cX7_onOneLine 25 = .ok (.iconst 1, 1) := by decide +kernel
theorem dX7_onOneLine_26 : decode cX7_onOneLine 26 = .ok (.goto 4, 3) := by decide +kernel
theorem dX7_onOneLine_29 : decode cX7_onOneLine 29 = .ok (.iconst 0, 1) := by decide +kernel
theorem dX7_onOneLine_30 : decode cX7_onOneLine 30 = .ok (.ireturn, 1) := by decide +kernel
def tbX7_onOneLine (pc : Nat) : dt_T := cond (Nat.ble pc 12) (cond (Nat.ble pc 7) (cond (Nat.ble pc 1) (cond (Nat.ble pc 0) (cond (Nat.beq pc 0) (tc_ldA 0 1) tc_no) (cond (Nat.beq pc 1) (tc_getf 7 2 4) tc_no)) (cond (Nat.ble pc 4) (cond (Nat.beq pc 4) (tc_ic 20 6) tc_no) (cond (Nat.ble pc 6) (cond (Nat.beq pc 6) (tc_ldI 1 7) tc_no) (cond (Nat.beq pc 7) (tc_imul 8) tc_no)))) (cond (Nat.ble pc 9) (cond (Nat.ble pc 8) (cond (Nat.beq pc 8) (tc_ldI 2 9) tc_no) (cond (Nat.beq pc 9) (tc_iadd 10) tc_no)) (cond (Nat.ble pc 10) (cond (Nat.beq pc 10) (tc_iald 11) tc_no) (cond (Nat.ble pc 11) (cond (Nat.beq pc 11) (tc_ldA 0 12) tc_no) (cond (Nat.beq pc 12) (tc_getf 7 2 15) tc_no))))) (cond (Nat.ble pc 20) (cond (Nat.ble pc 17) (cond (Nat.ble pc 15) (cond (Nat.beq pc 15) (tc_ic 20 17) tc_no) (cond (Nat.beq pc 17) (tc_ldI 1 18) tc_no)) (cond (Nat.ble pc 18) (cond (Nat.beq pc 18) (tc_imul 19) tc_no) (cond (Nat.ble pc 19) (cond (Nat.beq pc 19) (tc_ldI 3 20) tc_no) (cond (Nat.beq pc 20) (tc_iadd 21) tc_no)))) (cond (Nat.ble pc 25) (cond (Nat.ble pc 21) (cond (Nat.beq pc 21) (tc_iald 22) tc_no) (cond (Nat.ble pc 22) (cond (Nat.beq pc 22) (tc_icmpne 29 25) tc_no) (cond (Nat.beq pc 25) (tc_ic 1 26) tc_no))) (cond (Nat.ble pc 26) (cond (Nat.beq pc 26) (tc_goto 30) tc_no) (cond (Nat.ble pc 29) (cond (Nat.beq pc 29) (tc_ic 0 30) tc_no) (cond (Nat.beq pc 30) (tc_zret) tc_no)))))
theorem okX7_onOneLine : ∀ pc, dt_S mX7_onOneLine (tbX7_onOneLine pc) pc := by
  intro pc
  unfold tbX7_onOneLine
  exact dt_Sb (dt_Sb (dt_Sb (dt_Sb (dt_Sl 0 (sn_ldAn rfl dX7_onOneLine_0 rfl)) (dt_Sl 1 (sn_getf rfl ffX7 (by decide) wq_3_139 dX7_onOneLine_1 rfl))) (dt_Sb (dt_Sl 4 (sn_bi ⟨by decide, by decide⟩ rfl dX7_onOneLine_4 rfl)) (dt_Sb (dt_Sl 6 (sn_ldIn rfl dX7_onOneLine_6 rfl)) (dt_Sl 7 (sn_imul dX7_onOneLine_7 rfl))))) (dt_Sb (dt_Sb (dt_Sl 8 (sn_ldIn rfl dX7_onOneLine_8 rfl)) (dt_Sl 9 (sn_iadd dX7_onOneLine_9 rfl))) (dt_Sb (dt_Sl 10 (sn_iald dX7_onOneLine_10 rfl)) (dt_Sb (dt_Sl 11 (sn_ldAn rfl dX7_onOneLine_11 rfl)) (dt_Sl 12 (sn_getf rfl ffX7 (by decide) wq_3_139 dX7_onOneLine_12 rfl)))))) (dt_Sb (dt_Sb (dt_Sb (dt_Sl 15 (sn_bi ⟨by decide, by decide⟩ rfl dX7_onOneLine_15 rfl)) (dt_Sl 17 (sn_ldIn rfl dX7_onOneLine_17 rfl))) (dt_Sb (dt_Sl 18 (sn_imul dX7_onOneLine_18 rfl)) (dt_Sb (dt_Sl 19 (sn_ldIn rfl dX7_onOneLine_19 rfl)) (dt_Sl 20 (sn_iadd dX7_onOneLine_20 rfl))))) (dt_Sb (dt_Sb (dt_Sl 21 (sn_iald dX7_onOneLine_21 rfl)) (dt_Sb (dt_Sl 22 (sn_icmpne dX7_onOneLine_22 (by decide) rfl)) (dt_Sl 25 (sn_ic ⟨by decide, by decide⟩ dX7_onOneLine_25 rfl)))) (dt_Sb (dt_Sl 26 (sn_goto dX7_onOneLine_26 (by decide))) (dt_Sb (dt_Sl 29 (sn_ic ⟨by decide, by decide⟩ dX7_onOneLine_29 rfl)) (dt_Sl 30 (sn_zret rfl dX7_onOneLine_30))))))
theorem dX7_layDrawn_0 : decode cX7_layDrawn 0 = .ok (.aload_n 0, 1) := by decide +kernel
theorem dX7_layDrawn_1 : decode cX7_layDrawn 1 = .ok (.invokevirtual 175, 3) := by decide +kernel
theorem dX7_layDrawn_4 : decode cX7_layDrawn 4 = .ok (.aload_n 0, 1) := by decide +kernel
theorem dX7_layDrawn_5 : decode cX7_layDrawn 5 = .ok (.iload_n 1, 1) := by decide +kernel
theorem dX7_layDrawn_6 : decode cX7_layDrawn 6 = .ok (.invokevirtual 178, 3) := by decide +kernel
theorem dX7_layDrawn_9 : decode cX7_layDrawn 9 = .ok (.iconst 0, 1) := by decide +kernel
theorem dX7_layDrawn_10 : decode cX7_layDrawn 10 = .ok (.istore_n 2, 1) := by decide +kernel
theorem dX7_layDrawn_11 : decode cX7_layDrawn 11 = .ok (.iload_n 2, 1) := by decide +kernel
theorem dX7_layDrawn_12 : decode cX7_layDrawn 12 = .ok (.aload_n 0, 1) := by decide +kernel
theorem dX7_layDrawn_13 : decode cX7_layDrawn 13 = .ok (.getfield 7, 3) := by decide +kernel
theorem dX7_layDrawn_16 : decode cX7_layDrawn 16 = .ok (.iload_n 1, 1) := by decide +kernel
theorem dX7_layDrawn_17 : decode cX7_layDrawn 17 = .ok (.iaload, 1) := by decide +kernel
theorem dX7_layDrawn_18 : decode cX7_layDrawn 18 = .ok (.if_icmp .ge 69, 3) := by decide +kernel
theorem dX7_layDrawn_21 : decode cX7_layDrawn 21 = .ok (.iload_n 2, 1) := by decide +kernel
theorem dX7_layDrawn_22 : decode cX7_layDrawn 22 = .ok (.iconst 1, 1) := by decide +kernel
theorem dX7_layDrawn_23 : decode cX7_layDrawn 23 = .ok (.iadd, 1) := by decide +kernel
theorem dX7_layDrawn_24 : decode cX7_layDrawn 24 = .ok (.istore_n 3, 1) := by decide +kernel
theorem dX7_layDrawn_25 : decode cX7_layDrawn 25 = .ok (.iload_n 3, 1) := by decide +kernel
theorem dX7_layDrawn_26 : decode cX7_layDrawn 26 = .ok (.aload_n 0, 1) := by decide +kernel
theorem dX7_layDrawn_27 : decode cX7_layDrawn 27 = .ok (.getfield 7, 3) := by decide +kernel
theorem dX7_layDrawn_30 : decode cX7_layDrawn 30 = .ok (.iload_n 1, 1) := by decide +kernel
theorem dX7_layDrawn_31 : decode cX7_layDrawn 31 = .ok (.iaload, 1) := by decide +kernel
theorem dX7_layDrawn_32 : decode cX7_layDrawn 32 = .ok (.if_icmp .ge 49, 3) := by decide +kernel
theorem dX7_layDrawn_35 : decode cX7_layDrawn 35 = .ok (.aload_n 0, 1) := by decide +kernel
theorem dX7_layDrawn_36 : decode cX7_layDrawn 36 = .ok (.getfield 53, 3) := by decide +kernel
theorem dX7_layDrawn_39 : decode cX7_layDrawn 39 = .ok (.bipush 20, 2) := by decide +kernel
theorem dX7_layDrawn_41 : decode cX7_layDrawn 41 = .ok (.iload_n 2, 1) := by decide +kernel
theorem dX7_layDrawn_42 : decode cX7_layDrawn 42 = .ok (.imul, 1) := by decide +kernel
theorem dX7_layDrawn_43 : decode cX7_layDrawn 43 = .ok (.iload_n 3, 1) := by decide +kernel
theorem dX7_layDrawn_44 : decode cX7_layDrawn 44 = .ok (.iadd, 1) := by decide +kernel
theorem dX7_layDrawn_45 : decode cX7_layDrawn 45 = .ok (.aload_n 0, 1) := by decide +kernel
theorem dX7_layDrawn_46 : decode cX7_layDrawn 46 = .ok (.getfield 53, 3) := by decide +kernel
theorem dX7_layDrawn_49 : decode cX7_layDrawn 49 = .ok (.bipush 20, 2) := by decide +kernel
theorem dX7_layDrawn_51 : decode cX7_layDrawn 51 = .ok (.iload_n 2, 1) := by decide +kernel
theorem dX7_layDrawn_52 : decode cX7_layDrawn 52 = .ok (.imul, 1) := by decide +kernel
theorem dX7_layDrawn_53 : decode cX7_layDrawn 53 = .ok (.iload_n 3, 1) := by decide +kernel
theorem dX7_layDrawn_54 : decode cX7_layDrawn 54 = .ok (.iadd, 1) := by decide +kernel
theorem dX7_layDrawn_55 : decode cX7_layDrawn 55 = .ok (.baload, 1) := by decide +kernel
theorem dX7_layDrawn_56 : decode cX7_layDrawn 56 = .ok (.ifCond .ne 13, 3) := by decide +kernel
theorem dX7_layDrawn_59 : decode cX7_layDrawn 59 = .ok (.aload_n 0, 1) := by decide +kernel
theorem dX7_layDrawn_60 : decode cX7_layDrawn 60 = .ok (.iload_n 1, 1) := by decide +kernel
theorem dX7_layDrawn_61 : decode cX7_layDrawn 61 = .ok (.iload_n 2, 1) := by decide +kernel
theorem dX7_layDrawn_62 : decode cX7_layDrawn 62 = .ok (.iload_n 3, 1) := by decide +kernel
theorem dX7_layDrawn_63 : decode cX7_layDrawn 63 = .ok (.invokevirtual 182, 3) := by decide +kernel
theorem dX7_layDrawn_66 : decode cX7_layDrawn 66 = .ok (.ifCond .eq 7, 3) := by decide +kernel
theorem dX7_layDrawn_69 : decode cX7_layDrawn 69 = .ok (.iconst 1, 1) := by decide +kernel
theorem dX7_layDrawn_70 : decode cX7_layDrawn 70 = .ok (.goto 4, 3) := by decide +kernel
theorem dX7_layDrawn_73 : decode cX7_layDrawn 73 = .ok (.iconst 0, 1) := by decide +kernel
theorem dX7_layDrawn_74 : decode cX7_layDrawn 74 = .ok (.bastore, 1) := by decide +kernel
theorem dX7_layDrawn_75 : decode cX7_layDrawn 75 = .ok (.iinc 3 1, 3) := by decide +kernel
theorem dX7_layDrawn_78 : decode cX7_layDrawn 78 = .ok (.goto (-53), 3) := by decide +kernel
theorem dX7_layDrawn_81 : decode cX7_layDrawn 81 = .ok (.iinc 2 1, 3) := by decide +kernel
theorem dX7_layDrawn_84 : decode cX7_layDrawn 84 = .ok (.goto (-73), 3) := by decide +kernel
theorem dX7_layDrawn_87 : decode cX7_layDrawn 87 = .ok (.aload_n 0, 1) := by decide +kernel
theorem dX7_layDrawn_88 : decode cX7_layDrawn 88 = .ok (.aload_n 0, 1) := by decide +kernel
theorem dX7_layDrawn_89 : decode cX7_layDrawn 89 = .ok (.getfield 7, 3) := by decide +kernel
theorem dX7_layDrawn_92 : decode cX7_layDrawn 92 = .ok (.iload_n 1, 1) := by decide +kernel
theorem dX7_layDrawn_93 : decode cX7_layDrawn 93 = .ok (.iaload, 1) := by decide +kernel
theorem dX7_layDrawn_94 : decode cX7_layDrawn 94 = .ok (.invokevirtual 186, 3) := by decide +kernel
theorem dX7_layDrawn_97 : decode cX7_layDrawn 97 = .ok (.return_, 1) := by decide +kernel
def tbX7_layDrawn (pc : Nat) : dt_T := cond (Nat.ble pc 44) (cond (Nat.ble pc 22) (cond (Nat.ble pc 10) (cond (Nat.ble pc 4) (cond (Nat.ble pc 0) (cond (Nat.beq pc 0) (tc_ldA 0 1) tc_no) (cond (Nat.ble pc 1) (cond (Nat.beq pc 1) (tc_callV 7 mX7_clearAhead 0 4) tc_no) (cond (Nat.beq pc 4) (tc_ldA 0 5) tc_no))) (cond (Nat.ble pc 6) (cond (Nat.ble pc 5) (cond (Nat.beq pc 5) (tc_ldI 1 6) tc_no) (cond (Nat.beq pc 6) (tc_callV 7 mX7_layMates 1 9) tc_no)) (cond (Nat.ble pc 9) (cond (Nat.beq pc 9) (tc_ic 0 10) tc_no) (cond (Nat.beq pc 10) (tc_stI 2 11) tc_no)))) (cond (Nat.ble pc 16) (cond (Nat.ble pc 12) (cond (Nat.ble pc 11) (cond (Nat.beq pc 11) (tc_ldI 2 12) tc_no) (cond (Nat.beq pc 12) (tc_ldA 0 13) tc_no)) (cond (Nat.ble pc 13) (cond (Nat.beq pc 13) (tc_getf 7 0 16) tc_no) (cond (Nat.beq pc 16) (tc_ldI 1 17) tc_no))) (cond (Nat.ble pc 18) (cond (Nat.ble pc 17) (cond (Nat.beq pc 17) (tc_iald 18) tc_no) (cond (Nat.beq pc 18) (tc_icmpge 87 21) tc_no)) (cond (Nat.ble pc 21) (cond (Nat.beq pc 21) (tc_ldI 2 22) tc_no) (cond (Nat.beq pc 22) (tc_ic 1 23) tc_no))))) (cond (Nat.ble pc 31) (cond (Nat.ble pc 25) (cond (Nat.ble pc 23) (cond (Nat.beq pc 23) (tc_iadd 24) tc_no) (cond (Nat.ble pc 24) (cond (Nat.beq pc 24) (tc_stI 3 25) tc_no) (cond (Nat.beq pc 25) (tc_ldI 3 26) tc_no))) (cond (Nat.ble pc 27) (cond (Nat.ble pc 26) (cond (Nat.beq pc 26) (tc_ldA 0 27) tc_no) (cond (Nat.beq pc 27) (tc_getf 7 0 30) tc_no)) (cond (Nat.ble pc 30) (cond (Nat.beq pc 30) (tc_ldI 1 31) tc_no) (cond (Nat.beq pc 31) (tc_iald 32) tc_no)))) (cond (Nat.ble pc 39) (cond (Nat.ble pc 35) (cond (Nat.ble pc 32) (cond (Nat.beq pc 32) (tc_icmpge 81 35) tc_no) (cond (Nat.beq pc 35) (tc_ldA 0 36) tc_no)) (cond (Nat.ble pc 36) (cond (Nat.beq pc 36) (tc_getf 7 21 39) tc_no) (cond (Nat.beq pc 39) (tc_ic 20 41) tc_no))) (cond (Nat.ble pc 42) (cond (Nat.ble pc 41) (cond (Nat.beq pc 41) (tc_ldI 2 42) tc_no) (cond (Nat.beq pc 42) (tc_imul 43) tc_no)) (cond (Nat.ble pc 43) (cond (Nat.beq pc 43) (tc_ldI 3 44) tc_no) (cond (Nat.beq pc 44) (tc_iadd 45) tc_no)))))) (cond (Nat.ble pc 66) (cond (Nat.ble pc 54) (cond (Nat.ble pc 49) (cond (Nat.ble pc 45) (cond (Nat.beq pc 45) (tc_ldA 0 46) tc_no) (cond (Nat.ble pc 46) (cond (Nat.beq pc 46) (tc_getf 7 21 49) tc_no) (cond (Nat.beq pc 49) (tc_ic 20 51) tc_no))) (cond (Nat.ble pc 52) (cond (Nat.ble pc 51) (cond (Nat.beq pc 51) (tc_ldI 2 52) tc_no) (cond (Nat.beq pc 52) (tc_imul 53) tc_no)) (cond (Nat.ble pc 53) (cond (Nat.beq pc 53) (tc_ldI 3 54) tc_no) (cond (Nat.beq pc 54) (tc_iadd 55) tc_no)))) (cond (Nat.ble pc 60) (cond (Nat.ble pc 56) (cond (Nat.ble pc 55) (cond (Nat.beq pc 55) (tc_zald 56) tc_no) (cond (Nat.beq pc 56) (tc_ifne 69 59) tc_no)) (cond (Nat.ble pc 59) (cond (Nat.beq pc 59) (tc_ldA 0 60) tc_no) (cond (Nat.beq pc 60) (tc_ldI 1 61) tc_no))) (cond (Nat.ble pc 62) (cond (Nat.ble pc 61) (cond (Nat.beq pc 61) (tc_ldI 2 62) tc_no) (cond (Nat.beq pc 62) (tc_ldI 3 63) tc_no)) (cond (Nat.ble pc 63) (cond (Nat.beq pc 63) (tc_callV 7 mX7_onOneLine 3 66) tc_no) (cond (Nat.beq pc 66) (tc_ifeq 73 69) tc_no))))) (cond (Nat.ble pc 81) (cond (Nat.ble pc 73) (cond (Nat.ble pc 69) (cond (Nat.beq pc 69) (tc_ic 1 70) tc_no) (cond (Nat.ble pc 70) (cond (Nat.beq pc 70) (tc_goto 74) tc_no) (cond (Nat.beq pc 73) (tc_ic 0 74) tc_no))) (cond (Nat.ble pc 75) (cond (Nat.ble pc 74) (cond (Nat.beq pc 74) (tc_zast 75) tc_no) (cond (Nat.beq pc 75) (tc_iinc 3 1 78) tc_no)) (cond (Nat.ble pc 78) (cond (Nat.beq pc 78) (tc_goto 25) tc_no) (cond (Nat.beq pc 81) (tc_iinc 2 1 84) tc_no)))) (cond (Nat.ble pc 89) (cond (Nat.ble pc 87) (cond (Nat.ble pc 84) (cond (Nat.beq pc 84) (tc_goto 11) tc_no) (cond (Nat.beq pc 87) (tc_ldA 0 88) tc_no)) (cond (Nat.ble pc 88) (cond (Nat.beq pc 88) (tc_ldA 0 89) tc_no) (cond (Nat.beq pc 89) (tc_getf 7 0 92) tc_no))) (cond (Nat.ble pc 93) (cond (Nat.ble pc 92) (cond (Nat.beq pc 92) (tc_ldI 1 93) tc_no) (cond (Nat.beq pc 93) (tc_iald 94) tc_no)) (cond (Nat.ble pc 94) (cond (Nat.beq pc 94) (tc_callV 7 mX7_closeAhead 1 97) tc_no) (cond (Nat.beq pc 97) (tc_ret) tc_no))))))
theorem okX7_layDrawn : ∀ pc, dt_S mX7_layDrawn (tbX7_layDrawn pc) pc := by
  intro pc
  unfold tbX7_layDrawn
  exact dt_Sb (dt_Sb (dt_Sb (dt_Sb (dt_Sb (dt_Sl 0 (sn_ldAn rfl dX7_layDrawn_0 rfl)) (dt_Sb (dt_Sl 1 (sn_callV rfl ffX7 nnX7_clearAhead rfl wq_4_91 wq_4_93 wq_0_37 dX7_layDrawn_1 rfl)) (dt_Sl 4 (sn_ldAn rfl dX7_layDrawn_4 rfl)))) (dt_Sb (dt_Sb (dt_Sl 5 (sn_ldIn rfl dX7_layDrawn_5 rfl)) (dt_Sl 6 (sn_callV rfl ffX7 nnX7_layMates rfl wq_4_95 wq_4_97 wq_0_38 dX7_layDrawn_6 rfl))) (dt_Sb (dt_Sl 9 (sn_ic ⟨by decide, by decide⟩ dX7_layDrawn_9 rfl)) (dt_Sl 10 (sn_stIn rfl (by decide) dX7_layDrawn_10 rfl))))) (dt_Sb (dt_Sb (dt_Sb (dt_Sl 11 (sn_ldIn rfl dX7_layDrawn_11 rfl)) (dt_Sl 12 (sn_ldAn rfl dX7_layDrawn_12 rfl))) (dt_Sb (dt_Sl 13 (sn_getf rfl ffX7 (by decide) wq_3_137 dX7_layDrawn_13 rfl)) (dt_Sl 16 (sn_ldIn rfl dX7_layDrawn_16 rfl)))) (dt_Sb (dt_Sb (dt_Sl 17 (sn_iald dX7_layDrawn_17 rfl)) (dt_Sl 18 (sn_icmpge dX7_layDrawn_18 (by decide) rfl))) (dt_Sb (dt_Sl 21 (sn_ldIn rfl dX7_layDrawn_21 rfl)) (dt_Sl 22 (sn_ic ⟨by decide, by decide⟩ dX7_layDrawn_22 rfl)))))) (dt_Sb (dt_Sb (dt_Sb (dt_Sl 23 (sn_iadd dX7_layDrawn_23 rfl)) (dt_Sb (dt_Sl 24 (sn_stIn rfl (by decide) dX7_layDrawn_24 rfl)) (dt_Sl 25 (sn_ldIn rfl dX7_layDrawn_25 rfl)))) (dt_Sb (dt_Sb (dt_Sl 26 (sn_ldAn rfl dX7_layDrawn_26 rfl)) (dt_Sl 27 (sn_getf rfl ffX7 (by decide) wq_3_137 dX7_layDrawn_27 rfl))) (dt_Sb (dt_Sl 30 (sn_ldIn rfl dX7_layDrawn_30 rfl)) (dt_Sl 31 (sn_iald dX7_layDrawn_31 rfl))))) (dt_Sb (dt_Sb (dt_Sb (dt_Sl 32 (sn_icmpge dX7_layDrawn_32 (by decide) rfl)) (dt_Sl 35 (sn_ldAn rfl dX7_layDrawn_35 rfl))) (dt_Sb (dt_Sl 36 (sn_getf rfl ffX7 (by decide) wq_3_158 dX7_layDrawn_36 rfl)) (dt_Sl 39 (sn_bi ⟨by decide, by decide⟩ rfl dX7_layDrawn_39 rfl)))) (dt_Sb (dt_Sb (dt_Sl 41 (sn_ldIn rfl dX7_layDrawn_41 rfl)) (dt_Sl 42 (sn_imul dX7_layDrawn_42 rfl))) (dt_Sb (dt_Sl 43 (sn_ldIn rfl dX7_layDrawn_43 rfl)) (dt_Sl 44 (sn_iadd dX7_layDrawn_44 rfl))))))) (dt_Sb (dt_Sb (dt_Sb (dt_Sb (dt_Sl 45 (sn_ldAn rfl dX7_layDrawn_45 rfl)) (dt_Sb (dt_Sl 46 (sn_getf rfl ffX7 (by decide) wq_3_158 dX7_layDrawn_46 rfl)) (dt_Sl 49 (sn_bi ⟨by decide, by decide⟩ rfl dX7_layDrawn_49 rfl)))) (dt_Sb (dt_Sb (dt_Sl 51 (sn_ldIn rfl dX7_layDrawn_51 rfl)) (dt_Sl 52 (sn_imul dX7_layDrawn_52 rfl))) (dt_Sb (dt_Sl 53 (sn_ldIn rfl dX7_layDrawn_53 rfl)) (dt_Sl 54 (sn_iadd dX7_layDrawn_54 rfl))))) (dt_Sb (dt_Sb (dt_Sb (dt_Sl 55 (sn_zald dX7_layDrawn_55 rfl)) (dt_Sl 56 (sn_ifne dX7_layDrawn_56 (by decide) rfl))) (dt_Sb (dt_Sl 59 (sn_ldAn rfl dX7_layDrawn_59 rfl)) (dt_Sl 60 (sn_ldIn rfl dX7_layDrawn_60 rfl)))) (dt_Sb (dt_Sb (dt_Sl 61 (sn_ldIn rfl dX7_layDrawn_61 rfl)) (dt_Sl 62 (sn_ldIn rfl dX7_layDrawn_62 rfl))) (dt_Sb (dt_Sl 63 (sn_callV rfl ffX7 nnX7_onOneLine rfl wq_4_99 wq_4_101 wq_0_39 dX7_layDrawn_63 rfl)) (dt_Sl 66 (sn_ifeq dX7_layDrawn_66 (by decide) rfl)))))) (dt_Sb (dt_Sb (dt_Sb (dt_Sl 69 (sn_ic ⟨by decide, by decide⟩ dX7_layDrawn_69 rfl)) (dt_Sb (dt_Sl 70 (sn_goto dX7_layDrawn_70 (by decide))) (dt_Sl 73 (sn_ic ⟨by decide, by decide⟩ dX7_layDrawn_73 rfl)))) (dt_Sb (dt_Sb (dt_Sl 74 (sn_zast dX7_layDrawn_74 rfl)) (dt_Sl 75 (sn_iinc (by decide) dX7_layDrawn_75 rfl))) (dt_Sb (dt_Sl 78 (sn_goto dX7_layDrawn_78 (by decide))) (dt_Sl 81 (sn_iinc (by decide) dX7_layDrawn_81 rfl))))) (dt_Sb (dt_Sb (dt_Sb (dt_Sl 84 (sn_goto dX7_layDrawn_84 (by decide))) (dt_Sl 87 (sn_ldAn rfl dX7_layDrawn_87 rfl))) (dt_Sb (dt_Sl 88 (sn_ldAn rfl dX7_layDrawn_88 rfl)) (dt_Sl 89 (sn_getf rfl ffX7 (by decide) wq_3_137 dX7_layDrawn_89 rfl)))) (dt_Sb (dt_Sb (dt_Sl 92 (sn_ldIn rfl dX7_layDrawn_92 rfl)) (dt_Sl 93 (sn_iald dX7_layDrawn_93 rfl))) (dt_Sb (dt_Sl 94 (sn_callV rfl ffX7 nnX7_closeAhead rfl wq_4_103 wq_4_105 wq_0_40 dX7_layDrawn_94 rfl)) (dt_Sl 97 (sn_ret rfl dX7_layDrawn_97)))))))
theorem dX7_isKeptTake_0 : decode cX7_isKeptTake 0 = .ok (.aload_n 0, 1) := by decide +kernel
theorem dX7_isKeptTake_1 : decode cX7_isKeptTake 1 = .ok (.getfield 26, 3) := by decide +kernel
theorem dX7_isKeptTake_4 : decode cX7_isKeptTake 4 = .ok (.bipush 20, 2) := by decide +kernel
theorem dX7_isKeptTake_6 : decode cX7_isKeptTake 6 = .ok (.iload_n 1, 1) := by decide +kernel
theorem dX7_isKeptTake_7 : decode cX7_isKeptTake 7 = .ok (.imul, 1) := by decide +kernel
theorem dX7_isKeptTake_8 : decode cX7_isKeptTake 8 = .ok (.iload_n 3, 1) := by decide +kernel
theorem dX7_isKeptTake_9 : decode cX7_isKeptTake 9 = .ok (.iadd, 1) := by decide +kernel
theorem dX7_isKeptTake_10 : decode cX7_isKeptTake 10 = .ok (.iaload, 1) := by decide +kernel
theorem dX7_isKeptTake_11 : decode cX7_isKeptTake 11 = .ok (.istore 5, 2) := by decide +kernel
theorem dX7_isKeptTake_13 : decode cX7_isKeptTake 13 = .ok (.aload_n 0, 1) := by decide +kernel
theorem dX7_isKeptTake_14 : decode cX7_isKeptTake 14 = .ok (.getfield 26, 3) := by decide +kernel
theorem dX7_isKeptTake_17 : decode cX7_isKeptTake 17 = .ok (.bipush 20, 2) := by decide +kernel
theorem dX7_isKeptTake_19 : decode cX7_isKeptTake 19 = .ok (.iload_n 1, 1) := by decide +kernel
theorem dX7_isKeptTake_20 : decode cX7_isKeptTake 20 = .ok (.imul, 1) := by decide +kernel
theorem dX7_isKeptTake_21 : decode cX7_isKeptTake 21 = .ok (.iload 4, 2) := by decide +kernel
theorem dX7_isKeptTake_23 : decode cX7_isKeptTake 23 = .ok (.iadd, 1) := by decide +kernel
theorem dX7_isKeptTake_24 : decode cX7_isKeptTake 24 = .ok (.iaload, 1) := by decide +kernel
theorem dX7_isKeptTake_25 : decode cX7_isKeptTake 25 = .ok (.istore 6, 2) := by decide +kernel
theorem dX7_isKeptTake_27 : decode cX7_isKeptTake 27 = .ok (.iload_n 2, 1) := by decide +kernel
theorem dX7_isKeptTake_28 : decode cX7_isKeptTake 28 = .ok (.iconst 1, 1) := by decide +kernel
theorem dX7_isKeptTake_29 : decode cX7_isKeptTake 29 = .ok (.if_icmp .ne 30, 3) := by decide +kernel
theorem dX7_isKeptTake_32 : decode cX7_isKeptTake 32 = .ok (.aload_n 0, 1) := by decide +kernel
theorem dX7_isKeptTake_33 : decode cX7_isKeptTake 33 = .ok (.iload_n 1, 1) := by decide +kernel
theorem dX7_isKeptTake_34 : decode cX7_isKeptTake 34 = .ok (.iload 5, 2) := by decide +kernel
theorem dX7_isKeptTake_36 : decode cX7_isKeptTake 36 = .ok (.iload 6, 2) := by decide +kernel
theorem dX7_isKeptTake_38 : decode cX7_isKeptTake 38 = .ok (.invokevirtual 182, 3) := by decide +kernel
theorem dX7_isKeptTake_41 : decode cX7_isKeptTake 41 = .ok (.ifCond .eq 14, 3) := by decide +kernel
theorem dX7_isKeptTake_44 : decode cX7_isKeptTake 44 = .ok (.iload 5, 2) := by decide +kernel
theorem dX7_isKeptTake_46 : decode cX7_isKeptTake 46 = .ok (.iload 6, 2) := by decide +kernel
theorem dX7_isKeptTake_48 : decode cX7_isKeptTake 48 = .ok (.if_icmp .ge 7, 3) := by decide +kernel
theorem dX7_isKeptTake_51 : decode cX7_isKeptTake 51 = .ok (.iconst 1, 1) := by decide +kernel
theorem dX7_isKeptTake_52 : decode cX7_isKeptTake 52 = .ok (.goto 33, 3) := by decide +kernel
theorem dX7_isKeptTake_55 : decode cX7_isKeptTake 55 = .ok (.iconst 0, 1) := by decide +kernel
theorem dX7_isKeptTake_56 : decode cX7_isKeptTake 56 = .ok (.goto 29, 3) := by decide +kernel
theorem dX7_isKeptTake_59 : decode cX7_isKeptTake 59 = .ok (.iload_n 2, 1) := by decide +kernel
theorem dX7_isKeptTake_60 : decode cX7_isKeptTake 60 = .ok (.iconst 2, 1) := by decide +kernel
theorem dX7_isKeptTake_61 : decode cX7_isKeptTake 61 = .ok (.if_icmp .ne 23, 3) := by decide +kernel
theorem dX7_isKeptTake_64 : decode cX7_isKeptTake 64 = .ok (.aload_n 0, 1) := by decide +kernel
theorem dX7_isKeptTake_65 : decode cX7_isKeptTake 65 = .ok (.getfield 53, 3) := by decide +kernel
theorem dX7_isKeptTake_68 : decode cX7_isKeptTake 68 = .ok (.bipush 20, 2) := by decide +kernel
theorem dX7_isKeptTake_70 : decode cX7_isKeptTake 70 = .ok (.iload 5, 2) := by decide +kernel
theorem dX7_isKeptTake_72 : decode cX7_isKeptTake 72 = .ok (.imul, 1) := by decide +kernel
theorem dX7_isKeptTake_73 : decode cX7_isKeptTake 73 = .ok (.iload 6, 2) := by decide +kernel
theorem dX7_isKeptTake_75 : decode cX7_isKeptTake 75 = .ok (.iadd, 1) := by decide +kernel
theorem dX7_isKeptTake_76 : decode cX7_isKeptTake 76 = .ok (.baload, 1) := by decide +kernel
theorem dX7_isKeptTake_77 : decode cX7_isKeptTake 77 = .ok (.ifCond .eq 7, 3) := by decide +kernel
theorem dX7_isKeptTake_80 : decode cX7_isKeptTake 80 = .ok (.iconst 1, 1) := by decide +kernel
theorem dX7_isKeptTake_81 : decode cX7_isKeptTake 81 = .ok (.goto 4, 3) := by decide +kernel
theorem dX7_isKeptTake_84 : decode cX7_isKeptTake 84 = .ok (.iconst 0, 1) := by decide +kernel
theorem dX7_isKeptTake_85 : decode cX7_isKeptTake 85 = .ok (.ireturn, 1) := by decide +kernel
def tbX7_isKeptTake (pc : Nat) : dt_T := cond (Nat.ble pc 36) (cond (Nat.ble pc 17) (cond (Nat.ble pc 8) (cond (Nat.ble pc 4) (cond (Nat.ble pc 0) (cond (Nat.beq pc 0) (tc_ldA 0 1) tc_no) (cond (Nat.ble pc 1) (cond (Nat.beq pc 1) (tc_getf 7 5 4) tc_no) (cond (Nat.beq pc 4) (tc_ic 20 6) tc_no))) (cond (Nat.ble pc 6) (cond (Nat.beq pc 6) (tc_ldI 1 7) tc_no) (cond (Nat.ble pc 7) (cond (Nat.beq pc 7) (tc_imul 8) tc_no) (cond (Nat.beq pc 8) (tc_ldI 3 9) tc_no)))) (cond (Nat.ble pc 11) (cond (Nat.ble pc 9) (cond (Nat.beq pc 9) (tc_iadd 10) tc_no) (cond (Nat.ble pc 10) (cond (Nat.beq pc 10) (tc_iald 11) tc_no) (cond (Nat.beq pc 11) (tc_stI 5 13) tc_no))) (cond (Nat.ble pc 13) (cond (Nat.beq pc 13) (tc_ldA 0 14) tc_no) (cond (Nat.ble pc 14) (cond (Nat.beq pc 14) (tc_getf 7 5 17) tc_no) (cond (Nat.beq pc 17) (tc_ic 20 19) tc_no))))) (cond (Nat.ble pc 25) (cond (Nat.ble pc 21) (cond (Nat.ble pc 19) (cond (Nat.beq pc 19) (tc_ldI 1 20) tc_no) (cond (Nat.ble pc 20) (cond (Nat.beq pc 20) (tc_imul 21) tc_no) (cond (Nat.beq pc 21) (tc_ldI 4 23) tc_no))) (cond (Nat.ble pc 23) (cond (Nat.beq pc 23) (tc_iadd 24) tc_no) (cond (Nat.ble pc 24) (cond (Nat.beq pc 24) (tc_iald 25) tc_no) (cond (Nat.beq pc 25) (tc_stI 6 27) tc_no)))) (cond (Nat.ble pc 29) (cond (Nat.ble pc 27) (cond (Nat.beq pc 27) (tc_ldI 2 28) tc_no) (cond (Nat.ble pc 28) (cond (Nat.beq pc 28) (tc_ic 1 29) tc_no) (cond (Nat.beq pc 29) (tc_icmpne 59 32) tc_no))) (cond (Nat.ble pc 33) (cond (Nat.ble pc 32) (cond (Nat.beq pc 32) (tc_ldA 0 33) tc_no) (cond (Nat.beq pc 33) (tc_ldI 1 34) tc_no)) (cond (Nat.ble pc 34) (cond (Nat.beq pc 34) (tc_ldI 5 36) tc_no) (cond (Nat.beq pc 36) (tc_ldI 6 38) tc_no)))))) (cond (Nat.ble pc 61) (cond (Nat.ble pc 51) (cond (Nat.ble pc 44) (cond (Nat.ble pc 38) (cond (Nat.beq pc 38) (tc_callV 7 mX7_onOneLine 3 41) tc_no) (cond (Nat.ble pc 41) (cond (Nat.beq pc 41) (tc_ifeq 55 44) tc_no) (cond (Nat.beq pc 44) (tc_ldI 5 46) tc_no))) (cond (Nat.ble pc 46) (cond (Nat.beq pc 46) (tc_ldI 6 48) tc_no) (cond (Nat.ble pc 48) (cond (Nat.beq pc 48) (tc_icmpge 55 51) tc_no) (cond (Nat.beq pc 51) (tc_ic 1 52) tc_no)))) (cond (Nat.ble pc 56) (cond (Nat.ble pc 52) (cond (Nat.beq pc 52) (tc_goto 85) tc_no) (cond (Nat.ble pc 55) (cond (Nat.beq pc 55) (tc_ic 0 56) tc_no) (cond (Nat.beq pc 56) (tc_goto 85) tc_no))) (cond (Nat.ble pc 59) (cond (Nat.beq pc 59) (tc_ldI 2 60) tc_no) (cond (Nat.ble pc 60) (cond (Nat.beq pc 60) (tc_ic 2 61) tc_no) (cond (Nat.beq pc 61) (tc_icmpne 84 64) tc_no))))) (cond (Nat.ble pc 73) (cond (Nat.ble pc 68) (cond (Nat.ble pc 64) (cond (Nat.beq pc 64) (tc_ldA 0 65) tc_no) (cond (Nat.ble pc 65) (cond (Nat.beq pc 65) (tc_getf 7 21 68) tc_no) (cond (Nat.beq pc 68) (tc_ic 20 70) tc_no))) (cond (Nat.ble pc 70) (cond (Nat.beq pc 70) (tc_ldI 5 72) tc_no) (cond (Nat.ble pc 72) (cond (Nat.beq pc 72) (tc_imul 73) tc_no) (cond (Nat.beq pc 73) (tc_ldI 6 75) tc_no)))) (cond (Nat.ble pc 77) (cond (Nat.ble pc 75) (cond (Nat.beq pc 75) (tc_iadd 76) tc_no) (cond (Nat.ble pc 76) (cond (Nat.beq pc 76) (tc_zald 77) tc_no) (cond (Nat.beq pc 77) (tc_ifeq 84 80) tc_no))) (cond (Nat.ble pc 81) (cond (Nat.ble pc 80) (cond (Nat.beq pc 80) (tc_ic 1 81) tc_no) (cond (Nat.beq pc 81) (tc_goto 85) tc_no)) (cond (Nat.ble pc 84) (cond (Nat.beq pc 84) (tc_ic 0 85) tc_no) (cond (Nat.beq pc 85) (tc_zret) tc_no))))))
theorem okX7_isKeptTake : ∀ pc, dt_S mX7_isKeptTake (tbX7_isKeptTake pc) pc := by
  intro pc
  unfold tbX7_isKeptTake
  exact dt_Sb (dt_Sb (dt_Sb (dt_Sb (dt_Sb (dt_Sl 0 (sn_ldAn rfl dX7_isKeptTake_0 rfl)) (dt_Sb (dt_Sl 1 (sn_getf rfl ffX7 (by decide) wq_3_142 dX7_isKeptTake_1 rfl)) (dt_Sl 4 (sn_bi ⟨by decide, by decide⟩ rfl dX7_isKeptTake_4 rfl)))) (dt_Sb (dt_Sl 6 (sn_ldIn rfl dX7_isKeptTake_6 rfl)) (dt_Sb (dt_Sl 7 (sn_imul dX7_isKeptTake_7 rfl)) (dt_Sl 8 (sn_ldIn rfl dX7_isKeptTake_8 rfl))))) (dt_Sb (dt_Sb (dt_Sl 9 (sn_iadd dX7_isKeptTake_9 rfl)) (dt_Sb (dt_Sl 10 (sn_iald dX7_isKeptTake_10 rfl)) (dt_Sl 11 (sn_stI (by decide) dX7_isKeptTake_11 rfl)))) (dt_Sb (dt_Sl 13 (sn_ldAn rfl dX7_isKeptTake_13 rfl)) (dt_Sb (dt_Sl 14 (sn_getf rfl ffX7 (by decide) wq_3_142 dX7_isKeptTake_14 rfl)) (dt_Sl 17 (sn_bi ⟨by decide, by decide⟩ rfl dX7_isKeptTake_17 rfl)))))) (dt_Sb (dt_Sb (dt_Sb (dt_Sl 19 (sn_ldIn rfl dX7_isKeptTake_19 rfl)) (dt_Sb (dt_Sl 20 (sn_imul dX7_isKeptTake_20 rfl)) (dt_Sl 21 (sn_ldI dX7_isKeptTake_21 rfl)))) (dt_Sb (dt_Sl 23 (sn_iadd dX7_isKeptTake_23 rfl)) (dt_Sb (dt_Sl 24 (sn_iald dX7_isKeptTake_24 rfl)) (dt_Sl 25 (sn_stI (by decide) dX7_isKeptTake_25 rfl))))) (dt_Sb (dt_Sb (dt_Sl 27 (sn_ldIn rfl dX7_isKeptTake_27 rfl)) (dt_Sb (dt_Sl 28 (sn_ic ⟨by decide, by decide⟩ dX7_isKeptTake_28 rfl)) (dt_Sl 29 (sn_icmpne dX7_isKeptTake_29 (by decide) rfl)))) (dt_Sb (dt_Sb (dt_Sl 32 (sn_ldAn rfl dX7_isKeptTake_32 rfl)) (dt_Sl 33 (sn_ldIn rfl dX7_isKeptTake_33 rfl))) (dt_Sb (dt_Sl 34 (sn_ldI dX7_isKeptTake_34 rfl)) (dt_Sl 36 (sn_ldI dX7_isKeptTake_36 rfl))))))) (dt_Sb (dt_Sb (dt_Sb (dt_Sb (dt_Sl 38 (sn_callV rfl ffX7 nnX7_onOneLine rfl wq_4_99 wq_4_101 wq_0_39 dX7_isKeptTake_38 rfl)) (dt_Sb (dt_Sl 41 (sn_ifeq dX7_isKeptTake_41 (by decide) rfl)) (dt_Sl 44 (sn_ldI dX7_isKeptTake_44 rfl)))) (dt_Sb (dt_Sl 46 (sn_ldI dX7_isKeptTake_46 rfl)) (dt_Sb (dt_Sl 48 (sn_icmpge dX7_isKeptTake_48 (by decide) rfl)) (dt_Sl 51 (sn_ic ⟨by decide, by decide⟩ dX7_isKeptTake_51 rfl))))) (dt_Sb (dt_Sb (dt_Sl 52 (sn_goto dX7_isKeptTake_52 (by decide))) (dt_Sb (dt_Sl 55 (sn_ic ⟨by decide, by decide⟩ dX7_isKeptTake_55 rfl)) (dt_Sl 56 (sn_goto dX7_isKeptTake_56 (by decide))))) (dt_Sb (dt_Sl 59 (sn_ldIn rfl dX7_isKeptTake_59 rfl)) (dt_Sb (dt_Sl 60 (sn_ic ⟨by decide, by decide⟩ dX7_isKeptTake_60 rfl)) (dt_Sl 61 (sn_icmpne dX7_isKeptTake_61 (by decide) rfl)))))) (dt_Sb (dt_Sb (dt_Sb (dt_Sl 64 (sn_ldAn rfl dX7_isKeptTake_64 rfl)) (dt_Sb (dt_Sl 65 (sn_getf rfl ffX7 (by decide) wq_3_158 dX7_isKeptTake_65 rfl)) (dt_Sl 68 (sn_bi ⟨by decide, by decide⟩ rfl dX7_isKeptTake_68 rfl)))) (dt_Sb (dt_Sl 70 (sn_ldI dX7_isKeptTake_70 rfl)) (dt_Sb (dt_Sl 72 (sn_imul dX7_isKeptTake_72 rfl)) (dt_Sl 73 (sn_ldI dX7_isKeptTake_73 rfl))))) (dt_Sb (dt_Sb (dt_Sl 75 (sn_iadd dX7_isKeptTake_75 rfl)) (dt_Sb (dt_Sl 76 (sn_zald dX7_isKeptTake_76 rfl)) (dt_Sl 77 (sn_ifeq dX7_isKeptTake_77 (by decide) rfl)))) (dt_Sb (dt_Sb (dt_Sl 80 (sn_ic ⟨by decide, by decide⟩ dX7_isKeptTake_80 rfl)) (dt_Sl 81 (sn_goto dX7_isKeptTake_81 (by decide)))) (dt_Sb (dt_Sl 84 (sn_ic ⟨by decide, by decide⟩ dX7_isKeptTake_84 rfl)) (dt_Sl 85 (sn_zret rfl dX7_isKeptTake_85)))))))
theorem dX7_layKept_0 : decode cX7_layKept 0 = .ok (.aload_n 0, 1) := by decide +kernel
theorem dX7_layKept_1 : decode cX7_layKept 1 = .ok (.invokevirtual 175, 3) := by decide +kernel
theorem dX7_layKept_4 : decode cX7_layKept 4 = .ok (.aload_n 0, 1) := by decide +kernel
theorem dX7_layKept_5 : decode cX7_layKept 5 = .ok (.iload_n 1, 1) := by decide +kernel
theorem dX7_layKept_6 : decode cX7_layKept 6 = .ok (.invokevirtual 178, 3) := by decide +kernel
theorem dX7_layKept_9 : decode cX7_layKept 9 = .ok (.iconst 1, 1) := by decide +kernel
theorem dX7_layKept_10 : decode cX7_layKept 10 = .ok (.istore_n 3, 1) := by decide +kernel
theorem dX7_layKept_11 : decode cX7_layKept 11 = .ok (.iload_n 3, 1) := by decide +kernel
theorem dX7_layKept_12 : decode cX7_layKept 12 = .ok (.ifCond .eq 193, 3) := by decide +kernel
theorem dX7_layKept_15 : decode cX7_layKept 15 = .ok (.iconst 0, 1) := by decide +kernel
theorem dX7_layKept_16 : decode cX7_layKept 16 = .ok (.istore_n 3, 1) := by decide +kernel
theorem dX7_layKept_17 : decode cX7_layKept 17 = .ok (.iconst 0, 1) := by decide +kernel
theorem dX7_layKept_18 : decode cX7_layKept 18 = .ok (.istore 4, 2) := by decide +kernel
theorem dX7_layKept_20 : decode cX7_layKept 20 = .ok (.iload 4, 2) := by decide +kernel
theorem dX7_layKept_22 : decode cX7_layKept 22 = .ok (.aload_n 0, 1) := by decide +kernel
theorem dX7_layKept_23 : decode cX7_layKept 23 = .ok (.getfield 7, 3) := by decide +kernel
theorem dX7_layKept_26 : decode cX7_layKept 26 = .ok (.iload_n 1, 1) := by decide +kernel
theorem dX7_layKept_27 : decode cX7_layKept 27 = .ok (.iaload, 1) := by decide +kernel
theorem dX7_layKept_28 : decode cX7_layKept 28 = .ok (.if_icmp .ge 164, 3) := by decide +kernel
theorem dX7_layKept_31 : decode cX7_layKept 31 = .ok (.iload 4, 2) := by decide +kernel
theorem dX7_layKept_33 : decode cX7_layKept 33 = .ok (.iconst 1, 1) := by decide +kernel
theorem dX7_layKept_34 : decode cX7_layKept 34 = .ok (.iadd, 1) := by decide +kernel
theorem dX7_layKept_35 : decode cX7_layKept 35 = .ok (.istore 5, 2) := by decide +kernel
theorem dX7_layKept_37 : decode cX7_layKept 37 = .ok (.iload 5, 2) := by decide +kernel
theorem dX7_layKept_39 : decode cX7_layKept 39 = .ok (.aload_n 0, 1) := by decide +kernel
theorem dX7_layKept_40 : decode cX7_layKept 40 = .ok (.getfield 7, 3) := by decide +kernel
theorem dX7_layKept_43 : decode cX7_layKept 43 = .ok (.iload_n 1, 1) := by decide +kernel
theorem dX7_layKept_44 : decode cX7_layKept 44 = .ok (.iaload, 1) := by decide +kernel
theorem dX7_layKept_45 : decode cX7_layKept 45 = .ok (.if_icmp .ge 141, 3) := by decide +kernel
theorem dX7_layKept_48 : decode cX7_layKept 48 = .ok (.aload_n 0, 1) := by decide +kernel
theorem dX7_layKept_49 : decode cX7_layKept 49 = .ok (.iload_n 1, 1) := by decide +kernel
theorem dX7_layKept_50 : decode cX7_layKept 50 = .ok (.iload 4, 2) := by decide +kernel
theorem dX7_layKept_52 : decode cX7_layKept 52 = .ok (.iload 5, 2) := by decide +kernel
theorem dX7_layKept_54 : decode cX7_layKept 54 = .ok (.invokevirtual 182, 3) := by decide +kernel
theorem dX7_layKept_57 : decode cX7_layKept 57 = .ok (.ifCond .eq 50, 3) := by decide +kernel
theorem dX7_layKept_60 : decode cX7_layKept 60 = .ok (.aload_n 0, 1) := by decide +kernel
theorem dX7_layKept_61 : decode cX7_layKept 61 = .ok (.getfield 13, 3) := by decide +kernel
theorem dX7_layKept_64 : decode cX7_layKept 64 = .ok (.bipush 20, 2) := by decide +kernel
theorem dX7_layKept_66 : decode cX7_layKept 66 = .ok (.iload_n 1, 1) := by decide +kernel
theorem dX7_layKept_67 : decode cX7_layKept 67 = .ok (.imul, 1) := by decide +kernel
theorem dX7_layKept_68 : decode cX7_layKept 68 = .ok (.iload 5, 2) := by decide +kernel
theorem dX7_layKept_70 : decode cX7_layKept 70 = .ok (.iadd, 1) := by decide +kernel
theorem dX7_layKept_71 : decode cX7_layKept 71 = .ok (.baload, 1) := by decide +kernel
theorem dX7_layKept_72 : decode cX7_layKept 72 = .ok (.ifCond .eq 31, 3) := by decide +kernel
theorem dX7_layKept_75 : decode cX7_layKept 75 = .ok (.aload_n 0, 1) := by decide +kernel
theorem dX7_layKept_76 : decode cX7_layKept 76 = .ok (.getfield 13, 3) := by decide +kernel
theorem dX7_layKept_79 : decode cX7_layKept 79 = .ok (.bipush 20, 2) := by decide +kernel
theorem dX7_layKept_81 : decode cX7_layKept 81 = .ok (.iload_n 1, 1) := by decide +kernel
theorem dX7_layKept_82 : decode cX7_layKept 82 = .ok (.imul, 1) := by decide +kernel
theorem dX7_layKept_83 : decode cX7_layKept 83 = .ok (.iload 4, 2) := by decide +kernel
theorem dX7_layKept_85 : decode cX7_layKept 85 = .ok (.iadd, 1) := by decide +kernel
theorem dX7_layKept_86 : decode cX7_layKept 86 = .ok (.baload, 1) := by decide +kernel
theorem dX7_layKept_87 : decode cX7_layKept 87 = .ok (.ifCond .eq 20, 3) := by decide +kernel
theorem dX7_layKept_90 : decode cX7_layKept 90 = .ok (.aload_n 0, 1) := by decide +kernel
theorem dX7_layKept_91 : decode cX7_layKept 91 = .ok (.iload_n 1, 1) := by decide +kernel
theorem dX7_layKept_92 : decode cX7_layKept 92 = .ok (.iload_n 2, 1) := by decide +kernel
theorem dX7_layKept_93 : decode cX7_layKept 93 = .ok (.iload 4, 2) := by decide +kernel
theorem dX7_layKept_95 : decode cX7_layKept 95 = .ok (.iload 5, 2) := by decide +kernel
theorem dX7_layKept_97 : decode cX7_layKept 97 = .ok (.invokevirtual 189, 3) := by decide +kernel
theorem dX7_layKept_100 : decode cX7_layKept 100 = .ok (.ifCond .eq 7, 3) := by decide +kernel
theorem dX7_layKept_103 : decode cX7_layKept 103 = .ok (.iconst 1, 1) := by decide +kernel
theorem dX7_layKept_104 : decode cX7_layKept 104 = .ok (.goto 4, 3) := by decide +kernel
theorem dX7_layKept_107 : decode cX7_layKept 107 = .ok (.iconst 0, 1) := by decide +kernel
theorem dX7_layKept_108 : decode cX7_layKept 108 = .ok (.istore 6, 2) := by decide +kernel
theorem dX7_layKept_110 : decode cX7_layKept 110 = .ok (.iload_n 3, 1) := by decide +kernel
theorem dX7_layKept_111 : decode cX7_layKept 111 = .ok (.ifCond .ne 24, 3) := by decide +kernel
theorem dX7_layKept_114 : decode cX7_layKept 114 = .ok (.iload 6, 2) := by decide +kernel
theorem dX7_layKept_116 : decode cX7_layKept 116 = .ok (.ifCond .eq 23, 3) := by decide +kernel
theorem dX7_layKept_119 : decode cX7_layKept 119 = .ok (.aload_n 0, 1) := by decide +kernel
theorem dX7_layKept_120 : decode cX7_layKept 120 = .ok (.getfield 53, 3) := by decide +kernel
theorem dX7_layKept_123 : decode cX7_layKept 123 = .ok (.bipush 20, 2) := by decide +kernel
theorem dX7_layKept_125 : decode cX7_layKept 125 = .ok (.iload 4, 2) := by decide +kernel
theorem dX7_layKept_127 : decode cX7_layKept 127 = .ok (.imul, 1) := by decide +kernel
theorem dX7_layKept_128 : decode cX7_layKept 128 = .ok (.iload 5, 2) := by decide +kernel
theorem dX7_layKept_130 : decode cX7_layKept 130 = .ok (.iadd, 1) := by decide +kernel
theorem dX7_layKept_131 : decode cX7_layKept 131 = .ok (.baload, 1) := by decide +kernel
theorem dX7_layKept_132 : decode cX7_layKept 132 = .ok (.ifCond .ne 7, 3) := by decide +kernel
theorem dX7_layKept_135 : decode cX7_layKept 135 = .ok (.iconst 1, 1) := by decide +kernel
theorem dX7_layKept_136 : decode cX7_layKept 136 = .ok (.goto 4, 3) := by decide +kernel
theorem dX7_layKept_139 : decode cX7_layKept 139 = .ok (.iconst 0, 1) := by decide +kernel
theorem dX7_layKept_140 : decode cX7_layKept 140 = .ok (.istore_n 3, 1) := by decide +kernel
theorem dX7_layKept_141 : decode cX7_layKept 141 = .ok (.aload_n 0, 1) := by decide +kernel
theorem dX7_layKept_142 : decode cX7_layKept 142 = .ok (.getfield 53, 3) := by decide +kernel
theorem dX7_layKept_145 : decode cX7_layKept 145 = .ok (.bipush 20, 2) := by decide +kernel
theorem dX7_layKept_147 : decode cX7_layKept 147 = .ok (.iload 4, 2) := by decide +kernel
theorem dX7_layKept_149 : decode cX7_layKept 149 = .ok (.imul, 1) := by decide +kernel
theorem dX7_layKept_150 : decode cX7_layKept 150 = .ok (.iload 5, 2) := by decide +kernel
theorem dX7_layKept_152 : decode cX7_layKept 152 = .ok (.iadd, 1) := by decide +kernel
theorem dX7_layKept_153 : decode cX7_layKept 153 = .ok (.aload_n 0, 1) := by decide +kernel
theorem dX7_layKept_154 : decode cX7_layKept 154 = .ok (.getfield 53, 3) := by decide +kernel
theorem dX7_layKept_157 : decode cX7_layKept 157 = .ok (.bipush 20, 2) := by decide +kernel
theorem dX7_layKept_159 : decode cX7_layKept 159 = .ok (.iload 4, 2) := by decide +kernel
theorem dX7_layKept_161 : decode cX7_layKept 161 = .ok (.imul, 1) := by decide +kernel
theorem dX7_layKept_162 : decode cX7_layKept 162 = .ok (.iload 5, 2) := by decide +kernel
theorem dX7_layKept_164 : decode cX7_layKept 164 = .ok (.iadd, 1) := by decide +kernel
theorem dX7_layKept_165 : decode cX7_layKept 165 = .ok (.baload, 1) := by decide +kernel
theorem dX7_layKept_166 : decode cX7_layKept 166 = .ok (.ifCond .ne 8, 3) := by decide +kernel
theorem dX7_layKept_169 : decode cX7_layKept 169 = .ok (.iload 6, 2) := by decide +kernel
theorem dX7_layKept_171 : decode cX7_layKept 171 = .ok (.ifCond .eq 7, 3) := by decide +kernel
theorem dX7_layKept_174 : decode cX7_layKept 174 = .ok (.iconst 1, 1) := by decide +kernel
theorem dX7_layKept_175 : decode cX7_layKept 175 = .ok (.goto 4, 3) := by decide +kernel
theorem dX7_layKept_178 : decode cX7_layKept 178 = .ok (.iconst 0, 1) := by decide +kernel
theorem dX7_layKept_179 : decode cX7_layKept 179 = .ok (.bastore, 1) := by decide +kernel
theorem dX7_layKept_180 : decode cX7_layKept 180 = .ok (.iinc 5 1, 3) := by decide +kernel
theorem dX7_layKept_183 : decode cX7_layKept 183 = .ok (.goto (-146), 3) := by decide +kernel
theorem dX7_layKept_186 : decode cX7_layKept 186 = .ok (.iinc 4 1, 3) := by decide +kernel
theorem dX7_layKept_189 : decode cX7_layKept 189 = .ok (.goto (-169), 3) := by decide +kernel
theorem dX7_layKept_192 : decode cX7_layKept 192 = .ok (.aload_n 0, 1) := by decide +kernel
theorem dX7_layKept_193 : decode cX7_layKept 193 = .ok (.aload_n 0, 1) := by decide +kernel
theorem dX7_layKept_194 : decode cX7_layKept 194 = .ok (.getfield 7, 3) := by decide +kernel
theorem dX7_layKept_197 : decode cX7_layKept 197 = .ok (.iload_n 1, 1) := by decide +kernel
theorem dX7_layKept_198 : decode cX7_layKept 198 = .ok (.iaload, 1) := by decide +kernel
theorem dX7_layKept_199 : decode cX7_layKept 199 = .ok (.invokevirtual 186, 3) := by decide +kernel
theorem dX7_layKept_202 : decode cX7_layKept 202 = .ok (.goto (-191), 3) := by decide +kernel
theorem dX7_layKept_205 : decode cX7_layKept 205 = .ok (.return_, 1) := by decide +kernel
def tbX7_layKept (pc : Nat) : dt_T := cond (Nat.ble pc 93) (cond (Nat.ble pc 44) (cond (Nat.ble pc 20) (cond (Nat.ble pc 10) (cond (Nat.ble pc 4) (cond (Nat.ble pc 0) (cond (Nat.beq pc 0) (tc_ldA 0 1) tc_no) (cond (Nat.ble pc 1) (cond (Nat.beq pc 1) (tc_callV 7 mX7_clearAhead 0 4) tc_no) (cond (Nat.beq pc 4) (tc_ldA 0 5) tc_no))) (cond (Nat.ble pc 6) (cond (Nat.ble pc 5) (cond (Nat.beq pc 5) (tc_ldI 1 6) tc_no) (cond (Nat.beq pc 6) (tc_callV 7 mX7_layMates 1 9) tc_no)) (cond (Nat.ble pc 9) (cond (Nat.beq pc 9) (tc_ic 1 10) tc_no) (cond (Nat.beq pc 10) (tc_stI 3 11) tc_no)))) (cond (Nat.ble pc 15) (cond (Nat.ble pc 11) (cond (Nat.beq pc 11) (tc_ldI 3 12) tc_no) (cond (Nat.ble pc 12) (cond (Nat.beq pc 12) (tc_ifeq 205 15) tc_no) (cond (Nat.beq pc 15) (tc_ic 0 16) tc_no))) (cond (Nat.ble pc 17) (cond (Nat.ble pc 16) (cond (Nat.beq pc 16) (tc_stI 3 17) tc_no) (cond (Nat.beq pc 17) (tc_ic 0 18) tc_no)) (cond (Nat.ble pc 18) (cond (Nat.beq pc 18) (tc_stI 4 20) tc_no) (cond (Nat.beq pc 20) (tc_ldI 4 22) tc_no))))) (cond (Nat.ble pc 33) (cond (Nat.ble pc 26) (cond (Nat.ble pc 22) (cond (Nat.beq pc 22) (tc_ldA 0 23) tc_no) (cond (Nat.ble pc 23) (cond (Nat.beq pc 23) (tc_getf 7 0 26) tc_no) (cond (Nat.beq pc 26) (tc_ldI 1 27) tc_no))) (cond (Nat.ble pc 28) (cond (Nat.ble pc 27) (cond (Nat.beq pc 27) (tc_iald 28) tc_no) (cond (Nat.beq pc 28) (tc_icmpge 192 31) tc_no)) (cond (Nat.ble pc 31) (cond (Nat.beq pc 31) (tc_ldI 4 33) tc_no) (cond (Nat.beq pc 33) (tc_ic 1 34) tc_no)))) (cond (Nat.ble pc 37) (cond (Nat.ble pc 34) (cond (Nat.beq pc 34) (tc_iadd 35) tc_no) (cond (Nat.ble pc 35) (cond (Nat.beq pc 35) (tc_stI 5 37) tc_no) (cond (Nat.beq pc 37) (tc_ldI 5 39) tc_no))) (cond (Nat.ble pc 40) (cond (Nat.ble pc 39) (cond (Nat.beq pc 39) (tc_ldA 0 40) tc_no) (cond (Nat.beq pc 40) (tc_getf 7 0 43) tc_no)) (cond (Nat.ble pc 43) (cond (Nat.beq pc 43) (tc_ldI 1 44) tc_no) (cond (Nat.beq pc 44) (tc_iald 45) tc_no)))))) (cond (Nat.ble pc 70) (cond (Nat.ble pc 57) (cond (Nat.ble pc 49) (cond (Nat.ble pc 45) (cond (Nat.beq pc 45) (tc_icmpge 186 48) tc_no) (cond (Nat.ble pc 48) (cond (Nat.beq pc 48) (tc_ldA 0 49) tc_no) (cond (Nat.beq pc 49) (tc_ldI 1 50) tc_no))) (cond (Nat.ble pc 52) (cond (Nat.ble pc 50) (cond (Nat.beq pc 50) (tc_ldI 4 52) tc_no) (cond (Nat.beq pc 52) (tc_ldI 5 54) tc_no)) (cond (Nat.ble pc 54) (cond (Nat.beq pc 54) (tc_callV 7 mX7_onOneLine 3 57) tc_no) (cond (Nat.beq pc 57) (tc_ifeq 107 60) tc_no)))) (cond (Nat.ble pc 64) (cond (Nat.ble pc 60) (cond (Nat.beq pc 60) (tc_ldA 0 61) tc_no) (cond (Nat.ble pc 61) (cond (Nat.beq pc 61) (tc_getf 7 1 64) tc_no) (cond (Nat.beq pc 64) (tc_ic 20 66) tc_no))) (cond (Nat.ble pc 67) (cond (Nat.ble pc 66) (cond (Nat.beq pc 66) (tc_ldI 1 67) tc_no) (cond (Nat.beq pc 67) (tc_imul 68) tc_no)) (cond (Nat.ble pc 68) (cond (Nat.beq pc 68) (tc_ldI 5 70) tc_no) (cond (Nat.beq pc 70) (tc_iadd 71) tc_no))))) (cond (Nat.ble pc 82) (cond (Nat.ble pc 75) (cond (Nat.ble pc 71) (cond (Nat.beq pc 71) (tc_zald 72) tc_no) (cond (Nat.ble pc 72) (cond (Nat.beq pc 72) (tc_ifeq 103 75) tc_no) (cond (Nat.beq pc 75) (tc_ldA 0 76) tc_no))) (cond (Nat.ble pc 79) (cond (Nat.ble pc 76) (cond (Nat.beq pc 76) (tc_getf 7 1 79) tc_no) (cond (Nat.beq pc 79) (tc_ic 20 81) tc_no)) (cond (Nat.ble pc 81) (cond (Nat.beq pc 81) (tc_ldI 1 82) tc_no) (cond (Nat.beq pc 82) (tc_imul 83) tc_no)))) (cond (Nat.ble pc 87) (cond (Nat.ble pc 85) (cond (Nat.ble pc 83) (cond (Nat.beq pc 83) (tc_ldI 4 85) tc_no) (cond (Nat.beq pc 85) (tc_iadd 86) tc_no)) (cond (Nat.ble pc 86) (cond (Nat.beq pc 86) (tc_zald 87) tc_no) (cond (Nat.beq pc 87) (tc_ifeq 107 90) tc_no))) (cond (Nat.ble pc 91) (cond (Nat.ble pc 90) (cond (Nat.beq pc 90) (tc_ldA 0 91) tc_no) (cond (Nat.beq pc 91) (tc_ldI 1 92) tc_no)) (cond (Nat.ble pc 92) (cond (Nat.beq pc 92) (tc_ldI 2 93) tc_no) (cond (Nat.beq pc 93) (tc_ldI 4 95) tc_no))))))) (cond (Nat.ble pc 149) (cond (Nat.ble pc 123) (cond (Nat.ble pc 108) (cond (Nat.ble pc 100) (cond (Nat.ble pc 95) (cond (Nat.beq pc 95) (tc_ldI 5 97) tc_no) (cond (Nat.ble pc 97) (cond (Nat.beq pc 97) (tc_callV 7 mX7_isKeptTake 4 100) tc_no) (cond (Nat.beq pc 100) (tc_ifeq 107 103) tc_no))) (cond (Nat.ble pc 104) (cond (Nat.ble pc 103) (cond (Nat.beq pc 103) (tc_ic 1 104) tc_no) (cond (Nat.beq pc 104) (tc_goto 108) tc_no)) (cond (Nat.ble pc 107) (cond (Nat.beq pc 107) (tc_ic 0 108) tc_no) (cond (Nat.beq pc 108) (tc_stI 6 110) tc_no)))) (cond (Nat.ble pc 114) (cond (Nat.ble pc 110) (cond (Nat.beq pc 110) (tc_ldI 3 111) tc_no) (cond (Nat.ble pc 111) (cond (Nat.beq pc 111) (tc_ifne 135 114) tc_no) (cond (Nat.beq pc 114) (tc_ldI 6 116) tc_no))) (cond (Nat.ble pc 119) (cond (Nat.ble pc 116) (cond (Nat.beq pc 116) (tc_ifeq 139 119) tc_no) (cond (Nat.beq pc 119) (tc_ldA 0 120) tc_no)) (cond (Nat.ble pc 120) (cond (Nat.beq pc 120) (tc_getf 7 21 123) tc_no) (cond (Nat.beq pc 123) (tc_ic 20 125) tc_no))))) (cond (Nat.ble pc 135) (cond (Nat.ble pc 128) (cond (Nat.ble pc 125) (cond (Nat.beq pc 125) (tc_ldI 4 127) tc_no) (cond (Nat.ble pc 127) (cond (Nat.beq pc 127) (tc_imul 128) tc_no) (cond (Nat.beq pc 128) (tc_ldI 5 130) tc_no))) (cond (Nat.ble pc 131) (cond (Nat.ble pc 130) (cond (Nat.beq pc 130) (tc_iadd 131) tc_no) (cond (Nat.beq pc 131) (tc_zald 132) tc_no)) (cond (Nat.ble pc 132) (cond (Nat.beq pc 132) (tc_ifne 139 135) tc_no) (cond (Nat.beq pc 135) (tc_ic 1 136) tc_no)))) (cond (Nat.ble pc 141) (cond (Nat.ble pc 139) (cond (Nat.ble pc 136) (cond (Nat.beq pc 136) (tc_goto 140) tc_no) (cond (Nat.beq pc 139) (tc_ic 0 140) tc_no)) (cond (Nat.ble pc 140) (cond (Nat.beq pc 140) (tc_stI 3 141) tc_no) (cond (Nat.beq pc 141) (tc_ldA 0 142) tc_no))) (cond (Nat.ble pc 145) (cond (Nat.ble pc 142) (cond (Nat.beq pc 142) (tc_getf 7 21 145) tc_no) (cond (Nat.beq pc 145) (tc_ic 20 147) tc_no)) (cond (Nat.ble pc 147) (cond (Nat.beq pc 147) (tc_ldI 4 149) tc_no) (cond (Nat.beq pc 149) (tc_imul 150) tc_no)))))) (cond (Nat.ble pc 174) (cond (Nat.ble pc 161) (cond (Nat.ble pc 153) (cond (Nat.ble pc 150) (cond (Nat.beq pc 150) (tc_ldI 5 152) tc_no) (cond (Nat.ble pc 152) (cond (Nat.beq pc 152) (tc_iadd 153) tc_no) (cond (Nat.beq pc 153) (tc_ldA 0 154) tc_no))) (cond (Nat.ble pc 157) (cond (Nat.ble pc 154) (cond (Nat.beq pc 154) (tc_getf 7 21 157) tc_no) (cond (Nat.beq pc 157) (tc_ic 20 159) tc_no)) (cond (Nat.ble pc 159) (cond (Nat.beq pc 159) (tc_ldI 4 161) tc_no) (cond (Nat.beq pc 161) (tc_imul 162) tc_no)))) (cond (Nat.ble pc 165) (cond (Nat.ble pc 162) (cond (Nat.beq pc 162) (tc_ldI 5 164) tc_no) (cond (Nat.ble pc 164) (cond (Nat.beq pc 164) (tc_iadd 165) tc_no) (cond (Nat.beq pc 165) (tc_zald 166) tc_no))) (cond (Nat.ble pc 169) (cond (Nat.ble pc 166) (cond (Nat.beq pc 166) (tc_ifne 174 169) tc_no) (cond (Nat.beq pc 169) (tc_ldI 6 171) tc_no)) (cond (Nat.ble pc 171) (cond (Nat.beq pc 171) (tc_ifeq 178 174) tc_no) (cond (Nat.beq pc 174) (tc_ic 1 175) tc_no))))) (cond (Nat.ble pc 189) (cond (Nat.ble pc 179) (cond (Nat.ble pc 175) (cond (Nat.beq pc 175) (tc_goto 179) tc_no) (cond (Nat.ble pc 178) (cond (Nat.beq pc 178) (tc_ic 0 179) tc_no) (cond (Nat.beq pc 179) (tc_zast 180) tc_no))) (cond (Nat.ble pc 183) (cond (Nat.ble pc 180) (cond (Nat.beq pc 180) (tc_iinc 5 1 183) tc_no) (cond (Nat.beq pc 183) (tc_goto 37) tc_no)) (cond (Nat.ble pc 186) (cond (Nat.beq pc 186) (tc_iinc 4 1 189) tc_no) (cond (Nat.beq pc 189) (tc_goto 20) tc_no)))) (cond (Nat.ble pc 197) (cond (Nat.ble pc 193) (cond (Nat.ble pc 192) (cond (Nat.beq pc 192) (tc_ldA 0 193) tc_no) (cond (Nat.beq pc 193) (tc_ldA 0 194) tc_no)) (cond (Nat.ble pc 194) (cond (Nat.beq pc 194) (tc_getf 7 0 197) tc_no) (cond (Nat.beq pc 197) (tc_ldI 1 198) tc_no))) (cond (Nat.ble pc 199) (cond (Nat.ble pc 198) (cond (Nat.beq pc 198) (tc_iald 199) tc_no) (cond (Nat.beq pc 199) (tc_callV 7 mX7_closeAhead 1 202) tc_no)) (cond (Nat.ble pc 202) (cond (Nat.beq pc 202) (tc_goto 11) tc_no) (cond (Nat.beq pc 205) (tc_ret) tc_no)))))))
theorem okX7_layKept : ∀ pc, dt_S mX7_layKept (tbX7_layKept pc) pc := by
  intro pc
  unfold tbX7_layKept
  exact dt_Sb (dt_Sb (dt_Sb (dt_Sb (dt_Sb (dt_Sb (dt_Sl 0 (sn_ldAn rfl dX7_layKept_0 rfl)) (dt_Sb (dt_Sl 1 (sn_callV rfl ffX7 nnX7_clearAhead rfl wq_4_91 wq_4_93 wq_0_37 dX7_layKept_1 rfl)) (dt_Sl 4 (sn_ldAn rfl dX7_layKept_4 rfl)))) (dt_Sb (dt_Sb (dt_Sl 5 (sn_ldIn rfl dX7_layKept_5 rfl)) (dt_Sl 6 (sn_callV rfl ffX7 nnX7_layMates rfl wq_4_95 wq_4_97 wq_0_38 dX7_layKept_6 rfl))) (dt_Sb (dt_Sl 9 (sn_ic ⟨by decide, by decide⟩ dX7_layKept_9 rfl)) (dt_Sl 10 (sn_stIn rfl (by decide) dX7_layKept_10 rfl))))) (dt_Sb (dt_Sb (dt_Sl 11 (sn_ldIn rfl dX7_layKept_11 rfl)) (dt_Sb (dt_Sl 12 (sn_ifeq dX7_layKept_12 (by decide) rfl)) (dt_Sl 15 (sn_ic ⟨by decide, by decide⟩ dX7_layKept_15 rfl)))) (dt_Sb (dt_Sb (dt_Sl 16 (sn_stIn rfl (by decide) dX7_layKept_16 rfl)) (dt_Sl 17 (sn_ic ⟨by decide, by decide⟩ dX7_layKept_17 rfl))) (dt_Sb (dt_Sl 18 (sn_stI (by decide) dX7_layKept_18 rfl)) (dt_Sl 20 (sn_ldI dX7_layKept_20 rfl)))))) (dt_Sb (dt_Sb (dt_Sb (dt_Sl 22 (sn_ldAn rfl dX7_layKept_22 rfl)) (dt_Sb (dt_Sl 23 (sn_getf rfl ffX7 (by decide) wq_3_137 dX7_layKept_23 rfl)) (dt_Sl 26 (sn_ldIn rfl dX7_layKept_26 rfl)))) (dt_Sb (dt_Sb (dt_Sl 27 (sn_iald dX7_layKept_27 rfl)) (dt_Sl 28 (sn_icmpge dX7_layKept_28 (by decide) rfl))) (dt_Sb (dt_Sl 31 (sn_ldI dX7_layKept_31 rfl)) (dt_Sl 33 (sn_ic ⟨by decide, by decide⟩ dX7_layKept_33 rfl))))) (dt_Sb (dt_Sb (dt_Sl 34 (sn_iadd dX7_layKept_34 rfl)) (dt_Sb (dt_Sl 35 (sn_stI (by decide) dX7_layKept_35 rfl)) (dt_Sl 37 (sn_ldI dX7_layKept_37 rfl)))) (dt_Sb (dt_Sb (dt_Sl 39 (sn_ldAn rfl dX7_layKept_39 rfl)) (dt_Sl 40 (sn_getf rfl ffX7 (by decide) wq_3_137 dX7_layKept_40 rfl))) (dt_Sb (dt_Sl 43 (sn_ldIn rfl dX7_layKept_43 rfl)) (dt_Sl 44 (sn_iald dX7_layKept_44 rfl))))))) (dt_Sb (dt_Sb (dt_Sb (dt_Sb (dt_Sl 45 (sn_icmpge dX7_layKept_45 (by decide) rfl)) (dt_Sb (dt_Sl 48 (sn_ldAn rfl dX7_layKept_48 rfl)) (dt_Sl 49 (sn_ldIn rfl dX7_layKept_49 rfl)))) (dt_Sb (dt_Sb (dt_Sl 50 (sn_ldI dX7_layKept_50 rfl)) (dt_Sl 52 (sn_ldI dX7_layKept_52 rfl))) (dt_Sb (dt_Sl 54 (sn_callV rfl ffX7 nnX7_onOneLine rfl wq_4_99 wq_4_101 wq_0_39 dX7_layKept_54 rfl)) (dt_Sl 57 (sn_ifeq dX7_layKept_57 (by decide) rfl))))) (dt_Sb (dt_Sb (dt_Sl 60 (sn_ldAn rfl dX7_layKept_60 rfl)) (dt_Sb (dt_Sl 61 (sn_getf rfl ffX7 (by decide) wq_3_138 dX7_layKept_61 rfl)) (dt_Sl 64 (sn_bi ⟨by decide, by decide⟩ rfl dX7_layKept_64 rfl)))) (dt_Sb (dt_Sb (dt_Sl 66 (sn_ldIn rfl dX7_layKept_66 rfl)) (dt_Sl 67 (sn_imul dX7_layKept_67 rfl))) (dt_Sb (dt_Sl 68 (sn_ldI dX7_layKept_68 rfl)) (dt_Sl 70 (sn_iadd dX7_layKept_70 rfl)))))) (dt_Sb (dt_Sb (dt_Sb (dt_Sl 71 (sn_zald dX7_layKept_71 rfl)) (dt_Sb (dt_Sl 72 (sn_ifeq dX7_layKept_72 (by decide) rfl)) (dt_Sl 75 (sn_ldAn rfl dX7_layKept_75 rfl)))) (dt_Sb (dt_Sb (dt_Sl 76 (sn_getf rfl ffX7 (by decide) wq_3_138 dX7_layKept_76 rfl)) (dt_Sl 79 (sn_bi ⟨by decide, by decide⟩ rfl dX7_layKept_79 rfl))) (dt_Sb (dt_Sl 81 (sn_ldIn rfl dX7_layKept_81 rfl)) (dt_Sl 82 (sn_imul dX7_layKept_82 rfl))))) (dt_Sb (dt_Sb (dt_Sb (dt_Sl 83 (sn_ldI dX7_layKept_83 rfl)) (dt_Sl 85 (sn_iadd dX7_layKept_85 rfl))) (dt_Sb (dt_Sl 86 (sn_zald dX7_layKept_86 rfl)) (dt_Sl 87 (sn_ifeq dX7_layKept_87 (by decide) rfl)))) (dt_Sb (dt_Sb (dt_Sl 90 (sn_ldAn rfl dX7_layKept_90 rfl)) (dt_Sl 91 (sn_ldIn rfl dX7_layKept_91 rfl))) (dt_Sb (dt_Sl 92 (sn_ldIn rfl dX7_layKept_92 rfl)) (dt_Sl 93 (sn_ldI dX7_layKept_93 rfl)))))))) (dt_Sb (dt_Sb (dt_Sb (dt_Sb (dt_Sb (dt_Sl 95 (sn_ldI dX7_layKept_95 rfl)) (dt_Sb (dt_Sl 97 (sn_callV rfl ffX7 nnX7_isKeptTake rfl wq_4_115 wq_4_117 wq_0_42 dX7_layKept_97 rfl)) (dt_Sl 100 (sn_ifeq dX7_layKept_100 (by decide) rfl)))) (dt_Sb (dt_Sb (dt_Sl 103 (sn_ic ⟨by decide, by decide⟩ dX7_layKept_103 rfl)) (dt_Sl 104 (sn_goto dX7_layKept_104 (by decide)))) (dt_Sb (dt_Sl 107 (sn_ic ⟨by decide, by decide⟩ dX7_layKept_107 rfl)) (dt_Sl 108 (sn_stI (by decide) dX7_layKept_108 rfl))))) (dt_Sb (dt_Sb (dt_Sl 110 (sn_ldIn rfl dX7_layKept_110 rfl)) (dt_Sb (dt_Sl 111 (sn_ifne dX7_layKept_111 (by decide) rfl)) (dt_Sl 114 (sn_ldI dX7_layKept_114 rfl)))) (dt_Sb (dt_Sb (dt_Sl 116 (sn_ifeq dX7_layKept_116 (by decide) rfl)) (dt_Sl 119 (sn_ldAn rfl dX7_layKept_119 rfl))) (dt_Sb (dt_Sl 120 (sn_getf rfl ffX7 (by decide) wq_3_158 dX7_layKept_120 rfl)) (dt_Sl 123 (sn_bi ⟨by decide, by decide⟩ rfl dX7_layKept_123 rfl)))))) (dt_Sb (dt_Sb (dt_Sb (dt_Sl 125 (sn_ldI dX7_layKept_125 rfl)) (dt_Sb (dt_Sl 127 (sn_imul dX7_layKept_127 rfl)) (dt_Sl 128 (sn_ldI dX7_layKept_128 rfl)))) (dt_Sb (dt_Sb (dt_Sl 130 (sn_iadd dX7_layKept_130 rfl)) (dt_Sl 131 (sn_zald dX7_layKept_131 rfl))) (dt_Sb (dt_Sl 132 (sn_ifne dX7_layKept_132 (by decide) rfl)) (dt_Sl 135 (sn_ic ⟨by decide, by decide⟩ dX7_layKept_135 rfl))))) (dt_Sb (dt_Sb (dt_Sb (dt_Sl 136 (sn_goto dX7_layKept_136 (by decide))) (dt_Sl 139 (sn_ic ⟨by decide, by decide⟩ dX7_layKept_139 rfl))) (dt_Sb (dt_Sl 140 (sn_stIn rfl (by decide) dX7_layKept_140 rfl)) (dt_Sl 141 (sn_ldAn rfl dX7_layKept_141 rfl)))) (dt_Sb (dt_Sb (dt_Sl 142 (sn_getf rfl ffX7 (by decide) wq_3_158 dX7_layKept_142 rfl)) (dt_Sl 145 (sn_bi ⟨by decide, by decide⟩ rfl dX7_layKept_145 rfl))) (dt_Sb (dt_Sl 147 (sn_ldI dX7_layKept_147 rfl)) (dt_Sl 149 (sn_imul dX7_layKept_149 rfl))))))) (dt_Sb (dt_Sb (dt_Sb (dt_Sb (dt_Sl 150 (sn_ldI dX7_layKept_150 rfl)) (dt_Sb (dt_Sl 152 (sn_iadd dX7_layKept_152 rfl)) (dt_Sl 153 (sn_ldAn rfl dX7_layKept_153 rfl)))) (dt_Sb (dt_Sb (dt_Sl 154 (sn_getf rfl ffX7 (by decide) wq_3_158 dX7_layKept_154 rfl)) (dt_Sl 157 (sn_bi ⟨by decide, by decide⟩ rfl dX7_layKept_157 rfl))) (dt_Sb (dt_Sl 159 (sn_ldI dX7_layKept_159 rfl)) (dt_Sl 161 (sn_imul dX7_layKept_161 rfl))))) (dt_Sb (dt_Sb (dt_Sl 162 (sn_ldI dX7_layKept_162 rfl)) (dt_Sb (dt_Sl 164 (sn_iadd dX7_layKept_164 rfl)) (dt_Sl 165 (sn_zald dX7_layKept_165 rfl)))) (dt_Sb (dt_Sb (dt_Sl 166 (sn_ifne dX7_layKept_166 (by decide) rfl)) (dt_Sl 169 (sn_ldI dX7_layKept_169 rfl))) (dt_Sb (dt_Sl 171 (sn_ifeq dX7_layKept_171 (by decide) rfl)) (dt_Sl 174 (sn_ic ⟨by decide, by decide⟩ dX7_layKept_174 rfl)))))) (dt_Sb (dt_Sb (dt_Sb (dt_Sl 175 (sn_goto dX7_layKept_175 (by decide))) (dt_Sb (dt_Sl 178 (sn_ic ⟨by decide, by decide⟩ dX7_layKept_178 rfl)) (dt_Sl 179 (sn_zast dX7_layKept_179 rfl)))) (dt_Sb (dt_Sb (dt_Sl 180 (sn_iinc (by decide) dX7_layKept_180 rfl)) (dt_Sl 183 (sn_goto dX7_layKept_183 (by decide)))) (dt_Sb (dt_Sl 186 (sn_iinc (by decide) dX7_layKept_186 rfl)) (dt_Sl 189 (sn_goto dX7_layKept_189 (by decide)))))) (dt_Sb (dt_Sb (dt_Sb (dt_Sl 192 (sn_ldAn rfl dX7_layKept_192 rfl)) (dt_Sl 193 (sn_ldAn rfl dX7_layKept_193 rfl))) (dt_Sb (dt_Sl 194 (sn_getf rfl ffX7 (by decide) wq_3_137 dX7_layKept_194 rfl)) (dt_Sl 197 (sn_ldIn rfl dX7_layKept_197 rfl)))) (dt_Sb (dt_Sb (dt_Sl 198 (sn_iald dX7_layKept_198 rfl)) (dt_Sl 199 (sn_callV rfl ffX7 nnX7_closeAhead rfl wq_4_103 wq_4_105 wq_0_40 dX7_layKept_199 rfl))) (dt_Sb (dt_Sl 202 (sn_goto dX7_layKept_202 (by decide))) (dt_Sl 205 (sn_ret rfl dX7_layKept_205))))))))
theorem dX7_drawn_0 : decode cX7_drawn 0 = .ok (.aload_n 0, 1) := by decide +kernel
theorem dX7_drawn_1 : decode cX7_drawn 1 = .ok (.iload_n 1, 1) := by decide +kernel
theorem dX7_drawn_2 : decode cX7_drawn 2 = .ok (.iload_n 2, 1) := by decide +kernel
theorem dX7_drawn_3 : decode cX7_drawn 3 = .ok (.invokevirtual 169, 3) := by decide +kernel
theorem dX7_drawn_6 : decode cX7_drawn 6 = .ok (.ifCond .ne 12, 3) := by decide +kernel
theorem dX7_drawn_9 : decode cX7_drawn 9 = .ok (.aload_n 0, 1) := by decide +kernel
theorem dX7_drawn_10 : decode cX7_drawn 10 = .ok (.iload_n 1, 1) := by decide +kernel
theorem dX7_drawn_11 : decode cX7_drawn 11 = .ok (.iload_n 3, 1) := by decide +kernel
theorem dX7_drawn_12 : decode cX7_drawn 12 = .ok (.invokevirtual 169, 3) := by decide +kernel
theorem dX7_drawn_15 : decode cX7_drawn 15 = .ok (.ifCond .eq 5, 3) := by decide +kernel
theorem dX7_drawn_18 : decode cX7_drawn 18 = .ok (.iconst (-1), 1) := by decide +kernel
theorem dX7_drawn_19 : decode cX7_drawn 19 = .ok (.ireturn, 1) := by decide +kernel
theorem dX7_drawn_20 : decode cX7_drawn 20 = .ok (.aload_n 0, 1) := by decide +kernel
theorem dX7_drawn_21 : decode cX7_drawn 21 = .ok (.iload_n 1, 1) := by decide +kernel
theorem dX7_drawn_22 : decode cX7_drawn 22 = .ok (.invokevirtual 193, 3) := by decide +kernel
theorem dX7_drawn_25 : decode cX7_drawn 25 = .ok (.aload_n 0, 1) := by decide +kernel
theorem dX7_drawn_26 : decode cX7_drawn 26 = .ok (.getfield 53, 3) := by decide +kernel
theorem dX7_drawn_29 : decode cX7_drawn 29 = .ok (.bipush 20, 2) := by decide +kernel
theorem dX7_drawn_31 : decode cX7_drawn 31 = .ok (.iload_n 2, 1) := by decide +kernel
theorem dX7_drawn_32 : decode cX7_drawn 32 = .ok (.imul, 1) := by decide +kernel
theorem dX7_drawn_33 : decode cX7_drawn 33 = .ok (.iload_n 3, 1) := by decide +kernel
theorem dX7_drawn_34 : decode cX7_drawn 34 = .ok (.iadd, 1) := by decide +kernel
theorem dX7_drawn_35 : decode cX7_drawn 35 = .ok (.baload, 1) := by decide +kernel
theorem dX7_drawn_36 : decode cX7_drawn 36 = .ok (.ifCond .eq 7, 3) := by decide +kernel
theorem dX7_drawn_39 : decode cX7_drawn 39 = .ok (.iconst 1, 1) := by decide +kernel
theorem dX7_drawn_40 : decode cX7_drawn 40 = .ok (.goto 4, 3) := by decide +kernel
theorem dX7_drawn_43 : decode cX7_drawn 43 = .ok (.iconst 0, 1) := by decide +kernel
theorem dX7_drawn_44 : decode cX7_drawn 44 = .ok (.ireturn, 1) := by decide +kernel
def tbX7_drawn (pc : Nat) : dt_T := cond (Nat.ble pc 21) (cond (Nat.ble pc 10) (cond (Nat.ble pc 2) (cond (Nat.ble pc 0) (cond (Nat.beq pc 0) (tc_ldA 0 1) tc_no) (cond (Nat.ble pc 1) (cond (Nat.beq pc 1) (tc_ldI 1 2) tc_no) (cond (Nat.beq pc 2) (tc_ldI 2 3) tc_no))) (cond (Nat.ble pc 6) (cond (Nat.ble pc 3) (cond (Nat.beq pc 3) (tc_callV 7 mX7_noEvent 2 6) tc_no) (cond (Nat.beq pc 6) (tc_ifne 18 9) tc_no)) (cond (Nat.ble pc 9) (cond (Nat.beq pc 9) (tc_ldA 0 10) tc_no) (cond (Nat.beq pc 10) (tc_ldI 1 11) tc_no)))) (cond (Nat.ble pc 15) (cond (Nat.ble pc 11) (cond (Nat.beq pc 11) (tc_ldI 3 12) tc_no) (cond (Nat.ble pc 12) (cond (Nat.beq pc 12) (tc_callV 7 mX7_noEvent 2 15) tc_no) (cond (Nat.beq pc 15) (tc_ifeq 20 18) tc_no))) (cond (Nat.ble pc 19) (cond (Nat.ble pc 18) (cond (Nat.beq pc 18) (tc_ic (-1) 19) tc_no) (cond (Nat.beq pc 19) (tc_iret) tc_no)) (cond (Nat.ble pc 20) (cond (Nat.beq pc 20) (tc_ldA 0 21) tc_no) (cond (Nat.beq pc 21) (tc_ldI 1 22) tc_no))))) (cond (Nat.ble pc 33) (cond (Nat.ble pc 26) (cond (Nat.ble pc 22) (cond (Nat.beq pc 22) (tc_callV 7 mX7_layDrawn 1 25) tc_no) (cond (Nat.ble pc 25) (cond (Nat.beq pc 25) (tc_ldA 0 26) tc_no) (cond (Nat.beq pc 26) (tc_getf 7 21 29) tc_no))) (cond (Nat.ble pc 31) (cond (Nat.ble pc 29) (cond (Nat.beq pc 29) (tc_ic 20 31) tc_no) (cond (Nat.beq pc 31) (tc_ldI 2 32) tc_no)) (cond (Nat.ble pc 32) (cond (Nat.beq pc 32) (tc_imul 33) tc_no) (cond (Nat.beq pc 33) (tc_ldI 3 34) tc_no)))) (cond (Nat.ble pc 36) (cond (Nat.ble pc 34) (cond (Nat.beq pc 34) (tc_iadd 35) tc_no) (cond (Nat.ble pc 35) (cond (Nat.beq pc 35) (tc_zald 36) tc_no) (cond (Nat.beq pc 36) (tc_ifeq 43 39) tc_no))) (cond (Nat.ble pc 40) (cond (Nat.ble pc 39) (cond (Nat.beq pc 39) (tc_ic 1 40) tc_no) (cond (Nat.beq pc 40) (tc_goto 44) tc_no)) (cond (Nat.ble pc 43) (cond (Nat.beq pc 43) (tc_ic 0 44) tc_no) (cond (Nat.beq pc 44) (tc_iret) tc_no)))))
theorem okX7_drawn : ∀ pc, dt_S mX7_drawn (tbX7_drawn pc) pc := by
  intro pc
  unfold tbX7_drawn
  exact dt_Sb (dt_Sb (dt_Sb (dt_Sb (dt_Sl 0 (sn_ldAn rfl dX7_drawn_0 rfl)) (dt_Sb (dt_Sl 1 (sn_ldIn rfl dX7_drawn_1 rfl)) (dt_Sl 2 (sn_ldIn rfl dX7_drawn_2 rfl)))) (dt_Sb (dt_Sb (dt_Sl 3 (sn_callV rfl ffX7 nnX7_noEvent rfl wq_4_74 wq_4_76 wq_0_35 dX7_drawn_3 rfl)) (dt_Sl 6 (sn_ifne dX7_drawn_6 (by decide) rfl))) (dt_Sb (dt_Sl 9 (sn_ldAn rfl dX7_drawn_9 rfl)) (dt_Sl 10 (sn_ldIn rfl dX7_drawn_10 rfl))))) (dt_Sb (dt_Sb (dt_Sl 11 (sn_ldIn rfl dX7_drawn_11 rfl)) (dt_Sb (dt_Sl 12 (sn_callV rfl ffX7 nnX7_noEvent rfl wq_4_74 wq_4_76 wq_0_35 dX7_drawn_12 rfl)) (dt_Sl 15 (sn_ifeq dX7_drawn_15 (by decide) rfl)))) (dt_Sb (dt_Sb (dt_Sl 18 (sn_ic ⟨by decide, by decide⟩ dX7_drawn_18 rfl)) (dt_Sl 19 (sn_iret rfl dX7_drawn_19))) (dt_Sb (dt_Sl 20 (sn_ldAn rfl dX7_drawn_20 rfl)) (dt_Sl 21 (sn_ldIn rfl dX7_drawn_21 rfl)))))) (dt_Sb (dt_Sb (dt_Sb (dt_Sl 22 (sn_callV rfl ffX7 nnX7_layDrawn rfl wq_4_87 wq_4_89 wq_0_36 dX7_drawn_22 rfl)) (dt_Sb (dt_Sl 25 (sn_ldAn rfl dX7_drawn_25 rfl)) (dt_Sl 26 (sn_getf rfl ffX7 (by decide) wq_3_158 dX7_drawn_26 rfl)))) (dt_Sb (dt_Sb (dt_Sl 29 (sn_bi ⟨by decide, by decide⟩ rfl dX7_drawn_29 rfl)) (dt_Sl 31 (sn_ldIn rfl dX7_drawn_31 rfl))) (dt_Sb (dt_Sl 32 (sn_imul dX7_drawn_32 rfl)) (dt_Sl 33 (sn_ldIn rfl dX7_drawn_33 rfl))))) (dt_Sb (dt_Sb (dt_Sl 34 (sn_iadd dX7_drawn_34 rfl)) (dt_Sb (dt_Sl 35 (sn_zald dX7_drawn_35 rfl)) (dt_Sl 36 (sn_ifeq dX7_drawn_36 (by decide) rfl)))) (dt_Sb (dt_Sb (dt_Sl 39 (sn_ic ⟨by decide, by decide⟩ dX7_drawn_39 rfl)) (dt_Sl 40 (sn_goto dX7_drawn_40 (by decide)))) (dt_Sb (dt_Sl 43 (sn_ic ⟨by decide, by decide⟩ dX7_drawn_43 rfl)) (dt_Sl 44 (sn_iret rfl dX7_drawn_44))))))
theorem dX7_kept_0 : decode cX7_kept 0 = .ok (.iload_n 2, 1) := by decide +kernel
theorem dX7_kept_1 : decode cX7_kept 1 = .ok (.i2l, 1) := by decide +kernel
theorem dX7_kept_2 : decode cX7_kept 2 = .ok (.lconst 0, 1) := by decide +kernel
theorem dX7_kept_3 : decode cX7_kept 3 = .ok (.ldc2_w 167, 3) := by decide +kernel
theorem dX7_kept_6 : decode cX7_kept 6 = .ok (.invokestatic 83, 3) := by decide +kernel
theorem dX7_kept_9 : decode cX7_kept 9 = .ok (.ifCond .eq 22, 3) := by decide +kernel
theorem dX7_kept_12 : decode cX7_kept 12 = .ok (.aload_n 0, 1) := by decide +kernel
theorem dX7_kept_13 : decode cX7_kept 13 = .ok (.iload_n 1, 1) := by decide +kernel
theorem dX7_kept_14 : decode cX7_kept 14 = .ok (.iload_n 3, 1) := by decide +kernel
theorem dX7_kept_15 : decode cX7_kept 15 = .ok (.invokevirtual 169, 3) := by decide +kernel
theorem dX7_kept_18 : decode cX7_kept 18 = .ok (.ifCond .ne 13, 3) := by decide +kernel
theorem dX7_kept_21 : decode cX7_kept 21 = .ok (.aload_n 0, 1) := by decide +kernel
theorem dX7_kept_22 : decode cX7_kept 22 = .ok (.iload_n 1, 1) := by decide +kernel
theorem dX7_kept_23 : decode cX7_kept 23 = .ok (.iload 4, 2) := by decide +kernel
theorem dX7_kept_25 : decode cX7_kept 25 = .ok (.invokevirtual 169, 3) := by decide +kernel
theorem dX7_kept_28 : decode cX7_kept 28 = .ok (.ifCond .eq 5, 3) := by decide +kernel
theorem dX7_kept_31 : decode cX7_kept 31 = .ok (.iconst (-1), 1) := by decide +kernel
theorem dX7_kept_32 : decode cX7_kept 32 = .ok (.ireturn, 1) := by decide +kernel
theorem dX7_kept_33 : decode cX7_kept 33 = .ok (.aload_n 0, 1) := by decide +kernel
theorem dX7_kept_34 : decode cX7_kept 34 = .ok (.iload_n 1, 1) := by decide +kernel
theorem dX7_kept_35 : decode cX7_kept 35 = .ok (.iload_n 2, 1) := by decide +kernel
theorem dX7_kept_36 : decode cX7_kept 36 = .ok (.invokevirtual 196, 3) := by decide +kernel
theorem dX7_kept_39 : decode cX7_kept 39 = .ok (.aload_n 0, 1) := by decide +kernel
theorem dX7_kept_40 : decode cX7_kept 40 = .ok (.getfield 53, 3) := by decide +kernel
theorem dX7_kept_43 : decode cX7_kept 43 = .ok (.bipush 20, 2) := by decide +kernel
theorem dX7_kept_45 : decode cX7_kept 45 = .ok (.iload_n 3, 1) := by decide +kernel
theorem dX7_kept_46 : decode cX7_kept 46 = .ok (.imul, 1) := by decide +kernel
theorem dX7_kept_47 : decode cX7_kept 47 = .ok (.iload 4, 2) := by decide +kernel
theorem dX7_kept_49 : decode cX7_kept 49 = .ok (.iadd, 1) := by decide +kernel
theorem dX7_kept_50 : decode cX7_kept 50 = .ok (.baload, 1) := by decide +kernel
theorem dX7_kept_51 : decode cX7_kept 51 = .ok (.ifCond .eq 7, 3) := by decide +kernel
theorem dX7_kept_54 : decode cX7_kept 54 = .ok (.iconst 1, 1) := by decide +kernel
theorem dX7_kept_55 : decode cX7_kept 55 = .ok (.goto 4, 3) := by decide +kernel
theorem dX7_kept_58 : decode cX7_kept 58 = .ok (.iconst 0, 1) := by decide +kernel
theorem dX7_kept_59 : decode cX7_kept 59 = .ok (.ireturn, 1) := by decide +kernel
def tbX7_kept (pc : Nat) : dt_T := cond (Nat.ble pc 31) (cond (Nat.ble pc 13) (cond (Nat.ble pc 3) (cond (Nat.ble pc 1) (cond (Nat.ble pc 0) (cond (Nat.beq pc 0) (tc_ldI 2 1) tc_no) (cond (Nat.beq pc 1) (tc_i2l 2) tc_no)) (cond (Nat.ble pc 2) (cond (Nat.beq pc 2) (tc_lc 0 3) tc_no) (cond (Nat.beq pc 3) (tc_lc 2 6) tc_no))) (cond (Nat.ble pc 9) (cond (Nat.ble pc 6) (cond (Nat.beq pc 6) (tc_callS mX7_in 3 9) tc_no) (cond (Nat.beq pc 9) (tc_ifeq 31 12) tc_no)) (cond (Nat.ble pc 12) (cond (Nat.beq pc 12) (tc_ldA 0 13) tc_no) (cond (Nat.beq pc 13) (tc_ldI 1 14) tc_no)))) (cond (Nat.ble pc 21) (cond (Nat.ble pc 15) (cond (Nat.ble pc 14) (cond (Nat.beq pc 14) (tc_ldI 3 15) tc_no) (cond (Nat.beq pc 15) (tc_callV 7 mX7_noEvent 2 18) tc_no)) (cond (Nat.ble pc 18) (cond (Nat.beq pc 18) (tc_ifne 31 21) tc_no) (cond (Nat.beq pc 21) (tc_ldA 0 22) tc_no))) (cond (Nat.ble pc 23) (cond (Nat.ble pc 22) (cond (Nat.beq pc 22) (tc_ldI 1 23) tc_no) (cond (Nat.beq pc 23) (tc_ldI 4 25) tc_no)) (cond (Nat.ble pc 25) (cond (Nat.beq pc 25) (tc_callV 7 mX7_noEvent 2 28) tc_no) (cond (Nat.ble pc 28) (cond (Nat.beq pc 28) (tc_ifeq 33 31) tc_no) (cond (Nat.beq pc 31) (tc_ic (-1) 32) tc_no)))))) (cond (Nat.ble pc 45) (cond (Nat.ble pc 35) (cond (Nat.ble pc 33) (cond (Nat.ble pc 32) (cond (Nat.beq pc 32) (tc_iret) tc_no) (cond (Nat.beq pc 33) (tc_ldA 0 34) tc_no)) (cond (Nat.ble pc 34) (cond (Nat.beq pc 34) (tc_ldI 1 35) tc_no) (cond (Nat.beq pc 35) (tc_ldI 2 36) tc_no))) (cond (Nat.ble pc 39) (cond (Nat.ble pc 36) (cond (Nat.beq pc 36) (tc_callV 7 mX7_layKept 2 39) tc_no) (cond (Nat.beq pc 39) (tc_ldA 0 40) tc_no)) (cond (Nat.ble pc 40) (cond (Nat.beq pc 40) (tc_getf 7 21 43) tc_no) (cond (Nat.ble pc 43) (cond (Nat.beq pc 43) (tc_ic 20 45) tc_no) (cond (Nat.beq pc 45) (tc_ldI 3 46) tc_no))))) (cond (Nat.ble pc 50) (cond (Nat.ble pc 47) (cond (Nat.ble pc 46) (cond (Nat.beq pc 46) (tc_imul 47) tc_no) (cond (Nat.beq pc 47) (tc_ldI 4 49) tc_no)) (cond (Nat.ble pc 49) (cond (Nat.beq pc 49) (tc_iadd 50) tc_no) (cond (Nat.beq pc 50) (tc_zald 51) tc_no))) (cond (Nat.ble pc 54) (cond (Nat.ble pc 51) (cond (Nat.beq pc 51) (tc_ifeq 58 54) tc_no) (cond (Nat.beq pc 54) (tc_ic 1 55) tc_no)) (cond (Nat.ble pc 55) (cond (Nat.beq pc 55) (tc_goto 59) tc_no) (cond (Nat.ble pc 58) (cond (Nat.beq pc 58) (tc_ic 0 59) tc_no) (cond (Nat.beq pc 59) (tc_iret) tc_no))))))
theorem okX7_kept : ∀ pc, dt_S mX7_kept (tbX7_kept pc) pc := by
  intro pc
  unfold tbX7_kept
  exact dt_Sb (dt_Sb (dt_Sb (dt_Sb (dt_Sb (dt_Sl 0 (sn_ldIn rfl dX7_kept_0 rfl)) (dt_Sl 1 (sn_i2l dX7_kept_1 rfl))) (dt_Sb (dt_Sl 2 (sn_lc (k := 0) ⟨by decide, by decide⟩ rfl dX7_kept_2 rfl)) (dt_Sl 3 (sn_ldc2 rfl ⟨by decide, by decide⟩ wq_4_69 dX7_kept_3 rfl)))) (dt_Sb (dt_Sb (dt_Sl 6 (sn_callS rfl nnX7_in wq_4_8 wq_4_9 dX7_kept_6 rfl)) (dt_Sl 9 (sn_ifeq dX7_kept_9 (by decide) rfl))) (dt_Sb (dt_Sl 12 (sn_ldAn rfl dX7_kept_12 rfl)) (dt_Sl 13 (sn_ldIn rfl dX7_kept_13 rfl))))) (dt_Sb (dt_Sb (dt_Sb (dt_Sl 14 (sn_ldIn rfl dX7_kept_14 rfl)) (dt_Sl 15 (sn_callV rfl ffX7 nnX7_noEvent rfl wq_4_74 wq_4_76 wq_0_35 dX7_kept_15 rfl))) (dt_Sb (dt_Sl 18 (sn_ifne dX7_kept_18 (by decide) rfl)) (dt_Sl 21 (sn_ldAn rfl dX7_kept_21 rfl)))) (dt_Sb (dt_Sb (dt_Sl 22 (sn_ldIn rfl dX7_kept_22 rfl)) (dt_Sl 23 (sn_ldI dX7_kept_23 rfl))) (dt_Sb (dt_Sl 25 (sn_callV rfl ffX7 nnX7_noEvent rfl wq_4_74 wq_4_76 wq_0_35 dX7_kept_25 rfl)) (dt_Sb (dt_Sl 28 (sn_ifeq dX7_kept_28 (by decide) rfl)) (dt_Sl 31 (sn_ic ⟨by decide, by decide⟩ dX7_kept_31 rfl))))))) (dt_Sb (dt_Sb (dt_Sb (dt_Sb (dt_Sl 32 (sn_iret rfl dX7_kept_32)) (dt_Sl 33 (sn_ldAn rfl dX7_kept_33 rfl))) (dt_Sb (dt_Sl 34 (sn_ldIn rfl dX7_kept_34 rfl)) (dt_Sl 35 (sn_ldIn rfl dX7_kept_35 rfl)))) (dt_Sb (dt_Sb (dt_Sl 36 (sn_callV rfl ffX7 nnX7_layKept rfl wq_4_111 wq_4_113 wq_0_41 dX7_kept_36 rfl)) (dt_Sl 39 (sn_ldAn rfl dX7_kept_39 rfl))) (dt_Sb (dt_Sl 40 (sn_getf rfl ffX7 (by decide) wq_3_158 dX7_kept_40 rfl)) (dt_Sb (dt_Sl 43 (sn_bi ⟨by decide, by decide⟩ rfl dX7_kept_43 rfl)) (dt_Sl 45 (sn_ldIn rfl dX7_kept_45 rfl)))))) (dt_Sb (dt_Sb (dt_Sb (dt_Sl 46 (sn_imul dX7_kept_46 rfl)) (dt_Sl 47 (sn_ldI dX7_kept_47 rfl))) (dt_Sb (dt_Sl 49 (sn_iadd dX7_kept_49 rfl)) (dt_Sl 50 (sn_zald dX7_kept_50 rfl)))) (dt_Sb (dt_Sb (dt_Sl 51 (sn_ifeq dX7_kept_51 (by decide) rfl)) (dt_Sl 54 (sn_ic ⟨by decide, by decide⟩ dX7_kept_54 rfl))) (dt_Sb (dt_Sl 55 (sn_goto dX7_kept_55 (by decide))) (dt_Sb (dt_Sl 58 (sn_ic ⟨by decide, by decide⟩ dX7_kept_58 rfl)) (dt_Sl 59 (sn_iret rfl dX7_kept_59)))))))
theorem dX7_race_0 : decode cX7_race 0 = .ok (.iload_n 1, 1) := by decide +kernel
theorem dX7_race_1 : decode cX7_race 1 = .ok (.invokestatic 155, 3) := by decide +kernel
theorem dX7_race_4 : decode cX7_race 4 = .ok (.ifCond .ne 20, 3) := by decide +kernel
theorem dX7_race_7 : decode cX7_race 7 = .ok (.iload_n 2, 1) := by decide +kernel
theorem dX7_race_8 : decode cX7_race 8 = .ok (.i2l, 1) := by decide +kernel
theorem dX7_race_9 : decode cX7_race 9 = .ok (.lconst 0, 1) := by decide +kernel
theorem dX7_race_10 : decode cX7_race 10 = .ok (.ldc2_w 167, 3) := by decide +kernel
theorem dX7_race_13 : decode cX7_race 13 = .ok (.invokestatic 83, 3) := by decide +kernel
theorem dX7_race_16 : decode cX7_race 16 = .ok (.ifCond .eq 8, 3) := by decide +kernel
theorem dX7_race_19 : decode cX7_race 19 = .ok (.iload_n 3, 1) := by decide +kernel
theorem dX7_race_20 : decode cX7_race 20 = .ok (.iconst (-1), 1) := by decide +kernel
theorem dX7_race_21 : decode cX7_race 21 = .ok (.if_icmp .ge 5, 3) := by decide +kernel
theorem dX7_race_24 : decode cX7_race 24 = .ok (.iconst (-1), 1) := by decide +kernel
theorem dX7_race_25 : decode cX7_race 25 = .ok (.ireturn, 1) := by decide +kernel
theorem dX7_race_26 : decode cX7_race 26 = .ok (.aload_n 0, 1) := by decide +kernel
theorem dX7_race_27 : decode cX7_race 27 = .ok (.iload_n 1, 1) := by decide +kernel
theorem dX7_race_28 : decode cX7_race 28 = .ok (.iload_n 2, 1) := by decide +kernel
theorem dX7_race_29 : decode cX7_race 29 = .ok (.invokevirtual 196, 3) := by decide +kernel
theorem dX7_race_32 : decode cX7_race 32 = .ok (.iconst 0, 1) := by decide +kernel
theorem dX7_race_33 : decode cX7_race 33 = .ok (.istore 4, 2) := by decide +kernel
theorem dX7_race_35 : decode cX7_race 35 = .ok (.iconst (-1), 1) := by decide +kernel
theorem dX7_race_36 : decode cX7_race 36 = .ok (.istore 5, 2) := by decide +kernel
theorem dX7_race_38 : decode cX7_race 38 = .ok (.iconst 0, 1) := by decide +kernel
theorem dX7_race_39 : decode cX7_race 39 = .ok (.istore 6, 2) := by decide +kernel
theorem dX7_race_41 : decode cX7_race 41 = .ok (.iload 6, 2) := by decide +kernel
theorem dX7_race_43 : decode cX7_race 43 = .ok (.aload_n 0, 1) := by decide +kernel
theorem dX7_race_44 : decode cX7_race 44 = .ok (.getfield 7, 3) := by decide +kernel
theorem dX7_race_47 : decode cX7_race 47 = .ok (.iload_n 1, 1) := by decide +kernel
theorem dX7_race_48 : decode cX7_race 48 = .ok (.iaload, 1) := by decide +kernel
theorem dX7_race_49 : decode cX7_race 49 = .ok (.if_icmp .ge 84, 3) := by decide +kernel
theorem dX7_race_52 : decode cX7_race 52 = .ok (.iload 6, 2) := by decide +kernel
theorem dX7_race_54 : decode cX7_race 54 = .ok (.iconst 1, 1) := by decide +kernel
theorem dX7_race_55 : decode cX7_race 55 = .ok (.iadd, 1) := by decide +kernel
theorem dX7_race_56 : decode cX7_race 56 = .ok (.istore 7, 2) := by decide +kernel
theorem dX7_race_58 : decode cX7_race 58 = .ok (.iload 7, 2) := by decide +kernel
theorem dX7_race_60 : decode cX7_race 60 = .ok (.aload_n 0, 1) := by decide +kernel
theorem dX7_race_61 : decode cX7_race 61 = .ok (.getfield 7, 3) := by decide +kernel
theorem dX7_race_64 : decode cX7_race 64 = .ok (.iload_n 1, 1) := by decide +kernel
theorem dX7_race_65 : decode cX7_race 65 = .ok (.iaload, 1) := by decide +kernel
theorem dX7_race_66 : decode cX7_race 66 = .ok (.if_icmp .ge 61, 3) := by decide +kernel
theorem dX7_race_69 : decode cX7_race 69 = .ok (.aload_n 0, 1) := by decide +kernel
theorem dX7_race_70 : decode cX7_race 70 = .ok (.iload_n 1, 1) := by decide +kernel
theorem dX7_race_71 : decode cX7_race 71 = .ok (.iload 6, 2) := by decide +kernel
theorem dX7_race_73 : decode cX7_race 73 = .ok (.iload 7, 2) := by decide +kernel
theorem dX7_race_75 : decode cX7_race 75 = .ok (.invokevirtual 182, 3) := by decide +kernel
theorem dX7_race_78 : decode cX7_race 78 = .ok (.ifCond .eq 43, 3) := by decide +kernel
theorem dX7_race_81 : decode cX7_race 81 = .ok (.aload_n 0, 1) := by decide +kernel
theorem dX7_race_82 : decode cX7_race 82 = .ok (.getfield 53, 3) := by decide +kernel
theorem dX7_race_85 : decode cX7_race 85 = .ok (.bipush 20, 2) := by decide +kernel
theorem dX7_race_87 : decode cX7_race 87 = .ok (.iload 6, 2) := by decide +kernel
theorem dX7_race_89 : decode cX7_race 89 = .ok (.imul, 1) := by decide +kernel
theorem dX7_race_90 : decode cX7_race 90 = .ok (.iload 7, 2) := by decide +kernel
theorem dX7_race_92 : decode cX7_race 92 = .ok (.iadd, 1) := by decide +kernel
theorem dX7_race_93 : decode cX7_race 93 = .ok (.baload, 1) := by decide +kernel
theorem dX7_race_94 : decode cX7_race 94 = .ok (.ifCond .ne 27, 3) := by decide +kernel
theorem dX7_race_97 : decode cX7_race 97 = .ok (.iload 4, 2) := by decide +kernel
theorem dX7_race_99 : decode cX7_race 99 = .ok (.iload_n 3, 1) := by decide +kernel
theorem dX7_race_100 : decode cX7_race 100 = .ok (.if_icmp .ne 14, 3) := by decide +kernel
theorem dX7_race_103 : decode cX7_race 103 = .ok (.bipush 32, 2) := by decide +kernel
theorem dX7_race_105 : decode cX7_race 105 = .ok (.iload 6, 2) := by decide +kernel
theorem dX7_race_107 : decode cX7_race 107 = .ok (.imul, 1) := by decide +kernel
theorem dX7_race_108 : decode cX7_race 108 = .ok (.iload 7, 2) := by decide +kernel
theorem dX7_race_110 : decode cX7_race 110 = .ok (.iadd, 1) := by decide +kernel
theorem dX7_race_111 : decode cX7_race 111 = .ok (.goto 5, 3) := by decide +kernel
theorem dX7_race_114 : decode cX7_race 114 = .ok (.iload 5, 2) := by decide +kernel
theorem dX7_race_116 : decode cX7_race 116 = .ok (.istore 5, 2) := by decide +kernel
theorem dX7_race_118 : decode cX7_race 118 = .ok (.iinc 4 1, 3) := by decide +kernel
theorem dX7_race_121 : decode cX7_race 121 = .ok (.iinc 7 1, 3) := by decide +kernel
theorem dX7_race_124 : decode cX7_race 124 = .ok (.goto (-66), 3) := by decide +kernel
theorem dX7_race_127 : decode cX7_race 127 = .ok (.iinc 6 1, 3) := by decide +kernel
theorem dX7_race_130 : decode cX7_race 130 = .ok (.goto (-89), 3) := by decide +kernel
theorem dX7_race_133 : decode cX7_race 133 = .ok (.iload_n 3, 1) := by decide +kernel
theorem dX7_race_134 : decode cX7_race 134 = .ok (.ifCond .ge 8, 3) := by decide +kernel
theorem dX7_race_137 : decode cX7_race 137 = .ok (.iload 4, 2) := by decide +kernel
theorem dX7_race_139 : decode cX7_race 139 = .ok (.goto 5, 3) := by decide +kernel
theorem dX7_race_142 : decode cX7_race 142 = .ok (.iload 5, 2) := by decide +kernel
theorem dX7_race_144 : decode cX7_race 144 = .ok (.ireturn, 1) := by decide +kernel
def tbX7_race (pc : Nat) : dt_T := cond (Nat.ble pc 64) (cond (Nat.ble pc 32) (cond (Nat.ble pc 16) (cond (Nat.ble pc 7) (cond (Nat.ble pc 1) (cond (Nat.ble pc 0) (cond (Nat.beq pc 0) (tc_ldI 1 1) tc_no) (cond (Nat.beq pc 1) (tc_callS mX7_noTalk 1 4) tc_no)) (cond (Nat.ble pc 4) (cond (Nat.beq pc 4) (tc_ifne 24 7) tc_no) (cond (Nat.beq pc 7) (tc_ldI 2 8) tc_no))) (cond (Nat.ble pc 9) (cond (Nat.ble pc 8) (cond (Nat.beq pc 8) (tc_i2l 9) tc_no) (cond (Nat.beq pc 9) (tc_lc 0 10) tc_no)) (cond (Nat.ble pc 10) (cond (Nat.beq pc 10) (tc_lc 2 13) tc_no) (cond (Nat.ble pc 13) (cond (Nat.beq pc 13) (tc_callS mX7_in 3 16) tc_no) (cond (Nat.beq pc 16) (tc_ifeq 24 19) tc_no))))) (cond (Nat.ble pc 25) (cond (Nat.ble pc 20) (cond (Nat.ble pc 19) (cond (Nat.beq pc 19) (tc_ldI 3 20) tc_no) (cond (Nat.beq pc 20) (tc_ic (-1) 21) tc_no)) (cond (Nat.ble pc 21) (cond (Nat.beq pc 21) (tc_icmpge 26 24) tc_no) (cond (Nat.ble pc 24) (cond (Nat.beq pc 24) (tc_ic (-1) 25) tc_no) (cond (Nat.beq pc 25) (tc_iret) tc_no)))) (cond (Nat.ble pc 27) (cond (Nat.ble pc 26) (cond (Nat.beq pc 26) (tc_ldA 0 27) tc_no) (cond (Nat.beq pc 27) (tc_ldI 1 28) tc_no)) (cond (Nat.ble pc 28) (cond (Nat.beq pc 28) (tc_ldI 2 29) tc_no) (cond (Nat.ble pc 29) (cond (Nat.beq pc 29) (tc_callV 7 mX7_layKept 2 32) tc_no) (cond (Nat.beq pc 32) (tc_ic 0 33) tc_no)))))) (cond (Nat.ble pc 47) (cond (Nat.ble pc 38) (cond (Nat.ble pc 35) (cond (Nat.ble pc 33) (cond (Nat.beq pc 33) (tc_stI 4 35) tc_no) (cond (Nat.beq pc 35) (tc_ic (-1) 36) tc_no)) (cond (Nat.ble pc 36) (cond (Nat.beq pc 36) (tc_stI 5 38) tc_no) (cond (Nat.beq pc 38) (tc_ic 0 39) tc_no))) (cond (Nat.ble pc 41) (cond (Nat.ble pc 39) (cond (Nat.beq pc 39) (tc_stI 6 41) tc_no) (cond (Nat.beq pc 41) (tc_ldI 6 43) tc_no)) (cond (Nat.ble pc 43) (cond (Nat.beq pc 43) (tc_ldA 0 44) tc_no) (cond (Nat.ble pc 44) (cond (Nat.beq pc 44) (tc_getf 7 0 47) tc_no) (cond (Nat.beq pc 47) (tc_ldI 1 48) tc_no))))) (cond (Nat.ble pc 55) (cond (Nat.ble pc 49) (cond (Nat.ble pc 48) (cond (Nat.beq pc 48) (tc_iald 49) tc_no) (cond (Nat.beq pc 49) (tc_icmpge 133 52) tc_no)) (cond (Nat.ble pc 52) (cond (Nat.beq pc 52) (tc_ldI 6 54) tc_no) (cond (Nat.ble pc 54) (cond (Nat.beq pc 54) (tc_ic 1 55) tc_no) (cond (Nat.beq pc 55) (tc_iadd 56) tc_no)))) (cond (Nat.ble pc 58) (cond (Nat.ble pc 56) (cond (Nat.beq pc 56) (tc_stI 7 58) tc_no) (cond (Nat.beq pc 58) (tc_ldI 7 60) tc_no)) (cond (Nat.ble pc 60) (cond (Nat.beq pc 60) (tc_ldA 0 61) tc_no) (cond (Nat.ble pc 61) (cond (Nat.beq pc 61) (tc_getf 7 0 64) tc_no) (cond (Nat.beq pc 64) (tc_ldI 1 65) tc_no))))))) (cond (Nat.ble pc 99) (cond (Nat.ble pc 81) (cond (Nat.ble pc 70) (cond (Nat.ble pc 66) (cond (Nat.ble pc 65) (cond (Nat.beq pc 65) (tc_iald 66) tc_no) (cond (Nat.beq pc 66) (tc_icmpge 127 69) tc_no)) (cond (Nat.ble pc 69) (cond (Nat.beq pc 69) (tc_ldA 0 70) tc_no) (cond (Nat.beq pc 70) (tc_ldI 1 71) tc_no))) (cond (Nat.ble pc 73) (cond (Nat.ble pc 71) (cond (Nat.beq pc 71) (tc_ldI 6 73) tc_no) (cond (Nat.beq pc 73) (tc_ldI 7 75) tc_no)) (cond (Nat.ble pc 75) (cond (Nat.beq pc 75) (tc_callV 7 mX7_onOneLine 3 78) tc_no) (cond (Nat.ble pc 78) (cond (Nat.beq pc 78) (tc_ifeq 121 81) tc_no) (cond (Nat.beq pc 81) (tc_ldA 0 82) tc_no))))) (cond (Nat.ble pc 90) (cond (Nat.ble pc 85) (cond (Nat.ble pc 82) (cond (Nat.beq pc 82) (tc_getf 7 21 85) tc_no) (cond (Nat.beq pc 85) (tc_ic 20 87) tc_no)) (cond (Nat.ble pc 87) (cond (Nat.beq pc 87) (tc_ldI 6 89) tc_no) (cond (Nat.ble pc 89) (cond (Nat.beq pc 89) (tc_imul 90) tc_no) (cond (Nat.beq pc 90) (tc_ldI 7 92) tc_no)))) (cond (Nat.ble pc 93) (cond (Nat.ble pc 92) (cond (Nat.beq pc 92) (tc_iadd 93) tc_no) (cond (Nat.beq pc 93) (tc_zald 94) tc_no)) (cond (Nat.ble pc 94) (cond (Nat.beq pc 94) (tc_ifne 121 97) tc_no) (cond (Nat.ble pc 97) (cond (Nat.beq pc 97) (tc_ldI 4 99) tc_no) (cond (Nat.beq pc 99) (tc_ldI 3 100) tc_no)))))) (cond (Nat.ble pc 118) (cond (Nat.ble pc 108) (cond (Nat.ble pc 103) (cond (Nat.ble pc 100) (cond (Nat.beq pc 100) (tc_icmpne 114 103) tc_no) (cond (Nat.beq pc 103) (tc_ic 32 105) tc_no)) (cond (Nat.ble pc 105) (cond (Nat.beq pc 105) (tc_ldI 6 107) tc_no) (cond (Nat.ble pc 107) (cond (Nat.beq pc 107) (tc_imul 108) tc_no) (cond (Nat.beq pc 108) (tc_ldI 7 110) tc_no)))) (cond (Nat.ble pc 111) (cond (Nat.ble pc 110) (cond (Nat.beq pc 110) (tc_iadd 111) tc_no) (cond (Nat.beq pc 111) (tc_goto 116) tc_no)) (cond (Nat.ble pc 114) (cond (Nat.beq pc 114) (tc_ldI 5 116) tc_no) (cond (Nat.ble pc 116) (cond (Nat.beq pc 116) (tc_stI 5 118) tc_no) (cond (Nat.beq pc 118) (tc_iinc 4 1 121) tc_no))))) (cond (Nat.ble pc 133) (cond (Nat.ble pc 124) (cond (Nat.ble pc 121) (cond (Nat.beq pc 121) (tc_iinc 7 1 124) tc_no) (cond (Nat.beq pc 124) (tc_goto 58) tc_no)) (cond (Nat.ble pc 127) (cond (Nat.beq pc 127) (tc_iinc 6 1 130) tc_no) (cond (Nat.ble pc 130) (cond (Nat.beq pc 130) (tc_goto 41) tc_no) (cond (Nat.beq pc 133) (tc_ldI 3 134) tc_no)))) (cond (Nat.ble pc 137) (cond (Nat.ble pc 134) (cond (Nat.beq pc 134) (tc_ifge 142 137) tc_no) (cond (Nat.beq pc 137) (tc_ldI 4 139) tc_no)) (cond (Nat.ble pc 139) (cond (Nat.beq pc 139) (tc_goto 144) tc_no) (cond (Nat.ble pc 142) (cond (Nat.beq pc 142) (tc_ldI 5 144) tc_no) (cond (Nat.beq pc 144) (tc_iret) tc_no)))))))
theorem okX7_race : ∀ pc, dt_S mX7_race (tbX7_race pc) pc := by
  intro pc
  unfold tbX7_race
  exact dt_Sb (dt_Sb (dt_Sb (dt_Sb (dt_Sb (dt_Sb (dt_Sl 0 (sn_ldIn rfl dX7_race_0 rfl)) (dt_Sl 1 (sn_callS rfl nnX7_noTalk wq_4_20 wq_4_21 dX7_race_1 rfl))) (dt_Sb (dt_Sl 4 (sn_ifne dX7_race_4 (by decide) rfl)) (dt_Sl 7 (sn_ldIn rfl dX7_race_7 rfl)))) (dt_Sb (dt_Sb (dt_Sl 8 (sn_i2l dX7_race_8 rfl)) (dt_Sl 9 (sn_lc (k := 0) ⟨by decide, by decide⟩ rfl dX7_race_9 rfl))) (dt_Sb (dt_Sl 10 (sn_ldc2 rfl ⟨by decide, by decide⟩ wq_4_69 dX7_race_10 rfl)) (dt_Sb (dt_Sl 13 (sn_callS rfl nnX7_in wq_4_8 wq_4_9 dX7_race_13 rfl)) (dt_Sl 16 (sn_ifeq dX7_race_16 (by decide) rfl)))))) (dt_Sb (dt_Sb (dt_Sb (dt_Sl 19 (sn_ldIn rfl dX7_race_19 rfl)) (dt_Sl 20 (sn_ic ⟨by decide, by decide⟩ dX7_race_20 rfl))) (dt_Sb (dt_Sl 21 (sn_icmpge dX7_race_21 (by decide) rfl)) (dt_Sb (dt_Sl 24 (sn_ic ⟨by decide, by decide⟩ dX7_race_24 rfl)) (dt_Sl 25 (sn_iret rfl dX7_race_25))))) (dt_Sb (dt_Sb (dt_Sl 26 (sn_ldAn rfl dX7_race_26 rfl)) (dt_Sl 27 (sn_ldIn rfl dX7_race_27 rfl))) (dt_Sb (dt_Sl 28 (sn_ldIn rfl dX7_race_28 rfl)) (dt_Sb (dt_Sl 29 (sn_callV rfl ffX7 nnX7_layKept rfl wq_4_111 wq_4_113 wq_0_41 dX7_race_29 rfl)) (dt_Sl 32 (sn_ic ⟨by decide, by decide⟩ dX7_race_32 rfl))))))) (dt_Sb (dt_Sb (dt_Sb (dt_Sb (dt_Sl 33 (sn_stI (by decide) dX7_race_33 rfl)) (dt_Sl 35 (sn_ic ⟨by decide, by decide⟩ dX7_race_35 rfl))) (dt_Sb (dt_Sl 36 (sn_stI (by decide) dX7_race_36 rfl)) (dt_Sl 38 (sn_ic ⟨by decide, by decide⟩ dX7_race_38 rfl)))) (dt_Sb (dt_Sb (dt_Sl 39 (sn_stI (by decide) dX7_race_39 rfl)) (dt_Sl 41 (sn_ldI dX7_race_41 rfl))) (dt_Sb (dt_Sl 43 (sn_ldAn rfl dX7_race_43 rfl)) (dt_Sb (dt_Sl 44 (sn_getf rfl ffX7 (by decide) wq_3_137 dX7_race_44 rfl)) (dt_Sl 47 (sn_ldIn rfl dX7_race_47 rfl)))))) (dt_Sb (dt_Sb (dt_Sb (dt_Sl 48 (sn_iald dX7_race_48 rfl)) (dt_Sl 49 (sn_icmpge dX7_race_49 (by decide) rfl))) (dt_Sb (dt_Sl 52 (sn_ldI dX7_race_52 rfl)) (dt_Sb (dt_Sl 54 (sn_ic ⟨by decide, by decide⟩ dX7_race_54 rfl)) (dt_Sl 55 (sn_iadd dX7_race_55 rfl))))) (dt_Sb (dt_Sb (dt_Sl 56 (sn_stI (by decide) dX7_race_56 rfl)) (dt_Sl 58 (sn_ldI dX7_race_58 rfl))) (dt_Sb (dt_Sl 60 (sn_ldAn rfl dX7_race_60 rfl)) (dt_Sb (dt_Sl 61 (sn_getf rfl ffX7 (by decide) wq_3_137 dX7_race_61 rfl)) (dt_Sl 64 (sn_ldIn rfl dX7_race_64 rfl)))))))) (dt_Sb (dt_Sb (dt_Sb (dt_Sb (dt_Sb (dt_Sl 65 (sn_iald dX7_race_65 rfl)) (dt_Sl 66 (sn_icmpge dX7_race_66 (by decide) rfl))) (dt_Sb (dt_Sl 69 (sn_ldAn rfl dX7_race_69 rfl)) (dt_Sl 70 (sn_ldIn rfl dX7_race_70 rfl)))) (dt_Sb (dt_Sb (dt_Sl 71 (sn_ldI dX7_race_71 rfl)) (dt_Sl 73 (sn_ldI dX7_race_73 rfl))) (dt_Sb (dt_Sl 75 (sn_callV rfl ffX7 nnX7_onOneLine rfl wq_4_99 wq_4_101 wq_0_39 dX7_race_75 rfl)) (dt_Sb (dt_Sl 78 (sn_ifeq dX7_race_78 (by decide) rfl)) (dt_Sl 81 (sn_ldAn rfl dX7_race_81 rfl)))))) (dt_Sb (dt_Sb (dt_Sb (dt_Sl 82 (sn_getf rfl ffX7 (by decide) wq_3_158 dX7_race_82 rfl)) (dt_Sl 85 (sn_bi ⟨by decide, by decide⟩ rfl dX7_race_85 rfl))) (dt_Sb (dt_Sl 87 (sn_ldI dX7_race_87 rfl)) (dt_Sb (dt_Sl 89 (sn_imul dX7_race_89 rfl)) (dt_Sl 90 (sn_ldI dX7_race_90 rfl))))) (dt_Sb (dt_Sb (dt_Sl 92 (sn_iadd dX7_race_92 rfl)) (dt_Sl 93 (sn_zald dX7_race_93 rfl))) (dt_Sb (dt_Sl 94 (sn_ifne dX7_race_94 (by decide) rfl)) (dt_Sb (dt_Sl 97 (sn_ldI dX7_race_97 rfl)) (dt_Sl 99 (sn_ldIn rfl dX7_race_99 rfl))))))) (dt_Sb (dt_Sb (dt_Sb (dt_Sb (dt_Sl 100 (sn_icmpne dX7_race_100 (by decide) rfl)) (dt_Sl 103 (sn_bi ⟨by decide, by decide⟩ rfl dX7_race_103 rfl))) (dt_Sb (dt_Sl 105 (sn_ldI dX7_race_105 rfl)) (dt_Sb (dt_Sl 107 (sn_imul dX7_race_107 rfl)) (dt_Sl 108 (sn_ldI dX7_race_108 rfl))))) (dt_Sb (dt_Sb (dt_Sl 110 (sn_iadd dX7_race_110 rfl)) (dt_Sl 111 (sn_goto dX7_race_111 (by decide)))) (dt_Sb (dt_Sl 114 (sn_ldI dX7_race_114 rfl)) (dt_Sb (dt_Sl 116 (sn_stI (by decide) dX7_race_116 rfl)) (dt_Sl 118 (sn_iinc (by decide) dX7_race_118 rfl)))))) (dt_Sb (dt_Sb (dt_Sb (dt_Sl 121 (sn_iinc (by decide) dX7_race_121 rfl)) (dt_Sl 124 (sn_goto dX7_race_124 (by decide)))) (dt_Sb (dt_Sl 127 (sn_iinc (by decide) dX7_race_127 rfl)) (dt_Sb (dt_Sl 130 (sn_goto dX7_race_130 (by decide))) (dt_Sl 133 (sn_ldIn rfl dX7_race_133 rfl))))) (dt_Sb (dt_Sb (dt_Sl 134 (sn_ifge dX7_race_134 (by decide) rfl)) (dt_Sl 137 (sn_ldI dX7_race_137 rfl))) (dt_Sb (dt_Sl 139 (sn_goto dX7_race_139 (by decide))) (dt_Sb (dt_Sl 142 (sn_ldI dX7_race_142 rfl)) (dt_Sl 144 (sn_iret rfl dX7_race_144))))))))
theorem dX7_come_0 : decode cX7_come 0 = .ok (.iload_n 1, 1) := by decide +kernel
theorem dX7_come_1 : decode cX7_come 1 = .ok (.aload_n 0, 1) := by decide +kernel
theorem dX7_come_2 : decode cX7_come 2 = .ok (.getfield 56, 3) := by decide +kernel
theorem dX7_come_5 : decode cX7_come 5 = .ok (.iload_n 2, 1) := by decide +kernel
theorem dX7_come_6 : decode cX7_come 6 = .ok (.iaload, 1) := by decide +kernel
theorem dX7_come_7 : decode cX7_come 7 = .ok (.idiv, 1) := by decide +kernel
theorem dX7_come_8 : decode cX7_come 8 = .ok (.aload_n 0, 1) := by decide +kernel
theorem dX7_come_9 : decode cX7_come 9 = .ok (.getfield 29, 3) := by decide +kernel
theorem dX7_come_12 : decode cX7_come 12 = .ok (.aload_n 0, 1) := by decide +kernel
theorem dX7_come_13 : decode cX7_come 13 = .ok (.getfield 200, 3) := by decide +kernel
theorem dX7_come_16 : decode cX7_come 16 = .ok (.iconst 4, 1) := by decide +kernel
theorem dX7_come_17 : decode cX7_come 17 = .ok (.imul, 1) := by decide +kernel
theorem dX7_come_18 : decode cX7_come 18 = .ok (.iload_n 2, 1) := by decide +kernel
theorem dX7_come_19 : decode cX7_come 19 = .ok (.iadd, 1) := by decide +kernel
theorem dX7_come_20 : decode cX7_come 20 = .ok (.iaload, 1) := by decide +kernel
theorem dX7_come_21 : decode cX7_come 21 = .ok (.iconst 1, 1) := by decide +kernel
theorem dX7_come_22 : decode cX7_come 22 = .ok (.iadd, 1) := by decide +kernel
theorem dX7_come_23 : decode cX7_come 23 = .ok (.irem, 1) := by decide +kernel
theorem dX7_come_24 : decode cX7_come 24 = .ok (.ireturn, 1) := by decide +kernel
def tbX7_come (pc : Nat) : dt_T := cond (Nat.ble pc 12) (cond (Nat.ble pc 5) (cond (Nat.ble pc 1) (cond (Nat.ble pc 0) (cond (Nat.beq pc 0) (tc_ldI 1 1) tc_no) (cond (Nat.beq pc 1) (tc_ldA 0 2) tc_no)) (cond (Nat.ble pc 2) (cond (Nat.beq pc 2) (tc_getf 7 22 5) tc_no) (cond (Nat.beq pc 5) (tc_ldI 2 6) tc_no))) (cond (Nat.ble pc 7) (cond (Nat.ble pc 6) (cond (Nat.beq pc 6) (tc_iald 7) tc_no) (cond (Nat.beq pc 7) (tc_idiv 8) tc_no)) (cond (Nat.ble pc 8) (cond (Nat.beq pc 8) (tc_ldA 0 9) tc_no) (cond (Nat.ble pc 9) (cond (Nat.beq pc 9) (tc_getf 7 6 12) tc_no) (cond (Nat.beq pc 12) (tc_ldA 0 13) tc_no))))) (cond (Nat.ble pc 19) (cond (Nat.ble pc 16) (cond (Nat.ble pc 13) (cond (Nat.beq pc 13) (tc_getf 7 27 16) tc_no) (cond (Nat.beq pc 16) (tc_ic 4 17) tc_no)) (cond (Nat.ble pc 17) (cond (Nat.beq pc 17) (tc_imul 18) tc_no) (cond (Nat.ble pc 18) (cond (Nat.beq pc 18) (tc_ldI 2 19) tc_no) (cond (Nat.beq pc 19) (tc_iadd 20) tc_no)))) (cond (Nat.ble pc 21) (cond (Nat.ble pc 20) (cond (Nat.beq pc 20) (tc_iald 21) tc_no) (cond (Nat.beq pc 21) (tc_ic 1 22) tc_no)) (cond (Nat.ble pc 22) (cond (Nat.beq pc 22) (tc_iadd 23) tc_no) (cond (Nat.ble pc 23) (cond (Nat.beq pc 23) (tc_irem 24) tc_no) (cond (Nat.beq pc 24) (tc_iret) tc_no)))))
theorem okX7_come : ∀ pc, dt_S mX7_come (tbX7_come pc) pc := by
  intro pc
  unfold tbX7_come
  exact dt_Sb (dt_Sb (dt_Sb (dt_Sb (dt_Sl 0 (sn_ldIn rfl dX7_come_0 rfl)) (dt_Sl 1 (sn_ldAn rfl dX7_come_1 rfl))) (dt_Sb (dt_Sl 2 (sn_getf rfl ffX7 (by decide) wq_3_159 dX7_come_2 rfl)) (dt_Sl 5 (sn_ldIn rfl dX7_come_5 rfl)))) (dt_Sb (dt_Sb (dt_Sl 6 (sn_iald dX7_come_6 rfl)) (dt_Sl 7 (sn_idiv dX7_come_7 rfl))) (dt_Sb (dt_Sl 8 (sn_ldAn rfl dX7_come_8 rfl)) (dt_Sb (dt_Sl 9 (sn_getf rfl ffX7 (by decide) wq_3_143 dX7_come_9 rfl)) (dt_Sl 12 (sn_ldAn rfl dX7_come_12 rfl)))))) (dt_Sb (dt_Sb (dt_Sb (dt_Sl 13 (sn_getf rfl ffX7 (by decide) wq_3_164 dX7_come_13 rfl)) (dt_Sl 16 (sn_ic ⟨by decide, by decide⟩ dX7_come_16 rfl))) (dt_Sb (dt_Sl 17 (sn_imul dX7_come_17 rfl)) (dt_Sb (dt_Sl 18 (sn_ldIn rfl dX7_come_18 rfl)) (dt_Sl 19 (sn_iadd dX7_come_19 rfl))))) (dt_Sb (dt_Sb (dt_Sl 20 (sn_iald dX7_come_20 rfl)) (dt_Sl 21 (sn_ic ⟨by decide, by decide⟩ dX7_come_21 rfl))) (dt_Sb (dt_Sl 22 (sn_iadd dX7_come_22 rfl)) (dt_Sb (dt_Sl 23 (sn_irem dX7_come_23 rfl)) (dt_Sl 24 (sn_iret rfl dX7_come_24))))))
theorem dX7_underAt_0 : decode cX7_underAt 0 = .ok (.iconst 0, 1) := by decide +kernel
theorem dX7_underAt_1 : decode cX7_underAt 1 = .ok (.istore_n 2, 1) := by decide +kernel
theorem dX7_underAt_2 : decode cX7_underAt 2 = .ok (.iconst 0, 1) := by decide +kernel
theorem dX7_underAt_3 : decode cX7_underAt 3 = .ok (.istore_n 3, 1) := by decide +kernel
theorem dX7_underAt_4 : decode cX7_underAt 4 = .ok (.iload_n 3, 1) := by decide +kernel
theorem dX7_underAt_5 : decode cX7_underAt 5 = .ok (.aload_n 0, 1) := by decide +kernel
theorem dX7_underAt_6 : decode cX7_underAt 6 = .ok (.getfield 7, 3) := by decide +kernel
theorem dX7_underAt_9 : decode cX7_underAt 9 = .ok (.aload_n 0, 1) := by decide +kernel
theorem dX7_underAt_10 : decode cX7_underAt 10 = .ok (.getfield 200, 3) := by decide +kernel
theorem dX7_underAt_13 : decode cX7_underAt 13 = .ok (.iaload, 1) := by decide +kernel
theorem dX7_underAt_14 : decode cX7_underAt 14 = .ok (.if_icmp .ge 103, 3) := by decide +kernel
theorem dX7_underAt_17 : decode cX7_underAt 17 = .ok (.aload_n 0, 1) := by decide +kernel
theorem dX7_underAt_18 : decode cX7_underAt 18 = .ok (.iload_n 1, 1) := by decide +kernel
theorem dX7_underAt_19 : decode cX7_underAt 19 = .ok (.iload_n 3, 1) := by decide +kernel
theorem dX7_underAt_20 : decode cX7_underAt 20 = .ok (.invokevirtual 203, 3) := by decide +kernel
theorem dX7_underAt_23 : decode cX7_underAt 23 = .ok (.istore 4, 2) := by decide +kernel
theorem dX7_underAt_25 : decode cX7_underAt 25 = .ok (.aload_n 0, 1) := by decide +kernel
theorem dX7_underAt_26 : decode cX7_underAt 26 = .ok (.iload_n 1, 1) := by decide +kernel
theorem dX7_underAt_27 : decode cX7_underAt 27 = .ok (.aload_n 0, 1) := by decide +kernel
theorem dX7_underAt_28 : decode cX7_underAt 28 = .ok (.getfield 26, 3) := by decide +kernel
theorem dX7_underAt_31 : decode cX7_underAt 31 = .ok (.bipush 20, 2) := by decide +kernel
theorem dX7_underAt_33 : decode cX7_underAt 33 = .ok (.aload_n 0, 1) := by decide +kernel
theorem dX7_underAt_34 : decode cX7_underAt 34 = .ok (.getfield 200, 3) := by decide +kernel
theorem dX7_underAt_37 : decode cX7_underAt 37 = .ok (.imul, 1) := by decide +kernel
theorem dX7_underAt_38 : decode cX7_underAt 38 = .ok (.iload_n 3, 1) := by decide +kernel
theorem dX7_underAt_39 : decode cX7_underAt 39 = .ok (.iadd, 1) := by decide +kernel
theorem dX7_underAt_40 : decode cX7_underAt 40 = .ok (.iaload, 1) := by decide +kernel
theorem dX7_underAt_41 : decode cX7_underAt 41 = .ok (.invokevirtual 203, 3) := by decide +kernel
theorem dX7_underAt_44 : decode cX7_underAt 44 = .ok (.istore 5, 2) := by decide +kernel
theorem dX7_underAt_46 : decode cX7_underAt 46 = .ok (.iload 4, 2) := by decide +kernel
theorem dX7_underAt_48 : decode cX7_underAt 48 = .ok (.ifCond .eq 28, 3) := by decide +kernel
theorem dX7_underAt_51 : decode cX7_underAt 51 = .ok (.aload_n 0, 1) := by decide +kernel
theorem dX7_underAt_52 : decode cX7_underAt 52 = .ok (.getfield 13, 3) := by decide +kernel
theorem dX7_underAt_55 : decode cX7_underAt 55 = .ok (.bipush 20, 2) := by decide +kernel
theorem dX7_underAt_57 : decode cX7_underAt 57 = .ok (.aload_n 0, 1) := by decide +kernel
theorem dX7_underAt_58 : decode cX7_underAt 58 = .ok (.getfield 200, 3) := by decide +kernel
theorem dX7_underAt_61 : decode cX7_underAt 61 = .ok (.imul, 1) := by decide +kernel
theorem dX7_underAt_62 : decode cX7_underAt 62 = .ok (.iload_n 3, 1) := by decide +kernel
theorem dX7_underAt_63 : decode cX7_underAt 63 = .ok (.iadd, 1) := by decide +kernel
theorem dX7_underAt_64 : decode cX7_underAt 64 = .ok (.baload, 1) := by decide +kernel
theorem dX7_underAt_65 : decode cX7_underAt 65 = .ok (.ifCond .eq 11, 3) := by decide +kernel
theorem dX7_underAt_68 : decode cX7_underAt 68 = .ok (.iload 5, 2) := by decide +kernel
theorem dX7_underAt_70 : decode cX7_underAt 70 = .ok (.ifCond .ne 6, 3) := by decide +kernel
theorem dX7_underAt_73 : decode cX7_underAt 73 = .ok (.bipush (-9), 2) := by decide +kernel
theorem dX7_underAt_75 : decode cX7_underAt 75 = .ok (.ireturn, 1) := by decide +kernel
theorem dX7_underAt_76 : decode cX7_underAt 76 = .ok (.iload_n 2, 1) := by decide +kernel
theorem dX7_underAt_77 : decode cX7_underAt 77 = .ok (.iload 4, 2) := by decide +kernel
theorem dX7_underAt_79 : decode cX7_underAt 79 = .ok (.ifCond .eq 29, 3) := by decide +kernel
theorem dX7_underAt_82 : decode cX7_underAt 82 = .ok (.aload_n 0, 1) := by decide +kernel
theorem dX7_underAt_83 : decode cX7_underAt 83 = .ok (.getfield 13, 3) := by decide +kernel
theorem dX7_underAt_86 : decode cX7_underAt 86 = .ok (.bipush 20, 2) := by decide +kernel
theorem dX7_underAt_88 : decode cX7_underAt 88 = .ok (.aload_n 0, 1) := by decide +kernel
theorem dX7_underAt_89 : decode cX7_underAt 89 = .ok (.getfield 200, 3) := by decide +kernel
theorem dX7_underAt_92 : decode cX7_underAt 92 = .ok (.imul, 1) := by decide +kernel
theorem dX7_underAt_93 : decode cX7_underAt 93 = .ok (.iload_n 3, 1) := by decide +kernel
theorem dX7_underAt_94 : decode cX7_underAt 94 = .ok (.iadd, 1) := by decide +kernel
theorem dX7_underAt_95 : decode cX7_underAt 95 = .ok (.baload, 1) := by decide +kernel
theorem dX7_underAt_96 : decode cX7_underAt 96 = .ok (.ifCond .ne 12, 3) := by decide +kernel
theorem dX7_underAt_99 : decode cX7_underAt 99 = .ok (.iload 5, 2) := by decide +kernel
theorem dX7_underAt_101 : decode cX7_underAt 101 = .ok (.ifCond .ne 7, 3) := by decide +kernel
theorem dX7_underAt_104 : decode cX7_underAt 104 = .ok (.iconst 1, 1) := by decide +kernel
theorem dX7_underAt_105 : decode cX7_underAt 105 = .ok (.goto 4, 3) := by decide +kernel
theorem dX7_underAt_108 : decode cX7_underAt 108 = .ok (.iconst 0, 1) := by decide +kernel
theorem dX7_underAt_109 : decode cX7_underAt 109 = .ok (.iadd, 1) := by decide +kernel
theorem dX7_underAt_110 : decode cX7_underAt 110 = .ok (.istore_n 2, 1) := by decide +kernel
theorem dX7_underAt_111 : decode cX7_underAt 111 = .ok (.iinc 3 1, 3) := by decide +kernel
theorem dX7_underAt_114 : decode cX7_underAt 114 = .ok (.goto (-110), 3) := by decide +kernel
theorem dX7_underAt_117 : decode cX7_underAt 117 = .ok (.iload_n 2, 1) := by decide +kernel
theorem dX7_underAt_118 : decode cX7_underAt 118 = .ok (.ireturn, 1) := by decide +kernel
def tbX7_underAt (pc : Nat) : dt_T := cond (Nat.ble pc 55) (cond (Nat.ble pc 25) (cond (Nat.ble pc 9) (cond (Nat.ble pc 3) (cond (Nat.ble pc 1) (cond (Nat.ble pc 0) (cond (Nat.beq pc 0) (tc_ic 0 1) tc_no) (cond (Nat.beq pc 1) (tc_stI 2 2) tc_no)) (cond (Nat.ble pc 2) (cond (Nat.beq pc 2) (tc_ic 0 3) tc_no) (cond (Nat.beq pc 3) (tc_stI 3 4) tc_no))) (cond (Nat.ble pc 5) (cond (Nat.ble pc 4) (cond (Nat.beq pc 4) (tc_ldI 3 5) tc_no) (cond (Nat.beq pc 5) (tc_ldA 0 6) tc_no)) (cond (Nat.ble pc 6) (cond (Nat.beq pc 6) (tc_getf 7 0 9) tc_no) (cond (Nat.beq pc 9) (tc_ldA 0 10) tc_no)))) (cond (Nat.ble pc 17) (cond (Nat.ble pc 13) (cond (Nat.ble pc 10) (cond (Nat.beq pc 10) (tc_getf 7 27 13) tc_no) (cond (Nat.beq pc 13) (tc_iald 14) tc_no)) (cond (Nat.ble pc 14) (cond (Nat.beq pc 14) (tc_icmpge 117 17) tc_no) (cond (Nat.beq pc 17) (tc_ldA 0 18) tc_no))) (cond (Nat.ble pc 19) (cond (Nat.ble pc 18) (cond (Nat.beq pc 18) (tc_ldI 1 19) tc_no) (cond (Nat.beq pc 19) (tc_ldI 3 20) tc_no)) (cond (Nat.ble pc 20) (cond (Nat.beq pc 20) (tc_callV 7 mX7_isDone 2 23) tc_no) (cond (Nat.ble pc 23) (cond (Nat.beq pc 23) (tc_stI 4 25) tc_no) (cond (Nat.beq pc 25) (tc_ldA 0 26) tc_no)))))) (cond (Nat.ble pc 38) (cond (Nat.ble pc 31) (cond (Nat.ble pc 27) (cond (Nat.ble pc 26) (cond (Nat.beq pc 26) (tc_ldI 1 27) tc_no) (cond (Nat.beq pc 27) (tc_ldA 0 28) tc_no)) (cond (Nat.ble pc 28) (cond (Nat.beq pc 28) (tc_getf 7 5 31) tc_no) (cond (Nat.beq pc 31) (tc_ic 20 33) tc_no))) (cond (Nat.ble pc 34) (cond (Nat.ble pc 33) (cond (Nat.beq pc 33) (tc_ldA 0 34) tc_no) (cond (Nat.beq pc 34) (tc_getf 7 27 37) tc_no)) (cond (Nat.ble pc 37) (cond (Nat.beq pc 37) (tc_imul 38) tc_no) (cond (Nat.beq pc 38) (tc_ldI 3 39) tc_no)))) (cond (Nat.ble pc 44) (cond (Nat.ble pc 40) (cond (Nat.ble pc 39) (cond (Nat.beq pc 39) (tc_iadd 40) tc_no) (cond (Nat.beq pc 40) (tc_iald 41) tc_no)) (cond (Nat.ble pc 41) (cond (Nat.beq pc 41) (tc_callV 7 mX7_isDone 2 44) tc_no) (cond (Nat.beq pc 44) (tc_stI 5 46) tc_no))) (cond (Nat.ble pc 48) (cond (Nat.ble pc 46) (cond (Nat.beq pc 46) (tc_ldI 4 48) tc_no) (cond (Nat.beq pc 48) (tc_ifeq 76 51) tc_no)) (cond (Nat.ble pc 51) (cond (Nat.beq pc 51) (tc_ldA 0 52) tc_no) (cond (Nat.ble pc 52) (cond (Nat.beq pc 52) (tc_getf 7 1 55) tc_no) (cond (Nat.beq pc 55) (tc_ic 20 57) tc_no))))))) (cond (Nat.ble pc 86) (cond (Nat.ble pc 68) (cond (Nat.ble pc 62) (cond (Nat.ble pc 58) (cond (Nat.ble pc 57) (cond (Nat.beq pc 57) (tc_ldA 0 58) tc_no) (cond (Nat.beq pc 58) (tc_getf 7 27 61) tc_no)) (cond (Nat.ble pc 61) (cond (Nat.beq pc 61) (tc_imul 62) tc_no) (cond (Nat.beq pc 62) (tc_ldI 3 63) tc_no))) (cond (Nat.ble pc 64) (cond (Nat.ble pc 63) (cond (Nat.beq pc 63) (tc_iadd 64) tc_no) (cond (Nat.beq pc 64) (tc_zald 65) tc_no)) (cond (Nat.ble pc 65) (cond (Nat.beq pc 65) (tc_ifeq 76 68) tc_no) (cond (Nat.beq pc 68) (tc_ldI 5 70) tc_no)))) (cond (Nat.ble pc 76) (cond (Nat.ble pc 73) (cond (Nat.ble pc 70) (cond (Nat.beq pc 70) (tc_ifne 76 73) tc_no) (cond (Nat.beq pc 73) (tc_ic (-9) 75) tc_no)) (cond (Nat.ble pc 75) (cond (Nat.beq pc 75) (tc_iret) tc_no) (cond (Nat.beq pc 76) (tc_ldI 2 77) tc_no))) (cond (Nat.ble pc 79) (cond (Nat.ble pc 77) (cond (Nat.beq pc 77) (tc_ldI 4 79) tc_no) (cond (Nat.beq pc 79) (tc_ifeq 108 82) tc_no)) (cond (Nat.ble pc 82) (cond (Nat.beq pc 82) (tc_ldA 0 83) tc_no) (cond (Nat.ble pc 83) (cond (Nat.beq pc 83) (tc_getf 7 1 86) tc_no) (cond (Nat.beq pc 86) (tc_ic 20 88) tc_no)))))) (cond (Nat.ble pc 101) (cond (Nat.ble pc 93) (cond (Nat.ble pc 89) (cond (Nat.ble pc 88) (cond (Nat.beq pc 88) (tc_ldA 0 89) tc_no) (cond (Nat.beq pc 89) (tc_getf 7 27 92) tc_no)) (cond (Nat.ble pc 92) (cond (Nat.beq pc 92) (tc_imul 93) tc_no) (cond (Nat.beq pc 93) (tc_ldI 3 94) tc_no))) (cond (Nat.ble pc 95) (cond (Nat.ble pc 94) (cond (Nat.beq pc 94) (tc_iadd 95) tc_no) (cond (Nat.beq pc 95) (tc_zald 96) tc_no)) (cond (Nat.ble pc 96) (cond (Nat.beq pc 96) (tc_ifne 108 99) tc_no) (cond (Nat.ble pc 99) (cond (Nat.beq pc 99) (tc_ldI 5 101) tc_no) (cond (Nat.beq pc 101) (tc_ifne 108 104) tc_no))))) (cond (Nat.ble pc 109) (cond (Nat.ble pc 105) (cond (Nat.ble pc 104) (cond (Nat.beq pc 104) (tc_ic 1 105) tc_no) (cond (Nat.beq pc 105) (tc_goto 109) tc_no)) (cond (Nat.ble pc 108) (cond (Nat.beq pc 108) (tc_ic 0 109) tc_no) (cond (Nat.beq pc 109) (tc_iadd 110) tc_no))) (cond (Nat.ble pc 111) (cond (Nat.ble pc 110) (cond (Nat.beq pc 110) (tc_stI 2 111) tc_no) (cond (Nat.beq pc 111) (tc_iinc 3 1 114) tc_no)) (cond (Nat.ble pc 114) (cond (Nat.beq pc 114) (tc_goto 4) tc_no) (cond (Nat.ble pc 117) (cond (Nat.beq pc 117) (tc_ldI 2 118) tc_no) (cond (Nat.beq pc 118) (tc_iret) tc_no)))))))
theorem okX7_underAt : ∀ pc, dt_S mX7_underAt (tbX7_underAt pc) pc := by
  intro pc
  unfold tbX7_underAt
  exact dt_Sb (dt_Sb (dt_Sb (dt_Sb (dt_Sb (dt_Sb (dt_Sl 0 (sn_ic ⟨by decide, by decide⟩ dX7_underAt_0 rfl)) (dt_Sl 1 (sn_stIn rfl (by decide) dX7_underAt_1 rfl))) (dt_Sb (dt_Sl 2 (sn_ic ⟨by decide, by decide⟩ dX7_underAt_2 rfl)) (dt_Sl 3 (sn_stIn rfl (by decide) dX7_underAt_3 rfl)))) (dt_Sb (dt_Sb (dt_Sl 4 (sn_ldIn rfl dX7_underAt_4 rfl)) (dt_Sl 5 (sn_ldAn rfl dX7_underAt_5 rfl))) (dt_Sb (dt_Sl 6 (sn_getf rfl ffX7 (by decide) wq_3_137 dX7_underAt_6 rfl)) (dt_Sl 9 (sn_ldAn rfl dX7_underAt_9 rfl))))) (dt_Sb (dt_Sb (dt_Sb (dt_Sl 10 (sn_getf rfl ffX7 (by decide) wq_3_164 dX7_underAt_10 rfl)) (dt_Sl 13 (sn_iald dX7_underAt_13 rfl))) (dt_Sb (dt_Sl 14 (sn_icmpge dX7_underAt_14 (by decide) rfl)) (dt_Sl 17 (sn_ldAn rfl dX7_underAt_17 rfl)))) (dt_Sb (dt_Sb (dt_Sl 18 (sn_ldIn rfl dX7_underAt_18 rfl)) (dt_Sl 19 (sn_ldIn rfl dX7_underAt_19 rfl))) (dt_Sb (dt_Sl 20 (sn_callV rfl ffX7 nnX7_isDone rfl wq_4_135 wq_4_137 wq_0_45 dX7_underAt_20 rfl)) (dt_Sb (dt_Sl 23 (sn_stI (by decide) dX7_underAt_23 rfl)) (dt_Sl 25 (sn_ldAn rfl dX7_underAt_25 rfl))))))) (dt_Sb (dt_Sb (dt_Sb (dt_Sb (dt_Sl 26 (sn_ldIn rfl dX7_underAt_26 rfl)) (dt_Sl 27 (sn_ldAn rfl dX7_underAt_27 rfl))) (dt_Sb (dt_Sl 28 (sn_getf rfl ffX7 (by decide) wq_3_142 dX7_underAt_28 rfl)) (dt_Sl 31 (sn_bi ⟨by decide, by decide⟩ rfl dX7_underAt_31 rfl)))) (dt_Sb (dt_Sb (dt_Sl 33 (sn_ldAn rfl dX7_underAt_33 rfl)) (dt_Sl 34 (sn_getf rfl ffX7 (by decide) wq_3_164 dX7_underAt_34 rfl))) (dt_Sb (dt_Sl 37 (sn_imul dX7_underAt_37 rfl)) (dt_Sl 38 (sn_ldIn rfl dX7_underAt_38 rfl))))) (dt_Sb (dt_Sb (dt_Sb (dt_Sl 39 (sn_iadd dX7_underAt_39 rfl)) (dt_Sl 40 (sn_iald dX7_underAt_40 rfl))) (dt_Sb (dt_Sl 41 (sn_callV rfl ffX7 nnX7_isDone rfl wq_4_135 wq_4_137 wq_0_45 dX7_underAt_41 rfl)) (dt_Sl 44 (sn_stI (by decide) dX7_underAt_44 rfl)))) (dt_Sb (dt_Sb (dt_Sl 46 (sn_ldI dX7_underAt_46 rfl)) (dt_Sl 48 (sn_ifeq dX7_underAt_48 (by decide) rfl))) (dt_Sb (dt_Sl 51 (sn_ldAn rfl dX7_underAt_51 rfl)) (dt_Sb (dt_Sl 52 (sn_getf rfl ffX7 (by decide) wq_3_138 dX7_underAt_52 rfl)) (dt_Sl 55 (sn_bi ⟨by decide, by decide⟩ rfl dX7_underAt_55 rfl)))))))) (dt_Sb (dt_Sb (dt_Sb (dt_Sb (dt_Sb (dt_Sl 57 (sn_ldAn rfl dX7_underAt_57 rfl)) (dt_Sl 58 (sn_getf rfl ffX7 (by decide) wq_3_164 dX7_underAt_58 rfl))) (dt_Sb (dt_Sl 61 (sn_imul dX7_underAt_61 rfl)) (dt_Sl 62 (sn_ldIn rfl dX7_underAt_62 rfl)))) (dt_Sb (dt_Sb (dt_Sl 63 (sn_iadd dX7_underAt_63 rfl)) (dt_Sl 64 (sn_zald dX7_underAt_64 rfl))) (dt_Sb (dt_Sl 65 (sn_ifeq dX7_underAt_65 (by decide) rfl)) (dt_Sl 68 (sn_ldI dX7_underAt_68 rfl))))) (dt_Sb (dt_Sb (dt_Sb (dt_Sl 70 (sn_ifne dX7_underAt_70 (by decide) rfl)) (dt_Sl 73 (sn_bi ⟨by decide, by decide⟩ rfl dX7_underAt_73 rfl))) (dt_Sb (dt_Sl 75 (sn_iret rfl dX7_underAt_75)) (dt_Sl 76 (sn_ldIn rfl dX7_underAt_76 rfl)))) (dt_Sb (dt_Sb (dt_Sl 77 (sn_ldI dX7_underAt_77 rfl)) (dt_Sl 79 (sn_ifeq dX7_underAt_79 (by decide) rfl))) (dt_Sb (dt_Sl 82 (sn_ldAn rfl dX7_underAt_82 rfl)) (dt_Sb (dt_Sl 83 (sn_getf rfl ffX7 (by decide) wq_3_138 dX7_underAt_83 rfl)) (dt_Sl 86 (sn_bi ⟨by decide, by decide⟩ rfl dX7_underAt_86 rfl))))))) (dt_Sb (dt_Sb (dt_Sb (dt_Sb (dt_Sl 88 (sn_ldAn rfl dX7_underAt_88 rfl)) (dt_Sl 89 (sn_getf rfl ffX7 (by decide) wq_3_164 dX7_underAt_89 rfl))) (dt_Sb (dt_Sl 92 (sn_imul dX7_underAt_92 rfl)) (dt_Sl 93 (sn_ldIn rfl dX7_underAt_93 rfl)))) (dt_Sb (dt_Sb (dt_Sl 94 (sn_iadd dX7_underAt_94 rfl)) (dt_Sl 95 (sn_zald dX7_underAt_95 rfl))) (dt_Sb (dt_Sl 96 (sn_ifne dX7_underAt_96 (by decide) rfl)) (dt_Sb (dt_Sl 99 (sn_ldI dX7_underAt_99 rfl)) (dt_Sl 101 (sn_ifne dX7_underAt_101 (by decide) rfl)))))) (dt_Sb (dt_Sb (dt_Sb (dt_Sl 104 (sn_ic ⟨by decide, by decide⟩ dX7_underAt_104 rfl)) (dt_Sl 105 (sn_goto dX7_underAt_105 (by decide)))) (dt_Sb (dt_Sl 108 (sn_ic ⟨by decide, by decide⟩ dX7_underAt_108 rfl)) (dt_Sl 109 (sn_iadd dX7_underAt_109 rfl)))) (dt_Sb (dt_Sb (dt_Sl 110 (sn_stIn rfl (by decide) dX7_underAt_110 rfl)) (dt_Sl 111 (sn_iinc (by decide) dX7_underAt_111 rfl))) (dt_Sb (dt_Sl 114 (sn_goto dX7_underAt_114 (by decide))) (dt_Sb (dt_Sl 117 (sn_ldIn rfl dX7_underAt_117 rfl)) (dt_Sl 118 (sn_iret rfl dX7_underAt_118))))))))
theorem dX7_isDone_0 : decode cX7_isDone 0 = .ok (.aload_n 0, 1) := by decide +kernel
theorem dX7_isDone_1 : decode cX7_isDone 1 = .ok (.getfield 17, 3) := by decide +kernel
theorem dX7_isDone_4 : decode cX7_isDone 4 = .ok (.bipush 20, 2) := by decide +kernel
theorem dX7_isDone_6 : decode cX7_isDone 6 = .ok (.aload_n 0, 1) := by decide +kernel
theorem dX7_isDone_7 : decode cX7_isDone 7 = .ok (.getfield 200, 3) := by decide +kernel
theorem dX7_isDone_10 : decode cX7_isDone 10 = .ok (.imul, 1) := by decide +kernel
theorem dX7_isDone_11 : decode cX7_isDone 11 = .ok (.iload_n 2, 1) := by decide +kernel
theorem dX7_isDone_12 : decode cX7_isDone 12 = .ok (.iadd, 1) := by decide +kernel
theorem dX7_isDone_13 : decode cX7_isDone 13 = .ok (.iaload, 1) := by decide +kernel
theorem dX7_isDone_14 : decode cX7_isDone 14 = .ok (.istore_n 3, 1) := by decide +kernel
theorem dX7_isDone_15 : decode cX7_isDone 15 = .ok (.iconst 4, 1) := by decide +kernel
theorem dX7_isDone_16 : decode cX7_isDone 16 = .ok (.aload_n 0, 1) := by decide +kernel
theorem dX7_isDone_17 : decode cX7_isDone 17 = .ok (.getfield 200, 3) := by decide +kernel
theorem dX7_isDone_20 : decode cX7_isDone 20 = .ok (.imul, 1) := by decide +kernel
theorem dX7_isDone_21 : decode cX7_isDone 21 = .ok (.iload_n 3, 1) := by decide +kernel
theorem dX7_isDone_22 : decode cX7_isDone 22 = .ok (.iadd, 1) := by decide +kernel
theorem dX7_isDone_23 : decode cX7_isDone 23 = .ok (.istore 4, 2) := by decide +kernel
theorem dX7_isDone_25 : decode cX7_isDone 25 = .ok (.iconst 0, 1) := by decide +kernel
theorem dX7_isDone_26 : decode cX7_isDone 26 = .ok (.istore 5, 2) := by decide +kernel
theorem dX7_isDone_28 : decode cX7_isDone 28 = .ok (.iconst 0, 1) := by decide +kernel
theorem dX7_isDone_29 : decode cX7_isDone 29 = .ok (.istore 6, 2) := by decide +kernel
theorem dX7_isDone_31 : decode cX7_isDone 31 = .ok (.iload 6, 2) := by decide +kernel
theorem dX7_isDone_33 : decode cX7_isDone 33 = .ok (.aload_n 0, 1) := by decide +kernel
theorem dX7_isDone_34 : decode cX7_isDone 34 = .ok (.iload_n 1, 1) := by decide +kernel
theorem dX7_isDone_35 : decode cX7_isDone 35 = .ok (.iload_n 3, 1) := by decide +kernel
theorem dX7_isDone_36 : decode cX7_isDone 36 = .ok (.invokevirtual 206, 3) := by decide +kernel
theorem dX7_isDone_39 : decode cX7_isDone 39 = .ok (.if_icmp .ge 38, 3) := by decide +kernel
theorem dX7_isDone_42 : decode cX7_isDone 42 = .ok (.iload 5, 2) := by decide +kernel
theorem dX7_isDone_44 : decode cX7_isDone 44 = .ok (.ifCond .ne 20, 3) := by decide +kernel
theorem dX7_isDone_47 : decode cX7_isDone 47 = .ok (.aload_n 0, 1) := by decide +kernel
theorem dX7_isDone_48 : decode cX7_isDone 48 = .ok (.getfield 32, 3) := by decide +kernel
theorem dX7_isDone_51 : decode cX7_isDone 51 = .ok (.bipush 20, 2) := by decide +kernel
theorem dX7_isDone_53 : decode cX7_isDone 53 = .ok (.iload 4, 2) := by decide +kernel
theorem dX7_isDone_55 : decode cX7_isDone 55 = .ok (.imul, 1) := by decide +kernel
theorem dX7_isDone_56 : decode cX7_isDone 56 = .ok (.iload 6, 2) := by decide +kernel
theorem dX7_isDone_58 : decode cX7_isDone 58 = .ok (.iadd, 1) := by decide +kernel
theorem dX7_isDone_59 : decode cX7_isDone 59 = .ok (.iaload, 1) := by decide +kernel
theorem dX7_isDone_60 : decode cX7_isDone 60 = .ok (.iload_n 2, 1) := by decide +kernel
theorem dX7_isDone_61 : decode cX7_isDone 61 = .ok (.if_icmp .ne 7, 3) := by decide +kernel
theorem dX7_isDone_64 : decode cX7_isDone 64 = .ok (.iconst 1, 1) := by decide +kernel
theorem dX7_isDone_65 : decode cX7_isDone 65 = .ok (.goto 4, 3) := by decide +kernel
theorem dX7_isDone_68 : decode cX7_isDone 68 = .ok (.iconst 0, 1) := by decide +kernel
theorem dX7_isDone_69 : decode cX7_isDone 69 = .ok (.istore 5, 2) := by decide +kernel
theorem dX7_isDone_71 : decode cX7_isDone 71 = .ok (.iinc 6 1, 3) := by decide +kernel
theorem dX7_isDone_74 : decode cX7_isDone 74 = .ok (.goto (-43), 3) := by decide +kernel
theorem dX7_isDone_77 : decode cX7_isDone 77 = .ok (.iload 5, 2) := by decide +kernel
theorem dX7_isDone_79 : decode cX7_isDone 79 = .ok (.ireturn, 1) := by decide +kernel
def tbX7_isDone (pc : Nat) : dt_T := cond (Nat.ble pc 33) (cond (Nat.ble pc 15) (cond (Nat.ble pc 7) (cond (Nat.ble pc 1) (cond (Nat.ble pc 0) (cond (Nat.beq pc 0) (tc_ldA 0 1) tc_no) (cond (Nat.beq pc 1) (tc_getf 7 2 4) tc_no)) (cond (Nat.ble pc 4) (cond (Nat.beq pc 4) (tc_ic 20 6) tc_no) (cond (Nat.ble pc 6) (cond (Nat.beq pc 6) (tc_ldA 0 7) tc_no) (cond (Nat.beq pc 7) (tc_getf 7 27 10) tc_no)))) (cond (Nat.ble pc 12) (cond (Nat.ble pc 10) (cond (Nat.beq pc 10) (tc_imul 11) tc_no) (cond (Nat.ble pc 11) (cond (Nat.beq pc 11) (tc_ldI 2 12) tc_no) (cond (Nat.beq pc 12) (tc_iadd 13) tc_no))) (cond (Nat.ble pc 13) (cond (Nat.beq pc 13) (tc_iald 14) tc_no) (cond (Nat.ble pc 14) (cond (Nat.beq pc 14) (tc_stI 3 15) tc_no) (cond (Nat.beq pc 15) (tc_ic 4 16) tc_no))))) (cond (Nat.ble pc 23) (cond (Nat.ble pc 20) (cond (Nat.ble pc 16) (cond (Nat.beq pc 16) (tc_ldA 0 17) tc_no) (cond (Nat.ble pc 17) (cond (Nat.beq pc 17) (tc_getf 7 27 20) tc_no) (cond (Nat.beq pc 20) (tc_imul 21) tc_no))) (cond (Nat.ble pc 21) (cond (Nat.beq pc 21) (tc_ldI 3 22) tc_no) (cond (Nat.ble pc 22) (cond (Nat.beq pc 22) (tc_iadd 23) tc_no) (cond (Nat.beq pc 23) (tc_stI 4 25) tc_no)))) (cond (Nat.ble pc 28) (cond (Nat.ble pc 25) (cond (Nat.beq pc 25) (tc_ic 0 26) tc_no) (cond (Nat.ble pc 26) (cond (Nat.beq pc 26) (tc_stI 5 28) tc_no) (cond (Nat.beq pc 28) (tc_ic 0 29) tc_no))) (cond (Nat.ble pc 29) (cond (Nat.beq pc 29) (tc_stI 6 31) tc_no) (cond (Nat.ble pc 31) (cond (Nat.beq pc 31) (tc_ldI 6 33) tc_no) (cond (Nat.beq pc 33) (tc_ldA 0 34) tc_no)))))) (cond (Nat.ble pc 56) (cond (Nat.ble pc 44) (cond (Nat.ble pc 36) (cond (Nat.ble pc 34) (cond (Nat.beq pc 34) (tc_ldI 1 35) tc_no) (cond (Nat.ble pc 35) (cond (Nat.beq pc 35) (tc_ldI 3 36) tc_no) (cond (Nat.beq pc 36) (tc_callV 7 mX7_come 2 39) tc_no))) (cond (Nat.ble pc 39) (cond (Nat.beq pc 39) (tc_icmpge 77 42) tc_no) (cond (Nat.ble pc 42) (cond (Nat.beq pc 42) (tc_ldI 5 44) tc_no) (cond (Nat.beq pc 44) (tc_ifne 64 47) tc_no)))) (cond (Nat.ble pc 51) (cond (Nat.ble pc 47) (cond (Nat.beq pc 47) (tc_ldA 0 48) tc_no) (cond (Nat.ble pc 48) (cond (Nat.beq pc 48) (tc_getf 7 7 51) tc_no) (cond (Nat.beq pc 51) (tc_ic 20 53) tc_no))) (cond (Nat.ble pc 53) (cond (Nat.beq pc 53) (tc_ldI 4 55) tc_no) (cond (Nat.ble pc 55) (cond (Nat.beq pc 55) (tc_imul 56) tc_no) (cond (Nat.beq pc 56) (tc_ldI 6 58) tc_no))))) (cond (Nat.ble pc 65) (cond (Nat.ble pc 60) (cond (Nat.ble pc 58) (cond (Nat.beq pc 58) (tc_iadd 59) tc_no) (cond (Nat.ble pc 59) (cond (Nat.beq pc 59) (tc_iald 60) tc_no) (cond (Nat.beq pc 60) (tc_ldI 2 61) tc_no))) (cond (Nat.ble pc 61) (cond (Nat.beq pc 61) (tc_icmpne 68 64) tc_no) (cond (Nat.ble pc 64) (cond (Nat.beq pc 64) (tc_ic 1 65) tc_no) (cond (Nat.beq pc 65) (tc_goto 69) tc_no)))) (cond (Nat.ble pc 71) (cond (Nat.ble pc 68) (cond (Nat.beq pc 68) (tc_ic 0 69) tc_no) (cond (Nat.ble pc 69) (cond (Nat.beq pc 69) (tc_stI 5 71) tc_no) (cond (Nat.beq pc 71) (tc_iinc 6 1 74) tc_no))) (cond (Nat.ble pc 74) (cond (Nat.beq pc 74) (tc_goto 31) tc_no) (cond (Nat.ble pc 77) (cond (Nat.beq pc 77) (tc_ldI 5 79) tc_no) (cond (Nat.beq pc 79) (tc_zret) tc_no))))))
theorem okX7_isDone : ∀ pc, dt_S mX7_isDone (tbX7_isDone pc) pc := by
  intro pc
  unfold tbX7_isDone
  exact dt_Sb (dt_Sb (dt_Sb (dt_Sb (dt_Sb (dt_Sl 0 (sn_ldAn rfl dX7_isDone_0 rfl)) (dt_Sl 1 (sn_getf rfl ffX7 (by decide) wq_3_139 dX7_isDone_1 rfl))) (dt_Sb (dt_Sl 4 (sn_bi ⟨by decide, by decide⟩ rfl dX7_isDone_4 rfl)) (dt_Sb (dt_Sl 6 (sn_ldAn rfl dX7_isDone_6 rfl)) (dt_Sl 7 (sn_getf rfl ffX7 (by decide) wq_3_164 dX7_isDone_7 rfl))))) (dt_Sb (dt_Sb (dt_Sl 10 (sn_imul dX7_isDone_10 rfl)) (dt_Sb (dt_Sl 11 (sn_ldIn rfl dX7_isDone_11 rfl)) (dt_Sl 12 (sn_iadd dX7_isDone_12 rfl)))) (dt_Sb (dt_Sl 13 (sn_iald dX7_isDone_13 rfl)) (dt_Sb (dt_Sl 14 (sn_stIn rfl (by decide) dX7_isDone_14 rfl)) (dt_Sl 15 (sn_ic ⟨by decide, by decide⟩ dX7_isDone_15 rfl)))))) (dt_Sb (dt_Sb (dt_Sb (dt_Sl 16 (sn_ldAn rfl dX7_isDone_16 rfl)) (dt_Sb (dt_Sl 17 (sn_getf rfl ffX7 (by decide) wq_3_164 dX7_isDone_17 rfl)) (dt_Sl 20 (sn_imul dX7_isDone_20 rfl)))) (dt_Sb (dt_Sl 21 (sn_ldIn rfl dX7_isDone_21 rfl)) (dt_Sb (dt_Sl 22 (sn_iadd dX7_isDone_22 rfl)) (dt_Sl 23 (sn_stI (by decide) dX7_isDone_23 rfl))))) (dt_Sb (dt_Sb (dt_Sl 25 (sn_ic ⟨by decide, by decide⟩ dX7_isDone_25 rfl)) (dt_Sb (dt_Sl 26 (sn_stI (by decide) dX7_isDone_26 rfl)) (dt_Sl 28 (sn_ic ⟨by decide, by decide⟩ dX7_isDone_28 rfl)))) (dt_Sb (dt_Sl 29 (sn_stI (by decide) dX7_isDone_29 rfl)) (dt_Sb (dt_Sl 31 (sn_ldI dX7_isDone_31 rfl)) (dt_Sl 33 (sn_ldAn rfl dX7_isDone_33 rfl))))))) (dt_Sb (dt_Sb (dt_Sb (dt_Sb (dt_Sl 34 (sn_ldIn rfl dX7_isDone_34 rfl)) (dt_Sb (dt_Sl 35 (sn_ldIn rfl dX7_isDone_35 rfl)) (dt_Sl 36 (sn_callV rfl ffX7 nnX7_come rfl wq_4_139 wq_4_141 wq_0_46 dX7_isDone_36 rfl)))) (dt_Sb (dt_Sl 39 (sn_icmpge dX7_isDone_39 (by decide) rfl)) (dt_Sb (dt_Sl 42 (sn_ldI dX7_isDone_42 rfl)) (dt_Sl 44 (sn_ifne dX7_isDone_44 (by decide) rfl))))) (dt_Sb (dt_Sb (dt_Sl 47 (sn_ldAn rfl dX7_isDone_47 rfl)) (dt_Sb (dt_Sl 48 (sn_getf rfl ffX7 (by decide) wq_3_144 dX7_isDone_48 rfl)) (dt_Sl 51 (sn_bi ⟨by decide, by decide⟩ rfl dX7_isDone_51 rfl)))) (dt_Sb (dt_Sl 53 (sn_ldI dX7_isDone_53 rfl)) (dt_Sb (dt_Sl 55 (sn_imul dX7_isDone_55 rfl)) (dt_Sl 56 (sn_ldI dX7_isDone_56 rfl)))))) (dt_Sb (dt_Sb (dt_Sb (dt_Sl 58 (sn_iadd dX7_isDone_58 rfl)) (dt_Sb (dt_Sl 59 (sn_iald dX7_isDone_59 rfl)) (dt_Sl 60 (sn_ldIn rfl dX7_isDone_60 rfl)))) (dt_Sb (dt_Sl 61 (sn_icmpne dX7_isDone_61 (by decide) rfl)) (dt_Sb (dt_Sl 64 (sn_ic ⟨by decide, by decide⟩ dX7_isDone_64 rfl)) (dt_Sl 65 (sn_goto dX7_isDone_65 (by decide)))))) (dt_Sb (dt_Sb (dt_Sl 68 (sn_ic ⟨by decide, by decide⟩ dX7_isDone_68 rfl)) (dt_Sb (dt_Sl 69 (sn_stI (by decide) dX7_isDone_69 rfl)) (dt_Sl 71 (sn_iinc (by decide) dX7_isDone_71 rfl)))) (dt_Sb (dt_Sl 74 (sn_goto dX7_isDone_74 (by decide))) (dt_Sb (dt_Sl 77 (sn_ldI dX7_isDone_77 rfl)) (dt_Sl 79 (sn_zret rfl dX7_isDone_79)))))))
theorem dX7_layMoments_0 : decode cX7_layMoments 0 = .ok (.aload_n 0, 1) := by decide +kernel
theorem dX7_layMoments_1 : decode cX7_layMoments 1 = .ok (.iload_n 1, 1) := by decide +kernel
theorem dX7_layMoments_2 : decode cX7_layMoments 2 = .ok (.putfield 200, 3) := by decide +kernel
theorem dX7_layMoments_5 : decode cX7_layMoments 5 = .ok (.aload_n 0, 1) := by decide +kernel
theorem dX7_layMoments_6 : decode cX7_layMoments 6 = .ok (.getfield 56, 3) := by decide +kernel
theorem dX7_layMoments_9 : decode cX7_layMoments 9 = .ok (.iconst 0, 1) := by decide +kernel
theorem dX7_layMoments_10 : decode cX7_layMoments 10 = .ok (.iconst 1, 1) := by decide +kernel
theorem dX7_layMoments_11 : decode cX7_layMoments 11 = .ok (.iastore, 1) := by decide +kernel
theorem dX7_layMoments_12 : decode cX7_layMoments 12 = .ok (.iconst 0, 1) := by decide +kernel
theorem dX7_layMoments_13 : decode cX7_layMoments 13 = .ok (.istore_n 2, 1) := by decide +kernel
theorem dX7_layMoments_14 : decode cX7_layMoments 14 = .ok (.iload_n 2, 1) := by decide +kernel
theorem dX7_layMoments_15 : decode cX7_layMoments 15 = .ok (.iconst 4, 1) := by decide +kernel
theorem dX7_layMoments_16 : decode cX7_layMoments 16 = .ok (.if_icmp .ge 36, 3) := by decide +kernel
theorem dX7_layMoments_19 : decode cX7_layMoments 19 = .ok (.aload_n 0, 1) := by decide +kernel
theorem dX7_layMoments_20 : decode cX7_layMoments 20 = .ok (.getfield 56, 3) := by decide +kernel
theorem dX7_layMoments_23 : decode cX7_layMoments 23 = .ok (.iload_n 2, 1) := by decide +kernel
theorem dX7_layMoments_24 : decode cX7_layMoments 24 = .ok (.iconst 1, 1) := by decide +kernel
theorem dX7_layMoments_25 : decode cX7_layMoments 25 = .ok (.iadd, 1) := by decide +kernel
theorem dX7_layMoments_26 : decode cX7_layMoments 26 = .ok (.aload_n 0, 1) := by decide +kernel
theorem dX7_layMoments_27 : decode cX7_layMoments 27 = .ok (.getfield 56, 3) := by decide +kernel
theorem dX7_layMoments_30 : decode cX7_layMoments 30 = .ok (.iload_n 2, 1) := by decide +kernel
theorem dX7_layMoments_31 : decode cX7_layMoments 31 = .ok (.iaload, 1) := by decide +kernel
theorem dX7_layMoments_32 : decode cX7_layMoments 32 = .ok (.aload_n 0, 1) := by decide +kernel
theorem dX7_layMoments_33 : decode cX7_layMoments 33 = .ok (.getfield 29, 3) := by decide +kernel
theorem dX7_layMoments_36 : decode cX7_layMoments 36 = .ok (.iconst 4, 1) := by decide +kernel
theorem dX7_layMoments_37 : decode cX7_layMoments 37 = .ok (.iload_n 1, 1) := by decide +kernel
theorem dX7_layMoments_38 : decode cX7_layMoments 38 = .ok (.imul, 1) := by decide +kernel
theorem dX7_layMoments_39 : decode cX7_layMoments 39 = .ok (.iload_n 2, 1) := by decide +kernel
theorem dX7_layMoments_40 : decode cX7_layMoments 40 = .ok (.iadd, 1) := by decide +kernel
theorem dX7_layMoments_41 : decode cX7_layMoments 41 = .ok (.iaload, 1) := by decide +kernel
theorem dX7_layMoments_42 : decode cX7_layMoments 42 = .ok (.iconst 1, 1) := by decide +kernel
theorem dX7_layMoments_43 : decode cX7_layMoments 43 = .ok (.iadd, 1) := by decide +kernel
theorem dX7_layMoments_44 : decode cX7_layMoments 44 = .ok (.imul, 1) := by decide +kernel
theorem dX7_layMoments_45 : decode cX7_layMoments 45 = .ok (.iastore, 1) := by decide +kernel
theorem dX7_layMoments_46 : decode cX7_layMoments 46 = .ok (.iinc 2 1, 3) := by decide +kernel
theorem dX7_layMoments_49 : decode cX7_layMoments 49 = .ok (.goto (-35), 3) := by decide +kernel
theorem dX7_layMoments_52 : decode cX7_layMoments 52 = .ok (.aload_n 0, 1) := by decide +kernel
theorem dX7_layMoments_53 : decode cX7_layMoments 53 = .ok (.iconst 0, 1) := by decide +kernel
theorem dX7_layMoments_54 : decode cX7_layMoments 54 = .ok (.putfield 210, 3) := by decide +kernel
theorem dX7_layMoments_57 : decode cX7_layMoments 57 = .ok (.aload_n 0, 1) := by decide +kernel
theorem dX7_layMoments_58 : decode cX7_layMoments 58 = .ok (.iconst 0, 1) := by decide +kernel
theorem dX7_layMoments_59 : decode cX7_layMoments 59 = .ok (.putfield 213, 3) := by decide +kernel
theorem dX7_layMoments_62 : decode cX7_layMoments 62 = .ok (.aload_n 0, 1) := by decide +kernel
theorem dX7_layMoments_63 : decode cX7_layMoments 63 = .ok (.getfield 56, 3) := by decide +kernel
theorem dX7_layMoments_66 : decode cX7_layMoments 66 = .ok (.iconst 4, 1) := by decide +kernel
theorem dX7_layMoments_67 : decode cX7_layMoments 67 = .ok (.iaload, 1) := by decide +kernel
theorem dX7_layMoments_68 : decode cX7_layMoments 68 = .ok (.iconst 1, 1) := by decide +kernel
theorem dX7_layMoments_69 : decode cX7_layMoments 69 = .ok (.isub, 1) := by decide +kernel
theorem dX7_layMoments_70 : decode cX7_layMoments 70 = .ok (.istore_n 2, 1) := by decide +kernel
theorem dX7_layMoments_71 : decode cX7_layMoments 71 = .ok (.iload_n 2, 1) := by decide +kernel
theorem dX7_layMoments_72 : decode cX7_layMoments 72 = .ok (.ifCond .lt 70, 3) := by decide +kernel
theorem dX7_layMoments_75 : decode cX7_layMoments 75 = .ok (.aload_n 0, 1) := by decide +kernel
theorem dX7_layMoments_76 : decode cX7_layMoments 76 = .ok (.iload_n 2, 1) := by decide +kernel
theorem dX7_layMoments_77 : decode cX7_layMoments 77 = .ok (.invokevirtual 216, 3) := by decide +kernel
theorem dX7_layMoments_80 : decode cX7_layMoments 80 = .ok (.istore_n 3, 1) := by decide +kernel
theorem dX7_layMoments_81 : decode cX7_layMoments 81 = .ok (.aload_n 0, 1) := by decide +kernel
theorem dX7_layMoments_82 : decode cX7_layMoments 82 = .ok (.getfield 59, 3) := by decide +kernel
theorem dX7_layMoments_85 : decode cX7_layMoments 85 = .ok (.iload_n 2, 1) := by decide +kernel
theorem dX7_layMoments_86 : decode cX7_layMoments 86 = .ok (.lconst 0, 1) := by decide +kernel
theorem dX7_layMoments_87 : decode cX7_layMoments 87 = .ok (.lastore, 1) := by decide +kernel
theorem dX7_layMoments_88 : decode cX7_layMoments 88 = .ok (.aload_n 0, 1) := by decide +kernel
theorem dX7_layMoments_89 : decode cX7_layMoments 89 = .ok (.getfield 63, 3) := by decide +kernel
theorem dX7_layMoments_92 : decode cX7_layMoments 92 = .ok (.iload_n 2, 1) := by decide +kernel
theorem dX7_layMoments_93 : decode cX7_layMoments 93 = .ok (.bipush 99, 2) := by decide +kernel
theorem dX7_layMoments_95 : decode cX7_layMoments 95 = .ok (.iastore, 1) := by decide +kernel
theorem dX7_layMoments_96 : decode cX7_layMoments 96 = .ok (.iload_n 3, 1) := by decide +kernel
theorem dX7_layMoments_97 : decode cX7_layMoments 97 = .ok (.ifCond .lt 39, 3) := by decide +kernel
theorem dX7_layMoments_100 : decode cX7_layMoments 100 = .ok (.aload_n 0, 1) := by decide +kernel
theorem dX7_layMoments_101 : decode cX7_layMoments 101 = .ok (.dup, 1) := by decide +kernel
theorem dX7_layMoments_102 : decode cX7_layMoments 102 = .ok (.getfield 210, 3) := by decide +kernel
theorem dX7_layMoments_105 : decode cX7_layMoments 105 = .ok (.iconst 1, 1) := by decide +kernel
theorem dX7_layMoments_106 : decode cX7_layMoments 106 = .ok (.iadd, 1) := by decide +kernel
theorem dX7_layMoments_107 : decode cX7_layMoments 107 = .ok (.putfield 210, 3) := by decide +kernel
theorem dX7_layMoments_110 : decode cX7_layMoments 110 = .ok (.aload_n 0, 1) := by decide +kernel
theorem dX7_layMoments_111 : decode cX7_layMoments 111 = .ok (.iload_n 3, 1) := by decide +kernel
theorem dX7_layMoments_112 : decode cX7_layMoments 112 = .ok (.aload_n 0, 1) := by decide +kernel
theorem dX7_layMoments_113 : decode cX7_layMoments 113 = .ok (.getfield 213, 3) := by decide +kernel
theorem dX7_layMoments_116 : decode cX7_layMoments 116 = .ok (.if_icmp .le 7, 3) := by decide +kernel
theorem dX7_layMoments_119 : decode cX7_layMoments 119 = .ok (.iload_n 3, 1) := by decide +kernel
theorem dX7_layMoments_120 : decode cX7_layMoments 120 = .ok (.goto 7, 3) := by decide +kernel
theorem dX7_layMoments_123 : decode cX7_layMoments 123 = .ok (.aload_n 0, 1) := by decide +kernel
theorem dX7_layMoments_124 : decode cX7_layMoments 124 = .ok (.getfield 213, 3) := by decide +kernel
theorem dX7_layMoments_127 : decode cX7_layMoments 127 = .ok (.putfield 213, 3) := by decide +kernel
theorem dX7_layMoments_130 : decode cX7_layMoments 130 = .ok (.aload_n 0, 1) := by decide +kernel
theorem dX7_layMoments_131 : decode cX7_layMoments 131 = .ok (.iload_n 2, 1) := by decide +kernel
theorem dX7_layMoments_132 : decode cX7_layMoments 132 = .ok (.iload_n 3, 1) := by decide +kernel
theorem dX7_layMoments_133 : decode cX7_layMoments 133 = .ok (.invokevirtual 219, 3) := by decide +kernel
theorem dX7_layMoments_136 : decode cX7_layMoments 136 = .ok (.iinc 2 (-1), 3) := by decide +kernel
theorem dX7_layMoments_139 : decode cX7_layMoments 139 = .ok (.goto (-68), 3) := by decide +kernel
theorem dX7_layMoments_142 : decode cX7_layMoments 142 = .ok (.return_, 1) := by decide +kernel
def tbX7_layMoments (pc : Nat) : dt_T := cond (Nat.ble pc 66) (cond (Nat.ble pc 31) (cond (Nat.ble pc 14) (cond (Nat.ble pc 6) (cond (Nat.ble pc 1) (cond (Nat.ble pc 0) (cond (Nat.beq pc 0) (tc_ldA 0 1) tc_no) (cond (Nat.beq pc 1) (tc_ldI 1 2) tc_no)) (cond (Nat.ble pc 2) (cond (Nat.beq pc 2) (tc_putI 7 27 5) tc_no) (cond (Nat.ble pc 5) (cond (Nat.beq pc 5) (tc_ldA 0 6) tc_no) (cond (Nat.beq pc 6) (tc_getf 7 22 9) tc_no)))) (cond (Nat.ble pc 11) (cond (Nat.ble pc 9) (cond (Nat.beq pc 9) (tc_ic 0 10) tc_no) (cond (Nat.ble pc 10) (cond (Nat.beq pc 10) (tc_ic 1 11) tc_no) (cond (Nat.beq pc 11) (tc_iast 12) tc_no))) (cond (Nat.ble pc 12) (cond (Nat.beq pc 12) (tc_ic 0 13) tc_no) (cond (Nat.ble pc 13) (cond (Nat.beq pc 13) (tc_stI 2 14) tc_no) (cond (Nat.beq pc 14) (tc_ldI 2 15) tc_no))))) (cond (Nat.ble pc 23) (cond (Nat.ble pc 16) (cond (Nat.ble pc 15) (cond (Nat.beq pc 15) (tc_ic 4 16) tc_no) (cond (Nat.beq pc 16) (tc_icmpge 52 19) tc_no)) (cond (Nat.ble pc 19) (cond (Nat.beq pc 19) (tc_ldA 0 20) tc_no) (cond (Nat.ble pc 20) (cond (Nat.beq pc 20) (tc_getf 7 22 23) tc_no) (cond (Nat.beq pc 23) (tc_ldI 2 24) tc_no)))) (cond (Nat.ble pc 26) (cond (Nat.ble pc 24) (cond (Nat.beq pc 24) (tc_ic 1 25) tc_no) (cond (Nat.ble pc 25) (cond (Nat.beq pc 25) (tc_iadd 26) tc_no) (cond (Nat.beq pc 26) (tc_ldA 0 27) tc_no))) (cond (Nat.ble pc 27) (cond (Nat.beq pc 27) (tc_getf 7 22 30) tc_no) (cond (Nat.ble pc 30) (cond (Nat.beq pc 30) (tc_ldI 2 31) tc_no) (cond (Nat.beq pc 31) (tc_iald 32) tc_no)))))) (cond (Nat.ble pc 44) (cond (Nat.ble pc 38) (cond (Nat.ble pc 33) (cond (Nat.ble pc 32) (cond (Nat.beq pc 32) (tc_ldA 0 33) tc_no) (cond (Nat.beq pc 33) (tc_getf 7 6 36) tc_no)) (cond (Nat.ble pc 36) (cond (Nat.beq pc 36) (tc_ic 4 37) tc_no) (cond (Nat.ble pc 37) (cond (Nat.beq pc 37) (tc_ldI 1 38) tc_no) (cond (Nat.beq pc 38) (tc_imul 39) tc_no)))) (cond (Nat.ble pc 41) (cond (Nat.ble pc 39) (cond (Nat.beq pc 39) (tc_ldI 2 40) tc_no) (cond (Nat.ble pc 40) (cond (Nat.beq pc 40) (tc_iadd 41) tc_no) (cond (Nat.beq pc 41) (tc_iald 42) tc_no))) (cond (Nat.ble pc 42) (cond (Nat.beq pc 42) (tc_ic 1 43) tc_no) (cond (Nat.ble pc 43) (cond (Nat.beq pc 43) (tc_iadd 44) tc_no) (cond (Nat.beq pc 44) (tc_imul 45) tc_no))))) (cond (Nat.ble pc 54) (cond (Nat.ble pc 49) (cond (Nat.ble pc 45) (cond (Nat.beq pc 45) (tc_iast 46) tc_no) (cond (Nat.ble pc 46) (cond (Nat.beq pc 46) (tc_iinc 2 1 49) tc_no) (cond (Nat.beq pc 49) (tc_goto 14) tc_no))) (cond (Nat.ble pc 52) (cond (Nat.beq pc 52) (tc_ldA 0 53) tc_no) (cond (Nat.ble pc 53) (cond (Nat.beq pc 53) (tc_ic 0 54) tc_no) (cond (Nat.beq pc 54) (tc_putI 7 25 57) tc_no)))) (cond (Nat.ble pc 59) (cond (Nat.ble pc 57) (cond (Nat.beq pc 57) (tc_ldA 0 58) tc_no) (cond (Nat.ble pc 58) (cond (Nat.beq pc 58) (tc_ic 0 59) tc_no) (cond (Nat.beq pc 59) (tc_putI 7 26 62) tc_no))) (cond (Nat.ble pc 62) (cond (Nat.beq pc 62) (tc_ldA 0 63) tc_no) (cond (Nat.ble pc 63) (cond (Nat.beq pc 63) (tc_getf 7 22 66) tc_no) (cond (Nat.beq pc 66) (tc_ic 4 67) tc_no))))))) (cond (Nat.ble pc 97) (cond (Nat.ble pc 81) (cond (Nat.ble pc 71) (cond (Nat.ble pc 68) (cond (Nat.ble pc 67) (cond (Nat.beq pc 67) (tc_iald 68) tc_no) (cond (Nat.beq pc 68) (tc_ic 1 69) tc_no)) (cond (Nat.ble pc 69) (cond (Nat.beq pc 69) (tc_isub 70) tc_no) (cond (Nat.ble pc 70) (cond (Nat.beq pc 70) (tc_stI 2 71) tc_no) (cond (Nat.beq pc 71) (tc_ldI 2 72) tc_no)))) (cond (Nat.ble pc 76) (cond (Nat.ble pc 72) (cond (Nat.beq pc 72) (tc_iflt 142 75) tc_no) (cond (Nat.ble pc 75) (cond (Nat.beq pc 75) (tc_ldA 0 76) tc_no) (cond (Nat.beq pc 76) (tc_ldI 2 77) tc_no))) (cond (Nat.ble pc 77) (cond (Nat.beq pc 77) (tc_callV 7 mX7_underAt 1 80) tc_no) (cond (Nat.ble pc 80) (cond (Nat.beq pc 80) (tc_stI 3 81) tc_no) (cond (Nat.beq pc 81) (tc_ldA 0 82) tc_no))))) (cond (Nat.ble pc 88) (cond (Nat.ble pc 85) (cond (Nat.ble pc 82) (cond (Nat.beq pc 82) (tc_getf 7 23 85) tc_no) (cond (Nat.beq pc 85) (tc_ldI 2 86) tc_no)) (cond (Nat.ble pc 86) (cond (Nat.beq pc 86) (tc_lc 0 87) tc_no) (cond (Nat.ble pc 87) (cond (Nat.beq pc 87) (tc_last 88) tc_no) (cond (Nat.beq pc 88) (tc_ldA 0 89) tc_no)))) (cond (Nat.ble pc 93) (cond (Nat.ble pc 89) (cond (Nat.beq pc 89) (tc_getf 7 24 92) tc_no) (cond (Nat.ble pc 92) (cond (Nat.beq pc 92) (tc_ldI 2 93) tc_no) (cond (Nat.beq pc 93) (tc_ic 99 95) tc_no))) (cond (Nat.ble pc 95) (cond (Nat.beq pc 95) (tc_iast 96) tc_no) (cond (Nat.ble pc 96) (cond (Nat.beq pc 96) (tc_ldI 3 97) tc_no) (cond (Nat.beq pc 97) (tc_iflt 136 100) tc_no)))))) (cond (Nat.ble pc 116) (cond (Nat.ble pc 106) (cond (Nat.ble pc 101) (cond (Nat.ble pc 100) (cond (Nat.beq pc 100) (tc_ldA 0 101) tc_no) (cond (Nat.beq pc 101) (tc_dup 102) tc_no)) (cond (Nat.ble pc 102) (cond (Nat.beq pc 102) (tc_getf 7 25 105) tc_no) (cond (Nat.ble pc 105) (cond (Nat.beq pc 105) (tc_ic 1 106) tc_no) (cond (Nat.beq pc 106) (tc_iadd 107) tc_no)))) (cond (Nat.ble pc 111) (cond (Nat.ble pc 107) (cond (Nat.beq pc 107) (tc_putI 7 25 110) tc_no) (cond (Nat.ble pc 110) (cond (Nat.beq pc 110) (tc_ldA 0 111) tc_no) (cond (Nat.beq pc 111) (tc_ldI 3 112) tc_no))) (cond (Nat.ble pc 112) (cond (Nat.beq pc 112) (tc_ldA 0 113) tc_no) (cond (Nat.ble pc 113) (cond (Nat.beq pc 113) (tc_getf 7 26 116) tc_no) (cond (Nat.beq pc 116) (tc_icmple 123 119) tc_no))))) (cond (Nat.ble pc 130) (cond (Nat.ble pc 123) (cond (Nat.ble pc 119) (cond (Nat.beq pc 119) (tc_ldI 3 120) tc_no) (cond (Nat.ble pc 120) (cond (Nat.beq pc 120) (tc_goto 127) tc_no) (cond (Nat.beq pc 123) (tc_ldA 0 124) tc_no))) (cond (Nat.ble pc 124) (cond (Nat.beq pc 124) (tc_getf 7 26 127) tc_no) (cond (Nat.ble pc 127) (cond (Nat.beq pc 127) (tc_putI 7 26 130) tc_no) (cond (Nat.beq pc 130) (tc_ldA 0 131) tc_no)))) (cond (Nat.ble pc 133) (cond (Nat.ble pc 131) (cond (Nat.beq pc 131) (tc_ldI 2 132) tc_no) (cond (Nat.ble pc 132) (cond (Nat.beq pc 132) (tc_ldI 3 133) tc_no) (cond (Nat.beq pc 133) (tc_callV 7 mX7_layMoment 2 136) tc_no))) (cond (Nat.ble pc 136) (cond (Nat.beq pc 136) (tc_iinc 2 (-1) 139) tc_no) (cond (Nat.ble pc 139) (cond (Nat.beq pc 139) (tc_goto 71) tc_no) (cond (Nat.beq pc 142) (tc_ret) tc_no)))))))
theorem okX7_layMoments : ∀ pc, dt_S mX7_layMoments (tbX7_layMoments pc) pc := by
  intro pc
  unfold tbX7_layMoments
  exact dt_Sb (dt_Sb (dt_Sb (dt_Sb (dt_Sb (dt_Sb (dt_Sl 0 (sn_ldAn rfl dX7_layMoments_0 rfl)) (dt_Sl 1 (sn_ldIn rfl dX7_layMoments_1 rfl))) (dt_Sb (dt_Sl 2 (sn_putI rfl ffX7 (by decide) rfl rfl (by decide +kernel) wq_3_164 dX7_layMoments_2 rfl)) (dt_Sb (dt_Sl 5 (sn_ldAn rfl dX7_layMoments_5 rfl)) (dt_Sl 6 (sn_getf rfl ffX7 (by decide) wq_3_159 dX7_layMoments_6 rfl))))) (dt_Sb (dt_Sb (dt_Sl 9 (sn_ic ⟨by decide, by decide⟩ dX7_layMoments_9 rfl)) (dt_Sb (dt_Sl 10 (sn_ic ⟨by decide, by decide⟩ dX7_layMoments_10 rfl)) (dt_Sl 11 (sn_iast dX7_layMoments_11 rfl)))) (dt_Sb (dt_Sl 12 (sn_ic ⟨by decide, by decide⟩ dX7_layMoments_12 rfl)) (dt_Sb (dt_Sl 13 (sn_stIn rfl (by decide) dX7_layMoments_13 rfl)) (dt_Sl 14 (sn_ldIn rfl dX7_layMoments_14 rfl)))))) (dt_Sb (dt_Sb (dt_Sb (dt_Sl 15 (sn_ic ⟨by decide, by decide⟩ dX7_layMoments_15 rfl)) (dt_Sl 16 (sn_icmpge dX7_layMoments_16 (by decide) rfl))) (dt_Sb (dt_Sl 19 (sn_ldAn rfl dX7_layMoments_19 rfl)) (dt_Sb (dt_Sl 20 (sn_getf rfl ffX7 (by decide) wq_3_159 dX7_layMoments_20 rfl)) (dt_Sl 23 (sn_ldIn rfl dX7_layMoments_23 rfl))))) (dt_Sb (dt_Sb (dt_Sl 24 (sn_ic ⟨by decide, by decide⟩ dX7_layMoments_24 rfl)) (dt_Sb (dt_Sl 25 (sn_iadd dX7_layMoments_25 rfl)) (dt_Sl 26 (sn_ldAn rfl dX7_layMoments_26 rfl)))) (dt_Sb (dt_Sl 27 (sn_getf rfl ffX7 (by decide) wq_3_159 dX7_layMoments_27 rfl)) (dt_Sb (dt_Sl 30 (sn_ldIn rfl dX7_layMoments_30 rfl)) (dt_Sl 31 (sn_iald dX7_layMoments_31 rfl))))))) (dt_Sb (dt_Sb (dt_Sb (dt_Sb (dt_Sl 32 (sn_ldAn rfl dX7_layMoments_32 rfl)) (dt_Sl 33 (sn_getf rfl ffX7 (by decide) wq_3_143 dX7_layMoments_33 rfl))) (dt_Sb (dt_Sl 36 (sn_ic ⟨by decide, by decide⟩ dX7_layMoments_36 rfl)) (dt_Sb (dt_Sl 37 (sn_ldIn rfl dX7_layMoments_37 rfl)) (dt_Sl 38 (sn_imul dX7_layMoments_38 rfl))))) (dt_Sb (dt_Sb (dt_Sl 39 (sn_ldIn rfl dX7_layMoments_39 rfl)) (dt_Sb (dt_Sl 40 (sn_iadd dX7_layMoments_40 rfl)) (dt_Sl 41 (sn_iald dX7_layMoments_41 rfl)))) (dt_Sb (dt_Sl 42 (sn_ic ⟨by decide, by decide⟩ dX7_layMoments_42 rfl)) (dt_Sb (dt_Sl 43 (sn_iadd dX7_layMoments_43 rfl)) (dt_Sl 44 (sn_imul dX7_layMoments_44 rfl)))))) (dt_Sb (dt_Sb (dt_Sb (dt_Sl 45 (sn_iast dX7_layMoments_45 rfl)) (dt_Sb (dt_Sl 46 (sn_iinc (by decide) dX7_layMoments_46 rfl)) (dt_Sl 49 (sn_goto dX7_layMoments_49 (by decide))))) (dt_Sb (dt_Sl 52 (sn_ldAn rfl dX7_layMoments_52 rfl)) (dt_Sb (dt_Sl 53 (sn_ic ⟨by decide, by decide⟩ dX7_layMoments_53 rfl)) (dt_Sl 54 (sn_putI rfl ffX7 (by decide) rfl rfl (by decide +kernel) wq_3_162 dX7_layMoments_54 rfl))))) (dt_Sb (dt_Sb (dt_Sl 57 (sn_ldAn rfl dX7_layMoments_57 rfl)) (dt_Sb (dt_Sl 58 (sn_ic ⟨by decide, by decide⟩ dX7_layMoments_58 rfl)) (dt_Sl 59 (sn_putI rfl ffX7 (by decide) rfl rfl (by decide +kernel) wq_3_163 dX7_layMoments_59 rfl)))) (dt_Sb (dt_Sl 62 (sn_ldAn rfl dX7_layMoments_62 rfl)) (dt_Sb (dt_Sl 63 (sn_getf rfl ffX7 (by decide) wq_3_159 dX7_layMoments_63 rfl)) (dt_Sl 66 (sn_ic ⟨by decide, by decide⟩ dX7_layMoments_66 rfl)))))))) (dt_Sb (dt_Sb (dt_Sb (dt_Sb (dt_Sb (dt_Sl 67 (sn_iald dX7_layMoments_67 rfl)) (dt_Sl 68 (sn_ic ⟨by decide, by decide⟩ dX7_layMoments_68 rfl))) (dt_Sb (dt_Sl 69 (sn_isub dX7_layMoments_69 rfl)) (dt_Sb (dt_Sl 70 (sn_stIn rfl (by decide) dX7_layMoments_70 rfl)) (dt_Sl 71 (sn_ldIn rfl dX7_layMoments_71 rfl))))) (dt_Sb (dt_Sb (dt_Sl 72 (sn_iflt dX7_layMoments_72 (by decide) rfl)) (dt_Sb (dt_Sl 75 (sn_ldAn rfl dX7_layMoments_75 rfl)) (dt_Sl 76 (sn_ldIn rfl dX7_layMoments_76 rfl)))) (dt_Sb (dt_Sl 77 (sn_callV rfl ffX7 nnX7_underAt rfl wq_4_131 wq_4_133 wq_0_44 dX7_layMoments_77 rfl)) (dt_Sb (dt_Sl 80 (sn_stIn rfl (by decide) dX7_layMoments_80 rfl)) (dt_Sl 81 (sn_ldAn rfl dX7_layMoments_81 rfl)))))) (dt_Sb (dt_Sb (dt_Sb (dt_Sl 82 (sn_getf rfl ffX7 (by decide) wq_3_160 dX7_layMoments_82 rfl)) (dt_Sl 85 (sn_ldIn rfl dX7_layMoments_85 rfl))) (dt_Sb (dt_Sl 86 (sn_lc (k := 0) ⟨by decide, by decide⟩ rfl dX7_layMoments_86 rfl)) (dt_Sb (dt_Sl 87 (sn_last dX7_layMoments_87 rfl)) (dt_Sl 88 (sn_ldAn rfl dX7_layMoments_88 rfl))))) (dt_Sb (dt_Sb (dt_Sl 89 (sn_getf rfl ffX7 (by decide) wq_3_161 dX7_layMoments_89 rfl)) (dt_Sb (dt_Sl 92 (sn_ldIn rfl dX7_layMoments_92 rfl)) (dt_Sl 93 (sn_bi ⟨by decide, by decide⟩ rfl dX7_layMoments_93 rfl)))) (dt_Sb (dt_Sl 95 (sn_iast dX7_layMoments_95 rfl)) (dt_Sb (dt_Sl 96 (sn_ldIn rfl dX7_layMoments_96 rfl)) (dt_Sl 97 (sn_iflt dX7_layMoments_97 (by decide) rfl))))))) (dt_Sb (dt_Sb (dt_Sb (dt_Sb (dt_Sl 100 (sn_ldAn rfl dX7_layMoments_100 rfl)) (dt_Sl 101 (sn_dup dX7_layMoments_101 rfl))) (dt_Sb (dt_Sl 102 (sn_getf rfl ffX7 (by decide) wq_3_162 dX7_layMoments_102 rfl)) (dt_Sb (dt_Sl 105 (sn_ic ⟨by decide, by decide⟩ dX7_layMoments_105 rfl)) (dt_Sl 106 (sn_iadd dX7_layMoments_106 rfl))))) (dt_Sb (dt_Sb (dt_Sl 107 (sn_putI rfl ffX7 (by decide) rfl rfl (by decide +kernel) wq_3_162 dX7_layMoments_107 rfl)) (dt_Sb (dt_Sl 110 (sn_ldAn rfl dX7_layMoments_110 rfl)) (dt_Sl 111 (sn_ldIn rfl dX7_layMoments_111 rfl)))) (dt_Sb (dt_Sl 112 (sn_ldAn rfl dX7_layMoments_112 rfl)) (dt_Sb (dt_Sl 113 (sn_getf rfl ffX7 (by decide) wq_3_163 dX7_layMoments_113 rfl)) (dt_Sl 116 (sn_icmple dX7_layMoments_116 (by decide) rfl)))))) (dt_Sb (dt_Sb (dt_Sb (dt_Sl 119 (sn_ldIn rfl dX7_layMoments_119 rfl)) (dt_Sb (dt_Sl 120 (sn_goto dX7_layMoments_120 (by decide))) (dt_Sl 123 (sn_ldAn rfl dX7_layMoments_123 rfl)))) (dt_Sb (dt_Sl 124 (sn_getf rfl ffX7 (by decide) wq_3_163 dX7_layMoments_124 rfl)) (dt_Sb (dt_Sl 127 (sn_putI rfl ffX7 (by decide) rfl rfl (by decide +kernel) wq_3_163 dX7_layMoments_127 rfl)) (dt_Sl 130 (sn_ldAn rfl dX7_layMoments_130 rfl))))) (dt_Sb (dt_Sb (dt_Sl 131 (sn_ldIn rfl dX7_layMoments_131 rfl)) (dt_Sb (dt_Sl 132 (sn_ldIn rfl dX7_layMoments_132 rfl)) (dt_Sl 133 (sn_callV rfl ffX7 nnX7_layMoment rfl wq_4_143 wq_4_145 wq_0_47 dX7_layMoments_133 rfl)))) (dt_Sb (dt_Sl 136 (sn_iinc (by decide) dX7_layMoments_136 rfl)) (dt_Sb (dt_Sl 139 (sn_goto dX7_layMoments_139 (by decide))) (dt_Sl 142 (sn_ret rfl dX7_layMoments_142))))))))
theorem dX7_layMoment_0 : decode cX7_layMoment 0 = .ok (.iload_n 1, 1) := by decide +kernel
theorem dX7_layMoment_1 : decode cX7_layMoment 1 = .ok (.aload_n 0, 1) := by decide +kernel
theorem dX7_layMoment_2 : decode cX7_layMoment 2 = .ok (.getfield 56, 3) := by decide +kernel
theorem dX7_layMoment_5 : decode cX7_layMoment 5 = .ok (.iconst 4, 1) := by decide +kernel
theorem dX7_layMoment_6 : decode cX7_layMoment 6 = .ok (.iaload, 1) := by decide +kernel
theorem dX7_layMoment_7 : decode cX7_layMoment 7 = .ok (.iconst 1, 1) := by decide +kernel
theorem dX7_layMoment_8 : decode cX7_layMoment 8 = .ok (.isub, 1) := by decide +kernel
theorem dX7_layMoment_9 : decode cX7_layMoment 9 = .ok (.if_icmp .ne 7, 3) := by decide +kernel
theorem dX7_layMoment_12 : decode cX7_layMoment 12 = .ok (.iconst 1, 1) := by decide +kernel
theorem dX7_layMoment_13 : decode cX7_layMoment 13 = .ok (.goto 4, 3) := by decide +kernel
theorem dX7_layMoment_16 : decode cX7_layMoment 16 = .ok (.iconst 0, 1) := by decide +kernel
theorem dX7_layMoment_17 : decode cX7_layMoment 17 = .ok (.istore_n 3, 1) := by decide +kernel
theorem dX7_layMoment_18 : decode cX7_layMoment 18 = .ok (.aload_n 0, 1) := by decide +kernel
theorem dX7_layMoment_19 : decode cX7_layMoment 19 = .ok (.getfield 59, 3) := by decide +kernel
theorem dX7_layMoment_22 : decode cX7_layMoment 22 = .ok (.iload_n 1, 1) := by decide +kernel
theorem dX7_layMoment_23 : decode cX7_layMoment 23 = .ok (.iload_n 3, 1) := by decide +kernel
theorem dX7_layMoment_24 : decode cX7_layMoment 24 = .ok (.ifCond .eq 7, 3) := by decide +kernel
theorem dX7_layMoment_27 : decode cX7_layMoment 27 = .ok (.lconst 1, 1) := by decide +kernel
theorem dX7_layMoment_28 : decode cX7_layMoment 28 = .ok (.goto 4, 3) := by decide +kernel
theorem dX7_layMoment_31 : decode cX7_layMoment 31 = .ok (.lconst 0, 1) := by decide +kernel
theorem dX7_layMoment_32 : decode cX7_layMoment 32 = .ok (.lastore, 1) := by decide +kernel
theorem dX7_layMoment_33 : decode cX7_layMoment 33 = .ok (.iload_n 3, 1) := by decide +kernel
theorem dX7_layMoment_34 : decode cX7_layMoment 34 = .ok (.ifCond .eq 7, 3) := by decide +kernel
theorem dX7_layMoment_37 : decode cX7_layMoment 37 = .ok (.iconst 0, 1) := by decide +kernel
theorem dX7_layMoment_38 : decode cX7_layMoment 38 = .ok (.goto 5, 3) := by decide +kernel
theorem dX7_layMoment_41 : decode cX7_layMoment 41 = .ok (.bipush 99, 2) := by decide +kernel
theorem dX7_layMoment_43 : decode cX7_layMoment 43 = .ok (.istore 4, 2) := by decide +kernel
theorem dX7_layMoment_45 : decode cX7_layMoment 45 = .ok (.iconst 0, 1) := by decide +kernel
theorem dX7_layMoment_46 : decode cX7_layMoment 46 = .ok (.istore 5, 2) := by decide +kernel
theorem dX7_layMoment_48 : decode cX7_layMoment 48 = .ok (.iload 5, 2) := by decide +kernel
theorem dX7_layMoment_50 : decode cX7_layMoment 50 = .ok (.iconst 4, 1) := by decide +kernel
theorem dX7_layMoment_51 : decode cX7_layMoment 51 = .ok (.if_icmp .ge 96, 3) := by decide +kernel
theorem dX7_layMoment_54 : decode cX7_layMoment 54 = .ok (.aload_n 0, 1) := by decide +kernel
theorem dX7_layMoment_55 : decode cX7_layMoment 55 = .ok (.iload_n 1, 1) := by decide +kernel
theorem dX7_layMoment_56 : decode cX7_layMoment 56 = .ok (.iload 5, 2) := by decide +kernel
theorem dX7_layMoment_58 : decode cX7_layMoment 58 = .ok (.invokevirtual 206, 3) := by decide +kernel
theorem dX7_layMoment_61 : decode cX7_layMoment 61 = .ok (.aload_n 0, 1) := by decide +kernel
theorem dX7_layMoment_62 : decode cX7_layMoment 62 = .ok (.getfield 29, 3) := by decide +kernel
theorem dX7_layMoment_65 : decode cX7_layMoment 65 = .ok (.iconst 4, 1) := by decide +kernel
theorem dX7_layMoment_66 : decode cX7_layMoment 66 = .ok (.aload_n 0, 1) := by decide +kernel
theorem dX7_layMoment_67 : decode cX7_layMoment 67 = .ok (.getfield 200, 3) := by decide +kernel
theorem dX7_layMoment_70 : decode cX7_layMoment 70 = .ok (.imul, 1) := by decide +kernel
theorem dX7_layMoment_71 : decode cX7_layMoment 71 = .ok (.iload 5, 2) := by decide +kernel
theorem dX7_layMoment_73 : decode cX7_layMoment 73 = .ok (.iadd, 1) := by decide +kernel
theorem dX7_layMoment_74 : decode cX7_layMoment 74 = .ok (.iaload, 1) := by decide +kernel
theorem dX7_layMoment_75 : decode cX7_layMoment 75 = .ok (.if_icmp .ge 66, 3) := by decide +kernel
theorem dX7_layMoment_78 : decode cX7_layMoment 78 = .ok (.aload_n 0, 1) := by decide +kernel
theorem dX7_layMoment_79 : decode cX7_layMoment 79 = .ok (.getfield 59, 3) := by decide +kernel
theorem dX7_layMoment_82 : decode cX7_layMoment 82 = .ok (.iload_n 1, 1) := by decide +kernel
theorem dX7_layMoment_83 : decode cX7_layMoment 83 = .ok (.dup2, 1) := by decide +kernel
theorem dX7_layMoment_84 : decode cX7_layMoment 84 = .ok (.laload, 1) := by decide +kernel
theorem dX7_layMoment_85 : decode cX7_layMoment 85 = .ok (.aload_n 0, 1) := by decide +kernel
theorem dX7_layMoment_86 : decode cX7_layMoment 86 = .ok (.getfield 59, 3) := by decide +kernel
theorem dX7_layMoment_89 : decode cX7_layMoment 89 = .ok (.iload_n 1, 1) := by decide +kernel
theorem dX7_layMoment_90 : decode cX7_layMoment 90 = .ok (.aload_n 0, 1) := by decide +kernel
theorem dX7_layMoment_91 : decode cX7_layMoment 91 = .ok (.getfield 56, 3) := by decide +kernel
theorem dX7_layMoment_94 : decode cX7_layMoment 94 = .ok (.iload 5, 2) := by decide +kernel
theorem dX7_layMoment_96 : decode cX7_layMoment 96 = .ok (.iaload, 1) := by decide +kernel
theorem dX7_layMoment_97 : decode cX7_layMoment 97 = .ok (.iadd, 1) := by decide +kernel
theorem dX7_layMoment_98 : decode cX7_layMoment 98 = .ok (.laload, 1) := by decide +kernel
theorem dX7_layMoment_99 : decode cX7_layMoment 99 = .ok (.ladd, 1) := by decide +kernel
theorem dX7_layMoment_100 : decode cX7_layMoment 100 = .ok (.lastore, 1) := by decide +kernel
theorem dX7_layMoment_101 : decode cX7_layMoment 101 = .ok (.aload_n 0, 1) := by decide +kernel
theorem dX7_layMoment_102 : decode cX7_layMoment 102 = .ok (.getfield 63, 3) := by decide +kernel
theorem dX7_layMoment_105 : decode cX7_layMoment 105 = .ok (.iload_n 1, 1) := by decide +kernel
theorem dX7_layMoment_106 : decode cX7_layMoment 106 = .ok (.aload_n 0, 1) := by decide +kernel
theorem dX7_layMoment_107 : decode cX7_layMoment 107 = .ok (.getfield 56, 3) := by decide +kernel
theorem dX7_layMoment_110 : decode cX7_layMoment 110 = .ok (.iload 5, 2) := by decide +kernel
theorem dX7_layMoment_112 : decode cX7_layMoment 112 = .ok (.iaload, 1) := by decide +kernel
theorem dX7_layMoment_113 : decode cX7_layMoment 113 = .ok (.iadd, 1) := by decide +kernel
theorem dX7_layMoment_114 : decode cX7_layMoment 114 = .ok (.iaload, 1) := by decide +kernel
theorem dX7_layMoment_115 : decode cX7_layMoment 115 = .ok (.iload 4, 2) := by decide +kernel
theorem dX7_layMoment_117 : decode cX7_layMoment 117 = .ok (.if_icmp .ge 20, 3) := by decide +kernel
theorem dX7_layMoment_120 : decode cX7_layMoment 120 = .ok (.aload_n 0, 1) := by decide +kernel
theorem dX7_layMoment_121 : decode cX7_layMoment 121 = .ok (.getfield 63, 3) := by decide +kernel
theorem dX7_layMoment_124 : decode cX7_layMoment 124 = .ok (.iload_n 1, 1) := by decide +kernel
theorem dX7_layMoment_125 : decode cX7_layMoment 125 = .ok (.aload_n 0, 1) := by decide +kernel
theorem dX7_layMoment_126 : decode cX7_layMoment 126 = .ok (.getfield 56, 3) := by decide +kernel
theorem dX7_layMoment_129 : decode cX7_layMoment 129 = .ok (.iload 5, 2) := by decide +kernel
theorem dX7_layMoment_131 : decode cX7_layMoment 131 = .ok (.iaload, 1) := by decide +kernel
theorem dX7_layMoment_132 : decode cX7_layMoment 132 = .ok (.iadd, 1) := by decide +kernel
theorem dX7_layMoment_133 : decode cX7_layMoment 133 = .ok (.iaload, 1) := by decide +kernel
theorem dX7_layMoment_134 : decode cX7_layMoment 134 = .ok (.goto 5, 3) := by decide +kernel
theorem dX7_layMoment_137 : decode cX7_layMoment 137 = .ok (.iload 4, 2) := by decide +kernel
theorem dX7_layMoment_139 : decode cX7_layMoment 139 = .ok (.istore 4, 2) := by decide +kernel
theorem dX7_layMoment_141 : decode cX7_layMoment 141 = .ok (.iinc 5 1, 3) := by decide +kernel
theorem dX7_layMoment_144 : decode cX7_layMoment 144 = .ok (.goto (-96), 3) := by decide +kernel
theorem dX7_layMoment_147 : decode cX7_layMoment 147 = .ok (.aload_n 0, 1) := by decide +kernel
theorem dX7_layMoment_148 : decode cX7_layMoment 148 = .ok (.getfield 63, 3) := by decide +kernel
theorem dX7_layMoment_151 : decode cX7_layMoment 151 = .ok (.iload_n 1, 1) := by decide +kernel
theorem dX7_layMoment_152 : decode cX7_layMoment 152 = .ok (.iload_n 2, 1) := by decide +kernel
theorem dX7_layMoment_153 : decode cX7_layMoment 153 = .ok (.iload 4, 2) := by decide +kernel
theorem dX7_layMoment_155 : decode cX7_layMoment 155 = .ok (.if_icmp .le 7, 3) := by decide +kernel
theorem dX7_layMoment_158 : decode cX7_layMoment 158 = .ok (.iload_n 2, 1) := by decide +kernel
theorem dX7_layMoment_159 : decode cX7_layMoment 159 = .ok (.goto 5, 3) := by decide +kernel
theorem dX7_layMoment_162 : decode cX7_layMoment 162 = .ok (.iload 4, 2) := by decide +kernel
theorem dX7_layMoment_164 : decode cX7_layMoment 164 = .ok (.iastore, 1) := by decide +kernel
theorem dX7_layMoment_165 : decode cX7_layMoment 165 = .ok (.return_, 1) := by decide +kernel
def tbX7_layMoment (pc : Nat) : dt_T := cond (Nat.ble pc 82) (cond (Nat.ble pc 37) (cond (Nat.ble pc 17) (cond (Nat.ble pc 7) (cond (Nat.ble pc 2) (cond (Nat.ble pc 0) (cond (Nat.beq pc 0) (tc_ldI 1 1) tc_no) (cond (Nat.ble pc 1) (cond (Nat.beq pc 1) (tc_ldA 0 2) tc_no) (cond (Nat.beq pc 2) (tc_getf 7 22 5) tc_no))) (cond (Nat.ble pc 5) (cond (Nat.beq pc 5) (tc_ic 4 6) tc_no) (cond (Nat.ble pc 6) (cond (Nat.beq pc 6) (tc_iald 7) tc_no) (cond (Nat.beq pc 7) (tc_ic 1 8) tc_no)))) (cond (Nat.ble pc 12) (cond (Nat.ble pc 8) (cond (Nat.beq pc 8) (tc_isub 9) tc_no) (cond (Nat.ble pc 9) (cond (Nat.beq pc 9) (tc_icmpne 16 12) tc_no) (cond (Nat.beq pc 12) (tc_ic 1 13) tc_no))) (cond (Nat.ble pc 13) (cond (Nat.beq pc 13) (tc_goto 17) tc_no) (cond (Nat.ble pc 16) (cond (Nat.beq pc 16) (tc_ic 0 17) tc_no) (cond (Nat.beq pc 17) (tc_stI 3 18) tc_no))))) (cond (Nat.ble pc 27) (cond (Nat.ble pc 22) (cond (Nat.ble pc 18) (cond (Nat.beq pc 18) (tc_ldA 0 19) tc_no) (cond (Nat.ble pc 19) (cond (Nat.beq pc 19) (tc_getf 7 23 22) tc_no) (cond (Nat.beq pc 22) (tc_ldI 1 23) tc_no))) (cond (Nat.ble pc 23) (cond (Nat.beq pc 23) (tc_ldI 3 24) tc_no) (cond (Nat.ble pc 24) (cond (Nat.beq pc 24) (tc_ifeq 31 27) tc_no) (cond (Nat.beq pc 27) (tc_lc 1 28) tc_no)))) (cond (Nat.ble pc 32) (cond (Nat.ble pc 28) (cond (Nat.beq pc 28) (tc_goto 32) tc_no) (cond (Nat.ble pc 31) (cond (Nat.beq pc 31) (tc_lc 0 32) tc_no) (cond (Nat.beq pc 32) (tc_last 33) tc_no))) (cond (Nat.ble pc 33) (cond (Nat.beq pc 33) (tc_ldI 3 34) tc_no) (cond (Nat.ble pc 34) (cond (Nat.beq pc 34) (tc_ifeq 41 37) tc_no) (cond (Nat.beq pc 37) (tc_ic 0 38) tc_no)))))) (cond (Nat.ble pc 58) (cond (Nat.ble pc 48) (cond (Nat.ble pc 43) (cond (Nat.ble pc 38) (cond (Nat.beq pc 38) (tc_goto 43) tc_no) (cond (Nat.ble pc 41) (cond (Nat.beq pc 41) (tc_ic 99 43) tc_no) (cond (Nat.beq pc 43) (tc_stI 4 45) tc_no))) (cond (Nat.ble pc 45) (cond (Nat.beq pc 45) (tc_ic 0 46) tc_no) (cond (Nat.ble pc 46) (cond (Nat.beq pc 46) (tc_stI 5 48) tc_no) (cond (Nat.beq pc 48) (tc_ldI 5 50) tc_no)))) (cond (Nat.ble pc 54) (cond (Nat.ble pc 50) (cond (Nat.beq pc 50) (tc_ic 4 51) tc_no) (cond (Nat.ble pc 51) (cond (Nat.beq pc 51) (tc_icmpge 147 54) tc_no) (cond (Nat.beq pc 54) (tc_ldA 0 55) tc_no))) (cond (Nat.ble pc 55) (cond (Nat.beq pc 55) (tc_ldI 1 56) tc_no) (cond (Nat.ble pc 56) (cond (Nat.beq pc 56) (tc_ldI 5 58) tc_no) (cond (Nat.beq pc 58) (tc_callV 7 mX7_come 2 61) tc_no))))) (cond (Nat.ble pc 70) (cond (Nat.ble pc 65) (cond (Nat.ble pc 61) (cond (Nat.beq pc 61) (tc_ldA 0 62) tc_no) (cond (Nat.ble pc 62) (cond (Nat.beq pc 62) (tc_getf 7 6 65) tc_no) (cond (Nat.beq pc 65) (tc_ic 4 66) tc_no))) (cond (Nat.ble pc 66) (cond (Nat.beq pc 66) (tc_ldA 0 67) tc_no) (cond (Nat.ble pc 67) (cond (Nat.beq pc 67) (tc_getf 7 27 70) tc_no) (cond (Nat.beq pc 70) (tc_imul 71) tc_no)))) (cond (Nat.ble pc 74) (cond (Nat.ble pc 71) (cond (Nat.beq pc 71) (tc_ldI 5 73) tc_no) (cond (Nat.ble pc 73) (cond (Nat.beq pc 73) (tc_iadd 74) tc_no) (cond (Nat.beq pc 74) (tc_iald 75) tc_no))) (cond (Nat.ble pc 78) (cond (Nat.ble pc 75) (cond (Nat.beq pc 75) (tc_icmpge 141 78) tc_no) (cond (Nat.beq pc 78) (tc_ldA 0 79) tc_no)) (cond (Nat.ble pc 79) (cond (Nat.beq pc 79) (tc_getf 7 23 82) tc_no) (cond (Nat.beq pc 82) (tc_ldI 1 83) tc_no))))))) (cond (Nat.ble pc 117) (cond (Nat.ble pc 99) (cond (Nat.ble pc 90) (cond (Nat.ble pc 85) (cond (Nat.ble pc 83) (cond (Nat.beq pc 83) (tc_dup2 84) tc_no) (cond (Nat.ble pc 84) (cond (Nat.beq pc 84) (tc_lald 85) tc_no) (cond (Nat.beq pc 85) (tc_ldA 0 86) tc_no))) (cond (Nat.ble pc 86) (cond (Nat.beq pc 86) (tc_getf 7 23 89) tc_no) (cond (Nat.ble pc 89) (cond (Nat.beq pc 89) (tc_ldI 1 90) tc_no) (cond (Nat.beq pc 90) (tc_ldA 0 91) tc_no)))) (cond (Nat.ble pc 96) (cond (Nat.ble pc 91) (cond (Nat.beq pc 91) (tc_getf 7 22 94) tc_no) (cond (Nat.ble pc 94) (cond (Nat.beq pc 94) (tc_ldI 5 96) tc_no) (cond (Nat.beq pc 96) (tc_iald 97) tc_no))) (cond (Nat.ble pc 97) (cond (Nat.beq pc 97) (tc_iadd 98) tc_no) (cond (Nat.ble pc 98) (cond (Nat.beq pc 98) (tc_lald 99) tc_no) (cond (Nat.beq pc 99) (tc_ladd 100) tc_no))))) (cond (Nat.ble pc 107) (cond (Nat.ble pc 102) (cond (Nat.ble pc 100) (cond (Nat.beq pc 100) (tc_last 101) tc_no) (cond (Nat.ble pc 101) (cond (Nat.beq pc 101) (tc_ldA 0 102) tc_no) (cond (Nat.beq pc 102) (tc_getf 7 24 105) tc_no))) (cond (Nat.ble pc 105) (cond (Nat.beq pc 105) (tc_ldI 1 106) tc_no) (cond (Nat.ble pc 106) (cond (Nat.beq pc 106) (tc_ldA 0 107) tc_no) (cond (Nat.beq pc 107) (tc_getf 7 22 110) tc_no)))) (cond (Nat.ble pc 113) (cond (Nat.ble pc 110) (cond (Nat.beq pc 110) (tc_ldI 5 112) tc_no) (cond (Nat.ble pc 112) (cond (Nat.beq pc 112) (tc_iald 113) tc_no) (cond (Nat.beq pc 113) (tc_iadd 114) tc_no))) (cond (Nat.ble pc 114) (cond (Nat.beq pc 114) (tc_iald 115) tc_no) (cond (Nat.ble pc 115) (cond (Nat.beq pc 115) (tc_ldI 4 117) tc_no) (cond (Nat.beq pc 117) (tc_icmpge 137 120) tc_no)))))) (cond (Nat.ble pc 139) (cond (Nat.ble pc 129) (cond (Nat.ble pc 124) (cond (Nat.ble pc 120) (cond (Nat.beq pc 120) (tc_ldA 0 121) tc_no) (cond (Nat.ble pc 121) (cond (Nat.beq pc 121) (tc_getf 7 24 124) tc_no) (cond (Nat.beq pc 124) (tc_ldI 1 125) tc_no))) (cond (Nat.ble pc 125) (cond (Nat.beq pc 125) (tc_ldA 0 126) tc_no) (cond (Nat.ble pc 126) (cond (Nat.beq pc 126) (tc_getf 7 22 129) tc_no) (cond (Nat.beq pc 129) (tc_ldI 5 131) tc_no)))) (cond (Nat.ble pc 133) (cond (Nat.ble pc 131) (cond (Nat.beq pc 131) (tc_iald 132) tc_no) (cond (Nat.ble pc 132) (cond (Nat.beq pc 132) (tc_iadd 133) tc_no) (cond (Nat.beq pc 133) (tc_iald 134) tc_no))) (cond (Nat.ble pc 134) (cond (Nat.beq pc 134) (tc_goto 139) tc_no) (cond (Nat.ble pc 137) (cond (Nat.beq pc 137) (tc_ldI 4 139) tc_no) (cond (Nat.beq pc 139) (tc_stI 4 141) tc_no))))) (cond (Nat.ble pc 152) (cond (Nat.ble pc 147) (cond (Nat.ble pc 141) (cond (Nat.beq pc 141) (tc_iinc 5 1 144) tc_no) (cond (Nat.ble pc 144) (cond (Nat.beq pc 144) (tc_goto 48) tc_no) (cond (Nat.beq pc 147) (tc_ldA 0 148) tc_no))) (cond (Nat.ble pc 148) (cond (Nat.beq pc 148) (tc_getf 7 24 151) tc_no) (cond (Nat.ble pc 151) (cond (Nat.beq pc 151) (tc_ldI 1 152) tc_no) (cond (Nat.beq pc 152) (tc_ldI 2 153) tc_no)))) (cond (Nat.ble pc 158) (cond (Nat.ble pc 153) (cond (Nat.beq pc 153) (tc_ldI 4 155) tc_no) (cond (Nat.ble pc 155) (cond (Nat.beq pc 155) (tc_icmple 162 158) tc_no) (cond (Nat.beq pc 158) (tc_ldI 2 159) tc_no))) (cond (Nat.ble pc 162) (cond (Nat.ble pc 159) (cond (Nat.beq pc 159) (tc_goto 164) tc_no) (cond (Nat.beq pc 162) (tc_ldI 4 164) tc_no)) (cond (Nat.ble pc 164) (cond (Nat.beq pc 164) (tc_iast 165) tc_no) (cond (Nat.beq pc 165) (tc_ret) tc_no)))))))
theorem okX7_layMoment : ∀ pc, dt_S mX7_layMoment (tbX7_layMoment pc) pc := by
  intro pc
  unfold tbX7_layMoment
  exact dt_Sb (dt_Sb (dt_Sb (dt_Sb (dt_Sb (dt_Sb (dt_Sl 0 (sn_ldIn rfl dX7_layMoment_0 rfl)) (dt_Sb (dt_Sl 1 (sn_ldAn rfl dX7_layMoment_1 rfl)) (dt_Sl 2 (sn_getf rfl ffX7 (by decide) wq_3_159 dX7_layMoment_2 rfl)))) (dt_Sb (dt_Sl 5 (sn_ic ⟨by decide, by decide⟩ dX7_layMoment_5 rfl)) (dt_Sb (dt_Sl 6 (sn_iald dX7_layMoment_6 rfl)) (dt_Sl 7 (sn_ic ⟨by decide, by decide⟩ dX7_layMoment_7 rfl))))) (dt_Sb (dt_Sb (dt_Sl 8 (sn_isub dX7_layMoment_8 rfl)) (dt_Sb (dt_Sl 9 (sn_icmpne dX7_layMoment_9 (by decide) rfl)) (dt_Sl 12 (sn_ic ⟨by decide, by decide⟩ dX7_layMoment_12 rfl)))) (dt_Sb (dt_Sl 13 (sn_goto dX7_layMoment_13 (by decide))) (dt_Sb (dt_Sl 16 (sn_ic ⟨by decide, by decide⟩ dX7_layMoment_16 rfl)) (dt_Sl 17 (sn_stIn rfl (by decide) dX7_layMoment_17 rfl)))))) (dt_Sb (dt_Sb (dt_Sb (dt_Sl 18 (sn_ldAn rfl dX7_layMoment_18 rfl)) (dt_Sb (dt_Sl 19 (sn_getf rfl ffX7 (by decide) wq_3_160 dX7_layMoment_19 rfl)) (dt_Sl 22 (sn_ldIn rfl dX7_layMoment_22 rfl)))) (dt_Sb (dt_Sl 23 (sn_ldIn rfl dX7_layMoment_23 rfl)) (dt_Sb (dt_Sl 24 (sn_ifeq dX7_layMoment_24 (by decide) rfl)) (dt_Sl 27 (sn_lc (k := 1) ⟨by decide, by decide⟩ rfl dX7_layMoment_27 rfl))))) (dt_Sb (dt_Sb (dt_Sl 28 (sn_goto dX7_layMoment_28 (by decide))) (dt_Sb (dt_Sl 31 (sn_lc (k := 0) ⟨by decide, by decide⟩ rfl dX7_layMoment_31 rfl)) (dt_Sl 32 (sn_last dX7_layMoment_32 rfl)))) (dt_Sb (dt_Sl 33 (sn_ldIn rfl dX7_layMoment_33 rfl)) (dt_Sb (dt_Sl 34 (sn_ifeq dX7_layMoment_34 (by decide) rfl)) (dt_Sl 37 (sn_ic ⟨by decide, by decide⟩ dX7_layMoment_37 rfl))))))) (dt_Sb (dt_Sb (dt_Sb (dt_Sb (dt_Sl 38 (sn_goto dX7_layMoment_38 (by decide))) (dt_Sb (dt_Sl 41 (sn_bi ⟨by decide, by decide⟩ rfl dX7_layMoment_41 rfl)) (dt_Sl 43 (sn_stI (by decide) dX7_layMoment_43 rfl)))) (dt_Sb (dt_Sl 45 (sn_ic ⟨by decide, by decide⟩ dX7_layMoment_45 rfl)) (dt_Sb (dt_Sl 46 (sn_stI (by decide) dX7_layMoment_46 rfl)) (dt_Sl 48 (sn_ldI dX7_layMoment_48 rfl))))) (dt_Sb (dt_Sb (dt_Sl 50 (sn_ic ⟨by decide, by decide⟩ dX7_layMoment_50 rfl)) (dt_Sb (dt_Sl 51 (sn_icmpge dX7_layMoment_51 (by decide) rfl)) (dt_Sl 54 (sn_ldAn rfl dX7_layMoment_54 rfl)))) (dt_Sb (dt_Sl 55 (sn_ldIn rfl dX7_layMoment_55 rfl)) (dt_Sb (dt_Sl 56 (sn_ldI dX7_layMoment_56 rfl)) (dt_Sl 58 (sn_callV rfl ffX7 nnX7_come rfl wq_4_139 wq_4_141 wq_0_46 dX7_layMoment_58 rfl)))))) (dt_Sb (dt_Sb (dt_Sb (dt_Sl 61 (sn_ldAn rfl dX7_layMoment_61 rfl)) (dt_Sb (dt_Sl 62 (sn_getf rfl ffX7 (by decide) wq_3_143 dX7_layMoment_62 rfl)) (dt_Sl 65 (sn_ic ⟨by decide, by decide⟩ dX7_layMoment_65 rfl)))) (dt_Sb (dt_Sl 66 (sn_ldAn rfl dX7_layMoment_66 rfl)) (dt_Sb (dt_Sl 67 (sn_getf rfl ffX7 (by decide) wq_3_164 dX7_layMoment_67 rfl)) (dt_Sl 70 (sn_imul dX7_layMoment_70 rfl))))) (dt_Sb (dt_Sb (dt_Sl 71 (sn_ldI dX7_layMoment_71 rfl)) (dt_Sb (dt_Sl 73 (sn_iadd dX7_layMoment_73 rfl)) (dt_Sl 74 (sn_iald dX7_layMoment_74 rfl)))) (dt_Sb (dt_Sb (dt_Sl 75 (sn_icmpge dX7_layMoment_75 (by decide) rfl)) (dt_Sl 78 (sn_ldAn rfl dX7_layMoment_78 rfl))) (dt_Sb (dt_Sl 79 (sn_getf rfl ffX7 (by decide) wq_3_160 dX7_layMoment_79 rfl)) (dt_Sl 82 (sn_ldIn rfl dX7_layMoment_82 rfl)))))))) (dt_Sb (dt_Sb (dt_Sb (dt_Sb (dt_Sb (dt_Sl 83 (sn_dup2 dX7_layMoment_83 rfl)) (dt_Sb (dt_Sl 84 (sn_lald dX7_layMoment_84 rfl)) (dt_Sl 85 (sn_ldAn rfl dX7_layMoment_85 rfl)))) (dt_Sb (dt_Sl 86 (sn_getf rfl ffX7 (by decide) wq_3_160 dX7_layMoment_86 rfl)) (dt_Sb (dt_Sl 89 (sn_ldIn rfl dX7_layMoment_89 rfl)) (dt_Sl 90 (sn_ldAn rfl dX7_layMoment_90 rfl))))) (dt_Sb (dt_Sb (dt_Sl 91 (sn_getf rfl ffX7 (by decide) wq_3_159 dX7_layMoment_91 rfl)) (dt_Sb (dt_Sl 94 (sn_ldI dX7_layMoment_94 rfl)) (dt_Sl 96 (sn_iald dX7_layMoment_96 rfl)))) (dt_Sb (dt_Sl 97 (sn_iadd dX7_layMoment_97 rfl)) (dt_Sb (dt_Sl 98 (sn_lald dX7_layMoment_98 rfl)) (dt_Sl 99 (sn_ladd dX7_layMoment_99 rfl)))))) (dt_Sb (dt_Sb (dt_Sb (dt_Sl 100 (sn_last dX7_layMoment_100 rfl)) (dt_Sb (dt_Sl 101 (sn_ldAn rfl dX7_layMoment_101 rfl)) (dt_Sl 102 (sn_getf rfl ffX7 (by decide) wq_3_161 dX7_layMoment_102 rfl)))) (dt_Sb (dt_Sl 105 (sn_ldIn rfl dX7_layMoment_105 rfl)) (dt_Sb (dt_Sl 106 (sn_ldAn rfl dX7_layMoment_106 rfl)) (dt_Sl 107 (sn_getf rfl ffX7 (by decide) wq_3_159 dX7_layMoment_107 rfl))))) (dt_Sb (dt_Sb (dt_Sl 110 (sn_ldI dX7_layMoment_110 rfl)) (dt_Sb (dt_Sl 112 (sn_iald dX7_layMoment_112 rfl)) (dt_Sl 113 (sn_iadd dX7_layMoment_113 rfl)))) (dt_Sb (dt_Sl 114 (sn_iald dX7_layMoment_114 rfl)) (dt_Sb (dt_Sl 115 (sn_ldI dX7_layMoment_115 rfl)) (dt_Sl 117 (sn_icmpge dX7_layMoment_117 (by decide) rfl))))))) (dt_Sb (dt_Sb (dt_Sb (dt_Sb (dt_Sl 120 (sn_ldAn rfl dX7_layMoment_120 rfl)) (dt_Sb (dt_Sl 121 (sn_getf rfl ffX7 (by decide) wq_3_161 dX7_layMoment_121 rfl)) (dt_Sl 124 (sn_ldIn rfl dX7_layMoment_124 rfl)))) (dt_Sb (dt_Sl 125 (sn_ldAn rfl dX7_layMoment_125 rfl)) (dt_Sb (dt_Sl 126 (sn_getf rfl ffX7 (by decide) wq_3_159 dX7_layMoment_126 rfl)) (dt_Sl 129 (sn_ldI dX7_layMoment_129 rfl))))) (dt_Sb (dt_Sb (dt_Sl 131 (sn_iald dX7_layMoment_131 rfl)) (dt_Sb (dt_Sl 132 (sn_iadd dX7_layMoment_132 rfl)) (dt_Sl 133 (sn_iald dX7_layMoment_133 rfl)))) (dt_Sb (dt_Sl 134 (sn_goto dX7_layMoment_134 (by decide))) (dt_Sb (dt_Sl 137 (sn_ldI dX7_layMoment_137 rfl)) (dt_Sl 139 (sn_stI (by decide) dX7_layMoment_139 rfl)))))) (dt_Sb (dt_Sb (dt_Sb (dt_Sl 141 (sn_iinc (by decide) dX7_layMoment_141 rfl)) (dt_Sb (dt_Sl 144 (sn_goto dX7_layMoment_144 (by decide))) (dt_Sl 147 (sn_ldAn rfl dX7_layMoment_147 rfl)))) (dt_Sb (dt_Sl 148 (sn_getf rfl ffX7 (by decide) wq_3_161 dX7_layMoment_148 rfl)) (dt_Sb (dt_Sl 151 (sn_ldIn rfl dX7_layMoment_151 rfl)) (dt_Sl 152 (sn_ldIn rfl dX7_layMoment_152 rfl))))) (dt_Sb (dt_Sb (dt_Sl 153 (sn_ldI dX7_layMoment_153 rfl)) (dt_Sb (dt_Sl 155 (sn_icmple dX7_layMoment_155 (by decide) rfl)) (dt_Sl 158 (sn_ldIn rfl dX7_layMoment_158 rfl)))) (dt_Sb (dt_Sb (dt_Sl 159 (sn_goto dX7_layMoment_159 (by decide))) (dt_Sl 162 (sn_ldI dX7_layMoment_162 rfl))) (dt_Sb (dt_Sl 164 (sn_iast dX7_layMoment_164 rfl)) (dt_Sl 165 (sn_ret rfl dX7_layMoment_165))))))))
theorem dX7_orders_0 : decode cX7_orders 0 = .ok (.iload_n 1, 1) := by decide +kernel
theorem dX7_orders_1 : decode cX7_orders 1 = .ok (.invokestatic 155, 3) := by decide +kernel
theorem dX7_orders_4 : decode cX7_orders 4 = .ok (.ifCond .eq 7, 3) := by decide +kernel
theorem dX7_orders_7 : decode cX7_orders 7 = .ok (.ldc2_w 173, 3) := by decide +kernel
theorem dX7_orders_10 : decode cX7_orders 10 = .ok (.lreturn, 1) := by decide +kernel
theorem dX7_orders_11 : decode cX7_orders 11 = .ok (.aload_n 0, 1) := by decide +kernel
theorem dX7_orders_12 : decode cX7_orders 12 = .ok (.iload_n 1, 1) := by decide +kernel
theorem dX7_orders_13 : decode cX7_orders 13 = .ok (.invokevirtual 222, 3) := by decide +kernel
theorem dX7_orders_16 : decode cX7_orders 16 = .ok (.aload_n 0, 1) := by decide +kernel
theorem dX7_orders_17 : decode cX7_orders 17 = .ok (.getfield 59, 3) := by decide +kernel
theorem dX7_orders_20 : decode cX7_orders 20 = .ok (.iconst 0, 1) := by decide +kernel
theorem dX7_orders_21 : decode cX7_orders 21 = .ok (.laload, 1) := by decide +kernel
theorem dX7_orders_22 : decode cX7_orders 22 = .ok (.lreturn, 1) := by decide +kernel
def tbX7_orders (pc : Nat) : dt_T := cond (Nat.ble pc 11) (cond (Nat.ble pc 4) (cond (Nat.ble pc 0) (cond (Nat.beq pc 0) (tc_ldI 1 1) tc_no) (cond (Nat.ble pc 1) (cond (Nat.beq pc 1) (tc_callS mX7_noTalk 1 4) tc_no) (cond (Nat.beq pc 4) (tc_ifeq 11 7) tc_no))) (cond (Nat.ble pc 7) (cond (Nat.beq pc 7) (tc_lc (-1) 10) tc_no) (cond (Nat.ble pc 10) (cond (Nat.beq pc 10) (tc_lret) tc_no) (cond (Nat.beq pc 11) (tc_ldA 0 12) tc_no)))) (cond (Nat.ble pc 16) (cond (Nat.ble pc 12) (cond (Nat.beq pc 12) (tc_ldI 1 13) tc_no) (cond (Nat.ble pc 13) (cond (Nat.beq pc 13) (tc_callV 7 mX7_layMoments 1 16) tc_no) (cond (Nat.beq pc 16) (tc_ldA 0 17) tc_no))) (cond (Nat.ble pc 20) (cond (Nat.ble pc 17) (cond (Nat.beq pc 17) (tc_getf 7 23 20) tc_no) (cond (Nat.beq pc 20) (tc_ic 0 21) tc_no)) (cond (Nat.ble pc 21) (cond (Nat.beq pc 21) (tc_lald 22) tc_no) (cond (Nat.beq pc 22) (tc_lret) tc_no))))
theorem okX7_orders : ∀ pc, dt_S mX7_orders (tbX7_orders pc) pc := by
  intro pc
  unfold tbX7_orders
  exact dt_Sb (dt_Sb (dt_Sb (dt_Sl 0 (sn_ldIn rfl dX7_orders_0 rfl)) (dt_Sb (dt_Sl 1 (sn_callS rfl nnX7_noTalk wq_4_20 wq_4_21 dX7_orders_1 rfl)) (dt_Sl 4 (sn_ifeq dX7_orders_4 (by decide) rfl)))) (dt_Sb (dt_Sl 7 (sn_ldc2 rfl ⟨by decide, by decide⟩ wq_4_82 dX7_orders_7 rfl)) (dt_Sb (dt_Sl 10 (sn_lret rfl dX7_orders_10)) (dt_Sl 11 (sn_ldAn rfl dX7_orders_11 rfl))))) (dt_Sb (dt_Sb (dt_Sl 12 (sn_ldIn rfl dX7_orders_12 rfl)) (dt_Sb (dt_Sl 13 (sn_callV rfl ffX7 nnX7_layMoments rfl wq_4_127 wq_4_129 wq_0_43 dX7_orders_13 rfl)) (dt_Sl 16 (sn_ldAn rfl dX7_orders_16 rfl)))) (dt_Sb (dt_Sb (dt_Sl 17 (sn_getf rfl ffX7 (by decide) wq_3_160 dX7_orders_17 rfl)) (dt_Sl 20 (sn_ic ⟨by decide, by decide⟩ dX7_orders_20 rfl))) (dt_Sb (dt_Sl 21 (sn_lald dX7_orders_21 rfl)) (dt_Sl 22 (sn_lret rfl dX7_orders_22)))))
theorem dX7_moments_0 : decode cX7_moments 0 = .ok (.iload_n 1, 1) := by decide +kernel
theorem dX7_moments_1 : decode cX7_moments 1 = .ok (.invokestatic 155, 3) := by decide +kernel
theorem dX7_moments_4 : decode cX7_moments 4 = .ok (.ifCond .eq 5, 3) := by decide +kernel
theorem dX7_moments_7 : decode cX7_moments 7 = .ok (.iconst (-1), 1) := by decide +kernel
theorem dX7_moments_8 : decode cX7_moments 8 = .ok (.ireturn, 1) := by decide +kernel
theorem dX7_moments_9 : decode cX7_moments 9 = .ok (.aload_n 0, 1) := by decide +kernel
theorem dX7_moments_10 : decode cX7_moments 10 = .ok (.iload_n 1, 1) := by decide +kernel
theorem dX7_moments_11 : decode cX7_moments 11 = .ok (.invokevirtual 222, 3) := by decide +kernel
theorem dX7_moments_14 : decode cX7_moments 14 = .ok (.aload_n 0, 1) := by decide +kernel
theorem dX7_moments_15 : decode cX7_moments 15 = .ok (.getfield 210, 3) := by decide +kernel
theorem dX7_moments_18 : decode cX7_moments 18 = .ok (.ireturn, 1) := by decide +kernel
def tbX7_moments (pc : Nat) : dt_T := cond (Nat.ble pc 8) (cond (Nat.ble pc 1) (cond (Nat.ble pc 0) (cond (Nat.beq pc 0) (tc_ldI 1 1) tc_no) (cond (Nat.beq pc 1) (tc_callS mX7_noTalk 1 4) tc_no)) (cond (Nat.ble pc 4) (cond (Nat.beq pc 4) (tc_ifeq 9 7) tc_no) (cond (Nat.ble pc 7) (cond (Nat.beq pc 7) (tc_ic (-1) 8) tc_no) (cond (Nat.beq pc 8) (tc_iret) tc_no)))) (cond (Nat.ble pc 11) (cond (Nat.ble pc 9) (cond (Nat.beq pc 9) (tc_ldA 0 10) tc_no) (cond (Nat.ble pc 10) (cond (Nat.beq pc 10) (tc_ldI 1 11) tc_no) (cond (Nat.beq pc 11) (tc_callV 7 mX7_layMoments 1 14) tc_no))) (cond (Nat.ble pc 14) (cond (Nat.beq pc 14) (tc_ldA 0 15) tc_no) (cond (Nat.ble pc 15) (cond (Nat.beq pc 15) (tc_getf 7 25 18) tc_no) (cond (Nat.beq pc 18) (tc_iret) tc_no))))
theorem okX7_moments : ∀ pc, dt_S mX7_moments (tbX7_moments pc) pc := by
  intro pc
  unfold tbX7_moments
  exact dt_Sb (dt_Sb (dt_Sb (dt_Sl 0 (sn_ldIn rfl dX7_moments_0 rfl)) (dt_Sl 1 (sn_callS rfl nnX7_noTalk wq_4_20 wq_4_21 dX7_moments_1 rfl))) (dt_Sb (dt_Sl 4 (sn_ifeq dX7_moments_4 (by decide) rfl)) (dt_Sb (dt_Sl 7 (sn_ic ⟨by decide, by decide⟩ dX7_moments_7 rfl)) (dt_Sl 8 (sn_iret rfl dX7_moments_8))))) (dt_Sb (dt_Sb (dt_Sl 9 (sn_ldAn rfl dX7_moments_9 rfl)) (dt_Sb (dt_Sl 10 (sn_ldIn rfl dX7_moments_10 rfl)) (dt_Sl 11 (sn_callV rfl ffX7 nnX7_layMoments rfl wq_4_127 wq_4_129 wq_0_43 dX7_moments_11 rfl)))) (dt_Sb (dt_Sl 14 (sn_ldAn rfl dX7_moments_14 rfl)) (dt_Sb (dt_Sl 15 (sn_getf rfl ffX7 (by decide) wq_3_162 dX7_moments_15 rfl)) (dt_Sl 18 (sn_iret rfl dX7_moments_18)))))
theorem dX7_under_0 : decode cX7_under 0 = .ok (.iload_n 1, 1) := by decide +kernel
theorem dX7_under_1 : decode cX7_under 1 = .ok (.invokestatic 155, 3) := by decide +kernel
theorem dX7_under_4 : decode cX7_under 4 = .ok (.ifCond .ne 13, 3) := by decide +kernel
theorem dX7_under_7 : decode cX7_under 7 = .ok (.iload_n 2, 1) := by decide +kernel
theorem dX7_under_8 : decode cX7_under 8 = .ok (.i2l, 1) := by decide +kernel
theorem dX7_under_9 : decode cX7_under 9 = .ok (.lconst 0, 1) := by decide +kernel
theorem dX7_under_10 : decode cX7_under 10 = .ok (.lconst 1, 1) := by decide +kernel
theorem dX7_under_11 : decode cX7_under 11 = .ok (.invokestatic 83, 3) := by decide +kernel
theorem dX7_under_14 : decode cX7_under 14 = .ok (.ifCond .ne 5, 3) := by decide +kernel
theorem dX7_under_17 : decode cX7_under 17 = .ok (.iconst (-1), 1) := by decide +kernel
theorem dX7_under_18 : decode cX7_under 18 = .ok (.ireturn, 1) := by decide +kernel
theorem dX7_under_19 : decode cX7_under 19 = .ok (.aload_n 0, 1) := by decide +kernel
theorem dX7_under_20 : decode cX7_under 20 = .ok (.iload_n 1, 1) := by decide +kernel
theorem dX7_under_21 : decode cX7_under 21 = .ok (.invokevirtual 222, 3) := by decide +kernel
theorem dX7_under_24 : decode cX7_under 24 = .ok (.iload_n 2, 1) := by decide +kernel
theorem dX7_under_25 : decode cX7_under 25 = .ok (.ifCond .ne 10, 3) := by decide +kernel
theorem dX7_under_28 : decode cX7_under 28 = .ok (.aload_n 0, 1) := by decide +kernel
theorem dX7_under_29 : decode cX7_under 29 = .ok (.getfield 213, 3) := by decide +kernel
theorem dX7_under_32 : decode cX7_under 32 = .ok (.goto 9, 3) := by decide +kernel
theorem dX7_under_35 : decode cX7_under 35 = .ok (.aload_n 0, 1) := by decide +kernel
theorem dX7_under_36 : decode cX7_under 36 = .ok (.getfield 63, 3) := by decide +kernel
theorem dX7_under_39 : decode cX7_under 39 = .ok (.iconst 0, 1) := by decide +kernel
theorem dX7_under_40 : decode cX7_under 40 = .ok (.iaload, 1) := by decide +kernel
theorem dX7_under_41 : decode cX7_under 41 = .ok (.ireturn, 1) := by decide +kernel
def tbX7_under (pc : Nat) : dt_T := cond (Nat.ble pc 19) (cond (Nat.ble pc 9) (cond (Nat.ble pc 4) (cond (Nat.ble pc 0) (cond (Nat.beq pc 0) (tc_ldI 1 1) tc_no) (cond (Nat.ble pc 1) (cond (Nat.beq pc 1) (tc_callS mX7_noTalk 1 4) tc_no) (cond (Nat.beq pc 4) (tc_ifne 17 7) tc_no))) (cond (Nat.ble pc 7) (cond (Nat.beq pc 7) (tc_ldI 2 8) tc_no) (cond (Nat.ble pc 8) (cond (Nat.beq pc 8) (tc_i2l 9) tc_no) (cond (Nat.beq pc 9) (tc_lc 0 10) tc_no)))) (cond (Nat.ble pc 14) (cond (Nat.ble pc 10) (cond (Nat.beq pc 10) (tc_lc 1 11) tc_no) (cond (Nat.ble pc 11) (cond (Nat.beq pc 11) (tc_callS mX7_in 3 14) tc_no) (cond (Nat.beq pc 14) (tc_ifne 19 17) tc_no))) (cond (Nat.ble pc 17) (cond (Nat.beq pc 17) (tc_ic (-1) 18) tc_no) (cond (Nat.ble pc 18) (cond (Nat.beq pc 18) (tc_iret) tc_no) (cond (Nat.beq pc 19) (tc_ldA 0 20) tc_no))))) (cond (Nat.ble pc 29) (cond (Nat.ble pc 24) (cond (Nat.ble pc 20) (cond (Nat.beq pc 20) (tc_ldI 1 21) tc_no) (cond (Nat.ble pc 21) (cond (Nat.beq pc 21) (tc_callV 7 mX7_layMoments 1 24) tc_no) (cond (Nat.beq pc 24) (tc_ldI 2 25) tc_no))) (cond (Nat.ble pc 25) (cond (Nat.beq pc 25) (tc_ifne 35 28) tc_no) (cond (Nat.ble pc 28) (cond (Nat.beq pc 28) (tc_ldA 0 29) tc_no) (cond (Nat.beq pc 29) (tc_getf 7 26 32) tc_no)))) (cond (Nat.ble pc 36) (cond (Nat.ble pc 32) (cond (Nat.beq pc 32) (tc_goto 41) tc_no) (cond (Nat.ble pc 35) (cond (Nat.beq pc 35) (tc_ldA 0 36) tc_no) (cond (Nat.beq pc 36) (tc_getf 7 24 39) tc_no))) (cond (Nat.ble pc 39) (cond (Nat.beq pc 39) (tc_ic 0 40) tc_no) (cond (Nat.ble pc 40) (cond (Nat.beq pc 40) (tc_iald 41) tc_no) (cond (Nat.beq pc 41) (tc_iret) tc_no)))))
theorem okX7_under : ∀ pc, dt_S mX7_under (tbX7_under pc) pc := by
  intro pc
  unfold tbX7_under
  exact dt_Sb (dt_Sb (dt_Sb (dt_Sb (dt_Sl 0 (sn_ldIn rfl dX7_under_0 rfl)) (dt_Sb (dt_Sl 1 (sn_callS rfl nnX7_noTalk wq_4_20 wq_4_21 dX7_under_1 rfl)) (dt_Sl 4 (sn_ifne dX7_under_4 (by decide) rfl)))) (dt_Sb (dt_Sl 7 (sn_ldIn rfl dX7_under_7 rfl)) (dt_Sb (dt_Sl 8 (sn_i2l dX7_under_8 rfl)) (dt_Sl 9 (sn_lc (k := 0) ⟨by decide, by decide⟩ rfl dX7_under_9 rfl))))) (dt_Sb (dt_Sb (dt_Sl 10 (sn_lc (k := 1) ⟨by decide, by decide⟩ rfl dX7_under_10 rfl)) (dt_Sb (dt_Sl 11 (sn_callS rfl nnX7_in wq_4_8 wq_4_9 dX7_under_11 rfl)) (dt_Sl 14 (sn_ifne dX7_under_14 (by decide) rfl)))) (dt_Sb (dt_Sl 17 (sn_ic ⟨by decide, by decide⟩ dX7_under_17 rfl)) (dt_Sb (dt_Sl 18 (sn_iret rfl dX7_under_18)) (dt_Sl 19 (sn_ldAn rfl dX7_under_19 rfl)))))) (dt_Sb (dt_Sb (dt_Sb (dt_Sl 20 (sn_ldIn rfl dX7_under_20 rfl)) (dt_Sb (dt_Sl 21 (sn_callV rfl ffX7 nnX7_layMoments rfl wq_4_127 wq_4_129 wq_0_43 dX7_under_21 rfl)) (dt_Sl 24 (sn_ldIn rfl dX7_under_24 rfl)))) (dt_Sb (dt_Sl 25 (sn_ifne dX7_under_25 (by decide) rfl)) (dt_Sb (dt_Sl 28 (sn_ldAn rfl dX7_under_28 rfl)) (dt_Sl 29 (sn_getf rfl ffX7 (by decide) wq_3_163 dX7_under_29 rfl))))) (dt_Sb (dt_Sb (dt_Sl 32 (sn_goto dX7_under_32 (by decide))) (dt_Sb (dt_Sl 35 (sn_ldAn rfl dX7_under_35 rfl)) (dt_Sl 36 (sn_getf rfl ffX7 (by decide) wq_3_161 dX7_under_36 rfl)))) (dt_Sb (dt_Sl 39 (sn_ic ⟨by decide, by decide⟩ dX7_under_39 rfl)) (dt_Sb (dt_Sl 40 (sn_iald dX7_under_40 rfl)) (dt_Sl 41 (sn_iret rfl dX7_under_41))))))
theorem dX7_isSameLine_0 : decode cX7_isSameLine 0 = .ok (.aload_n 0, 1) := by decide +kernel
theorem dX7_isSameLine_1 : decode cX7_isSameLine 1 = .ok (.getfield 29, 3) := by decide +kernel
theorem dX7_isSameLine_4 : decode cX7_isSameLine 4 = .ok (.iconst 4, 1) := by decide +kernel
theorem dX7_isSameLine_5 : decode cX7_isSameLine 5 = .ok (.iload_n 1, 1) := by decide +kernel
theorem dX7_isSameLine_6 : decode cX7_isSameLine 6 = .ok (.imul, 1) := by decide +kernel
theorem dX7_isSameLine_7 : decode cX7_isSameLine 7 = .ok (.iload_n 3, 1) := by decide +kernel
theorem dX7_isSameLine_8 : decode cX7_isSameLine 8 = .ok (.iadd, 1) := by decide +kernel
theorem dX7_isSameLine_9 : decode cX7_isSameLine 9 = .ok (.iaload, 1) := by decide +kernel
theorem dX7_isSameLine_10 : decode cX7_isSameLine 10 = .ok (.aload_n 0, 1) := by decide +kernel
theorem dX7_isSameLine_11 : decode cX7_isSameLine 11 = .ok (.getfield 29, 3) := by decide +kernel
theorem dX7_isSameLine_14 : decode cX7_isSameLine 14 = .ok (.iconst 4, 1) := by decide +kernel
theorem dX7_isSameLine_15 : decode cX7_isSameLine 15 = .ok (.iload_n 2, 1) := by decide +kernel
theorem dX7_isSameLine_16 : decode cX7_isSameLine 16 = .ok (.imul, 1) := by decide +kernel
theorem dX7_isSameLine_17 : decode cX7_isSameLine 17 = .ok (.iload_n 3, 1) := by decide +kernel
theorem dX7_isSameLine_18 : decode cX7_isSameLine 18 = .ok (.iadd, 1) := by decide +kernel
theorem dX7_isSameLine_19 : decode cX7_isSameLine 19 = .ok (.iaload, 1) := by decide +kernel
theorem dX7_isSameLine_20 : decode cX7_isSameLine 20 = .ok (.if_icmp .ne 7, 3) := by decide +kernel
theorem dX7_isSameLine_23 : decode cX7_isSameLine 23 = .ok (.iconst 1, 1) := by decide +kernel
theorem dX7_isSameLine_24 : decode cX7_isSameLine 24 = .ok (.goto 4, 3) := by decide +kernel
theorem dX7_isSameLine_27 : decode cX7_isSameLine 27 = .ok (.iconst 0, 1) := by decide +kernel
theorem dX7_isSameLine_28 : decode cX7_isSameLine 28 = .ok (.istore 4, 2) := by decide +kernel
theorem dX7_isSameLine_30 : decode cX7_isSameLine 30 = .ok (.iconst 0, 1) := by decide +kernel
theorem dX7_isSameLine_31 : decode cX7_isSameLine 31 = .ok (.istore 5, 2) := by decide +kernel
theorem dX7_isSameLine_33 : decode cX7_isSameLine 33 = .ok (.iload 5, 2) := by decide +kernel
theorem dX7_isSameLine_35 : decode cX7_isSameLine 35 = .ok (.aload_n 0, 1) := by decide +kernel
theorem dX7_isSameLine_36 : decode cX7_isSameLine 36 = .ok (.getfield 29, 3) := by decide +kernel
theorem dX7_isSameLine_39 : decode cX7_isSameLine 39 = .ok (.iconst 4, 1) := by decide +kernel
theorem dX7_isSameLine_40 : decode cX7_isSameLine 40 = .ok (.iload_n 1, 1) := by decide +kernel
theorem dX7_isSameLine_41 : decode cX7_isSameLine 41 = .ok (.imul, 1) := by decide +kernel
theorem dX7_isSameLine_42 : decode cX7_isSameLine 42 = .ok (.iload_n 3, 1) := by decide +kernel
theorem dX7_isSameLine_43 : decode cX7_isSameLine 43 = .ok (.iadd, 1) := by decide +kernel
theorem dX7_isSameLine_44 : decode cX7_isSameLine 44 = .ok (.iaload, 1) := by decide +kernel
theorem dX7_isSameLine_45 : decode cX7_isSameLine 45 = .ok (.if_icmp .ge 118, 3) := by decide +kernel
theorem dX7_isSameLine_48 : decode cX7_isSameLine 48 = .ok (.iload 4, 2) := by decide +kernel
theorem dX7_isSameLine_50 : decode cX7_isSameLine 50 = .ok (.ifCond .eq 113, 3) := by decide +kernel
theorem dX7_isSameLine_53 : decode cX7_isSameLine 53 = .ok (.bipush 20, 2) := by decide +kernel
theorem dX7_isSameLine_55 : decode cX7_isSameLine 55 = .ok (.iload_n 1, 1) := by decide +kernel
theorem dX7_isSameLine_56 : decode cX7_isSameLine 56 = .ok (.imul, 1) := by decide +kernel
theorem dX7_isSameLine_57 : decode cX7_isSameLine 57 = .ok (.aload_n 0, 1) := by decide +kernel
theorem dX7_isSameLine_58 : decode cX7_isSameLine 58 = .ok (.getfield 32, 3) := by decide +kernel
theorem dX7_isSameLine_61 : decode cX7_isSameLine 61 = .ok (.bipush 20, 2) := by decide +kernel
theorem dX7_isSameLine_63 : decode cX7_isSameLine 63 = .ok (.iconst 4, 1) := by decide +kernel
theorem dX7_isSameLine_64 : decode cX7_isSameLine 64 = .ok (.iload_n 1, 1) := by decide +kernel
theorem dX7_isSameLine_65 : decode cX7_isSameLine 65 = .ok (.imul, 1) := by decide +kernel
theorem dX7_isSameLine_66 : decode cX7_isSameLine 66 = .ok (.iload_n 3, 1) := by decide +kernel
theorem dX7_isSameLine_67 : decode cX7_isSameLine 67 = .ok (.iadd, 1) := by decide +kernel
theorem dX7_isSameLine_68 : decode cX7_isSameLine 68 = .ok (.imul, 1) := by decide +kernel
theorem dX7_isSameLine_69 : decode cX7_isSameLine 69 = .ok (.iload 5, 2) := by decide +kernel
theorem dX7_isSameLine_71 : decode cX7_isSameLine 71 = .ok (.iadd, 1) := by decide +kernel
theorem dX7_isSameLine_72 : decode cX7_isSameLine 72 = .ok (.iaload, 1) := by decide +kernel
theorem dX7_isSameLine_73 : decode cX7_isSameLine 73 = .ok (.iadd, 1) := by decide +kernel
theorem dX7_isSameLine_74 : decode cX7_isSameLine 74 = .ok (.istore 6, 2) := by decide +kernel
theorem dX7_isSameLine_76 : decode cX7_isSameLine 76 = .ok (.bipush 20, 2) := by decide +kernel
theorem dX7_isSameLine_78 : decode cX7_isSameLine 78 = .ok (.iload_n 2, 1) := by decide +kernel
theorem dX7_isSameLine_79 : decode cX7_isSameLine 79 = .ok (.imul, 1) := by decide +kernel
theorem dX7_isSameLine_80 : decode cX7_isSameLine 80 = .ok (.aload_n 0, 1) := by decide +kernel
theorem dX7_isSameLine_81 : decode cX7_isSameLine 81 = .ok (.getfield 32, 3) := by decide +kernel
theorem dX7_isSameLine_84 : decode cX7_isSameLine 84 = .ok (.bipush 20, 2) := by decide +kernel
theorem dX7_isSameLine_86 : decode cX7_isSameLine 86 = .ok (.iconst 4, 1) := by decide +kernel
theorem dX7_isSameLine_87 : decode cX7_isSameLine 87 = .ok (.iload_n 2, 1) := by decide +kernel
theorem dX7_isSameLine_88 : decode cX7_isSameLine 88 = .ok (.imul, 1) := by decide +kernel
theorem dX7_isSameLine_89 : decode cX7_isSameLine 89 = .ok (.iload_n 3, 1) := by decide +kernel
theorem dX7_isSameLine_90 : decode cX7_isSameLine 90 = .ok (.iadd, 1) := by decide +kernel
theorem dX7_isSameLine_91 : decode cX7_isSameLine 91 = .ok (.imul, 1) := by decide +kernel
theorem dX7_isSameLine_92 : decode cX7_isSameLine 92 = .ok (.iload 5, 2) := by decide +kernel
theorem dX7_isSameLine_94 : decode cX7_isSameLine 94 = .ok (.iadd, 1) := by decide +kernel
theorem dX7_isSameLine_95 : decode cX7_isSameLine 95 = .ok (.iaload, 1) := by decide +kernel
theorem dX7_isSameLine_96 : decode cX7_isSameLine 96 = .ok (.iadd, 1) := by decide +kernel
theorem dX7_isSameLine_97 : decode cX7_isSameLine 97 = .ok (.istore 7, 2) := by decide +kernel
theorem dX7_isSameLine_99 : decode cX7_isSameLine 99 = .ok (.aload_n 0, 1) := by decide +kernel
theorem dX7_isSameLine_100 : decode cX7_isSameLine 100 = .ok (.getfield 13, 3) := by decide +kernel
theorem dX7_isSameLine_103 : decode cX7_isSameLine 103 = .ok (.iload 6, 2) := by decide +kernel
theorem dX7_isSameLine_105 : decode cX7_isSameLine 105 = .ok (.baload, 1) := by decide +kernel
theorem dX7_isSameLine_106 : decode cX7_isSameLine 106 = .ok (.aload_n 0, 1) := by decide +kernel
theorem dX7_isSameLine_107 : decode cX7_isSameLine 107 = .ok (.getfield 13, 3) := by decide +kernel
theorem dX7_isSameLine_110 : decode cX7_isSameLine 110 = .ok (.iload 7, 2) := by decide +kernel
theorem dX7_isSameLine_112 : decode cX7_isSameLine 112 = .ok (.baload, 1) := by decide +kernel
theorem dX7_isSameLine_113 : decode cX7_isSameLine 113 = .ok (.if_icmp .ne 41, 3) := by decide +kernel
theorem dX7_isSameLine_116 : decode cX7_isSameLine 116 = .ok (.aload_n 0, 1) := by decide +kernel
theorem dX7_isSameLine_117 : decode cX7_isSameLine 117 = .ok (.getfield 20, 3) := by decide +kernel
theorem dX7_isSameLine_120 : decode cX7_isSameLine 120 = .ok (.iload 6, 2) := by decide +kernel
theorem dX7_isSameLine_122 : decode cX7_isSameLine 122 = .ok (.iaload, 1) := by decide +kernel
theorem dX7_isSameLine_123 : decode cX7_isSameLine 123 = .ok (.aload_n 0, 1) := by decide +kernel
theorem dX7_isSameLine_124 : decode cX7_isSameLine 124 = .ok (.getfield 20, 3) := by decide +kernel
theorem dX7_isSameLine_127 : decode cX7_isSameLine 127 = .ok (.iload 7, 2) := by decide +kernel
theorem dX7_isSameLine_129 : decode cX7_isSameLine 129 = .ok (.iaload, 1) := by decide +kernel
theorem dX7_isSameLine_130 : decode cX7_isSameLine 130 = .ok (.if_icmp .ne 24, 3) := by decide +kernel
theorem dX7_isSameLine_133 : decode cX7_isSameLine 133 = .ok (.aload_n 0, 1) := by decide +kernel
theorem dX7_isSameLine_134 : decode cX7_isSameLine 134 = .ok (.getfield 23, 3) := by decide +kernel
theorem dX7_isSameLine_137 : decode cX7_isSameLine 137 = .ok (.iload 6, 2) := by decide +kernel
theorem dX7_isSameLine_139 : decode cX7_isSameLine 139 = .ok (.iaload, 1) := by decide +kernel
theorem dX7_isSameLine_140 : decode cX7_isSameLine 140 = .ok (.aload_n 0, 1) := by decide +kernel
theorem dX7_isSameLine_141 : decode cX7_isSameLine 141 = .ok (.getfield 23, 3) := by decide +kernel
theorem dX7_isSameLine_144 : decode cX7_isSameLine 144 = .ok (.iload 7, 2) := by decide +kernel
theorem dX7_isSameLine_146 : decode cX7_isSameLine 146 = .ok (.iaload, 1) := by decide +kernel
theorem dX7_isSameLine_147 : decode cX7_isSameLine 147 = .ok (.if_icmp .ne 7, 3) := by decide +kernel
theorem dX7_isSameLine_150 : decode cX7_isSameLine 150 = .ok (.iconst 1, 1) := by decide +kernel
theorem dX7_isSameLine_151 : decode cX7_isSameLine 151 = .ok (.goto 4, 3) := by decide +kernel
theorem dX7_isSameLine_154 : decode cX7_isSameLine 154 = .ok (.iconst 0, 1) := by decide +kernel
theorem dX7_isSameLine_155 : decode cX7_isSameLine 155 = .ok (.istore 4, 2) := by decide +kernel
theorem dX7_isSameLine_157 : decode cX7_isSameLine 157 = .ok (.iinc 5 1, 3) := by decide +kernel
theorem dX7_isSameLine_160 : decode cX7_isSameLine 160 = .ok (.goto (-127), 3) := by decide +kernel
theorem dX7_isSameLine_163 : decode cX7_isSameLine 163 = .ok (.iload 4, 2) := by decide +kernel
theorem dX7_isSameLine_165 : decode cX7_isSameLine 165 = .ok (.ireturn, 1) := by decide +kernel
def tbX7_isSameLine (pc : Nat) : dt_T := cond (Nat.ble pc 74) (cond (Nat.ble pc 36) (cond (Nat.ble pc 16) (cond (Nat.ble pc 7) (cond (Nat.ble pc 4) (cond (Nat.ble pc 0) (cond (Nat.beq pc 0) (tc_ldA 0 1) tc_no) (cond (Nat.ble pc 1) (cond (Nat.beq pc 1) (tc_getf 7 6 4) tc_no) (cond (Nat.beq pc 4) (tc_ic 4 5) tc_no))) (cond (Nat.ble pc 5) (cond (Nat.beq pc 5) (tc_ldI 1 6) tc_no) (cond (Nat.ble pc 6) (cond (Nat.beq pc 6) (tc_imul 7) tc_no) (cond (Nat.beq pc 7) (tc_ldI 3 8) tc_no)))) (cond (Nat.ble pc 10) (cond (Nat.ble pc 8) (cond (Nat.beq pc 8) (tc_iadd 9) tc_no) (cond (Nat.ble pc 9) (cond (Nat.beq pc 9) (tc_iald 10) tc_no) (cond (Nat.beq pc 10) (tc_ldA 0 11) tc_no))) (cond (Nat.ble pc 14) (cond (Nat.ble pc 11) (cond (Nat.beq pc 11) (tc_getf 7 6 14) tc_no) (cond (Nat.beq pc 14) (tc_ic 4 15) tc_no)) (cond (Nat.ble pc 15) (cond (Nat.beq pc 15) (tc_ldI 2 16) tc_no) (cond (Nat.beq pc 16) (tc_imul 17) tc_no))))) (cond (Nat.ble pc 24) (cond (Nat.ble pc 19) (cond (Nat.ble pc 17) (cond (Nat.beq pc 17) (tc_ldI 3 18) tc_no) (cond (Nat.ble pc 18) (cond (Nat.beq pc 18) (tc_iadd 19) tc_no) (cond (Nat.beq pc 19) (tc_iald 20) tc_no))) (cond (Nat.ble pc 20) (cond (Nat.beq pc 20) (tc_icmpne 27 23) tc_no) (cond (Nat.ble pc 23) (cond (Nat.beq pc 23) (tc_ic 1 24) tc_no) (cond (Nat.beq pc 24) (tc_goto 28) tc_no)))) (cond (Nat.ble pc 30) (cond (Nat.ble pc 27) (cond (Nat.beq pc 27) (tc_ic 0 28) tc_no) (cond (Nat.ble pc 28) (cond (Nat.beq pc 28) (tc_stI 4 30) tc_no) (cond (Nat.beq pc 30) (tc_ic 0 31) tc_no))) (cond (Nat.ble pc 33) (cond (Nat.ble pc 31) (cond (Nat.beq pc 31) (tc_stI 5 33) tc_no) (cond (Nat.beq pc 33) (tc_ldI 5 35) tc_no)) (cond (Nat.ble pc 35) (cond (Nat.beq pc 35) (tc_ldA 0 36) tc_no) (cond (Nat.beq pc 36) (tc_getf 7 6 39) tc_no)))))) (cond (Nat.ble pc 57) (cond (Nat.ble pc 44) (cond (Nat.ble pc 41) (cond (Nat.ble pc 39) (cond (Nat.beq pc 39) (tc_ic 4 40) tc_no) (cond (Nat.ble pc 40) (cond (Nat.beq pc 40) (tc_ldI 1 41) tc_no) (cond (Nat.beq pc 41) (tc_imul 42) tc_no))) (cond (Nat.ble pc 42) (cond (Nat.beq pc 42) (tc_ldI 3 43) tc_no) (cond (Nat.ble pc 43) (cond (Nat.beq pc 43) (tc_iadd 44) tc_no) (cond (Nat.beq pc 44) (tc_iald 45) tc_no)))) (cond (Nat.ble pc 50) (cond (Nat.ble pc 45) (cond (Nat.beq pc 45) (tc_icmpge 163 48) tc_no) (cond (Nat.ble pc 48) (cond (Nat.beq pc 48) (tc_ldI 4 50) tc_no) (cond (Nat.beq pc 50) (tc_ifeq 163 53) tc_no))) (cond (Nat.ble pc 55) (cond (Nat.ble pc 53) (cond (Nat.beq pc 53) (tc_ic 20 55) tc_no) (cond (Nat.beq pc 55) (tc_ldI 1 56) tc_no)) (cond (Nat.ble pc 56) (cond (Nat.beq pc 56) (tc_imul 57) tc_no) (cond (Nat.beq pc 57) (tc_ldA 0 58) tc_no))))) (cond (Nat.ble pc 66) (cond (Nat.ble pc 63) (cond (Nat.ble pc 58) (cond (Nat.beq pc 58) (tc_getf 7 7 61) tc_no) (cond (Nat.ble pc 61) (cond (Nat.beq pc 61) (tc_ic 20 63) tc_no) (cond (Nat.beq pc 63) (tc_ic 4 64) tc_no))) (cond (Nat.ble pc 64) (cond (Nat.beq pc 64) (tc_ldI 1 65) tc_no) (cond (Nat.ble pc 65) (cond (Nat.beq pc 65) (tc_imul 66) tc_no) (cond (Nat.beq pc 66) (tc_ldI 3 67) tc_no)))) (cond (Nat.ble pc 69) (cond (Nat.ble pc 67) (cond (Nat.beq pc 67) (tc_iadd 68) tc_no) (cond (Nat.ble pc 68) (cond (Nat.beq pc 68) (tc_imul 69) tc_no) (cond (Nat.beq pc 69) (tc_ldI 5 71) tc_no))) (cond (Nat.ble pc 72) (cond (Nat.ble pc 71) (cond (Nat.beq pc 71) (tc_iadd 72) tc_no) (cond (Nat.beq pc 72) (tc_iald 73) tc_no)) (cond (Nat.ble pc 73) (cond (Nat.beq pc 73) (tc_iadd 74) tc_no) (cond (Nat.beq pc 74) (tc_stI 6 76) tc_no))))))) (cond (Nat.ble pc 113) (cond (Nat.ble pc 92) (cond (Nat.ble pc 84) (cond (Nat.ble pc 79) (cond (Nat.ble pc 76) (cond (Nat.beq pc 76) (tc_ic 20 78) tc_no) (cond (Nat.ble pc 78) (cond (Nat.beq pc 78) (tc_ldI 2 79) tc_no) (cond (Nat.beq pc 79) (tc_imul 80) tc_no))) (cond (Nat.ble pc 80) (cond (Nat.beq pc 80) (tc_ldA 0 81) tc_no) (cond (Nat.ble pc 81) (cond (Nat.beq pc 81) (tc_getf 7 7 84) tc_no) (cond (Nat.beq pc 84) (tc_ic 20 86) tc_no)))) (cond (Nat.ble pc 88) (cond (Nat.ble pc 86) (cond (Nat.beq pc 86) (tc_ic 4 87) tc_no) (cond (Nat.ble pc 87) (cond (Nat.beq pc 87) (tc_ldI 2 88) tc_no) (cond (Nat.beq pc 88) (tc_imul 89) tc_no))) (cond (Nat.ble pc 90) (cond (Nat.ble pc 89) (cond (Nat.beq pc 89) (tc_ldI 3 90) tc_no) (cond (Nat.beq pc 90) (tc_iadd 91) tc_no)) (cond (Nat.ble pc 91) (cond (Nat.beq pc 91) (tc_imul 92) tc_no) (cond (Nat.beq pc 92) (tc_ldI 5 94) tc_no))))) (cond (Nat.ble pc 100) (cond (Nat.ble pc 96) (cond (Nat.ble pc 94) (cond (Nat.beq pc 94) (tc_iadd 95) tc_no) (cond (Nat.ble pc 95) (cond (Nat.beq pc 95) (tc_iald 96) tc_no) (cond (Nat.beq pc 96) (tc_iadd 97) tc_no))) (cond (Nat.ble pc 97) (cond (Nat.beq pc 97) (tc_stI 7 99) tc_no) (cond (Nat.ble pc 99) (cond (Nat.beq pc 99) (tc_ldA 0 100) tc_no) (cond (Nat.beq pc 100) (tc_getf 7 1 103) tc_no)))) (cond (Nat.ble pc 106) (cond (Nat.ble pc 103) (cond (Nat.beq pc 103) (tc_ldI 6 105) tc_no) (cond (Nat.ble pc 105) (cond (Nat.beq pc 105) (tc_zald 106) tc_no) (cond (Nat.beq pc 106) (tc_ldA 0 107) tc_no))) (cond (Nat.ble pc 110) (cond (Nat.ble pc 107) (cond (Nat.beq pc 107) (tc_getf 7 1 110) tc_no) (cond (Nat.beq pc 110) (tc_ldI 7 112) tc_no)) (cond (Nat.ble pc 112) (cond (Nat.beq pc 112) (tc_zald 113) tc_no) (cond (Nat.beq pc 113) (tc_icmpne 154 116) tc_no)))))) (cond (Nat.ble pc 139) (cond (Nat.ble pc 124) (cond (Nat.ble pc 120) (cond (Nat.ble pc 116) (cond (Nat.beq pc 116) (tc_ldA 0 117) tc_no) (cond (Nat.ble pc 117) (cond (Nat.beq pc 117) (tc_getf 7 3 120) tc_no) (cond (Nat.beq pc 120) (tc_ldI 6 122) tc_no))) (cond (Nat.ble pc 122) (cond (Nat.beq pc 122) (tc_iald 123) tc_no) (cond (Nat.ble pc 123) (cond (Nat.beq pc 123) (tc_ldA 0 124) tc_no) (cond (Nat.beq pc 124) (tc_getf 7 3 127) tc_no)))) (cond (Nat.ble pc 130) (cond (Nat.ble pc 127) (cond (Nat.beq pc 127) (tc_ldI 7 129) tc_no) (cond (Nat.ble pc 129) (cond (Nat.beq pc 129) (tc_iald 130) tc_no) (cond (Nat.beq pc 130) (tc_icmpne 154 133) tc_no))) (cond (Nat.ble pc 134) (cond (Nat.ble pc 133) (cond (Nat.beq pc 133) (tc_ldA 0 134) tc_no) (cond (Nat.beq pc 134) (tc_getf 7 4 137) tc_no)) (cond (Nat.ble pc 137) (cond (Nat.beq pc 137) (tc_ldI 6 139) tc_no) (cond (Nat.beq pc 139) (tc_iald 140) tc_no))))) (cond (Nat.ble pc 150) (cond (Nat.ble pc 144) (cond (Nat.ble pc 140) (cond (Nat.beq pc 140) (tc_ldA 0 141) tc_no) (cond (Nat.ble pc 141) (cond (Nat.beq pc 141) (tc_getf 7 4 144) tc_no) (cond (Nat.beq pc 144) (tc_ldI 7 146) tc_no))) (cond (Nat.ble pc 146) (cond (Nat.beq pc 146) (tc_iald 147) tc_no) (cond (Nat.ble pc 147) (cond (Nat.beq pc 147) (tc_icmpne 154 150) tc_no) (cond (Nat.beq pc 150) (tc_ic 1 151) tc_no)))) (cond (Nat.ble pc 155) (cond (Nat.ble pc 151) (cond (Nat.beq pc 151) (tc_goto 155) tc_no) (cond (Nat.ble pc 154) (cond (Nat.beq pc 154) (tc_ic 0 155) tc_no) (cond (Nat.beq pc 155) (tc_stI 4 157) tc_no))) (cond (Nat.ble pc 160) (cond (Nat.ble pc 157) (cond (Nat.beq pc 157) (tc_iinc 5 1 160) tc_no) (cond (Nat.beq pc 160) (tc_goto 33) tc_no)) (cond (Nat.ble pc 163) (cond (Nat.beq pc 163) (tc_ldI 4 165) tc_no) (cond (Nat.beq pc 165) (tc_zret) tc_no)))))))
theorem okX7_isSameLine : ∀ pc, dt_S mX7_isSameLine (tbX7_isSameLine pc) pc := by
  intro pc
  unfold tbX7_isSameLine
  exact dt_Sb (dt_Sb (dt_Sb (dt_Sb (dt_Sb (dt_Sb (dt_Sl 0 (sn_ldAn rfl dX7_isSameLine_0 rfl)) (dt_Sb (dt_Sl 1 (sn_getf rfl ffX7 (by decide) wq_3_143 dX7_isSameLine_1 rfl)) (dt_Sl 4 (sn_ic ⟨by decide, by decide⟩ dX7_isSameLine_4 rfl)))) (dt_Sb (dt_Sl 5 (sn_ldIn rfl dX7_isSameLine_5 rfl)) (dt_Sb (dt_Sl 6 (sn_imul dX7_isSameLine_6 rfl)) (dt_Sl 7 (sn_ldIn rfl dX7_isSameLine_7 rfl))))) (dt_Sb (dt_Sb (dt_Sl 8 (sn_iadd dX7_isSameLine_8 rfl)) (dt_Sb (dt_Sl 9 (sn_iald dX7_isSameLine_9 rfl)) (dt_Sl 10 (sn_ldAn rfl dX7_isSameLine_10 rfl)))) (dt_Sb (dt_Sb (dt_Sl 11 (sn_getf rfl ffX7 (by decide) wq_3_143 dX7_isSameLine_11 rfl)) (dt_Sl 14 (sn_ic ⟨by decide, by decide⟩ dX7_isSameLine_14 rfl))) (dt_Sb (dt_Sl 15 (sn_ldIn rfl dX7_isSameLine_15 rfl)) (dt_Sl 16 (sn_imul dX7_isSameLine_16 rfl)))))) (dt_Sb (dt_Sb (dt_Sb (dt_Sl 17 (sn_ldIn rfl dX7_isSameLine_17 rfl)) (dt_Sb (dt_Sl 18 (sn_iadd dX7_isSameLine_18 rfl)) (dt_Sl 19 (sn_iald dX7_isSameLine_19 rfl)))) (dt_Sb (dt_Sl 20 (sn_icmpne dX7_isSameLine_20 (by decide) rfl)) (dt_Sb (dt_Sl 23 (sn_ic ⟨by decide, by decide⟩ dX7_isSameLine_23 rfl)) (dt_Sl 24 (sn_goto dX7_isSameLine_24 (by decide)))))) (dt_Sb (dt_Sb (dt_Sl 27 (sn_ic ⟨by decide, by decide⟩ dX7_isSameLine_27 rfl)) (dt_Sb (dt_Sl 28 (sn_stI (by decide) dX7_isSameLine_28 rfl)) (dt_Sl 30 (sn_ic ⟨by decide, by decide⟩ dX7_isSameLine_30 rfl)))) (dt_Sb (dt_Sb (dt_Sl 31 (sn_stI (by decide) dX7_isSameLine_31 rfl)) (dt_Sl 33 (sn_ldI dX7_isSameLine_33 rfl))) (dt_Sb (dt_Sl 35 (sn_ldAn rfl dX7_isSameLine_35 rfl)) (dt_Sl 36 (sn_getf rfl ffX7 (by decide) wq_3_143 dX7_isSameLine_36 rfl))))))) (dt_Sb (dt_Sb (dt_Sb (dt_Sb (dt_Sl 39 (sn_ic ⟨by decide, by decide⟩ dX7_isSameLine_39 rfl)) (dt_Sb (dt_Sl 40 (sn_ldIn rfl dX7_isSameLine_40 rfl)) (dt_Sl 41 (sn_imul dX7_isSameLine_41 rfl)))) (dt_Sb (dt_Sl 42 (sn_ldIn rfl dX7_isSameLine_42 rfl)) (dt_Sb (dt_Sl 43 (sn_iadd dX7_isSameLine_43 rfl)) (dt_Sl 44 (sn_iald dX7_isSameLine_44 rfl))))) (dt_Sb (dt_Sb (dt_Sl 45 (sn_icmpge dX7_isSameLine_45 (by decide) rfl)) (dt_Sb (dt_Sl 48 (sn_ldI dX7_isSameLine_48 rfl)) (dt_Sl 50 (sn_ifeq dX7_isSameLine_50 (by decide) rfl)))) (dt_Sb (dt_Sb (dt_Sl 53 (sn_bi ⟨by decide, by decide⟩ rfl dX7_isSameLine_53 rfl)) (dt_Sl 55 (sn_ldIn rfl dX7_isSameLine_55 rfl))) (dt_Sb (dt_Sl 56 (sn_imul dX7_isSameLine_56 rfl)) (dt_Sl 57 (sn_ldAn rfl dX7_isSameLine_57 rfl)))))) (dt_Sb (dt_Sb (dt_Sb (dt_Sl 58 (sn_getf rfl ffX7 (by decide) wq_3_144 dX7_isSameLine_58 rfl)) (dt_Sb (dt_Sl 61 (sn_bi ⟨by decide, by decide⟩ rfl dX7_isSameLine_61 rfl)) (dt_Sl 63 (sn_ic ⟨by decide, by decide⟩ dX7_isSameLine_63 rfl)))) (dt_Sb (dt_Sl 64 (sn_ldIn rfl dX7_isSameLine_64 rfl)) (dt_Sb (dt_Sl 65 (sn_imul dX7_isSameLine_65 rfl)) (dt_Sl 66 (sn_ldIn rfl dX7_isSameLine_66 rfl))))) (dt_Sb (dt_Sb (dt_Sl 67 (sn_iadd dX7_isSameLine_67 rfl)) (dt_Sb (dt_Sl 68 (sn_imul dX7_isSameLine_68 rfl)) (dt_Sl 69 (sn_ldI dX7_isSameLine_69 rfl)))) (dt_Sb (dt_Sb (dt_Sl 71 (sn_iadd dX7_isSameLine_71 rfl)) (dt_Sl 72 (sn_iald dX7_isSameLine_72 rfl))) (dt_Sb (dt_Sl 73 (sn_iadd dX7_isSameLine_73 rfl)) (dt_Sl 74 (sn_stI (by decide) dX7_isSameLine_74 rfl)))))))) (dt_Sb (dt_Sb (dt_Sb (dt_Sb (dt_Sb (dt_Sl 76 (sn_bi ⟨by decide, by decide⟩ rfl dX7_isSameLine_76 rfl)) (dt_Sb (dt_Sl 78 (sn_ldIn rfl dX7_isSameLine_78 rfl)) (dt_Sl 79 (sn_imul dX7_isSameLine_79 rfl)))) (dt_Sb (dt_Sl 80 (sn_ldAn rfl dX7_isSameLine_80 rfl)) (dt_Sb (dt_Sl 81 (sn_getf rfl ffX7 (by decide) wq_3_144 dX7_isSameLine_81 rfl)) (dt_Sl 84 (sn_bi ⟨by decide, by decide⟩ rfl dX7_isSameLine_84 rfl))))) (dt_Sb (dt_Sb (dt_Sl 86 (sn_ic ⟨by decide, by decide⟩ dX7_isSameLine_86 rfl)) (dt_Sb (dt_Sl 87 (sn_ldIn rfl dX7_isSameLine_87 rfl)) (dt_Sl 88 (sn_imul dX7_isSameLine_88 rfl)))) (dt_Sb (dt_Sb (dt_Sl 89 (sn_ldIn rfl dX7_isSameLine_89 rfl)) (dt_Sl 90 (sn_iadd dX7_isSameLine_90 rfl))) (dt_Sb (dt_Sl 91 (sn_imul dX7_isSameLine_91 rfl)) (dt_Sl 92 (sn_ldI dX7_isSameLine_92 rfl)))))) (dt_Sb (dt_Sb (dt_Sb (dt_Sl 94 (sn_iadd dX7_isSameLine_94 rfl)) (dt_Sb (dt_Sl 95 (sn_iald dX7_isSameLine_95 rfl)) (dt_Sl 96 (sn_iadd dX7_isSameLine_96 rfl)))) (dt_Sb (dt_Sl 97 (sn_stI (by decide) dX7_isSameLine_97 rfl)) (dt_Sb (dt_Sl 99 (sn_ldAn rfl dX7_isSameLine_99 rfl)) (dt_Sl 100 (sn_getf rfl ffX7 (by decide) wq_3_138 dX7_isSameLine_100 rfl))))) (dt_Sb (dt_Sb (dt_Sl 103 (sn_ldI dX7_isSameLine_103 rfl)) (dt_Sb (dt_Sl 105 (sn_zald dX7_isSameLine_105 rfl)) (dt_Sl 106 (sn_ldAn rfl dX7_isSameLine_106 rfl)))) (dt_Sb (dt_Sb (dt_Sl 107 (sn_getf rfl ffX7 (by decide) wq_3_138 dX7_isSameLine_107 rfl)) (dt_Sl 110 (sn_ldI dX7_isSameLine_110 rfl))) (dt_Sb (dt_Sl 112 (sn_zald dX7_isSameLine_112 rfl)) (dt_Sl 113 (sn_icmpne dX7_isSameLine_113 (by decide) rfl))))))) (dt_Sb (dt_Sb (dt_Sb (dt_Sb (dt_Sl 116 (sn_ldAn rfl dX7_isSameLine_116 rfl)) (dt_Sb (dt_Sl 117 (sn_getf rfl ffX7 (by decide) wq_3_140 dX7_isSameLine_117 rfl)) (dt_Sl 120 (sn_ldI dX7_isSameLine_120 rfl)))) (dt_Sb (dt_Sl 122 (sn_iald dX7_isSameLine_122 rfl)) (dt_Sb (dt_Sl 123 (sn_ldAn rfl dX7_isSameLine_123 rfl)) (dt_Sl 124 (sn_getf rfl ffX7 (by decide) wq_3_140 dX7_isSameLine_124 rfl))))) (dt_Sb (dt_Sb (dt_Sl 127 (sn_ldI dX7_isSameLine_127 rfl)) (dt_Sb (dt_Sl 129 (sn_iald dX7_isSameLine_129 rfl)) (dt_Sl 130 (sn_icmpne dX7_isSameLine_130 (by decide) rfl)))) (dt_Sb (dt_Sb (dt_Sl 133 (sn_ldAn rfl dX7_isSameLine_133 rfl)) (dt_Sl 134 (sn_getf rfl ffX7 (by decide) wq_3_141 dX7_isSameLine_134 rfl))) (dt_Sb (dt_Sl 137 (sn_ldI dX7_isSameLine_137 rfl)) (dt_Sl 139 (sn_iald dX7_isSameLine_139 rfl)))))) (dt_Sb (dt_Sb (dt_Sb (dt_Sl 140 (sn_ldAn rfl dX7_isSameLine_140 rfl)) (dt_Sb (dt_Sl 141 (sn_getf rfl ffX7 (by decide) wq_3_141 dX7_isSameLine_141 rfl)) (dt_Sl 144 (sn_ldI dX7_isSameLine_144 rfl)))) (dt_Sb (dt_Sl 146 (sn_iald dX7_isSameLine_146 rfl)) (dt_Sb (dt_Sl 147 (sn_icmpne dX7_isSameLine_147 (by decide) rfl)) (dt_Sl 150 (sn_ic ⟨by decide, by decide⟩ dX7_isSameLine_150 rfl))))) (dt_Sb (dt_Sb (dt_Sl 151 (sn_goto dX7_isSameLine_151 (by decide))) (dt_Sb (dt_Sl 154 (sn_ic ⟨by decide, by decide⟩ dX7_isSameLine_154 rfl)) (dt_Sl 155 (sn_stI (by decide) dX7_isSameLine_155 rfl)))) (dt_Sb (dt_Sb (dt_Sl 157 (sn_iinc (by decide) dX7_isSameLine_157 rfl)) (dt_Sl 160 (sn_goto dX7_isSameLine_160 (by decide)))) (dt_Sb (dt_Sl 163 (sn_ldI dX7_isSameLine_163 rfl)) (dt_Sl 165 (sn_zret rfl dX7_isSameLine_165))))))))
theorem dX7_areAlike_0 : decode cX7_areAlike 0 = .ok (.aload_n 0, 1) := by decide +kernel
theorem dX7_areAlike_1 : decode cX7_areAlike 1 = .ok (.iload_n 1, 1) := by decide +kernel
theorem dX7_areAlike_2 : decode cX7_areAlike 2 = .ok (.iload_n 2, 1) := by decide +kernel
theorem dX7_areAlike_3 : decode cX7_areAlike 3 = .ok (.iconst 0, 1) := by decide +kernel
theorem dX7_areAlike_4 : decode cX7_areAlike 4 = .ok (.invokevirtual 225, 3) := by decide +kernel
theorem dX7_areAlike_7 : decode cX7_areAlike 7 = .ok (.ifCond .eq 37, 3) := by decide +kernel
theorem dX7_areAlike_10 : decode cX7_areAlike 10 = .ok (.aload_n 0, 1) := by decide +kernel
theorem dX7_areAlike_11 : decode cX7_areAlike 11 = .ok (.iload_n 1, 1) := by decide +kernel
theorem dX7_areAlike_12 : decode cX7_areAlike 12 = .ok (.iload_n 2, 1) := by decide +kernel
theorem dX7_areAlike_13 : decode cX7_areAlike 13 = .ok (.iconst 1, 1) := by decide +kernel
theorem dX7_areAlike_14 : decode cX7_areAlike 14 = .ok (.invokevirtual 225, 3) := by decide +kernel
theorem dX7_areAlike_17 : decode cX7_areAlike 17 = .ok (.ifCond .eq 27, 3) := by decide +kernel
theorem dX7_areAlike_20 : decode cX7_areAlike 20 = .ok (.aload_n 0, 1) := by decide +kernel
theorem dX7_areAlike_21 : decode cX7_areAlike 21 = .ok (.iload_n 1, 1) := by decide +kernel
theorem dX7_areAlike_22 : decode cX7_areAlike 22 = .ok (.iload_n 2, 1) := by decide +kernel
theorem dX7_areAlike_23 : decode cX7_areAlike 23 = .ok (.iconst 2, 1) := by decide +kernel
theorem dX7_areAlike_24 : decode cX7_areAlike 24 = .ok (.invokevirtual 225, 3) := by decide +kernel
theorem dX7_areAlike_27 : decode cX7_areAlike 27 = .ok (.ifCond .eq 17, 3) := by decide +kernel
theorem dX7_areAlike_30 : decode cX7_areAlike 30 = .ok (.aload_n 0, 1) := by decide +kernel
theorem dX7_areAlike_31 : decode cX7_areAlike 31 = .ok (.iload_n 1, 1) := by decide +kernel
theorem dX7_areAlike_32 : decode cX7_areAlike 32 = .ok (.iload_n 2, 1) := by decide +kernel
theorem dX7_areAlike_33 : decode cX7_areAlike 33 = .ok (.iconst 3, 1) := by decide +kernel
theorem dX7_areAlike_34 : decode cX7_areAlike 34 = .ok (.invokevirtual 225, 3) := by decide +kernel
theorem dX7_areAlike_37 : decode cX7_areAlike 37 = .ok (.ifCond .eq 7, 3) := by decide +kernel
theorem dX7_areAlike_40 : decode cX7_areAlike 40 = .ok (.iconst 1, 1) := by decide +kernel
theorem dX7_areAlike_41 : decode cX7_areAlike 41 = .ok (.goto 4, 3) := by decide +kernel
theorem dX7_areAlike_44 : decode cX7_areAlike 44 = .ok (.iconst 0, 1) := by decide +kernel
theorem dX7_areAlike_45 : decode cX7_areAlike 45 = .ok (.ireturn, 1) := by decide +kernel
def tbX7_areAlike (pc : Nat) : dt_T := cond (Nat.ble pc 21) (cond (Nat.ble pc 10) (cond (Nat.ble pc 2) (cond (Nat.ble pc 0) (cond (Nat.beq pc 0) (tc_ldA 0 1) tc_no) (cond (Nat.ble pc 1) (cond (Nat.beq pc 1) (tc_ldI 1 2) tc_no) (cond (Nat.beq pc 2) (tc_ldI 2 3) tc_no))) (cond (Nat.ble pc 4) (cond (Nat.ble pc 3) (cond (Nat.beq pc 3) (tc_ic 0 4) tc_no) (cond (Nat.beq pc 4) (tc_callV 7 mX7_isSameLine 3 7) tc_no)) (cond (Nat.ble pc 7) (cond (Nat.beq pc 7) (tc_ifeq 44 10) tc_no) (cond (Nat.beq pc 10) (tc_ldA 0 11) tc_no)))) (cond (Nat.ble pc 13) (cond (Nat.ble pc 11) (cond (Nat.beq pc 11) (tc_ldI 1 12) tc_no) (cond (Nat.ble pc 12) (cond (Nat.beq pc 12) (tc_ldI 2 13) tc_no) (cond (Nat.beq pc 13) (tc_ic 1 14) tc_no))) (cond (Nat.ble pc 17) (cond (Nat.ble pc 14) (cond (Nat.beq pc 14) (tc_callV 7 mX7_isSameLine 3 17) tc_no) (cond (Nat.beq pc 17) (tc_ifeq 44 20) tc_no)) (cond (Nat.ble pc 20) (cond (Nat.beq pc 20) (tc_ldA 0 21) tc_no) (cond (Nat.beq pc 21) (tc_ldI 1 22) tc_no))))) (cond (Nat.ble pc 32) (cond (Nat.ble pc 24) (cond (Nat.ble pc 22) (cond (Nat.beq pc 22) (tc_ldI 2 23) tc_no) (cond (Nat.ble pc 23) (cond (Nat.beq pc 23) (tc_ic 2 24) tc_no) (cond (Nat.beq pc 24) (tc_callV 7 mX7_isSameLine 3 27) tc_no))) (cond (Nat.ble pc 30) (cond (Nat.ble pc 27) (cond (Nat.beq pc 27) (tc_ifeq 44 30) tc_no) (cond (Nat.beq pc 30) (tc_ldA 0 31) tc_no)) (cond (Nat.ble pc 31) (cond (Nat.beq pc 31) (tc_ldI 1 32) tc_no) (cond (Nat.beq pc 32) (tc_ldI 2 33) tc_no)))) (cond (Nat.ble pc 37) (cond (Nat.ble pc 33) (cond (Nat.beq pc 33) (tc_ic 3 34) tc_no) (cond (Nat.ble pc 34) (cond (Nat.beq pc 34) (tc_callV 7 mX7_isSameLine 3 37) tc_no) (cond (Nat.beq pc 37) (tc_ifeq 44 40) tc_no))) (cond (Nat.ble pc 41) (cond (Nat.ble pc 40) (cond (Nat.beq pc 40) (tc_ic 1 41) tc_no) (cond (Nat.beq pc 41) (tc_goto 45) tc_no)) (cond (Nat.ble pc 44) (cond (Nat.beq pc 44) (tc_ic 0 45) tc_no) (cond (Nat.beq pc 45) (tc_zret) tc_no)))))
theorem okX7_areAlike : ∀ pc, dt_S mX7_areAlike (tbX7_areAlike pc) pc := by
  intro pc
  unfold tbX7_areAlike
  exact dt_Sb (dt_Sb (dt_Sb (dt_Sb (dt_Sl 0 (sn_ldAn rfl dX7_areAlike_0 rfl)) (dt_Sb (dt_Sl 1 (sn_ldIn rfl dX7_areAlike_1 rfl)) (dt_Sl 2 (sn_ldIn rfl dX7_areAlike_2 rfl)))) (dt_Sb (dt_Sb (dt_Sl 3 (sn_ic ⟨by decide, by decide⟩ dX7_areAlike_3 rfl)) (dt_Sl 4 (sn_callV rfl ffX7 nnX7_isSameLine rfl wq_4_163 wq_4_165 wq_0_49 dX7_areAlike_4 rfl))) (dt_Sb (dt_Sl 7 (sn_ifeq dX7_areAlike_7 (by decide) rfl)) (dt_Sl 10 (sn_ldAn rfl dX7_areAlike_10 rfl))))) (dt_Sb (dt_Sb (dt_Sl 11 (sn_ldIn rfl dX7_areAlike_11 rfl)) (dt_Sb (dt_Sl 12 (sn_ldIn rfl dX7_areAlike_12 rfl)) (dt_Sl 13 (sn_ic ⟨by decide, by decide⟩ dX7_areAlike_13 rfl)))) (dt_Sb (dt_Sb (dt_Sl 14 (sn_callV rfl ffX7 nnX7_isSameLine rfl wq_4_163 wq_4_165 wq_0_49 dX7_areAlike_14 rfl)) (dt_Sl 17 (sn_ifeq dX7_areAlike_17 (by decide) rfl))) (dt_Sb (dt_Sl 20 (sn_ldAn rfl dX7_areAlike_20 rfl)) (dt_Sl 21 (sn_ldIn rfl dX7_areAlike_21 rfl)))))) (dt_Sb (dt_Sb (dt_Sb (dt_Sl 22 (sn_ldIn rfl dX7_areAlike_22 rfl)) (dt_Sb (dt_Sl 23 (sn_ic ⟨by decide, by decide⟩ dX7_areAlike_23 rfl)) (dt_Sl 24 (sn_callV rfl ffX7 nnX7_isSameLine rfl wq_4_163 wq_4_165 wq_0_49 dX7_areAlike_24 rfl)))) (dt_Sb (dt_Sb (dt_Sl 27 (sn_ifeq dX7_areAlike_27 (by decide) rfl)) (dt_Sl 30 (sn_ldAn rfl dX7_areAlike_30 rfl))) (dt_Sb (dt_Sl 31 (sn_ldIn rfl dX7_areAlike_31 rfl)) (dt_Sl 32 (sn_ldIn rfl dX7_areAlike_32 rfl))))) (dt_Sb (dt_Sb (dt_Sl 33 (sn_ic ⟨by decide, by decide⟩ dX7_areAlike_33 rfl)) (dt_Sb (dt_Sl 34 (sn_callV rfl ffX7 nnX7_isSameLine rfl wq_4_163 wq_4_165 wq_0_49 dX7_areAlike_34 rfl)) (dt_Sl 37 (sn_ifeq dX7_areAlike_37 (by decide) rfl)))) (dt_Sb (dt_Sb (dt_Sl 40 (sn_ic ⟨by decide, by decide⟩ dX7_areAlike_40 rfl)) (dt_Sl 41 (sn_goto dX7_areAlike_41 (by decide)))) (dt_Sb (dt_Sl 44 (sn_ic ⟨by decide, by decide⟩ dX7_areAlike_44 rfl)) (dt_Sl 45 (sn_zret rfl dX7_areAlike_45))))))
theorem dX7_alike_0 : decode cX7_alike 0 = .ok (.iload_n 1, 1) := by decide +kernel
theorem dX7_alike_1 : decode cX7_alike 1 = .ok (.invokestatic 155, 3) := by decide +kernel
theorem dX7_alike_4 : decode cX7_alike 4 = .ok (.ifCond .ne 10, 3) := by decide +kernel
theorem dX7_alike_7 : decode cX7_alike 7 = .ok (.iload_n 2, 1) := by decide +kernel
theorem dX7_alike_8 : decode cX7_alike 8 = .ok (.invokestatic 155, 3) := by decide +kernel
theorem dX7_alike_11 : decode cX7_alike 11 = .ok (.ifCond .eq 5, 3) := by decide +kernel
theorem dX7_alike_14 : decode cX7_alike 14 = .ok (.iconst (-1), 1) := by decide +kernel
theorem dX7_alike_15 : decode cX7_alike 15 = .ok (.ireturn, 1) := by decide +kernel
theorem dX7_alike_16 : decode cX7_alike 16 = .ok (.aload_n 0, 1) := by decide +kernel
theorem dX7_alike_17 : decode cX7_alike 17 = .ok (.iload_n 1, 1) := by decide +kernel
theorem dX7_alike_18 : decode cX7_alike 18 = .ok (.iload_n 2, 1) := by decide +kernel
theorem dX7_alike_19 : decode cX7_alike 19 = .ok (.invokevirtual 228, 3) := by decide +kernel
theorem dX7_alike_22 : decode cX7_alike 22 = .ok (.ifCond .eq 7, 3) := by decide +kernel
theorem dX7_alike_25 : decode cX7_alike 25 = .ok (.iconst 1, 1) := by decide +kernel
theorem dX7_alike_26 : decode cX7_alike 26 = .ok (.goto 4, 3) := by decide +kernel
theorem dX7_alike_29 : decode cX7_alike 29 = .ok (.iconst 0, 1) := by decide +kernel
theorem dX7_alike_30 : decode cX7_alike 30 = .ok (.ireturn, 1) := by decide +kernel
def tbX7_alike (pc : Nat) : dt_T := cond (Nat.ble pc 15) (cond (Nat.ble pc 7) (cond (Nat.ble pc 1) (cond (Nat.ble pc 0) (cond (Nat.beq pc 0) (tc_ldI 1 1) tc_no) (cond (Nat.beq pc 1) (tc_callS mX7_noTalk 1 4) tc_no)) (cond (Nat.ble pc 4) (cond (Nat.beq pc 4) (tc_ifne 14 7) tc_no) (cond (Nat.beq pc 7) (tc_ldI 2 8) tc_no))) (cond (Nat.ble pc 11) (cond (Nat.ble pc 8) (cond (Nat.beq pc 8) (tc_callS mX7_noTalk 1 11) tc_no) (cond (Nat.beq pc 11) (tc_ifeq 16 14) tc_no)) (cond (Nat.ble pc 14) (cond (Nat.beq pc 14) (tc_ic (-1) 15) tc_no) (cond (Nat.beq pc 15) (tc_iret) tc_no)))) (cond (Nat.ble pc 19) (cond (Nat.ble pc 17) (cond (Nat.ble pc 16) (cond (Nat.beq pc 16) (tc_ldA 0 17) tc_no) (cond (Nat.beq pc 17) (tc_ldI 1 18) tc_no)) (cond (Nat.ble pc 18) (cond (Nat.beq pc 18) (tc_ldI 2 19) tc_no) (cond (Nat.beq pc 19) (tc_callV 7 mX7_areAlike 2 22) tc_no))) (cond (Nat.ble pc 25) (cond (Nat.ble pc 22) (cond (Nat.beq pc 22) (tc_ifeq 29 25) tc_no) (cond (Nat.beq pc 25) (tc_ic 1 26) tc_no)) (cond (Nat.ble pc 26) (cond (Nat.beq pc 26) (tc_goto 30) tc_no) (cond (Nat.ble pc 29) (cond (Nat.beq pc 29) (tc_ic 0 30) tc_no) (cond (Nat.beq pc 30) (tc_iret) tc_no)))))
theorem okX7_alike : ∀ pc, dt_S mX7_alike (tbX7_alike pc) pc := by
  intro pc
  unfold tbX7_alike
  exact dt_Sb (dt_Sb (dt_Sb (dt_Sb (dt_Sl 0 (sn_ldIn rfl dX7_alike_0 rfl)) (dt_Sl 1 (sn_callS rfl nnX7_noTalk wq_4_20 wq_4_21 dX7_alike_1 rfl))) (dt_Sb (dt_Sl 4 (sn_ifne dX7_alike_4 (by decide) rfl)) (dt_Sl 7 (sn_ldIn rfl dX7_alike_7 rfl)))) (dt_Sb (dt_Sb (dt_Sl 8 (sn_callS rfl nnX7_noTalk wq_4_20 wq_4_21 dX7_alike_8 rfl)) (dt_Sl 11 (sn_ifeq dX7_alike_11 (by decide) rfl))) (dt_Sb (dt_Sl 14 (sn_ic ⟨by decide, by decide⟩ dX7_alike_14 rfl)) (dt_Sl 15 (sn_iret rfl dX7_alike_15))))) (dt_Sb (dt_Sb (dt_Sb (dt_Sl 16 (sn_ldAn rfl dX7_alike_16 rfl)) (dt_Sl 17 (sn_ldIn rfl dX7_alike_17 rfl))) (dt_Sb (dt_Sl 18 (sn_ldIn rfl dX7_alike_18 rfl)) (dt_Sl 19 (sn_callV rfl ffX7 nnX7_areAlike rfl wq_4_159 wq_4_161 wq_0_48 dX7_alike_19 rfl)))) (dt_Sb (dt_Sb (dt_Sl 22 (sn_ifeq dX7_alike_22 (by decide) rfl)) (dt_Sl 25 (sn_ic ⟨by decide, by decide⟩ dX7_alike_25 rfl))) (dt_Sb (dt_Sl 26 (sn_goto dX7_alike_26 (by decide))) (dt_Sb (dt_Sl 29 (sn_ic ⟨by decide, by decide⟩ dX7_alike_29 rfl)) (dt_Sl 30 (sn_iret rfl dX7_alike_30))))))
theorem dX7_addTalk_0 : decode cX7_addTalk 0 = .ok (.iconst 0, 1) := by decide +kernel
theorem dX7_addTalk_1 : decode cX7_addTalk 1 = .ok (.istore_n 2, 1) := by decide +kernel
theorem dX7_addTalk_2 : decode cX7_addTalk 2 = .ok (.iload_n 2, 1) := by decide +kernel
theorem dX7_addTalk_3 : decode cX7_addTalk 3 = .ok (.aload_n 0, 1) := by decide +kernel
theorem dX7_addTalk_4 : decode cX7_addTalk 4 = .ok (.getfield 7, 3) := by decide +kernel
theorem dX7_addTalk_7 : decode cX7_addTalk 7 = .ok (.iload_n 1, 1) := by decide +kernel
theorem dX7_addTalk_8 : decode cX7_addTalk 8 = .ok (.iaload, 1) := by decide +kernel
theorem dX7_addTalk_9 : decode cX7_addTalk 9 = .ok (.if_icmp .ge 84, 3) := by decide +kernel
theorem dX7_addTalk_12 : decode cX7_addTalk 12 = .ok (.bipush 20, 2) := by decide +kernel
theorem dX7_addTalk_14 : decode cX7_addTalk 14 = .ok (.iload_n 1, 1) := by decide +kernel
theorem dX7_addTalk_15 : decode cX7_addTalk 15 = .ok (.imul, 1) := by decide +kernel
theorem dX7_addTalk_16 : decode cX7_addTalk 16 = .ok (.iload_n 2, 1) := by decide +kernel
theorem dX7_addTalk_17 : decode cX7_addTalk 17 = .ok (.iadd, 1) := by decide +kernel
theorem dX7_addTalk_18 : decode cX7_addTalk 18 = .ok (.istore_n 3, 1) := by decide +kernel
theorem dX7_addTalk_19 : decode cX7_addTalk 19 = .ok (.aload_n 0, 1) := by decide +kernel
theorem dX7_addTalk_20 : decode cX7_addTalk 20 = .ok (.getfield 13, 3) := by decide +kernel
theorem dX7_addTalk_23 : decode cX7_addTalk 23 = .ok (.iload_n 3, 1) := by decide +kernel
theorem dX7_addTalk_24 : decode cX7_addTalk 24 = .ok (.baload, 1) := by decide +kernel
theorem dX7_addTalk_25 : decode cX7_addTalk 25 = .ok (.ifCond .eq 28, 3) := by decide +kernel
theorem dX7_addTalk_28 : decode cX7_addTalk 28 = .ok (.aload_n 0, 1) := by decide +kernel
theorem dX7_addTalk_29 : decode cX7_addTalk 29 = .ok (.aload_n 0, 1) := by decide +kernel
theorem dX7_addTalk_30 : decode cX7_addTalk 30 = .ok (.getfield 20, 3) := by decide +kernel
theorem dX7_addTalk_33 : decode cX7_addTalk 33 = .ok (.iload_n 3, 1) := by decide +kernel
theorem dX7_addTalk_34 : decode cX7_addTalk 34 = .ok (.iaload, 1) := by decide +kernel
theorem dX7_addTalk_35 : decode cX7_addTalk 35 = .ok (.aload_n 0, 1) := by decide +kernel
theorem dX7_addTalk_36 : decode cX7_addTalk 36 = .ok (.getfield 17, 3) := by decide +kernel
theorem dX7_addTalk_39 : decode cX7_addTalk 39 = .ok (.iload_n 3, 1) := by decide +kernel
theorem dX7_addTalk_40 : decode cX7_addTalk 40 = .ok (.iaload, 1) := by decide +kernel
theorem dX7_addTalk_41 : decode cX7_addTalk 41 = .ok (.aload_n 0, 1) := by decide +kernel
theorem dX7_addTalk_42 : decode cX7_addTalk 42 = .ok (.getfield 23, 3) := by decide +kernel
theorem dX7_addTalk_45 : decode cX7_addTalk 45 = .ok (.iload_n 3, 1) := by decide +kernel
theorem dX7_addTalk_46 : decode cX7_addTalk 46 = .ok (.iaload, 1) := by decide +kernel
theorem dX7_addTalk_47 : decode cX7_addTalk 47 = .ok (.invokevirtual 140, 3) := by decide +kernel
theorem dX7_addTalk_50 : decode cX7_addTalk 50 = .ok (.goto 5, 3) := by decide +kernel
theorem dX7_addTalk_53 : decode cX7_addTalk 53 = .ok (.bipush (-9), 2) := by decide +kernel
theorem dX7_addTalk_55 : decode cX7_addTalk 55 = .ok (.istore 4, 2) := by decide +kernel
theorem dX7_addTalk_57 : decode cX7_addTalk 57 = .ok (.aload_n 0, 1) := by decide +kernel
theorem dX7_addTalk_58 : decode cX7_addTalk 58 = .ok (.aload_n 0, 1) := by decide +kernel
theorem dX7_addTalk_59 : decode cX7_addTalk 59 = .ok (.getfield 13, 3) := by decide +kernel
theorem dX7_addTalk_62 : decode cX7_addTalk 62 = .ok (.iload_n 3, 1) := by decide +kernel
theorem dX7_addTalk_63 : decode cX7_addTalk 63 = .ok (.baload, 1) := by decide +kernel
theorem dX7_addTalk_64 : decode cX7_addTalk 64 = .ok (.aload_n 0, 1) := by decide +kernel
theorem dX7_addTalk_65 : decode cX7_addTalk 65 = .ok (.getfield 17, 3) := by decide +kernel
theorem dX7_addTalk_68 : decode cX7_addTalk 68 = .ok (.iload_n 3, 1) := by decide +kernel
theorem dX7_addTalk_69 : decode cX7_addTalk 69 = .ok (.iaload, 1) := by decide +kernel
theorem dX7_addTalk_70 : decode cX7_addTalk 70 = .ok (.aload_n 0, 1) := by decide +kernel
theorem dX7_addTalk_71 : decode cX7_addTalk 71 = .ok (.getfield 20, 3) := by decide +kernel
theorem dX7_addTalk_74 : decode cX7_addTalk 74 = .ok (.iload_n 3, 1) := by decide +kernel
theorem dX7_addTalk_75 : decode cX7_addTalk 75 = .ok (.iaload, 1) := by decide +kernel
theorem dX7_addTalk_76 : decode cX7_addTalk 76 = .ok (.aload_n 0, 1) := by decide +kernel
theorem dX7_addTalk_77 : decode cX7_addTalk 77 = .ok (.getfield 23, 3) := by decide +kernel
theorem dX7_addTalk_80 : decode cX7_addTalk 80 = .ok (.iload_n 3, 1) := by decide +kernel
theorem dX7_addTalk_81 : decode cX7_addTalk 81 = .ok (.iaload, 1) := by decide +kernel
theorem dX7_addTalk_82 : decode cX7_addTalk 82 = .ok (.iload 4, 2) := by decide +kernel
theorem dX7_addTalk_84 : decode cX7_addTalk 84 = .ok (.invokevirtual 144, 3) := by decide +kernel
theorem dX7_addTalk_87 : decode cX7_addTalk 87 = .ok (.iinc 2 1, 3) := by decide +kernel
theorem dX7_addTalk_90 : decode cX7_addTalk 90 = .ok (.goto (-88), 3) := by decide +kernel
theorem dX7_addTalk_93 : decode cX7_addTalk 93 = .ok (.return_, 1) := by decide +kernel
def tbX7_addTalk (pc : Nat) : dt_T := cond (Nat.ble pc 41) (cond (Nat.ble pc 18) (cond (Nat.ble pc 8) (cond (Nat.ble pc 2) (cond (Nat.ble pc 0) (cond (Nat.beq pc 0) (tc_ic 0 1) tc_no) (cond (Nat.ble pc 1) (cond (Nat.beq pc 1) (tc_stI 2 2) tc_no) (cond (Nat.beq pc 2) (tc_ldI 2 3) tc_no))) (cond (Nat.ble pc 4) (cond (Nat.ble pc 3) (cond (Nat.beq pc 3) (tc_ldA 0 4) tc_no) (cond (Nat.beq pc 4) (tc_getf 7 0 7) tc_no)) (cond (Nat.ble pc 7) (cond (Nat.beq pc 7) (tc_ldI 1 8) tc_no) (cond (Nat.beq pc 8) (tc_iald 9) tc_no)))) (cond (Nat.ble pc 14) (cond (Nat.ble pc 9) (cond (Nat.beq pc 9) (tc_icmpge 93 12) tc_no) (cond (Nat.ble pc 12) (cond (Nat.beq pc 12) (tc_ic 20 14) tc_no) (cond (Nat.beq pc 14) (tc_ldI 1 15) tc_no))) (cond (Nat.ble pc 16) (cond (Nat.ble pc 15) (cond (Nat.beq pc 15) (tc_imul 16) tc_no) (cond (Nat.beq pc 16) (tc_ldI 2 17) tc_no)) (cond (Nat.ble pc 17) (cond (Nat.beq pc 17) (tc_iadd 18) tc_no) (cond (Nat.beq pc 18) (tc_stI 3 19) tc_no))))) (cond (Nat.ble pc 29) (cond (Nat.ble pc 23) (cond (Nat.ble pc 19) (cond (Nat.beq pc 19) (tc_ldA 0 20) tc_no) (cond (Nat.ble pc 20) (cond (Nat.beq pc 20) (tc_getf 7 1 23) tc_no) (cond (Nat.beq pc 23) (tc_ldI 3 24) tc_no))) (cond (Nat.ble pc 25) (cond (Nat.ble pc 24) (cond (Nat.beq pc 24) (tc_zald 25) tc_no) (cond (Nat.beq pc 25) (tc_ifeq 53 28) tc_no)) (cond (Nat.ble pc 28) (cond (Nat.beq pc 28) (tc_ldA 0 29) tc_no) (cond (Nat.beq pc 29) (tc_ldA 0 30) tc_no)))) (cond (Nat.ble pc 35) (cond (Nat.ble pc 33) (cond (Nat.ble pc 30) (cond (Nat.beq pc 30) (tc_getf 7 3 33) tc_no) (cond (Nat.beq pc 33) (tc_ldI 3 34) tc_no)) (cond (Nat.ble pc 34) (cond (Nat.beq pc 34) (tc_iald 35) tc_no) (cond (Nat.beq pc 35) (tc_ldA 0 36) tc_no))) (cond (Nat.ble pc 39) (cond (Nat.ble pc 36) (cond (Nat.beq pc 36) (tc_getf 7 2 39) tc_no) (cond (Nat.beq pc 39) (tc_ldI 3 40) tc_no)) (cond (Nat.ble pc 40) (cond (Nat.beq pc 40) (tc_iald 41) tc_no) (cond (Nat.beq pc 41) (tc_ldA 0 42) tc_no)))))) (cond (Nat.ble pc 65) (cond (Nat.ble pc 55) (cond (Nat.ble pc 46) (cond (Nat.ble pc 42) (cond (Nat.beq pc 42) (tc_getf 7 4 45) tc_no) (cond (Nat.ble pc 45) (cond (Nat.beq pc 45) (tc_ldI 3 46) tc_no) (cond (Nat.beq pc 46) (tc_iald 47) tc_no))) (cond (Nat.ble pc 50) (cond (Nat.ble pc 47) (cond (Nat.beq pc 47) (tc_callV 7 mX7_openSend 3 50) tc_no) (cond (Nat.beq pc 50) (tc_goto 55) tc_no)) (cond (Nat.ble pc 53) (cond (Nat.beq pc 53) (tc_ic (-9) 55) tc_no) (cond (Nat.beq pc 55) (tc_stI 4 57) tc_no)))) (cond (Nat.ble pc 59) (cond (Nat.ble pc 57) (cond (Nat.beq pc 57) (tc_ldA 0 58) tc_no) (cond (Nat.ble pc 58) (cond (Nat.beq pc 58) (tc_ldA 0 59) tc_no) (cond (Nat.beq pc 59) (tc_getf 7 1 62) tc_no))) (cond (Nat.ble pc 63) (cond (Nat.ble pc 62) (cond (Nat.beq pc 62) (tc_ldI 3 63) tc_no) (cond (Nat.beq pc 63) (tc_zald 64) tc_no)) (cond (Nat.ble pc 64) (cond (Nat.beq pc 64) (tc_ldA 0 65) tc_no) (cond (Nat.beq pc 65) (tc_getf 7 2 68) tc_no))))) (cond (Nat.ble pc 76) (cond (Nat.ble pc 70) (cond (Nat.ble pc 68) (cond (Nat.beq pc 68) (tc_ldI 3 69) tc_no) (cond (Nat.ble pc 69) (cond (Nat.beq pc 69) (tc_iald 70) tc_no) (cond (Nat.beq pc 70) (tc_ldA 0 71) tc_no))) (cond (Nat.ble pc 74) (cond (Nat.ble pc 71) (cond (Nat.beq pc 71) (tc_getf 7 3 74) tc_no) (cond (Nat.beq pc 74) (tc_ldI 3 75) tc_no)) (cond (Nat.ble pc 75) (cond (Nat.beq pc 75) (tc_iald 76) tc_no) (cond (Nat.beq pc 76) (tc_ldA 0 77) tc_no)))) (cond (Nat.ble pc 82) (cond (Nat.ble pc 80) (cond (Nat.ble pc 77) (cond (Nat.beq pc 77) (tc_getf 7 4 80) tc_no) (cond (Nat.beq pc 80) (tc_ldI 3 81) tc_no)) (cond (Nat.ble pc 81) (cond (Nat.beq pc 81) (tc_iald 82) tc_no) (cond (Nat.beq pc 82) (tc_ldI 4 84) tc_no))) (cond (Nat.ble pc 87) (cond (Nat.ble pc 84) (cond (Nat.beq pc 84) (tc_callV 7 mX7_addEvent 5 87) tc_no) (cond (Nat.beq pc 87) (tc_iinc 2 1 90) tc_no)) (cond (Nat.ble pc 90) (cond (Nat.beq pc 90) (tc_goto 2) tc_no) (cond (Nat.beq pc 93) (tc_ret) tc_no))))))
theorem okX7_addTalk : ∀ pc, dt_S mX7_addTalk (tbX7_addTalk pc) pc := by
  intro pc
  unfold tbX7_addTalk
  exact dt_Sb (dt_Sb (dt_Sb (dt_Sb (dt_Sb (dt_Sl 0 (sn_ic ⟨by decide, by decide⟩ dX7_addTalk_0 rfl)) (dt_Sb (dt_Sl 1 (sn_stIn rfl (by decide) dX7_addTalk_1 rfl)) (dt_Sl 2 (sn_ldIn rfl dX7_addTalk_2 rfl)))) (dt_Sb (dt_Sb (dt_Sl 3 (sn_ldAn rfl dX7_addTalk_3 rfl)) (dt_Sl 4 (sn_getf rfl ffX7 (by decide) wq_3_137 dX7_addTalk_4 rfl))) (dt_Sb (dt_Sl 7 (sn_ldIn rfl dX7_addTalk_7 rfl)) (dt_Sl 8 (sn_iald dX7_addTalk_8 rfl))))) (dt_Sb (dt_Sb (dt_Sl 9 (sn_icmpge dX7_addTalk_9 (by decide) rfl)) (dt_Sb (dt_Sl 12 (sn_bi ⟨by decide, by decide⟩ rfl dX7_addTalk_12 rfl)) (dt_Sl 14 (sn_ldIn rfl dX7_addTalk_14 rfl)))) (dt_Sb (dt_Sb (dt_Sl 15 (sn_imul dX7_addTalk_15 rfl)) (dt_Sl 16 (sn_ldIn rfl dX7_addTalk_16 rfl))) (dt_Sb (dt_Sl 17 (sn_iadd dX7_addTalk_17 rfl)) (dt_Sl 18 (sn_stIn rfl (by decide) dX7_addTalk_18 rfl)))))) (dt_Sb (dt_Sb (dt_Sb (dt_Sl 19 (sn_ldAn rfl dX7_addTalk_19 rfl)) (dt_Sb (dt_Sl 20 (sn_getf rfl ffX7 (by decide) wq_3_138 dX7_addTalk_20 rfl)) (dt_Sl 23 (sn_ldIn rfl dX7_addTalk_23 rfl)))) (dt_Sb (dt_Sb (dt_Sl 24 (sn_zald dX7_addTalk_24 rfl)) (dt_Sl 25 (sn_ifeq dX7_addTalk_25 (by decide) rfl))) (dt_Sb (dt_Sl 28 (sn_ldAn rfl dX7_addTalk_28 rfl)) (dt_Sl 29 (sn_ldAn rfl dX7_addTalk_29 rfl))))) (dt_Sb (dt_Sb (dt_Sb (dt_Sl 30 (sn_getf rfl ffX7 (by decide) wq_3_140 dX7_addTalk_30 rfl)) (dt_Sl 33 (sn_ldIn rfl dX7_addTalk_33 rfl))) (dt_Sb (dt_Sl 34 (sn_iald dX7_addTalk_34 rfl)) (dt_Sl 35 (sn_ldAn rfl dX7_addTalk_35 rfl)))) (dt_Sb (dt_Sb (dt_Sl 36 (sn_getf rfl ffX7 (by decide) wq_3_139 dX7_addTalk_36 rfl)) (dt_Sl 39 (sn_ldIn rfl dX7_addTalk_39 rfl))) (dt_Sb (dt_Sl 40 (sn_iald dX7_addTalk_40 rfl)) (dt_Sl 41 (sn_ldAn rfl dX7_addTalk_41 rfl))))))) (dt_Sb (dt_Sb (dt_Sb (dt_Sb (dt_Sl 42 (sn_getf rfl ffX7 (by decide) wq_3_141 dX7_addTalk_42 rfl)) (dt_Sb (dt_Sl 45 (sn_ldIn rfl dX7_addTalk_45 rfl)) (dt_Sl 46 (sn_iald dX7_addTalk_46 rfl)))) (dt_Sb (dt_Sb (dt_Sl 47 (sn_callV rfl ffX7 nnX7_openSend rfl wq_4_53 wq_4_55 wq_0_32 dX7_addTalk_47 rfl)) (dt_Sl 50 (sn_goto dX7_addTalk_50 (by decide)))) (dt_Sb (dt_Sl 53 (sn_bi ⟨by decide, by decide⟩ rfl dX7_addTalk_53 rfl)) (dt_Sl 55 (sn_stI (by decide) dX7_addTalk_55 rfl))))) (dt_Sb (dt_Sb (dt_Sl 57 (sn_ldAn rfl dX7_addTalk_57 rfl)) (dt_Sb (dt_Sl 58 (sn_ldAn rfl dX7_addTalk_58 rfl)) (dt_Sl 59 (sn_getf rfl ffX7 (by decide) wq_3_138 dX7_addTalk_59 rfl)))) (dt_Sb (dt_Sb (dt_Sl 62 (sn_ldIn rfl dX7_addTalk_62 rfl)) (dt_Sl 63 (sn_zald dX7_addTalk_63 rfl))) (dt_Sb (dt_Sl 64 (sn_ldAn rfl dX7_addTalk_64 rfl)) (dt_Sl 65 (sn_getf rfl ffX7 (by decide) wq_3_139 dX7_addTalk_65 rfl)))))) (dt_Sb (dt_Sb (dt_Sb (dt_Sl 68 (sn_ldIn rfl dX7_addTalk_68 rfl)) (dt_Sb (dt_Sl 69 (sn_iald dX7_addTalk_69 rfl)) (dt_Sl 70 (sn_ldAn rfl dX7_addTalk_70 rfl)))) (dt_Sb (dt_Sb (dt_Sl 71 (sn_getf rfl ffX7 (by decide) wq_3_140 dX7_addTalk_71 rfl)) (dt_Sl 74 (sn_ldIn rfl dX7_addTalk_74 rfl))) (dt_Sb (dt_Sl 75 (sn_iald dX7_addTalk_75 rfl)) (dt_Sl 76 (sn_ldAn rfl dX7_addTalk_76 rfl))))) (dt_Sb (dt_Sb (dt_Sb (dt_Sl 77 (sn_getf rfl ffX7 (by decide) wq_3_141 dX7_addTalk_77 rfl)) (dt_Sl 80 (sn_ldIn rfl dX7_addTalk_80 rfl))) (dt_Sb (dt_Sl 81 (sn_iald dX7_addTalk_81 rfl)) (dt_Sl 82 (sn_ldI dX7_addTalk_82 rfl)))) (dt_Sb (dt_Sb (dt_Sl 84 (sn_callV rfl ffX7 nnX7_addEvent rfl wq_4_57 wq_4_59 wq_0_33 dX7_addTalk_84 rfl)) (dt_Sl 87 (sn_iinc (by decide) dX7_addTalk_87 rfl))) (dt_Sb (dt_Sl 90 (sn_goto dX7_addTalk_90 (by decide))) (dt_Sl 93 (sn_ret rfl dX7_addTalk_93)))))))
theorem dX7_behind_0 : decode cX7_behind 0 = .ok (.iload_n 1, 1) := by decide +kernel
theorem dX7_behind_1 : decode cX7_behind 1 = .ok (.invokestatic 155, 3) := by decide +kernel
theorem dX7_behind_4 : decode cX7_behind 4 = .ok (.ifCond .ne 17, 3) := by decide +kernel
theorem dX7_behind_7 : decode cX7_behind 7 = .ok (.iload_n 2, 1) := by decide +kernel
theorem dX7_behind_8 : decode cX7_behind 8 = .ok (.invokestatic 155, 3) := by decide +kernel
theorem dX7_behind_11 : decode cX7_behind 11 = .ok (.ifCond .ne 10, 3) := by decide +kernel
theorem dX7_behind_14 : decode cX7_behind 14 = .ok (.iload_n 3, 1) := by decide +kernel
theorem dX7_behind_15 : decode cX7_behind 15 = .ok (.invokestatic 155, 3) := by decide +kernel
theorem dX7_behind_18 : decode cX7_behind 18 = .ok (.ifCond .eq 5, 3) := by decide +kernel
theorem dX7_behind_21 : decode cX7_behind 21 = .ok (.iconst (-1), 1) := by decide +kernel
theorem dX7_behind_22 : decode cX7_behind 22 = .ok (.ireturn, 1) := by decide +kernel
theorem dX7_behind_23 : decode cX7_behind 23 = .ok (.aload_n 0, 1) := by decide +kernel
theorem dX7_behind_24 : decode cX7_behind 24 = .ok (.getfield 7, 3) := by decide +kernel
theorem dX7_behind_27 : decode cX7_behind 27 = .ok (.iload_n 1, 1) := by decide +kernel
theorem dX7_behind_28 : decode cX7_behind 28 = .ok (.iaload, 1) := by decide +kernel
theorem dX7_behind_29 : decode cX7_behind 29 = .ok (.aload_n 0, 1) := by decide +kernel
theorem dX7_behind_30 : decode cX7_behind 30 = .ok (.getfield 7, 3) := by decide +kernel
theorem dX7_behind_33 : decode cX7_behind 33 = .ok (.iload_n 2, 1) := by decide +kernel
theorem dX7_behind_34 : decode cX7_behind 34 = .ok (.iaload, 1) := by decide +kernel
theorem dX7_behind_35 : decode cX7_behind 35 = .ok (.iadd, 1) := by decide +kernel
theorem dX7_behind_36 : decode cX7_behind 36 = .ok (.bipush 20, 2) := by decide +kernel
theorem dX7_behind_38 : decode cX7_behind 38 = .ok (.if_icmp .le 6, 3) := by decide +kernel
theorem dX7_behind_41 : decode cX7_behind 41 = .ok (.bipush (-3), 2) := by decide +kernel
theorem dX7_behind_43 : decode cX7_behind 43 = .ok (.ireturn, 1) := by decide +kernel
theorem dX7_behind_44 : decode cX7_behind 44 = .ok (.aload_n 0, 1) := by decide +kernel
theorem dX7_behind_45 : decode cX7_behind 45 = .ok (.invokevirtual 148, 3) := by decide +kernel
theorem dX7_behind_48 : decode cX7_behind 48 = .ok (.aload_n 0, 1) := by decide +kernel
theorem dX7_behind_49 : decode cX7_behind 49 = .ok (.iload_n 1, 1) := by decide +kernel
theorem dX7_behind_50 : decode cX7_behind 50 = .ok (.invokevirtual 231, 3) := by decide +kernel
theorem dX7_behind_53 : decode cX7_behind 53 = .ok (.aload_n 0, 1) := by decide +kernel
theorem dX7_behind_54 : decode cX7_behind 54 = .ok (.iload_n 2, 1) := by decide +kernel
theorem dX7_behind_55 : decode cX7_behind 55 = .ok (.invokevirtual 231, 3) := by decide +kernel
theorem dX7_behind_58 : decode cX7_behind 58 = .ok (.aload_n 0, 1) := by decide +kernel
theorem dX7_behind_59 : decode cX7_behind 59 = .ok (.iload_n 3, 1) := by decide +kernel
theorem dX7_behind_60 : decode cX7_behind 60 = .ok (.invokevirtual 163, 3) := by decide +kernel
theorem dX7_behind_63 : decode cX7_behind 63 = .ok (.ireturn, 1) := by decide +kernel
def tbX7_behind (pc : Nat) : dt_T := cond (Nat.ble pc 33) (cond (Nat.ble pc 18) (cond (Nat.ble pc 7) (cond (Nat.ble pc 1) (cond (Nat.ble pc 0) (cond (Nat.beq pc 0) (tc_ldI 1 1) tc_no) (cond (Nat.beq pc 1) (tc_callS mX7_noTalk 1 4) tc_no)) (cond (Nat.ble pc 4) (cond (Nat.beq pc 4) (tc_ifne 21 7) tc_no) (cond (Nat.beq pc 7) (tc_ldI 2 8) tc_no))) (cond (Nat.ble pc 11) (cond (Nat.ble pc 8) (cond (Nat.beq pc 8) (tc_callS mX7_noTalk 1 11) tc_no) (cond (Nat.beq pc 11) (tc_ifne 21 14) tc_no)) (cond (Nat.ble pc 14) (cond (Nat.beq pc 14) (tc_ldI 3 15) tc_no) (cond (Nat.ble pc 15) (cond (Nat.beq pc 15) (tc_callS mX7_noTalk 1 18) tc_no) (cond (Nat.beq pc 18) (tc_ifeq 23 21) tc_no))))) (cond (Nat.ble pc 24) (cond (Nat.ble pc 22) (cond (Nat.ble pc 21) (cond (Nat.beq pc 21) (tc_ic (-1) 22) tc_no) (cond (Nat.beq pc 22) (tc_iret) tc_no)) (cond (Nat.ble pc 23) (cond (Nat.beq pc 23) (tc_ldA 0 24) tc_no) (cond (Nat.beq pc 24) (tc_getf 7 0 27) tc_no))) (cond (Nat.ble pc 28) (cond (Nat.ble pc 27) (cond (Nat.beq pc 27) (tc_ldI 1 28) tc_no) (cond (Nat.beq pc 28) (tc_iald 29) tc_no)) (cond (Nat.ble pc 29) (cond (Nat.beq pc 29) (tc_ldA 0 30) tc_no) (cond (Nat.ble pc 30) (cond (Nat.beq pc 30) (tc_getf 7 0 33) tc_no) (cond (Nat.beq pc 33) (tc_ldI 2 34) tc_no)))))) (cond (Nat.ble pc 48) (cond (Nat.ble pc 38) (cond (Nat.ble pc 35) (cond (Nat.ble pc 34) (cond (Nat.beq pc 34) (tc_iald 35) tc_no) (cond (Nat.beq pc 35) (tc_iadd 36) tc_no)) (cond (Nat.ble pc 36) (cond (Nat.beq pc 36) (tc_ic 20 38) tc_no) (cond (Nat.beq pc 38) (tc_icmple 44 41) tc_no))) (cond (Nat.ble pc 43) (cond (Nat.ble pc 41) (cond (Nat.beq pc 41) (tc_ic (-3) 43) tc_no) (cond (Nat.beq pc 43) (tc_iret) tc_no)) (cond (Nat.ble pc 44) (cond (Nat.beq pc 44) (tc_ldA 0 45) tc_no) (cond (Nat.ble pc 45) (cond (Nat.beq pc 45) (tc_callV 7 mX7_beginTalk 0 48) tc_no) (cond (Nat.beq pc 48) (tc_ldA 0 49) tc_no))))) (cond (Nat.ble pc 54) (cond (Nat.ble pc 50) (cond (Nat.ble pc 49) (cond (Nat.beq pc 49) (tc_ldI 1 50) tc_no) (cond (Nat.beq pc 50) (tc_callV 7 mX7_addTalk 1 53) tc_no)) (cond (Nat.ble pc 53) (cond (Nat.beq pc 53) (tc_ldA 0 54) tc_no) (cond (Nat.beq pc 54) (tc_ldI 2 55) tc_no))) (cond (Nat.ble pc 58) (cond (Nat.ble pc 55) (cond (Nat.beq pc 55) (tc_callV 7 mX7_addTalk 1 58) tc_no) (cond (Nat.beq pc 58) (tc_ldA 0 59) tc_no)) (cond (Nat.ble pc 59) (cond (Nat.beq pc 59) (tc_ldI 3 60) tc_no) (cond (Nat.ble pc 60) (cond (Nat.beq pc 60) (tc_callV 7 mX7_keep 1 63) tc_no) (cond (Nat.beq pc 63) (tc_iret) tc_no))))))
theorem okX7_behind : ∀ pc, dt_S mX7_behind (tbX7_behind pc) pc := by
  intro pc
  unfold tbX7_behind
  exact dt_Sb (dt_Sb (dt_Sb (dt_Sb (dt_Sb (dt_Sl 0 (sn_ldIn rfl dX7_behind_0 rfl)) (dt_Sl 1 (sn_callS rfl nnX7_noTalk wq_4_20 wq_4_21 dX7_behind_1 rfl))) (dt_Sb (dt_Sl 4 (sn_ifne dX7_behind_4 (by decide) rfl)) (dt_Sl 7 (sn_ldIn rfl dX7_behind_7 rfl)))) (dt_Sb (dt_Sb (dt_Sl 8 (sn_callS rfl nnX7_noTalk wq_4_20 wq_4_21 dX7_behind_8 rfl)) (dt_Sl 11 (sn_ifne dX7_behind_11 (by decide) rfl))) (dt_Sb (dt_Sl 14 (sn_ldIn rfl dX7_behind_14 rfl)) (dt_Sb (dt_Sl 15 (sn_callS rfl nnX7_noTalk wq_4_20 wq_4_21 dX7_behind_15 rfl)) (dt_Sl 18 (sn_ifeq dX7_behind_18 (by decide) rfl)))))) (dt_Sb (dt_Sb (dt_Sb (dt_Sl 21 (sn_ic ⟨by decide, by decide⟩ dX7_behind_21 rfl)) (dt_Sl 22 (sn_iret rfl dX7_behind_22))) (dt_Sb (dt_Sl 23 (sn_ldAn rfl dX7_behind_23 rfl)) (dt_Sl 24 (sn_getf rfl ffX7 (by decide) wq_3_137 dX7_behind_24 rfl)))) (dt_Sb (dt_Sb (dt_Sl 27 (sn_ldIn rfl dX7_behind_27 rfl)) (dt_Sl 28 (sn_iald dX7_behind_28 rfl))) (dt_Sb (dt_Sl 29 (sn_ldAn rfl dX7_behind_29 rfl)) (dt_Sb (dt_Sl 30 (sn_getf rfl ffX7 (by decide) wq_3_137 dX7_behind_30 rfl)) (dt_Sl 33 (sn_ldIn rfl dX7_behind_33 rfl))))))) (dt_Sb (dt_Sb (dt_Sb (dt_Sb (dt_Sl 34 (sn_iald dX7_behind_34 rfl)) (dt_Sl 35 (sn_iadd dX7_behind_35 rfl))) (dt_Sb (dt_Sl 36 (sn_bi ⟨by decide, by decide⟩ rfl dX7_behind_36 rfl)) (dt_Sl 38 (sn_icmple dX7_behind_38 (by decide) rfl)))) (dt_Sb (dt_Sb (dt_Sl 41 (sn_bi ⟨by decide, by decide⟩ rfl dX7_behind_41 rfl)) (dt_Sl 43 (sn_iret rfl dX7_behind_43))) (dt_Sb (dt_Sl 44 (sn_ldAn rfl dX7_behind_44 rfl)) (dt_Sb (dt_Sl 45 (sn_callV rfl ffX7 nnX7_beginTalk rfl wq_4_28 wq_4_30 wq_0_29 dX7_behind_45 rfl)) (dt_Sl 48 (sn_ldAn rfl dX7_behind_48 rfl)))))) (dt_Sb (dt_Sb (dt_Sb (dt_Sl 49 (sn_ldIn rfl dX7_behind_49 rfl)) (dt_Sl 50 (sn_callV rfl ffX7 nnX7_addTalk rfl wq_4_171 wq_4_173 wq_0_50 dX7_behind_50 rfl))) (dt_Sb (dt_Sl 53 (sn_ldAn rfl dX7_behind_53 rfl)) (dt_Sl 54 (sn_ldIn rfl dX7_behind_54 rfl)))) (dt_Sb (dt_Sb (dt_Sl 55 (sn_callV rfl ffX7 nnX7_addTalk rfl wq_4_171 wq_4_173 wq_0_50 dX7_behind_55 rfl)) (dt_Sl 58 (sn_ldAn rfl dX7_behind_58 rfl))) (dt_Sb (dt_Sl 59 (sn_ldIn rfl dX7_behind_59 rfl)) (dt_Sb (dt_Sl 60 (sn_callV rfl ffX7 nnX7_keep rfl wq_4_61 wq_4_63 wq_0_34 dX7_behind_60 rfl)) (dt_Sl 63 (sn_iret rfl dX7_behind_63)))))))
theorem dX7_talkOf_0 : decode cX7_talkOf 0 = .ok (.iload_n 0, 1) := by decide +kernel
theorem dX7_talkOf_1 : decode cX7_talkOf 1 = .ok (.iconst 2, 1) := by decide +kernel
theorem dX7_talkOf_2 : decode cX7_talkOf 2 = .ok (.iconst 3, 1) := by decide +kernel
theorem dX7_talkOf_3 : decode cX7_talkOf 3 = .ok (.iload_n 1, 1) := by decide +kernel
theorem dX7_talkOf_4 : decode cX7_talkOf 4 = .ok (.isub, 1) := by decide +kernel
theorem dX7_talkOf_5 : decode cX7_talkOf 5 = .ok (.imul, 1) := by decide +kernel
theorem dX7_talkOf_6 : decode cX7_talkOf 6 = .ok (.ishr, 1) := by decide +kernel
theorem dX7_talkOf_7 : decode cX7_talkOf 7 = .ok (.iconst 3, 1) := by decide +kernel
theorem dX7_talkOf_8 : decode cX7_talkOf 8 = .ok (.iand, 1) := by decide +kernel
theorem dX7_talkOf_9 : decode cX7_talkOf 9 = .ok (.ireturn, 1) := by decide +kernel
def tbX7_talkOf (pc : Nat) : dt_T := cond (Nat.ble pc 4) (cond (Nat.ble pc 1) (cond (Nat.ble pc 0) (cond (Nat.beq pc 0) (tc_ldI 0 1) tc_no) (cond (Nat.beq pc 1) (tc_ic 2 2) tc_no)) (cond (Nat.ble pc 2) (cond (Nat.beq pc 2) (tc_ic 3 3) tc_no) (cond (Nat.ble pc 3) (cond (Nat.beq pc 3) (tc_ldI 1 4) tc_no) (cond (Nat.beq pc 4) (tc_isub 5) tc_no)))) (cond (Nat.ble pc 6) (cond (Nat.ble pc 5) (cond (Nat.beq pc 5) (tc_imul 6) tc_no) (cond (Nat.beq pc 6) (tc_ishr 7) tc_no)) (cond (Nat.ble pc 7) (cond (Nat.beq pc 7) (tc_ic 3 8) tc_no) (cond (Nat.ble pc 8) (cond (Nat.beq pc 8) (tc_iand 9) tc_no) (cond (Nat.beq pc 9) (tc_iret) tc_no))))
theorem okX7_talkOf : ∀ pc, dt_S mX7_talkOf (tbX7_talkOf pc) pc := by
  intro pc
  unfold tbX7_talkOf
  exact dt_Sb (dt_Sb (dt_Sb (dt_Sl 0 (sn_ldIn rfl dX7_talkOf_0 rfl)) (dt_Sl 1 (sn_ic ⟨by decide, by decide⟩ dX7_talkOf_1 rfl))) (dt_Sb (dt_Sl 2 (sn_ic ⟨by decide, by decide⟩ dX7_talkOf_2 rfl)) (dt_Sb (dt_Sl 3 (sn_ldIn rfl dX7_talkOf_3 rfl)) (dt_Sl 4 (sn_isub dX7_talkOf_4 rfl))))) (dt_Sb (dt_Sb (dt_Sl 5 (sn_imul dX7_talkOf_5 rfl)) (dt_Sl 6 (sn_ishr dX7_talkOf_6 rfl))) (dt_Sb (dt_Sl 7 (sn_ic ⟨by decide, by decide⟩ dX7_talkOf_7 rfl)) (dt_Sb (dt_Sl 8 (sn_iand dX7_talkOf_8 rfl)) (dt_Sl 9 (sn_iret rfl dX7_talkOf_9)))))
theorem dX7_canDo_0 : decode cX7_canDo 0 = .ok (.iconst 4, 1) := by decide +kernel
theorem dX7_canDo_1 : decode cX7_canDo 1 = .ok (.iload_n 1, 1) := by decide +kernel
theorem dX7_canDo_2 : decode cX7_canDo 2 = .ok (.iload_n 2, 1) := by decide +kernel
theorem dX7_canDo_3 : decode cX7_canDo 3 = .ok (.invokestatic 234, 3) := by decide +kernel
theorem dX7_canDo_6 : decode cX7_canDo 6 = .ok (.imul, 1) := by decide +kernel
theorem dX7_canDo_7 : decode cX7_canDo 7 = .ok (.iload_n 2, 1) := by decide +kernel
theorem dX7_canDo_8 : decode cX7_canDo 8 = .ok (.iadd, 1) := by decide +kernel
theorem dX7_canDo_9 : decode cX7_canDo 9 = .ok (.istore_n 3, 1) := by decide +kernel
theorem dX7_canDo_10 : decode cX7_canDo 10 = .ok (.aload_n 0, 1) := by decide +kernel
theorem dX7_canDo_11 : decode cX7_canDo 11 = .ok (.getfield 75, 3) := by decide +kernel
theorem dX7_canDo_14 : decode cX7_canDo 14 = .ok (.iload_n 2, 1) := by decide +kernel
theorem dX7_canDo_15 : decode cX7_canDo 15 = .ok (.iaload, 1) := by decide +kernel
theorem dX7_canDo_16 : decode cX7_canDo 16 = .ok (.aload_n 0, 1) := by decide +kernel
theorem dX7_canDo_17 : decode cX7_canDo 17 = .ok (.getfield 29, 3) := by decide +kernel
theorem dX7_canDo_20 : decode cX7_canDo 20 = .ok (.iload_n 3, 1) := by decide +kernel
theorem dX7_canDo_21 : decode cX7_canDo 21 = .ok (.iaload, 1) := by decide +kernel
theorem dX7_canDo_22 : decode cX7_canDo 22 = .ok (.if_icmp .ne 5, 3) := by decide +kernel
theorem dX7_canDo_25 : decode cX7_canDo 25 = .ok (.iconst 0, 1) := by decide +kernel
theorem dX7_canDo_26 : decode cX7_canDo 26 = .ok (.ireturn, 1) := by decide +kernel
theorem dX7_canDo_27 : decode cX7_canDo 27 = .ok (.bipush 20, 2) := by decide +kernel
theorem dX7_canDo_29 : decode cX7_canDo 29 = .ok (.iload_n 1, 1) := by decide +kernel
theorem dX7_canDo_30 : decode cX7_canDo 30 = .ok (.iload_n 2, 1) := by decide +kernel
theorem dX7_canDo_31 : decode cX7_canDo 31 = .ok (.invokestatic 234, 3) := by decide +kernel
theorem dX7_canDo_34 : decode cX7_canDo 34 = .ok (.imul, 1) := by decide +kernel
theorem dX7_canDo_35 : decode cX7_canDo 35 = .ok (.aload_n 0, 1) := by decide +kernel
theorem dX7_canDo_36 : decode cX7_canDo 36 = .ok (.getfield 32, 3) := by decide +kernel
theorem dX7_canDo_39 : decode cX7_canDo 39 = .ok (.bipush 20, 2) := by decide +kernel
theorem dX7_canDo_41 : decode cX7_canDo 41 = .ok (.iload_n 3, 1) := by decide +kernel
theorem dX7_canDo_42 : decode cX7_canDo 42 = .ok (.imul, 1) := by decide +kernel
theorem dX7_canDo_43 : decode cX7_canDo 43 = .ok (.aload_n 0, 1) := by decide +kernel
theorem dX7_canDo_44 : decode cX7_canDo 44 = .ok (.getfield 75, 3) := by decide +kernel
theorem dX7_canDo_47 : decode cX7_canDo 47 = .ok (.iload_n 2, 1) := by decide +kernel
theorem dX7_canDo_48 : decode cX7_canDo 48 = .ok (.iaload, 1) := by decide +kernel
theorem dX7_canDo_49 : decode cX7_canDo 49 = .ok (.iadd, 1) := by decide +kernel
theorem dX7_canDo_50 : decode cX7_canDo 50 = .ok (.iaload, 1) := by decide +kernel
theorem dX7_canDo_51 : decode cX7_canDo 51 = .ok (.iadd, 1) := by decide +kernel
theorem dX7_canDo_52 : decode cX7_canDo 52 = .ok (.istore 4, 2) := by decide +kernel
theorem dX7_canDo_54 : decode cX7_canDo 54 = .ok (.iconst 4, 1) := by decide +kernel
theorem dX7_canDo_55 : decode cX7_canDo 55 = .ok (.aload_n 0, 1) := by decide +kernel
theorem dX7_canDo_56 : decode cX7_canDo 56 = .ok (.getfield 20, 3) := by decide +kernel
theorem dX7_canDo_59 : decode cX7_canDo 59 = .ok (.iload 4, 2) := by decide +kernel
theorem dX7_canDo_61 : decode cX7_canDo 61 = .ok (.iaload, 1) := by decide +kernel
theorem dX7_canDo_62 : decode cX7_canDo 62 = .ok (.imul, 1) := by decide +kernel
theorem dX7_canDo_63 : decode cX7_canDo 63 = .ok (.iload_n 2, 1) := by decide +kernel
theorem dX7_canDo_64 : decode cX7_canDo 64 = .ok (.iadd, 1) := by decide +kernel
theorem dX7_canDo_65 : decode cX7_canDo 65 = .ok (.istore 5, 2) := by decide +kernel
theorem dX7_canDo_67 : decode cX7_canDo 67 = .ok (.aload_n 0, 1) := by decide +kernel
theorem dX7_canDo_68 : decode cX7_canDo 68 = .ok (.getfield 13, 3) := by decide +kernel
theorem dX7_canDo_71 : decode cX7_canDo 71 = .ok (.iload 4, 2) := by decide +kernel
theorem dX7_canDo_73 : decode cX7_canDo 73 = .ok (.baload, 1) := by decide +kernel
theorem dX7_canDo_74 : decode cX7_canDo 74 = .ok (.ifCond .eq 48, 3) := by decide +kernel
theorem dX7_canDo_77 : decode cX7_canDo 77 = .ok (.aload_n 0, 1) := by decide +kernel
theorem dX7_canDo_78 : decode cX7_canDo 78 = .ok (.getfield 72, 3) := by decide +kernel
theorem dX7_canDo_81 : decode cX7_canDo 81 = .ok (.iload 5, 2) := by decide +kernel
theorem dX7_canDo_83 : decode cX7_canDo 83 = .ok (.iaload, 1) := by decide +kernel
theorem dX7_canDo_84 : decode cX7_canDo 84 = .ok (.aload_n 0, 1) := by decide +kernel
theorem dX7_canDo_85 : decode cX7_canDo 85 = .ok (.getfield 69, 3) := by decide +kernel
theorem dX7_canDo_88 : decode cX7_canDo 88 = .ok (.iload 5, 2) := by decide +kernel
theorem dX7_canDo_90 : decode cX7_canDo 90 = .ok (.iaload, 1) := by decide +kernel
theorem dX7_canDo_91 : decode cX7_canDo 91 = .ok (.if_icmp .ge 35, 3) := by decide +kernel
theorem dX7_canDo_94 : decode cX7_canDo 94 = .ok (.aload_n 0, 1) := by decide +kernel
theorem dX7_canDo_95 : decode cX7_canDo 95 = .ok (.getfield 66, 3) := by decide +kernel
theorem dX7_canDo_98 : decode cX7_canDo 98 = .ok (.bipush 20, 2) := by decide +kernel
theorem dX7_canDo_100 : decode cX7_canDo 100 = .ok (.iload 5, 2) := by decide +kernel
theorem dX7_canDo_102 : decode cX7_canDo 102 = .ok (.imul, 1) := by decide +kernel
theorem dX7_canDo_103 : decode cX7_canDo 103 = .ok (.aload_n 0, 1) := by decide +kernel
theorem dX7_canDo_104 : decode cX7_canDo 104 = .ok (.getfield 72, 3) := by decide +kernel
theorem dX7_canDo_107 : decode cX7_canDo 107 = .ok (.iload 5, 2) := by decide +kernel
theorem dX7_canDo_109 : decode cX7_canDo 109 = .ok (.iaload, 1) := by decide +kernel
theorem dX7_canDo_110 : decode cX7_canDo 110 = .ok (.iadd, 1) := by decide +kernel
theorem dX7_canDo_111 : decode cX7_canDo 111 = .ok (.iaload, 1) := by decide +kernel
theorem dX7_canDo_112 : decode cX7_canDo 112 = .ok (.aload_n 0, 1) := by decide +kernel
theorem dX7_canDo_113 : decode cX7_canDo 113 = .ok (.getfield 23, 3) := by decide +kernel
theorem dX7_canDo_116 : decode cX7_canDo 116 = .ok (.iload 4, 2) := by decide +kernel
theorem dX7_canDo_118 : decode cX7_canDo 118 = .ok (.iaload, 1) := by decide +kernel
theorem dX7_canDo_119 : decode cX7_canDo 119 = .ok (.if_icmp .ne 7, 3) := by decide +kernel
theorem dX7_canDo_122 : decode cX7_canDo 122 = .ok (.iconst 1, 1) := by decide +kernel
theorem dX7_canDo_123 : decode cX7_canDo 123 = .ok (.goto 4, 3) := by decide +kernel
theorem dX7_canDo_126 : decode cX7_canDo 126 = .ok (.iconst 0, 1) := by decide +kernel
theorem dX7_canDo_127 : decode cX7_canDo 127 = .ok (.ireturn, 1) := by decide +kernel
def tbX7_canDo (pc : Nat) : dt_T := cond (Nat.ble pc 56) (cond (Nat.ble pc 27) (cond (Nat.ble pc 11) (cond (Nat.ble pc 6) (cond (Nat.ble pc 1) (cond (Nat.ble pc 0) (cond (Nat.beq pc 0) (tc_ic 4 1) tc_no) (cond (Nat.beq pc 1) (tc_ldI 1 2) tc_no)) (cond (Nat.ble pc 2) (cond (Nat.beq pc 2) (tc_ldI 2 3) tc_no) (cond (Nat.ble pc 3) (cond (Nat.beq pc 3) (tc_callS mX7_talkOf 2 6) tc_no) (cond (Nat.beq pc 6) (tc_imul 7) tc_no)))) (cond (Nat.ble pc 8) (cond (Nat.ble pc 7) (cond (Nat.beq pc 7) (tc_ldI 2 8) tc_no) (cond (Nat.beq pc 8) (tc_iadd 9) tc_no)) (cond (Nat.ble pc 9) (cond (Nat.beq pc 9) (tc_stI 3 10) tc_no) (cond (Nat.ble pc 10) (cond (Nat.beq pc 10) (tc_ldA 0 11) tc_no) (cond (Nat.beq pc 11) (tc_getf 7 31 14) tc_no))))) (cond (Nat.ble pc 20) (cond (Nat.ble pc 15) (cond (Nat.ble pc 14) (cond (Nat.beq pc 14) (tc_ldI 2 15) tc_no) (cond (Nat.beq pc 15) (tc_iald 16) tc_no)) (cond (Nat.ble pc 16) (cond (Nat.beq pc 16) (tc_ldA 0 17) tc_no) (cond (Nat.ble pc 17) (cond (Nat.beq pc 17) (tc_getf 7 6 20) tc_no) (cond (Nat.beq pc 20) (tc_ldI 3 21) tc_no)))) (cond (Nat.ble pc 22) (cond (Nat.ble pc 21) (cond (Nat.beq pc 21) (tc_iald 22) tc_no) (cond (Nat.beq pc 22) (tc_icmpne 27 25) tc_no)) (cond (Nat.ble pc 25) (cond (Nat.beq pc 25) (tc_ic 0 26) tc_no) (cond (Nat.ble pc 26) (cond (Nat.beq pc 26) (tc_zret) tc_no) (cond (Nat.beq pc 27) (tc_ic 20 29) tc_no)))))) (cond (Nat.ble pc 43) (cond (Nat.ble pc 35) (cond (Nat.ble pc 30) (cond (Nat.ble pc 29) (cond (Nat.beq pc 29) (tc_ldI 1 30) tc_no) (cond (Nat.beq pc 30) (tc_ldI 2 31) tc_no)) (cond (Nat.ble pc 31) (cond (Nat.beq pc 31) (tc_callS mX7_talkOf 2 34) tc_no) (cond (Nat.ble pc 34) (cond (Nat.beq pc 34) (tc_imul 35) tc_no) (cond (Nat.beq pc 35) (tc_ldA 0 36) tc_no)))) (cond (Nat.ble pc 39) (cond (Nat.ble pc 36) (cond (Nat.beq pc 36) (tc_getf 7 7 39) tc_no) (cond (Nat.beq pc 39) (tc_ic 20 41) tc_no)) (cond (Nat.ble pc 41) (cond (Nat.beq pc 41) (tc_ldI 3 42) tc_no) (cond (Nat.ble pc 42) (cond (Nat.beq pc 42) (tc_imul 43) tc_no) (cond (Nat.beq pc 43) (tc_ldA 0 44) tc_no))))) (cond (Nat.ble pc 50) (cond (Nat.ble pc 47) (cond (Nat.ble pc 44) (cond (Nat.beq pc 44) (tc_getf 7 31 47) tc_no) (cond (Nat.beq pc 47) (tc_ldI 2 48) tc_no)) (cond (Nat.ble pc 48) (cond (Nat.beq pc 48) (tc_iald 49) tc_no) (cond (Nat.ble pc 49) (cond (Nat.beq pc 49) (tc_iadd 50) tc_no) (cond (Nat.beq pc 50) (tc_iald 51) tc_no)))) (cond (Nat.ble pc 52) (cond (Nat.ble pc 51) (cond (Nat.beq pc 51) (tc_iadd 52) tc_no) (cond (Nat.beq pc 52) (tc_stI 4 54) tc_no)) (cond (Nat.ble pc 54) (cond (Nat.beq pc 54) (tc_ic 4 55) tc_no) (cond (Nat.ble pc 55) (cond (Nat.beq pc 55) (tc_ldA 0 56) tc_no) (cond (Nat.beq pc 56) (tc_getf 7 3 59) tc_no))))))) (cond (Nat.ble pc 91) (cond (Nat.ble pc 73) (cond (Nat.ble pc 64) (cond (Nat.ble pc 61) (cond (Nat.ble pc 59) (cond (Nat.beq pc 59) (tc_ldI 4 61) tc_no) (cond (Nat.beq pc 61) (tc_iald 62) tc_no)) (cond (Nat.ble pc 62) (cond (Nat.beq pc 62) (tc_imul 63) tc_no) (cond (Nat.ble pc 63) (cond (Nat.beq pc 63) (tc_ldI 2 64) tc_no) (cond (Nat.beq pc 64) (tc_iadd 65) tc_no)))) (cond (Nat.ble pc 67) (cond (Nat.ble pc 65) (cond (Nat.beq pc 65) (tc_stI 5 67) tc_no) (cond (Nat.beq pc 67) (tc_ldA 0 68) tc_no)) (cond (Nat.ble pc 68) (cond (Nat.beq pc 68) (tc_getf 7 1 71) tc_no) (cond (Nat.ble pc 71) (cond (Nat.beq pc 71) (tc_ldI 4 73) tc_no) (cond (Nat.beq pc 73) (tc_zald 74) tc_no))))) (cond (Nat.ble pc 83) (cond (Nat.ble pc 77) (cond (Nat.ble pc 74) (cond (Nat.beq pc 74) (tc_ifeq 122 77) tc_no) (cond (Nat.beq pc 77) (tc_ldA 0 78) tc_no)) (cond (Nat.ble pc 78) (cond (Nat.beq pc 78) (tc_getf 7 30 81) tc_no) (cond (Nat.ble pc 81) (cond (Nat.beq pc 81) (tc_ldI 5 83) tc_no) (cond (Nat.beq pc 83) (tc_iald 84) tc_no)))) (cond (Nat.ble pc 85) (cond (Nat.ble pc 84) (cond (Nat.beq pc 84) (tc_ldA 0 85) tc_no) (cond (Nat.beq pc 85) (tc_getf 7 29 88) tc_no)) (cond (Nat.ble pc 88) (cond (Nat.beq pc 88) (tc_ldI 5 90) tc_no) (cond (Nat.ble pc 90) (cond (Nat.beq pc 90) (tc_iald 91) tc_no) (cond (Nat.beq pc 91) (tc_icmpge 126 94) tc_no)))))) (cond (Nat.ble pc 110) (cond (Nat.ble pc 102) (cond (Nat.ble pc 95) (cond (Nat.ble pc 94) (cond (Nat.beq pc 94) (tc_ldA 0 95) tc_no) (cond (Nat.beq pc 95) (tc_getf 7 28 98) tc_no)) (cond (Nat.ble pc 98) (cond (Nat.beq pc 98) (tc_ic 20 100) tc_no) (cond (Nat.ble pc 100) (cond (Nat.beq pc 100) (tc_ldI 5 102) tc_no) (cond (Nat.beq pc 102) (tc_imul 103) tc_no)))) (cond (Nat.ble pc 104) (cond (Nat.ble pc 103) (cond (Nat.beq pc 103) (tc_ldA 0 104) tc_no) (cond (Nat.beq pc 104) (tc_getf 7 30 107) tc_no)) (cond (Nat.ble pc 107) (cond (Nat.beq pc 107) (tc_ldI 5 109) tc_no) (cond (Nat.ble pc 109) (cond (Nat.beq pc 109) (tc_iald 110) tc_no) (cond (Nat.beq pc 110) (tc_iadd 111) tc_no))))) (cond (Nat.ble pc 118) (cond (Nat.ble pc 112) (cond (Nat.ble pc 111) (cond (Nat.beq pc 111) (tc_iald 112) tc_no) (cond (Nat.beq pc 112) (tc_ldA 0 113) tc_no)) (cond (Nat.ble pc 113) (cond (Nat.beq pc 113) (tc_getf 7 4 116) tc_no) (cond (Nat.ble pc 116) (cond (Nat.beq pc 116) (tc_ldI 4 118) tc_no) (cond (Nat.beq pc 118) (tc_iald 119) tc_no)))) (cond (Nat.ble pc 122) (cond (Nat.ble pc 119) (cond (Nat.beq pc 119) (tc_icmpne 126 122) tc_no) (cond (Nat.beq pc 122) (tc_ic 1 123) tc_no)) (cond (Nat.ble pc 123) (cond (Nat.beq pc 123) (tc_goto 127) tc_no) (cond (Nat.ble pc 126) (cond (Nat.beq pc 126) (tc_ic 0 127) tc_no) (cond (Nat.beq pc 127) (tc_zret) tc_no)))))))
theorem okX7_canDo : ∀ pc, dt_S mX7_canDo (tbX7_canDo pc) pc := by
  intro pc
  unfold tbX7_canDo
  exact dt_Sb (dt_Sb (dt_Sb (dt_Sb (dt_Sb (dt_Sb (dt_Sl 0 (sn_ic ⟨by decide, by decide⟩ dX7_canDo_0 rfl)) (dt_Sl 1 (sn_ldIn rfl dX7_canDo_1 rfl))) (dt_Sb (dt_Sl 2 (sn_ldIn rfl dX7_canDo_2 rfl)) (dt_Sb (dt_Sl 3 (sn_callS rfl nnX7_talkOf wq_4_187 wq_4_188 dX7_canDo_3 rfl)) (dt_Sl 6 (sn_imul dX7_canDo_6 rfl))))) (dt_Sb (dt_Sb (dt_Sl 7 (sn_ldIn rfl dX7_canDo_7 rfl)) (dt_Sl 8 (sn_iadd dX7_canDo_8 rfl))) (dt_Sb (dt_Sl 9 (sn_stIn rfl (by decide) dX7_canDo_9 rfl)) (dt_Sb (dt_Sl 10 (sn_ldAn rfl dX7_canDo_10 rfl)) (dt_Sl 11 (sn_getf rfl ffX7 (by decide) wq_3_168 dX7_canDo_11 rfl)))))) (dt_Sb (dt_Sb (dt_Sb (dt_Sl 14 (sn_ldIn rfl dX7_canDo_14 rfl)) (dt_Sl 15 (sn_iald dX7_canDo_15 rfl))) (dt_Sb (dt_Sl 16 (sn_ldAn rfl dX7_canDo_16 rfl)) (dt_Sb (dt_Sl 17 (sn_getf rfl ffX7 (by decide) wq_3_143 dX7_canDo_17 rfl)) (dt_Sl 20 (sn_ldIn rfl dX7_canDo_20 rfl))))) (dt_Sb (dt_Sb (dt_Sl 21 (sn_iald dX7_canDo_21 rfl)) (dt_Sl 22 (sn_icmpne dX7_canDo_22 (by decide) rfl))) (dt_Sb (dt_Sl 25 (sn_ic ⟨by decide, by decide⟩ dX7_canDo_25 rfl)) (dt_Sb (dt_Sl 26 (sn_zret rfl dX7_canDo_26)) (dt_Sl 27 (sn_bi ⟨by decide, by decide⟩ rfl dX7_canDo_27 rfl))))))) (dt_Sb (dt_Sb (dt_Sb (dt_Sb (dt_Sl 29 (sn_ldIn rfl dX7_canDo_29 rfl)) (dt_Sl 30 (sn_ldIn rfl dX7_canDo_30 rfl))) (dt_Sb (dt_Sl 31 (sn_callS rfl nnX7_talkOf wq_4_187 wq_4_188 dX7_canDo_31 rfl)) (dt_Sb (dt_Sl 34 (sn_imul dX7_canDo_34 rfl)) (dt_Sl 35 (sn_ldAn rfl dX7_canDo_35 rfl))))) (dt_Sb (dt_Sb (dt_Sl 36 (sn_getf rfl ffX7 (by decide) wq_3_144 dX7_canDo_36 rfl)) (dt_Sl 39 (sn_bi ⟨by decide, by decide⟩ rfl dX7_canDo_39 rfl))) (dt_Sb (dt_Sl 41 (sn_ldIn rfl dX7_canDo_41 rfl)) (dt_Sb (dt_Sl 42 (sn_imul dX7_canDo_42 rfl)) (dt_Sl 43 (sn_ldAn rfl dX7_canDo_43 rfl)))))) (dt_Sb (dt_Sb (dt_Sb (dt_Sl 44 (sn_getf rfl ffX7 (by decide) wq_3_168 dX7_canDo_44 rfl)) (dt_Sl 47 (sn_ldIn rfl dX7_canDo_47 rfl))) (dt_Sb (dt_Sl 48 (sn_iald dX7_canDo_48 rfl)) (dt_Sb (dt_Sl 49 (sn_iadd dX7_canDo_49 rfl)) (dt_Sl 50 (sn_iald dX7_canDo_50 rfl))))) (dt_Sb (dt_Sb (dt_Sl 51 (sn_iadd dX7_canDo_51 rfl)) (dt_Sl 52 (sn_stI (by decide) dX7_canDo_52 rfl))) (dt_Sb (dt_Sl 54 (sn_ic ⟨by decide, by decide⟩ dX7_canDo_54 rfl)) (dt_Sb (dt_Sl 55 (sn_ldAn rfl dX7_canDo_55 rfl)) (dt_Sl 56 (sn_getf rfl ffX7 (by decide) wq_3_140 dX7_canDo_56 rfl)))))))) (dt_Sb (dt_Sb (dt_Sb (dt_Sb (dt_Sb (dt_Sl 59 (sn_ldI dX7_canDo_59 rfl)) (dt_Sl 61 (sn_iald dX7_canDo_61 rfl))) (dt_Sb (dt_Sl 62 (sn_imul dX7_canDo_62 rfl)) (dt_Sb (dt_Sl 63 (sn_ldIn rfl dX7_canDo_63 rfl)) (dt_Sl 64 (sn_iadd dX7_canDo_64 rfl))))) (dt_Sb (dt_Sb (dt_Sl 65 (sn_stI (by decide) dX7_canDo_65 rfl)) (dt_Sl 67 (sn_ldAn rfl dX7_canDo_67 rfl))) (dt_Sb (dt_Sl 68 (sn_getf rfl ffX7 (by decide) wq_3_138 dX7_canDo_68 rfl)) (dt_Sb (dt_Sl 71 (sn_ldI dX7_canDo_71 rfl)) (dt_Sl 73 (sn_zald dX7_canDo_73 rfl)))))) (dt_Sb (dt_Sb (dt_Sb (dt_Sl 74 (sn_ifeq dX7_canDo_74 (by decide) rfl)) (dt_Sl 77 (sn_ldAn rfl dX7_canDo_77 rfl))) (dt_Sb (dt_Sl 78 (sn_getf rfl ffX7 (by decide) wq_3_167 dX7_canDo_78 rfl)) (dt_Sb (dt_Sl 81 (sn_ldI dX7_canDo_81 rfl)) (dt_Sl 83 (sn_iald dX7_canDo_83 rfl))))) (dt_Sb (dt_Sb (dt_Sl 84 (sn_ldAn rfl dX7_canDo_84 rfl)) (dt_Sl 85 (sn_getf rfl ffX7 (by decide) wq_3_166 dX7_canDo_85 rfl))) (dt_Sb (dt_Sl 88 (sn_ldI dX7_canDo_88 rfl)) (dt_Sb (dt_Sl 90 (sn_iald dX7_canDo_90 rfl)) (dt_Sl 91 (sn_icmpge dX7_canDo_91 (by decide) rfl))))))) (dt_Sb (dt_Sb (dt_Sb (dt_Sb (dt_Sl 94 (sn_ldAn rfl dX7_canDo_94 rfl)) (dt_Sl 95 (sn_getf rfl ffX7 (by decide) wq_3_165 dX7_canDo_95 rfl))) (dt_Sb (dt_Sl 98 (sn_bi ⟨by decide, by decide⟩ rfl dX7_canDo_98 rfl)) (dt_Sb (dt_Sl 100 (sn_ldI dX7_canDo_100 rfl)) (dt_Sl 102 (sn_imul dX7_canDo_102 rfl))))) (dt_Sb (dt_Sb (dt_Sl 103 (sn_ldAn rfl dX7_canDo_103 rfl)) (dt_Sl 104 (sn_getf rfl ffX7 (by decide) wq_3_167 dX7_canDo_104 rfl))) (dt_Sb (dt_Sl 107 (sn_ldI dX7_canDo_107 rfl)) (dt_Sb (dt_Sl 109 (sn_iald dX7_canDo_109 rfl)) (dt_Sl 110 (sn_iadd dX7_canDo_110 rfl)))))) (dt_Sb (dt_Sb (dt_Sb (dt_Sl 111 (sn_iald dX7_canDo_111 rfl)) (dt_Sl 112 (sn_ldAn rfl dX7_canDo_112 rfl))) (dt_Sb (dt_Sl 113 (sn_getf rfl ffX7 (by decide) wq_3_141 dX7_canDo_113 rfl)) (dt_Sb (dt_Sl 116 (sn_ldI dX7_canDo_116 rfl)) (dt_Sl 118 (sn_iald dX7_canDo_118 rfl))))) (dt_Sb (dt_Sb (dt_Sl 119 (sn_icmpne dX7_canDo_119 (by decide) rfl)) (dt_Sl 122 (sn_ic ⟨by decide, by decide⟩ dX7_canDo_122 rfl))) (dt_Sb (dt_Sl 123 (sn_goto dX7_canDo_123 (by decide))) (dt_Sb (dt_Sl 126 (sn_ic ⟨by decide, by decide⟩ dX7_canDo_126 rfl)) (dt_Sl 127 (sn_zret rfl dX7_canDo_127))))))))
theorem dX7_doNext_0 : decode cX7_doNext 0 = .ok (.bipush 20, 2) := by decide +kernel
theorem dX7_doNext_2 : decode cX7_doNext 2 = .ok (.iload_n 1, 1) := by decide +kernel
theorem dX7_doNext_3 : decode cX7_doNext 3 = .ok (.iload_n 2, 1) := by decide +kernel
theorem dX7_doNext_4 : decode cX7_doNext 4 = .ok (.invokestatic 234, 3) := by decide +kernel
theorem dX7_doNext_7 : decode cX7_doNext 7 = .ok (.imul, 1) := by decide +kernel
theorem dX7_doNext_8 : decode cX7_doNext 8 = .ok (.aload_n 0, 1) := by decide +kernel
theorem dX7_doNext_9 : decode cX7_doNext 9 = .ok (.getfield 32, 3) := by decide +kernel
theorem dX7_doNext_12 : decode cX7_doNext 12 = .ok (.bipush 20, 2) := by decide +kernel
theorem dX7_doNext_14 : decode cX7_doNext 14 = .ok (.iconst 4, 1) := by decide +kernel
theorem dX7_doNext_15 : decode cX7_doNext 15 = .ok (.iload_n 1, 1) := by decide +kernel
theorem dX7_doNext_16 : decode cX7_doNext 16 = .ok (.iload_n 2, 1) := by decide +kernel
theorem dX7_doNext_17 : decode cX7_doNext 17 = .ok (.invokestatic 234, 3) := by decide +kernel
theorem dX7_doNext_20 : decode cX7_doNext 20 = .ok (.imul, 1) := by decide +kernel
theorem dX7_doNext_21 : decode cX7_doNext 21 = .ok (.iload_n 2, 1) := by decide +kernel
theorem dX7_doNext_22 : decode cX7_doNext 22 = .ok (.iadd, 1) := by decide +kernel
theorem dX7_doNext_23 : decode cX7_doNext 23 = .ok (.imul, 1) := by decide +kernel
theorem dX7_doNext_24 : decode cX7_doNext 24 = .ok (.aload_n 0, 1) := by decide +kernel
theorem dX7_doNext_25 : decode cX7_doNext 25 = .ok (.getfield 75, 3) := by decide +kernel
theorem dX7_doNext_28 : decode cX7_doNext 28 = .ok (.iload_n 2, 1) := by decide +kernel
theorem dX7_doNext_29 : decode cX7_doNext 29 = .ok (.iaload, 1) := by decide +kernel
theorem dX7_doNext_30 : decode cX7_doNext 30 = .ok (.iadd, 1) := by decide +kernel
theorem dX7_doNext_31 : decode cX7_doNext 31 = .ok (.iaload, 1) := by decide +kernel
theorem dX7_doNext_32 : decode cX7_doNext 32 = .ok (.iadd, 1) := by decide +kernel
theorem dX7_doNext_33 : decode cX7_doNext 33 = .ok (.istore_n 3, 1) := by decide +kernel
theorem dX7_doNext_34 : decode cX7_doNext 34 = .ok (.aload_n 0, 1) := by decide +kernel
theorem dX7_doNext_35 : decode cX7_doNext 35 = .ok (.getfield 13, 3) := by decide +kernel
theorem dX7_doNext_38 : decode cX7_doNext 38 = .ok (.iload_n 3, 1) := by decide +kernel
theorem dX7_doNext_39 : decode cX7_doNext 39 = .ok (.baload, 1) := by decide +kernel
theorem dX7_doNext_40 : decode cX7_doNext 40 = .ok (.ifCond .eq 25, 3) := by decide +kernel
theorem dX7_doNext_43 : decode cX7_doNext 43 = .ok (.aload_n 0, 1) := by decide +kernel
theorem dX7_doNext_44 : decode cX7_doNext 44 = .ok (.getfield 72, 3) := by decide +kernel
theorem dX7_doNext_47 : decode cX7_doNext 47 = .ok (.iconst 4, 1) := by decide +kernel
theorem dX7_doNext_48 : decode cX7_doNext 48 = .ok (.aload_n 0, 1) := by decide +kernel
theorem dX7_doNext_49 : decode cX7_doNext 49 = .ok (.getfield 20, 3) := by decide +kernel
theorem dX7_doNext_52 : decode cX7_doNext 52 = .ok (.iload_n 3, 1) := by decide +kernel
theorem dX7_doNext_53 : decode cX7_doNext 53 = .ok (.iaload, 1) := by decide +kernel
theorem dX7_doNext_54 : decode cX7_doNext 54 = .ok (.imul, 1) := by decide +kernel
theorem dX7_doNext_55 : decode cX7_doNext 55 = .ok (.iload_n 2, 1) := by decide +kernel
theorem dX7_doNext_56 : decode cX7_doNext 56 = .ok (.iadd, 1) := by decide +kernel
theorem dX7_doNext_57 : decode cX7_doNext 57 = .ok (.dup2, 1) := by decide +kernel
theorem dX7_doNext_58 : decode cX7_doNext 58 = .ok (.iaload, 1) := by decide +kernel
theorem dX7_doNext_59 : decode cX7_doNext 59 = .ok (.iconst 1, 1) := by decide +kernel
theorem dX7_doNext_60 : decode cX7_doNext 60 = .ok (.iadd, 1) := by decide +kernel
theorem dX7_doNext_61 : decode cX7_doNext 61 = .ok (.iastore, 1) := by decide +kernel
theorem dX7_doNext_62 : decode cX7_doNext 62 = .ok (.goto 60, 3) := by decide +kernel
theorem dX7_doNext_65 : decode cX7_doNext 65 = .ok (.iconst 4, 1) := by decide +kernel
theorem dX7_doNext_66 : decode cX7_doNext 66 = .ok (.iload_n 2, 1) := by decide +kernel
theorem dX7_doNext_67 : decode cX7_doNext 67 = .ok (.imul, 1) := by decide +kernel
theorem dX7_doNext_68 : decode cX7_doNext 68 = .ok (.aload_n 0, 1) := by decide +kernel
theorem dX7_doNext_69 : decode cX7_doNext 69 = .ok (.getfield 20, 3) := by decide +kernel
theorem dX7_doNext_72 : decode cX7_doNext 72 = .ok (.iload_n 3, 1) := by decide +kernel
theorem dX7_doNext_73 : decode cX7_doNext 73 = .ok (.iaload, 1) := by decide +kernel
theorem dX7_doNext_74 : decode cX7_doNext 74 = .ok (.iadd, 1) := by decide +kernel
theorem dX7_doNext_75 : decode cX7_doNext 75 = .ok (.istore 4, 2) := by decide +kernel
theorem dX7_doNext_77 : decode cX7_doNext 77 = .ok (.aload_n 0, 1) := by decide +kernel
theorem dX7_doNext_78 : decode cX7_doNext 78 = .ok (.getfield 66, 3) := by decide +kernel
theorem dX7_doNext_81 : decode cX7_doNext 81 = .ok (.bipush 20, 2) := by decide +kernel
theorem dX7_doNext_83 : decode cX7_doNext 83 = .ok (.iload 4, 2) := by decide +kernel
theorem dX7_doNext_85 : decode cX7_doNext 85 = .ok (.imul, 1) := by decide +kernel
theorem dX7_doNext_86 : decode cX7_doNext 86 = .ok (.aload_n 0, 1) := by decide +kernel
theorem dX7_doNext_87 : decode cX7_doNext 87 = .ok (.getfield 69, 3) := by decide +kernel
theorem dX7_doNext_90 : decode cX7_doNext 90 = .ok (.iload 4, 2) := by decide +kernel
theorem dX7_doNext_92 : decode cX7_doNext 92 = .ok (.iaload, 1) := by decide +kernel
theorem dX7_doNext_93 : decode cX7_doNext 93 = .ok (.iadd, 1) := by decide +kernel
theorem dX7_doNext_94 : decode cX7_doNext 94 = .ok (.aload_n 0, 1) := by decide +kernel
theorem dX7_doNext_95 : decode cX7_doNext 95 = .ok (.getfield 23, 3) := by decide +kernel
theorem dX7_doNext_98 : decode cX7_doNext 98 = .ok (.iload_n 3, 1) := by decide +kernel
theorem dX7_doNext_99 : decode cX7_doNext 99 = .ok (.iaload, 1) := by decide +kernel
theorem dX7_doNext_100 : decode cX7_doNext 100 = .ok (.iastore, 1) := by decide +kernel
theorem dX7_doNext_101 : decode cX7_doNext 101 = .ok (.aload_n 0, 1) := by decide +kernel
theorem dX7_doNext_102 : decode cX7_doNext 102 = .ok (.getfield 69, 3) := by decide +kernel
theorem dX7_doNext_105 : decode cX7_doNext 105 = .ok (.iload 4, 2) := by decide +kernel
theorem dX7_doNext_107 : decode cX7_doNext 107 = .ok (.dup2, 1) := by decide +kernel
theorem dX7_doNext_108 : decode cX7_doNext 108 = .ok (.iaload, 1) := by decide +kernel
theorem dX7_doNext_109 : decode cX7_doNext 109 = .ok (.iconst 1, 1) := by decide +kernel
theorem dX7_doNext_110 : decode cX7_doNext 110 = .ok (.iadd, 1) := by decide +kernel
theorem dX7_doNext_111 : decode cX7_doNext 111 = .ok (.iastore, 1) := by decide +kernel
theorem dX7_doNext_112 : decode cX7_doNext 112 = .ok (.aload_n 0, 1) := by decide +kernel
theorem dX7_doNext_113 : decode cX7_doNext 113 = .ok (.dup, 1) := by decide +kernel
theorem dX7_doNext_114 : decode cX7_doNext 114 = .ok (.getfield 237, 3) := by decide +kernel
theorem dX7_doNext_117 : decode cX7_doNext 117 = .ok (.iconst 1, 1) := by decide +kernel
theorem dX7_doNext_118 : decode cX7_doNext 118 = .ok (.iadd, 1) := by decide +kernel
theorem dX7_doNext_119 : decode cX7_doNext 119 = .ok (.putfield 237, 3) := by decide +kernel
theorem dX7_doNext_122 : decode cX7_doNext 122 = .ok (.aload_n 0, 1) := by decide +kernel
theorem dX7_doNext_123 : decode cX7_doNext 123 = .ok (.getfield 78, 3) := by decide +kernel
theorem dX7_doNext_126 : decode cX7_doNext 126 = .ok (.aload_n 0, 1) := by decide +kernel
theorem dX7_doNext_127 : decode cX7_doNext 127 = .ok (.getfield 240, 3) := by decide +kernel
theorem dX7_doNext_130 : decode cX7_doNext 130 = .ok (.iload_n 3, 1) := by decide +kernel
theorem dX7_doNext_131 : decode cX7_doNext 131 = .ok (.iastore, 1) := by decide +kernel
theorem dX7_doNext_132 : decode cX7_doNext 132 = .ok (.aload_n 0, 1) := by decide +kernel
theorem dX7_doNext_133 : decode cX7_doNext 133 = .ok (.dup, 1) := by decide +kernel
theorem dX7_doNext_134 : decode cX7_doNext 134 = .ok (.getfield 240, 3) := by decide +kernel
theorem dX7_doNext_137 : decode cX7_doNext 137 = .ok (.iconst 1, 1) := by decide +kernel
theorem dX7_doNext_138 : decode cX7_doNext 138 = .ok (.iadd, 1) := by decide +kernel
theorem dX7_doNext_139 : decode cX7_doNext 139 = .ok (.putfield 240, 3) := by decide +kernel
theorem dX7_doNext_142 : decode cX7_doNext 142 = .ok (.aload_n 0, 1) := by decide +kernel
theorem dX7_doNext_143 : decode cX7_doNext 143 = .ok (.getfield 75, 3) := by decide +kernel
theorem dX7_doNext_146 : decode cX7_doNext 146 = .ok (.iload_n 2, 1) := by decide +kernel
theorem dX7_doNext_147 : decode cX7_doNext 147 = .ok (.dup2, 1) := by decide +kernel
theorem dX7_doNext_148 : decode cX7_doNext 148 = .ok (.iaload, 1) := by decide +kernel
theorem dX7_doNext_149 : decode cX7_doNext 149 = .ok (.iconst 1, 1) := by decide +kernel
theorem dX7_doNext_150 : decode cX7_doNext 150 = .ok (.iadd, 1) := by decide +kernel
theorem dX7_doNext_151 : decode cX7_doNext 151 = .ok (.iastore, 1) := by decide +kernel
theorem dX7_doNext_152 : decode cX7_doNext 152 = .ok (.return_, 1) := by decide +kernel
def tbX7_doNext (pc : Nat) : dt_T := cond (Nat.ble pc 73) (cond (Nat.ble pc 35) (cond (Nat.ble pc 20) (cond (Nat.ble pc 8) (cond (Nat.ble pc 3) (cond (Nat.ble pc 0) (cond (Nat.beq pc 0) (tc_ic 20 2) tc_no) (cond (Nat.ble pc 2) (cond (Nat.beq pc 2) (tc_ldI 1 3) tc_no) (cond (Nat.beq pc 3) (tc_ldI 2 4) tc_no))) (cond (Nat.ble pc 4) (cond (Nat.beq pc 4) (tc_callS mX7_talkOf 2 7) tc_no) (cond (Nat.ble pc 7) (cond (Nat.beq pc 7) (tc_imul 8) tc_no) (cond (Nat.beq pc 8) (tc_ldA 0 9) tc_no)))) (cond (Nat.ble pc 14) (cond (Nat.ble pc 9) (cond (Nat.beq pc 9) (tc_getf 7 7 12) tc_no) (cond (Nat.ble pc 12) (cond (Nat.beq pc 12) (tc_ic 20 14) tc_no) (cond (Nat.beq pc 14) (tc_ic 4 15) tc_no))) (cond (Nat.ble pc 16) (cond (Nat.ble pc 15) (cond (Nat.beq pc 15) (tc_ldI 1 16) tc_no) (cond (Nat.beq pc 16) (tc_ldI 2 17) tc_no)) (cond (Nat.ble pc 17) (cond (Nat.beq pc 17) (tc_callS mX7_talkOf 2 20) tc_no) (cond (Nat.beq pc 20) (tc_imul 21) tc_no))))) (cond (Nat.ble pc 28) (cond (Nat.ble pc 23) (cond (Nat.ble pc 21) (cond (Nat.beq pc 21) (tc_ldI 2 22) tc_no) (cond (Nat.ble pc 22) (cond (Nat.beq pc 22) (tc_iadd 23) tc_no) (cond (Nat.beq pc 23) (tc_imul 24) tc_no))) (cond (Nat.ble pc 24) (cond (Nat.beq pc 24) (tc_ldA 0 25) tc_no) (cond (Nat.ble pc 25) (cond (Nat.beq pc 25) (tc_getf 7 31 28) tc_no) (cond (Nat.beq pc 28) (tc_ldI 2 29) tc_no)))) (cond (Nat.ble pc 31) (cond (Nat.ble pc 29) (cond (Nat.beq pc 29) (tc_iald 30) tc_no) (cond (Nat.ble pc 30) (cond (Nat.beq pc 30) (tc_iadd 31) tc_no) (cond (Nat.beq pc 31) (tc_iald 32) tc_no))) (cond (Nat.ble pc 33) (cond (Nat.ble pc 32) (cond (Nat.beq pc 32) (tc_iadd 33) tc_no) (cond (Nat.beq pc 33) (tc_stI 3 34) tc_no)) (cond (Nat.ble pc 34) (cond (Nat.beq pc 34) (tc_ldA 0 35) tc_no) (cond (Nat.beq pc 35) (tc_getf 7 1 38) tc_no)))))) (cond (Nat.ble pc 56) (cond (Nat.ble pc 47) (cond (Nat.ble pc 40) (cond (Nat.ble pc 38) (cond (Nat.beq pc 38) (tc_ldI 3 39) tc_no) (cond (Nat.ble pc 39) (cond (Nat.beq pc 39) (tc_zald 40) tc_no) (cond (Nat.beq pc 40) (tc_ifeq 65 43) tc_no))) (cond (Nat.ble pc 43) (cond (Nat.beq pc 43) (tc_ldA 0 44) tc_no) (cond (Nat.ble pc 44) (cond (Nat.beq pc 44) (tc_getf 7 30 47) tc_no) (cond (Nat.beq pc 47) (tc_ic 4 48) tc_no)))) (cond (Nat.ble pc 52) (cond (Nat.ble pc 48) (cond (Nat.beq pc 48) (tc_ldA 0 49) tc_no) (cond (Nat.ble pc 49) (cond (Nat.beq pc 49) (tc_getf 7 3 52) tc_no) (cond (Nat.beq pc 52) (tc_ldI 3 53) tc_no))) (cond (Nat.ble pc 54) (cond (Nat.ble pc 53) (cond (Nat.beq pc 53) (tc_iald 54) tc_no) (cond (Nat.beq pc 54) (tc_imul 55) tc_no)) (cond (Nat.ble pc 55) (cond (Nat.beq pc 55) (tc_ldI 2 56) tc_no) (cond (Nat.beq pc 56) (tc_iadd 57) tc_no))))) (cond (Nat.ble pc 62) (cond (Nat.ble pc 59) (cond (Nat.ble pc 57) (cond (Nat.beq pc 57) (tc_dup2 58) tc_no) (cond (Nat.ble pc 58) (cond (Nat.beq pc 58) (tc_iald 59) tc_no) (cond (Nat.beq pc 59) (tc_ic 1 60) tc_no))) (cond (Nat.ble pc 60) (cond (Nat.beq pc 60) (tc_iadd 61) tc_no) (cond (Nat.ble pc 61) (cond (Nat.beq pc 61) (tc_iast 62) tc_no) (cond (Nat.beq pc 62) (tc_goto 122) tc_no)))) (cond (Nat.ble pc 67) (cond (Nat.ble pc 65) (cond (Nat.beq pc 65) (tc_ic 4 66) tc_no) (cond (Nat.ble pc 66) (cond (Nat.beq pc 66) (tc_ldI 2 67) tc_no) (cond (Nat.beq pc 67) (tc_imul 68) tc_no))) (cond (Nat.ble pc 69) (cond (Nat.ble pc 68) (cond (Nat.beq pc 68) (tc_ldA 0 69) tc_no) (cond (Nat.beq pc 69) (tc_getf 7 3 72) tc_no)) (cond (Nat.ble pc 72) (cond (Nat.beq pc 72) (tc_ldI 3 73) tc_no) (cond (Nat.beq pc 73) (tc_iald 74) tc_no))))))) (cond (Nat.ble pc 112) (cond (Nat.ble pc 94) (cond (Nat.ble pc 83) (cond (Nat.ble pc 77) (cond (Nat.ble pc 74) (cond (Nat.beq pc 74) (tc_iadd 75) tc_no) (cond (Nat.ble pc 75) (cond (Nat.beq pc 75) (tc_stI 4 77) tc_no) (cond (Nat.beq pc 77) (tc_ldA 0 78) tc_no))) (cond (Nat.ble pc 78) (cond (Nat.beq pc 78) (tc_getf 7 28 81) tc_no) (cond (Nat.ble pc 81) (cond (Nat.beq pc 81) (tc_ic 20 83) tc_no) (cond (Nat.beq pc 83) (tc_ldI 4 85) tc_no)))) (cond (Nat.ble pc 87) (cond (Nat.ble pc 85) (cond (Nat.beq pc 85) (tc_imul 86) tc_no) (cond (Nat.ble pc 86) (cond (Nat.beq pc 86) (tc_ldA 0 87) tc_no) (cond (Nat.beq pc 87) (tc_getf 7 29 90) tc_no))) (cond (Nat.ble pc 92) (cond (Nat.ble pc 90) (cond (Nat.beq pc 90) (tc_ldI 4 92) tc_no) (cond (Nat.beq pc 92) (tc_iald 93) tc_no)) (cond (Nat.ble pc 93) (cond (Nat.beq pc 93) (tc_iadd 94) tc_no) (cond (Nat.beq pc 94) (tc_ldA 0 95) tc_no))))) (cond (Nat.ble pc 102) (cond (Nat.ble pc 99) (cond (Nat.ble pc 95) (cond (Nat.beq pc 95) (tc_getf 7 4 98) tc_no) (cond (Nat.ble pc 98) (cond (Nat.beq pc 98) (tc_ldI 3 99) tc_no) (cond (Nat.beq pc 99) (tc_iald 100) tc_no))) (cond (Nat.ble pc 100) (cond (Nat.beq pc 100) (tc_iast 101) tc_no) (cond (Nat.ble pc 101) (cond (Nat.beq pc 101) (tc_ldA 0 102) tc_no) (cond (Nat.beq pc 102) (tc_getf 7 29 105) tc_no)))) (cond (Nat.ble pc 108) (cond (Nat.ble pc 105) (cond (Nat.beq pc 105) (tc_ldI 4 107) tc_no) (cond (Nat.ble pc 107) (cond (Nat.beq pc 107) (tc_dup2 108) tc_no) (cond (Nat.beq pc 108) (tc_iald 109) tc_no))) (cond (Nat.ble pc 110) (cond (Nat.ble pc 109) (cond (Nat.beq pc 109) (tc_ic 1 110) tc_no) (cond (Nat.beq pc 110) (tc_iadd 111) tc_no)) (cond (Nat.ble pc 111) (cond (Nat.beq pc 111) (tc_iast 112) tc_no) (cond (Nat.beq pc 112) (tc_ldA 0 113) tc_no)))))) (cond (Nat.ble pc 133) (cond (Nat.ble pc 122) (cond (Nat.ble pc 117) (cond (Nat.ble pc 113) (cond (Nat.beq pc 113) (tc_dup 114) tc_no) (cond (Nat.ble pc 114) (cond (Nat.beq pc 114) (tc_getf 7 33 117) tc_no) (cond (Nat.beq pc 117) (tc_ic 1 118) tc_no))) (cond (Nat.ble pc 118) (cond (Nat.beq pc 118) (tc_iadd 119) tc_no) (cond (Nat.ble pc 119) (cond (Nat.beq pc 119) (tc_putI 7 33 122) tc_no) (cond (Nat.beq pc 122) (tc_ldA 0 123) tc_no)))) (cond (Nat.ble pc 127) (cond (Nat.ble pc 123) (cond (Nat.beq pc 123) (tc_getf 7 34 126) tc_no) (cond (Nat.ble pc 126) (cond (Nat.beq pc 126) (tc_ldA 0 127) tc_no) (cond (Nat.beq pc 127) (tc_getf 7 32 130) tc_no))) (cond (Nat.ble pc 131) (cond (Nat.ble pc 130) (cond (Nat.beq pc 130) (tc_ldI 3 131) tc_no) (cond (Nat.beq pc 131) (tc_iast 132) tc_no)) (cond (Nat.ble pc 132) (cond (Nat.beq pc 132) (tc_ldA 0 133) tc_no) (cond (Nat.beq pc 133) (tc_dup 134) tc_no))))) (cond (Nat.ble pc 143) (cond (Nat.ble pc 138) (cond (Nat.ble pc 134) (cond (Nat.beq pc 134) (tc_getf 7 32 137) tc_no) (cond (Nat.ble pc 137) (cond (Nat.beq pc 137) (tc_ic 1 138) tc_no) (cond (Nat.beq pc 138) (tc_iadd 139) tc_no))) (cond (Nat.ble pc 139) (cond (Nat.beq pc 139) (tc_putI 7 32 142) tc_no) (cond (Nat.ble pc 142) (cond (Nat.beq pc 142) (tc_ldA 0 143) tc_no) (cond (Nat.beq pc 143) (tc_getf 7 31 146) tc_no)))) (cond (Nat.ble pc 148) (cond (Nat.ble pc 146) (cond (Nat.beq pc 146) (tc_ldI 2 147) tc_no) (cond (Nat.ble pc 147) (cond (Nat.beq pc 147) (tc_dup2 148) tc_no) (cond (Nat.beq pc 148) (tc_iald 149) tc_no))) (cond (Nat.ble pc 150) (cond (Nat.ble pc 149) (cond (Nat.beq pc 149) (tc_ic 1 150) tc_no) (cond (Nat.beq pc 150) (tc_iadd 151) tc_no)) (cond (Nat.ble pc 151) (cond (Nat.beq pc 151) (tc_iast 152) tc_no) (cond (Nat.beq pc 152) (tc_ret) tc_no)))))))
theorem okX7_doNext : ∀ pc, dt_S mX7_doNext (tbX7_doNext pc) pc := by
  intro pc
  unfold tbX7_doNext
  exact dt_Sb (dt_Sb (dt_Sb (dt_Sb (dt_Sb (dt_Sb (dt_Sl 0 (sn_bi ⟨by decide, by decide⟩ rfl dX7_doNext_0 rfl)) (dt_Sb (dt_Sl 2 (sn_ldIn rfl dX7_doNext_2 rfl)) (dt_Sl 3 (sn_ldIn rfl dX7_doNext_3 rfl)))) (dt_Sb (dt_Sl 4 (sn_callS rfl nnX7_talkOf wq_4_187 wq_4_188 dX7_doNext_4 rfl)) (dt_Sb (dt_Sl 7 (sn_imul dX7_doNext_7 rfl)) (dt_Sl 8 (sn_ldAn rfl dX7_doNext_8 rfl))))) (dt_Sb (dt_Sb (dt_Sl 9 (sn_getf rfl ffX7 (by decide) wq_3_144 dX7_doNext_9 rfl)) (dt_Sb (dt_Sl 12 (sn_bi ⟨by decide, by decide⟩ rfl dX7_doNext_12 rfl)) (dt_Sl 14 (sn_ic ⟨by decide, by decide⟩ dX7_doNext_14 rfl)))) (dt_Sb (dt_Sb (dt_Sl 15 (sn_ldIn rfl dX7_doNext_15 rfl)) (dt_Sl 16 (sn_ldIn rfl dX7_doNext_16 rfl))) (dt_Sb (dt_Sl 17 (sn_callS rfl nnX7_talkOf wq_4_187 wq_4_188 dX7_doNext_17 rfl)) (dt_Sl 20 (sn_imul dX7_doNext_20 rfl)))))) (dt_Sb (dt_Sb (dt_Sb (dt_Sl 21 (sn_ldIn rfl dX7_doNext_21 rfl)) (dt_Sb (dt_Sl 22 (sn_iadd dX7_doNext_22 rfl)) (dt_Sl 23 (sn_imul dX7_doNext_23 rfl)))) (dt_Sb (dt_Sl 24 (sn_ldAn rfl dX7_doNext_24 rfl)) (dt_Sb (dt_Sl 25 (sn_getf rfl ffX7 (by decide) wq_3_168 dX7_doNext_25 rfl)) (dt_Sl 28 (sn_ldIn rfl dX7_doNext_28 rfl))))) (dt_Sb (dt_Sb (dt_Sl 29 (sn_iald dX7_doNext_29 rfl)) (dt_Sb (dt_Sl 30 (sn_iadd dX7_doNext_30 rfl)) (dt_Sl 31 (sn_iald dX7_doNext_31 rfl)))) (dt_Sb (dt_Sb (dt_Sl 32 (sn_iadd dX7_doNext_32 rfl)) (dt_Sl 33 (sn_stIn rfl (by decide) dX7_doNext_33 rfl))) (dt_Sb (dt_Sl 34 (sn_ldAn rfl dX7_doNext_34 rfl)) (dt_Sl 35 (sn_getf rfl ffX7 (by decide) wq_3_138 dX7_doNext_35 rfl))))))) (dt_Sb (dt_Sb (dt_Sb (dt_Sb (dt_Sl 38 (sn_ldIn rfl dX7_doNext_38 rfl)) (dt_Sb (dt_Sl 39 (sn_zald dX7_doNext_39 rfl)) (dt_Sl 40 (sn_ifeq dX7_doNext_40 (by decide) rfl)))) (dt_Sb (dt_Sl 43 (sn_ldAn rfl dX7_doNext_43 rfl)) (dt_Sb (dt_Sl 44 (sn_getf rfl ffX7 (by decide) wq_3_167 dX7_doNext_44 rfl)) (dt_Sl 47 (sn_ic ⟨by decide, by decide⟩ dX7_doNext_47 rfl))))) (dt_Sb (dt_Sb (dt_Sl 48 (sn_ldAn rfl dX7_doNext_48 rfl)) (dt_Sb (dt_Sl 49 (sn_getf rfl ffX7 (by decide) wq_3_140 dX7_doNext_49 rfl)) (dt_Sl 52 (sn_ldIn rfl dX7_doNext_52 rfl)))) (dt_Sb (dt_Sb (dt_Sl 53 (sn_iald dX7_doNext_53 rfl)) (dt_Sl 54 (sn_imul dX7_doNext_54 rfl))) (dt_Sb (dt_Sl 55 (sn_ldIn rfl dX7_doNext_55 rfl)) (dt_Sl 56 (sn_iadd dX7_doNext_56 rfl)))))) (dt_Sb (dt_Sb (dt_Sb (dt_Sl 57 (sn_dup2 dX7_doNext_57 rfl)) (dt_Sb (dt_Sl 58 (sn_iald dX7_doNext_58 rfl)) (dt_Sl 59 (sn_ic ⟨by decide, by decide⟩ dX7_doNext_59 rfl)))) (dt_Sb (dt_Sl 60 (sn_iadd dX7_doNext_60 rfl)) (dt_Sb (dt_Sl 61 (sn_iast dX7_doNext_61 rfl)) (dt_Sl 62 (sn_goto dX7_doNext_62 (by decide)))))) (dt_Sb (dt_Sb (dt_Sl 65 (sn_ic ⟨by decide, by decide⟩ dX7_doNext_65 rfl)) (dt_Sb (dt_Sl 66 (sn_ldIn rfl dX7_doNext_66 rfl)) (dt_Sl 67 (sn_imul dX7_doNext_67 rfl)))) (dt_Sb (dt_Sb (dt_Sl 68 (sn_ldAn rfl dX7_doNext_68 rfl)) (dt_Sl 69 (sn_getf rfl ffX7 (by decide) wq_3_140 dX7_doNext_69 rfl))) (dt_Sb (dt_Sl 72 (sn_ldIn rfl dX7_doNext_72 rfl)) (dt_Sl 73 (sn_iald dX7_doNext_73 rfl)))))))) (dt_Sb (dt_Sb (dt_Sb (dt_Sb (dt_Sb (dt_Sl 74 (sn_iadd dX7_doNext_74 rfl)) (dt_Sb (dt_Sl 75 (sn_stI (by decide) dX7_doNext_75 rfl)) (dt_Sl 77 (sn_ldAn rfl dX7_doNext_77 rfl)))) (dt_Sb (dt_Sl 78 (sn_getf rfl ffX7 (by decide) wq_3_165 dX7_doNext_78 rfl)) (dt_Sb (dt_Sl 81 (sn_bi ⟨by decide, by decide⟩ rfl dX7_doNext_81 rfl)) (dt_Sl 83 (sn_ldI dX7_doNext_83 rfl))))) (dt_Sb (dt_Sb (dt_Sl 85 (sn_imul dX7_doNext_85 rfl)) (dt_Sb (dt_Sl 86 (sn_ldAn rfl dX7_doNext_86 rfl)) (dt_Sl 87 (sn_getf rfl ffX7 (by decide) wq_3_166 dX7_doNext_87 rfl)))) (dt_Sb (dt_Sb (dt_Sl 90 (sn_ldI dX7_doNext_90 rfl)) (dt_Sl 92 (sn_iald dX7_doNext_92 rfl))) (dt_Sb (dt_Sl 93 (sn_iadd dX7_doNext_93 rfl)) (dt_Sl 94 (sn_ldAn rfl dX7_doNext_94 rfl)))))) (dt_Sb (dt_Sb (dt_Sb (dt_Sl 95 (sn_getf rfl ffX7 (by decide) wq_3_141 dX7_doNext_95 rfl)) (dt_Sb (dt_Sl 98 (sn_ldIn rfl dX7_doNext_98 rfl)) (dt_Sl 99 (sn_iald dX7_doNext_99 rfl)))) (dt_Sb (dt_Sl 100 (sn_iast dX7_doNext_100 rfl)) (dt_Sb (dt_Sl 101 (sn_ldAn rfl dX7_doNext_101 rfl)) (dt_Sl 102 (sn_getf rfl ffX7 (by decide) wq_3_166 dX7_doNext_102 rfl))))) (dt_Sb (dt_Sb (dt_Sl 105 (sn_ldI dX7_doNext_105 rfl)) (dt_Sb (dt_Sl 107 (sn_dup2 dX7_doNext_107 rfl)) (dt_Sl 108 (sn_iald dX7_doNext_108 rfl)))) (dt_Sb (dt_Sb (dt_Sl 109 (sn_ic ⟨by decide, by decide⟩ dX7_doNext_109 rfl)) (dt_Sl 110 (sn_iadd dX7_doNext_110 rfl))) (dt_Sb (dt_Sl 111 (sn_iast dX7_doNext_111 rfl)) (dt_Sl 112 (sn_ldAn rfl dX7_doNext_112 rfl))))))) (dt_Sb (dt_Sb (dt_Sb (dt_Sb (dt_Sl 113 (sn_dup dX7_doNext_113 rfl)) (dt_Sb (dt_Sl 114 (sn_getf rfl ffX7 (by decide) wq_3_170 dX7_doNext_114 rfl)) (dt_Sl 117 (sn_ic ⟨by decide, by decide⟩ dX7_doNext_117 rfl)))) (dt_Sb (dt_Sl 118 (sn_iadd dX7_doNext_118 rfl)) (dt_Sb (dt_Sl 119 (sn_putI rfl ffX7 (by decide) rfl rfl (by decide +kernel) wq_3_170 dX7_doNext_119 rfl)) (dt_Sl 122 (sn_ldAn rfl dX7_doNext_122 rfl))))) (dt_Sb (dt_Sb (dt_Sl 123 (sn_getf rfl ffX7 (by decide) wq_3_171 dX7_doNext_123 rfl)) (dt_Sb (dt_Sl 126 (sn_ldAn rfl dX7_doNext_126 rfl)) (dt_Sl 127 (sn_getf rfl ffX7 (by decide) wq_3_169 dX7_doNext_127 rfl)))) (dt_Sb (dt_Sb (dt_Sl 130 (sn_ldIn rfl dX7_doNext_130 rfl)) (dt_Sl 131 (sn_iast dX7_doNext_131 rfl))) (dt_Sb (dt_Sl 132 (sn_ldAn rfl dX7_doNext_132 rfl)) (dt_Sl 133 (sn_dup dX7_doNext_133 rfl)))))) (dt_Sb (dt_Sb (dt_Sb (dt_Sl 134 (sn_getf rfl ffX7 (by decide) wq_3_169 dX7_doNext_134 rfl)) (dt_Sb (dt_Sl 137 (sn_ic ⟨by decide, by decide⟩ dX7_doNext_137 rfl)) (dt_Sl 138 (sn_iadd dX7_doNext_138 rfl)))) (dt_Sb (dt_Sl 139 (sn_putI rfl ffX7 (by decide) rfl rfl (by decide +kernel) wq_3_169 dX7_doNext_139 rfl)) (dt_Sb (dt_Sl 142 (sn_ldAn rfl dX7_doNext_142 rfl)) (dt_Sl 143 (sn_getf rfl ffX7 (by decide) wq_3_168 dX7_doNext_143 rfl))))) (dt_Sb (dt_Sb (dt_Sl 146 (sn_ldIn rfl dX7_doNext_146 rfl)) (dt_Sb (dt_Sl 147 (sn_dup2 dX7_doNext_147 rfl)) (dt_Sl 148 (sn_iald dX7_doNext_148 rfl)))) (dt_Sb (dt_Sb (dt_Sl 149 (sn_ic ⟨by decide, by decide⟩ dX7_doNext_149 rfl)) (dt_Sl 150 (sn_iadd dX7_doNext_150 rfl))) (dt_Sb (dt_Sl 151 (sn_iast dX7_doNext_151 rfl)) (dt_Sl 152 (sn_ret rfl dX7_doNext_152))))))))
theorem dX7_plays_0 : decode cX7_plays 0 = .ok (.aload_n 0, 1) := by decide +kernel
theorem dX7_plays_1 : decode cX7_plays 1 = .ok (.iconst 0, 1) := by decide +kernel
theorem dX7_plays_2 : decode cX7_plays 2 = .ok (.putfield 240, 3) := by decide +kernel
theorem dX7_plays_5 : decode cX7_plays 5 = .ok (.aload_n 0, 1) := by decide +kernel
theorem dX7_plays_6 : decode cX7_plays 6 = .ok (.iconst 0, 1) := by decide +kernel
theorem dX7_plays_7 : decode cX7_plays 7 = .ok (.putfield 237, 3) := by decide +kernel
theorem dX7_plays_10 : decode cX7_plays 10 = .ok (.iconst 0, 1) := by decide +kernel
theorem dX7_plays_11 : decode cX7_plays 11 = .ok (.istore_n 2, 1) := by decide +kernel
theorem dX7_plays_12 : decode cX7_plays 12 = .ok (.iload_n 2, 1) := by decide +kernel
theorem dX7_plays_13 : decode cX7_plays 13 = .ok (.bipush 16, 2) := by decide +kernel
theorem dX7_plays_15 : decode cX7_plays 15 = .ok (.if_icmp .ge 32, 3) := by decide +kernel
theorem dX7_plays_18 : decode cX7_plays 18 = .ok (.aload_n 0, 1) := by decide +kernel
theorem dX7_plays_19 : decode cX7_plays 19 = .ok (.getfield 69, 3) := by decide +kernel
theorem dX7_plays_22 : decode cX7_plays 22 = .ok (.iload_n 2, 1) := by decide +kernel
theorem dX7_plays_23 : decode cX7_plays 23 = .ok (.iconst 0, 1) := by decide +kernel
theorem dX7_plays_24 : decode cX7_plays 24 = .ok (.iastore, 1) := by decide +kernel
theorem dX7_plays_25 : decode cX7_plays 25 = .ok (.aload_n 0, 1) := by decide +kernel
theorem dX7_plays_26 : decode cX7_plays 26 = .ok (.getfield 72, 3) := by decide +kernel
theorem dX7_plays_29 : decode cX7_plays 29 = .ok (.iload_n 2, 1) := by decide +kernel
theorem dX7_plays_30 : decode cX7_plays 30 = .ok (.iconst 0, 1) := by decide +kernel
theorem dX7_plays_31 : decode cX7_plays 31 = .ok (.iastore, 1) := by decide +kernel
theorem dX7_plays_32 : decode cX7_plays 32 = .ok (.aload_n 0, 1) := by decide +kernel
theorem dX7_plays_33 : decode cX7_plays 33 = .ok (.getfield 75, 3) := by decide +kernel
theorem dX7_plays_36 : decode cX7_plays 36 = .ok (.iload_n 2, 1) := by decide +kernel
theorem dX7_plays_37 : decode cX7_plays 37 = .ok (.iconst 4, 1) := by decide +kernel
theorem dX7_plays_38 : decode cX7_plays 38 = .ok (.irem, 1) := by decide +kernel
theorem dX7_plays_39 : decode cX7_plays 39 = .ok (.iconst 0, 1) := by decide +kernel
theorem dX7_plays_40 : decode cX7_plays 40 = .ok (.iastore, 1) := by decide +kernel
theorem dX7_plays_41 : decode cX7_plays 41 = .ok (.iinc 2 1, 3) := by decide +kernel
theorem dX7_plays_44 : decode cX7_plays 44 = .ok (.goto (-32), 3) := by decide +kernel
theorem dX7_plays_47 : decode cX7_plays 47 = .ok (.iconst 0, 1) := by decide +kernel
theorem dX7_plays_48 : decode cX7_plays 48 = .ok (.istore_n 2, 1) := by decide +kernel
theorem dX7_plays_49 : decode cX7_plays 49 = .ok (.iload_n 2, 1) := by decide +kernel
theorem dX7_plays_50 : decode cX7_plays 50 = .ok (.iconst 4, 1) := by decide +kernel
theorem dX7_plays_51 : decode cX7_plays 51 = .ok (.if_icmp .ge 29, 3) := by decide +kernel
theorem dX7_plays_54 : decode cX7_plays 54 = .ok (.aload_n 0, 1) := by decide +kernel
theorem dX7_plays_55 : decode cX7_plays 55 = .ok (.iload_n 1, 1) := by decide +kernel
theorem dX7_plays_56 : decode cX7_plays 56 = .ok (.iload_n 2, 1) := by decide +kernel
theorem dX7_plays_57 : decode cX7_plays 57 = .ok (.invokevirtual 243, 3) := by decide +kernel
theorem dX7_plays_60 : decode cX7_plays 60 = .ok (.ifCond .eq 14, 3) := by decide +kernel
theorem dX7_plays_63 : decode cX7_plays 63 = .ok (.aload_n 0, 1) := by decide +kernel
theorem dX7_plays_64 : decode cX7_plays 64 = .ok (.iload_n 1, 1) := by decide +kernel
theorem dX7_plays_65 : decode cX7_plays 65 = .ok (.iload_n 2, 1) := by decide +kernel
theorem dX7_plays_66 : decode cX7_plays 66 = .ok (.invokevirtual 246, 3) := by decide +kernel
theorem dX7_plays_69 : decode cX7_plays 69 = .ok (.iconst 0, 1) := by decide +kernel
theorem dX7_plays_70 : decode cX7_plays 70 = .ok (.istore_n 2, 1) := by decide +kernel
theorem dX7_plays_71 : decode cX7_plays 71 = .ok (.goto (-22), 3) := by decide +kernel
theorem dX7_plays_74 : decode cX7_plays 74 = .ok (.iinc 2 1, 3) := by decide +kernel
theorem dX7_plays_77 : decode cX7_plays 77 = .ok (.goto (-28), 3) := by decide +kernel
theorem dX7_plays_80 : decode cX7_plays 80 = .ok (.aload_n 0, 1) := by decide +kernel
theorem dX7_plays_81 : decode cX7_plays 81 = .ok (.getfield 240, 3) := by decide +kernel
theorem dX7_plays_84 : decode cX7_plays 84 = .ok (.iconst 2, 1) := by decide +kernel
theorem dX7_plays_85 : decode cX7_plays 85 = .ok (.aload_n 0, 1) := by decide +kernel
theorem dX7_plays_86 : decode cX7_plays 86 = .ok (.getfield 237, 3) := by decide +kernel
theorem dX7_plays_89 : decode cX7_plays 89 = .ok (.imul, 1) := by decide +kernel
theorem dX7_plays_90 : decode cX7_plays 90 = .ok (.if_icmp .ne 7, 3) := by decide +kernel
theorem dX7_plays_93 : decode cX7_plays 93 = .ok (.iconst 1, 1) := by decide +kernel
theorem dX7_plays_94 : decode cX7_plays 94 = .ok (.goto 4, 3) := by decide +kernel
theorem dX7_plays_97 : decode cX7_plays 97 = .ok (.iconst 0, 1) := by decide +kernel
theorem dX7_plays_98 : decode cX7_plays 98 = .ok (.istore_n 3, 1) := by decide +kernel
theorem dX7_plays_99 : decode cX7_plays 99 = .ok (.iconst 0, 1) := by decide +kernel
theorem dX7_plays_100 : decode cX7_plays 100 = .ok (.istore 4, 2) := by decide +kernel
theorem dX7_plays_102 : decode cX7_plays 102 = .ok (.iload 4, 2) := by decide +kernel
theorem dX7_plays_104 : decode cX7_plays 104 = .ok (.iconst 4, 1) := by decide +kernel
theorem dX7_plays_105 : decode cX7_plays 105 = .ok (.if_icmp .ge 45, 3) := by decide +kernel
theorem dX7_plays_108 : decode cX7_plays 108 = .ok (.iload_n 3, 1) := by decide +kernel
theorem dX7_plays_109 : decode cX7_plays 109 = .ok (.ifCond .eq 33, 3) := by decide +kernel
theorem dX7_plays_112 : decode cX7_plays 112 = .ok (.aload_n 0, 1) := by decide +kernel
theorem dX7_plays_113 : decode cX7_plays 113 = .ok (.getfield 75, 3) := by decide +kernel
theorem dX7_plays_116 : decode cX7_plays 116 = .ok (.iload 4, 2) := by decide +kernel
theorem dX7_plays_118 : decode cX7_plays 118 = .ok (.iaload, 1) := by decide +kernel
theorem dX7_plays_119 : decode cX7_plays 119 = .ok (.aload_n 0, 1) := by decide +kernel
theorem dX7_plays_120 : decode cX7_plays 120 = .ok (.getfield 29, 3) := by decide +kernel
theorem dX7_plays_123 : decode cX7_plays 123 = .ok (.iconst 4, 1) := by decide +kernel
theorem dX7_plays_124 : decode cX7_plays 124 = .ok (.iload_n 1, 1) := by decide +kernel
theorem dX7_plays_125 : decode cX7_plays 125 = .ok (.iload 4, 2) := by decide +kernel
theorem dX7_plays_127 : decode cX7_plays 127 = .ok (.invokestatic 234, 3) := by decide +kernel
theorem dX7_plays_130 : decode cX7_plays 130 = .ok (.imul, 1) := by decide +kernel
theorem dX7_plays_131 : decode cX7_plays 131 = .ok (.iload 4, 2) := by decide +kernel
theorem dX7_plays_133 : decode cX7_plays 133 = .ok (.iadd, 1) := by decide +kernel
theorem dX7_plays_134 : decode cX7_plays 134 = .ok (.iaload, 1) := by decide +kernel
theorem dX7_plays_135 : decode cX7_plays 135 = .ok (.if_icmp .ne 7, 3) := by decide +kernel
theorem dX7_plays_138 : decode cX7_plays 138 = .ok (.iconst 1, 1) := by decide +kernel
theorem dX7_plays_139 : decode cX7_plays 139 = .ok (.goto 4, 3) := by decide +kernel
theorem dX7_plays_142 : decode cX7_plays 142 = .ok (.iconst 0, 1) := by decide +kernel
theorem dX7_plays_143 : decode cX7_plays 143 = .ok (.istore_n 3, 1) := by decide +kernel
theorem dX7_plays_144 : decode cX7_plays 144 = .ok (.iinc 4 1, 3) := by decide +kernel
theorem dX7_plays_147 : decode cX7_plays 147 = .ok (.goto (-45), 3) := by decide +kernel
theorem dX7_plays_150 : decode cX7_plays 150 = .ok (.iload_n 3, 1) := by decide +kernel
theorem dX7_plays_151 : decode cX7_plays 151 = .ok (.ireturn, 1) := by decide +kernel
def tbX7_plays (pc : Nat) : dt_T := cond (Nat.ble pc 69) (cond (Nat.ble pc 32) (cond (Nat.ble pc 15) (cond (Nat.ble pc 6) (cond (Nat.ble pc 1) (cond (Nat.ble pc 0) (cond (Nat.beq pc 0) (tc_ldA 0 1) tc_no) (cond (Nat.beq pc 1) (tc_ic 0 2) tc_no)) (cond (Nat.ble pc 2) (cond (Nat.beq pc 2) (tc_putI 7 32 5) tc_no) (cond (Nat.ble pc 5) (cond (Nat.beq pc 5) (tc_ldA 0 6) tc_no) (cond (Nat.beq pc 6) (tc_ic 0 7) tc_no)))) (cond (Nat.ble pc 11) (cond (Nat.ble pc 7) (cond (Nat.beq pc 7) (tc_putI 7 33 10) tc_no) (cond (Nat.ble pc 10) (cond (Nat.beq pc 10) (tc_ic 0 11) tc_no) (cond (Nat.beq pc 11) (tc_stI 2 12) tc_no))) (cond (Nat.ble pc 12) (cond (Nat.beq pc 12) (tc_ldI 2 13) tc_no) (cond (Nat.ble pc 13) (cond (Nat.beq pc 13) (tc_ic 16 15) tc_no) (cond (Nat.beq pc 15) (tc_icmpge 47 18) tc_no))))) (cond (Nat.ble pc 24) (cond (Nat.ble pc 19) (cond (Nat.ble pc 18) (cond (Nat.beq pc 18) (tc_ldA 0 19) tc_no) (cond (Nat.beq pc 19) (tc_getf 7 29 22) tc_no)) (cond (Nat.ble pc 22) (cond (Nat.beq pc 22) (tc_ldI 2 23) tc_no) (cond (Nat.ble pc 23) (cond (Nat.beq pc 23) (tc_ic 0 24) tc_no) (cond (Nat.beq pc 24) (tc_iast 25) tc_no)))) (cond (Nat.ble pc 29) (cond (Nat.ble pc 25) (cond (Nat.beq pc 25) (tc_ldA 0 26) tc_no) (cond (Nat.ble pc 26) (cond (Nat.beq pc 26) (tc_getf 7 30 29) tc_no) (cond (Nat.beq pc 29) (tc_ldI 2 30) tc_no))) (cond (Nat.ble pc 30) (cond (Nat.beq pc 30) (tc_ic 0 31) tc_no) (cond (Nat.ble pc 31) (cond (Nat.beq pc 31) (tc_iast 32) tc_no) (cond (Nat.beq pc 32) (tc_ldA 0 33) tc_no)))))) (cond (Nat.ble pc 49) (cond (Nat.ble pc 39) (cond (Nat.ble pc 36) (cond (Nat.ble pc 33) (cond (Nat.beq pc 33) (tc_getf 7 31 36) tc_no) (cond (Nat.beq pc 36) (tc_ldI 2 37) tc_no)) (cond (Nat.ble pc 37) (cond (Nat.beq pc 37) (tc_ic 4 38) tc_no) (cond (Nat.ble pc 38) (cond (Nat.beq pc 38) (tc_irem 39) tc_no) (cond (Nat.beq pc 39) (tc_ic 0 40) tc_no)))) (cond (Nat.ble pc 44) (cond (Nat.ble pc 40) (cond (Nat.beq pc 40) (tc_iast 41) tc_no) (cond (Nat.ble pc 41) (cond (Nat.beq pc 41) (tc_iinc 2 1 44) tc_no) (cond (Nat.beq pc 44) (tc_goto 12) tc_no))) (cond (Nat.ble pc 47) (cond (Nat.beq pc 47) (tc_ic 0 48) tc_no) (cond (Nat.ble pc 48) (cond (Nat.beq pc 48) (tc_stI 2 49) tc_no) (cond (Nat.beq pc 49) (tc_ldI 2 50) tc_no))))) (cond (Nat.ble pc 57) (cond (Nat.ble pc 54) (cond (Nat.ble pc 50) (cond (Nat.beq pc 50) (tc_ic 4 51) tc_no) (cond (Nat.ble pc 51) (cond (Nat.beq pc 51) (tc_icmpge 80 54) tc_no) (cond (Nat.beq pc 54) (tc_ldA 0 55) tc_no))) (cond (Nat.ble pc 55) (cond (Nat.beq pc 55) (tc_ldI 1 56) tc_no) (cond (Nat.ble pc 56) (cond (Nat.beq pc 56) (tc_ldI 2 57) tc_no) (cond (Nat.beq pc 57) (tc_callV 7 mX7_canDo 2 60) tc_no)))) (cond (Nat.ble pc 64) (cond (Nat.ble pc 60) (cond (Nat.beq pc 60) (tc_ifeq 74 63) tc_no) (cond (Nat.ble pc 63) (cond (Nat.beq pc 63) (tc_ldA 0 64) tc_no) (cond (Nat.beq pc 64) (tc_ldI 1 65) tc_no))) (cond (Nat.ble pc 65) (cond (Nat.beq pc 65) (tc_ldI 2 66) tc_no) (cond (Nat.ble pc 66) (cond (Nat.beq pc 66) (tc_callV 7 mX7_doNext 2 69) tc_no) (cond (Nat.beq pc 69) (tc_ic 0 70) tc_no))))))) (cond (Nat.ble pc 109) (cond (Nat.ble pc 90) (cond (Nat.ble pc 80) (cond (Nat.ble pc 71) (cond (Nat.ble pc 70) (cond (Nat.beq pc 70) (tc_stI 2 71) tc_no) (cond (Nat.beq pc 71) (tc_goto 49) tc_no)) (cond (Nat.ble pc 74) (cond (Nat.beq pc 74) (tc_iinc 2 1 77) tc_no) (cond (Nat.ble pc 77) (cond (Nat.beq pc 77) (tc_goto 49) tc_no) (cond (Nat.beq pc 80) (tc_ldA 0 81) tc_no)))) (cond (Nat.ble pc 85) (cond (Nat.ble pc 81) (cond (Nat.beq pc 81) (tc_getf 7 32 84) tc_no) (cond (Nat.ble pc 84) (cond (Nat.beq pc 84) (tc_ic 2 85) tc_no) (cond (Nat.beq pc 85) (tc_ldA 0 86) tc_no))) (cond (Nat.ble pc 86) (cond (Nat.beq pc 86) (tc_getf 7 33 89) tc_no) (cond (Nat.ble pc 89) (cond (Nat.beq pc 89) (tc_imul 90) tc_no) (cond (Nat.beq pc 90) (tc_icmpne 97 93) tc_no))))) (cond (Nat.ble pc 99) (cond (Nat.ble pc 94) (cond (Nat.ble pc 93) (cond (Nat.beq pc 93) (tc_ic 1 94) tc_no) (cond (Nat.beq pc 94) (tc_goto 98) tc_no)) (cond (Nat.ble pc 97) (cond (Nat.beq pc 97) (tc_ic 0 98) tc_no) (cond (Nat.ble pc 98) (cond (Nat.beq pc 98) (tc_stI 3 99) tc_no) (cond (Nat.beq pc 99) (tc_ic 0 100) tc_no)))) (cond (Nat.ble pc 104) (cond (Nat.ble pc 100) (cond (Nat.beq pc 100) (tc_stI 4 102) tc_no) (cond (Nat.ble pc 102) (cond (Nat.beq pc 102) (tc_ldI 4 104) tc_no) (cond (Nat.beq pc 104) (tc_ic 4 105) tc_no))) (cond (Nat.ble pc 105) (cond (Nat.beq pc 105) (tc_icmpge 150 108) tc_no) (cond (Nat.ble pc 108) (cond (Nat.beq pc 108) (tc_ldI 3 109) tc_no) (cond (Nat.beq pc 109) (tc_ifeq 142 112) tc_no)))))) (cond (Nat.ble pc 130) (cond (Nat.ble pc 119) (cond (Nat.ble pc 113) (cond (Nat.ble pc 112) (cond (Nat.beq pc 112) (tc_ldA 0 113) tc_no) (cond (Nat.beq pc 113) (tc_getf 7 31 116) tc_no)) (cond (Nat.ble pc 116) (cond (Nat.beq pc 116) (tc_ldI 4 118) tc_no) (cond (Nat.ble pc 118) (cond (Nat.beq pc 118) (tc_iald 119) tc_no) (cond (Nat.beq pc 119) (tc_ldA 0 120) tc_no)))) (cond (Nat.ble pc 124) (cond (Nat.ble pc 120) (cond (Nat.beq pc 120) (tc_getf 7 6 123) tc_no) (cond (Nat.ble pc 123) (cond (Nat.beq pc 123) (tc_ic 4 124) tc_no) (cond (Nat.beq pc 124) (tc_ldI 1 125) tc_no))) (cond (Nat.ble pc 125) (cond (Nat.beq pc 125) (tc_ldI 4 127) tc_no) (cond (Nat.ble pc 127) (cond (Nat.beq pc 127) (tc_callS mX7_talkOf 2 130) tc_no) (cond (Nat.beq pc 130) (tc_imul 131) tc_no))))) (cond (Nat.ble pc 139) (cond (Nat.ble pc 134) (cond (Nat.ble pc 131) (cond (Nat.beq pc 131) (tc_ldI 4 133) tc_no) (cond (Nat.ble pc 133) (cond (Nat.beq pc 133) (tc_iadd 134) tc_no) (cond (Nat.beq pc 134) (tc_iald 135) tc_no))) (cond (Nat.ble pc 135) (cond (Nat.beq pc 135) (tc_icmpne 142 138) tc_no) (cond (Nat.ble pc 138) (cond (Nat.beq pc 138) (tc_ic 1 139) tc_no) (cond (Nat.beq pc 139) (tc_goto 143) tc_no)))) (cond (Nat.ble pc 144) (cond (Nat.ble pc 142) (cond (Nat.beq pc 142) (tc_ic 0 143) tc_no) (cond (Nat.ble pc 143) (cond (Nat.beq pc 143) (tc_stI 3 144) tc_no) (cond (Nat.beq pc 144) (tc_iinc 4 1 147) tc_no))) (cond (Nat.ble pc 147) (cond (Nat.beq pc 147) (tc_goto 102) tc_no) (cond (Nat.ble pc 150) (cond (Nat.beq pc 150) (tc_ldI 3 151) tc_no) (cond (Nat.beq pc 151) (tc_zret) tc_no)))))))
theorem okX7_plays : ∀ pc, dt_S mX7_plays (tbX7_plays pc) pc := by
  intro pc
  unfold tbX7_plays
  exact dt_Sb (dt_Sb (dt_Sb (dt_Sb (dt_Sb (dt_Sb (dt_Sl 0 (sn_ldAn rfl dX7_plays_0 rfl)) (dt_Sl 1 (sn_ic ⟨by decide, by decide⟩ dX7_plays_1 rfl))) (dt_Sb (dt_Sl 2 (sn_putI rfl ffX7 (by decide) rfl rfl (by decide +kernel) wq_3_169 dX7_plays_2 rfl)) (dt_Sb (dt_Sl 5 (sn_ldAn rfl dX7_plays_5 rfl)) (dt_Sl 6 (sn_ic ⟨by decide, by decide⟩ dX7_plays_6 rfl))))) (dt_Sb (dt_Sb (dt_Sl 7 (sn_putI rfl ffX7 (by decide) rfl rfl (by decide +kernel) wq_3_170 dX7_plays_7 rfl)) (dt_Sb (dt_Sl 10 (sn_ic ⟨by decide, by decide⟩ dX7_plays_10 rfl)) (dt_Sl 11 (sn_stIn rfl (by decide) dX7_plays_11 rfl)))) (dt_Sb (dt_Sl 12 (sn_ldIn rfl dX7_plays_12 rfl)) (dt_Sb (dt_Sl 13 (sn_bi ⟨by decide, by decide⟩ rfl dX7_plays_13 rfl)) (dt_Sl 15 (sn_icmpge dX7_plays_15 (by decide) rfl)))))) (dt_Sb (dt_Sb (dt_Sb (dt_Sl 18 (sn_ldAn rfl dX7_plays_18 rfl)) (dt_Sl 19 (sn_getf rfl ffX7 (by decide) wq_3_166 dX7_plays_19 rfl))) (dt_Sb (dt_Sl 22 (sn_ldIn rfl dX7_plays_22 rfl)) (dt_Sb (dt_Sl 23 (sn_ic ⟨by decide, by decide⟩ dX7_plays_23 rfl)) (dt_Sl 24 (sn_iast dX7_plays_24 rfl))))) (dt_Sb (dt_Sb (dt_Sl 25 (sn_ldAn rfl dX7_plays_25 rfl)) (dt_Sb (dt_Sl 26 (sn_getf rfl ffX7 (by decide) wq_3_167 dX7_plays_26 rfl)) (dt_Sl 29 (sn_ldIn rfl dX7_plays_29 rfl)))) (dt_Sb (dt_Sl 30 (sn_ic ⟨by decide, by decide⟩ dX7_plays_30 rfl)) (dt_Sb (dt_Sl 31 (sn_iast dX7_plays_31 rfl)) (dt_Sl 32 (sn_ldAn rfl dX7_plays_32 rfl))))))) (dt_Sb (dt_Sb (dt_Sb (dt_Sb (dt_Sl 33 (sn_getf rfl ffX7 (by decide) wq_3_168 dX7_plays_33 rfl)) (dt_Sl 36 (sn_ldIn rfl dX7_plays_36 rfl))) (dt_Sb (dt_Sl 37 (sn_ic ⟨by decide, by decide⟩ dX7_plays_37 rfl)) (dt_Sb (dt_Sl 38 (sn_irem dX7_plays_38 rfl)) (dt_Sl 39 (sn_ic ⟨by decide, by decide⟩ dX7_plays_39 rfl))))) (dt_Sb (dt_Sb (dt_Sl 40 (sn_iast dX7_plays_40 rfl)) (dt_Sb (dt_Sl 41 (sn_iinc (by decide) dX7_plays_41 rfl)) (dt_Sl 44 (sn_goto dX7_plays_44 (by decide))))) (dt_Sb (dt_Sl 47 (sn_ic ⟨by decide, by decide⟩ dX7_plays_47 rfl)) (dt_Sb (dt_Sl 48 (sn_stIn rfl (by decide) dX7_plays_48 rfl)) (dt_Sl 49 (sn_ldIn rfl dX7_plays_49 rfl)))))) (dt_Sb (dt_Sb (dt_Sb (dt_Sl 50 (sn_ic ⟨by decide, by decide⟩ dX7_plays_50 rfl)) (dt_Sb (dt_Sl 51 (sn_icmpge dX7_plays_51 (by decide) rfl)) (dt_Sl 54 (sn_ldAn rfl dX7_plays_54 rfl)))) (dt_Sb (dt_Sl 55 (sn_ldIn rfl dX7_plays_55 rfl)) (dt_Sb (dt_Sl 56 (sn_ldIn rfl dX7_plays_56 rfl)) (dt_Sl 57 (sn_callV rfl ffX7 nnX7_canDo rfl wq_4_183 wq_4_185 wq_0_52 dX7_plays_57 rfl))))) (dt_Sb (dt_Sb (dt_Sl 60 (sn_ifeq dX7_plays_60 (by decide) rfl)) (dt_Sb (dt_Sl 63 (sn_ldAn rfl dX7_plays_63 rfl)) (dt_Sl 64 (sn_ldIn rfl dX7_plays_64 rfl)))) (dt_Sb (dt_Sl 65 (sn_ldIn rfl dX7_plays_65 rfl)) (dt_Sb (dt_Sl 66 (sn_callV rfl ffX7 nnX7_doNext rfl wq_4_190 wq_4_192 wq_0_53 dX7_plays_66 rfl)) (dt_Sl 69 (sn_ic ⟨by decide, by decide⟩ dX7_plays_69 rfl)))))))) (dt_Sb (dt_Sb (dt_Sb (dt_Sb (dt_Sb (dt_Sl 70 (sn_stIn rfl (by decide) dX7_plays_70 rfl)) (dt_Sl 71 (sn_goto dX7_plays_71 (by decide)))) (dt_Sb (dt_Sl 74 (sn_iinc (by decide) dX7_plays_74 rfl)) (dt_Sb (dt_Sl 77 (sn_goto dX7_plays_77 (by decide))) (dt_Sl 80 (sn_ldAn rfl dX7_plays_80 rfl))))) (dt_Sb (dt_Sb (dt_Sl 81 (sn_getf rfl ffX7 (by decide) wq_3_169 dX7_plays_81 rfl)) (dt_Sb (dt_Sl 84 (sn_ic ⟨by decide, by decide⟩ dX7_plays_84 rfl)) (dt_Sl 85 (sn_ldAn rfl dX7_plays_85 rfl)))) (dt_Sb (dt_Sl 86 (sn_getf rfl ffX7 (by decide) wq_3_170 dX7_plays_86 rfl)) (dt_Sb (dt_Sl 89 (sn_imul dX7_plays_89 rfl)) (dt_Sl 90 (sn_icmpne dX7_plays_90 (by decide) rfl)))))) (dt_Sb (dt_Sb (dt_Sb (dt_Sl 93 (sn_ic ⟨by decide, by decide⟩ dX7_plays_93 rfl)) (dt_Sl 94 (sn_goto dX7_plays_94 (by decide)))) (dt_Sb (dt_Sl 97 (sn_ic ⟨by decide, by decide⟩ dX7_plays_97 rfl)) (dt_Sb (dt_Sl 98 (sn_stIn rfl (by decide) dX7_plays_98 rfl)) (dt_Sl 99 (sn_ic ⟨by decide, by decide⟩ dX7_plays_99 rfl))))) (dt_Sb (dt_Sb (dt_Sl 100 (sn_stI (by decide) dX7_plays_100 rfl)) (dt_Sb (dt_Sl 102 (sn_ldI dX7_plays_102 rfl)) (dt_Sl 104 (sn_ic ⟨by decide, by decide⟩ dX7_plays_104 rfl)))) (dt_Sb (dt_Sl 105 (sn_icmpge dX7_plays_105 (by decide) rfl)) (dt_Sb (dt_Sl 108 (sn_ldIn rfl dX7_plays_108 rfl)) (dt_Sl 109 (sn_ifeq dX7_plays_109 (by decide) rfl))))))) (dt_Sb (dt_Sb (dt_Sb (dt_Sb (dt_Sl 112 (sn_ldAn rfl dX7_plays_112 rfl)) (dt_Sl 113 (sn_getf rfl ffX7 (by decide) wq_3_168 dX7_plays_113 rfl))) (dt_Sb (dt_Sl 116 (sn_ldI dX7_plays_116 rfl)) (dt_Sb (dt_Sl 118 (sn_iald dX7_plays_118 rfl)) (dt_Sl 119 (sn_ldAn rfl dX7_plays_119 rfl))))) (dt_Sb (dt_Sb (dt_Sl 120 (sn_getf rfl ffX7 (by decide) wq_3_143 dX7_plays_120 rfl)) (dt_Sb (dt_Sl 123 (sn_ic ⟨by decide, by decide⟩ dX7_plays_123 rfl)) (dt_Sl 124 (sn_ldIn rfl dX7_plays_124 rfl)))) (dt_Sb (dt_Sl 125 (sn_ldI dX7_plays_125 rfl)) (dt_Sb (dt_Sl 127 (sn_callS rfl nnX7_talkOf wq_4_187 wq_4_188 dX7_plays_127 rfl)) (dt_Sl 130 (sn_imul dX7_plays_130 rfl)))))) (dt_Sb (dt_Sb (dt_Sb (dt_Sl 131 (sn_ldI dX7_plays_131 rfl)) (dt_Sb (dt_Sl 133 (sn_iadd dX7_plays_133 rfl)) (dt_Sl 134 (sn_iald dX7_plays_134 rfl)))) (dt_Sb (dt_Sl 135 (sn_icmpne dX7_plays_135 (by decide) rfl)) (dt_Sb (dt_Sl 138 (sn_ic ⟨by decide, by decide⟩ dX7_plays_138 rfl)) (dt_Sl 139 (sn_goto dX7_plays_139 (by decide)))))) (dt_Sb (dt_Sb (dt_Sl 142 (sn_ic ⟨by decide, by decide⟩ dX7_plays_142 rfl)) (dt_Sb (dt_Sl 143 (sn_stIn rfl (by decide) dX7_plays_143 rfl)) (dt_Sl 144 (sn_iinc (by decide) dX7_plays_144 rfl)))) (dt_Sb (dt_Sl 147 (sn_goto dX7_plays_147 (by decide))) (dt_Sb (dt_Sl 150 (sn_ldIn rfl dX7_plays_150 rfl)) (dt_Sl 151 (sn_zret rfl dX7_plays_151))))))))
theorem dX7_play_0 : decode cX7_play 0 = .ok (.iload_n 1, 1) := by decide +kernel
theorem dX7_play_1 : decode cX7_play 1 = .ok (.i2l, 1) := by decide +kernel
theorem dX7_play_2 : decode cX7_play 2 = .ok (.lconst 0, 1) := by decide +kernel
theorem dX7_play_3 : decode cX7_play 3 = .ok (.ldc2_w 93, 3) := by decide +kernel
theorem dX7_play_6 : decode cX7_play 6 = .ok (.invokestatic 83, 3) := by decide +kernel
theorem dX7_play_9 : decode cX7_play 9 = .ok (.ifCond .eq 15, 3) := by decide +kernel
theorem dX7_play_12 : decode cX7_play 12 = .ok (.iload_n 2, 1) := by decide +kernel
theorem dX7_play_13 : decode cX7_play 13 = .ok (.i2l, 1) := by decide +kernel
theorem dX7_play_14 : decode cX7_play 14 = .ok (.lconst 0, 1) := by decide +kernel
theorem dX7_play_15 : decode cX7_play 15 = .ok (.ldc2_w 167, 3) := by decide +kernel
theorem dX7_play_18 : decode cX7_play 18 = .ok (.invokestatic 83, 3) := by decide +kernel
theorem dX7_play_21 : decode cX7_play 21 = .ok (.ifCond .ne 5, 3) := by decide +kernel
theorem dX7_play_24 : decode cX7_play 24 = .ok (.iconst (-1), 1) := by decide +kernel
theorem dX7_play_25 : decode cX7_play 25 = .ok (.ireturn, 1) := by decide +kernel
theorem dX7_play_26 : decode cX7_play 26 = .ok (.aload_n 0, 1) := by decide +kernel
theorem dX7_play_27 : decode cX7_play 27 = .ok (.iload_n 1, 1) := by decide +kernel
theorem dX7_play_28 : decode cX7_play 28 = .ok (.invokevirtual 249, 3) := by decide +kernel
theorem dX7_play_31 : decode cX7_play 31 = .ok (.istore_n 3, 1) := by decide +kernel
theorem dX7_play_32 : decode cX7_play 32 = .ok (.iload_n 2, 1) := by decide +kernel
theorem dX7_play_33 : decode cX7_play 33 = .ok (.ifCond .ne 10, 3) := by decide +kernel
theorem dX7_play_36 : decode cX7_play 36 = .ok (.aload_n 0, 1) := by decide +kernel
theorem dX7_play_37 : decode cX7_play 37 = .ok (.getfield 240, 3) := by decide +kernel
theorem dX7_play_40 : decode cX7_play 40 = .ok (.goto 31, 3) := by decide +kernel
theorem dX7_play_43 : decode cX7_play 43 = .ok (.iload_n 2, 1) := by decide +kernel
theorem dX7_play_44 : decode cX7_play 44 = .ok (.iconst 1, 1) := by decide +kernel
theorem dX7_play_45 : decode cX7_play 45 = .ok (.if_icmp .ne 15, 3) := by decide +kernel
theorem dX7_play_48 : decode cX7_play 48 = .ok (.iload_n 3, 1) := by decide +kernel
theorem dX7_play_49 : decode cX7_play 49 = .ok (.ifCond .eq 7, 3) := by decide +kernel
theorem dX7_play_52 : decode cX7_play 52 = .ok (.iconst 1, 1) := by decide +kernel
theorem dX7_play_53 : decode cX7_play 53 = .ok (.goto 18, 3) := by decide +kernel
theorem dX7_play_56 : decode cX7_play 56 = .ok (.iconst 0, 1) := by decide +kernel
theorem dX7_play_57 : decode cX7_play 57 = .ok (.goto 14, 3) := by decide +kernel
theorem dX7_play_60 : decode cX7_play 60 = .ok (.iconst 2, 1) := by decide +kernel
theorem dX7_play_61 : decode cX7_play 61 = .ok (.aload_n 0, 1) := by decide +kernel
theorem dX7_play_62 : decode cX7_play 62 = .ok (.getfield 237, 3) := by decide +kernel
theorem dX7_play_65 : decode cX7_play 65 = .ok (.imul, 1) := by decide +kernel
theorem dX7_play_66 : decode cX7_play 66 = .ok (.aload_n 0, 1) := by decide +kernel
theorem dX7_play_67 : decode cX7_play 67 = .ok (.getfield 240, 3) := by decide +kernel
theorem dX7_play_70 : decode cX7_play 70 = .ok (.isub, 1) := by decide +kernel
theorem dX7_play_71 : decode cX7_play 71 = .ok (.ireturn, 1) := by decide +kernel
def tbX7_play (pc : Nat) : dt_T := cond (Nat.ble pc 33) (cond (Nat.ble pc 15) (cond (Nat.ble pc 6) (cond (Nat.ble pc 1) (cond (Nat.ble pc 0) (cond (Nat.beq pc 0) (tc_ldI 1 1) tc_no) (cond (Nat.beq pc 1) (tc_i2l 2) tc_no)) (cond (Nat.ble pc 2) (cond (Nat.beq pc 2) (tc_lc 0 3) tc_no) (cond (Nat.ble pc 3) (cond (Nat.beq pc 3) (tc_lc 255 6) tc_no) (cond (Nat.beq pc 6) (tc_callS mX7_in 3 9) tc_no)))) (cond (Nat.ble pc 12) (cond (Nat.ble pc 9) (cond (Nat.beq pc 9) (tc_ifeq 24 12) tc_no) (cond (Nat.beq pc 12) (tc_ldI 2 13) tc_no)) (cond (Nat.ble pc 13) (cond (Nat.beq pc 13) (tc_i2l 14) tc_no) (cond (Nat.ble pc 14) (cond (Nat.beq pc 14) (tc_lc 0 15) tc_no) (cond (Nat.beq pc 15) (tc_lc 2 18) tc_no))))) (cond (Nat.ble pc 26) (cond (Nat.ble pc 21) (cond (Nat.ble pc 18) (cond (Nat.beq pc 18) (tc_callS mX7_in 3 21) tc_no) (cond (Nat.beq pc 21) (tc_ifne 26 24) tc_no)) (cond (Nat.ble pc 24) (cond (Nat.beq pc 24) (tc_ic (-1) 25) tc_no) (cond (Nat.ble pc 25) (cond (Nat.beq pc 25) (tc_iret) tc_no) (cond (Nat.beq pc 26) (tc_ldA 0 27) tc_no)))) (cond (Nat.ble pc 28) (cond (Nat.ble pc 27) (cond (Nat.beq pc 27) (tc_ldI 1 28) tc_no) (cond (Nat.beq pc 28) (tc_callV 7 mX7_plays 1 31) tc_no)) (cond (Nat.ble pc 31) (cond (Nat.beq pc 31) (tc_stI 3 32) tc_no) (cond (Nat.ble pc 32) (cond (Nat.beq pc 32) (tc_ldI 2 33) tc_no) (cond (Nat.beq pc 33) (tc_ifne 43 36) tc_no)))))) (cond (Nat.ble pc 53) (cond (Nat.ble pc 44) (cond (Nat.ble pc 37) (cond (Nat.ble pc 36) (cond (Nat.beq pc 36) (tc_ldA 0 37) tc_no) (cond (Nat.beq pc 37) (tc_getf 7 32 40) tc_no)) (cond (Nat.ble pc 40) (cond (Nat.beq pc 40) (tc_goto 71) tc_no) (cond (Nat.ble pc 43) (cond (Nat.beq pc 43) (tc_ldI 2 44) tc_no) (cond (Nat.beq pc 44) (tc_ic 1 45) tc_no)))) (cond (Nat.ble pc 48) (cond (Nat.ble pc 45) (cond (Nat.beq pc 45) (tc_icmpne 60 48) tc_no) (cond (Nat.beq pc 48) (tc_ldI 3 49) tc_no)) (cond (Nat.ble pc 49) (cond (Nat.beq pc 49) (tc_ifeq 56 52) tc_no) (cond (Nat.ble pc 52) (cond (Nat.beq pc 52) (tc_ic 1 53) tc_no) (cond (Nat.beq pc 53) (tc_goto 71) tc_no))))) (cond (Nat.ble pc 62) (cond (Nat.ble pc 57) (cond (Nat.ble pc 56) (cond (Nat.beq pc 56) (tc_ic 0 57) tc_no) (cond (Nat.beq pc 57) (tc_goto 71) tc_no)) (cond (Nat.ble pc 60) (cond (Nat.beq pc 60) (tc_ic 2 61) tc_no) (cond (Nat.ble pc 61) (cond (Nat.beq pc 61) (tc_ldA 0 62) tc_no) (cond (Nat.beq pc 62) (tc_getf 7 33 65) tc_no)))) (cond (Nat.ble pc 66) (cond (Nat.ble pc 65) (cond (Nat.beq pc 65) (tc_imul 66) tc_no) (cond (Nat.beq pc 66) (tc_ldA 0 67) tc_no)) (cond (Nat.ble pc 67) (cond (Nat.beq pc 67) (tc_getf 7 32 70) tc_no) (cond (Nat.ble pc 70) (cond (Nat.beq pc 70) (tc_isub 71) tc_no) (cond (Nat.beq pc 71) (tc_iret) tc_no))))))
theorem okX7_play : ∀ pc, dt_S mX7_play (tbX7_play pc) pc := by
  intro pc
  unfold tbX7_play
  exact dt_Sb (dt_Sb (dt_Sb (dt_Sb (dt_Sb (dt_Sl 0 (sn_ldIn rfl dX7_play_0 rfl)) (dt_Sl 1 (sn_i2l dX7_play_1 rfl))) (dt_Sb (dt_Sl 2 (sn_lc (k := 0) ⟨by decide, by decide⟩ rfl dX7_play_2 rfl)) (dt_Sb (dt_Sl 3 (sn_ldc2 rfl ⟨by decide, by decide⟩ wq_4_11 dX7_play_3 rfl)) (dt_Sl 6 (sn_callS rfl nnX7_in wq_4_8 wq_4_9 dX7_play_6 rfl))))) (dt_Sb (dt_Sb (dt_Sl 9 (sn_ifeq dX7_play_9 (by decide) rfl)) (dt_Sl 12 (sn_ldIn rfl dX7_play_12 rfl))) (dt_Sb (dt_Sl 13 (sn_i2l dX7_play_13 rfl)) (dt_Sb (dt_Sl 14 (sn_lc (k := 0) ⟨by decide, by decide⟩ rfl dX7_play_14 rfl)) (dt_Sl 15 (sn_ldc2 rfl ⟨by decide, by decide⟩ wq_4_69 dX7_play_15 rfl)))))) (dt_Sb (dt_Sb (dt_Sb (dt_Sl 18 (sn_callS rfl nnX7_in wq_4_8 wq_4_9 dX7_play_18 rfl)) (dt_Sl 21 (sn_ifne dX7_play_21 (by decide) rfl))) (dt_Sb (dt_Sl 24 (sn_ic ⟨by decide, by decide⟩ dX7_play_24 rfl)) (dt_Sb (dt_Sl 25 (sn_iret rfl dX7_play_25)) (dt_Sl 26 (sn_ldAn rfl dX7_play_26 rfl))))) (dt_Sb (dt_Sb (dt_Sl 27 (sn_ldIn rfl dX7_play_27 rfl)) (dt_Sl 28 (sn_callV rfl ffX7 nnX7_plays rfl wq_4_179 wq_4_181 wq_0_51 dX7_play_28 rfl))) (dt_Sb (dt_Sl 31 (sn_stIn rfl (by decide) dX7_play_31 rfl)) (dt_Sb (dt_Sl 32 (sn_ldIn rfl dX7_play_32 rfl)) (dt_Sl 33 (sn_ifne dX7_play_33 (by decide) rfl))))))) (dt_Sb (dt_Sb (dt_Sb (dt_Sb (dt_Sl 36 (sn_ldAn rfl dX7_play_36 rfl)) (dt_Sl 37 (sn_getf rfl ffX7 (by decide) wq_3_169 dX7_play_37 rfl))) (dt_Sb (dt_Sl 40 (sn_goto dX7_play_40 (by decide))) (dt_Sb (dt_Sl 43 (sn_ldIn rfl dX7_play_43 rfl)) (dt_Sl 44 (sn_ic ⟨by decide, by decide⟩ dX7_play_44 rfl))))) (dt_Sb (dt_Sb (dt_Sl 45 (sn_icmpne dX7_play_45 (by decide) rfl)) (dt_Sl 48 (sn_ldIn rfl dX7_play_48 rfl))) (dt_Sb (dt_Sl 49 (sn_ifeq dX7_play_49 (by decide) rfl)) (dt_Sb (dt_Sl 52 (sn_ic ⟨by decide, by decide⟩ dX7_play_52 rfl)) (dt_Sl 53 (sn_goto dX7_play_53 (by decide))))))) (dt_Sb (dt_Sb (dt_Sb (dt_Sl 56 (sn_ic ⟨by decide, by decide⟩ dX7_play_56 rfl)) (dt_Sl 57 (sn_goto dX7_play_57 (by decide)))) (dt_Sb (dt_Sl 60 (sn_ic ⟨by decide, by decide⟩ dX7_play_60 rfl)) (dt_Sb (dt_Sl 61 (sn_ldAn rfl dX7_play_61 rfl)) (dt_Sl 62 (sn_getf rfl ffX7 (by decide) wq_3_170 dX7_play_62 rfl))))) (dt_Sb (dt_Sb (dt_Sl 65 (sn_imul dX7_play_65 rfl)) (dt_Sl 66 (sn_ldAn rfl dX7_play_66 rfl))) (dt_Sb (dt_Sl 67 (sn_getf rfl ffX7 (by decide) wq_3_169 dX7_play_67 rfl)) (dt_Sb (dt_Sl 70 (sn_isub dX7_play_70 rfl)) (dt_Sl 71 (sn_iret rfl dX7_play_71)))))))
theorem dX7_isFirst_0 : decode cX7_isFirst 0 = .ok (.iconst 1, 1) := by decide +kernel
theorem dX7_isFirst_1 : decode cX7_isFirst 1 = .ok (.istore_n 3, 1) := by decide +kernel
theorem dX7_isFirst_2 : decode cX7_isFirst 2 = .ok (.iconst 0, 1) := by decide +kernel
theorem dX7_isFirst_3 : decode cX7_isFirst 3 = .ok (.istore 4, 2) := by decide +kernel
theorem dX7_isFirst_5 : decode cX7_isFirst 5 = .ok (.iload 4, 2) := by decide +kernel
theorem dX7_isFirst_7 : decode cX7_isFirst 7 = .ok (.iconst 4, 1) := by decide +kernel
theorem dX7_isFirst_8 : decode cX7_isFirst 8 = .ok (.if_icmp .ge 76, 3) := by decide +kernel
theorem dX7_isFirst_11 : decode cX7_isFirst 11 = .ok (.iload_n 3, 1) := by decide +kernel
theorem dX7_isFirst_12 : decode cX7_isFirst 12 = .ok (.ifCond .eq 72, 3) := by decide +kernel
theorem dX7_isFirst_15 : decode cX7_isFirst 15 = .ok (.iload_n 1, 1) := by decide +kernel
theorem dX7_isFirst_16 : decode cX7_isFirst 16 = .ok (.iload 4, 2) := by decide +kernel
theorem dX7_isFirst_18 : decode cX7_isFirst 18 = .ok (.invokestatic 234, 3) := by decide +kernel
theorem dX7_isFirst_21 : decode cX7_isFirst 21 = .ok (.istore 5, 2) := by decide +kernel
theorem dX7_isFirst_23 : decode cX7_isFirst 23 = .ok (.iload_n 2, 1) := by decide +kernel
theorem dX7_isFirst_24 : decode cX7_isFirst 24 = .ok (.iload 5, 2) := by decide +kernel
theorem dX7_isFirst_26 : decode cX7_isFirst 26 = .ok (.invokestatic 252, 3) := by decide +kernel
theorem dX7_isFirst_29 : decode cX7_isFirst 29 = .ok (.istore_n 3, 1) := by decide +kernel
theorem dX7_isFirst_30 : decode cX7_isFirst 30 = .ok (.iconst 0, 1) := by decide +kernel
theorem dX7_isFirst_31 : decode cX7_isFirst 31 = .ok (.istore 6, 2) := by decide +kernel
theorem dX7_isFirst_33 : decode cX7_isFirst 33 = .ok (.iload 6, 2) := by decide +kernel
theorem dX7_isFirst_35 : decode cX7_isFirst 35 = .ok (.iload 5, 2) := by decide +kernel
theorem dX7_isFirst_37 : decode cX7_isFirst 37 = .ok (.if_icmp .ge 41, 3) := by decide +kernel
theorem dX7_isFirst_40 : decode cX7_isFirst 40 = .ok (.iload_n 3, 1) := by decide +kernel
theorem dX7_isFirst_41 : decode cX7_isFirst 41 = .ok (.ifCond .eq 37, 3) := by decide +kernel
theorem dX7_isFirst_44 : decode cX7_isFirst 44 = .ok (.iload_n 2, 1) := by decide +kernel
theorem dX7_isFirst_45 : decode cX7_isFirst 45 = .ok (.iload 6, 2) := by decide +kernel
theorem dX7_isFirst_47 : decode cX7_isFirst 47 = .ok (.invokestatic 252, 3) := by decide +kernel
theorem dX7_isFirst_50 : decode cX7_isFirst 50 = .ok (.ifCond .eq 16, 3) := by decide +kernel
theorem dX7_isFirst_53 : decode cX7_isFirst 53 = .ok (.aload_n 0, 1) := by decide +kernel
theorem dX7_isFirst_54 : decode cX7_isFirst 54 = .ok (.iload 5, 2) := by decide +kernel
theorem dX7_isFirst_56 : decode cX7_isFirst 56 = .ok (.iload 6, 2) := by decide +kernel
theorem dX7_isFirst_58 : decode cX7_isFirst 58 = .ok (.iload 4, 2) := by decide +kernel
theorem dX7_isFirst_60 : decode cX7_isFirst 60 = .ok (.invokevirtual 225, 3) := by decide +kernel
theorem dX7_isFirst_63 : decode cX7_isFirst 63 = .ok (.ifCond .ne 7, 3) := by decide +kernel
theorem dX7_isFirst_66 : decode cX7_isFirst 66 = .ok (.iconst 1, 1) := by decide +kernel
theorem dX7_isFirst_67 : decode cX7_isFirst 67 = .ok (.goto 4, 3) := by decide +kernel
theorem dX7_isFirst_70 : decode cX7_isFirst 70 = .ok (.iconst 0, 1) := by decide +kernel
theorem dX7_isFirst_71 : decode cX7_isFirst 71 = .ok (.istore_n 3, 1) := by decide +kernel
theorem dX7_isFirst_72 : decode cX7_isFirst 72 = .ok (.iinc 6 1, 3) := by decide +kernel
theorem dX7_isFirst_75 : decode cX7_isFirst 75 = .ok (.goto (-42), 3) := by decide +kernel
theorem dX7_isFirst_78 : decode cX7_isFirst 78 = .ok (.iinc 4 1, 3) := by decide +kernel
theorem dX7_isFirst_81 : decode cX7_isFirst 81 = .ok (.goto (-76), 3) := by decide +kernel
theorem dX7_isFirst_84 : decode cX7_isFirst 84 = .ok (.iload_n 3, 1) := by decide +kernel
theorem dX7_isFirst_85 : decode cX7_isFirst 85 = .ok (.ireturn, 1) := by decide +kernel
def tbX7_isFirst (pc : Nat) : dt_T := cond (Nat.ble pc 37) (cond (Nat.ble pc 16) (cond (Nat.ble pc 5) (cond (Nat.ble pc 1) (cond (Nat.ble pc 0) (cond (Nat.beq pc 0) (tc_ic 1 1) tc_no) (cond (Nat.beq pc 1) (tc_stI 3 2) tc_no)) (cond (Nat.ble pc 2) (cond (Nat.beq pc 2) (tc_ic 0 3) tc_no) (cond (Nat.ble pc 3) (cond (Nat.beq pc 3) (tc_stI 4 5) tc_no) (cond (Nat.beq pc 5) (tc_ldI 4 7) tc_no)))) (cond (Nat.ble pc 11) (cond (Nat.ble pc 7) (cond (Nat.beq pc 7) (tc_ic 4 8) tc_no) (cond (Nat.ble pc 8) (cond (Nat.beq pc 8) (tc_icmpge 84 11) tc_no) (cond (Nat.beq pc 11) (tc_ldI 3 12) tc_no))) (cond (Nat.ble pc 12) (cond (Nat.beq pc 12) (tc_ifeq 84 15) tc_no) (cond (Nat.ble pc 15) (cond (Nat.beq pc 15) (tc_ldI 1 16) tc_no) (cond (Nat.beq pc 16) (tc_ldI 4 18) tc_no))))) (cond (Nat.ble pc 26) (cond (Nat.ble pc 21) (cond (Nat.ble pc 18) (cond (Nat.beq pc 18) (tc_callS mX7_talkOf 2 21) tc_no) (cond (Nat.beq pc 21) (tc_stI 5 23) tc_no)) (cond (Nat.ble pc 23) (cond (Nat.beq pc 23) (tc_ldI 2 24) tc_no) (cond (Nat.ble pc 24) (cond (Nat.beq pc 24) (tc_ldI 5 26) tc_no) (cond (Nat.beq pc 26) (tc_callS mX7_hasBit 2 29) tc_no)))) (cond (Nat.ble pc 31) (cond (Nat.ble pc 29) (cond (Nat.beq pc 29) (tc_stI 3 30) tc_no) (cond (Nat.ble pc 30) (cond (Nat.beq pc 30) (tc_ic 0 31) tc_no) (cond (Nat.beq pc 31) (tc_stI 6 33) tc_no))) (cond (Nat.ble pc 33) (cond (Nat.beq pc 33) (tc_ldI 6 35) tc_no) (cond (Nat.ble pc 35) (cond (Nat.beq pc 35) (tc_ldI 5 37) tc_no) (cond (Nat.beq pc 37) (tc_icmpge 78 40) tc_no)))))) (cond (Nat.ble pc 60) (cond (Nat.ble pc 47) (cond (Nat.ble pc 41) (cond (Nat.ble pc 40) (cond (Nat.beq pc 40) (tc_ldI 3 41) tc_no) (cond (Nat.beq pc 41) (tc_ifeq 78 44) tc_no)) (cond (Nat.ble pc 44) (cond (Nat.beq pc 44) (tc_ldI 2 45) tc_no) (cond (Nat.ble pc 45) (cond (Nat.beq pc 45) (tc_ldI 6 47) tc_no) (cond (Nat.beq pc 47) (tc_callS mX7_hasBit 2 50) tc_no)))) (cond (Nat.ble pc 54) (cond (Nat.ble pc 50) (cond (Nat.beq pc 50) (tc_ifeq 66 53) tc_no) (cond (Nat.ble pc 53) (cond (Nat.beq pc 53) (tc_ldA 0 54) tc_no) (cond (Nat.beq pc 54) (tc_ldI 5 56) tc_no))) (cond (Nat.ble pc 56) (cond (Nat.beq pc 56) (tc_ldI 6 58) tc_no) (cond (Nat.ble pc 58) (cond (Nat.beq pc 58) (tc_ldI 4 60) tc_no) (cond (Nat.beq pc 60) (tc_callV 7 mX7_isSameLine 3 63) tc_no))))) (cond (Nat.ble pc 71) (cond (Nat.ble pc 66) (cond (Nat.ble pc 63) (cond (Nat.beq pc 63) (tc_ifne 70 66) tc_no) (cond (Nat.beq pc 66) (tc_ic 1 67) tc_no)) (cond (Nat.ble pc 67) (cond (Nat.beq pc 67) (tc_goto 71) tc_no) (cond (Nat.ble pc 70) (cond (Nat.beq pc 70) (tc_ic 0 71) tc_no) (cond (Nat.beq pc 71) (tc_stI 3 72) tc_no)))) (cond (Nat.ble pc 78) (cond (Nat.ble pc 72) (cond (Nat.beq pc 72) (tc_iinc 6 1 75) tc_no) (cond (Nat.ble pc 75) (cond (Nat.beq pc 75) (tc_goto 33) tc_no) (cond (Nat.beq pc 78) (tc_iinc 4 1 81) tc_no))) (cond (Nat.ble pc 81) (cond (Nat.beq pc 81) (tc_goto 5) tc_no) (cond (Nat.ble pc 84) (cond (Nat.beq pc 84) (tc_ldI 3 85) tc_no) (cond (Nat.beq pc 85) (tc_zret) tc_no))))))
theorem okX7_isFirst : ∀ pc, dt_S mX7_isFirst (tbX7_isFirst pc) pc := by
  intro pc
  unfold tbX7_isFirst
  exact dt_Sb (dt_Sb (dt_Sb (dt_Sb (dt_Sb (dt_Sl 0 (sn_ic ⟨by decide, by decide⟩ dX7_isFirst_0 rfl)) (dt_Sl 1 (sn_stIn rfl (by decide) dX7_isFirst_1 rfl))) (dt_Sb (dt_Sl 2 (sn_ic ⟨by decide, by decide⟩ dX7_isFirst_2 rfl)) (dt_Sb (dt_Sl 3 (sn_stI (by decide) dX7_isFirst_3 rfl)) (dt_Sl 5 (sn_ldI dX7_isFirst_5 rfl))))) (dt_Sb (dt_Sb (dt_Sl 7 (sn_ic ⟨by decide, by decide⟩ dX7_isFirst_7 rfl)) (dt_Sb (dt_Sl 8 (sn_icmpge dX7_isFirst_8 (by decide) rfl)) (dt_Sl 11 (sn_ldIn rfl dX7_isFirst_11 rfl)))) (dt_Sb (dt_Sl 12 (sn_ifeq dX7_isFirst_12 (by decide) rfl)) (dt_Sb (dt_Sl 15 (sn_ldIn rfl dX7_isFirst_15 rfl)) (dt_Sl 16 (sn_ldI dX7_isFirst_16 rfl)))))) (dt_Sb (dt_Sb (dt_Sb (dt_Sl 18 (sn_callS rfl nnX7_talkOf wq_4_187 wq_4_188 dX7_isFirst_18 rfl)) (dt_Sl 21 (sn_stI (by decide) dX7_isFirst_21 rfl))) (dt_Sb (dt_Sl 23 (sn_ldIn rfl dX7_isFirst_23 rfl)) (dt_Sb (dt_Sl 24 (sn_ldI dX7_isFirst_24 rfl)) (dt_Sl 26 (sn_callS rfl nnX7_hasBit wq_4_203 wq_4_204 dX7_isFirst_26 rfl))))) (dt_Sb (dt_Sb (dt_Sl 29 (sn_stIn rfl (by decide) dX7_isFirst_29 rfl)) (dt_Sb (dt_Sl 30 (sn_ic ⟨by decide, by decide⟩ dX7_isFirst_30 rfl)) (dt_Sl 31 (sn_stI (by decide) dX7_isFirst_31 rfl)))) (dt_Sb (dt_Sl 33 (sn_ldI dX7_isFirst_33 rfl)) (dt_Sb (dt_Sl 35 (sn_ldI dX7_isFirst_35 rfl)) (dt_Sl 37 (sn_icmpge dX7_isFirst_37 (by decide) rfl))))))) (dt_Sb (dt_Sb (dt_Sb (dt_Sb (dt_Sl 40 (sn_ldIn rfl dX7_isFirst_40 rfl)) (dt_Sl 41 (sn_ifeq dX7_isFirst_41 (by decide) rfl))) (dt_Sb (dt_Sl 44 (sn_ldIn rfl dX7_isFirst_44 rfl)) (dt_Sb (dt_Sl 45 (sn_ldI dX7_isFirst_45 rfl)) (dt_Sl 47 (sn_callS rfl nnX7_hasBit wq_4_203 wq_4_204 dX7_isFirst_47 rfl))))) (dt_Sb (dt_Sb (dt_Sl 50 (sn_ifeq dX7_isFirst_50 (by decide) rfl)) (dt_Sb (dt_Sl 53 (sn_ldAn rfl dX7_isFirst_53 rfl)) (dt_Sl 54 (sn_ldI dX7_isFirst_54 rfl)))) (dt_Sb (dt_Sl 56 (sn_ldI dX7_isFirst_56 rfl)) (dt_Sb (dt_Sl 58 (sn_ldI dX7_isFirst_58 rfl)) (dt_Sl 60 (sn_callV rfl ffX7 nnX7_isSameLine rfl wq_4_163 wq_4_165 wq_0_49 dX7_isFirst_60 rfl)))))) (dt_Sb (dt_Sb (dt_Sb (dt_Sl 63 (sn_ifne dX7_isFirst_63 (by decide) rfl)) (dt_Sl 66 (sn_ic ⟨by decide, by decide⟩ dX7_isFirst_66 rfl))) (dt_Sb (dt_Sl 67 (sn_goto dX7_isFirst_67 (by decide))) (dt_Sb (dt_Sl 70 (sn_ic ⟨by decide, by decide⟩ dX7_isFirst_70 rfl)) (dt_Sl 71 (sn_stIn rfl (by decide) dX7_isFirst_71 rfl))))) (dt_Sb (dt_Sb (dt_Sl 72 (sn_iinc (by decide) dX7_isFirst_72 rfl)) (dt_Sb (dt_Sl 75 (sn_goto dX7_isFirst_75 (by decide))) (dt_Sl 78 (sn_iinc (by decide) dX7_isFirst_78 rfl)))) (dt_Sb (dt_Sl 81 (sn_goto dX7_isFirst_81 (by decide))) (dt_Sb (dt_Sl 84 (sn_ldIn rfl dX7_isFirst_84 rfl)) (dt_Sl 85 (sn_zret rfl dX7_isFirst_85)))))))
theorem dX7_isOfOne_0 : decode cX7_isOfOne 0 = .ok (.iconst 0, 1) := by decide +kernel
theorem dX7_isOfOne_1 : decode cX7_isOfOne 1 = .ok (.istore_n 3, 1) := by decide +kernel
theorem dX7_isOfOne_2 : decode cX7_isOfOne 2 = .ok (.iconst 0, 1) := by decide +kernel
theorem dX7_isOfOne_3 : decode cX7_isOfOne 3 = .ok (.istore 4, 2) := by decide +kernel
theorem dX7_isOfOne_5 : decode cX7_isOfOne 5 = .ok (.iload 4, 2) := by decide +kernel
theorem dX7_isOfOne_7 : decode cX7_isOfOne 7 = .ok (.iconst 4, 1) := by decide +kernel
theorem dX7_isOfOne_8 : decode cX7_isOfOne 8 = .ok (.if_icmp .ge 68, 3) := by decide +kernel
theorem dX7_isOfOne_11 : decode cX7_isOfOne 11 = .ok (.iload_n 2, 1) := by decide +kernel
theorem dX7_isOfOne_12 : decode cX7_isOfOne 12 = .ok (.iload 4, 2) := by decide +kernel
theorem dX7_isOfOne_14 : decode cX7_isOfOne 14 = .ok (.invokestatic 252, 3) := by decide +kernel
theorem dX7_isOfOne_17 : decode cX7_isOfOne 17 = .ok (.istore 5, 2) := by decide +kernel
theorem dX7_isOfOne_19 : decode cX7_isOfOne 19 = .ok (.iconst 0, 1) := by decide +kernel
theorem dX7_isOfOne_20 : decode cX7_isOfOne 20 = .ok (.istore 6, 2) := by decide +kernel
theorem dX7_isOfOne_22 : decode cX7_isOfOne 22 = .ok (.iload 6, 2) := by decide +kernel
theorem dX7_isOfOne_24 : decode cX7_isOfOne 24 = .ok (.iconst 4, 1) := by decide +kernel
theorem dX7_isOfOne_25 : decode cX7_isOfOne 25 = .ok (.if_icmp .ge 30, 3) := by decide +kernel
theorem dX7_isOfOne_28 : decode cX7_isOfOne 28 = .ok (.iload 5, 2) := by decide +kernel
theorem dX7_isOfOne_30 : decode cX7_isOfOne 30 = .ok (.ifCond .eq 25, 3) := by decide +kernel
theorem dX7_isOfOne_33 : decode cX7_isOfOne 33 = .ok (.aload_n 0, 1) := by decide +kernel
theorem dX7_isOfOne_34 : decode cX7_isOfOne 34 = .ok (.iload_n 1, 1) := by decide +kernel
theorem dX7_isOfOne_35 : decode cX7_isOfOne 35 = .ok (.iload 6, 2) := by decide +kernel
theorem dX7_isOfOne_37 : decode cX7_isOfOne 37 = .ok (.invokestatic 234, 3) := by decide +kernel
theorem dX7_isOfOne_40 : decode cX7_isOfOne 40 = .ok (.iload 4, 2) := by decide +kernel
theorem dX7_isOfOne_42 : decode cX7_isOfOne 42 = .ok (.iload 6, 2) := by decide +kernel
theorem dX7_isOfOne_44 : decode cX7_isOfOne 44 = .ok (.invokevirtual 225, 3) := by decide +kernel
theorem dX7_isOfOne_47 : decode cX7_isOfOne 47 = .ok (.istore 5, 2) := by decide +kernel
theorem dX7_isOfOne_49 : decode cX7_isOfOne 49 = .ok (.iinc 6 1, 3) := by decide +kernel
theorem dX7_isOfOne_52 : decode cX7_isOfOne 52 = .ok (.goto (-30), 3) := by decide +kernel
theorem dX7_isOfOne_55 : decode cX7_isOfOne 55 = .ok (.iload_n 3, 1) := by decide +kernel
theorem dX7_isOfOne_56 : decode cX7_isOfOne 56 = .ok (.ifCond .ne 8, 3) := by decide +kernel
theorem dX7_isOfOne_59 : decode cX7_isOfOne 59 = .ok (.iload 5, 2) := by decide +kernel
theorem dX7_isOfOne_61 : decode cX7_isOfOne 61 = .ok (.ifCond .eq 7, 3) := by decide +kernel
theorem dX7_isOfOne_64 : decode cX7_isOfOne 64 = .ok (.iconst 1, 1) := by decide +kernel
theorem dX7_isOfOne_65 : decode cX7_isOfOne 65 = .ok (.goto 4, 3) := by decide +kernel
theorem dX7_isOfOne_68 : decode cX7_isOfOne 68 = .ok (.iconst 0, 1) := by decide +kernel
theorem dX7_isOfOne_69 : decode cX7_isOfOne 69 = .ok (.istore_n 3, 1) := by decide +kernel
theorem dX7_isOfOne_70 : decode cX7_isOfOne 70 = .ok (.iinc 4 1, 3) := by decide +kernel
theorem dX7_isOfOne_73 : decode cX7_isOfOne 73 = .ok (.goto (-68), 3) := by decide +kernel
theorem dX7_isOfOne_76 : decode cX7_isOfOne 76 = .ok (.iload_n 3, 1) := by decide +kernel
theorem dX7_isOfOne_77 : decode cX7_isOfOne 77 = .ok (.ireturn, 1) := by decide +kernel
def tbX7_isOfOne (pc : Nat) : dt_T := cond (Nat.ble pc 34) (cond (Nat.ble pc 14) (cond (Nat.ble pc 5) (cond (Nat.ble pc 1) (cond (Nat.ble pc 0) (cond (Nat.beq pc 0) (tc_ic 0 1) tc_no) (cond (Nat.beq pc 1) (tc_stI 3 2) tc_no)) (cond (Nat.ble pc 2) (cond (Nat.beq pc 2) (tc_ic 0 3) tc_no) (cond (Nat.ble pc 3) (cond (Nat.beq pc 3) (tc_stI 4 5) tc_no) (cond (Nat.beq pc 5) (tc_ldI 4 7) tc_no)))) (cond (Nat.ble pc 8) (cond (Nat.ble pc 7) (cond (Nat.beq pc 7) (tc_ic 4 8) tc_no) (cond (Nat.beq pc 8) (tc_icmpge 76 11) tc_no)) (cond (Nat.ble pc 11) (cond (Nat.beq pc 11) (tc_ldI 2 12) tc_no) (cond (Nat.ble pc 12) (cond (Nat.beq pc 12) (tc_ldI 4 14) tc_no) (cond (Nat.beq pc 14) (tc_callS mX7_hasBit 2 17) tc_no))))) (cond (Nat.ble pc 24) (cond (Nat.ble pc 19) (cond (Nat.ble pc 17) (cond (Nat.beq pc 17) (tc_stI 5 19) tc_no) (cond (Nat.beq pc 19) (tc_ic 0 20) tc_no)) (cond (Nat.ble pc 20) (cond (Nat.beq pc 20) (tc_stI 6 22) tc_no) (cond (Nat.ble pc 22) (cond (Nat.beq pc 22) (tc_ldI 6 24) tc_no) (cond (Nat.beq pc 24) (tc_ic 4 25) tc_no)))) (cond (Nat.ble pc 28) (cond (Nat.ble pc 25) (cond (Nat.beq pc 25) (tc_icmpge 55 28) tc_no) (cond (Nat.beq pc 28) (tc_ldI 5 30) tc_no)) (cond (Nat.ble pc 30) (cond (Nat.beq pc 30) (tc_ifeq 55 33) tc_no) (cond (Nat.ble pc 33) (cond (Nat.beq pc 33) (tc_ldA 0 34) tc_no) (cond (Nat.beq pc 34) (tc_ldI 1 35) tc_no)))))) (cond (Nat.ble pc 56) (cond (Nat.ble pc 44) (cond (Nat.ble pc 37) (cond (Nat.ble pc 35) (cond (Nat.beq pc 35) (tc_ldI 6 37) tc_no) (cond (Nat.beq pc 37) (tc_callS mX7_talkOf 2 40) tc_no)) (cond (Nat.ble pc 40) (cond (Nat.beq pc 40) (tc_ldI 4 42) tc_no) (cond (Nat.ble pc 42) (cond (Nat.beq pc 42) (tc_ldI 6 44) tc_no) (cond (Nat.beq pc 44) (tc_callV 7 mX7_isSameLine 3 47) tc_no)))) (cond (Nat.ble pc 49) (cond (Nat.ble pc 47) (cond (Nat.beq pc 47) (tc_stI 5 49) tc_no) (cond (Nat.beq pc 49) (tc_iinc 6 1 52) tc_no)) (cond (Nat.ble pc 52) (cond (Nat.beq pc 52) (tc_goto 22) tc_no) (cond (Nat.ble pc 55) (cond (Nat.beq pc 55) (tc_ldI 3 56) tc_no) (cond (Nat.beq pc 56) (tc_ifne 64 59) tc_no))))) (cond (Nat.ble pc 68) (cond (Nat.ble pc 61) (cond (Nat.ble pc 59) (cond (Nat.beq pc 59) (tc_ldI 5 61) tc_no) (cond (Nat.beq pc 61) (tc_ifeq 68 64) tc_no)) (cond (Nat.ble pc 64) (cond (Nat.beq pc 64) (tc_ic 1 65) tc_no) (cond (Nat.ble pc 65) (cond (Nat.beq pc 65) (tc_goto 69) tc_no) (cond (Nat.beq pc 68) (tc_ic 0 69) tc_no)))) (cond (Nat.ble pc 70) (cond (Nat.ble pc 69) (cond (Nat.beq pc 69) (tc_stI 3 70) tc_no) (cond (Nat.beq pc 70) (tc_iinc 4 1 73) tc_no)) (cond (Nat.ble pc 73) (cond (Nat.beq pc 73) (tc_goto 5) tc_no) (cond (Nat.ble pc 76) (cond (Nat.beq pc 76) (tc_ldI 3 77) tc_no) (cond (Nat.beq pc 77) (tc_zret) tc_no))))))
theorem okX7_isOfOne : ∀ pc, dt_S mX7_isOfOne (tbX7_isOfOne pc) pc := by
  intro pc
  unfold tbX7_isOfOne
  exact dt_Sb (dt_Sb (dt_Sb (dt_Sb (dt_Sb (dt_Sl 0 (sn_ic ⟨by decide, by decide⟩ dX7_isOfOne_0 rfl)) (dt_Sl 1 (sn_stIn rfl (by decide) dX7_isOfOne_1 rfl))) (dt_Sb (dt_Sl 2 (sn_ic ⟨by decide, by decide⟩ dX7_isOfOne_2 rfl)) (dt_Sb (dt_Sl 3 (sn_stI (by decide) dX7_isOfOne_3 rfl)) (dt_Sl 5 (sn_ldI dX7_isOfOne_5 rfl))))) (dt_Sb (dt_Sb (dt_Sl 7 (sn_ic ⟨by decide, by decide⟩ dX7_isOfOne_7 rfl)) (dt_Sl 8 (sn_icmpge dX7_isOfOne_8 (by decide) rfl))) (dt_Sb (dt_Sl 11 (sn_ldIn rfl dX7_isOfOne_11 rfl)) (dt_Sb (dt_Sl 12 (sn_ldI dX7_isOfOne_12 rfl)) (dt_Sl 14 (sn_callS rfl nnX7_hasBit wq_4_203 wq_4_204 dX7_isOfOne_14 rfl)))))) (dt_Sb (dt_Sb (dt_Sb (dt_Sl 17 (sn_stI (by decide) dX7_isOfOne_17 rfl)) (dt_Sl 19 (sn_ic ⟨by decide, by decide⟩ dX7_isOfOne_19 rfl))) (dt_Sb (dt_Sl 20 (sn_stI (by decide) dX7_isOfOne_20 rfl)) (dt_Sb (dt_Sl 22 (sn_ldI dX7_isOfOne_22 rfl)) (dt_Sl 24 (sn_ic ⟨by decide, by decide⟩ dX7_isOfOne_24 rfl))))) (dt_Sb (dt_Sb (dt_Sl 25 (sn_icmpge dX7_isOfOne_25 (by decide) rfl)) (dt_Sl 28 (sn_ldI dX7_isOfOne_28 rfl))) (dt_Sb (dt_Sl 30 (sn_ifeq dX7_isOfOne_30 (by decide) rfl)) (dt_Sb (dt_Sl 33 (sn_ldAn rfl dX7_isOfOne_33 rfl)) (dt_Sl 34 (sn_ldIn rfl dX7_isOfOne_34 rfl))))))) (dt_Sb (dt_Sb (dt_Sb (dt_Sb (dt_Sl 35 (sn_ldI dX7_isOfOne_35 rfl)) (dt_Sl 37 (sn_callS rfl nnX7_talkOf wq_4_187 wq_4_188 dX7_isOfOne_37 rfl))) (dt_Sb (dt_Sl 40 (sn_ldI dX7_isOfOne_40 rfl)) (dt_Sb (dt_Sl 42 (sn_ldI dX7_isOfOne_42 rfl)) (dt_Sl 44 (sn_callV rfl ffX7 nnX7_isSameLine rfl wq_4_163 wq_4_165 wq_0_49 dX7_isOfOne_44 rfl))))) (dt_Sb (dt_Sb (dt_Sl 47 (sn_stI (by decide) dX7_isOfOne_47 rfl)) (dt_Sl 49 (sn_iinc (by decide) dX7_isOfOne_49 rfl))) (dt_Sb (dt_Sl 52 (sn_goto dX7_isOfOne_52 (by decide))) (dt_Sb (dt_Sl 55 (sn_ldIn rfl dX7_isOfOne_55 rfl)) (dt_Sl 56 (sn_ifne dX7_isOfOne_56 (by decide) rfl)))))) (dt_Sb (dt_Sb (dt_Sb (dt_Sl 59 (sn_ldI dX7_isOfOne_59 rfl)) (dt_Sl 61 (sn_ifeq dX7_isOfOne_61 (by decide) rfl))) (dt_Sb (dt_Sl 64 (sn_ic ⟨by decide, by decide⟩ dX7_isOfOne_64 rfl)) (dt_Sb (dt_Sl 65 (sn_goto dX7_isOfOne_65 (by decide))) (dt_Sl 68 (sn_ic ⟨by decide, by decide⟩ dX7_isOfOne_68 rfl))))) (dt_Sb (dt_Sb (dt_Sl 69 (sn_stIn rfl (by decide) dX7_isOfOne_69 rfl)) (dt_Sl 70 (sn_iinc (by decide) dX7_isOfOne_70 rfl))) (dt_Sb (dt_Sl 73 (sn_goto dX7_isOfOne_73 (by decide))) (dt_Sb (dt_Sl 76 (sn_ldIn rfl dX7_isOfOne_76 rfl)) (dt_Sl 77 (sn_zret rfl dX7_isOfOne_77)))))))
theorem dX7_mixes_0 : decode cX7_mixes 0 = .ok (.iload_n 1, 1) := by decide +kernel
theorem dX7_mixes_1 : decode cX7_mixes 1 = .ok (.i2l, 1) := by decide +kernel
theorem dX7_mixes_2 : decode cX7_mixes 2 = .ok (.lconst 1, 1) := by decide +kernel
theorem dX7_mixes_3 : decode cX7_mixes 3 = .ok (.ldc2_w 255, 3) := by decide +kernel
theorem dX7_mixes_6 : decode cX7_mixes 6 = .ok (.invokestatic 83, 3) := by decide +kernel
theorem dX7_mixes_9 : decode cX7_mixes 9 = .ok (.ifCond .eq 15, 3) := by decide +kernel
theorem dX7_mixes_12 : decode cX7_mixes 12 = .ok (.iload_n 2, 1) := by decide +kernel
theorem dX7_mixes_13 : decode cX7_mixes 13 = .ok (.i2l, 1) := by decide +kernel
theorem dX7_mixes_14 : decode cX7_mixes 14 = .ok (.lconst 0, 1) := by decide +kernel
theorem dX7_mixes_15 : decode cX7_mixes 15 = .ok (.ldc2_w 167, 3) := by decide +kernel
theorem dX7_mixes_18 : decode cX7_mixes 18 = .ok (.invokestatic 83, 3) := by decide +kernel
theorem dX7_mixes_21 : decode cX7_mixes 21 = .ok (.ifCond .ne 5, 3) := by decide +kernel
theorem dX7_mixes_24 : decode cX7_mixes 24 = .ok (.iconst (-1), 1) := by decide +kernel
theorem dX7_mixes_25 : decode cX7_mixes 25 = .ok (.ireturn, 1) := by decide +kernel
theorem dX7_mixes_26 : decode cX7_mixes 26 = .ok (.iconst 0, 1) := by decide +kernel
theorem dX7_mixes_27 : decode cX7_mixes 27 = .ok (.istore_n 3, 1) := by decide +kernel
theorem dX7_mixes_28 : decode cX7_mixes 28 = .ok (.iconst 0, 1) := by decide +kernel
theorem dX7_mixes_29 : decode cX7_mixes 29 = .ok (.istore 4, 2) := by decide +kernel
theorem dX7_mixes_31 : decode cX7_mixes 31 = .ok (.iload 4, 2) := by decide +kernel
theorem dX7_mixes_33 : decode cX7_mixes 33 = .ok (.sipush 256, 3) := by decide +kernel
theorem dX7_mixes_36 : decode cX7_mixes 36 = .ok (.if_icmp .ge 72, 3) := by decide +kernel
theorem dX7_mixes_39 : decode cX7_mixes 39 = .ok (.aload_n 0, 1) := by decide +kernel
theorem dX7_mixes_40 : decode cX7_mixes 40 = .ok (.iload 4, 2) := by decide +kernel
theorem dX7_mixes_42 : decode cX7_mixes 42 = .ok (.iload_n 1, 1) := by decide +kernel
theorem dX7_mixes_43 : decode cX7_mixes 43 = .ok (.invokevirtual 257, 3) := by decide +kernel
theorem dX7_mixes_46 : decode cX7_mixes 46 = .ok (.ifCond .eq 56, 3) := by decide +kernel
theorem dX7_mixes_49 : decode cX7_mixes 49 = .ok (.aload_n 0, 1) := by decide +kernel
theorem dX7_mixes_50 : decode cX7_mixes 50 = .ok (.iload 4, 2) := by decide +kernel
theorem dX7_mixes_52 : decode cX7_mixes 52 = .ok (.invokevirtual 249, 3) := by decide +kernel
theorem dX7_mixes_55 : decode cX7_mixes 55 = .ok (.istore 5, 2) := by decide +kernel
theorem dX7_mixes_57 : decode cX7_mixes 57 = .ok (.iload_n 3, 1) := by decide +kernel
theorem dX7_mixes_58 : decode cX7_mixes 58 = .ok (.iload_n 2, 1) := by decide +kernel
theorem dX7_mixes_59 : decode cX7_mixes 59 = .ok (.iconst 1, 1) := by decide +kernel
theorem dX7_mixes_60 : decode cX7_mixes 60 = .ok (.if_icmp .ne 16, 3) := by decide +kernel
theorem dX7_mixes_63 : decode cX7_mixes 63 = .ok (.iload 5, 2) := by decide +kernel
theorem dX7_mixes_65 : decode cX7_mixes 65 = .ok (.ifCond .eq 7, 3) := by decide +kernel
theorem dX7_mixes_68 : decode cX7_mixes 68 = .ok (.iconst 0, 1) := by decide +kernel
theorem dX7_mixes_69 : decode cX7_mixes 69 = .ok (.goto 31, 3) := by decide +kernel
theorem dX7_mixes_72 : decode cX7_mixes 72 = .ok (.iconst 1, 1) := by decide +kernel
theorem dX7_mixes_73 : decode cX7_mixes 73 = .ok (.goto 27, 3) := by decide +kernel
theorem dX7_mixes_76 : decode cX7_mixes 76 = .ok (.iload 5, 2) := by decide +kernel
theorem dX7_mixes_78 : decode cX7_mixes 78 = .ok (.ifCond .eq 21, 3) := by decide +kernel
theorem dX7_mixes_81 : decode cX7_mixes 81 = .ok (.iload_n 2, 1) := by decide +kernel
theorem dX7_mixes_82 : decode cX7_mixes 82 = .ok (.ifCond .eq 13, 3) := by decide +kernel
theorem dX7_mixes_85 : decode cX7_mixes 85 = .ok (.aload_n 0, 1) := by decide +kernel
theorem dX7_mixes_86 : decode cX7_mixes 86 = .ok (.iload 4, 2) := by decide +kernel
theorem dX7_mixes_88 : decode cX7_mixes 88 = .ok (.iload_n 1, 1) := by decide +kernel
theorem dX7_mixes_89 : decode cX7_mixes 89 = .ok (.invokevirtual 260, 3) := by decide +kernel
theorem dX7_mixes_92 : decode cX7_mixes 92 = .ok (.ifCond .ne 7, 3) := by decide +kernel
theorem dX7_mixes_95 : decode cX7_mixes 95 = .ok (.iconst 1, 1) := by decide +kernel
theorem dX7_mixes_96 : decode cX7_mixes 96 = .ok (.goto 4, 3) := by decide +kernel
theorem dX7_mixes_99 : decode cX7_mixes 99 = .ok (.iconst 0, 1) := by decide +kernel
theorem dX7_mixes_100 : decode cX7_mixes 100 = .ok (.iadd, 1) := by decide +kernel
theorem dX7_mixes_101 : decode cX7_mixes 101 = .ok (.istore_n 3, 1) := by decide +kernel
theorem dX7_mixes_102 : decode cX7_mixes 102 = .ok (.iinc 4 1, 3) := by decide +kernel
theorem dX7_mixes_105 : decode cX7_mixes 105 = .ok (.goto (-74), 3) := by decide +kernel
theorem dX7_mixes_108 : decode cX7_mixes 108 = .ok (.iload_n 3, 1) := by decide +kernel
theorem dX7_mixes_109 : decode cX7_mixes 109 = .ok (.ireturn, 1) := by decide +kernel
def tbX7_mixes (pc : Nat) : dt_T := cond (Nat.ble pc 52) (cond (Nat.ble pc 25) (cond (Nat.ble pc 12) (cond (Nat.ble pc 2) (cond (Nat.ble pc 0) (cond (Nat.beq pc 0) (tc_ldI 1 1) tc_no) (cond (Nat.ble pc 1) (cond (Nat.beq pc 1) (tc_i2l 2) tc_no) (cond (Nat.beq pc 2) (tc_lc 1 3) tc_no))) (cond (Nat.ble pc 6) (cond (Nat.ble pc 3) (cond (Nat.beq pc 3) (tc_lc 15 6) tc_no) (cond (Nat.beq pc 6) (tc_callS mX7_in 3 9) tc_no)) (cond (Nat.ble pc 9) (cond (Nat.beq pc 9) (tc_ifeq 24 12) tc_no) (cond (Nat.beq pc 12) (tc_ldI 2 13) tc_no)))) (cond (Nat.ble pc 15) (cond (Nat.ble pc 13) (cond (Nat.beq pc 13) (tc_i2l 14) tc_no) (cond (Nat.ble pc 14) (cond (Nat.beq pc 14) (tc_lc 0 15) tc_no) (cond (Nat.beq pc 15) (tc_lc 2 18) tc_no))) (cond (Nat.ble pc 21) (cond (Nat.ble pc 18) (cond (Nat.beq pc 18) (tc_callS mX7_in 3 21) tc_no) (cond (Nat.beq pc 21) (tc_ifne 26 24) tc_no)) (cond (Nat.ble pc 24) (cond (Nat.beq pc 24) (tc_ic (-1) 25) tc_no) (cond (Nat.beq pc 25) (tc_iret) tc_no))))) (cond (Nat.ble pc 36) (cond (Nat.ble pc 28) (cond (Nat.ble pc 26) (cond (Nat.beq pc 26) (tc_ic 0 27) tc_no) (cond (Nat.ble pc 27) (cond (Nat.beq pc 27) (tc_stI 3 28) tc_no) (cond (Nat.beq pc 28) (tc_ic 0 29) tc_no))) (cond (Nat.ble pc 31) (cond (Nat.ble pc 29) (cond (Nat.beq pc 29) (tc_stI 4 31) tc_no) (cond (Nat.beq pc 31) (tc_ldI 4 33) tc_no)) (cond (Nat.ble pc 33) (cond (Nat.beq pc 33) (tc_ic 256 36) tc_no) (cond (Nat.beq pc 36) (tc_icmpge 108 39) tc_no)))) (cond (Nat.ble pc 43) (cond (Nat.ble pc 40) (cond (Nat.ble pc 39) (cond (Nat.beq pc 39) (tc_ldA 0 40) tc_no) (cond (Nat.beq pc 40) (tc_ldI 4 42) tc_no)) (cond (Nat.ble pc 42) (cond (Nat.beq pc 42) (tc_ldI 1 43) tc_no) (cond (Nat.beq pc 43) (tc_callV 7 mX7_isFirst 2 46) tc_no))) (cond (Nat.ble pc 49) (cond (Nat.ble pc 46) (cond (Nat.beq pc 46) (tc_ifeq 102 49) tc_no) (cond (Nat.beq pc 49) (tc_ldA 0 50) tc_no)) (cond (Nat.ble pc 50) (cond (Nat.beq pc 50) (tc_ldI 4 52) tc_no) (cond (Nat.beq pc 52) (tc_callV 7 mX7_plays 1 55) tc_no)))))) (cond (Nat.ble pc 81) (cond (Nat.ble pc 65) (cond (Nat.ble pc 58) (cond (Nat.ble pc 55) (cond (Nat.beq pc 55) (tc_stI 5 57) tc_no) (cond (Nat.ble pc 57) (cond (Nat.beq pc 57) (tc_ldI 3 58) tc_no) (cond (Nat.beq pc 58) (tc_ldI 2 59) tc_no))) (cond (Nat.ble pc 60) (cond (Nat.ble pc 59) (cond (Nat.beq pc 59) (tc_ic 1 60) tc_no) (cond (Nat.beq pc 60) (tc_icmpne 76 63) tc_no)) (cond (Nat.ble pc 63) (cond (Nat.beq pc 63) (tc_ldI 5 65) tc_no) (cond (Nat.beq pc 65) (tc_ifeq 72 68) tc_no)))) (cond (Nat.ble pc 72) (cond (Nat.ble pc 68) (cond (Nat.beq pc 68) (tc_ic 0 69) tc_no) (cond (Nat.ble pc 69) (cond (Nat.beq pc 69) (tc_goto 100) tc_no) (cond (Nat.beq pc 72) (tc_ic 1 73) tc_no))) (cond (Nat.ble pc 76) (cond (Nat.ble pc 73) (cond (Nat.beq pc 73) (tc_goto 100) tc_no) (cond (Nat.beq pc 76) (tc_ldI 5 78) tc_no)) (cond (Nat.ble pc 78) (cond (Nat.beq pc 78) (tc_ifeq 99 81) tc_no) (cond (Nat.beq pc 81) (tc_ldI 2 82) tc_no))))) (cond (Nat.ble pc 95) (cond (Nat.ble pc 86) (cond (Nat.ble pc 82) (cond (Nat.beq pc 82) (tc_ifeq 95 85) tc_no) (cond (Nat.ble pc 85) (cond (Nat.beq pc 85) (tc_ldA 0 86) tc_no) (cond (Nat.beq pc 86) (tc_ldI 4 88) tc_no))) (cond (Nat.ble pc 89) (cond (Nat.ble pc 88) (cond (Nat.beq pc 88) (tc_ldI 1 89) tc_no) (cond (Nat.beq pc 89) (tc_callV 7 mX7_isOfOne 2 92) tc_no)) (cond (Nat.ble pc 92) (cond (Nat.beq pc 92) (tc_ifne 99 95) tc_no) (cond (Nat.beq pc 95) (tc_ic 1 96) tc_no)))) (cond (Nat.ble pc 101) (cond (Nat.ble pc 99) (cond (Nat.ble pc 96) (cond (Nat.beq pc 96) (tc_goto 100) tc_no) (cond (Nat.beq pc 99) (tc_ic 0 100) tc_no)) (cond (Nat.ble pc 100) (cond (Nat.beq pc 100) (tc_iadd 101) tc_no) (cond (Nat.beq pc 101) (tc_stI 3 102) tc_no))) (cond (Nat.ble pc 105) (cond (Nat.ble pc 102) (cond (Nat.beq pc 102) (tc_iinc 4 1 105) tc_no) (cond (Nat.beq pc 105) (tc_goto 31) tc_no)) (cond (Nat.ble pc 108) (cond (Nat.beq pc 108) (tc_ldI 3 109) tc_no) (cond (Nat.beq pc 109) (tc_iret) tc_no))))))
theorem okX7_mixes : ∀ pc, dt_S mX7_mixes (tbX7_mixes pc) pc := by
  intro pc
  unfold tbX7_mixes
  exact dt_Sb (dt_Sb (dt_Sb (dt_Sb (dt_Sb (dt_Sl 0 (sn_ldIn rfl dX7_mixes_0 rfl)) (dt_Sb (dt_Sl 1 (sn_i2l dX7_mixes_1 rfl)) (dt_Sl 2 (sn_lc (k := 1) ⟨by decide, by decide⟩ rfl dX7_mixes_2 rfl)))) (dt_Sb (dt_Sb (dt_Sl 3 (sn_ldc2 rfl ⟨by decide, by decide⟩ wq_4_198 dX7_mixes_3 rfl)) (dt_Sl 6 (sn_callS rfl nnX7_in wq_4_8 wq_4_9 dX7_mixes_6 rfl))) (dt_Sb (dt_Sl 9 (sn_ifeq dX7_mixes_9 (by decide) rfl)) (dt_Sl 12 (sn_ldIn rfl dX7_mixes_12 rfl))))) (dt_Sb (dt_Sb (dt_Sl 13 (sn_i2l dX7_mixes_13 rfl)) (dt_Sb (dt_Sl 14 (sn_lc (k := 0) ⟨by decide, by decide⟩ rfl dX7_mixes_14 rfl)) (dt_Sl 15 (sn_ldc2 rfl ⟨by decide, by decide⟩ wq_4_69 dX7_mixes_15 rfl)))) (dt_Sb (dt_Sb (dt_Sl 18 (sn_callS rfl nnX7_in wq_4_8 wq_4_9 dX7_mixes_18 rfl)) (dt_Sl 21 (sn_ifne dX7_mixes_21 (by decide) rfl))) (dt_Sb (dt_Sl 24 (sn_ic ⟨by decide, by decide⟩ dX7_mixes_24 rfl)) (dt_Sl 25 (sn_iret rfl dX7_mixes_25)))))) (dt_Sb (dt_Sb (dt_Sb (dt_Sl 26 (sn_ic ⟨by decide, by decide⟩ dX7_mixes_26 rfl)) (dt_Sb (dt_Sl 27 (sn_stIn rfl (by decide) dX7_mixes_27 rfl)) (dt_Sl 28 (sn_ic ⟨by decide, by decide⟩ dX7_mixes_28 rfl)))) (dt_Sb (dt_Sb (dt_Sl 29 (sn_stI (by decide) dX7_mixes_29 rfl)) (dt_Sl 31 (sn_ldI dX7_mixes_31 rfl))) (dt_Sb (dt_Sl 33 (sn_si ⟨by decide, by decide⟩ rfl dX7_mixes_33 rfl)) (dt_Sl 36 (sn_icmpge dX7_mixes_36 (by decide) rfl))))) (dt_Sb (dt_Sb (dt_Sb (dt_Sl 39 (sn_ldAn rfl dX7_mixes_39 rfl)) (dt_Sl 40 (sn_ldI dX7_mixes_40 rfl))) (dt_Sb (dt_Sl 42 (sn_ldIn rfl dX7_mixes_42 rfl)) (dt_Sl 43 (sn_callV rfl ffX7 nnX7_isFirst rfl wq_4_199 wq_4_201 wq_0_54 dX7_mixes_43 rfl)))) (dt_Sb (dt_Sb (dt_Sl 46 (sn_ifeq dX7_mixes_46 (by decide) rfl)) (dt_Sl 49 (sn_ldAn rfl dX7_mixes_49 rfl))) (dt_Sb (dt_Sl 50 (sn_ldI dX7_mixes_50 rfl)) (dt_Sl 52 (sn_callV rfl ffX7 nnX7_plays rfl wq_4_179 wq_4_181 wq_0_51 dX7_mixes_52 rfl))))))) (dt_Sb (dt_Sb (dt_Sb (dt_Sb (dt_Sl 55 (sn_stI (by decide) dX7_mixes_55 rfl)) (dt_Sb (dt_Sl 57 (sn_ldIn rfl dX7_mixes_57 rfl)) (dt_Sl 58 (sn_ldIn rfl dX7_mixes_58 rfl)))) (dt_Sb (dt_Sb (dt_Sl 59 (sn_ic ⟨by decide, by decide⟩ dX7_mixes_59 rfl)) (dt_Sl 60 (sn_icmpne dX7_mixes_60 (by decide) rfl))) (dt_Sb (dt_Sl 63 (sn_ldI dX7_mixes_63 rfl)) (dt_Sl 65 (sn_ifeq dX7_mixes_65 (by decide) rfl))))) (dt_Sb (dt_Sb (dt_Sl 68 (sn_ic ⟨by decide, by decide⟩ dX7_mixes_68 rfl)) (dt_Sb (dt_Sl 69 (sn_goto dX7_mixes_69 (by decide))) (dt_Sl 72 (sn_ic ⟨by decide, by decide⟩ dX7_mixes_72 rfl)))) (dt_Sb (dt_Sb (dt_Sl 73 (sn_goto dX7_mixes_73 (by decide))) (dt_Sl 76 (sn_ldI dX7_mixes_76 rfl))) (dt_Sb (dt_Sl 78 (sn_ifeq dX7_mixes_78 (by decide) rfl)) (dt_Sl 81 (sn_ldIn rfl dX7_mixes_81 rfl)))))) (dt_Sb (dt_Sb (dt_Sb (dt_Sl 82 (sn_ifeq dX7_mixes_82 (by decide) rfl)) (dt_Sb (dt_Sl 85 (sn_ldAn rfl dX7_mixes_85 rfl)) (dt_Sl 86 (sn_ldI dX7_mixes_86 rfl)))) (dt_Sb (dt_Sb (dt_Sl 88 (sn_ldIn rfl dX7_mixes_88 rfl)) (dt_Sl 89 (sn_callV rfl ffX7 nnX7_isOfOne rfl wq_4_206 wq_4_208 wq_0_55 dX7_mixes_89 rfl))) (dt_Sb (dt_Sl 92 (sn_ifne dX7_mixes_92 (by decide) rfl)) (dt_Sl 95 (sn_ic ⟨by decide, by decide⟩ dX7_mixes_95 rfl))))) (dt_Sb (dt_Sb (dt_Sb (dt_Sl 96 (sn_goto dX7_mixes_96 (by decide))) (dt_Sl 99 (sn_ic ⟨by decide, by decide⟩ dX7_mixes_99 rfl))) (dt_Sb (dt_Sl 100 (sn_iadd dX7_mixes_100 rfl)) (dt_Sl 101 (sn_stIn rfl (by decide) dX7_mixes_101 rfl)))) (dt_Sb (dt_Sb (dt_Sl 102 (sn_iinc (by decide) dX7_mixes_102 rfl)) (dt_Sl 105 (sn_goto dX7_mixes_105 (by decide)))) (dt_Sb (dt_Sl 108 (sn_ldIn rfl dX7_mixes_108 rfl)) (dt_Sl 109 (sn_iret rfl dX7_mixes_109)))))))
theorem dX7_fresh_0 : decode cX7_fresh 0 = .ok (.iload_n 1, 1) := by decide +kernel
theorem dX7_fresh_1 : decode cX7_fresh 1 = .ok (.i2l, 1) := by decide +kernel
theorem dX7_fresh_2 : decode cX7_fresh 2 = .ok (.lconst 1, 1) := by decide +kernel
theorem dX7_fresh_3 : decode cX7_fresh 3 = .ok (.ldc2_w 255, 3) := by decide +kernel
theorem dX7_fresh_6 : decode cX7_fresh 6 = .ok (.invokestatic 83, 3) := by decide +kernel
theorem dX7_fresh_9 : decode cX7_fresh 9 = .ok (.ifCond .eq 7, 3) := by decide +kernel
theorem dX7_fresh_12 : decode cX7_fresh 12 = .ok (.iload_n 2, 1) := by decide +kernel
theorem dX7_fresh_13 : decode cX7_fresh 13 = .ok (.ifCond .ge 5, 3) := by decide +kernel
theorem dX7_fresh_16 : decode cX7_fresh 16 = .ok (.iconst (-1), 1) := by decide +kernel
theorem dX7_fresh_17 : decode cX7_fresh 17 = .ok (.ireturn, 1) := by decide +kernel
theorem dX7_fresh_18 : decode cX7_fresh 18 = .ok (.iconst 0, 1) := by decide +kernel
theorem dX7_fresh_19 : decode cX7_fresh 19 = .ok (.istore_n 3, 1) := by decide +kernel
theorem dX7_fresh_20 : decode cX7_fresh 20 = .ok (.iconst 0, 1) := by decide +kernel
theorem dX7_fresh_21 : decode cX7_fresh 21 = .ok (.istore 4, 2) := by decide +kernel
theorem dX7_fresh_23 : decode cX7_fresh 23 = .ok (.iload 4, 2) := by decide +kernel
theorem dX7_fresh_25 : decode cX7_fresh 25 = .ok (.sipush 256, 3) := by decide +kernel
theorem dX7_fresh_28 : decode cX7_fresh 28 = .ok (.if_icmp .ge 49, 3) := by decide +kernel
theorem dX7_fresh_31 : decode cX7_fresh 31 = .ok (.aload_n 0, 1) := by decide +kernel
theorem dX7_fresh_32 : decode cX7_fresh 32 = .ok (.iload 4, 2) := by decide +kernel
theorem dX7_fresh_34 : decode cX7_fresh 34 = .ok (.iload_n 1, 1) := by decide +kernel
theorem dX7_fresh_35 : decode cX7_fresh 35 = .ok (.invokevirtual 257, 3) := by decide +kernel
theorem dX7_fresh_38 : decode cX7_fresh 38 = .ok (.ifCond .eq 33, 3) := by decide +kernel
theorem dX7_fresh_41 : decode cX7_fresh 41 = .ok (.aload_n 0, 1) := by decide +kernel
theorem dX7_fresh_42 : decode cX7_fresh 42 = .ok (.iload 4, 2) := by decide +kernel
theorem dX7_fresh_44 : decode cX7_fresh 44 = .ok (.invokevirtual 249, 3) := by decide +kernel
theorem dX7_fresh_47 : decode cX7_fresh 47 = .ok (.ifCond .eq 24, 3) := by decide +kernel
theorem dX7_fresh_50 : decode cX7_fresh 50 = .ok (.aload_n 0, 1) := by decide +kernel
theorem dX7_fresh_51 : decode cX7_fresh 51 = .ok (.iload 4, 2) := by decide +kernel
theorem dX7_fresh_53 : decode cX7_fresh 53 = .ok (.iload_n 1, 1) := by decide +kernel
theorem dX7_fresh_54 : decode cX7_fresh 54 = .ok (.invokevirtual 260, 3) := by decide +kernel
theorem dX7_fresh_57 : decode cX7_fresh 57 = .ok (.ifCond .ne 14, 3) := by decide +kernel
theorem dX7_fresh_60 : decode cX7_fresh 60 = .ok (.iload_n 3, 1) := by decide +kernel
theorem dX7_fresh_61 : decode cX7_fresh 61 = .ok (.iload_n 2, 1) := by decide +kernel
theorem dX7_fresh_62 : decode cX7_fresh 62 = .ok (.if_icmp .ne 6, 3) := by decide +kernel
theorem dX7_fresh_65 : decode cX7_fresh 65 = .ok (.iload 4, 2) := by decide +kernel
theorem dX7_fresh_67 : decode cX7_fresh 67 = .ok (.ireturn, 1) := by decide +kernel
theorem dX7_fresh_68 : decode cX7_fresh 68 = .ok (.iinc 3 1, 3) := by decide +kernel
theorem dX7_fresh_71 : decode cX7_fresh 71 = .ok (.iinc 4 1, 3) := by decide +kernel
theorem dX7_fresh_74 : decode cX7_fresh 74 = .ok (.goto (-51), 3) := by decide +kernel
theorem dX7_fresh_77 : decode cX7_fresh 77 = .ok (.iconst (-1), 1) := by decide +kernel
theorem dX7_fresh_78 : decode cX7_fresh 78 = .ok (.ireturn, 1) := by decide +kernel
def tbX7_fresh (pc : Nat) : dt_T := cond (Nat.ble pc 34) (cond (Nat.ble pc 17) (cond (Nat.ble pc 6) (cond (Nat.ble pc 1) (cond (Nat.ble pc 0) (cond (Nat.beq pc 0) (tc_ldI 1 1) tc_no) (cond (Nat.beq pc 1) (tc_i2l 2) tc_no)) (cond (Nat.ble pc 2) (cond (Nat.beq pc 2) (tc_lc 1 3) tc_no) (cond (Nat.ble pc 3) (cond (Nat.beq pc 3) (tc_lc 15 6) tc_no) (cond (Nat.beq pc 6) (tc_callS mX7_in 3 9) tc_no)))) (cond (Nat.ble pc 12) (cond (Nat.ble pc 9) (cond (Nat.beq pc 9) (tc_ifeq 16 12) tc_no) (cond (Nat.beq pc 12) (tc_ldI 2 13) tc_no)) (cond (Nat.ble pc 13) (cond (Nat.beq pc 13) (tc_ifge 18 16) tc_no) (cond (Nat.ble pc 16) (cond (Nat.beq pc 16) (tc_ic (-1) 17) tc_no) (cond (Nat.beq pc 17) (tc_iret) tc_no))))) (cond (Nat.ble pc 23) (cond (Nat.ble pc 19) (cond (Nat.ble pc 18) (cond (Nat.beq pc 18) (tc_ic 0 19) tc_no) (cond (Nat.beq pc 19) (tc_stI 3 20) tc_no)) (cond (Nat.ble pc 20) (cond (Nat.beq pc 20) (tc_ic 0 21) tc_no) (cond (Nat.ble pc 21) (cond (Nat.beq pc 21) (tc_stI 4 23) tc_no) (cond (Nat.beq pc 23) (tc_ldI 4 25) tc_no)))) (cond (Nat.ble pc 28) (cond (Nat.ble pc 25) (cond (Nat.beq pc 25) (tc_ic 256 28) tc_no) (cond (Nat.beq pc 28) (tc_icmpge 77 31) tc_no)) (cond (Nat.ble pc 31) (cond (Nat.beq pc 31) (tc_ldA 0 32) tc_no) (cond (Nat.ble pc 32) (cond (Nat.beq pc 32) (tc_ldI 4 34) tc_no) (cond (Nat.beq pc 34) (tc_ldI 1 35) tc_no)))))) (cond (Nat.ble pc 54) (cond (Nat.ble pc 44) (cond (Nat.ble pc 38) (cond (Nat.ble pc 35) (cond (Nat.beq pc 35) (tc_callV 7 mX7_isFirst 2 38) tc_no) (cond (Nat.beq pc 38) (tc_ifeq 71 41) tc_no)) (cond (Nat.ble pc 41) (cond (Nat.beq pc 41) (tc_ldA 0 42) tc_no) (cond (Nat.ble pc 42) (cond (Nat.beq pc 42) (tc_ldI 4 44) tc_no) (cond (Nat.beq pc 44) (tc_callV 7 mX7_plays 1 47) tc_no)))) (cond (Nat.ble pc 50) (cond (Nat.ble pc 47) (cond (Nat.beq pc 47) (tc_ifeq 71 50) tc_no) (cond (Nat.beq pc 50) (tc_ldA 0 51) tc_no)) (cond (Nat.ble pc 51) (cond (Nat.beq pc 51) (tc_ldI 4 53) tc_no) (cond (Nat.ble pc 53) (cond (Nat.beq pc 53) (tc_ldI 1 54) tc_no) (cond (Nat.beq pc 54) (tc_callV 7 mX7_isOfOne 2 57) tc_no))))) (cond (Nat.ble pc 65) (cond (Nat.ble pc 60) (cond (Nat.ble pc 57) (cond (Nat.beq pc 57) (tc_ifne 71 60) tc_no) (cond (Nat.beq pc 60) (tc_ldI 3 61) tc_no)) (cond (Nat.ble pc 61) (cond (Nat.beq pc 61) (tc_ldI 2 62) tc_no) (cond (Nat.ble pc 62) (cond (Nat.beq pc 62) (tc_icmpne 68 65) tc_no) (cond (Nat.beq pc 65) (tc_ldI 4 67) tc_no)))) (cond (Nat.ble pc 71) (cond (Nat.ble pc 67) (cond (Nat.beq pc 67) (tc_iret) tc_no) (cond (Nat.ble pc 68) (cond (Nat.beq pc 68) (tc_iinc 3 1 71) tc_no) (cond (Nat.beq pc 71) (tc_iinc 4 1 74) tc_no))) (cond (Nat.ble pc 74) (cond (Nat.beq pc 74) (tc_goto 23) tc_no) (cond (Nat.ble pc 77) (cond (Nat.beq pc 77) (tc_ic (-1) 78) tc_no) (cond (Nat.beq pc 78) (tc_iret) tc_no))))))
theorem okX7_fresh : ∀ pc, dt_S mX7_fresh (tbX7_fresh pc) pc := by
  intro pc
  unfold tbX7_fresh
  exact dt_Sb (dt_Sb (dt_Sb (dt_Sb (dt_Sb (dt_Sl 0 (sn_ldIn rfl dX7_fresh_0 rfl)) (dt_Sl 1 (sn_i2l dX7_fresh_1 rfl))) (dt_Sb (dt_Sl 2 (sn_lc (k := 1) ⟨by decide, by decide⟩ rfl dX7_fresh_2 rfl)) (dt_Sb (dt_Sl 3 (sn_ldc2 rfl ⟨by decide, by decide⟩ wq_4_198 dX7_fresh_3 rfl)) (dt_Sl 6 (sn_callS rfl nnX7_in wq_4_8 wq_4_9 dX7_fresh_6 rfl))))) (dt_Sb (dt_Sb (dt_Sl 9 (sn_ifeq dX7_fresh_9 (by decide) rfl)) (dt_Sl 12 (sn_ldIn rfl dX7_fresh_12 rfl))) (dt_Sb (dt_Sl 13 (sn_ifge dX7_fresh_13 (by decide) rfl)) (dt_Sb (dt_Sl 16 (sn_ic ⟨by decide, by decide⟩ dX7_fresh_16 rfl)) (dt_Sl 17 (sn_iret rfl dX7_fresh_17)))))) (dt_Sb (dt_Sb (dt_Sb (dt_Sl 18 (sn_ic ⟨by decide, by decide⟩ dX7_fresh_18 rfl)) (dt_Sl 19 (sn_stIn rfl (by decide) dX7_fresh_19 rfl))) (dt_Sb (dt_Sl 20 (sn_ic ⟨by decide, by decide⟩ dX7_fresh_20 rfl)) (dt_Sb (dt_Sl 21 (sn_stI (by decide) dX7_fresh_21 rfl)) (dt_Sl 23 (sn_ldI dX7_fresh_23 rfl))))) (dt_Sb (dt_Sb (dt_Sl 25 (sn_si ⟨by decide, by decide⟩ rfl dX7_fresh_25 rfl)) (dt_Sl 28 (sn_icmpge dX7_fresh_28 (by decide) rfl))) (dt_Sb (dt_Sl 31 (sn_ldAn rfl dX7_fresh_31 rfl)) (dt_Sb (dt_Sl 32 (sn_ldI dX7_fresh_32 rfl)) (dt_Sl 34 (sn_ldIn rfl dX7_fresh_34 rfl))))))) (dt_Sb (dt_Sb (dt_Sb (dt_Sb (dt_Sl 35 (sn_callV rfl ffX7 nnX7_isFirst rfl wq_4_199 wq_4_201 wq_0_54 dX7_fresh_35 rfl)) (dt_Sl 38 (sn_ifeq dX7_fresh_38 (by decide) rfl))) (dt_Sb (dt_Sl 41 (sn_ldAn rfl dX7_fresh_41 rfl)) (dt_Sb (dt_Sl 42 (sn_ldI dX7_fresh_42 rfl)) (dt_Sl 44 (sn_callV rfl ffX7 nnX7_plays rfl wq_4_179 wq_4_181 wq_0_51 dX7_fresh_44 rfl))))) (dt_Sb (dt_Sb (dt_Sl 47 (sn_ifeq dX7_fresh_47 (by decide) rfl)) (dt_Sl 50 (sn_ldAn rfl dX7_fresh_50 rfl))) (dt_Sb (dt_Sl 51 (sn_ldI dX7_fresh_51 rfl)) (dt_Sb (dt_Sl 53 (sn_ldIn rfl dX7_fresh_53 rfl)) (dt_Sl 54 (sn_callV rfl ffX7 nnX7_isOfOne rfl wq_4_206 wq_4_208 wq_0_55 dX7_fresh_54 rfl)))))) (dt_Sb (dt_Sb (dt_Sb (dt_Sl 57 (sn_ifne dX7_fresh_57 (by decide) rfl)) (dt_Sl 60 (sn_ldIn rfl dX7_fresh_60 rfl))) (dt_Sb (dt_Sl 61 (sn_ldIn rfl dX7_fresh_61 rfl)) (dt_Sb (dt_Sl 62 (sn_icmpne dX7_fresh_62 (by decide) rfl)) (dt_Sl 65 (sn_ldI dX7_fresh_65 rfl))))) (dt_Sb (dt_Sb (dt_Sl 67 (sn_iret rfl dX7_fresh_67)) (dt_Sb (dt_Sl 68 (sn_iinc (by decide) dX7_fresh_68 rfl)) (dt_Sl 71 (sn_iinc (by decide) dX7_fresh_71 rfl)))) (dt_Sb (dt_Sl 74 (sn_goto dX7_fresh_74 (by decide))) (dt_Sb (dt_Sl 77 (sn_ic ⟨by decide, by decide⟩ dX7_fresh_77 rfl)) (dt_Sl 78 (sn_iret rfl dX7_fresh_78)))))))
theorem dX7_take_0 : decode cX7_take 0 = .ok (.iload_n 1, 1) := by decide +kernel
theorem dX7_take_1 : decode cX7_take 1 = .ok (.i2l, 1) := by decide +kernel
theorem dX7_take_2 : decode cX7_take 2 = .ok (.lconst 0, 1) := by decide +kernel
theorem dX7_take_3 : decode cX7_take 3 = .ok (.ldc2_w 93, 3) := by decide +kernel
theorem dX7_take_6 : decode cX7_take 6 = .ok (.invokestatic 83, 3) := by decide +kernel
theorem dX7_take_9 : decode cX7_take 9 = .ok (.ifCond .eq 10, 3) := by decide +kernel
theorem dX7_take_12 : decode cX7_take 12 = .ok (.iload_n 2, 1) := by decide +kernel
theorem dX7_take_13 : decode cX7_take 13 = .ok (.invokestatic 155, 3) := by decide +kernel
theorem dX7_take_16 : decode cX7_take 16 = .ok (.ifCond .eq 5, 3) := by decide +kernel
theorem dX7_take_19 : decode cX7_take 19 = .ok (.iconst (-1), 1) := by decide +kernel
theorem dX7_take_20 : decode cX7_take 20 = .ok (.ireturn, 1) := by decide +kernel
theorem dX7_take_21 : decode cX7_take 21 = .ok (.aload_n 0, 1) := by decide +kernel
theorem dX7_take_22 : decode cX7_take 22 = .ok (.iload_n 1, 1) := by decide +kernel
theorem dX7_take_23 : decode cX7_take 23 = .ok (.invokevirtual 249, 3) := by decide +kernel
theorem dX7_take_26 : decode cX7_take 26 = .ok (.ifCond .ne 6, 3) := by decide +kernel
theorem dX7_take_29 : decode cX7_take 29 = .ok (.bipush (-2), 2) := by decide +kernel
theorem dX7_take_31 : decode cX7_take 31 = .ok (.ireturn, 1) := by decide +kernel
theorem dX7_take_32 : decode cX7_take 32 = .ok (.aload_n 0, 1) := by decide +kernel
theorem dX7_take_33 : decode cX7_take 33 = .ok (.getfield 237, 3) := by decide +kernel
theorem dX7_take_36 : decode cX7_take 36 = .ok (.bipush 10, 2) := by decide +kernel
theorem dX7_take_38 : decode cX7_take 38 = .ok (.if_icmp .le 6, 3) := by decide +kernel
theorem dX7_take_41 : decode cX7_take 41 = .ok (.bipush (-3), 2) := by decide +kernel
theorem dX7_take_43 : decode cX7_take 43 = .ok (.ireturn, 1) := by decide +kernel
theorem dX7_take_44 : decode cX7_take 44 = .ok (.aload_n 0, 1) := by decide +kernel
theorem dX7_take_45 : decode cX7_take 45 = .ok (.invokevirtual 148, 3) := by decide +kernel
theorem dX7_take_48 : decode cX7_take 48 = .ok (.iconst 0, 1) := by decide +kernel
theorem dX7_take_49 : decode cX7_take 49 = .ok (.istore_n 3, 1) := by decide +kernel
theorem dX7_take_50 : decode cX7_take 50 = .ok (.iload_n 3, 1) := by decide +kernel
theorem dX7_take_51 : decode cX7_take 51 = .ok (.aload_n 0, 1) := by decide +kernel
theorem dX7_take_52 : decode cX7_take 52 = .ok (.getfield 240, 3) := by decide +kernel
theorem dX7_take_55 : decode cX7_take 55 = .ok (.if_icmp .ge 93, 3) := by decide +kernel
theorem dX7_take_58 : decode cX7_take 58 = .ok (.aload_n 0, 1) := by decide +kernel
theorem dX7_take_59 : decode cX7_take 59 = .ok (.getfield 78, 3) := by decide +kernel
theorem dX7_take_62 : decode cX7_take 62 = .ok (.iload_n 3, 1) := by decide +kernel
theorem dX7_take_63 : decode cX7_take 63 = .ok (.iaload, 1) := by decide +kernel
theorem dX7_take_64 : decode cX7_take 64 = .ok (.istore 4, 2) := by decide +kernel
theorem dX7_take_66 : decode cX7_take 66 = .ok (.aload_n 0, 1) := by decide +kernel
theorem dX7_take_67 : decode cX7_take 67 = .ok (.getfield 13, 3) := by decide +kernel
theorem dX7_take_70 : decode cX7_take 70 = .ok (.iload 4, 2) := by decide +kernel
theorem dX7_take_72 : decode cX7_take 72 = .ok (.baload, 1) := by decide +kernel
theorem dX7_take_73 : decode cX7_take 73 = .ok (.ifCond .eq 31, 3) := by decide +kernel
theorem dX7_take_76 : decode cX7_take 76 = .ok (.aload_n 0, 1) := by decide +kernel
theorem dX7_take_77 : decode cX7_take 77 = .ok (.aload_n 0, 1) := by decide +kernel
theorem dX7_take_78 : decode cX7_take 78 = .ok (.getfield 20, 3) := by decide +kernel
theorem dX7_take_81 : decode cX7_take 81 = .ok (.iload 4, 2) := by decide +kernel
theorem dX7_take_83 : decode cX7_take 83 = .ok (.iaload, 1) := by decide +kernel
theorem dX7_take_84 : decode cX7_take 84 = .ok (.aload_n 0, 1) := by decide +kernel
theorem dX7_take_85 : decode cX7_take 85 = .ok (.getfield 17, 3) := by decide +kernel
theorem dX7_take_88 : decode cX7_take 88 = .ok (.iload 4, 2) := by decide +kernel
theorem dX7_take_90 : decode cX7_take 90 = .ok (.iaload, 1) := by decide +kernel
theorem dX7_take_91 : decode cX7_take 91 = .ok (.aload_n 0, 1) := by decide +kernel
theorem dX7_take_92 : decode cX7_take 92 = .ok (.getfield 23, 3) := by decide +kernel
theorem dX7_take_95 : decode cX7_take 95 = .ok (.iload 4, 2) := by decide +kernel
theorem dX7_take_97 : decode cX7_take 97 = .ok (.iaload, 1) := by decide +kernel
theorem dX7_take_98 : decode cX7_take 98 = .ok (.invokevirtual 140, 3) := by decide +kernel
theorem dX7_take_101 : decode cX7_take 101 = .ok (.goto 5, 3) := by decide +kernel
theorem dX7_take_104 : decode cX7_take 104 = .ok (.bipush (-9), 2) := by decide +kernel
theorem dX7_take_106 : decode cX7_take 106 = .ok (.istore 5, 2) := by decide +kernel
theorem dX7_take_108 : decode cX7_take 108 = .ok (.aload_n 0, 1) := by decide +kernel
theorem dX7_take_109 : decode cX7_take 109 = .ok (.aload_n 0, 1) := by decide +kernel
theorem dX7_take_110 : decode cX7_take 110 = .ok (.getfield 13, 3) := by decide +kernel
theorem dX7_take_113 : decode cX7_take 113 = .ok (.iload 4, 2) := by decide +kernel
theorem dX7_take_115 : decode cX7_take 115 = .ok (.baload, 1) := by decide +kernel
theorem dX7_take_116 : decode cX7_take 116 = .ok (.aload_n 0, 1) := by decide +kernel
theorem dX7_take_117 : decode cX7_take 117 = .ok (.getfield 17, 3) := by decide +kernel
theorem dX7_take_120 : decode cX7_take 120 = .ok (.iload 4, 2) := by decide +kernel
theorem dX7_take_122 : decode cX7_take 122 = .ok (.iaload, 1) := by decide +kernel
theorem dX7_take_123 : decode cX7_take 123 = .ok (.aload_n 0, 1) := by decide +kernel
theorem dX7_take_124 : decode cX7_take 124 = .ok (.getfield 20, 3) := by decide +kernel
theorem dX7_take_127 : decode cX7_take 127 = .ok (.iload 4, 2) := by decide +kernel
theorem dX7_take_129 : decode cX7_take 129 = .ok (.iaload, 1) := by decide +kernel
theorem dX7_take_130 : decode cX7_take 130 = .ok (.aload_n 0, 1) := by decide +kernel
theorem dX7_take_131 : decode cX7_take 131 = .ok (.getfield 23, 3) := by decide +kernel
theorem dX7_take_134 : decode cX7_take 134 = .ok (.iload 4, 2) := by decide +kernel
theorem dX7_take_136 : decode cX7_take 136 = .ok (.iaload, 1) := by decide +kernel
theorem dX7_take_137 : decode cX7_take 137 = .ok (.iload 5, 2) := by decide +kernel
theorem dX7_take_139 : decode cX7_take 139 = .ok (.invokevirtual 144, 3) := by decide +kernel
theorem dX7_take_142 : decode cX7_take 142 = .ok (.iinc 3 1, 3) := by decide +kernel
theorem dX7_take_145 : decode cX7_take 145 = .ok (.goto (-95), 3) := by decide +kernel
theorem dX7_take_148 : decode cX7_take 148 = .ok (.aload_n 0, 1) := by decide +kernel
theorem dX7_take_149 : decode cX7_take 149 = .ok (.iload_n 2, 1) := by decide +kernel
theorem dX7_take_150 : decode cX7_take 150 = .ok (.invokevirtual 163, 3) := by decide +kernel
theorem dX7_take_153 : decode cX7_take 153 = .ok (.ireturn, 1) := by decide +kernel
def tbX7_take (pc : Nat) : dt_T := cond (Nat.ble pc 73) (cond (Nat.ble pc 36) (cond (Nat.ble pc 19) (cond (Nat.ble pc 6) (cond (Nat.ble pc 1) (cond (Nat.ble pc 0) (cond (Nat.beq pc 0) (tc_ldI 1 1) tc_no) (cond (Nat.beq pc 1) (tc_i2l 2) tc_no)) (cond (Nat.ble pc 2) (cond (Nat.beq pc 2) (tc_lc 0 3) tc_no) (cond (Nat.ble pc 3) (cond (Nat.beq pc 3) (tc_lc 255 6) tc_no) (cond (Nat.beq pc 6) (tc_callS mX7_in 3 9) tc_no)))) (cond (Nat.ble pc 12) (cond (Nat.ble pc 9) (cond (Nat.beq pc 9) (tc_ifeq 19 12) tc_no) (cond (Nat.beq pc 12) (tc_ldI 2 13) tc_no)) (cond (Nat.ble pc 13) (cond (Nat.beq pc 13) (tc_callS mX7_noTalk 1 16) tc_no) (cond (Nat.ble pc 16) (cond (Nat.beq pc 16) (tc_ifeq 21 19) tc_no) (cond (Nat.beq pc 19) (tc_ic (-1) 20) tc_no))))) (cond (Nat.ble pc 26) (cond (Nat.ble pc 21) (cond (Nat.ble pc 20) (cond (Nat.beq pc 20) (tc_iret) tc_no) (cond (Nat.beq pc 21) (tc_ldA 0 22) tc_no)) (cond (Nat.ble pc 22) (cond (Nat.beq pc 22) (tc_ldI 1 23) tc_no) (cond (Nat.ble pc 23) (cond (Nat.beq pc 23) (tc_callV 7 mX7_plays 1 26) tc_no) (cond (Nat.beq pc 26) (tc_ifne 32 29) tc_no)))) (cond (Nat.ble pc 31) (cond (Nat.ble pc 29) (cond (Nat.beq pc 29) (tc_ic (-2) 31) tc_no) (cond (Nat.beq pc 31) (tc_iret) tc_no)) (cond (Nat.ble pc 32) (cond (Nat.beq pc 32) (tc_ldA 0 33) tc_no) (cond (Nat.ble pc 33) (cond (Nat.beq pc 33) (tc_getf 7 33 36) tc_no) (cond (Nat.beq pc 36) (tc_ic 10 38) tc_no)))))) (cond (Nat.ble pc 52) (cond (Nat.ble pc 45) (cond (Nat.ble pc 41) (cond (Nat.ble pc 38) (cond (Nat.beq pc 38) (tc_icmple 44 41) tc_no) (cond (Nat.beq pc 41) (tc_ic (-3) 43) tc_no)) (cond (Nat.ble pc 43) (cond (Nat.beq pc 43) (tc_iret) tc_no) (cond (Nat.ble pc 44) (cond (Nat.beq pc 44) (tc_ldA 0 45) tc_no) (cond (Nat.beq pc 45) (tc_callV 7 mX7_beginTalk 0 48) tc_no)))) (cond (Nat.ble pc 49) (cond (Nat.ble pc 48) (cond (Nat.beq pc 48) (tc_ic 0 49) tc_no) (cond (Nat.beq pc 49) (tc_stI 3 50) tc_no)) (cond (Nat.ble pc 50) (cond (Nat.beq pc 50) (tc_ldI 3 51) tc_no) (cond (Nat.ble pc 51) (cond (Nat.beq pc 51) (tc_ldA 0 52) tc_no) (cond (Nat.beq pc 52) (tc_getf 7 32 55) tc_no))))) (cond (Nat.ble pc 63) (cond (Nat.ble pc 58) (cond (Nat.ble pc 55) (cond (Nat.beq pc 55) (tc_icmpge 148 58) tc_no) (cond (Nat.beq pc 58) (tc_ldA 0 59) tc_no)) (cond (Nat.ble pc 59) (cond (Nat.beq pc 59) (tc_getf 7 34 62) tc_no) (cond (Nat.ble pc 62) (cond (Nat.beq pc 62) (tc_ldI 3 63) tc_no) (cond (Nat.beq pc 63) (tc_iald 64) tc_no)))) (cond (Nat.ble pc 67) (cond (Nat.ble pc 64) (cond (Nat.beq pc 64) (tc_stI 4 66) tc_no) (cond (Nat.ble pc 66) (cond (Nat.beq pc 66) (tc_ldA 0 67) tc_no) (cond (Nat.beq pc 67) (tc_getf 7 1 70) tc_no))) (cond (Nat.ble pc 70) (cond (Nat.beq pc 70) (tc_ldI 4 72) tc_no) (cond (Nat.ble pc 72) (cond (Nat.beq pc 72) (tc_zald 73) tc_no) (cond (Nat.beq pc 73) (tc_ifeq 104 76) tc_no))))))) (cond (Nat.ble pc 113) (cond (Nat.ble pc 91) (cond (Nat.ble pc 83) (cond (Nat.ble pc 77) (cond (Nat.ble pc 76) (cond (Nat.beq pc 76) (tc_ldA 0 77) tc_no) (cond (Nat.beq pc 77) (tc_ldA 0 78) tc_no)) (cond (Nat.ble pc 78) (cond (Nat.beq pc 78) (tc_getf 7 3 81) tc_no) (cond (Nat.ble pc 81) (cond (Nat.beq pc 81) (tc_ldI 4 83) tc_no) (cond (Nat.beq pc 83) (tc_iald 84) tc_no)))) (cond (Nat.ble pc 85) (cond (Nat.ble pc 84) (cond (Nat.beq pc 84) (tc_ldA 0 85) tc_no) (cond (Nat.beq pc 85) (tc_getf 7 2 88) tc_no)) (cond (Nat.ble pc 88) (cond (Nat.beq pc 88) (tc_ldI 4 90) tc_no) (cond (Nat.ble pc 90) (cond (Nat.beq pc 90) (tc_iald 91) tc_no) (cond (Nat.beq pc 91) (tc_ldA 0 92) tc_no))))) (cond (Nat.ble pc 101) (cond (Nat.ble pc 95) (cond (Nat.ble pc 92) (cond (Nat.beq pc 92) (tc_getf 7 4 95) tc_no) (cond (Nat.beq pc 95) (tc_ldI 4 97) tc_no)) (cond (Nat.ble pc 97) (cond (Nat.beq pc 97) (tc_iald 98) tc_no) (cond (Nat.ble pc 98) (cond (Nat.beq pc 98) (tc_callV 7 mX7_openSend 3 101) tc_no) (cond (Nat.beq pc 101) (tc_goto 106) tc_no)))) (cond (Nat.ble pc 108) (cond (Nat.ble pc 104) (cond (Nat.beq pc 104) (tc_ic (-9) 106) tc_no) (cond (Nat.ble pc 106) (cond (Nat.beq pc 106) (tc_stI 5 108) tc_no) (cond (Nat.beq pc 108) (tc_ldA 0 109) tc_no))) (cond (Nat.ble pc 109) (cond (Nat.beq pc 109) (tc_ldA 0 110) tc_no) (cond (Nat.ble pc 110) (cond (Nat.beq pc 110) (tc_getf 7 1 113) tc_no) (cond (Nat.beq pc 113) (tc_ldI 4 115) tc_no)))))) (cond (Nat.ble pc 130) (cond (Nat.ble pc 122) (cond (Nat.ble pc 116) (cond (Nat.ble pc 115) (cond (Nat.beq pc 115) (tc_zald 116) tc_no) (cond (Nat.beq pc 116) (tc_ldA 0 117) tc_no)) (cond (Nat.ble pc 117) (cond (Nat.beq pc 117) (tc_getf 7 2 120) tc_no) (cond (Nat.ble pc 120) (cond (Nat.beq pc 120) (tc_ldI 4 122) tc_no) (cond (Nat.beq pc 122) (tc_iald 123) tc_no)))) (cond (Nat.ble pc 124) (cond (Nat.ble pc 123) (cond (Nat.beq pc 123) (tc_ldA 0 124) tc_no) (cond (Nat.beq pc 124) (tc_getf 7 3 127) tc_no)) (cond (Nat.ble pc 127) (cond (Nat.beq pc 127) (tc_ldI 4 129) tc_no) (cond (Nat.ble pc 129) (cond (Nat.beq pc 129) (tc_iald 130) tc_no) (cond (Nat.beq pc 130) (tc_ldA 0 131) tc_no))))) (cond (Nat.ble pc 139) (cond (Nat.ble pc 134) (cond (Nat.ble pc 131) (cond (Nat.beq pc 131) (tc_getf 7 4 134) tc_no) (cond (Nat.beq pc 134) (tc_ldI 4 136) tc_no)) (cond (Nat.ble pc 136) (cond (Nat.beq pc 136) (tc_iald 137) tc_no) (cond (Nat.ble pc 137) (cond (Nat.beq pc 137) (tc_ldI 5 139) tc_no) (cond (Nat.beq pc 139) (tc_callV 7 mX7_addEvent 5 142) tc_no)))) (cond (Nat.ble pc 148) (cond (Nat.ble pc 142) (cond (Nat.beq pc 142) (tc_iinc 3 1 145) tc_no) (cond (Nat.ble pc 145) (cond (Nat.beq pc 145) (tc_goto 50) tc_no) (cond (Nat.beq pc 148) (tc_ldA 0 149) tc_no))) (cond (Nat.ble pc 149) (cond (Nat.beq pc 149) (tc_ldI 2 150) tc_no) (cond (Nat.ble pc 150) (cond (Nat.beq pc 150) (tc_callV 7 mX7_keep 1 153) tc_no) (cond (Nat.beq pc 153) (tc_iret) tc_no)))))))
theorem okX7_take : ∀ pc, dt_S mX7_take (tbX7_take pc) pc := by
  intro pc
  unfold tbX7_take
  exact dt_Sb (dt_Sb (dt_Sb (dt_Sb (dt_Sb (dt_Sb (dt_Sl 0 (sn_ldIn rfl dX7_take_0 rfl)) (dt_Sl 1 (sn_i2l dX7_take_1 rfl))) (dt_Sb (dt_Sl 2 (sn_lc (k := 0) ⟨by decide, by decide⟩ rfl dX7_take_2 rfl)) (dt_Sb (dt_Sl 3 (sn_ldc2 rfl ⟨by decide, by decide⟩ wq_4_11 dX7_take_3 rfl)) (dt_Sl 6 (sn_callS rfl nnX7_in wq_4_8 wq_4_9 dX7_take_6 rfl))))) (dt_Sb (dt_Sb (dt_Sl 9 (sn_ifeq dX7_take_9 (by decide) rfl)) (dt_Sl 12 (sn_ldIn rfl dX7_take_12 rfl))) (dt_Sb (dt_Sl 13 (sn_callS rfl nnX7_noTalk wq_4_20 wq_4_21 dX7_take_13 rfl)) (dt_Sb (dt_Sl 16 (sn_ifeq dX7_take_16 (by decide) rfl)) (dt_Sl 19 (sn_ic ⟨by decide, by decide⟩ dX7_take_19 rfl)))))) (dt_Sb (dt_Sb (dt_Sb (dt_Sl 20 (sn_iret rfl dX7_take_20)) (dt_Sl 21 (sn_ldAn rfl dX7_take_21 rfl))) (dt_Sb (dt_Sl 22 (sn_ldIn rfl dX7_take_22 rfl)) (dt_Sb (dt_Sl 23 (sn_callV rfl ffX7 nnX7_plays rfl wq_4_179 wq_4_181 wq_0_51 dX7_take_23 rfl)) (dt_Sl 26 (sn_ifne dX7_take_26 (by decide) rfl))))) (dt_Sb (dt_Sb (dt_Sl 29 (sn_bi ⟨by decide, by decide⟩ rfl dX7_take_29 rfl)) (dt_Sl 31 (sn_iret rfl dX7_take_31))) (dt_Sb (dt_Sl 32 (sn_ldAn rfl dX7_take_32 rfl)) (dt_Sb (dt_Sl 33 (sn_getf rfl ffX7 (by decide) wq_3_170 dX7_take_33 rfl)) (dt_Sl 36 (sn_bi ⟨by decide, by decide⟩ rfl dX7_take_36 rfl))))))) (dt_Sb (dt_Sb (dt_Sb (dt_Sb (dt_Sl 38 (sn_icmple dX7_take_38 (by decide) rfl)) (dt_Sl 41 (sn_bi ⟨by decide, by decide⟩ rfl dX7_take_41 rfl))) (dt_Sb (dt_Sl 43 (sn_iret rfl dX7_take_43)) (dt_Sb (dt_Sl 44 (sn_ldAn rfl dX7_take_44 rfl)) (dt_Sl 45 (sn_callV rfl ffX7 nnX7_beginTalk rfl wq_4_28 wq_4_30 wq_0_29 dX7_take_45 rfl))))) (dt_Sb (dt_Sb (dt_Sl 48 (sn_ic ⟨by decide, by decide⟩ dX7_take_48 rfl)) (dt_Sl 49 (sn_stIn rfl (by decide) dX7_take_49 rfl))) (dt_Sb (dt_Sl 50 (sn_ldIn rfl dX7_take_50 rfl)) (dt_Sb (dt_Sl 51 (sn_ldAn rfl dX7_take_51 rfl)) (dt_Sl 52 (sn_getf rfl ffX7 (by decide) wq_3_169 dX7_take_52 rfl)))))) (dt_Sb (dt_Sb (dt_Sb (dt_Sl 55 (sn_icmpge dX7_take_55 (by decide) rfl)) (dt_Sl 58 (sn_ldAn rfl dX7_take_58 rfl))) (dt_Sb (dt_Sl 59 (sn_getf rfl ffX7 (by decide) wq_3_171 dX7_take_59 rfl)) (dt_Sb (dt_Sl 62 (sn_ldIn rfl dX7_take_62 rfl)) (dt_Sl 63 (sn_iald dX7_take_63 rfl))))) (dt_Sb (dt_Sb (dt_Sl 64 (sn_stI (by decide) dX7_take_64 rfl)) (dt_Sb (dt_Sl 66 (sn_ldAn rfl dX7_take_66 rfl)) (dt_Sl 67 (sn_getf rfl ffX7 (by decide) wq_3_138 dX7_take_67 rfl)))) (dt_Sb (dt_Sl 70 (sn_ldI dX7_take_70 rfl)) (dt_Sb (dt_Sl 72 (sn_zald dX7_take_72 rfl)) (dt_Sl 73 (sn_ifeq dX7_take_73 (by decide) rfl)))))))) (dt_Sb (dt_Sb (dt_Sb (dt_Sb (dt_Sb (dt_Sl 76 (sn_ldAn rfl dX7_take_76 rfl)) (dt_Sl 77 (sn_ldAn rfl dX7_take_77 rfl))) (dt_Sb (dt_Sl 78 (sn_getf rfl ffX7 (by decide) wq_3_140 dX7_take_78 rfl)) (dt_Sb (dt_Sl 81 (sn_ldI dX7_take_81 rfl)) (dt_Sl 83 (sn_iald dX7_take_83 rfl))))) (dt_Sb (dt_Sb (dt_Sl 84 (sn_ldAn rfl dX7_take_84 rfl)) (dt_Sl 85 (sn_getf rfl ffX7 (by decide) wq_3_139 dX7_take_85 rfl))) (dt_Sb (dt_Sl 88 (sn_ldI dX7_take_88 rfl)) (dt_Sb (dt_Sl 90 (sn_iald dX7_take_90 rfl)) (dt_Sl 91 (sn_ldAn rfl dX7_take_91 rfl)))))) (dt_Sb (dt_Sb (dt_Sb (dt_Sl 92 (sn_getf rfl ffX7 (by decide) wq_3_141 dX7_take_92 rfl)) (dt_Sl 95 (sn_ldI dX7_take_95 rfl))) (dt_Sb (dt_Sl 97 (sn_iald dX7_take_97 rfl)) (dt_Sb (dt_Sl 98 (sn_callV rfl ffX7 nnX7_openSend rfl wq_4_53 wq_4_55 wq_0_32 dX7_take_98 rfl)) (dt_Sl 101 (sn_goto dX7_take_101 (by decide)))))) (dt_Sb (dt_Sb (dt_Sl 104 (sn_bi ⟨by decide, by decide⟩ rfl dX7_take_104 rfl)) (dt_Sb (dt_Sl 106 (sn_stI (by decide) dX7_take_106 rfl)) (dt_Sl 108 (sn_ldAn rfl dX7_take_108 rfl)))) (dt_Sb (dt_Sl 109 (sn_ldAn rfl dX7_take_109 rfl)) (dt_Sb (dt_Sl 110 (sn_getf rfl ffX7 (by decide) wq_3_138 dX7_take_110 rfl)) (dt_Sl 113 (sn_ldI dX7_take_113 rfl))))))) (dt_Sb (dt_Sb (dt_Sb (dt_Sb (dt_Sl 115 (sn_zald dX7_take_115 rfl)) (dt_Sl 116 (sn_ldAn rfl dX7_take_116 rfl))) (dt_Sb (dt_Sl 117 (sn_getf rfl ffX7 (by decide) wq_3_139 dX7_take_117 rfl)) (dt_Sb (dt_Sl 120 (sn_ldI dX7_take_120 rfl)) (dt_Sl 122 (sn_iald dX7_take_122 rfl))))) (dt_Sb (dt_Sb (dt_Sl 123 (sn_ldAn rfl dX7_take_123 rfl)) (dt_Sl 124 (sn_getf rfl ffX7 (by decide) wq_3_140 dX7_take_124 rfl))) (dt_Sb (dt_Sl 127 (sn_ldI dX7_take_127 rfl)) (dt_Sb (dt_Sl 129 (sn_iald dX7_take_129 rfl)) (dt_Sl 130 (sn_ldAn rfl dX7_take_130 rfl)))))) (dt_Sb (dt_Sb (dt_Sb (dt_Sl 131 (sn_getf rfl ffX7 (by decide) wq_3_141 dX7_take_131 rfl)) (dt_Sl 134 (sn_ldI dX7_take_134 rfl))) (dt_Sb (dt_Sl 136 (sn_iald dX7_take_136 rfl)) (dt_Sb (dt_Sl 137 (sn_ldI dX7_take_137 rfl)) (dt_Sl 139 (sn_callV rfl ffX7 nnX7_addEvent rfl wq_4_57 wq_4_59 wq_0_33 dX7_take_139 rfl))))) (dt_Sb (dt_Sb (dt_Sl 142 (sn_iinc (by decide) dX7_take_142 rfl)) (dt_Sb (dt_Sl 145 (sn_goto dX7_take_145 (by decide))) (dt_Sl 148 (sn_ldAn rfl dX7_take_148 rfl)))) (dt_Sb (dt_Sl 149 (sn_ldIn rfl dX7_take_149 rfl)) (dt_Sb (dt_Sl 150 (sn_callV rfl ffX7 nnX7_keep rfl wq_4_61 wq_4_63 wq_0_34 dX7_take_150 rfl)) (dt_Sl 153 (sn_iret rfl dX7_take_153))))))))
theorem dX7_count_0 : decode cX7_count 0 = .ok (.iload_n 1, 1) := by decide +kernel
theorem dX7_count_1 : decode cX7_count 1 = .ok (.ifCond .ne 33, 3) := by decide +kernel
theorem dX7_count_4 : decode cX7_count 4 = .ok (.aload_n 0, 1) := by decide +kernel
theorem dX7_count_5 : decode cX7_count 5 = .ok (.getfield 7, 3) := by decide +kernel
theorem dX7_count_8 : decode cX7_count 8 = .ok (.iconst 0, 1) := by decide +kernel
theorem dX7_count_9 : decode cX7_count 9 = .ok (.iaload, 1) := by decide +kernel
theorem dX7_count_10 : decode cX7_count 10 = .ok (.aload_n 0, 1) := by decide +kernel
theorem dX7_count_11 : decode cX7_count 11 = .ok (.getfield 7, 3) := by decide +kernel
theorem dX7_count_14 : decode cX7_count 14 = .ok (.iconst 1, 1) := by decide +kernel
theorem dX7_count_15 : decode cX7_count 15 = .ok (.iaload, 1) := by decide +kernel
theorem dX7_count_16 : decode cX7_count 16 = .ok (.iadd, 1) := by decide +kernel
theorem dX7_count_17 : decode cX7_count 17 = .ok (.aload_n 0, 1) := by decide +kernel
theorem dX7_count_18 : decode cX7_count 18 = .ok (.getfield 7, 3) := by decide +kernel
theorem dX7_count_21 : decode cX7_count 21 = .ok (.iconst 2, 1) := by decide +kernel
theorem dX7_count_22 : decode cX7_count 22 = .ok (.iaload, 1) := by decide +kernel
theorem dX7_count_23 : decode cX7_count 23 = .ok (.iadd, 1) := by decide +kernel
theorem dX7_count_24 : decode cX7_count 24 = .ok (.aload_n 0, 1) := by decide +kernel
theorem dX7_count_25 : decode cX7_count 25 = .ok (.getfield 7, 3) := by decide +kernel
theorem dX7_count_28 : decode cX7_count 28 = .ok (.iconst 3, 1) := by decide +kernel
theorem dX7_count_29 : decode cX7_count 29 = .ok (.iaload, 1) := by decide +kernel
theorem dX7_count_30 : decode cX7_count 30 = .ok (.iadd, 1) := by decide +kernel
theorem dX7_count_31 : decode cX7_count 31 = .ok (.goto 16, 3) := by decide +kernel
theorem dX7_count_34 : decode cX7_count 34 = .ok (.iload_n 1, 1) := by decide +kernel
theorem dX7_count_35 : decode cX7_count 35 = .ok (.iconst 1, 1) := by decide +kernel
theorem dX7_count_36 : decode cX7_count 36 = .ok (.if_icmp .ne 10, 3) := by decide +kernel
theorem dX7_count_39 : decode cX7_count 39 = .ok (.aload_n 0, 1) := by decide +kernel
theorem dX7_count_40 : decode cX7_count 40 = .ok (.getfield 89, 3) := by decide +kernel
theorem dX7_count_43 : decode cX7_count 43 = .ok (.goto 4, 3) := by decide +kernel
theorem dX7_count_46 : decode cX7_count 46 = .ok (.iconst (-1), 1) := by decide +kernel
theorem dX7_count_47 : decode cX7_count 47 = .ok (.ireturn, 1) := by decide +kernel
def tbX7_count (pc : Nat) : dt_T := cond (Nat.ble pc 22) (cond (Nat.ble pc 10) (cond (Nat.ble pc 4) (cond (Nat.ble pc 0) (cond (Nat.beq pc 0) (tc_ldI 1 1) tc_no) (cond (Nat.ble pc 1) (cond (Nat.beq pc 1) (tc_ifne 34 4) tc_no) (cond (Nat.beq pc 4) (tc_ldA 0 5) tc_no))) (cond (Nat.ble pc 8) (cond (Nat.ble pc 5) (cond (Nat.beq pc 5) (tc_getf 7 0 8) tc_no) (cond (Nat.beq pc 8) (tc_ic 0 9) tc_no)) (cond (Nat.ble pc 9) (cond (Nat.beq pc 9) (tc_iald 10) tc_no) (cond (Nat.beq pc 10) (tc_ldA 0 11) tc_no)))) (cond (Nat.ble pc 16) (cond (Nat.ble pc 14) (cond (Nat.ble pc 11) (cond (Nat.beq pc 11) (tc_getf 7 0 14) tc_no) (cond (Nat.beq pc 14) (tc_ic 1 15) tc_no)) (cond (Nat.ble pc 15) (cond (Nat.beq pc 15) (tc_iald 16) tc_no) (cond (Nat.beq pc 16) (tc_iadd 17) tc_no))) (cond (Nat.ble pc 18) (cond (Nat.ble pc 17) (cond (Nat.beq pc 17) (tc_ldA 0 18) tc_no) (cond (Nat.beq pc 18) (tc_getf 7 0 21) tc_no)) (cond (Nat.ble pc 21) (cond (Nat.beq pc 21) (tc_ic 2 22) tc_no) (cond (Nat.beq pc 22) (tc_iald 23) tc_no))))) (cond (Nat.ble pc 31) (cond (Nat.ble pc 25) (cond (Nat.ble pc 23) (cond (Nat.beq pc 23) (tc_iadd 24) tc_no) (cond (Nat.ble pc 24) (cond (Nat.beq pc 24) (tc_ldA 0 25) tc_no) (cond (Nat.beq pc 25) (tc_getf 7 0 28) tc_no))) (cond (Nat.ble pc 29) (cond (Nat.ble pc 28) (cond (Nat.beq pc 28) (tc_ic 3 29) tc_no) (cond (Nat.beq pc 29) (tc_iald 30) tc_no)) (cond (Nat.ble pc 30) (cond (Nat.beq pc 30) (tc_iadd 31) tc_no) (cond (Nat.beq pc 31) (tc_goto 47) tc_no)))) (cond (Nat.ble pc 39) (cond (Nat.ble pc 35) (cond (Nat.ble pc 34) (cond (Nat.beq pc 34) (tc_ldI 1 35) tc_no) (cond (Nat.beq pc 35) (tc_ic 1 36) tc_no)) (cond (Nat.ble pc 36) (cond (Nat.beq pc 36) (tc_icmpne 46 39) tc_no) (cond (Nat.beq pc 39) (tc_ldA 0 40) tc_no))) (cond (Nat.ble pc 43) (cond (Nat.ble pc 40) (cond (Nat.beq pc 40) (tc_getf 7 8 43) tc_no) (cond (Nat.beq pc 43) (tc_goto 47) tc_no)) (cond (Nat.ble pc 46) (cond (Nat.beq pc 46) (tc_ic (-1) 47) tc_no) (cond (Nat.beq pc 47) (tc_iret) tc_no)))))
theorem okX7_count : ∀ pc, dt_S mX7_count (tbX7_count pc) pc := by
  intro pc
  unfold tbX7_count
  exact dt_Sb (dt_Sb (dt_Sb (dt_Sb (dt_Sl 0 (sn_ldIn rfl dX7_count_0 rfl)) (dt_Sb (dt_Sl 1 (sn_ifne dX7_count_1 (by decide) rfl)) (dt_Sl 4 (sn_ldAn rfl dX7_count_4 rfl)))) (dt_Sb (dt_Sb (dt_Sl 5 (sn_getf rfl ffX7 (by decide) wq_3_137 dX7_count_5 rfl)) (dt_Sl 8 (sn_ic ⟨by decide, by decide⟩ dX7_count_8 rfl))) (dt_Sb (dt_Sl 9 (sn_iald dX7_count_9 rfl)) (dt_Sl 10 (sn_ldAn rfl dX7_count_10 rfl))))) (dt_Sb (dt_Sb (dt_Sb (dt_Sl 11 (sn_getf rfl ffX7 (by decide) wq_3_137 dX7_count_11 rfl)) (dt_Sl 14 (sn_ic ⟨by decide, by decide⟩ dX7_count_14 rfl))) (dt_Sb (dt_Sl 15 (sn_iald dX7_count_15 rfl)) (dt_Sl 16 (sn_iadd dX7_count_16 rfl)))) (dt_Sb (dt_Sb (dt_Sl 17 (sn_ldAn rfl dX7_count_17 rfl)) (dt_Sl 18 (sn_getf rfl ffX7 (by decide) wq_3_137 dX7_count_18 rfl))) (dt_Sb (dt_Sl 21 (sn_ic ⟨by decide, by decide⟩ dX7_count_21 rfl)) (dt_Sl 22 (sn_iald dX7_count_22 rfl)))))) (dt_Sb (dt_Sb (dt_Sb (dt_Sl 23 (sn_iadd dX7_count_23 rfl)) (dt_Sb (dt_Sl 24 (sn_ldAn rfl dX7_count_24 rfl)) (dt_Sl 25 (sn_getf rfl ffX7 (by decide) wq_3_137 dX7_count_25 rfl)))) (dt_Sb (dt_Sb (dt_Sl 28 (sn_ic ⟨by decide, by decide⟩ dX7_count_28 rfl)) (dt_Sl 29 (sn_iald dX7_count_29 rfl))) (dt_Sb (dt_Sl 30 (sn_iadd dX7_count_30 rfl)) (dt_Sl 31 (sn_goto dX7_count_31 (by decide)))))) (dt_Sb (dt_Sb (dt_Sb (dt_Sl 34 (sn_ldIn rfl dX7_count_34 rfl)) (dt_Sl 35 (sn_ic ⟨by decide, by decide⟩ dX7_count_35 rfl))) (dt_Sb (dt_Sl 36 (sn_icmpne dX7_count_36 (by decide) rfl)) (dt_Sl 39 (sn_ldAn rfl dX7_count_39 rfl)))) (dt_Sb (dt_Sb (dt_Sl 40 (sn_getf rfl ffX7 (by decide) wq_3_145 dX7_count_40 rfl)) (dt_Sl 43 (sn_goto dX7_count_43 (by decide)))) (dt_Sb (dt_Sl 46 (sn_ic ⟨by decide, by decide⟩ dX7_count_46 rfl)) (dt_Sl 47 (sn_iret rfl dX7_count_47))))))
