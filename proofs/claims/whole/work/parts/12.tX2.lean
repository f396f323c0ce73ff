/-! ===== DrawnTalks$Player: decode rows, step tables ===== -/
theorem dX2_perform_0 : decode cX2_perform 0 = .ok (.aload_n 0, 1) := by decide +kernel
theorem dX2_perform_1 : decode cX2_perform 1 = .ok (.iload_n 1, 1) := by decide +kernel
theorem dX2_perform_2 : decode cX2_perform 2 = .ok (.putfield 34, 3) := by decide +kernel
theorem dX2_perform_5 : decode cX2_perform 5 = .ok (.aload_n 0, 1) := by decide +kernel
theorem dX2_perform_6 : decode cX2_perform 6 = .ok (.iconst 0, 1) := by decide +kernel
theorem dX2_perform_7 : decode cX2_perform 7 = .ok (.putfield 38, 3) := by decide +kernel
theorem dX2_perform_10 : decode cX2_perform 10 = .ok (.aload_n 0, 1) := by decide +kernel
theorem dX2_perform_11 : decode cX2_perform 11 = .ok (.iconst 0, 1) := by decide +kernel
theorem dX2_perform_12 : decode cX2_perform 12 = .ok (.putfield 41, 3) := by decide +kernel
theorem dX2_perform_15 : decode cX2_perform 15 = .ok (.iconst 0, 1) := by decide +kernel
theorem dX2_perform_16 : decode cX2_perform 16 = .ok (.istore_n 2, 1) := by decide +kernel
theorem dX2_perform_17 : decode cX2_perform 17 = .ok (.iload_n 2, 1) := by decide +kernel
theorem dX2_perform_18 : decode cX2_perform 18 = .ok (.bipush 16, 2) := by decide +kernel
theorem dX2_perform_20 : decode cX2_perform 20 = .ok (.if_icmp .ge 23, 3) := by decide +kernel
theorem dX2_perform_23 : decode cX2_perform 23 = .ok (.aload_n 0, 1) := by decide +kernel
theorem dX2_perform_24 : decode cX2_perform 24 = .ok (.getfield 21, 3) := by decide +kernel
theorem dX2_perform_27 : decode cX2_perform 27 = .ok (.iload_n 2, 1) := by decide +kernel
theorem dX2_perform_28 : decode cX2_perform 28 = .ok (.iconst 0, 1) := by decide +kernel
theorem dX2_perform_29 : decode cX2_perform 29 = .ok (.iastore, 1) := by decide +kernel
theorem dX2_perform_30 : decode cX2_perform 30 = .ok (.aload_n 0, 1) := by decide +kernel
theorem dX2_perform_31 : decode cX2_perform 31 = .ok (.getfield 24, 3) := by decide +kernel
theorem dX2_perform_34 : decode cX2_perform 34 = .ok (.iload_n 2, 1) := by decide +kernel
theorem dX2_perform_35 : decode cX2_perform 35 = .ok (.iconst 0, 1) := by decide +kernel
theorem dX2_perform_36 : decode cX2_perform 36 = .ok (.iastore, 1) := by decide +kernel
theorem dX2_perform_37 : decode cX2_perform 37 = .ok (.iinc 2 1, 3) := by decide +kernel
theorem dX2_perform_40 : decode cX2_perform 40 = .ok (.goto (-23), 3) := by decide +kernel
theorem dX2_perform_43 : decode cX2_perform 43 = .ok (.aload_n 0, 1) := by decide +kernel
theorem dX2_perform_44 : decode cX2_perform 44 = .ok (.invokevirtual 44, 3) := by decide +kernel
theorem dX2_perform_47 : decode cX2_perform 47 = .ok (.iconst 0, 1) := by decide +kernel
theorem dX2_perform_48 : decode cX2_perform 48 = .ok (.istore_n 2, 1) := by decide +kernel
theorem dX2_perform_49 : decode cX2_perform 49 = .ok (.iload_n 2, 1) := by decide +kernel
theorem dX2_perform_50 : decode cX2_perform 50 = .ok (.bipush 40, 2) := by decide +kernel
theorem dX2_perform_52 : decode cX2_perform 52 = .ok (.if_icmp .ge 47, 3) := by decide +kernel
theorem dX2_perform_55 : decode cX2_perform 55 = .ok (.aload_n 0, 1) := by decide +kernel
theorem dX2_perform_56 : decode cX2_perform 56 = .ok (.invokevirtual 47, 3) := by decide +kernel
theorem dX2_perform_59 : decode cX2_perform 59 = .ok (.istore_n 3, 1) := by decide +kernel
theorem dX2_perform_60 : decode cX2_perform 60 = .ok (.iload_n 3, 1) := by decide +kernel
theorem dX2_perform_61 : decode cX2_perform 61 = .ok (.iconst (-1), 1) := by decide +kernel
theorem dX2_perform_62 : decode cX2_perform 62 = .ok (.if_icmp .ne 4, 3) := by decide +kernel
theorem dX2_perform_65 : decode cX2_perform 65 = .ok (.return_, 1) := by decide +kernel
theorem dX2_perform_66 : decode cX2_perform 66 = .ok (.aload_n 0, 1) := by decide +kernel
theorem dX2_perform_67 : decode cX2_perform 67 = .ok (.iload_n 3, 1) := by decide +kernel
theorem dX2_perform_68 : decode cX2_perform 68 = .ok (.invokevirtual 51, 3) := by decide +kernel
theorem dX2_perform_71 : decode cX2_perform 71 = .ok (.aload_n 0, 1) := by decide +kernel
theorem dX2_perform_72 : decode cX2_perform 72 = .ok (.getfield 27, 3) := by decide +kernel
theorem dX2_perform_75 : decode cX2_perform 75 = .ok (.iload_n 2, 1) := by decide +kernel
theorem dX2_perform_76 : decode cX2_perform 76 = .ok (.iload_n 3, 1) := by decide +kernel
theorem dX2_perform_77 : decode cX2_perform 77 = .ok (.iastore, 1) := by decide +kernel
theorem dX2_perform_78 : decode cX2_perform 78 = .ok (.aload_n 0, 1) := by decide +kernel
theorem dX2_perform_79 : decode cX2_perform 79 = .ok (.dup, 1) := by decide +kernel
theorem dX2_perform_80 : decode cX2_perform 80 = .ok (.getfield 38, 3) := by decide +kernel
theorem dX2_perform_83 : decode cX2_perform 83 = .ok (.iconst 1, 1) := by decide +kernel
theorem dX2_perform_84 : decode cX2_perform 84 = .ok (.iadd, 1) := by decide +kernel
theorem dX2_perform_85 : decode cX2_perform 85 = .ok (.putfield 38, 3) := by decide +kernel
theorem dX2_perform_88 : decode cX2_perform 88 = .ok (.aload_n 0, 1) := by decide +kernel
theorem dX2_perform_89 : decode cX2_perform 89 = .ok (.iload_n 3, 1) := by decide +kernel
theorem dX2_perform_90 : decode cX2_perform 90 = .ok (.invokevirtual 55, 3) := by decide +kernel
theorem dX2_perform_93 : decode cX2_perform 93 = .ok (.iinc 2 1, 3) := by decide +kernel
theorem dX2_perform_96 : decode cX2_perform 96 = .ok (.goto (-47), 3) := by decide +kernel
theorem dX2_perform_99 : decode cX2_perform 99 = .ok (.return_, 1) := by decide +kernel
def tbX2_perform (pc : Nat) : dt_T := cond (Nat.ble pc 48) (cond (Nat.ble pc 23) (cond (Nat.ble pc 10) (cond (Nat.ble pc 2) (cond (Nat.ble pc 0) (cond (Nat.beq pc 0) (tc_ldA 0 1) tc_no) (cond (Nat.ble pc 1) (cond (Nat.beq pc 1) (tc_ldI 1 2) tc_no) (cond (Nat.beq pc 2) (tc_putI 2 7 5) tc_no))) (cond (Nat.ble pc 6) (cond (Nat.ble pc 5) (cond (Nat.beq pc 5) (tc_ldA 0 6) tc_no) (cond (Nat.beq pc 6) (tc_ic 0 7) tc_no)) (cond (Nat.ble pc 7) (cond (Nat.beq pc 7) (tc_putI 2 8 10) tc_no) (cond (Nat.beq pc 10) (tc_ldA 0 11) tc_no)))) (cond (Nat.ble pc 16) (cond (Nat.ble pc 12) (cond (Nat.ble pc 11) (cond (Nat.beq pc 11) (tc_ic 0 12) tc_no) (cond (Nat.beq pc 12) (tc_putI 2 9 15) tc_no)) (cond (Nat.ble pc 15) (cond (Nat.beq pc 15) (tc_ic 0 16) tc_no) (cond (Nat.beq pc 16) (tc_stI 2 17) tc_no))) (cond (Nat.ble pc 18) (cond (Nat.ble pc 17) (cond (Nat.beq pc 17) (tc_ldI 2 18) tc_no) (cond (Nat.beq pc 18) (tc_ic 16 20) tc_no)) (cond (Nat.ble pc 20) (cond (Nat.beq pc 20) (tc_icmpge 43 23) tc_no) (cond (Nat.beq pc 23) (tc_ldA 0 24) tc_no))))) (cond (Nat.ble pc 34) (cond (Nat.ble pc 28) (cond (Nat.ble pc 24) (cond (Nat.beq pc 24) (tc_getf 2 4 27) tc_no) (cond (Nat.ble pc 27) (cond (Nat.beq pc 27) (tc_ldI 2 28) tc_no) (cond (Nat.beq pc 28) (tc_ic 0 29) tc_no))) (cond (Nat.ble pc 30) (cond (Nat.ble pc 29) (cond (Nat.beq pc 29) (tc_iast 30) tc_no) (cond (Nat.beq pc 30) (tc_ldA 0 31) tc_no)) (cond (Nat.ble pc 31) (cond (Nat.beq pc 31) (tc_getf 2 5 34) tc_no) (cond (Nat.beq pc 34) (tc_ldI 2 35) tc_no)))) (cond (Nat.ble pc 40) (cond (Nat.ble pc 36) (cond (Nat.ble pc 35) (cond (Nat.beq pc 35) (tc_ic 0 36) tc_no) (cond (Nat.beq pc 36) (tc_iast 37) tc_no)) (cond (Nat.ble pc 37) (cond (Nat.beq pc 37) (tc_iinc 2 1 40) tc_no) (cond (Nat.beq pc 40) (tc_goto 17) tc_no))) (cond (Nat.ble pc 44) (cond (Nat.ble pc 43) (cond (Nat.beq pc 43) (tc_ldA 0 44) tc_no) (cond (Nat.beq pc 44) (tc_callV 2 mX2_goToStart 0 47) tc_no)) (cond (Nat.ble pc 47) (cond (Nat.beq pc 47) (tc_ic 0 48) tc_no) (cond (Nat.beq pc 48) (tc_stI 2 49) tc_no)))))) (cond (Nat.ble pc 72) (cond (Nat.ble pc 60) (cond (Nat.ble pc 52) (cond (Nat.ble pc 49) (cond (Nat.beq pc 49) (tc_ldI 2 50) tc_no) (cond (Nat.ble pc 50) (cond (Nat.beq pc 50) (tc_ic 40 52) tc_no) (cond (Nat.beq pc 52) (tc_icmpge 99 55) tc_no))) (cond (Nat.ble pc 56) (cond (Nat.ble pc 55) (cond (Nat.beq pc 55) (tc_ldA 0 56) tc_no) (cond (Nat.beq pc 56) (tc_callV 2 mX2_firstThatCan 0 59) tc_no)) (cond (Nat.ble pc 59) (cond (Nat.beq pc 59) (tc_stI 3 60) tc_no) (cond (Nat.beq pc 60) (tc_ldI 3 61) tc_no)))) (cond (Nat.ble pc 66) (cond (Nat.ble pc 62) (cond (Nat.ble pc 61) (cond (Nat.beq pc 61) (tc_ic (-1) 62) tc_no) (cond (Nat.beq pc 62) (tc_icmpne 66 65) tc_no)) (cond (Nat.ble pc 65) (cond (Nat.beq pc 65) (tc_ret) tc_no) (cond (Nat.beq pc 66) (tc_ldA 0 67) tc_no))) (cond (Nat.ble pc 68) (cond (Nat.ble pc 67) (cond (Nat.beq pc 67) (tc_ldI 3 68) tc_no) (cond (Nat.beq pc 68) (tc_callV 2 mX2_act 1 71) tc_no)) (cond (Nat.ble pc 71) (cond (Nat.beq pc 71) (tc_ldA 0 72) tc_no) (cond (Nat.beq pc 72) (tc_getf 2 6 75) tc_no))))) (cond (Nat.ble pc 83) (cond (Nat.ble pc 77) (cond (Nat.ble pc 75) (cond (Nat.beq pc 75) (tc_ldI 2 76) tc_no) (cond (Nat.ble pc 76) (cond (Nat.beq pc 76) (tc_ldI 3 77) tc_no) (cond (Nat.beq pc 77) (tc_iast 78) tc_no))) (cond (Nat.ble pc 79) (cond (Nat.ble pc 78) (cond (Nat.beq pc 78) (tc_ldA 0 79) tc_no) (cond (Nat.beq pc 79) (tc_dup 80) tc_no)) (cond (Nat.ble pc 80) (cond (Nat.beq pc 80) (tc_getf 2 8 83) tc_no) (cond (Nat.beq pc 83) (tc_ic 1 84) tc_no)))) (cond (Nat.ble pc 89) (cond (Nat.ble pc 85) (cond (Nat.ble pc 84) (cond (Nat.beq pc 84) (tc_iadd 85) tc_no) (cond (Nat.beq pc 85) (tc_putI 2 8 88) tc_no)) (cond (Nat.ble pc 88) (cond (Nat.beq pc 88) (tc_ldA 0 89) tc_no) (cond (Nat.beq pc 89) (tc_ldI 3 90) tc_no))) (cond (Nat.ble pc 93) (cond (Nat.ble pc 90) (cond (Nat.beq pc 90) (tc_callV 2 mX2_goOn 1 93) tc_no) (cond (Nat.beq pc 93) (tc_iinc 2 1 96) tc_no)) (cond (Nat.ble pc 96) (cond (Nat.beq pc 96) (tc_goto 49) tc_no) (cond (Nat.beq pc 99) (tc_ret) tc_no))))))
theorem okX2_perform : ∀ pc, dt_S mX2_perform (tbX2_perform pc) pc := by
  intro pc
  unfold tbX2_perform
  exact dt_Sb (dt_Sb (dt_Sb (dt_Sb (dt_Sb (dt_Sl 0 (sn_ldAn rfl dX2_perform_0 rfl)) (dt_Sb (dt_Sl 1 (sn_ldIn rfl dX2_perform_1 rfl)) (dt_Sl 2 (sn_putI rfl ffX2 (by decide) rfl rfl (by decide +kernel) wq_1_172 dX2_perform_2 rfl)))) (dt_Sb (dt_Sb (dt_Sl 5 (sn_ldAn rfl dX2_perform_5 rfl)) (dt_Sl 6 (sn_ic ⟨by decide, by decide⟩ dX2_perform_6 rfl))) (dt_Sb (dt_Sl 7 (sn_putI rfl ffX2 (by decide) rfl rfl (by decide +kernel) wq_1_173 dX2_perform_7 rfl)) (dt_Sl 10 (sn_ldAn rfl dX2_perform_10 rfl))))) (dt_Sb (dt_Sb (dt_Sb (dt_Sl 11 (sn_ic ⟨by decide, by decide⟩ dX2_perform_11 rfl)) (dt_Sl 12 (sn_putI rfl ffX2 (by decide) rfl rfl (by decide +kernel) wq_1_175 dX2_perform_12 rfl))) (dt_Sb (dt_Sl 15 (sn_ic ⟨by decide, by decide⟩ dX2_perform_15 rfl)) (dt_Sl 16 (sn_stIn rfl (by decide) dX2_perform_16 rfl)))) (dt_Sb (dt_Sb (dt_Sl 17 (sn_ldIn rfl dX2_perform_17 rfl)) (dt_Sl 18 (sn_bi ⟨by decide, by decide⟩ rfl dX2_perform_18 rfl))) (dt_Sb (dt_Sl 20 (sn_icmpge dX2_perform_20 (by decide) rfl)) (dt_Sl 23 (sn_ldAn rfl dX2_perform_23 rfl)))))) (dt_Sb (dt_Sb (dt_Sb (dt_Sl 24 (sn_getf rfl ffX2 (by decide) wq_1_169 dX2_perform_24 rfl)) (dt_Sb (dt_Sl 27 (sn_ldIn rfl dX2_perform_27 rfl)) (dt_Sl 28 (sn_ic ⟨by decide, by decide⟩ dX2_perform_28 rfl)))) (dt_Sb (dt_Sb (dt_Sl 29 (sn_iast dX2_perform_29 rfl)) (dt_Sl 30 (sn_ldAn rfl dX2_perform_30 rfl))) (dt_Sb (dt_Sl 31 (sn_getf rfl ffX2 (by decide) wq_1_170 dX2_perform_31 rfl)) (dt_Sl 34 (sn_ldIn rfl dX2_perform_34 rfl))))) (dt_Sb (dt_Sb (dt_Sb (dt_Sl 35 (sn_ic ⟨by decide, by decide⟩ dX2_perform_35 rfl)) (dt_Sl 36 (sn_iast dX2_perform_36 rfl))) (dt_Sb (dt_Sl 37 (sn_iinc (by decide) dX2_perform_37 rfl)) (dt_Sl 40 (sn_goto dX2_perform_40 (by decide))))) (dt_Sb (dt_Sb (dt_Sl 43 (sn_ldAn rfl dX2_perform_43 rfl)) (dt_Sl 44 (sn_callV rfl ffX2 nnX2_goToStart rfl wq_3_30 wq_3_32 wq_0_14 dX2_perform_44 rfl))) (dt_Sb (dt_Sl 47 (sn_ic ⟨by decide, by decide⟩ dX2_perform_47 rfl)) (dt_Sl 48 (sn_stIn rfl (by decide) dX2_perform_48 rfl))))))) (dt_Sb (dt_Sb (dt_Sb (dt_Sb (dt_Sl 49 (sn_ldIn rfl dX2_perform_49 rfl)) (dt_Sb (dt_Sl 50 (sn_bi ⟨by decide, by decide⟩ rfl dX2_perform_50 rfl)) (dt_Sl 52 (sn_icmpge dX2_perform_52 (by decide) rfl)))) (dt_Sb (dt_Sb (dt_Sl 55 (sn_ldAn rfl dX2_perform_55 rfl)) (dt_Sl 56 (sn_callV rfl ffX2 nnX2_firstThatCan rfl wq_3_42 wq_3_44 wq_0_16 dX2_perform_56 rfl))) (dt_Sb (dt_Sl 59 (sn_stIn rfl (by decide) dX2_perform_59 rfl)) (dt_Sl 60 (sn_ldIn rfl dX2_perform_60 rfl))))) (dt_Sb (dt_Sb (dt_Sb (dt_Sl 61 (sn_ic ⟨by decide, by decide⟩ dX2_perform_61 rfl)) (dt_Sl 62 (sn_icmpne dX2_perform_62 (by decide) rfl))) (dt_Sb (dt_Sl 65 (sn_ret rfl dX2_perform_65)) (dt_Sl 66 (sn_ldAn rfl dX2_perform_66 rfl)))) (dt_Sb (dt_Sb (dt_Sl 67 (sn_ldIn rfl dX2_perform_67 rfl)) (dt_Sl 68 (sn_callV rfl ffX2 nnX2_act rfl wq_3_50 wq_3_52 wq_0_18 dX2_perform_68 rfl))) (dt_Sb (dt_Sl 71 (sn_ldAn rfl dX2_perform_71 rfl)) (dt_Sl 72 (sn_getf rfl ffX2 (by decide) wq_1_171 dX2_perform_72 rfl)))))) (dt_Sb (dt_Sb (dt_Sb (dt_Sl 75 (sn_ldIn rfl dX2_perform_75 rfl)) (dt_Sb (dt_Sl 76 (sn_ldIn rfl dX2_perform_76 rfl)) (dt_Sl 77 (sn_iast dX2_perform_77 rfl)))) (dt_Sb (dt_Sb (dt_Sl 78 (sn_ldAn rfl dX2_perform_78 rfl)) (dt_Sl 79 (sn_dup dX2_perform_79 rfl))) (dt_Sb (dt_Sl 80 (sn_getf rfl ffX2 (by decide) wq_1_173 dX2_perform_80 rfl)) (dt_Sl 83 (sn_ic ⟨by decide, by decide⟩ dX2_perform_83 rfl))))) (dt_Sb (dt_Sb (dt_Sb (dt_Sl 84 (sn_iadd dX2_perform_84 rfl)) (dt_Sl 85 (sn_putI rfl ffX2 (by decide) rfl rfl (by decide +kernel) wq_1_173 dX2_perform_85 rfl))) (dt_Sb (dt_Sl 88 (sn_ldAn rfl dX2_perform_88 rfl)) (dt_Sl 89 (sn_ldIn rfl dX2_perform_89 rfl)))) (dt_Sb (dt_Sb (dt_Sl 90 (sn_callV rfl ffX2 nnX2_goOn rfl wq_3_58 wq_3_60 wq_0_20 dX2_perform_90 rfl)) (dt_Sl 93 (sn_iinc (by decide) dX2_perform_93 rfl))) (dt_Sb (dt_Sl 96 (sn_goto dX2_perform_96 (by decide))) (dt_Sl 99 (sn_ret rfl dX2_perform_99)))))))
theorem dX2_ends_0 : decode cX2_ends 0 = .ok (.iconst 0, 1) := by decide +kernel
theorem dX2_ends_1 : decode cX2_ends 1 = .ok (.istore_n 1, 1) := by decide +kernel
theorem dX2_ends_2 : decode cX2_ends 2 = .ok (.iload_n 1, 1) := by decide +kernel
theorem dX2_ends_3 : decode cX2_ends 3 = .ok (.iconst 4, 1) := by decide +kernel
theorem dX2_ends_4 : decode cX2_ends 4 = .ok (.if_icmp .ge 21, 3) := by decide +kernel
theorem dX2_ends_7 : decode cX2_ends 7 = .ok (.aload_n 0, 1) := by decide +kernel
theorem dX2_ends_8 : decode cX2_ends 8 = .ok (.getfield 15, 3) := by decide +kernel
theorem dX2_ends_11 : decode cX2_ends 11 = .ok (.iload_n 1, 1) := by decide +kernel
theorem dX2_ends_12 : decode cX2_ends 12 = .ok (.iaload, 1) := by decide +kernel
theorem dX2_ends_13 : decode cX2_ends 13 = .ok (.iconst (-1), 1) := by decide +kernel
theorem dX2_ends_14 : decode cX2_ends 14 = .ok (.if_icmp .eq 5, 3) := by decide +kernel
theorem dX2_ends_17 : decode cX2_ends 17 = .ok (.iconst 0, 1) := by decide +kernel
theorem dX2_ends_18 : decode cX2_ends 18 = .ok (.ireturn, 1) := by decide +kernel
theorem dX2_ends_19 : decode cX2_ends 19 = .ok (.iinc 1 1, 3) := by decide +kernel
theorem dX2_ends_22 : decode cX2_ends 22 = .ok (.goto (-20), 3) := by decide +kernel
theorem dX2_ends_25 : decode cX2_ends 25 = .ok (.aload_n 0, 1) := by decide +kernel
theorem dX2_ends_26 : decode cX2_ends 26 = .ok (.getfield 41, 3) := by decide +kernel
theorem dX2_ends_29 : decode cX2_ends 29 = .ok (.ifCond .ne 7, 3) := by decide +kernel
theorem dX2_ends_32 : decode cX2_ends 32 = .ok (.iconst 1, 1) := by decide +kernel
theorem dX2_ends_33 : decode cX2_ends 33 = .ok (.goto 4, 3) := by decide +kernel
theorem dX2_ends_36 : decode cX2_ends 36 = .ok (.iconst 0, 1) := by decide +kernel
theorem dX2_ends_37 : decode cX2_ends 37 = .ok (.ireturn, 1) := by decide +kernel
def tbX2_ends (pc : Nat) : dt_T := cond (Nat.ble pc 14) (cond (Nat.ble pc 4) (cond (Nat.ble pc 1) (cond (Nat.ble pc 0) (cond (Nat.beq pc 0) (tc_ic 0 1) tc_no) (cond (Nat.beq pc 1) (tc_stI 1 2) tc_no)) (cond (Nat.ble pc 2) (cond (Nat.beq pc 2) (tc_ldI 1 3) tc_no) (cond (Nat.ble pc 3) (cond (Nat.beq pc 3) (tc_ic 4 4) tc_no) (cond (Nat.beq pc 4) (tc_icmpge 25 7) tc_no)))) (cond (Nat.ble pc 11) (cond (Nat.ble pc 7) (cond (Nat.beq pc 7) (tc_ldA 0 8) tc_no) (cond (Nat.ble pc 8) (cond (Nat.beq pc 8) (tc_getf 2 2 11) tc_no) (cond (Nat.beq pc 11) (tc_ldI 1 12) tc_no))) (cond (Nat.ble pc 12) (cond (Nat.beq pc 12) (tc_iald 13) tc_no) (cond (Nat.ble pc 13) (cond (Nat.beq pc 13) (tc_ic (-1) 14) tc_no) (cond (Nat.beq pc 14) (tc_icmpeq 19 17) tc_no))))) (cond (Nat.ble pc 25) (cond (Nat.ble pc 18) (cond (Nat.ble pc 17) (cond (Nat.beq pc 17) (tc_ic 0 18) tc_no) (cond (Nat.beq pc 18) (tc_zret) tc_no)) (cond (Nat.ble pc 19) (cond (Nat.beq pc 19) (tc_iinc 1 1 22) tc_no) (cond (Nat.ble pc 22) (cond (Nat.beq pc 22) (tc_goto 2) tc_no) (cond (Nat.beq pc 25) (tc_ldA 0 26) tc_no)))) (cond (Nat.ble pc 32) (cond (Nat.ble pc 26) (cond (Nat.beq pc 26) (tc_getf 2 9 29) tc_no) (cond (Nat.ble pc 29) (cond (Nat.beq pc 29) (tc_ifne 36 32) tc_no) (cond (Nat.beq pc 32) (tc_ic 1 33) tc_no))) (cond (Nat.ble pc 33) (cond (Nat.beq pc 33) (tc_goto 37) tc_no) (cond (Nat.ble pc 36) (cond (Nat.beq pc 36) (tc_ic 0 37) tc_no) (cond (Nat.beq pc 37) (tc_zret) tc_no)))))
theorem okX2_ends : ∀ pc, dt_S mX2_ends (tbX2_ends pc) pc := by
  intro pc
  unfold tbX2_ends
  exact dt_Sb (dt_Sb (dt_Sb (dt_Sb (dt_Sl 0 (sn_ic ⟨by decide, by decide⟩ dX2_ends_0 rfl)) (dt_Sl 1 (sn_stIn rfl (by decide) dX2_ends_1 rfl))) (dt_Sb (dt_Sl 2 (sn_ldIn rfl dX2_ends_2 rfl)) (dt_Sb (dt_Sl 3 (sn_ic ⟨by decide, by decide⟩ dX2_ends_3 rfl)) (dt_Sl 4 (sn_icmpge dX2_ends_4 (by decide) rfl))))) (dt_Sb (dt_Sb (dt_Sl 7 (sn_ldAn rfl dX2_ends_7 rfl)) (dt_Sb (dt_Sl 8 (sn_getf rfl ffX2 (by decide) wq_1_167 dX2_ends_8 rfl)) (dt_Sl 11 (sn_ldIn rfl dX2_ends_11 rfl)))) (dt_Sb (dt_Sl 12 (sn_iald dX2_ends_12 rfl)) (dt_Sb (dt_Sl 13 (sn_ic ⟨by decide, by decide⟩ dX2_ends_13 rfl)) (dt_Sl 14 (sn_icmpeq dX2_ends_14 (by decide) rfl)))))) (dt_Sb (dt_Sb (dt_Sb (dt_Sl 17 (sn_ic ⟨by decide, by decide⟩ dX2_ends_17 rfl)) (dt_Sl 18 (sn_zret rfl dX2_ends_18))) (dt_Sb (dt_Sl 19 (sn_iinc (by decide) dX2_ends_19 rfl)) (dt_Sb (dt_Sl 22 (sn_goto dX2_ends_22 (by decide))) (dt_Sl 25 (sn_ldAn rfl dX2_ends_25 rfl))))) (dt_Sb (dt_Sb (dt_Sl 26 (sn_getf rfl ffX2 (by decide) wq_1_175 dX2_ends_26 rfl)) (dt_Sb (dt_Sl 29 (sn_ifne dX2_ends_29 (by decide) rfl)) (dt_Sl 32 (sn_ic ⟨by decide, by decide⟩ dX2_ends_32 rfl)))) (dt_Sb (dt_Sl 33 (sn_goto dX2_ends_33 (by decide))) (dt_Sb (dt_Sl 36 (sn_ic ⟨by decide, by decide⟩ dX2_ends_36 rfl)) (dt_Sl 37 (sn_zret rfl dX2_ends_37))))))
theorem dX2_copyInto_0 : decode cX2_copyInto 0 = .ok (.aload_n 1, 1) := by decide +kernel
theorem dX2_copyInto_1 : decode cX2_copyInto 1 = .ok (.invokevirtual 58, 3) := by decide +kernel
theorem dX2_copyInto_4 : decode cX2_copyInto 4 = .ok (.aload_n 0, 1) := by decide +kernel
theorem dX2_copyInto_5 : decode cX2_copyInto 5 = .ok (.invokevirtual 44, 3) := by decide +kernel
theorem dX2_copyInto_8 : decode cX2_copyInto 8 = .ok (.iconst 0, 1) := by decide +kernel
theorem dX2_copyInto_9 : decode cX2_copyInto 9 = .ok (.istore_n 2, 1) := by decide +kernel
theorem dX2_copyInto_10 : decode cX2_copyInto 10 = .ok (.iload_n 2, 1) := by decide +kernel
theorem dX2_copyInto_11 : decode cX2_copyInto 11 = .ok (.aload_n 0, 1) := by decide +kernel
theorem dX2_copyInto_12 : decode cX2_copyInto 12 = .ok (.getfield 38, 3) := by decide +kernel
theorem dX2_copyInto_15 : decode cX2_copyInto 15 = .ok (.if_icmp .ge 42, 3) := by decide +kernel
theorem dX2_copyInto_18 : decode cX2_copyInto 18 = .ok (.iload_n 2, 1) := by decide +kernel
theorem dX2_copyInto_19 : decode cX2_copyInto 19 = .ok (.bipush 40, 2) := by decide +kernel
theorem dX2_copyInto_21 : decode cX2_copyInto 21 = .ok (.if_icmp .ge 36, 3) := by decide +kernel
theorem dX2_copyInto_24 : decode cX2_copyInto 24 = .ok (.aload_n 0, 1) := by decide +kernel
theorem dX2_copyInto_25 : decode cX2_copyInto 25 = .ok (.getfield 27, 3) := by decide +kernel
theorem dX2_copyInto_28 : decode cX2_copyInto 28 = .ok (.iload_n 2, 1) := by decide +kernel
theorem dX2_copyInto_29 : decode cX2_copyInto 29 = .ok (.iaload, 1) := by decide +kernel
theorem dX2_copyInto_30 : decode cX2_copyInto 30 = .ok (.istore_n 3, 1) := by decide +kernel
theorem dX2_copyInto_31 : decode cX2_copyInto 31 = .ok (.aload_n 1, 1) := by decide +kernel
theorem dX2_copyInto_32 : decode cX2_copyInto 32 = .ok (.aload_n 0, 1) := by decide +kernel
theorem dX2_copyInto_33 : decode cX2_copyInto 33 = .ok (.iload_n 3, 1) := by decide +kernel
theorem dX2_copyInto_34 : decode cX2_copyInto 34 = .ok (.invokevirtual 63, 3) := by decide +kernel
theorem dX2_copyInto_37 : decode cX2_copyInto 37 = .ok (.aload_n 0, 1) := by decide +kernel
theorem dX2_copyInto_38 : decode cX2_copyInto 38 = .ok (.getfield 15, 3) := by decide +kernel
theorem dX2_copyInto_41 : decode cX2_copyInto 41 = .ok (.iload_n 3, 1) := by decide +kernel
theorem dX2_copyInto_42 : decode cX2_copyInto 42 = .ok (.iaload, 1) := by decide +kernel
theorem dX2_copyInto_43 : decode cX2_copyInto 43 = .ok (.invokevirtual 67, 3) := by decide +kernel
theorem dX2_copyInto_46 : decode cX2_copyInto 46 = .ok (.aload_n 0, 1) := by decide +kernel
theorem dX2_copyInto_47 : decode cX2_copyInto 47 = .ok (.iload_n 3, 1) := by decide +kernel
theorem dX2_copyInto_48 : decode cX2_copyInto 48 = .ok (.invokevirtual 55, 3) := by decide +kernel
theorem dX2_copyInto_51 : decode cX2_copyInto 51 = .ok (.iinc 2 1, 3) := by decide +kernel
theorem dX2_copyInto_54 : decode cX2_copyInto 54 = .ok (.goto (-44), 3) := by decide +kernel
theorem dX2_copyInto_57 : decode cX2_copyInto 57 = .ok (.return_, 1) := by decide +kernel
def tbX2_copyInto (pc : Nat) : dt_T := cond (Nat.ble pc 28) (cond (Nat.ble pc 11) (cond (Nat.ble pc 5) (cond (Nat.ble pc 1) (cond (Nat.ble pc 0) (cond (Nat.beq pc 0) (tc_ldA 1 1) tc_no) (cond (Nat.beq pc 1) (tc_callV 5 mX5_empty 0 4) tc_no)) (cond (Nat.ble pc 4) (cond (Nat.beq pc 4) (tc_ldA 0 5) tc_no) (cond (Nat.beq pc 5) (tc_callV 2 mX2_goToStart 0 8) tc_no))) (cond (Nat.ble pc 9) (cond (Nat.ble pc 8) (cond (Nat.beq pc 8) (tc_ic 0 9) tc_no) (cond (Nat.beq pc 9) (tc_stI 2 10) tc_no)) (cond (Nat.ble pc 10) (cond (Nat.beq pc 10) (tc_ldI 2 11) tc_no) (cond (Nat.beq pc 11) (tc_ldA 0 12) tc_no)))) (cond (Nat.ble pc 19) (cond (Nat.ble pc 15) (cond (Nat.ble pc 12) (cond (Nat.beq pc 12) (tc_getf 2 8 15) tc_no) (cond (Nat.beq pc 15) (tc_icmpge 57 18) tc_no)) (cond (Nat.ble pc 18) (cond (Nat.beq pc 18) (tc_ldI 2 19) tc_no) (cond (Nat.beq pc 19) (tc_ic 40 21) tc_no))) (cond (Nat.ble pc 24) (cond (Nat.ble pc 21) (cond (Nat.beq pc 21) (tc_icmpge 57 24) tc_no) (cond (Nat.beq pc 24) (tc_ldA 0 25) tc_no)) (cond (Nat.ble pc 25) (cond (Nat.beq pc 25) (tc_getf 2 6 28) tc_no) (cond (Nat.beq pc 28) (tc_ldI 2 29) tc_no))))) (cond (Nat.ble pc 38) (cond (Nat.ble pc 32) (cond (Nat.ble pc 30) (cond (Nat.ble pc 29) (cond (Nat.beq pc 29) (tc_iald 30) tc_no) (cond (Nat.beq pc 30) (tc_stI 3 31) tc_no)) (cond (Nat.ble pc 31) (cond (Nat.beq pc 31) (tc_ldA 1 32) tc_no) (cond (Nat.beq pc 32) (tc_ldA 0 33) tc_no))) (cond (Nat.ble pc 34) (cond (Nat.ble pc 33) (cond (Nat.beq pc 33) (tc_ldI 3 34) tc_no) (cond (Nat.beq pc 34) (tc_callV 2 mX2_talkOf 1 37) tc_no)) (cond (Nat.ble pc 37) (cond (Nat.beq pc 37) (tc_ldA 0 38) tc_no) (cond (Nat.beq pc 38) (tc_getf 2 2 41) tc_no)))) (cond (Nat.ble pc 46) (cond (Nat.ble pc 42) (cond (Nat.ble pc 41) (cond (Nat.beq pc 41) (tc_ldI 3 42) tc_no) (cond (Nat.beq pc 42) (tc_iald 43) tc_no)) (cond (Nat.ble pc 43) (cond (Nat.beq pc 43) (tc_callV 5 mX5_addCopy 2 46) tc_no) (cond (Nat.beq pc 46) (tc_ldA 0 47) tc_no))) (cond (Nat.ble pc 48) (cond (Nat.ble pc 47) (cond (Nat.beq pc 47) (tc_ldI 3 48) tc_no) (cond (Nat.beq pc 48) (tc_callV 2 mX2_goOn 1 51) tc_no)) (cond (Nat.ble pc 51) (cond (Nat.beq pc 51) (tc_iinc 2 1 54) tc_no) (cond (Nat.ble pc 54) (cond (Nat.beq pc 54) (tc_goto 10) tc_no) (cond (Nat.beq pc 57) (tc_ret) tc_no))))))
theorem okX2_copyInto : ∀ pc, dt_S mX2_copyInto (tbX2_copyInto pc) pc := by
  intro pc
  unfold tbX2_copyInto
  exact dt_Sb (dt_Sb (dt_Sb (dt_Sb (dt_Sb (dt_Sl 0 (sn_ldAn rfl dX2_copyInto_0 rfl)) (dt_Sl 1 (sn_callV rfl ffX5 nnX5_empty rfl wq_3_125 wq_2_23 wq_2_24 dX2_copyInto_1 rfl))) (dt_Sb (dt_Sl 4 (sn_ldAn rfl dX2_copyInto_4 rfl)) (dt_Sl 5 (sn_callV rfl ffX2 nnX2_goToStart rfl wq_3_30 wq_3_32 wq_0_14 dX2_copyInto_5 rfl)))) (dt_Sb (dt_Sb (dt_Sl 8 (sn_ic ⟨by decide, by decide⟩ dX2_copyInto_8 rfl)) (dt_Sl 9 (sn_stIn rfl (by decide) dX2_copyInto_9 rfl))) (dt_Sb (dt_Sl 10 (sn_ldIn rfl dX2_copyInto_10 rfl)) (dt_Sl 11 (sn_ldAn rfl dX2_copyInto_11 rfl))))) (dt_Sb (dt_Sb (dt_Sb (dt_Sl 12 (sn_getf rfl ffX2 (by decide) wq_1_173 dX2_copyInto_12 rfl)) (dt_Sl 15 (sn_icmpge dX2_copyInto_15 (by decide) rfl))) (dt_Sb (dt_Sl 18 (sn_ldIn rfl dX2_copyInto_18 rfl)) (dt_Sl 19 (sn_bi ⟨by decide, by decide⟩ rfl dX2_copyInto_19 rfl)))) (dt_Sb (dt_Sb (dt_Sl 21 (sn_icmpge dX2_copyInto_21 (by decide) rfl)) (dt_Sl 24 (sn_ldAn rfl dX2_copyInto_24 rfl))) (dt_Sb (dt_Sl 25 (sn_getf rfl ffX2 (by decide) wq_1_171 dX2_copyInto_25 rfl)) (dt_Sl 28 (sn_ldIn rfl dX2_copyInto_28 rfl)))))) (dt_Sb (dt_Sb (dt_Sb (dt_Sb (dt_Sl 29 (sn_iald dX2_copyInto_29 rfl)) (dt_Sl 30 (sn_stIn rfl (by decide) dX2_copyInto_30 rfl))) (dt_Sb (dt_Sl 31 (sn_ldAn rfl dX2_copyInto_31 rfl)) (dt_Sl 32 (sn_ldAn rfl dX2_copyInto_32 rfl)))) (dt_Sb (dt_Sb (dt_Sl 33 (sn_ldIn rfl dX2_copyInto_33 rfl)) (dt_Sl 34 (sn_callV rfl ffX2 nnX2_talkOf rfl wq_3_34 wq_3_36 wq_0_15 dX2_copyInto_34 rfl))) (dt_Sb (dt_Sl 37 (sn_ldAn rfl dX2_copyInto_37 rfl)) (dt_Sl 38 (sn_getf rfl ffX2 (by decide) wq_1_167 dX2_copyInto_38 rfl))))) (dt_Sb (dt_Sb (dt_Sb (dt_Sl 41 (sn_ldIn rfl dX2_copyInto_41 rfl)) (dt_Sl 42 (sn_iald dX2_copyInto_42 rfl))) (dt_Sb (dt_Sl 43 (sn_callV rfl ffX5 nnX5_addCopy rfl wq_3_126 wq_2_130 wq_2_131 dX2_copyInto_43 rfl)) (dt_Sl 46 (sn_ldAn rfl dX2_copyInto_46 rfl)))) (dt_Sb (dt_Sb (dt_Sl 47 (sn_ldIn rfl dX2_copyInto_47 rfl)) (dt_Sl 48 (sn_callV rfl ffX2 nnX2_goOn rfl wq_3_58 wq_3_60 wq_0_20 dX2_copyInto_48 rfl))) (dt_Sb (dt_Sl 51 (sn_iinc (by decide) dX2_copyInto_51 rfl)) (dt_Sb (dt_Sl 54 (sn_goto dX2_copyInto_54 (by decide))) (dt_Sl 57 (sn_ret rfl dX2_copyInto_57)))))))
theorem dX2_talkOf_0 : decode cX2_talkOf 0 = .ok (.aload_n 0, 1) := by decide +kernel
theorem dX2_talkOf_1 : decode cX2_talkOf 1 = .ok (.getfield 30, 3) := by decide +kernel
theorem dX2_talkOf_4 : decode cX2_talkOf 4 = .ok (.aload_n 0, 1) := by decide +kernel
theorem dX2_talkOf_5 : decode cX2_talkOf 5 = .ok (.getfield 34, 3) := by decide +kernel
theorem dX2_talkOf_8 : decode cX2_talkOf 8 = .ok (.iload_n 1, 1) := by decide +kernel
theorem dX2_talkOf_9 : decode cX2_talkOf 9 = .ok (.invokestatic 71, 3) := by decide +kernel
theorem dX2_talkOf_12 : decode cX2_talkOf 12 = .ok (.aaload, 1) := by decide +kernel
theorem dX2_talkOf_13 : decode cX2_talkOf 13 = .ok (.areturn, 1) := by decide +kernel
def tbX2_talkOf (pc : Nat) : dt_T := cond (Nat.ble pc 5) (cond (Nat.ble pc 1) (cond (Nat.ble pc 0) (cond (Nat.beq pc 0) (tc_ldA 0 1) tc_no) (cond (Nat.beq pc 1) (tc_getf 2 0 4) tc_no)) (cond (Nat.ble pc 4) (cond (Nat.beq pc 4) (tc_ldA 0 5) tc_no) (cond (Nat.beq pc 5) (tc_getf 2 7 8) tc_no))) (cond (Nat.ble pc 9) (cond (Nat.ble pc 8) (cond (Nat.beq pc 8) (tc_ldI 1 9) tc_no) (cond (Nat.beq pc 9) (tc_callS mX6_choice 2 12) tc_no)) (cond (Nat.ble pc 12) (cond (Nat.beq pc 12) (tc_aald 13) tc_no) (cond (Nat.beq pc 13) (tc_aret) tc_no)))
theorem okX2_talkOf : ∀ pc, dt_S mX2_talkOf (tbX2_talkOf pc) pc := by
  intro pc
  unfold tbX2_talkOf
  exact dt_Sb (dt_Sb (dt_Sb (dt_Sl 0 (sn_ldAn rfl dX2_talkOf_0 rfl)) (dt_Sl 1 (sn_getf rfl ffX2 (by decide) wq_1_165 dX2_talkOf_1 rfl))) (dt_Sb (dt_Sl 4 (sn_ldAn rfl dX2_talkOf_4 rfl)) (dt_Sl 5 (sn_getf rfl ffX2 (by decide) wq_1_172 dX2_talkOf_5 rfl)))) (dt_Sb (dt_Sb (dt_Sl 8 (sn_ldIn rfl dX2_talkOf_8 rfl)) (dt_Sl 9 (sn_callSN rfl nnX6_choice wq_3_38 wq_3_39 dX2_talkOf_9 rfl))) (dt_Sb (dt_Sl 12 (sn_aald dX2_talkOf_12 rfl)) (dt_Sl 13 (sn_aret rfl dX2_talkOf_13))))
theorem dX2_goToStart_0 : decode cX2_goToStart 0 = .ok (.iconst 0, 1) := by decide +kernel
theorem dX2_goToStart_1 : decode cX2_goToStart 1 = .ok (.istore_n 1, 1) := by decide +kernel
theorem dX2_goToStart_2 : decode cX2_goToStart 2 = .ok (.iload_n 1, 1) := by decide +kernel
theorem dX2_goToStart_3 : decode cX2_goToStart 3 = .ok (.iconst 4, 1) := by decide +kernel
theorem dX2_goToStart_4 : decode cX2_goToStart 4 = .ok (.if_icmp .ge 32, 3) := by decide +kernel
theorem dX2_goToStart_7 : decode cX2_goToStart 7 = .ok (.aload_n 0, 1) := by decide +kernel
theorem dX2_goToStart_8 : decode cX2_goToStart 8 = .ok (.getfield 9, 3) := by decide +kernel
theorem dX2_goToStart_11 : decode cX2_goToStart 11 = .ok (.iload_n 1, 1) := by decide +kernel
theorem dX2_goToStart_12 : decode cX2_goToStart 12 = .ok (.iconst 0, 1) := by decide +kernel
theorem dX2_goToStart_13 : decode cX2_goToStart 13 = .ok (.iastore, 1) := by decide +kernel
theorem dX2_goToStart_14 : decode cX2_goToStart 14 = .ok (.aload_n 0, 1) := by decide +kernel
theorem dX2_goToStart_15 : decode cX2_goToStart 15 = .ok (.getfield 15, 3) := by decide +kernel
theorem dX2_goToStart_18 : decode cX2_goToStart 18 = .ok (.iload_n 1, 1) := by decide +kernel
theorem dX2_goToStart_19 : decode cX2_goToStart 19 = .ok (.aload_n 0, 1) := by decide +kernel
theorem dX2_goToStart_20 : decode cX2_goToStart 20 = .ok (.iload_n 1, 1) := by decide +kernel
theorem dX2_goToStart_21 : decode cX2_goToStart 21 = .ok (.invokevirtual 63, 3) := by decide +kernel
theorem dX2_goToStart_24 : decode cX2_goToStart 24 = .ok (.iload_n 1, 1) := by decide +kernel
theorem dX2_goToStart_25 : decode cX2_goToStart 25 = .ok (.iconst 0, 1) := by decide +kernel
theorem dX2_goToStart_26 : decode cX2_goToStart 26 = .ok (.invokevirtual 75, 3) := by decide +kernel
theorem dX2_goToStart_29 : decode cX2_goToStart 29 = .ok (.iastore, 1) := by decide +kernel
theorem dX2_goToStart_30 : decode cX2_goToStart 30 = .ok (.iinc 1 1, 3) := by decide +kernel
theorem dX2_goToStart_33 : decode cX2_goToStart 33 = .ok (.goto (-31), 3) := by decide +kernel
theorem dX2_goToStart_36 : decode cX2_goToStart 36 = .ok (.return_, 1) := by decide +kernel
def tbX2_goToStart (pc : Nat) : dt_T := cond (Nat.ble pc 14) (cond (Nat.ble pc 4) (cond (Nat.ble pc 1) (cond (Nat.ble pc 0) (cond (Nat.beq pc 0) (tc_ic 0 1) tc_no) (cond (Nat.beq pc 1) (tc_stI 1 2) tc_no)) (cond (Nat.ble pc 2) (cond (Nat.beq pc 2) (tc_ldI 1 3) tc_no) (cond (Nat.ble pc 3) (cond (Nat.beq pc 3) (tc_ic 4 4) tc_no) (cond (Nat.beq pc 4) (tc_icmpge 36 7) tc_no)))) (cond (Nat.ble pc 11) (cond (Nat.ble pc 7) (cond (Nat.beq pc 7) (tc_ldA 0 8) tc_no) (cond (Nat.ble pc 8) (cond (Nat.beq pc 8) (tc_getf 2 1 11) tc_no) (cond (Nat.beq pc 11) (tc_ldI 1 12) tc_no))) (cond (Nat.ble pc 12) (cond (Nat.beq pc 12) (tc_ic 0 13) tc_no) (cond (Nat.ble pc 13) (cond (Nat.beq pc 13) (tc_iast 14) tc_no) (cond (Nat.beq pc 14) (tc_ldA 0 15) tc_no))))) (cond (Nat.ble pc 24) (cond (Nat.ble pc 19) (cond (Nat.ble pc 15) (cond (Nat.beq pc 15) (tc_getf 2 2 18) tc_no) (cond (Nat.ble pc 18) (cond (Nat.beq pc 18) (tc_ldI 1 19) tc_no) (cond (Nat.beq pc 19) (tc_ldA 0 20) tc_no))) (cond (Nat.ble pc 20) (cond (Nat.beq pc 20) (tc_ldI 1 21) tc_no) (cond (Nat.ble pc 21) (cond (Nat.beq pc 21) (tc_callV 2 mX2_talkOf 1 24) tc_no) (cond (Nat.beq pc 24) (tc_ldI 1 25) tc_no)))) (cond (Nat.ble pc 29) (cond (Nat.ble pc 25) (cond (Nat.beq pc 25) (tc_ic 0 26) tc_no) (cond (Nat.ble pc 26) (cond (Nat.beq pc 26) (tc_callV 5 mX5_onLine 2 29) tc_no) (cond (Nat.beq pc 29) (tc_iast 30) tc_no))) (cond (Nat.ble pc 30) (cond (Nat.beq pc 30) (tc_iinc 1 1 33) tc_no) (cond (Nat.ble pc 33) (cond (Nat.beq pc 33) (tc_goto 2) tc_no) (cond (Nat.beq pc 36) (tc_ret) tc_no)))))
theorem okX2_goToStart : ∀ pc, dt_S mX2_goToStart (tbX2_goToStart pc) pc := by
  intro pc
  unfold tbX2_goToStart
  exact dt_Sb (dt_Sb (dt_Sb (dt_Sb (dt_Sl 0 (sn_ic ⟨by decide, by decide⟩ dX2_goToStart_0 rfl)) (dt_Sl 1 (sn_stIn rfl (by decide) dX2_goToStart_1 rfl))) (dt_Sb (dt_Sl 2 (sn_ldIn rfl dX2_goToStart_2 rfl)) (dt_Sb (dt_Sl 3 (sn_ic ⟨by decide, by decide⟩ dX2_goToStart_3 rfl)) (dt_Sl 4 (sn_icmpge dX2_goToStart_4 (by decide) rfl))))) (dt_Sb (dt_Sb (dt_Sl 7 (sn_ldAn rfl dX2_goToStart_7 rfl)) (dt_Sb (dt_Sl 8 (sn_getf rfl ffX2 (by decide) wq_1_166 dX2_goToStart_8 rfl)) (dt_Sl 11 (sn_ldIn rfl dX2_goToStart_11 rfl)))) (dt_Sb (dt_Sl 12 (sn_ic ⟨by decide, by decide⟩ dX2_goToStart_12 rfl)) (dt_Sb (dt_Sl 13 (sn_iast dX2_goToStart_13 rfl)) (dt_Sl 14 (sn_ldAn rfl dX2_goToStart_14 rfl)))))) (dt_Sb (dt_Sb (dt_Sb (dt_Sl 15 (sn_getf rfl ffX2 (by decide) wq_1_167 dX2_goToStart_15 rfl)) (dt_Sb (dt_Sl 18 (sn_ldIn rfl dX2_goToStart_18 rfl)) (dt_Sl 19 (sn_ldAn rfl dX2_goToStart_19 rfl)))) (dt_Sb (dt_Sl 20 (sn_ldIn rfl dX2_goToStart_20 rfl)) (dt_Sb (dt_Sl 21 (sn_callV rfl ffX2 nnX2_talkOf rfl wq_3_34 wq_3_36 wq_0_15 dX2_goToStart_21 rfl)) (dt_Sl 24 (sn_ldIn rfl dX2_goToStart_24 rfl))))) (dt_Sb (dt_Sb (dt_Sl 25 (sn_ic ⟨by decide, by decide⟩ dX2_goToStart_25 rfl)) (dt_Sb (dt_Sl 26 (sn_callV rfl ffX5 nnX5_onLine rfl wq_3_41 wq_2_163 wq_2_164 dX2_goToStart_26 rfl)) (dt_Sl 29 (sn_iast dX2_goToStart_29 rfl)))) (dt_Sb (dt_Sl 30 (sn_iinc (by decide) dX2_goToStart_30 rfl)) (dt_Sb (dt_Sl 33 (sn_goto dX2_goToStart_33 (by decide))) (dt_Sl 36 (sn_ret rfl dX2_goToStart_36))))))
theorem dX2_goOn_0 : decode cX2_goOn 0 = .ok (.aload_n 0, 1) := by decide +kernel
theorem dX2_goOn_1 : decode cX2_goOn 1 = .ok (.getfield 9, 3) := by decide +kernel
theorem dX2_goOn_4 : decode cX2_goOn 4 = .ok (.iload_n 1, 1) := by decide +kernel
theorem dX2_goOn_5 : decode cX2_goOn 5 = .ok (.dup2, 1) := by decide +kernel
theorem dX2_goOn_6 : decode cX2_goOn 6 = .ok (.iaload, 1) := by decide +kernel
theorem dX2_goOn_7 : decode cX2_goOn 7 = .ok (.iconst 1, 1) := by decide +kernel
theorem dX2_goOn_8 : decode cX2_goOn 8 = .ok (.iadd, 1) := by decide +kernel
theorem dX2_goOn_9 : decode cX2_goOn 9 = .ok (.iastore, 1) := by decide +kernel
theorem dX2_goOn_10 : decode cX2_goOn 10 = .ok (.aload_n 0, 1) := by decide +kernel
theorem dX2_goOn_11 : decode cX2_goOn 11 = .ok (.getfield 15, 3) := by decide +kernel
theorem dX2_goOn_14 : decode cX2_goOn 14 = .ok (.iload_n 1, 1) := by decide +kernel
theorem dX2_goOn_15 : decode cX2_goOn 15 = .ok (.aload_n 0, 1) := by decide +kernel
theorem dX2_goOn_16 : decode cX2_goOn 16 = .ok (.iload_n 1, 1) := by decide +kernel
theorem dX2_goOn_17 : decode cX2_goOn 17 = .ok (.invokevirtual 63, 3) := by decide +kernel
theorem dX2_goOn_20 : decode cX2_goOn 20 = .ok (.iload_n 1, 1) := by decide +kernel
theorem dX2_goOn_21 : decode cX2_goOn 21 = .ok (.aload_n 0, 1) := by decide +kernel
theorem dX2_goOn_22 : decode cX2_goOn 22 = .ok (.getfield 9, 3) := by decide +kernel
theorem dX2_goOn_25 : decode cX2_goOn 25 = .ok (.iload_n 1, 1) := by decide +kernel
theorem dX2_goOn_26 : decode cX2_goOn 26 = .ok (.iaload, 1) := by decide +kernel
theorem dX2_goOn_27 : decode cX2_goOn 27 = .ok (.invokevirtual 75, 3) := by decide +kernel
theorem dX2_goOn_30 : decode cX2_goOn 30 = .ok (.iastore, 1) := by decide +kernel
theorem dX2_goOn_31 : decode cX2_goOn 31 = .ok (.return_, 1) := by decide +kernel
def tbX2_goOn (pc : Nat) : dt_T := cond (Nat.ble pc 14) (cond (Nat.ble pc 6) (cond (Nat.ble pc 1) (cond (Nat.ble pc 0) (cond (Nat.beq pc 0) (tc_ldA 0 1) tc_no) (cond (Nat.beq pc 1) (tc_getf 2 1 4) tc_no)) (cond (Nat.ble pc 4) (cond (Nat.beq pc 4) (tc_ldI 1 5) tc_no) (cond (Nat.ble pc 5) (cond (Nat.beq pc 5) (tc_dup2 6) tc_no) (cond (Nat.beq pc 6) (tc_iald 7) tc_no)))) (cond (Nat.ble pc 9) (cond (Nat.ble pc 7) (cond (Nat.beq pc 7) (tc_ic 1 8) tc_no) (cond (Nat.ble pc 8) (cond (Nat.beq pc 8) (tc_iadd 9) tc_no) (cond (Nat.beq pc 9) (tc_iast 10) tc_no))) (cond (Nat.ble pc 10) (cond (Nat.beq pc 10) (tc_ldA 0 11) tc_no) (cond (Nat.ble pc 11) (cond (Nat.beq pc 11) (tc_getf 2 2 14) tc_no) (cond (Nat.beq pc 14) (tc_ldI 1 15) tc_no))))) (cond (Nat.ble pc 21) (cond (Nat.ble pc 16) (cond (Nat.ble pc 15) (cond (Nat.beq pc 15) (tc_ldA 0 16) tc_no) (cond (Nat.beq pc 16) (tc_ldI 1 17) tc_no)) (cond (Nat.ble pc 17) (cond (Nat.beq pc 17) (tc_callV 2 mX2_talkOf 1 20) tc_no) (cond (Nat.ble pc 20) (cond (Nat.beq pc 20) (tc_ldI 1 21) tc_no) (cond (Nat.beq pc 21) (tc_ldA 0 22) tc_no)))) (cond (Nat.ble pc 26) (cond (Nat.ble pc 22) (cond (Nat.beq pc 22) (tc_getf 2 1 25) tc_no) (cond (Nat.ble pc 25) (cond (Nat.beq pc 25) (tc_ldI 1 26) tc_no) (cond (Nat.beq pc 26) (tc_iald 27) tc_no))) (cond (Nat.ble pc 27) (cond (Nat.beq pc 27) (tc_callV 5 mX5_onLine 2 30) tc_no) (cond (Nat.ble pc 30) (cond (Nat.beq pc 30) (tc_iast 31) tc_no) (cond (Nat.beq pc 31) (tc_ret) tc_no)))))
theorem okX2_goOn : ∀ pc, dt_S mX2_goOn (tbX2_goOn pc) pc := by
  intro pc
  unfold tbX2_goOn
  exact dt_Sb (dt_Sb (dt_Sb (dt_Sb (dt_Sl 0 (sn_ldAn rfl dX2_goOn_0 rfl)) (dt_Sl 1 (sn_getf rfl ffX2 (by decide) wq_1_166 dX2_goOn_1 rfl))) (dt_Sb (dt_Sl 4 (sn_ldIn rfl dX2_goOn_4 rfl)) (dt_Sb (dt_Sl 5 (sn_dup2 dX2_goOn_5 rfl)) (dt_Sl 6 (sn_iald dX2_goOn_6 rfl))))) (dt_Sb (dt_Sb (dt_Sl 7 (sn_ic ⟨by decide, by decide⟩ dX2_goOn_7 rfl)) (dt_Sb (dt_Sl 8 (sn_iadd dX2_goOn_8 rfl)) (dt_Sl 9 (sn_iast dX2_goOn_9 rfl)))) (dt_Sb (dt_Sl 10 (sn_ldAn rfl dX2_goOn_10 rfl)) (dt_Sb (dt_Sl 11 (sn_getf rfl ffX2 (by decide) wq_1_167 dX2_goOn_11 rfl)) (dt_Sl 14 (sn_ldIn rfl dX2_goOn_14 rfl)))))) (dt_Sb (dt_Sb (dt_Sb (dt_Sl 15 (sn_ldAn rfl dX2_goOn_15 rfl)) (dt_Sl 16 (sn_ldIn rfl dX2_goOn_16 rfl))) (dt_Sb (dt_Sl 17 (sn_callV rfl ffX2 nnX2_talkOf rfl wq_3_34 wq_3_36 wq_0_15 dX2_goOn_17 rfl)) (dt_Sb (dt_Sl 20 (sn_ldIn rfl dX2_goOn_20 rfl)) (dt_Sl 21 (sn_ldAn rfl dX2_goOn_21 rfl))))) (dt_Sb (dt_Sb (dt_Sl 22 (sn_getf rfl ffX2 (by decide) wq_1_166 dX2_goOn_22 rfl)) (dt_Sb (dt_Sl 25 (sn_ldIn rfl dX2_goOn_25 rfl)) (dt_Sl 26 (sn_iald dX2_goOn_26 rfl)))) (dt_Sb (dt_Sl 27 (sn_callV rfl ffX5 nnX5_onLine rfl wq_3_41 wq_2_163 wq_2_164 dX2_goOn_27 rfl)) (dt_Sb (dt_Sl 30 (sn_iast dX2_goOn_30 rfl)) (dt_Sl 31 (sn_ret rfl dX2_goOn_31))))))
theorem dX2_firstThatCan_0 : decode cX2_firstThatCan 0 = .ok (.iconst 0, 1) := by decide +kernel
theorem dX2_firstThatCan_1 : decode cX2_firstThatCan 1 = .ok (.istore_n 1, 1) := by decide +kernel
theorem dX2_firstThatCan_2 : decode cX2_firstThatCan 2 = .ok (.iload_n 1, 1) := by decide +kernel
theorem dX2_firstThatCan_3 : decode cX2_firstThatCan 3 = .ok (.iconst 4, 1) := by decide +kernel
theorem dX2_firstThatCan_4 : decode cX2_firstThatCan 4 = .ok (.if_icmp .ge 19, 3) := by decide +kernel
theorem dX2_firstThatCan_7 : decode cX2_firstThatCan 7 = .ok (.aload_n 0, 1) := by decide +kernel
theorem dX2_firstThatCan_8 : decode cX2_firstThatCan 8 = .ok (.iload_n 1, 1) := by decide +kernel
theorem dX2_firstThatCan_9 : decode cX2_firstThatCan 9 = .ok (.invokevirtual 78, 3) := by decide +kernel
theorem dX2_firstThatCan_12 : decode cX2_firstThatCan 12 = .ok (.ifCond .eq 5, 3) := by decide +kernel
theorem dX2_firstThatCan_15 : decode cX2_firstThatCan 15 = .ok (.iload_n 1, 1) := by decide +kernel
theorem dX2_firstThatCan_16 : decode cX2_firstThatCan 16 = .ok (.ireturn, 1) := by decide +kernel
theorem dX2_firstThatCan_17 : decode cX2_firstThatCan 17 = .ok (.iinc 1 1, 3) := by decide +kernel
theorem dX2_firstThatCan_20 : decode cX2_firstThatCan 20 = .ok (.goto (-18), 3) := by decide +kernel
theorem dX2_firstThatCan_23 : decode cX2_firstThatCan 23 = .ok (.iconst (-1), 1) := by decide +kernel
theorem dX2_firstThatCan_24 : decode cX2_firstThatCan 24 = .ok (.ireturn, 1) := by decide +kernel
def tbX2_firstThatCan (pc : Nat) : dt_T := cond (Nat.ble pc 8) (cond (Nat.ble pc 2) (cond (Nat.ble pc 0) (cond (Nat.beq pc 0) (tc_ic 0 1) tc_no) (cond (Nat.ble pc 1) (cond (Nat.beq pc 1) (tc_stI 1 2) tc_no) (cond (Nat.beq pc 2) (tc_ldI 1 3) tc_no))) (cond (Nat.ble pc 4) (cond (Nat.ble pc 3) (cond (Nat.beq pc 3) (tc_ic 4 4) tc_no) (cond (Nat.beq pc 4) (tc_icmpge 23 7) tc_no)) (cond (Nat.ble pc 7) (cond (Nat.beq pc 7) (tc_ldA 0 8) tc_no) (cond (Nat.beq pc 8) (tc_ldI 1 9) tc_no)))) (cond (Nat.ble pc 16) (cond (Nat.ble pc 12) (cond (Nat.ble pc 9) (cond (Nat.beq pc 9) (tc_callV 2 mX2_can 1 12) tc_no) (cond (Nat.beq pc 12) (tc_ifeq 17 15) tc_no)) (cond (Nat.ble pc 15) (cond (Nat.beq pc 15) (tc_ldI 1 16) tc_no) (cond (Nat.beq pc 16) (tc_iret) tc_no))) (cond (Nat.ble pc 20) (cond (Nat.ble pc 17) (cond (Nat.beq pc 17) (tc_iinc 1 1 20) tc_no) (cond (Nat.beq pc 20) (tc_goto 2) tc_no)) (cond (Nat.ble pc 23) (cond (Nat.beq pc 23) (tc_ic (-1) 24) tc_no) (cond (Nat.beq pc 24) (tc_iret) tc_no))))
theorem okX2_firstThatCan : ∀ pc, dt_S mX2_firstThatCan (tbX2_firstThatCan pc) pc := by
  intro pc
  unfold tbX2_firstThatCan
  exact dt_Sb (dt_Sb (dt_Sb (dt_Sl 0 (sn_ic ⟨by decide, by decide⟩ dX2_firstThatCan_0 rfl)) (dt_Sb (dt_Sl 1 (sn_stIn rfl (by decide) dX2_firstThatCan_1 rfl)) (dt_Sl 2 (sn_ldIn rfl dX2_firstThatCan_2 rfl)))) (dt_Sb (dt_Sb (dt_Sl 3 (sn_ic ⟨by decide, by decide⟩ dX2_firstThatCan_3 rfl)) (dt_Sl 4 (sn_icmpge dX2_firstThatCan_4 (by decide) rfl))) (dt_Sb (dt_Sl 7 (sn_ldAn rfl dX2_firstThatCan_7 rfl)) (dt_Sl 8 (sn_ldIn rfl dX2_firstThatCan_8 rfl))))) (dt_Sb (dt_Sb (dt_Sb (dt_Sl 9 (sn_callV rfl ffX2 nnX2_can rfl wq_3_46 wq_3_48 wq_0_17 dX2_firstThatCan_9 rfl)) (dt_Sl 12 (sn_ifeq dX2_firstThatCan_12 (by decide) rfl))) (dt_Sb (dt_Sl 15 (sn_ldIn rfl dX2_firstThatCan_15 rfl)) (dt_Sl 16 (sn_iret rfl dX2_firstThatCan_16)))) (dt_Sb (dt_Sb (dt_Sl 17 (sn_iinc (by decide) dX2_firstThatCan_17 rfl)) (dt_Sl 20 (sn_goto dX2_firstThatCan_20 (by decide)))) (dt_Sb (dt_Sl 23 (sn_ic ⟨by decide, by decide⟩ dX2_firstThatCan_23 rfl)) (dt_Sl 24 (sn_iret rfl dX2_firstThatCan_24)))))
theorem dX2_can_0 : decode cX2_can 0 = .ok (.aload_n 0, 1) := by decide +kernel
theorem dX2_can_1 : decode cX2_can 1 = .ok (.getfield 15, 3) := by decide +kernel
theorem dX2_can_4 : decode cX2_can 4 = .ok (.iload_n 1, 1) := by decide +kernel
theorem dX2_can_5 : decode cX2_can 5 = .ok (.iaload, 1) := by decide +kernel
theorem dX2_can_6 : decode cX2_can 6 = .ok (.istore_n 2, 1) := by decide +kernel
theorem dX2_can_7 : decode cX2_can 7 = .ok (.iload_n 2, 1) := by decide +kernel
theorem dX2_can_8 : decode cX2_can 8 = .ok (.iconst (-1), 1) := by decide +kernel
theorem dX2_can_9 : decode cX2_can 9 = .ok (.if_icmp .ne 5, 3) := by decide +kernel
theorem dX2_can_12 : decode cX2_can 12 = .ok (.iconst 0, 1) := by decide +kernel
theorem dX2_can_13 : decode cX2_can 13 = .ok (.ireturn, 1) := by decide +kernel
theorem dX2_can_14 : decode cX2_can 14 = .ok (.aload_n 0, 1) := by decide +kernel
theorem dX2_can_15 : decode cX2_can 15 = .ok (.iload_n 1, 1) := by decide +kernel
theorem dX2_can_16 : decode cX2_can 16 = .ok (.invokevirtual 63, 3) := by decide +kernel
theorem dX2_can_19 : decode cX2_can 19 = .ok (.astore_n 3, 1) := by decide +kernel
theorem dX2_can_20 : decode cX2_can 20 = .ok (.aload_n 3, 1) := by decide +kernel
theorem dX2_can_21 : decode cX2_can 21 = .ok (.getfield 82, 3) := by decide +kernel
theorem dX2_can_24 : decode cX2_can 24 = .ok (.iload_n 2, 1) := by decide +kernel
theorem dX2_can_25 : decode cX2_can 25 = .ok (.baload, 1) := by decide +kernel
theorem dX2_can_26 : decode cX2_can 26 = .ok (.ifCond .ne 5, 3) := by decide +kernel
theorem dX2_can_29 : decode cX2_can 29 = .ok (.iconst 1, 1) := by decide +kernel
theorem dX2_can_30 : decode cX2_can 30 = .ok (.ireturn, 1) := by decide +kernel
theorem dX2_can_31 : decode cX2_can 31 = .ok (.aload_n 3, 1) := by decide +kernel
theorem dX2_can_32 : decode cX2_can 32 = .ok (.getfield 86, 3) := by decide +kernel
theorem dX2_can_35 : decode cX2_can 35 = .ok (.iload_n 2, 1) := by decide +kernel
theorem dX2_can_36 : decode cX2_can 36 = .ok (.iaload, 1) := by decide +kernel
theorem dX2_can_37 : decode cX2_can 37 = .ok (.iconst 4, 1) := by decide +kernel
theorem dX2_can_38 : decode cX2_can 38 = .ok (.imul, 1) := by decide +kernel
theorem dX2_can_39 : decode cX2_can 39 = .ok (.iload_n 1, 1) := by decide +kernel
theorem dX2_can_40 : decode cX2_can 40 = .ok (.iadd, 1) := by decide +kernel
theorem dX2_can_41 : decode cX2_can 41 = .ok (.istore 4, 2) := by decide +kernel
theorem dX2_can_43 : decode cX2_can 43 = .ok (.aload_n 0, 1) := by decide +kernel
theorem dX2_can_44 : decode cX2_can 44 = .ok (.getfield 24, 3) := by decide +kernel
theorem dX2_can_47 : decode cX2_can 47 = .ok (.iload 4, 2) := by decide +kernel
theorem dX2_can_49 : decode cX2_can 49 = .ok (.iaload, 1) := by decide +kernel
theorem dX2_can_50 : decode cX2_can 50 = .ok (.aload_n 0, 1) := by decide +kernel
theorem dX2_can_51 : decode cX2_can 51 = .ok (.getfield 21, 3) := by decide +kernel
theorem dX2_can_54 : decode cX2_can 54 = .ok (.iload 4, 2) := by decide +kernel
theorem dX2_can_56 : decode cX2_can 56 = .ok (.iaload, 1) := by decide +kernel
theorem dX2_can_57 : decode cX2_can 57 = .ok (.if_icmp .ge 34, 3) := by decide +kernel
theorem dX2_can_60 : decode cX2_can 60 = .ok (.aload_n 0, 1) := by decide +kernel
theorem dX2_can_61 : decode cX2_can 61 = .ok (.getfield 18, 3) := by decide +kernel
theorem dX2_can_64 : decode cX2_can 64 = .ok (.iload 4, 2) := by decide +kernel
theorem dX2_can_66 : decode cX2_can 66 = .ok (.bipush 10, 2) := by decide +kernel
theorem dX2_can_68 : decode cX2_can 68 = .ok (.imul, 1) := by decide +kernel
theorem dX2_can_69 : decode cX2_can 69 = .ok (.aload_n 0, 1) := by decide +kernel
theorem dX2_can_70 : decode cX2_can 70 = .ok (.getfield 24, 3) := by decide +kernel
theorem dX2_can_73 : decode cX2_can 73 = .ok (.iload 4, 2) := by decide +kernel
theorem dX2_can_75 : decode cX2_can 75 = .ok (.iaload, 1) := by decide +kernel
theorem dX2_can_76 : decode cX2_can 76 = .ok (.iadd, 1) := by decide +kernel
theorem dX2_can_77 : decode cX2_can 77 = .ok (.iaload, 1) := by decide +kernel
theorem dX2_can_78 : decode cX2_can 78 = .ok (.aload_n 3, 1) := by decide +kernel
theorem dX2_can_79 : decode cX2_can 79 = .ok (.getfield 89, 3) := by decide +kernel
theorem dX2_can_82 : decode cX2_can 82 = .ok (.iload_n 2, 1) := by decide +kernel
theorem dX2_can_83 : decode cX2_can 83 = .ok (.iaload, 1) := by decide +kernel
theorem dX2_can_84 : decode cX2_can 84 = .ok (.if_icmp .ne 7, 3) := by decide +kernel
theorem dX2_can_87 : decode cX2_can 87 = .ok (.iconst 1, 1) := by decide +kernel
theorem dX2_can_88 : decode cX2_can 88 = .ok (.goto 4, 3) := by decide +kernel
theorem dX2_can_91 : decode cX2_can 91 = .ok (.iconst 0, 1) := by decide +kernel
theorem dX2_can_92 : decode cX2_can 92 = .ok (.ireturn, 1) := by decide +kernel
def tbX2_can (pc : Nat) : dt_T := cond (Nat.ble pc 40) (cond (Nat.ble pc 19) (cond (Nat.ble pc 8) (cond (Nat.ble pc 4) (cond (Nat.ble pc 0) (cond (Nat.beq pc 0) (tc_ldA 0 1) tc_no) (cond (Nat.ble pc 1) (cond (Nat.beq pc 1) (tc_getf 2 2 4) tc_no) (cond (Nat.beq pc 4) (tc_ldI 1 5) tc_no))) (cond (Nat.ble pc 6) (cond (Nat.ble pc 5) (cond (Nat.beq pc 5) (tc_iald 6) tc_no) (cond (Nat.beq pc 6) (tc_stI 2 7) tc_no)) (cond (Nat.ble pc 7) (cond (Nat.beq pc 7) (tc_ldI 2 8) tc_no) (cond (Nat.beq pc 8) (tc_ic (-1) 9) tc_no)))) (cond (Nat.ble pc 13) (cond (Nat.ble pc 9) (cond (Nat.beq pc 9) (tc_icmpne 14 12) tc_no) (cond (Nat.ble pc 12) (cond (Nat.beq pc 12) (tc_ic 0 13) tc_no) (cond (Nat.beq pc 13) (tc_zret) tc_no))) (cond (Nat.ble pc 15) (cond (Nat.ble pc 14) (cond (Nat.beq pc 14) (tc_ldA 0 15) tc_no) (cond (Nat.beq pc 15) (tc_ldI 1 16) tc_no)) (cond (Nat.ble pc 16) (cond (Nat.beq pc 16) (tc_callV 2 mX2_talkOf 1 19) tc_no) (cond (Nat.beq pc 19) (tc_stA 3 20) tc_no))))) (cond (Nat.ble pc 30) (cond (Nat.ble pc 24) (cond (Nat.ble pc 20) (cond (Nat.beq pc 20) (tc_ldA 3 21) tc_no) (cond (Nat.ble pc 21) (cond (Nat.beq pc 21) (tc_getf 5 0 24) tc_no) (cond (Nat.beq pc 24) (tc_ldI 2 25) tc_no))) (cond (Nat.ble pc 26) (cond (Nat.ble pc 25) (cond (Nat.beq pc 25) (tc_zald 26) tc_no) (cond (Nat.beq pc 26) (tc_ifne 31 29) tc_no)) (cond (Nat.ble pc 29) (cond (Nat.beq pc 29) (tc_ic 1 30) tc_no) (cond (Nat.beq pc 30) (tc_zret) tc_no)))) (cond (Nat.ble pc 36) (cond (Nat.ble pc 32) (cond (Nat.ble pc 31) (cond (Nat.beq pc 31) (tc_ldA 3 32) tc_no) (cond (Nat.beq pc 32) (tc_getf 5 2 35) tc_no)) (cond (Nat.ble pc 35) (cond (Nat.beq pc 35) (tc_ldI 2 36) tc_no) (cond (Nat.beq pc 36) (tc_iald 37) tc_no))) (cond (Nat.ble pc 38) (cond (Nat.ble pc 37) (cond (Nat.beq pc 37) (tc_ic 4 38) tc_no) (cond (Nat.beq pc 38) (tc_imul 39) tc_no)) (cond (Nat.ble pc 39) (cond (Nat.beq pc 39) (tc_ldI 1 40) tc_no) (cond (Nat.beq pc 40) (tc_iadd 41) tc_no)))))) (cond (Nat.ble pc 68) (cond (Nat.ble pc 51) (cond (Nat.ble pc 44) (cond (Nat.ble pc 41) (cond (Nat.beq pc 41) (tc_stI 4 43) tc_no) (cond (Nat.ble pc 43) (cond (Nat.beq pc 43) (tc_ldA 0 44) tc_no) (cond (Nat.beq pc 44) (tc_getf 2 5 47) tc_no))) (cond (Nat.ble pc 49) (cond (Nat.ble pc 47) (cond (Nat.beq pc 47) (tc_ldI 4 49) tc_no) (cond (Nat.beq pc 49) (tc_iald 50) tc_no)) (cond (Nat.ble pc 50) (cond (Nat.beq pc 50) (tc_ldA 0 51) tc_no) (cond (Nat.beq pc 51) (tc_getf 2 4 54) tc_no)))) (cond (Nat.ble pc 60) (cond (Nat.ble pc 56) (cond (Nat.ble pc 54) (cond (Nat.beq pc 54) (tc_ldI 4 56) tc_no) (cond (Nat.beq pc 56) (tc_iald 57) tc_no)) (cond (Nat.ble pc 57) (cond (Nat.beq pc 57) (tc_icmpge 91 60) tc_no) (cond (Nat.beq pc 60) (tc_ldA 0 61) tc_no))) (cond (Nat.ble pc 64) (cond (Nat.ble pc 61) (cond (Nat.beq pc 61) (tc_getf 2 3 64) tc_no) (cond (Nat.beq pc 64) (tc_ldI 4 66) tc_no)) (cond (Nat.ble pc 66) (cond (Nat.beq pc 66) (tc_ic 10 68) tc_no) (cond (Nat.beq pc 68) (tc_imul 69) tc_no))))) (cond (Nat.ble pc 78) (cond (Nat.ble pc 73) (cond (Nat.ble pc 69) (cond (Nat.beq pc 69) (tc_ldA 0 70) tc_no) (cond (Nat.ble pc 70) (cond (Nat.beq pc 70) (tc_getf 2 5 73) tc_no) (cond (Nat.beq pc 73) (tc_ldI 4 75) tc_no))) (cond (Nat.ble pc 76) (cond (Nat.ble pc 75) (cond (Nat.beq pc 75) (tc_iald 76) tc_no) (cond (Nat.beq pc 76) (tc_iadd 77) tc_no)) (cond (Nat.ble pc 77) (cond (Nat.beq pc 77) (tc_iald 78) tc_no) (cond (Nat.beq pc 78) (tc_ldA 3 79) tc_no)))) (cond (Nat.ble pc 84) (cond (Nat.ble pc 82) (cond (Nat.ble pc 79) (cond (Nat.beq pc 79) (tc_getf 5 3 82) tc_no) (cond (Nat.beq pc 82) (tc_ldI 2 83) tc_no)) (cond (Nat.ble pc 83) (cond (Nat.beq pc 83) (tc_iald 84) tc_no) (cond (Nat.beq pc 84) (tc_icmpne 91 87) tc_no))) (cond (Nat.ble pc 88) (cond (Nat.ble pc 87) (cond (Nat.beq pc 87) (tc_ic 1 88) tc_no) (cond (Nat.beq pc 88) (tc_goto 92) tc_no)) (cond (Nat.ble pc 91) (cond (Nat.beq pc 91) (tc_ic 0 92) tc_no) (cond (Nat.beq pc 92) (tc_zret) tc_no))))))
theorem okX2_can : ∀ pc, dt_S mX2_can (tbX2_can pc) pc := by
  intro pc
  unfold tbX2_can
  exact dt_Sb (dt_Sb (dt_Sb (dt_Sb (dt_Sb (dt_Sl 0 (sn_ldAn rfl dX2_can_0 rfl)) (dt_Sb (dt_Sl 1 (sn_getf rfl ffX2 (by decide) wq_1_167 dX2_can_1 rfl)) (dt_Sl 4 (sn_ldIn rfl dX2_can_4 rfl)))) (dt_Sb (dt_Sb (dt_Sl 5 (sn_iald dX2_can_5 rfl)) (dt_Sl 6 (sn_stIn rfl (by decide) dX2_can_6 rfl))) (dt_Sb (dt_Sl 7 (sn_ldIn rfl dX2_can_7 rfl)) (dt_Sl 8 (sn_ic ⟨by decide, by decide⟩ dX2_can_8 rfl))))) (dt_Sb (dt_Sb (dt_Sl 9 (sn_icmpne dX2_can_9 (by decide) rfl)) (dt_Sb (dt_Sl 12 (sn_ic ⟨by decide, by decide⟩ dX2_can_12 rfl)) (dt_Sl 13 (sn_zret rfl dX2_can_13)))) (dt_Sb (dt_Sb (dt_Sl 14 (sn_ldAn rfl dX2_can_14 rfl)) (dt_Sl 15 (sn_ldIn rfl dX2_can_15 rfl))) (dt_Sb (dt_Sl 16 (sn_callV rfl ffX2 nnX2_talkOf rfl wq_3_34 wq_3_36 wq_0_15 dX2_can_16 rfl)) (dt_Sl 19 (sn_stAn rfl (by decide) dX2_can_19 rfl)))))) (dt_Sb (dt_Sb (dt_Sb (dt_Sl 20 (sn_ldAn rfl dX2_can_20 rfl)) (dt_Sb (dt_Sl 21 (sn_getfN rfl ffX5 (by decide) wq_1_33 dX2_can_21 rfl)) (dt_Sl 24 (sn_ldIn rfl dX2_can_24 rfl)))) (dt_Sb (dt_Sb (dt_Sl 25 (sn_zald dX2_can_25 rfl)) (dt_Sl 26 (sn_ifne dX2_can_26 (by decide) rfl))) (dt_Sb (dt_Sl 29 (sn_ic ⟨by decide, by decide⟩ dX2_can_29 rfl)) (dt_Sl 30 (sn_zret rfl dX2_can_30))))) (dt_Sb (dt_Sb (dt_Sb (dt_Sl 31 (sn_ldAn rfl dX2_can_31 rfl)) (dt_Sl 32 (sn_getfN rfl ffX5 (by decide) wq_1_41 dX2_can_32 rfl))) (dt_Sb (dt_Sl 35 (sn_ldIn rfl dX2_can_35 rfl)) (dt_Sl 36 (sn_iald dX2_can_36 rfl)))) (dt_Sb (dt_Sb (dt_Sl 37 (sn_ic ⟨by decide, by decide⟩ dX2_can_37 rfl)) (dt_Sl 38 (sn_imul dX2_can_38 rfl))) (dt_Sb (dt_Sl 39 (sn_ldIn rfl dX2_can_39 rfl)) (dt_Sl 40 (sn_iadd dX2_can_40 rfl))))))) (dt_Sb (dt_Sb (dt_Sb (dt_Sb (dt_Sl 41 (sn_stI (by decide) dX2_can_41 rfl)) (dt_Sb (dt_Sl 43 (sn_ldAn rfl dX2_can_43 rfl)) (dt_Sl 44 (sn_getf rfl ffX2 (by decide) wq_1_170 dX2_can_44 rfl)))) (dt_Sb (dt_Sb (dt_Sl 47 (sn_ldI dX2_can_47 rfl)) (dt_Sl 49 (sn_iald dX2_can_49 rfl))) (dt_Sb (dt_Sl 50 (sn_ldAn rfl dX2_can_50 rfl)) (dt_Sl 51 (sn_getf rfl ffX2 (by decide) wq_1_169 dX2_can_51 rfl))))) (dt_Sb (dt_Sb (dt_Sb (dt_Sl 54 (sn_ldI dX2_can_54 rfl)) (dt_Sl 56 (sn_iald dX2_can_56 rfl))) (dt_Sb (dt_Sl 57 (sn_icmpge dX2_can_57 (by decide) rfl)) (dt_Sl 60 (sn_ldAn rfl dX2_can_60 rfl)))) (dt_Sb (dt_Sb (dt_Sl 61 (sn_getf rfl ffX2 (by decide) wq_1_168 dX2_can_61 rfl)) (dt_Sl 64 (sn_ldI dX2_can_64 rfl))) (dt_Sb (dt_Sl 66 (sn_bi ⟨by decide, by decide⟩ rfl dX2_can_66 rfl)) (dt_Sl 68 (sn_imul dX2_can_68 rfl)))))) (dt_Sb (dt_Sb (dt_Sb (dt_Sl 69 (sn_ldAn rfl dX2_can_69 rfl)) (dt_Sb (dt_Sl 70 (sn_getf rfl ffX2 (by decide) wq_1_170 dX2_can_70 rfl)) (dt_Sl 73 (sn_ldI dX2_can_73 rfl)))) (dt_Sb (dt_Sb (dt_Sl 75 (sn_iald dX2_can_75 rfl)) (dt_Sl 76 (sn_iadd dX2_can_76 rfl))) (dt_Sb (dt_Sl 77 (sn_iald dX2_can_77 rfl)) (dt_Sl 78 (sn_ldAn rfl dX2_can_78 rfl))))) (dt_Sb (dt_Sb (dt_Sb (dt_Sl 79 (sn_getfN rfl ffX5 (by decide) wq_1_44 dX2_can_79 rfl)) (dt_Sl 82 (sn_ldIn rfl dX2_can_82 rfl))) (dt_Sb (dt_Sl 83 (sn_iald dX2_can_83 rfl)) (dt_Sl 84 (sn_icmpne dX2_can_84 (by decide) rfl)))) (dt_Sb (dt_Sb (dt_Sl 87 (sn_ic ⟨by decide, by decide⟩ dX2_can_87 rfl)) (dt_Sl 88 (sn_goto dX2_can_88 (by decide)))) (dt_Sb (dt_Sl 91 (sn_ic ⟨by decide, by decide⟩ dX2_can_91 rfl)) (dt_Sl 92 (sn_zret rfl dX2_can_92)))))))
theorem dX2_act_0 : decode cX2_act 0 = .ok (.aload_n 0, 1) := by decide +kernel
theorem dX2_act_1 : decode cX2_act 1 = .ok (.getfield 15, 3) := by decide +kernel
theorem dX2_act_4 : decode cX2_act 4 = .ok (.iload_n 1, 1) := by decide +kernel
theorem dX2_act_5 : decode cX2_act 5 = .ok (.iaload, 1) := by decide +kernel
theorem dX2_act_6 : decode cX2_act 6 = .ok (.istore_n 2, 1) := by decide +kernel
theorem dX2_act_7 : decode cX2_act 7 = .ok (.iload_n 2, 1) := by decide +kernel
theorem dX2_act_8 : decode cX2_act 8 = .ok (.iconst (-1), 1) := by decide +kernel
theorem dX2_act_9 : decode cX2_act 9 = .ok (.if_icmp .ne 4, 3) := by decide +kernel
theorem dX2_act_12 : decode cX2_act 12 = .ok (.return_, 1) := by decide +kernel
theorem dX2_act_13 : decode cX2_act 13 = .ok (.aload_n 0, 1) := by decide +kernel
theorem dX2_act_14 : decode cX2_act 14 = .ok (.iload_n 1, 1) := by decide +kernel
theorem dX2_act_15 : decode cX2_act 15 = .ok (.invokevirtual 63, 3) := by decide +kernel
theorem dX2_act_18 : decode cX2_act 18 = .ok (.astore_n 3, 1) := by decide +kernel
theorem dX2_act_19 : decode cX2_act 19 = .ok (.aload_n 3, 1) := by decide +kernel
theorem dX2_act_20 : decode cX2_act 20 = .ok (.getfield 82, 3) := by decide +kernel
theorem dX2_act_23 : decode cX2_act 23 = .ok (.iload_n 2, 1) := by decide +kernel
theorem dX2_act_24 : decode cX2_act 24 = .ok (.baload, 1) := by decide +kernel
theorem dX2_act_25 : decode cX2_act 25 = .ok (.ifCond .eq 35, 3) := by decide +kernel
theorem dX2_act_28 : decode cX2_act 28 = .ok (.aload_n 0, 1) := by decide +kernel
theorem dX2_act_29 : decode cX2_act 29 = .ok (.getfield 24, 3) := by decide +kernel
theorem dX2_act_32 : decode cX2_act 32 = .ok (.aload_n 3, 1) := by decide +kernel
theorem dX2_act_33 : decode cX2_act 33 = .ok (.getfield 86, 3) := by decide +kernel
theorem dX2_act_36 : decode cX2_act 36 = .ok (.iload_n 2, 1) := by decide +kernel
theorem dX2_act_37 : decode cX2_act 37 = .ok (.iaload, 1) := by decide +kernel
theorem dX2_act_38 : decode cX2_act 38 = .ok (.iconst 4, 1) := by decide +kernel
theorem dX2_act_39 : decode cX2_act 39 = .ok (.imul, 1) := by decide +kernel
theorem dX2_act_40 : decode cX2_act 40 = .ok (.iload_n 1, 1) := by decide +kernel
theorem dX2_act_41 : decode cX2_act 41 = .ok (.iadd, 1) := by decide +kernel
theorem dX2_act_42 : decode cX2_act 42 = .ok (.dup2, 1) := by decide +kernel
theorem dX2_act_43 : decode cX2_act 43 = .ok (.iaload, 1) := by decide +kernel
theorem dX2_act_44 : decode cX2_act 44 = .ok (.iconst 1, 1) := by decide +kernel
theorem dX2_act_45 : decode cX2_act 45 = .ok (.iadd, 1) := by decide +kernel
theorem dX2_act_46 : decode cX2_act 46 = .ok (.iastore, 1) := by decide +kernel
theorem dX2_act_47 : decode cX2_act 47 = .ok (.aload_n 0, 1) := by decide +kernel
theorem dX2_act_48 : decode cX2_act 48 = .ok (.dup, 1) := by decide +kernel
theorem dX2_act_49 : decode cX2_act 49 = .ok (.getfield 41, 3) := by decide +kernel
theorem dX2_act_52 : decode cX2_act 52 = .ok (.iconst 1, 1) := by decide +kernel
theorem dX2_act_53 : decode cX2_act 53 = .ok (.isub, 1) := by decide +kernel
theorem dX2_act_54 : decode cX2_act 54 = .ok (.putfield 41, 3) := by decide +kernel
theorem dX2_act_57 : decode cX2_act 57 = .ok (.goto 23, 3) := by decide +kernel
theorem dX2_act_60 : decode cX2_act 60 = .ok (.aload_n 0, 1) := by decide +kernel
theorem dX2_act_61 : decode cX2_act 61 = .ok (.iload_n 1, 1) := by decide +kernel
theorem dX2_act_62 : decode cX2_act 62 = .ok (.iconst 4, 1) := by decide +kernel
theorem dX2_act_63 : decode cX2_act 63 = .ok (.imul, 1) := by decide +kernel
theorem dX2_act_64 : decode cX2_act 64 = .ok (.aload_n 3, 1) := by decide +kernel
theorem dX2_act_65 : decode cX2_act 65 = .ok (.getfield 86, 3) := by decide +kernel
theorem dX2_act_68 : decode cX2_act 68 = .ok (.iload_n 2, 1) := by decide +kernel
theorem dX2_act_69 : decode cX2_act 69 = .ok (.iaload, 1) := by decide +kernel
theorem dX2_act_70 : decode cX2_act 70 = .ok (.iadd, 1) := by decide +kernel
theorem dX2_act_71 : decode cX2_act 71 = .ok (.aload_n 3, 1) := by decide +kernel
theorem dX2_act_72 : decode cX2_act 72 = .ok (.getfield 89, 3) := by decide +kernel
theorem dX2_act_75 : decode cX2_act 75 = .ok (.iload_n 2, 1) := by decide +kernel
theorem dX2_act_76 : decode cX2_act 76 = .ok (.iaload, 1) := by decide +kernel
theorem dX2_act_77 : decode cX2_act 77 = .ok (.invokevirtual 92, 3) := by decide +kernel
theorem dX2_act_80 : decode cX2_act 80 = .ok (.return_, 1) := by decide +kernel
def tbX2_act (pc : Nat) : dt_T := cond (Nat.ble pc 40) (cond (Nat.ble pc 18) (cond (Nat.ble pc 7) (cond (Nat.ble pc 4) (cond (Nat.ble pc 0) (cond (Nat.beq pc 0) (tc_ldA 0 1) tc_no) (cond (Nat.ble pc 1) (cond (Nat.beq pc 1) (tc_getf 2 2 4) tc_no) (cond (Nat.beq pc 4) (tc_ldI 1 5) tc_no))) (cond (Nat.ble pc 5) (cond (Nat.beq pc 5) (tc_iald 6) tc_no) (cond (Nat.ble pc 6) (cond (Nat.beq pc 6) (tc_stI 2 7) tc_no) (cond (Nat.beq pc 7) (tc_ldI 2 8) tc_no)))) (cond (Nat.ble pc 12) (cond (Nat.ble pc 8) (cond (Nat.beq pc 8) (tc_ic (-1) 9) tc_no) (cond (Nat.ble pc 9) (cond (Nat.beq pc 9) (tc_icmpne 13 12) tc_no) (cond (Nat.beq pc 12) (tc_ret) tc_no))) (cond (Nat.ble pc 14) (cond (Nat.ble pc 13) (cond (Nat.beq pc 13) (tc_ldA 0 14) tc_no) (cond (Nat.beq pc 14) (tc_ldI 1 15) tc_no)) (cond (Nat.ble pc 15) (cond (Nat.beq pc 15) (tc_callV 2 mX2_talkOf 1 18) tc_no) (cond (Nat.beq pc 18) (tc_stA 3 19) tc_no))))) (cond (Nat.ble pc 29) (cond (Nat.ble pc 23) (cond (Nat.ble pc 19) (cond (Nat.beq pc 19) (tc_ldA 3 20) tc_no) (cond (Nat.ble pc 20) (cond (Nat.beq pc 20) (tc_getf 5 0 23) tc_no) (cond (Nat.beq pc 23) (tc_ldI 2 24) tc_no))) (cond (Nat.ble pc 25) (cond (Nat.ble pc 24) (cond (Nat.beq pc 24) (tc_zald 25) tc_no) (cond (Nat.beq pc 25) (tc_ifeq 60 28) tc_no)) (cond (Nat.ble pc 28) (cond (Nat.beq pc 28) (tc_ldA 0 29) tc_no) (cond (Nat.beq pc 29) (tc_getf 2 5 32) tc_no)))) (cond (Nat.ble pc 36) (cond (Nat.ble pc 32) (cond (Nat.beq pc 32) (tc_ldA 3 33) tc_no) (cond (Nat.ble pc 33) (cond (Nat.beq pc 33) (tc_getf 5 2 36) tc_no) (cond (Nat.beq pc 36) (tc_ldI 2 37) tc_no))) (cond (Nat.ble pc 38) (cond (Nat.ble pc 37) (cond (Nat.beq pc 37) (tc_iald 38) tc_no) (cond (Nat.beq pc 38) (tc_ic 4 39) tc_no)) (cond (Nat.ble pc 39) (cond (Nat.beq pc 39) (tc_imul 40) tc_no) (cond (Nat.beq pc 40) (tc_ldI 1 41) tc_no)))))) (cond (Nat.ble pc 60) (cond (Nat.ble pc 47) (cond (Nat.ble pc 43) (cond (Nat.ble pc 41) (cond (Nat.beq pc 41) (tc_iadd 42) tc_no) (cond (Nat.ble pc 42) (cond (Nat.beq pc 42) (tc_dup2 43) tc_no) (cond (Nat.beq pc 43) (tc_iald 44) tc_no))) (cond (Nat.ble pc 45) (cond (Nat.ble pc 44) (cond (Nat.beq pc 44) (tc_ic 1 45) tc_no) (cond (Nat.beq pc 45) (tc_iadd 46) tc_no)) (cond (Nat.ble pc 46) (cond (Nat.beq pc 46) (tc_iast 47) tc_no) (cond (Nat.beq pc 47) (tc_ldA 0 48) tc_no)))) (cond (Nat.ble pc 52) (cond (Nat.ble pc 48) (cond (Nat.beq pc 48) (tc_dup 49) tc_no) (cond (Nat.ble pc 49) (cond (Nat.beq pc 49) (tc_getf 2 9 52) tc_no) (cond (Nat.beq pc 52) (tc_ic 1 53) tc_no))) (cond (Nat.ble pc 54) (cond (Nat.ble pc 53) (cond (Nat.beq pc 53) (tc_isub 54) tc_no) (cond (Nat.beq pc 54) (tc_putI 2 9 57) tc_no)) (cond (Nat.ble pc 57) (cond (Nat.beq pc 57) (tc_goto 80) tc_no) (cond (Nat.beq pc 60) (tc_ldA 0 61) tc_no))))) (cond (Nat.ble pc 69) (cond (Nat.ble pc 63) (cond (Nat.ble pc 61) (cond (Nat.beq pc 61) (tc_ldI 1 62) tc_no) (cond (Nat.ble pc 62) (cond (Nat.beq pc 62) (tc_ic 4 63) tc_no) (cond (Nat.beq pc 63) (tc_imul 64) tc_no))) (cond (Nat.ble pc 65) (cond (Nat.ble pc 64) (cond (Nat.beq pc 64) (tc_ldA 3 65) tc_no) (cond (Nat.beq pc 65) (tc_getf 5 2 68) tc_no)) (cond (Nat.ble pc 68) (cond (Nat.beq pc 68) (tc_ldI 2 69) tc_no) (cond (Nat.beq pc 69) (tc_iald 70) tc_no)))) (cond (Nat.ble pc 72) (cond (Nat.ble pc 70) (cond (Nat.beq pc 70) (tc_iadd 71) tc_no) (cond (Nat.ble pc 71) (cond (Nat.beq pc 71) (tc_ldA 3 72) tc_no) (cond (Nat.beq pc 72) (tc_getf 5 3 75) tc_no))) (cond (Nat.ble pc 76) (cond (Nat.ble pc 75) (cond (Nat.beq pc 75) (tc_ldI 2 76) tc_no) (cond (Nat.beq pc 76) (tc_iald 77) tc_no)) (cond (Nat.ble pc 77) (cond (Nat.beq pc 77) (tc_callV 2 mX2_post 2 80) tc_no) (cond (Nat.beq pc 80) (tc_ret) tc_no))))))
theorem okX2_act : ∀ pc, dt_S mX2_act (tbX2_act pc) pc := by
  intro pc
  unfold tbX2_act
  exact dt_Sb (dt_Sb (dt_Sb (dt_Sb (dt_Sb (dt_Sl 0 (sn_ldAn rfl dX2_act_0 rfl)) (dt_Sb (dt_Sl 1 (sn_getf rfl ffX2 (by decide) wq_1_167 dX2_act_1 rfl)) (dt_Sl 4 (sn_ldIn rfl dX2_act_4 rfl)))) (dt_Sb (dt_Sl 5 (sn_iald dX2_act_5 rfl)) (dt_Sb (dt_Sl 6 (sn_stIn rfl (by decide) dX2_act_6 rfl)) (dt_Sl 7 (sn_ldIn rfl dX2_act_7 rfl))))) (dt_Sb (dt_Sb (dt_Sl 8 (sn_ic ⟨by decide, by decide⟩ dX2_act_8 rfl)) (dt_Sb (dt_Sl 9 (sn_icmpne dX2_act_9 (by decide) rfl)) (dt_Sl 12 (sn_ret rfl dX2_act_12)))) (dt_Sb (dt_Sb (dt_Sl 13 (sn_ldAn rfl dX2_act_13 rfl)) (dt_Sl 14 (sn_ldIn rfl dX2_act_14 rfl))) (dt_Sb (dt_Sl 15 (sn_callV rfl ffX2 nnX2_talkOf rfl wq_3_34 wq_3_36 wq_0_15 dX2_act_15 rfl)) (dt_Sl 18 (sn_stAn rfl (by decide) dX2_act_18 rfl)))))) (dt_Sb (dt_Sb (dt_Sb (dt_Sl 19 (sn_ldAn rfl dX2_act_19 rfl)) (dt_Sb (dt_Sl 20 (sn_getfN rfl ffX5 (by decide) wq_1_33 dX2_act_20 rfl)) (dt_Sl 23 (sn_ldIn rfl dX2_act_23 rfl)))) (dt_Sb (dt_Sb (dt_Sl 24 (sn_zald dX2_act_24 rfl)) (dt_Sl 25 (sn_ifeq dX2_act_25 (by decide) rfl))) (dt_Sb (dt_Sl 28 (sn_ldAn rfl dX2_act_28 rfl)) (dt_Sl 29 (sn_getf rfl ffX2 (by decide) wq_1_170 dX2_act_29 rfl))))) (dt_Sb (dt_Sb (dt_Sl 32 (sn_ldAn rfl dX2_act_32 rfl)) (dt_Sb (dt_Sl 33 (sn_getfN rfl ffX5 (by decide) wq_1_41 dX2_act_33 rfl)) (dt_Sl 36 (sn_ldIn rfl dX2_act_36 rfl)))) (dt_Sb (dt_Sb (dt_Sl 37 (sn_iald dX2_act_37 rfl)) (dt_Sl 38 (sn_ic ⟨by decide, by decide⟩ dX2_act_38 rfl))) (dt_Sb (dt_Sl 39 (sn_imul dX2_act_39 rfl)) (dt_Sl 40 (sn_ldIn rfl dX2_act_40 rfl))))))) (dt_Sb (dt_Sb (dt_Sb (dt_Sb (dt_Sl 41 (sn_iadd dX2_act_41 rfl)) (dt_Sb (dt_Sl 42 (sn_dup2 dX2_act_42 rfl)) (dt_Sl 43 (sn_iald dX2_act_43 rfl)))) (dt_Sb (dt_Sb (dt_Sl 44 (sn_ic ⟨by decide, by decide⟩ dX2_act_44 rfl)) (dt_Sl 45 (sn_iadd dX2_act_45 rfl))) (dt_Sb (dt_Sl 46 (sn_iast dX2_act_46 rfl)) (dt_Sl 47 (sn_ldAn rfl dX2_act_47 rfl))))) (dt_Sb (dt_Sb (dt_Sl 48 (sn_dup dX2_act_48 rfl)) (dt_Sb (dt_Sl 49 (sn_getf rfl ffX2 (by decide) wq_1_175 dX2_act_49 rfl)) (dt_Sl 52 (sn_ic ⟨by decide, by decide⟩ dX2_act_52 rfl)))) (dt_Sb (dt_Sb (dt_Sl 53 (sn_isub dX2_act_53 rfl)) (dt_Sl 54 (sn_putI rfl ffX2 (by decide) rfl rfl (by decide +kernel) wq_1_175 dX2_act_54 rfl))) (dt_Sb (dt_Sl 57 (sn_goto dX2_act_57 (by decide))) (dt_Sl 60 (sn_ldAn rfl dX2_act_60 rfl)))))) (dt_Sb (dt_Sb (dt_Sb (dt_Sl 61 (sn_ldIn rfl dX2_act_61 rfl)) (dt_Sb (dt_Sl 62 (sn_ic ⟨by decide, by decide⟩ dX2_act_62 rfl)) (dt_Sl 63 (sn_imul dX2_act_63 rfl)))) (dt_Sb (dt_Sb (dt_Sl 64 (sn_ldAn rfl dX2_act_64 rfl)) (dt_Sl 65 (sn_getfN rfl ffX5 (by decide) wq_1_41 dX2_act_65 rfl))) (dt_Sb (dt_Sl 68 (sn_ldIn rfl dX2_act_68 rfl)) (dt_Sl 69 (sn_iald dX2_act_69 rfl))))) (dt_Sb (dt_Sb (dt_Sl 70 (sn_iadd dX2_act_70 rfl)) (dt_Sb (dt_Sl 71 (sn_ldAn rfl dX2_act_71 rfl)) (dt_Sl 72 (sn_getfN rfl ffX5 (by decide) wq_1_44 dX2_act_72 rfl)))) (dt_Sb (dt_Sb (dt_Sl 75 (sn_ldIn rfl dX2_act_75 rfl)) (dt_Sl 76 (sn_iald dX2_act_76 rfl))) (dt_Sb (dt_Sl 77 (sn_callV rfl ffX2 nnX2_post rfl wq_3_54 wq_3_56 wq_0_19 dX2_act_77 rfl)) (dt_Sl 80 (sn_ret rfl dX2_act_80)))))))
theorem dX2_post_0 : decode cX2_post 0 = .ok (.aload_n 0, 1) := by decide +kernel
theorem dX2_post_1 : decode cX2_post 1 = .ok (.getfield 21, 3) := by decide +kernel
theorem dX2_post_4 : decode cX2_post 4 = .ok (.iload_n 1, 1) := by decide +kernel
theorem dX2_post_5 : decode cX2_post 5 = .ok (.iaload, 1) := by decide +kernel
theorem dX2_post_6 : decode cX2_post 6 = .ok (.bipush 10, 2) := by decide +kernel
theorem dX2_post_8 : decode cX2_post 8 = .ok (.if_icmp .ge 40, 3) := by decide +kernel
theorem dX2_post_11 : decode cX2_post 11 = .ok (.aload_n 0, 1) := by decide +kernel
theorem dX2_post_12 : decode cX2_post 12 = .ok (.getfield 18, 3) := by decide +kernel
theorem dX2_post_15 : decode cX2_post 15 = .ok (.iload_n 1, 1) := by decide +kernel
theorem dX2_post_16 : decode cX2_post 16 = .ok (.bipush 10, 2) := by decide +kernel
theorem dX2_post_18 : decode cX2_post 18 = .ok (.imul, 1) := by decide +kernel
theorem dX2_post_19 : decode cX2_post 19 = .ok (.aload_n 0, 1) := by decide +kernel
theorem dX2_post_20 : decode cX2_post 20 = .ok (.getfield 21, 3) := by decide +kernel
theorem dX2_post_23 : decode cX2_post 23 = .ok (.iload_n 1, 1) := by decide +kernel
theorem dX2_post_24 : decode cX2_post 24 = .ok (.iaload, 1) := by decide +kernel
theorem dX2_post_25 : decode cX2_post 25 = .ok (.iadd, 1) := by decide +kernel
theorem dX2_post_26 : decode cX2_post 26 = .ok (.iload_n 2, 1) := by decide +kernel
theorem dX2_post_27 : decode cX2_post 27 = .ok (.iastore, 1) := by decide +kernel
theorem dX2_post_28 : decode cX2_post 28 = .ok (.aload_n 0, 1) := by decide +kernel
theorem dX2_post_29 : decode cX2_post 29 = .ok (.getfield 21, 3) := by decide +kernel
theorem dX2_post_32 : decode cX2_post 32 = .ok (.iload_n 1, 1) := by decide +kernel
theorem dX2_post_33 : decode cX2_post 33 = .ok (.dup2, 1) := by decide +kernel
theorem dX2_post_34 : decode cX2_post 34 = .ok (.iaload, 1) := by decide +kernel
theorem dX2_post_35 : decode cX2_post 35 = .ok (.iconst 1, 1) := by decide +kernel
theorem dX2_post_36 : decode cX2_post 36 = .ok (.iadd, 1) := by decide +kernel
theorem dX2_post_37 : decode cX2_post 37 = .ok (.iastore, 1) := by decide +kernel
theorem dX2_post_38 : decode cX2_post 38 = .ok (.aload_n 0, 1) := by decide +kernel
theorem dX2_post_39 : decode cX2_post 39 = .ok (.dup, 1) := by decide +kernel
theorem dX2_post_40 : decode cX2_post 40 = .ok (.getfield 41, 3) := by decide +kernel
theorem dX2_post_43 : decode cX2_post 43 = .ok (.iconst 1, 1) := by decide +kernel
theorem dX2_post_44 : decode cX2_post 44 = .ok (.iadd, 1) := by decide +kernel
theorem dX2_post_45 : decode cX2_post 45 = .ok (.putfield 41, 3) := by decide +kernel
theorem dX2_post_48 : decode cX2_post 48 = .ok (.return_, 1) := by decide +kernel
def tbX2_post (pc : Nat) : dt_T := cond (Nat.ble pc 25) (cond (Nat.ble pc 12) (cond (Nat.ble pc 5) (cond (Nat.ble pc 1) (cond (Nat.ble pc 0) (cond (Nat.beq pc 0) (tc_ldA 0 1) tc_no) (cond (Nat.beq pc 1) (tc_getf 2 4 4) tc_no)) (cond (Nat.ble pc 4) (cond (Nat.beq pc 4) (tc_ldI 1 5) tc_no) (cond (Nat.beq pc 5) (tc_iald 6) tc_no))) (cond (Nat.ble pc 8) (cond (Nat.ble pc 6) (cond (Nat.beq pc 6) (tc_ic 10 8) tc_no) (cond (Nat.beq pc 8) (tc_icmpge 48 11) tc_no)) (cond (Nat.ble pc 11) (cond (Nat.beq pc 11) (tc_ldA 0 12) tc_no) (cond (Nat.beq pc 12) (tc_getf 2 3 15) tc_no)))) (cond (Nat.ble pc 19) (cond (Nat.ble pc 16) (cond (Nat.ble pc 15) (cond (Nat.beq pc 15) (tc_ldI 1 16) tc_no) (cond (Nat.beq pc 16) (tc_ic 10 18) tc_no)) (cond (Nat.ble pc 18) (cond (Nat.beq pc 18) (tc_imul 19) tc_no) (cond (Nat.beq pc 19) (tc_ldA 0 20) tc_no))) (cond (Nat.ble pc 23) (cond (Nat.ble pc 20) (cond (Nat.beq pc 20) (tc_getf 2 4 23) tc_no) (cond (Nat.beq pc 23) (tc_ldI 1 24) tc_no)) (cond (Nat.ble pc 24) (cond (Nat.beq pc 24) (tc_iald 25) tc_no) (cond (Nat.beq pc 25) (tc_iadd 26) tc_no))))) (cond (Nat.ble pc 35) (cond (Nat.ble pc 29) (cond (Nat.ble pc 27) (cond (Nat.ble pc 26) (cond (Nat.beq pc 26) (tc_ldI 2 27) tc_no) (cond (Nat.beq pc 27) (tc_iast 28) tc_no)) (cond (Nat.ble pc 28) (cond (Nat.beq pc 28) (tc_ldA 0 29) tc_no) (cond (Nat.beq pc 29) (tc_getf 2 4 32) tc_no))) (cond (Nat.ble pc 33) (cond (Nat.ble pc 32) (cond (Nat.beq pc 32) (tc_ldI 1 33) tc_no) (cond (Nat.beq pc 33) (tc_dup2 34) tc_no)) (cond (Nat.ble pc 34) (cond (Nat.beq pc 34) (tc_iald 35) tc_no) (cond (Nat.beq pc 35) (tc_ic 1 36) tc_no)))) (cond (Nat.ble pc 39) (cond (Nat.ble pc 37) (cond (Nat.ble pc 36) (cond (Nat.beq pc 36) (tc_iadd 37) tc_no) (cond (Nat.beq pc 37) (tc_iast 38) tc_no)) (cond (Nat.ble pc 38) (cond (Nat.beq pc 38) (tc_ldA 0 39) tc_no) (cond (Nat.beq pc 39) (tc_dup 40) tc_no))) (cond (Nat.ble pc 43) (cond (Nat.ble pc 40) (cond (Nat.beq pc 40) (tc_getf 2 9 43) tc_no) (cond (Nat.beq pc 43) (tc_ic 1 44) tc_no)) (cond (Nat.ble pc 44) (cond (Nat.beq pc 44) (tc_iadd 45) tc_no) (cond (Nat.ble pc 45) (cond (Nat.beq pc 45) (tc_putI 2 9 48) tc_no) (cond (Nat.beq pc 48) (tc_ret) tc_no))))))
theorem okX2_post : ∀ pc, dt_S mX2_post (tbX2_post pc) pc := by
  intro pc
  unfold tbX2_post
  exact dt_Sb (dt_Sb (dt_Sb (dt_Sb (dt_Sb (dt_Sl 0 (sn_ldAn rfl dX2_post_0 rfl)) (dt_Sl 1 (sn_getf rfl ffX2 (by decide) wq_1_169 dX2_post_1 rfl))) (dt_Sb (dt_Sl 4 (sn_ldIn rfl dX2_post_4 rfl)) (dt_Sl 5 (sn_iald dX2_post_5 rfl)))) (dt_Sb (dt_Sb (dt_Sl 6 (sn_bi ⟨by decide, by decide⟩ rfl dX2_post_6 rfl)) (dt_Sl 8 (sn_icmpge dX2_post_8 (by decide) rfl))) (dt_Sb (dt_Sl 11 (sn_ldAn rfl dX2_post_11 rfl)) (dt_Sl 12 (sn_getf rfl ffX2 (by decide) wq_1_168 dX2_post_12 rfl))))) (dt_Sb (dt_Sb (dt_Sb (dt_Sl 15 (sn_ldIn rfl dX2_post_15 rfl)) (dt_Sl 16 (sn_bi ⟨by decide, by decide⟩ rfl dX2_post_16 rfl))) (dt_Sb (dt_Sl 18 (sn_imul dX2_post_18 rfl)) (dt_Sl 19 (sn_ldAn rfl dX2_post_19 rfl)))) (dt_Sb (dt_Sb (dt_Sl 20 (sn_getf rfl ffX2 (by decide) wq_1_169 dX2_post_20 rfl)) (dt_Sl 23 (sn_ldIn rfl dX2_post_23 rfl))) (dt_Sb (dt_Sl 24 (sn_iald dX2_post_24 rfl)) (dt_Sl 25 (sn_iadd dX2_post_25 rfl)))))) (dt_Sb (dt_Sb (dt_Sb (dt_Sb (dt_Sl 26 (sn_ldIn rfl dX2_post_26 rfl)) (dt_Sl 27 (sn_iast dX2_post_27 rfl))) (dt_Sb (dt_Sl 28 (sn_ldAn rfl dX2_post_28 rfl)) (dt_Sl 29 (sn_getf rfl ffX2 (by decide) wq_1_169 dX2_post_29 rfl)))) (dt_Sb (dt_Sb (dt_Sl 32 (sn_ldIn rfl dX2_post_32 rfl)) (dt_Sl 33 (sn_dup2 dX2_post_33 rfl))) (dt_Sb (dt_Sl 34 (sn_iald dX2_post_34 rfl)) (dt_Sl 35 (sn_ic ⟨by decide, by decide⟩ dX2_post_35 rfl))))) (dt_Sb (dt_Sb (dt_Sb (dt_Sl 36 (sn_iadd dX2_post_36 rfl)) (dt_Sl 37 (sn_iast dX2_post_37 rfl))) (dt_Sb (dt_Sl 38 (sn_ldAn rfl dX2_post_38 rfl)) (dt_Sl 39 (sn_dup dX2_post_39 rfl)))) (dt_Sb (dt_Sb (dt_Sl 40 (sn_getf rfl ffX2 (by decide) wq_1_175 dX2_post_40 rfl)) (dt_Sl 43 (sn_ic ⟨by decide, by decide⟩ dX2_post_43 rfl))) (dt_Sb (dt_Sl 44 (sn_iadd dX2_post_44 rfl)) (dt_Sb (dt_Sl 45 (sn_putI rfl ffX2 (by decide) rfl rfl (by decide +kernel) wq_1_175 dX2_post_45 rfl)) (dt_Sl 48 (sn_ret rfl dX2_post_48)))))))
