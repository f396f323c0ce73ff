/-! ===== DrawnTalks$Mixer: decode rows, step tables ===== -/
theorem dX1_howMany_0 : decode cX1_howMany 0 = .ok (.aload_n 0, 1) := by decide +kernel
theorem dX1_howMany_1 : decode cX1_howMany 1 = .ok (.iload_n 1, 1) := by decide +kernel
theorem dX1_howMany_2 : decode cX1_howMany 2 = .ok (.invokevirtual 23, 3) := by decide +kernel
theorem dX1_howMany_5 : decode cX1_howMany 5 = .ok (.iconst 0, 1) := by decide +kernel
theorem dX1_howMany_6 : decode cX1_howMany 6 = .ok (.istore_n 3, 1) := by decide +kernel
theorem dX1_howMany_7 : decode cX1_howMany 7 = .ok (.iconst 0, 1) := by decide +kernel
theorem dX1_howMany_8 : decode cX1_howMany 8 = .ok (.istore 4, 2) := by decide +kernel
theorem dX1_howMany_10 : decode cX1_howMany 10 = .ok (.iload 4, 2) := by decide +kernel
theorem dX1_howMany_12 : decode cX1_howMany 12 = .ok (.sipush 256, 3) := by decide +kernel
theorem dX1_howMany_15 : decode cX1_howMany 15 = .ok (.if_icmp .ge 40, 3) := by decide +kernel
theorem dX1_howMany_18 : decode cX1_howMany 18 = .ok (.aload_n 0, 1) := by decide +kernel
theorem dX1_howMany_19 : decode cX1_howMany 19 = .ok (.iload 4, 2) := by decide +kernel
theorem dX1_howMany_21 : decode cX1_howMany 21 = .ok (.invokevirtual 27, 3) := by decide +kernel
theorem dX1_howMany_24 : decode cX1_howMany 24 = .ok (.ifCond .eq 25, 3) := by decide +kernel
theorem dX1_howMany_27 : decode cX1_howMany 27 = .ok (.aload_n 0, 1) := by decide +kernel
theorem dX1_howMany_28 : decode cX1_howMany 28 = .ok (.getfield 19, 3) := by decide +kernel
theorem dX1_howMany_31 : decode cX1_howMany 31 = .ok (.iload 4, 2) := by decide +kernel
theorem dX1_howMany_33 : decode cX1_howMany 33 = .ok (.invokevirtual 31, 3) := by decide +kernel
theorem dX1_howMany_36 : decode cX1_howMany 36 = .ok (.aload_n 0, 1) := by decide +kernel
theorem dX1_howMany_37 : decode cX1_howMany 37 = .ok (.iload 4, 2) := by decide +kernel
theorem dX1_howMany_39 : decode cX1_howMany 39 = .ok (.iload_n 2, 1) := by decide +kernel
theorem dX1_howMany_40 : decode cX1_howMany 40 = .ok (.invokevirtual 36, 3) := by decide +kernel
theorem dX1_howMany_43 : decode cX1_howMany 43 = .ok (.ifCond .eq 6, 3) := by decide +kernel
theorem dX1_howMany_46 : decode cX1_howMany 46 = .ok (.iinc 3 1, 3) := by decide +kernel
theorem dX1_howMany_49 : decode cX1_howMany 49 = .ok (.iinc 4 1, 3) := by decide +kernel
theorem dX1_howMany_52 : decode cX1_howMany 52 = .ok (.goto (-42), 3) := by decide +kernel
theorem dX1_howMany_55 : decode cX1_howMany 55 = .ok (.iload_n 3, 1) := by decide +kernel
theorem dX1_howMany_56 : decode cX1_howMany 56 = .ok (.ireturn, 1) := by decide +kernel
def tbX1_howMany (pc : Nat) : dt_T := cond (Nat.ble pc 24) (cond (Nat.ble pc 8) (cond (Nat.ble pc 2) (cond (Nat.ble pc 0) (cond (Nat.beq pc 0) (tc_ldA 0 1) tc_no) (cond (Nat.ble pc 1) (cond (Nat.beq pc 1) (tc_ldI 1 2) tc_no) (cond (Nat.beq pc 2) (tc_callV 1 mX1_choose 1 5) tc_no))) (cond (Nat.ble pc 6) (cond (Nat.ble pc 5) (cond (Nat.beq pc 5) (tc_ic 0 6) tc_no) (cond (Nat.beq pc 6) (tc_stI 3 7) tc_no)) (cond (Nat.ble pc 7) (cond (Nat.beq pc 7) (tc_ic 0 8) tc_no) (cond (Nat.beq pc 8) (tc_stI 4 10) tc_no)))) (cond (Nat.ble pc 15) (cond (Nat.ble pc 10) (cond (Nat.beq pc 10) (tc_ldI 4 12) tc_no) (cond (Nat.ble pc 12) (cond (Nat.beq pc 12) (tc_ic 256 15) tc_no) (cond (Nat.beq pc 15) (tc_icmpge 55 18) tc_no))) (cond (Nat.ble pc 19) (cond (Nat.ble pc 18) (cond (Nat.beq pc 18) (tc_ldA 0 19) tc_no) (cond (Nat.beq pc 19) (tc_ldI 4 21) tc_no)) (cond (Nat.ble pc 21) (cond (Nat.beq pc 21) (tc_callV 1 mX1_isFirst 1 24) tc_no) (cond (Nat.beq pc 24) (tc_ifeq 49 27) tc_no))))) (cond (Nat.ble pc 39) (cond (Nat.ble pc 31) (cond (Nat.ble pc 27) (cond (Nat.beq pc 27) (tc_ldA 0 28) tc_no) (cond (Nat.ble pc 28) (cond (Nat.beq pc 28) (tc_getf 1 1 31) tc_no) (cond (Nat.beq pc 31) (tc_ldI 4 33) tc_no))) (cond (Nat.ble pc 36) (cond (Nat.ble pc 33) (cond (Nat.beq pc 33) (tc_callV 2 mX2_perform 1 36) tc_no) (cond (Nat.beq pc 36) (tc_ldA 0 37) tc_no)) (cond (Nat.ble pc 37) (cond (Nat.beq pc 37) (tc_ldI 4 39) tc_no) (cond (Nat.beq pc 39) (tc_ldI 2 40) tc_no)))) (cond (Nat.ble pc 46) (cond (Nat.ble pc 40) (cond (Nat.beq pc 40) (tc_callV 1 mX1_isSuch 2 43) tc_no) (cond (Nat.ble pc 43) (cond (Nat.beq pc 43) (tc_ifeq 49 46) tc_no) (cond (Nat.beq pc 46) (tc_iinc 3 1 49) tc_no))) (cond (Nat.ble pc 52) (cond (Nat.ble pc 49) (cond (Nat.beq pc 49) (tc_iinc 4 1 52) tc_no) (cond (Nat.beq pc 52) (tc_goto 10) tc_no)) (cond (Nat.ble pc 55) (cond (Nat.beq pc 55) (tc_ldI 3 56) tc_no) (cond (Nat.beq pc 56) (tc_iret) tc_no)))))
theorem okX1_howMany : ∀ pc, dt_S mX1_howMany (tbX1_howMany pc) pc := by
  intro pc
  unfold tbX1_howMany
  exact dt_Sb (dt_Sb (dt_Sb (dt_Sb (dt_Sl 0 (sn_ldAn rfl dX1_howMany_0 rfl)) (dt_Sb (dt_Sl 1 (sn_ldIn rfl dX1_howMany_1 rfl)) (dt_Sl 2 (sn_callV rfl ffX1 nnX1_choose rfl wq_3_77 wq_3_79 wq_0_21 dX1_howMany_2 rfl)))) (dt_Sb (dt_Sb (dt_Sl 5 (sn_ic ⟨by decide, by decide⟩ dX1_howMany_5 rfl)) (dt_Sl 6 (sn_stIn rfl (by decide) dX1_howMany_6 rfl))) (dt_Sb (dt_Sl 7 (sn_ic ⟨by decide, by decide⟩ dX1_howMany_7 rfl)) (dt_Sl 8 (sn_stI (by decide) dX1_howMany_8 rfl))))) (dt_Sb (dt_Sb (dt_Sl 10 (sn_ldI dX1_howMany_10 rfl)) (dt_Sb (dt_Sl 12 (sn_si ⟨by decide, by decide⟩ rfl dX1_howMany_12 rfl)) (dt_Sl 15 (sn_icmpge dX1_howMany_15 (by decide) rfl)))) (dt_Sb (dt_Sb (dt_Sl 18 (sn_ldAn rfl dX1_howMany_18 rfl)) (dt_Sl 19 (sn_ldI dX1_howMany_19 rfl))) (dt_Sb (dt_Sl 21 (sn_callV rfl ffX1 nnX1_isFirst rfl wq_3_90 wq_3_92 wq_0_24 dX1_howMany_21 rfl)) (dt_Sl 24 (sn_ifeq dX1_howMany_24 (by decide) rfl)))))) (dt_Sb (dt_Sb (dt_Sb (dt_Sl 27 (sn_ldAn rfl dX1_howMany_27 rfl)) (dt_Sb (dt_Sl 28 (sn_getf rfl ffX1 (by decide) wq_1_205 dX1_howMany_28 rfl)) (dt_Sl 31 (sn_ldI dX1_howMany_31 rfl)))) (dt_Sb (dt_Sb (dt_Sl 33 (sn_callV rfl ffX2 nnX2_perform rfl wq_3_95 wq_3_27 wq_3_28 dX1_howMany_33 rfl)) (dt_Sl 36 (sn_ldAn rfl dX1_howMany_36 rfl))) (dt_Sb (dt_Sl 37 (sn_ldI dX1_howMany_37 rfl)) (dt_Sl 39 (sn_ldIn rfl dX1_howMany_39 rfl))))) (dt_Sb (dt_Sb (dt_Sl 40 (sn_callV rfl ffX1 nnX1_isSuch rfl wq_3_96 wq_3_98 wq_0_25 dX1_howMany_40 rfl)) (dt_Sb (dt_Sl 43 (sn_ifeq dX1_howMany_43 (by decide) rfl)) (dt_Sl 46 (sn_iinc (by decide) dX1_howMany_46 rfl)))) (dt_Sb (dt_Sb (dt_Sl 49 (sn_iinc (by decide) dX1_howMany_49 rfl)) (dt_Sl 52 (sn_goto dX1_howMany_52 (by decide)))) (dt_Sb (dt_Sl 55 (sn_ldIn rfl dX1_howMany_55 rfl)) (dt_Sl 56 (sn_iret rfl dX1_howMany_56))))))
theorem dX1_newAt_0 : decode cX1_newAt 0 = .ok (.aload_n 0, 1) := by decide +kernel
theorem dX1_newAt_1 : decode cX1_newAt 1 = .ok (.iload_n 1, 1) := by decide +kernel
theorem dX1_newAt_2 : decode cX1_newAt 2 = .ok (.invokevirtual 23, 3) := by decide +kernel
theorem dX1_newAt_5 : decode cX1_newAt 5 = .ok (.iconst 0, 1) := by decide +kernel
theorem dX1_newAt_6 : decode cX1_newAt 6 = .ok (.istore_n 3, 1) := by decide +kernel
theorem dX1_newAt_7 : decode cX1_newAt 7 = .ok (.iconst 0, 1) := by decide +kernel
theorem dX1_newAt_8 : decode cX1_newAt 8 = .ok (.istore 4, 2) := by decide +kernel
theorem dX1_newAt_10 : decode cX1_newAt 10 = .ok (.iload 4, 2) := by decide +kernel
theorem dX1_newAt_12 : decode cX1_newAt 12 = .ok (.sipush 256, 3) := by decide +kernel
theorem dX1_newAt_15 : decode cX1_newAt 15 = .ok (.if_icmp .ge 57, 3) := by decide +kernel
theorem dX1_newAt_18 : decode cX1_newAt 18 = .ok (.aload_n 0, 1) := by decide +kernel
theorem dX1_newAt_19 : decode cX1_newAt 19 = .ok (.iload 4, 2) := by decide +kernel
theorem dX1_newAt_21 : decode cX1_newAt 21 = .ok (.invokevirtual 27, 3) := by decide +kernel
theorem dX1_newAt_24 : decode cX1_newAt 24 = .ok (.ifCond .eq 42, 3) := by decide +kernel
theorem dX1_newAt_27 : decode cX1_newAt 27 = .ok (.aload_n 0, 1) := by decide +kernel
theorem dX1_newAt_28 : decode cX1_newAt 28 = .ok (.iload 4, 2) := by decide +kernel
theorem dX1_newAt_30 : decode cX1_newAt 30 = .ok (.invokevirtual 40, 3) := by decide +kernel
theorem dX1_newAt_33 : decode cX1_newAt 33 = .ok (.ifCond .ne 33, 3) := by decide +kernel
theorem dX1_newAt_36 : decode cX1_newAt 36 = .ok (.aload_n 0, 1) := by decide +kernel
theorem dX1_newAt_37 : decode cX1_newAt 37 = .ok (.getfield 19, 3) := by decide +kernel
theorem dX1_newAt_40 : decode cX1_newAt 40 = .ok (.iload 4, 2) := by decide +kernel
theorem dX1_newAt_42 : decode cX1_newAt 42 = .ok (.invokevirtual 31, 3) := by decide +kernel
theorem dX1_newAt_45 : decode cX1_newAt 45 = .ok (.aload_n 0, 1) := by decide +kernel
theorem dX1_newAt_46 : decode cX1_newAt 46 = .ok (.getfield 19, 3) := by decide +kernel
theorem dX1_newAt_49 : decode cX1_newAt 49 = .ok (.invokevirtual 43, 3) := by decide +kernel
theorem dX1_newAt_52 : decode cX1_newAt 52 = .ok (.ifCond .eq 14, 3) := by decide +kernel
theorem dX1_newAt_55 : decode cX1_newAt 55 = .ok (.iload_n 3, 1) := by decide +kernel
theorem dX1_newAt_56 : decode cX1_newAt 56 = .ok (.iload_n 2, 1) := by decide +kernel
theorem dX1_newAt_57 : decode cX1_newAt 57 = .ok (.if_icmp .ne 6, 3) := by decide +kernel
theorem dX1_newAt_60 : decode cX1_newAt 60 = .ok (.iload 4, 2) := by decide +kernel
theorem dX1_newAt_62 : decode cX1_newAt 62 = .ok (.ireturn, 1) := by decide +kernel
theorem dX1_newAt_63 : decode cX1_newAt 63 = .ok (.iinc 3 1, 3) := by decide +kernel
theorem dX1_newAt_66 : decode cX1_newAt 66 = .ok (.iinc 4 1, 3) := by decide +kernel
theorem dX1_newAt_69 : decode cX1_newAt 69 = .ok (.goto (-59), 3) := by decide +kernel
theorem dX1_newAt_72 : decode cX1_newAt 72 = .ok (.iconst (-1), 1) := by decide +kernel
theorem dX1_newAt_73 : decode cX1_newAt 73 = .ok (.ireturn, 1) := by decide +kernel
def tbX1_newAt (pc : Nat) : dt_T := cond (Nat.ble pc 33) (cond (Nat.ble pc 12) (cond (Nat.ble pc 5) (cond (Nat.ble pc 1) (cond (Nat.ble pc 0) (cond (Nat.beq pc 0) (tc_ldA 0 1) tc_no) (cond (Nat.beq pc 1) (tc_ldI 1 2) tc_no)) (cond (Nat.ble pc 2) (cond (Nat.beq pc 2) (tc_callV 1 mX1_choose 1 5) tc_no) (cond (Nat.beq pc 5) (tc_ic 0 6) tc_no))) (cond (Nat.ble pc 7) (cond (Nat.ble pc 6) (cond (Nat.beq pc 6) (tc_stI 3 7) tc_no) (cond (Nat.beq pc 7) (tc_ic 0 8) tc_no)) (cond (Nat.ble pc 8) (cond (Nat.beq pc 8) (tc_stI 4 10) tc_no) (cond (Nat.ble pc 10) (cond (Nat.beq pc 10) (tc_ldI 4 12) tc_no) (cond (Nat.beq pc 12) (tc_ic 256 15) tc_no))))) (cond (Nat.ble pc 21) (cond (Nat.ble pc 18) (cond (Nat.ble pc 15) (cond (Nat.beq pc 15) (tc_icmpge 72 18) tc_no) (cond (Nat.beq pc 18) (tc_ldA 0 19) tc_no)) (cond (Nat.ble pc 19) (cond (Nat.beq pc 19) (tc_ldI 4 21) tc_no) (cond (Nat.beq pc 21) (tc_callV 1 mX1_isFirst 1 24) tc_no))) (cond (Nat.ble pc 27) (cond (Nat.ble pc 24) (cond (Nat.beq pc 24) (tc_ifeq 66 27) tc_no) (cond (Nat.beq pc 27) (tc_ldA 0 28) tc_no)) (cond (Nat.ble pc 28) (cond (Nat.beq pc 28) (tc_ldI 4 30) tc_no) (cond (Nat.ble pc 30) (cond (Nat.beq pc 30) (tc_callV 1 mX1_isOfOne 1 33) tc_no) (cond (Nat.beq pc 33) (tc_ifne 66 36) tc_no)))))) (cond (Nat.ble pc 55) (cond (Nat.ble pc 42) (cond (Nat.ble pc 37) (cond (Nat.ble pc 36) (cond (Nat.beq pc 36) (tc_ldA 0 37) tc_no) (cond (Nat.beq pc 37) (tc_getf 1 1 40) tc_no)) (cond (Nat.ble pc 40) (cond (Nat.beq pc 40) (tc_ldI 4 42) tc_no) (cond (Nat.beq pc 42) (tc_callV 2 mX2_perform 1 45) tc_no))) (cond (Nat.ble pc 46) (cond (Nat.ble pc 45) (cond (Nat.beq pc 45) (tc_ldA 0 46) tc_no) (cond (Nat.beq pc 46) (tc_getf 1 1 49) tc_no)) (cond (Nat.ble pc 49) (cond (Nat.beq pc 49) (tc_callV 2 mX2_ends 0 52) tc_no) (cond (Nat.ble pc 52) (cond (Nat.beq pc 52) (tc_ifeq 66 55) tc_no) (cond (Nat.beq pc 55) (tc_ldI 3 56) tc_no))))) (cond (Nat.ble pc 62) (cond (Nat.ble pc 57) (cond (Nat.ble pc 56) (cond (Nat.beq pc 56) (tc_ldI 2 57) tc_no) (cond (Nat.beq pc 57) (tc_icmpne 63 60) tc_no)) (cond (Nat.ble pc 60) (cond (Nat.beq pc 60) (tc_ldI 4 62) tc_no) (cond (Nat.beq pc 62) (tc_iret) tc_no))) (cond (Nat.ble pc 66) (cond (Nat.ble pc 63) (cond (Nat.beq pc 63) (tc_iinc 3 1 66) tc_no) (cond (Nat.beq pc 66) (tc_iinc 4 1 69) tc_no)) (cond (Nat.ble pc 69) (cond (Nat.beq pc 69) (tc_goto 10) tc_no) (cond (Nat.ble pc 72) (cond (Nat.beq pc 72) (tc_ic (-1) 73) tc_no) (cond (Nat.beq pc 73) (tc_iret) tc_no))))))
theorem okX1_newAt : ∀ pc, dt_S mX1_newAt (tbX1_newAt pc) pc := by
  intro pc
  unfold tbX1_newAt
  exact dt_Sb (dt_Sb (dt_Sb (dt_Sb (dt_Sb (dt_Sl 0 (sn_ldAn rfl dX1_newAt_0 rfl)) (dt_Sl 1 (sn_ldIn rfl dX1_newAt_1 rfl))) (dt_Sb (dt_Sl 2 (sn_callV rfl ffX1 nnX1_choose rfl wq_3_77 wq_3_79 wq_0_21 dX1_newAt_2 rfl)) (dt_Sl 5 (sn_ic ⟨by decide, by decide⟩ dX1_newAt_5 rfl)))) (dt_Sb (dt_Sb (dt_Sl 6 (sn_stIn rfl (by decide) dX1_newAt_6 rfl)) (dt_Sl 7 (sn_ic ⟨by decide, by decide⟩ dX1_newAt_7 rfl))) (dt_Sb (dt_Sl 8 (sn_stI (by decide) dX1_newAt_8 rfl)) (dt_Sb (dt_Sl 10 (sn_ldI dX1_newAt_10 rfl)) (dt_Sl 12 (sn_si ⟨by decide, by decide⟩ rfl dX1_newAt_12 rfl)))))) (dt_Sb (dt_Sb (dt_Sb (dt_Sl 15 (sn_icmpge dX1_newAt_15 (by decide) rfl)) (dt_Sl 18 (sn_ldAn rfl dX1_newAt_18 rfl))) (dt_Sb (dt_Sl 19 (sn_ldI dX1_newAt_19 rfl)) (dt_Sl 21 (sn_callV rfl ffX1 nnX1_isFirst rfl wq_3_90 wq_3_92 wq_0_24 dX1_newAt_21 rfl)))) (dt_Sb (dt_Sb (dt_Sl 24 (sn_ifeq dX1_newAt_24 (by decide) rfl)) (dt_Sl 27 (sn_ldAn rfl dX1_newAt_27 rfl))) (dt_Sb (dt_Sl 28 (sn_ldI dX1_newAt_28 rfl)) (dt_Sb (dt_Sl 30 (sn_callV rfl ffX1 nnX1_isOfOne rfl wq_3_101 wq_3_103 wq_0_26 dX1_newAt_30 rfl)) (dt_Sl 33 (sn_ifne dX1_newAt_33 (by decide) rfl))))))) (dt_Sb (dt_Sb (dt_Sb (dt_Sb (dt_Sl 36 (sn_ldAn rfl dX1_newAt_36 rfl)) (dt_Sl 37 (sn_getf rfl ffX1 (by decide) wq_1_205 dX1_newAt_37 rfl))) (dt_Sb (dt_Sl 40 (sn_ldI dX1_newAt_40 rfl)) (dt_Sl 42 (sn_callV rfl ffX2 nnX2_perform rfl wq_3_95 wq_3_27 wq_3_28 dX1_newAt_42 rfl)))) (dt_Sb (dt_Sb (dt_Sl 45 (sn_ldAn rfl dX1_newAt_45 rfl)) (dt_Sl 46 (sn_getf rfl ffX1 (by decide) wq_1_205 dX1_newAt_46 rfl))) (dt_Sb (dt_Sl 49 (sn_callV rfl ffX2 nnX2_ends rfl wq_3_100 wq_3_63 wq_3_64 dX1_newAt_49 rfl)) (dt_Sb (dt_Sl 52 (sn_ifeq dX1_newAt_52 (by decide) rfl)) (dt_Sl 55 (sn_ldIn rfl dX1_newAt_55 rfl)))))) (dt_Sb (dt_Sb (dt_Sb (dt_Sl 56 (sn_ldIn rfl dX1_newAt_56 rfl)) (dt_Sl 57 (sn_icmpne dX1_newAt_57 (by decide) rfl))) (dt_Sb (dt_Sl 60 (sn_ldI dX1_newAt_60 rfl)) (dt_Sl 62 (sn_iret rfl dX1_newAt_62)))) (dt_Sb (dt_Sb (dt_Sl 63 (sn_iinc (by decide) dX1_newAt_63 rfl)) (dt_Sl 66 (sn_iinc (by decide) dX1_newAt_66 rfl))) (dt_Sb (dt_Sl 69 (sn_goto dX1_newAt_69 (by decide))) (dt_Sb (dt_Sl 72 (sn_ic ⟨by decide, by decide⟩ dX1_newAt_72 rfl)) (dt_Sl 73 (sn_iret rfl dX1_newAt_73)))))))
theorem dX1_choose_0 : decode cX1_choose 0 = .ok (.aload_n 0, 1) := by decide +kernel
theorem dX1_choose_1 : decode cX1_choose 1 = .ok (.iload_n 1, 1) := by decide +kernel
theorem dX1_choose_2 : decode cX1_choose 2 = .ok (.putfield 47, 3) := by decide +kernel
theorem dX1_choose_5 : decode cX1_choose 5 = .ok (.iconst 0, 1) := by decide +kernel
theorem dX1_choose_6 : decode cX1_choose 6 = .ok (.istore_n 2, 1) := by decide +kernel
theorem dX1_choose_7 : decode cX1_choose 7 = .ok (.iload_n 2, 1) := by decide +kernel
theorem dX1_choose_8 : decode cX1_choose 8 = .ok (.iconst 4, 1) := by decide +kernel
theorem dX1_choose_9 : decode cX1_choose 9 = .ok (.if_icmp .ge 50, 3) := by decide +kernel
theorem dX1_choose_12 : decode cX1_choose 12 = .ok (.iconst 0, 1) := by decide +kernel
theorem dX1_choose_13 : decode cX1_choose 13 = .ok (.istore_n 3, 1) := by decide +kernel
theorem dX1_choose_14 : decode cX1_choose 14 = .ok (.iload_n 3, 1) := by decide +kernel
theorem dX1_choose_15 : decode cX1_choose 15 = .ok (.iconst 4, 1) := by decide +kernel
theorem dX1_choose_16 : decode cX1_choose 16 = .ok (.if_icmp .ge 37, 3) := by decide +kernel
theorem dX1_choose_19 : decode cX1_choose 19 = .ok (.aload_n 0, 1) := by decide +kernel
theorem dX1_choose_20 : decode cX1_choose 20 = .ok (.getfield 9, 3) := by decide +kernel
theorem dX1_choose_23 : decode cX1_choose 23 = .ok (.iload_n 2, 1) := by decide +kernel
theorem dX1_choose_24 : decode cX1_choose 24 = .ok (.iconst 4, 1) := by decide +kernel
theorem dX1_choose_25 : decode cX1_choose 25 = .ok (.imul, 1) := by decide +kernel
theorem dX1_choose_26 : decode cX1_choose 26 = .ok (.iload_n 3, 1) := by decide +kernel
theorem dX1_choose_27 : decode cX1_choose 27 = .ok (.iadd, 1) := by decide +kernel
theorem dX1_choose_28 : decode cX1_choose 28 = .ok (.aload_n 0, 1) := by decide +kernel
theorem dX1_choose_29 : decode cX1_choose 29 = .ok (.iload_n 3, 1) := by decide +kernel
theorem dX1_choose_30 : decode cX1_choose 30 = .ok (.invokevirtual 51, 3) := by decide +kernel
theorem dX1_choose_33 : decode cX1_choose 33 = .ok (.ifCond .eq 12, 3) := by decide +kernel
theorem dX1_choose_36 : decode cX1_choose 36 = .ok (.aload_n 0, 1) := by decide +kernel
theorem dX1_choose_37 : decode cX1_choose 37 = .ok (.iload_n 3, 1) := by decide +kernel
theorem dX1_choose_38 : decode cX1_choose 38 = .ok (.iload_n 2, 1) := by decide +kernel
theorem dX1_choose_39 : decode cX1_choose 39 = .ok (.invokevirtual 54, 3) := by decide +kernel
theorem dX1_choose_42 : decode cX1_choose 42 = .ok (.goto 4, 3) := by decide +kernel
theorem dX1_choose_45 : decode cX1_choose 45 = .ok (.iconst (-1), 1) := by decide +kernel
theorem dX1_choose_46 : decode cX1_choose 46 = .ok (.iastore, 1) := by decide +kernel
theorem dX1_choose_47 : decode cX1_choose 47 = .ok (.iinc 3 1, 3) := by decide +kernel
theorem dX1_choose_50 : decode cX1_choose 50 = .ok (.goto (-36), 3) := by decide +kernel
theorem dX1_choose_53 : decode cX1_choose 53 = .ok (.iinc 2 1, 3) := by decide +kernel
theorem dX1_choose_56 : decode cX1_choose 56 = .ok (.goto (-49), 3) := by decide +kernel
theorem dX1_choose_59 : decode cX1_choose 59 = .ok (.return_, 1) := by decide +kernel
def tbX1_choose (pc : Nat) : dt_T := cond (Nat.ble pc 25) (cond (Nat.ble pc 12) (cond (Nat.ble pc 5) (cond (Nat.ble pc 1) (cond (Nat.ble pc 0) (cond (Nat.beq pc 0) (tc_ldA 0 1) tc_no) (cond (Nat.beq pc 1) (tc_ldI 1 2) tc_no)) (cond (Nat.ble pc 2) (cond (Nat.beq pc 2) (tc_putI 1 3 5) tc_no) (cond (Nat.beq pc 5) (tc_ic 0 6) tc_no))) (cond (Nat.ble pc 7) (cond (Nat.ble pc 6) (cond (Nat.beq pc 6) (tc_stI 2 7) tc_no) (cond (Nat.beq pc 7) (tc_ldI 2 8) tc_no)) (cond (Nat.ble pc 8) (cond (Nat.beq pc 8) (tc_ic 4 9) tc_no) (cond (Nat.ble pc 9) (cond (Nat.beq pc 9) (tc_icmpge 59 12) tc_no) (cond (Nat.beq pc 12) (tc_ic 0 13) tc_no))))) (cond (Nat.ble pc 16) (cond (Nat.ble pc 14) (cond (Nat.ble pc 13) (cond (Nat.beq pc 13) (tc_stI 3 14) tc_no) (cond (Nat.beq pc 14) (tc_ldI 3 15) tc_no)) (cond (Nat.ble pc 15) (cond (Nat.beq pc 15) (tc_ic 4 16) tc_no) (cond (Nat.beq pc 16) (tc_icmpge 53 19) tc_no))) (cond (Nat.ble pc 20) (cond (Nat.ble pc 19) (cond (Nat.beq pc 19) (tc_ldA 0 20) tc_no) (cond (Nat.beq pc 20) (tc_getf 1 2 23) tc_no)) (cond (Nat.ble pc 23) (cond (Nat.beq pc 23) (tc_ldI 2 24) tc_no) (cond (Nat.ble pc 24) (cond (Nat.beq pc 24) (tc_ic 4 25) tc_no) (cond (Nat.beq pc 25) (tc_imul 26) tc_no)))))) (cond (Nat.ble pc 38) (cond (Nat.ble pc 29) (cond (Nat.ble pc 27) (cond (Nat.ble pc 26) (cond (Nat.beq pc 26) (tc_ldI 3 27) tc_no) (cond (Nat.beq pc 27) (tc_iadd 28) tc_no)) (cond (Nat.ble pc 28) (cond (Nat.beq pc 28) (tc_ldA 0 29) tc_no) (cond (Nat.beq pc 29) (tc_ldI 3 30) tc_no))) (cond (Nat.ble pc 33) (cond (Nat.ble pc 30) (cond (Nat.beq pc 30) (tc_callV 1 mX1_has 1 33) tc_no) (cond (Nat.beq pc 33) (tc_ifeq 45 36) tc_no)) (cond (Nat.ble pc 36) (cond (Nat.beq pc 36) (tc_ldA 0 37) tc_no) (cond (Nat.ble pc 37) (cond (Nat.beq pc 37) (tc_ldI 3 38) tc_no) (cond (Nat.beq pc 38) (tc_ldI 2 39) tc_no))))) (cond (Nat.ble pc 46) (cond (Nat.ble pc 42) (cond (Nat.ble pc 39) (cond (Nat.beq pc 39) (tc_callV 1 mX1_firstLike 2 42) tc_no) (cond (Nat.beq pc 42) (tc_goto 46) tc_no)) (cond (Nat.ble pc 45) (cond (Nat.beq pc 45) (tc_ic (-1) 46) tc_no) (cond (Nat.beq pc 46) (tc_iast 47) tc_no))) (cond (Nat.ble pc 50) (cond (Nat.ble pc 47) (cond (Nat.beq pc 47) (tc_iinc 3 1 50) tc_no) (cond (Nat.beq pc 50) (tc_goto 14) tc_no)) (cond (Nat.ble pc 53) (cond (Nat.beq pc 53) (tc_iinc 2 1 56) tc_no) (cond (Nat.ble pc 56) (cond (Nat.beq pc 56) (tc_goto 7) tc_no) (cond (Nat.beq pc 59) (tc_ret) tc_no))))))
theorem okX1_choose : ∀ pc, dt_S mX1_choose (tbX1_choose pc) pc := by
  intro pc
  unfold tbX1_choose
  exact dt_Sb (dt_Sb (dt_Sb (dt_Sb (dt_Sb (dt_Sl 0 (sn_ldAn rfl dX1_choose_0 rfl)) (dt_Sl 1 (sn_ldIn rfl dX1_choose_1 rfl))) (dt_Sb (dt_Sl 2 (sn_putI rfl ffX1 (by decide) rfl rfl (by decide +kernel) wq_1_207 dX1_choose_2 rfl)) (dt_Sl 5 (sn_ic ⟨by decide, by decide⟩ dX1_choose_5 rfl)))) (dt_Sb (dt_Sb (dt_Sl 6 (sn_stIn rfl (by decide) dX1_choose_6 rfl)) (dt_Sl 7 (sn_ldIn rfl dX1_choose_7 rfl))) (dt_Sb (dt_Sl 8 (sn_ic ⟨by decide, by decide⟩ dX1_choose_8 rfl)) (dt_Sb (dt_Sl 9 (sn_icmpge dX1_choose_9 (by decide) rfl)) (dt_Sl 12 (sn_ic ⟨by decide, by decide⟩ dX1_choose_12 rfl)))))) (dt_Sb (dt_Sb (dt_Sb (dt_Sl 13 (sn_stIn rfl (by decide) dX1_choose_13 rfl)) (dt_Sl 14 (sn_ldIn rfl dX1_choose_14 rfl))) (dt_Sb (dt_Sl 15 (sn_ic ⟨by decide, by decide⟩ dX1_choose_15 rfl)) (dt_Sl 16 (sn_icmpge dX1_choose_16 (by decide) rfl)))) (dt_Sb (dt_Sb (dt_Sl 19 (sn_ldAn rfl dX1_choose_19 rfl)) (dt_Sl 20 (sn_getf rfl ffX1 (by decide) wq_1_206 dX1_choose_20 rfl))) (dt_Sb (dt_Sl 23 (sn_ldIn rfl dX1_choose_23 rfl)) (dt_Sb (dt_Sl 24 (sn_ic ⟨by decide, by decide⟩ dX1_choose_24 rfl)) (dt_Sl 25 (sn_imul dX1_choose_25 rfl))))))) (dt_Sb (dt_Sb (dt_Sb (dt_Sb (dt_Sl 26 (sn_ldIn rfl dX1_choose_26 rfl)) (dt_Sl 27 (sn_iadd dX1_choose_27 rfl))) (dt_Sb (dt_Sl 28 (sn_ldAn rfl dX1_choose_28 rfl)) (dt_Sl 29 (sn_ldIn rfl dX1_choose_29 rfl)))) (dt_Sb (dt_Sb (dt_Sl 30 (sn_callV rfl ffX1 nnX1_has rfl wq_3_81 wq_3_83 wq_0_22 dX1_choose_30 rfl)) (dt_Sl 33 (sn_ifeq dX1_choose_33 (by decide) rfl))) (dt_Sb (dt_Sl 36 (sn_ldAn rfl dX1_choose_36 rfl)) (dt_Sb (dt_Sl 37 (sn_ldIn rfl dX1_choose_37 rfl)) (dt_Sl 38 (sn_ldIn rfl dX1_choose_38 rfl)))))) (dt_Sb (dt_Sb (dt_Sb (dt_Sl 39 (sn_callV rfl ffX1 nnX1_firstLike rfl wq_3_85 wq_3_87 wq_0_23 dX1_choose_39 rfl)) (dt_Sl 42 (sn_goto dX1_choose_42 (by decide)))) (dt_Sb (dt_Sl 45 (sn_ic ⟨by decide, by decide⟩ dX1_choose_45 rfl)) (dt_Sl 46 (sn_iast dX1_choose_46 rfl)))) (dt_Sb (dt_Sb (dt_Sl 47 (sn_iinc (by decide) dX1_choose_47 rfl)) (dt_Sl 50 (sn_goto dX1_choose_50 (by decide)))) (dt_Sb (dt_Sl 53 (sn_iinc (by decide) dX1_choose_53 rfl)) (dt_Sb (dt_Sl 56 (sn_goto dX1_choose_56 (by decide))) (dt_Sl 59 (sn_ret rfl dX1_choose_59)))))))
theorem dX1_has_0 : decode cX1_has 0 = .ok (.aload_n 0, 1) := by decide +kernel
theorem dX1_has_1 : decode cX1_has 1 = .ok (.getfield 47, 3) := by decide +kernel
theorem dX1_has_4 : decode cX1_has 4 = .ok (.iconst 1, 1) := by decide +kernel
theorem dX1_has_5 : decode cX1_has 5 = .ok (.iload_n 1, 1) := by decide +kernel
theorem dX1_has_6 : decode cX1_has 6 = .ok (.ishl, 1) := by decide +kernel
theorem dX1_has_7 : decode cX1_has 7 = .ok (.iand, 1) := by decide +kernel
theorem dX1_has_8 : decode cX1_has 8 = .ok (.ifCond .eq 7, 3) := by decide +kernel
theorem dX1_has_11 : decode cX1_has 11 = .ok (.iconst 1, 1) := by decide +kernel
theorem dX1_has_12 : decode cX1_has 12 = .ok (.goto 4, 3) := by decide +kernel
theorem dX1_has_15 : decode cX1_has 15 = .ok (.iconst 0, 1) := by decide +kernel
theorem dX1_has_16 : decode cX1_has 16 = .ok (.ireturn, 1) := by decide +kernel
def tbX1_has (pc : Nat) : dt_T := cond (Nat.ble pc 6) (cond (Nat.ble pc 1) (cond (Nat.ble pc 0) (cond (Nat.beq pc 0) (tc_ldA 0 1) tc_no) (cond (Nat.beq pc 1) (tc_getf 1 3 4) tc_no)) (cond (Nat.ble pc 4) (cond (Nat.beq pc 4) (tc_ic 1 5) tc_no) (cond (Nat.ble pc 5) (cond (Nat.beq pc 5) (tc_ldI 1 6) tc_no) (cond (Nat.beq pc 6) (tc_ishl 7) tc_no)))) (cond (Nat.ble pc 11) (cond (Nat.ble pc 7) (cond (Nat.beq pc 7) (tc_iand 8) tc_no) (cond (Nat.ble pc 8) (cond (Nat.beq pc 8) (tc_ifeq 15 11) tc_no) (cond (Nat.beq pc 11) (tc_ic 1 12) tc_no))) (cond (Nat.ble pc 12) (cond (Nat.beq pc 12) (tc_goto 16) tc_no) (cond (Nat.ble pc 15) (cond (Nat.beq pc 15) (tc_ic 0 16) tc_no) (cond (Nat.beq pc 16) (tc_zret) tc_no))))
theorem okX1_has : ∀ pc, dt_S mX1_has (tbX1_has pc) pc := by
  intro pc
  unfold tbX1_has
  exact dt_Sb (dt_Sb (dt_Sb (dt_Sl 0 (sn_ldAn rfl dX1_has_0 rfl)) (dt_Sl 1 (sn_getf rfl ffX1 (by decide) wq_1_207 dX1_has_1 rfl))) (dt_Sb (dt_Sl 4 (sn_ic ⟨by decide, by decide⟩ dX1_has_4 rfl)) (dt_Sb (dt_Sl 5 (sn_ldIn rfl dX1_has_5 rfl)) (dt_Sl 6 (sn_ishl dX1_has_6 rfl))))) (dt_Sb (dt_Sb (dt_Sl 7 (sn_iand dX1_has_7 rfl)) (dt_Sb (dt_Sl 8 (sn_ifeq dX1_has_8 (by decide) rfl)) (dt_Sl 11 (sn_ic ⟨by decide, by decide⟩ dX1_has_11 rfl)))) (dt_Sb (dt_Sl 12 (sn_goto dX1_has_12 (by decide))) (dt_Sb (dt_Sl 15 (sn_ic ⟨by decide, by decide⟩ dX1_has_15 rfl)) (dt_Sl 16 (sn_zret rfl dX1_has_16)))))
theorem dX1_firstLike_0 : decode cX1_firstLike 0 = .ok (.iconst 0, 1) := by decide +kernel
theorem dX1_firstLike_1 : decode cX1_firstLike 1 = .ok (.istore_n 3, 1) := by decide +kernel
theorem dX1_firstLike_2 : decode cX1_firstLike 2 = .ok (.iload_n 3, 1) := by decide +kernel
theorem dX1_firstLike_3 : decode cX1_firstLike 3 = .ok (.iload_n 1, 1) := by decide +kernel
theorem dX1_firstLike_4 : decode cX1_firstLike 4 = .ok (.if_icmp .ge 38, 3) := by decide +kernel
theorem dX1_firstLike_7 : decode cX1_firstLike 7 = .ok (.aload_n 0, 1) := by decide +kernel
theorem dX1_firstLike_8 : decode cX1_firstLike 8 = .ok (.iload_n 3, 1) := by decide +kernel
theorem dX1_firstLike_9 : decode cX1_firstLike 9 = .ok (.invokevirtual 51, 3) := by decide +kernel
theorem dX1_firstLike_12 : decode cX1_firstLike 12 = .ok (.ifCond .eq 24, 3) := by decide +kernel
theorem dX1_firstLike_15 : decode cX1_firstLike 15 = .ok (.aload_n 0, 1) := by decide +kernel
theorem dX1_firstLike_16 : decode cX1_firstLike 16 = .ok (.getfield 15, 3) := by decide +kernel
theorem dX1_firstLike_19 : decode cX1_firstLike 19 = .ok (.iload_n 3, 1) := by decide +kernel
theorem dX1_firstLike_20 : decode cX1_firstLike 20 = .ok (.aaload, 1) := by decide +kernel
theorem dX1_firstLike_21 : decode cX1_firstLike 21 = .ok (.aload_n 0, 1) := by decide +kernel
theorem dX1_firstLike_22 : decode cX1_firstLike 22 = .ok (.getfield 15, 3) := by decide +kernel
theorem dX1_firstLike_25 : decode cX1_firstLike 25 = .ok (.iload_n 1, 1) := by decide +kernel
theorem dX1_firstLike_26 : decode cX1_firstLike 26 = .ok (.aaload, 1) := by decide +kernel
theorem dX1_firstLike_27 : decode cX1_firstLike 27 = .ok (.iload_n 2, 1) := by decide +kernel
theorem dX1_firstLike_28 : decode cX1_firstLike 28 = .ok (.invokevirtual 58, 3) := by decide +kernel
theorem dX1_firstLike_31 : decode cX1_firstLike 31 = .ok (.ifCond .eq 5, 3) := by decide +kernel
theorem dX1_firstLike_34 : decode cX1_firstLike 34 = .ok (.iload_n 3, 1) := by decide +kernel
theorem dX1_firstLike_35 : decode cX1_firstLike 35 = .ok (.ireturn, 1) := by decide +kernel
theorem dX1_firstLike_36 : decode cX1_firstLike 36 = .ok (.iinc 3 1, 3) := by decide +kernel
theorem dX1_firstLike_39 : decode cX1_firstLike 39 = .ok (.goto (-37), 3) := by decide +kernel
theorem dX1_firstLike_42 : decode cX1_firstLike 42 = .ok (.iload_n 1, 1) := by decide +kernel
theorem dX1_firstLike_43 : decode cX1_firstLike 43 = .ok (.ireturn, 1) := by decide +kernel
def tbX1_firstLike (pc : Nat) : dt_T := cond (Nat.ble pc 20) (cond (Nat.ble pc 7) (cond (Nat.ble pc 2) (cond (Nat.ble pc 0) (cond (Nat.beq pc 0) (tc_ic 0 1) tc_no) (cond (Nat.ble pc 1) (cond (Nat.beq pc 1) (tc_stI 3 2) tc_no) (cond (Nat.beq pc 2) (tc_ldI 3 3) tc_no))) (cond (Nat.ble pc 3) (cond (Nat.beq pc 3) (tc_ldI 1 4) tc_no) (cond (Nat.ble pc 4) (cond (Nat.beq pc 4) (tc_icmpge 42 7) tc_no) (cond (Nat.beq pc 7) (tc_ldA 0 8) tc_no)))) (cond (Nat.ble pc 12) (cond (Nat.ble pc 8) (cond (Nat.beq pc 8) (tc_ldI 3 9) tc_no) (cond (Nat.ble pc 9) (cond (Nat.beq pc 9) (tc_callV 1 mX1_has 1 12) tc_no) (cond (Nat.beq pc 12) (tc_ifeq 36 15) tc_no))) (cond (Nat.ble pc 16) (cond (Nat.ble pc 15) (cond (Nat.beq pc 15) (tc_ldA 0 16) tc_no) (cond (Nat.beq pc 16) (tc_getf 1 0 19) tc_no)) (cond (Nat.ble pc 19) (cond (Nat.beq pc 19) (tc_ldI 3 20) tc_no) (cond (Nat.beq pc 20) (tc_aald 21) tc_no))))) (cond (Nat.ble pc 28) (cond (Nat.ble pc 25) (cond (Nat.ble pc 21) (cond (Nat.beq pc 21) (tc_ldA 0 22) tc_no) (cond (Nat.ble pc 22) (cond (Nat.beq pc 22) (tc_getf 1 0 25) tc_no) (cond (Nat.beq pc 25) (tc_ldI 1 26) tc_no))) (cond (Nat.ble pc 26) (cond (Nat.beq pc 26) (tc_aald 27) tc_no) (cond (Nat.ble pc 27) (cond (Nat.beq pc 27) (tc_ldI 2 28) tc_no) (cond (Nat.beq pc 28) (tc_callV 5 mX5_hasSameLine 2 31) tc_no)))) (cond (Nat.ble pc 35) (cond (Nat.ble pc 31) (cond (Nat.beq pc 31) (tc_ifeq 36 34) tc_no) (cond (Nat.ble pc 34) (cond (Nat.beq pc 34) (tc_ldI 3 35) tc_no) (cond (Nat.beq pc 35) (tc_iret) tc_no))) (cond (Nat.ble pc 39) (cond (Nat.ble pc 36) (cond (Nat.beq pc 36) (tc_iinc 3 1 39) tc_no) (cond (Nat.beq pc 39) (tc_goto 2) tc_no)) (cond (Nat.ble pc 42) (cond (Nat.beq pc 42) (tc_ldI 1 43) tc_no) (cond (Nat.beq pc 43) (tc_iret) tc_no)))))
theorem okX1_firstLike : ∀ pc, dt_S mX1_firstLike (tbX1_firstLike pc) pc := by
  intro pc
  unfold tbX1_firstLike
  exact dt_Sb (dt_Sb (dt_Sb (dt_Sb (dt_Sl 0 (sn_ic ⟨by decide, by decide⟩ dX1_firstLike_0 rfl)) (dt_Sb (dt_Sl 1 (sn_stIn rfl (by decide) dX1_firstLike_1 rfl)) (dt_Sl 2 (sn_ldIn rfl dX1_firstLike_2 rfl)))) (dt_Sb (dt_Sl 3 (sn_ldIn rfl dX1_firstLike_3 rfl)) (dt_Sb (dt_Sl 4 (sn_icmpge dX1_firstLike_4 (by decide) rfl)) (dt_Sl 7 (sn_ldAn rfl dX1_firstLike_7 rfl))))) (dt_Sb (dt_Sb (dt_Sl 8 (sn_ldIn rfl dX1_firstLike_8 rfl)) (dt_Sb (dt_Sl 9 (sn_callV rfl ffX1 nnX1_has rfl wq_3_81 wq_3_83 wq_0_22 dX1_firstLike_9 rfl)) (dt_Sl 12 (sn_ifeq dX1_firstLike_12 (by decide) rfl)))) (dt_Sb (dt_Sb (dt_Sl 15 (sn_ldAn rfl dX1_firstLike_15 rfl)) (dt_Sl 16 (sn_getf rfl ffX1 (by decide) wq_1_204 dX1_firstLike_16 rfl))) (dt_Sb (dt_Sl 19 (sn_ldIn rfl dX1_firstLike_19 rfl)) (dt_Sl 20 (sn_aald dX1_firstLike_20 rfl)))))) (dt_Sb (dt_Sb (dt_Sb (dt_Sl 21 (sn_ldAn rfl dX1_firstLike_21 rfl)) (dt_Sb (dt_Sl 22 (sn_getf rfl ffX1 (by decide) wq_1_204 dX1_firstLike_22 rfl)) (dt_Sl 25 (sn_ldIn rfl dX1_firstLike_25 rfl)))) (dt_Sb (dt_Sl 26 (sn_aald dX1_firstLike_26 rfl)) (dt_Sb (dt_Sl 27 (sn_ldIn rfl dX1_firstLike_27 rfl)) (dt_Sl 28 (sn_callV rfl ffX5 nnX5_hasSameLine rfl wq_3_89 wq_3_11 wq_3_12 dX1_firstLike_28 rfl))))) (dt_Sb (dt_Sb (dt_Sl 31 (sn_ifeq dX1_firstLike_31 (by decide) rfl)) (dt_Sb (dt_Sl 34 (sn_ldIn rfl dX1_firstLike_34 rfl)) (dt_Sl 35 (sn_iret rfl dX1_firstLike_35)))) (dt_Sb (dt_Sb (dt_Sl 36 (sn_iinc (by decide) dX1_firstLike_36 rfl)) (dt_Sl 39 (sn_goto dX1_firstLike_39 (by decide)))) (dt_Sb (dt_Sl 42 (sn_ldIn rfl dX1_firstLike_42 rfl)) (dt_Sl 43 (sn_iret rfl dX1_firstLike_43))))))
theorem dX1_isFirst_0 : decode cX1_isFirst 0 = .ok (.iconst 0, 1) := by decide +kernel
theorem dX1_isFirst_1 : decode cX1_isFirst 1 = .ok (.istore_n 2, 1) := by decide +kernel
theorem dX1_isFirst_2 : decode cX1_isFirst 2 = .ok (.iload_n 2, 1) := by decide +kernel
theorem dX1_isFirst_3 : decode cX1_isFirst 3 = .ok (.iconst 4, 1) := by decide +kernel
theorem dX1_isFirst_4 : decode cX1_isFirst 4 = .ok (.if_icmp .ge 31, 3) := by decide +kernel
theorem dX1_isFirst_7 : decode cX1_isFirst 7 = .ok (.iload_n 1, 1) := by decide +kernel
theorem dX1_isFirst_8 : decode cX1_isFirst 8 = .ok (.iload_n 2, 1) := by decide +kernel
theorem dX1_isFirst_9 : decode cX1_isFirst 9 = .ok (.invokestatic 64, 3) := by decide +kernel
theorem dX1_isFirst_12 : decode cX1_isFirst 12 = .ok (.istore_n 3, 1) := by decide +kernel
theorem dX1_isFirst_13 : decode cX1_isFirst 13 = .ok (.aload_n 0, 1) := by decide +kernel
theorem dX1_isFirst_14 : decode cX1_isFirst 14 = .ok (.getfield 9, 3) := by decide +kernel
theorem dX1_isFirst_17 : decode cX1_isFirst 17 = .ok (.iload_n 2, 1) := by decide +kernel
theorem dX1_isFirst_18 : decode cX1_isFirst 18 = .ok (.iconst 4, 1) := by decide +kernel
theorem dX1_isFirst_19 : decode cX1_isFirst 19 = .ok (.imul, 1) := by decide +kernel
theorem dX1_isFirst_20 : decode cX1_isFirst 20 = .ok (.iload_n 3, 1) := by decide +kernel
theorem dX1_isFirst_21 : decode cX1_isFirst 21 = .ok (.iadd, 1) := by decide +kernel
theorem dX1_isFirst_22 : decode cX1_isFirst 22 = .ok (.iaload, 1) := by decide +kernel
theorem dX1_isFirst_23 : decode cX1_isFirst 23 = .ok (.iload_n 3, 1) := by decide +kernel
theorem dX1_isFirst_24 : decode cX1_isFirst 24 = .ok (.if_icmp .eq 5, 3) := by decide +kernel
theorem dX1_isFirst_27 : decode cX1_isFirst 27 = .ok (.iconst 0, 1) := by decide +kernel
theorem dX1_isFirst_28 : decode cX1_isFirst 28 = .ok (.ireturn, 1) := by decide +kernel
theorem dX1_isFirst_29 : decode cX1_isFirst 29 = .ok (.iinc 2 1, 3) := by decide +kernel
theorem dX1_isFirst_32 : decode cX1_isFirst 32 = .ok (.goto (-30), 3) := by decide +kernel
theorem dX1_isFirst_35 : decode cX1_isFirst 35 = .ok (.iconst 1, 1) := by decide +kernel
theorem dX1_isFirst_36 : decode cX1_isFirst 36 = .ok (.ireturn, 1) := by decide +kernel
def tbX1_isFirst (pc : Nat) : dt_T := cond (Nat.ble pc 17) (cond (Nat.ble pc 7) (cond (Nat.ble pc 2) (cond (Nat.ble pc 0) (cond (Nat.beq pc 0) (tc_ic 0 1) tc_no) (cond (Nat.ble pc 1) (cond (Nat.beq pc 1) (tc_stI 2 2) tc_no) (cond (Nat.beq pc 2) (tc_ldI 2 3) tc_no))) (cond (Nat.ble pc 3) (cond (Nat.beq pc 3) (tc_ic 4 4) tc_no) (cond (Nat.ble pc 4) (cond (Nat.beq pc 4) (tc_icmpge 35 7) tc_no) (cond (Nat.beq pc 7) (tc_ldI 1 8) tc_no)))) (cond (Nat.ble pc 12) (cond (Nat.ble pc 8) (cond (Nat.beq pc 8) (tc_ldI 2 9) tc_no) (cond (Nat.ble pc 9) (cond (Nat.beq pc 9) (tc_callS mX6_choice 2 12) tc_no) (cond (Nat.beq pc 12) (tc_stI 3 13) tc_no))) (cond (Nat.ble pc 13) (cond (Nat.beq pc 13) (tc_ldA 0 14) tc_no) (cond (Nat.ble pc 14) (cond (Nat.beq pc 14) (tc_getf 1 2 17) tc_no) (cond (Nat.beq pc 17) (tc_ldI 2 18) tc_no))))) (cond (Nat.ble pc 23) (cond (Nat.ble pc 20) (cond (Nat.ble pc 18) (cond (Nat.beq pc 18) (tc_ic 4 19) tc_no) (cond (Nat.ble pc 19) (cond (Nat.beq pc 19) (tc_imul 20) tc_no) (cond (Nat.beq pc 20) (tc_ldI 3 21) tc_no))) (cond (Nat.ble pc 21) (cond (Nat.beq pc 21) (tc_iadd 22) tc_no) (cond (Nat.ble pc 22) (cond (Nat.beq pc 22) (tc_iald 23) tc_no) (cond (Nat.beq pc 23) (tc_ldI 3 24) tc_no)))) (cond (Nat.ble pc 28) (cond (Nat.ble pc 24) (cond (Nat.beq pc 24) (tc_icmpeq 29 27) tc_no) (cond (Nat.ble pc 27) (cond (Nat.beq pc 27) (tc_ic 0 28) tc_no) (cond (Nat.beq pc 28) (tc_zret) tc_no))) (cond (Nat.ble pc 32) (cond (Nat.ble pc 29) (cond (Nat.beq pc 29) (tc_iinc 2 1 32) tc_no) (cond (Nat.beq pc 32) (tc_goto 2) tc_no)) (cond (Nat.ble pc 35) (cond (Nat.beq pc 35) (tc_ic 1 36) tc_no) (cond (Nat.beq pc 36) (tc_zret) tc_no)))))
theorem okX1_isFirst : ∀ pc, dt_S mX1_isFirst (tbX1_isFirst pc) pc := by
  intro pc
  unfold tbX1_isFirst
  exact dt_Sb (dt_Sb (dt_Sb (dt_Sb (dt_Sl 0 (sn_ic ⟨by decide, by decide⟩ dX1_isFirst_0 rfl)) (dt_Sb (dt_Sl 1 (sn_stIn rfl (by decide) dX1_isFirst_1 rfl)) (dt_Sl 2 (sn_ldIn rfl dX1_isFirst_2 rfl)))) (dt_Sb (dt_Sl 3 (sn_ic ⟨by decide, by decide⟩ dX1_isFirst_3 rfl)) (dt_Sb (dt_Sl 4 (sn_icmpge dX1_isFirst_4 (by decide) rfl)) (dt_Sl 7 (sn_ldIn rfl dX1_isFirst_7 rfl))))) (dt_Sb (dt_Sb (dt_Sl 8 (sn_ldIn rfl dX1_isFirst_8 rfl)) (dt_Sb (dt_Sl 9 (sn_callSN rfl nnX6_choice wq_3_94 wq_3_39 dX1_isFirst_9 rfl)) (dt_Sl 12 (sn_stIn rfl (by decide) dX1_isFirst_12 rfl)))) (dt_Sb (dt_Sl 13 (sn_ldAn rfl dX1_isFirst_13 rfl)) (dt_Sb (dt_Sl 14 (sn_getf rfl ffX1 (by decide) wq_1_206 dX1_isFirst_14 rfl)) (dt_Sl 17 (sn_ldIn rfl dX1_isFirst_17 rfl)))))) (dt_Sb (dt_Sb (dt_Sb (dt_Sl 18 (sn_ic ⟨by decide, by decide⟩ dX1_isFirst_18 rfl)) (dt_Sb (dt_Sl 19 (sn_imul dX1_isFirst_19 rfl)) (dt_Sl 20 (sn_ldIn rfl dX1_isFirst_20 rfl)))) (dt_Sb (dt_Sl 21 (sn_iadd dX1_isFirst_21 rfl)) (dt_Sb (dt_Sl 22 (sn_iald dX1_isFirst_22 rfl)) (dt_Sl 23 (sn_ldIn rfl dX1_isFirst_23 rfl))))) (dt_Sb (dt_Sb (dt_Sl 24 (sn_icmpeq dX1_isFirst_24 (by decide) rfl)) (dt_Sb (dt_Sl 27 (sn_ic ⟨by decide, by decide⟩ dX1_isFirst_27 rfl)) (dt_Sl 28 (sn_zret rfl dX1_isFirst_28)))) (dt_Sb (dt_Sb (dt_Sl 29 (sn_iinc (by decide) dX1_isFirst_29 rfl)) (dt_Sl 32 (sn_goto dX1_isFirst_32 (by decide)))) (dt_Sb (dt_Sl 35 (sn_ic ⟨by decide, by decide⟩ dX1_isFirst_35 rfl)) (dt_Sl 36 (sn_zret rfl dX1_isFirst_36))))))
theorem dX1_isSuch_0 : decode cX1_isSuch 0 = .ok (.iload_n 2, 1) := by decide +kernel
theorem dX1_isSuch_1 : decode cX1_isSuch 1 = .ok (.iconst 1, 1) := by decide +kernel
theorem dX1_isSuch_2 : decode cX1_isSuch 2 = .ok (.if_icmp .ne 19, 3) := by decide +kernel
theorem dX1_isSuch_5 : decode cX1_isSuch 5 = .ok (.aload_n 0, 1) := by decide +kernel
theorem dX1_isSuch_6 : decode cX1_isSuch 6 = .ok (.getfield 19, 3) := by decide +kernel
theorem dX1_isSuch_9 : decode cX1_isSuch 9 = .ok (.invokevirtual 43, 3) := by decide +kernel
theorem dX1_isSuch_12 : decode cX1_isSuch 12 = .ok (.ifCond .ne 7, 3) := by decide +kernel
theorem dX1_isSuch_15 : decode cX1_isSuch 15 = .ok (.iconst 1, 1) := by decide +kernel
theorem dX1_isSuch_16 : decode cX1_isSuch 16 = .ok (.goto 4, 3) := by decide +kernel
theorem dX1_isSuch_19 : decode cX1_isSuch 19 = .ok (.iconst 0, 1) := by decide +kernel
theorem dX1_isSuch_20 : decode cX1_isSuch 20 = .ok (.ireturn, 1) := by decide +kernel
theorem dX1_isSuch_21 : decode cX1_isSuch 21 = .ok (.aload_n 0, 1) := by decide +kernel
theorem dX1_isSuch_22 : decode cX1_isSuch 22 = .ok (.getfield 19, 3) := by decide +kernel
theorem dX1_isSuch_25 : decode cX1_isSuch 25 = .ok (.invokevirtual 43, 3) := by decide +kernel
theorem dX1_isSuch_28 : decode cX1_isSuch 28 = .ok (.ifCond .eq 19, 3) := by decide +kernel
theorem dX1_isSuch_31 : decode cX1_isSuch 31 = .ok (.iload_n 2, 1) := by decide +kernel
theorem dX1_isSuch_32 : decode cX1_isSuch 32 = .ok (.ifCond .eq 11, 3) := by decide +kernel
theorem dX1_isSuch_35 : decode cX1_isSuch 35 = .ok (.aload_n 0, 1) := by decide +kernel
theorem dX1_isSuch_36 : decode cX1_isSuch 36 = .ok (.iload_n 1, 1) := by decide +kernel
theorem dX1_isSuch_37 : decode cX1_isSuch 37 = .ok (.invokevirtual 40, 3) := by decide +kernel
theorem dX1_isSuch_40 : decode cX1_isSuch 40 = .ok (.ifCond .ne 7, 3) := by decide +kernel
theorem dX1_isSuch_43 : decode cX1_isSuch 43 = .ok (.iconst 1, 1) := by decide +kernel
theorem dX1_isSuch_44 : decode cX1_isSuch 44 = .ok (.goto 4, 3) := by decide +kernel
theorem dX1_isSuch_47 : decode cX1_isSuch 47 = .ok (.iconst 0, 1) := by decide +kernel
theorem dX1_isSuch_48 : decode cX1_isSuch 48 = .ok (.ireturn, 1) := by decide +kernel
def tbX1_isSuch (pc : Nat) : dt_T := cond (Nat.ble pc 21) (cond (Nat.ble pc 9) (cond (Nat.ble pc 2) (cond (Nat.ble pc 0) (cond (Nat.beq pc 0) (tc_ldI 2 1) tc_no) (cond (Nat.ble pc 1) (cond (Nat.beq pc 1) (tc_ic 1 2) tc_no) (cond (Nat.beq pc 2) (tc_icmpne 21 5) tc_no))) (cond (Nat.ble pc 5) (cond (Nat.beq pc 5) (tc_ldA 0 6) tc_no) (cond (Nat.ble pc 6) (cond (Nat.beq pc 6) (tc_getf 1 1 9) tc_no) (cond (Nat.beq pc 9) (tc_callV 2 mX2_ends 0 12) tc_no)))) (cond (Nat.ble pc 16) (cond (Nat.ble pc 12) (cond (Nat.beq pc 12) (tc_ifne 19 15) tc_no) (cond (Nat.ble pc 15) (cond (Nat.beq pc 15) (tc_ic 1 16) tc_no) (cond (Nat.beq pc 16) (tc_goto 20) tc_no))) (cond (Nat.ble pc 19) (cond (Nat.beq pc 19) (tc_ic 0 20) tc_no) (cond (Nat.ble pc 20) (cond (Nat.beq pc 20) (tc_zret) tc_no) (cond (Nat.beq pc 21) (tc_ldA 0 22) tc_no))))) (cond (Nat.ble pc 35) (cond (Nat.ble pc 28) (cond (Nat.ble pc 22) (cond (Nat.beq pc 22) (tc_getf 1 1 25) tc_no) (cond (Nat.ble pc 25) (cond (Nat.beq pc 25) (tc_callV 2 mX2_ends 0 28) tc_no) (cond (Nat.beq pc 28) (tc_ifeq 47 31) tc_no))) (cond (Nat.ble pc 31) (cond (Nat.beq pc 31) (tc_ldI 2 32) tc_no) (cond (Nat.ble pc 32) (cond (Nat.beq pc 32) (tc_ifeq 43 35) tc_no) (cond (Nat.beq pc 35) (tc_ldA 0 36) tc_no)))) (cond (Nat.ble pc 40) (cond (Nat.ble pc 36) (cond (Nat.beq pc 36) (tc_ldI 1 37) tc_no) (cond (Nat.ble pc 37) (cond (Nat.beq pc 37) (tc_callV 1 mX1_isOfOne 1 40) tc_no) (cond (Nat.beq pc 40) (tc_ifne 47 43) tc_no))) (cond (Nat.ble pc 44) (cond (Nat.ble pc 43) (cond (Nat.beq pc 43) (tc_ic 1 44) tc_no) (cond (Nat.beq pc 44) (tc_goto 48) tc_no)) (cond (Nat.ble pc 47) (cond (Nat.beq pc 47) (tc_ic 0 48) tc_no) (cond (Nat.beq pc 48) (tc_zret) tc_no)))))
theorem okX1_isSuch : ∀ pc, dt_S mX1_isSuch (tbX1_isSuch pc) pc := by
  intro pc
  unfold tbX1_isSuch
  exact dt_Sb (dt_Sb (dt_Sb (dt_Sb (dt_Sl 0 (sn_ldIn rfl dX1_isSuch_0 rfl)) (dt_Sb (dt_Sl 1 (sn_ic ⟨by decide, by decide⟩ dX1_isSuch_1 rfl)) (dt_Sl 2 (sn_icmpne dX1_isSuch_2 (by decide) rfl)))) (dt_Sb (dt_Sl 5 (sn_ldAn rfl dX1_isSuch_5 rfl)) (dt_Sb (dt_Sl 6 (sn_getf rfl ffX1 (by decide) wq_1_205 dX1_isSuch_6 rfl)) (dt_Sl 9 (sn_callV rfl ffX2 nnX2_ends rfl wq_3_100 wq_3_63 wq_3_64 dX1_isSuch_9 rfl))))) (dt_Sb (dt_Sb (dt_Sl 12 (sn_ifne dX1_isSuch_12 (by decide) rfl)) (dt_Sb (dt_Sl 15 (sn_ic ⟨by decide, by decide⟩ dX1_isSuch_15 rfl)) (dt_Sl 16 (sn_goto dX1_isSuch_16 (by decide))))) (dt_Sb (dt_Sl 19 (sn_ic ⟨by decide, by decide⟩ dX1_isSuch_19 rfl)) (dt_Sb (dt_Sl 20 (sn_zret rfl dX1_isSuch_20)) (dt_Sl 21 (sn_ldAn rfl dX1_isSuch_21 rfl)))))) (dt_Sb (dt_Sb (dt_Sb (dt_Sl 22 (sn_getf rfl ffX1 (by decide) wq_1_205 dX1_isSuch_22 rfl)) (dt_Sb (dt_Sl 25 (sn_callV rfl ffX2 nnX2_ends rfl wq_3_100 wq_3_63 wq_3_64 dX1_isSuch_25 rfl)) (dt_Sl 28 (sn_ifeq dX1_isSuch_28 (by decide) rfl)))) (dt_Sb (dt_Sl 31 (sn_ldIn rfl dX1_isSuch_31 rfl)) (dt_Sb (dt_Sl 32 (sn_ifeq dX1_isSuch_32 (by decide) rfl)) (dt_Sl 35 (sn_ldAn rfl dX1_isSuch_35 rfl))))) (dt_Sb (dt_Sb (dt_Sl 36 (sn_ldIn rfl dX1_isSuch_36 rfl)) (dt_Sb (dt_Sl 37 (sn_callV rfl ffX1 nnX1_isOfOne rfl wq_3_101 wq_3_103 wq_0_26 dX1_isSuch_37 rfl)) (dt_Sl 40 (sn_ifne dX1_isSuch_40 (by decide) rfl)))) (dt_Sb (dt_Sb (dt_Sl 43 (sn_ic ⟨by decide, by decide⟩ dX1_isSuch_43 rfl)) (dt_Sl 44 (sn_goto dX1_isSuch_44 (by decide)))) (dt_Sb (dt_Sl 47 (sn_ic ⟨by decide, by decide⟩ dX1_isSuch_47 rfl)) (dt_Sl 48 (sn_zret rfl dX1_isSuch_48))))))
theorem dX1_isOfOne_0 : decode cX1_isOfOne 0 = .ok (.iconst 0, 1) := by decide +kernel
theorem dX1_isOfOne_1 : decode cX1_isOfOne 1 = .ok (.istore_n 2, 1) := by decide +kernel
theorem dX1_isOfOne_2 : decode cX1_isOfOne 2 = .ok (.iload_n 2, 1) := by decide +kernel
theorem dX1_isOfOne_3 : decode cX1_isOfOne 3 = .ok (.iconst 4, 1) := by decide +kernel
theorem dX1_isOfOne_4 : decode cX1_isOfOne 4 = .ok (.if_icmp .ge 28, 3) := by decide +kernel
theorem dX1_isOfOne_7 : decode cX1_isOfOne 7 = .ok (.aload_n 0, 1) := by decide +kernel
theorem dX1_isOfOne_8 : decode cX1_isOfOne 8 = .ok (.iload_n 2, 1) := by decide +kernel
theorem dX1_isOfOne_9 : decode cX1_isOfOne 9 = .ok (.invokevirtual 51, 3) := by decide +kernel
theorem dX1_isOfOne_12 : decode cX1_isOfOne 12 = .ok (.ifCond .eq 14, 3) := by decide +kernel
theorem dX1_isOfOne_15 : decode cX1_isOfOne 15 = .ok (.aload_n 0, 1) := by decide +kernel
theorem dX1_isOfOne_16 : decode cX1_isOfOne 16 = .ok (.iload_n 1, 1) := by decide +kernel
theorem dX1_isOfOne_17 : decode cX1_isOfOne 17 = .ok (.iload_n 2, 1) := by decide +kernel
theorem dX1_isOfOne_18 : decode cX1_isOfOne 18 = .ok (.invokevirtual 67, 3) := by decide +kernel
theorem dX1_isOfOne_21 : decode cX1_isOfOne 21 = .ok (.ifCond .eq 5, 3) := by decide +kernel
theorem dX1_isOfOne_24 : decode cX1_isOfOne 24 = .ok (.iconst 1, 1) := by decide +kernel
theorem dX1_isOfOne_25 : decode cX1_isOfOne 25 = .ok (.ireturn, 1) := by decide +kernel
theorem dX1_isOfOne_26 : decode cX1_isOfOne 26 = .ok (.iinc 2 1, 3) := by decide +kernel
theorem dX1_isOfOne_29 : decode cX1_isOfOne 29 = .ok (.goto (-27), 3) := by decide +kernel
theorem dX1_isOfOne_32 : decode cX1_isOfOne 32 = .ok (.iconst 0, 1) := by decide +kernel
theorem dX1_isOfOne_33 : decode cX1_isOfOne 33 = .ok (.ireturn, 1) := by decide +kernel
def tbX1_isOfOne (pc : Nat) : dt_T := cond (Nat.ble pc 15) (cond (Nat.ble pc 4) (cond (Nat.ble pc 1) (cond (Nat.ble pc 0) (cond (Nat.beq pc 0) (tc_ic 0 1) tc_no) (cond (Nat.beq pc 1) (tc_stI 2 2) tc_no)) (cond (Nat.ble pc 2) (cond (Nat.beq pc 2) (tc_ldI 2 3) tc_no) (cond (Nat.ble pc 3) (cond (Nat.beq pc 3) (tc_ic 4 4) tc_no) (cond (Nat.beq pc 4) (tc_icmpge 32 7) tc_no)))) (cond (Nat.ble pc 8) (cond (Nat.ble pc 7) (cond (Nat.beq pc 7) (tc_ldA 0 8) tc_no) (cond (Nat.beq pc 8) (tc_ldI 2 9) tc_no)) (cond (Nat.ble pc 9) (cond (Nat.beq pc 9) (tc_callV 1 mX1_has 1 12) tc_no) (cond (Nat.ble pc 12) (cond (Nat.beq pc 12) (tc_ifeq 26 15) tc_no) (cond (Nat.beq pc 15) (tc_ldA 0 16) tc_no))))) (cond (Nat.ble pc 24) (cond (Nat.ble pc 17) (cond (Nat.ble pc 16) (cond (Nat.beq pc 16) (tc_ldI 1 17) tc_no) (cond (Nat.beq pc 17) (tc_ldI 2 18) tc_no)) (cond (Nat.ble pc 18) (cond (Nat.beq pc 18) (tc_callV 1 mX1_isOf 2 21) tc_no) (cond (Nat.ble pc 21) (cond (Nat.beq pc 21) (tc_ifeq 26 24) tc_no) (cond (Nat.beq pc 24) (tc_ic 1 25) tc_no)))) (cond (Nat.ble pc 26) (cond (Nat.ble pc 25) (cond (Nat.beq pc 25) (tc_zret) tc_no) (cond (Nat.beq pc 26) (tc_iinc 2 1 29) tc_no)) (cond (Nat.ble pc 29) (cond (Nat.beq pc 29) (tc_goto 2) tc_no) (cond (Nat.ble pc 32) (cond (Nat.beq pc 32) (tc_ic 0 33) tc_no) (cond (Nat.beq pc 33) (tc_zret) tc_no)))))
theorem okX1_isOfOne : ∀ pc, dt_S mX1_isOfOne (tbX1_isOfOne pc) pc := by
  intro pc
  unfold tbX1_isOfOne
  exact dt_Sb (dt_Sb (dt_Sb (dt_Sb (dt_Sl 0 (sn_ic ⟨by decide, by decide⟩ dX1_isOfOne_0 rfl)) (dt_Sl 1 (sn_stIn rfl (by decide) dX1_isOfOne_1 rfl))) (dt_Sb (dt_Sl 2 (sn_ldIn rfl dX1_isOfOne_2 rfl)) (dt_Sb (dt_Sl 3 (sn_ic ⟨by decide, by decide⟩ dX1_isOfOne_3 rfl)) (dt_Sl 4 (sn_icmpge dX1_isOfOne_4 (by decide) rfl))))) (dt_Sb (dt_Sb (dt_Sl 7 (sn_ldAn rfl dX1_isOfOne_7 rfl)) (dt_Sl 8 (sn_ldIn rfl dX1_isOfOne_8 rfl))) (dt_Sb (dt_Sl 9 (sn_callV rfl ffX1 nnX1_has rfl wq_3_81 wq_3_83 wq_0_22 dX1_isOfOne_9 rfl)) (dt_Sb (dt_Sl 12 (sn_ifeq dX1_isOfOne_12 (by decide) rfl)) (dt_Sl 15 (sn_ldAn rfl dX1_isOfOne_15 rfl)))))) (dt_Sb (dt_Sb (dt_Sb (dt_Sl 16 (sn_ldIn rfl dX1_isOfOne_16 rfl)) (dt_Sl 17 (sn_ldIn rfl dX1_isOfOne_17 rfl))) (dt_Sb (dt_Sl 18 (sn_callV rfl ffX1 nnX1_isOf rfl wq_3_105 wq_3_107 wq_0_27 dX1_isOfOne_18 rfl)) (dt_Sb (dt_Sl 21 (sn_ifeq dX1_isOfOne_21 (by decide) rfl)) (dt_Sl 24 (sn_ic ⟨by decide, by decide⟩ dX1_isOfOne_24 rfl))))) (dt_Sb (dt_Sb (dt_Sl 25 (sn_zret rfl dX1_isOfOne_25)) (dt_Sl 26 (sn_iinc (by decide) dX1_isOfOne_26 rfl))) (dt_Sb (dt_Sl 29 (sn_goto dX1_isOfOne_29 (by decide))) (dt_Sb (dt_Sl 32 (sn_ic ⟨by decide, by decide⟩ dX1_isOfOne_32 rfl)) (dt_Sl 33 (sn_zret rfl dX1_isOfOne_33))))))
theorem dX1_isOf_0 : decode cX1_isOf 0 = .ok (.iconst 0, 1) := by decide +kernel
theorem dX1_isOf_1 : decode cX1_isOf 1 = .ok (.istore_n 3, 1) := by decide +kernel
theorem dX1_isOf_2 : decode cX1_isOf 2 = .ok (.iload_n 3, 1) := by decide +kernel
theorem dX1_isOf_3 : decode cX1_isOf 3 = .ok (.iconst 4, 1) := by decide +kernel
theorem dX1_isOf_4 : decode cX1_isOf 4 = .ok (.if_icmp .ge 29, 3) := by decide +kernel
theorem dX1_isOf_7 : decode cX1_isOf 7 = .ok (.aload_n 0, 1) := by decide +kernel
theorem dX1_isOf_8 : decode cX1_isOf 8 = .ok (.getfield 9, 3) := by decide +kernel
theorem dX1_isOf_11 : decode cX1_isOf 11 = .ok (.iload_n 3, 1) := by decide +kernel
theorem dX1_isOf_12 : decode cX1_isOf 12 = .ok (.iconst 4, 1) := by decide +kernel
theorem dX1_isOf_13 : decode cX1_isOf 13 = .ok (.imul, 1) := by decide +kernel
theorem dX1_isOf_14 : decode cX1_isOf 14 = .ok (.iload_n 2, 1) := by decide +kernel
theorem dX1_isOf_15 : decode cX1_isOf 15 = .ok (.iadd, 1) := by decide +kernel
theorem dX1_isOf_16 : decode cX1_isOf 16 = .ok (.iaload, 1) := by decide +kernel
theorem dX1_isOf_17 : decode cX1_isOf 17 = .ok (.iload_n 1, 1) := by decide +kernel
theorem dX1_isOf_18 : decode cX1_isOf 18 = .ok (.iload_n 3, 1) := by decide +kernel
theorem dX1_isOf_19 : decode cX1_isOf 19 = .ok (.invokestatic 64, 3) := by decide +kernel
theorem dX1_isOf_22 : decode cX1_isOf 22 = .ok (.if_icmp .eq 5, 3) := by decide +kernel
theorem dX1_isOf_25 : decode cX1_isOf 25 = .ok (.iconst 0, 1) := by decide +kernel
theorem dX1_isOf_26 : decode cX1_isOf 26 = .ok (.ireturn, 1) := by decide +kernel
theorem dX1_isOf_27 : decode cX1_isOf 27 = .ok (.iinc 3 1, 3) := by decide +kernel
theorem dX1_isOf_30 : decode cX1_isOf 30 = .ok (.goto (-28), 3) := by decide +kernel
theorem dX1_isOf_33 : decode cX1_isOf 33 = .ok (.iconst 1, 1) := by decide +kernel
theorem dX1_isOf_34 : decode cX1_isOf 34 = .ok (.ireturn, 1) := by decide +kernel
def tbX1_isOf (pc : Nat) : dt_T := cond (Nat.ble pc 14) (cond (Nat.ble pc 4) (cond (Nat.ble pc 1) (cond (Nat.ble pc 0) (cond (Nat.beq pc 0) (tc_ic 0 1) tc_no) (cond (Nat.beq pc 1) (tc_stI 3 2) tc_no)) (cond (Nat.ble pc 2) (cond (Nat.beq pc 2) (tc_ldI 3 3) tc_no) (cond (Nat.ble pc 3) (cond (Nat.beq pc 3) (tc_ic 4 4) tc_no) (cond (Nat.beq pc 4) (tc_icmpge 33 7) tc_no)))) (cond (Nat.ble pc 11) (cond (Nat.ble pc 7) (cond (Nat.beq pc 7) (tc_ldA 0 8) tc_no) (cond (Nat.ble pc 8) (cond (Nat.beq pc 8) (tc_getf 1 2 11) tc_no) (cond (Nat.beq pc 11) (tc_ldI 3 12) tc_no))) (cond (Nat.ble pc 12) (cond (Nat.beq pc 12) (tc_ic 4 13) tc_no) (cond (Nat.ble pc 13) (cond (Nat.beq pc 13) (tc_imul 14) tc_no) (cond (Nat.beq pc 14) (tc_ldI 2 15) tc_no))))) (cond (Nat.ble pc 22) (cond (Nat.ble pc 17) (cond (Nat.ble pc 15) (cond (Nat.beq pc 15) (tc_iadd 16) tc_no) (cond (Nat.ble pc 16) (cond (Nat.beq pc 16) (tc_iald 17) tc_no) (cond (Nat.beq pc 17) (tc_ldI 1 18) tc_no))) (cond (Nat.ble pc 18) (cond (Nat.beq pc 18) (tc_ldI 3 19) tc_no) (cond (Nat.ble pc 19) (cond (Nat.beq pc 19) (tc_callS mX6_choice 2 22) tc_no) (cond (Nat.beq pc 22) (tc_icmpeq 27 25) tc_no)))) (cond (Nat.ble pc 27) (cond (Nat.ble pc 25) (cond (Nat.beq pc 25) (tc_ic 0 26) tc_no) (cond (Nat.ble pc 26) (cond (Nat.beq pc 26) (tc_zret) tc_no) (cond (Nat.beq pc 27) (tc_iinc 3 1 30) tc_no))) (cond (Nat.ble pc 30) (cond (Nat.beq pc 30) (tc_goto 2) tc_no) (cond (Nat.ble pc 33) (cond (Nat.beq pc 33) (tc_ic 1 34) tc_no) (cond (Nat.beq pc 34) (tc_zret) tc_no)))))
theorem okX1_isOf : ∀ pc, dt_S mX1_isOf (tbX1_isOf pc) pc := by
  intro pc
  unfold tbX1_isOf
  exact dt_Sb (dt_Sb (dt_Sb (dt_Sb (dt_Sl 0 (sn_ic ⟨by decide, by decide⟩ dX1_isOf_0 rfl)) (dt_Sl 1 (sn_stIn rfl (by decide) dX1_isOf_1 rfl))) (dt_Sb (dt_Sl 2 (sn_ldIn rfl dX1_isOf_2 rfl)) (dt_Sb (dt_Sl 3 (sn_ic ⟨by decide, by decide⟩ dX1_isOf_3 rfl)) (dt_Sl 4 (sn_icmpge dX1_isOf_4 (by decide) rfl))))) (dt_Sb (dt_Sb (dt_Sl 7 (sn_ldAn rfl dX1_isOf_7 rfl)) (dt_Sb (dt_Sl 8 (sn_getf rfl ffX1 (by decide) wq_1_206 dX1_isOf_8 rfl)) (dt_Sl 11 (sn_ldIn rfl dX1_isOf_11 rfl)))) (dt_Sb (dt_Sl 12 (sn_ic ⟨by decide, by decide⟩ dX1_isOf_12 rfl)) (dt_Sb (dt_Sl 13 (sn_imul dX1_isOf_13 rfl)) (dt_Sl 14 (sn_ldIn rfl dX1_isOf_14 rfl)))))) (dt_Sb (dt_Sb (dt_Sb (dt_Sl 15 (sn_iadd dX1_isOf_15 rfl)) (dt_Sb (dt_Sl 16 (sn_iald dX1_isOf_16 rfl)) (dt_Sl 17 (sn_ldIn rfl dX1_isOf_17 rfl)))) (dt_Sb (dt_Sl 18 (sn_ldIn rfl dX1_isOf_18 rfl)) (dt_Sb (dt_Sl 19 (sn_callSN rfl nnX6_choice wq_3_94 wq_3_39 dX1_isOf_19 rfl)) (dt_Sl 22 (sn_icmpeq dX1_isOf_22 (by decide) rfl))))) (dt_Sb (dt_Sb (dt_Sl 25 (sn_ic ⟨by decide, by decide⟩ dX1_isOf_25 rfl)) (dt_Sb (dt_Sl 26 (sn_zret rfl dX1_isOf_26)) (dt_Sl 27 (sn_iinc (by decide) dX1_isOf_27 rfl)))) (dt_Sb (dt_Sl 30 (sn_goto dX1_isOf_30 (by decide))) (dt_Sb (dt_Sl 33 (sn_ic ⟨by decide, by decide⟩ dX1_isOf_33 rfl)) (dt_Sl 34 (sn_zret rfl dX1_isOf_34))))))
