/-! ===== DrawnTalks$Talk: decode rows, step tables ===== -/
theorem dX5_empty_0 : decode cX5_empty 0 = .ok (.aload_n 0, 1) := by decide +kernel
theorem dX5_empty_1 : decode cX5_empty 1 = .ok (.iconst 0, 1) := by decide +kernel
theorem dX5_empty_2 : decode cX5_empty 2 = .ok (.putfield 34, 3) := by decide +kernel
theorem dX5_empty_5 : decode cX5_empty 5 = .ok (.aload_n 0, 1) := by decide +kernel
theorem dX5_empty_6 : decode cX5_empty 6 = .ok (.iconst 0, 1) := by decide +kernel
theorem dX5_empty_7 : decode cX5_empty 7 = .ok (.putfield 38, 3) := by decide +kernel
theorem dX5_empty_10 : decode cX5_empty 10 = .ok (.iconst 0, 1) := by decide +kernel
theorem dX5_empty_11 : decode cX5_empty 11 = .ok (.istore_n 1, 1) := by decide +kernel
theorem dX5_empty_12 : decode cX5_empty 12 = .ok (.iload_n 1, 1) := by decide +kernel
theorem dX5_empty_13 : decode cX5_empty 13 = .ok (.iconst 4, 1) := by decide +kernel
theorem dX5_empty_14 : decode cX5_empty 14 = .ok (.if_icmp .ge 16, 3) := by decide +kernel
theorem dX5_empty_17 : decode cX5_empty 17 = .ok (.aload_n 0, 1) := by decide +kernel
theorem dX5_empty_18 : decode cX5_empty 18 = .ok (.getfield 28, 3) := by decide +kernel
theorem dX5_empty_21 : decode cX5_empty 21 = .ok (.iload_n 1, 1) := by decide +kernel
theorem dX5_empty_22 : decode cX5_empty 22 = .ok (.iconst 0, 1) := by decide +kernel
theorem dX5_empty_23 : decode cX5_empty 23 = .ok (.iastore, 1) := by decide +kernel
theorem dX5_empty_24 : decode cX5_empty 24 = .ok (.iinc 1 1, 3) := by decide +kernel
theorem dX5_empty_27 : decode cX5_empty 27 = .ok (.goto (-15), 3) := by decide +kernel
theorem dX5_empty_30 : decode cX5_empty 30 = .ok (.return_, 1) := by decide +kernel
def tbX5_empty (pc : Nat) : dt_T := cond (Nat.ble pc 12) (cond (Nat.ble pc 5) (cond (Nat.ble pc 1) (cond (Nat.ble pc 0) (cond (Nat.beq pc 0) (tc_ldA 0 1) tc_no) (cond (Nat.beq pc 1) (tc_ic 0 2) tc_no)) (cond (Nat.ble pc 2) (cond (Nat.beq pc 2) (tc_putI 5 7 5) tc_no) (cond (Nat.beq pc 5) (tc_ldA 0 6) tc_no))) (cond (Nat.ble pc 7) (cond (Nat.ble pc 6) (cond (Nat.beq pc 6) (tc_ic 0 7) tc_no) (cond (Nat.beq pc 7) (tc_putI 5 8 10) tc_no)) (cond (Nat.ble pc 10) (cond (Nat.beq pc 10) (tc_ic 0 11) tc_no) (cond (Nat.ble pc 11) (cond (Nat.beq pc 11) (tc_stI 1 12) tc_no) (cond (Nat.beq pc 12) (tc_ldI 1 13) tc_no))))) (cond (Nat.ble pc 21) (cond (Nat.ble pc 14) (cond (Nat.ble pc 13) (cond (Nat.beq pc 13) (tc_ic 4 14) tc_no) (cond (Nat.beq pc 14) (tc_icmpge 30 17) tc_no)) (cond (Nat.ble pc 17) (cond (Nat.beq pc 17) (tc_ldA 0 18) tc_no) (cond (Nat.ble pc 18) (cond (Nat.beq pc 18) (tc_getf 5 5 21) tc_no) (cond (Nat.beq pc 21) (tc_ldI 1 22) tc_no)))) (cond (Nat.ble pc 23) (cond (Nat.ble pc 22) (cond (Nat.beq pc 22) (tc_ic 0 23) tc_no) (cond (Nat.beq pc 23) (tc_iast 24) tc_no)) (cond (Nat.ble pc 24) (cond (Nat.beq pc 24) (tc_iinc 1 1 27) tc_no) (cond (Nat.ble pc 27) (cond (Nat.beq pc 27) (tc_goto 12) tc_no) (cond (Nat.beq pc 30) (tc_ret) tc_no)))))
theorem okX5_empty : ∀ pc, dt_S mX5_empty (tbX5_empty pc) pc := by
  intro pc
  unfold tbX5_empty
  exact dt_Sb (dt_Sb (dt_Sb (dt_Sb (dt_Sl 0 (sn_ldAn rfl dX5_empty_0 rfl)) (dt_Sl 1 (sn_ic ⟨by decide, by decide⟩ dX5_empty_1 rfl))) (dt_Sb (dt_Sl 2 (sn_putI rfl ffX5 (by decide) rfl rfl (by decide +kernel) wq_1_53 dX5_empty_2 rfl)) (dt_Sl 5 (sn_ldAn rfl dX5_empty_5 rfl)))) (dt_Sb (dt_Sb (dt_Sl 6 (sn_ic ⟨by decide, by decide⟩ dX5_empty_6 rfl)) (dt_Sl 7 (sn_putI rfl ffX5 (by decide) rfl rfl (by decide +kernel) wq_1_57 dX5_empty_7 rfl))) (dt_Sb (dt_Sl 10 (sn_ic ⟨by decide, by decide⟩ dX5_empty_10 rfl)) (dt_Sb (dt_Sl 11 (sn_stIn rfl (by decide) dX5_empty_11 rfl)) (dt_Sl 12 (sn_ldIn rfl dX5_empty_12 rfl)))))) (dt_Sb (dt_Sb (dt_Sb (dt_Sl 13 (sn_ic ⟨by decide, by decide⟩ dX5_empty_13 rfl)) (dt_Sl 14 (sn_icmpge dX5_empty_14 (by decide) rfl))) (dt_Sb (dt_Sl 17 (sn_ldAn rfl dX5_empty_17 rfl)) (dt_Sb (dt_Sl 18 (sn_getf rfl ffX5 (by decide) wq_1_49 dX5_empty_18 rfl)) (dt_Sl 21 (sn_ldIn rfl dX5_empty_21 rfl))))) (dt_Sb (dt_Sb (dt_Sl 22 (sn_ic ⟨by decide, by decide⟩ dX5_empty_22 rfl)) (dt_Sl 23 (sn_iast dX5_empty_23 rfl))) (dt_Sb (dt_Sl 24 (sn_iinc (by decide) dX5_empty_24 rfl)) (dt_Sb (dt_Sl 27 (sn_goto dX5_empty_27 (by decide))) (dt_Sl 30 (sn_ret rfl dX5_empty_30))))))
theorem dX5_isWhole_0 : decode cX5_isWhole 0 = .ok (.aload_n 0, 1) := by decide +kernel
theorem dX5_isWhole_1 : decode cX5_isWhole 1 = .ok (.getfield 34, 3) := by decide +kernel
theorem dX5_isWhole_4 : decode cX5_isWhole 4 = .ok (.iconst 2, 1) := by decide +kernel
theorem dX5_isWhole_5 : decode cX5_isWhole 5 = .ok (.aload_n 0, 1) := by decide +kernel
theorem dX5_isWhole_6 : decode cX5_isWhole 6 = .ok (.getfield 38, 3) := by decide +kernel
theorem dX5_isWhole_9 : decode cX5_isWhole 9 = .ok (.imul, 1) := by decide +kernel
theorem dX5_isWhole_10 : decode cX5_isWhole 10 = .ok (.if_icmp .ne 7, 3) := by decide +kernel
theorem dX5_isWhole_13 : decode cX5_isWhole 13 = .ok (.iconst 1, 1) := by decide +kernel
theorem dX5_isWhole_14 : decode cX5_isWhole 14 = .ok (.goto 4, 3) := by decide +kernel
theorem dX5_isWhole_17 : decode cX5_isWhole 17 = .ok (.iconst 0, 1) := by decide +kernel
theorem dX5_isWhole_18 : decode cX5_isWhole 18 = .ok (.ireturn, 1) := by decide +kernel
def tbX5_isWhole (pc : Nat) : dt_T := cond (Nat.ble pc 6) (cond (Nat.ble pc 1) (cond (Nat.ble pc 0) (cond (Nat.beq pc 0) (tc_ldA 0 1) tc_no) (cond (Nat.beq pc 1) (tc_getf 5 7 4) tc_no)) (cond (Nat.ble pc 4) (cond (Nat.beq pc 4) (tc_ic 2 5) tc_no) (cond (Nat.ble pc 5) (cond (Nat.beq pc 5) (tc_ldA 0 6) tc_no) (cond (Nat.beq pc 6) (tc_getf 5 8 9) tc_no)))) (cond (Nat.ble pc 13) (cond (Nat.ble pc 9) (cond (Nat.beq pc 9) (tc_imul 10) tc_no) (cond (Nat.ble pc 10) (cond (Nat.beq pc 10) (tc_icmpne 17 13) tc_no) (cond (Nat.beq pc 13) (tc_ic 1 14) tc_no))) (cond (Nat.ble pc 14) (cond (Nat.beq pc 14) (tc_goto 18) tc_no) (cond (Nat.ble pc 17) (cond (Nat.beq pc 17) (tc_ic 0 18) tc_no) (cond (Nat.beq pc 18) (tc_zret) tc_no))))
theorem okX5_isWhole : ∀ pc, dt_S mX5_isWhole (tbX5_isWhole pc) pc := by
  intro pc
  unfold tbX5_isWhole
  exact dt_Sb (dt_Sb (dt_Sb (dt_Sl 0 (sn_ldAn rfl dX5_isWhole_0 rfl)) (dt_Sl 1 (sn_getf rfl ffX5 (by decide) wq_1_53 dX5_isWhole_1 rfl))) (dt_Sb (dt_Sl 4 (sn_ic ⟨by decide, by decide⟩ dX5_isWhole_4 rfl)) (dt_Sb (dt_Sl 5 (sn_ldAn rfl dX5_isWhole_5 rfl)) (dt_Sl 6 (sn_getf rfl ffX5 (by decide) wq_1_57 dX5_isWhole_6 rfl))))) (dt_Sb (dt_Sb (dt_Sl 9 (sn_imul dX5_isWhole_9 rfl)) (dt_Sb (dt_Sl 10 (sn_icmpne dX5_isWhole_10 (by decide) rfl)) (dt_Sl 13 (sn_ic ⟨by decide, by decide⟩ dX5_isWhole_13 rfl)))) (dt_Sb (dt_Sl 14 (sn_goto dX5_isWhole_14 (by decide))) (dt_Sb (dt_Sl 17 (sn_ic ⟨by decide, by decide⟩ dX5_isWhole_17 rfl)) (dt_Sl 18 (sn_zret rfl dX5_isWhole_18)))))
theorem dX5_onLine_0 : decode cX5_onLine 0 = .ok (.iload_n 1, 1) := by decide +kernel
theorem dX5_onLine_1 : decode cX5_onLine 1 = .ok (.ifCond .lt 22, 3) := by decide +kernel
theorem dX5_onLine_4 : decode cX5_onLine 4 = .ok (.iload_n 1, 1) := by decide +kernel
theorem dX5_onLine_5 : decode cX5_onLine 5 = .ok (.iconst 4, 1) := by decide +kernel
theorem dX5_onLine_6 : decode cX5_onLine 6 = .ok (.if_icmp .ge 17, 3) := by decide +kernel
theorem dX5_onLine_9 : decode cX5_onLine 9 = .ok (.iload_n 2, 1) := by decide +kernel
theorem dX5_onLine_10 : decode cX5_onLine 10 = .ok (.ifCond .lt 13, 3) := by decide +kernel
theorem dX5_onLine_13 : decode cX5_onLine 13 = .ok (.iload_n 2, 1) := by decide +kernel
theorem dX5_onLine_14 : decode cX5_onLine 14 = .ok (.aload_n 0, 1) := by decide +kernel
theorem dX5_onLine_15 : decode cX5_onLine 15 = .ok (.getfield 28, 3) := by decide +kernel
theorem dX5_onLine_18 : decode cX5_onLine 18 = .ok (.iload_n 1, 1) := by decide +kernel
theorem dX5_onLine_19 : decode cX5_onLine 19 = .ok (.iaload, 1) := by decide +kernel
theorem dX5_onLine_20 : decode cX5_onLine 20 = .ok (.if_icmp .lt 5, 3) := by decide +kernel
theorem dX5_onLine_23 : decode cX5_onLine 23 = .ok (.iconst (-1), 1) := by decide +kernel
theorem dX5_onLine_24 : decode cX5_onLine 24 = .ok (.ireturn, 1) := by decide +kernel
theorem dX5_onLine_25 : decode cX5_onLine 25 = .ok (.aload_n 0, 1) := by decide +kernel
theorem dX5_onLine_26 : decode cX5_onLine 26 = .ok (.getfield 31, 3) := by decide +kernel
theorem dX5_onLine_29 : decode cX5_onLine 29 = .ok (.iload_n 1, 1) := by decide +kernel
theorem dX5_onLine_30 : decode cX5_onLine 30 = .ok (.bipush 10, 2) := by decide +kernel
theorem dX5_onLine_32 : decode cX5_onLine 32 = .ok (.imul, 1) := by decide +kernel
theorem dX5_onLine_33 : decode cX5_onLine 33 = .ok (.iload_n 2, 1) := by decide +kernel
theorem dX5_onLine_34 : decode cX5_onLine 34 = .ok (.iadd, 1) := by decide +kernel
theorem dX5_onLine_35 : decode cX5_onLine 35 = .ok (.iaload, 1) := by decide +kernel
theorem dX5_onLine_36 : decode cX5_onLine 36 = .ok (.ireturn, 1) := by decide +kernel
def tbX5_onLine (pc : Nat) : dt_T := cond (Nat.ble pc 19) (cond (Nat.ble pc 9) (cond (Nat.ble pc 4) (cond (Nat.ble pc 0) (cond (Nat.beq pc 0) (tc_ldI 1 1) tc_no) (cond (Nat.ble pc 1) (cond (Nat.beq pc 1) (tc_iflt 23 4) tc_no) (cond (Nat.beq pc 4) (tc_ldI 1 5) tc_no))) (cond (Nat.ble pc 5) (cond (Nat.beq pc 5) (tc_ic 4 6) tc_no) (cond (Nat.ble pc 6) (cond (Nat.beq pc 6) (tc_icmpge 23 9) tc_no) (cond (Nat.beq pc 9) (tc_ldI 2 10) tc_no)))) (cond (Nat.ble pc 14) (cond (Nat.ble pc 10) (cond (Nat.beq pc 10) (tc_iflt 23 13) tc_no) (cond (Nat.ble pc 13) (cond (Nat.beq pc 13) (tc_ldI 2 14) tc_no) (cond (Nat.beq pc 14) (tc_ldA 0 15) tc_no))) (cond (Nat.ble pc 15) (cond (Nat.beq pc 15) (tc_getf 5 5 18) tc_no) (cond (Nat.ble pc 18) (cond (Nat.beq pc 18) (tc_ldI 1 19) tc_no) (cond (Nat.beq pc 19) (tc_iald 20) tc_no))))) (cond (Nat.ble pc 29) (cond (Nat.ble pc 24) (cond (Nat.ble pc 20) (cond (Nat.beq pc 20) (tc_icmplt 25 23) tc_no) (cond (Nat.ble pc 23) (cond (Nat.beq pc 23) (tc_ic (-1) 24) tc_no) (cond (Nat.beq pc 24) (tc_iret) tc_no))) (cond (Nat.ble pc 25) (cond (Nat.beq pc 25) (tc_ldA 0 26) tc_no) (cond (Nat.ble pc 26) (cond (Nat.beq pc 26) (tc_getf 5 6 29) tc_no) (cond (Nat.beq pc 29) (tc_ldI 1 30) tc_no)))) (cond (Nat.ble pc 33) (cond (Nat.ble pc 30) (cond (Nat.beq pc 30) (tc_ic 10 32) tc_no) (cond (Nat.ble pc 32) (cond (Nat.beq pc 32) (tc_imul 33) tc_no) (cond (Nat.beq pc 33) (tc_ldI 2 34) tc_no))) (cond (Nat.ble pc 34) (cond (Nat.beq pc 34) (tc_iadd 35) tc_no) (cond (Nat.ble pc 35) (cond (Nat.beq pc 35) (tc_iald 36) tc_no) (cond (Nat.beq pc 36) (tc_iret) tc_no)))))
theorem okX5_onLine : ∀ pc, dt_S mX5_onLine (tbX5_onLine pc) pc := by
  intro pc
  unfold tbX5_onLine
  exact dt_Sb (dt_Sb (dt_Sb (dt_Sb (dt_Sl 0 (sn_ldIn rfl dX5_onLine_0 rfl)) (dt_Sb (dt_Sl 1 (sn_iflt dX5_onLine_1 (by decide) rfl)) (dt_Sl 4 (sn_ldIn rfl dX5_onLine_4 rfl)))) (dt_Sb (dt_Sl 5 (sn_ic ⟨by decide, by decide⟩ dX5_onLine_5 rfl)) (dt_Sb (dt_Sl 6 (sn_icmpge dX5_onLine_6 (by decide) rfl)) (dt_Sl 9 (sn_ldIn rfl dX5_onLine_9 rfl))))) (dt_Sb (dt_Sb (dt_Sl 10 (sn_iflt dX5_onLine_10 (by decide) rfl)) (dt_Sb (dt_Sl 13 (sn_ldIn rfl dX5_onLine_13 rfl)) (dt_Sl 14 (sn_ldAn rfl dX5_onLine_14 rfl)))) (dt_Sb (dt_Sl 15 (sn_getf rfl ffX5 (by decide) wq_1_49 dX5_onLine_15 rfl)) (dt_Sb (dt_Sl 18 (sn_ldIn rfl dX5_onLine_18 rfl)) (dt_Sl 19 (sn_iald dX5_onLine_19 rfl)))))) (dt_Sb (dt_Sb (dt_Sb (dt_Sl 20 (sn_icmplt dX5_onLine_20 (by decide) rfl)) (dt_Sb (dt_Sl 23 (sn_ic ⟨by decide, by decide⟩ dX5_onLine_23 rfl)) (dt_Sl 24 (sn_iret rfl dX5_onLine_24)))) (dt_Sb (dt_Sl 25 (sn_ldAn rfl dX5_onLine_25 rfl)) (dt_Sb (dt_Sl 26 (sn_getf rfl ffX5 (by decide) wq_1_52 dX5_onLine_26 rfl)) (dt_Sl 29 (sn_ldIn rfl dX5_onLine_29 rfl))))) (dt_Sb (dt_Sb (dt_Sl 30 (sn_bi ⟨by decide, by decide⟩ rfl dX5_onLine_30 rfl)) (dt_Sb (dt_Sl 32 (sn_imul dX5_onLine_32 rfl)) (dt_Sl 33 (sn_ldIn rfl dX5_onLine_33 rfl)))) (dt_Sb (dt_Sl 34 (sn_iadd dX5_onLine_34 rfl)) (dt_Sb (dt_Sl 35 (sn_iald dX5_onLine_35 rfl)) (dt_Sl 36 (sn_iret rfl dX5_onLine_36))))))
theorem dX5_partsWithEvents_0 : decode cX5_partsWithEvents 0 = .ok (.iconst 0, 1) := by decide +kernel
theorem dX5_partsWithEvents_1 : decode cX5_partsWithEvents 1 = .ok (.istore_n 1, 1) := by decide +kernel
theorem dX5_partsWithEvents_2 : decode cX5_partsWithEvents 2 = .ok (.iconst 0, 1) := by decide +kernel
theorem dX5_partsWithEvents_3 : decode cX5_partsWithEvents 3 = .ok (.istore_n 2, 1) := by decide +kernel
theorem dX5_partsWithEvents_4 : decode cX5_partsWithEvents 4 = .ok (.iload_n 2, 1) := by decide +kernel
theorem dX5_partsWithEvents_5 : decode cX5_partsWithEvents 5 = .ok (.iconst 4, 1) := by decide +kernel
theorem dX5_partsWithEvents_6 : decode cX5_partsWithEvents 6 = .ok (.if_icmp .ge 24, 3) := by decide +kernel
theorem dX5_partsWithEvents_9 : decode cX5_partsWithEvents 9 = .ok (.aload_n 0, 1) := by decide +kernel
theorem dX5_partsWithEvents_10 : decode cX5_partsWithEvents 10 = .ok (.getfield 28, 3) := by decide +kernel
theorem dX5_partsWithEvents_13 : decode cX5_partsWithEvents 13 = .ok (.iload_n 2, 1) := by decide +kernel
theorem dX5_partsWithEvents_14 : decode cX5_partsWithEvents 14 = .ok (.iaload, 1) := by decide +kernel
theorem dX5_partsWithEvents_15 : decode cX5_partsWithEvents 15 = .ok (.ifCond .le 9, 3) := by decide +kernel
theorem dX5_partsWithEvents_18 : decode cX5_partsWithEvents 18 = .ok (.iload_n 1, 1) := by decide +kernel
theorem dX5_partsWithEvents_19 : decode cX5_partsWithEvents 19 = .ok (.iconst 1, 1) := by decide +kernel
theorem dX5_partsWithEvents_20 : decode cX5_partsWithEvents 20 = .ok (.iload_n 2, 1) := by decide +kernel
theorem dX5_partsWithEvents_21 : decode cX5_partsWithEvents 21 = .ok (.ishl, 1) := by decide +kernel
theorem dX5_partsWithEvents_22 : decode cX5_partsWithEvents 22 = .ok (.ior, 1) := by decide +kernel
theorem dX5_partsWithEvents_23 : decode cX5_partsWithEvents 23 = .ok (.istore_n 1, 1) := by decide +kernel
theorem dX5_partsWithEvents_24 : decode cX5_partsWithEvents 24 = .ok (.iinc 2 1, 3) := by decide +kernel
theorem dX5_partsWithEvents_27 : decode cX5_partsWithEvents 27 = .ok (.goto (-23), 3) := by decide +kernel
theorem dX5_partsWithEvents_30 : decode cX5_partsWithEvents 30 = .ok (.iload_n 1, 1) := by decide +kernel
theorem dX5_partsWithEvents_31 : decode cX5_partsWithEvents 31 = .ok (.ireturn, 1) := by decide +kernel
def tbX5_partsWithEvents (pc : Nat) : dt_T := cond (Nat.ble pc 14) (cond (Nat.ble pc 4) (cond (Nat.ble pc 1) (cond (Nat.ble pc 0) (cond (Nat.beq pc 0) (tc_ic 0 1) tc_no) (cond (Nat.beq pc 1) (tc_stI 1 2) tc_no)) (cond (Nat.ble pc 2) (cond (Nat.beq pc 2) (tc_ic 0 3) tc_no) (cond (Nat.ble pc 3) (cond (Nat.beq pc 3) (tc_stI 2 4) tc_no) (cond (Nat.beq pc 4) (tc_ldI 2 5) tc_no)))) (cond (Nat.ble pc 9) (cond (Nat.ble pc 5) (cond (Nat.beq pc 5) (tc_ic 4 6) tc_no) (cond (Nat.ble pc 6) (cond (Nat.beq pc 6) (tc_icmpge 30 9) tc_no) (cond (Nat.beq pc 9) (tc_ldA 0 10) tc_no))) (cond (Nat.ble pc 10) (cond (Nat.beq pc 10) (tc_getf 5 5 13) tc_no) (cond (Nat.ble pc 13) (cond (Nat.beq pc 13) (tc_ldI 2 14) tc_no) (cond (Nat.beq pc 14) (tc_iald 15) tc_no))))) (cond (Nat.ble pc 21) (cond (Nat.ble pc 18) (cond (Nat.ble pc 15) (cond (Nat.beq pc 15) (tc_ifle 24 18) tc_no) (cond (Nat.beq pc 18) (tc_ldI 1 19) tc_no)) (cond (Nat.ble pc 19) (cond (Nat.beq pc 19) (tc_ic 1 20) tc_no) (cond (Nat.ble pc 20) (cond (Nat.beq pc 20) (tc_ldI 2 21) tc_no) (cond (Nat.beq pc 21) (tc_ishl 22) tc_no)))) (cond (Nat.ble pc 24) (cond (Nat.ble pc 22) (cond (Nat.beq pc 22) (tc_ior 23) tc_no) (cond (Nat.ble pc 23) (cond (Nat.beq pc 23) (tc_stI 1 24) tc_no) (cond (Nat.beq pc 24) (tc_iinc 2 1 27) tc_no))) (cond (Nat.ble pc 27) (cond (Nat.beq pc 27) (tc_goto 4) tc_no) (cond (Nat.ble pc 30) (cond (Nat.beq pc 30) (tc_ldI 1 31) tc_no) (cond (Nat.beq pc 31) (tc_iret) tc_no)))))
theorem okX5_partsWithEvents : ∀ pc, dt_S mX5_partsWithEvents (tbX5_partsWithEvents pc) pc := by
  intro pc
  unfold tbX5_partsWithEvents
  exact dt_Sb (dt_Sb (dt_Sb (dt_Sb (dt_Sl 0 (sn_ic ⟨by decide, by decide⟩ dX5_partsWithEvents_0 rfl)) (dt_Sl 1 (sn_stIn rfl (by decide) dX5_partsWithEvents_1 rfl))) (dt_Sb (dt_Sl 2 (sn_ic ⟨by decide, by decide⟩ dX5_partsWithEvents_2 rfl)) (dt_Sb (dt_Sl 3 (sn_stIn rfl (by decide) dX5_partsWithEvents_3 rfl)) (dt_Sl 4 (sn_ldIn rfl dX5_partsWithEvents_4 rfl))))) (dt_Sb (dt_Sb (dt_Sl 5 (sn_ic ⟨by decide, by decide⟩ dX5_partsWithEvents_5 rfl)) (dt_Sb (dt_Sl 6 (sn_icmpge dX5_partsWithEvents_6 (by decide) rfl)) (dt_Sl 9 (sn_ldAn rfl dX5_partsWithEvents_9 rfl)))) (dt_Sb (dt_Sl 10 (sn_getf rfl ffX5 (by decide) wq_1_49 dX5_partsWithEvents_10 rfl)) (dt_Sb (dt_Sl 13 (sn_ldIn rfl dX5_partsWithEvents_13 rfl)) (dt_Sl 14 (sn_iald dX5_partsWithEvents_14 rfl)))))) (dt_Sb (dt_Sb (dt_Sb (dt_Sl 15 (sn_ifle dX5_partsWithEvents_15 (by decide) rfl)) (dt_Sl 18 (sn_ldIn rfl dX5_partsWithEvents_18 rfl))) (dt_Sb (dt_Sl 19 (sn_ic ⟨by decide, by decide⟩ dX5_partsWithEvents_19 rfl)) (dt_Sb (dt_Sl 20 (sn_ldIn rfl dX5_partsWithEvents_20 rfl)) (dt_Sl 21 (sn_ishl dX5_partsWithEvents_21 rfl))))) (dt_Sb (dt_Sb (dt_Sl 22 (sn_ior dX5_partsWithEvents_22 rfl)) (dt_Sb (dt_Sl 23 (sn_stIn rfl (by decide) dX5_partsWithEvents_23 rfl)) (dt_Sl 24 (sn_iinc (by decide) dX5_partsWithEvents_24 rfl)))) (dt_Sb (dt_Sl 27 (sn_goto dX5_partsWithEvents_27 (by decide))) (dt_Sb (dt_Sl 30 (sn_ldIn rfl dX5_partsWithEvents_30 rfl)) (dt_Sl 31 (sn_iret rfl dX5_partsWithEvents_31))))))
theorem dX5_firstWaiting_0 : decode cX5_firstWaiting 0 = .ok (.iconst 0, 1) := by decide +kernel
theorem dX5_firstWaiting_1 : decode cX5_firstWaiting 1 = .ok (.istore 4, 2) := by decide +kernel
theorem dX5_firstWaiting_3 : decode cX5_firstWaiting 3 = .ok (.iload 4, 2) := by decide +kernel
theorem dX5_firstWaiting_5 : decode cX5_firstWaiting 5 = .ok (.aload_n 0, 1) := by decide +kernel
theorem dX5_firstWaiting_6 : decode cX5_firstWaiting 6 = .ok (.getfield 34, 3) := by decide +kernel
theorem dX5_firstWaiting_9 : decode cX5_firstWaiting 9 = .ok (.if_icmp .ge 66, 3) := by decide +kernel
theorem dX5_firstWaiting_12 : decode cX5_firstWaiting 12 = .ok (.aload_n 0, 1) := by decide +kernel
theorem dX5_firstWaiting_13 : decode cX5_firstWaiting 13 = .ok (.getfield 9, 3) := by decide +kernel
theorem dX5_firstWaiting_16 : decode cX5_firstWaiting 16 = .ok (.iload 4, 2) := by decide +kernel
theorem dX5_firstWaiting_18 : decode cX5_firstWaiting 18 = .ok (.baload, 1) := by decide +kernel
theorem dX5_firstWaiting_19 : decode cX5_firstWaiting 19 = .ok (.ifCond .ne 50, 3) := by decide +kernel
theorem dX5_firstWaiting_22 : decode cX5_firstWaiting 22 = .ok (.aload_n 0, 1) := by decide +kernel
theorem dX5_firstWaiting_23 : decode cX5_firstWaiting 23 = .ok (.getfield 25, 3) := by decide +kernel
theorem dX5_firstWaiting_26 : decode cX5_firstWaiting 26 = .ok (.iload 4, 2) := by decide +kernel
theorem dX5_firstWaiting_28 : decode cX5_firstWaiting 28 = .ok (.iaload, 1) := by decide +kernel
theorem dX5_firstWaiting_29 : decode cX5_firstWaiting 29 = .ok (.iconst (-1), 1) := by decide +kernel
theorem dX5_firstWaiting_30 : decode cX5_firstWaiting 30 = .ok (.if_icmp .ne 39, 3) := by decide +kernel
theorem dX5_firstWaiting_33 : decode cX5_firstWaiting 33 = .ok (.aload_n 0, 1) := by decide +kernel
theorem dX5_firstWaiting_34 : decode cX5_firstWaiting 34 = .ok (.getfield 15, 3) := by decide +kernel
theorem dX5_firstWaiting_37 : decode cX5_firstWaiting 37 = .ok (.iload 4, 2) := by decide +kernel
theorem dX5_firstWaiting_39 : decode cX5_firstWaiting 39 = .ok (.iaload, 1) := by decide +kernel
theorem dX5_firstWaiting_40 : decode cX5_firstWaiting 40 = .ok (.iload_n 1, 1) := by decide +kernel
theorem dX5_firstWaiting_41 : decode cX5_firstWaiting 41 = .ok (.if_icmp .ne 28, 3) := by decide +kernel
theorem dX5_firstWaiting_44 : decode cX5_firstWaiting 44 = .ok (.aload_n 0, 1) := by decide +kernel
theorem dX5_firstWaiting_45 : decode cX5_firstWaiting 45 = .ok (.getfield 19, 3) := by decide +kernel
theorem dX5_firstWaiting_48 : decode cX5_firstWaiting 48 = .ok (.iload 4, 2) := by decide +kernel
theorem dX5_firstWaiting_50 : decode cX5_firstWaiting 50 = .ok (.iaload, 1) := by decide +kernel
theorem dX5_firstWaiting_51 : decode cX5_firstWaiting 51 = .ok (.iload_n 2, 1) := by decide +kernel
theorem dX5_firstWaiting_52 : decode cX5_firstWaiting 52 = .ok (.if_icmp .ne 17, 3) := by decide +kernel
theorem dX5_firstWaiting_55 : decode cX5_firstWaiting 55 = .ok (.aload_n 0, 1) := by decide +kernel
theorem dX5_firstWaiting_56 : decode cX5_firstWaiting 56 = .ok (.getfield 22, 3) := by decide +kernel
theorem dX5_firstWaiting_59 : decode cX5_firstWaiting 59 = .ok (.iload 4, 2) := by decide +kernel
theorem dX5_firstWaiting_61 : decode cX5_firstWaiting 61 = .ok (.iaload, 1) := by decide +kernel
theorem dX5_firstWaiting_62 : decode cX5_firstWaiting 62 = .ok (.iload_n 3, 1) := by decide +kernel
theorem dX5_firstWaiting_63 : decode cX5_firstWaiting 63 = .ok (.if_icmp .ne 6, 3) := by decide +kernel
theorem dX5_firstWaiting_66 : decode cX5_firstWaiting 66 = .ok (.iload 4, 2) := by decide +kernel
theorem dX5_firstWaiting_68 : decode cX5_firstWaiting 68 = .ok (.ireturn, 1) := by decide +kernel
theorem dX5_firstWaiting_69 : decode cX5_firstWaiting 69 = .ok (.iinc 4 1, 3) := by decide +kernel
theorem dX5_firstWaiting_72 : decode cX5_firstWaiting 72 = .ok (.goto (-69), 3) := by decide +kernel
theorem dX5_firstWaiting_75 : decode cX5_firstWaiting 75 = .ok (.iconst (-1), 1) := by decide +kernel
theorem dX5_firstWaiting_76 : decode cX5_firstWaiting 76 = .ok (.ireturn, 1) := by decide +kernel
def tbX5_firstWaiting (pc : Nat) : dt_T := cond (Nat.ble pc 37) (cond (Nat.ble pc 18) (cond (Nat.ble pc 6) (cond (Nat.ble pc 1) (cond (Nat.ble pc 0) (cond (Nat.beq pc 0) (tc_ic 0 1) tc_no) (cond (Nat.beq pc 1) (tc_stI 4 3) tc_no)) (cond (Nat.ble pc 3) (cond (Nat.beq pc 3) (tc_ldI 4 5) tc_no) (cond (Nat.ble pc 5) (cond (Nat.beq pc 5) (tc_ldA 0 6) tc_no) (cond (Nat.beq pc 6) (tc_getf 5 7 9) tc_no)))) (cond (Nat.ble pc 12) (cond (Nat.ble pc 9) (cond (Nat.beq pc 9) (tc_icmpge 75 12) tc_no) (cond (Nat.beq pc 12) (tc_ldA 0 13) tc_no)) (cond (Nat.ble pc 13) (cond (Nat.beq pc 13) (tc_getf 5 0 16) tc_no) (cond (Nat.ble pc 16) (cond (Nat.beq pc 16) (tc_ldI 4 18) tc_no) (cond (Nat.beq pc 18) (tc_zald 19) tc_no))))) (cond (Nat.ble pc 28) (cond (Nat.ble pc 22) (cond (Nat.ble pc 19) (cond (Nat.beq pc 19) (tc_ifne 69 22) tc_no) (cond (Nat.beq pc 22) (tc_ldA 0 23) tc_no)) (cond (Nat.ble pc 23) (cond (Nat.beq pc 23) (tc_getf 5 4 26) tc_no) (cond (Nat.ble pc 26) (cond (Nat.beq pc 26) (tc_ldI 4 28) tc_no) (cond (Nat.beq pc 28) (tc_iald 29) tc_no)))) (cond (Nat.ble pc 30) (cond (Nat.ble pc 29) (cond (Nat.beq pc 29) (tc_ic (-1) 30) tc_no) (cond (Nat.beq pc 30) (tc_icmpne 69 33) tc_no)) (cond (Nat.ble pc 33) (cond (Nat.beq pc 33) (tc_ldA 0 34) tc_no) (cond (Nat.ble pc 34) (cond (Nat.beq pc 34) (tc_getf 5 1 37) tc_no) (cond (Nat.beq pc 37) (tc_ldI 4 39) tc_no)))))) (cond (Nat.ble pc 55) (cond (Nat.ble pc 45) (cond (Nat.ble pc 40) (cond (Nat.ble pc 39) (cond (Nat.beq pc 39) (tc_iald 40) tc_no) (cond (Nat.beq pc 40) (tc_ldI 1 41) tc_no)) (cond (Nat.ble pc 41) (cond (Nat.beq pc 41) (tc_icmpne 69 44) tc_no) (cond (Nat.ble pc 44) (cond (Nat.beq pc 44) (tc_ldA 0 45) tc_no) (cond (Nat.beq pc 45) (tc_getf 5 2 48) tc_no)))) (cond (Nat.ble pc 50) (cond (Nat.ble pc 48) (cond (Nat.beq pc 48) (tc_ldI 4 50) tc_no) (cond (Nat.beq pc 50) (tc_iald 51) tc_no)) (cond (Nat.ble pc 51) (cond (Nat.beq pc 51) (tc_ldI 2 52) tc_no) (cond (Nat.ble pc 52) (cond (Nat.beq pc 52) (tc_icmpne 69 55) tc_no) (cond (Nat.beq pc 55) (tc_ldA 0 56) tc_no))))) (cond (Nat.ble pc 63) (cond (Nat.ble pc 59) (cond (Nat.ble pc 56) (cond (Nat.beq pc 56) (tc_getf 5 3 59) tc_no) (cond (Nat.beq pc 59) (tc_ldI 4 61) tc_no)) (cond (Nat.ble pc 61) (cond (Nat.beq pc 61) (tc_iald 62) tc_no) (cond (Nat.ble pc 62) (cond (Nat.beq pc 62) (tc_ldI 3 63) tc_no) (cond (Nat.beq pc 63) (tc_icmpne 69 66) tc_no)))) (cond (Nat.ble pc 69) (cond (Nat.ble pc 66) (cond (Nat.beq pc 66) (tc_ldI 4 68) tc_no) (cond (Nat.ble pc 68) (cond (Nat.beq pc 68) (tc_iret) tc_no) (cond (Nat.beq pc 69) (tc_iinc 4 1 72) tc_no))) (cond (Nat.ble pc 72) (cond (Nat.beq pc 72) (tc_goto 3) tc_no) (cond (Nat.ble pc 75) (cond (Nat.beq pc 75) (tc_ic (-1) 76) tc_no) (cond (Nat.beq pc 76) (tc_iret) tc_no))))))
theorem okX5_firstWaiting : ∀ pc, dt_S mX5_firstWaiting (tbX5_firstWaiting pc) pc := by
  intro pc
  unfold tbX5_firstWaiting
  exact dt_Sb (dt_Sb (dt_Sb (dt_Sb (dt_Sb (dt_Sl 0 (sn_ic ⟨by decide, by decide⟩ dX5_firstWaiting_0 rfl)) (dt_Sl 1 (sn_stI (by decide) dX5_firstWaiting_1 rfl))) (dt_Sb (dt_Sl 3 (sn_ldI dX5_firstWaiting_3 rfl)) (dt_Sb (dt_Sl 5 (sn_ldAn rfl dX5_firstWaiting_5 rfl)) (dt_Sl 6 (sn_getf rfl ffX5 (by decide) wq_1_53 dX5_firstWaiting_6 rfl))))) (dt_Sb (dt_Sb (dt_Sl 9 (sn_icmpge dX5_firstWaiting_9 (by decide) rfl)) (dt_Sl 12 (sn_ldAn rfl dX5_firstWaiting_12 rfl))) (dt_Sb (dt_Sl 13 (sn_getf rfl ffX5 (by decide) wq_1_29 dX5_firstWaiting_13 rfl)) (dt_Sb (dt_Sl 16 (sn_ldI dX5_firstWaiting_16 rfl)) (dt_Sl 18 (sn_zald dX5_firstWaiting_18 rfl)))))) (dt_Sb (dt_Sb (dt_Sb (dt_Sl 19 (sn_ifne dX5_firstWaiting_19 (by decide) rfl)) (dt_Sl 22 (sn_ldAn rfl dX5_firstWaiting_22 rfl))) (dt_Sb (dt_Sl 23 (sn_getf rfl ffX5 (by decide) wq_1_45 dX5_firstWaiting_23 rfl)) (dt_Sb (dt_Sl 26 (sn_ldI dX5_firstWaiting_26 rfl)) (dt_Sl 28 (sn_iald dX5_firstWaiting_28 rfl))))) (dt_Sb (dt_Sb (dt_Sl 29 (sn_ic ⟨by decide, by decide⟩ dX5_firstWaiting_29 rfl)) (dt_Sl 30 (sn_icmpne dX5_firstWaiting_30 (by decide) rfl))) (dt_Sb (dt_Sl 33 (sn_ldAn rfl dX5_firstWaiting_33 rfl)) (dt_Sb (dt_Sl 34 (sn_getf rfl ffX5 (by decide) wq_1_34 dX5_firstWaiting_34 rfl)) (dt_Sl 37 (sn_ldI dX5_firstWaiting_37 rfl))))))) (dt_Sb (dt_Sb (dt_Sb (dt_Sb (dt_Sl 39 (sn_iald dX5_firstWaiting_39 rfl)) (dt_Sl 40 (sn_ldIn rfl dX5_firstWaiting_40 rfl))) (dt_Sb (dt_Sl 41 (sn_icmpne dX5_firstWaiting_41 (by decide) rfl)) (dt_Sb (dt_Sl 44 (sn_ldAn rfl dX5_firstWaiting_44 rfl)) (dt_Sl 45 (sn_getf rfl ffX5 (by decide) wq_1_38 dX5_firstWaiting_45 rfl))))) (dt_Sb (dt_Sb (dt_Sl 48 (sn_ldI dX5_firstWaiting_48 rfl)) (dt_Sl 50 (sn_iald dX5_firstWaiting_50 rfl))) (dt_Sb (dt_Sl 51 (sn_ldIn rfl dX5_firstWaiting_51 rfl)) (dt_Sb (dt_Sl 52 (sn_icmpne dX5_firstWaiting_52 (by decide) rfl)) (dt_Sl 55 (sn_ldAn rfl dX5_firstWaiting_55 rfl)))))) (dt_Sb (dt_Sb (dt_Sb (dt_Sl 56 (sn_getf rfl ffX5 (by decide) wq_1_42 dX5_firstWaiting_56 rfl)) (dt_Sl 59 (sn_ldI dX5_firstWaiting_59 rfl))) (dt_Sb (dt_Sl 61 (sn_iald dX5_firstWaiting_61 rfl)) (dt_Sb (dt_Sl 62 (sn_ldIn rfl dX5_firstWaiting_62 rfl)) (dt_Sl 63 (sn_icmpne dX5_firstWaiting_63 (by decide) rfl))))) (dt_Sb (dt_Sb (dt_Sl 66 (sn_ldI dX5_firstWaiting_66 rfl)) (dt_Sb (dt_Sl 68 (sn_iret rfl dX5_firstWaiting_68)) (dt_Sl 69 (sn_iinc (by decide) dX5_firstWaiting_69 rfl)))) (dt_Sb (dt_Sl 72 (sn_goto dX5_firstWaiting_72 (by decide))) (dt_Sb (dt_Sl 75 (sn_ic ⟨by decide, by decide⟩ dX5_firstWaiting_75 rfl)) (dt_Sl 76 (sn_iret rfl dX5_firstWaiting_76)))))))
theorem dX5_addSend_0 : decode cX5_addSend 0 = .ok (.aload_n 0, 1) := by decide +kernel
theorem dX5_addSend_1 : decode cX5_addSend 1 = .ok (.getfield 38, 3) := by decide +kernel
theorem dX5_addSend_4 : decode cX5_addSend 4 = .ok (.bipush 10, 2) := by decide +kernel
theorem dX5_addSend_6 : decode cX5_addSend 6 = .ok (.if_icmp .ge 47, 3) := by decide +kernel
theorem dX5_addSend_9 : decode cX5_addSend 9 = .ok (.aload_n 0, 1) := by decide +kernel
theorem dX5_addSend_10 : decode cX5_addSend 10 = .ok (.iload_n 1, 1) := by decide +kernel
theorem dX5_addSend_11 : decode cX5_addSend 11 = .ok (.iload_n 2, 1) := by decide +kernel
theorem dX5_addSend_12 : decode cX5_addSend 12 = .ok (.iload_n 3, 1) := by decide +kernel
theorem dX5_addSend_13 : decode cX5_addSend 13 = .ok (.invokevirtual 41, 3) := by decide +kernel
theorem dX5_addSend_16 : decode cX5_addSend 16 = .ok (.ifCond .eq 37, 3) := by decide +kernel
theorem dX5_addSend_19 : decode cX5_addSend 19 = .ok (.aload_n 0, 1) := by decide +kernel
theorem dX5_addSend_20 : decode cX5_addSend 20 = .ok (.getfield 9, 3) := by decide +kernel
theorem dX5_addSend_23 : decode cX5_addSend 23 = .ok (.aload_n 0, 1) := by decide +kernel
theorem dX5_addSend_24 : decode cX5_addSend 24 = .ok (.getfield 34, 3) := by decide +kernel
theorem dX5_addSend_27 : decode cX5_addSend 27 = .ok (.iconst 1, 1) := by decide +kernel
theorem dX5_addSend_28 : decode cX5_addSend 28 = .ok (.isub, 1) := by decide +kernel
theorem dX5_addSend_29 : decode cX5_addSend 29 = .ok (.iconst 0, 1) := by decide +kernel
theorem dX5_addSend_30 : decode cX5_addSend 30 = .ok (.bastore, 1) := by decide +kernel
theorem dX5_addSend_31 : decode cX5_addSend 31 = .ok (.aload_n 0, 1) := by decide +kernel
theorem dX5_addSend_32 : decode cX5_addSend 32 = .ok (.getfield 25, 3) := by decide +kernel
theorem dX5_addSend_35 : decode cX5_addSend 35 = .ok (.aload_n 0, 1) := by decide +kernel
theorem dX5_addSend_36 : decode cX5_addSend 36 = .ok (.getfield 34, 3) := by decide +kernel
theorem dX5_addSend_39 : decode cX5_addSend 39 = .ok (.iconst 1, 1) := by decide +kernel
theorem dX5_addSend_40 : decode cX5_addSend 40 = .ok (.isub, 1) := by decide +kernel
theorem dX5_addSend_41 : decode cX5_addSend 41 = .ok (.iconst (-1), 1) := by decide +kernel
theorem dX5_addSend_42 : decode cX5_addSend 42 = .ok (.iastore, 1) := by decide +kernel
theorem dX5_addSend_43 : decode cX5_addSend 43 = .ok (.aload_n 0, 1) := by decide +kernel
theorem dX5_addSend_44 : decode cX5_addSend 44 = .ok (.dup, 1) := by decide +kernel
theorem dX5_addSend_45 : decode cX5_addSend 45 = .ok (.getfield 38, 3) := by decide +kernel
theorem dX5_addSend_48 : decode cX5_addSend 48 = .ok (.iconst 1, 1) := by decide +kernel
theorem dX5_addSend_49 : decode cX5_addSend 49 = .ok (.iadd, 1) := by decide +kernel
theorem dX5_addSend_50 : decode cX5_addSend 50 = .ok (.putfield 38, 3) := by decide +kernel
theorem dX5_addSend_53 : decode cX5_addSend 53 = .ok (.return_, 1) := by decide +kernel
def tbX5_addSend (pc : Nat) : dt_T := cond (Nat.ble pc 28) (cond (Nat.ble pc 12) (cond (Nat.ble pc 6) (cond (Nat.ble pc 1) (cond (Nat.ble pc 0) (cond (Nat.beq pc 0) (tc_ldA 0 1) tc_no) (cond (Nat.beq pc 1) (tc_getf 5 8 4) tc_no)) (cond (Nat.ble pc 4) (cond (Nat.beq pc 4) (tc_ic 10 6) tc_no) (cond (Nat.beq pc 6) (tc_icmpge 53 9) tc_no))) (cond (Nat.ble pc 10) (cond (Nat.ble pc 9) (cond (Nat.beq pc 9) (tc_ldA 0 10) tc_no) (cond (Nat.beq pc 10) (tc_ldI 1 11) tc_no)) (cond (Nat.ble pc 11) (cond (Nat.beq pc 11) (tc_ldI 2 12) tc_no) (cond (Nat.beq pc 12) (tc_ldI 3 13) tc_no)))) (cond (Nat.ble pc 20) (cond (Nat.ble pc 16) (cond (Nat.ble pc 13) (cond (Nat.beq pc 13) (tc_callV 5 mX5_add 3 16) tc_no) (cond (Nat.beq pc 16) (tc_ifeq 53 19) tc_no)) (cond (Nat.ble pc 19) (cond (Nat.beq pc 19) (tc_ldA 0 20) tc_no) (cond (Nat.beq pc 20) (tc_getf 5 0 23) tc_no))) (cond (Nat.ble pc 24) (cond (Nat.ble pc 23) (cond (Nat.beq pc 23) (tc_ldA 0 24) tc_no) (cond (Nat.beq pc 24) (tc_getf 5 7 27) tc_no)) (cond (Nat.ble pc 27) (cond (Nat.beq pc 27) (tc_ic 1 28) tc_no) (cond (Nat.beq pc 28) (tc_isub 29) tc_no))))) (cond (Nat.ble pc 40) (cond (Nat.ble pc 32) (cond (Nat.ble pc 30) (cond (Nat.ble pc 29) (cond (Nat.beq pc 29) (tc_ic 0 30) tc_no) (cond (Nat.beq pc 30) (tc_zast 31) tc_no)) (cond (Nat.ble pc 31) (cond (Nat.beq pc 31) (tc_ldA 0 32) tc_no) (cond (Nat.beq pc 32) (tc_getf 5 4 35) tc_no))) (cond (Nat.ble pc 36) (cond (Nat.ble pc 35) (cond (Nat.beq pc 35) (tc_ldA 0 36) tc_no) (cond (Nat.beq pc 36) (tc_getf 5 7 39) tc_no)) (cond (Nat.ble pc 39) (cond (Nat.beq pc 39) (tc_ic 1 40) tc_no) (cond (Nat.beq pc 40) (tc_isub 41) tc_no)))) (cond (Nat.ble pc 44) (cond (Nat.ble pc 42) (cond (Nat.ble pc 41) (cond (Nat.beq pc 41) (tc_ic (-1) 42) tc_no) (cond (Nat.beq pc 42) (tc_iast 43) tc_no)) (cond (Nat.ble pc 43) (cond (Nat.beq pc 43) (tc_ldA 0 44) tc_no) (cond (Nat.beq pc 44) (tc_dup 45) tc_no))) (cond (Nat.ble pc 48) (cond (Nat.ble pc 45) (cond (Nat.beq pc 45) (tc_getf 5 8 48) tc_no) (cond (Nat.beq pc 48) (tc_ic 1 49) tc_no)) (cond (Nat.ble pc 49) (cond (Nat.beq pc 49) (tc_iadd 50) tc_no) (cond (Nat.ble pc 50) (cond (Nat.beq pc 50) (tc_putI 5 8 53) tc_no) (cond (Nat.beq pc 53) (tc_ret) tc_no))))))
theorem okX5_addSend : ∀ pc, dt_S mX5_addSend (tbX5_addSend pc) pc := by
  intro pc
  unfold tbX5_addSend
  exact dt_Sb (dt_Sb (dt_Sb (dt_Sb (dt_Sb (dt_Sl 0 (sn_ldAn rfl dX5_addSend_0 rfl)) (dt_Sl 1 (sn_getf rfl ffX5 (by decide) wq_1_57 dX5_addSend_1 rfl))) (dt_Sb (dt_Sl 4 (sn_bi ⟨by decide, by decide⟩ rfl dX5_addSend_4 rfl)) (dt_Sl 6 (sn_icmpge dX5_addSend_6 (by decide) rfl)))) (dt_Sb (dt_Sb (dt_Sl 9 (sn_ldAn rfl dX5_addSend_9 rfl)) (dt_Sl 10 (sn_ldIn rfl dX5_addSend_10 rfl))) (dt_Sb (dt_Sl 11 (sn_ldIn rfl dX5_addSend_11 rfl)) (dt_Sl 12 (sn_ldIn rfl dX5_addSend_12 rfl))))) (dt_Sb (dt_Sb (dt_Sb (dt_Sl 13 (sn_callV rfl ffX5 nnX5_add rfl wq_2_112 wq_2_114 wq_0_5 dX5_addSend_13 rfl)) (dt_Sl 16 (sn_ifeq dX5_addSend_16 (by decide) rfl))) (dt_Sb (dt_Sl 19 (sn_ldAn rfl dX5_addSend_19 rfl)) (dt_Sl 20 (sn_getf rfl ffX5 (by decide) wq_1_29 dX5_addSend_20 rfl)))) (dt_Sb (dt_Sb (dt_Sl 23 (sn_ldAn rfl dX5_addSend_23 rfl)) (dt_Sl 24 (sn_getf rfl ffX5 (by decide) wq_1_53 dX5_addSend_24 rfl))) (dt_Sb (dt_Sl 27 (sn_ic ⟨by decide, by decide⟩ dX5_addSend_27 rfl)) (dt_Sl 28 (sn_isub dX5_addSend_28 rfl)))))) (dt_Sb (dt_Sb (dt_Sb (dt_Sb (dt_Sl 29 (sn_ic ⟨by decide, by decide⟩ dX5_addSend_29 rfl)) (dt_Sl 30 (sn_zast dX5_addSend_30 rfl))) (dt_Sb (dt_Sl 31 (sn_ldAn rfl dX5_addSend_31 rfl)) (dt_Sl 32 (sn_getf rfl ffX5 (by decide) wq_1_45 dX5_addSend_32 rfl)))) (dt_Sb (dt_Sb (dt_Sl 35 (sn_ldAn rfl dX5_addSend_35 rfl)) (dt_Sl 36 (sn_getf rfl ffX5 (by decide) wq_1_53 dX5_addSend_36 rfl))) (dt_Sb (dt_Sl 39 (sn_ic ⟨by decide, by decide⟩ dX5_addSend_39 rfl)) (dt_Sl 40 (sn_isub dX5_addSend_40 rfl))))) (dt_Sb (dt_Sb (dt_Sb (dt_Sl 41 (sn_ic ⟨by decide, by decide⟩ dX5_addSend_41 rfl)) (dt_Sl 42 (sn_iast dX5_addSend_42 rfl))) (dt_Sb (dt_Sl 43 (sn_ldAn rfl dX5_addSend_43 rfl)) (dt_Sl 44 (sn_dup dX5_addSend_44 rfl)))) (dt_Sb (dt_Sb (dt_Sl 45 (sn_getf rfl ffX5 (by decide) wq_1_57 dX5_addSend_45 rfl)) (dt_Sl 48 (sn_ic ⟨by decide, by decide⟩ dX5_addSend_48 rfl))) (dt_Sb (dt_Sl 49 (sn_iadd dX5_addSend_49 rfl)) (dt_Sb (dt_Sl 50 (sn_putI rfl ffX5 (by decide) rfl rfl (by decide +kernel) wq_1_57 dX5_addSend_50 rfl)) (dt_Sl 53 (sn_ret rfl dX5_addSend_53)))))))
theorem dX5_addTake_0 : decode cX5_addTake 0 = .ok (.aload_n 0, 1) := by decide +kernel
theorem dX5_addTake_1 : decode cX5_addTake 1 = .ok (.iload_n 1, 1) := by decide +kernel
theorem dX5_addTake_2 : decode cX5_addTake 2 = .ok (.iload_n 2, 1) := by decide +kernel
theorem dX5_addTake_3 : decode cX5_addTake 3 = .ok (.iload_n 3, 1) := by decide +kernel
theorem dX5_addTake_4 : decode cX5_addTake 4 = .ok (.invokevirtual 45, 3) := by decide +kernel
theorem dX5_addTake_7 : decode cX5_addTake 7 = .ok (.istore 4, 2) := by decide +kernel
theorem dX5_addTake_9 : decode cX5_addTake 9 = .ok (.iload 4, 2) := by decide +kernel
theorem dX5_addTake_11 : decode cX5_addTake 11 = .ok (.iconst (-1), 1) := by decide +kernel
theorem dX5_addTake_12 : decode cX5_addTake 12 = .ok (.if_icmp .eq 51, 3) := by decide +kernel
theorem dX5_addTake_15 : decode cX5_addTake 15 = .ok (.aload_n 0, 1) := by decide +kernel
theorem dX5_addTake_16 : decode cX5_addTake 16 = .ok (.iload_n 2, 1) := by decide +kernel
theorem dX5_addTake_17 : decode cX5_addTake 17 = .ok (.iload_n 1, 1) := by decide +kernel
theorem dX5_addTake_18 : decode cX5_addTake 18 = .ok (.iload_n 3, 1) := by decide +kernel
theorem dX5_addTake_19 : decode cX5_addTake 19 = .ok (.invokevirtual 41, 3) := by decide +kernel
theorem dX5_addTake_22 : decode cX5_addTake 22 = .ok (.ifCond .eq 41, 3) := by decide +kernel
theorem dX5_addTake_25 : decode cX5_addTake 25 = .ok (.aload_n 0, 1) := by decide +kernel
theorem dX5_addTake_26 : decode cX5_addTake 26 = .ok (.getfield 9, 3) := by decide +kernel
theorem dX5_addTake_29 : decode cX5_addTake 29 = .ok (.aload_n 0, 1) := by decide +kernel
theorem dX5_addTake_30 : decode cX5_addTake 30 = .ok (.getfield 34, 3) := by decide +kernel
theorem dX5_addTake_33 : decode cX5_addTake 33 = .ok (.iconst 1, 1) := by decide +kernel
theorem dX5_addTake_34 : decode cX5_addTake 34 = .ok (.isub, 1) := by decide +kernel
theorem dX5_addTake_35 : decode cX5_addTake 35 = .ok (.iconst 1, 1) := by decide +kernel
theorem dX5_addTake_36 : decode cX5_addTake 36 = .ok (.bastore, 1) := by decide +kernel
theorem dX5_addTake_37 : decode cX5_addTake 37 = .ok (.aload_n 0, 1) := by decide +kernel
theorem dX5_addTake_38 : decode cX5_addTake 38 = .ok (.getfield 25, 3) := by decide +kernel
theorem dX5_addTake_41 : decode cX5_addTake 41 = .ok (.aload_n 0, 1) := by decide +kernel
theorem dX5_addTake_42 : decode cX5_addTake 42 = .ok (.getfield 34, 3) := by decide +kernel
theorem dX5_addTake_45 : decode cX5_addTake 45 = .ok (.iconst 1, 1) := by decide +kernel
theorem dX5_addTake_46 : decode cX5_addTake 46 = .ok (.isub, 1) := by decide +kernel
theorem dX5_addTake_47 : decode cX5_addTake 47 = .ok (.iload 4, 2) := by decide +kernel
theorem dX5_addTake_49 : decode cX5_addTake 49 = .ok (.iastore, 1) := by decide +kernel
theorem dX5_addTake_50 : decode cX5_addTake 50 = .ok (.aload_n 0, 1) := by decide +kernel
theorem dX5_addTake_51 : decode cX5_addTake 51 = .ok (.getfield 25, 3) := by decide +kernel
theorem dX5_addTake_54 : decode cX5_addTake 54 = .ok (.iload 4, 2) := by decide +kernel
theorem dX5_addTake_56 : decode cX5_addTake 56 = .ok (.aload_n 0, 1) := by decide +kernel
theorem dX5_addTake_57 : decode cX5_addTake 57 = .ok (.getfield 34, 3) := by decide +kernel
theorem dX5_addTake_60 : decode cX5_addTake 60 = .ok (.iconst 1, 1) := by decide +kernel
theorem dX5_addTake_61 : decode cX5_addTake 61 = .ok (.isub, 1) := by decide +kernel
theorem dX5_addTake_62 : decode cX5_addTake 62 = .ok (.iastore, 1) := by decide +kernel
theorem dX5_addTake_63 : decode cX5_addTake 63 = .ok (.return_, 1) := by decide +kernel
def tbX5_addTake (pc : Nat) : dt_T := cond (Nat.ble pc 33) (cond (Nat.ble pc 15) (cond (Nat.ble pc 4) (cond (Nat.ble pc 1) (cond (Nat.ble pc 0) (cond (Nat.beq pc 0) (tc_ldA 0 1) tc_no) (cond (Nat.beq pc 1) (tc_ldI 1 2) tc_no)) (cond (Nat.ble pc 2) (cond (Nat.beq pc 2) (tc_ldI 2 3) tc_no) (cond (Nat.ble pc 3) (cond (Nat.beq pc 3) (tc_ldI 3 4) tc_no) (cond (Nat.beq pc 4) (tc_callV 5 mX5_firstWaiting 3 7) tc_no)))) (cond (Nat.ble pc 9) (cond (Nat.ble pc 7) (cond (Nat.beq pc 7) (tc_stI 4 9) tc_no) (cond (Nat.beq pc 9) (tc_ldI 4 11) tc_no)) (cond (Nat.ble pc 11) (cond (Nat.beq pc 11) (tc_ic (-1) 12) tc_no) (cond (Nat.ble pc 12) (cond (Nat.beq pc 12) (tc_icmpeq 63 15) tc_no) (cond (Nat.beq pc 15) (tc_ldA 0 16) tc_no))))) (cond (Nat.ble pc 22) (cond (Nat.ble pc 17) (cond (Nat.ble pc 16) (cond (Nat.beq pc 16) (tc_ldI 2 17) tc_no) (cond (Nat.beq pc 17) (tc_ldI 1 18) tc_no)) (cond (Nat.ble pc 18) (cond (Nat.beq pc 18) (tc_ldI 3 19) tc_no) (cond (Nat.ble pc 19) (cond (Nat.beq pc 19) (tc_callV 5 mX5_add 3 22) tc_no) (cond (Nat.beq pc 22) (tc_ifeq 63 25) tc_no)))) (cond (Nat.ble pc 26) (cond (Nat.ble pc 25) (cond (Nat.beq pc 25) (tc_ldA 0 26) tc_no) (cond (Nat.beq pc 26) (tc_getf 5 0 29) tc_no)) (cond (Nat.ble pc 29) (cond (Nat.beq pc 29) (tc_ldA 0 30) tc_no) (cond (Nat.ble pc 30) (cond (Nat.beq pc 30) (tc_getf 5 7 33) tc_no) (cond (Nat.beq pc 33) (tc_ic 1 34) tc_no)))))) (cond (Nat.ble pc 47) (cond (Nat.ble pc 38) (cond (Nat.ble pc 35) (cond (Nat.ble pc 34) (cond (Nat.beq pc 34) (tc_isub 35) tc_no) (cond (Nat.beq pc 35) (tc_ic 1 36) tc_no)) (cond (Nat.ble pc 36) (cond (Nat.beq pc 36) (tc_zast 37) tc_no) (cond (Nat.ble pc 37) (cond (Nat.beq pc 37) (tc_ldA 0 38) tc_no) (cond (Nat.beq pc 38) (tc_getf 5 4 41) tc_no)))) (cond (Nat.ble pc 42) (cond (Nat.ble pc 41) (cond (Nat.beq pc 41) (tc_ldA 0 42) tc_no) (cond (Nat.beq pc 42) (tc_getf 5 7 45) tc_no)) (cond (Nat.ble pc 45) (cond (Nat.beq pc 45) (tc_ic 1 46) tc_no) (cond (Nat.ble pc 46) (cond (Nat.beq pc 46) (tc_isub 47) tc_no) (cond (Nat.beq pc 47) (tc_ldI 4 49) tc_no))))) (cond (Nat.ble pc 56) (cond (Nat.ble pc 50) (cond (Nat.ble pc 49) (cond (Nat.beq pc 49) (tc_iast 50) tc_no) (cond (Nat.beq pc 50) (tc_ldA 0 51) tc_no)) (cond (Nat.ble pc 51) (cond (Nat.beq pc 51) (tc_getf 5 4 54) tc_no) (cond (Nat.ble pc 54) (cond (Nat.beq pc 54) (tc_ldI 4 56) tc_no) (cond (Nat.beq pc 56) (tc_ldA 0 57) tc_no)))) (cond (Nat.ble pc 60) (cond (Nat.ble pc 57) (cond (Nat.beq pc 57) (tc_getf 5 7 60) tc_no) (cond (Nat.beq pc 60) (tc_ic 1 61) tc_no)) (cond (Nat.ble pc 61) (cond (Nat.beq pc 61) (tc_isub 62) tc_no) (cond (Nat.ble pc 62) (cond (Nat.beq pc 62) (tc_iast 63) tc_no) (cond (Nat.beq pc 63) (tc_ret) tc_no))))))
theorem okX5_addTake : ∀ pc, dt_S mX5_addTake (tbX5_addTake pc) pc := by
  intro pc
  unfold tbX5_addTake
  exact dt_Sb (dt_Sb (dt_Sb (dt_Sb (dt_Sb (dt_Sl 0 (sn_ldAn rfl dX5_addTake_0 rfl)) (dt_Sl 1 (sn_ldIn rfl dX5_addTake_1 rfl))) (dt_Sb (dt_Sl 2 (sn_ldIn rfl dX5_addTake_2 rfl)) (dt_Sb (dt_Sl 3 (sn_ldIn rfl dX5_addTake_3 rfl)) (dt_Sl 4 (sn_callV rfl ffX5 nnX5_firstWaiting rfl wq_2_111 wq_2_104 wq_2_105 dX5_addTake_4 rfl))))) (dt_Sb (dt_Sb (dt_Sl 7 (sn_stI (by decide) dX5_addTake_7 rfl)) (dt_Sl 9 (sn_ldI dX5_addTake_9 rfl))) (dt_Sb (dt_Sl 11 (sn_ic ⟨by decide, by decide⟩ dX5_addTake_11 rfl)) (dt_Sb (dt_Sl 12 (sn_icmpeq dX5_addTake_12 (by decide) rfl)) (dt_Sl 15 (sn_ldAn rfl dX5_addTake_15 rfl)))))) (dt_Sb (dt_Sb (dt_Sb (dt_Sl 16 (sn_ldIn rfl dX5_addTake_16 rfl)) (dt_Sl 17 (sn_ldIn rfl dX5_addTake_17 rfl))) (dt_Sb (dt_Sl 18 (sn_ldIn rfl dX5_addTake_18 rfl)) (dt_Sb (dt_Sl 19 (sn_callV rfl ffX5 nnX5_add rfl wq_2_112 wq_2_114 wq_0_5 dX5_addTake_19 rfl)) (dt_Sl 22 (sn_ifeq dX5_addTake_22 (by decide) rfl))))) (dt_Sb (dt_Sb (dt_Sl 25 (sn_ldAn rfl dX5_addTake_25 rfl)) (dt_Sl 26 (sn_getf rfl ffX5 (by decide) wq_1_29 dX5_addTake_26 rfl))) (dt_Sb (dt_Sl 29 (sn_ldAn rfl dX5_addTake_29 rfl)) (dt_Sb (dt_Sl 30 (sn_getf rfl ffX5 (by decide) wq_1_53 dX5_addTake_30 rfl)) (dt_Sl 33 (sn_ic ⟨by decide, by decide⟩ dX5_addTake_33 rfl))))))) (dt_Sb (dt_Sb (dt_Sb (dt_Sb (dt_Sl 34 (sn_isub dX5_addTake_34 rfl)) (dt_Sl 35 (sn_ic ⟨by decide, by decide⟩ dX5_addTake_35 rfl))) (dt_Sb (dt_Sl 36 (sn_zast dX5_addTake_36 rfl)) (dt_Sb (dt_Sl 37 (sn_ldAn rfl dX5_addTake_37 rfl)) (dt_Sl 38 (sn_getf rfl ffX5 (by decide) wq_1_45 dX5_addTake_38 rfl))))) (dt_Sb (dt_Sb (dt_Sl 41 (sn_ldAn rfl dX5_addTake_41 rfl)) (dt_Sl 42 (sn_getf rfl ffX5 (by decide) wq_1_53 dX5_addTake_42 rfl))) (dt_Sb (dt_Sl 45 (sn_ic ⟨by decide, by decide⟩ dX5_addTake_45 rfl)) (dt_Sb (dt_Sl 46 (sn_isub dX5_addTake_46 rfl)) (dt_Sl 47 (sn_ldI dX5_addTake_47 rfl)))))) (dt_Sb (dt_Sb (dt_Sb (dt_Sl 49 (sn_iast dX5_addTake_49 rfl)) (dt_Sl 50 (sn_ldAn rfl dX5_addTake_50 rfl))) (dt_Sb (dt_Sl 51 (sn_getf rfl ffX5 (by decide) wq_1_45 dX5_addTake_51 rfl)) (dt_Sb (dt_Sl 54 (sn_ldI dX5_addTake_54 rfl)) (dt_Sl 56 (sn_ldAn rfl dX5_addTake_56 rfl))))) (dt_Sb (dt_Sb (dt_Sl 57 (sn_getf rfl ffX5 (by decide) wq_1_53 dX5_addTake_57 rfl)) (dt_Sl 60 (sn_ic ⟨by decide, by decide⟩ dX5_addTake_60 rfl))) (dt_Sb (dt_Sl 61 (sn_isub dX5_addTake_61 rfl)) (dt_Sb (dt_Sl 62 (sn_iast dX5_addTake_62 rfl)) (dt_Sl 63 (sn_ret rfl dX5_addTake_63)))))))
theorem dX5_add_0 : decode cX5_add 0 = .ok (.iload_n 1, 1) := by decide +kernel
theorem dX5_add_1 : decode cX5_add 1 = .ok (.ifCond .lt 17, 3) := by decide +kernel
theorem dX5_add_4 : decode cX5_add 4 = .ok (.iload_n 1, 1) := by decide +kernel
theorem dX5_add_5 : decode cX5_add 5 = .ok (.iconst 4, 1) := by decide +kernel
theorem dX5_add_6 : decode cX5_add 6 = .ok (.if_icmp .ge 12, 3) := by decide +kernel
theorem dX5_add_9 : decode cX5_add 9 = .ok (.iload_n 2, 1) := by decide +kernel
theorem dX5_add_10 : decode cX5_add 10 = .ok (.ifCond .lt 8, 3) := by decide +kernel
theorem dX5_add_13 : decode cX5_add 13 = .ok (.iload_n 2, 1) := by decide +kernel
theorem dX5_add_14 : decode cX5_add 14 = .ok (.iconst 4, 1) := by decide +kernel
theorem dX5_add_15 : decode cX5_add 15 = .ok (.if_icmp .lt 5, 3) := by decide +kernel
theorem dX5_add_18 : decode cX5_add 18 = .ok (.iconst 0, 1) := by decide +kernel
theorem dX5_add_19 : decode cX5_add 19 = .ok (.ireturn, 1) := by decide +kernel
theorem dX5_add_20 : decode cX5_add 20 = .ok (.aload_n 0, 1) := by decide +kernel
theorem dX5_add_21 : decode cX5_add 21 = .ok (.getfield 34, 3) := by decide +kernel
theorem dX5_add_24 : decode cX5_add 24 = .ok (.bipush 20, 2) := by decide +kernel
theorem dX5_add_26 : decode cX5_add 26 = .ok (.if_icmp .ge 14, 3) := by decide +kernel
theorem dX5_add_29 : decode cX5_add 29 = .ok (.aload_n 0, 1) := by decide +kernel
theorem dX5_add_30 : decode cX5_add 30 = .ok (.getfield 28, 3) := by decide +kernel
theorem dX5_add_33 : decode cX5_add 33 = .ok (.iload_n 1, 1) := by decide +kernel
theorem dX5_add_34 : decode cX5_add 34 = .ok (.iaload, 1) := by decide +kernel
theorem dX5_add_35 : decode cX5_add 35 = .ok (.bipush 10, 2) := by decide +kernel
theorem dX5_add_37 : decode cX5_add 37 = .ok (.if_icmp .lt 5, 3) := by decide +kernel
theorem dX5_add_40 : decode cX5_add 40 = .ok (.iconst 0, 1) := by decide +kernel
theorem dX5_add_41 : decode cX5_add 41 = .ok (.ireturn, 1) := by decide +kernel
theorem dX5_add_42 : decode cX5_add 42 = .ok (.aload_n 0, 1) := by decide +kernel
theorem dX5_add_43 : decode cX5_add 43 = .ok (.getfield 15, 3) := by decide +kernel
theorem dX5_add_46 : decode cX5_add 46 = .ok (.aload_n 0, 1) := by decide +kernel
theorem dX5_add_47 : decode cX5_add 47 = .ok (.getfield 34, 3) := by decide +kernel
theorem dX5_add_50 : decode cX5_add 50 = .ok (.iload_n 1, 1) := by decide +kernel
theorem dX5_add_51 : decode cX5_add 51 = .ok (.iastore, 1) := by decide +kernel
theorem dX5_add_52 : decode cX5_add 52 = .ok (.aload_n 0, 1) := by decide +kernel
theorem dX5_add_53 : decode cX5_add 53 = .ok (.getfield 19, 3) := by decide +kernel
theorem dX5_add_56 : decode cX5_add 56 = .ok (.aload_n 0, 1) := by decide +kernel
theorem dX5_add_57 : decode cX5_add 57 = .ok (.getfield 34, 3) := by decide +kernel
theorem dX5_add_60 : decode cX5_add 60 = .ok (.iload_n 2, 1) := by decide +kernel
theorem dX5_add_61 : decode cX5_add 61 = .ok (.iastore, 1) := by decide +kernel
theorem dX5_add_62 : decode cX5_add 62 = .ok (.aload_n 0, 1) := by decide +kernel
theorem dX5_add_63 : decode cX5_add 63 = .ok (.getfield 22, 3) := by decide +kernel
theorem dX5_add_66 : decode cX5_add 66 = .ok (.aload_n 0, 1) := by decide +kernel
theorem dX5_add_67 : decode cX5_add 67 = .ok (.getfield 34, 3) := by decide +kernel
theorem dX5_add_70 : decode cX5_add 70 = .ok (.iload_n 3, 1) := by decide +kernel
theorem dX5_add_71 : decode cX5_add 71 = .ok (.iastore, 1) := by decide +kernel
theorem dX5_add_72 : decode cX5_add 72 = .ok (.aload_n 0, 1) := by decide +kernel
theorem dX5_add_73 : decode cX5_add 73 = .ok (.getfield 31, 3) := by decide +kernel
theorem dX5_add_76 : decode cX5_add 76 = .ok (.iload_n 1, 1) := by decide +kernel
theorem dX5_add_77 : decode cX5_add 77 = .ok (.bipush 10, 2) := by decide +kernel
theorem dX5_add_79 : decode cX5_add 79 = .ok (.imul, 1) := by decide +kernel
theorem dX5_add_80 : decode cX5_add 80 = .ok (.aload_n 0, 1) := by decide +kernel
theorem dX5_add_81 : decode cX5_add 81 = .ok (.getfield 28, 3) := by decide +kernel
theorem dX5_add_84 : decode cX5_add 84 = .ok (.iload_n 1, 1) := by decide +kernel
theorem dX5_add_85 : decode cX5_add 85 = .ok (.iaload, 1) := by decide +kernel
theorem dX5_add_86 : decode cX5_add 86 = .ok (.iadd, 1) := by decide +kernel
theorem dX5_add_87 : decode cX5_add 87 = .ok (.aload_n 0, 1) := by decide +kernel
theorem dX5_add_88 : decode cX5_add 88 = .ok (.getfield 34, 3) := by decide +kernel
theorem dX5_add_91 : decode cX5_add 91 = .ok (.iastore, 1) := by decide +kernel
theorem dX5_add_92 : decode cX5_add 92 = .ok (.aload_n 0, 1) := by decide +kernel
theorem dX5_add_93 : decode cX5_add 93 = .ok (.getfield 28, 3) := by decide +kernel
theorem dX5_add_96 : decode cX5_add 96 = .ok (.iload_n 1, 1) := by decide +kernel
theorem dX5_add_97 : decode cX5_add 97 = .ok (.dup2, 1) := by decide +kernel
theorem dX5_add_98 : decode cX5_add 98 = .ok (.iaload, 1) := by decide +kernel
theorem dX5_add_99 : decode cX5_add 99 = .ok (.iconst 1, 1) := by decide +kernel
theorem dX5_add_100 : decode cX5_add 100 = .ok (.iadd, 1) := by decide +kernel
theorem dX5_add_101 : decode cX5_add 101 = .ok (.iastore, 1) := by decide +kernel
theorem dX5_add_102 : decode cX5_add 102 = .ok (.aload_n 0, 1) := by decide +kernel
theorem dX5_add_103 : decode cX5_add 103 = .ok (.dup, 1) := by decide +kernel
theorem dX5_add_104 : decode cX5_add 104 = .ok (.getfield 34, 3) := by decide +kernel
theorem dX5_add_107 : decode cX5_add 107 = .ok (.iconst 1, 1) := by decide +kernel
theorem dX5_add_108 : decode cX5_add 108 = .ok (.iadd, 1) := by decide +kernel
theorem dX5_add_109 : decode cX5_add 109 = .ok (.putfield 34, 3) := by decide +kernel
theorem dX5_add_112 : decode cX5_add 112 = .ok (.iconst 1, 1) := by decide +kernel
theorem dX5_add_113 : decode cX5_add 113 = .ok (.ireturn, 1) := by decide +kernel
def tbX5_add (pc : Nat) : dt_T := cond (Nat.ble pc 60) (cond (Nat.ble pc 29) (cond (Nat.ble pc 13) (cond (Nat.ble pc 5) (cond (Nat.ble pc 1) (cond (Nat.ble pc 0) (cond (Nat.beq pc 0) (tc_ldI 1 1) tc_no) (cond (Nat.beq pc 1) (tc_iflt 18 4) tc_no)) (cond (Nat.ble pc 4) (cond (Nat.beq pc 4) (tc_ldI 1 5) tc_no) (cond (Nat.beq pc 5) (tc_ic 4 6) tc_no))) (cond (Nat.ble pc 9) (cond (Nat.ble pc 6) (cond (Nat.beq pc 6) (tc_icmpge 18 9) tc_no) (cond (Nat.beq pc 9) (tc_ldI 2 10) tc_no)) (cond (Nat.ble pc 10) (cond (Nat.beq pc 10) (tc_iflt 18 13) tc_no) (cond (Nat.beq pc 13) (tc_ldI 2 14) tc_no)))) (cond (Nat.ble pc 19) (cond (Nat.ble pc 15) (cond (Nat.ble pc 14) (cond (Nat.beq pc 14) (tc_ic 4 15) tc_no) (cond (Nat.beq pc 15) (tc_icmplt 20 18) tc_no)) (cond (Nat.ble pc 18) (cond (Nat.beq pc 18) (tc_ic 0 19) tc_no) (cond (Nat.beq pc 19) (tc_zret) tc_no))) (cond (Nat.ble pc 21) (cond (Nat.ble pc 20) (cond (Nat.beq pc 20) (tc_ldA 0 21) tc_no) (cond (Nat.beq pc 21) (tc_getf 5 7 24) tc_no)) (cond (Nat.ble pc 24) (cond (Nat.beq pc 24) (tc_ic 20 26) tc_no) (cond (Nat.ble pc 26) (cond (Nat.beq pc 26) (tc_icmpge 40 29) tc_no) (cond (Nat.beq pc 29) (tc_ldA 0 30) tc_no)))))) (cond (Nat.ble pc 43) (cond (Nat.ble pc 35) (cond (Nat.ble pc 33) (cond (Nat.ble pc 30) (cond (Nat.beq pc 30) (tc_getf 5 5 33) tc_no) (cond (Nat.beq pc 33) (tc_ldI 1 34) tc_no)) (cond (Nat.ble pc 34) (cond (Nat.beq pc 34) (tc_iald 35) tc_no) (cond (Nat.beq pc 35) (tc_ic 10 37) tc_no))) (cond (Nat.ble pc 40) (cond (Nat.ble pc 37) (cond (Nat.beq pc 37) (tc_icmplt 42 40) tc_no) (cond (Nat.beq pc 40) (tc_ic 0 41) tc_no)) (cond (Nat.ble pc 41) (cond (Nat.beq pc 41) (tc_zret) tc_no) (cond (Nat.ble pc 42) (cond (Nat.beq pc 42) (tc_ldA 0 43) tc_no) (cond (Nat.beq pc 43) (tc_getf 5 1 46) tc_no))))) (cond (Nat.ble pc 51) (cond (Nat.ble pc 47) (cond (Nat.ble pc 46) (cond (Nat.beq pc 46) (tc_ldA 0 47) tc_no) (cond (Nat.beq pc 47) (tc_getf 5 7 50) tc_no)) (cond (Nat.ble pc 50) (cond (Nat.beq pc 50) (tc_ldI 1 51) tc_no) (cond (Nat.beq pc 51) (tc_iast 52) tc_no))) (cond (Nat.ble pc 53) (cond (Nat.ble pc 52) (cond (Nat.beq pc 52) (tc_ldA 0 53) tc_no) (cond (Nat.beq pc 53) (tc_getf 5 2 56) tc_no)) (cond (Nat.ble pc 56) (cond (Nat.beq pc 56) (tc_ldA 0 57) tc_no) (cond (Nat.ble pc 57) (cond (Nat.beq pc 57) (tc_getf 5 7 60) tc_no) (cond (Nat.beq pc 60) (tc_ldI 2 61) tc_no))))))) (cond (Nat.ble pc 87) (cond (Nat.ble pc 73) (cond (Nat.ble pc 66) (cond (Nat.ble pc 62) (cond (Nat.ble pc 61) (cond (Nat.beq pc 61) (tc_iast 62) tc_no) (cond (Nat.beq pc 62) (tc_ldA 0 63) tc_no)) (cond (Nat.ble pc 63) (cond (Nat.beq pc 63) (tc_getf 5 3 66) tc_no) (cond (Nat.beq pc 66) (tc_ldA 0 67) tc_no))) (cond (Nat.ble pc 70) (cond (Nat.ble pc 67) (cond (Nat.beq pc 67) (tc_getf 5 7 70) tc_no) (cond (Nat.beq pc 70) (tc_ldI 3 71) tc_no)) (cond (Nat.ble pc 71) (cond (Nat.beq pc 71) (tc_iast 72) tc_no) (cond (Nat.ble pc 72) (cond (Nat.beq pc 72) (tc_ldA 0 73) tc_no) (cond (Nat.beq pc 73) (tc_getf 5 6 76) tc_no))))) (cond (Nat.ble pc 80) (cond (Nat.ble pc 77) (cond (Nat.ble pc 76) (cond (Nat.beq pc 76) (tc_ldI 1 77) tc_no) (cond (Nat.beq pc 77) (tc_ic 10 79) tc_no)) (cond (Nat.ble pc 79) (cond (Nat.beq pc 79) (tc_imul 80) tc_no) (cond (Nat.beq pc 80) (tc_ldA 0 81) tc_no))) (cond (Nat.ble pc 84) (cond (Nat.ble pc 81) (cond (Nat.beq pc 81) (tc_getf 5 5 84) tc_no) (cond (Nat.beq pc 84) (tc_ldI 1 85) tc_no)) (cond (Nat.ble pc 85) (cond (Nat.beq pc 85) (tc_iald 86) tc_no) (cond (Nat.ble pc 86) (cond (Nat.beq pc 86) (tc_iadd 87) tc_no) (cond (Nat.beq pc 87) (tc_ldA 0 88) tc_no)))))) (cond (Nat.ble pc 100) (cond (Nat.ble pc 93) (cond (Nat.ble pc 91) (cond (Nat.ble pc 88) (cond (Nat.beq pc 88) (tc_getf 5 7 91) tc_no) (cond (Nat.beq pc 91) (tc_iast 92) tc_no)) (cond (Nat.ble pc 92) (cond (Nat.beq pc 92) (tc_ldA 0 93) tc_no) (cond (Nat.beq pc 93) (tc_getf 5 5 96) tc_no))) (cond (Nat.ble pc 97) (cond (Nat.ble pc 96) (cond (Nat.beq pc 96) (tc_ldI 1 97) tc_no) (cond (Nat.beq pc 97) (tc_dup2 98) tc_no)) (cond (Nat.ble pc 98) (cond (Nat.beq pc 98) (tc_iald 99) tc_no) (cond (Nat.ble pc 99) (cond (Nat.beq pc 99) (tc_ic 1 100) tc_no) (cond (Nat.beq pc 100) (tc_iadd 101) tc_no))))) (cond (Nat.ble pc 104) (cond (Nat.ble pc 102) (cond (Nat.ble pc 101) (cond (Nat.beq pc 101) (tc_iast 102) tc_no) (cond (Nat.beq pc 102) (tc_ldA 0 103) tc_no)) (cond (Nat.ble pc 103) (cond (Nat.beq pc 103) (tc_dup 104) tc_no) (cond (Nat.beq pc 104) (tc_getf 5 7 107) tc_no))) (cond (Nat.ble pc 108) (cond (Nat.ble pc 107) (cond (Nat.beq pc 107) (tc_ic 1 108) tc_no) (cond (Nat.beq pc 108) (tc_iadd 109) tc_no)) (cond (Nat.ble pc 109) (cond (Nat.beq pc 109) (tc_putI 5 7 112) tc_no) (cond (Nat.ble pc 112) (cond (Nat.beq pc 112) (tc_ic 1 113) tc_no) (cond (Nat.beq pc 113) (tc_zret) tc_no)))))))
theorem okX5_add : ∀ pc, dt_S mX5_add (tbX5_add pc) pc := by
  intro pc
  unfold tbX5_add
  exact dt_Sb (dt_Sb (dt_Sb (dt_Sb (dt_Sb (dt_Sb (dt_Sl 0 (sn_ldIn rfl dX5_add_0 rfl)) (dt_Sl 1 (sn_iflt dX5_add_1 (by decide) rfl))) (dt_Sb (dt_Sl 4 (sn_ldIn rfl dX5_add_4 rfl)) (dt_Sl 5 (sn_ic ⟨by decide, by decide⟩ dX5_add_5 rfl)))) (dt_Sb (dt_Sb (dt_Sl 6 (sn_icmpge dX5_add_6 (by decide) rfl)) (dt_Sl 9 (sn_ldIn rfl dX5_add_9 rfl))) (dt_Sb (dt_Sl 10 (sn_iflt dX5_add_10 (by decide) rfl)) (dt_Sl 13 (sn_ldIn rfl dX5_add_13 rfl))))) (dt_Sb (dt_Sb (dt_Sb (dt_Sl 14 (sn_ic ⟨by decide, by decide⟩ dX5_add_14 rfl)) (dt_Sl 15 (sn_icmplt dX5_add_15 (by decide) rfl))) (dt_Sb (dt_Sl 18 (sn_ic ⟨by decide, by decide⟩ dX5_add_18 rfl)) (dt_Sl 19 (sn_zret rfl dX5_add_19)))) (dt_Sb (dt_Sb (dt_Sl 20 (sn_ldAn rfl dX5_add_20 rfl)) (dt_Sl 21 (sn_getf rfl ffX5 (by decide) wq_1_53 dX5_add_21 rfl))) (dt_Sb (dt_Sl 24 (sn_bi ⟨by decide, by decide⟩ rfl dX5_add_24 rfl)) (dt_Sb (dt_Sl 26 (sn_icmpge dX5_add_26 (by decide) rfl)) (dt_Sl 29 (sn_ldAn rfl dX5_add_29 rfl))))))) (dt_Sb (dt_Sb (dt_Sb (dt_Sb (dt_Sl 30 (sn_getf rfl ffX5 (by decide) wq_1_49 dX5_add_30 rfl)) (dt_Sl 33 (sn_ldIn rfl dX5_add_33 rfl))) (dt_Sb (dt_Sl 34 (sn_iald dX5_add_34 rfl)) (dt_Sl 35 (sn_bi ⟨by decide, by decide⟩ rfl dX5_add_35 rfl)))) (dt_Sb (dt_Sb (dt_Sl 37 (sn_icmplt dX5_add_37 (by decide) rfl)) (dt_Sl 40 (sn_ic ⟨by decide, by decide⟩ dX5_add_40 rfl))) (dt_Sb (dt_Sl 41 (sn_zret rfl dX5_add_41)) (dt_Sb (dt_Sl 42 (sn_ldAn rfl dX5_add_42 rfl)) (dt_Sl 43 (sn_getf rfl ffX5 (by decide) wq_1_34 dX5_add_43 rfl)))))) (dt_Sb (dt_Sb (dt_Sb (dt_Sl 46 (sn_ldAn rfl dX5_add_46 rfl)) (dt_Sl 47 (sn_getf rfl ffX5 (by decide) wq_1_53 dX5_add_47 rfl))) (dt_Sb (dt_Sl 50 (sn_ldIn rfl dX5_add_50 rfl)) (dt_Sl 51 (sn_iast dX5_add_51 rfl)))) (dt_Sb (dt_Sb (dt_Sl 52 (sn_ldAn rfl dX5_add_52 rfl)) (dt_Sl 53 (sn_getf rfl ffX5 (by decide) wq_1_38 dX5_add_53 rfl))) (dt_Sb (dt_Sl 56 (sn_ldAn rfl dX5_add_56 rfl)) (dt_Sb (dt_Sl 57 (sn_getf rfl ffX5 (by decide) wq_1_53 dX5_add_57 rfl)) (dt_Sl 60 (sn_ldIn rfl dX5_add_60 rfl)))))))) (dt_Sb (dt_Sb (dt_Sb (dt_Sb (dt_Sb (dt_Sl 61 (sn_iast dX5_add_61 rfl)) (dt_Sl 62 (sn_ldAn rfl dX5_add_62 rfl))) (dt_Sb (dt_Sl 63 (sn_getf rfl ffX5 (by decide) wq_1_42 dX5_add_63 rfl)) (dt_Sl 66 (sn_ldAn rfl dX5_add_66 rfl)))) (dt_Sb (dt_Sb (dt_Sl 67 (sn_getf rfl ffX5 (by decide) wq_1_53 dX5_add_67 rfl)) (dt_Sl 70 (sn_ldIn rfl dX5_add_70 rfl))) (dt_Sb (dt_Sl 71 (sn_iast dX5_add_71 rfl)) (dt_Sb (dt_Sl 72 (sn_ldAn rfl dX5_add_72 rfl)) (dt_Sl 73 (sn_getf rfl ffX5 (by decide) wq_1_52 dX5_add_73 rfl)))))) (dt_Sb (dt_Sb (dt_Sb (dt_Sl 76 (sn_ldIn rfl dX5_add_76 rfl)) (dt_Sl 77 (sn_bi ⟨by decide, by decide⟩ rfl dX5_add_77 rfl))) (dt_Sb (dt_Sl 79 (sn_imul dX5_add_79 rfl)) (dt_Sl 80 (sn_ldAn rfl dX5_add_80 rfl)))) (dt_Sb (dt_Sb (dt_Sl 81 (sn_getf rfl ffX5 (by decide) wq_1_49 dX5_add_81 rfl)) (dt_Sl 84 (sn_ldIn rfl dX5_add_84 rfl))) (dt_Sb (dt_Sl 85 (sn_iald dX5_add_85 rfl)) (dt_Sb (dt_Sl 86 (sn_iadd dX5_add_86 rfl)) (dt_Sl 87 (sn_ldAn rfl dX5_add_87 rfl))))))) (dt_Sb (dt_Sb (dt_Sb (dt_Sb (dt_Sl 88 (sn_getf rfl ffX5 (by decide) wq_1_53 dX5_add_88 rfl)) (dt_Sl 91 (sn_iast dX5_add_91 rfl))) (dt_Sb (dt_Sl 92 (sn_ldAn rfl dX5_add_92 rfl)) (dt_Sl 93 (sn_getf rfl ffX5 (by decide) wq_1_49 dX5_add_93 rfl)))) (dt_Sb (dt_Sb (dt_Sl 96 (sn_ldIn rfl dX5_add_96 rfl)) (dt_Sl 97 (sn_dup2 dX5_add_97 rfl))) (dt_Sb (dt_Sl 98 (sn_iald dX5_add_98 rfl)) (dt_Sb (dt_Sl 99 (sn_ic ⟨by decide, by decide⟩ dX5_add_99 rfl)) (dt_Sl 100 (sn_iadd dX5_add_100 rfl)))))) (dt_Sb (dt_Sb (dt_Sb (dt_Sl 101 (sn_iast dX5_add_101 rfl)) (dt_Sl 102 (sn_ldAn rfl dX5_add_102 rfl))) (dt_Sb (dt_Sl 103 (sn_dup dX5_add_103 rfl)) (dt_Sl 104 (sn_getf rfl ffX5 (by decide) wq_1_53 dX5_add_104 rfl)))) (dt_Sb (dt_Sb (dt_Sl 107 (sn_ic ⟨by decide, by decide⟩ dX5_add_107 rfl)) (dt_Sl 108 (sn_iadd dX5_add_108 rfl))) (dt_Sb (dt_Sl 109 (sn_putI rfl ffX5 (by decide) rfl rfl (by decide +kernel) wq_1_53 dX5_add_109 rfl)) (dt_Sb (dt_Sl 112 (sn_ic ⟨by decide, by decide⟩ dX5_add_112 rfl)) (dt_Sl 113 (sn_zret rfl dX5_add_113))))))))
theorem dX5_addCopy_0 : decode cX5_addCopy 0 = .ok (.iload_n 2, 1) := by decide +kernel
theorem dX5_addCopy_1 : decode cX5_addCopy 1 = .ok (.ifCond .lt 11, 3) := by decide +kernel
theorem dX5_addCopy_4 : decode cX5_addCopy 4 = .ok (.iload_n 2, 1) := by decide +kernel
theorem dX5_addCopy_5 : decode cX5_addCopy 5 = .ok (.aload_n 1, 1) := by decide +kernel
theorem dX5_addCopy_6 : decode cX5_addCopy 6 = .ok (.getfield 34, 3) := by decide +kernel
theorem dX5_addCopy_9 : decode cX5_addCopy 9 = .ok (.if_icmp .lt 4, 3) := by decide +kernel
theorem dX5_addCopy_12 : decode cX5_addCopy 12 = .ok (.return_, 1) := by decide +kernel
theorem dX5_addCopy_13 : decode cX5_addCopy 13 = .ok (.aload_n 1, 1) := by decide +kernel
theorem dX5_addCopy_14 : decode cX5_addCopy 14 = .ok (.getfield 9, 3) := by decide +kernel
theorem dX5_addCopy_17 : decode cX5_addCopy 17 = .ok (.iload_n 2, 1) := by decide +kernel
theorem dX5_addCopy_18 : decode cX5_addCopy 18 = .ok (.baload, 1) := by decide +kernel
theorem dX5_addCopy_19 : decode cX5_addCopy 19 = .ok (.ifCond .eq 28, 3) := by decide +kernel
theorem dX5_addCopy_22 : decode cX5_addCopy 22 = .ok (.aload_n 0, 1) := by decide +kernel
theorem dX5_addCopy_23 : decode cX5_addCopy 23 = .ok (.aload_n 1, 1) := by decide +kernel
theorem dX5_addCopy_24 : decode cX5_addCopy 24 = .ok (.getfield 19, 3) := by decide +kernel
theorem dX5_addCopy_27 : decode cX5_addCopy 27 = .ok (.iload_n 2, 1) := by decide +kernel
theorem dX5_addCopy_28 : decode cX5_addCopy 28 = .ok (.iaload, 1) := by decide +kernel
theorem dX5_addCopy_29 : decode cX5_addCopy 29 = .ok (.aload_n 1, 1) := by decide +kernel
theorem dX5_addCopy_30 : decode cX5_addCopy 30 = .ok (.getfield 15, 3) := by decide +kernel
theorem dX5_addCopy_33 : decode cX5_addCopy 33 = .ok (.iload_n 2, 1) := by decide +kernel
theorem dX5_addCopy_34 : decode cX5_addCopy 34 = .ok (.iaload, 1) := by decide +kernel
theorem dX5_addCopy_35 : decode cX5_addCopy 35 = .ok (.aload_n 1, 1) := by decide +kernel
theorem dX5_addCopy_36 : decode cX5_addCopy 36 = .ok (.getfield 22, 3) := by decide +kernel
theorem dX5_addCopy_39 : decode cX5_addCopy 39 = .ok (.iload_n 2, 1) := by decide +kernel
theorem dX5_addCopy_40 : decode cX5_addCopy 40 = .ok (.iaload, 1) := by decide +kernel
theorem dX5_addCopy_41 : decode cX5_addCopy 41 = .ok (.invokevirtual 49, 3) := by decide +kernel
theorem dX5_addCopy_44 : decode cX5_addCopy 44 = .ok (.goto 25, 3) := by decide +kernel
theorem dX5_addCopy_47 : decode cX5_addCopy 47 = .ok (.aload_n 0, 1) := by decide +kernel
theorem dX5_addCopy_48 : decode cX5_addCopy 48 = .ok (.aload_n 1, 1) := by decide +kernel
theorem dX5_addCopy_49 : decode cX5_addCopy 49 = .ok (.getfield 15, 3) := by decide +kernel
theorem dX5_addCopy_52 : decode cX5_addCopy 52 = .ok (.iload_n 2, 1) := by decide +kernel
theorem dX5_addCopy_53 : decode cX5_addCopy 53 = .ok (.iaload, 1) := by decide +kernel
theorem dX5_addCopy_54 : decode cX5_addCopy 54 = .ok (.aload_n 1, 1) := by decide +kernel
theorem dX5_addCopy_55 : decode cX5_addCopy 55 = .ok (.getfield 19, 3) := by decide +kernel
theorem dX5_addCopy_58 : decode cX5_addCopy 58 = .ok (.iload_n 2, 1) := by decide +kernel
theorem dX5_addCopy_59 : decode cX5_addCopy 59 = .ok (.iaload, 1) := by decide +kernel
theorem dX5_addCopy_60 : decode cX5_addCopy 60 = .ok (.aload_n 1, 1) := by decide +kernel
theorem dX5_addCopy_61 : decode cX5_addCopy 61 = .ok (.getfield 22, 3) := by decide +kernel
theorem dX5_addCopy_64 : decode cX5_addCopy 64 = .ok (.iload_n 2, 1) := by decide +kernel
theorem dX5_addCopy_65 : decode cX5_addCopy 65 = .ok (.iaload, 1) := by decide +kernel
theorem dX5_addCopy_66 : decode cX5_addCopy 66 = .ok (.invokevirtual 53, 3) := by decide +kernel
theorem dX5_addCopy_69 : decode cX5_addCopy 69 = .ok (.return_, 1) := by decide +kernel
def tbX5_addCopy (pc : Nat) : dt_T := cond (Nat.ble pc 34) (cond (Nat.ble pc 17) (cond (Nat.ble pc 6) (cond (Nat.ble pc 1) (cond (Nat.ble pc 0) (cond (Nat.beq pc 0) (tc_ldI 2 1) tc_no) (cond (Nat.beq pc 1) (tc_iflt 12 4) tc_no)) (cond (Nat.ble pc 4) (cond (Nat.beq pc 4) (tc_ldI 2 5) tc_no) (cond (Nat.ble pc 5) (cond (Nat.beq pc 5) (tc_ldA 1 6) tc_no) (cond (Nat.beq pc 6) (tc_getf 5 7 9) tc_no)))) (cond (Nat.ble pc 12) (cond (Nat.ble pc 9) (cond (Nat.beq pc 9) (tc_icmplt 13 12) tc_no) (cond (Nat.beq pc 12) (tc_ret) tc_no)) (cond (Nat.ble pc 13) (cond (Nat.beq pc 13) (tc_ldA 1 14) tc_no) (cond (Nat.ble pc 14) (cond (Nat.beq pc 14) (tc_getf 5 0 17) tc_no) (cond (Nat.beq pc 17) (tc_ldI 2 18) tc_no))))) (cond (Nat.ble pc 24) (cond (Nat.ble pc 19) (cond (Nat.ble pc 18) (cond (Nat.beq pc 18) (tc_zald 19) tc_no) (cond (Nat.beq pc 19) (tc_ifeq 47 22) tc_no)) (cond (Nat.ble pc 22) (cond (Nat.beq pc 22) (tc_ldA 0 23) tc_no) (cond (Nat.ble pc 23) (cond (Nat.beq pc 23) (tc_ldA 1 24) tc_no) (cond (Nat.beq pc 24) (tc_getf 5 2 27) tc_no)))) (cond (Nat.ble pc 29) (cond (Nat.ble pc 27) (cond (Nat.beq pc 27) (tc_ldI 2 28) tc_no) (cond (Nat.ble pc 28) (cond (Nat.beq pc 28) (tc_iald 29) tc_no) (cond (Nat.beq pc 29) (tc_ldA 1 30) tc_no))) (cond (Nat.ble pc 30) (cond (Nat.beq pc 30) (tc_getf 5 1 33) tc_no) (cond (Nat.ble pc 33) (cond (Nat.beq pc 33) (tc_ldI 2 34) tc_no) (cond (Nat.beq pc 34) (tc_iald 35) tc_no)))))) (cond (Nat.ble pc 52) (cond (Nat.ble pc 41) (cond (Nat.ble pc 36) (cond (Nat.ble pc 35) (cond (Nat.beq pc 35) (tc_ldA 1 36) tc_no) (cond (Nat.beq pc 36) (tc_getf 5 3 39) tc_no)) (cond (Nat.ble pc 39) (cond (Nat.beq pc 39) (tc_ldI 2 40) tc_no) (cond (Nat.ble pc 40) (cond (Nat.beq pc 40) (tc_iald 41) tc_no) (cond (Nat.beq pc 41) (tc_callV 5 mX5_addTake 3 44) tc_no)))) (cond (Nat.ble pc 47) (cond (Nat.ble pc 44) (cond (Nat.beq pc 44) (tc_goto 69) tc_no) (cond (Nat.beq pc 47) (tc_ldA 0 48) tc_no)) (cond (Nat.ble pc 48) (cond (Nat.beq pc 48) (tc_ldA 1 49) tc_no) (cond (Nat.ble pc 49) (cond (Nat.beq pc 49) (tc_getf 5 1 52) tc_no) (cond (Nat.beq pc 52) (tc_ldI 2 53) tc_no))))) (cond (Nat.ble pc 59) (cond (Nat.ble pc 54) (cond (Nat.ble pc 53) (cond (Nat.beq pc 53) (tc_iald 54) tc_no) (cond (Nat.beq pc 54) (tc_ldA 1 55) tc_no)) (cond (Nat.ble pc 55) (cond (Nat.beq pc 55) (tc_getf 5 2 58) tc_no) (cond (Nat.ble pc 58) (cond (Nat.beq pc 58) (tc_ldI 2 59) tc_no) (cond (Nat.beq pc 59) (tc_iald 60) tc_no)))) (cond (Nat.ble pc 64) (cond (Nat.ble pc 60) (cond (Nat.beq pc 60) (tc_ldA 1 61) tc_no) (cond (Nat.ble pc 61) (cond (Nat.beq pc 61) (tc_getf 5 3 64) tc_no) (cond (Nat.beq pc 64) (tc_ldI 2 65) tc_no))) (cond (Nat.ble pc 65) (cond (Nat.beq pc 65) (tc_iald 66) tc_no) (cond (Nat.ble pc 66) (cond (Nat.beq pc 66) (tc_callV 5 mX5_addSend 3 69) tc_no) (cond (Nat.beq pc 69) (tc_ret) tc_no))))))
theorem okX5_addCopy : ∀ pc, dt_S mX5_addCopy (tbX5_addCopy pc) pc := by
  intro pc
  unfold tbX5_addCopy
  exact dt_Sb (dt_Sb (dt_Sb (dt_Sb (dt_Sb (dt_Sl 0 (sn_ldIn rfl dX5_addCopy_0 rfl)) (dt_Sl 1 (sn_iflt dX5_addCopy_1 (by decide) rfl))) (dt_Sb (dt_Sl 4 (sn_ldIn rfl dX5_addCopy_4 rfl)) (dt_Sb (dt_Sl 5 (sn_ldAn rfl dX5_addCopy_5 rfl)) (dt_Sl 6 (sn_getf rfl ffX5 (by decide) wq_1_53 dX5_addCopy_6 rfl))))) (dt_Sb (dt_Sb (dt_Sl 9 (sn_icmplt dX5_addCopy_9 (by decide) rfl)) (dt_Sl 12 (sn_ret rfl dX5_addCopy_12))) (dt_Sb (dt_Sl 13 (sn_ldAn rfl dX5_addCopy_13 rfl)) (dt_Sb (dt_Sl 14 (sn_getf rfl ffX5 (by decide) wq_1_29 dX5_addCopy_14 rfl)) (dt_Sl 17 (sn_ldIn rfl dX5_addCopy_17 rfl)))))) (dt_Sb (dt_Sb (dt_Sb (dt_Sl 18 (sn_zald dX5_addCopy_18 rfl)) (dt_Sl 19 (sn_ifeq dX5_addCopy_19 (by decide) rfl))) (dt_Sb (dt_Sl 22 (sn_ldAn rfl dX5_addCopy_22 rfl)) (dt_Sb (dt_Sl 23 (sn_ldAn rfl dX5_addCopy_23 rfl)) (dt_Sl 24 (sn_getf rfl ffX5 (by decide) wq_1_38 dX5_addCopy_24 rfl))))) (dt_Sb (dt_Sb (dt_Sl 27 (sn_ldIn rfl dX5_addCopy_27 rfl)) (dt_Sb (dt_Sl 28 (sn_iald dX5_addCopy_28 rfl)) (dt_Sl 29 (sn_ldAn rfl dX5_addCopy_29 rfl)))) (dt_Sb (dt_Sl 30 (sn_getf rfl ffX5 (by decide) wq_1_34 dX5_addCopy_30 rfl)) (dt_Sb (dt_Sl 33 (sn_ldIn rfl dX5_addCopy_33 rfl)) (dt_Sl 34 (sn_iald dX5_addCopy_34 rfl))))))) (dt_Sb (dt_Sb (dt_Sb (dt_Sb (dt_Sl 35 (sn_ldAn rfl dX5_addCopy_35 rfl)) (dt_Sl 36 (sn_getf rfl ffX5 (by decide) wq_1_42 dX5_addCopy_36 rfl))) (dt_Sb (dt_Sl 39 (sn_ldIn rfl dX5_addCopy_39 rfl)) (dt_Sb (dt_Sl 40 (sn_iald dX5_addCopy_40 rfl)) (dt_Sl 41 (sn_callV rfl ffX5 nnX5_addTake rfl wq_2_133 wq_2_108 wq_2_109 dX5_addCopy_41 rfl))))) (dt_Sb (dt_Sb (dt_Sl 44 (sn_goto dX5_addCopy_44 (by decide))) (dt_Sl 47 (sn_ldAn rfl dX5_addCopy_47 rfl))) (dt_Sb (dt_Sl 48 (sn_ldAn rfl dX5_addCopy_48 rfl)) (dt_Sb (dt_Sl 49 (sn_getf rfl ffX5 (by decide) wq_1_34 dX5_addCopy_49 rfl)) (dt_Sl 52 (sn_ldIn rfl dX5_addCopy_52 rfl)))))) (dt_Sb (dt_Sb (dt_Sb (dt_Sl 53 (sn_iald dX5_addCopy_53 rfl)) (dt_Sl 54 (sn_ldAn rfl dX5_addCopy_54 rfl))) (dt_Sb (dt_Sl 55 (sn_getf rfl ffX5 (by decide) wq_1_38 dX5_addCopy_55 rfl)) (dt_Sb (dt_Sl 58 (sn_ldIn rfl dX5_addCopy_58 rfl)) (dt_Sl 59 (sn_iald dX5_addCopy_59 rfl))))) (dt_Sb (dt_Sb (dt_Sl 60 (sn_ldAn rfl dX5_addCopy_60 rfl)) (dt_Sb (dt_Sl 61 (sn_getf rfl ffX5 (by decide) wq_1_42 dX5_addCopy_61 rfl)) (dt_Sl 64 (sn_ldIn rfl dX5_addCopy_64 rfl)))) (dt_Sb (dt_Sl 65 (sn_iald dX5_addCopy_65 rfl)) (dt_Sb (dt_Sl 66 (sn_callV rfl ffX5 nnX5_addSend rfl wq_2_134 wq_2_117 wq_2_118 dX5_addCopy_66 rfl)) (dt_Sl 69 (sn_ret rfl dX5_addCopy_69)))))))
theorem dX5_addAll_0 : decode cX5_addAll 0 = .ok (.iconst 0, 1) := by decide +kernel
theorem dX5_addAll_1 : decode cX5_addAll 1 = .ok (.istore_n 2, 1) := by decide +kernel
theorem dX5_addAll_2 : decode cX5_addAll 2 = .ok (.iload_n 2, 1) := by decide +kernel
theorem dX5_addAll_3 : decode cX5_addAll 3 = .ok (.aload_n 1, 1) := by decide +kernel
theorem dX5_addAll_4 : decode cX5_addAll 4 = .ok (.getfield 34, 3) := by decide +kernel
theorem dX5_addAll_7 : decode cX5_addAll 7 = .ok (.if_icmp .ge 15, 3) := by decide +kernel
theorem dX5_addAll_10 : decode cX5_addAll 10 = .ok (.aload_n 0, 1) := by decide +kernel
theorem dX5_addAll_11 : decode cX5_addAll 11 = .ok (.aload_n 1, 1) := by decide +kernel
theorem dX5_addAll_12 : decode cX5_addAll 12 = .ok (.iload_n 2, 1) := by decide +kernel
theorem dX5_addAll_13 : decode cX5_addAll 13 = .ok (.invokevirtual 56, 3) := by decide +kernel
theorem dX5_addAll_16 : decode cX5_addAll 16 = .ok (.iinc 2 1, 3) := by decide +kernel
theorem dX5_addAll_19 : decode cX5_addAll 19 = .ok (.goto (-17), 3) := by decide +kernel
theorem dX5_addAll_22 : decode cX5_addAll 22 = .ok (.return_, 1) := by decide +kernel
def tbX5_addAll (pc : Nat) : dt_T := cond (Nat.ble pc 7) (cond (Nat.ble pc 2) (cond (Nat.ble pc 0) (cond (Nat.beq pc 0) (tc_ic 0 1) tc_no) (cond (Nat.ble pc 1) (cond (Nat.beq pc 1) (tc_stI 2 2) tc_no) (cond (Nat.beq pc 2) (tc_ldI 2 3) tc_no))) (cond (Nat.ble pc 3) (cond (Nat.beq pc 3) (tc_ldA 1 4) tc_no) (cond (Nat.ble pc 4) (cond (Nat.beq pc 4) (tc_getf 5 7 7) tc_no) (cond (Nat.beq pc 7) (tc_icmpge 22 10) tc_no)))) (cond (Nat.ble pc 12) (cond (Nat.ble pc 10) (cond (Nat.beq pc 10) (tc_ldA 0 11) tc_no) (cond (Nat.ble pc 11) (cond (Nat.beq pc 11) (tc_ldA 1 12) tc_no) (cond (Nat.beq pc 12) (tc_ldI 2 13) tc_no))) (cond (Nat.ble pc 16) (cond (Nat.ble pc 13) (cond (Nat.beq pc 13) (tc_callV 5 mX5_addCopy 2 16) tc_no) (cond (Nat.beq pc 16) (tc_iinc 2 1 19) tc_no)) (cond (Nat.ble pc 19) (cond (Nat.beq pc 19) (tc_goto 2) tc_no) (cond (Nat.beq pc 22) (tc_ret) tc_no))))
theorem okX5_addAll : ∀ pc, dt_S mX5_addAll (tbX5_addAll pc) pc := by
  intro pc
  unfold tbX5_addAll
  exact dt_Sb (dt_Sb (dt_Sb (dt_Sl 0 (sn_ic ⟨by decide, by decide⟩ dX5_addAll_0 rfl)) (dt_Sb (dt_Sl 1 (sn_stIn rfl (by decide) dX5_addAll_1 rfl)) (dt_Sl 2 (sn_ldIn rfl dX5_addAll_2 rfl)))) (dt_Sb (dt_Sl 3 (sn_ldAn rfl dX5_addAll_3 rfl)) (dt_Sb (dt_Sl 4 (sn_getf rfl ffX5 (by decide) wq_1_53 dX5_addAll_4 rfl)) (dt_Sl 7 (sn_icmpge dX5_addAll_7 (by decide) rfl))))) (dt_Sb (dt_Sb (dt_Sl 10 (sn_ldAn rfl dX5_addAll_10 rfl)) (dt_Sb (dt_Sl 11 (sn_ldAn rfl dX5_addAll_11 rfl)) (dt_Sl 12 (sn_ldIn rfl dX5_addAll_12 rfl)))) (dt_Sb (dt_Sb (dt_Sl 13 (sn_callV rfl ffX5 nnX5_addCopy rfl wq_2_129 wq_2_130 wq_2_131 dX5_addAll_13 rfl)) (dt_Sl 16 (sn_iinc (by decide) dX5_addAll_16 rfl))) (dt_Sb (dt_Sl 19 (sn_goto dX5_addAll_19 (by decide))) (dt_Sl 22 (sn_ret rfl dX5_addAll_22)))))
theorem dX5_hasSameLine_0 : decode cX5_hasSameLine 0 = .ok (.iload_n 2, 1) := by decide +kernel
theorem dX5_hasSameLine_1 : decode cX5_hasSameLine 1 = .ok (.ifCond .lt 23, 3) := by decide +kernel
theorem dX5_hasSameLine_4 : decode cX5_hasSameLine 4 = .ok (.iload_n 2, 1) := by decide +kernel
theorem dX5_hasSameLine_5 : decode cX5_hasSameLine 5 = .ok (.iconst 4, 1) := by decide +kernel
theorem dX5_hasSameLine_6 : decode cX5_hasSameLine 6 = .ok (.if_icmp .ge 18, 3) := by decide +kernel
theorem dX5_hasSameLine_9 : decode cX5_hasSameLine 9 = .ok (.aload_n 0, 1) := by decide +kernel
theorem dX5_hasSameLine_10 : decode cX5_hasSameLine 10 = .ok (.getfield 28, 3) := by decide +kernel
theorem dX5_hasSameLine_13 : decode cX5_hasSameLine 13 = .ok (.iload_n 2, 1) := by decide +kernel
theorem dX5_hasSameLine_14 : decode cX5_hasSameLine 14 = .ok (.iaload, 1) := by decide +kernel
theorem dX5_hasSameLine_15 : decode cX5_hasSameLine 15 = .ok (.aload_n 1, 1) := by decide +kernel
theorem dX5_hasSameLine_16 : decode cX5_hasSameLine 16 = .ok (.getfield 28, 3) := by decide +kernel
theorem dX5_hasSameLine_19 : decode cX5_hasSameLine 19 = .ok (.iload_n 2, 1) := by decide +kernel
theorem dX5_hasSameLine_20 : decode cX5_hasSameLine 20 = .ok (.iaload, 1) := by decide +kernel
theorem dX5_hasSameLine_21 : decode cX5_hasSameLine 21 = .ok (.if_icmp .eq 5, 3) := by decide +kernel
theorem dX5_hasSameLine_24 : decode cX5_hasSameLine 24 = .ok (.iconst 0, 1) := by decide +kernel
theorem dX5_hasSameLine_25 : decode cX5_hasSameLine 25 = .ok (.ireturn, 1) := by decide +kernel
theorem dX5_hasSameLine_26 : decode cX5_hasSameLine 26 = .ok (.iconst 0, 1) := by decide +kernel
theorem dX5_hasSameLine_27 : decode cX5_hasSameLine 27 = .ok (.istore_n 3, 1) := by decide +kernel
theorem dX5_hasSameLine_28 : decode cX5_hasSameLine 28 = .ok (.iload_n 3, 1) := by decide +kernel
theorem dX5_hasSameLine_29 : decode cX5_hasSameLine 29 = .ok (.aload_n 0, 1) := by decide +kernel
theorem dX5_hasSameLine_30 : decode cX5_hasSameLine 30 = .ok (.getfield 28, 3) := by decide +kernel
theorem dX5_hasSameLine_33 : decode cX5_hasSameLine 33 = .ok (.iload_n 2, 1) := by decide +kernel
theorem dX5_hasSameLine_34 : decode cX5_hasSameLine 34 = .ok (.iaload, 1) := by decide +kernel
theorem dX5_hasSameLine_35 : decode cX5_hasSameLine 35 = .ok (.if_icmp .ge 90, 3) := by decide +kernel
theorem dX5_hasSameLine_38 : decode cX5_hasSameLine 38 = .ok (.aload_n 0, 1) := by decide +kernel
theorem dX5_hasSameLine_39 : decode cX5_hasSameLine 39 = .ok (.iload_n 2, 1) := by decide +kernel
theorem dX5_hasSameLine_40 : decode cX5_hasSameLine 40 = .ok (.iload_n 3, 1) := by decide +kernel
theorem dX5_hasSameLine_41 : decode cX5_hasSameLine 41 = .ok (.invokevirtual 60, 3) := by decide +kernel
theorem dX5_hasSameLine_44 : decode cX5_hasSameLine 44 = .ok (.istore 4, 2) := by decide +kernel
theorem dX5_hasSameLine_46 : decode cX5_hasSameLine 46 = .ok (.aload_n 1, 1) := by decide +kernel
theorem dX5_hasSameLine_47 : decode cX5_hasSameLine 47 = .ok (.iload_n 2, 1) := by decide +kernel
theorem dX5_hasSameLine_48 : decode cX5_hasSameLine 48 = .ok (.iload_n 3, 1) := by decide +kernel
theorem dX5_hasSameLine_49 : decode cX5_hasSameLine 49 = .ok (.invokevirtual 60, 3) := by decide +kernel
theorem dX5_hasSameLine_52 : decode cX5_hasSameLine 52 = .ok (.istore 5, 2) := by decide +kernel
theorem dX5_hasSameLine_54 : decode cX5_hasSameLine 54 = .ok (.iload 4, 2) := by decide +kernel
theorem dX5_hasSameLine_56 : decode cX5_hasSameLine 56 = .ok (.iconst (-1), 1) := by decide +kernel
theorem dX5_hasSameLine_57 : decode cX5_hasSameLine 57 = .ok (.if_icmp .eq 60, 3) := by decide +kernel
theorem dX5_hasSameLine_60 : decode cX5_hasSameLine 60 = .ok (.iload 5, 2) := by decide +kernel
theorem dX5_hasSameLine_62 : decode cX5_hasSameLine 62 = .ok (.iconst (-1), 1) := by decide +kernel
theorem dX5_hasSameLine_63 : decode cX5_hasSameLine 63 = .ok (.if_icmp .eq 54, 3) := by decide +kernel
theorem dX5_hasSameLine_66 : decode cX5_hasSameLine 66 = .ok (.aload_n 0, 1) := by decide +kernel
theorem dX5_hasSameLine_67 : decode cX5_hasSameLine 67 = .ok (.getfield 9, 3) := by decide +kernel
theorem dX5_hasSameLine_70 : decode cX5_hasSameLine 70 = .ok (.iload 4, 2) := by decide +kernel
theorem dX5_hasSameLine_72 : decode cX5_hasSameLine 72 = .ok (.baload, 1) := by decide +kernel
theorem dX5_hasSameLine_73 : decode cX5_hasSameLine 73 = .ok (.aload_n 1, 1) := by decide +kernel
theorem dX5_hasSameLine_74 : decode cX5_hasSameLine 74 = .ok (.getfield 9, 3) := by decide +kernel
theorem dX5_hasSameLine_77 : decode cX5_hasSameLine 77 = .ok (.iload 5, 2) := by decide +kernel
theorem dX5_hasSameLine_79 : decode cX5_hasSameLine 79 = .ok (.baload, 1) := by decide +kernel
theorem dX5_hasSameLine_80 : decode cX5_hasSameLine 80 = .ok (.if_icmp .ne 37, 3) := by decide +kernel
theorem dX5_hasSameLine_83 : decode cX5_hasSameLine 83 = .ok (.aload_n 0, 1) := by decide +kernel
theorem dX5_hasSameLine_84 : decode cX5_hasSameLine 84 = .ok (.getfield 19, 3) := by decide +kernel
theorem dX5_hasSameLine_87 : decode cX5_hasSameLine 87 = .ok (.iload 4, 2) := by decide +kernel
theorem dX5_hasSameLine_89 : decode cX5_hasSameLine 89 = .ok (.iaload, 1) := by decide +kernel
theorem dX5_hasSameLine_90 : decode cX5_hasSameLine 90 = .ok (.aload_n 1, 1) := by decide +kernel
theorem dX5_hasSameLine_91 : decode cX5_hasSameLine 91 = .ok (.getfield 19, 3) := by decide +kernel
theorem dX5_hasSameLine_94 : decode cX5_hasSameLine 94 = .ok (.iload 5, 2) := by decide +kernel
theorem dX5_hasSameLine_96 : decode cX5_hasSameLine 96 = .ok (.iaload, 1) := by decide +kernel
theorem dX5_hasSameLine_97 : decode cX5_hasSameLine 97 = .ok (.if_icmp .ne 20, 3) := by decide +kernel
theorem dX5_hasSameLine_100 : decode cX5_hasSameLine 100 = .ok (.aload_n 0, 1) := by decide +kernel
theorem dX5_hasSameLine_101 : decode cX5_hasSameLine 101 = .ok (.getfield 22, 3) := by decide +kernel
theorem dX5_hasSameLine_104 : decode cX5_hasSameLine 104 = .ok (.iload 4, 2) := by decide +kernel
theorem dX5_hasSameLine_106 : decode cX5_hasSameLine 106 = .ok (.iaload, 1) := by decide +kernel
theorem dX5_hasSameLine_107 : decode cX5_hasSameLine 107 = .ok (.aload_n 1, 1) := by decide +kernel
theorem dX5_hasSameLine_108 : decode cX5_hasSameLine 108 = .ok (.getfield 22, 3) := by decide +kernel
theorem dX5_hasSameLine_111 : decode cX5_hasSameLine 111 = .ok (.iload 5, 2) := by decide +kernel
theorem dX5_hasSameLine_113 : decode cX5_hasSameLine 113 = .ok (.iaload, 1) := by decide +kernel
theorem dX5_hasSameLine_114 : decode cX5_hasSameLine 114 = .ok (.if_icmp .eq 5, 3) := by decide +kernel
theorem dX5_hasSameLine_117 : decode cX5_hasSameLine 117 = .ok (.iconst 0, 1) := by decide +kernel
theorem dX5_hasSameLine_118 : decode cX5_hasSameLine 118 = .ok (.ireturn, 1) := by decide +kernel
theorem dX5_hasSameLine_119 : decode cX5_hasSameLine 119 = .ok (.iinc 3 1, 3) := by decide +kernel
theorem dX5_hasSameLine_122 : decode cX5_hasSameLine 122 = .ok (.goto (-94), 3) := by decide +kernel
theorem dX5_hasSameLine_125 : decode cX5_hasSameLine 125 = .ok (.iconst 1, 1) := by decide +kernel
theorem dX5_hasSameLine_126 : decode cX5_hasSameLine 126 = .ok (.ireturn, 1) := by decide +kernel
def tbX5_hasSameLine (pc : Nat) : dt_T := cond (Nat.ble pc 56) (cond (Nat.ble pc 27) (cond (Nat.ble pc 14) (cond (Nat.ble pc 5) (cond (Nat.ble pc 1) (cond (Nat.ble pc 0) (cond (Nat.beq pc 0) (tc_ldI 2 1) tc_no) (cond (Nat.beq pc 1) (tc_iflt 24 4) tc_no)) (cond (Nat.ble pc 4) (cond (Nat.beq pc 4) (tc_ldI 2 5) tc_no) (cond (Nat.beq pc 5) (tc_ic 4 6) tc_no))) (cond (Nat.ble pc 9) (cond (Nat.ble pc 6) (cond (Nat.beq pc 6) (tc_icmpge 24 9) tc_no) (cond (Nat.beq pc 9) (tc_ldA 0 10) tc_no)) (cond (Nat.ble pc 10) (cond (Nat.beq pc 10) (tc_getf 5 5 13) tc_no) (cond (Nat.ble pc 13) (cond (Nat.beq pc 13) (tc_ldI 2 14) tc_no) (cond (Nat.beq pc 14) (tc_iald 15) tc_no))))) (cond (Nat.ble pc 20) (cond (Nat.ble pc 16) (cond (Nat.ble pc 15) (cond (Nat.beq pc 15) (tc_ldA 1 16) tc_no) (cond (Nat.beq pc 16) (tc_getf 5 5 19) tc_no)) (cond (Nat.ble pc 19) (cond (Nat.beq pc 19) (tc_ldI 2 20) tc_no) (cond (Nat.beq pc 20) (tc_iald 21) tc_no))) (cond (Nat.ble pc 24) (cond (Nat.ble pc 21) (cond (Nat.beq pc 21) (tc_icmpeq 26 24) tc_no) (cond (Nat.beq pc 24) (tc_ic 0 25) tc_no)) (cond (Nat.ble pc 25) (cond (Nat.beq pc 25) (tc_zret) tc_no) (cond (Nat.ble pc 26) (cond (Nat.beq pc 26) (tc_ic 0 27) tc_no) (cond (Nat.beq pc 27) (tc_stI 3 28) tc_no)))))) (cond (Nat.ble pc 40) (cond (Nat.ble pc 33) (cond (Nat.ble pc 29) (cond (Nat.ble pc 28) (cond (Nat.beq pc 28) (tc_ldI 3 29) tc_no) (cond (Nat.beq pc 29) (tc_ldA 0 30) tc_no)) (cond (Nat.ble pc 30) (cond (Nat.beq pc 30) (tc_getf 5 5 33) tc_no) (cond (Nat.beq pc 33) (tc_ldI 2 34) tc_no))) (cond (Nat.ble pc 35) (cond (Nat.ble pc 34) (cond (Nat.beq pc 34) (tc_iald 35) tc_no) (cond (Nat.beq pc 35) (tc_icmpge 125 38) tc_no)) (cond (Nat.ble pc 38) (cond (Nat.beq pc 38) (tc_ldA 0 39) tc_no) (cond (Nat.ble pc 39) (cond (Nat.beq pc 39) (tc_ldI 2 40) tc_no) (cond (Nat.beq pc 40) (tc_ldI 3 41) tc_no))))) (cond (Nat.ble pc 47) (cond (Nat.ble pc 44) (cond (Nat.ble pc 41) (cond (Nat.beq pc 41) (tc_callV 5 mX5_onLine 2 44) tc_no) (cond (Nat.beq pc 44) (tc_stI 4 46) tc_no)) (cond (Nat.ble pc 46) (cond (Nat.beq pc 46) (tc_ldA 1 47) tc_no) (cond (Nat.beq pc 47) (tc_ldI 2 48) tc_no))) (cond (Nat.ble pc 49) (cond (Nat.ble pc 48) (cond (Nat.beq pc 48) (tc_ldI 3 49) tc_no) (cond (Nat.beq pc 49) (tc_callV 5 mX5_onLine 2 52) tc_no)) (cond (Nat.ble pc 52) (cond (Nat.beq pc 52) (tc_stI 5 54) tc_no) (cond (Nat.ble pc 54) (cond (Nat.beq pc 54) (tc_ldI 4 56) tc_no) (cond (Nat.beq pc 56) (tc_ic (-1) 57) tc_no))))))) (cond (Nat.ble pc 90) (cond (Nat.ble pc 73) (cond (Nat.ble pc 63) (cond (Nat.ble pc 60) (cond (Nat.ble pc 57) (cond (Nat.beq pc 57) (tc_icmpeq 117 60) tc_no) (cond (Nat.beq pc 60) (tc_ldI 5 62) tc_no)) (cond (Nat.ble pc 62) (cond (Nat.beq pc 62) (tc_ic (-1) 63) tc_no) (cond (Nat.beq pc 63) (tc_icmpeq 117 66) tc_no))) (cond (Nat.ble pc 67) (cond (Nat.ble pc 66) (cond (Nat.beq pc 66) (tc_ldA 0 67) tc_no) (cond (Nat.beq pc 67) (tc_getf 5 0 70) tc_no)) (cond (Nat.ble pc 70) (cond (Nat.beq pc 70) (tc_ldI 4 72) tc_no) (cond (Nat.ble pc 72) (cond (Nat.beq pc 72) (tc_zald 73) tc_no) (cond (Nat.beq pc 73) (tc_ldA 1 74) tc_no))))) (cond (Nat.ble pc 80) (cond (Nat.ble pc 77) (cond (Nat.ble pc 74) (cond (Nat.beq pc 74) (tc_getf 5 0 77) tc_no) (cond (Nat.beq pc 77) (tc_ldI 5 79) tc_no)) (cond (Nat.ble pc 79) (cond (Nat.beq pc 79) (tc_zald 80) tc_no) (cond (Nat.beq pc 80) (tc_icmpne 117 83) tc_no))) (cond (Nat.ble pc 84) (cond (Nat.ble pc 83) (cond (Nat.beq pc 83) (tc_ldA 0 84) tc_no) (cond (Nat.beq pc 84) (tc_getf 5 2 87) tc_no)) (cond (Nat.ble pc 87) (cond (Nat.beq pc 87) (tc_ldI 4 89) tc_no) (cond (Nat.ble pc 89) (cond (Nat.beq pc 89) (tc_iald 90) tc_no) (cond (Nat.beq pc 90) (tc_ldA 1 91) tc_no)))))) (cond (Nat.ble pc 107) (cond (Nat.ble pc 97) (cond (Nat.ble pc 94) (cond (Nat.ble pc 91) (cond (Nat.beq pc 91) (tc_getf 5 2 94) tc_no) (cond (Nat.beq pc 94) (tc_ldI 5 96) tc_no)) (cond (Nat.ble pc 96) (cond (Nat.beq pc 96) (tc_iald 97) tc_no) (cond (Nat.beq pc 97) (tc_icmpne 117 100) tc_no))) (cond (Nat.ble pc 101) (cond (Nat.ble pc 100) (cond (Nat.beq pc 100) (tc_ldA 0 101) tc_no) (cond (Nat.beq pc 101) (tc_getf 5 3 104) tc_no)) (cond (Nat.ble pc 104) (cond (Nat.beq pc 104) (tc_ldI 4 106) tc_no) (cond (Nat.ble pc 106) (cond (Nat.beq pc 106) (tc_iald 107) tc_no) (cond (Nat.beq pc 107) (tc_ldA 1 108) tc_no))))) (cond (Nat.ble pc 117) (cond (Nat.ble pc 111) (cond (Nat.ble pc 108) (cond (Nat.beq pc 108) (tc_getf 5 3 111) tc_no) (cond (Nat.beq pc 111) (tc_ldI 5 113) tc_no)) (cond (Nat.ble pc 113) (cond (Nat.beq pc 113) (tc_iald 114) tc_no) (cond (Nat.ble pc 114) (cond (Nat.beq pc 114) (tc_icmpeq 119 117) tc_no) (cond (Nat.beq pc 117) (tc_ic 0 118) tc_no)))) (cond (Nat.ble pc 119) (cond (Nat.ble pc 118) (cond (Nat.beq pc 118) (tc_zret) tc_no) (cond (Nat.beq pc 119) (tc_iinc 3 1 122) tc_no)) (cond (Nat.ble pc 122) (cond (Nat.beq pc 122) (tc_goto 28) tc_no) (cond (Nat.ble pc 125) (cond (Nat.beq pc 125) (tc_ic 1 126) tc_no) (cond (Nat.beq pc 126) (tc_zret) tc_no)))))))
theorem okX5_hasSameLine : ∀ pc, dt_S mX5_hasSameLine (tbX5_hasSameLine pc) pc := by
  intro pc
  unfold tbX5_hasSameLine
  exact dt_Sb (dt_Sb (dt_Sb (dt_Sb (dt_Sb (dt_Sb (dt_Sl 0 (sn_ldIn rfl dX5_hasSameLine_0 rfl)) (dt_Sl 1 (sn_iflt dX5_hasSameLine_1 (by decide) rfl))) (dt_Sb (dt_Sl 4 (sn_ldIn rfl dX5_hasSameLine_4 rfl)) (dt_Sl 5 (sn_ic ⟨by decide, by decide⟩ dX5_hasSameLine_5 rfl)))) (dt_Sb (dt_Sb (dt_Sl 6 (sn_icmpge dX5_hasSameLine_6 (by decide) rfl)) (dt_Sl 9 (sn_ldAn rfl dX5_hasSameLine_9 rfl))) (dt_Sb (dt_Sl 10 (sn_getf rfl ffX5 (by decide) wq_1_49 dX5_hasSameLine_10 rfl)) (dt_Sb (dt_Sl 13 (sn_ldIn rfl dX5_hasSameLine_13 rfl)) (dt_Sl 14 (sn_iald dX5_hasSameLine_14 rfl)))))) (dt_Sb (dt_Sb (dt_Sb (dt_Sl 15 (sn_ldAn rfl dX5_hasSameLine_15 rfl)) (dt_Sl 16 (sn_getf rfl ffX5 (by decide) wq_1_49 dX5_hasSameLine_16 rfl))) (dt_Sb (dt_Sl 19 (sn_ldIn rfl dX5_hasSameLine_19 rfl)) (dt_Sl 20 (sn_iald dX5_hasSameLine_20 rfl)))) (dt_Sb (dt_Sb (dt_Sl 21 (sn_icmpeq dX5_hasSameLine_21 (by decide) rfl)) (dt_Sl 24 (sn_ic ⟨by decide, by decide⟩ dX5_hasSameLine_24 rfl))) (dt_Sb (dt_Sl 25 (sn_zret rfl dX5_hasSameLine_25)) (dt_Sb (dt_Sl 26 (sn_ic ⟨by decide, by decide⟩ dX5_hasSameLine_26 rfl)) (dt_Sl 27 (sn_stIn rfl (by decide) dX5_hasSameLine_27 rfl))))))) (dt_Sb (dt_Sb (dt_Sb (dt_Sb (dt_Sl 28 (sn_ldIn rfl dX5_hasSameLine_28 rfl)) (dt_Sl 29 (sn_ldAn rfl dX5_hasSameLine_29 rfl))) (dt_Sb (dt_Sl 30 (sn_getf rfl ffX5 (by decide) wq_1_49 dX5_hasSameLine_30 rfl)) (dt_Sl 33 (sn_ldIn rfl dX5_hasSameLine_33 rfl)))) (dt_Sb (dt_Sb (dt_Sl 34 (sn_iald dX5_hasSameLine_34 rfl)) (dt_Sl 35 (sn_icmpge dX5_hasSameLine_35 (by decide) rfl))) (dt_Sb (dt_Sl 38 (sn_ldAn rfl dX5_hasSameLine_38 rfl)) (dt_Sb (dt_Sl 39 (sn_ldIn rfl dX5_hasSameLine_39 rfl)) (dt_Sl 40 (sn_ldIn rfl dX5_hasSameLine_40 rfl)))))) (dt_Sb (dt_Sb (dt_Sb (dt_Sl 41 (sn_callV rfl ffX5 nnX5_onLine rfl wq_3_14 wq_2_163 wq_2_164 dX5_hasSameLine_41 rfl)) (dt_Sl 44 (sn_stI (by decide) dX5_hasSameLine_44 rfl))) (dt_Sb (dt_Sl 46 (sn_ldAn rfl dX5_hasSameLine_46 rfl)) (dt_Sl 47 (sn_ldIn rfl dX5_hasSameLine_47 rfl)))) (dt_Sb (dt_Sb (dt_Sl 48 (sn_ldIn rfl dX5_hasSameLine_48 rfl)) (dt_Sl 49 (sn_callV rfl ffX5 nnX5_onLine rfl wq_3_14 wq_2_163 wq_2_164 dX5_hasSameLine_49 rfl))) (dt_Sb (dt_Sl 52 (sn_stI (by decide) dX5_hasSameLine_52 rfl)) (dt_Sb (dt_Sl 54 (sn_ldI dX5_hasSameLine_54 rfl)) (dt_Sl 56 (sn_ic ⟨by decide, by decide⟩ dX5_hasSameLine_56 rfl)))))))) (dt_Sb (dt_Sb (dt_Sb (dt_Sb (dt_Sb (dt_Sl 57 (sn_icmpeq dX5_hasSameLine_57 (by decide) rfl)) (dt_Sl 60 (sn_ldI dX5_hasSameLine_60 rfl))) (dt_Sb (dt_Sl 62 (sn_ic ⟨by decide, by decide⟩ dX5_hasSameLine_62 rfl)) (dt_Sl 63 (sn_icmpeq dX5_hasSameLine_63 (by decide) rfl)))) (dt_Sb (dt_Sb (dt_Sl 66 (sn_ldAn rfl dX5_hasSameLine_66 rfl)) (dt_Sl 67 (sn_getf rfl ffX5 (by decide) wq_1_29 dX5_hasSameLine_67 rfl))) (dt_Sb (dt_Sl 70 (sn_ldI dX5_hasSameLine_70 rfl)) (dt_Sb (dt_Sl 72 (sn_zald dX5_hasSameLine_72 rfl)) (dt_Sl 73 (sn_ldAn rfl dX5_hasSameLine_73 rfl)))))) (dt_Sb (dt_Sb (dt_Sb (dt_Sl 74 (sn_getf rfl ffX5 (by decide) wq_1_29 dX5_hasSameLine_74 rfl)) (dt_Sl 77 (sn_ldI dX5_hasSameLine_77 rfl))) (dt_Sb (dt_Sl 79 (sn_zald dX5_hasSameLine_79 rfl)) (dt_Sl 80 (sn_icmpne dX5_hasSameLine_80 (by decide) rfl)))) (dt_Sb (dt_Sb (dt_Sl 83 (sn_ldAn rfl dX5_hasSameLine_83 rfl)) (dt_Sl 84 (sn_getf rfl ffX5 (by decide) wq_1_38 dX5_hasSameLine_84 rfl))) (dt_Sb (dt_Sl 87 (sn_ldI dX5_hasSameLine_87 rfl)) (dt_Sb (dt_Sl 89 (sn_iald dX5_hasSameLine_89 rfl)) (dt_Sl 90 (sn_ldAn rfl dX5_hasSameLine_90 rfl))))))) (dt_Sb (dt_Sb (dt_Sb (dt_Sb (dt_Sl 91 (sn_getf rfl ffX5 (by decide) wq_1_38 dX5_hasSameLine_91 rfl)) (dt_Sl 94 (sn_ldI dX5_hasSameLine_94 rfl))) (dt_Sb (dt_Sl 96 (sn_iald dX5_hasSameLine_96 rfl)) (dt_Sl 97 (sn_icmpne dX5_hasSameLine_97 (by decide) rfl)))) (dt_Sb (dt_Sb (dt_Sl 100 (sn_ldAn rfl dX5_hasSameLine_100 rfl)) (dt_Sl 101 (sn_getf rfl ffX5 (by decide) wq_1_42 dX5_hasSameLine_101 rfl))) (dt_Sb (dt_Sl 104 (sn_ldI dX5_hasSameLine_104 rfl)) (dt_Sb (dt_Sl 106 (sn_iald dX5_hasSameLine_106 rfl)) (dt_Sl 107 (sn_ldAn rfl dX5_hasSameLine_107 rfl)))))) (dt_Sb (dt_Sb (dt_Sb (dt_Sl 108 (sn_getf rfl ffX5 (by decide) wq_1_42 dX5_hasSameLine_108 rfl)) (dt_Sl 111 (sn_ldI dX5_hasSameLine_111 rfl))) (dt_Sb (dt_Sl 113 (sn_iald dX5_hasSameLine_113 rfl)) (dt_Sb (dt_Sl 114 (sn_icmpeq dX5_hasSameLine_114 (by decide) rfl)) (dt_Sl 117 (sn_ic ⟨by decide, by decide⟩ dX5_hasSameLine_117 rfl))))) (dt_Sb (dt_Sb (dt_Sl 118 (sn_zret rfl dX5_hasSameLine_118)) (dt_Sl 119 (sn_iinc (by decide) dX5_hasSameLine_119 rfl))) (dt_Sb (dt_Sl 122 (sn_goto dX5_hasSameLine_122 (by decide))) (dt_Sb (dt_Sl 125 (sn_ic ⟨by decide, by decide⟩ dX5_hasSameLine_125 rfl)) (dt_Sl 126 (sn_zret rfl dX5_hasSameLine_126))))))))
