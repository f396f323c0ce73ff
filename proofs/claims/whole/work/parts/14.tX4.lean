/-! ===== DrawnTalks$Relation: decode rows, step tables ===== -/
theorem dX4_workOut_0 : decode cX4_workOut 0 = .ok (.iconst 0, 1) := by decide +kernel
theorem dX4_workOut_1 : decode cX4_workOut 1 = .ok (.istore_n 3, 1) := by decide +kernel
theorem dX4_workOut_2 : decode cX4_workOut 2 = .ok (.iload_n 3, 1) := by decide +kernel
theorem dX4_workOut_3 : decode cX4_workOut 3 = .ok (.aload_n 1, 1) := by decide +kernel
theorem dX4_workOut_4 : decode cX4_workOut 4 = .ok (.getfield 15, 3) := by decide +kernel
theorem dX4_workOut_7 : decode cX4_workOut 7 = .ok (.if_icmp .ge 64, 3) := by decide +kernel
theorem dX4_workOut_10 : decode cX4_workOut 10 = .ok (.iconst 0, 1) := by decide +kernel
theorem dX4_workOut_11 : decode cX4_workOut 11 = .ok (.istore 4, 2) := by decide +kernel
theorem dX4_workOut_13 : decode cX4_workOut 13 = .ok (.iconst 0, 1) := by decide +kernel
theorem dX4_workOut_14 : decode cX4_workOut 14 = .ok (.istore 5, 2) := by decide +kernel
theorem dX4_workOut_16 : decode cX4_workOut 16 = .ok (.iload 5, 2) := by decide +kernel
theorem dX4_workOut_18 : decode cX4_workOut 18 = .ok (.iload_n 3, 1) := by decide +kernel
theorem dX4_workOut_19 : decode cX4_workOut 19 = .ok (.if_icmp .ge 38, 3) := by decide +kernel
theorem dX4_workOut_22 : decode cX4_workOut 22 = .ok (.aload_n 0, 1) := by decide +kernel
theorem dX4_workOut_23 : decode cX4_workOut 23 = .ok (.aload_n 1, 1) := by decide +kernel
theorem dX4_workOut_24 : decode cX4_workOut 24 = .ok (.iload_n 2, 1) := by decide +kernel
theorem dX4_workOut_25 : decode cX4_workOut 25 = .ok (.iload 5, 2) := by decide +kernel
theorem dX4_workOut_27 : decode cX4_workOut 27 = .ok (.iload_n 3, 1) := by decide +kernel
theorem dX4_workOut_28 : decode cX4_workOut 28 = .ok (.invokevirtual 21, 3) := by decide +kernel
theorem dX4_workOut_31 : decode cX4_workOut 31 = .ok (.ifCond .eq 20, 3) := by decide +kernel
theorem dX4_workOut_34 : decode cX4_workOut 34 = .ok (.iload 4, 2) := by decide +kernel
theorem dX4_workOut_36 : decode cX4_workOut 36 = .ok (.aload_n 0, 1) := by decide +kernel
theorem dX4_workOut_37 : decode cX4_workOut 37 = .ok (.getfield 9, 3) := by decide +kernel
theorem dX4_workOut_40 : decode cX4_workOut 40 = .ok (.iload 5, 2) := by decide +kernel
theorem dX4_workOut_42 : decode cX4_workOut 42 = .ok (.iaload, 1) := by decide +kernel
theorem dX4_workOut_43 : decode cX4_workOut 43 = .ok (.iconst 1, 1) := by decide +kernel
theorem dX4_workOut_44 : decode cX4_workOut 44 = .ok (.iload 5, 2) := by decide +kernel
theorem dX4_workOut_46 : decode cX4_workOut 46 = .ok (.ishl, 1) := by decide +kernel
theorem dX4_workOut_47 : decode cX4_workOut 47 = .ok (.ior, 1) := by decide +kernel
theorem dX4_workOut_48 : decode cX4_workOut 48 = .ok (.ior, 1) := by decide +kernel
theorem dX4_workOut_49 : decode cX4_workOut 49 = .ok (.istore 4, 2) := by decide +kernel
theorem dX4_workOut_51 : decode cX4_workOut 51 = .ok (.iinc 5 1, 3) := by decide +kernel
theorem dX4_workOut_54 : decode cX4_workOut 54 = .ok (.goto (-38), 3) := by decide +kernel
theorem dX4_workOut_57 : decode cX4_workOut 57 = .ok (.aload_n 0, 1) := by decide +kernel
theorem dX4_workOut_58 : decode cX4_workOut 58 = .ok (.getfield 9, 3) := by decide +kernel
theorem dX4_workOut_61 : decode cX4_workOut 61 = .ok (.iload_n 3, 1) := by decide +kernel
theorem dX4_workOut_62 : decode cX4_workOut 62 = .ok (.iload 4, 2) := by decide +kernel
theorem dX4_workOut_64 : decode cX4_workOut 64 = .ok (.iastore, 1) := by decide +kernel
theorem dX4_workOut_65 : decode cX4_workOut 65 = .ok (.iinc 3 1, 3) := by decide +kernel
theorem dX4_workOut_68 : decode cX4_workOut 68 = .ok (.goto (-66), 3) := by decide +kernel
theorem dX4_workOut_71 : decode cX4_workOut 71 = .ok (.return_, 1) := by decide +kernel
def tbX4_workOut (pc : Nat) : dt_T := cond (Nat.ble pc 31) (cond (Nat.ble pc 14) (cond (Nat.ble pc 4) (cond (Nat.ble pc 1) (cond (Nat.ble pc 0) (cond (Nat.beq pc 0) (tc_ic 0 1) tc_no) (cond (Nat.beq pc 1) (tc_stI 3 2) tc_no)) (cond (Nat.ble pc 2) (cond (Nat.beq pc 2) (tc_ldI 3 3) tc_no) (cond (Nat.ble pc 3) (cond (Nat.beq pc 3) (tc_ldA 1 4) tc_no) (cond (Nat.beq pc 4) (tc_getf 5 7 7) tc_no)))) (cond (Nat.ble pc 10) (cond (Nat.ble pc 7) (cond (Nat.beq pc 7) (tc_icmpge 71 10) tc_no) (cond (Nat.beq pc 10) (tc_ic 0 11) tc_no)) (cond (Nat.ble pc 11) (cond (Nat.beq pc 11) (tc_stI 4 13) tc_no) (cond (Nat.ble pc 13) (cond (Nat.beq pc 13) (tc_ic 0 14) tc_no) (cond (Nat.beq pc 14) (tc_stI 5 16) tc_no))))) (cond (Nat.ble pc 23) (cond (Nat.ble pc 18) (cond (Nat.ble pc 16) (cond (Nat.beq pc 16) (tc_ldI 5 18) tc_no) (cond (Nat.beq pc 18) (tc_ldI 3 19) tc_no)) (cond (Nat.ble pc 19) (cond (Nat.beq pc 19) (tc_icmpge 57 22) tc_no) (cond (Nat.ble pc 22) (cond (Nat.beq pc 22) (tc_ldA 0 23) tc_no) (cond (Nat.beq pc 23) (tc_ldA 1 24) tc_no)))) (cond (Nat.ble pc 25) (cond (Nat.ble pc 24) (cond (Nat.beq pc 24) (tc_ldI 2 25) tc_no) (cond (Nat.beq pc 25) (tc_ldI 5 27) tc_no)) (cond (Nat.ble pc 27) (cond (Nat.beq pc 27) (tc_ldI 3 28) tc_no) (cond (Nat.ble pc 28) (cond (Nat.beq pc 28) (tc_callV 4 mX4_isDirect 4 31) tc_no) (cond (Nat.beq pc 31) (tc_ifeq 51 34) tc_no)))))) (cond (Nat.ble pc 48) (cond (Nat.ble pc 42) (cond (Nat.ble pc 36) (cond (Nat.ble pc 34) (cond (Nat.beq pc 34) (tc_ldI 4 36) tc_no) (cond (Nat.beq pc 36) (tc_ldA 0 37) tc_no)) (cond (Nat.ble pc 37) (cond (Nat.beq pc 37) (tc_getf 4 0 40) tc_no) (cond (Nat.ble pc 40) (cond (Nat.beq pc 40) (tc_ldI 5 42) tc_no) (cond (Nat.beq pc 42) (tc_iald 43) tc_no)))) (cond (Nat.ble pc 44) (cond (Nat.ble pc 43) (cond (Nat.beq pc 43) (tc_ic 1 44) tc_no) (cond (Nat.beq pc 44) (tc_ldI 5 46) tc_no)) (cond (Nat.ble pc 46) (cond (Nat.beq pc 46) (tc_ishl 47) tc_no) (cond (Nat.ble pc 47) (cond (Nat.beq pc 47) (tc_ior 48) tc_no) (cond (Nat.beq pc 48) (tc_ior 49) tc_no))))) (cond (Nat.ble pc 58) (cond (Nat.ble pc 51) (cond (Nat.ble pc 49) (cond (Nat.beq pc 49) (tc_stI 4 51) tc_no) (cond (Nat.beq pc 51) (tc_iinc 5 1 54) tc_no)) (cond (Nat.ble pc 54) (cond (Nat.beq pc 54) (tc_goto 16) tc_no) (cond (Nat.ble pc 57) (cond (Nat.beq pc 57) (tc_ldA 0 58) tc_no) (cond (Nat.beq pc 58) (tc_getf 4 0 61) tc_no)))) (cond (Nat.ble pc 64) (cond (Nat.ble pc 61) (cond (Nat.beq pc 61) (tc_ldI 3 62) tc_no) (cond (Nat.ble pc 62) (cond (Nat.beq pc 62) (tc_ldI 4 64) tc_no) (cond (Nat.beq pc 64) (tc_iast 65) tc_no))) (cond (Nat.ble pc 65) (cond (Nat.beq pc 65) (tc_iinc 3 1 68) tc_no) (cond (Nat.ble pc 68) (cond (Nat.beq pc 68) (tc_goto 2) tc_no) (cond (Nat.beq pc 71) (tc_ret) tc_no))))))
theorem okX4_workOut : ∀ pc, dt_S mX4_workOut (tbX4_workOut pc) pc := by
  intro pc
  unfold tbX4_workOut
  exact dt_Sb (dt_Sb (dt_Sb (dt_Sb (dt_Sb (dt_Sl 0 (sn_ic ⟨by decide, by decide⟩ dX4_workOut_0 rfl)) (dt_Sl 1 (sn_stIn rfl (by decide) dX4_workOut_1 rfl))) (dt_Sb (dt_Sl 2 (sn_ldIn rfl dX4_workOut_2 rfl)) (dt_Sb (dt_Sl 3 (sn_ldAn rfl dX4_workOut_3 rfl)) (dt_Sl 4 (sn_getfN rfl ffX5 (by decide) wq_1_54 dX4_workOut_4 rfl))))) (dt_Sb (dt_Sb (dt_Sl 7 (sn_icmpge dX4_workOut_7 (by decide) rfl)) (dt_Sl 10 (sn_ic ⟨by decide, by decide⟩ dX4_workOut_10 rfl))) (dt_Sb (dt_Sl 11 (sn_stI (by decide) dX4_workOut_11 rfl)) (dt_Sb (dt_Sl 13 (sn_ic ⟨by decide, by decide⟩ dX4_workOut_13 rfl)) (dt_Sl 14 (sn_stI (by decide) dX4_workOut_14 rfl)))))) (dt_Sb (dt_Sb (dt_Sb (dt_Sl 16 (sn_ldI dX4_workOut_16 rfl)) (dt_Sl 18 (sn_ldIn rfl dX4_workOut_18 rfl))) (dt_Sb (dt_Sl 19 (sn_icmpge dX4_workOut_19 (by decide) rfl)) (dt_Sb (dt_Sl 22 (sn_ldAn rfl dX4_workOut_22 rfl)) (dt_Sl 23 (sn_ldAn rfl dX4_workOut_23 rfl))))) (dt_Sb (dt_Sb (dt_Sl 24 (sn_ldIn rfl dX4_workOut_24 rfl)) (dt_Sl 25 (sn_ldI dX4_workOut_25 rfl))) (dt_Sb (dt_Sl 27 (sn_ldIn rfl dX4_workOut_27 rfl)) (dt_Sb (dt_Sl 28 (sn_callV rfl ffX4 nnX4_isDirect rfl wq_2_174 wq_2_176 wq_0_8 dX4_workOut_28 rfl)) (dt_Sl 31 (sn_ifeq dX4_workOut_31 (by decide) rfl))))))) (dt_Sb (dt_Sb (dt_Sb (dt_Sb (dt_Sl 34 (sn_ldI dX4_workOut_34 rfl)) (dt_Sl 36 (sn_ldAn rfl dX4_workOut_36 rfl))) (dt_Sb (dt_Sl 37 (sn_getf rfl ffX4 (by decide) wq_1_113 dX4_workOut_37 rfl)) (dt_Sb (dt_Sl 40 (sn_ldI dX4_workOut_40 rfl)) (dt_Sl 42 (sn_iald dX4_workOut_42 rfl))))) (dt_Sb (dt_Sb (dt_Sl 43 (sn_ic ⟨by decide, by decide⟩ dX4_workOut_43 rfl)) (dt_Sl 44 (sn_ldI dX4_workOut_44 rfl))) (dt_Sb (dt_Sl 46 (sn_ishl dX4_workOut_46 rfl)) (dt_Sb (dt_Sl 47 (sn_ior dX4_workOut_47 rfl)) (dt_Sl 48 (sn_ior dX4_workOut_48 rfl)))))) (dt_Sb (dt_Sb (dt_Sb (dt_Sl 49 (sn_stI (by decide) dX4_workOut_49 rfl)) (dt_Sl 51 (sn_iinc (by decide) dX4_workOut_51 rfl))) (dt_Sb (dt_Sl 54 (sn_goto dX4_workOut_54 (by decide))) (dt_Sb (dt_Sl 57 (sn_ldAn rfl dX4_workOut_57 rfl)) (dt_Sl 58 (sn_getf rfl ffX4 (by decide) wq_1_113 dX4_workOut_58 rfl))))) (dt_Sb (dt_Sb (dt_Sl 61 (sn_ldIn rfl dX4_workOut_61 rfl)) (dt_Sb (dt_Sl 62 (sn_ldI dX4_workOut_62 rfl)) (dt_Sl 64 (sn_iast dX4_workOut_64 rfl)))) (dt_Sb (dt_Sl 65 (sn_iinc (by decide) dX4_workOut_65 rfl)) (dt_Sb (dt_Sl 68 (sn_goto dX4_workOut_68 (by decide))) (dt_Sl 71 (sn_ret rfl dX4_workOut_71)))))))
theorem dX4_isAhead_0 : decode cX4_isAhead 0 = .ok (.iload_n 1, 1) := by decide +kernel
theorem dX4_isAhead_1 : decode cX4_isAhead 1 = .ok (.ifCond .lt 36, 3) := by decide +kernel
theorem dX4_isAhead_4 : decode cX4_isAhead 4 = .ok (.iload_n 1, 1) := by decide +kernel
theorem dX4_isAhead_5 : decode cX4_isAhead 5 = .ok (.bipush 20, 2) := by decide +kernel
theorem dX4_isAhead_7 : decode cX4_isAhead 7 = .ok (.if_icmp .ge 30, 3) := by decide +kernel
theorem dX4_isAhead_10 : decode cX4_isAhead 10 = .ok (.iload_n 2, 1) := by decide +kernel
theorem dX4_isAhead_11 : decode cX4_isAhead 11 = .ok (.ifCond .lt 26, 3) := by decide +kernel
theorem dX4_isAhead_14 : decode cX4_isAhead 14 = .ok (.iload_n 2, 1) := by decide +kernel
theorem dX4_isAhead_15 : decode cX4_isAhead 15 = .ok (.bipush 20, 2) := by decide +kernel
theorem dX4_isAhead_17 : decode cX4_isAhead 17 = .ok (.if_icmp .ge 20, 3) := by decide +kernel
theorem dX4_isAhead_20 : decode cX4_isAhead 20 = .ok (.aload_n 0, 1) := by decide +kernel
theorem dX4_isAhead_21 : decode cX4_isAhead 21 = .ok (.getfield 9, 3) := by decide +kernel
theorem dX4_isAhead_24 : decode cX4_isAhead 24 = .ok (.iload_n 2, 1) := by decide +kernel
theorem dX4_isAhead_25 : decode cX4_isAhead 25 = .ok (.iaload, 1) := by decide +kernel
theorem dX4_isAhead_26 : decode cX4_isAhead 26 = .ok (.iconst 1, 1) := by decide +kernel
theorem dX4_isAhead_27 : decode cX4_isAhead 27 = .ok (.iload_n 1, 1) := by decide +kernel
theorem dX4_isAhead_28 : decode cX4_isAhead 28 = .ok (.ishl, 1) := by decide +kernel
theorem dX4_isAhead_29 : decode cX4_isAhead 29 = .ok (.iand, 1) := by decide +kernel
theorem dX4_isAhead_30 : decode cX4_isAhead 30 = .ok (.ifCond .eq 7, 3) := by decide +kernel
theorem dX4_isAhead_33 : decode cX4_isAhead 33 = .ok (.iconst 1, 1) := by decide +kernel
theorem dX4_isAhead_34 : decode cX4_isAhead 34 = .ok (.goto 4, 3) := by decide +kernel
theorem dX4_isAhead_37 : decode cX4_isAhead 37 = .ok (.iconst 0, 1) := by decide +kernel
theorem dX4_isAhead_38 : decode cX4_isAhead 38 = .ok (.ireturn, 1) := by decide +kernel
def tbX4_isAhead (pc : Nat) : dt_T := cond (Nat.ble pc 20) (cond (Nat.ble pc 7) (cond (Nat.ble pc 1) (cond (Nat.ble pc 0) (cond (Nat.beq pc 0) (tc_ldI 1 1) tc_no) (cond (Nat.beq pc 1) (tc_iflt 37 4) tc_no)) (cond (Nat.ble pc 4) (cond (Nat.beq pc 4) (tc_ldI 1 5) tc_no) (cond (Nat.ble pc 5) (cond (Nat.beq pc 5) (tc_ic 20 7) tc_no) (cond (Nat.beq pc 7) (tc_icmpge 37 10) tc_no)))) (cond (Nat.ble pc 14) (cond (Nat.ble pc 10) (cond (Nat.beq pc 10) (tc_ldI 2 11) tc_no) (cond (Nat.ble pc 11) (cond (Nat.beq pc 11) (tc_iflt 37 14) tc_no) (cond (Nat.beq pc 14) (tc_ldI 2 15) tc_no))) (cond (Nat.ble pc 15) (cond (Nat.beq pc 15) (tc_ic 20 17) tc_no) (cond (Nat.ble pc 17) (cond (Nat.beq pc 17) (tc_icmpge 37 20) tc_no) (cond (Nat.beq pc 20) (tc_ldA 0 21) tc_no))))) (cond (Nat.ble pc 28) (cond (Nat.ble pc 25) (cond (Nat.ble pc 21) (cond (Nat.beq pc 21) (tc_getf 4 0 24) tc_no) (cond (Nat.ble pc 24) (cond (Nat.beq pc 24) (tc_ldI 2 25) tc_no) (cond (Nat.beq pc 25) (tc_iald 26) tc_no))) (cond (Nat.ble pc 26) (cond (Nat.beq pc 26) (tc_ic 1 27) tc_no) (cond (Nat.ble pc 27) (cond (Nat.beq pc 27) (tc_ldI 1 28) tc_no) (cond (Nat.beq pc 28) (tc_ishl 29) tc_no)))) (cond (Nat.ble pc 33) (cond (Nat.ble pc 29) (cond (Nat.beq pc 29) (tc_iand 30) tc_no) (cond (Nat.ble pc 30) (cond (Nat.beq pc 30) (tc_ifeq 37 33) tc_no) (cond (Nat.beq pc 33) (tc_ic 1 34) tc_no))) (cond (Nat.ble pc 34) (cond (Nat.beq pc 34) (tc_goto 38) tc_no) (cond (Nat.ble pc 37) (cond (Nat.beq pc 37) (tc_ic 0 38) tc_no) (cond (Nat.beq pc 38) (tc_zret) tc_no)))))
theorem okX4_isAhead : ∀ pc, dt_S mX4_isAhead (tbX4_isAhead pc) pc := by
  intro pc
  unfold tbX4_isAhead
  exact dt_Sb (dt_Sb (dt_Sb (dt_Sb (dt_Sl 0 (sn_ldIn rfl dX4_isAhead_0 rfl)) (dt_Sl 1 (sn_iflt dX4_isAhead_1 (by decide) rfl))) (dt_Sb (dt_Sl 4 (sn_ldIn rfl dX4_isAhead_4 rfl)) (dt_Sb (dt_Sl 5 (sn_bi ⟨by decide, by decide⟩ rfl dX4_isAhead_5 rfl)) (dt_Sl 7 (sn_icmpge dX4_isAhead_7 (by decide) rfl))))) (dt_Sb (dt_Sb (dt_Sl 10 (sn_ldIn rfl dX4_isAhead_10 rfl)) (dt_Sb (dt_Sl 11 (sn_iflt dX4_isAhead_11 (by decide) rfl)) (dt_Sl 14 (sn_ldIn rfl dX4_isAhead_14 rfl)))) (dt_Sb (dt_Sl 15 (sn_bi ⟨by decide, by decide⟩ rfl dX4_isAhead_15 rfl)) (dt_Sb (dt_Sl 17 (sn_icmpge dX4_isAhead_17 (by decide) rfl)) (dt_Sl 20 (sn_ldAn rfl dX4_isAhead_20 rfl)))))) (dt_Sb (dt_Sb (dt_Sb (dt_Sl 21 (sn_getf rfl ffX4 (by decide) wq_1_113 dX4_isAhead_21 rfl)) (dt_Sb (dt_Sl 24 (sn_ldIn rfl dX4_isAhead_24 rfl)) (dt_Sl 25 (sn_iald dX4_isAhead_25 rfl)))) (dt_Sb (dt_Sl 26 (sn_ic ⟨by decide, by decide⟩ dX4_isAhead_26 rfl)) (dt_Sb (dt_Sl 27 (sn_ldIn rfl dX4_isAhead_27 rfl)) (dt_Sl 28 (sn_ishl dX4_isAhead_28 rfl))))) (dt_Sb (dt_Sb (dt_Sl 29 (sn_iand dX4_isAhead_29 rfl)) (dt_Sb (dt_Sl 30 (sn_ifeq dX4_isAhead_30 (by decide) rfl)) (dt_Sl 33 (sn_ic ⟨by decide, by decide⟩ dX4_isAhead_33 rfl)))) (dt_Sb (dt_Sl 34 (sn_goto dX4_isAhead_34 (by decide))) (dt_Sb (dt_Sl 37 (sn_ic ⟨by decide, by decide⟩ dX4_isAhead_37 rfl)) (dt_Sl 38 (sn_zret rfl dX4_isAhead_38))))))
theorem dX4_isDirect_0 : decode cX4_isDirect 0 = .ok (.aload_n 1, 1) := by decide +kernel
theorem dX4_isDirect_1 : decode cX4_isDirect 1 = .ok (.getfield 25, 3) := by decide +kernel
theorem dX4_isDirect_4 : decode cX4_isDirect 4 = .ok (.iload 4, 2) := by decide +kernel
theorem dX4_isDirect_6 : decode cX4_isDirect 6 = .ok (.iaload, 1) := by decide +kernel
theorem dX4_isDirect_7 : decode cX4_isDirect 7 = .ok (.iload_n 3, 1) := by decide +kernel
theorem dX4_isDirect_8 : decode cX4_isDirect 8 = .ok (.if_icmp .ne 5, 3) := by decide +kernel
theorem dX4_isDirect_11 : decode cX4_isDirect 11 = .ok (.iconst 1, 1) := by decide +kernel
theorem dX4_isDirect_12 : decode cX4_isDirect 12 = .ok (.ireturn, 1) := by decide +kernel
theorem dX4_isDirect_13 : decode cX4_isDirect 13 = .ok (.aload_n 1, 1) := by decide +kernel
theorem dX4_isDirect_14 : decode cX4_isDirect 14 = .ok (.getfield 28, 3) := by decide +kernel
theorem dX4_isDirect_17 : decode cX4_isDirect 17 = .ok (.iload_n 3, 1) := by decide +kernel
theorem dX4_isDirect_18 : decode cX4_isDirect 18 = .ok (.iaload, 1) := by decide +kernel
theorem dX4_isDirect_19 : decode cX4_isDirect 19 = .ok (.aload_n 1, 1) := by decide +kernel
theorem dX4_isDirect_20 : decode cX4_isDirect 20 = .ok (.getfield 28, 3) := by decide +kernel
theorem dX4_isDirect_23 : decode cX4_isDirect 23 = .ok (.iload 4, 2) := by decide +kernel
theorem dX4_isDirect_25 : decode cX4_isDirect 25 = .ok (.iaload, 1) := by decide +kernel
theorem dX4_isDirect_26 : decode cX4_isDirect 26 = .ok (.if_icmp .eq 5, 3) := by decide +kernel
theorem dX4_isDirect_29 : decode cX4_isDirect 29 = .ok (.iconst 0, 1) := by decide +kernel
theorem dX4_isDirect_30 : decode cX4_isDirect 30 = .ok (.ireturn, 1) := by decide +kernel
theorem dX4_isDirect_31 : decode cX4_isDirect 31 = .ok (.iload_n 2, 1) := by decide +kernel
theorem dX4_isDirect_32 : decode cX4_isDirect 32 = .ok (.iconst 3, 1) := by decide +kernel
theorem dX4_isDirect_33 : decode cX4_isDirect 33 = .ok (.if_icmp .eq 13, 3) := by decide +kernel
theorem dX4_isDirect_36 : decode cX4_isDirect 36 = .ok (.aload_n 1, 1) := by decide +kernel
theorem dX4_isDirect_37 : decode cX4_isDirect 37 = .ok (.getfield 31, 3) := by decide +kernel
theorem dX4_isDirect_40 : decode cX4_isDirect 40 = .ok (.iload 4, 2) := by decide +kernel
theorem dX4_isDirect_42 : decode cX4_isDirect 42 = .ok (.baload, 1) := by decide +kernel
theorem dX4_isDirect_43 : decode cX4_isDirect 43 = .ok (.ifCond .ne 5, 3) := by decide +kernel
theorem dX4_isDirect_46 : decode cX4_isDirect 46 = .ok (.iconst 1, 1) := by decide +kernel
theorem dX4_isDirect_47 : decode cX4_isDirect 47 = .ok (.ireturn, 1) := by decide +kernel
theorem dX4_isDirect_48 : decode cX4_isDirect 48 = .ok (.aload_n 1, 1) := by decide +kernel
theorem dX4_isDirect_49 : decode cX4_isDirect 49 = .ok (.getfield 31, 3) := by decide +kernel
theorem dX4_isDirect_52 : decode cX4_isDirect 52 = .ok (.iload_n 3, 1) := by decide +kernel
theorem dX4_isDirect_53 : decode cX4_isDirect 53 = .ok (.baload, 1) := by decide +kernel
theorem dX4_isDirect_54 : decode cX4_isDirect 54 = .ok (.ifCond .ne 5, 3) := by decide +kernel
theorem dX4_isDirect_57 : decode cX4_isDirect 57 = .ok (.iconst 0, 1) := by decide +kernel
theorem dX4_isDirect_58 : decode cX4_isDirect 58 = .ok (.ireturn, 1) := by decide +kernel
theorem dX4_isDirect_59 : decode cX4_isDirect 59 = .ok (.iload_n 2, 1) := by decide +kernel
theorem dX4_isDirect_60 : decode cX4_isDirect 60 = .ok (.iconst 1, 1) := by decide +kernel
theorem dX4_isDirect_61 : decode cX4_isDirect 61 = .ok (.if_icmp .ne 41, 3) := by decide +kernel
theorem dX4_isDirect_64 : decode cX4_isDirect 64 = .ok (.aload_n 1, 1) := by decide +kernel
theorem dX4_isDirect_65 : decode cX4_isDirect 65 = .ok (.getfield 35, 3) := by decide +kernel
theorem dX4_isDirect_68 : decode cX4_isDirect 68 = .ok (.iload_n 3, 1) := by decide +kernel
theorem dX4_isDirect_69 : decode cX4_isDirect 69 = .ok (.iaload, 1) := by decide +kernel
theorem dX4_isDirect_70 : decode cX4_isDirect 70 = .ok (.aload_n 1, 1) := by decide +kernel
theorem dX4_isDirect_71 : decode cX4_isDirect 71 = .ok (.getfield 35, 3) := by decide +kernel
theorem dX4_isDirect_74 : decode cX4_isDirect 74 = .ok (.iload 4, 2) := by decide +kernel
theorem dX4_isDirect_76 : decode cX4_isDirect 76 = .ok (.iaload, 1) := by decide +kernel
theorem dX4_isDirect_77 : decode cX4_isDirect 77 = .ok (.if_icmp .ne 23, 3) := by decide +kernel
theorem dX4_isDirect_80 : decode cX4_isDirect 80 = .ok (.aload_n 1, 1) := by decide +kernel
theorem dX4_isDirect_81 : decode cX4_isDirect 81 = .ok (.getfield 25, 3) := by decide +kernel
theorem dX4_isDirect_84 : decode cX4_isDirect 84 = .ok (.iload_n 3, 1) := by decide +kernel
theorem dX4_isDirect_85 : decode cX4_isDirect 85 = .ok (.iaload, 1) := by decide +kernel
theorem dX4_isDirect_86 : decode cX4_isDirect 86 = .ok (.aload_n 1, 1) := by decide +kernel
theorem dX4_isDirect_87 : decode cX4_isDirect 87 = .ok (.getfield 25, 3) := by decide +kernel
theorem dX4_isDirect_90 : decode cX4_isDirect 90 = .ok (.iload 4, 2) := by decide +kernel
theorem dX4_isDirect_92 : decode cX4_isDirect 92 = .ok (.iaload, 1) := by decide +kernel
theorem dX4_isDirect_93 : decode cX4_isDirect 93 = .ok (.if_icmp .ge 7, 3) := by decide +kernel
theorem dX4_isDirect_96 : decode cX4_isDirect 96 = .ok (.iconst 1, 1) := by decide +kernel
theorem dX4_isDirect_97 : decode cX4_isDirect 97 = .ok (.goto 4, 3) := by decide +kernel
theorem dX4_isDirect_100 : decode cX4_isDirect 100 = .ok (.iconst 0, 1) := by decide +kernel
theorem dX4_isDirect_101 : decode cX4_isDirect 101 = .ok (.ireturn, 1) := by decide +kernel
theorem dX4_isDirect_102 : decode cX4_isDirect 102 = .ok (.iload_n 2, 1) := by decide +kernel
theorem dX4_isDirect_103 : decode cX4_isDirect 103 = .ok (.iconst 2, 1) := by decide +kernel
theorem dX4_isDirect_104 : decode cX4_isDirect 104 = .ok (.if_icmp .ne 27, 3) := by decide +kernel
theorem dX4_isDirect_107 : decode cX4_isDirect 107 = .ok (.aload_n 0, 1) := by decide +kernel
theorem dX4_isDirect_108 : decode cX4_isDirect 108 = .ok (.aload_n 1, 1) := by decide +kernel
theorem dX4_isDirect_109 : decode cX4_isDirect 109 = .ok (.getfield 25, 3) := by decide +kernel
theorem dX4_isDirect_112 : decode cX4_isDirect 112 = .ok (.iload_n 3, 1) := by decide +kernel
theorem dX4_isDirect_113 : decode cX4_isDirect 113 = .ok (.iaload, 1) := by decide +kernel
theorem dX4_isDirect_114 : decode cX4_isDirect 114 = .ok (.aload_n 1, 1) := by decide +kernel
theorem dX4_isDirect_115 : decode cX4_isDirect 115 = .ok (.getfield 25, 3) := by decide +kernel
theorem dX4_isDirect_118 : decode cX4_isDirect 118 = .ok (.iload 4, 2) := by decide +kernel
theorem dX4_isDirect_120 : decode cX4_isDirect 120 = .ok (.iaload, 1) := by decide +kernel
theorem dX4_isDirect_121 : decode cX4_isDirect 121 = .ok (.invokevirtual 38, 3) := by decide +kernel
theorem dX4_isDirect_124 : decode cX4_isDirect 124 = .ok (.ifCond .eq 7, 3) := by decide +kernel
theorem dX4_isDirect_127 : decode cX4_isDirect 127 = .ok (.iconst 1, 1) := by decide +kernel
theorem dX4_isDirect_128 : decode cX4_isDirect 128 = .ok (.goto 4, 3) := by decide +kernel
theorem dX4_isDirect_131 : decode cX4_isDirect 131 = .ok (.iconst 0, 1) := by decide +kernel
theorem dX4_isDirect_132 : decode cX4_isDirect 132 = .ok (.ireturn, 1) := by decide +kernel
def tbX4_isDirect (pc : Nat) : dt_T := cond (Nat.ble pc 61) (cond (Nat.ble pc 30) (cond (Nat.ble pc 13) (cond (Nat.ble pc 6) (cond (Nat.ble pc 1) (cond (Nat.ble pc 0) (cond (Nat.beq pc 0) (tc_ldA 1 1) tc_no) (cond (Nat.beq pc 1) (tc_getf 5 4 4) tc_no)) (cond (Nat.ble pc 4) (cond (Nat.beq pc 4) (tc_ldI 4 6) tc_no) (cond (Nat.beq pc 6) (tc_iald 7) tc_no))) (cond (Nat.ble pc 8) (cond (Nat.ble pc 7) (cond (Nat.beq pc 7) (tc_ldI 3 8) tc_no) (cond (Nat.beq pc 8) (tc_icmpne 13 11) tc_no)) (cond (Nat.ble pc 11) (cond (Nat.beq pc 11) (tc_ic 1 12) tc_no) (cond (Nat.ble pc 12) (cond (Nat.beq pc 12) (tc_zret) tc_no) (cond (Nat.beq pc 13) (tc_ldA 1 14) tc_no))))) (cond (Nat.ble pc 20) (cond (Nat.ble pc 17) (cond (Nat.ble pc 14) (cond (Nat.beq pc 14) (tc_getf 5 1 17) tc_no) (cond (Nat.beq pc 17) (tc_ldI 3 18) tc_no)) (cond (Nat.ble pc 18) (cond (Nat.beq pc 18) (tc_iald 19) tc_no) (cond (Nat.ble pc 19) (cond (Nat.beq pc 19) (tc_ldA 1 20) tc_no) (cond (Nat.beq pc 20) (tc_getf 5 1 23) tc_no)))) (cond (Nat.ble pc 25) (cond (Nat.ble pc 23) (cond (Nat.beq pc 23) (tc_ldI 4 25) tc_no) (cond (Nat.beq pc 25) (tc_iald 26) tc_no)) (cond (Nat.ble pc 26) (cond (Nat.beq pc 26) (tc_icmpeq 31 29) tc_no) (cond (Nat.ble pc 29) (cond (Nat.beq pc 29) (tc_ic 0 30) tc_no) (cond (Nat.beq pc 30) (tc_zret) tc_no)))))) (cond (Nat.ble pc 47) (cond (Nat.ble pc 37) (cond (Nat.ble pc 32) (cond (Nat.ble pc 31) (cond (Nat.beq pc 31) (tc_ldI 2 32) tc_no) (cond (Nat.beq pc 32) (tc_ic 3 33) tc_no)) (cond (Nat.ble pc 33) (cond (Nat.beq pc 33) (tc_icmpeq 46 36) tc_no) (cond (Nat.ble pc 36) (cond (Nat.beq pc 36) (tc_ldA 1 37) tc_no) (cond (Nat.beq pc 37) (tc_getf 5 0 40) tc_no)))) (cond (Nat.ble pc 42) (cond (Nat.ble pc 40) (cond (Nat.beq pc 40) (tc_ldI 4 42) tc_no) (cond (Nat.beq pc 42) (tc_zald 43) tc_no)) (cond (Nat.ble pc 43) (cond (Nat.beq pc 43) (tc_ifne 48 46) tc_no) (cond (Nat.ble pc 46) (cond (Nat.beq pc 46) (tc_ic 1 47) tc_no) (cond (Nat.beq pc 47) (tc_zret) tc_no))))) (cond (Nat.ble pc 54) (cond (Nat.ble pc 49) (cond (Nat.ble pc 48) (cond (Nat.beq pc 48) (tc_ldA 1 49) tc_no) (cond (Nat.beq pc 49) (tc_getf 5 0 52) tc_no)) (cond (Nat.ble pc 52) (cond (Nat.beq pc 52) (tc_ldI 3 53) tc_no) (cond (Nat.ble pc 53) (cond (Nat.beq pc 53) (tc_zald 54) tc_no) (cond (Nat.beq pc 54) (tc_ifne 59 57) tc_no)))) (cond (Nat.ble pc 58) (cond (Nat.ble pc 57) (cond (Nat.beq pc 57) (tc_ic 0 58) tc_no) (cond (Nat.beq pc 58) (tc_zret) tc_no)) (cond (Nat.ble pc 59) (cond (Nat.beq pc 59) (tc_ldI 2 60) tc_no) (cond (Nat.ble pc 60) (cond (Nat.beq pc 60) (tc_ic 1 61) tc_no) (cond (Nat.beq pc 61) (tc_icmpne 102 64) tc_no))))))) (cond (Nat.ble pc 97) (cond (Nat.ble pc 80) (cond (Nat.ble pc 70) (cond (Nat.ble pc 65) (cond (Nat.ble pc 64) (cond (Nat.beq pc 64) (tc_ldA 1 65) tc_no) (cond (Nat.beq pc 65) (tc_getf 5 2 68) tc_no)) (cond (Nat.ble pc 68) (cond (Nat.beq pc 68) (tc_ldI 3 69) tc_no) (cond (Nat.ble pc 69) (cond (Nat.beq pc 69) (tc_iald 70) tc_no) (cond (Nat.beq pc 70) (tc_ldA 1 71) tc_no)))) (cond (Nat.ble pc 74) (cond (Nat.ble pc 71) (cond (Nat.beq pc 71) (tc_getf 5 2 74) tc_no) (cond (Nat.beq pc 74) (tc_ldI 4 76) tc_no)) (cond (Nat.ble pc 76) (cond (Nat.beq pc 76) (tc_iald 77) tc_no) (cond (Nat.ble pc 77) (cond (Nat.beq pc 77) (tc_icmpne 100 80) tc_no) (cond (Nat.beq pc 80) (tc_ldA 1 81) tc_no))))) (cond (Nat.ble pc 87) (cond (Nat.ble pc 84) (cond (Nat.ble pc 81) (cond (Nat.beq pc 81) (tc_getf 5 4 84) tc_no) (cond (Nat.beq pc 84) (tc_ldI 3 85) tc_no)) (cond (Nat.ble pc 85) (cond (Nat.beq pc 85) (tc_iald 86) tc_no) (cond (Nat.ble pc 86) (cond (Nat.beq pc 86) (tc_ldA 1 87) tc_no) (cond (Nat.beq pc 87) (tc_getf 5 4 90) tc_no)))) (cond (Nat.ble pc 92) (cond (Nat.ble pc 90) (cond (Nat.beq pc 90) (tc_ldI 4 92) tc_no) (cond (Nat.beq pc 92) (tc_iald 93) tc_no)) (cond (Nat.ble pc 93) (cond (Nat.beq pc 93) (tc_icmpge 100 96) tc_no) (cond (Nat.ble pc 96) (cond (Nat.beq pc 96) (tc_ic 1 97) tc_no) (cond (Nat.beq pc 97) (tc_goto 101) tc_no)))))) (cond (Nat.ble pc 113) (cond (Nat.ble pc 104) (cond (Nat.ble pc 101) (cond (Nat.ble pc 100) (cond (Nat.beq pc 100) (tc_ic 0 101) tc_no) (cond (Nat.beq pc 101) (tc_zret) tc_no)) (cond (Nat.ble pc 102) (cond (Nat.beq pc 102) (tc_ldI 2 103) tc_no) (cond (Nat.ble pc 103) (cond (Nat.beq pc 103) (tc_ic 2 104) tc_no) (cond (Nat.beq pc 104) (tc_icmpne 131 107) tc_no)))) (cond (Nat.ble pc 108) (cond (Nat.ble pc 107) (cond (Nat.beq pc 107) (tc_ldA 0 108) tc_no) (cond (Nat.beq pc 108) (tc_ldA 1 109) tc_no)) (cond (Nat.ble pc 109) (cond (Nat.beq pc 109) (tc_getf 5 4 112) tc_no) (cond (Nat.ble pc 112) (cond (Nat.beq pc 112) (tc_ldI 3 113) tc_no) (cond (Nat.beq pc 113) (tc_iald 114) tc_no))))) (cond (Nat.ble pc 121) (cond (Nat.ble pc 115) (cond (Nat.ble pc 114) (cond (Nat.beq pc 114) (tc_ldA 1 115) tc_no) (cond (Nat.beq pc 115) (tc_getf 5 4 118) tc_no)) (cond (Nat.ble pc 118) (cond (Nat.beq pc 118) (tc_ldI 4 120) tc_no) (cond (Nat.ble pc 120) (cond (Nat.beq pc 120) (tc_iald 121) tc_no) (cond (Nat.beq pc 121) (tc_callV 4 mX4_isAhead 2 124) tc_no)))) (cond (Nat.ble pc 127) (cond (Nat.ble pc 124) (cond (Nat.beq pc 124) (tc_ifeq 131 127) tc_no) (cond (Nat.beq pc 127) (tc_ic 1 128) tc_no)) (cond (Nat.ble pc 128) (cond (Nat.beq pc 128) (tc_goto 132) tc_no) (cond (Nat.ble pc 131) (cond (Nat.beq pc 131) (tc_ic 0 132) tc_no) (cond (Nat.beq pc 132) (tc_zret) tc_no)))))))
theorem okX4_isDirect : ∀ pc, dt_S mX4_isDirect (tbX4_isDirect pc) pc := by
  intro pc
  unfold tbX4_isDirect
  exact dt_Sb (dt_Sb (dt_Sb (dt_Sb (dt_Sb (dt_Sb (dt_Sl 0 (sn_ldAn rfl dX4_isDirect_0 rfl)) (dt_Sl 1 (sn_getfN rfl ffX5 (by decide) wq_1_46 dX4_isDirect_1 rfl))) (dt_Sb (dt_Sl 4 (sn_ldI dX4_isDirect_4 rfl)) (dt_Sl 6 (sn_iald dX4_isDirect_6 rfl)))) (dt_Sb (dt_Sb (dt_Sl 7 (sn_ldIn rfl dX4_isDirect_7 rfl)) (dt_Sl 8 (sn_icmpne dX4_isDirect_8 (by decide) rfl))) (dt_Sb (dt_Sl 11 (sn_ic ⟨by decide, by decide⟩ dX4_isDirect_11 rfl)) (dt_Sb (dt_Sl 12 (sn_zret rfl dX4_isDirect_12)) (dt_Sl 13 (sn_ldAn rfl dX4_isDirect_13 rfl)))))) (dt_Sb (dt_Sb (dt_Sb (dt_Sl 14 (sn_getfN rfl ffX5 (by decide) wq_1_35 dX4_isDirect_14 rfl)) (dt_Sl 17 (sn_ldIn rfl dX4_isDirect_17 rfl))) (dt_Sb (dt_Sl 18 (sn_iald dX4_isDirect_18 rfl)) (dt_Sb (dt_Sl 19 (sn_ldAn rfl dX4_isDirect_19 rfl)) (dt_Sl 20 (sn_getfN rfl ffX5 (by decide) wq_1_35 dX4_isDirect_20 rfl))))) (dt_Sb (dt_Sb (dt_Sl 23 (sn_ldI dX4_isDirect_23 rfl)) (dt_Sl 25 (sn_iald dX4_isDirect_25 rfl))) (dt_Sb (dt_Sl 26 (sn_icmpeq dX4_isDirect_26 (by decide) rfl)) (dt_Sb (dt_Sl 29 (sn_ic ⟨by decide, by decide⟩ dX4_isDirect_29 rfl)) (dt_Sl 30 (sn_zret rfl dX4_isDirect_30))))))) (dt_Sb (dt_Sb (dt_Sb (dt_Sb (dt_Sl 31 (sn_ldIn rfl dX4_isDirect_31 rfl)) (dt_Sl 32 (sn_ic ⟨by decide, by decide⟩ dX4_isDirect_32 rfl))) (dt_Sb (dt_Sl 33 (sn_icmpeq dX4_isDirect_33 (by decide) rfl)) (dt_Sb (dt_Sl 36 (sn_ldAn rfl dX4_isDirect_36 rfl)) (dt_Sl 37 (sn_getfN rfl ffX5 (by decide) wq_1_30 dX4_isDirect_37 rfl))))) (dt_Sb (dt_Sb (dt_Sl 40 (sn_ldI dX4_isDirect_40 rfl)) (dt_Sl 42 (sn_zald dX4_isDirect_42 rfl))) (dt_Sb (dt_Sl 43 (sn_ifne dX4_isDirect_43 (by decide) rfl)) (dt_Sb (dt_Sl 46 (sn_ic ⟨by decide, by decide⟩ dX4_isDirect_46 rfl)) (dt_Sl 47 (sn_zret rfl dX4_isDirect_47)))))) (dt_Sb (dt_Sb (dt_Sb (dt_Sl 48 (sn_ldAn rfl dX4_isDirect_48 rfl)) (dt_Sl 49 (sn_getfN rfl ffX5 (by decide) wq_1_30 dX4_isDirect_49 rfl))) (dt_Sb (dt_Sl 52 (sn_ldIn rfl dX4_isDirect_52 rfl)) (dt_Sb (dt_Sl 53 (sn_zald dX4_isDirect_53 rfl)) (dt_Sl 54 (sn_ifne dX4_isDirect_54 (by decide) rfl))))) (dt_Sb (dt_Sb (dt_Sl 57 (sn_ic ⟨by decide, by decide⟩ dX4_isDirect_57 rfl)) (dt_Sl 58 (sn_zret rfl dX4_isDirect_58))) (dt_Sb (dt_Sl 59 (sn_ldIn rfl dX4_isDirect_59 rfl)) (dt_Sb (dt_Sl 60 (sn_ic ⟨by decide, by decide⟩ dX4_isDirect_60 rfl)) (dt_Sl 61 (sn_icmpne dX4_isDirect_61 (by decide) rfl)))))))) (dt_Sb (dt_Sb (dt_Sb (dt_Sb (dt_Sb (dt_Sl 64 (sn_ldAn rfl dX4_isDirect_64 rfl)) (dt_Sl 65 (sn_getfN rfl ffX5 (by decide) wq_1_39 dX4_isDirect_65 rfl))) (dt_Sb (dt_Sl 68 (sn_ldIn rfl dX4_isDirect_68 rfl)) (dt_Sb (dt_Sl 69 (sn_iald dX4_isDirect_69 rfl)) (dt_Sl 70 (sn_ldAn rfl dX4_isDirect_70 rfl))))) (dt_Sb (dt_Sb (dt_Sl 71 (sn_getfN rfl ffX5 (by decide) wq_1_39 dX4_isDirect_71 rfl)) (dt_Sl 74 (sn_ldI dX4_isDirect_74 rfl))) (dt_Sb (dt_Sl 76 (sn_iald dX4_isDirect_76 rfl)) (dt_Sb (dt_Sl 77 (sn_icmpne dX4_isDirect_77 (by decide) rfl)) (dt_Sl 80 (sn_ldAn rfl dX4_isDirect_80 rfl)))))) (dt_Sb (dt_Sb (dt_Sb (dt_Sl 81 (sn_getfN rfl ffX5 (by decide) wq_1_46 dX4_isDirect_81 rfl)) (dt_Sl 84 (sn_ldIn rfl dX4_isDirect_84 rfl))) (dt_Sb (dt_Sl 85 (sn_iald dX4_isDirect_85 rfl)) (dt_Sb (dt_Sl 86 (sn_ldAn rfl dX4_isDirect_86 rfl)) (dt_Sl 87 (sn_getfN rfl ffX5 (by decide) wq_1_46 dX4_isDirect_87 rfl))))) (dt_Sb (dt_Sb (dt_Sl 90 (sn_ldI dX4_isDirect_90 rfl)) (dt_Sl 92 (sn_iald dX4_isDirect_92 rfl))) (dt_Sb (dt_Sl 93 (sn_icmpge dX4_isDirect_93 (by decide) rfl)) (dt_Sb (dt_Sl 96 (sn_ic ⟨by decide, by decide⟩ dX4_isDirect_96 rfl)) (dt_Sl 97 (sn_goto dX4_isDirect_97 (by decide)))))))) (dt_Sb (dt_Sb (dt_Sb (dt_Sb (dt_Sl 100 (sn_ic ⟨by decide, by decide⟩ dX4_isDirect_100 rfl)) (dt_Sl 101 (sn_zret rfl dX4_isDirect_101))) (dt_Sb (dt_Sl 102 (sn_ldIn rfl dX4_isDirect_102 rfl)) (dt_Sb (dt_Sl 103 (sn_ic ⟨by decide, by decide⟩ dX4_isDirect_103 rfl)) (dt_Sl 104 (sn_icmpne dX4_isDirect_104 (by decide) rfl))))) (dt_Sb (dt_Sb (dt_Sl 107 (sn_ldAn rfl dX4_isDirect_107 rfl)) (dt_Sl 108 (sn_ldAn rfl dX4_isDirect_108 rfl))) (dt_Sb (dt_Sl 109 (sn_getfN rfl ffX5 (by decide) wq_1_46 dX4_isDirect_109 rfl)) (dt_Sb (dt_Sl 112 (sn_ldIn rfl dX4_isDirect_112 rfl)) (dt_Sl 113 (sn_iald dX4_isDirect_113 rfl)))))) (dt_Sb (dt_Sb (dt_Sb (dt_Sl 114 (sn_ldAn rfl dX4_isDirect_114 rfl)) (dt_Sl 115 (sn_getfN rfl ffX5 (by decide) wq_1_46 dX4_isDirect_115 rfl))) (dt_Sb (dt_Sl 118 (sn_ldI dX4_isDirect_118 rfl)) (dt_Sb (dt_Sl 120 (sn_iald dX4_isDirect_120 rfl)) (dt_Sl 121 (sn_callV rfl ffX4 nnX4_isAhead rfl wq_2_178 wq_2_179 wq_2_180 dX4_isDirect_121 rfl))))) (dt_Sb (dt_Sb (dt_Sl 124 (sn_ifeq dX4_isDirect_124 (by decide) rfl)) (dt_Sl 127 (sn_ic ⟨by decide, by decide⟩ dX4_isDirect_127 rfl))) (dt_Sb (dt_Sl 128 (sn_goto dX4_isDirect_128 (by decide))) (dt_Sb (dt_Sl 131 (sn_ic ⟨by decide, by decide⟩ dX4_isDirect_131 rfl)) (dt_Sl 132 (sn_zret rfl dX4_isDirect_132))))))))
theorem dX4_isRace_0 : decode cX4_isRace 0 = .ok (.aload_n 1, 1) := by decide +kernel
theorem dX4_isRace_1 : decode cX4_isRace 1 = .ok (.getfield 28, 3) := by decide +kernel
theorem dX4_isRace_4 : decode cX4_isRace 4 = .ok (.iload_n 2, 1) := by decide +kernel
theorem dX4_isRace_5 : decode cX4_isRace 5 = .ok (.iaload, 1) := by decide +kernel
theorem dX4_isRace_6 : decode cX4_isRace 6 = .ok (.aload_n 1, 1) := by decide +kernel
theorem dX4_isRace_7 : decode cX4_isRace 7 = .ok (.getfield 28, 3) := by decide +kernel
theorem dX4_isRace_10 : decode cX4_isRace 10 = .ok (.iload_n 3, 1) := by decide +kernel
theorem dX4_isRace_11 : decode cX4_isRace 11 = .ok (.iaload, 1) := by decide +kernel
theorem dX4_isRace_12 : decode cX4_isRace 12 = .ok (.if_icmp .ne 16, 3) := by decide +kernel
theorem dX4_isRace_15 : decode cX4_isRace 15 = .ok (.aload_n 0, 1) := by decide +kernel
theorem dX4_isRace_16 : decode cX4_isRace 16 = .ok (.iload_n 2, 1) := by decide +kernel
theorem dX4_isRace_17 : decode cX4_isRace 17 = .ok (.iload_n 3, 1) := by decide +kernel
theorem dX4_isRace_18 : decode cX4_isRace 18 = .ok (.invokevirtual 38, 3) := by decide +kernel
theorem dX4_isRace_21 : decode cX4_isRace 21 = .ok (.ifCond .ne 7, 3) := by decide +kernel
theorem dX4_isRace_24 : decode cX4_isRace 24 = .ok (.iconst 1, 1) := by decide +kernel
theorem dX4_isRace_25 : decode cX4_isRace 25 = .ok (.goto 4, 3) := by decide +kernel
theorem dX4_isRace_28 : decode cX4_isRace 28 = .ok (.iconst 0, 1) := by decide +kernel
theorem dX4_isRace_29 : decode cX4_isRace 29 = .ok (.ireturn, 1) := by decide +kernel
def tbX4_isRace (pc : Nat) : dt_T := cond (Nat.ble pc 12) (cond (Nat.ble pc 5) (cond (Nat.ble pc 1) (cond (Nat.ble pc 0) (cond (Nat.beq pc 0) (tc_ldA 1 1) tc_no) (cond (Nat.beq pc 1) (tc_getf 5 1 4) tc_no)) (cond (Nat.ble pc 4) (cond (Nat.beq pc 4) (tc_ldI 2 5) tc_no) (cond (Nat.beq pc 5) (tc_iald 6) tc_no))) (cond (Nat.ble pc 7) (cond (Nat.ble pc 6) (cond (Nat.beq pc 6) (tc_ldA 1 7) tc_no) (cond (Nat.beq pc 7) (tc_getf 5 1 10) tc_no)) (cond (Nat.ble pc 10) (cond (Nat.beq pc 10) (tc_ldI 3 11) tc_no) (cond (Nat.ble pc 11) (cond (Nat.beq pc 11) (tc_iald 12) tc_no) (cond (Nat.beq pc 12) (tc_icmpne 28 15) tc_no))))) (cond (Nat.ble pc 18) (cond (Nat.ble pc 16) (cond (Nat.ble pc 15) (cond (Nat.beq pc 15) (tc_ldA 0 16) tc_no) (cond (Nat.beq pc 16) (tc_ldI 2 17) tc_no)) (cond (Nat.ble pc 17) (cond (Nat.beq pc 17) (tc_ldI 3 18) tc_no) (cond (Nat.beq pc 18) (tc_callV 4 mX4_isAhead 2 21) tc_no))) (cond (Nat.ble pc 24) (cond (Nat.ble pc 21) (cond (Nat.beq pc 21) (tc_ifne 28 24) tc_no) (cond (Nat.beq pc 24) (tc_ic 1 25) tc_no)) (cond (Nat.ble pc 25) (cond (Nat.beq pc 25) (tc_goto 29) tc_no) (cond (Nat.ble pc 28) (cond (Nat.beq pc 28) (tc_ic 0 29) tc_no) (cond (Nat.beq pc 29) (tc_zret) tc_no)))))
theorem okX4_isRace : ∀ pc, dt_S mX4_isRace (tbX4_isRace pc) pc := by
  intro pc
  unfold tbX4_isRace
  exact dt_Sb (dt_Sb (dt_Sb (dt_Sb (dt_Sl 0 (sn_ldAn rfl dX4_isRace_0 rfl)) (dt_Sl 1 (sn_getfN rfl ffX5 (by decide) wq_1_35 dX4_isRace_1 rfl))) (dt_Sb (dt_Sl 4 (sn_ldIn rfl dX4_isRace_4 rfl)) (dt_Sl 5 (sn_iald dX4_isRace_5 rfl)))) (dt_Sb (dt_Sb (dt_Sl 6 (sn_ldAn rfl dX4_isRace_6 rfl)) (dt_Sl 7 (sn_getfN rfl ffX5 (by decide) wq_1_35 dX4_isRace_7 rfl))) (dt_Sb (dt_Sl 10 (sn_ldIn rfl dX4_isRace_10 rfl)) (dt_Sb (dt_Sl 11 (sn_iald dX4_isRace_11 rfl)) (dt_Sl 12 (sn_icmpne dX4_isRace_12 (by decide) rfl)))))) (dt_Sb (dt_Sb (dt_Sb (dt_Sl 15 (sn_ldAn rfl dX4_isRace_15 rfl)) (dt_Sl 16 (sn_ldIn rfl dX4_isRace_16 rfl))) (dt_Sb (dt_Sl 17 (sn_ldIn rfl dX4_isRace_17 rfl)) (dt_Sl 18 (sn_callV rfl ffX4 nnX4_isAhead rfl wq_2_178 wq_2_179 wq_2_180 dX4_isRace_18 rfl)))) (dt_Sb (dt_Sb (dt_Sl 21 (sn_ifne dX4_isRace_21 (by decide) rfl)) (dt_Sl 24 (sn_ic ⟨by decide, by decide⟩ dX4_isRace_24 rfl))) (dt_Sb (dt_Sl 25 (sn_goto dX4_isRace_25 (by decide))) (dt_Sb (dt_Sl 28 (sn_ic ⟨by decide, by decide⟩ dX4_isRace_28 rfl)) (dt_Sl 29 (sn_zret rfl dX4_isRace_29))))))
theorem dX4_howManyRaces_0 : decode cX4_howManyRaces 0 = .ok (.iconst 0, 1) := by decide +kernel
theorem dX4_howManyRaces_1 : decode cX4_howManyRaces 1 = .ok (.istore_n 2, 1) := by decide +kernel
theorem dX4_howManyRaces_2 : decode cX4_howManyRaces 2 = .ok (.iconst 0, 1) := by decide +kernel
theorem dX4_howManyRaces_3 : decode cX4_howManyRaces 3 = .ok (.istore_n 3, 1) := by decide +kernel
theorem dX4_howManyRaces_4 : decode cX4_howManyRaces 4 = .ok (.iload_n 3, 1) := by decide +kernel
theorem dX4_howManyRaces_5 : decode cX4_howManyRaces 5 = .ok (.aload_n 1, 1) := by decide +kernel
theorem dX4_howManyRaces_6 : decode cX4_howManyRaces 6 = .ok (.getfield 15, 3) := by decide +kernel
theorem dX4_howManyRaces_9 : decode cX4_howManyRaces 9 = .ok (.if_icmp .ge 43, 3) := by decide +kernel
theorem dX4_howManyRaces_12 : decode cX4_howManyRaces 12 = .ok (.iload_n 3, 1) := by decide +kernel
theorem dX4_howManyRaces_13 : decode cX4_howManyRaces 13 = .ok (.iconst 1, 1) := by decide +kernel
theorem dX4_howManyRaces_14 : decode cX4_howManyRaces 14 = .ok (.iadd, 1) := by decide +kernel
theorem dX4_howManyRaces_15 : decode cX4_howManyRaces 15 = .ok (.istore 4, 2) := by decide +kernel
theorem dX4_howManyRaces_17 : decode cX4_howManyRaces 17 = .ok (.iload 4, 2) := by decide +kernel
theorem dX4_howManyRaces_19 : decode cX4_howManyRaces 19 = .ok (.aload_n 1, 1) := by decide +kernel
theorem dX4_howManyRaces_20 : decode cX4_howManyRaces 20 = .ok (.getfield 15, 3) := by decide +kernel
theorem dX4_howManyRaces_23 : decode cX4_howManyRaces 23 = .ok (.if_icmp .ge 23, 3) := by decide +kernel
theorem dX4_howManyRaces_26 : decode cX4_howManyRaces 26 = .ok (.aload_n 0, 1) := by decide +kernel
theorem dX4_howManyRaces_27 : decode cX4_howManyRaces 27 = .ok (.aload_n 1, 1) := by decide +kernel
theorem dX4_howManyRaces_28 : decode cX4_howManyRaces 28 = .ok (.iload_n 3, 1) := by decide +kernel
theorem dX4_howManyRaces_29 : decode cX4_howManyRaces 29 = .ok (.iload 4, 2) := by decide +kernel
theorem dX4_howManyRaces_31 : decode cX4_howManyRaces 31 = .ok (.invokevirtual 42, 3) := by decide +kernel
theorem dX4_howManyRaces_34 : decode cX4_howManyRaces 34 = .ok (.ifCond .eq 6, 3) := by decide +kernel
theorem dX4_howManyRaces_37 : decode cX4_howManyRaces 37 = .ok (.iinc 2 1, 3) := by decide +kernel
theorem dX4_howManyRaces_40 : decode cX4_howManyRaces 40 = .ok (.iinc 4 1, 3) := by decide +kernel
theorem dX4_howManyRaces_43 : decode cX4_howManyRaces 43 = .ok (.goto (-26), 3) := by decide +kernel
theorem dX4_howManyRaces_46 : decode cX4_howManyRaces 46 = .ok (.iinc 3 1, 3) := by decide +kernel
theorem dX4_howManyRaces_49 : decode cX4_howManyRaces 49 = .ok (.goto (-45), 3) := by decide +kernel
theorem dX4_howManyRaces_52 : decode cX4_howManyRaces 52 = .ok (.iload_n 2, 1) := by decide +kernel
theorem dX4_howManyRaces_53 : decode cX4_howManyRaces 53 = .ok (.ireturn, 1) := by decide +kernel
def tbX4_howManyRaces (pc : Nat) : dt_T := cond (Nat.ble pc 19) (cond (Nat.ble pc 6) (cond (Nat.ble pc 2) (cond (Nat.ble pc 0) (cond (Nat.beq pc 0) (tc_ic 0 1) tc_no) (cond (Nat.ble pc 1) (cond (Nat.beq pc 1) (tc_stI 2 2) tc_no) (cond (Nat.beq pc 2) (tc_ic 0 3) tc_no))) (cond (Nat.ble pc 4) (cond (Nat.ble pc 3) (cond (Nat.beq pc 3) (tc_stI 3 4) tc_no) (cond (Nat.beq pc 4) (tc_ldI 3 5) tc_no)) (cond (Nat.ble pc 5) (cond (Nat.beq pc 5) (tc_ldA 1 6) tc_no) (cond (Nat.beq pc 6) (tc_getf 5 7 9) tc_no)))) (cond (Nat.ble pc 13) (cond (Nat.ble pc 9) (cond (Nat.beq pc 9) (tc_icmpge 52 12) tc_no) (cond (Nat.ble pc 12) (cond (Nat.beq pc 12) (tc_ldI 3 13) tc_no) (cond (Nat.beq pc 13) (tc_ic 1 14) tc_no))) (cond (Nat.ble pc 15) (cond (Nat.ble pc 14) (cond (Nat.beq pc 14) (tc_iadd 15) tc_no) (cond (Nat.beq pc 15) (tc_stI 4 17) tc_no)) (cond (Nat.ble pc 17) (cond (Nat.beq pc 17) (tc_ldI 4 19) tc_no) (cond (Nat.beq pc 19) (tc_ldA 1 20) tc_no))))) (cond (Nat.ble pc 31) (cond (Nat.ble pc 26) (cond (Nat.ble pc 20) (cond (Nat.beq pc 20) (tc_getf 5 7 23) tc_no) (cond (Nat.ble pc 23) (cond (Nat.beq pc 23) (tc_icmpge 46 26) tc_no) (cond (Nat.beq pc 26) (tc_ldA 0 27) tc_no))) (cond (Nat.ble pc 28) (cond (Nat.ble pc 27) (cond (Nat.beq pc 27) (tc_ldA 1 28) tc_no) (cond (Nat.beq pc 28) (tc_ldI 3 29) tc_no)) (cond (Nat.ble pc 29) (cond (Nat.beq pc 29) (tc_ldI 4 31) tc_no) (cond (Nat.beq pc 31) (tc_callV 4 mX4_isRace 3 34) tc_no)))) (cond (Nat.ble pc 43) (cond (Nat.ble pc 37) (cond (Nat.ble pc 34) (cond (Nat.beq pc 34) (tc_ifeq 40 37) tc_no) (cond (Nat.beq pc 37) (tc_iinc 2 1 40) tc_no)) (cond (Nat.ble pc 40) (cond (Nat.beq pc 40) (tc_iinc 4 1 43) tc_no) (cond (Nat.beq pc 43) (tc_goto 17) tc_no))) (cond (Nat.ble pc 49) (cond (Nat.ble pc 46) (cond (Nat.beq pc 46) (tc_iinc 3 1 49) tc_no) (cond (Nat.beq pc 49) (tc_goto 4) tc_no)) (cond (Nat.ble pc 52) (cond (Nat.beq pc 52) (tc_ldI 2 53) tc_no) (cond (Nat.beq pc 53) (tc_iret) tc_no)))))
theorem okX4_howManyRaces : ∀ pc, dt_S mX4_howManyRaces (tbX4_howManyRaces pc) pc := by
  intro pc
  unfold tbX4_howManyRaces
  exact dt_Sb (dt_Sb (dt_Sb (dt_Sb (dt_Sl 0 (sn_ic ⟨by decide, by decide⟩ dX4_howManyRaces_0 rfl)) (dt_Sb (dt_Sl 1 (sn_stIn rfl (by decide) dX4_howManyRaces_1 rfl)) (dt_Sl 2 (sn_ic ⟨by decide, by decide⟩ dX4_howManyRaces_2 rfl)))) (dt_Sb (dt_Sb (dt_Sl 3 (sn_stIn rfl (by decide) dX4_howManyRaces_3 rfl)) (dt_Sl 4 (sn_ldIn rfl dX4_howManyRaces_4 rfl))) (dt_Sb (dt_Sl 5 (sn_ldAn rfl dX4_howManyRaces_5 rfl)) (dt_Sl 6 (sn_getfN rfl ffX5 (by decide) wq_1_54 dX4_howManyRaces_6 rfl))))) (dt_Sb (dt_Sb (dt_Sl 9 (sn_icmpge dX4_howManyRaces_9 (by decide) rfl)) (dt_Sb (dt_Sl 12 (sn_ldIn rfl dX4_howManyRaces_12 rfl)) (dt_Sl 13 (sn_ic ⟨by decide, by decide⟩ dX4_howManyRaces_13 rfl)))) (dt_Sb (dt_Sb (dt_Sl 14 (sn_iadd dX4_howManyRaces_14 rfl)) (dt_Sl 15 (sn_stI (by decide) dX4_howManyRaces_15 rfl))) (dt_Sb (dt_Sl 17 (sn_ldI dX4_howManyRaces_17 rfl)) (dt_Sl 19 (sn_ldAn rfl dX4_howManyRaces_19 rfl)))))) (dt_Sb (dt_Sb (dt_Sb (dt_Sl 20 (sn_getfN rfl ffX5 (by decide) wq_1_54 dX4_howManyRaces_20 rfl)) (dt_Sb (dt_Sl 23 (sn_icmpge dX4_howManyRaces_23 (by decide) rfl)) (dt_Sl 26 (sn_ldAn rfl dX4_howManyRaces_26 rfl)))) (dt_Sb (dt_Sb (dt_Sl 27 (sn_ldAn rfl dX4_howManyRaces_27 rfl)) (dt_Sl 28 (sn_ldIn rfl dX4_howManyRaces_28 rfl))) (dt_Sb (dt_Sl 29 (sn_ldI dX4_howManyRaces_29 rfl)) (dt_Sl 31 (sn_callV rfl ffX4 nnX4_isRace rfl wq_2_198 wq_2_200 wq_0_9 dX4_howManyRaces_31 rfl))))) (dt_Sb (dt_Sb (dt_Sb (dt_Sl 34 (sn_ifeq dX4_howManyRaces_34 (by decide) rfl)) (dt_Sl 37 (sn_iinc (by decide) dX4_howManyRaces_37 rfl))) (dt_Sb (dt_Sl 40 (sn_iinc (by decide) dX4_howManyRaces_40 rfl)) (dt_Sl 43 (sn_goto dX4_howManyRaces_43 (by decide))))) (dt_Sb (dt_Sb (dt_Sl 46 (sn_iinc (by decide) dX4_howManyRaces_46 rfl)) (dt_Sl 49 (sn_goto dX4_howManyRaces_49 (by decide)))) (dt_Sb (dt_Sl 52 (sn_ldIn rfl dX4_howManyRaces_52 rfl)) (dt_Sl 53 (sn_iret rfl dX4_howManyRaces_53))))))
theorem dX4_raceAt_0 : decode cX4_raceAt 0 = .ok (.iconst 0, 1) := by decide +kernel
theorem dX4_raceAt_1 : decode cX4_raceAt 1 = .ok (.istore_n 3, 1) := by decide +kernel
theorem dX4_raceAt_2 : decode cX4_raceAt 2 = .ok (.iconst 0, 1) := by decide +kernel
theorem dX4_raceAt_3 : decode cX4_raceAt 3 = .ok (.istore 4, 2) := by decide +kernel
theorem dX4_raceAt_5 : decode cX4_raceAt 5 = .ok (.iload 4, 2) := by decide +kernel
theorem dX4_raceAt_7 : decode cX4_raceAt 7 = .ok (.aload_n 1, 1) := by decide +kernel
theorem dX4_raceAt_8 : decode cX4_raceAt 8 = .ok (.getfield 15, 3) := by decide +kernel
theorem dX4_raceAt_11 : decode cX4_raceAt 11 = .ok (.if_icmp .ge 59, 3) := by decide +kernel
theorem dX4_raceAt_14 : decode cX4_raceAt 14 = .ok (.iload 4, 2) := by decide +kernel
theorem dX4_raceAt_16 : decode cX4_raceAt 16 = .ok (.iconst 1, 1) := by decide +kernel
theorem dX4_raceAt_17 : decode cX4_raceAt 17 = .ok (.iadd, 1) := by decide +kernel
theorem dX4_raceAt_18 : decode cX4_raceAt 18 = .ok (.istore 5, 2) := by decide +kernel
theorem dX4_raceAt_20 : decode cX4_raceAt 20 = .ok (.iload 5, 2) := by decide +kernel
theorem dX4_raceAt_22 : decode cX4_raceAt 22 = .ok (.aload_n 1, 1) := by decide +kernel
theorem dX4_raceAt_23 : decode cX4_raceAt 23 = .ok (.getfield 15, 3) := by decide +kernel
theorem dX4_raceAt_26 : decode cX4_raceAt 26 = .ok (.if_icmp .ge 38, 3) := by decide +kernel
theorem dX4_raceAt_29 : decode cX4_raceAt 29 = .ok (.aload_n 0, 1) := by decide +kernel
theorem dX4_raceAt_30 : decode cX4_raceAt 30 = .ok (.aload_n 1, 1) := by decide +kernel
theorem dX4_raceAt_31 : decode cX4_raceAt 31 = .ok (.iload 4, 2) := by decide +kernel
theorem dX4_raceAt_33 : decode cX4_raceAt 33 = .ok (.iload 5, 2) := by decide +kernel
theorem dX4_raceAt_35 : decode cX4_raceAt 35 = .ok (.invokevirtual 42, 3) := by decide +kernel
theorem dX4_raceAt_38 : decode cX4_raceAt 38 = .ok (.ifCond .eq 20, 3) := by decide +kernel
theorem dX4_raceAt_41 : decode cX4_raceAt 41 = .ok (.iload_n 3, 1) := by decide +kernel
theorem dX4_raceAt_42 : decode cX4_raceAt 42 = .ok (.iload_n 2, 1) := by decide +kernel
theorem dX4_raceAt_43 : decode cX4_raceAt 43 = .ok (.if_icmp .ne 12, 3) := by decide +kernel
theorem dX4_raceAt_46 : decode cX4_raceAt 46 = .ok (.bipush 32, 2) := by decide +kernel
theorem dX4_raceAt_48 : decode cX4_raceAt 48 = .ok (.iload 4, 2) := by decide +kernel
theorem dX4_raceAt_50 : decode cX4_raceAt 50 = .ok (.imul, 1) := by decide +kernel
theorem dX4_raceAt_51 : decode cX4_raceAt 51 = .ok (.iload 5, 2) := by decide +kernel
theorem dX4_raceAt_53 : decode cX4_raceAt 53 = .ok (.iadd, 1) := by decide +kernel
theorem dX4_raceAt_54 : decode cX4_raceAt 54 = .ok (.ireturn, 1) := by decide +kernel
theorem dX4_raceAt_55 : decode cX4_raceAt 55 = .ok (.iinc 3 1, 3) := by decide +kernel
theorem dX4_raceAt_58 : decode cX4_raceAt 58 = .ok (.iinc 5 1, 3) := by decide +kernel
theorem dX4_raceAt_61 : decode cX4_raceAt 61 = .ok (.goto (-41), 3) := by decide +kernel
theorem dX4_raceAt_64 : decode cX4_raceAt 64 = .ok (.iinc 4 1, 3) := by decide +kernel
theorem dX4_raceAt_67 : decode cX4_raceAt 67 = .ok (.goto (-62), 3) := by decide +kernel
theorem dX4_raceAt_70 : decode cX4_raceAt 70 = .ok (.iconst (-1), 1) := by decide +kernel
theorem dX4_raceAt_71 : decode cX4_raceAt 71 = .ok (.ireturn, 1) := by decide +kernel
def tbX4_raceAt (pc : Nat) : dt_T := cond (Nat.ble pc 31) (cond (Nat.ble pc 14) (cond (Nat.ble pc 3) (cond (Nat.ble pc 1) (cond (Nat.ble pc 0) (cond (Nat.beq pc 0) (tc_ic 0 1) tc_no) (cond (Nat.beq pc 1) (tc_stI 3 2) tc_no)) (cond (Nat.ble pc 2) (cond (Nat.beq pc 2) (tc_ic 0 3) tc_no) (cond (Nat.beq pc 3) (tc_stI 4 5) tc_no))) (cond (Nat.ble pc 7) (cond (Nat.ble pc 5) (cond (Nat.beq pc 5) (tc_ldI 4 7) tc_no) (cond (Nat.beq pc 7) (tc_ldA 1 8) tc_no)) (cond (Nat.ble pc 8) (cond (Nat.beq pc 8) (tc_getf 5 7 11) tc_no) (cond (Nat.ble pc 11) (cond (Nat.beq pc 11) (tc_icmpge 70 14) tc_no) (cond (Nat.beq pc 14) (tc_ldI 4 16) tc_no))))) (cond (Nat.ble pc 22) (cond (Nat.ble pc 17) (cond (Nat.ble pc 16) (cond (Nat.beq pc 16) (tc_ic 1 17) tc_no) (cond (Nat.beq pc 17) (tc_iadd 18) tc_no)) (cond (Nat.ble pc 18) (cond (Nat.beq pc 18) (tc_stI 5 20) tc_no) (cond (Nat.ble pc 20) (cond (Nat.beq pc 20) (tc_ldI 5 22) tc_no) (cond (Nat.beq pc 22) (tc_ldA 1 23) tc_no)))) (cond (Nat.ble pc 26) (cond (Nat.ble pc 23) (cond (Nat.beq pc 23) (tc_getf 5 7 26) tc_no) (cond (Nat.beq pc 26) (tc_icmpge 64 29) tc_no)) (cond (Nat.ble pc 29) (cond (Nat.beq pc 29) (tc_ldA 0 30) tc_no) (cond (Nat.ble pc 30) (cond (Nat.beq pc 30) (tc_ldA 1 31) tc_no) (cond (Nat.beq pc 31) (tc_ldI 4 33) tc_no)))))) (cond (Nat.ble pc 50) (cond (Nat.ble pc 41) (cond (Nat.ble pc 35) (cond (Nat.ble pc 33) (cond (Nat.beq pc 33) (tc_ldI 5 35) tc_no) (cond (Nat.beq pc 35) (tc_callV 4 mX4_isRace 3 38) tc_no)) (cond (Nat.ble pc 38) (cond (Nat.beq pc 38) (tc_ifeq 58 41) tc_no) (cond (Nat.beq pc 41) (tc_ldI 3 42) tc_no))) (cond (Nat.ble pc 43) (cond (Nat.ble pc 42) (cond (Nat.beq pc 42) (tc_ldI 2 43) tc_no) (cond (Nat.beq pc 43) (tc_icmpne 55 46) tc_no)) (cond (Nat.ble pc 46) (cond (Nat.beq pc 46) (tc_ic 32 48) tc_no) (cond (Nat.ble pc 48) (cond (Nat.beq pc 48) (tc_ldI 4 50) tc_no) (cond (Nat.beq pc 50) (tc_imul 51) tc_no))))) (cond (Nat.ble pc 58) (cond (Nat.ble pc 53) (cond (Nat.ble pc 51) (cond (Nat.beq pc 51) (tc_ldI 5 53) tc_no) (cond (Nat.beq pc 53) (tc_iadd 54) tc_no)) (cond (Nat.ble pc 54) (cond (Nat.beq pc 54) (tc_iret) tc_no) (cond (Nat.ble pc 55) (cond (Nat.beq pc 55) (tc_iinc 3 1 58) tc_no) (cond (Nat.beq pc 58) (tc_iinc 5 1 61) tc_no)))) (cond (Nat.ble pc 64) (cond (Nat.ble pc 61) (cond (Nat.beq pc 61) (tc_goto 20) tc_no) (cond (Nat.beq pc 64) (tc_iinc 4 1 67) tc_no)) (cond (Nat.ble pc 67) (cond (Nat.beq pc 67) (tc_goto 5) tc_no) (cond (Nat.ble pc 70) (cond (Nat.beq pc 70) (tc_ic (-1) 71) tc_no) (cond (Nat.beq pc 71) (tc_iret) tc_no))))))
theorem okX4_raceAt : ∀ pc, dt_S mX4_raceAt (tbX4_raceAt pc) pc := by
  intro pc
  unfold tbX4_raceAt
  exact dt_Sb (dt_Sb (dt_Sb (dt_Sb (dt_Sb (dt_Sl 0 (sn_ic ⟨by decide, by decide⟩ dX4_raceAt_0 rfl)) (dt_Sl 1 (sn_stIn rfl (by decide) dX4_raceAt_1 rfl))) (dt_Sb (dt_Sl 2 (sn_ic ⟨by decide, by decide⟩ dX4_raceAt_2 rfl)) (dt_Sl 3 (sn_stI (by decide) dX4_raceAt_3 rfl)))) (dt_Sb (dt_Sb (dt_Sl 5 (sn_ldI dX4_raceAt_5 rfl)) (dt_Sl 7 (sn_ldAn rfl dX4_raceAt_7 rfl))) (dt_Sb (dt_Sl 8 (sn_getfN rfl ffX5 (by decide) wq_1_54 dX4_raceAt_8 rfl)) (dt_Sb (dt_Sl 11 (sn_icmpge dX4_raceAt_11 (by decide) rfl)) (dt_Sl 14 (sn_ldI dX4_raceAt_14 rfl)))))) (dt_Sb (dt_Sb (dt_Sb (dt_Sl 16 (sn_ic ⟨by decide, by decide⟩ dX4_raceAt_16 rfl)) (dt_Sl 17 (sn_iadd dX4_raceAt_17 rfl))) (dt_Sb (dt_Sl 18 (sn_stI (by decide) dX4_raceAt_18 rfl)) (dt_Sb (dt_Sl 20 (sn_ldI dX4_raceAt_20 rfl)) (dt_Sl 22 (sn_ldAn rfl dX4_raceAt_22 rfl))))) (dt_Sb (dt_Sb (dt_Sl 23 (sn_getfN rfl ffX5 (by decide) wq_1_54 dX4_raceAt_23 rfl)) (dt_Sl 26 (sn_icmpge dX4_raceAt_26 (by decide) rfl))) (dt_Sb (dt_Sl 29 (sn_ldAn rfl dX4_raceAt_29 rfl)) (dt_Sb (dt_Sl 30 (sn_ldAn rfl dX4_raceAt_30 rfl)) (dt_Sl 31 (sn_ldI dX4_raceAt_31 rfl))))))) (dt_Sb (dt_Sb (dt_Sb (dt_Sb (dt_Sl 33 (sn_ldI dX4_raceAt_33 rfl)) (dt_Sl 35 (sn_callV rfl ffX4 nnX4_isRace rfl wq_2_198 wq_2_200 wq_0_9 dX4_raceAt_35 rfl))) (dt_Sb (dt_Sl 38 (sn_ifeq dX4_raceAt_38 (by decide) rfl)) (dt_Sl 41 (sn_ldIn rfl dX4_raceAt_41 rfl)))) (dt_Sb (dt_Sb (dt_Sl 42 (sn_ldIn rfl dX4_raceAt_42 rfl)) (dt_Sl 43 (sn_icmpne dX4_raceAt_43 (by decide) rfl))) (dt_Sb (dt_Sl 46 (sn_bi ⟨by decide, by decide⟩ rfl dX4_raceAt_46 rfl)) (dt_Sb (dt_Sl 48 (sn_ldI dX4_raceAt_48 rfl)) (dt_Sl 50 (sn_imul dX4_raceAt_50 rfl)))))) (dt_Sb (dt_Sb (dt_Sb (dt_Sl 51 (sn_ldI dX4_raceAt_51 rfl)) (dt_Sl 53 (sn_iadd dX4_raceAt_53 rfl))) (dt_Sb (dt_Sl 54 (sn_iret rfl dX4_raceAt_54)) (dt_Sb (dt_Sl 55 (sn_iinc (by decide) dX4_raceAt_55 rfl)) (dt_Sl 58 (sn_iinc (by decide) dX4_raceAt_58 rfl))))) (dt_Sb (dt_Sb (dt_Sl 61 (sn_goto dX4_raceAt_61 (by decide))) (dt_Sl 64 (sn_iinc (by decide) dX4_raceAt_64 rfl))) (dt_Sb (dt_Sl 67 (sn_goto dX4_raceAt_67 (by decide))) (dt_Sb (dt_Sl 70 (sn_ic ⟨by decide, by decide⟩ dX4_raceAt_70 rfl)) (dt_Sl 71 (sn_iret rfl dX4_raceAt_71)))))))
