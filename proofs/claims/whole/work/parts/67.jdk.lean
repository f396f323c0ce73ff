/-! ===== the JDK: length() and charAt(k) of the two text constants ===== -/
theorem dJ0_length_8abf5_0 : decode cJ0_length_8abf5 0 = .ok (.aload_n 0, 1) := by decide +kernel
theorem dJ0_length_8abf5_1 : decode cJ0_length_8abf5 1 = .ok (.getfield 9, 3) := by decide +kernel
theorem dJ0_length_8abf5_4 : decode cJ0_length_8abf5 4 = .ok (.arraylength, 1) := by decide +kernel
theorem dJ0_length_8abf5_5 : decode cJ0_length_8abf5 5 = .ok (.aload_n 0, 1) := by decide +kernel
theorem dJ0_length_8abf5_6 : decode cJ0_length_8abf5 6 = .ok (.invokevirtual 335, 3) := by decide +kernel
theorem dJ0_length_8abf5_9 : decode cJ0_length_8abf5 9 = .ok (.ishr, 1) := by decide +kernel
theorem dJ0_length_8abf5_10 : decode cJ0_length_8abf5 10 = .ok (.ireturn, 1) := by decide +kernel
theorem dJ0_charAt_5068e_0 : decode cJ0_charAt_5068e 0 = .ok (.aload_n 0, 1) := by decide +kernel
theorem dJ0_charAt_5068e_1 : decode cJ0_charAt_5068e 1 = .ok (.invokevirtual 492, 3) := by decide +kernel
theorem dJ0_charAt_5068e_4 : decode cJ0_charAt_5068e 4 = .ok (.ifCond .eq 12, 3) := by decide +kernel
theorem dJ0_charAt_5068e_7 : decode cJ0_charAt_5068e 7 = .ok (.aload_n 0, 1) := by decide +kernel
theorem dJ0_charAt_5068e_8 : decode cJ0_charAt_5068e 8 = .ok (.getfield 9, 3) := by decide +kernel
theorem dJ0_charAt_5068e_11 : decode cJ0_charAt_5068e 11 = .ok (.iload_n 1, 1) := by decide +kernel
theorem dJ0_charAt_5068e_12 : decode cJ0_charAt_5068e 12 = .ok (.invokestatic 495, 3) := by decide +kernel
theorem dJ0_charAt_5068e_15 : decode cJ0_charAt_5068e 15 = .ok (.ireturn, 1) := by decide +kernel
theorem dJ0_charAt_5068e_16 : decode cJ0_charAt_5068e 16 = .ok (.aload_n 0, 1) := by decide +kernel
theorem dJ0_charAt_5068e_17 : decode cJ0_charAt_5068e 17 = .ok (.getfield 9, 3) := by decide +kernel
theorem dJ0_charAt_5068e_20 : decode cJ0_charAt_5068e 20 = .ok (.iload_n 1, 1) := by decide +kernel
theorem dJ0_charAt_5068e_21 : decode cJ0_charAt_5068e 21 = .ok (.invokestatic 498, 3) := by decide +kernel
theorem dJ0_charAt_5068e_24 : decode cJ0_charAt_5068e 24 = .ok (.ireturn, 1) := by decide +kernel
theorem dJ0_coder_7d493_0 : decode cJ0_coder_7d493 0 = .ok (.getstatic 38, 3) := by decide +kernel
theorem dJ0_coder_7d493_3 : decode cJ0_coder_7d493 3 = .ok (.ifCond .eq 10, 3) := by decide +kernel
theorem dJ0_coder_7d493_6 : decode cJ0_coder_7d493 6 = .ok (.aload_n 0, 1) := by decide +kernel
theorem dJ0_coder_7d493_7 : decode cJ0_coder_7d493 7 = .ok (.getfield 15, 3) := by decide +kernel
theorem dJ0_coder_7d493_10 : decode cJ0_coder_7d493 10 = .ok (.goto 4, 3) := by decide +kernel
theorem dJ0_coder_7d493_13 : decode cJ0_coder_7d493 13 = .ok (.iconst 1, 1) := by decide +kernel
theorem dJ0_coder_7d493_14 : decode cJ0_coder_7d493 14 = .ok (.ireturn, 1) := by decide +kernel
theorem dJ0_isLatin1_aae02_0 : decode cJ0_isLatin1_aae02 0 = .ok (.getstatic 38, 3) := by decide +kernel
theorem dJ0_isLatin1_aae02_3 : decode cJ0_isLatin1_aae02 3 = .ok (.ifCond .eq 14, 3) := by decide +kernel
theorem dJ0_isLatin1_aae02_6 : decode cJ0_isLatin1_aae02 6 = .ok (.aload_n 0, 1) := by decide +kernel
theorem dJ0_isLatin1_aae02_7 : decode cJ0_isLatin1_aae02 7 = .ok (.getfield 15, 3) := by decide +kernel
theorem dJ0_isLatin1_aae02_10 : decode cJ0_isLatin1_aae02 10 = .ok (.ifCond .ne 7, 3) := by decide +kernel
theorem dJ0_isLatin1_aae02_13 : decode cJ0_isLatin1_aae02 13 = .ok (.iconst 1, 1) := by decide +kernel
theorem dJ0_isLatin1_aae02_14 : decode cJ0_isLatin1_aae02 14 = .ok (.goto 4, 3) := by decide +kernel
theorem dJ0_isLatin1_aae02_17 : decode cJ0_isLatin1_aae02 17 = .ok (.iconst 0, 1) := by decide +kernel
theorem dJ0_isLatin1_aae02_18 : decode cJ0_isLatin1_aae02 18 = .ok (.ireturn, 1) := by decide +kernel
theorem dJ0_checkIndex_df160_0 : decode cJ0_checkIndex_df160 0 = .ok (.iload_n 0, 1) := by decide +kernel
theorem dJ0_checkIndex_df160_1 : decode cJ0_checkIndex_df160 1 = .ok (.iload_n 1, 1) := by decide +kernel
theorem dJ0_checkIndex_df160_2 : decode cJ0_checkIndex_df160 2 = .ok (.getstatic 1053, 3) := by decide +kernel
theorem dJ0_checkIndex_df160_5 : decode cJ0_checkIndex_df160 5 = .ok (.invokestatic 1059, 3) := by decide +kernel
theorem dJ0_checkIndex_df160_8 : decode cJ0_checkIndex_df160 8 = .ok (.pop, 1) := by decide +kernel
theorem dJ0_checkIndex_df160_9 : decode cJ0_checkIndex_df160 9 = .ok (.return_, 1) := by decide +kernel
theorem dJ1_charAt_3b067_0 : decode cJ1_charAt_3b067 0 = .ok (.iload_n 1, 1) := by decide +kernel
theorem dJ1_charAt_3b067_1 : decode cJ1_charAt_3b067 1 = .ok (.aload_n 0, 1) := by decide +kernel
theorem dJ1_charAt_3b067_2 : decode cJ1_charAt_3b067 2 = .ok (.arraylength, 1) := by decide +kernel
theorem dJ1_charAt_3b067_3 : decode cJ1_charAt_3b067 3 = .ok (.invokestatic 9, 3) := by decide +kernel
theorem dJ1_charAt_3b067_6 : decode cJ1_charAt_3b067 6 = .ok (.aload_n 0, 1) := by decide +kernel
theorem dJ1_charAt_3b067_7 : decode cJ1_charAt_3b067 7 = .ok (.iload_n 1, 1) := by decide +kernel
theorem dJ1_charAt_3b067_8 : decode cJ1_charAt_3b067 8 = .ok (.baload, 1) := by decide +kernel
theorem dJ1_charAt_3b067_9 : decode cJ1_charAt_3b067 9 = .ok (.sipush 255, 3) := by decide +kernel
theorem dJ1_charAt_3b067_12 : decode cJ1_charAt_3b067 12 = .ok (.iand, 1) := by decide +kernel
theorem dJ1_charAt_3b067_13 : decode cJ1_charAt_3b067 13 = .ok (.i2c, 1) := by decide +kernel
theorem dJ1_charAt_3b067_14 : decode cJ1_charAt_3b067 14 = .ok (.ireturn, 1) := by decide +kernel
theorem dJ3_checkIndex_8e157_0 : decode cJ3_checkIndex_8e157 0 = .ok (.iload_n 0, 1) := by decide +kernel
theorem dJ3_checkIndex_8e157_1 : decode cJ3_checkIndex_8e157 1 = .ok (.ifCond .lt 8, 3) := by decide +kernel
theorem dJ3_checkIndex_8e157_4 : decode cJ3_checkIndex_8e157 4 = .ok (.iload_n 0, 1) := by decide +kernel
theorem dJ3_checkIndex_8e157_5 : decode cJ3_checkIndex_8e157 5 = .ok (.iload_n 1, 1) := by decide +kernel
theorem dJ3_checkIndex_8e157_6 : decode cJ3_checkIndex_8e157 6 = .ok (.if_icmp .lt 10, 3) := by decide +kernel
theorem dJ3_checkIndex_8e157_9 : decode cJ3_checkIndex_8e157 9 = .ok (.aload_n 2, 1) := by decide +kernel
theorem dJ3_checkIndex_8e157_10 : decode cJ3_checkIndex_8e157 10 = .ok (.iload_n 0, 1) := by decide +kernel
theorem dJ3_checkIndex_8e157_11 : decode cJ3_checkIndex_8e157 11 = .ok (.iload_n 1, 1) := by decide +kernel
theorem dJ3_checkIndex_8e157_12 : decode cJ3_checkIndex_8e157 12 = .ok (.invokestatic 95, 3) := by decide +kernel
theorem dJ3_checkIndex_8e157_15 : decode cJ3_checkIndex_8e157 15 = .ok (.athrow, 1) := by decide +kernel
theorem dJ3_checkIndex_8e157_16 : decode cJ3_checkIndex_8e157 16 = .ok (.iload_n 0, 1) := by decide +kernel
theorem dJ3_checkIndex_8e157_17 : decode cJ3_checkIndex_8e157 17 = .ok (.ireturn, 1) := by decide +kernel
abbrev mJ_len : dt_Y := (yJ0_length_8abf5, cJ0_length_8abf5, 1, some .int)
abbrev mJ_cod : dt_Y := (yJ0_coder_7d493, cJ0_coder_7d493, 1, some .byte)
abbrev mJ_lat : dt_Y := (yJ0_isLatin1_aae02, cJ0_isLatin1_aae02, 1, some .boolean)
abbrev mJ_at : dt_Y := (yJ0_charAt_5068e, cJ0_charAt_5068e, 2, some .char)
abbrev mJ_chk : dt_Y := (yJ0_checkIndex_df160, cJ0_checkIndex_df160, 2, none)
abbrev mJ_at1 : dt_Y := (yJ1_charAt_3b067, cJ1_charAt_3b067, 2, some .char)
abbrev mJ_pre : dt_Y := (yJ3_checkIndex_8e157, cJ3_checkIndex_8e157, 3, some .int)
theorem nJ_len : dt_N mJ_len 0 := ⟨wq_2_45, wq_1_9, ⟨by decide +kernel, by decide +kernel, by decide +kernel⟩, by decide⟩
theorem nJ_cod : dt_N mJ_cod 0 := ⟨wq_2_49, wq_1_9, ⟨by decide +kernel, by decide +kernel, by decide +kernel⟩, by decide⟩
theorem nJ_lat : dt_N mJ_lat 0 := ⟨wq_2_59, wq_1_9, ⟨by decide +kernel, by decide +kernel, by decide +kernel⟩, by decide⟩
theorem nJ_at : dt_N mJ_at 1 := ⟨wq_2_55, wq_1_9, ⟨by decide +kernel, by decide +kernel, by decide +kernel⟩, by decide⟩
theorem nJ_chk : dt_N mJ_chk 2 := ⟨wq_2_65, wq_1_9, ⟨by decide +kernel, by decide +kernel, by decide +kernel⟩, by decide⟩
theorem nJ_at1 : dt_N mJ_at1 2 := ⟨wq_2_62, wq_1_10, ⟨by decide +kernel, by decide +kernel, by decide +kernel⟩, by decide⟩
theorem nJ_pre : dt_N mJ_pre 3 := ⟨wq_2_70, wq_1_11, ⟨by decide +kernel, by decide +kernel, by decide +kernel⟩, by decide⟩
abbrev js_0 : Nat → Prop := fun _ => False
def js_B (ad adV : Nat → Nat) (U : State) : Prop := vk_S 2 [4, 4] [[115, 101, 110, 100], [116, 97, 107, 101]] (fun i => ad (86 + i)) adV js_0 U U.heap ∧ va_Z "java/lang/String" "COMPACT_STRINGS" "Z" (.int 1) js_0 U U.heap ∧ va_Zq "jdk/internal/util/Preconditions" "SIOOBE_FORMATTER" "Ljava/util/function/BiFunction;" js_0 U U.heap
theorem js_blind {ad adV : Nat → Nat} {av : List Value} : FrameBlind (va_Pc av (js_B ad adV)) := by
  intro a U g mk q
  obtain ⟨h1, h2, h3, h4⟩ := q
  exact ⟨h1, vk_S.moved (u := U) (U := U.calling g mk a) (Vm.Alike.refl U.vm) h2, va_Z.moved (u := U) (U := U.calling g mk a) (Vm.Alike.refl U.vm) h3, va_Zq.moved (u := U) (U := U.calling g mk a) (Vm.Alike.refl U.vm) h4⟩
theorem js_pre {ad adV : Nat → Nat} {av : List Value} {s : State} {H : Heap} {locs : List Loc} (h : js_B ad adV s) (hS : va_S js_0 s.heap H locs) : PreS s H (va_Pc av (js_B ad adV)) av := by
  refine ⟨js_blind, fun U hU hw => ⟨rfl, ?_⟩⟩
  obtain ⟨h2, h3, h4⟩ := h
  unfold js_B
  rw [hU]
  exact ⟨(h2.kept hS.2.1).moved hw.alike, (h3.kept hS.2.1).moved hw.alike, (h4.kept hS.2.1).moved hw.alike⟩
def js_Sp (y : dt_Y) (d : Nat) (ad adV : Nat → Nat) (av : List Value) (v : Int32) : Prop := ∀ l : Launch, Met l y.1 (Cond.code y.1 y.2.1 y.2.2.1 y.2.2.2 :: dt_W0) (dt_room d) (va_Pc av (js_B ad adV)) (va_Qi (S := Unit) (fun r _ => r = v) (fun _ _ => True) js_0) 0 0 js_0
theorem js_l4 : ∀ i : Nat, i < 2 → Int32.ofNat (([4, 4] : List Nat).getD i 0) = 4 := by decide
theorem js_k0 : ∀ k : Nat, k < 4 → ¬ Int32.ofNat k < 0 := by decide
theorem js_k4 : ∀ k : Nat, k < 4 → Int32.ofNat k < 4 := by decide
theorem js_cl : ∀ k : Nat, k < 4 → (Int32.ofNat k).toNatClampNeg = k := by decide
theorem js_in : ∀ i : Nat, i < 2 → ∀ k : Nat, k < 4 → vp_in (Int32.ofNat k) (([4, 4] : List Nat).getD i 0) := by unfold vp_in; decide
theorem js_sl {x : Int32} {v : Value} (hv : v.category = 1) : (lg_sl [Value.int x, Value.int 4, v]).length ≤ 3 := by
  cases v <;> first | exact Nat.le_of_ble_eq_true rfl | (exact absurd hv (by decide)) | cases hv
def js_by (i k : Nat) : Int32 := (([[115, 101, 110, 100], [116, 97, 107, 101]] : List (List Int32)).getD i []).getD k 0

theorem js_cod (d i : Nat) (ad adV : Nat → Nat) (hi : i < 2) : js_Sp mJ_cod d ad adV [.ref (ad (86 + i))] 0 := by
  intro l
  refine Met.ofW (cc := cJ0_coder_7d493) (maxL := 1) (ret := (some .byte)) (by decide) rfl ?_
  intro p e s m args below meth c s₁ B hml hv
  obtain ⟨rfl, hB⟩ := hv
  obtain ⟨hE, hZ, hQ⟩ := id hB
  have hx := B.exec
  have hb := B.bytes
  have hr := B.returns
  have hts0 := atoms_spec B.pre
  have hts : ∀ w ∈ dt_W0, w.before _ s = true := fun w hw => hts0 w (List.mem_cons_of_mem _ hw)
  have hown : s.vm.findClass RJ0 = some m.cls := findClass_of_methodNamed B.named
  have hlocks := B.notSynchronized
  have hS : va_S js_0 s.heap s.heap [] := va_S.rf
  have hl := lv_entry ([Value.ref (ad (86 + i))]) (n := 1) (Nat.le_of_ble_eq_true rfl)
  rw [lg_entry_eq]
  generalize (lg_sl ([Value.ref (ad (86 + i))]) ++ List.replicate (1 - (lg_sl ([Value.ref (ad (86 + i))])).length) Slot.unset).toArray = ls at hl ⊢
  have hl : lv_has ls 1 [(0, .ref (ad (86 + i)))] := hl
  refine va_gets (C := "java/lang/String") (n := "COMPACT_STRINGS") (d := "Z") hx hb hZ hS hown (hts _ wq_2_50) (fun _ h => h) dJ0_coder_7d493_0 ?_
  refine lv_if_eq (tgt := 13) hx hb dJ0_coder_7d493_3 (by decide) (fun q => absurd q (by decide)) (fun _ => ?_)
  refine lv_aload_n hx hb dJ0_coder_7d493_6 rfl (lv_at hl 0 rfl) ?_
  refine vk_getf hx hb (hE.1 i hi).2.1 hS hown (hts _ wq_4_224) (fun _ h => h) dJ0_coder_7d493_7 ?_
  refine lv_goto (tgt := 14) hx hb dJ0_coder_7d493_10 (by decide) ?_
  exact W.zret (ty := .byte) hx hb hr (by decide) (fun t ht hW => ⟨⟨0, (), rfl, rfl, trivial⟩, hS.F ht⟩) hS.2.2 dJ0_coder_7d493_14
theorem js_lat (d i : Nat) (ad adV : Nat → Nat) (hi : i < 2) : js_Sp mJ_lat d ad adV [.ref (ad (86 + i))] 1 := by
  intro l
  refine Met.ofW (cc := cJ0_isLatin1_aae02) (maxL := 1) (ret := (some .boolean)) (by decide) rfl ?_
  intro p e s m args below meth c s₁ B hml hv
  obtain ⟨rfl, hB⟩ := hv
  obtain ⟨hE, hZ, hQ⟩ := id hB
  have hx := B.exec
  have hb := B.bytes
  have hr := B.returns
  have hts0 := atoms_spec B.pre
  have hts : ∀ w ∈ dt_W0, w.before _ s = true := fun w hw => hts0 w (List.mem_cons_of_mem _ hw)
  have hown : s.vm.findClass RJ0 = some m.cls := findClass_of_methodNamed B.named
  have hlocks := B.notSynchronized
  have hS : va_S js_0 s.heap s.heap [] := va_S.rf
  have hl := lv_entry ([Value.ref (ad (86 + i))]) (n := 1) (Nat.le_of_ble_eq_true rfl)
  rw [lg_entry_eq]
  generalize (lg_sl ([Value.ref (ad (86 + i))]) ++ List.replicate (1 - (lg_sl ([Value.ref (ad (86 + i))])).length) Slot.unset).toArray = ls at hl ⊢
  have hl : lv_has ls 1 [(0, .ref (ad (86 + i)))] := hl
  refine va_gets (C := "java/lang/String") (n := "COMPACT_STRINGS") (d := "Z") hx hb hZ hS hown (hts _ wq_2_50) (fun _ h => h) dJ0_isLatin1_aae02_0 ?_
  refine lv_if_eq (tgt := 17) hx hb dJ0_isLatin1_aae02_3 (by decide) (fun q => absurd q (by decide)) (fun _ => ?_)
  refine lv_aload_n hx hb dJ0_isLatin1_aae02_6 rfl (lv_at hl 0 rfl) ?_
  refine vk_getf hx hb (hE.1 i hi).2.1 hS hown (hts _ wq_4_224) (fun _ h => h) dJ0_isLatin1_aae02_7 ?_
  refine lv_if_ne (tgt := 17) hx hb dJ0_isLatin1_aae02_10 (by decide) (fun q => absurd rfl q) (fun _ => ?_)
  refine lv_iconst (v := 1) hx hb dJ0_isLatin1_aae02_13 (by decide) ?_
  refine lv_goto (tgt := 18) hx hb dJ0_isLatin1_aae02_14 (by decide) ?_
  exact W.zret (ty := .boolean) hx hb hr (by decide) (fun t ht hW => ⟨⟨1, (), rfl, rfl, trivial⟩, hS.F ht⟩) hS.2.2 dJ0_isLatin1_aae02_18
theorem js_len (d i : Nat) (ad adV : Nat → Nat) (hi : i < 2) : js_Sp mJ_len (d + 1) ad adV [.ref (ad (86 + i))] 4 := by
  intro l
  refine Met.ofW (cc := cJ0_length_8abf5) (maxL := 1) (ret := (some .int)) (by decide) rfl ?_
  intro p e s m args below meth c s₁ B hml hv
  obtain ⟨rfl, hB⟩ := hv
  obtain ⟨hE, hZ, hQ⟩ := id hB
  have hx := B.exec
  have hb := B.bytes
  have hr := B.returns
  have hts0 := atoms_spec B.pre
  have hts : ∀ w ∈ dt_W0, w.before _ s = true := fun w hw => hts0 w (List.mem_cons_of_mem _ hw)
  have hown : s.vm.findClass RJ0 = some m.cls := findClass_of_methodNamed B.named
  have hlocks := B.notSynchronized
  have hS : va_S js_0 s.heap s.heap [] := va_S.rf
  have hl := lv_entry ([Value.ref (ad (86 + i))]) (n := 1) (Nat.le_of_ble_eq_true rfl)
  rw [lg_entry_eq]
  generalize (lg_sl ([Value.ref (ad (86 + i))]) ++ List.replicate (1 - (lg_sl ([Value.ref (ad (86 + i))])).length) Slot.unset).toArray = ls at hl ⊢
  have hl : lv_has ls 1 [(0, .ref (ad (86 + i)))] := hl
  refine lv_aload_n hx hb dJ0_length_8abf5_0 rfl (lv_at hl 0 rfl) ?_
  refine vk_getf hx hb (hE.1 i hi).2.2.1 hS hown (hts _ wq_4_223) (fun _ h => h) dJ0_length_8abf5_1 ?_
  refine va_tlen (v := 4) hx hb (hE.1 i hi).2.2.2 hS (js_l4 i hi) dJ0_length_8abf5_4 ?_
  refine lv_aload_n hx hb dJ0_length_8abf5_5 rfl (lv_at hl 0 rfl) ?_
  refine va_calli (va_runV (As := []) (rest := [.int 4]) (b := ad (86 + i)) (C := "java/lang/String") (n := 0) (index := 335) ⟨hx, hb, hml, hown, hts⟩ (js_cod d i ad adV hi l)
    (⟨callB_of 0 hts (dc_good nJ_cod.1) rfl rfl rfl (hts _ nJ_cod.2.1) (hts _ wq_2_46) nJ_cod.2.2.1 ⟨Nat.le_refl _, by show 8 + (1 + 11) + 39 * d ≤ 39 * (d + 1); omega⟩, hts _ wq_2_47, hts _ wq_2_48⟩)
    ⟨(js_pre hB hS).1, vk_recv (adK := fun i => ad (86 + i)) hE hi hS, (js_pre hB hS).2⟩ rfl rfl hl.1 rfl (Nat.le_of_ble_eq_true rfl) dJ0_length_8abf5_6 ⟨Nat.le_refl _, Nat.le_refl _⟩) hS (fun q _ h => h) (fun q h => h) (fun r u t H1 locs ht hvm h5 hB1 hz1 hk1 hS => ?_)
  subst h5
  refine lv_ishr hx hb dJ0_length_8abf5_9 ?_
  exact W.iret (v := (4 : Int32) >>> ((0 : Int32) &&& 31)) hx hb hr (fun t ht hW => ⟨⟨4, (), rfl, rfl, trivial⟩, hS.F ht⟩) hS.2.2 dJ0_length_8abf5_10
theorem js_pr (d k : Nat) (ad adV : Nat → Nat) (v : Value) (hk : k < 4) (hv : v.category = 1) : js_Sp mJ_pre d ad adV [.int (Int32.ofNat k), .int 4, v] (Int32.ofNat k) := by
  intro l
  refine Met.ofW (cc := cJ3_checkIndex_8e157) (maxL := 3) (ret := (some .int)) (by decide) rfl ?_
  intro p e s m args below meth c s₁ B hml hv
  obtain ⟨rfl, hB⟩ := hv
  obtain ⟨hE, hZ, hQ⟩ := id hB
  have hx := B.exec
  have hb := B.bytes
  have hr := B.returns
  have hts0 := atoms_spec B.pre
  have hts : ∀ w ∈ dt_W0, w.before _ s = true := fun w hw => hts0 w (List.mem_cons_of_mem _ hw)
  have hown : s.vm.findClass RJ3 = some m.cls := findClass_of_methodNamed B.named
  have hlocks := B.notSynchronized
  have hS : va_S js_0 s.heap s.heap [] := va_S.rf
  have hl := lv_entry ([Value.int (Int32.ofNat k), Value.int 4, v]) (n := 3) (js_sl hv)
  rw [lg_entry_eq]
  generalize (lg_sl ([Value.int (Int32.ofNat k), Value.int 4, v]) ++ List.replicate (3 - (lg_sl ([Value.int (Int32.ofNat k), Value.int 4, v])).length) Slot.unset).toArray = ls at hl ⊢
  have hl : lv_has ls 3 [(0, .int (Int32.ofNat k)), (1, .int 4), (2, v)] := hl
  refine lv_iload_n hx hb dJ3_checkIndex_8e157_0 rfl (lv_at hl 0 rfl) ?_
  refine lv_if_lt (tgt := 9) hx hb dJ3_checkIndex_8e157_1 (by decide) (fun q => absurd q (js_k0 k hk)) (fun _ => ?_)
  refine lv_iload_n hx hb dJ3_checkIndex_8e157_4 rfl (lv_at hl 0 rfl) ?_
  refine lv_iload_n hx hb dJ3_checkIndex_8e157_5 rfl (lv_at hl 1 rfl) ?_
  refine lv_icmp_lt (tgt := 16) hx hb dJ3_checkIndex_8e157_6 (by decide) (fun _ => ?_) (fun q => absurd (js_k4 k hk) q)
  refine lv_iload_n hx hb dJ3_checkIndex_8e157_16 rfl (lv_at hl 0 rfl) ?_
  exact W.iret hx hb hr (fun t ht hW => ⟨⟨_, (), rfl, rfl, trivial⟩, hS.F ht⟩) hS.2.2 dJ3_checkIndex_8e157_17
theorem js_chk (l : Launch) (d k : Nat) (ad adV : Nat → Nat) (hk : k < 4) : Met l mJ_chk.1 (Cond.code mJ_chk.1 mJ_chk.2.1 2 none :: dt_W0) (dt_room (d + 1)) (va_Pc [.int (Int32.ofNat k), .int 4] (js_B ad adV)) (va_Qv (S := Unit) (fun _ => True) (fun _ _ => True) js_0) 0 0 js_0 := by
  refine Met.ofW (cc := cJ0_checkIndex_df160) (maxL := 2) (ret := none) (by decide) rfl ?_
  intro p e s m args below meth c s₁ B hml hv
  obtain ⟨rfl, hB⟩ := hv
  obtain ⟨hE, hZ, hQ⟩ := id hB
  have hx := B.exec
  have hb := B.bytes
  have hr := B.returns
  have hts0 := atoms_spec B.pre
  have hts : ∀ w ∈ dt_W0, w.before _ s = true := fun w hw => hts0 w (List.mem_cons_of_mem _ hw)
  have hown : s.vm.findClass RJ0 = some m.cls := findClass_of_methodNamed B.named
  have hlocks := B.notSynchronized
  have hS : va_S js_0 s.heap s.heap [] := va_S.rf
  have hl := lv_entry ([Value.int (Int32.ofNat k), Value.int 4]) (n := 2) (Nat.le_of_ble_eq_true rfl)
  rw [lg_entry_eq]
  generalize (lg_sl ([Value.int (Int32.ofNat k), Value.int 4]) ++ List.replicate (2 - (lg_sl ([Value.int (Int32.ofNat k), Value.int 4])).length) Slot.unset).toArray = ls at hl ⊢
  have hl : lv_has ls 2 [(0, .int (Int32.ofNat k)), (1, .int 4)] := hl
  refine lv_iload_n hx hb dJ0_checkIndex_df160_0 rfl (lv_at hl 0 rfl) ?_
  refine lv_iload_n hx hb dJ0_checkIndex_df160_1 rfl (lv_at hl 1 rfl) ?_
  have go : ∀ v : Value, v.category = 1 → va_Z "jdk/internal/util/Preconditions" "SIOOBE_FORMATTER" "Ljava/util/function/BiFunction;" v js_0 s s.heap → W p l e (dt_room (d + 1)) s m [Value.int (Int32.ofNat k), Value.int 4].toArray below meth c s.heap [] 0 0 (MQ below (va_Qv (S := Unit) (fun _ => True) (fun _ _ => True) js_0) [Value.int (Int32.ofNat k), Value.int 4].toArray s 0 0 js_0) (F0 m 2 ls [.int 4, .int (Int32.ofNat k)]) := by
    intro v hv hz
    refine va_gets (C := "jdk/internal/util/Preconditions") (n := "SIOOBE_FORMATTER") (d := "Ljava/util/function/BiFunction;") hx hb hz hS hown (hts _ wq_2_66) (fun _ h => h) dJ0_checkIndex_df160_2 ?_
    refine va_calli (va_runS (As := [.int (Int32.ofNat k), .int 4, v]) (rest := []) (n := 3) (index := 1059) ⟨hx, hb, hml, hown, hts⟩ (js_pr d k ad adV v hk hv l)
      (⟨callB_of 3 hts (dc_good nJ_pre.1) rfl rfl rfl (hts _ nJ_pre.2.1) (hts _ wq_2_68) nJ_pre.2.2.1 ⟨Nat.le_refl _, by show 8 + (3 + 11) + 39 * d ≤ 39 * (d + 1); omega⟩, hts _ wq_2_69⟩)
      (js_pre hB hS) rfl rfl hl.1 rfl (Nat.le_of_ble_eq_true rfl) dJ0_checkIndex_df160_5 ⟨Nat.le_refl _, Nat.le_refl _⟩) hS (fun q _ h => h) (fun q h => h) (fun r u t H1 locs ht hvm h5 hB1 hz1 hk1 hS => ?_)
    refine lv_pop hx hb dJ0_checkIndex_df160_8 rfl ?_
    exact W.vret hx hb hr (fun t ht hW => ⟨⟨(), rfl, trivial, trivial⟩, hS.F ht⟩) hS.2.2 dJ0_checkIndex_df160_9
  rcases hQ with h | ⟨t, h⟩
  · exact go _ rfl h
  · exact go _ rfl h
theorem js_i2c : ∀ i : Nat, i < 2 → ∀ k : Nat, k < 4 → (((js_by i k &&& 255).toUInt32 % 65536).toInt32 = js_by i k ∧ narrow .char (.int (js_by i k)) = .int (js_by i k)) := by
  intro i hi k hk
  match i, hi, k, hk with
  | 0, _, 0, _ => exact ⟨by decide, by decide⟩
  | 0, _, 1, _ => exact ⟨by decide, by decide⟩
  | 0, _, 2, _ => exact ⟨by decide, by decide⟩
  | 0, _, 3, _ => exact ⟨by decide, by decide⟩
  | 1, _, 0, _ => exact ⟨by decide, by decide⟩
  | 1, _, 1, _ => exact ⟨by decide, by decide⟩
  | 1, _, 2, _ => exact ⟨by decide, by decide⟩
  | 1, _, 3, _ => exact ⟨by decide, by decide⟩
theorem js_at1 (d i k : Nat) (ad adV : Nat → Nat) (hi : i < 2) (hk : k < 4) : js_Sp mJ_at1 (d + 2) ad adV [.ref (adV i), .int (Int32.ofNat k)] (js_by i k) := by
  intro l
  refine Met.ofW (cc := cJ1_charAt_3b067) (maxL := 2) (ret := (some .char)) (by decide) rfl ?_
  intro p e s m args below meth c s₁ B hml hv
  obtain ⟨rfl, hB⟩ := hv
  obtain ⟨hE, hZ, hQ⟩ := id hB
  have hx := B.exec
  have hb := B.bytes
  have hr := B.returns
  have hts0 := atoms_spec B.pre
  have hts : ∀ w ∈ dt_W0, w.before _ s = true := fun w hw => hts0 w (List.mem_cons_of_mem _ hw)
  have hown : s.vm.findClass RJ1 = some m.cls := findClass_of_methodNamed B.named
  have hlocks := B.notSynchronized
  have hS : va_S js_0 s.heap s.heap [] := va_S.rf
  have hl := lv_entry ([Value.ref (adV i), Value.int (Int32.ofNat k)]) (n := 2) (Nat.le_of_ble_eq_true rfl)
  rw [lg_entry_eq]
  generalize (lg_sl ([Value.ref (adV i), Value.int (Int32.ofNat k)]) ++ List.replicate (2 - (lg_sl ([Value.ref (adV i), Value.int (Int32.ofNat k)])).length) Slot.unset).toArray = ls at hl ⊢
  have hl : lv_has ls 2 [(0, .ref (adV i)), (1, .int (Int32.ofNat k))] := hl
  have hin := js_in i hi k hk
  have hcl : (Int32.ofNat k).toNatClampNeg = k := js_cl k hk
  refine lv_iload_n hx hb dJ1_charAt_3b067_0 rfl (lv_at hl 1 rfl) ?_
  refine lv_aload_n hx hb dJ1_charAt_3b067_1 rfl (lv_at hl 0 rfl) ?_
  refine va_tlen (v := 4) hx hb (hE.1 i hi).2.2.2 hS (js_l4 i hi) dJ1_charAt_3b067_2 ?_
  refine va_callv (va_runS (As := [.int (Int32.ofNat k), .int 4]) (rest := []) (n := 2) (index := 9) ⟨hx, hb, hml, hown, hts⟩ (js_chk l d k ad adV hk)
      (⟨callB_of 2 hts (dc_good nJ_chk.1) rfl rfl rfl (hts _ nJ_chk.2.1) (hts _ wq_2_63) nJ_chk.2.2.1 ⟨Nat.le_refl _, by show 8 + (2 + 11) + 39 * (d + 1) ≤ 39 * (d + 2); omega⟩, hts _ wq_2_64⟩)
      (js_pre hB hS) rfl rfl hl.1 rfl (Nat.le_of_ble_eq_true rfl) dJ1_charAt_3b067_3 ⟨Nat.le_refl _, Nat.le_refl _⟩) hS (fun q _ h => h) (fun q h => h) (fun u t H1 locs ht hvm h5 hB1 hz1 hk1 hS => ?_)
  refine lv_aload_n hx hb dJ1_charAt_3b067_6 rfl (lv_at hl 0 rfl) ?_
  refine lv_iload_n hx hb dJ1_charAt_3b067_7 rfl (lv_at hl 1 rfl) ?_
  refine va_tb (v := .int (js_by i k)) hx hb (hE.1 i hi).2.2.2 hS hin (by rw [hcl]; rfl) dJ1_charAt_3b067_8 ?_
  refine lv_sipush (v := 255) hx hb dJ1_charAt_3b067_9 rfl ?_
  refine lv_iand hx hb dJ1_charAt_3b067_12 ?_
  refine lv_i2c hx hb dJ1_charAt_3b067_13 (js_i2c i hi k hk).1 ?_
  exact W.zret (ty := .char) hx hb hr (js_i2c i hi k hk).2 (fun t ht hW => ⟨⟨_, (), rfl, rfl, trivial⟩, hS.F ht⟩) hS.2.2 dJ1_charAt_3b067_14
theorem js_at (d i k : Nat) (ad adV : Nat → Nat) (hi : i < 2) (hk : k < 4) : js_Sp mJ_at (d + 3) ad adV [.ref (ad (86 + i)), .int (Int32.ofNat k)] (js_by i k) := by
  intro l
  refine Met.ofW (cc := cJ0_charAt_5068e) (maxL := 2) (ret := (some .char)) (by decide) rfl ?_
  intro p e s m args below meth c s₁ B hml hv
  obtain ⟨rfl, hB⟩ := hv
  obtain ⟨hE, hZ, hQ⟩ := id hB
  have hx := B.exec
  have hb := B.bytes
  have hr := B.returns
  have hts0 := atoms_spec B.pre
  have hts : ∀ w ∈ dt_W0, w.before _ s = true := fun w hw => hts0 w (List.mem_cons_of_mem _ hw)
  have hown : s.vm.findClass RJ0 = some m.cls := findClass_of_methodNamed B.named
  have hlocks := B.notSynchronized
  have hS : va_S js_0 s.heap s.heap [] := va_S.rf
  have hl := lv_entry ([Value.ref (ad (86 + i)), Value.int (Int32.ofNat k)]) (n := 2) (Nat.le_of_ble_eq_true rfl)
  rw [lg_entry_eq]
  generalize (lg_sl ([Value.ref (ad (86 + i)), Value.int (Int32.ofNat k)]) ++ List.replicate (2 - (lg_sl ([Value.ref (ad (86 + i)), Value.int (Int32.ofNat k)])).length) Slot.unset).toArray = ls at hl ⊢
  have hl : lv_has ls 2 [(0, .ref (ad (86 + i))), (1, .int (Int32.ofNat k))] := hl
  refine lv_aload_n hx hb dJ0_charAt_5068e_0 rfl (lv_at hl 0 rfl) ?_
  refine va_calli (va_runV (As := []) (rest := []) (b := ad (86 + i)) (C := "java/lang/String") (n := 0) (index := 492) ⟨hx, hb, hml, hown, hts⟩ (js_lat (d + 2) i ad adV hi l)
    (⟨callB_of 0 hts (dc_good nJ_lat.1) rfl rfl rfl (hts _ nJ_lat.2.1) (hts _ wq_2_56) nJ_lat.2.2.1 ⟨Nat.le_refl _, by show 8 + (1 + 11) + 39 * (d + 2) ≤ 39 * (d + 3); omega⟩, hts _ wq_2_57, hts _ wq_2_58⟩)
    ⟨(js_pre hB hS).1, vk_recv (adK := fun i => ad (86 + i)) hE hi hS, (js_pre hB hS).2⟩ rfl rfl hl.1 rfl (Nat.le_of_ble_eq_true rfl) dJ0_charAt_5068e_1 ⟨Nat.le_refl _, Nat.le_refl _⟩) hS (fun q _ h => h) (fun q h => h) (fun r u t H1 locs ht hvm h5 hB1 hz1 hk1 hS => ?_)
  subst h5
  refine lv_if_eq (tgt := 16) hx hb dJ0_charAt_5068e_4 (by decide) (fun q => absurd q (by decide)) (fun _ => ?_)
  refine lv_aload_n hx hb dJ0_charAt_5068e_7 rfl (lv_at hl 0 rfl) ?_
  refine vk_getf hx hb (hE.1 i hi).2.2.1 hS hown (hts _ wq_4_223) (fun _ h => h) dJ0_charAt_5068e_8 ?_
  refine lv_iload_n hx hb dJ0_charAt_5068e_11 rfl (lv_at hl 1 rfl) ?_
  refine va_calli (va_runS (As := [.ref (adV i), .int (Int32.ofNat k)]) (rest := []) (n := 2) (index := 495) ⟨hx, hb, hml, hown, hts⟩ (js_at1 d i k ad adV hi hk l)
      (⟨callB_of 2 hts (dc_good nJ_at1.1) rfl rfl rfl (hts _ nJ_at1.2.1) (hts _ wq_2_60) nJ_at1.2.2.1 ⟨Nat.le_refl _, by show 8 + (2 + 11) + 39 * (d + 2) ≤ 39 * (d + 3); omega⟩, hts _ wq_2_61⟩)
      (js_pre hB hS) rfl rfl hl.1 rfl (Nat.le_of_ble_eq_true rfl) dJ0_charAt_5068e_12 ⟨Nat.le_refl _, Nat.le_refl _⟩) hS (fun q _ h => h) (fun q h => h) (fun r u t H1 locs ht hvm h5 hB1 hz1 hk1 hS => ?_)
  subst h5
  exact W.zret (ty := .char) hx hb hr (js_i2c i hi k hk).2 (fun t ht hW => ⟨⟨_, (), rfl, rfl, trivial⟩, hS.F ht⟩) hS.2.2 dJ0_charAt_5068e_15
