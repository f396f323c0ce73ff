/-! ===== the world that the constructors leave: all zeros ===== -/
def zM : dt_M := (fun _ _ => 0, fun _ _ => 0)
theorem zRM : dt_RM zM := ⟨fun _ _ => ⟨by show (-2147483648 : Int) ≤ 0; decide, by show (0 : Int) ≤ 2147483647; decide⟩, fun _ _ => ⟨by show (-9223372036854775808 : Int) ≤ 0; decide, by show (0 : Int) ≤ 9223372036854775807; decide⟩⟩
theorem zInv : Inv zM := by
  refine ⟨fun i hi => ⟨0, 0, ?_, ?_⟩, 0, rfl, rfl, by omega, fun j hj => absurd hj (Nat.not_lt_zero j)⟩
  · have h0 : tk_0 (cT zM i) := ⟨rfl, rfl, fun _ _ => rfl⟩
    exact ⟨tk_0B h0, tS_0 h0, rfl⟩
  · exact ⟨rfl, fun j hj => absurd hj (Nat.not_lt_zero j), fun _ _ => rfl, fun p hp j hj => by
      have : (j : Int) < 0 := hj
      omega⟩
def sgw (ad : Nat → Nat) (cA : Nat → ClassId) (k n : Nat) : va_W := (List.range n).map (fun j => (ad (k + j), dt_wc zM ad cA (k + j)))
theorem sgw_app (ad : Nat → Nat) (cA : Nat → ClassId) (k n m : Nat) : sgw ad cA k (n + m) = sgw ad cA k n ++ sgw ad cA (k + n) m := by
  unfold sgw
  rw [List.range_add, List.map_append, List.map_map]
  congr 1
  apply List.map_congr_left
  intro j _
  show (ad (k + (n + j)), dt_wc zM ad cA (k + (n + j))) = _
  rw [Nat.add_assoc]
section SEG
variable (ad : Nat → Nat) (cA : Nat → ClassId)
theorem sg_0 : sgw ad cA 0 2 = [(ad 0, .inr (6, [.ref (ad 1), .ref (ad 34), .ref (ad 42), .ref (ad 44), .ref (ad 46), .ref (ad 53), .ref (ad 60)])), (ad 1, .inl (cA 3, 4, .inr (.inr (.inr (.inr (fun j => some (ad (2 + 8 * j))))))))] := rfl
theorem sg_2 : sgw ad cA 2 8 = uX5 cA (fun j => ad (2 + j)) := rfl
theorem sg_10 : sgw ad cA 10 8 = uX5 cA (fun j => ad (10 + j)) := rfl
theorem sg_18 : sgw ad cA 18 8 = uX5 cA (fun j => ad (18 + j)) := rfl
theorem sg_26 : sgw ad cA 26 8 = uX5 cA (fun j => ad (26 + j)) := rfl
theorem sg_34 : sgw ad cA 34 8 = uX5 cA (fun j => ad (34 + j)) := rfl
theorem sg_42 : sgw ad cA 42 2 = uX3 cA (fun j => ad (42 + j)) := rfl
theorem sg_44 : sgw ad cA 44 2 = uX4 cA (fun j => ad (44 + j)) := rfl
theorem sg_46 : sgw ad cA 46 7 = uX0 cA (fun j => ad (46 + j)) := rfl
theorem sg_53 : sgw ad cA 53 7 = uX2 cA (ad 1) (fun j => ad (53 + j)) := rfl
theorem sg_60 : sgw ad cA 60 2 = uX1 cA (ad 1) (ad 53) (fun j => ad (60 + j)) := rfl
theorem sg_62 : sgw ad cA 62 24 = uX7 cA (fun j => ad (62 + j)) := rfl
theorem wd_eq : dt_wd zM ad cA = wX6 cA (fun j => some (ad (2 + 8 * j))) ad ++ uX7 cA (fun j => ad (62 + j)) := by
  have h : dt_wd zM ad cA = sgw ad cA 0 86 := by unfold dt_wd sgw; simp only [Nat.zero_add]
  rw [h, show sgw ad cA 0 86 = sgw ad cA 0 2 ++ sgw ad cA 2 84 from sgw_app ad cA 0 2 84,
    show sgw ad cA 2 84 = sgw ad cA 2 8 ++ sgw ad cA 10 76 from sgw_app ad cA 2 8 76,
    show sgw ad cA 10 76 = sgw ad cA 10 8 ++ sgw ad cA 18 68 from sgw_app ad cA 10 8 68,
    show sgw ad cA 18 68 = sgw ad cA 18 8 ++ sgw ad cA 26 60 from sgw_app ad cA 18 8 60,
    show sgw ad cA 26 60 = sgw ad cA 26 8 ++ sgw ad cA 34 52 from sgw_app ad cA 26 8 52,
    show sgw ad cA 34 52 = sgw ad cA 34 8 ++ sgw ad cA 42 44 from sgw_app ad cA 34 8 44,
    show sgw ad cA 42 44 = sgw ad cA 42 2 ++ sgw ad cA 44 42 from sgw_app ad cA 42 2 42,
    show sgw ad cA 44 42 = sgw ad cA 44 2 ++ sgw ad cA 46 40 from sgw_app ad cA 44 2 40,
    show sgw ad cA 46 40 = sgw ad cA 46 7 ++ sgw ad cA 53 33 from sgw_app ad cA 46 7 33,
    show sgw ad cA 53 33 = sgw ad cA 53 7 ++ sgw ad cA 60 26 from sgw_app ad cA 53 7 26,
    show sgw ad cA 60 26 = sgw ad cA 60 2 ++ sgw ad cA 62 24 from sgw_app ad cA 60 2 24,
    sg_0, sg_2, sg_10, sg_18, sg_26, sg_34, sg_42, sg_44, sg_46, sg_53, sg_60, sg_62]
  unfold wX6
  simp only [List.append_assoc, List.cons_append, List.nil_append]
end SEG
theorem st_arr {cI : ClassId} {f g : Nat → Option Nat} (h : ∀ j, j < 4 → f j = g j) : vp_cell cI (4, .inr (.inr (.inr (.inr f)))) = vp_cell cI (4, .inr (.inr (.inr (.inr g)))) := by
  rw [vp_cell_q, vp_cell_q]
  unfold arrV
  congr 2
  funext j
  exact congrArg va_rf (h j.val j.isLt)
theorem st_W {D : va_G} {cA : Nat → ClassId} {ad : Nat → Nat} {A : Nat → Prop} {f : Nat → Option Nat} {H : Heap} (hf : ∀ j, j < 4 → f j = some (ad (2 + 8 * j))) (hP : va_P D vwCl (wX6 cA f ad ++ uX7 cA (fun j => ad (62 + j))) H) (hD : va_D A (wX6 cA f ad ++ uX7 cA (fun j => ad (62 + j)))) : va_P D vwCl (dt_wd zM ad cA) H ∧ va_D A (dt_wd zM ad cA) := by
  have e : dt_wd zM ad cA = (wX6 cA f ad ++ uX7 cA (fun j => ad (62 + j))).set 1 (ad 1, .inl (cA 3, 4, .inr (.inr (.inr (.inr (fun j => some (ad (2 + 8 * j)))))))) := by
    rw [wd_eq]
    rfl
  have h1 : (wX6 cA f ad ++ uX7 cA (fun j => ad (62 + j)))[1]? = some (ad 1, .inl (cA 3, 4, .inr (.inr (.inr (.inr f))))) := rfl
  rw [e]
  refine ⟨fun k q hk => ?_, hD.set h1⟩
  by_cases hk1 : k = 1
  · subst hk1
    rw [List.getElem?_set_self (List.getElem?_eq_some_iff.mp h1).1] at hk
    cases hk
    have h2 : H[ad 1]? = some (vp_cell (cA 3) (4, .inr (.inr (.inr (.inr f))))) := hP 1 _ h1
    show H[ad 1]? = some (vp_cell (cA 3) (4, .inr (.inr (.inr (.inr (fun j => some (ad (2 + 8 * j))))))))
    rw [h2, st_arr hf]
  · rw [List.getElem?_set_ne (Ne.symm hk1)] at hk
    exact hP k q hk
set_option maxHeartbeats 4000000 in
theorem whole_start {p : Program} {e : Env} {s : State} {m : MethodId} {below : List Frame} {meth : Method} {c : Code} (l : Launch) (hflags : l.flags = flags0) {b L : Nat} {xs : Nat → Int32} (hL : L ≤ 2560) (C0 : lw_At p s m meth c b L xs) : W p l e room_1 s m #[Value.ref b] below meth c s.heap [] 0 0 (lw_Z below #[Value.ref b] s) (entryFrame m ([Value.ref b] : List Value).toArray 4) := by
  obtain ⟨hx, hb, hr, hml, hown, hts, hX, hbl, hlocks, hgv⟩ := id C0
  obtain ⟨D, cA, hK⟩ := st_K C0
  obtain ⟨adK, hSF⟩ := st_SF C0
  have hts0 : ∀ w ∈ dt_W0, w.before #[Value.ref b] s = true := fun w hw => hts w (List.mem_filter.mp hw).1
  have hN : ∀ w ∈ dt_NW, va_Nw w s := by
    intro w hw
    have h1 := hts w (List.mem_filter.mp hw).1
    have h2 := (List.mem_filter.mp hw).2
    unfold dt_nst at h2
    split at h2
    · exact va_Nw.of rfl h1
    · exact va_Nw.of rfl h1
    · cases h2
  have hO : va_AO "DrawnTalks$Talk" s := va_AO.of (hts (Cond.arrayOver (.object "DrawnTalks$Talk")) (wq_l1 (List.mem_of_getElem? (i := 23) (by decide +kernel))))
  have hA : ∀ q : Nat, s.heap.size ≤ q → lA s q := fun _ h => h
  have hS : va_S (lA s) s.heap s.heap [] := va_S.rf
  have hP : va_P D vwCl [] s.heap := fun k q h => by simp at h
  have hD : va_D (lA s) [] := ⟨fun i j p q h => by simp at h, fun k q h => by simp at h⟩
  have hl := lv_entry ([.ref b]) (n := 4) (Nat.le_of_ble_eq_true rfl)
  rw [lg_entry_eq]
  generalize (lg_sl ([.ref b]) ++ List.replicate (4 - (lg_sl ([.ref b])).length) Slot.unset).toArray = ls at hl ⊢
  have hl : lv_has ls 4 [(0, .ref b)] := hl
  refine va_new (ci := 6) (fs := fX6_0) (C := RX6) (T := TX6) (N := 7) hx hb hts0 fwX6 tyX6 tyX6_ok hown (hts0 _ wq_1_14) (hts0 _ wq_1_15) (hts0 _ nnX6_count.2.1) hK hP hD hS hA rfl (fun j hj => by
    match j, hj with
    | 0, _ => rfl
    | 1, _ => rfl
    | 2, _ => rfl
    | 3, _ => rfl
    | 4, _ => rfl
    | 5, _ => rfl
    | 6, _ => rfl
    | j + 7, h => exact absurd h (by omega)) (Nat.le_of_ble_eq_true rfl) (Nat.le_of_ble_eq_true rfl) dL_law_0 (fun q6 H hP hD hS => ?_)
  refine lv_dup hx hb dL_law_3 rfl ?_
  have hF := cs_F (X := []) hD hS hA
  have hpre := cs_pre (X := []) (av := [Value.ref q6]) hP hD hK
  refine va_callv (va_runI (As := []) (rest := [.ref q6]) (n := 0) (index := 9) ⟨hx, hb, hml, hown, hts0⟩ (iX6 l D cA q6 H.size 0) (cwI 0 hts0 (dc_good (y := (yX6_init, cX6_init, 2, none)) wq_1_18) rfl rfl rfl (hts0 _ nnX6_count.2.1) (hts0 _ wq_1_16) (hts0 _ wq_1_17) rfl ⟨by decide +kernel, by decide +kernel, by decide +kernel⟩ ⟨(by decide : 3 + 1 ≤ 13), (by decide : 8 + (2 + 11) + 39 * 3 ≤ 476)⟩)
    ⟨fun a U g mk q => ⟨q.1, (cs_blind (av := [Value.ref q6]) a U g mk ⟨q.1, q.2.1⟩).2, dc_NWs (s := U) (U := U.calling g mk a) rfl q.2.2.1, va_AO.moved (u := U) (U := U.calling g mk a) (Vm.Alike.refl U.vm) q.2.2.2⟩, fun U hU hw => ⟨rfl, (hpre.2 U hU hw).2, dc_NW hw hN, va_AO.moved hw.alike hO⟩⟩ rfl rfl hl.1 rfl (Nat.le_of_ble_eq_true rfl) dL_law_4 ⟨Nat.le_of_ble_eq_true rfl, Nat.le_of_ble_eq_true rfl⟩) hS (fun q _ h => hF q h) hF (fun ad6 t H1 locs1 ht hvm h6 hB hz1 hk1 hS => ?_)
  obtain ⟨f, hf, hP1, hD1⟩ := hB
  rw [ht] at hP1
  obtain ⟨hP, hD⟩ := cs_join (X := []) hP hD hk1 hF hP1 hD1
  have hP : va_P D vwCl (wX6 cA f ad6) H1 := hP
  have hD : va_D (lA s) (wX6 cA f ad6) := hD
  refine lv_astore_n (lv' := [(1, .ref q6), (0, .ref b)]) hx hb dL_law_7 rfl hl (by decide) rfl (fun ls hl => ?_)
  refine va_new (ci := 7) (fs := fX7_0) (C := RX7) (T := TX7) (N := 35) hx hb hts0 fwX7 tyX7 tyX7_ok hown (hts0 _ wq_3_131) (hts0 _ wq_3_132) (hts0 _ nnX7_count.2.1) hK hP hD hS hA rfl (fun j hj => by
    match j, hj with
    | 0, _ => rfl
    | 1, _ => rfl
    | 2, _ => rfl
    | 3, _ => rfl
    | 4, _ => rfl
    | 5, _ => rfl
    | 6, _ => rfl
    | 7, _ => rfl
    | 8, _ => rfl
    | 9, _ => rfl
    | 10, _ => rfl
    | 11, _ => rfl
    | 12, _ => rfl
    | 13, _ => rfl
    | 14, _ => rfl
    | 15, _ => rfl
    | 16, _ => rfl
    | 17, _ => rfl
    | 18, _ => rfl
    | 19, _ => rfl
    | 20, _ => rfl
    | 21, _ => rfl
    | 22, _ => rfl
    | 23, _ => rfl
    | 24, _ => rfl
    | 25, _ => rfl
    | 26, _ => rfl
    | 27, _ => rfl
    | 28, _ => rfl
    | 29, _ => rfl
    | 30, _ => rfl
    | 31, _ => rfl
    | 32, _ => rfl
    | 33, _ => rfl
    | 34, _ => rfl
    | j + 35, h => exact absurd h (by omega)) (Nat.le_of_ble_eq_true rfl) (Nat.le_of_ble_eq_true rfl) dL_law_8 (fun q7 H hP hD hS => ?_)
  refine lv_dup hx hb dL_law_11 rfl ?_
  refine cs_back (U := uX7 cA) (q := q7) (va_runI (As := []) (rest := [.ref q7]) (n := 0) (index := 12) ⟨hx, hb, hml, hown, hts0⟩ (iX7 l D cA q7 H.size 0) (cwI 0 hts0 (dc_good (y := (yX7_init, cX7_init, 1, none)) wq_3_135) rfl rfl rfl (hts0 _ nnX7_count.2.1) (hts0 _ wq_3_133) (hts0 _ wq_3_134) rfl ⟨by decide +kernel, by decide +kernel, by decide +kernel⟩ ⟨(by decide : 1 + 1 ≤ 13), (by decide : 8 + (1 + 11) + 39 * 1 ≤ 476)⟩) (cs_pre hP hD hK) rfl rfl hl.1 rfl (Nat.le_of_ble_eq_true rfl) dL_law_12 ⟨Nat.le_of_ble_eq_true rfl, Nat.le_of_ble_eq_true rfl⟩) hP hD hS hA (fun v7 H locs h7 hP hD hS => ?_)
  refine lv_astore_n (lv' := [(2, .ref q7), (1, .ref q6), (0, .ref b)]) hx hb dL_law_15 rfl hl (by decide) rfl (fun ls hl => ?_)
  refine lv_iconst (v := Int32.ofInt ((0 : Nat) : Int)) hx hb dL_law_16 (by decide) ?_
  refine lv_istore_n (lv' := [(3, .int (Int32.ofInt ((0 : Nat) : Int))), (2, .ref q7), (1, .ref q6), (0, .ref b)]) hx hb dL_law_17 rfl hl (by decide) rfl (fun ls hl => ?_)
  refine W.widen (k := 600000) (n := 7302250) (Nat.le_of_ble_eq_true rfl) (Nat.le_of_ble_eq_true rfl) ?_
  generalize had : (fun k => if k < 62 then ad6 k else if k < 86 then v7 (k - 62) else adK (k - 86) : Nat → Nat) = ad
  have w6 : wX6 cA f ad6 = wX6 cA f ad := by rw [← had]; rfl
  have w7 : uX7 cA v7 = uX7 cA (fun j => ad (62 + j)) := by rw [← had]; rfl
  have a0 : ad 0 = q6 := by rw [← had]; exact h6
  have a62 : ad 62 = q7 := by rw [← had]; exact h7
  rw [w6, w7] at hP hD
  obtain ⟨hPw, hDw⟩ := st_W (fun j hj => by
    rw [hf j hj, ← had]
    show some (ad6 (2 + 8 * j)) = some (if 2 + 8 * j < 62 then ad6 (2 + 8 * j) else _)
    rw [if_pos (by omega)]) hP hD
  have hSF' : dt_SF ad (lA s) s s.heap := hSF ad (fun i hi => by
    rw [← had]
    show (if 86 + i < 62 then _ else if 86 + i < 86 then _ else adK (86 + i - 86)) = adK i
    rw [if_neg (by omega), if_neg (by omega), show 86 + i - 86 = i by omega])
  rw [← a0, ← a62] at hl
  exact law_loop ⟨C0, hL, hK, hN, hSF'⟩ (L + 1) 0 (by omega) (by omega) zM H locs ls zInv zRM ⟨hPw, hDw, hS⟩ (lv_sub hl [3, 2, 1, 0] rfl)
