/-! ===== the law's loop ===== -/
section LOOP
variable {p : Program} {l : Launch} {e : Env} {s : State} {m : MethodId} {below : List Frame} {meth : Method} {c : Code} {b L : Nat} {xs : Nat → Int32} {D : va_G} {ad : Nat → Nat} {cA : Nat → ClassId}
set_option maxHeartbeats 2000000 in
theorem law_loop (C : LC p s m meth c b L xs D ad cA) : ∀ (n i : Nat), L < i + n → i ≤ L + 5 → ∀ (M : dt_M) (H : Heap) (locs : List Loc) (ls : Array Slot), Inv M → dt_RM M → dt_W D ad cA (lA s) s H locs M → lv_has ls 4 [(0, .ref b), (1, .ref (ad 0)), (2, .ref (ad 62)), (3, .int (Int32.ofInt (i : Int)))] → W p l e room_1 s m #[Value.ref b] below meth c H locs 600000 7302250 (lw_Z below #[Value.ref b] s) (F0 m 18 ls []) := by
  have hL := C.2.1
  have hx := C.1.1
  have hb := C.1.2.1
  intro n
  induction n with
  | zero =>
    intro i hn h5 M H locs ls hI hM hW hl
    refine lv_iload_n hx hb dL_law_18 rfl (lv_at hl 3 rfl) ?_
    refine lv_aload_n hx hb dL_law_19 rfl (lv_at hl 0 rfl) ?_
    refine va_slen hx hb C.1.2.2.2.2.2.2.1 C.1.2.2.2.2.2.2.2.1 (Nat.not_le.mpr C.1.2.2.2.2.2.2.2.1) hW.2.2 dL_law_20 ?_
    refine lv_iconst (v := Int32.ofInt 5) hx hb dL_law_21 rfl ?_
    refine lv_isub hx hb dL_law_22 ?_
    have e1 : Int32.ofNat L - Int32.ofInt 5 = Int32.ofInt ((L : Int) - 5) := by rw [Int32.ofInt_sub]; rfl
    rw [e1]
    have hlt := dn_lt (x := (L : Int) - 5) (y := (i : Int)) ⟨by omega, by omega⟩ ⟨by omega, by omega⟩
    refine lv_icmp_gt (tgt := 798) hx hb dL_law_23 (by decide) (fun _ => ?_) (fun q => absurd (hlt.mpr (by omega)) q)
    refine lv_iconst (v := 1) hx hb dL_law_798 (by decide) ?_
    refine va_forget (fun q hq => hW.2.2.2.2 q hq) ?_
    exact lw_ret hx hb C.1.2.2.1 C.1.2.2.2.2.2.2.2.2.1 dL_law_799
  | succ n ih =>
    intro i hn h5 M H locs ls hI hM hW hl
    refine lv_iload_n hx hb dL_law_18 rfl (lv_at hl 3 rfl) ?_
    refine lv_aload_n hx hb dL_law_19 rfl (lv_at hl 0 rfl) ?_
    refine va_slen hx hb C.1.2.2.2.2.2.2.1 C.1.2.2.2.2.2.2.2.1 (Nat.not_le.mpr C.1.2.2.2.2.2.2.2.1) hW.2.2 dL_law_20 ?_
    refine lv_iconst (v := Int32.ofInt 5) hx hb dL_law_21 rfl ?_
    refine lv_isub hx hb dL_law_22 ?_
    have e1 : Int32.ofNat L - Int32.ofInt 5 = Int32.ofInt ((L : Int) - 5) := by rw [Int32.ofInt_sub]; rfl
    rw [e1]
    have hlt := dn_lt (x := (L : Int) - 5) (y := (i : Int)) ⟨by omega, by omega⟩ ⟨by omega, by omega⟩
    refine lv_icmp_gt (tgt := 798) hx hb dL_law_23 (by decide) (fun _ => ?_) (fun q => ?_)
    · refine lv_iconst (v := 1) hx hb dL_law_798 (by decide) ?_
      refine va_forget (fun q hq => hW.2.2.2.2 q hq) ?_
      exact lw_ret hx hb C.1.2.2.1 C.1.2.2.2.2.2.2.2.2.1 dL_law_799
    · have hi5 : i + 5 ≤ L := by
        apply Classical.byContradiction
        intro z
        exact q (hlt.mpr (by omega))
      have nx : ∀ (M : dt_M) (H : Heap) (locs : List Loc), Inv M → dt_RM M → dt_W D ad cA (lA s) s H locs M → W p l e room_1 s m #[Value.ref b] below meth c H locs 600000 7302250 (lw_Z below #[Value.ref b] s) (F0 m 792 ls []) := by
        intro M H locs hI hM hW
        refine lv_iinc (lv' := [(3, .int (Int32.ofInt ((i + 5 : Nat) : Int))), (0, .ref b), (1, .ref (ad 0)), (2, .ref (ad 62))]) (k := 3) (v := Int32.ofInt ((i + 5 : Nat) : Int)) hx hb dL_law_792 hl rfl (by rw [← Int32.ofInt_add]; rfl) (by decide) rfl (fun ls hl => ?_)
        refine lv_goto (tgt := 18) hx hb dL_law_795 (by decide) ?_
        exact ih (i + 5) (by omega) (by omega) M H locs ls hI hM hW (lv_sub hl [1, 2, 3, 0] rfl)
      have hri : dt_r (i : Int) := ⟨by omega, by omega⟩
      refine lv_aload_n hx hb dL_law_26 rfl (lv_at hl 0 rfl) ?_
      refine lv_iload_n hx hb dL_law_27 rfl (lv_at hl 3 rfl) ?_
      refine va_sld hx hb C.1.2.2.2.2.2.2.1 C.1.2.2.2.2.2.2.2.1 (Nat.not_le.mpr C.1.2.2.2.2.2.2.2.1) hW.2.2 (dn_in hri (by omega) (by omega)) dL_law_28 ?_
      refine lv_bipush (v := 31) hx hb dL_law_29 (by decide) ?_
      refine lv_iand hx hb dL_law_31 ?_
      generalize xs (Int32.ofInt (i : Int)).toNatClampNeg &&& 31 = v
      by_cases hv : v.toInt < 0 ∨ 18 < v.toInt
      · exact lv_tableOut (tgt := 792) hx hb dL_law_32 hv (by decide) (nx M H locs hI hM hW)
      · rcases (show v.toInt = 0 ∨ v.toInt = 1 ∨ v.toInt = 2 ∨ v.toInt = 3 ∨ v.toInt = 4 ∨ v.toInt = 5 ∨ v.toInt = 6 ∨ v.toInt = 7 ∨ v.toInt = 8 ∨ v.toInt = 9 ∨ v.toInt = 10 ∨ v.toInt = 11 ∨ v.toInt = 12 ∨ v.toInt = 13 ∨ v.toInt = 14 ∨ v.toInt = 15 ∨ v.toInt = 16 ∨ v.toInt = 17 ∨ v.toInt = 18 by omega) with z | z | z | z | z | z | z | z | z | z | z | z | z | z | z | z | z | z | z
        · exact lv_tableIn (off := 92) (tgt := 124) hx hb dL_law_32 (by omega) (by omega) (by rw [z]; rfl) (by decide) (lc_0 C hi5 hI hM hW hl nx)
        · exact lv_tableIn (off := 155) (tgt := 187) hx hb dL_law_32 (by omega) (by omega) (by rw [z]; rfl) (by decide) (lc_1 C hi5 hI hM hW hl nx)
        · exact lv_tableIn (off := 168) (tgt := 200) hx hb dL_law_32 (by omega) (by omega) (by rw [z]; rfl) (by decide) (lc_2 C hi5 hI hM hW hl nx)
        · exact lv_tableIn (off := 191) (tgt := 223) hx hb dL_law_32 (by omega) (by omega) (by rw [z]; rfl) (by decide) (lc_3 C hi5 hI hM hW hl nx)
        · exact lv_tableIn (off := 224) (tgt := 256) hx hb dL_law_32 (by omega) (by omega) (by rw [z]; rfl) (by decide) (lc_4 C hi5 hI hM hW hl nx)
        · exact lv_tableIn (off := 267) (tgt := 299) hx hb dL_law_32 (by omega) (by omega) (by rw [z]; rfl) (by decide) (lc_5 C hi5 hI hM hW hl nx)
        · exact lv_tableIn (off := 310) (tgt := 342) hx hb dL_law_32 (by omega) (by omega) (by rw [z]; rfl) (by decide) (lc_6 C hi5 hI hM hW hl nx)
        · exact lv_tableIn (off := 353) (tgt := 385) hx hb dL_law_32 (by omega) (by omega) (by rw [z]; rfl) (by decide) (lc_7 C hi5 hI hM hW hl nx)
        · exact lv_tableIn (off := 406) (tgt := 438) hx hb dL_law_32 (by omega) (by omega) (by rw [z]; rfl) (by decide) (lc_8 C hi5 hI hM hW hl nx)
        · exact lv_tableIn (off := 449) (tgt := 481) hx hb dL_law_32 (by omega) (by omega) (by rw [z]; rfl) (by decide) (lc_9 C hi5 hI hM hW hl nx)
        · exact lv_tableIn (off := 473) (tgt := 505) hx hb dL_law_32 (by omega) (by omega) (by rw [z]; rfl) (by decide) (lc_10 C hi5 hI hM hW hl nx)
        · exact lv_tableIn (off := 496) (tgt := 528) hx hb dL_law_32 (by omega) (by omega) (by rw [z]; rfl) (by decide) (lc_11 C hi5 hI hM hW hl nx)
        · exact lv_tableIn (off := 529) (tgt := 561) hx hb dL_law_32 (by omega) (by omega) (by rw [z]; rfl) (by decide) (lc_12 C hi5 hI hM hW hl nx)
        · exact lv_tableIn (off := 562) (tgt := 594) hx hb dL_law_32 (by omega) (by omega) (by rw [z]; rfl) (by decide) (lc_13 C hi5 hI hM hW hl nx)
        · exact lv_tableIn (off := 605) (tgt := 637) hx hb dL_law_32 (by omega) (by omega) (by rw [z]; rfl) (by decide) (lc_14 C hi5 hI hM hW hl nx)
        · exact lv_tableIn (off := 638) (tgt := 670) hx hb dL_law_32 (by omega) (by omega) (by rw [z]; rfl) (by decide) (lc_15 C hi5 hI hM hW hl nx)
        · exact lv_tableIn (off := 671) (tgt := 703) hx hb dL_law_32 (by omega) (by omega) (by rw [z]; rfl) (by decide) (lc_16 C hi5 hI hM hW hl nx)
        · exact lv_tableIn (off := 704) (tgt := 736) hx hb dL_law_32 (by omega) (by omega) (by rw [z]; rfl) (by decide) (lc_17 C hi5 hI hM hW hl nx)
        · exact lv_tableIn (off := 737) (tgt := 769) hx hb dL_law_32 (by omega) (by omega) (by rw [z]; rfl) (by decide) (lc_18 C hi5 hI hM hW hl nx)
end LOOP
