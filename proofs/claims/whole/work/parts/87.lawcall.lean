/-! ===== the law: its own reads and calls ===== -/
abbrev lA (s : State) : Nat → Prop := fun q => s.heap.size ≤ q
def LC (p : Program) (s : State) (m : MethodId) (meth : Method) (c : Code) (b L : Nat) (xs : Nat → Int32) (D : va_G) (ad : Nat → Nat) (cA : Nat → ClassId) : Prop := lw_At p s m meth c b L xs ∧ L ≤ 2560 ∧ va_K D vwCl (dt_tys cA) s ∧ (∀ w ∈ dt_NW, va_Nw w s) ∧ dt_SF ad (lA s) s s.heap
theorem okr_i {r : Option dt_V} (h : dt_okr (some .int) r) : ∃ v, r = some (.inl v) := by
  match r, h with
  | none, h => exact h.elim
  | some (.inl v), _ => exact ⟨v, rfl⟩
  | some (.inr (.inl v)), h => exact h.elim
  | some (.inr (.inr v)), h => exact h.elim
theorem okr_l {r : Option dt_V} (h : dt_okr (some .long) r) : ∃ v, r = some (.inr (.inl v)) := by
  match r, h with
  | none, h => exact h.elim
  | some (.inl v), h => exact h.elim
  | some (.inr (.inl v)), _ => exact ⟨v, rfl⟩
  | some (.inr (.inr v)), h => exact h.elim
section LAW
variable {p : Program} {l : Launch} {e : Env} {s : State} {m : MethodId} {below : List Frame} {meth : Method} {c : Code} {b L : Nat} {xs : Nat → Int32} {D : va_G} {ad : Nat → Nat} {cA : Nat → ClassId} {Q : State → Prop}
theorem lw_ts (C : LC p s m meth c b L xs D ad cA) : ∀ w ∈ dt_W0, w.before #[Value.ref b] s = true := fun w hw => C.1.2.2.2.2.2.1 w (List.mem_filter.mp hw).1
theorem lw_arg (C : LC p s m meth c b L xs D ad cA) {i k : Nat} {kI : Int} (hkI : kI = (k : Int)) {H : Heap} {locs : List Loc} {cells slots : Nat} {R : Room} (hS : va_S (lA s) s.heap H locs) {ls : Array Slot} {rest : List Value} {pc : Nat} (hl0 : ls[0]? = some (.val (.ref b))) (hl3 : ls[3]? = some (.val (.int (Int32.ofInt (i : Int))))) (d0 : decode code pc = .ok (.aload_n 0, 1)) (d1 : decode code (pc + 1) = .ok (.iload_n 3, 1)) (d2 : decode code (pc + 2) = .ok (.iconst kI, 1)) (d3 : decode code (pc + 3) = .ok (.iadd, 1)) (d4 : decode code (pc + 4) = .ok (.iaload, 1)) (hi : i + k < L)
    (kk : W p l e R s m #[Value.ref b] below meth c H locs cells slots Q (F0 m (pc + 5) ls (.int (xs (i + k)) :: rest))) : W p l e R s m #[Value.ref b] below meth c H locs cells slots Q (F0 m pc ls rest) := by
  subst hkI
  have hL := C.2.1
  have hx := C.1.1
  have hb := C.1.2.1
  have hr : dt_r ((i + k : Nat) : Int) := ⟨by omega, by omega⟩
  refine lv_aload_n hx hb d0 rfl hl0 ?_
  refine lv_iload_n hx hb d1 rfl hl3 ?_
  refine lv_iconst hx hb d2 rfl ?_
  refine lv_iadd hx hb d3 ?_
  have e1 : Int32.ofInt (i : Int) + Int32.ofInt (k : Int) = Int32.ofInt ((i + k : Nat) : Int) := by rw [← Int32.ofInt_add]; rfl
  rw [e1]
  refine va_sld hx hb C.1.2.2.2.2.2.2.1 C.1.2.2.2.2.2.2.2.1 (Nat.not_le.mpr C.1.2.2.2.2.2.2.2.1) hS (dn_in hr (by omega) (by omega)) d4 ?_
  rw [dn_cl hr, show (((i + k : Nat) : Int)).toNat = i + k by omega]
  exact kk
theorem lw_call (C : LC p s m meth c b L xs D ad cA) (hcs : (600000 : Nat) ≤ 600000) {H : Heap} {locs : List Loc} {M : dt_M} (hW : dt_W D ad cA (lA s) s H locs M) (hM : dt_RM M) {z : dt_Y} {n index ci N k nn pc : Nat} {CN : String} {T : u_T} (hF : dt_F ci CN T N) (hz : dt_N z n) (hw1 : Cond.methodLink R_law index z.1 ∈ dt_W0) (hw2 : Cond.instanceMethod z.1 ∈ dt_W0) (hw3 : Cond.selects CN z.1 z.1 ∈ dt_W0) (hk : dt_kd k = (ci + 4, nn)) {av : List dt_V} (hav : ∀ v ∈ av, dt_okv v) (hn : av.length = n) {Φ : Option dt_V → dt_M → Prop} (hSp : dt_Sp z 11 (.inr (.inr (ci + 4, nn, k)) :: av) M Φ) {ls : Array Slot} {rest st : List Value} (hst : st = (av.map (dt_cv ad)).reverse ++ .ref (ad k) :: rest) (hrest : (rest.map fun v => v.category).sum ≤ 8) (hls : ls.size = 4) (hd : decode code pc = .ok (.invokevirtual index, 3))
    (kk : ∀ (r : Option dt_V) (M' : dt_M) (H1 : Heap) (locs1 : List Loc), Φ r M' → dt_okr z.2.2.2 r → dt_RM M' → dt_W D ad cA (lA s) s H1 locs1 M' → W p l e room_1 s m #[Value.ref b] below meth c H1 locs1 600000 7302250 Q (F0 m (pc + 3) ls ((r.map (dt_cv ad)).toList ++ rest))) : W p l e room_1 s m #[Value.ref b] below meth c H locs 600000 7302250 Q (F0 m pc ls st) := by
  subst hst
  have hts := lw_ts C
  have hkl := dk_lt hk (by have := dk_c8 hF.1; omega)
  have hN := dk_N hk (dk_c8 hF.1) hF.1
  subst hN
  have hrecv := va_recv (q0 := k) (a := ad k) C.2.2.1 hW.1 hF.1 (by rw [dw_at hkl, dw_obj hk])
  have hpre : PreS s H (dt_Pc D ad cA (.inr (.inr (ci + 4, nn, k)) :: av) M) ((.inr (.inr (ci + 4, nn, k)) :: av).map (dt_cv ad)) := by
    refine ⟨dc_blind, fun U hU hw => ⟨rfl, fun v hv => ?_, hM, by rw [hU]; exact hW.1, dc_self hW.2.1, va_K.moved hw.alike C.2.2.1, dc_NW hw C.2.2.2.1, ?_⟩⟩
    · rcases List.mem_cons.mp hv with q | q
      · rw [q]; exact hk
      · exact hav v q
    · rw [hU]
      exact dc_SF hw hW.2.2.2.1 (dc_A hW.2.1) C.2.2.2.2
  have hrun := va_runV (e := e) (below := below) (meth := meth) (locs := locs) (As := av.map (dt_cv ad)) (rest := rest) (b := ad k) (C := CN) (n := n) (index := index) (g := F0 m pc ls ((av.map (dt_cv ad)).reverse ++ .ref (ad k) :: rest)) (cells := 600000) (slots := 7302250) (R := room_1)
    ⟨C.1.1, C.1.2.1, C.1.2.2.2.1, C.1.2.2.2.2.1, hts⟩ (hSp l D ad cA)
    (⟨callB_of n hts (dc_good hz.1) rfl rfl rfl (hts _ hz.2.1) (hts _ hw1) hz.2.2.1 ⟨(by decide : (11 : Nat) + 1 ≤ 13), by have := hz.2.2.2; show 8 + (z.2.2.1 + 11) + 39 * 11 ≤ 476; omega⟩, hts _ hw2, hts _ hw3⟩)
    ⟨hpre.1, hrecv, hpre.2⟩ rfl (by rw [List.length_map]; exact hn) hls rfl (by show 2 * 0 + _ ≤ 8; omega) hd ⟨Nat.le_of_ble_eq_true rfl, Nat.le_of_ble_eq_true rfl⟩
  intro TT hT X
  obtain ⟨v, st₀, t, T', LL, h0, X', hLo, e1, e2, ⟨⟨rv, M', hv, hΦ, hok, hRM, hP⟩, hF2⟩, stp⟩ := hrun TT hT X
  have hv : v = rv.map (dt_cv ad) := by cases hv; rfl
  subst hv
  have hA := dc_A hW.2.1
  have hW' : dt_W D ad cA (lA s) s T'.heap (locs ++ LL) M' := by
    refine ⟨by rw [e1]; exact hP, dc_D hW.2.1, ?_⟩
    obtain ⟨hz', hk'⟩ := hF2
    rw [h0] at hz' hk'
    refine ⟨Nat.le_trans hW.2.2.1 (by rw [e1]; exact hz'), fun q h1 h2 => ?_, fun q hq => ?_⟩
    · rw [e1, hk' q (Nat.lt_of_lt_of_le h1 hW.2.2.1) (fun z => h2 (hA q z))]
      exact hW.2.2.2.1 q h1 h2
    · rcases List.mem_append.mp hq with h | h
      · exact hW.2.2.2.2 q h
      · exact hA _ (hLo q h)
  obtain ⟨t2, a1, b1⟩ := kk rv M' T'.heap (locs ++ LL) hΦ hok hRM hW' T' rfl X'
  exact ⟨t2, stp t2 a1, b1⟩
end LAW
