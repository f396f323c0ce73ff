/-! ===== constructors: rows and references laid into a new object ===== -/
theorem ra_i {s : State} {a b : ClassId} (h : va_RA s a .int) (k : va_RA s b .int) : a = b := Option.some.inj ((show s.vm.findClass _ = some a from h).symm.trans (show s.vm.findClass _ = some b from k))
theorem ra_z {s : State} {a b : ClassId} (h : va_RA s a .boolean) (k : va_RA s b .boolean) : a = b := Option.some.inj ((show s.vm.findClass _ = some a from h).symm.trans (show s.vm.findClass _ = some b from k))
theorem ra_l {s : State} {a b : ClassId} (h : va_RA s a .long) (k : va_RA s b .long) : a = b := Option.some.inj ((show s.vm.findClass _ = some a from h).symm.trans (show s.vm.findClass _ = some b from k))
section CS
variable {p : Program} {l : Launch} {e : Env} {R : Room} {s : State} {m : MethodId} {args : Array Value} {below : List Frame} {meth : Method} {c : Code} {H : Heap} {locs : List Loc} {cells slots : Nat} {Q : State → Prop}
variable {cc : ByteArray} {pc : Nat} {ls : Array Slot} {D : va_G} {A : Nat → Prop} {H0 : Heap} {cA : Nat → ClassId} {C own ref : String} {T : u_T} {N ci index : Nat} {as : va_W} {h0 : Nat} {fs : List Value}
/-- newarray, then putfield of a final field of the new object -/
theorem cs_np (hexec : p.tables.exec = Jvm.exec) (hb : c.code = cc) (hts : ∀ w ∈ dt_W0, w.before args s = true) (hF : dt_F ci C T N) (hown : s.vm.findClass own = some m.cls) (hK : va_K D vwCl (dt_tys cA) s) (hP : va_P D vwCl ((h0, .inr (ci, fs)) :: as) H) (hD : va_D A ((h0, .inr (ci, fs)) :: as)) (hS : va_S A H0 H locs) (hA : ∀ q, H0.size ≤ q → A q) (hin2 : meth.name = "<init>")
    {atype : ArrayType} {ty tf : FieldType} {cK : ClassId} (t : Nat) (ht : (dt_tys cA)[t]? = some (cK, ty)) (hty : newarray.typeOf atype = ty) (hRA : ∀ {a b : ClassId}, va_RA s a ty → va_RA s b ty → a = b) (harr : Cond.arrayClass (newarray.typeOf atype) ∈ dt_W0) {n : Int32} {N' : Nat} {a0 : vp_A} (ha : ∀ cA : ClassId, vp_cell cA a0 = arrV cA N' (fun _ => defaultValue ty)) (hn : ¬ n < 0) (hN : n.toNatClampNeg = N') (hbytes : N' * componentBytes ty ≤ 536870912) (hcells : cells + 1 ≤ R.cells) (hslots : slots + N' ≤ R.slots) (hd1 : decode cc pc = .ok (.newarray atype, 2))
    (j : Nat) (hj : j < N) (hlink : Cond.fieldLink own index ref (T j).2.1 (T j).2.2.1 ∈ dt_W0) (href : (T j).1 = ref) (hdecl : (T j).1 = own) (hfin : (T j).2.2.2 = true) (hpd : parseFieldDescriptor (T j).2.2.1 = some tf) (hnar : ∀ q, narrow tf (.ref q) = .ref q) (hfit : ∀ q, fits tf (.ref q) = true) (hl : j < fs.length) (hd2 : decode cc (pc + 2) = .ok (.putfield index, 3))
    (kk : ∀ (q : Nat) (H1 : Heap) (locs1 : List Loc), va_P D vwCl ((h0, .inr (ci, fs.set j (.ref q))) :: (as ++ [(q, .inl (cK, a0))])) H1 → va_D A ((h0, .inr (ci, fs.set j (.ref q))) :: (as ++ [(q, .inl (cK, a0))])) → va_S A H0 H1 locs1 → W p l e R s m args below meth c H1 locs1 (cells + 1) (slots + N') Q (F0 m (pc + 5) ls [])) : W p l e R s m args below meth c H locs cells slots Q (F0 m pc ls [.int n, .ref h0]) := by
  refine va_newa hexec hb (hts _ harr) hty hK hP hD hS hA ha hn hN hbytes hcells hslots hd1 (fun q c' H1 hK' hP' hD' hS' => ?_)
  have h1 := (hK.2 t _ ht).2
  have h2 := (hK'.2 4 (c', ty) rfl).2
  have e1 : c' = cK := hRA h2 h1
  subst e1
  obtain ⟨tyf, htyf⟩ := hF.2.2.1
  subst href
  exact va_putF hexec hb hts hF.2.1 tyf htyf hF.2.2.2 hown hK hP' hD' hS' 0 rfl hF.1 j hj (hts _ hlink) (fun _ h => h) hfin hin2 hdecl hpd (hnar q) (hfit q) hl hd2 (fun H2 locs2 hP2 hD2 hS2 => kk q H2 locs2 hP2 hD2 hS2)
/-- putfield of a final field of the new object with a reference at hand -/
theorem cs_pf (hexec : p.tables.exec = Jvm.exec) (hb : c.code = cc) (hts : ∀ w ∈ dt_W0, w.before args s = true) (hF : dt_F ci C T N) (hown : s.vm.findClass own = some m.cls) (hK : va_K D vwCl (dt_tys cA) s) (hP : va_P D vwCl ((h0, .inr (ci, fs)) :: as) H) (hD : va_D A ((h0, .inr (ci, fs)) :: as)) (hS : va_S A H0 H locs) (hin2 : meth.name = "<init>") {tf : FieldType} {q : Nat}
    (j : Nat) (hj : j < N) (hlink : Cond.fieldLink own index ref (T j).2.1 (T j).2.2.1 ∈ dt_W0) (href : (T j).1 = ref) (hdecl : (T j).1 = own) (hfin : (T j).2.2.2 = true) (hpd : parseFieldDescriptor (T j).2.2.1 = some tf) (hnar : ∀ q, narrow tf (.ref q) = .ref q) (hfit : ∀ q, fits tf (.ref q) = true) (hl : j < fs.length) (hd2 : decode cc pc = .ok (.putfield index, 3))
    (kk : ∀ (H1 : Heap) (locs1 : List Loc), va_P D vwCl ((h0, .inr (ci, fs.set j (.ref q))) :: as) H1 → va_D A ((h0, .inr (ci, fs.set j (.ref q))) :: as) → va_S A H0 H1 locs1 → W p l e R s m args below meth c H1 locs1 cells slots Q (F0 m (pc + 3) ls [])) : W p l e R s m args below meth c H locs cells slots Q (F0 m pc ls [.ref q, .ref h0]) := by
  obtain ⟨tyf, htyf⟩ := hF.2.2.1
  subst href
  exact va_putF hexec hb hts hF.2.1 tyf htyf hF.2.2.2 hown hK hP hD hS 0 rfl hF.1 j hj (hts _ hlink) (fun _ h => h) hfin hin2 hdecl hpd (hnar q) (hfit q) hl hd2 (fun H2 locs2 hP2 hD2 hS2 => kk H2 locs2 hP2 hD2 hS2)
end CS
def cs_rm (d mc ms : Nat) : Room := { frames := d, cells := mc, slots := ms, locals := 39 * d }
def cs_P (D : va_G) (cA : Nat → ClassId) (x : Nat × va_E) (sz : Nat) (U : State) : Prop := U.heap.size = sz ∧ va_P D vwCl [x] U.heap ∧ va_K D vwCl (dt_tys cA) U ∧ va_D (fun _ => True) [x]
theorem cs_blind {D : va_G} {cA : Nat → ClassId} {x : Nat × va_E} {sz : Nat} {av : List Value} : FrameBlind (va_Pc av (cs_P D cA x sz)) := by
  intro a U g mk q
  obtain ⟨q0, q1, qP, qK, qD⟩ := q
  exact ⟨q0, q1, qP, va_K.moved (u := U) (U := U.calling g mk a) (Vm.Alike.refl U.vm) qK, qD⟩

theorem dX0_init_0 : decode cX0_init 0 = .ok (.aload_n 0, 1) := by decide +kernel
theorem dX0_init_1 : decode cX0_init 1 = .ok (.invokespecial 3, 3) := by decide +kernel
theorem dX0_init_4 : decode cX0_init 4 = .ok (.aload_n 0, 1) := by decide +kernel
theorem dX0_init_5 : decode cX0_init 5 = .ok (.sipush 1296, 3) := by decide +kernel
theorem dX0_init_8 : decode cX0_init 8 = .ok (.newarray .long, 2) := by decide +kernel
theorem dX0_init_10 : decode cX0_init 10 = .ok (.putfield 9, 3) := by decide +kernel
theorem dX0_init_13 : decode cX0_init 13 = .ok (.aload_n 0, 1) := by decide +kernel
theorem dX0_init_14 : decode cX0_init 14 = .ok (.sipush 1296, 3) := by decide +kernel
theorem dX0_init_17 : decode cX0_init 17 = .ok (.newarray .int, 2) := by decide +kernel
theorem dX0_init_19 : decode cX0_init 19 = .ok (.putfield 15, 3) := by decide +kernel
theorem dX0_init_22 : decode cX0_init 22 = .ok (.aload_n 0, 1) := by decide +kernel
theorem dX0_init_23 : decode cX0_init 23 = .ok (.sipush 1296, 3) := by decide +kernel
theorem dX0_init_26 : decode cX0_init 26 = .ok (.newarray .int, 2) := by decide +kernel
theorem dX0_init_28 : decode cX0_init 28 = .ok (.putfield 19, 3) := by decide +kernel
theorem dX0_init_31 : decode cX0_init 31 = .ok (.aload_n 0, 1) := by decide +kernel
theorem dX0_init_32 : decode cX0_init 32 = .ok (.iconst 4, 1) := by decide +kernel
theorem dX0_init_33 : decode cX0_init 33 = .ok (.newarray .int, 2) := by decide +kernel
theorem dX0_init_35 : decode cX0_init 35 = .ok (.putfield 22, 3) := by decide +kernel
theorem dX0_init_38 : decode cX0_init 38 = .ok (.aload_n 0, 1) := by decide +kernel
theorem dX0_init_39 : decode cX0_init 39 = .ok (.iconst 4, 1) := by decide +kernel
theorem dX0_init_40 : decode cX0_init 40 = .ok (.newarray .int, 2) := by decide +kernel
theorem dX0_init_42 : decode cX0_init 42 = .ok (.putfield 25, 3) := by decide +kernel
theorem dX0_init_45 : decode cX0_init 45 = .ok (.aload_n 0, 1) := by decide +kernel
theorem dX0_init_46 : decode cX0_init 46 = .ok (.bipush 20, 2) := by decide +kernel
theorem dX0_init_48 : decode cX0_init 48 = .ok (.newarray .int, 2) := by decide +kernel
theorem dX0_init_50 : decode cX0_init 50 = .ok (.putfield 28, 3) := by decide +kernel
theorem dX0_init_53 : decode cX0_init 53 = .ok (.return_, 1) := by decide +kernel
def uX0 (cA : Nat → ClassId) (v : Nat → Nat) : va_W := [(v 0, .inr (0, [.ref (v 1), .ref (v 2), .ref (v 3), .ref (v 4), .ref (v 5), .ref (v 6), .long 0, .int 0, .int 0, .int 0])), (v 1, .inl (cA 2, 1296, .inr (.inl (fun _ => 0)))), (v 2, .inl (cA 0, 1296, .inl (fun _ => 0))), (v 3, .inl (cA 0, 1296, .inl (fun _ => 0))), (v 4, .inl (cA 0, 4, .inl (fun _ => 0))), (v 5, .inl (cA 0, 4, .inl (fun _ => 0))), (v 6, .inl (cA 0, 20, .inl (fun _ => 0)))]
abbrev fX0_0 : List Value := [.null, .null, .null, .null, .null, .null, .long 0, .int 0, .int 0, .int 0]
set_option maxHeartbeats 4000000 in
theorem iX0 (l : Launch) (D : va_G) (cA : Nat → ClassId) (h0 : Nat) (sz d : Nat) : Met l yX0_init (Cond.code yX0_init cX0_init 1 none :: dt_W0) (cs_rm (d + 1) 6 3916) (va_Pc [Value.ref h0] (cs_P D cA (h0, .inr (0, fX0_0)) sz)) (va_Qv (S := Nat → Nat) (fun v => v 0 = h0) (fun v t => va_P D vwCl (uX0 cA v) t.heap ∧ va_D (va_A [(h0, .inr (0, fX0_0))] sz) (uX0 cA v)) (va_A [(h0, .inr (0, fX0_0))] sz)) 6 3916 (va_A [(h0, .inr (0, fX0_0))] sz) := by
  refine Met.ofW (cc := cX0_init) (maxL := 1) (ret := none) (by decide) rfl ?_
  intro p e s m args below meth c s₁ B hml hv
  obtain ⟨rfl, hsz, hP, hK, hD0⟩ := hv
  have hx := B.exec
  have hb := B.bytes
  have hr := B.returns
  have hts0 := atoms_spec B.pre
  have hts : ∀ w ∈ dt_W0, w.before _ s = true := fun w hw => hts0 w (List.mem_cons_of_mem _ hw)
  have hown : s.vm.findClass RX0 = some m.cls := findClass_of_methodNamed B.named
  have hlocks := B.notSynchronized
  have hin : meth.name = "<init>" := (name_of_methodNamed B.named B.method).1
  subst hsz
  have hD := hD0.self (sz := s.heap.size)
  generalize hAe : va_A [(h0, .inr (0, fX0_0))] s.heap.size = A at hD ⊢
  have hA : ∀ q : Nat, s.heap.size ≤ q → A q := fun q h => by rw [← hAe]; exact Or.inr h
  have hS : va_S A s.heap s.heap [] := va_S.rf
  have hl := lv_entry ([Value.ref h0]) (n := 1) (Nat.le_of_ble_eq_true rfl)
  rw [lg_entry_eq]
  generalize (lg_sl ([Value.ref h0]) ++ List.replicate (1 - (lg_sl ([Value.ref h0])).length) Slot.unset).toArray = ls at hl ⊢
  have hl : lv_has ls 1 [(0, .ref h0)] := hl
  refine lv_aload_n hx hb dX0_init_0 rfl (lv_at hl 0 rfl) ?_
  refine W.objInit hx hb hown (hts _ wq_1_122) (hts _ wq_1_20) (hts _ wq_1_21) rfl (by rw [hml]; exact hl.1) rfl dX0_init_1 (by show 1 ≤ d + 1; omega) (by show 2 * 0 + 0 + 12 ≤ 39 * (d + 1); omega) ?_
  refine W.eq (g2 := F0 m 4 ls []) rfl ?_
  refine lv_aload_n hx hb dX0_init_4 rfl (lv_at hl 0 rfl) ?_
  refine lv_sipush (v := 1296) hx hb dX0_init_5 (by decide) ?_
  refine cs_np (tf := .array .long) (atype := .long) (a0 := (1296, .inr (.inl (fun _ => 0)))) (N' := 1296) hx hb hts ffX0 hown hK hP hD hS hA hin 2 rfl rfl ra_l wq_1_158 (fun _ => rfl) (by decide) (by decide) (Nat.le_of_ble_eq_true rfl) (Nat.le_of_ble_eq_true rfl) (Nat.le_of_ble_eq_true rfl) dX0_init_8 0 (by decide) wq_1_123 rfl rfl rfl (by decide +kernel) (fun _ => rfl) (fun _ => rfl) (Nat.le_of_ble_eq_true rfl) dX0_init_10 (fun q1 H locs hP hD hS => ?_)
  have hP : va_P D vwCl [(h0, .inr (0, [.ref q1, .null, .null, .null, .null, .null, .long 0, .int 0, .int 0, .int 0])), (q1, .inl (cA 2, 1296, .inr (.inl (fun _ => 0))))] H := hP
  have hD : va_D A [(h0, .inr (0, [.ref q1, .null, .null, .null, .null, .null, .long 0, .int 0, .int 0, .int 0])), (q1, .inl (cA 2, 1296, .inr (.inl (fun _ => 0))))] := hD
  refine lv_aload_n hx hb dX0_init_13 rfl (lv_at hl 0 rfl) ?_
  refine lv_sipush (v := 1296) hx hb dX0_init_14 (by decide) ?_
  refine cs_np (tf := .array .int) (atype := .int) (a0 := (1296, .inl (fun _ => 0))) (N' := 1296) hx hb hts ffX0 hown hK hP hD hS hA hin 0 rfl rfl ra_i wq_1_80 (fun _ => rfl) (by decide) (by decide) (Nat.le_of_ble_eq_true rfl) (Nat.le_of_ble_eq_true rfl) (Nat.le_of_ble_eq_true rfl) dX0_init_17 1 (by decide) wq_1_124 rfl rfl rfl (by decide +kernel) (fun _ => rfl) (fun _ => rfl) (Nat.le_of_ble_eq_true rfl) dX0_init_19 (fun q2 H locs hP hD hS => ?_)
  have hP : va_P D vwCl [(h0, .inr (0, [.ref q1, .ref q2, .null, .null, .null, .null, .long 0, .int 0, .int 0, .int 0])), (q1, .inl (cA 2, 1296, .inr (.inl (fun _ => 0)))), (q2, .inl (cA 0, 1296, .inl (fun _ => 0)))] H := hP
  have hD : va_D A [(h0, .inr (0, [.ref q1, .ref q2, .null, .null, .null, .null, .long 0, .int 0, .int 0, .int 0])), (q1, .inl (cA 2, 1296, .inr (.inl (fun _ => 0)))), (q2, .inl (cA 0, 1296, .inl (fun _ => 0)))] := hD
  refine lv_aload_n hx hb dX0_init_22 rfl (lv_at hl 0 rfl) ?_
  refine lv_sipush (v := 1296) hx hb dX0_init_23 (by decide) ?_
  refine cs_np (tf := .array .int) (atype := .int) (a0 := (1296, .inl (fun _ => 0))) (N' := 1296) hx hb hts ffX0 hown hK hP hD hS hA hin 0 rfl rfl ra_i wq_1_80 (fun _ => rfl) (by decide) (by decide) (Nat.le_of_ble_eq_true rfl) (Nat.le_of_ble_eq_true rfl) (Nat.le_of_ble_eq_true rfl) dX0_init_26 2 (by decide) wq_1_125 rfl rfl rfl (by decide +kernel) (fun _ => rfl) (fun _ => rfl) (Nat.le_of_ble_eq_true rfl) dX0_init_28 (fun q3 H locs hP hD hS => ?_)
  have hP : va_P D vwCl [(h0, .inr (0, [.ref q1, .ref q2, .ref q3, .null, .null, .null, .long 0, .int 0, .int 0, .int 0])), (q1, .inl (cA 2, 1296, .inr (.inl (fun _ => 0)))), (q2, .inl (cA 0, 1296, .inl (fun _ => 0))), (q3, .inl (cA 0, 1296, .inl (fun _ => 0)))] H := hP
  have hD : va_D A [(h0, .inr (0, [.ref q1, .ref q2, .ref q3, .null, .null, .null, .long 0, .int 0, .int 0, .int 0])), (q1, .inl (cA 2, 1296, .inr (.inl (fun _ => 0)))), (q2, .inl (cA 0, 1296, .inl (fun _ => 0))), (q3, .inl (cA 0, 1296, .inl (fun _ => 0)))] := hD
  refine lv_aload_n hx hb dX0_init_31 rfl (lv_at hl 0 rfl) ?_
  refine lv_iconst (v := 4) hx hb dX0_init_32 (by decide) ?_
  refine cs_np (tf := .array .int) (atype := .int) (a0 := (4, .inl (fun _ => 0))) (N' := 4) hx hb hts ffX0 hown hK hP hD hS hA hin 0 rfl rfl ra_i wq_1_80 (fun _ => rfl) (by decide) (by decide) (Nat.le_of_ble_eq_true rfl) (Nat.le_of_ble_eq_true rfl) (Nat.le_of_ble_eq_true rfl) dX0_init_33 3 (by decide) wq_1_126 rfl rfl rfl (by decide +kernel) (fun _ => rfl) (fun _ => rfl) (Nat.le_of_ble_eq_true rfl) dX0_init_35 (fun q4 H locs hP hD hS => ?_)
  have hP : va_P D vwCl [(h0, .inr (0, [.ref q1, .ref q2, .ref q3, .ref q4, .null, .null, .long 0, .int 0, .int 0, .int 0])), (q1, .inl (cA 2, 1296, .inr (.inl (fun _ => 0)))), (q2, .inl (cA 0, 1296, .inl (fun _ => 0))), (q3, .inl (cA 0, 1296, .inl (fun _ => 0))), (q4, .inl (cA 0, 4, .inl (fun _ => 0)))] H := hP
  have hD : va_D A [(h0, .inr (0, [.ref q1, .ref q2, .ref q3, .ref q4, .null, .null, .long 0, .int 0, .int 0, .int 0])), (q1, .inl (cA 2, 1296, .inr (.inl (fun _ => 0)))), (q2, .inl (cA 0, 1296, .inl (fun _ => 0))), (q3, .inl (cA 0, 1296, .inl (fun _ => 0))), (q4, .inl (cA 0, 4, .inl (fun _ => 0)))] := hD
  refine lv_aload_n hx hb dX0_init_38 rfl (lv_at hl 0 rfl) ?_
  refine lv_iconst (v := 4) hx hb dX0_init_39 (by decide) ?_
  refine cs_np (tf := .array .int) (atype := .int) (a0 := (4, .inl (fun _ => 0))) (N' := 4) hx hb hts ffX0 hown hK hP hD hS hA hin 0 rfl rfl ra_i wq_1_80 (fun _ => rfl) (by decide) (by decide) (Nat.le_of_ble_eq_true rfl) (Nat.le_of_ble_eq_true rfl) (Nat.le_of_ble_eq_true rfl) dX0_init_40 4 (by decide) wq_1_127 rfl rfl rfl (by decide +kernel) (fun _ => rfl) (fun _ => rfl) (Nat.le_of_ble_eq_true rfl) dX0_init_42 (fun q5 H locs hP hD hS => ?_)
  have hP : va_P D vwCl [(h0, .inr (0, [.ref q1, .ref q2, .ref q3, .ref q4, .ref q5, .null, .long 0, .int 0, .int 0, .int 0])), (q1, .inl (cA 2, 1296, .inr (.inl (fun _ => 0)))), (q2, .inl (cA 0, 1296, .inl (fun _ => 0))), (q3, .inl (cA 0, 1296, .inl (fun _ => 0))), (q4, .inl (cA 0, 4, .inl (fun _ => 0))), (q5, .inl (cA 0, 4, .inl (fun _ => 0)))] H := hP
  have hD : va_D A [(h0, .inr (0, [.ref q1, .ref q2, .ref q3, .ref q4, .ref q5, .null, .long 0, .int 0, .int 0, .int 0])), (q1, .inl (cA 2, 1296, .inr (.inl (fun _ => 0)))), (q2, .inl (cA 0, 1296, .inl (fun _ => 0))), (q3, .inl (cA 0, 1296, .inl (fun _ => 0))), (q4, .inl (cA 0, 4, .inl (fun _ => 0))), (q5, .inl (cA 0, 4, .inl (fun _ => 0)))] := hD
  refine lv_aload_n hx hb dX0_init_45 rfl (lv_at hl 0 rfl) ?_
  refine lv_bipush (v := 20) hx hb dX0_init_46 (by decide) ?_
  refine cs_np (tf := .array .int) (atype := .int) (a0 := (20, .inl (fun _ => 0))) (N' := 20) hx hb hts ffX0 hown hK hP hD hS hA hin 0 rfl rfl ra_i wq_1_80 (fun _ => rfl) (by decide) (by decide) (Nat.le_of_ble_eq_true rfl) (Nat.le_of_ble_eq_true rfl) (Nat.le_of_ble_eq_true rfl) dX0_init_48 5 (by decide) wq_1_128 rfl rfl rfl (by decide +kernel) (fun _ => rfl) (fun _ => rfl) (Nat.le_of_ble_eq_true rfl) dX0_init_50 (fun q6 H locs hP hD hS => ?_)
  have hP : va_P D vwCl [(h0, .inr (0, [.ref q1, .ref q2, .ref q3, .ref q4, .ref q5, .ref q6, .long 0, .int 0, .int 0, .int 0])), (q1, .inl (cA 2, 1296, .inr (.inl (fun _ => 0)))), (q2, .inl (cA 0, 1296, .inl (fun _ => 0))), (q3, .inl (cA 0, 1296, .inl (fun _ => 0))), (q4, .inl (cA 0, 4, .inl (fun _ => 0))), (q5, .inl (cA 0, 4, .inl (fun _ => 0))), (q6, .inl (cA 0, 20, .inl (fun _ => 0)))] H := hP
  have hD : va_D A [(h0, .inr (0, [.ref q1, .ref q2, .ref q3, .ref q4, .ref q5, .ref q6, .long 0, .int 0, .int 0, .int 0])), (q1, .inl (cA 2, 1296, .inr (.inl (fun _ => 0)))), (q2, .inl (cA 0, 1296, .inl (fun _ => 0))), (q3, .inl (cA 0, 1296, .inl (fun _ => 0))), (q4, .inl (cA 0, 4, .inl (fun _ => 0))), (q5, .inl (cA 0, 4, .inl (fun _ => 0))), (q6, .inl (cA 0, 20, .inl (fun _ => 0)))] := hD
  refine W.widen (k := 6) (n := 3916) (Nat.le_of_ble_eq_true rfl) (Nat.le_of_ble_eq_true rfl) ?_
  exact W.vret hx hb hr (fun t ht hW => ⟨⟨fun k => ([h0, q1, q2, q3, q4, q5, q6] : List Nat).getD k 0, rfl, rfl, by rw [ht]; exact hP, hD⟩, hS.F ht⟩) hS.2.2 dX0_init_53
theorem dX1_init_0 : decode cX1_init 0 = .ok (.aload_n 0, 1) := by decide +kernel
theorem dX1_init_1 : decode cX1_init 1 = .ok (.invokespecial 3, 3) := by decide +kernel
theorem dX1_init_4 : decode cX1_init 4 = .ok (.aload_n 0, 1) := by decide +kernel
theorem dX1_init_5 : decode cX1_init 5 = .ok (.bipush 16, 2) := by decide +kernel
theorem dX1_init_7 : decode cX1_init 7 = .ok (.newarray .int, 2) := by decide +kernel
theorem dX1_init_9 : decode cX1_init 9 = .ok (.putfield 9, 3) := by decide +kernel
theorem dX1_init_12 : decode cX1_init 12 = .ok (.aload_n 0, 1) := by decide +kernel
theorem dX1_init_13 : decode cX1_init 13 = .ok (.aload_n 1, 1) := by decide +kernel
theorem dX1_init_14 : decode cX1_init 14 = .ok (.putfield 15, 3) := by decide +kernel
theorem dX1_init_17 : decode cX1_init 17 = .ok (.aload_n 0, 1) := by decide +kernel
theorem dX1_init_18 : decode cX1_init 18 = .ok (.aload_n 2, 1) := by decide +kernel
theorem dX1_init_19 : decode cX1_init 19 = .ok (.putfield 19, 3) := by decide +kernel
theorem dX1_init_22 : decode cX1_init 22 = .ok (.return_, 1) := by decide +kernel
def uX1 (cA : Nat → ClassId) (aT : Nat) (aP : Nat) (v : Nat → Nat) : va_W := [(v 0, .inr (1, [.ref aT, .ref aP, .ref (v 1), .int 0])), (v 1, .inl (cA 0, 16, .inl (fun _ => 0)))]
abbrev fX1_0 : List Value := [.null, .null, .null, .int 0]
set_option maxHeartbeats 4000000 in
theorem iX1 (l : Launch) (D : va_G) (cA : Nat → ClassId) (h0 : Nat) (aT : Nat) (aP : Nat) (sz d : Nat) : Met l yX1_init (Cond.code yX1_init cX1_init 3 none :: dt_W0) (cs_rm (d + 1) 1 16) (va_Pc [Value.ref h0, Value.ref aT, Value.ref aP] (cs_P D cA (h0, .inr (1, fX1_0)) sz)) (va_Qv (S := Nat → Nat) (fun v => v 0 = h0) (fun v t => va_P D vwCl (uX1 cA aT aP v) t.heap ∧ va_D (va_A [(h0, .inr (1, fX1_0))] sz) (uX1 cA aT aP v)) (va_A [(h0, .inr (1, fX1_0))] sz)) 1 16 (va_A [(h0, .inr (1, fX1_0))] sz) := by
  refine Met.ofW (cc := cX1_init) (maxL := 3) (ret := none) (by decide) rfl ?_
  intro p e s m args below meth c s₁ B hml hv
  obtain ⟨rfl, hsz, hP, hK, hD0⟩ := hv
  have hx := B.exec
  have hb := B.bytes
  have hr := B.returns
  have hts0 := atoms_spec B.pre
  have hts : ∀ w ∈ dt_W0, w.before _ s = true := fun w hw => hts0 w (List.mem_cons_of_mem _ hw)
  have hown : s.vm.findClass RX1 = some m.cls := findClass_of_methodNamed B.named
  have hlocks := B.notSynchronized
  have hin : meth.name = "<init>" := (name_of_methodNamed B.named B.method).1
  subst hsz
  have hD := hD0.self (sz := s.heap.size)
  generalize hAe : va_A [(h0, .inr (1, fX1_0))] s.heap.size = A at hD ⊢
  have hA : ∀ q : Nat, s.heap.size ≤ q → A q := fun q h => by rw [← hAe]; exact Or.inr h
  have hS : va_S A s.heap s.heap [] := va_S.rf
  have hl := lv_entry ([Value.ref h0, Value.ref aT, Value.ref aP]) (n := 3) (Nat.le_of_ble_eq_true rfl)
  rw [lg_entry_eq]
  generalize (lg_sl ([Value.ref h0, Value.ref aT, Value.ref aP]) ++ List.replicate (3 - (lg_sl ([Value.ref h0, Value.ref aT, Value.ref aP])).length) Slot.unset).toArray = ls at hl ⊢
  have hl : lv_has ls 3 [(0, .ref h0), (1, .ref aT), (2, .ref aP)] := hl
  refine lv_aload_n hx hb dX1_init_0 rfl (lv_at hl 0 rfl) ?_
  refine W.objInit hx hb hown (hts _ wq_1_203) (hts _ wq_1_20) (hts _ wq_1_21) rfl (by rw [hml]; exact hl.1) rfl dX1_init_1 (by show 1 ≤ d + 1; omega) (by show 2 * 0 + 0 + 12 ≤ 39 * (d + 1); omega) ?_
  refine W.eq (g2 := F0 m 4 ls []) rfl ?_
  refine lv_aload_n hx hb dX1_init_4 rfl (lv_at hl 0 rfl) ?_
  refine lv_bipush (v := 16) hx hb dX1_init_5 (by decide) ?_
  refine cs_np (tf := .array .int) (atype := .int) (a0 := (16, .inl (fun _ => 0))) (N' := 16) hx hb hts ffX1 hown hK hP hD hS hA hin 0 rfl rfl ra_i wq_1_80 (fun _ => rfl) (by decide) (by decide) (Nat.le_of_ble_eq_true rfl) (Nat.le_of_ble_eq_true rfl) (Nat.le_of_ble_eq_true rfl) dX1_init_7 2 (by decide) wq_1_206 rfl rfl rfl (by decide +kernel) (fun _ => rfl) (fun _ => rfl) (Nat.le_of_ble_eq_true rfl) dX1_init_9 (fun q1 H locs hP hD hS => ?_)
  have hP : va_P D vwCl [(h0, .inr (1, [.null, .null, .ref q1, .int 0])), (q1, .inl (cA 0, 16, .inl (fun _ => 0)))] H := hP
  have hD : va_D A [(h0, .inr (1, [.null, .null, .ref q1, .int 0])), (q1, .inl (cA 0, 16, .inl (fun _ => 0)))] := hD
  refine lv_aload_n hx hb dX1_init_12 rfl (lv_at hl 0 rfl) ?_
  refine lv_aload_n hx hb dX1_init_13 rfl (lv_at hl 1 rfl) ?_
  refine cs_pf (tf := .array (.object "DrawnTalks$Talk")) hx hb hts ffX1 hown hK hP hD hS hin 0 (by decide) wq_1_204 rfl rfl rfl (by decide +kernel) (fun _ => rfl) (fun _ => rfl) (Nat.le_of_ble_eq_true rfl) dX1_init_14 (fun H locs hP hD hS => ?_)
  have hP : va_P D vwCl [(h0, .inr (1, [.ref aT, .null, .ref q1, .int 0])), (q1, .inl (cA 0, 16, .inl (fun _ => 0)))] H := hP
  have hD : va_D A [(h0, .inr (1, [.ref aT, .null, .ref q1, .int 0])), (q1, .inl (cA 0, 16, .inl (fun _ => 0)))] := hD
  refine lv_aload_n hx hb dX1_init_17 rfl (lv_at hl 0 rfl) ?_
  refine lv_aload_n hx hb dX1_init_18 rfl (lv_at hl 2 rfl) ?_
  refine cs_pf (tf := .object "DrawnTalks$Player") hx hb hts ffX1 hown hK hP hD hS hin 1 (by decide) wq_1_205 rfl rfl rfl (by decide +kernel) (fun _ => rfl) (fun _ => rfl) (Nat.le_of_ble_eq_true rfl) dX1_init_19 (fun H locs hP hD hS => ?_)
  have hP : va_P D vwCl [(h0, .inr (1, [.ref aT, .ref aP, .ref q1, .int 0])), (q1, .inl (cA 0, 16, .inl (fun _ => 0)))] H := hP
  have hD : va_D A [(h0, .inr (1, [.ref aT, .ref aP, .ref q1, .int 0])), (q1, .inl (cA 0, 16, .inl (fun _ => 0)))] := hD
  refine W.widen (k := 1) (n := 16) (Nat.le_of_ble_eq_true rfl) (Nat.le_of_ble_eq_true rfl) ?_
  exact W.vret hx hb hr (fun t ht hW => ⟨⟨fun k => ([h0, q1] : List Nat).getD k 0, rfl, rfl, by rw [ht]; exact hP, hD⟩, hS.F ht⟩) hS.2.2 dX1_init_22
theorem dX2_init_0 : decode cX2_init 0 = .ok (.aload_n 0, 1) := by decide +kernel
theorem dX2_init_1 : decode cX2_init 1 = .ok (.invokespecial 3, 3) := by decide +kernel
theorem dX2_init_4 : decode cX2_init 4 = .ok (.aload_n 0, 1) := by decide +kernel
theorem dX2_init_5 : decode cX2_init 5 = .ok (.iconst 4, 1) := by decide +kernel
theorem dX2_init_6 : decode cX2_init 6 = .ok (.newarray .int, 2) := by decide +kernel
theorem dX2_init_8 : decode cX2_init 8 = .ok (.putfield 9, 3) := by decide +kernel
theorem dX2_init_11 : decode cX2_init 11 = .ok (.aload_n 0, 1) := by decide +kernel
theorem dX2_init_12 : decode cX2_init 12 = .ok (.iconst 4, 1) := by decide +kernel
theorem dX2_init_13 : decode cX2_init 13 = .ok (.newarray .int, 2) := by decide +kernel
theorem dX2_init_15 : decode cX2_init 15 = .ok (.putfield 15, 3) := by decide +kernel
theorem dX2_init_18 : decode cX2_init 18 = .ok (.aload_n 0, 1) := by decide +kernel
theorem dX2_init_19 : decode cX2_init 19 = .ok (.sipush 160, 3) := by decide +kernel
theorem dX2_init_22 : decode cX2_init 22 = .ok (.newarray .int, 2) := by decide +kernel
theorem dX2_init_24 : decode cX2_init 24 = .ok (.putfield 18, 3) := by decide +kernel
theorem dX2_init_27 : decode cX2_init 27 = .ok (.aload_n 0, 1) := by decide +kernel
theorem dX2_init_28 : decode cX2_init 28 = .ok (.bipush 16, 2) := by decide +kernel
theorem dX2_init_30 : decode cX2_init 30 = .ok (.newarray .int, 2) := by decide +kernel
theorem dX2_init_32 : decode cX2_init 32 = .ok (.putfield 21, 3) := by decide +kernel
theorem dX2_init_35 : decode cX2_init 35 = .ok (.aload_n 0, 1) := by decide +kernel
theorem dX2_init_36 : decode cX2_init 36 = .ok (.bipush 16, 2) := by decide +kernel
theorem dX2_init_38 : decode cX2_init 38 = .ok (.newarray .int, 2) := by decide +kernel
theorem dX2_init_40 : decode cX2_init 40 = .ok (.putfield 24, 3) := by decide +kernel
theorem dX2_init_43 : decode cX2_init 43 = .ok (.aload_n 0, 1) := by decide +kernel
theorem dX2_init_44 : decode cX2_init 44 = .ok (.bipush 40, 2) := by decide +kernel
theorem dX2_init_46 : decode cX2_init 46 = .ok (.newarray .int, 2) := by decide +kernel
theorem dX2_init_48 : decode cX2_init 48 = .ok (.putfield 27, 3) := by decide +kernel
theorem dX2_init_51 : decode cX2_init 51 = .ok (.aload_n 0, 1) := by decide +kernel
theorem dX2_init_52 : decode cX2_init 52 = .ok (.aload_n 1, 1) := by decide +kernel
theorem dX2_init_53 : decode cX2_init 53 = .ok (.putfield 30, 3) := by decide +kernel
theorem dX2_init_56 : decode cX2_init 56 = .ok (.return_, 1) := by decide +kernel
def uX2 (cA : Nat → ClassId) (aT : Nat) (v : Nat → Nat) : va_W := [(v 0, .inr (2, [.ref aT, .ref (v 1), .ref (v 2), .ref (v 3), .ref (v 4), .ref (v 5), .ref (v 6), .int 0, .int 0, .int 0])), (v 1, .inl (cA 0, 4, .inl (fun _ => 0))), (v 2, .inl (cA 0, 4, .inl (fun _ => 0))), (v 3, .inl (cA 0, 160, .inl (fun _ => 0))), (v 4, .inl (cA 0, 16, .inl (fun _ => 0))), (v 5, .inl (cA 0, 16, .inl (fun _ => 0))), (v 6, .inl (cA 0, 40, .inl (fun _ => 0)))]
abbrev fX2_0 : List Value := [.null, .null, .null, .null, .null, .null, .null, .int 0, .int 0, .int 0]
set_option maxHeartbeats 4000000 in
theorem iX2 (l : Launch) (D : va_G) (cA : Nat → ClassId) (h0 : Nat) (aT : Nat) (sz d : Nat) : Met l yX2_init (Cond.code yX2_init cX2_init 2 none :: dt_W0) (cs_rm (d + 1) 6 240) (va_Pc [Value.ref h0, Value.ref aT] (cs_P D cA (h0, .inr (2, fX2_0)) sz)) (va_Qv (S := Nat → Nat) (fun v => v 0 = h0) (fun v t => va_P D vwCl (uX2 cA aT v) t.heap ∧ va_D (va_A [(h0, .inr (2, fX2_0))] sz) (uX2 cA aT v)) (va_A [(h0, .inr (2, fX2_0))] sz)) 6 240 (va_A [(h0, .inr (2, fX2_0))] sz) := by
  refine Met.ofW (cc := cX2_init) (maxL := 2) (ret := none) (by decide) rfl ?_
  intro p e s m args below meth c s₁ B hml hv
  obtain ⟨rfl, hsz, hP, hK, hD0⟩ := hv
  have hx := B.exec
  have hb := B.bytes
  have hr := B.returns
  have hts0 := atoms_spec B.pre
  have hts : ∀ w ∈ dt_W0, w.before _ s = true := fun w hw => hts0 w (List.mem_cons_of_mem _ hw)
  have hown : s.vm.findClass RX2 = some m.cls := findClass_of_methodNamed B.named
  have hlocks := B.notSynchronized
  have hin : meth.name = "<init>" := (name_of_methodNamed B.named B.method).1
  subst hsz
  have hD := hD0.self (sz := s.heap.size)
  generalize hAe : va_A [(h0, .inr (2, fX2_0))] s.heap.size = A at hD ⊢
  have hA : ∀ q : Nat, s.heap.size ≤ q → A q := fun q h => by rw [← hAe]; exact Or.inr h
  have hS : va_S A s.heap s.heap [] := va_S.rf
  have hl := lv_entry ([Value.ref h0, Value.ref aT]) (n := 2) (Nat.le_of_ble_eq_true rfl)
  rw [lg_entry_eq]
  generalize (lg_sl ([Value.ref h0, Value.ref aT]) ++ List.replicate (2 - (lg_sl ([Value.ref h0, Value.ref aT])).length) Slot.unset).toArray = ls at hl ⊢
  have hl : lv_has ls 2 [(0, .ref h0), (1, .ref aT)] := hl
  refine lv_aload_n hx hb dX2_init_0 rfl (lv_at hl 0 rfl) ?_
  refine W.objInit hx hb hown (hts _ wq_1_164) (hts _ wq_1_20) (hts _ wq_1_21) rfl (by rw [hml]; exact hl.1) rfl dX2_init_1 (by show 1 ≤ d + 1; omega) (by show 2 * 0 + 0 + 12 ≤ 39 * (d + 1); omega) ?_
  refine W.eq (g2 := F0 m 4 ls []) rfl ?_
  refine lv_aload_n hx hb dX2_init_4 rfl (lv_at hl 0 rfl) ?_
  refine lv_iconst (v := 4) hx hb dX2_init_5 (by decide) ?_
  refine cs_np (tf := .array .int) (atype := .int) (a0 := (4, .inl (fun _ => 0))) (N' := 4) hx hb hts ffX2 hown hK hP hD hS hA hin 0 rfl rfl ra_i wq_1_80 (fun _ => rfl) (by decide) (by decide) (Nat.le_of_ble_eq_true rfl) (Nat.le_of_ble_eq_true rfl) (Nat.le_of_ble_eq_true rfl) dX2_init_6 1 (by decide) wq_1_166 rfl rfl rfl (by decide +kernel) (fun _ => rfl) (fun _ => rfl) (Nat.le_of_ble_eq_true rfl) dX2_init_8 (fun q1 H locs hP hD hS => ?_)
  have hP : va_P D vwCl [(h0, .inr (2, [.null, .ref q1, .null, .null, .null, .null, .null, .int 0, .int 0, .int 0])), (q1, .inl (cA 0, 4, .inl (fun _ => 0)))] H := hP
  have hD : va_D A [(h0, .inr (2, [.null, .ref q1, .null, .null, .null, .null, .null, .int 0, .int 0, .int 0])), (q1, .inl (cA 0, 4, .inl (fun _ => 0)))] := hD
  refine lv_aload_n hx hb dX2_init_11 rfl (lv_at hl 0 rfl) ?_
  refine lv_iconst (v := 4) hx hb dX2_init_12 (by decide) ?_
  refine cs_np (tf := .array .int) (atype := .int) (a0 := (4, .inl (fun _ => 0))) (N' := 4) hx hb hts ffX2 hown hK hP hD hS hA hin 0 rfl rfl ra_i wq_1_80 (fun _ => rfl) (by decide) (by decide) (Nat.le_of_ble_eq_true rfl) (Nat.le_of_ble_eq_true rfl) (Nat.le_of_ble_eq_true rfl) dX2_init_13 2 (by decide) wq_1_167 rfl rfl rfl (by decide +kernel) (fun _ => rfl) (fun _ => rfl) (Nat.le_of_ble_eq_true rfl) dX2_init_15 (fun q2 H locs hP hD hS => ?_)
  have hP : va_P D vwCl [(h0, .inr (2, [.null, .ref q1, .ref q2, .null, .null, .null, .null, .int 0, .int 0, .int 0])), (q1, .inl (cA 0, 4, .inl (fun _ => 0))), (q2, .inl (cA 0, 4, .inl (fun _ => 0)))] H := hP
  have hD : va_D A [(h0, .inr (2, [.null, .ref q1, .ref q2, .null, .null, .null, .null, .int 0, .int 0, .int 0])), (q1, .inl (cA 0, 4, .inl (fun _ => 0))), (q2, .inl (cA 0, 4, .inl (fun _ => 0)))] := hD
  refine lv_aload_n hx hb dX2_init_18 rfl (lv_at hl 0 rfl) ?_
  refine lv_sipush (v := 160) hx hb dX2_init_19 (by decide) ?_
  refine cs_np (tf := .array .int) (atype := .int) (a0 := (160, .inl (fun _ => 0))) (N' := 160) hx hb hts ffX2 hown hK hP hD hS hA hin 0 rfl rfl ra_i wq_1_80 (fun _ => rfl) (by decide) (by decide) (Nat.le_of_ble_eq_true rfl) (Nat.le_of_ble_eq_true rfl) (Nat.le_of_ble_eq_true rfl) dX2_init_22 3 (by decide) wq_1_168 rfl rfl rfl (by decide +kernel) (fun _ => rfl) (fun _ => rfl) (Nat.le_of_ble_eq_true rfl) dX2_init_24 (fun q3 H locs hP hD hS => ?_)
  have hP : va_P D vwCl [(h0, .inr (2, [.null, .ref q1, .ref q2, .ref q3, .null, .null, .null, .int 0, .int 0, .int 0])), (q1, .inl (cA 0, 4, .inl (fun _ => 0))), (q2, .inl (cA 0, 4, .inl (fun _ => 0))), (q3, .inl (cA 0, 160, .inl (fun _ => 0)))] H := hP
  have hD : va_D A [(h0, .inr (2, [.null, .ref q1, .ref q2, .ref q3, .null, .null, .null, .int 0, .int 0, .int 0])), (q1, .inl (cA 0, 4, .inl (fun _ => 0))), (q2, .inl (cA 0, 4, .inl (fun _ => 0))), (q3, .inl (cA 0, 160, .inl (fun _ => 0)))] := hD
  refine lv_aload_n hx hb dX2_init_27 rfl (lv_at hl 0 rfl) ?_
  refine lv_bipush (v := 16) hx hb dX2_init_28 (by decide) ?_
  refine cs_np (tf := .array .int) (atype := .int) (a0 := (16, .inl (fun _ => 0))) (N' := 16) hx hb hts ffX2 hown hK hP hD hS hA hin 0 rfl rfl ra_i wq_1_80 (fun _ => rfl) (by decide) (by decide) (Nat.le_of_ble_eq_true rfl) (Nat.le_of_ble_eq_true rfl) (Nat.le_of_ble_eq_true rfl) dX2_init_30 4 (by decide) wq_1_169 rfl rfl rfl (by decide +kernel) (fun _ => rfl) (fun _ => rfl) (Nat.le_of_ble_eq_true rfl) dX2_init_32 (fun q4 H locs hP hD hS => ?_)
  have hP : va_P D vwCl [(h0, .inr (2, [.null, .ref q1, .ref q2, .ref q3, .ref q4, .null, .null, .int 0, .int 0, .int 0])), (q1, .inl (cA 0, 4, .inl (fun _ => 0))), (q2, .inl (cA 0, 4, .inl (fun _ => 0))), (q3, .inl (cA 0, 160, .inl (fun _ => 0))), (q4, .inl (cA 0, 16, .inl (fun _ => 0)))] H := hP
  have hD : va_D A [(h0, .inr (2, [.null, .ref q1, .ref q2, .ref q3, .ref q4, .null, .null, .int 0, .int 0, .int 0])), (q1, .inl (cA 0, 4, .inl (fun _ => 0))), (q2, .inl (cA 0, 4, .inl (fun _ => 0))), (q3, .inl (cA 0, 160, .inl (fun _ => 0))), (q4, .inl (cA 0, 16, .inl (fun _ => 0)))] := hD
  refine lv_aload_n hx hb dX2_init_35 rfl (lv_at hl 0 rfl) ?_
  refine lv_bipush (v := 16) hx hb dX2_init_36 (by decide) ?_
  refine cs_np (tf := .array .int) (atype := .int) (a0 := (16, .inl (fun _ => 0))) (N' := 16) hx hb hts ffX2 hown hK hP hD hS hA hin 0 rfl rfl ra_i wq_1_80 (fun _ => rfl) (by decide) (by decide) (Nat.le_of_ble_eq_true rfl) (Nat.le_of_ble_eq_true rfl) (Nat.le_of_ble_eq_true rfl) dX2_init_38 5 (by decide) wq_1_170 rfl rfl rfl (by decide +kernel) (fun _ => rfl) (fun _ => rfl) (Nat.le_of_ble_eq_true rfl) dX2_init_40 (fun q5 H locs hP hD hS => ?_)
  have hP : va_P D vwCl [(h0, .inr (2, [.null, .ref q1, .ref q2, .ref q3, .ref q4, .ref q5, .null, .int 0, .int 0, .int 0])), (q1, .inl (cA 0, 4, .inl (fun _ => 0))), (q2, .inl (cA 0, 4, .inl (fun _ => 0))), (q3, .inl (cA 0, 160, .inl (fun _ => 0))), (q4, .inl (cA 0, 16, .inl (fun _ => 0))), (q5, .inl (cA 0, 16, .inl (fun _ => 0)))] H := hP
  have hD : va_D A [(h0, .inr (2, [.null, .ref q1, .ref q2, .ref q3, .ref q4, .ref q5, .null, .int 0, .int 0, .int 0])), (q1, .inl (cA 0, 4, .inl (fun _ => 0))), (q2, .inl (cA 0, 4, .inl (fun _ => 0))), (q3, .inl (cA 0, 160, .inl (fun _ => 0))), (q4, .inl (cA 0, 16, .inl (fun _ => 0))), (q5, .inl (cA 0, 16, .inl (fun _ => 0)))] := hD
  refine lv_aload_n hx hb dX2_init_43 rfl (lv_at hl 0 rfl) ?_
  refine lv_bipush (v := 40) hx hb dX2_init_44 (by decide) ?_
  refine cs_np (tf := .array .int) (atype := .int) (a0 := (40, .inl (fun _ => 0))) (N' := 40) hx hb hts ffX2 hown hK hP hD hS hA hin 0 rfl rfl ra_i wq_1_80 (fun _ => rfl) (by decide) (by decide) (Nat.le_of_ble_eq_true rfl) (Nat.le_of_ble_eq_true rfl) (Nat.le_of_ble_eq_true rfl) dX2_init_46 6 (by decide) wq_1_171 rfl rfl rfl (by decide +kernel) (fun _ => rfl) (fun _ => rfl) (Nat.le_of_ble_eq_true rfl) dX2_init_48 (fun q6 H locs hP hD hS => ?_)
  have hP : va_P D vwCl [(h0, .inr (2, [.null, .ref q1, .ref q2, .ref q3, .ref q4, .ref q5, .ref q6, .int 0, .int 0, .int 0])), (q1, .inl (cA 0, 4, .inl (fun _ => 0))), (q2, .inl (cA 0, 4, .inl (fun _ => 0))), (q3, .inl (cA 0, 160, .inl (fun _ => 0))), (q4, .inl (cA 0, 16, .inl (fun _ => 0))), (q5, .inl (cA 0, 16, .inl (fun _ => 0))), (q6, .inl (cA 0, 40, .inl (fun _ => 0)))] H := hP
  have hD : va_D A [(h0, .inr (2, [.null, .ref q1, .ref q2, .ref q3, .ref q4, .ref q5, .ref q6, .int 0, .int 0, .int 0])), (q1, .inl (cA 0, 4, .inl (fun _ => 0))), (q2, .inl (cA 0, 4, .inl (fun _ => 0))), (q3, .inl (cA 0, 160, .inl (fun _ => 0))), (q4, .inl (cA 0, 16, .inl (fun _ => 0))), (q5, .inl (cA 0, 16, .inl (fun _ => 0))), (q6, .inl (cA 0, 40, .inl (fun _ => 0)))] := hD
  refine lv_aload_n hx hb dX2_init_51 rfl (lv_at hl 0 rfl) ?_
  refine lv_aload_n hx hb dX2_init_52 rfl (lv_at hl 1 rfl) ?_
  refine cs_pf (tf := .array (.object "DrawnTalks$Talk")) hx hb hts ffX2 hown hK hP hD hS hin 0 (by decide) wq_1_165 rfl rfl rfl (by decide +kernel) (fun _ => rfl) (fun _ => rfl) (Nat.le_of_ble_eq_true rfl) dX2_init_53 (fun H locs hP hD hS => ?_)
  have hP : va_P D vwCl [(h0, .inr (2, [.ref aT, .ref q1, .ref q2, .ref q3, .ref q4, .ref q5, .ref q6, .int 0, .int 0, .int 0])), (q1, .inl (cA 0, 4, .inl (fun _ => 0))), (q2, .inl (cA 0, 4, .inl (fun _ => 0))), (q3, .inl (cA 0, 160, .inl (fun _ => 0))), (q4, .inl (cA 0, 16, .inl (fun _ => 0))), (q5, .inl (cA 0, 16, .inl (fun _ => 0))), (q6, .inl (cA 0, 40, .inl (fun _ => 0)))] H := hP
  have hD : va_D A [(h0, .inr (2, [.ref aT, .ref q1, .ref q2, .ref q3, .ref q4, .ref q5, .ref q6, .int 0, .int 0, .int 0])), (q1, .inl (cA 0, 4, .inl (fun _ => 0))), (q2, .inl (cA 0, 4, .inl (fun _ => 0))), (q3, .inl (cA 0, 160, .inl (fun _ => 0))), (q4, .inl (cA 0, 16, .inl (fun _ => 0))), (q5, .inl (cA 0, 16, .inl (fun _ => 0))), (q6, .inl (cA 0, 40, .inl (fun _ => 0)))] := hD
  refine W.widen (k := 6) (n := 240) (Nat.le_of_ble_eq_true rfl) (Nat.le_of_ble_eq_true rfl) ?_
  exact W.vret hx hb hr (fun t ht hW => ⟨⟨fun k => ([h0, q1, q2, q3, q4, q5, q6] : List Nat).getD k 0, rfl, rfl, by rw [ht]; exact hP, hD⟩, hS.F ht⟩) hS.2.2 dX2_init_56
theorem dX3_init_0 : decode cX3_init 0 = .ok (.aload_n 0, 1) := by decide +kernel
theorem dX3_init_1 : decode cX3_init 1 = .ok (.invokespecial 3, 3) := by decide +kernel
theorem dX3_init_4 : decode cX3_init 4 = .ok (.aload_n 0, 1) := by decide +kernel
theorem dX3_init_5 : decode cX3_init 5 = .ok (.sipush 300, 3) := by decide +kernel
theorem dX3_init_8 : decode cX3_init 8 = .ok (.newarray .int, 2) := by decide +kernel
theorem dX3_init_10 : decode cX3_init 10 = .ok (.putfield 9, 3) := by decide +kernel
theorem dX3_init_13 : decode cX3_init 13 = .ok (.return_, 1) := by decide +kernel
def uX3 (cA : Nat → ClassId) (v : Nat → Nat) : va_W := [(v 0, .inr (3, [.ref (v 1), .int 0, .int 0, .int 0, .int 0, .int 0])), (v 1, .inl (cA 0, 300, .inl (fun _ => 0)))]
abbrev fX3_0 : List Value := [.null, .int 0, .int 0, .int 0, .int 0, .int 0]
set_option maxHeartbeats 4000000 in
theorem iX3 (l : Launch) (D : va_G) (cA : Nat → ClassId) (h0 : Nat) (sz d : Nat) : Met l yX3_init (Cond.code yX3_init cX3_init 1 none :: dt_W0) (cs_rm (d + 1) 1 300) (va_Pc [Value.ref h0] (cs_P D cA (h0, .inr (3, fX3_0)) sz)) (va_Qv (S := Nat → Nat) (fun v => v 0 = h0) (fun v t => va_P D vwCl (uX3 cA v) t.heap ∧ va_D (va_A [(h0, .inr (3, fX3_0))] sz) (uX3 cA v)) (va_A [(h0, .inr (3, fX3_0))] sz)) 1 300 (va_A [(h0, .inr (3, fX3_0))] sz) := by
  refine Met.ofW (cc := cX3_init) (maxL := 1) (ret := none) (by decide) rfl ?_
  intro p e s m args below meth c s₁ B hml hv
  obtain ⟨rfl, hsz, hP, hK, hD0⟩ := hv
  have hx := B.exec
  have hb := B.bytes
  have hr := B.returns
  have hts0 := atoms_spec B.pre
  have hts : ∀ w ∈ dt_W0, w.before _ s = true := fun w hw => hts0 w (List.mem_cons_of_mem _ hw)
  have hown : s.vm.findClass RX3 = some m.cls := findClass_of_methodNamed B.named
  have hlocks := B.notSynchronized
  have hin : meth.name = "<init>" := (name_of_methodNamed B.named B.method).1
  subst hsz
  have hD := hD0.self (sz := s.heap.size)
  generalize hAe : va_A [(h0, .inr (3, fX3_0))] s.heap.size = A at hD ⊢
  have hA : ∀ q : Nat, s.heap.size ≤ q → A q := fun q h => by rw [← hAe]; exact Or.inr h
  have hS : va_S A s.heap s.heap [] := va_S.rf
  have hl := lv_entry ([Value.ref h0]) (n := 1) (Nat.le_of_ble_eq_true rfl)
  rw [lg_entry_eq]
  generalize (lg_sl ([Value.ref h0]) ++ List.replicate (1 - (lg_sl ([Value.ref h0])).length) Slot.unset).toArray = ls at hl ⊢
  have hl : lv_has ls 1 [(0, .ref h0)] := hl
  refine lv_aload_n hx hb dX3_init_0 rfl (lv_at hl 0 rfl) ?_
  refine W.objInit hx hb hown (hts _ wq_1_86) (hts _ wq_1_20) (hts _ wq_1_21) rfl (by rw [hml]; exact hl.1) rfl dX3_init_1 (by show 1 ≤ d + 1; omega) (by show 2 * 0 + 0 + 12 ≤ 39 * (d + 1); omega) ?_
  refine W.eq (g2 := F0 m 4 ls []) rfl ?_
  refine lv_aload_n hx hb dX3_init_4 rfl (lv_at hl 0 rfl) ?_
  refine lv_sipush (v := 300) hx hb dX3_init_5 (by decide) ?_
  refine cs_np (tf := .array .int) (atype := .int) (a0 := (300, .inl (fun _ => 0))) (N' := 300) hx hb hts ffX3 hown hK hP hD hS hA hin 0 rfl rfl ra_i wq_1_80 (fun _ => rfl) (by decide) (by decide) (Nat.le_of_ble_eq_true rfl) (Nat.le_of_ble_eq_true rfl) (Nat.le_of_ble_eq_true rfl) dX3_init_8 0 (by decide) wq_1_87 rfl rfl rfl (by decide +kernel) (fun _ => rfl) (fun _ => rfl) (Nat.le_of_ble_eq_true rfl) dX3_init_10 (fun q1 H locs hP hD hS => ?_)
  have hP : va_P D vwCl [(h0, .inr (3, [.ref q1, .int 0, .int 0, .int 0, .int 0, .int 0])), (q1, .inl (cA 0, 300, .inl (fun _ => 0)))] H := hP
  have hD : va_D A [(h0, .inr (3, [.ref q1, .int 0, .int 0, .int 0, .int 0, .int 0])), (q1, .inl (cA 0, 300, .inl (fun _ => 0)))] := hD
  refine W.widen (k := 1) (n := 300) (Nat.le_of_ble_eq_true rfl) (Nat.le_of_ble_eq_true rfl) ?_
  exact W.vret hx hb hr (fun t ht hW => ⟨⟨fun k => ([h0, q1] : List Nat).getD k 0, rfl, rfl, by rw [ht]; exact hP, hD⟩, hS.F ht⟩) hS.2.2 dX3_init_13
theorem dX4_init_0 : decode cX4_init 0 = .ok (.aload_n 0, 1) := by decide +kernel
theorem dX4_init_1 : decode cX4_init 1 = .ok (.invokespecial 3, 3) := by decide +kernel
theorem dX4_init_4 : decode cX4_init 4 = .ok (.aload_n 0, 1) := by decide +kernel
theorem dX4_init_5 : decode cX4_init 5 = .ok (.bipush 20, 2) := by decide +kernel
theorem dX4_init_7 : decode cX4_init 7 = .ok (.newarray .int, 2) := by decide +kernel
theorem dX4_init_9 : decode cX4_init 9 = .ok (.putfield 9, 3) := by decide +kernel
theorem dX4_init_12 : decode cX4_init 12 = .ok (.return_, 1) := by decide +kernel
def uX4 (cA : Nat → ClassId) (v : Nat → Nat) : va_W := [(v 0, .inr (4, [.ref (v 1)])), (v 1, .inl (cA 0, 20, .inl (fun _ => 0)))]
abbrev fX4_0 : List Value := [.null]
set_option maxHeartbeats 4000000 in
theorem iX4 (l : Launch) (D : va_G) (cA : Nat → ClassId) (h0 : Nat) (sz d : Nat) : Met l yX4_init (Cond.code yX4_init cX4_init 1 none :: dt_W0) (cs_rm (d + 1) 1 20) (va_Pc [Value.ref h0] (cs_P D cA (h0, .inr (4, fX4_0)) sz)) (va_Qv (S := Nat → Nat) (fun v => v 0 = h0) (fun v t => va_P D vwCl (uX4 cA v) t.heap ∧ va_D (va_A [(h0, .inr (4, fX4_0))] sz) (uX4 cA v)) (va_A [(h0, .inr (4, fX4_0))] sz)) 1 20 (va_A [(h0, .inr (4, fX4_0))] sz) := by
  refine Met.ofW (cc := cX4_init) (maxL := 1) (ret := none) (by decide) rfl ?_
  intro p e s m args below meth c s₁ B hml hv
  obtain ⟨rfl, hsz, hP, hK, hD0⟩ := hv
  have hx := B.exec
  have hb := B.bytes
  have hr := B.returns
  have hts0 := atoms_spec B.pre
  have hts : ∀ w ∈ dt_W0, w.before _ s = true := fun w hw => hts0 w (List.mem_cons_of_mem _ hw)
  have hown : s.vm.findClass RX4 = some m.cls := findClass_of_methodNamed B.named
  have hlocks := B.notSynchronized
  have hin : meth.name = "<init>" := (name_of_methodNamed B.named B.method).1
  subst hsz
  have hD := hD0.self (sz := s.heap.size)
  generalize hAe : va_A [(h0, .inr (4, fX4_0))] s.heap.size = A at hD ⊢
  have hA : ∀ q : Nat, s.heap.size ≤ q → A q := fun q h => by rw [← hAe]; exact Or.inr h
  have hS : va_S A s.heap s.heap [] := va_S.rf
  have hl := lv_entry ([Value.ref h0]) (n := 1) (Nat.le_of_ble_eq_true rfl)
  rw [lg_entry_eq]
  generalize (lg_sl ([Value.ref h0]) ++ List.replicate (1 - (lg_sl ([Value.ref h0])).length) Slot.unset).toArray = ls at hl ⊢
  have hl : lv_has ls 1 [(0, .ref h0)] := hl
  refine lv_aload_n hx hb dX4_init_0 rfl (lv_at hl 0 rfl) ?_
  refine W.objInit hx hb hown (hts _ wq_1_112) (hts _ wq_1_20) (hts _ wq_1_21) rfl (by rw [hml]; exact hl.1) rfl dX4_init_1 (by show 1 ≤ d + 1; omega) (by show 2 * 0 + 0 + 12 ≤ 39 * (d + 1); omega) ?_
  refine W.eq (g2 := F0 m 4 ls []) rfl ?_
  refine lv_aload_n hx hb dX4_init_4 rfl (lv_at hl 0 rfl) ?_
  refine lv_bipush (v := 20) hx hb dX4_init_5 (by decide) ?_
  refine cs_np (tf := .array .int) (atype := .int) (a0 := (20, .inl (fun _ => 0))) (N' := 20) hx hb hts ffX4 hown hK hP hD hS hA hin 0 rfl rfl ra_i wq_1_80 (fun _ => rfl) (by decide) (by decide) (Nat.le_of_ble_eq_true rfl) (Nat.le_of_ble_eq_true rfl) (Nat.le_of_ble_eq_true rfl) dX4_init_7 0 (by decide) wq_1_113 rfl rfl rfl (by decide +kernel) (fun _ => rfl) (fun _ => rfl) (Nat.le_of_ble_eq_true rfl) dX4_init_9 (fun q1 H locs hP hD hS => ?_)
  have hP : va_P D vwCl [(h0, .inr (4, [.ref q1])), (q1, .inl (cA 0, 20, .inl (fun _ => 0)))] H := hP
  have hD : va_D A [(h0, .inr (4, [.ref q1])), (q1, .inl (cA 0, 20, .inl (fun _ => 0)))] := hD
  refine W.widen (k := 1) (n := 20) (Nat.le_of_ble_eq_true rfl) (Nat.le_of_ble_eq_true rfl) ?_
  exact W.vret hx hb hr (fun t ht hW => ⟨⟨fun k => ([h0, q1] : List Nat).getD k 0, rfl, rfl, by rw [ht]; exact hP, hD⟩, hS.F ht⟩) hS.2.2 dX4_init_12
theorem dX5_init_0 : decode cX5_init 0 = .ok (.aload_n 0, 1) := by decide +kernel
theorem dX5_init_1 : decode cX5_init 1 = .ok (.invokespecial 3, 3) := by decide +kernel
theorem dX5_init_4 : decode cX5_init 4 = .ok (.aload_n 0, 1) := by decide +kernel
theorem dX5_init_5 : decode cX5_init 5 = .ok (.bipush 20, 2) := by decide +kernel
theorem dX5_init_7 : decode cX5_init 7 = .ok (.newarray .boolean, 2) := by decide +kernel
theorem dX5_init_9 : decode cX5_init 9 = .ok (.putfield 9, 3) := by decide +kernel
theorem dX5_init_12 : decode cX5_init 12 = .ok (.aload_n 0, 1) := by decide +kernel
theorem dX5_init_13 : decode cX5_init 13 = .ok (.bipush 20, 2) := by decide +kernel
theorem dX5_init_15 : decode cX5_init 15 = .ok (.newarray .int, 2) := by decide +kernel
theorem dX5_init_17 : decode cX5_init 17 = .ok (.putfield 15, 3) := by decide +kernel
theorem dX5_init_20 : decode cX5_init 20 = .ok (.aload_n 0, 1) := by decide +kernel
theorem dX5_init_21 : decode cX5_init 21 = .ok (.bipush 20, 2) := by decide +kernel
theorem dX5_init_23 : decode cX5_init 23 = .ok (.newarray .int, 2) := by decide +kernel
theorem dX5_init_25 : decode cX5_init 25 = .ok (.putfield 19, 3) := by decide +kernel
theorem dX5_init_28 : decode cX5_init 28 = .ok (.aload_n 0, 1) := by decide +kernel
theorem dX5_init_29 : decode cX5_init 29 = .ok (.bipush 20, 2) := by decide +kernel
theorem dX5_init_31 : decode cX5_init 31 = .ok (.newarray .int, 2) := by decide +kernel
theorem dX5_init_33 : decode cX5_init 33 = .ok (.putfield 22, 3) := by decide +kernel
theorem dX5_init_36 : decode cX5_init 36 = .ok (.aload_n 0, 1) := by decide +kernel
theorem dX5_init_37 : decode cX5_init 37 = .ok (.bipush 20, 2) := by decide +kernel
theorem dX5_init_39 : decode cX5_init 39 = .ok (.newarray .int, 2) := by decide +kernel
theorem dX5_init_41 : decode cX5_init 41 = .ok (.putfield 25, 3) := by decide +kernel
theorem dX5_init_44 : decode cX5_init 44 = .ok (.aload_n 0, 1) := by decide +kernel
theorem dX5_init_45 : decode cX5_init 45 = .ok (.iconst 4, 1) := by decide +kernel
theorem dX5_init_46 : decode cX5_init 46 = .ok (.newarray .int, 2) := by decide +kernel
theorem dX5_init_48 : decode cX5_init 48 = .ok (.putfield 28, 3) := by decide +kernel
theorem dX5_init_51 : decode cX5_init 51 = .ok (.aload_n 0, 1) := by decide +kernel
theorem dX5_init_52 : decode cX5_init 52 = .ok (.bipush 40, 2) := by decide +kernel
theorem dX5_init_54 : decode cX5_init 54 = .ok (.newarray .int, 2) := by decide +kernel
theorem dX5_init_56 : decode cX5_init 56 = .ok (.putfield 31, 3) := by decide +kernel
theorem dX5_init_59 : decode cX5_init 59 = .ok (.return_, 1) := by decide +kernel
def uX5 (cA : Nat → ClassId) (v : Nat → Nat) : va_W := [(v 0, .inr (5, [.ref (v 1), .ref (v 2), .ref (v 3), .ref (v 4), .ref (v 5), .ref (v 6), .ref (v 7), .int 0, .int 0])), (v 1, .inl (cA 1, 20, .inl (fun _ => 0))), (v 2, .inl (cA 0, 20, .inl (fun _ => 0))), (v 3, .inl (cA 0, 20, .inl (fun _ => 0))), (v 4, .inl (cA 0, 20, .inl (fun _ => 0))), (v 5, .inl (cA 0, 20, .inl (fun _ => 0))), (v 6, .inl (cA 0, 4, .inl (fun _ => 0))), (v 7, .inl (cA 0, 40, .inl (fun _ => 0)))]
abbrev fX5_0 : List Value := [.null, .null, .null, .null, .null, .null, .null, .int 0, .int 0]
set_option maxHeartbeats 4000000 in
theorem iX5 (l : Launch) (D : va_G) (cA : Nat → ClassId) (h0 : Nat) (sz d : Nat) : Met l yX5_init (Cond.code yX5_init cX5_init 1 none :: dt_W0) (cs_rm (d + 1) 7 144) (va_Pc [Value.ref h0] (cs_P D cA (h0, .inr (5, fX5_0)) sz)) (va_Qv (S := Nat → Nat) (fun v => v 0 = h0) (fun v t => va_P D vwCl (uX5 cA v) t.heap ∧ va_D (va_A [(h0, .inr (5, fX5_0))] sz) (uX5 cA v)) (va_A [(h0, .inr (5, fX5_0))] sz)) 7 144 (va_A [(h0, .inr (5, fX5_0))] sz) := by
  refine Met.ofW (cc := cX5_init) (maxL := 1) (ret := none) (by decide) rfl ?_
  intro p e s m args below meth c s₁ B hml hv
  obtain ⟨rfl, hsz, hP, hK, hD0⟩ := hv
  have hx := B.exec
  have hb := B.bytes
  have hr := B.returns
  have hts0 := atoms_spec B.pre
  have hts : ∀ w ∈ dt_W0, w.before _ s = true := fun w hw => hts0 w (List.mem_cons_of_mem _ hw)
  have hown : s.vm.findClass RX5 = some m.cls := findClass_of_methodNamed B.named
  have hlocks := B.notSynchronized
  have hin : meth.name = "<init>" := (name_of_methodNamed B.named B.method).1
  subst hsz
  have hD := hD0.self (sz := s.heap.size)
  generalize hAe : va_A [(h0, .inr (5, fX5_0))] s.heap.size = A at hD ⊢
  have hA : ∀ q : Nat, s.heap.size ≤ q → A q := fun q h => by rw [← hAe]; exact Or.inr h
  have hS : va_S A s.heap s.heap [] := va_S.rf
  have hl := lv_entry ([Value.ref h0]) (n := 1) (Nat.le_of_ble_eq_true rfl)
  rw [lg_entry_eq]
  generalize (lg_sl ([Value.ref h0]) ++ List.replicate (1 - (lg_sl ([Value.ref h0])).length) Slot.unset).toArray = ls at hl ⊢
  have hl : lv_has ls 1 [(0, .ref h0)] := hl
  refine lv_aload_n hx hb dX5_init_0 rfl (lv_at hl 0 rfl) ?_
  refine W.objInit hx hb hown (hts _ wq_1_28) (hts _ wq_1_20) (hts _ wq_1_21) rfl (by rw [hml]; exact hl.1) rfl dX5_init_1 (by show 1 ≤ d + 1; omega) (by show 2 * 0 + 0 + 12 ≤ 39 * (d + 1); omega) ?_
  refine W.eq (g2 := F0 m 4 ls []) rfl ?_
  refine lv_aload_n hx hb dX5_init_4 rfl (lv_at hl 0 rfl) ?_
  refine lv_bipush (v := 20) hx hb dX5_init_5 (by decide) ?_
  refine cs_np (tf := .array .boolean) (atype := .boolean) (a0 := (20, .inl (fun _ => 0))) (N' := 20) hx hb hts ffX5 hown hK hP hD hS hA hin 1 rfl rfl ra_z wq_1_79 (fun _ => rfl) (by decide) (by decide) (Nat.le_of_ble_eq_true rfl) (Nat.le_of_ble_eq_true rfl) (Nat.le_of_ble_eq_true rfl) dX5_init_7 0 (by decide) wq_1_29 rfl rfl rfl (by decide +kernel) (fun _ => rfl) (fun _ => rfl) (Nat.le_of_ble_eq_true rfl) dX5_init_9 (fun q1 H locs hP hD hS => ?_)
  have hP : va_P D vwCl [(h0, .inr (5, [.ref q1, .null, .null, .null, .null, .null, .null, .int 0, .int 0])), (q1, .inl (cA 1, 20, .inl (fun _ => 0)))] H := hP
  have hD : va_D A [(h0, .inr (5, [.ref q1, .null, .null, .null, .null, .null, .null, .int 0, .int 0])), (q1, .inl (cA 1, 20, .inl (fun _ => 0)))] := hD
  refine lv_aload_n hx hb dX5_init_12 rfl (lv_at hl 0 rfl) ?_
  refine lv_bipush (v := 20) hx hb dX5_init_13 (by decide) ?_
  refine cs_np (tf := .array .int) (atype := .int) (a0 := (20, .inl (fun _ => 0))) (N' := 20) hx hb hts ffX5 hown hK hP hD hS hA hin 0 rfl rfl ra_i wq_1_80 (fun _ => rfl) (by decide) (by decide) (Nat.le_of_ble_eq_true rfl) (Nat.le_of_ble_eq_true rfl) (Nat.le_of_ble_eq_true rfl) dX5_init_15 1 (by decide) wq_1_34 rfl rfl rfl (by decide +kernel) (fun _ => rfl) (fun _ => rfl) (Nat.le_of_ble_eq_true rfl) dX5_init_17 (fun q2 H locs hP hD hS => ?_)
  have hP : va_P D vwCl [(h0, .inr (5, [.ref q1, .ref q2, .null, .null, .null, .null, .null, .int 0, .int 0])), (q1, .inl (cA 1, 20, .inl (fun _ => 0))), (q2, .inl (cA 0, 20, .inl (fun _ => 0)))] H := hP
  have hD : va_D A [(h0, .inr (5, [.ref q1, .ref q2, .null, .null, .null, .null, .null, .int 0, .int 0])), (q1, .inl (cA 1, 20, .inl (fun _ => 0))), (q2, .inl (cA 0, 20, .inl (fun _ => 0)))] := hD
  refine lv_aload_n hx hb dX5_init_20 rfl (lv_at hl 0 rfl) ?_
  refine lv_bipush (v := 20) hx hb dX5_init_21 (by decide) ?_
  refine cs_np (tf := .array .int) (atype := .int) (a0 := (20, .inl (fun _ => 0))) (N' := 20) hx hb hts ffX5 hown hK hP hD hS hA hin 0 rfl rfl ra_i wq_1_80 (fun _ => rfl) (by decide) (by decide) (Nat.le_of_ble_eq_true rfl) (Nat.le_of_ble_eq_true rfl) (Nat.le_of_ble_eq_true rfl) dX5_init_23 2 (by decide) wq_1_38 rfl rfl rfl (by decide +kernel) (fun _ => rfl) (fun _ => rfl) (Nat.le_of_ble_eq_true rfl) dX5_init_25 (fun q3 H locs hP hD hS => ?_)
  have hP : va_P D vwCl [(h0, .inr (5, [.ref q1, .ref q2, .ref q3, .null, .null, .null, .null, .int 0, .int 0])), (q1, .inl (cA 1, 20, .inl (fun _ => 0))), (q2, .inl (cA 0, 20, .inl (fun _ => 0))), (q3, .inl (cA 0, 20, .inl (fun _ => 0)))] H := hP
  have hD : va_D A [(h0, .inr (5, [.ref q1, .ref q2, .ref q3, .null, .null, .null, .null, .int 0, .int 0])), (q1, .inl (cA 1, 20, .inl (fun _ => 0))), (q2, .inl (cA 0, 20, .inl (fun _ => 0))), (q3, .inl (cA 0, 20, .inl (fun _ => 0)))] := hD
  refine lv_aload_n hx hb dX5_init_28 rfl (lv_at hl 0 rfl) ?_
  refine lv_bipush (v := 20) hx hb dX5_init_29 (by decide) ?_
  refine cs_np (tf := .array .int) (atype := .int) (a0 := (20, .inl (fun _ => 0))) (N' := 20) hx hb hts ffX5 hown hK hP hD hS hA hin 0 rfl rfl ra_i wq_1_80 (fun _ => rfl) (by decide) (by decide) (Nat.le_of_ble_eq_true rfl) (Nat.le_of_ble_eq_true rfl) (Nat.le_of_ble_eq_true rfl) dX5_init_31 3 (by decide) wq_1_42 rfl rfl rfl (by decide +kernel) (fun _ => rfl) (fun _ => rfl) (Nat.le_of_ble_eq_true rfl) dX5_init_33 (fun q4 H locs hP hD hS => ?_)
  have hP : va_P D vwCl [(h0, .inr (5, [.ref q1, .ref q2, .ref q3, .ref q4, .null, .null, .null, .int 0, .int 0])), (q1, .inl (cA 1, 20, .inl (fun _ => 0))), (q2, .inl (cA 0, 20, .inl (fun _ => 0))), (q3, .inl (cA 0, 20, .inl (fun _ => 0))), (q4, .inl (cA 0, 20, .inl (fun _ => 0)))] H := hP
  have hD : va_D A [(h0, .inr (5, [.ref q1, .ref q2, .ref q3, .ref q4, .null, .null, .null, .int 0, .int 0])), (q1, .inl (cA 1, 20, .inl (fun _ => 0))), (q2, .inl (cA 0, 20, .inl (fun _ => 0))), (q3, .inl (cA 0, 20, .inl (fun _ => 0))), (q4, .inl (cA 0, 20, .inl (fun _ => 0)))] := hD
  refine lv_aload_n hx hb dX5_init_36 rfl (lv_at hl 0 rfl) ?_
  refine lv_bipush (v := 20) hx hb dX5_init_37 (by decide) ?_
  refine cs_np (tf := .array .int) (atype := .int) (a0 := (20, .inl (fun _ => 0))) (N' := 20) hx hb hts ffX5 hown hK hP hD hS hA hin 0 rfl rfl ra_i wq_1_80 (fun _ => rfl) (by decide) (by decide) (Nat.le_of_ble_eq_true rfl) (Nat.le_of_ble_eq_true rfl) (Nat.le_of_ble_eq_true rfl) dX5_init_39 4 (by decide) wq_1_45 rfl rfl rfl (by decide +kernel) (fun _ => rfl) (fun _ => rfl) (Nat.le_of_ble_eq_true rfl) dX5_init_41 (fun q5 H locs hP hD hS => ?_)
  have hP : va_P D vwCl [(h0, .inr (5, [.ref q1, .ref q2, .ref q3, .ref q4, .ref q5, .null, .null, .int 0, .int 0])), (q1, .inl (cA 1, 20, .inl (fun _ => 0))), (q2, .inl (cA 0, 20, .inl (fun _ => 0))), (q3, .inl (cA 0, 20, .inl (fun _ => 0))), (q4, .inl (cA 0, 20, .inl (fun _ => 0))), (q5, .inl (cA 0, 20, .inl (fun _ => 0)))] H := hP
  have hD : va_D A [(h0, .inr (5, [.ref q1, .ref q2, .ref q3, .ref q4, .ref q5, .null, .null, .int 0, .int 0])), (q1, .inl (cA 1, 20, .inl (fun _ => 0))), (q2, .inl (cA 0, 20, .inl (fun _ => 0))), (q3, .inl (cA 0, 20, .inl (fun _ => 0))), (q4, .inl (cA 0, 20, .inl (fun _ => 0))), (q5, .inl (cA 0, 20, .inl (fun _ => 0)))] := hD
  refine lv_aload_n hx hb dX5_init_44 rfl (lv_at hl 0 rfl) ?_
  refine lv_iconst (v := 4) hx hb dX5_init_45 (by decide) ?_
  refine cs_np (tf := .array .int) (atype := .int) (a0 := (4, .inl (fun _ => 0))) (N' := 4) hx hb hts ffX5 hown hK hP hD hS hA hin 0 rfl rfl ra_i wq_1_80 (fun _ => rfl) (by decide) (by decide) (Nat.le_of_ble_eq_true rfl) (Nat.le_of_ble_eq_true rfl) (Nat.le_of_ble_eq_true rfl) dX5_init_46 5 (by decide) wq_1_49 rfl rfl rfl (by decide +kernel) (fun _ => rfl) (fun _ => rfl) (Nat.le_of_ble_eq_true rfl) dX5_init_48 (fun q6 H locs hP hD hS => ?_)
  have hP : va_P D vwCl [(h0, .inr (5, [.ref q1, .ref q2, .ref q3, .ref q4, .ref q5, .ref q6, .null, .int 0, .int 0])), (q1, .inl (cA 1, 20, .inl (fun _ => 0))), (q2, .inl (cA 0, 20, .inl (fun _ => 0))), (q3, .inl (cA 0, 20, .inl (fun _ => 0))), (q4, .inl (cA 0, 20, .inl (fun _ => 0))), (q5, .inl (cA 0, 20, .inl (fun _ => 0))), (q6, .inl (cA 0, 4, .inl (fun _ => 0)))] H := hP
  have hD : va_D A [(h0, .inr (5, [.ref q1, .ref q2, .ref q3, .ref q4, .ref q5, .ref q6, .null, .int 0, .int 0])), (q1, .inl (cA 1, 20, .inl (fun _ => 0))), (q2, .inl (cA 0, 20, .inl (fun _ => 0))), (q3, .inl (cA 0, 20, .inl (fun _ => 0))), (q4, .inl (cA 0, 20, .inl (fun _ => 0))), (q5, .inl (cA 0, 20, .inl (fun _ => 0))), (q6, .inl (cA 0, 4, .inl (fun _ => 0)))] := hD
  refine lv_aload_n hx hb dX5_init_51 rfl (lv_at hl 0 rfl) ?_
  refine lv_bipush (v := 40) hx hb dX5_init_52 (by decide) ?_
  refine cs_np (tf := .array .int) (atype := .int) (a0 := (40, .inl (fun _ => 0))) (N' := 40) hx hb hts ffX5 hown hK hP hD hS hA hin 0 rfl rfl ra_i wq_1_80 (fun _ => rfl) (by decide) (by decide) (Nat.le_of_ble_eq_true rfl) (Nat.le_of_ble_eq_true rfl) (Nat.le_of_ble_eq_true rfl) dX5_init_54 6 (by decide) wq_1_52 rfl rfl rfl (by decide +kernel) (fun _ => rfl) (fun _ => rfl) (Nat.le_of_ble_eq_true rfl) dX5_init_56 (fun q7 H locs hP hD hS => ?_)
  have hP : va_P D vwCl [(h0, .inr (5, [.ref q1, .ref q2, .ref q3, .ref q4, .ref q5, .ref q6, .ref q7, .int 0, .int 0])), (q1, .inl (cA 1, 20, .inl (fun _ => 0))), (q2, .inl (cA 0, 20, .inl (fun _ => 0))), (q3, .inl (cA 0, 20, .inl (fun _ => 0))), (q4, .inl (cA 0, 20, .inl (fun _ => 0))), (q5, .inl (cA 0, 20, .inl (fun _ => 0))), (q6, .inl (cA 0, 4, .inl (fun _ => 0))), (q7, .inl (cA 0, 40, .inl (fun _ => 0)))] H := hP
  have hD : va_D A [(h0, .inr (5, [.ref q1, .ref q2, .ref q3, .ref q4, .ref q5, .ref q6, .ref q7, .int 0, .int 0])), (q1, .inl (cA 1, 20, .inl (fun _ => 0))), (q2, .inl (cA 0, 20, .inl (fun _ => 0))), (q3, .inl (cA 0, 20, .inl (fun _ => 0))), (q4, .inl (cA 0, 20, .inl (fun _ => 0))), (q5, .inl (cA 0, 20, .inl (fun _ => 0))), (q6, .inl (cA 0, 4, .inl (fun _ => 0))), (q7, .inl (cA 0, 40, .inl (fun _ => 0)))] := hD
  refine W.widen (k := 7) (n := 144) (Nat.le_of_ble_eq_true rfl) (Nat.le_of_ble_eq_true rfl) ?_
  exact W.vret hx hb hr (fun t ht hW => ⟨⟨fun k => ([h0, q1, q2, q3, q4, q5, q6, q7] : List Nat).getD k 0, rfl, rfl, by rw [ht]; exact hP, hD⟩, hS.F ht⟩) hS.2.2 dX5_init_59
