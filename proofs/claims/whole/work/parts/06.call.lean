/-! ===== calls, ends, entries ===== -/
def dt_sz : List dt_V → Nat
  | [] => 0
  | .inr (.inl _) :: r => dt_sz r + 2
  | _ :: r => dt_sz r + 1
theorem dc_sz (ad : Nat → Nat) : ∀ r : List dt_V, ((r.map (dt_cv ad)).map fun v => v.category).sum = dt_sz r
  | [] => rfl
  | .inl x :: r => by
    have := dc_sz ad r
    show 1 + ((r.map (dt_cv ad)).map fun v => v.category).sum = dt_sz r + 1
    rw [this]; omega
  | .inr (.inl x) :: r => by
    have := dc_sz ad r
    show 2 + ((r.map (dt_cv ad)).map fun v => v.category).sum = dt_sz r + 2
    rw [this]; omega
  | .inr (.inr x) :: r => by
    have := dc_sz ad r
    show 1 + ((r.map (dt_cv ad)).map fun v => v.category).sum = dt_sz r + 1
    rw [this]; omega
theorem dc_D {A : Nat → Prop} {M M' : dt_M} {ad : Nat → Nat} {cA : Nat → ClassId} (h : va_D A (dt_wd M ad cA)) : va_D A (dt_wd M' ad cA) := by
  have key : ∀ (k : Nat) (q : Nat × va_E), (dt_wd M' ad cA)[k]? = some q → k < 86 ∧ q.1 = ad k := by
    intro k q hk
    by_cases hl : k < 86
    · rw [dw_at hl] at hk; cases hk; exact ⟨hl, rfl⟩
    · rw [List.getElem?_eq_none (by simp [dt_wd]; omega)] at hk; cases hk
  refine ⟨fun i j p q hi hj hpq => ?_, fun k q hk => ?_⟩
  · obtain ⟨a1, a2⟩ := key i p hi
    obtain ⟨b1, b2⟩ := key j q hj
    exact h.1 i j _ _ (dw_at a1) (dw_at b1) (by rw [← a2, ← b2]; exact hpq)
  · obtain ⟨a1, a2⟩ := key k q hk
    rw [a2]
    exact h.2 k _ (dw_at a1)
theorem dc_A {A : Nat → Prop} {M : dt_M} {ad : Nat → Nat} {cA : Nat → ClassId} (h : va_D A (dt_wd M ad cA)) : ∀ q, dt_A ad q → A q := by
  rintro q ⟨k, hk, rfl⟩
  exact h.2 k _ (dw_at hk)
theorem dc_self {A : Nat → Prop} {M : dt_M} {ad : Nat → Nat} {cA : Nat → ClassId} (h : va_D A (dt_wd M ad cA)) : va_D (dt_A ad) (dt_wd M ad cA) := by
  refine ⟨h.1, fun k q hk => ?_⟩
  by_cases hl : k < 86
  · rw [dw_at hl] at hk; cases hk; exact ⟨k, hl, rfl⟩
  · rw [List.getElem?_eq_none (by simp [dt_wd]; omega)] at hk; cases hk
theorem dc_NW {s U : State} (hW : s.WarmedH U.vm) (h : ∀ w ∈ dt_NW, va_Nw w s) : ∀ w ∈ dt_NW, va_Nw w U := by
  intro w hw
  have h1 := h w hw
  have h2 := (List.mem_filter.mp hw).2
  unfold dt_nst at h2
  split at h2
  · exact va_Nw.warmF hW h1
  · exact va_Nw.warmM hW h1
  · cases h2
theorem dc_NWs {s U : State} (hv : s.vm = U.vm) (h : ∀ w ∈ dt_NW, va_Nw w s) : ∀ w ∈ dt_NW, va_Nw w U := by
  intro w hw
  have h1 := h w hw
  have h2 := (List.mem_filter.mp hw).2
  unfold dt_nst at h2
  split at h2
  · exact va_Nw.same rfl hv h1
  · exact va_Nw.same rfl hv h1
  · cases h2
theorem dc_SF {ad : Nat → Nat} {A B : Nat → Prop} {s U : State} {H H1 : Heap} (hW : s.WarmedH U.vm) (hq : ∀ a : Nat, a < H.size → ¬ A a → H1[a]? = H[a]?) (hAB : ∀ q, B q → A q) (h : dt_SF ad A s H) : dt_SF ad B U H1 := by
  obtain ⟨⟨adV, h1⟩, h2, h3, h4, h5⟩ := h
  exact ⟨⟨adV, ((h1.kept hq).narrow hAB).moved hW.alike⟩, ((h2.kept hq).narrow hAB).moved hW.alike, ((h3.kept hq).narrow hAB).moved hW.alike, vk_R.warm hW h4, vk_R.warm hW h5⟩
theorem dc_SFs {ad : Nat → Nat} {A : Nat → Prop} {s U : State} {H : Heap} (hv : U.vm = s.vm) (h : dt_SF ad A s H) : dt_SF ad A U H := by
  obtain ⟨⟨adV, h1⟩, h2, h3, h4, h5⟩ := h
  have ha : s.vm.Alike U.vm := by rw [hv]; exact Vm.Alike.refl s.vm
  exact ⟨⟨adV, h1.moved ha⟩, h2.moved ha, h3.moved ha, vk_R.same hv h4, vk_R.same hv h5⟩
theorem dc_blind {D : va_G} {ad : Nat → Nat} {cA : Nat → ClassId} {av : List dt_V} {M : dt_M} : FrameBlind (dt_Pc D ad cA av M) := by
  intro a U g mk q
  obtain ⟨h1, h2, h3, h4, h5, h6, h7, h8⟩ := q
  exact ⟨h1, h2, h3, h4, h5, va_K.moved (u := U) (U := U.calling g mk a) (Vm.Alike.refl U.vm) h6, dc_NWs (s := U) (U := U.calling g mk a) rfl h7, dc_SFs (s := U) (U := U.calling g mk a) rfl h8⟩
theorem dc_good {y : dt_Y} (hc : Cond.code y.1 y.2.1 y.2.2.1 y.2.2.2 ∈ dt_W0) : GoodIn dt_W0 (Cond.code y.1 y.2.1 y.2.2.1 y.2.2.2 :: dt_W0) := by
  intro w hw
  have h : w ∈ dt_W0 := (List.mem_cons.mp hw).elim (fun e => e ▸ hc) id
  exact ⟨h, good_of_word (List.mem_filter.mp h).2⟩
/-- what a caller knows of a method that it calls -/
def dt_N (y : dt_Y) (n : Nat) : Prop := Cond.code y.1 y.2.1 y.2.2.1 y.2.2.2 ∈ dt_W0 ∧ Cond.initialized y.1.cls ∈ dt_W0 ∧ (y.1.cls ≠ "java/lang/invoke/MethodHandle" ∧ y.1.cls ≠ "java/lang/invoke/VarHandle" ∧ (parseMethodDescriptor y.1.desc).map (fun d => d.parameters.length) = some n) ∧ y.2.2.1 ≤ 20
/-- behind a call -/
theorem dc_back {y : dt_Y} {d : Nat} {Q : Option dt_V → dt_M → Prop} {p : Program} {l : Launch} {e : Env} {R : Room} {s : State} {m : MethodId} {args : Array Value} {below : List Frame} {meth : Method} {c : Code} {cells slots : Nat} {Qf : State → Prop} {D : va_G} {ad : Nat → Nat} {cA : Nat → ClassId} {A : Nat → Prop}
    (C : dt_C y d Q p l e R s m args below meth c cells slots Qf D ad cA A) {H : Heap} {locs : List Loc} {ls : Array Slot} {M : dt_M} (hW : dt_W D ad cA A s H locs M) {K : dt_K} (hK : ∀ pc lv st M, K pc lv st M → dt_J y d Q pc lv st M) {pc : Nat} {lv : dt_L} (hlv : ∀ v, some v ∈ lv → dt_okv v) (hL : dt_H ad ls y.2.2.1 lv) {r : List dt_V} (hr : ∀ v ∈ r, dt_okv v) {rt : Option FieldType} {Φ : Option dt_V → dt_M → Prop} {a : Array Value} {st0 : List Value}
    (hrun : va_Run p l e R s m args below meth c H locs cells slots 0 0 (F0 m pc ls st0) (r.map (dt_cv ad)) (dt_Qc D ad cA rt Φ a) (dt_A ad)) (hcont : ∀ rv M', Φ rv M' → K (pc + 3) lv (rv.toList ++ r) M') :
    W p l e R s m args below meth c H locs cells slots Qf (F0 m pc ls st0) := by
  intro T hT X
  obtain ⟨v, st₀, t, T', L, h0, X', hLo, e1, e2, ⟨⟨rv, M', hv, hΦ, hok, hRM, hP⟩, hF⟩, st⟩ := hrun T hT X
  have hv : v = rv.map (dt_cv ad) := by cases hv; rfl
  subst hv
  have hrv : ∀ w ∈ rv.toList, dt_okv w := by
    intro w hw
    cases rv with
    | none => cases hw
    | some z =>
      rw [Option.toList_some, List.mem_singleton] at hw
      subst hw
      unfold dt_okr at hok
      split at hok
      · next h => cases h
      · next x h => cases h; exact hok
      · next x h => cases h; rcases hok with q | q <;> subst q <;> exact ⟨by decide, by decide⟩
      · next x h => cases h; exact hok
      · next x h => cases h; exact hok
      · exact hok.elim
  have hA := dc_A hW.2.1
  have hW' : dt_W D ad cA A s T'.heap (locs ++ L) M' := by
    refine ⟨by rw [e1]; exact hP, dc_D hW.2.1, ?_⟩
    obtain ⟨hz, hk⟩ := hF
    rw [h0] at hz hk
    refine ⟨Nat.le_trans hW.2.2.1 (by rw [e1]; exact hz), fun q h1 h2 => ?_, fun q hq => ?_⟩
    · rw [e1, hk q (Nat.lt_of_lt_of_le h1 hW.2.2.1) (fun z => h2 (hA q z))]
      exact hW.2.2.2.1 q h1 h2
    · rcases List.mem_append.mp hq with h | h
      · exact hW.2.2.2.2 q h
      · exact hA _ (hLo q h)
  have hJ := hK _ _ _ _ (hcont rv M' hΦ) ⟨hlv, fun w hw => (List.mem_append.mp hw).elim (hrv w) (hr w), hRM⟩ p l e R s m args below meth c cells slots Qf D ad cA A C T'.heap (locs ++ L) ls hW' hL
  obtain ⟨t2, a1, b1⟩ := hJ T' rfl X'
  refine ⟨t2, st t2 ?_, b1⟩
  have e3 : List.map (dt_cv ad) (rv.toList ++ r) = (rv.map (dt_cv ad)).toList ++ r.map (dt_cv ad) := by cases rv <;> simp
  rw [← e3]
  exact a1
theorem dc_pre {y : dt_Y} {d : Nat} {Q : Option dt_V → dt_M → Prop} {p : Program} {l : Launch} {e : Env} {R : Room} {s : State} {m : MethodId} {args : Array Value} {below : List Frame} {meth : Method} {c : Code} {cells slots : Nat} {Qf : State → Prop} {D : va_G} {ad : Nat → Nat} {cA : Nat → ClassId} {A : Nat → Prop}
    (C : dt_C y d Q p l e R s m args below meth c cells slots Qf D ad cA A) {H : Heap} {locs : List Loc} {M : dt_M} (hW : dt_W D ad cA A s H locs M) (hM : dt_RM M) {av : List dt_V} (hav : ∀ v ∈ av, dt_okv v) : PreS s H (dt_Pc D ad cA av M) (av.map (dt_cv ad)) := by
  refine ⟨dc_blind, fun U hU hw => ⟨rfl, hav, hM, by rw [hU]; exact hW.1, dc_self hW.2.1, va_K.moved hw.alike C.2.2.2.2.2.1, dc_NW hw C.2.2.2.2.2.2.1, ?_⟩⟩
  rw [hU]
  exact dc_SF hw hW.2.2.2.1 (dc_A hW.2.1) C.2.2.2.2.2.2.2.2.1
def tc_callV (ci : Nat) (z : dt_Y) (n : Nat) (nx : Nat) : dt_T := fun d _ K pc lv st M => match d, st.drop n with
  | d' + 1, .inr (.inr (t, nn, k)) :: r => cond (t == ci + 4 && Nat.ble (dt_sz r) 8) (∃ Φ : Option dt_V → dt_M → Prop, dt_Sp z d' (.inr (.inr (t, nn, k)) :: (st.take n).reverse) M Φ ∧ ∀ rv M', Φ rv M' → K nx lv (rv.toList ++ r) M') False
  | _, _ => False
theorem dc_st {st r : List dt_V} {n : Nat} {v : dt_V} (h : st.drop n = v :: r) : st = st.take n ++ v :: r ∧ (st.take n).length = n := by
  refine ⟨by rw [← h, List.take_append_drop], ?_⟩
  have : n < st.length := by
    rcases Nat.lt_or_ge n st.length with q | q
    · exact q
    · rw [List.drop_eq_nil_of_le q] at h; cases h
  rw [List.length_take]; omega
theorem sn_callV {y z : dt_Y} {nx pc ci index n N : Nat} {own CN : String} {T : u_T} (ho : y.1.cls = own) (hF : dt_F ci CN T N) (hz : dt_N z n) (hc : z.1.cls = CN) (hw1 : Cond.methodLink own index z.1 ∈ dt_W0) (hw2 : Cond.instanceMethod z.1 ∈ dt_W0) (hw3 : Cond.selects CN z.1 z.1 ∈ dt_W0) (hd : decode y.2.1 pc = .ok (.invokevirtual index, 3)) (hx9 : nx = pc + 3) : dt_S y (tc_callV ci z n nx) pc := by
  subst hx9
  intro d Q K hK lv st M h
  unfold tc_callV at h
  split at h
  · next d' t nn k r hst =>
    obtain ⟨hb, Φ, hSp, hcont⟩ := dt_cd h
    rw [Bool.and_eq_true] at hb
    have ht : t = ci + 4 := eq_of_beq hb.1
    have hsz : dt_sz r ≤ 8 := Nat.ble_eq.mp hb.2
    clear h hb
    subst ht
    obtain ⟨e1, e2⟩ := dc_st hst
    intro ok p l e R s m args below meth c cells slots Qf D ad cA A C H locs ls hW hL
    have hst' : ∀ v ∈ st.take n ++ .inr (.inr (ci + 4, nn, k)) :: r, dt_okv v := by rw [← e1]; exact ok.2.1
    have hk : dt_kd k = (ci + 4, nn) := hst' (.inr (.inr (ci + 4, nn, k))) (by simp)
    have hav : ∀ v ∈ ((.inr (.inr (ci + 4, nn, k)) : dt_V) :: (st.take n).reverse), dt_okv v := fun v hv => hst' v (by
      rcases List.mem_cons.mp hv with q | q
      · rw [q]; simp
      · exact List.mem_append_left _ (List.mem_reverse.mp q))
    have hr : ∀ v ∈ r, dt_okv v := fun v hv => hst' v (by simp [hv])
    have hN := dk_N hk (dk_c8 hF.1) hF.1
    subst hN
    have hkl := dk_lt hk (by have := dk_c8 hF.1; omega)
    have hpre := dc_pre C hW ok.2.2 hav
    have hrecv := va_recv (q0 := k) (a := ad k) C.2.2.2.2.2.1 hW.1 hF.1 (by rw [dw_at hkl, dw_obj hk])
    have hrun := va_runV (e := e) (below := below) (meth := meth) (locs := locs) (As := ((st.take n).reverse).map (dt_cv ad)) (rest := r.map (dt_cv ad)) (b := ad k) (C := CN) (n := n) (index := index) (g := F0 m pc ls (st.map (dt_cv ad)))
      ⟨C.1, C.2.1, C.2.2.1, (ho ▸ C.2.2.2.1 : s.vm.findClass own = some m.cls), C.2.2.2.2.1⟩ (hSp l D ad cA)
      (⟨callB_of n C.2.2.2.2.1 (dc_good hz.1) rfl rfl rfl (C.2.2.2.2.1 _ hz.2.1) (C.2.2.2.2.1 _ hw1) hz.2.2.1 ⟨C.2.2.2.2.2.2.2.1.1, by have := C.2.2.2.2.2.2.2.1.2.1; have := hz.2.2.2; show 8 + (z.2.2.1 + 11) + 39 * d' ≤ R.locals; omega⟩, C.2.2.2.2.1 _ hw2, C.2.2.2.2.1 _ hw3⟩)
      ⟨hpre.1, hrecv, hpre.2⟩ rfl (by rw [List.length_map, List.length_reverse, e2]) hL.1
      (by show List.map (dt_cv ad) st = _; rw [List.map_reverse, List.reverse_reverse]; conv => lhs; rw [e1]
          rw [List.map_append, List.map_cons]; rfl)
      (by rw [dc_sz]; show 2 * 0 + dt_sz r ≤ 8; omega) hd ⟨C.2.2.2.2.2.2.2.1.2.2.1, C.2.2.2.2.2.2.2.1.2.2.2⟩
    exact dc_back C hW hK ok.1 hL hr hrun hcont
  · exact h.elim
theorem sn_callVN {y z : dt_Y} {nx pc ci index n N : Nat} {own CN host : String} {T : u_T} (ho : y.1.cls = own) (hF : dt_F ci CN T N) (hz : dt_N z n) (hc : z.1.cls = CN) (hw1 : Cond.methodLinkNest own index z.1 host ∈ dt_NW) (hw2 : Cond.instanceMethod z.1 ∈ dt_W0) (hw3 : Cond.selects CN z.1 z.1 ∈ dt_W0) (hd : decode y.2.1 pc = .ok (.invokevirtual index, 3)) (hx9 : nx = pc + 3) : dt_S y (tc_callV ci z n nx) pc := by
  subst hx9
  intro d Q K hK lv st M h
  unfold tc_callV at h
  split at h
  · next d' t nn k r hst =>
    obtain ⟨hb, Φ, hSp, hcont⟩ := dt_cd h
    rw [Bool.and_eq_true] at hb
    have ht : t = ci + 4 := eq_of_beq hb.1
    have hsz : dt_sz r ≤ 8 := Nat.ble_eq.mp hb.2
    clear h hb
    subst ht
    obtain ⟨e1, e2⟩ := dc_st hst
    intro ok p l e R s m args below meth c cells slots Qf D ad cA A C H locs ls hW hL
    have hst' : ∀ v ∈ st.take n ++ .inr (.inr (ci + 4, nn, k)) :: r, dt_okv v := by rw [← e1]; exact ok.2.1
    have hk : dt_kd k = (ci + 4, nn) := hst' (.inr (.inr (ci + 4, nn, k))) (by simp)
    have hav : ∀ v ∈ ((.inr (.inr (ci + 4, nn, k)) : dt_V) :: (st.take n).reverse), dt_okv v := fun v hv => hst' v (by
      rcases List.mem_cons.mp hv with q | q
      · rw [q]; simp
      · exact List.mem_append_left _ (List.mem_reverse.mp q))
    have hr : ∀ v ∈ r, dt_okv v := fun v hv => hst' v (by simp [hv])
    have hN := dk_N hk (dk_c8 hF.1) hF.1
    subst hN
    have hkl := dk_lt hk (by have := dk_c8 hF.1; omega)
    have hpre := dc_pre C hW ok.2.2 hav
    have hrecv := va_recv (q0 := k) (a := ad k) C.2.2.2.2.2.1 hW.1 hF.1 (by rw [dw_at hkl, dw_obj hk])
    have hrun := va_runVN (host := host) (e := e) (below := below) (meth := meth) (locs := locs) (As := ((st.take n).reverse).map (dt_cv ad)) (rest := r.map (dt_cv ad)) (b := ad k) (C := CN) (n := n) (index := index) (g := F0 m pc ls (st.map (dt_cv ad)))
      ⟨C.1, C.2.1, C.2.2.1, (ho ▸ C.2.2.2.1 : s.vm.findClass own = some m.cls), C.2.2.2.2.1⟩ (hSp l D ad cA)
      (⟨va_cnB n C.2.2.2.2.1 (dc_good hz.1) rfl rfl rfl (C.2.2.2.2.2.2.1 _ hw1) (C.2.2.2.2.1 _ hz.2.1) hz.2.2.1 ⟨C.2.2.2.2.2.2.2.1.1, by have := C.2.2.2.2.2.2.2.1.2.1; have := hz.2.2.2; show 8 + (z.2.2.1 + 11) + 39 * d' ≤ R.locals; omega⟩, C.2.2.2.2.1 _ hw2, C.2.2.2.2.1 _ hw3⟩)
      ⟨hpre.1, hrecv, hpre.2⟩ rfl (by rw [List.length_map, List.length_reverse, e2]) hL.1
      (by show List.map (dt_cv ad) st = _; rw [List.map_reverse, List.reverse_reverse]; conv => lhs; rw [e1]
          rw [List.map_append, List.map_cons]; rfl)
      (by rw [dc_sz]; show 2 * 0 + dt_sz r ≤ 8; omega) hd ⟨C.2.2.2.2.2.2.2.1.2.2.1, C.2.2.2.2.2.2.2.1.2.2.2⟩
    exact dc_back C hW hK ok.1 hL hr hrun hcont
  · exact h.elim
def tc_callS (z : dt_Y) (n : Nat) (nx : Nat) : dt_T := fun d _ K pc lv st M => match d with
  | d' + 1 => cond (Nat.ble n st.length && Nat.ble (dt_sz (st.drop n)) 8) (∃ Φ : Option dt_V → dt_M → Prop, dt_Sp z d' (st.take n).reverse M Φ ∧ ∀ rv M', Φ rv M' → K nx lv (rv.toList ++ st.drop n) M') False
  | 0 => False
theorem sn_callS {y z : dt_Y} {nx pc index n : Nat} {own : String} (ho : y.1.cls = own) (hz : dt_N z n) (hw1 : Cond.methodLink own index z.1 ∈ dt_W0) (hw2 : Cond.static z.1 ∈ dt_W0) (hd : decode y.2.1 pc = .ok (.invokestatic index, 3)) (hx9 : nx = pc + 3) : dt_S y (tc_callS z n nx) pc := by
  subst hx9
  intro d Q K hK lv st M h
  unfold tc_callS at h
  split at h
  · next d' =>
    obtain ⟨hb, Φ, hSp, hcont⟩ := dt_cd h
    rw [Bool.and_eq_true] at hb
    have hn : n ≤ st.length := Nat.ble_eq.mp hb.1
    have hsz : dt_sz (st.drop n) ≤ 8 := Nat.ble_eq.mp hb.2
    clear h hb
    intro ok p l e R s m args below meth c cells slots Qf D ad cA A C H locs ls hW hL
    have hav : ∀ v ∈ (st.take n).reverse, dt_okv v := fun v hv => ok.2.1 v (List.mem_of_mem_take (List.mem_reverse.mp hv))
    have hr : ∀ v ∈ st.drop n, dt_okv v := fun v hv => ok.2.1 v (List.mem_of_mem_drop hv)
    have hpre := dc_pre C hW ok.2.2 hav
    have hrun := va_runS (e := e) (below := below) (meth := meth) (locs := locs) (As := ((st.take n).reverse).map (dt_cv ad)) (rest := (st.drop n).map (dt_cv ad)) (n := n) (index := index) (g := F0 m pc ls (st.map (dt_cv ad)))
      ⟨C.1, C.2.1, C.2.2.1, (ho ▸ C.2.2.2.1 : s.vm.findClass own = some m.cls), C.2.2.2.2.1⟩ (hSp l D ad cA)
      (⟨callB_of n C.2.2.2.2.1 (dc_good hz.1) rfl rfl rfl (C.2.2.2.2.1 _ hz.2.1) (C.2.2.2.2.1 _ hw1) hz.2.2.1 ⟨C.2.2.2.2.2.2.2.1.1, by have := C.2.2.2.2.2.2.2.1.2.1; have := hz.2.2.2; show 8 + (z.2.2.1 + 11) + 39 * d' ≤ R.locals; omega⟩, C.2.2.2.2.1 _ hw2⟩)
      hpre rfl (by rw [List.length_map, List.length_reverse, List.length_take]; omega) hL.1
      (by show List.map (dt_cv ad) st = _; rw [List.map_reverse, List.reverse_reverse, ← List.map_append, List.take_append_drop])
      (by rw [dc_sz]; show 2 * 0 + dt_sz (st.drop n) ≤ 8; omega) hd ⟨C.2.2.2.2.2.2.2.1.2.2.1, C.2.2.2.2.2.2.2.1.2.2.2⟩
    exact dc_back C hW hK ok.1 hL hr hrun hcont
  · exact h.elim
theorem sn_callSN {y z : dt_Y} {nx pc index n : Nat} {own host : String} (ho : y.1.cls = own) (hz : dt_N z n) (hw1 : Cond.methodLinkNest own index z.1 host ∈ dt_NW) (hw2 : Cond.static z.1 ∈ dt_W0) (hd : decode y.2.1 pc = .ok (.invokestatic index, 3)) (hx9 : nx = pc + 3) : dt_S y (tc_callS z n nx) pc := by
  subst hx9
  intro d Q K hK lv st M h
  unfold tc_callS at h
  split at h
  · next d' =>
    obtain ⟨hb, Φ, hSp, hcont⟩ := dt_cd h
    rw [Bool.and_eq_true] at hb
    have hn : n ≤ st.length := Nat.ble_eq.mp hb.1
    have hsz : dt_sz (st.drop n) ≤ 8 := Nat.ble_eq.mp hb.2
    clear h hb
    intro ok p l e R s m args below meth c cells slots Qf D ad cA A C H locs ls hW hL
    have hav : ∀ v ∈ (st.take n).reverse, dt_okv v := fun v hv => ok.2.1 v (List.mem_of_mem_take (List.mem_reverse.mp hv))
    have hr : ∀ v ∈ st.drop n, dt_okv v := fun v hv => ok.2.1 v (List.mem_of_mem_drop hv)
    have hpre := dc_pre C hW ok.2.2 hav
    have hrun := va_runSN (host := host) (e := e) (below := below) (meth := meth) (locs := locs) (As := ((st.take n).reverse).map (dt_cv ad)) (rest := (st.drop n).map (dt_cv ad)) (n := n) (index := index) (g := F0 m pc ls (st.map (dt_cv ad)))
      ⟨C.1, C.2.1, C.2.2.1, (ho ▸ C.2.2.2.1 : s.vm.findClass own = some m.cls), C.2.2.2.2.1⟩ (hSp l D ad cA)
      (⟨va_cnB n C.2.2.2.2.1 (dc_good hz.1) rfl rfl rfl (C.2.2.2.2.2.2.1 _ hw1) (C.2.2.2.2.1 _ hz.2.1) hz.2.2.1 ⟨C.2.2.2.2.2.2.2.1.1, by have := C.2.2.2.2.2.2.2.1.2.1; have := hz.2.2.2; show 8 + (z.2.2.1 + 11) + 39 * d' ≤ R.locals; omega⟩, C.2.2.2.2.1 _ hw2, trivial⟩)
      hpre rfl (by rw [List.length_map, List.length_reverse, List.length_take]; omega) hL.1
      (by show List.map (dt_cv ad) st = _; rw [List.map_reverse, List.reverse_reverse, ← List.map_append, List.take_append_drop])
      (by rw [dc_sz]; show 2 * 0 + dt_sz (st.drop n) ≤ 8; omega) hd ⟨C.2.2.2.2.2.2.2.1.2.2.1, C.2.2.2.2.2.2.2.1.2.2.2⟩
    exact dc_back C hW hK ok.1 hL hr hrun hcont
  · exact h.elim
/-! ends -/
def tc_ret : dt_T := fun _ Q _ _ _ st M => match st with
  | [] => Q none M
  | _ => False
theorem sn_ret {y : dt_Y} {pc : Nat} (hr : y.2.2.2 = none) (hd : decode y.2.1 pc = .ok (.return_, 1)) : dt_S y tc_ret pc := by
  intro d Q K hK lv st M h
  unfold tc_ret at h
  split at h
  · intro ok p l e R s m args below meth c cells slots Qf D ad cA A C H locs ls hW hL
    exact C.2.2.2.2.2.2.2.2.2 H locs M none pc ls hW ok.2.2 (by rw [hr]; trivial) h hd
  · exact h.elim
def tc_iret : dt_T := fun _ Q _ _ _ st M => match st with
  | [.inl x] => Q (some (.inl x)) M
  | _ => False
theorem sn_iret {y : dt_Y} {pc : Nat} (hr : y.2.2.2 = some .int) (hd : decode y.2.1 pc = .ok (.ireturn, 1)) : dt_S y tc_iret pc := by
  intro d Q K hK lv st M h
  unfold tc_iret at h
  split at h
  · next x =>
    intro ok p l e R s m args below meth c cells slots Qf D ad cA A C H locs ls hW hL
    exact C.2.2.2.2.2.2.2.2.2 H locs M (some (.inl x)) pc ls hW ok.2.2 (by rw [hr]; exact ds_h ok.2.1) h hd
  · exact h.elim
def tc_zret : dt_T := fun _ Q _ _ _ st M => match st with
  | [.inl x] => (x = 0 ∨ x = 1) ∧ Q (some (.inl x)) M
  | _ => False
theorem sn_zret {y : dt_Y} {pc : Nat} (hr : y.2.2.2 = some .boolean) (hd : decode y.2.1 pc = .ok (.ireturn, 1)) : dt_S y tc_zret pc := by
  intro d Q K hK lv st M h
  unfold tc_zret at h
  split at h
  · next x =>
    intro ok p l e R s m args below meth c cells slots Qf D ad cA A C H locs ls hW hL
    exact C.2.2.2.2.2.2.2.2.2 H locs M (some (.inl x)) pc ls hW ok.2.2 (by rw [hr]; exact h.1) h.2 hd
  · exact h.elim
def tc_lret : dt_T := fun _ Q _ _ _ st M => match st with
  | [.inr (.inl x)] => Q (some (.inr (.inl x))) M
  | _ => False
theorem sn_lret {y : dt_Y} {pc : Nat} (hr : y.2.2.2 = some .long) (hd : decode y.2.1 pc = .ok (.lreturn, 1)) : dt_S y tc_lret pc := by
  intro d Q K hK lv st M h
  unfold tc_lret at h
  split at h
  · next x =>
    intro ok p l e R s m args below meth c cells slots Qf D ad cA A C H locs ls hW hL
    exact C.2.2.2.2.2.2.2.2.2 H locs M (some (.inr (.inl x))) pc ls hW ok.2.2 (by rw [hr]; exact ds_h ok.2.1) h hd
  · exact h.elim
def tc_aret : dt_T := fun _ Q _ _ _ st M => match st with
  | [.inr (.inr x)] => Q (some (.inr (.inr x))) M
  | _ => False
theorem sn_aret {y : dt_Y} {pc : Nat} {C : String} (hr : y.2.2.2 = some (.object C)) (hd : decode y.2.1 pc = .ok (.areturn, 1)) : dt_S y tc_aret pc := by
  intro d Q K hK lv st M h
  unfold tc_aret at h
  split at h
  · next x =>
    intro ok p l e R s m args below meth c cells slots Qf D ad cA A C H locs ls hW hL
    exact C.2.2.2.2.2.2.2.2.2 H locs M (some (.inr (.inr x))) pc ls hW ok.2.2 (by rw [hr]; exact ds_h ok.2.1) h hd
  · exact h.elim
/-! Math.max, Math.min -/
def tc_max (nx : Nat) : dt_T := fun d _ K pc lv st M => match d, st with
  | _ + 1, .inl b :: .inl a :: r => cond (Nat.ble (dt_sz r) 8) (K nx lv (.inl (if a < b then b else a) :: r) M) False
  | _, _ => False
def tc_min (nx : Nat) : dt_T := fun d _ K pc lv st M => match d, st with
  | _ + 1, .inl b :: .inl a :: r => cond (Nat.ble (dt_sz r) 8) (K nx lv (.inl (if b < a then b else a) :: r) M) False
  | _, _ => False
theorem sn_max {y : dt_Y} {nx pc index : Nat} {own : String} (ho : y.1.cls = own) (hw1 : Cond.methodLink own index Lib.Math.max.name ∈ dt_W0) (hw2 : Cond.static Lib.Math.max.name ∈ dt_W0) (hw3 : Cond.initialized "java/lang/Math" ∈ dt_W0) (hw4 : Cond.code Lib.Math.max.name Lib.Math.max.code 2 (some .int) ∈ dt_W0) (hd : decode y.2.1 pc = .ok (.invokestatic index, 3)) (hx9 : nx = pc + 3) : dt_S y (tc_max nx) pc := by
  subst hx9
  intro d Q K hK lv st M h
  unfold tc_max at h
  split at h
  · next d' b a r =>
    obtain ⟨hb, h9⟩ := dt_cd h
    have hsz : dt_sz r ≤ 8 := Nat.ble_eq.mp hb
    intro ok p l e R s m args below meth c cells slots Qf D ad cA A C H locs ls hW hL
    have rb : dt_r b := ds_h ok.2.1
    have ra : dt_r a := ds_h (ds_t ok.2.1)
    have := hK _ _ _ _ h9 ⟨ok.1, ds_c (show dt_r _ by split <;> assumption) (ds_t (ds_t ok.2.1)), ok.2.2⟩ p l e R s m args below meth c cells slots Qf D ad cA A C H locs ls hW hL
    refine va_mmax C.1 C.2.1 (by rw [C.2.2.1, hL.1]) (own := own) (ho ▸ C.2.2.2.1) (C.2.2.2.2.1 _ hw1) (C.2.2.2.2.1 _ hw2) (C.2.2.2.2.1 _ hw3) (C.2.2.2.2.1 _ hw4) (by have := C.2.2.2.2.2.2.2.1.1; omega) (by rw [dc_sz]; have := C.2.2.2.2.2.2.2.1.2.1; omega) C.2.2.2.2.2.2.2.1.2.2.1 C.2.2.2.2.2.2.2.1.2.2.2 hd ?_
    have e9 : (if Int32.ofInt a < Int32.ofInt b then Int32.ofInt b else Int32.ofInt a) = Int32.ofInt (if a < b then b else a) := by
      simp only [dn_lt ra rb]
      split <;> rfl
    rw [e9]
    exact this
  · exact h.elim
theorem sn_min {y : dt_Y} {nx pc index : Nat} {own : String} (ho : y.1.cls = own) (hw1 : Cond.methodLink own index Lib.Math.min.name ∈ dt_W0) (hw2 : Cond.static Lib.Math.min.name ∈ dt_W0) (hw3 : Cond.initialized "java/lang/Math" ∈ dt_W0) (hw4 : Cond.code Lib.Math.min.name Lib.Math.min.code 2 (some .int) ∈ dt_W0) (hd : decode y.2.1 pc = .ok (.invokestatic index, 3)) (hx9 : nx = pc + 3) : dt_S y (tc_min nx) pc := by
  subst hx9
  intro d Q K hK lv st M h
  unfold tc_min at h
  split at h
  · next d' b a r =>
    obtain ⟨hb, h9⟩ := dt_cd h
    have hsz : dt_sz r ≤ 8 := Nat.ble_eq.mp hb
    intro ok p l e R s m args below meth c cells slots Qf D ad cA A C H locs ls hW hL
    have rb : dt_r b := ds_h ok.2.1
    have ra : dt_r a := ds_h (ds_t ok.2.1)
    have := hK _ _ _ _ h9 ⟨ok.1, ds_c (show dt_r _ by split <;> assumption) (ds_t (ds_t ok.2.1)), ok.2.2⟩ p l e R s m args below meth c cells slots Qf D ad cA A C H locs ls hW hL
    refine va_mmin C.1 C.2.1 (by rw [C.2.2.1, hL.1]) (own := own) (ho ▸ C.2.2.2.1) (C.2.2.2.2.1 _ hw1) (C.2.2.2.2.1 _ hw2) (C.2.2.2.2.1 _ hw3) (C.2.2.2.2.1 _ hw4) (by have := C.2.2.2.2.2.2.2.1.1; omega) (by rw [dc_sz]; have := C.2.2.2.2.2.2.2.1.2.1; omega) C.2.2.2.2.2.2.2.1.2.2.1 C.2.2.2.2.2.2.2.1.2.2.2 hd ?_
    have e9 : (if Int32.ofInt b < Int32.ofInt a then Int32.ofInt b else Int32.ofInt a) = Int32.ofInt (if b < a then b else a) := by
      simp only [dn_lt rb ra]
      split <;> rfl
    rw [e9]
    exact this
  · exact h.elim
