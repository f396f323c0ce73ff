/-! ===== entries; walking a method ===== -/
def dt_lv0 : List dt_V → dt_L
  | [] => []
  | .inr (.inl x) :: r => some (.inr (.inl x)) :: none :: dt_lv0 r
  | v :: r => some v :: dt_lv0 r
def dt_lv (av : List dt_V) (n : Nat) : dt_L := dt_lv0 av ++ List.replicate (n - (dt_lv0 av).length) none
theorem de_len (ad : Nat → Nat) : ∀ av : List dt_V, (lg_sl (av.map (dt_cv ad))).length = (dt_lv0 av).length
  | [] => rfl
  | .inl x :: r => by
    have := de_len ad r
    show ([Slot.val (dt_cv ad (.inl x))] ++ lg_sl (r.map (dt_cv ad))).length = (dt_lv0 r).length + 1
    rw [List.length_append, this]; simp; omega
  | .inr (.inl x) :: r => by
    have := de_len ad r
    show ([Slot.val (dt_cv ad (.inr (.inl x))), Slot.second] ++ lg_sl (r.map (dt_cv ad))).length = (dt_lv0 r).length + 1 + 1
    rw [List.length_append, this]; simp; omega
  | .inr (.inr x) :: r => by
    have := de_len ad r
    show ([Slot.val (dt_cv ad (.inr (.inr x)))] ++ lg_sl (r.map (dt_cv ad))).length = (dt_lv0 r).length + 1
    rw [List.length_append, this]; simp; omega
theorem de_args (ad : Nat → Nat) : ∀ (av : List dt_V) (o i : Nat) (v : dt_V), (dt_lv0 av)[i]? = some (some v) → (o + i, dt_cv ad v) ∈ lv_args o (av.map (dt_cv ad))
  | [], o, i, v, h => by simp [dt_lv0] at h
  | .inl x :: r, o, i, v, h => by
    show (o + i, dt_cv ad v) ∈ (o, dt_cv ad (.inl x)) :: lv_args (o + 1) (r.map (dt_cv ad))
    cases i with
    | zero => cases h; exact List.mem_cons_self
    | succ i =>
      have h2 : (dt_lv0 r)[i]? = some (some v) := h
      have := de_args ad r (o + 1) i v h2
      rw [show o + (i + 1) = o + 1 + i by omega]
      exact List.mem_cons_of_mem _ this
  | .inr (.inl x) :: r, o, i, v, h => by
    show (o + i, dt_cv ad v) ∈ (o, dt_cv ad (.inr (.inl x))) :: lv_args (o + 2) (r.map (dt_cv ad))
    match i, h with
    | 0, h => cases h; exact List.mem_cons_self
    | 1, h => cases h
    | i + 2, h =>
      have h2 : (dt_lv0 r)[i]? = some (some v) := h
      have := de_args ad r (o + 2) i v h2
      rw [show o + (i + 2) = o + 2 + i by omega]
      exact List.mem_cons_of_mem _ this
  | .inr (.inr x) :: r, o, i, v, h => by
    show (o + i, dt_cv ad v) ∈ (o, dt_cv ad (.inr (.inr x))) :: lv_args (o + 1) (r.map (dt_cv ad))
    cases i with
    | zero => cases h; exact List.mem_cons_self
    | succ i =>
      have h2 : (dt_lv0 r)[i]? = some (some v) := h
      have := de_args ad r (o + 1) i v h2
      rw [show o + (i + 1) = o + 1 + i by omega]
      exact List.mem_cons_of_mem _ this
theorem de_lv {av : List dt_V} {n i : Nat} {v : dt_V} (h : (dt_lv av n)[i]? = some (some v)) : (dt_lv0 av)[i]? = some (some v) := by
  unfold dt_lv at h
  by_cases hi : i < (dt_lv0 av).length
  · rw [List.getElem?_append_left hi] at h; exact h
  · rw [List.getElem?_append_right (by omega)] at h
    have := List.eq_of_mem_replicate (List.mem_of_getElem? h)
    cases this
theorem de_ok : ∀ {av : List dt_V}, (∀ v ∈ av, dt_okv v) → ∀ v, some v ∈ dt_lv0 av → dt_okv v
  | [], _, v, hv => by cases hv
  | .inl x :: r, h, v, hv => by
    rcases List.mem_cons.mp hv with q | q
    · cases q; exact h _ List.mem_cons_self
    · exact de_ok (ds_t h) v q
  | .inr (.inl x) :: r, h, v, hv => by
    rcases List.mem_cons.mp hv with q | q
    · cases q; exact h _ List.mem_cons_self
    · rcases List.mem_cons.mp q with q | q
      · cases q
      · exact de_ok (ds_t h) v q
  | .inr (.inr x) :: r, h, v, hv => by
    rcases List.mem_cons.mp hv with q | q
    · cases q; exact h _ List.mem_cons_self
    · exact de_ok (ds_t h) v q
theorem de_ok2 {av : List dt_V} {n : Nat} (h : ∀ v ∈ av, dt_okv v) : ∀ v, some v ∈ dt_lv av n → dt_okv v := by
  intro v hv
  obtain ⟨i, hi⟩ := List.getElem?_of_mem hv
  exact de_ok h v (List.mem_of_getElem? (de_lv hi))
/-- A METHOD'S CONTRACT out of its walk -/
theorem dt_enter {y : dt_Y} {d : Nat} {av : List dt_V} {M : dt_M} {Φ : Option dt_V → dt_M → Prop} (hy : plainName y.1.cls = true) (hs : (dt_lv0 av).length ≤ y.2.2.1) (h : dt_J y d Φ 0 (dt_lv av y.2.2.1) [] M) : dt_Sp y d av M Φ := by
  intro l D ad cA
  refine Met.ofW (cc := y.2.1) (maxL := y.2.2.1) (ret := y.2.2.2) hy rfl ?_
  intro p e s m args below meth c s₁ B hml hv
  obtain ⟨rfl, hav, hM, hP, hD, hK, hN, hSF⟩ := hv
  have hts := atoms_spec (ws := Cond.code y.1 y.2.1 y.2.2.1 y.2.2.2 :: dt_W0) B.pre
  have hown : s.vm.findClass y.1.cls = some m.cls := findClass_of_methodNamed B.named
  have hx := B.exec
  have hb := B.bytes
  have hr := B.returns
  have hlocks := B.notSynchronized
  have hl := lv_entry (av.map (dt_cv ad)) (n := y.2.2.1) (by rw [de_len]; exact hs)
  rw [lg_entry_eq]
  generalize (lg_sl (av.map (dt_cv ad)) ++ List.replicate (y.2.2.1 - (lg_sl (av.map (dt_cv ad))).length) Slot.unset).toArray = ls at hl ⊢
  refine h ⟨de_ok2 hav, fun v hv => absurd hv List.not_mem_nil, hM⟩ p l e (dt_room d) s m _ below meth c 0 0 _ D ad cA (dt_A ad) ⟨hx, hb, hml, hown, fun w hw => hts w (List.mem_cons_of_mem _ hw), hK, hN, ⟨Nat.le_refl _, Nat.le_refl _, Nat.le_refl _, Nat.le_refl _⟩, hSF, ?_⟩ s.heap [] ls ⟨hP, hD, va_S.rf⟩ ⟨hl.1, hl.2.1, fun i v hi => ?_⟩
  · intro H locs M' r pc ls' hW hM' hok hQ hri
    have hq : ∀ t : State, t.heap = H → s.WarmedH t.vm → dt_Qc D ad cA y.2.2.2 Φ (av.map (dt_cv ad)).toArray s (.returned (r.map (dt_cv ad))) t := fun t ht _ =>
      ⟨⟨r, M', rfl, hQ, hok, hM', by rw [ht]; exact hW.1⟩, hW.2.2.F ht⟩
    have hf : ∀ q ∈ locs, dt_A ad q.base := hW.2.2.2.2
    generalize hrt : y.2.2.2 = rt at hok hr hq
    unfold dt_okr at hok
    unfold dt_ri at hri
    split at hok
    · exact W.vret hx hb hr hq hf hri
    · next x => exact W.iret hx hb hr hq hf hri
    · next x => exact W.zret (ty := .boolean) hx hb hr (by rcases hok with z | z <;> subst z <;> rfl) hq hf hri
    · next x => exact W.lret hx hb hr hq hf hri
    · next x => exact W.aret hx hb hr (Or.inl ⟨_, rfl⟩) (Or.inr ⟨_, rfl⟩) hq hf hri
    · exact hok.elim
  · have := de_args ad av 0 i v (de_lv hi)
    rw [Nat.zero_add] at this
    exact hl.2.2 _ this
/-! a walk: from a place on, up to the places where one stops -/
def dt_w (tb : Nat → dt_T) (cut : Nat → Bool) (d : Nat) (Q : Option dt_V → dt_M → Prop) (J : dt_K) (n : Nat) : dt_K :=
  Nat.rec (motive := fun _ => dt_K) J (fun _ ih pc lv st M => cond (cut pc) (J pc lv st M) (tb pc d Q ih pc lv st M)) n
theorem dt_w_ok {y : dt_Y} {tb : Nat → dt_T} (ht : ∀ pc, dt_S y (tb pc) pc) (cut : Nat → Bool) (d : Nat) (Q : Option dt_V → dt_M → Prop) : ∀ (n : Nat) (pc : Nat) (lv : dt_L) (st : List dt_V) (M : dt_M), dt_w tb cut d Q (dt_J y d Q) n pc lv st M → dt_J y d Q pc lv st M
  | 0, _, _, _, _, h => h
  | n + 1, pc, lv, st, M, h => by
    have h' : cond (cut pc) (dt_J y d Q pc lv st M) (tb pc d Q (dt_w tb cut d Q (dt_J y d Q) n) pc lv st M) := h
    cases hc : cut pc with
    | true => rw [hc] at h'; exact h'
    | false => rw [hc] at h'; exact ht pc d Q _ (dt_w_ok ht cut d Q n) lv st M h'
/-- the first step even where one would stop, then the walk -/
theorem dt_go {y : dt_Y} {tb : Nat → dt_T} (ht : ∀ pc, dt_S y (tb pc) pc) (cut : Nat → Bool) (n : Nat) {d : Nat} {Q : Option dt_V → dt_M → Prop} {pc : Nat} {lv : dt_L} {st : List dt_V} {M : dt_M} (h : tb pc d Q (dt_w tb cut d Q (dt_J y d Q) n) pc lv st M) : dt_J y d Q pc lv st M := ht pc d Q _ (dt_w_ok ht cut d Q n) lv st M h
/-- fewer locals known -/
theorem dt_less {y : dt_Y} {d : Nat} {Q : Option dt_V → dt_M → Prop} {pc : Nat} {lv lv' : dt_L} {st : List dt_V} {M : dt_M} (hl : ∀ (i : Nat) (v : dt_V), lv[i]? = some (some v) → lv'[i]? = some (some v)) (h : dt_J y d Q pc lv st M) : dt_J y d Q pc lv' st M := by
  intro ok p l e R s m args below meth c cells slots Qf D ad cA A C H locs ls hW hL
  exact h ⟨fun v hv => by
    obtain ⟨i, hi⟩ := List.getElem?_of_mem hv
    exact ok.1 v (List.mem_of_getElem? (hl i v hi)), ok.2⟩ p l e R s m args below meth c cells slots Qf D ad cA A C H locs ls hW ⟨hL.1, hL.2.1, fun i v hi => hL.2.2 i v (hl i v hi)⟩
theorem dt_post {y : dt_Y} {d : Nat} {av : List dt_V} {M : dt_M} {Φ Ψ : Option dt_V → dt_M → Prop} (h : dt_Sp y d av M Φ) (hi : ∀ r M', Φ r M' → Ψ r M') : dt_Sp y d av M Ψ := by
  intro l D ad cA p e ha hc hk s m args below hf hS hP hK
  obtain ⟨k, o, h1, h2, h3, h4, h5⟩ := h l D ad cA p e ha hc hk s m args below hf hS hP hK
  refine ⟨k, o, h1, h2, h3, ?_, h5⟩
  obtain ⟨⟨r, M', g1, g2, g3⟩, g4⟩ := h4
  exact ⟨⟨r, M', g1, hi r M' g2, g3⟩, g4⟩
theorem dt_okJ {y : dt_Y} {d : Nat} {Q : Option dt_V → dt_M → Prop} {pc : Nat} {lv : dt_L} {st : List dt_V} {M : dt_M} (h : dt_ok lv st M → dt_J y d Q pc lv st M) : dt_J y d Q pc lv st M := fun ok => h ok ok
/-! switches -/
def dt_sw (x : Int) (dflt : Nat) (G : Nat → Prop) : List (Int × Nat) → Prop
  | [] => G dflt
  | (v, t) :: r => (x = v → G t) ∧ (¬ x = v → dt_sw x dflt G r)
def dt_swt (x : Int) (dflt : Nat) : List (Int × Nat) → Nat
  | [] => dflt
  | (v, t) :: r => if x = v then t else dt_swt x dflt r
theorem dt_sw_t {x : Int} {dflt : Nat} {G : Nat → Prop} : ∀ {cs : List (Int × Nat)}, dt_sw x dflt G cs → G (dt_swt x dflt cs)
  | [], h => h
  | (v, t) :: r, h => by
    unfold dt_swt
    split
    · next e => exact h.1 e
    · next e => exact dt_sw_t (h.2 e)
def tc_sw (cs : List (Int × Nat)) (dflt : Nat) : dt_T := fun _ _ K _ lv st M => match st with
  | .inl x :: r => dt_sw x dflt (fun t => K t lv r M) cs
  | _ => False
theorem sn_ts {y : dt_Y} {pc len dflt : Nat} {cs : List (Int × Nat)} {dfl lo hi : Int} {offs : Array Int} (hd : decode y.2.1 pc = .ok (.tableswitch dfl lo hi offs, len)) (h1 : (pc : Int) + dfl = (dflt : Int)) (h2 : ∀ x : Int, x < lo ∨ hi < x → dt_swt x dflt cs = dflt) (h3 : ∀ x : Int, lo ≤ x → x ≤ hi → ∃ o, offs[(x - lo).toNat]? = some o ∧ (pc : Int) + o = (dt_swt x dflt cs : Int)) : dt_S y (tc_sw cs dflt) pc := by
  intro d Q K hK lv st M h
  unfold tc_sw at h
  split at h
  · next x r =>
    intro ok p l e R s m args below meth c cells slots Qf D ad cA A C H locs ls hW hL
    have rx : dt_r x := ds_h ok.2.1
    have := hK _ _ _ _ (dt_sw_t h) ⟨ok.1, ds_t ok.2.1, ok.2.2⟩ p l e R s m args below meth c cells slots Qf D ad cA A C H locs ls hW hL
    by_cases hx : x < lo ∨ hi < x
    · refine lv_tableOut (x := Int32.ofInt x) C.1 C.2.1 hd (by rw [dn_ti rx]; exact hx) h1 ?_
      rw [h2 x hx] at this
      exact this
    · obtain ⟨o, g1, g2⟩ := h3 x (by omega) (by omega)
      exact lv_tableIn (x := Int32.ofInt x) C.1 C.2.1 hd (by rw [dn_ti rx]; omega) (by rw [dn_ti rx]; omega) (by rw [dn_ti rx]; exact g1) g2 this
  · exact h.elim
theorem sn_ls {y : dt_Y} {pc len dflt : Nat} {cs : List (Int × Nat)} {dfl : Int} {ps : Array (Int × Int)} (hd : decode y.2.1 pc = .ok (.lookupswitch dfl ps, len)) (hp : (ps.toList.zip (ps.toList.drop 1)).all (fun (a, next) => a.1 < next.1) = true) (h3 : ∀ x : Int, (pc : Int) + Op.lookupswitch.offset ps.toList dfl x = (dt_swt x dflt cs : Int)) : dt_S y (tc_sw cs dflt) pc := by
  intro d Q K hK lv st M h
  unfold tc_sw at h
  split at h
  · next x r =>
    intro ok p l e R s m args below meth c cells slots Qf D ad cA A C H locs ls hW hL
    have rx : dt_r x := ds_h ok.2.1
    have := hK _ _ _ _ (dt_sw_t h) ⟨ok.1, ds_t ok.2.1, ok.2.2⟩ p l e R s m args below meth c cells slots Qf D ad cA A C H locs ls hW hL
    exact lv_lookup (x := Int32.ofInt x) C.1 C.2.1 hd hp rfl (by rw [dn_ti rx]; exact h3 x) this
  · exact h.elim
