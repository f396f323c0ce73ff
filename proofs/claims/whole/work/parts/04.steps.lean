/-! ===== the steps: what an instruction means, and that it is right ===== -/
theorem ds_c {v : dt_V} {r : List dt_V} (h : dt_okv v) (hr : ∀ v ∈ r, dt_okv v) : ∀ w ∈ v :: r, dt_okv w := fun w hw => (List.mem_cons.mp hw).elim (fun e => e ▸ h) (hr w)
theorem ds_t {v : dt_V} {r : List dt_V} (h : ∀ w ∈ v :: r, dt_okv w) : ∀ w ∈ r, dt_okv w := fun w hw => h w (List.mem_cons_of_mem _ hw)
theorem ds_h {v : dt_V} {r : List dt_V} (h : ∀ w ∈ v :: r, dt_okv w) : dt_okv v := h v List.mem_cons_self
def tc_no : dt_T := fun _ _ _ _ _ _ _ => False
theorem sn_no {y : dt_Y} {pc : Nat} : dt_S y tc_no pc := fun _ _ _ _ _ _ _ h => h.elim
def tc_ic (n : Int) (nx : Nat) : dt_T := fun _ _ K pc lv st M => K nx lv (.inl n :: st) M
theorem sn_ic {y : dt_Y} {pc : Nat} {n : Int} {nx : Nat} (hn : dt_r n) (hd : decode y.2.1 pc = .ok (.iconst n, 1)) (hl : nx = pc + 1) : dt_S y (tc_ic n nx) pc := by
  intro d Q K hK lv st M h ok p l e R s m args below meth c cells slots Qf D ad cA A C H locs ls hW hL
  have := hK _ _ _ _ h ⟨ok.1, ds_c (show dt_r n from hn) ok.2.1, ok.2.2⟩ p l e R s m args below meth c cells slots Qf D ad cA A C H locs ls hW hL
  subst hl; exact lv_iconst C.1 C.2.1 hd rfl this
theorem sn_bi {y : dt_Y} {pc : Nat} {n : Int} {nx : Nat} (hn : dt_r n) (hv : (Int8.ofInt n).toInt32 = Int32.ofInt n) (hd : decode y.2.1 pc = .ok (.bipush n, 2)) (hl : nx = pc + 2) : dt_S y (tc_ic n nx) pc := by
  intro d Q K hK lv st M h ok p l e R s m args below meth c cells slots Qf D ad cA A C H locs ls hW hL
  have := hK _ _ _ _ h ⟨ok.1, ds_c (show dt_r n from hn) ok.2.1, ok.2.2⟩ p l e R s m args below meth c cells slots Qf D ad cA A C H locs ls hW hL
  subst hl; exact lv_bipush C.1 C.2.1 hd hv this
theorem sn_si {y : dt_Y} {pc : Nat} {n : Int} {nx : Nat} (hn : dt_r n) (hv : (Int16.ofInt n).toInt32 = Int32.ofInt n) (hd : decode y.2.1 pc = .ok (.sipush n, 3)) (hl : nx = pc + 3) : dt_S y (tc_ic n nx) pc := by
  intro d Q K hK lv st M h ok p l e R s m args below meth c cells slots Qf D ad cA A C H locs ls hW hL
  have := hK _ _ _ _ h ⟨ok.1, ds_c (show dt_r n from hn) ok.2.1, ok.2.2⟩ p l e R s m args below meth c cells slots Qf D ad cA A C H locs ls hW hL
  subst hl; exact lv_sipush C.1 C.2.1 hd hv this
def tc_lc (n : Int) (nx : Nat) : dt_T := fun _ _ K pc lv st M => K nx lv (.inr (.inl n) :: st) M
theorem sn_lc {y : dt_Y} {pc : Nat} {n : Int} {nx : Nat} {k : Fin 2} (hn : dt_rL n) (hv : Int64.ofNat (k : Nat) = Int64.ofInt n) (hd : decode y.2.1 pc = .ok (.lconst k, 1)) (hl : nx = pc + 1) : dt_S y (tc_lc n nx) pc := by
  intro d Q K hK lv st M h ok p l e R s m args below meth c cells slots Qf D ad cA A C H locs ls hW hL
  have := hK _ _ _ _ h ⟨ok.1, ds_c (show dt_rL n from hn) ok.2.1, ok.2.2⟩ p l e R s m args below meth c cells slots Qf D ad cA A C H locs ls hW hL
  subst hl; exact lv_lconst C.1 C.2.1 hd hv this
theorem sn_ldc2 {y : dt_Y} {pc : Nat} {n : Int} {nx index : Nat} {own : String} (ho : y.1.cls = own) (hn : dt_rL n) (hw : Cond.constantLong own index (Int64.ofInt n) ∈ dt_W0) (hd : decode y.2.1 pc = .ok (.ldc2_w index, 3)) (hl : nx = pc + 3) : dt_S y (tc_lc n nx) pc := by
  intro d Q K hK lv st M h ok p l e R s m args below meth c cells slots Qf D ad cA A C H locs ls hW hL
  have := hK _ _ _ _ h ⟨ok.1, ds_c (show dt_rL n from hn) ok.2.1, ok.2.2⟩ p l e R s m args below meth c cells slots Qf D ad cA A C H locs ls hW hL
  subst hl; exact lv_ldc2 C.1 C.2.1 (own := own) (ho ▸ C.2.2.2.1) (C.2.2.2.2.1 _ hw) hd this
def tc_ldI (i nx : Nat) : dt_T := fun _ _ K pc lv st M => match lv.getD i none with
  | some (.inl x) => K nx lv (.inl x :: st) M
  | _ => False
theorem sn_ldIn {y : dt_Y} {pc : Nat} {i nx : Nat} {k : Fin 4} (hi : (k : Nat) = i) (hd : decode y.2.1 pc = .ok (.iload_n k, 1)) (hl : nx = pc + 1) : dt_S y (tc_ldI i nx) pc := by
  intro d Q K hK lv st M h
  unfold tc_ldI at h
  split at h
  · next x hx =>
    intro ok p l e R s m args below meth c cells slots Qf D ad cA A C H locs ls hW hL
    have hx : lv[i]? = some (some (.inl x)) := by
      rw [List.getD_eq_getElem?_getD] at hx
      cases hq : lv[i]? with
      | none => rw [hq] at hx; cases hx
      | some z => rw [hq] at hx; exact congrArg some hx
    have := hK _ _ _ _ h ⟨ok.1, ds_c (ok.1 _ (List.mem_of_getElem? hx)) ok.2.1, ok.2.2⟩ p l e R s m args below meth c cells slots Qf D ad cA A C H locs ls hW hL
    subst hl
    exact lv_iload_n C.1 C.2.1 hd hi (hL.2.2 _ _ hx) this
  · exact h.elim
theorem sn_ldI {y : dt_Y} {pc : Nat} {i nx : Nat} (hd : decode y.2.1 pc = .ok (.iload i, 2)) (hl : nx = pc + 2) : dt_S y (tc_ldI i nx) pc := by
  intro d Q K hK lv st M h
  unfold tc_ldI at h
  split at h
  · next x hx =>
    intro ok p l e R s m args below meth c cells slots Qf D ad cA A C H locs ls hW hL
    have hx : lv[i]? = some (some (.inl x)) := by
      rw [List.getD_eq_getElem?_getD] at hx
      cases hq : lv[i]? with
      | none => rw [hq] at hx; cases hx
      | some z => rw [hq] at hx; exact congrArg some hx
    have := hK _ _ _ _ h ⟨ok.1, ds_c (ok.1 _ (List.mem_of_getElem? hx)) ok.2.1, ok.2.2⟩ p l e R s m args below meth c cells slots Qf D ad cA A C H locs ls hW hL
    subst hl
    exact lv_iload C.1 C.2.1 hd (hL.2.2 _ _ hx) this
  · exact h.elim
def tc_ldL (i nx : Nat) : dt_T := fun _ _ K pc lv st M => match lv.getD i none with
  | some (.inr (.inl x)) => K nx lv (.inr (.inl x) :: st) M
  | _ => False
theorem sn_ldLn {y : dt_Y} {pc : Nat} {i nx : Nat} {k : Fin 4} (hi : (k : Nat) = i) (hd : decode y.2.1 pc = .ok (.lload_n k, 1)) (hl : nx = pc + 1) : dt_S y (tc_ldL i nx) pc := by
  intro d Q K hK lv st M h
  unfold tc_ldL at h
  split at h
  · next x hx =>
    intro ok p l e R s m args below meth c cells slots Qf D ad cA A C H locs ls hW hL
    have hx : lv[i]? = some (some (.inr (.inl x))) := by
      rw [List.getD_eq_getElem?_getD] at hx
      cases hq : lv[i]? with
      | none => rw [hq] at hx; cases hx
      | some z => rw [hq] at hx; exact congrArg some hx
    have := hK _ _ _ _ h ⟨ok.1, ds_c (ok.1 _ (List.mem_of_getElem? hx)) ok.2.1, ok.2.2⟩ p l e R s m args below meth c cells slots Qf D ad cA A C H locs ls hW hL
    subst hl
    exact lv_lload_n C.1 C.2.1 hd hi (hL.2.2 _ _ hx) this
  · exact h.elim
theorem sn_ldL {y : dt_Y} {pc : Nat} {i nx : Nat} (hd : decode y.2.1 pc = .ok (.lload i, 2)) (hl : nx = pc + 2) : dt_S y (tc_ldL i nx) pc := by
  intro d Q K hK lv st M h
  unfold tc_ldL at h
  split at h
  · next x hx =>
    intro ok p l e R s m args below meth c cells slots Qf D ad cA A C H locs ls hW hL
    have hx : lv[i]? = some (some (.inr (.inl x))) := by
      rw [List.getD_eq_getElem?_getD] at hx
      cases hq : lv[i]? with
      | none => rw [hq] at hx; cases hx
      | some z => rw [hq] at hx; exact congrArg some hx
    have := hK _ _ _ _ h ⟨ok.1, ds_c (ok.1 _ (List.mem_of_getElem? hx)) ok.2.1, ok.2.2⟩ p l e R s m args below meth c cells slots Qf D ad cA A C H locs ls hW hL
    subst hl
    exact lv_lload C.1 C.2.1 hd (hL.2.2 _ _ hx) this
  · exact h.elim
def tc_ldA (i nx : Nat) : dt_T := fun _ _ K pc lv st M => match lv.getD i none with
  | some (.inr (.inr x)) => K nx lv (.inr (.inr x) :: st) M
  | _ => False
theorem sn_ldAn {y : dt_Y} {pc : Nat} {i nx : Nat} {k : Fin 4} (hi : (k : Nat) = i) (hd : decode y.2.1 pc = .ok (.aload_n k, 1)) (hl : nx = pc + 1) : dt_S y (tc_ldA i nx) pc := by
  intro d Q K hK lv st M h
  unfold tc_ldA at h
  split at h
  · next x hx =>
    intro ok p l e R s m args below meth c cells slots Qf D ad cA A C H locs ls hW hL
    have hx : lv[i]? = some (some (.inr (.inr x))) := by
      rw [List.getD_eq_getElem?_getD] at hx
      cases hq : lv[i]? with
      | none => rw [hq] at hx; cases hx
      | some z => rw [hq] at hx; exact congrArg some hx
    have := hK _ _ _ _ h ⟨ok.1, ds_c (ok.1 _ (List.mem_of_getElem? hx)) ok.2.1, ok.2.2⟩ p l e R s m args below meth c cells slots Qf D ad cA A C H locs ls hW hL
    subst hl
    exact lv_aload_n C.1 C.2.1 hd hi (hL.2.2 _ _ hx) this
  · exact h.elim
theorem sn_ldA {y : dt_Y} {pc : Nat} {i nx : Nat} (hd : decode y.2.1 pc = .ok (.aload i, 2)) (hl : nx = pc + 2) : dt_S y (tc_ldA i nx) pc := by
  intro d Q K hK lv st M h
  unfold tc_ldA at h
  split at h
  · next x hx =>
    intro ok p l e R s m args below meth c cells slots Qf D ad cA A C H locs ls hW hL
    have hx : lv[i]? = some (some (.inr (.inr x))) := by
      rw [List.getD_eq_getElem?_getD] at hx
      cases hq : lv[i]? with
      | none => rw [hq] at hx; cases hx
      | some z => rw [hq] at hx; exact congrArg some hx
    have := hK _ _ _ _ h ⟨ok.1, ds_c (ok.1 _ (List.mem_of_getElem? hx)) ok.2.1, ok.2.2⟩ p l e R s m args below meth c cells slots Qf D ad cA A C H locs ls hW hL
    subst hl
    exact lv_aload C.1 C.2.1 hd (hL.2.2 _ _ hx) this
  · exact h.elim
def tc_stI (i nx : Nat) : dt_T := fun _ _ K pc lv st M => match st with
  | .inl x :: r => K nx (dt_set1 lv i (.inl x)) r M
  | _ => False
theorem sn_stIn {y : dt_Y} {pc : Nat} {i nx : Nat} {k : Fin 4} (hi : (k : Nat) = i) (hn : i < y.2.2.1) (hd : decode y.2.1 pc = .ok (.istore_n k, 1)) (hl : nx = pc + 1) : dt_S y (tc_stI i nx) pc := by
  intro d Q K hK lv st M h
  unfold tc_stI at h
  split at h
  · next x r =>
    intro ok p l e R s m args below meth c cells slots Qf D ad cA A C H locs ls hW hL
    subst hl
    refine lv_istore_n (nL := y.2.2.1) (lv := dt_as ad lv) C.1 C.2.1 hd hi (dl_has hL) hn rfl (fun ls1 hl1 => ?_)
    exact hK _ _ _ _ h ⟨dl_ok1 ok.1 (ds_h ok.2.1), ds_t ok.2.1, ok.2.2⟩ p l e R s m args below meth c cells slots Qf D ad cA A C H locs ls1 hW (dl_set1 (ls := ls) (v := .inl x) hl1)
  · exact h.elim
theorem sn_stI {y : dt_Y} {pc : Nat} {i nx : Nat} (hn : i < y.2.2.1) (hd : decode y.2.1 pc = .ok (.istore i, 2)) (hl : nx = pc + 2) : dt_S y (tc_stI i nx) pc := by
  intro d Q K hK lv st M h
  unfold tc_stI at h
  split at h
  · next x r =>
    intro ok p l e R s m args below meth c cells slots Qf D ad cA A C H locs ls hW hL
    subst hl
    refine lv_istore (nL := y.2.2.1) (lv := dt_as ad lv) C.1 C.2.1 hd (dl_has hL) hn rfl (fun ls1 hl1 => ?_)
    exact hK _ _ _ _ h ⟨dl_ok1 ok.1 (ds_h ok.2.1), ds_t ok.2.1, ok.2.2⟩ p l e R s m args below meth c cells slots Qf D ad cA A C H locs ls1 hW (dl_set1 (ls := ls) (v := .inl x) hl1)
  · exact h.elim
def tc_stL (i nx : Nat) : dt_T := fun _ _ K pc lv st M => match st with
  | .inr (.inl x) :: r => K nx (dt_set2 lv i (.inr (.inl x))) r M
  | _ => False
theorem sn_stLn {y : dt_Y} {pc : Nat} {i nx : Nat} {k : Fin 4} (hi : (k : Nat) = i) (hn : i + 1 < y.2.2.1) (hd : decode y.2.1 pc = .ok (.lstore_n k, 1)) (hl : nx = pc + 1) : dt_S y (tc_stL i nx) pc := by
  intro d Q K hK lv st M h
  unfold tc_stL at h
  split at h
  · next x r =>
    intro ok p l e R s m args below meth c cells slots Qf D ad cA A C H locs ls hW hL
    subst hl
    refine lv_lstore_n (nL := y.2.2.1) (lv := dt_as ad lv) C.1 C.2.1 hd hi (dl_has hL) hn rfl (fun ls1 hl1 => ?_)
    exact hK _ _ _ _ h ⟨dl_ok2 ok.1 (ds_h ok.2.1), ds_t ok.2.1, ok.2.2⟩ p l e R s m args below meth c cells slots Qf D ad cA A C H locs ls1 hW (dl_set2 (ls := ls) (v := .inr (.inl x)) hl1)
  · exact h.elim
theorem sn_stL {y : dt_Y} {pc : Nat} {i nx : Nat} (hn : i + 1 < y.2.2.1) (hd : decode y.2.1 pc = .ok (.lstore i, 2)) (hl : nx = pc + 2) : dt_S y (tc_stL i nx) pc := by
  intro d Q K hK lv st M h
  unfold tc_stL at h
  split at h
  · next x r =>
    intro ok p l e R s m args below meth c cells slots Qf D ad cA A C H locs ls hW hL
    subst hl
    refine lv_lstore (nL := y.2.2.1) (lv := dt_as ad lv) C.1 C.2.1 hd (dl_has hL) hn rfl (fun ls1 hl1 => ?_)
    exact hK _ _ _ _ h ⟨dl_ok2 ok.1 (ds_h ok.2.1), ds_t ok.2.1, ok.2.2⟩ p l e R s m args below meth c cells slots Qf D ad cA A C H locs ls1 hW (dl_set2 (ls := ls) (v := .inr (.inl x)) hl1)
  · exact h.elim
def tc_stA (i nx : Nat) : dt_T := fun _ _ K pc lv st M => match st with
  | .inr (.inr x) :: r => K nx (dt_set1 lv i (.inr (.inr x))) r M
  | _ => False
theorem sn_stAn {y : dt_Y} {pc : Nat} {i nx : Nat} {k : Fin 4} (hi : (k : Nat) = i) (hn : i < y.2.2.1) (hd : decode y.2.1 pc = .ok (.astore_n k, 1)) (hl : nx = pc + 1) : dt_S y (tc_stA i nx) pc := by
  intro d Q K hK lv st M h
  unfold tc_stA at h
  split at h
  · next x r =>
    intro ok p l e R s m args below meth c cells slots Qf D ad cA A C H locs ls hW hL
    subst hl
    refine lv_astore_n (nL := y.2.2.1) (lv := dt_as ad lv) C.1 C.2.1 hd hi (dl_has hL) hn rfl (fun ls1 hl1 => ?_)
    exact hK _ _ _ _ h ⟨dl_ok1 ok.1 (ds_h ok.2.1), ds_t ok.2.1, ok.2.2⟩ p l e R s m args below meth c cells slots Qf D ad cA A C H locs ls1 hW (dl_set1 (ls := ls) (v := .inr (.inr x)) hl1)
  · exact h.elim
theorem sn_stA {y : dt_Y} {pc : Nat} {i nx : Nat} (hn : i < y.2.2.1) (hd : decode y.2.1 pc = .ok (.astore i, 2)) (hl : nx = pc + 2) : dt_S y (tc_stA i nx) pc := by
  intro d Q K hK lv st M h
  unfold tc_stA at h
  split at h
  · next x r =>
    intro ok p l e R s m args below meth c cells slots Qf D ad cA A C H locs ls hW hL
    subst hl
    refine lv_astore (nL := y.2.2.1) (lv := dt_as ad lv) C.1 C.2.1 hd (dl_has hL) hn rfl (fun ls1 hl1 => ?_)
    exact hK _ _ _ _ h ⟨dl_ok1 ok.1 (ds_h ok.2.1), ds_t ok.2.1, ok.2.2⟩ p l e R s m args below meth c cells slots Qf D ad cA A C H locs ls1 hW (dl_set1 (ls := ls) (v := .inr (.inr x)) hl1)
  · exact h.elim
def tc_iinc (i : Nat) (n : Int) (nx : Nat) : dt_T := fun _ _ K pc lv st M => match lv.getD i none with
  | some (.inl x) => dt_r (x + n) ∧ K nx (dt_set1 lv i (.inl (x + n))) st M
  | _ => False
theorem sn_iinc {y : dt_Y} {nx pc i : Nat} {n : Int} (hn : i < y.2.2.1) (hd : decode y.2.1 pc = .ok (.iinc i n, 3)) (hx9 : nx = pc + 3) : dt_S y (tc_iinc i n nx) pc := by
  subst hx9
  intro d Q K hK lv st M h
  unfold tc_iinc at h
  split at h
  · next x hx =>
    intro ok p l e R s m args below meth c cells slots Qf D ad cA A C H locs ls hW hL
    have hx : lv[i]? = some (some (.inl x)) := by
      rw [List.getD_eq_getElem?_getD] at hx
      cases hq : lv[i]? with
      | none => rw [hq] at hx; cases hx
      | some z => rw [hq] at hx; exact congrArg some hx
    obtain ⟨k, hk⟩ := List.getElem?_of_mem (dl_mem (ad := ad) hx)
    refine lv_iinc (nL := y.2.2.1) (lv := dt_as ad lv) (k := k) (v := Int32.ofInt (x + n)) C.1 C.2.1 hd (dl_has hL) hk (Int32.ofInt_add x n).symm hn rfl (fun ls1 hl1 => ?_)
    exact hK _ _ _ _ h.2 ⟨dl_ok1 ok.1 (show dt_r _ from h.1), ok.2.1, ok.2.2⟩ p l e R s m args below meth c cells slots Qf D ad cA A C H locs ls1 hW (dl_set1 (ls := ls) (v := .inl (x + n)) hl1)
  · exact h.elim
def tc_iadd (nx : Nat) : dt_T := fun _ _ K pc lv st M => match st with
  | .inl b :: .inl a :: r => dt_r (a + b) ∧ K nx lv (.inl (a + b) :: r) M
  | _ => False
theorem sn_iadd {y : dt_Y} {nx pc : Nat} (hd : decode y.2.1 pc = .ok (.iadd, 1)) (hx9 : nx = pc + 1) : dt_S y (tc_iadd nx) pc := by
  subst hx9
  intro d Q K hK lv st M h
  unfold tc_iadd at h
  split at h
  · next b a r =>
    intro ok p l e R s m args below meth c cells slots Qf D ad cA A C H locs ls hW hL
    have := hK _ _ _ _ h.2 ⟨ok.1, ds_c (show dt_r _ from h.1) (ds_t (ds_t (ok.2.1))), ok.2.2⟩ p l e R s m args below meth c cells slots Qf D ad cA A C H locs ls hW hL
    refine lv_iadd C.1 C.2.1 hd ?_
    rw [← Int32.ofInt_add]
    exact this
  · exact h.elim
def tc_isub (nx : Nat) : dt_T := fun _ _ K pc lv st M => match st with
  | .inl b :: .inl a :: r => dt_r (a - b) ∧ K nx lv (.inl (a - b) :: r) M
  | _ => False
theorem sn_isub {y : dt_Y} {nx pc : Nat} (hd : decode y.2.1 pc = .ok (.isub, 1)) (hx9 : nx = pc + 1) : dt_S y (tc_isub nx) pc := by
  subst hx9
  intro d Q K hK lv st M h
  unfold tc_isub at h
  split at h
  · next b a r =>
    intro ok p l e R s m args below meth c cells slots Qf D ad cA A C H locs ls hW hL
    have := hK _ _ _ _ h.2 ⟨ok.1, ds_c (show dt_r _ from h.1) (ds_t (ds_t (ok.2.1))), ok.2.2⟩ p l e R s m args below meth c cells slots Qf D ad cA A C H locs ls hW hL
    refine lv_isub C.1 C.2.1 hd ?_
    rw [← Int32.ofInt_sub]
    exact this
  · exact h.elim
def tc_imul (nx : Nat) : dt_T := fun _ _ K pc lv st M => match st with
  | .inl b :: .inl a :: r => dt_r (a * b) ∧ K nx lv (.inl (a * b) :: r) M
  | _ => False
theorem sn_imul {y : dt_Y} {nx pc : Nat} (hd : decode y.2.1 pc = .ok (.imul, 1)) (hx9 : nx = pc + 1) : dt_S y (tc_imul nx) pc := by
  subst hx9
  intro d Q K hK lv st M h
  unfold tc_imul at h
  split at h
  · next b a r =>
    intro ok p l e R s m args below meth c cells slots Qf D ad cA A C H locs ls hW hL
    have := hK _ _ _ _ h.2 ⟨ok.1, ds_c (show dt_r _ from h.1) (ds_t (ds_t (ok.2.1))), ok.2.2⟩ p l e R s m args below meth c cells slots Qf D ad cA A C H locs ls hW hL
    refine lv_imul C.1 C.2.1 hd ?_
    rw [← Int32.ofInt_mul]
    exact this
  · exact h.elim
def tc_iand (nx : Nat) : dt_T := fun _ _ K pc lv st M => match st with
  | .inl b :: .inl a :: r => K nx lv (.inl (dt_and a b) :: r) M
  | _ => False
theorem sn_iand {y : dt_Y} {nx pc : Nat} (hd : decode y.2.1 pc = .ok (.iand, 1)) (hx9 : nx = pc + 1) : dt_S y (tc_iand nx) pc := by
  subst hx9
  intro d Q K hK lv st M h
  unfold tc_iand at h
  split at h
  · next b a r =>
    intro ok p l e R s m args below meth c cells slots Qf D ad cA A C H locs ls hW hL
    have := hK _ _ _ _ h ⟨ok.1, ds_c (show dt_r _ from dn_ri _) (ds_t (ds_t (ok.2.1))), ok.2.2⟩ p l e R s m args below meth c cells slots Qf D ad cA A C H locs ls hW hL
    refine lv_iand C.1 C.2.1 hd ?_
    have e := Int32.ofInt_toInt
    unfold dt_and at this
    simp only [List.map_cons, dt_cv, Int32.ofInt_toInt] at this
    exact this
  · exact h.elim
def tc_ior (nx : Nat) : dt_T := fun _ _ K pc lv st M => match st with
  | .inl b :: .inl a :: r => K nx lv (.inl (dt_or a b) :: r) M
  | _ => False
theorem sn_ior {y : dt_Y} {nx pc : Nat} (hd : decode y.2.1 pc = .ok (.ior, 1)) (hx9 : nx = pc + 1) : dt_S y (tc_ior nx) pc := by
  subst hx9
  intro d Q K hK lv st M h
  unfold tc_ior at h
  split at h
  · next b a r =>
    intro ok p l e R s m args below meth c cells slots Qf D ad cA A C H locs ls hW hL
    have := hK _ _ _ _ h ⟨ok.1, ds_c (show dt_r _ from dn_ri _) (ds_t (ds_t (ok.2.1))), ok.2.2⟩ p l e R s m args below meth c cells slots Qf D ad cA A C H locs ls hW hL
    refine lv_ior C.1 C.2.1 hd ?_
    have e := Int32.ofInt_toInt
    unfold dt_or at this
    simp only [List.map_cons, dt_cv, Int32.ofInt_toInt] at this
    exact this
  · exact h.elim
def tc_ishl (nx : Nat) : dt_T := fun _ _ K pc lv st M => match st with
  | .inl b :: .inl a :: r => K nx lv (.inl (dt_shl a b) :: r) M
  | _ => False
theorem sn_ishl {y : dt_Y} {nx pc : Nat} (hd : decode y.2.1 pc = .ok (.ishl, 1)) (hx9 : nx = pc + 1) : dt_S y (tc_ishl nx) pc := by
  subst hx9
  intro d Q K hK lv st M h
  unfold tc_ishl at h
  split at h
  · next b a r =>
    intro ok p l e R s m args below meth c cells slots Qf D ad cA A C H locs ls hW hL
    have := hK _ _ _ _ h ⟨ok.1, ds_c (show dt_r _ from dn_ri _) (ds_t (ds_t (ok.2.1))), ok.2.2⟩ p l e R s m args below meth c cells slots Qf D ad cA A C H locs ls hW hL
    refine lv_ishl C.1 C.2.1 hd ?_
    have e := Int32.ofInt_toInt
    unfold dt_shl at this
    simp only [List.map_cons, dt_cv, Int32.ofInt_toInt] at this
    exact this
  · exact h.elim
def tc_ishr (nx : Nat) : dt_T := fun _ _ K pc lv st M => match st with
  | .inl b :: .inl a :: r => K nx lv (.inl (dt_shr a b) :: r) M
  | _ => False
theorem sn_ishr {y : dt_Y} {nx pc : Nat} (hd : decode y.2.1 pc = .ok (.ishr, 1)) (hx9 : nx = pc + 1) : dt_S y (tc_ishr nx) pc := by
  subst hx9
  intro d Q K hK lv st M h
  unfold tc_ishr at h
  split at h
  · next b a r =>
    intro ok p l e R s m args below meth c cells slots Qf D ad cA A C H locs ls hW hL
    have := hK _ _ _ _ h ⟨ok.1, ds_c (show dt_r _ from dn_ri _) (ds_t (ds_t (ok.2.1))), ok.2.2⟩ p l e R s m args below meth c cells slots Qf D ad cA A C H locs ls hW hL
    refine lv_ishr C.1 C.2.1 hd ?_
    have e := Int32.ofInt_toInt
    unfold dt_shr at this
    simp only [List.map_cons, dt_cv, Int32.ofInt_toInt] at this
    exact this
  · exact h.elim
def tc_idiv (nx : Nat) : dt_T := fun _ _ K pc lv st M => match st with
  | .inl b :: .inl a :: r => ¬ b = 0 ∧ K nx lv (.inl (dt_div a b) :: r) M
  | _ => False
theorem sn_idiv {y : dt_Y} {nx pc : Nat} (hd : decode y.2.1 pc = .ok (.idiv, 1)) (hx9 : nx = pc + 1) : dt_S y (tc_idiv nx) pc := by
  subst hx9
  intro d Q K hK lv st M h
  unfold tc_idiv at h
  split at h
  · next b a r =>
    intro ok p l e R s m args below meth c cells slots Qf D ad cA A C H locs ls hW hL
    have := hK _ _ _ _ h.2 ⟨ok.1, ds_c (show dt_r _ from dn_ri _) (ds_t (ds_t (ok.2.1))), ok.2.2⟩ p l e R s m args below meth c cells slots Qf D ad cA A C H locs ls hW hL
    refine lv_idiv C.1 C.2.1 hd (fun q => h.1 ((dn_eq0 (ds_h ok.2.1)).mp q)) ?_
    unfold dt_div at this
    simp only [List.map_cons, dt_cv, Int32.ofInt_toInt] at this
    exact this
  · exact h.elim
def tc_irem (nx : Nat) : dt_T := fun _ _ K pc lv st M => match st with
  | .inl b :: .inl a :: r => ¬ b = 0 ∧ K nx lv (.inl (dt_rem a b) :: r) M
  | _ => False
theorem sn_irem {y : dt_Y} {nx pc : Nat} (hd : decode y.2.1 pc = .ok (.irem, 1)) (hx9 : nx = pc + 1) : dt_S y (tc_irem nx) pc := by
  subst hx9
  intro d Q K hK lv st M h
  unfold tc_irem at h
  split at h
  · next b a r =>
    intro ok p l e R s m args below meth c cells slots Qf D ad cA A C H locs ls hW hL
    have := hK _ _ _ _ h.2 ⟨ok.1, ds_c (show dt_r _ from dn_ri _) (ds_t (ds_t (ok.2.1))), ok.2.2⟩ p l e R s m args below meth c cells slots Qf D ad cA A C H locs ls hW hL
    refine lv_irem C.1 C.2.1 hd (fun q => h.1 ((dn_eq0 (ds_h ok.2.1)).mp q)) ?_
    unfold dt_rem at this
    simp only [List.map_cons, dt_cv, Int32.ofInt_toInt] at this
    exact this
  · exact h.elim
def tc_ladd (nx : Nat) : dt_T := fun _ _ K pc lv st M => match st with
  | .inr (.inl b) :: .inr (.inl a) :: r => dt_rL (a + b) ∧ K nx lv (.inr (.inl (a + b)) :: r) M
  | _ => False
theorem sn_ladd {y : dt_Y} {nx pc : Nat} (hd : decode y.2.1 pc = .ok (.ladd, 1)) (hx9 : nx = pc + 1) : dt_S y (tc_ladd nx) pc := by
  subst hx9
  intro d Q K hK lv st M h
  unfold tc_ladd at h
  split at h
  · next b a r =>
    intro ok p l e R s m args below meth c cells slots Qf D ad cA A C H locs ls hW hL
    have := hK _ _ _ _ h.2 ⟨ok.1, ds_c (show dt_rL _ from h.1) (ds_t (ds_t (ok.2.1))), ok.2.2⟩ p l e R s m args below meth c cells slots Qf D ad cA A C H locs ls hW hL
    refine lv_ladd C.1 C.2.1 hd ?_
    rw [← Int64.ofInt_add]
    exact this
  · exact h.elim
def tc_lsub (nx : Nat) : dt_T := fun _ _ K pc lv st M => match st with
  | .inr (.inl b) :: .inr (.inl a) :: r => dt_rL (a - b) ∧ K nx lv (.inr (.inl (a - b)) :: r) M
  | _ => False
theorem sn_lsub {y : dt_Y} {nx pc : Nat} (hd : decode y.2.1 pc = .ok (.lsub, 1)) (hx9 : nx = pc + 1) : dt_S y (tc_lsub nx) pc := by
  subst hx9
  intro d Q K hK lv st M h
  unfold tc_lsub at h
  split at h
  · next b a r =>
    intro ok p l e R s m args below meth c cells slots Qf D ad cA A C H locs ls hW hL
    have := hK _ _ _ _ h.2 ⟨ok.1, ds_c (show dt_rL _ from h.1) (ds_t (ds_t (ok.2.1))), ok.2.2⟩ p l e R s m args below meth c cells slots Qf D ad cA A C H locs ls hW hL
    refine lv_lsub C.1 C.2.1 hd ?_
    rw [← Int64.ofInt_sub]
    exact this
  · exact h.elim
def tc_lmul (nx : Nat) : dt_T := fun _ _ K pc lv st M => match st with
  | .inr (.inl b) :: .inr (.inl a) :: r => dt_rL (a * b) ∧ K nx lv (.inr (.inl (a * b)) :: r) M
  | _ => False
theorem sn_lmul {y : dt_Y} {nx pc : Nat} (hd : decode y.2.1 pc = .ok (.lmul, 1)) (hx9 : nx = pc + 1) : dt_S y (tc_lmul nx) pc := by
  subst hx9
  intro d Q K hK lv st M h
  unfold tc_lmul at h
  split at h
  · next b a r =>
    intro ok p l e R s m args below meth c cells slots Qf D ad cA A C H locs ls hW hL
    have := hK _ _ _ _ h.2 ⟨ok.1, ds_c (show dt_rL _ from h.1) (ds_t (ds_t (ok.2.1))), ok.2.2⟩ p l e R s m args below meth c cells slots Qf D ad cA A C H locs ls hW hL
    refine lv_lmul C.1 C.2.1 hd ?_
    rw [← Int64.ofInt_mul]
    exact this
  · exact h.elim
def tc_land (nx : Nat) : dt_T := fun _ _ K pc lv st M => match st with
  | .inr (.inl b) :: .inr (.inl a) :: r => K nx lv (.inr (.inl (dt_andL a b)) :: r) M
  | _ => False
theorem sn_land {y : dt_Y} {nx pc : Nat} (hd : decode y.2.1 pc = .ok (.land, 1)) (hx9 : nx = pc + 1) : dt_S y (tc_land nx) pc := by
  subst hx9
  intro d Q K hK lv st M h
  unfold tc_land at h
  split at h
  · next b a r =>
    intro ok p l e R s m args below meth c cells slots Qf D ad cA A C H locs ls hW hL
    have := hK _ _ _ _ h ⟨ok.1, ds_c (show dt_rL _ from dn_rl _) (ds_t (ds_t (ok.2.1))), ok.2.2⟩ p l e R s m args below meth c cells slots Qf D ad cA A C H locs ls hW hL
    refine lv_land C.1 C.2.1 hd ?_
    unfold dt_andL at this
    simp only [List.map_cons, dt_cv, Int64.ofInt_toInt] at this
    exact this
  · exact h.elim
def tc_lor (nx : Nat) : dt_T := fun _ _ K pc lv st M => match st with
  | .inr (.inl b) :: .inr (.inl a) :: r => K nx lv (.inr (.inl (dt_orL a b)) :: r) M
  | _ => False
theorem sn_lor {y : dt_Y} {nx pc : Nat} (hd : decode y.2.1 pc = .ok (.lor, 1)) (hx9 : nx = pc + 1) : dt_S y (tc_lor nx) pc := by
  subst hx9
  intro d Q K hK lv st M h
  unfold tc_lor at h
  split at h
  · next b a r =>
    intro ok p l e R s m args below meth c cells slots Qf D ad cA A C H locs ls hW hL
    have := hK _ _ _ _ h ⟨ok.1, ds_c (show dt_rL _ from dn_rl _) (ds_t (ds_t (ok.2.1))), ok.2.2⟩ p l e R s m args below meth c cells slots Qf D ad cA A C H locs ls hW hL
    refine lv_lor C.1 C.2.1 hd ?_
    unfold dt_orL at this
    simp only [List.map_cons, dt_cv, Int64.ofInt_toInt] at this
    exact this
  · exact h.elim
def tc_lshl (nx : Nat) : dt_T := fun _ _ K pc lv st M => match st with
  | .inl b :: .inr (.inl a) :: r => K nx lv (.inr (.inl (dt_shlL a b)) :: r) M
  | _ => False
theorem sn_lshl {y : dt_Y} {nx pc : Nat} (hd : decode y.2.1 pc = .ok (.lshl, 1)) (hx9 : nx = pc + 1) : dt_S y (tc_lshl nx) pc := by
  subst hx9
  intro d Q K hK lv st M h
  unfold tc_lshl at h
  split at h
  · next b a r =>
    intro ok p l e R s m args below meth c cells slots Qf D ad cA A C H locs ls hW hL
    have := hK _ _ _ _ h ⟨ok.1, ds_c (show dt_rL _ from dn_rl _) (ds_t (ds_t (ok.2.1))), ok.2.2⟩ p l e R s m args below meth c cells slots Qf D ad cA A C H locs ls hW hL
    unfold dt_shlL at this
    simp only [List.map_cons, dt_cv, Int64.ofInt_toInt] at this
    exact lv_lshl C.1 C.2.1 hd rfl this
  · exact h.elim
def tc_lshr (nx : Nat) : dt_T := fun _ _ K pc lv st M => match st with
  | .inl b :: .inr (.inl a) :: r => K nx lv (.inr (.inl (dt_shrL a b)) :: r) M
  | _ => False
theorem sn_lshr {y : dt_Y} {nx pc : Nat} (hd : decode y.2.1 pc = .ok (.lshr, 1)) (hx9 : nx = pc + 1) : dt_S y (tc_lshr nx) pc := by
  subst hx9
  intro d Q K hK lv st M h
  unfold tc_lshr at h
  split at h
  · next b a r =>
    intro ok p l e R s m args below meth c cells slots Qf D ad cA A C H locs ls hW hL
    have := hK _ _ _ _ h ⟨ok.1, ds_c (show dt_rL _ from dn_rl _) (ds_t (ds_t (ok.2.1))), ok.2.2⟩ p l e R s m args below meth c cells slots Qf D ad cA A C H locs ls hW hL
    unfold dt_shrL at this
    simp only [List.map_cons, dt_cv, Int64.ofInt_toInt] at this
    exact lv_lshr C.1 C.2.1 hd rfl this
  · exact h.elim
def tc_lushr (nx : Nat) : dt_T := fun _ _ K pc lv st M => match st with
  | .inl b :: .inr (.inl a) :: r => K nx lv (.inr (.inl (dt_ushrL a b)) :: r) M
  | _ => False
theorem sn_lushr {y : dt_Y} {nx pc : Nat} (hd : decode y.2.1 pc = .ok (.lushr, 1)) (hx9 : nx = pc + 1) : dt_S y (tc_lushr nx) pc := by
  subst hx9
  intro d Q K hK lv st M h
  unfold tc_lushr at h
  split at h
  · next b a r =>
    intro ok p l e R s m args below meth c cells slots Qf D ad cA A C H locs ls hW hL
    have := hK _ _ _ _ h ⟨ok.1, ds_c (show dt_rL _ from dn_rl _) (ds_t (ds_t (ok.2.1))), ok.2.2⟩ p l e R s m args below meth c cells slots Qf D ad cA A C H locs ls hW hL
    unfold dt_ushrL at this
    simp only [List.map_cons, dt_cv, Int64.ofInt_toInt] at this
    exact lv_lushr C.1 C.2.1 hd rfl this
  · exact h.elim
def tc_lcmp (nx : Nat) : dt_T := fun _ _ K pc lv st M => match st with
  | .inr (.inl b) :: .inr (.inl a) :: r => K nx lv (.inl (dt_cmp a b) :: r) M
  | _ => False
theorem sn_lcmp {y : dt_Y} {nx pc : Nat} (hd : decode y.2.1 pc = .ok (.lcmp, 1)) (hx9 : nx = pc + 1) : dt_S y (tc_lcmp nx) pc := by
  subst hx9
  intro d Q K hK lv st M h
  unfold tc_lcmp at h
  split at h
  · next b a r =>
    intro ok p l e R s m args below meth c cells slots Qf D ad cA A C H locs ls hW hL
    have := hK _ _ _ _ h ⟨ok.1, ds_c (show dt_r _ from dn_rcmp _ _) (ds_t (ds_t (ok.2.1))), ok.2.2⟩ p l e R s m args below meth c cells slots Qf D ad cA A C H locs ls hW hL
    refine W.lcmp C.1 C.2.1 hd ?_
    rw [dn_cmp (ds_h (ds_t ok.2.1)) (ds_h ok.2.1)]
    exact this
  · exact h.elim
def tc_i2l (nx : Nat) : dt_T := fun _ _ K pc lv st M => match st with
  | .inl a :: r => K nx lv (.inr (.inl a) :: r) M
  | _ => False
theorem sn_i2l {y : dt_Y} {nx pc : Nat} (hd : decode y.2.1 pc = .ok (.i2l, 1)) (hx9 : nx = pc + 1) : dt_S y (tc_i2l nx) pc := by
  subst hx9
  intro d Q K hK lv st M h
  unfold tc_i2l at h
  split at h
  · next a r =>
    intro ok p l e R s m args below meth c cells slots Qf D ad cA A C H locs ls hW hL
    have := hK _ _ _ _ h ⟨ok.1, ds_c (show dt_rL a from ⟨by have := (show dt_r a from ds_h ok.2.1).1; omega, by have := (show dt_r a from ds_h ok.2.1).2; omega⟩) (ds_t (ok.2.1)), ok.2.2⟩ p l e R s m args below meth c cells slots Qf D ad cA A C H locs ls hW hL
    exact lv_i2l C.1 C.2.1 hd (dn_i2l (ds_h ok.2.1)) this
  · exact h.elim
def tc_l2i (nx : Nat) : dt_T := fun _ _ K pc lv st M => match st with
  | .inr (.inl a) :: r => K nx lv (.inl (dt_l2i a) :: r) M
  | _ => False
theorem sn_l2i {y : dt_Y} {nx pc : Nat} (hd : decode y.2.1 pc = .ok (.l2i, 1)) (hx9 : nx = pc + 1) : dt_S y (tc_l2i nx) pc := by
  subst hx9
  intro d Q K hK lv st M h
  unfold tc_l2i at h
  split at h
  · next a r =>
    intro ok p l e R s m args below meth c cells slots Qf D ad cA A C H locs ls hW hL
    have := hK _ _ _ _ h ⟨ok.1, ds_c (show dt_r _ from dn_ri _) (ds_t (ok.2.1)), ok.2.2⟩ p l e R s m args below meth c cells slots Qf D ad cA A C H locs ls hW hL
    unfold dt_l2i at this
    simp only [List.map_cons, dt_cv, Int32.ofInt_toInt] at this
    exact lv_l2i C.1 C.2.1 hd rfl this
  · exact h.elim
def tc_dup (nx : Nat) : dt_T := fun _ _ K pc lv st M => match st with
  | .inl x :: r => K nx lv (.inl x :: .inl x :: r) M
  | .inr (.inr x) :: r => K nx lv (.inr (.inr x) :: .inr (.inr x) :: r) M
  | _ => False
theorem sn_dup {y : dt_Y} {nx pc : Nat} (hd : decode y.2.1 pc = .ok (.dup, 1)) (hx9 : nx = pc + 1) : dt_S y (tc_dup nx) pc := by
  subst hx9
  intro d Q K hK lv st M h
  unfold tc_dup at h
  split at h
  · next x r =>
    intro ok p l e R s m args below meth c cells slots Qf D ad cA A C H locs ls hW hL
    exact lv_dup C.1 C.2.1 hd rfl (hK _ _ _ _ h ⟨ok.1, ds_c (ds_h ok.2.1) ok.2.1, ok.2.2⟩ p l e R s m args below meth c cells slots Qf D ad cA A C H locs ls hW hL)
  · next x r =>
    intro ok p l e R s m args below meth c cells slots Qf D ad cA A C H locs ls hW hL
    exact lv_dup C.1 C.2.1 hd rfl (hK _ _ _ _ h ⟨ok.1, ds_c (ds_h ok.2.1) ok.2.1, ok.2.2⟩ p l e R s m args below meth c cells slots Qf D ad cA A C H locs ls hW hL)
  · exact h.elim
def tc_dup2 (nx : Nat) : dt_T := fun _ _ K pc lv st M => match st with
  | .inl x :: .inr (.inr q) :: r => K nx lv (.inl x :: .inr (.inr q) :: .inl x :: .inr (.inr q) :: r) M
  | _ => False
theorem sn_dup2 {y : dt_Y} {nx pc : Nat} (hd : decode y.2.1 pc = .ok (.dup2, 1)) (hx9 : nx = pc + 1) : dt_S y (tc_dup2 nx) pc := by
  subst hx9
  intro d Q K hK lv st M h
  unfold tc_dup2 at h
  split at h
  · next x q r =>
    intro ok p l e R s m args below meth c cells slots Qf D ad cA A C H locs ls hW hL
    exact lv_dup2_11 C.1 C.2.1 hd rfl rfl (hK _ _ _ _ h ⟨ok.1, ds_c (ds_h ok.2.1) (ds_c (ds_h (ds_t ok.2.1)) ok.2.1), ok.2.2⟩ p l e R s m args below meth c cells slots Qf D ad cA A C H locs ls hW hL)
  · exact h.elim
def tc_goto (t : Nat) : dt_T := fun _ _ K _ lv st M => K t lv st M
theorem sn_goto {y : dt_Y} {pc t : Nat} {o : Int} (hd : decode y.2.1 pc = .ok (.goto o, 3)) (ht : (pc : Int) + o = (t : Int)) : dt_S y (tc_goto t) pc := by
  intro d Q K hK lv st M h ok p l e R s m args below meth c cells slots Qf D ad cA A C H locs ls hW hL
  exact lv_goto C.1 C.2.1 hd ht (hK _ _ _ _ h ⟨ok.1, ok.2.1, ok.2.2⟩ p l e R s m args below meth c cells slots Qf D ad cA A C H locs ls hW hL)
def tc_ifeq (t : Nat) (nx : Nat) : dt_T := fun _ _ K pc lv st M => match st with
  | .inl a :: r => (a = 0 → K t lv r M) ∧ (¬ a = 0 → K nx lv r M)
  | _ => False
theorem sn_ifeq {y : dt_Y} {nx pc t : Nat} {o : Int} (hd : decode y.2.1 pc = .ok (.ifCond .eq o, 3)) (ht : (pc : Int) + o = (t : Int)) (hx9 : nx = pc + 3) : dt_S y (tc_ifeq t nx) pc := by
  subst hx9
  intro d Q K hK lv st M h
  unfold tc_ifeq at h
  split at h
  · next a r =>
    intro ok p l e R s m args below meth c cells slots Qf D ad cA A C H locs ls hW hL
    have ra : dt_r a := ds_h ok.2.1
    have e9 := dn_eq0 ra
    exact lv_if_eq C.1 C.2.1 hd ht (fun q => hK _ _ _ _ (h.1 (e9.mp q)) ⟨ok.1, ds_t ok.2.1, ok.2.2⟩ p l e R s m args below meth c cells slots Qf D ad cA A C H locs ls hW hL) (fun q => hK _ _ _ _ (h.2 (fun z => q (e9.mpr z))) ⟨ok.1, ds_t ok.2.1, ok.2.2⟩ p l e R s m args below meth c cells slots Qf D ad cA A C H locs ls hW hL)
  · exact h.elim
def tc_icmpeq (t : Nat) (nx : Nat) : dt_T := fun _ _ K pc lv st M => match st with
  | .inl b :: .inl a :: r => (a = b → K t lv r M) ∧ (¬ a = b → K nx lv r M)
  | _ => False
theorem sn_icmpeq {y : dt_Y} {nx pc t : Nat} {o : Int} (hd : decode y.2.1 pc = .ok (.if_icmp .eq o, 3)) (ht : (pc : Int) + o = (t : Int)) (hx9 : nx = pc + 3) : dt_S y (tc_icmpeq t nx) pc := by
  subst hx9
  intro d Q K hK lv st M h
  unfold tc_icmpeq at h
  split at h
  · next b a r =>
    intro ok p l e R s m args below meth c cells slots Qf D ad cA A C H locs ls hW hL
    have rb : dt_r b := ds_h ok.2.1
    have ra : dt_r a := ds_h (ds_t ok.2.1)
    have e9 := dn_eq ra rb
    exact lv_icmp_eq C.1 C.2.1 hd ht (fun q => hK _ _ _ _ (h.1 (e9.mp q)) ⟨ok.1, ds_t (ds_t ok.2.1), ok.2.2⟩ p l e R s m args below meth c cells slots Qf D ad cA A C H locs ls hW hL) (fun q => hK _ _ _ _ (h.2 (fun z => q (e9.mpr z))) ⟨ok.1, ds_t (ds_t ok.2.1), ok.2.2⟩ p l e R s m args below meth c cells slots Qf D ad cA A C H locs ls hW hL)
  · exact h.elim
def tc_ifne (t : Nat) (nx : Nat) : dt_T := fun _ _ K pc lv st M => match st with
  | .inl a :: r => (¬ a = 0 → K t lv r M) ∧ (a = 0 → K nx lv r M)
  | _ => False
theorem sn_ifne {y : dt_Y} {nx pc t : Nat} {o : Int} (hd : decode y.2.1 pc = .ok (.ifCond .ne o, 3)) (ht : (pc : Int) + o = (t : Int)) (hx9 : nx = pc + 3) : dt_S y (tc_ifne t nx) pc := by
  subst hx9
  intro d Q K hK lv st M h
  unfold tc_ifne at h
  split at h
  · next a r =>
    intro ok p l e R s m args below meth c cells slots Qf D ad cA A C H locs ls hW hL
    have ra : dt_r a := ds_h ok.2.1
    have e9 := not_congr (dn_eq0 ra)
    exact lv_if_ne C.1 C.2.1 hd ht (fun q => hK _ _ _ _ (h.1 (e9.mp q)) ⟨ok.1, ds_t ok.2.1, ok.2.2⟩ p l e R s m args below meth c cells slots Qf D ad cA A C H locs ls hW hL) (fun q => hK _ _ _ _ (h.2 ((dn_eq0 ra).mp q)) ⟨ok.1, ds_t ok.2.1, ok.2.2⟩ p l e R s m args below meth c cells slots Qf D ad cA A C H locs ls hW hL)
  · exact h.elim
def tc_icmpne (t : Nat) (nx : Nat) : dt_T := fun _ _ K pc lv st M => match st with
  | .inl b :: .inl a :: r => (¬ a = b → K t lv r M) ∧ (a = b → K nx lv r M)
  | _ => False
theorem sn_icmpne {y : dt_Y} {nx pc t : Nat} {o : Int} (hd : decode y.2.1 pc = .ok (.if_icmp .ne o, 3)) (ht : (pc : Int) + o = (t : Int)) (hx9 : nx = pc + 3) : dt_S y (tc_icmpne t nx) pc := by
  subst hx9
  intro d Q K hK lv st M h
  unfold tc_icmpne at h
  split at h
  · next b a r =>
    intro ok p l e R s m args below meth c cells slots Qf D ad cA A C H locs ls hW hL
    have rb : dt_r b := ds_h ok.2.1
    have ra : dt_r a := ds_h (ds_t ok.2.1)
    have e9 := not_congr (dn_eq ra rb)
    exact lv_icmp_ne C.1 C.2.1 hd ht (fun q => hK _ _ _ _ (h.1 (e9.mp q)) ⟨ok.1, ds_t (ds_t ok.2.1), ok.2.2⟩ p l e R s m args below meth c cells slots Qf D ad cA A C H locs ls hW hL) (fun q => hK _ _ _ _ (h.2 ((dn_eq ra rb).mp q)) ⟨ok.1, ds_t (ds_t ok.2.1), ok.2.2⟩ p l e R s m args below meth c cells slots Qf D ad cA A C H locs ls hW hL)
  · exact h.elim
def tc_iflt (t : Nat) (nx : Nat) : dt_T := fun _ _ K pc lv st M => match st with
  | .inl a :: r => (a < 0 → K t lv r M) ∧ (0 ≤ a → K nx lv r M)
  | _ => False
theorem sn_iflt {y : dt_Y} {nx pc t : Nat} {o : Int} (hd : decode y.2.1 pc = .ok (.ifCond .lt o, 3)) (ht : (pc : Int) + o = (t : Int)) (hx9 : nx = pc + 3) : dt_S y (tc_iflt t nx) pc := by
  subst hx9
  intro d Q K hK lv st M h
  unfold tc_iflt at h
  split at h
  · next a r =>
    intro ok p l e R s m args below meth c cells slots Qf D ad cA A C H locs ls hW hL
    have ra : dt_r a := ds_h ok.2.1
    have e9 := dn_lt0 ra
    exact lv_if_lt C.1 C.2.1 hd ht (fun q => hK _ _ _ _ (h.1 (e9.mp q)) ⟨ok.1, ds_t ok.2.1, ok.2.2⟩ p l e R s m args below meth c cells slots Qf D ad cA A C H locs ls hW hL) (fun q => hK _ _ _ _ (h.2 (Int.not_lt.mp (fun z => q (e9.mpr z)))) ⟨ok.1, ds_t ok.2.1, ok.2.2⟩ p l e R s m args below meth c cells slots Qf D ad cA A C H locs ls hW hL)
  · exact h.elim
def tc_icmplt (t : Nat) (nx : Nat) : dt_T := fun _ _ K pc lv st M => match st with
  | .inl b :: .inl a :: r => (a < b → K t lv r M) ∧ (b ≤ a → K nx lv r M)
  | _ => False
theorem sn_icmplt {y : dt_Y} {nx pc t : Nat} {o : Int} (hd : decode y.2.1 pc = .ok (.if_icmp .lt o, 3)) (ht : (pc : Int) + o = (t : Int)) (hx9 : nx = pc + 3) : dt_S y (tc_icmplt t nx) pc := by
  subst hx9
  intro d Q K hK lv st M h
  unfold tc_icmplt at h
  split at h
  · next b a r =>
    intro ok p l e R s m args below meth c cells slots Qf D ad cA A C H locs ls hW hL
    have rb : dt_r b := ds_h ok.2.1
    have ra : dt_r a := ds_h (ds_t ok.2.1)
    have e9 := dn_lt ra rb
    exact lv_icmp_lt C.1 C.2.1 hd ht (fun q => hK _ _ _ _ (h.1 (e9.mp q)) ⟨ok.1, ds_t (ds_t ok.2.1), ok.2.2⟩ p l e R s m args below meth c cells slots Qf D ad cA A C H locs ls hW hL) (fun q => hK _ _ _ _ (h.2 (Int.not_lt.mp (fun z => q (e9.mpr z)))) ⟨ok.1, ds_t (ds_t ok.2.1), ok.2.2⟩ p l e R s m args below meth c cells slots Qf D ad cA A C H locs ls hW hL)
  · exact h.elim
def tc_ifge (t : Nat) (nx : Nat) : dt_T := fun _ _ K pc lv st M => match st with
  | .inl a :: r => (0 ≤ a → K t lv r M) ∧ (a < 0 → K nx lv r M)
  | _ => False
theorem sn_ifge {y : dt_Y} {nx pc t : Nat} {o : Int} (hd : decode y.2.1 pc = .ok (.ifCond .ge o, 3)) (ht : (pc : Int) + o = (t : Int)) (hx9 : nx = pc + 3) : dt_S y (tc_ifge t nx) pc := by
  subst hx9
  intro d Q K hK lv st M h
  unfold tc_ifge at h
  split at h
  · next a r =>
    intro ok p l e R s m args below meth c cells slots Qf D ad cA A C H locs ls hW hL
    have ra : dt_r a := ds_h ok.2.1
    have e9 := dn_0le ra
    exact lv_if_ge C.1 C.2.1 hd ht (fun q => hK _ _ _ _ (h.1 (e9.mp q)) ⟨ok.1, ds_t ok.2.1, ok.2.2⟩ p l e R s m args below meth c cells slots Qf D ad cA A C H locs ls hW hL) (fun q => hK _ _ _ _ (h.2 (Int.not_le.mp (fun z => q (e9.mpr z)))) ⟨ok.1, ds_t ok.2.1, ok.2.2⟩ p l e R s m args below meth c cells slots Qf D ad cA A C H locs ls hW hL)
  · exact h.elim
def tc_icmpge (t : Nat) (nx : Nat) : dt_T := fun _ _ K pc lv st M => match st with
  | .inl b :: .inl a :: r => (b ≤ a → K t lv r M) ∧ (a < b → K nx lv r M)
  | _ => False
theorem sn_icmpge {y : dt_Y} {nx pc t : Nat} {o : Int} (hd : decode y.2.1 pc = .ok (.if_icmp .ge o, 3)) (ht : (pc : Int) + o = (t : Int)) (hx9 : nx = pc + 3) : dt_S y (tc_icmpge t nx) pc := by
  subst hx9
  intro d Q K hK lv st M h
  unfold tc_icmpge at h
  split at h
  · next b a r =>
    intro ok p l e R s m args below meth c cells slots Qf D ad cA A C H locs ls hW hL
    have rb : dt_r b := ds_h ok.2.1
    have ra : dt_r a := ds_h (ds_t ok.2.1)
    have e9 := dn_le rb ra
    exact lv_icmp_ge C.1 C.2.1 hd ht (fun q => hK _ _ _ _ (h.1 (e9.mp q)) ⟨ok.1, ds_t (ds_t ok.2.1), ok.2.2⟩ p l e R s m args below meth c cells slots Qf D ad cA A C H locs ls hW hL) (fun q => hK _ _ _ _ (h.2 (Int.not_le.mp (fun z => q (e9.mpr z)))) ⟨ok.1, ds_t (ds_t ok.2.1), ok.2.2⟩ p l e R s m args below meth c cells slots Qf D ad cA A C H locs ls hW hL)
  · exact h.elim
def tc_ifgt (t : Nat) (nx : Nat) : dt_T := fun _ _ K pc lv st M => match st with
  | .inl a :: r => (0 < a → K t lv r M) ∧ (a ≤ 0 → K nx lv r M)
  | _ => False
theorem sn_ifgt {y : dt_Y} {nx pc t : Nat} {o : Int} (hd : decode y.2.1 pc = .ok (.ifCond .gt o, 3)) (ht : (pc : Int) + o = (t : Int)) (hx9 : nx = pc + 3) : dt_S y (tc_ifgt t nx) pc := by
  subst hx9
  intro d Q K hK lv st M h
  unfold tc_ifgt at h
  split at h
  · next a r =>
    intro ok p l e R s m args below meth c cells slots Qf D ad cA A C H locs ls hW hL
    have ra : dt_r a := ds_h ok.2.1
    have e9 := dn_0lt ra
    exact lv_if_gt C.1 C.2.1 hd ht (fun q => hK _ _ _ _ (h.1 (e9.mp q)) ⟨ok.1, ds_t ok.2.1, ok.2.2⟩ p l e R s m args below meth c cells slots Qf D ad cA A C H locs ls hW hL) (fun q => hK _ _ _ _ (h.2 (Int.not_lt.mp (fun z => q (e9.mpr z)))) ⟨ok.1, ds_t ok.2.1, ok.2.2⟩ p l e R s m args below meth c cells slots Qf D ad cA A C H locs ls hW hL)
  · exact h.elim
def tc_icmpgt (t : Nat) (nx : Nat) : dt_T := fun _ _ K pc lv st M => match st with
  | .inl b :: .inl a :: r => (b < a → K t lv r M) ∧ (a ≤ b → K nx lv r M)
  | _ => False
theorem sn_icmpgt {y : dt_Y} {nx pc t : Nat} {o : Int} (hd : decode y.2.1 pc = .ok (.if_icmp .gt o, 3)) (ht : (pc : Int) + o = (t : Int)) (hx9 : nx = pc + 3) : dt_S y (tc_icmpgt t nx) pc := by
  subst hx9
  intro d Q K hK lv st M h
  unfold tc_icmpgt at h
  split at h
  · next b a r =>
    intro ok p l e R s m args below meth c cells slots Qf D ad cA A C H locs ls hW hL
    have rb : dt_r b := ds_h ok.2.1
    have ra : dt_r a := ds_h (ds_t ok.2.1)
    have e9 := dn_lt rb ra
    exact lv_icmp_gt C.1 C.2.1 hd ht (fun q => hK _ _ _ _ (h.1 (e9.mp q)) ⟨ok.1, ds_t (ds_t ok.2.1), ok.2.2⟩ p l e R s m args below meth c cells slots Qf D ad cA A C H locs ls hW hL) (fun q => hK _ _ _ _ (h.2 (Int.not_lt.mp (fun z => q (e9.mpr z)))) ⟨ok.1, ds_t (ds_t ok.2.1), ok.2.2⟩ p l e R s m args below meth c cells slots Qf D ad cA A C H locs ls hW hL)
  · exact h.elim
def tc_ifle (t : Nat) (nx : Nat) : dt_T := fun _ _ K pc lv st M => match st with
  | .inl a :: r => (a ≤ 0 → K t lv r M) ∧ (0 < a → K nx lv r M)
  | _ => False
theorem sn_ifle {y : dt_Y} {nx pc t : Nat} {o : Int} (hd : decode y.2.1 pc = .ok (.ifCond .le o, 3)) (ht : (pc : Int) + o = (t : Int)) (hx9 : nx = pc + 3) : dt_S y (tc_ifle t nx) pc := by
  subst hx9
  intro d Q K hK lv st M h
  unfold tc_ifle at h
  split at h
  · next a r =>
    intro ok p l e R s m args below meth c cells slots Qf D ad cA A C H locs ls hW hL
    have ra : dt_r a := ds_h ok.2.1
    have e9 := dn_le0 ra
    exact lv_if_le C.1 C.2.1 hd ht (fun q => hK _ _ _ _ (h.1 (e9.mp q)) ⟨ok.1, ds_t ok.2.1, ok.2.2⟩ p l e R s m args below meth c cells slots Qf D ad cA A C H locs ls hW hL) (fun q => hK _ _ _ _ (h.2 (Int.not_le.mp (fun z => q (e9.mpr z)))) ⟨ok.1, ds_t ok.2.1, ok.2.2⟩ p l e R s m args below meth c cells slots Qf D ad cA A C H locs ls hW hL)
  · exact h.elim
def tc_icmple (t : Nat) (nx : Nat) : dt_T := fun _ _ K pc lv st M => match st with
  | .inl b :: .inl a :: r => (a ≤ b → K t lv r M) ∧ (b < a → K nx lv r M)
  | _ => False
theorem sn_icmple {y : dt_Y} {nx pc t : Nat} {o : Int} (hd : decode y.2.1 pc = .ok (.if_icmp .le o, 3)) (ht : (pc : Int) + o = (t : Int)) (hx9 : nx = pc + 3) : dt_S y (tc_icmple t nx) pc := by
  subst hx9
  intro d Q K hK lv st M h
  unfold tc_icmple at h
  split at h
  · next b a r =>
    intro ok p l e R s m args below meth c cells slots Qf D ad cA A C H locs ls hW hL
    have rb : dt_r b := ds_h ok.2.1
    have ra : dt_r a := ds_h (ds_t ok.2.1)
    have e9 := dn_le ra rb
    exact lv_icmp_le C.1 C.2.1 hd ht (fun q => hK _ _ _ _ (h.1 (e9.mp q)) ⟨ok.1, ds_t (ds_t ok.2.1), ok.2.2⟩ p l e R s m args below meth c cells slots Qf D ad cA A C H locs ls hW hL) (fun q => hK _ _ _ _ (h.2 (Int.not_le.mp (fun z => q (e9.mpr z)))) ⟨ok.1, ds_t (ds_t ok.2.1), ok.2.2⟩ p l e R s m args below meth c cells slots Qf D ad cA A C H locs ls hW hL)
  · exact h.elim
