/-! ===== fields and arrays ===== -/
/-- what is known of a class: its row, its words, its fields' types and names -/
def dt_F (ci : Nat) (C : String) (T : u_T) (N : Nat) : Prop := vwCl[ci]? = some (C, T, N) ∧ (∀ w ∈ u_ws C T N, w ∈ dt_W0) ∧ (∃ ty : Nat → FieldType, ∀ k, k < N → parseFieldDescriptor (T k).2.2.1 = some (ty k)) ∧ (∀ a, a < N → ∀ b, b < N → a ≠ b → (T a).2.1 ≠ (T b).2.1)
def dt_cn (k : Nat) : Bool := !(Nat.ble 4 (dt_kd k).1) || ((vwCl[(dt_kd k).1 - 4]?).map (fun q => q.2.2) == some (dt_kd k).2)
theorem dk_cn : (List.range 86).all dt_cn = true := by decide +kernel
theorem dk_N {ci k n N : Nat} {C : String} {T : u_T} (hk : dt_kd k = (ci + 4, n)) (hc : ci < 46) (hF : vwCl[ci]? = some (C, T, N)) : n = N := by
  have h := List.all_eq_true.mp dk_cn k (List.mem_range.mpr (dk_lt hk (by omega)))
  unfold dt_cn at h
  rw [hk] at h
  simp only at h
  rw [show Nat.ble 4 (ci + 4) = true from Nat.ble_eq.mpr (by omega), Bool.not_true, Bool.false_or, show ci + 4 - 4 = ci by omega, hF] at h
  have h2 : some N = some n := eq_of_beq h
  cases h2; rfl
theorem dk_c8 {ci : Nat} {q : vw_C} (h : vwCl[ci]? = some q) : ci < 46 := by
  have := (List.getElem?_eq_some_iff.mp h).1
  have e : vwCl.length = 8 := rfl
  omega
theorem dt_cd {b : Bool} {A : Prop} (h : cond b A False) : b = true ∧ A := by
  cases b
  · exact h.elim
  · exact ⟨rfl, h⟩
def tc_getf (ci j : Nat) (nx : Nat) : dt_T := fun _ _ K pc lv st M => match st with
  | .inr (.inr (t, _, k)) :: r => cond (t == ci + 4) (K nx lv (dt_gf ci j k M :: r) M) False
  | _ => False
theorem sn_getf {y : dt_Y} {nx pc ci j index N : Nat} {own C : String} {T : u_T} (ho : y.1.cls = own) (hF : dt_F ci C T N) (hj : j < N) (hw : Cond.fieldLink own index (T j).1 (T j).2.1 (T j).2.2.1 ∈ dt_W0) (hd : decode y.2.1 pc = .ok (.getfield index, 3)) (hx9 : nx = pc + 3) : dt_S y (tc_getf ci j nx) pc := by
  subst hx9
  intro d Q K hK lv st M h
  unfold tc_getf at h
  split at h
  · next t n k r =>
    obtain ⟨ht0, h9⟩ := dt_cd h
    have ht : t = ci + 4 := eq_of_beq ht0
    clear h
    subst ht
    intro ok p l e R s m args below meth c cells slots Qf D ad cA A C H locs ls hW hL
    have hk : dt_kd k = (ci + 4, n) := ds_h ok.2.1
    have hn := dk_N hk (dk_c8 hF.1) hF.1
    subst hn
    have := hK _ _ _ _ h9 ⟨ok.1, ds_c (dk_gf ok.2.2 hk (dk_c8 hF.1) hj) (ds_t ok.2.1), ok.2.2⟩ p l e R s m args below meth c cells slots Qf D ad cA A C H locs ls hW hL
    refine va_get C.1 C.2.1 C.2.2.2.2.1 hF.2.1 (own := own) (ho ▸ C.2.2.2.1) C.2.2.2.2.2.1 hW.1 k (by rw [dw_at (dk_lt hk (by have := dk_c8 hF.1; omega)), dw_obj hk]) hF.1 j hj (C.2.2.2.2.1 _ hw) (fun _ h9 => h9) (v := dt_cv ad (dt_gf ci j k M)) (by simp [hj]) hd this
  · exact h.elim
theorem sn_getfN {y : dt_Y} {nx pc ci j index N : Nat} {own C host : String} {T : u_T} (ho : y.1.cls = own) (hF : dt_F ci C T N) (hj : j < N) (hw : Cond.fieldLinkNest own index (T j).1 (T j).2.1 (T j).2.2.1 host ∈ dt_NW) (hd : decode y.2.1 pc = .ok (.getfield index, 3)) (hx9 : nx = pc + 3) : dt_S y (tc_getf ci j nx) pc := by
  subst hx9
  intro d Q K hK lv st M h
  unfold tc_getf at h
  split at h
  · next t n k r =>
    obtain ⟨ht0, h9⟩ := dt_cd h
    have ht : t = ci + 4 := eq_of_beq ht0
    clear h
    subst ht
    intro ok p l e R s m args below meth c cells slots Qf D ad cA A C H locs ls hW hL
    have hk : dt_kd k = (ci + 4, n) := ds_h ok.2.1
    have hn := dk_N hk (dk_c8 hF.1) hF.1
    subst hn
    have := hK _ _ _ _ h9 ⟨ok.1, ds_c (dk_gf ok.2.2 hk (dk_c8 hF.1) hj) (ds_t ok.2.1), ok.2.2⟩ p l e R s m args below meth c cells slots Qf D ad cA A C H locs ls hW hL
    refine va_getN C.1 C.2.1 C.2.2.2.2.1 hF.2.1 (own := own) (ho ▸ C.2.2.2.1) C.2.2.2.2.2.1 hW.1 k (by rw [dw_at (dk_lt hk (by have := dk_c8 hF.1; omega)), dw_obj hk]) hF.1 j hj (va_Nw.use rfl (C.2.2.2.2.2.2.1 _ hw)) (fun _ h9 => h9) (v := dt_cv ad (dt_gf ci j k M)) (by simp [hj]) hd this
  · exact h.elim
theorem dw_putI {M : dt_M} {ad : Nat → Nat} {cA : Nat → ClassId} {ci j k N : Nat} {x : Int} (hk : dt_kd k = (ci + 4, N)) (hj : j < N) (h0 : (dt_fd ci j).1 = 0) : dt_wc (dt_wi M k j x) ad cA k = .inr (ci, ((List.range N).map (fun i => dt_cv ad (dt_gf ci i k M))).set j (.int (Int32.ofInt x))) := by
  rw [dw_obj hk]
  congr 2
  apply List.ext_getElem?
  intro i
  by_cases hij : i = j
  · subst hij
    rw [List.getElem?_set_self (by simpa using hj)]
    simp only [List.getElem?_map, List.getElem?_range hj, Option.map_some]
    congr 1
    unfold dt_gf
    obtain ⟨a, b, c, d, hq⟩ : ∃ a b c d, dt_fd ci i = (a, b, c, d) := ⟨_, _, _, _, rfl⟩
    rw [hq] at h0 ⊢
    simp only at h0
    subst h0
    simp only [dm_wi1, dm_up1, dt_cv]
  · rw [List.getElem?_set_ne (Ne.symm hij)]
    by_cases hi : i < N
    · simp only [List.getElem?_map, List.getElem?_range hi, Option.map_some]
      congr 2
      unfold dt_gf
      rw [dm_wi1, dm_up2 hij, dm_wi3]
    · rw [List.getElem?_eq_none (by simp; omega), List.getElem?_eq_none (by simp; omega)]
theorem dw_putL {M : dt_M} {ad : Nat → Nat} {cA : Nat → ClassId} {ci j k N : Nat} {x : Int} (hk : dt_kd k = (ci + 4, N)) (hj : j < N) (h0 : (dt_fd ci j).1 = 1) : dt_wc (dt_wl M k j x) ad cA k = .inr (ci, ((List.range N).map (fun i => dt_cv ad (dt_gf ci i k M))).set j (.long (Int64.ofInt x))) := by
  rw [dw_obj hk]
  congr 2
  apply List.ext_getElem?
  intro i
  by_cases hij : i = j
  · subst hij
    rw [List.getElem?_set_self (by simpa using hj)]
    simp only [List.getElem?_map, List.getElem?_range hj, Option.map_some]
    congr 1
    unfold dt_gf
    obtain ⟨a, b, c, d, hq⟩ : ∃ a b c d, dt_fd ci i = (a, b, c, d) := ⟨_, _, _, _, rfl⟩
    rw [hq] at h0 ⊢
    simp only at h0
    subst h0
    simp only [dm_wl1, dm_up1, dt_cv]
  · rw [List.getElem?_set_ne (Ne.symm hij)]
    by_cases hi : i < N
    · simp only [List.getElem?_map, List.getElem?_range hi, Option.map_some]
      congr 2
      unfold dt_gf
      rw [dm_wl1, dm_up2 hij, dm_wl3]
    · rw [List.getElem?_eq_none (by simp; omega), List.getElem?_eq_none (by simp; omega)]
theorem dw_onlyi {M : dt_M} {k j : Nat} {x : Int} : ∀ i, i ≠ k → (dt_wi M k j x).1 i = M.1 i ∧ (dt_wi M k j x).2 i = M.2 i := fun _ h => ⟨dm_wi2 h, rfl⟩
theorem dw_onlyl {M : dt_M} {k j : Nat} {x : Int} : ∀ i, i ≠ k → (dt_wl M k j x).1 i = M.1 i ∧ (dt_wl M k j x).2 i = M.2 i := fun _ h => ⟨rfl, dm_wl2 h⟩
def tc_putI (ci j : Nat) (nx : Nat) : dt_T := fun _ _ K pc lv st M => match st with
  | .inl x :: .inr (.inr (t, _, k)) :: r => cond (t == ci + 4) (∀ M1, M1 = dt_wi M k j x → K nx lv r M1) False
  | _ => False
theorem sn_putI {y : dt_Y} {nx pc ci j index N : Nat} {own C : String} {T : u_T} (ho : y.1.cls = own) (hF : dt_F ci C T N) (hj : j < N) (h0 : (dt_fd ci j).1 = 0) (hfin : (T j).2.2.2 = false) (hty : parseFieldDescriptor (T j).2.2.1 = some .int) (hw : Cond.fieldLink own index (T j).1 (T j).2.1 (T j).2.2.1 ∈ dt_W0) (hd : decode y.2.1 pc = .ok (.putfield index, 3)) (hx9 : nx = pc + 3) : dt_S y (tc_putI ci j nx) pc := by
  subst hx9
  intro d Q K hK lv st M h
  unfold tc_putI at h
  split at h
  · next x t n k r =>
    obtain ⟨ht0, h9⟩ := dt_cd h
    have ht : t = ci + 4 := eq_of_beq ht0
    clear h
    subst ht
    intro ok p l e R s m args below meth c cells slots Qf D ad cA A C H locs ls hW hL
    have hk : dt_kd k = (ci + 4, n) := ds_h (ds_t ok.2.1)
    have hn := dk_N hk (dk_c8 hF.1) hF.1
    subst hn
    have hkl := dk_lt hk (by have := dk_c8 hF.1; omega)
    obtain ⟨ty0, hty0⟩ := hF.2.2.1
    refine va_put C.1 C.2.1 C.2.2.2.2.1 hF.2.1 ty0 hty0 hF.2.2.2 (own := own) (ho ▸ C.2.2.2.1) C.2.2.2.2.2.1 hW.1 hW.2.1 hW.2.2 k (by rw [dw_at hkl, dw_obj hk]) hF.1 j hj (C.2.2.2.2.1 _ hw) (fun _ h9 => h9) hfin (v := .int (Int32.ofInt x)) hty (vp_nar_int _) rfl (by simpa using hj) hd (fun H1 locs1 hP1 hD1 hS1 => ?_)
    rw [dw_set hkl (dw_putI hk hj h0) dw_onlyi] at hP1 hD1
    exact hK _ _ _ _ (h9 _ rfl) ⟨ok.1, ds_t (ds_t ok.2.1), dm_rwi ok.2.2 (ds_h ok.2.1)⟩ p l e R s m args below meth c cells slots Qf D ad cA A C H1 locs1 ls ⟨hP1, hD1, hS1⟩ hL
  · exact h.elim
theorem sn_putIN {y : dt_Y} {nx pc ci j index N : Nat} {own C host : String} {T : u_T} (ho : y.1.cls = own) (hF : dt_F ci C T N) (hj : j < N) (h0 : (dt_fd ci j).1 = 0) (hfin : (T j).2.2.2 = false) (hty : parseFieldDescriptor (T j).2.2.1 = some .int) (hw : Cond.fieldLinkNest own index (T j).1 (T j).2.1 (T j).2.2.1 host ∈ dt_NW) (hd : decode y.2.1 pc = .ok (.putfield index, 3)) (hx9 : nx = pc + 3) : dt_S y (tc_putI ci j nx) pc := by
  subst hx9
  intro d Q K hK lv st M h
  unfold tc_putI at h
  split at h
  · next x t n k r =>
    obtain ⟨ht0, h9⟩ := dt_cd h
    have ht : t = ci + 4 := eq_of_beq ht0
    clear h
    subst ht
    intro ok p l e R s m args below meth c cells slots Qf D ad cA A C H locs ls hW hL
    have hk : dt_kd k = (ci + 4, n) := ds_h (ds_t ok.2.1)
    have hn := dk_N hk (dk_c8 hF.1) hF.1
    subst hn
    have hkl := dk_lt hk (by have := dk_c8 hF.1; omega)
    obtain ⟨ty0, hty0⟩ := hF.2.2.1
    refine va_putN C.1 C.2.1 C.2.2.2.2.1 hF.2.1 ty0 hty0 hF.2.2.2 (own := own) (ho ▸ C.2.2.2.1) C.2.2.2.2.2.1 hW.1 hW.2.1 hW.2.2 k (by rw [dw_at hkl, dw_obj hk]) hF.1 j hj (va_Nw.use rfl (C.2.2.2.2.2.2.1 _ hw)) (fun _ h9 => h9) hfin (v := .int (Int32.ofInt x)) hty (vp_nar_int _) rfl (by simpa using hj) hd (fun H1 locs1 hP1 hD1 hS1 => ?_)
    rw [dw_set hkl (dw_putI hk hj h0) dw_onlyi] at hP1 hD1
    exact hK _ _ _ _ (h9 _ rfl) ⟨ok.1, ds_t (ds_t ok.2.1), dm_rwi ok.2.2 (ds_h ok.2.1)⟩ p l e R s m args below meth c cells slots Qf D ad cA A C H1 locs1 ls ⟨hP1, hD1, hS1⟩ hL
  · exact h.elim
def tc_putL (ci j : Nat) (nx : Nat) : dt_T := fun _ _ K pc lv st M => match st with
  | .inr (.inl x) :: .inr (.inr (t, _, k)) :: r => cond (t == ci + 4) (∀ M1, M1 = dt_wl M k j x → K nx lv r M1) False
  | _ => False
theorem sn_putL {y : dt_Y} {nx pc ci j index N : Nat} {own C : String} {T : u_T} (ho : y.1.cls = own) (hF : dt_F ci C T N) (hj : j < N) (h0 : (dt_fd ci j).1 = 1) (hfin : (T j).2.2.2 = false) (hty : parseFieldDescriptor (T j).2.2.1 = some .long) (hw : Cond.fieldLink own index (T j).1 (T j).2.1 (T j).2.2.1 ∈ dt_W0) (hd : decode y.2.1 pc = .ok (.putfield index, 3)) (hx9 : nx = pc + 3) : dt_S y (tc_putL ci j nx) pc := by
  subst hx9
  intro d Q K hK lv st M h
  unfold tc_putL at h
  split at h
  · next x t n k r =>
    obtain ⟨ht0, h9⟩ := dt_cd h
    have ht : t = ci + 4 := eq_of_beq ht0
    clear h
    subst ht
    intro ok p l e R s m args below meth c cells slots Qf D ad cA A C H locs ls hW hL
    have hk : dt_kd k = (ci + 4, n) := ds_h (ds_t ok.2.1)
    have hn := dk_N hk (dk_c8 hF.1) hF.1
    subst hn
    have hkl := dk_lt hk (by have := dk_c8 hF.1; omega)
    obtain ⟨ty0, hty0⟩ := hF.2.2.1
    refine va_put C.1 C.2.1 C.2.2.2.2.1 hF.2.1 ty0 hty0 hF.2.2.2 (own := own) (ho ▸ C.2.2.2.1) C.2.2.2.2.2.1 hW.1 hW.2.1 hW.2.2 k (by rw [dw_at hkl, dw_obj hk]) hF.1 j hj (C.2.2.2.2.1 _ hw) (fun _ h9 => h9) hfin (v := .long (Int64.ofInt x)) hty (rfl) rfl (by simpa using hj) hd (fun H1 locs1 hP1 hD1 hS1 => ?_)
    rw [dw_set hkl (dw_putL hk hj h0) dw_onlyl] at hP1 hD1
    exact hK _ _ _ _ (h9 _ rfl) ⟨ok.1, ds_t (ds_t ok.2.1), dm_rwl ok.2.2 (ds_h ok.2.1)⟩ p l e R s m args below meth c cells slots Qf D ad cA A C H1 locs1 ls ⟨hP1, hD1, hS1⟩ hL
  · exact h.elim
theorem sn_putLN {y : dt_Y} {nx pc ci j index N : Nat} {own C host : String} {T : u_T} (ho : y.1.cls = own) (hF : dt_F ci C T N) (hj : j < N) (h0 : (dt_fd ci j).1 = 1) (hfin : (T j).2.2.2 = false) (hty : parseFieldDescriptor (T j).2.2.1 = some .long) (hw : Cond.fieldLinkNest own index (T j).1 (T j).2.1 (T j).2.2.1 host ∈ dt_NW) (hd : decode y.2.1 pc = .ok (.putfield index, 3)) (hx9 : nx = pc + 3) : dt_S y (tc_putL ci j nx) pc := by
  subst hx9
  intro d Q K hK lv st M h
  unfold tc_putL at h
  split at h
  · next x t n k r =>
    obtain ⟨ht0, h9⟩ := dt_cd h
    have ht : t = ci + 4 := eq_of_beq ht0
    clear h
    subst ht
    intro ok p l e R s m args below meth c cells slots Qf D ad cA A C H locs ls hW hL
    have hk : dt_kd k = (ci + 4, n) := ds_h (ds_t ok.2.1)
    have hn := dk_N hk (dk_c8 hF.1) hF.1
    subst hn
    have hkl := dk_lt hk (by have := dk_c8 hF.1; omega)
    obtain ⟨ty0, hty0⟩ := hF.2.2.1
    refine va_putN C.1 C.2.1 C.2.2.2.2.1 hF.2.1 ty0 hty0 hF.2.2.2 (own := own) (ho ▸ C.2.2.2.1) C.2.2.2.2.2.1 hW.1 hW.2.1 hW.2.2 k (by rw [dw_at hkl, dw_obj hk]) hF.1 j hj (va_Nw.use rfl (C.2.2.2.2.2.2.1 _ hw)) (fun _ h9 => h9) hfin (v := .long (Int64.ofInt x)) hty (rfl) rfl (by simpa using hj) hd (fun H1 locs1 hP1 hD1 hS1 => ?_)
    rw [dw_set hkl (dw_putL hk hj h0) dw_onlyl] at hP1 hD1
    exact hK _ _ _ _ (h9 _ rfl) ⟨ok.1, ds_t (ds_t ok.2.1), dm_rwl ok.2.2 (ds_h ok.2.1)⟩ p l e R s m args below meth c cells slots Qf D ad cA A C H1 locs1 ls ⟨hP1, hD1, hS1⟩ hL
  · exact h.elim
def tc_iald (nx : Nat) : dt_T := fun _ _ K pc lv st M => match st with
  | .inl i :: .inr (.inr (0, n, k)) :: r => (0 ≤ i ∧ i < (n : Int)) ∧ K nx lv (.inl (M.1 k i.toNat) :: r) M
  | _ => False
theorem sn_iald {y : dt_Y} {nx pc : Nat} (hd : decode y.2.1 pc = .ok (.iaload, 1)) (hx9 : nx = pc + 1) : dt_S y (tc_iald nx) pc := by
  subst hx9
  intro d Q K hK lv st M h
  unfold tc_iald at h
  split at h
  · next i n k r =>
    intro ok p l e R s m args below meth c cells slots Qf D ad cA A C H locs ls hW hL
    have hk : dt_kd k = (0, n) := ds_h (ds_t ok.2.1)
    have hi : dt_r i := ds_h ok.2.1
    have hkl := dk_lt hk (by decide)
    have := hK _ _ _ _ h.2 ⟨ok.1, ds_c (show dt_okv _ from ok.2.2.1 _ _) (ds_t (ds_t ok.2.1)), ok.2.2⟩ p l e R s m args below meth c cells slots Qf D ad cA A C H locs ls hW hL
    refine va_iald C.1 C.2.1 C.2.2.2.2.2.1 hW.1 k 0 (by rw [dw_at hkl, dw_int hk]) rfl (dn_in hi h.1.1 h.1.2) hd ?_
    rw [dn_cl hi]
    exact this
  · exact h.elim
def tc_zald (nx : Nat) : dt_T := fun _ _ K pc lv st M => match st with
  | .inl i :: .inr (.inr (1, n, k)) :: r => (0 ≤ i ∧ i < (n : Int)) ∧ K nx lv (.inl (M.1 k i.toNat) :: r) M
  | _ => False
theorem sn_zald {y : dt_Y} {nx pc : Nat} (hd : decode y.2.1 pc = .ok (.baload, 1)) (hx9 : nx = pc + 1) : dt_S y (tc_zald nx) pc := by
  subst hx9
  intro d Q K hK lv st M h
  unfold tc_zald at h
  split at h
  · next i n k r =>
    intro ok p l e R s m args below meth c cells slots Qf D ad cA A C H locs ls hW hL
    have hk : dt_kd k = (1, n) := ds_h (ds_t ok.2.1)
    have hi : dt_r i := ds_h ok.2.1
    have hkl := dk_lt hk (by decide)
    have := hK _ _ _ _ h.2 ⟨ok.1, ds_c (show dt_okv _ from ok.2.2.1 _ _) (ds_t (ds_t ok.2.1)), ok.2.2⟩ p l e R s m args below meth c cells slots Qf D ad cA A C H locs ls hW hL
    refine va_zald C.1 C.2.1 C.2.2.2.2.2.1 hW.1 k 1 (by rw [dw_at hkl, dw_bool hk]) rfl (dn_in hi h.1.1 h.1.2) hd ?_
    rw [dn_cl hi]
    exact this
  · exact h.elim
def tc_lald (nx : Nat) : dt_T := fun _ _ K pc lv st M => match st with
  | .inl i :: .inr (.inr (2, n, k)) :: r => (0 ≤ i ∧ i < (n : Int)) ∧ K nx lv (.inr (.inl (M.2 k i.toNat)) :: r) M
  | _ => False
theorem sn_lald {y : dt_Y} {nx pc : Nat} (hd : decode y.2.1 pc = .ok (.laload, 1)) (hx9 : nx = pc + 1) : dt_S y (tc_lald nx) pc := by
  subst hx9
  intro d Q K hK lv st M h
  unfold tc_lald at h
  split at h
  · next i n k r =>
    intro ok p l e R s m args below meth c cells slots Qf D ad cA A C H locs ls hW hL
    have hk : dt_kd k = (2, n) := ds_h (ds_t ok.2.1)
    have hi : dt_r i := ds_h ok.2.1
    have hkl := dk_lt hk (by decide)
    have := hK _ _ _ _ h.2 ⟨ok.1, ds_c (show dt_okv _ from ok.2.2.2 _ _) (ds_t (ds_t ok.2.1)), ok.2.2⟩ p l e R s m args below meth c cells slots Qf D ad cA A C H locs ls hW hL
    refine va_lald C.1 C.2.1 C.2.2.2.2.2.1 hW.1 k 2 (by rw [dw_at hkl, dw_long hk]) rfl (dn_in hi h.1.1 h.1.2) hd ?_
    rw [dn_cl hi]
    exact this
  · exact h.elim
theorem dk_T0 : ∀ k, k < 86 → (dt_kd k).1 = 3 → (dt_kd k).2 = 4 := by decide +kernel
theorem dk_T (k i n : Nat) (hk : k < 86) (h : dt_kd k = (3, n)) (hi : i < n) : dt_okv (.inr (.inr (9, 9, 2 + 8 * i))) := by
  have h4 := dk_T0 k hk (by rw [h])
  rw [h] at h4
  simp only at h4
  subst h4
  match i, hi with
  | 0, _ => exact (by decide +kernel : dt_kd 2 = (9, 9))
  | 1, _ => exact (by decide +kernel : dt_kd 10 = (9, 9))
  | 2, _ => exact (by decide +kernel : dt_kd 18 = (9, 9))
  | 3, _ => exact (by decide +kernel : dt_kd 26 = (9, 9))
  | i + 4, h => omega
def tc_aald (nx : Nat) : dt_T := fun _ _ K pc lv st M => match st with
  | .inl i :: .inr (.inr (3, n, k)) :: r => (0 ≤ i ∧ i < (n : Int)) ∧ K nx lv (.inr (.inr (9, 9, 2 + 8 * i.toNat)) :: r) M
  | _ => False
theorem sn_aald {y : dt_Y} {nx pc : Nat} (hd : decode y.2.1 pc = .ok (.aaload, 1)) (hx9 : nx = pc + 1) : dt_S y (tc_aald nx) pc := by
  subst hx9
  intro d Q K hK lv st M h
  unfold tc_aald at h
  split at h
  · next i n k r =>
    intro ok p l e R s m args below meth c cells slots Qf D ad cA A C H locs ls hW hL
    have hk : dt_kd k = (3, n) := ds_h (ds_t ok.2.1)
    have hi : dt_r i := ds_h ok.2.1
    have hkl := dk_lt hk (by decide)
    have hz : dt_okv (.inr (.inr (9, 9, 2 + 8 * i.toNat))) := dk_T k i.toNat n hkl hk (by have := h.1; omega)
    have := hK _ _ _ _ h.2 ⟨ok.1, ds_c (hz) (ds_t (ds_t ok.2.1)), ok.2.2⟩ p l e R s m args below meth c cells slots Qf D ad cA A C H locs ls hW hL
    refine va_aldq C.1 C.2.1 C.2.2.2.2.2.1 hW.1 k 3 (by rw [dw_at hkl, dw_refs hk]) rfl (dn_in hi h.1.1 h.1.2) hd ?_
    rw [dn_cl hi]
    exact this
  · exact h.elim
def tc_iast (nx : Nat) : dt_T := fun _ _ K pc lv st M => match st with
  | .inl x :: .inl i :: .inr (.inr (0, n, k)) :: r => (0 ≤ i ∧ i < (n : Int)) ∧ ∀ M1, M1 = dt_wi M k i.toNat x → K nx lv r M1
  | _ => False
theorem sn_iast {y : dt_Y} {nx pc : Nat} (hd : decode y.2.1 pc = .ok (.iastore, 1)) (hx9 : nx = pc + 1) : dt_S y (tc_iast nx) pc := by
  subst hx9
  intro d Q K hK lv st M h
  unfold tc_iast at h
  split at h
  · next x i n k r =>
    intro ok p l e R s m args below meth c cells slots Qf D ad cA A C H locs ls hW hL
    have hk : dt_kd k = (0, n) := ds_h (ds_t (ds_t ok.2.1))
    have hi : dt_r i := ds_h (ds_t ok.2.1)
    have hkl := dk_lt hk (by decide)
    refine va_iast C.1 C.2.1 C.2.2.2.2.2.1 hW.1 hW.2.1 hW.2.2 k 0 (by rw [dw_at hkl, dw_int hk]) rfl (dn_in hi h.1.1 h.1.2) hd (fun H1 locs1 hP1 hD1 hS1 => ?_)
    have e8 : dt_wc (dt_wi M k i.toNat x) ad cA k = .inl (cA 0, n, .inl (upd (fun j => Int32.ofInt (M.1 k j)) (Int32.ofInt i).toNatClampNeg (Int32.ofInt x))) := by
      rw [dw_int hk, dn_cl hi]
      congr 4
      funext j
      by_cases hj : j = i.toNat
      · simp [upd, hj, dm_wi1, dm_up1]
      · simp [upd, hj, dm_wi1, dm_up2 hj]
    rw [dw_set hkl e8 dw_onlyi] at hP1 hD1
    exact hK _ _ _ _ (h.2 _ rfl) ⟨ok.1, ds_t (ds_t (ds_t ok.2.1)), dm_rwi ok.2.2 (ds_h ok.2.1)⟩ p l e R s m args below meth c cells slots Qf D ad cA A C H1 locs1 ls ⟨hP1, hD1, hS1⟩ hL
  · exact h.elim
def tc_zast (nx : Nat) : dt_T := fun _ _ K pc lv st M => match st with
  | .inl x :: .inl i :: .inr (.inr (1, n, k)) :: r => (0 ≤ i ∧ i < (n : Int)) ∧ (x = 0 ∨ x = 1) ∧ ∀ M1, M1 = dt_wi M k i.toNat x → K nx lv r M1
  | _ => False
theorem sn_zast {y : dt_Y} {nx pc : Nat} (hd : decode y.2.1 pc = .ok (.bastore, 1)) (hx9 : nx = pc + 1) : dt_S y (tc_zast nx) pc := by
  subst hx9
  intro d Q K hK lv st M h
  unfold tc_zast at h
  split at h
  · next x i n k r =>
    intro ok p l e R s m args below meth c cells slots Qf D ad cA A C H locs ls hW hL
    have hk : dt_kd k = (1, n) := ds_h (ds_t (ds_t ok.2.1))
    have hi : dt_r i := ds_h (ds_t ok.2.1)
    have hkl := dk_lt hk (by decide)
    refine va_zast C.1 C.2.1 C.2.2.2.2.2.1 hW.1 hW.2.1 hW.2.2 k 1 (by rw [dw_at hkl, dw_bool hk]) rfl (dn_in hi h.1.1 h.1.2) hd (fun H1 locs1 hP1 hD1 hS1 => ?_)
    have e9 : vp_nar .boolean (Int32.ofInt x) = Int32.ofInt x := by rcases h.2.1 with q | q <;> subst q <;> rfl
    rw [e9] at hP1 hD1
    have e8 : dt_wc (dt_wi M k i.toNat x) ad cA k = .inl (cA 1, n, .inl (upd (fun j => Int32.ofInt (M.1 k j)) (Int32.ofInt i).toNatClampNeg (Int32.ofInt x))) := by
      rw [dw_bool hk, dn_cl hi]
      congr 4
      funext j
      by_cases hj : j = i.toNat
      · simp [upd, hj, dm_wi1, dm_up1]
      · simp [upd, hj, dm_wi1, dm_up2 hj]
    rw [dw_set hkl e8 dw_onlyi] at hP1 hD1
    exact hK _ _ _ _ (h.2.2 _ rfl) ⟨ok.1, ds_t (ds_t (ds_t ok.2.1)), dm_rwi ok.2.2 (ds_h ok.2.1)⟩ p l e R s m args below meth c cells slots Qf D ad cA A C H1 locs1 ls ⟨hP1, hD1, hS1⟩ hL
  · exact h.elim
def tc_last (nx : Nat) : dt_T := fun _ _ K pc lv st M => match st with
  | .inr (.inl x) :: .inl i :: .inr (.inr (2, n, k)) :: r => (0 ≤ i ∧ i < (n : Int)) ∧ ∀ M1, M1 = dt_wl M k i.toNat x → K nx lv r M1
  | _ => False
theorem sn_last {y : dt_Y} {nx pc : Nat} (hd : decode y.2.1 pc = .ok (.lastore, 1)) (hx9 : nx = pc + 1) : dt_S y (tc_last nx) pc := by
  subst hx9
  intro d Q K hK lv st M h
  unfold tc_last at h
  split at h
  · next x i n k r =>
    intro ok p l e R s m args below meth c cells slots Qf D ad cA A C H locs ls hW hL
    have hk : dt_kd k = (2, n) := ds_h (ds_t (ds_t ok.2.1))
    have hi : dt_r i := ds_h (ds_t ok.2.1)
    have hkl := dk_lt hk (by decide)
    refine va_last C.1 C.2.1 C.2.2.2.2.2.1 hW.1 hW.2.1 hW.2.2 k 2 (by rw [dw_at hkl, dw_long hk]) rfl (dn_in hi h.1.1 h.1.2) hd (fun H1 locs1 hP1 hD1 hS1 => ?_)
    have e8 : dt_wc (dt_wl M k i.toNat x) ad cA k = .inl (cA 2, n, .inr (.inl (vp_updL (fun j => Int64.ofInt (M.2 k j)) (Int32.ofInt i).toNatClampNeg (Int64.ofInt x)))) := by
      rw [dw_long hk, dn_cl hi]
      congr 5
      funext j
      by_cases hj : j = i.toNat
      · simp [vp_updL, hj, dm_wl1, dm_up1]
      · simp [vp_updL, hj, dm_wl1, dm_up2 hj]
    rw [dw_set hkl e8 dw_onlyl] at hP1 hD1
    exact hK _ _ _ _ (h.2 _ rfl) ⟨ok.1, ds_t (ds_t (ds_t ok.2.1)), dm_rwl ok.2.2 (ds_h ok.2.1)⟩ p l e R s m args below meth c cells slots Qf D ad cA A C H1 locs1 ls ⟨hP1, hD1, hS1⟩ hL
  · exact h.elim
