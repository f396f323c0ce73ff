/-! ===== steps with the text constants ===== -/
theorem dk_50 : ∀ k : Nat, dt_kd k = (50, 4) → ∃ i, i < 2 ∧ k = 86 + i := by
  intro k h
  by_cases q : k < 88
  · have key : ∀ k, k < 88 → dt_kd k = (50, 4) → 86 ≤ k := by decide +kernel
    exact ⟨k - 86, by omega, by have := key k q h; omega⟩
  · exfalso
    have h2 : dt_kd k = (99, 0) := by
      unfold dt_kd
      rw [List.getD_eq_getElem?_getD, List.getElem?_eq_none (show dt_lay.length ≤ k by show 88 ≤ k; omega)]
      rfl
    rw [h2] at h
    cases h
theorem js_of {ad : Nat → Nat} {A : Nat → Prop} {s : State} {H : Heap} {locs : List Loc} (h : dt_SF ad A s s.heap) (hS : va_S A s.heap H locs) : ∃ adV, (∀ av, PreS s H (va_Pc av (js_B ad adV)) av) ∧ vk_S 2 [4, 4] [[115, 101, 110, 100], [116, 97, 107, 101]] (fun i => ad (86 + i)) adV A s s.heap := by
  obtain ⟨⟨adV, h1⟩, h2, h3, -, -⟩ := h
  refine ⟨adV, fun av => ⟨js_blind, fun U hU hw => ⟨rfl, ?_⟩⟩, h1⟩
  unfold js_B
  rw [hU]
  exact ⟨((h1.kept hS.2.1).narrow (fun _ z => z.elim)).moved hw.alike, ((h2.kept hS.2.1).narrow (fun _ z => z.elim)).moved hw.alike, ((h3.kept hS.2.1).narrow (fun _ z => z.elim)).moved hw.alike⟩
theorem js_W {D : va_G} {ad : Nat → Nat} {cA : Nat → ClassId} {A : Nat → Prop} {s : State} {H H1 : Heap} {locs locs1 : List Loc} {M : dt_M} (h : dt_W D ad cA A s H locs M) (hk : ∀ q : Nat, q < H.size → ¬ js_0 q → H1[q]? = H[q]?) (hS : va_S A s.heap H1 locs1) : dt_W D ad cA A s H1 locs1 M :=
  ⟨fun k q hq => (h.1 k q hq).kept (hk q.1 (h.1 k q hq).lt (fun z => z)), h.2.1, hS⟩
def tc_ldS (k nx : Nat) : dt_T := fun _ _ K _ lv st M => K nx lv (.inr (.inr (50, 4, k)) :: st) M
theorem sn_ldS86 {y : dt_Y} {pc nx : Nat} (ho : y.1.cls = "DrawnTalks$Reader") (hd : decode y.2.1 pc = .ok (.ldc 72, 2)) (hl : nx = pc + 2) : dt_S y (tc_ldS 86 nx) pc := by
  intro d Q K hK lv st M h ok p l e R s m args below meth c cells slots Qf D ad cA A C H locs ls hW hL
  have := hK _ _ _ _ h ⟨ok.1, ds_c (show dt_kd 86 = (50, 4) by decide +kernel) ok.2.1, ok.2.2⟩ p l e R s m args below meth c cells slots Qf D ad cA A C H locs ls hW hL
  subst hl
  exact va_ldcS C.1 C.2.1 (own := "DrawnTalks$Reader") (tx := "send") (ho ▸ C.2.2.2.1) C.2.2.2.2.2.2.2.2.1.2.2.2.1 hd this
theorem sn_ldS87 {y : dt_Y} {pc nx : Nat} (ho : y.1.cls = "DrawnTalks$Reader") (hd : decode y.2.1 pc = .ok (.ldc 78, 2)) (hl : nx = pc + 2) : dt_S y (tc_ldS 87 nx) pc := by
  intro d Q K hK lv st M h ok p l e R s m args below meth c cells slots Qf D ad cA A C H locs ls hW hL
  have := hK _ _ _ _ h ⟨ok.1, ds_c (show dt_kd 87 = (50, 4) by decide +kernel) ok.2.1, ok.2.2⟩ p l e R s m args below meth c cells slots Qf D ad cA A C H locs ls hW hL
  subst hl
  exact va_ldcS C.1 C.2.1 (own := "DrawnTalks$Reader") (tx := "take") (ho ▸ C.2.2.2.1) C.2.2.2.2.2.2.2.2.1.2.2.2.2 hd this
def tc_slen (nx : Nat) : dt_T := fun d _ K _ lv st M => match d, st with
  | _ + 2, .inr (.inr (50, 4, _)) :: r => cond (Nat.ble (dt_sz r) 8) (K nx lv (.inl 4 :: r) M) False
  | _, _ => False
theorem sn_slen {y : dt_Y} {nx pc index : Nat} {own : String} (ho : y.1.cls = own) (hw1 : Cond.methodLink own index yJ0_length_8abf5 ∈ dt_W0) (hd : decode y.2.1 pc = .ok (.invokevirtual index, 3)) (hx9 : nx = pc + 3) : dt_S y (tc_slen nx) pc := by
  subst hx9
  intro d Q K hK lv st M h
  unfold tc_slen at h
  split at h
  · next d' k r =>
    obtain ⟨hb, h9⟩ := dt_cd h
    have hsz : dt_sz r ≤ 8 := Nat.ble_eq.mp hb
    intro ok p l e R s m args below meth c cells slots Qf D ad cA A C H locs ls hW hL
    obtain ⟨i, hi, rfl⟩ := dk_50 k (ds_h ok.2.1)
    obtain ⟨adV, hpre, hvk⟩ := js_of C.2.2.2.2.2.2.2.2.1 hW.2.2
    have room := C.2.2.2.2.2.2.2.1
    refine va_calli (va_runV (As := []) (rest := r.map (dt_cv ad)) (b := ad (86 + i)) (C := "java/lang/String") (n := 0) (index := index) (g := F0 m pc ls ((.inr (.inr (50, 4, 86 + i)) :: r).map (dt_cv ad))) ⟨C.1, C.2.1, C.2.2.1, (ho ▸ C.2.2.2.1 : s.vm.findClass own = some m.cls), C.2.2.2.2.1⟩ (js_len d' i ad adV hi l)
      (⟨callB_of 0 C.2.2.2.2.1 (dc_good nJ_len.1) rfl rfl rfl (C.2.2.2.2.1 _ nJ_len.2.1) (C.2.2.2.2.1 _ hw1) nJ_len.2.2.1 ⟨room.1, by have := room.2.1; show 8 + (1 + 11) + 39 * (d' + 1) ≤ R.locals; omega⟩, C.2.2.2.2.1 _ wq_2_43, C.2.2.2.2.1 _ wq_2_44⟩)
      ⟨(hpre _).1, vk_recv (adK := fun i => ad (86 + i)) hvk hi hW.2.2, (hpre _).2⟩ rfl rfl hL.1 rfl (by rw [dc_sz]; show 2 * 0 + dt_sz r ≤ 8; omega) hd ⟨room.2.2.1, room.2.2.2⟩) hW.2.2 (fun q _ z => z.elim) (fun q z => z.elim) (fun rv u t H1 locs1 ht hvm h5 hB1 hz1 hk1 hS1 => ?_)
    subst h5
    exact hK _ _ _ _ h9 ⟨ok.1, ds_c (show dt_r 4 from ⟨by decide, by decide⟩) (ds_t ok.2.1), ok.2.2⟩ p l e R s m args below meth c cells slots Qf D ad cA A C H1 locs1 ls (js_W hW hk1 hS1) hL
  · exact h.elim
/-- the char j of the text k -/
def st_c (k j : Nat) : Int := (js_by (k - 86) j).toInt
def tc_sat (nx : Nat) : dt_T := fun d _ K _ lv st M => match d, st with
  | _ + 4, .inl j :: .inr (.inr (50, 4, k)) :: r => (0 ≤ j ∧ j < 4) ∧ cond (Nat.ble (dt_sz r) 8) (K nx lv (.inl (st_c k j.toNat) :: r) M) False
  | _, _ => False
theorem st_of : ∀ j : Nat, Int32.ofInt (j : Int) = Int32.ofNat j := fun j => by
  rfl
theorem sn_sat {y : dt_Y} {nx pc index : Nat} {own : String} (ho : y.1.cls = own) (hw1 : Cond.methodLink own index yJ0_charAt_5068e ∈ dt_W0) (hd : decode y.2.1 pc = .ok (.invokevirtual index, 3)) (hx9 : nx = pc + 3) : dt_S y (tc_sat nx) pc := by
  subst hx9
  intro d Q K hK lv st M h
  unfold tc_sat at h
  split at h
  · next d' j k r =>
    obtain ⟨hj, h⟩ := h
    obtain ⟨hb, h9⟩ := dt_cd h
    have hsz : dt_sz r ≤ 8 := Nat.ble_eq.mp hb
    intro ok p l e R s m args below meth c cells slots Qf D ad cA A C H locs ls hW hL
    obtain ⟨i, hi, rfl⟩ := dk_50 k (ds_h (ds_t ok.2.1))
    obtain ⟨jn, rfl⟩ : ∃ n : Nat, j = (n : Int) := ⟨j.toNat, by omega⟩
    have hjn : jn < 4 := by omega
    obtain ⟨adV, hpre, hvk⟩ := js_of C.2.2.2.2.2.2.2.2.1 hW.2.2
    have room := C.2.2.2.2.2.2.2.1
    refine va_calli (va_runV (As := [.int (Int32.ofNat jn)]) (rest := r.map (dt_cv ad)) (b := ad (86 + i)) (C := "java/lang/String") (n := 1) (index := index) (g := F0 m pc ls ((.inl (jn : Int) :: .inr (.inr (50, 4, 86 + i)) :: r).map (dt_cv ad))) ⟨C.1, C.2.1, C.2.2.1, (ho ▸ C.2.2.2.1 : s.vm.findClass own = some m.cls), C.2.2.2.2.1⟩ (js_at d' i jn ad adV hi hjn l)
      (⟨callB_of 1 C.2.2.2.2.1 (dc_good nJ_at.1) rfl rfl rfl (C.2.2.2.2.1 _ nJ_at.2.1) (C.2.2.2.2.1 _ hw1) nJ_at.2.2.1 ⟨room.1, by have := room.2.1; show 8 + (2 + 11) + 39 * (d' + 3) ≤ R.locals; omega⟩, C.2.2.2.2.1 _ wq_2_53, C.2.2.2.2.1 _ wq_2_54⟩)
      ⟨(hpre _).1, vk_recv (adK := fun i => ad (86 + i)) hvk hi hW.2.2, (hpre _).2⟩ rfl rfl hL.1 rfl (by rw [dc_sz]; show 2 * 0 + dt_sz r ≤ 8; omega) hd ⟨room.2.2.1, room.2.2.2⟩) hW.2.2 (fun q _ z => z.elim) (fun q z => z.elim) (fun rv u t H1 locs1 ht hvm h5 hB1 hz1 hk1 hS1 => ?_)
    subst h5
    have hc : (Int32.ofInt (st_c (86 + i) jn)) = js_by i jn := by
      unfold st_c
      rw [Int32.ofInt_toInt, show 86 + i - 86 = i by omega]
    have := hK _ _ _ _ h9 ⟨ok.1, ds_c (show dt_r _ from dn_ri _) (ds_t (ds_t ok.2.1)), ok.2.2⟩ p l e R s m args below meth c cells slots Qf D ad cA A C H1 locs1 ls (js_W hW hk1 hS1) hL
    rw [show ((jn : Int).toNat) = jn by omega] at this
    simp only [List.map_cons, dt_cv, hc] at this
    exact this
  · exact h.elim
theorem st_send : st_c 86 0 = 115 ∧ st_c 86 1 = 101 ∧ st_c 86 2 = 110 ∧ st_c 86 3 = 100 := by decide +kernel
theorem st_take : st_c 87 0 = 116 ∧ st_c 87 1 = 97 ∧ st_c 87 2 = 107 ∧ st_c 87 3 = 101 := by decide +kernel
