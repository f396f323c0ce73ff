/-! ===== the constructor of DrawnTalks ===== -/
theorem ra_o {s : State} {C : String} {a b : ClassId} (h : va_RA s a (.object C)) (k : va_RA s b (.object C)) : a = b := by
  obtain ⟨_, _, _, _, _, h1⟩ := h
  obtain ⟨_, _, _, _, _, k1⟩ := k
  exact Option.some.inj (h1.symm.trans k1)
theorem cs_join {A0 : Nat → Prop} {D : va_G} {cl : List vw_C} {X w1 : va_W} {x : Nat × va_E} {H H1 : Heap} (hP : va_P D cl (X ++ [x]) H) (hD : va_D A0 (X ++ [x])) (hk : ∀ q : Nat, q < H.size → ¬ va_A [x] H.size q → H1[q]? = H[q]?) (hF : ∀ q, va_A [x] H.size q → A0 q) (hP1 : va_P D cl w1 H1) (hD1 : va_D (va_A [x] H.size) w1) : va_P D cl (X ++ w1) H1 ∧ va_D A0 (X ++ w1) := by
  have inX : ∀ (k : Nat) (q : Nat × va_E), X[k]? = some q → (X ++ [x])[k]? = some q ∧ k < X.length := fun k q h => by
    have hl := (List.getElem?_eq_some_iff.mp h).1
    exact ⟨by rw [List.getElem?_append_left hl]; exact h, hl⟩
  have atx : (X ++ [x])[X.length]? = some x := by rw [List.getElem?_append_right (Nat.le_refl _), Nat.sub_self]; rfl
  have apart : ∀ (k : Nat) (q : Nat × va_E), X[k]? = some q → q.1 < H.size ∧ ¬ va_A [x] H.size q.1 := by
    intro k q hq
    obtain ⟨h1, h2⟩ := inX k q hq
    have hl := (hP k q h1).lt
    refine ⟨hl, fun h => ?_⟩
    rcases h with ⟨k2, e, h⟩ | h
    · match k2, h with
      | 0, h =>
        have e1 : x = (q.1, e) := Option.some.inj h
        have := hD.1 k X.length q x h1 atx (by rw [e1])
        omega
      | k2 + 1, h => simp at h
    · omega
  refine ⟨va_P.app (fun k q hq => (hP k q (inX k q hq).1).kept (hk q.1 (apart k q hq).1 (apart k q hq).2)) hP1, va_D.app ⟨fun i j a b hi hj h => hD.1 i j a b (inX i a hi).1 (inX j b hj).1 h, fun k q hq => hD.2 k q (inX k q hq).1⟩ (hD1.weaken (fun k q _ h => hF q.1 h)) (fun i j a b hx hy hxy => (apart i a hx).2 (by rw [hxy]; exact hD1.2 j b hy))⟩
theorem cs_F {A0 : Nat → Prop} {X : va_W} {x : Nat × va_E} {H0 H : Heap} {locs : List Loc} (hD : va_D A0 (X ++ [x])) (hS : va_S A0 H0 H locs) (hA : ∀ q, H0.size ≤ q → A0 q) : ∀ q, va_A [x] H.size q → A0 q := by
  intro q h
  rcases h with ⟨k2, e, h⟩ | h
  · match k2, h with
    | 0, h =>
      have e1 : x = (q, e) := Option.some.inj h
      have := hD.2 X.length x (by rw [List.getElem?_append_right (Nat.le_refl _), Nat.sub_self]; rfl)
      rw [e1] at this
      exact this
    | k2 + 1, h => simp at h
  · exact hA q (Nat.le_trans hS.1 h)
theorem cs_pre {D : va_G} {cA : Nat → ClassId} {A0 : Nat → Prop} {X : va_W} {x : Nat × va_E} {s : State} {H : Heap} {av : List Value} (hP : va_P D vwCl (X ++ [x]) H) (hD : va_D A0 (X ++ [x])) (hK : va_K D vwCl (dt_tys cA) s) : PreS s H (va_Pc av (cs_P D cA x H.size)) av := by
  have atx : (X ++ [x])[X.length]? = some x := by rw [List.getElem?_append_right (Nat.le_refl _), Nat.sub_self]; rfl
  have one : ∀ (k : Nat) (q : Nat × va_E), [x][k]? = some q → k = 0 ∧ q = x := fun k q h => by
    match k, h with
    | 0, h => exact ⟨rfl, (Option.some.inj h).symm⟩
    | k + 1, h => simp at h
  refine ⟨cs_blind, fun U hU hW => ⟨rfl, by rw [hU], ?_, va_K.moved hW.alike hK, ?_⟩⟩
  · rw [hU]
    intro k q hq
    obtain ⟨-, rfl⟩ := one k q hq
    exact hP _ _ atx
  · exact ⟨fun i j a b hi hj _ => by rw [(one i a hi).1, (one j b hj).1], fun _ _ _ => trivial⟩
section CB
variable {p : Program} {l : Launch} {e : Env} {R : Room} {s : State} {m : MethodId} {args : Array Value} {below : List Frame} {meth : Method} {c : Code} {H : Heap} {locs : List Loc} {cells slots : Nat} {Q : State → Prop}
variable {pc : Nat} {ls : Array Slot} {D : va_G} {A : Nat → Prop} {H0 : Heap} {X : va_W} {x : Nat × va_E} {rest st0 : List Value} {mc ms : Nat} {a : Array Value} {U : (Nat → Nat) → va_W} {q : Nat}
theorem cs_back (hrun : va_Run p l e R s m args below meth c H locs cells slots mc ms (F0 m pc ls st0) rest (va_Qv (S := Nat → Nat) (fun v => v 0 = q) (fun v t => va_P D vwCl (U v) t.heap ∧ va_D (va_A [x] H.size) (U v)) (va_A [x] H.size) a) (va_A [x] H.size)) (hP : va_P D vwCl (X ++ [x]) H) (hD : va_D A (X ++ [x])) (hS : va_S A H0 H locs) (hA : ∀ q, H0.size ≤ q → A q)
    (kk : ∀ (v : Nat → Nat) (H1 : Heap) (locs1 : List Loc), v 0 = q → va_P D vwCl (X ++ U v) H1 → va_D A (X ++ U v) → va_S A H0 H1 locs1 → W p l e R s m args below meth c H1 locs1 (cells + mc) (slots + ms) Q (F0 m (pc + 3) ls rest)) : W p l e R s m args below meth c H locs cells slots Q (F0 m pc ls st0) := by
  have hF := cs_F hD hS hA
  refine va_callv hrun hS (fun q _ h => hF q h) hF (fun v t H1 locs1 ht hvm h5 hB hz1 hk1 hS1 => ?_)
  obtain ⟨hP1, hD1⟩ := hB
  rw [ht] at hP1
  obtain ⟨hP2, hD2⟩ := cs_join hP hD hk1 hF hP1 hD1
  exact kk v H1 locs1 h5 hP2 hD2 hS1
end CB

theorem dX6_init_0 : decode cX6_init 0 = .ok (.aload_n 0, 1) := by decide +kernel
theorem dX6_init_1 : decode cX6_init 1 = .ok (.invokespecial 3, 3) := by decide +kernel
theorem dX6_init_4 : decode cX6_init 4 = .ok (.aload_n 0, 1) := by decide +kernel
theorem dX6_init_5 : decode cX6_init 5 = .ok (.iconst 4, 1) := by decide +kernel
theorem dX6_init_6 : decode cX6_init 6 = .ok (.anewarray 9, 3) := by decide +kernel
theorem dX6_init_9 : decode cX6_init 9 = .ok (.putfield 11, 3) := by decide +kernel
theorem dX6_init_12 : decode cX6_init 12 = .ok (.iconst 0, 1) := by decide +kernel
theorem dX6_init_13 : decode cX6_init 13 = .ok (.istore_n 1, 1) := by decide +kernel
theorem dX6_init_14 : decode cX6_init 14 = .ok (.iload_n 1, 1) := by decide +kernel
theorem dX6_init_15 : decode cX6_init 15 = .ok (.iconst 4, 1) := by decide +kernel
theorem dX6_init_16 : decode cX6_init 16 = .ok (.if_icmp .ge 22, 3) := by decide +kernel
theorem dX6_init_19 : decode cX6_init 19 = .ok (.aload_n 0, 1) := by decide +kernel
theorem dX6_init_20 : decode cX6_init 20 = .ok (.getfield 11, 3) := by decide +kernel
theorem dX6_init_23 : decode cX6_init 23 = .ok (.iload_n 1, 1) := by decide +kernel
theorem dX6_init_24 : decode cX6_init 24 = .ok (.new 9, 3) := by decide +kernel
theorem dX6_init_27 : decode cX6_init 27 = .ok (.dup, 1) := by decide +kernel
theorem dX6_init_28 : decode cX6_init 28 = .ok (.invokespecial 15, 3) := by decide +kernel
theorem dX6_init_31 : decode cX6_init 31 = .ok (.aastore, 1) := by decide +kernel
theorem dX6_init_32 : decode cX6_init 32 = .ok (.iinc 1 1, 3) := by decide +kernel
theorem dX6_init_35 : decode cX6_init 35 = .ok (.goto (-21), 3) := by decide +kernel
theorem dX6_init_38 : decode cX6_init 38 = .ok (.aload_n 0, 1) := by decide +kernel
theorem dX6_init_39 : decode cX6_init 39 = .ok (.new 9, 3) := by decide +kernel
theorem dX6_init_42 : decode cX6_init 42 = .ok (.dup, 1) := by decide +kernel
theorem dX6_init_43 : decode cX6_init 43 = .ok (.invokespecial 15, 3) := by decide +kernel
theorem dX6_init_46 : decode cX6_init 46 = .ok (.putfield 16, 3) := by decide +kernel
theorem dX6_init_49 : decode cX6_init 49 = .ok (.aload_n 0, 1) := by decide +kernel
theorem dX6_init_50 : decode cX6_init 50 = .ok (.new 20, 3) := by decide +kernel
theorem dX6_init_53 : decode cX6_init 53 = .ok (.dup, 1) := by decide +kernel
theorem dX6_init_54 : decode cX6_init 54 = .ok (.invokespecial 22, 3) := by decide +kernel
theorem dX6_init_57 : decode cX6_init 57 = .ok (.putfield 23, 3) := by decide +kernel
theorem dX6_init_60 : decode cX6_init 60 = .ok (.aload_n 0, 1) := by decide +kernel
theorem dX6_init_61 : decode cX6_init 61 = .ok (.new 27, 3) := by decide +kernel
theorem dX6_init_64 : decode cX6_init 64 = .ok (.dup, 1) := by decide +kernel
theorem dX6_init_65 : decode cX6_init 65 = .ok (.invokespecial 29, 3) := by decide +kernel
theorem dX6_init_68 : decode cX6_init 68 = .ok (.putfield 30, 3) := by decide +kernel
theorem dX6_init_71 : decode cX6_init 71 = .ok (.aload_n 0, 1) := by decide +kernel
theorem dX6_init_72 : decode cX6_init 72 = .ok (.new 34, 3) := by decide +kernel
theorem dX6_init_75 : decode cX6_init 75 = .ok (.dup, 1) := by decide +kernel
theorem dX6_init_76 : decode cX6_init 76 = .ok (.invokespecial 36, 3) := by decide +kernel
theorem dX6_init_79 : decode cX6_init 79 = .ok (.putfield 37, 3) := by decide +kernel
theorem dX6_init_82 : decode cX6_init 82 = .ok (.aload_n 0, 1) := by decide +kernel
theorem dX6_init_83 : decode cX6_init 83 = .ok (.new 41, 3) := by decide +kernel
theorem dX6_init_86 : decode cX6_init 86 = .ok (.dup, 1) := by decide +kernel
theorem dX6_init_87 : decode cX6_init 87 = .ok (.aload_n 0, 1) := by decide +kernel
theorem dX6_init_88 : decode cX6_init 88 = .ok (.getfield 11, 3) := by decide +kernel
theorem dX6_init_91 : decode cX6_init 91 = .ok (.invokespecial 43, 3) := by decide +kernel
theorem dX6_init_94 : decode cX6_init 94 = .ok (.putfield 46, 3) := by decide +kernel
theorem dX6_init_97 : decode cX6_init 97 = .ok (.aload_n 0, 1) := by decide +kernel
theorem dX6_init_98 : decode cX6_init 98 = .ok (.new 50, 3) := by decide +kernel
theorem dX6_init_101 : decode cX6_init 101 = .ok (.dup, 1) := by decide +kernel
theorem dX6_init_102 : decode cX6_init 102 = .ok (.aload_n 0, 1) := by decide +kernel
theorem dX6_init_103 : decode cX6_init 103 = .ok (.getfield 11, 3) := by decide +kernel
theorem dX6_init_106 : decode cX6_init 106 = .ok (.aload_n 0, 1) := by decide +kernel
theorem dX6_init_107 : decode cX6_init 107 = .ok (.getfield 46, 3) := by decide +kernel
theorem dX6_init_110 : decode cX6_init 110 = .ok (.invokespecial 52, 3) := by decide +kernel
theorem dX6_init_113 : decode cX6_init 113 = .ok (.putfield 55, 3) := by decide +kernel
theorem dX6_init_116 : decode cX6_init 116 = .ok (.return_, 1) := by decide +kernel
abbrev fX6_0 : List Value := [.null, .null, .null, .null, .null, .null, .null]
def wX6 (cA : Nat → ClassId) (f : Nat → Option Nat) (ad : Nat → Nat) : va_W := (ad 0, .inr (6, [.ref (ad 1), .ref (ad 34), .ref (ad 42), .ref (ad 44), .ref (ad 46), .ref (ad 53), .ref (ad 60)])) :: (ad 1, .inl (cA 3, 4, .inr (.inr (.inr (.inr f))))) :: (uX5 cA (fun j => ad (2 + j)) ++ uX5 cA (fun j => ad (10 + j)) ++ uX5 cA (fun j => ad (18 + j)) ++ uX5 cA (fun j => ad (26 + j)) ++ uX5 cA (fun j => ad (34 + j)) ++ uX3 cA (fun j => ad (42 + j)) ++ uX4 cA (fun j => ad (44 + j)) ++ uX0 cA (fun j => ad (46 + j)) ++ uX2 cA (ad 1) (fun j => ad (53 + j)) ++ uX1 cA (ad 1) (ad 53) (fun j => ad (60 + j)))
set_option maxHeartbeats 8000000 in
theorem iX6 (l : Launch) (D : va_G) (cA : Nat → ClassId) (h0 sz d : Nat) : Met l yX6_init (Cond.code yX6_init cX6_init 2 none :: dt_W0) (cs_rm (d + 3) 61 5292) (va_Pc [Value.ref h0] (fun U => cs_P D cA (h0, .inr (6, fX6_0)) sz U ∧ (∀ w ∈ dt_NW, va_Nw w U) ∧ va_AO "DrawnTalks$Talk" U)) (va_Qv (S := Nat → Nat) (fun ad => ad 0 = h0) (fun ad t => ∃ f : Nat → Option Nat, (∀ j, j < 4 → f j = some (ad (2 + 8 * j))) ∧ va_P D vwCl (wX6 cA f ad) t.heap ∧ va_D (va_A [(h0, .inr (6, fX6_0))] sz) (wX6 cA f ad)) (va_A [(h0, .inr (6, fX6_0))] sz)) 61 5292 (va_A [(h0, .inr (6, fX6_0))] sz) := by
  refine Met.ofW (cc := cX6_init) (maxL := 2) (ret := none) (by decide) rfl ?_
  intro p e s m args below meth c s₁ B hml hv
  obtain ⟨rfl, ⟨hsz, hP, hK, hD0⟩, hN, hO⟩ := hv
  have hx := B.exec
  have hb := B.bytes
  have hr := B.returns
  have hts0 := atoms_spec B.pre
  have hts : ∀ w ∈ dt_W0, w.before _ s = true := fun w hw => hts0 w (List.mem_cons_of_mem _ hw)
  have hown : s.vm.findClass RX6 = some m.cls := findClass_of_methodNamed B.named
  have hlocks := B.notSynchronized
  have hin : meth.name = "<init>" := (name_of_methodNamed B.named B.method).1
  subst hsz
  have hD := hD0.self (sz := s.heap.size)
  generalize hAe : va_A [(h0, .inr (6, fX6_0))] s.heap.size = A at hD ⊢
  have hA : ∀ q : Nat, s.heap.size ≤ q → A q := fun q h => by rw [← hAe]; exact Or.inr h
  have hS : va_S A s.heap s.heap [] := va_S.rf
  have hl := lv_entry ([Value.ref h0]) (n := 2) (Nat.le_of_ble_eq_true rfl)
  rw [lg_entry_eq]
  generalize (lg_sl ([Value.ref h0]) ++ List.replicate (2 - (lg_sl ([Value.ref h0])).length) Slot.unset).toArray = ls at hl ⊢
  have hl : lv_has ls 2 [(0, .ref h0)] := hl
  refine lv_aload_n hx hb dX6_init_0 rfl (lv_at hl 0 rfl) ?_
  refine W.objInit hx hb hown (hts _ wq_1_19) (hts _ wq_1_20) (hts _ wq_1_21) rfl (by rw [hml]; exact hl.1) rfl dX6_init_1 (by show 1 ≤ d + 3; omega) (by show 2 * 0 + 0 + 12 ≤ 39 * (d + 3); omega) ?_
  refine W.eq (g2 := F0 m 4 ls []) rfl ?_
  refine lv_aload_n hx hb dX6_init_4 rfl (lv_at hl 0 rfl) ?_
  refine lv_iconst (v := 4) hx hb dX6_init_5 (by decide) ?_
  refine va_newq (N' := 4) hx hb hown (hts _ wq_1_22) hO hK hP hD hS hA (by decide) (by decide) (Nat.le_of_ble_eq_true rfl) (Nat.le_of_ble_eq_true rfl) (Nat.le_of_ble_eq_true rfl) dX6_init_6 (fun qT c' H hK' hP hD hS => ?_)
  have ec : c' = cA 3 := ra_o (hK'.2 4 (c', .object "DrawnTalks$Talk") rfl).2 (hK.2 3 (cA 3, .object "DrawnTalks$Talk") rfl).2
  subst ec
  clear hK'
  refine cs_pf (tf := .array (.object "DrawnTalks$Talk")) hx hb hts ffX6 hown hK hP hD hS hin 0 (by decide) wq_1_217 rfl rfl rfl (by decide +kernel) (fun _ => rfl) (fun _ => rfl) (Nat.le_of_ble_eq_true rfl) dX6_init_9 (fun H locs hP hD hS => ?_)
  have hP : va_P D vwCl ((h0, .inr (6, [.ref qT, .null, .null, .null, .null, .null, .null])) :: (qT, .inl (cA 3, 4, .inr (.inr (.inr (.inr (fun _ => none)))))) :: []) H := hP
  have hD : va_D A ((h0, .inr (6, [.ref qT, .null, .null, .null, .null, .null, .null])) :: (qT, .inl (cA 3, 4, .inr (.inr (.inr (.inr (fun _ => none)))))) :: []) := hD
  refine lv_iconst (v := 0) hx hb dX6_init_12 (by decide) ?_
  refine lv_istore_n (lv' := [(1, .int 0), (0, .ref h0)]) hx hb dX6_init_13 rfl hl (by decide) rfl (fun ls hl => ?_)
  refine lv_iload_n hx hb dX6_init_14 rfl (lv_at hl 0 rfl) ?_
  refine lv_iconst (v := 4) hx hb dX6_init_15 (by decide) ?_
  refine lv_icmp_ge (tgt := 38) hx hb dX6_init_16 (by decide) (fun q => absurd q (by decide)) (fun _ => ?_)
  refine lv_aload_n hx hb dX6_init_19 rfl (lv_at hl 1 rfl) ?_
  refine va_get (D := D) (ci := 6) (v := .ref qT) (C := RX6) (T := TX6) (N := 7) hx hb hts fwX6 hown hK hP 0 rfl rfl 0 (by decide) (hts _ wq_1_217) (fun _ h9 => h9) rfl dX6_init_20 ?_
  refine lv_iload_n hx hb dX6_init_23 rfl (lv_at hl 0 rfl) ?_
  refine va_new (ci := 5) (fs := fX5_0) (C := RX5) (T := TX5) (N := 9) hx hb hts fwX5 tyX5 tyX5_ok hown (hts _ wq_1_22) (hts _ wq_1_24) (hts _ wq_1_2) hK hP hD hS hA rfl (fun j hj => by
    match j, hj with
    | 0, _ => rfl
    | 1, _ => rfl
    | 2, _ => rfl
    | 3, _ => rfl
    | 4, _ => rfl
    | 5, _ => rfl
    | 6, _ => rfl
    | 7, _ => rfl
    | 8, _ => rfl
    | j + 9, h => exact absurd h (by omega)) (Nat.le_of_ble_eq_true rfl) (Nat.le_of_ble_eq_true rfl) dX6_init_24 (fun v0q H hP hD hS => ?_)
  refine lv_dup hx hb dX6_init_27 rfl ?_
  refine cs_back (U := uX5 cA) (q := v0q) (va_runIN (host := "DrawnTalks") (As := []) (rest := [.ref v0q, .int 0, .ref qT]) (n := 0) (index := 15) ⟨hx, hb, hml, hown, hts⟩ (iX5 l D cA v0q H.size d) ⟨va_cnB 0 hts (dc_good (y := (yX5_init, cX5_init, 1, none)) wq_1_27) rfl rfl rfl (hN _ wq_1_25) (hts _ wq_1_2) ⟨by decide +kernel, by decide +kernel, by decide +kernel⟩ ⟨by show d + 1 + 1 ≤ d + 3; omega, by show 8 + (1 + 11) + 39 * (d + 1) ≤ 39 * (d + 3); omega⟩, rfl, hts _ wq_1_26⟩ (cs_pre hP hD hK) rfl rfl hl.1 rfl (Nat.le_of_ble_eq_true rfl) dX6_init_28 ⟨Nat.le_of_ble_eq_true rfl, Nat.le_of_ble_eq_true rfl⟩) hP hD hS hA (fun v0 H locs v0e hP hD hS => ?_)
  have hP : va_P D vwCl ((h0, .inr (6, [.ref qT, .null, .null, .null, .null, .null, .null])) :: (qT, .inl (cA 3, 4, .inr (.inr (.inr (.inr (fun _ => none)))))) :: (uX5 cA v0)) H := hP
  have hD : va_D A ((h0, .inr (6, [.ref qT, .null, .null, .null, .null, .null, .null])) :: (qT, .inl (cA 3, 4, .inr (.inr (.inr (.inr (fun _ => none)))))) :: (uX5 cA v0)) := hD
  rw [← v0e] at *
  refine va_astq (r := (RX5, TX5, 9)) (v := v0 0) hx hb hK hP hD hS 1 3 2 5 rfl rfl rfl rfl (by unfold vp_in; decide) dX6_init_31 (fun H locs hP hD hS => ?_)
  have hP : va_P D vwCl ((h0, .inr (6, [.ref qT, .null, .null, .null, .null, .null, .null])) :: (qT, .inl (cA 3, 4, .inr (.inr (.inr (.inr (va_up (fun _ => none) 0 (some (v0 0)))))))) :: (uX5 cA v0)) H := hP
  have hD : va_D A ((h0, .inr (6, [.ref qT, .null, .null, .null, .null, .null, .null])) :: (qT, .inl (cA 3, 4, .inr (.inr (.inr (.inr (va_up (fun _ => none) 0 (some (v0 0)))))))) :: (uX5 cA v0)) := hD
  refine lv_iinc (lv' := [(1, .int 1), (0, .ref h0)]) (k := 0) (v := 1) hx hb dX6_init_32 hl rfl (by decide) (by decide) rfl (fun ls hl => ?_)
  refine lv_goto (tgt := 14) hx hb dX6_init_35 (by decide) ?_
  refine lv_iload_n hx hb dX6_init_14 rfl (lv_at hl 0 rfl) ?_
  refine lv_iconst (v := 4) hx hb dX6_init_15 (by decide) ?_
  refine lv_icmp_ge (tgt := 38) hx hb dX6_init_16 (by decide) (fun q => absurd q (by decide)) (fun _ => ?_)
  refine lv_aload_n hx hb dX6_init_19 rfl (lv_at hl 1 rfl) ?_
  refine va_get (D := D) (ci := 6) (v := .ref qT) (C := RX6) (T := TX6) (N := 7) hx hb hts fwX6 hown hK hP 0 rfl rfl 0 (by decide) (hts _ wq_1_217) (fun _ h9 => h9) rfl dX6_init_20 ?_
  refine lv_iload_n hx hb dX6_init_23 rfl (lv_at hl 0 rfl) ?_
  refine va_new (ci := 5) (fs := fX5_0) (C := RX5) (T := TX5) (N := 9) hx hb hts fwX5 tyX5 tyX5_ok hown (hts _ wq_1_22) (hts _ wq_1_24) (hts _ wq_1_2) hK hP hD hS hA rfl (fun j hj => by
    match j, hj with
    | 0, _ => rfl
    | 1, _ => rfl
    | 2, _ => rfl
    | 3, _ => rfl
    | 4, _ => rfl
    | 5, _ => rfl
    | 6, _ => rfl
    | 7, _ => rfl
    | 8, _ => rfl
    | j + 9, h => exact absurd h (by omega)) (Nat.le_of_ble_eq_true rfl) (Nat.le_of_ble_eq_true rfl) dX6_init_24 (fun v1q H hP hD hS => ?_)
  refine lv_dup hx hb dX6_init_27 rfl ?_
  refine cs_back (U := uX5 cA) (q := v1q) (va_runIN (host := "DrawnTalks") (As := []) (rest := [.ref v1q, .int 1, .ref qT]) (n := 0) (index := 15) ⟨hx, hb, hml, hown, hts⟩ (iX5 l D cA v1q H.size d) ⟨va_cnB 0 hts (dc_good (y := (yX5_init, cX5_init, 1, none)) wq_1_27) rfl rfl rfl (hN _ wq_1_25) (hts _ wq_1_2) ⟨by decide +kernel, by decide +kernel, by decide +kernel⟩ ⟨by show d + 1 + 1 ≤ d + 3; omega, by show 8 + (1 + 11) + 39 * (d + 1) ≤ 39 * (d + 3); omega⟩, rfl, hts _ wq_1_26⟩ (cs_pre hP hD hK) rfl rfl hl.1 rfl (Nat.le_of_ble_eq_true rfl) dX6_init_28 ⟨Nat.le_of_ble_eq_true rfl, Nat.le_of_ble_eq_true rfl⟩) hP hD hS hA (fun v1 H locs v1e hP hD hS => ?_)
  have hP : va_P D vwCl ((h0, .inr (6, [.ref qT, .null, .null, .null, .null, .null, .null])) :: (qT, .inl (cA 3, 4, .inr (.inr (.inr (.inr (va_up (fun _ => none) 0 (some (v0 0)))))))) :: (uX5 cA v0 ++ uX5 cA v1)) H := hP
  have hD : va_D A ((h0, .inr (6, [.ref qT, .null, .null, .null, .null, .null, .null])) :: (qT, .inl (cA 3, 4, .inr (.inr (.inr (.inr (va_up (fun _ => none) 0 (some (v0 0)))))))) :: (uX5 cA v0 ++ uX5 cA v1)) := hD
  rw [← v1e] at *
  refine va_astq (r := (RX5, TX5, 9)) (v := v1 0) hx hb hK hP hD hS 1 3 10 5 rfl rfl rfl rfl (by unfold vp_in; decide) dX6_init_31 (fun H locs hP hD hS => ?_)
  have hP : va_P D vwCl ((h0, .inr (6, [.ref qT, .null, .null, .null, .null, .null, .null])) :: (qT, .inl (cA 3, 4, .inr (.inr (.inr (.inr (va_up (va_up (fun _ => none) 0 (some (v0 0))) 1 (some (v1 0)))))))) :: (uX5 cA v0 ++ uX5 cA v1)) H := hP
  have hD : va_D A ((h0, .inr (6, [.ref qT, .null, .null, .null, .null, .null, .null])) :: (qT, .inl (cA 3, 4, .inr (.inr (.inr (.inr (va_up (va_up (fun _ => none) 0 (some (v0 0))) 1 (some (v1 0)))))))) :: (uX5 cA v0 ++ uX5 cA v1)) := hD
  refine lv_iinc (lv' := [(1, .int 2), (0, .ref h0)]) (k := 0) (v := 2) hx hb dX6_init_32 hl rfl (by decide) (by decide) rfl (fun ls hl => ?_)
  refine lv_goto (tgt := 14) hx hb dX6_init_35 (by decide) ?_
  refine lv_iload_n hx hb dX6_init_14 rfl (lv_at hl 0 rfl) ?_
  refine lv_iconst (v := 4) hx hb dX6_init_15 (by decide) ?_
  refine lv_icmp_ge (tgt := 38) hx hb dX6_init_16 (by decide) (fun q => absurd q (by decide)) (fun _ => ?_)
  refine lv_aload_n hx hb dX6_init_19 rfl (lv_at hl 1 rfl) ?_
  refine va_get (D := D) (ci := 6) (v := .ref qT) (C := RX6) (T := TX6) (N := 7) hx hb hts fwX6 hown hK hP 0 rfl rfl 0 (by decide) (hts _ wq_1_217) (fun _ h9 => h9) rfl dX6_init_20 ?_
  refine lv_iload_n hx hb dX6_init_23 rfl (lv_at hl 0 rfl) ?_
  refine va_new (ci := 5) (fs := fX5_0) (C := RX5) (T := TX5) (N := 9) hx hb hts fwX5 tyX5 tyX5_ok hown (hts _ wq_1_22) (hts _ wq_1_24) (hts _ wq_1_2) hK hP hD hS hA rfl (fun j hj => by
    match j, hj with
    | 0, _ => rfl
    | 1, _ => rfl
    | 2, _ => rfl
    | 3, _ => rfl
    | 4, _ => rfl
    | 5, _ => rfl
    | 6, _ => rfl
    | 7, _ => rfl
    | 8, _ => rfl
    | j + 9, h => exact absurd h (by omega)) (Nat.le_of_ble_eq_true rfl) (Nat.le_of_ble_eq_true rfl) dX6_init_24 (fun v2q H hP hD hS => ?_)
  refine lv_dup hx hb dX6_init_27 rfl ?_
  refine cs_back (U := uX5 cA) (q := v2q) (va_runIN (host := "DrawnTalks") (As := []) (rest := [.ref v2q, .int 2, .ref qT]) (n := 0) (index := 15) ⟨hx, hb, hml, hown, hts⟩ (iX5 l D cA v2q H.size d) ⟨va_cnB 0 hts (dc_good (y := (yX5_init, cX5_init, 1, none)) wq_1_27) rfl rfl rfl (hN _ wq_1_25) (hts _ wq_1_2) ⟨by decide +kernel, by decide +kernel, by decide +kernel⟩ ⟨by show d + 1 + 1 ≤ d + 3; omega, by show 8 + (1 + 11) + 39 * (d + 1) ≤ 39 * (d + 3); omega⟩, rfl, hts _ wq_1_26⟩ (cs_pre hP hD hK) rfl rfl hl.1 rfl (Nat.le_of_ble_eq_true rfl) dX6_init_28 ⟨Nat.le_of_ble_eq_true rfl, Nat.le_of_ble_eq_true rfl⟩) hP hD hS hA (fun v2 H locs v2e hP hD hS => ?_)
  have hP : va_P D vwCl ((h0, .inr (6, [.ref qT, .null, .null, .null, .null, .null, .null])) :: (qT, .inl (cA 3, 4, .inr (.inr (.inr (.inr (va_up (va_up (fun _ => none) 0 (some (v0 0))) 1 (some (v1 0)))))))) :: (uX5 cA v0 ++ uX5 cA v1 ++ uX5 cA v2)) H := hP
  have hD : va_D A ((h0, .inr (6, [.ref qT, .null, .null, .null, .null, .null, .null])) :: (qT, .inl (cA 3, 4, .inr (.inr (.inr (.inr (va_up (va_up (fun _ => none) 0 (some (v0 0))) 1 (some (v1 0)))))))) :: (uX5 cA v0 ++ uX5 cA v1 ++ uX5 cA v2)) := hD
  rw [← v2e] at *
  refine va_astq (r := (RX5, TX5, 9)) (v := v2 0) hx hb hK hP hD hS 1 3 18 5 rfl rfl rfl rfl (by unfold vp_in; decide) dX6_init_31 (fun H locs hP hD hS => ?_)
  have hP : va_P D vwCl ((h0, .inr (6, [.ref qT, .null, .null, .null, .null, .null, .null])) :: (qT, .inl (cA 3, 4, .inr (.inr (.inr (.inr (va_up (va_up (va_up (fun _ => none) 0 (some (v0 0))) 1 (some (v1 0))) 2 (some (v2 0)))))))) :: (uX5 cA v0 ++ uX5 cA v1 ++ uX5 cA v2)) H := hP
  have hD : va_D A ((h0, .inr (6, [.ref qT, .null, .null, .null, .null, .null, .null])) :: (qT, .inl (cA 3, 4, .inr (.inr (.inr (.inr (va_up (va_up (va_up (fun _ => none) 0 (some (v0 0))) 1 (some (v1 0))) 2 (some (v2 0)))))))) :: (uX5 cA v0 ++ uX5 cA v1 ++ uX5 cA v2)) := hD
  refine lv_iinc (lv' := [(1, .int 3), (0, .ref h0)]) (k := 0) (v := 3) hx hb dX6_init_32 hl rfl (by decide) (by decide) rfl (fun ls hl => ?_)
  refine lv_goto (tgt := 14) hx hb dX6_init_35 (by decide) ?_
  refine lv_iload_n hx hb dX6_init_14 rfl (lv_at hl 0 rfl) ?_
  refine lv_iconst (v := 4) hx hb dX6_init_15 (by decide) ?_
  refine lv_icmp_ge (tgt := 38) hx hb dX6_init_16 (by decide) (fun q => absurd q (by decide)) (fun _ => ?_)
  refine lv_aload_n hx hb dX6_init_19 rfl (lv_at hl 1 rfl) ?_
  refine va_get (D := D) (ci := 6) (v := .ref qT) (C := RX6) (T := TX6) (N := 7) hx hb hts fwX6 hown hK hP 0 rfl rfl 0 (by decide) (hts _ wq_1_217) (fun _ h9 => h9) rfl dX6_init_20 ?_
  refine lv_iload_n hx hb dX6_init_23 rfl (lv_at hl 0 rfl) ?_
  refine va_new (ci := 5) (fs := fX5_0) (C := RX5) (T := TX5) (N := 9) hx hb hts fwX5 tyX5 tyX5_ok hown (hts _ wq_1_22) (hts _ wq_1_24) (hts _ wq_1_2) hK hP hD hS hA rfl (fun j hj => by
    match j, hj with
    | 0, _ => rfl
    | 1, _ => rfl
    | 2, _ => rfl
    | 3, _ => rfl
    | 4, _ => rfl
    | 5, _ => rfl
    | 6, _ => rfl
    | 7, _ => rfl
    | 8, _ => rfl
    | j + 9, h => exact absurd h (by omega)) (Nat.le_of_ble_eq_true rfl) (Nat.le_of_ble_eq_true rfl) dX6_init_24 (fun v3q H hP hD hS => ?_)
  refine lv_dup hx hb dX6_init_27 rfl ?_
  refine cs_back (U := uX5 cA) (q := v3q) (va_runIN (host := "DrawnTalks") (As := []) (rest := [.ref v3q, .int 3, .ref qT]) (n := 0) (index := 15) ⟨hx, hb, hml, hown, hts⟩ (iX5 l D cA v3q H.size d) ⟨va_cnB 0 hts (dc_good (y := (yX5_init, cX5_init, 1, none)) wq_1_27) rfl rfl rfl (hN _ wq_1_25) (hts _ wq_1_2) ⟨by decide +kernel, by decide +kernel, by decide +kernel⟩ ⟨by show d + 1 + 1 ≤ d + 3; omega, by show 8 + (1 + 11) + 39 * (d + 1) ≤ 39 * (d + 3); omega⟩, rfl, hts _ wq_1_26⟩ (cs_pre hP hD hK) rfl rfl hl.1 rfl (Nat.le_of_ble_eq_true rfl) dX6_init_28 ⟨Nat.le_of_ble_eq_true rfl, Nat.le_of_ble_eq_true rfl⟩) hP hD hS hA (fun v3 H locs v3e hP hD hS => ?_)
  have hP : va_P D vwCl ((h0, .inr (6, [.ref qT, .null, .null, .null, .null, .null, .null])) :: (qT, .inl (cA 3, 4, .inr (.inr (.inr (.inr (va_up (va_up (va_up (fun _ => none) 0 (some (v0 0))) 1 (some (v1 0))) 2 (some (v2 0)))))))) :: (uX5 cA v0 ++ uX5 cA v1 ++ uX5 cA v2 ++ uX5 cA v3)) H := hP
  have hD : va_D A ((h0, .inr (6, [.ref qT, .null, .null, .null, .null, .null, .null])) :: (qT, .inl (cA 3, 4, .inr (.inr (.inr (.inr (va_up (va_up (va_up (fun _ => none) 0 (some (v0 0))) 1 (some (v1 0))) 2 (some (v2 0)))))))) :: (uX5 cA v0 ++ uX5 cA v1 ++ uX5 cA v2 ++ uX5 cA v3)) := hD
  rw [← v3e] at *
  refine va_astq (r := (RX5, TX5, 9)) (v := v3 0) hx hb hK hP hD hS 1 3 26 5 rfl rfl rfl rfl (by unfold vp_in; decide) dX6_init_31 (fun H locs hP hD hS => ?_)
  have hP : va_P D vwCl ((h0, .inr (6, [.ref qT, .null, .null, .null, .null, .null, .null])) :: (qT, .inl (cA 3, 4, .inr (.inr (.inr (.inr (va_up (va_up (va_up (va_up (fun _ => none) 0 (some (v0 0))) 1 (some (v1 0))) 2 (some (v2 0))) 3 (some (v3 0)))))))) :: (uX5 cA v0 ++ uX5 cA v1 ++ uX5 cA v2 ++ uX5 cA v3)) H := hP
  have hD : va_D A ((h0, .inr (6, [.ref qT, .null, .null, .null, .null, .null, .null])) :: (qT, .inl (cA 3, 4, .inr (.inr (.inr (.inr (va_up (va_up (va_up (va_up (fun _ => none) 0 (some (v0 0))) 1 (some (v1 0))) 2 (some (v2 0))) 3 (some (v3 0)))))))) :: (uX5 cA v0 ++ uX5 cA v1 ++ uX5 cA v2 ++ uX5 cA v3)) := hD
  refine lv_iinc (lv' := [(1, .int 4), (0, .ref h0)]) (k := 0) (v := 4) hx hb dX6_init_32 hl rfl (by decide) (by decide) rfl (fun ls hl => ?_)
  refine lv_goto (tgt := 14) hx hb dX6_init_35 (by decide) ?_
  refine lv_iload_n hx hb dX6_init_14 rfl (lv_at hl 0 rfl) ?_
  refine lv_iconst (v := 4) hx hb dX6_init_15 (by decide) ?_
  refine lv_icmp_ge (tgt := 38) hx hb dX6_init_16 (by decide) (fun _ => ?_) (fun q => absurd (by decide) q)
  refine lv_aload_n hx hb dX6_init_38 rfl (lv_at hl 1 rfl) ?_
  refine va_new (ci := 5) (fs := fX5_0) (C := RX5) (T := TX5) (N := 9) hx hb hts fwX5 tyX5 tyX5_ok hown (hts _ wq_1_22) (hts _ wq_1_24) (hts _ wq_1_2) hK hP hD hS hA rfl (fun j hj => by
    match j, hj with
    | 0, _ => rfl
    | 1, _ => rfl
    | 2, _ => rfl
    | 3, _ => rfl
    | 4, _ => rfl
    | 5, _ => rfl
    | 6, _ => rfl
    | 7, _ => rfl
    | 8, _ => rfl
    | j + 9, h => exact absurd h (by omega)) (Nat.le_of_ble_eq_true rfl) (Nat.le_of_ble_eq_true rfl) dX6_init_39 (fun v4q H hP hD hS => ?_)
  refine lv_dup hx hb dX6_init_42 rfl ?_
  refine cs_back (U := uX5 cA) (q := v4q) (va_runIN (host := "DrawnTalks") (As := []) (rest := [.ref v4q, .ref h0]) (n := 0) (index := 15) ⟨hx, hb, hml, hown, hts⟩ (iX5 l D cA v4q H.size d) ⟨va_cnB 0 hts (dc_good (y := (yX5_init, cX5_init, 1, none)) wq_1_27) rfl rfl rfl (hN _ wq_1_25) (hts _ wq_1_2) ⟨by decide +kernel, by decide +kernel, by decide +kernel⟩ ⟨by show d + 1 + 1 ≤ d + 3; omega, by show 8 + (1 + 11) + 39 * (d + 1) ≤ 39 * (d + 3); omega⟩, rfl, hts _ wq_1_26⟩ (cs_pre hP hD hK) rfl rfl hl.1 rfl (Nat.le_of_ble_eq_true rfl) dX6_init_43 ⟨Nat.le_of_ble_eq_true rfl, Nat.le_of_ble_eq_true rfl⟩) hP hD hS hA (fun v4 H locs v4e hP hD hS => ?_)
  have hP : va_P D vwCl ((h0, .inr (6, [.ref qT, .null, .null, .null, .null, .null, .null])) :: (qT, .inl (cA 3, 4, .inr (.inr (.inr (.inr (va_up (va_up (va_up (va_up (fun _ => none) 0 (some (v0 0))) 1 (some (v1 0))) 2 (some (v2 0))) 3 (some (v3 0)))))))) :: (uX5 cA v0 ++ uX5 cA v1 ++ uX5 cA v2 ++ uX5 cA v3 ++ uX5 cA v4)) H := hP
  have hD : va_D A ((h0, .inr (6, [.ref qT, .null, .null, .null, .null, .null, .null])) :: (qT, .inl (cA 3, 4, .inr (.inr (.inr (.inr (va_up (va_up (va_up (va_up (fun _ => none) 0 (some (v0 0))) 1 (some (v1 0))) 2 (some (v2 0))) 3 (some (v3 0)))))))) :: (uX5 cA v0 ++ uX5 cA v1 ++ uX5 cA v2 ++ uX5 cA v3 ++ uX5 cA v4)) := hD
  rw [← v4e] at *
  refine cs_pf (tf := .object "DrawnTalks$Talk") hx hb hts ffX6 hown hK hP hD hS hin 1 (by decide) wq_1_218 rfl rfl rfl (by decide +kernel) (fun _ => rfl) (fun _ => rfl) (Nat.le_of_ble_eq_true rfl) dX6_init_46 (fun H locs hP hD hS => ?_)
  have hP : va_P D vwCl ((h0, .inr (6, [.ref qT, .ref (v4 0), .null, .null, .null, .null, .null])) :: (qT, .inl (cA 3, 4, .inr (.inr (.inr (.inr (va_up (va_up (va_up (va_up (fun _ => none) 0 (some (v0 0))) 1 (some (v1 0))) 2 (some (v2 0))) 3 (some (v3 0)))))))) :: (uX5 cA v0 ++ uX5 cA v1 ++ uX5 cA v2 ++ uX5 cA v3 ++ uX5 cA v4)) H := hP
  have hD : va_D A ((h0, .inr (6, [.ref qT, .ref (v4 0), .null, .null, .null, .null, .null])) :: (qT, .inl (cA 3, 4, .inr (.inr (.inr (.inr (va_up (va_up (va_up (va_up (fun _ => none) 0 (some (v0 0))) 1 (some (v1 0))) 2 (some (v2 0))) 3 (some (v3 0)))))))) :: (uX5 cA v0 ++ uX5 cA v1 ++ uX5 cA v2 ++ uX5 cA v3 ++ uX5 cA v4)) := hD
  refine lv_aload_n hx hb dX6_init_49 rfl (lv_at hl 1 rfl) ?_
  refine va_new (ci := 3) (fs := fX3_0) (C := RX3) (T := TX3) (N := 6) hx hb hts fwX3 tyX3 tyX3_ok hown (hts _ wq_1_81) (hts _ wq_1_82) (hts _ wq_1_3) hK hP hD hS hA rfl (fun j hj => by
    match j, hj with
    | 0, _ => rfl
    | 1, _ => rfl
    | 2, _ => rfl
    | 3, _ => rfl
    | 4, _ => rfl
    | 5, _ => rfl
    | j + 6, h => exact absurd h (by omega)) (Nat.le_of_ble_eq_true rfl) (Nat.le_of_ble_eq_true rfl) dX6_init_50 (fun v5q H hP hD hS => ?_)
  refine lv_dup hx hb dX6_init_53 rfl ?_
  refine cs_back (U := uX3 cA) (q := v5q) (va_runIN (host := "DrawnTalks") (As := []) (rest := [.ref v5q, .ref h0]) (n := 0) (index := 22) ⟨hx, hb, hml, hown, hts⟩ (iX3 l D cA v5q H.size d) ⟨va_cnB 0 hts (dc_good (y := (yX3_init, cX3_init, 1, none)) wq_1_85) rfl rfl rfl (hN _ wq_1_83) (hts _ wq_1_3) ⟨by decide +kernel, by decide +kernel, by decide +kernel⟩ ⟨by show d + 1 + 1 ≤ d + 3; omega, by show 8 + (1 + 11) + 39 * (d + 1) ≤ 39 * (d + 3); omega⟩, rfl, hts _ wq_1_84⟩ (cs_pre hP hD hK) rfl rfl hl.1 rfl (Nat.le_of_ble_eq_true rfl) dX6_init_54 ⟨Nat.le_of_ble_eq_true rfl, Nat.le_of_ble_eq_true rfl⟩) hP hD hS hA (fun v5 H locs v5e hP hD hS => ?_)
  have hP : va_P D vwCl ((h0, .inr (6, [.ref qT, .ref (v4 0), .null, .null, .null, .null, .null])) :: (qT, .inl (cA 3, 4, .inr (.inr (.inr (.inr (va_up (va_up (va_up (va_up (fun _ => none) 0 (some (v0 0))) 1 (some (v1 0))) 2 (some (v2 0))) 3 (some (v3 0)))))))) :: (uX5 cA v0 ++ uX5 cA v1 ++ uX5 cA v2 ++ uX5 cA v3 ++ uX5 cA v4 ++ uX3 cA v5)) H := hP
  have hD : va_D A ((h0, .inr (6, [.ref qT, .ref (v4 0), .null, .null, .null, .null, .null])) :: (qT, .inl (cA 3, 4, .inr (.inr (.inr (.inr (va_up (va_up (va_up (va_up (fun _ => none) 0 (some (v0 0))) 1 (some (v1 0))) 2 (some (v2 0))) 3 (some (v3 0)))))))) :: (uX5 cA v0 ++ uX5 cA v1 ++ uX5 cA v2 ++ uX5 cA v3 ++ uX5 cA v4 ++ uX3 cA v5)) := hD
  rw [← v5e] at *
  refine cs_pf (tf := .object "DrawnTalks$Reader") hx hb hts ffX6 hown hK hP hD hS hin 2 (by decide) wq_1_219 rfl rfl rfl (by decide +kernel) (fun _ => rfl) (fun _ => rfl) (Nat.le_of_ble_eq_true rfl) dX6_init_57 (fun H locs hP hD hS => ?_)
  have hP : va_P D vwCl ((h0, .inr (6, [.ref qT, .ref (v4 0), .ref (v5 0), .null, .null, .null, .null])) :: (qT, .inl (cA 3, 4, .inr (.inr (.inr (.inr (va_up (va_up (va_up (va_up (fun _ => none) 0 (some (v0 0))) 1 (some (v1 0))) 2 (some (v2 0))) 3 (some (v3 0)))))))) :: (uX5 cA v0 ++ uX5 cA v1 ++ uX5 cA v2 ++ uX5 cA v3 ++ uX5 cA v4 ++ uX3 cA v5)) H := hP
  have hD : va_D A ((h0, .inr (6, [.ref qT, .ref (v4 0), .ref (v5 0), .null, .null, .null, .null])) :: (qT, .inl (cA 3, 4, .inr (.inr (.inr (.inr (va_up (va_up (va_up (va_up (fun _ => none) 0 (some (v0 0))) 1 (some (v1 0))) 2 (some (v2 0))) 3 (some (v3 0)))))))) :: (uX5 cA v0 ++ uX5 cA v1 ++ uX5 cA v2 ++ uX5 cA v3 ++ uX5 cA v4 ++ uX3 cA v5)) := hD
  refine lv_aload_n hx hb dX6_init_60 rfl (lv_at hl 1 rfl) ?_
  refine va_new (ci := 4) (fs := fX4_0) (C := RX4) (T := TX4) (N := 1) hx hb hts fwX4 tyX4 tyX4_ok hown (hts _ wq_1_107) (hts _ wq_1_108) (hts _ wq_1_4) hK hP hD hS hA rfl (fun j hj => by
    match j, hj with
    | 0, _ => rfl
    | j + 1, h => exact absurd h (by omega)) (Nat.le_of_ble_eq_true rfl) (Nat.le_of_ble_eq_true rfl) dX6_init_61 (fun v6q H hP hD hS => ?_)
  refine lv_dup hx hb dX6_init_64 rfl ?_
  refine cs_back (U := uX4 cA) (q := v6q) (va_runIN (host := "DrawnTalks") (As := []) (rest := [.ref v6q, .ref h0]) (n := 0) (index := 29) ⟨hx, hb, hml, hown, hts⟩ (iX4 l D cA v6q H.size d) ⟨va_cnB 0 hts (dc_good (y := (yX4_init, cX4_init, 1, none)) wq_1_111) rfl rfl rfl (hN _ wq_1_109) (hts _ wq_1_4) ⟨by decide +kernel, by decide +kernel, by decide +kernel⟩ ⟨by show d + 1 + 1 ≤ d + 3; omega, by show 8 + (1 + 11) + 39 * (d + 1) ≤ 39 * (d + 3); omega⟩, rfl, hts _ wq_1_110⟩ (cs_pre hP hD hK) rfl rfl hl.1 rfl (Nat.le_of_ble_eq_true rfl) dX6_init_65 ⟨Nat.le_of_ble_eq_true rfl, Nat.le_of_ble_eq_true rfl⟩) hP hD hS hA (fun v6 H locs v6e hP hD hS => ?_)
  have hP : va_P D vwCl ((h0, .inr (6, [.ref qT, .ref (v4 0), .ref (v5 0), .null, .null, .null, .null])) :: (qT, .inl (cA 3, 4, .inr (.inr (.inr (.inr (va_up (va_up (va_up (va_up (fun _ => none) 0 (some (v0 0))) 1 (some (v1 0))) 2 (some (v2 0))) 3 (some (v3 0)))))))) :: (uX5 cA v0 ++ uX5 cA v1 ++ uX5 cA v2 ++ uX5 cA v3 ++ uX5 cA v4 ++ uX3 cA v5 ++ uX4 cA v6)) H := hP
  have hD : va_D A ((h0, .inr (6, [.ref qT, .ref (v4 0), .ref (v5 0), .null, .null, .null, .null])) :: (qT, .inl (cA 3, 4, .inr (.inr (.inr (.inr (va_up (va_up (va_up (va_up (fun _ => none) 0 (some (v0 0))) 1 (some (v1 0))) 2 (some (v2 0))) 3 (some (v3 0)))))))) :: (uX5 cA v0 ++ uX5 cA v1 ++ uX5 cA v2 ++ uX5 cA v3 ++ uX5 cA v4 ++ uX3 cA v5 ++ uX4 cA v6)) := hD
  rw [← v6e] at *
  refine cs_pf (tf := .object "DrawnTalks$Relation") hx hb hts ffX6 hown hK hP hD hS hin 3 (by decide) wq_1_220 rfl rfl rfl (by decide +kernel) (fun _ => rfl) (fun _ => rfl) (Nat.le_of_ble_eq_true rfl) dX6_init_68 (fun H locs hP hD hS => ?_)
  have hP : va_P D vwCl ((h0, .inr (6, [.ref qT, .ref (v4 0), .ref (v5 0), .ref (v6 0), .null, .null, .null])) :: (qT, .inl (cA 3, 4, .inr (.inr (.inr (.inr (va_up (va_up (va_up (va_up (fun _ => none) 0 (some (v0 0))) 1 (some (v1 0))) 2 (some (v2 0))) 3 (some (v3 0)))))))) :: (uX5 cA v0 ++ uX5 cA v1 ++ uX5 cA v2 ++ uX5 cA v3 ++ uX5 cA v4 ++ uX3 cA v5 ++ uX4 cA v6)) H := hP
  have hD : va_D A ((h0, .inr (6, [.ref qT, .ref (v4 0), .ref (v5 0), .ref (v6 0), .null, .null, .null])) :: (qT, .inl (cA 3, 4, .inr (.inr (.inr (.inr (va_up (va_up (va_up (va_up (fun _ => none) 0 (some (v0 0))) 1 (some (v1 0))) 2 (some (v2 0))) 3 (some (v3 0)))))))) :: (uX5 cA v0 ++ uX5 cA v1 ++ uX5 cA v2 ++ uX5 cA v3 ++ uX5 cA v4 ++ uX3 cA v5 ++ uX4 cA v6)) := hD
  refine lv_aload_n hx hb dX6_init_71 rfl (lv_at hl 1 rfl) ?_
  refine va_new (ci := 0) (fs := fX0_0) (C := RX0) (T := TX0) (N := 10) hx hb hts fwX0 tyX0 tyX0_ok hown (hts _ wq_1_117) (hts _ wq_1_118) (hts _ wq_1_5) hK hP hD hS hA rfl (fun j hj => by
    match j, hj with
    | 0, _ => rfl
    | 1, _ => rfl
    | 2, _ => rfl
    | 3, _ => rfl
    | 4, _ => rfl
    | 5, _ => rfl
    | 6, _ => rfl
    | 7, _ => rfl
    | 8, _ => rfl
    | 9, _ => rfl
    | j + 10, h => exact absurd h (by omega)) (Nat.le_of_ble_eq_true rfl) (Nat.le_of_ble_eq_true rfl) dX6_init_72 (fun v7q H hP hD hS => ?_)
  refine lv_dup hx hb dX6_init_75 rfl ?_
  refine cs_back (U := uX0 cA) (q := v7q) (va_runIN (host := "DrawnTalks") (As := []) (rest := [.ref v7q, .ref h0]) (n := 0) (index := 36) ⟨hx, hb, hml, hown, hts⟩ (iX0 l D cA v7q H.size d) ⟨va_cnB 0 hts (dc_good (y := (yX0_init, cX0_init, 1, none)) wq_1_121) rfl rfl rfl (hN _ wq_1_119) (hts _ wq_1_5) ⟨by decide +kernel, by decide +kernel, by decide +kernel⟩ ⟨by show d + 1 + 1 ≤ d + 3; omega, by show 8 + (1 + 11) + 39 * (d + 1) ≤ 39 * (d + 3); omega⟩, rfl, hts _ wq_1_120⟩ (cs_pre hP hD hK) rfl rfl hl.1 rfl (Nat.le_of_ble_eq_true rfl) dX6_init_76 ⟨Nat.le_of_ble_eq_true rfl, Nat.le_of_ble_eq_true rfl⟩) hP hD hS hA (fun v7 H locs v7e hP hD hS => ?_)
  have hP : va_P D vwCl ((h0, .inr (6, [.ref qT, .ref (v4 0), .ref (v5 0), .ref (v6 0), .null, .null, .null])) :: (qT, .inl (cA 3, 4, .inr (.inr (.inr (.inr (va_up (va_up (va_up (va_up (fun _ => none) 0 (some (v0 0))) 1 (some (v1 0))) 2 (some (v2 0))) 3 (some (v3 0)))))))) :: (uX5 cA v0 ++ uX5 cA v1 ++ uX5 cA v2 ++ uX5 cA v3 ++ uX5 cA v4 ++ uX3 cA v5 ++ uX4 cA v6 ++ uX0 cA v7)) H := hP
  have hD : va_D A ((h0, .inr (6, [.ref qT, .ref (v4 0), .ref (v5 0), .ref (v6 0), .null, .null, .null])) :: (qT, .inl (cA 3, 4, .inr (.inr (.inr (.inr (va_up (va_up (va_up (va_up (fun _ => none) 0 (some (v0 0))) 1 (some (v1 0))) 2 (some (v2 0))) 3 (some (v3 0)))))))) :: (uX5 cA v0 ++ uX5 cA v1 ++ uX5 cA v2 ++ uX5 cA v3 ++ uX5 cA v4 ++ uX3 cA v5 ++ uX4 cA v6 ++ uX0 cA v7)) := hD
  rw [← v7e] at *
  refine cs_pf (tf := .object "DrawnTalks$Lattice") hx hb hts ffX6 hown hK hP hD hS hin 4 (by decide) wq_1_221 rfl rfl rfl (by decide +kernel) (fun _ => rfl) (fun _ => rfl) (Nat.le_of_ble_eq_true rfl) dX6_init_79 (fun H locs hP hD hS => ?_)
  have hP : va_P D vwCl ((h0, .inr (6, [.ref qT, .ref (v4 0), .ref (v5 0), .ref (v6 0), .ref (v7 0), .null, .null])) :: (qT, .inl (cA 3, 4, .inr (.inr (.inr (.inr (va_up (va_up (va_up (va_up (fun _ => none) 0 (some (v0 0))) 1 (some (v1 0))) 2 (some (v2 0))) 3 (some (v3 0)))))))) :: (uX5 cA v0 ++ uX5 cA v1 ++ uX5 cA v2 ++ uX5 cA v3 ++ uX5 cA v4 ++ uX3 cA v5 ++ uX4 cA v6 ++ uX0 cA v7)) H := hP
  have hD : va_D A ((h0, .inr (6, [.ref qT, .ref (v4 0), .ref (v5 0), .ref (v6 0), .ref (v7 0), .null, .null])) :: (qT, .inl (cA 3, 4, .inr (.inr (.inr (.inr (va_up (va_up (va_up (va_up (fun _ => none) 0 (some (v0 0))) 1 (some (v1 0))) 2 (some (v2 0))) 3 (some (v3 0)))))))) :: (uX5 cA v0 ++ uX5 cA v1 ++ uX5 cA v2 ++ uX5 cA v3 ++ uX5 cA v4 ++ uX3 cA v5 ++ uX4 cA v6 ++ uX0 cA v7)) := hD
  refine lv_aload_n hx hb dX6_init_82 rfl (lv_at hl 1 rfl) ?_
  refine va_new (ci := 2) (fs := fX2_0) (C := RX2) (T := TX2) (N := 10) hx hb hts fwX2 tyX2 tyX2_ok hown (hts _ wq_1_159) (hts _ wq_1_160) (hts _ wq_1_6) hK hP hD hS hA rfl (fun j hj => by
    match j, hj with
    | 0, _ => rfl
    | 1, _ => rfl
    | 2, _ => rfl
    | 3, _ => rfl
    | 4, _ => rfl
    | 5, _ => rfl
    | 6, _ => rfl
    | 7, _ => rfl
    | 8, _ => rfl
    | 9, _ => rfl
    | j + 10, h => exact absurd h (by omega)) (Nat.le_of_ble_eq_true rfl) (Nat.le_of_ble_eq_true rfl) dX6_init_83 (fun v8q H hP hD hS => ?_)
  refine lv_dup hx hb dX6_init_86 rfl ?_
  refine lv_aload_n hx hb dX6_init_87 rfl (lv_at hl 1 rfl) ?_
  refine va_get (D := D) (ci := 6) (v := .ref qT) (C := RX6) (T := TX6) (N := 7) hx hb hts fwX6 hown hK hP 0 rfl rfl 0 (by decide) (hts _ wq_1_217) (fun _ h9 => h9) rfl dX6_init_88 ?_
  refine cs_back (U := uX2 cA qT) (q := v8q) (va_runI (As := [.ref qT]) (rest := [.ref v8q, .ref h0]) (n := 1) (index := 43) ⟨hx, hb, hml, hown, hts⟩ (iX2 l D cA v8q qT H.size d) (cwI 1 hts (dc_good (y := (yX2_init, cX2_init, 2, none)) wq_1_163) rfl rfl rfl (hts _ wq_1_6) (hts _ wq_1_161) (hts _ wq_1_162) rfl ⟨by decide +kernel, by decide +kernel, by decide +kernel⟩ ⟨by show d + 1 + 1 ≤ d + 3; omega, by show 8 + (2 + 11) + 39 * (d + 1) ≤ 39 * (d + 3); omega⟩) (cs_pre hP hD hK) rfl rfl hl.1 rfl (Nat.le_of_ble_eq_true rfl) dX6_init_91 ⟨Nat.le_of_ble_eq_true rfl, Nat.le_of_ble_eq_true rfl⟩) hP hD hS hA (fun v8 H locs v8e hP hD hS => ?_)
  have hP : va_P D vwCl ((h0, .inr (6, [.ref qT, .ref (v4 0), .ref (v5 0), .ref (v6 0), .ref (v7 0), .null, .null])) :: (qT, .inl (cA 3, 4, .inr (.inr (.inr (.inr (va_up (va_up (va_up (va_up (fun _ => none) 0 (some (v0 0))) 1 (some (v1 0))) 2 (some (v2 0))) 3 (some (v3 0)))))))) :: (uX5 cA v0 ++ uX5 cA v1 ++ uX5 cA v2 ++ uX5 cA v3 ++ uX5 cA v4 ++ uX3 cA v5 ++ uX4 cA v6 ++ uX0 cA v7 ++ uX2 cA qT v8)) H := hP
  have hD : va_D A ((h0, .inr (6, [.ref qT, .ref (v4 0), .ref (v5 0), .ref (v6 0), .ref (v7 0), .null, .null])) :: (qT, .inl (cA 3, 4, .inr (.inr (.inr (.inr (va_up (va_up (va_up (va_up (fun _ => none) 0 (some (v0 0))) 1 (some (v1 0))) 2 (some (v2 0))) 3 (some (v3 0)))))))) :: (uX5 cA v0 ++ uX5 cA v1 ++ uX5 cA v2 ++ uX5 cA v3 ++ uX5 cA v4 ++ uX3 cA v5 ++ uX4 cA v6 ++ uX0 cA v7 ++ uX2 cA qT v8)) := hD
  rw [← v8e] at *
  refine cs_pf (tf := .object "DrawnTalks$Player") hx hb hts ffX6 hown hK hP hD hS hin 5 (by decide) wq_1_222 rfl rfl rfl (by decide +kernel) (fun _ => rfl) (fun _ => rfl) (Nat.le_of_ble_eq_true rfl) dX6_init_94 (fun H locs hP hD hS => ?_)
  have hP : va_P D vwCl ((h0, .inr (6, [.ref qT, .ref (v4 0), .ref (v5 0), .ref (v6 0), .ref (v7 0), .ref (v8 0), .null])) :: (qT, .inl (cA 3, 4, .inr (.inr (.inr (.inr (va_up (va_up (va_up (va_up (fun _ => none) 0 (some (v0 0))) 1 (some (v1 0))) 2 (some (v2 0))) 3 (some (v3 0)))))))) :: (uX5 cA v0 ++ uX5 cA v1 ++ uX5 cA v2 ++ uX5 cA v3 ++ uX5 cA v4 ++ uX3 cA v5 ++ uX4 cA v6 ++ uX0 cA v7 ++ uX2 cA qT v8)) H := hP
  have hD : va_D A ((h0, .inr (6, [.ref qT, .ref (v4 0), .ref (v5 0), .ref (v6 0), .ref (v7 0), .ref (v8 0), .null])) :: (qT, .inl (cA 3, 4, .inr (.inr (.inr (.inr (va_up (va_up (va_up (va_up (fun _ => none) 0 (some (v0 0))) 1 (some (v1 0))) 2 (some (v2 0))) 3 (some (v3 0)))))))) :: (uX5 cA v0 ++ uX5 cA v1 ++ uX5 cA v2 ++ uX5 cA v3 ++ uX5 cA v4 ++ uX3 cA v5 ++ uX4 cA v6 ++ uX0 cA v7 ++ uX2 cA qT v8)) := hD
  refine lv_aload_n hx hb dX6_init_97 rfl (lv_at hl 1 rfl) ?_
  refine va_new (ci := 1) (fs := fX1_0) (C := RX1) (T := TX1) (N := 4) hx hb hts fwX1 tyX1 tyX1_ok hown (hts _ wq_1_198) (hts _ wq_1_199) (hts _ wq_1_7) hK hP hD hS hA rfl (fun j hj => by
    match j, hj with
    | 0, _ => rfl
    | 1, _ => rfl
    | 2, _ => rfl
    | 3, _ => rfl
    | j + 4, h => exact absurd h (by omega)) (Nat.le_of_ble_eq_true rfl) (Nat.le_of_ble_eq_true rfl) dX6_init_98 (fun v9q H hP hD hS => ?_)
  refine lv_dup hx hb dX6_init_101 rfl ?_
  refine lv_aload_n hx hb dX6_init_102 rfl (lv_at hl 1 rfl) ?_
  refine va_get (D := D) (ci := 6) (v := .ref qT) (C := RX6) (T := TX6) (N := 7) hx hb hts fwX6 hown hK hP 0 rfl rfl 0 (by decide) (hts _ wq_1_217) (fun _ h9 => h9) rfl dX6_init_103 ?_
  refine lv_aload_n hx hb dX6_init_106 rfl (lv_at hl 1 rfl) ?_
  refine va_get (D := D) (ci := 6) (v := .ref (v8 0)) (C := RX6) (T := TX6) (N := 7) hx hb hts fwX6 hown hK hP 0 rfl rfl 5 (by decide) (hts _ wq_1_222) (fun _ h9 => h9) rfl dX6_init_107 ?_
  refine cs_back (U := uX1 cA qT (v8 0)) (q := v9q) (va_runI (As := [.ref qT, .ref (v8 0)]) (rest := [.ref v9q, .ref h0]) (n := 2) (index := 52) ⟨hx, hb, hml, hown, hts⟩ (iX1 l D cA v9q qT (v8 0) H.size d) (cwI 2 hts (dc_good (y := (yX1_init, cX1_init, 3, none)) wq_1_202) rfl rfl rfl (hts _ wq_1_7) (hts _ wq_1_200) (hts _ wq_1_201) rfl ⟨by decide +kernel, by decide +kernel, by decide +kernel⟩ ⟨by show d + 1 + 1 ≤ d + 3; omega, by show 8 + (3 + 11) + 39 * (d + 1) ≤ 39 * (d + 3); omega⟩) (cs_pre hP hD hK) rfl rfl hl.1 rfl (Nat.le_of_ble_eq_true rfl) dX6_init_110 ⟨Nat.le_of_ble_eq_true rfl, Nat.le_of_ble_eq_true rfl⟩) hP hD hS hA (fun v9 H locs v9e hP hD hS => ?_)
  have hP : va_P D vwCl ((h0, .inr (6, [.ref qT, .ref (v4 0), .ref (v5 0), .ref (v6 0), .ref (v7 0), .ref (v8 0), .null])) :: (qT, .inl (cA 3, 4, .inr (.inr (.inr (.inr (va_up (va_up (va_up (va_up (fun _ => none) 0 (some (v0 0))) 1 (some (v1 0))) 2 (some (v2 0))) 3 (some (v3 0)))))))) :: (uX5 cA v0 ++ uX5 cA v1 ++ uX5 cA v2 ++ uX5 cA v3 ++ uX5 cA v4 ++ uX3 cA v5 ++ uX4 cA v6 ++ uX0 cA v7 ++ uX2 cA qT v8 ++ uX1 cA qT (v8 0) v9)) H := hP
  have hD : va_D A ((h0, .inr (6, [.ref qT, .ref (v4 0), .ref (v5 0), .ref (v6 0), .ref (v7 0), .ref (v8 0), .null])) :: (qT, .inl (cA 3, 4, .inr (.inr (.inr (.inr (va_up (va_up (va_up (va_up (fun _ => none) 0 (some (v0 0))) 1 (some (v1 0))) 2 (some (v2 0))) 3 (some (v3 0)))))))) :: (uX5 cA v0 ++ uX5 cA v1 ++ uX5 cA v2 ++ uX5 cA v3 ++ uX5 cA v4 ++ uX3 cA v5 ++ uX4 cA v6 ++ uX0 cA v7 ++ uX2 cA qT v8 ++ uX1 cA qT (v8 0) v9)) := hD
  rw [← v9e] at *
  refine cs_pf (tf := .object "DrawnTalks$Mixer") hx hb hts ffX6 hown hK hP hD hS hin 6 (by decide) wq_1_223 rfl rfl rfl (by decide +kernel) (fun _ => rfl) (fun _ => rfl) (Nat.le_of_ble_eq_true rfl) dX6_init_113 (fun H locs hP hD hS => ?_)
  have hP : va_P D vwCl ((h0, .inr (6, [.ref qT, .ref (v4 0), .ref (v5 0), .ref (v6 0), .ref (v7 0), .ref (v8 0), .ref (v9 0)])) :: (qT, .inl (cA 3, 4, .inr (.inr (.inr (.inr (va_up (va_up (va_up (va_up (fun _ => none) 0 (some (v0 0))) 1 (some (v1 0))) 2 (some (v2 0))) 3 (some (v3 0)))))))) :: (uX5 cA v0 ++ uX5 cA v1 ++ uX5 cA v2 ++ uX5 cA v3 ++ uX5 cA v4 ++ uX3 cA v5 ++ uX4 cA v6 ++ uX0 cA v7 ++ uX2 cA qT v8 ++ uX1 cA qT (v8 0) v9)) H := hP
  have hD : va_D A ((h0, .inr (6, [.ref qT, .ref (v4 0), .ref (v5 0), .ref (v6 0), .ref (v7 0), .ref (v8 0), .ref (v9 0)])) :: (qT, .inl (cA 3, 4, .inr (.inr (.inr (.inr (va_up (va_up (va_up (va_up (fun _ => none) 0 (some (v0 0))) 1 (some (v1 0))) 2 (some (v2 0))) 3 (some (v3 0)))))))) :: (uX5 cA v0 ++ uX5 cA v1 ++ uX5 cA v2 ++ uX5 cA v3 ++ uX5 cA v4 ++ uX3 cA v5 ++ uX4 cA v6 ++ uX0 cA v7 ++ uX2 cA qT v8 ++ uX1 cA qT (v8 0) v9)) := hD
  refine W.widen (k := 61) (n := 5292) (Nat.le_of_ble_eq_true rfl) (Nat.le_of_ble_eq_true rfl) ?_
  refine W.vret hx hb hr (fun t ht hW => ⟨⟨fun k => if k < 2 then ([h0, qT] : List Nat).getD k 0 else if k < 10 then v0 (k - 2) else if k < 18 then v1 (k - 10) else if k < 26 then v2 (k - 18) else if k < 34 then v3 (k - 26) else if k < 42 then v4 (k - 34) else if k < 44 then v5 (k - 42) else if k < 46 then v6 (k - 44) else if k < 53 then v7 (k - 46) else if k < 60 then v8 (k - 53) else v9 (k - 60), rfl, rfl, va_up (va_up (va_up (va_up (fun _ => none) 0 (some (v0 0))) 1 (some (v1 0))) 2 (some (v2 0))) 3 (some (v3 0)), ?_, by rw [ht]; exact hP, hD⟩, hS.F ht⟩) hS.2.2 dX6_init_116
  intro j hj
  match j, hj with
  | 0, _ => rfl
  | 1, _ => rfl
  | 2, _ => rfl
  | 3, _ => rfl
