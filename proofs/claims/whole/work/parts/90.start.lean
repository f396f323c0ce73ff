/-! ===== the law's start ===== -/
theorem st_SF {s : State} {b L : Nat} {xs : Nat → Int32} {p : Program} {m : MethodId} {meth : Method} {c : Code} (C0 : lw_At p s m meth c b L xs) : ∃ adK : Nat → Nat, ∀ ad : Nat → Nat, (∀ i, i < 2 → ad (86 + i) = adK i) → dt_SF ad (lA s) s s.heap := by
  obtain ⟨hx, hb, hr, hml, hown, hts, hX, hbl, hlocks, hgv⟩ := id C0
  have hs := flat_of_before _ hgv
  have hA : ∀ a : Nat, a < s.heap.size → ¬ lA s a := fun a h => Nat.not_le.mpr h
  obtain ⟨adK, adV, hE, hev⟩ := vk_Sof (args := #[Value.ref b]) (s := s) (N := 2) (tm := fun i => Term.string "DrawnTalks$Reader" (if i = 0 then 72 else 78)) (len := [4, 4]) (byt := [[115, 101, 110, 100], [116, 97, 107, 101]]) (A := lA s)
    (fun i hi => by match i, hi with | 0, _ => decide | 1, _ => decide)
    (fun i hi => by match i, hi with | 0, _ => exact hs _ (by decide +kernel) | 1, _ => exact hs _ (by decide +kernel))
    (fun i hi => by match i, hi with | 0, _ => exact hs _ (by decide +kernel) | 1, _ => exact hs _ (by decide +kernel))
    (fun i hi => by match i, hi with | 0, _ => exact hs _ (by decide +kernel) | 1, _ => exact hs _ (by decide +kernel))
    (fun i hi => by match i, hi with | 0, _ => exact hs _ (by decide +kernel) | 1, _ => exact hs _ (by decide +kernel))
    (fun i hi j hj => by
      have h4 : j < 4 := by match i, hi with | 0, _ => exact hj | 1, _ => exact hj
      match i, hi, j, h4 with
      | 0, _, 0, _ => exact hs _ (by decide +kernel)
      | 0, _, 1, _ => exact hs _ (by decide +kernel)
      | 0, _, 2, _ => exact hs _ (by decide +kernel)
      | 0, _, 3, _ => exact hs _ (by decide +kernel)
      | 1, _, 0, _ => exact hs _ (by decide +kernel)
      | 1, _, 1, _ => exact hs _ (by decide +kernel)
      | 1, _, 2, _ => exact hs _ (by decide +kernel)
      | 1, _, 3, _ => exact hs _ (by decide +kernel))
    (fun i j hi hj hij => by
      match i, hi, j, hj, hij with
      | 0, _, 0, _, h => exact absurd rfl h
      | 0, _, 1, _, _ => exact Or.inl (hs _ (by decide +kernel))
      | 1, _, 0, _, _ => exact Or.inr (hs _ (by decide +kernel))
      | 1, _, 1, _, h => exact absurd rfl h) hA
  refine ⟨adK, fun ad had => ⟨⟨adV, ?_⟩, ?_, ?_, ?_, ?_⟩⟩
  · refine ⟨fun i hi => ?_, fun i j hi hj h => ?_⟩
    · rw [show (fun i => ad (86 + i)) i = adK i from had i hi]
      exact hE.1 i hi
    · have h' : ad (86 + i) = ad (86 + j) := h
      rw [had i hi, had j hj] at h'
      exact hE.2 i j hi hj h'
  · exact va_Zof (hts _ (wq_l2 (List.mem_of_getElem? (i := 51) (by decide +kernel)))) (hts _ (List.mem_filter.mp wq_1_9).1) (va_eqt (hs (Cond.eq (Term.static "java/lang/String" "COMPACT_STRINGS" "Z") (Term.int 1)) (by decide +kernel))) hA
  · exact va_Zqof (hts _ (wq_l2 (List.mem_of_getElem? (i := 67) (by decide +kernel)))) (hts _ (List.mem_filter.mp wq_1_11).1) (hs _ (by decide +kernel)) hA
  · rw [show ad 86 = adK 0 from had 0 (by decide)]
    exact vk_R.of (hts _ (wq_l2 (List.mem_of_getElem? (i := 37) (by decide +kernel)))) (hev 0 (by decide))
  · rw [show ad 87 = adK 1 from had 1 (by decide)]
    exact vk_R.of (hts _ (wq_l2 (List.mem_of_getElem? (i := 90) (by decide +kernel)))) (hev 1 (by decide))
theorem st_K {s : State} {b L : Nat} {xs : Nat → Int32} {p : Program} {m : MethodId} {meth : Method} {c : Code} (C0 : lw_At p s m meth c b L xs) : ∃ (D : va_G) (cA : Nat → ClassId), va_K D vwCl (dt_tys cA) s := by
  obtain ⟨hx, hb, hr, hml, hown, hts, hX, hbl, hlocks, hgv⟩ := id C0
  have hts0 : ∀ w ∈ dt_W0, w.before #[Value.ref b] s = true := fun w hw => hts w (List.mem_filter.mp hw).1
  obtain ⟨c0, i0, k0⟩ := u_known (C := RX0) (T := TX0) (N := 10) (n := 10) hts0 fwX0 (hts0 _ wq_1_118)
  obtain ⟨c1, i1, k1⟩ := u_known (C := RX1) (T := TX1) (N := 4) (n := 4) hts0 fwX1 (hts0 _ wq_1_199)
  obtain ⟨c2, i2, k2⟩ := u_known (C := RX2) (T := TX2) (N := 10) (n := 10) hts0 fwX2 (hts0 _ wq_1_160)
  obtain ⟨c3, i3, k3⟩ := u_known (C := RX3) (T := TX3) (N := 6) (n := 6) hts0 fwX3 (hts0 _ wq_1_82)
  obtain ⟨c4, i4, k4⟩ := u_known (C := RX4) (T := TX4) (N := 1) (n := 1) hts0 fwX4 (hts0 _ wq_1_108)
  obtain ⟨c5, i5, k5⟩ := u_known (C := RX5) (T := TX5) (N := 9) (n := 9) hts0 fwX5 (hts0 _ wq_1_24)
  obtain ⟨c6, i6, k6⟩ := u_known (C := RX6) (T := TX6) (N := 7) (n := 7) hts0 fwX6 (hts0 _ wq_1_15)
  obtain ⟨c7, i7, k7⟩ := u_known (C := RX7) (T := TX7) (N := 35) (n := 35) hts0 fwX7 (hts0 _ wq_3_132)
  obtain ⟨a0, q0, m0, f0, g0, h0⟩ := Cond.arrayClass_spec (hts0 _ wq_1_80)
  obtain ⟨a1, q1, m1, f1, g1, h1⟩ := Cond.arrayClass_spec (hts0 _ wq_1_79)
  obtain ⟨a2, q2, m2, f2, g2, h2⟩ := Cond.arrayClass_spec (hts0 _ wq_1_158)
  obtain ⟨m3, a3, q3, e3, -, g3, h3, f3⟩ := Cond.arrayOver_spec (hts (Cond.arrayOver (.object "DrawnTalks$Talk")) (wq_l1 (List.mem_of_getElem? (i := 23) (by decide +kernel))))
  refine ⟨(fun k => ([c0, c1, c2, c3, c4, c5, c6, c7] : List ClassId).getD k c0, fun k => ([i0, i1, i2, i3, i4, i5, i6, i7] : List (Nat → Nat)).getD k i0), fun k => ([a0, a1, a2, a3] : List ClassId).getD k a0, fun k q hq => ?_, fun k q hq => ?_⟩
  · match k, hq with
    | 0, hq => cases hq; exact k0
    | 1, hq => cases hq; exact k1
    | 2, hq => cases hq; exact k2
    | 3, hq => cases hq; exact k3
    | 4, hq => cases hq; exact k4
    | 5, hq => cases hq; exact k5
    | 6, hq => cases hq; exact k6
    | 7, hq => cases hq; exact k7
    | k + 8, hq => simp [vwCl] at hq
  · match k, hq with
    | 0, hq => cases hq; exact ⟨fun n z => ⟨fun k h => (by cases h), q0, g0, m0, h0⟩, f0⟩
    | 1, hq => cases hq; exact ⟨fun n z => ⟨fun k h => (by cases h), q1, g1, m1, h1⟩, f1⟩
    | 2, hq => cases hq; exact ⟨fun n z => ⟨fun k h => (by cases h), q2, g2, m2, h2⟩, f2⟩
    | 3, hq => cases hq; exact ⟨fun n z => ⟨fun k h => (by cases h), q3, g3, m3, h3⟩, q3, m3, g3, h3, e3, f3⟩
    | k + 4, hq => simp [dt_tys] at hq
