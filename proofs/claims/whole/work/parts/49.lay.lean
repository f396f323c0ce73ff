/-! ===== the Model: all moments, downwards ===== -/
theorem oT_big {T : Nat → Nat → Int} {n s c p : Nat} (h : tB T n s) (hc : c < cC T) (hp : p < 4) : oT T n c p ≤ 1099511627776 := by
  unfold oT
  split
  · rename_i q
    exact oB_big h (cu_up (c := c) (m := 4) (l := ln T) hc hp q).1
  · decide
noncomputable def lX (T : Nat → Nat → Int) (n m p : Nat) : Int := if m + 1 < cC T then sm (oT T n m) p else 1
noncomputable def lY (T : Nat → Nat → Int) (n m p : Nat) : Int := if m + 1 < cC T then mn (oU T n m) p else 0
theorem lX_b {T : Nat → Nat → Int} {n s m p : Nat} (h : tB T n s) (hm : m < cC T) (hp : p ≤ 4) : 0 ≤ lX T n m p ∧ lX T n m p ≤ 4398046511104 := by
  unfold lX
  split
  · refine ⟨sm_nn (fun _ _ => oT_0), ?_⟩
    have h1 : sm (oT T n m) p ≤ (p : Int) * 1099511627776 := sm_le (fun j hj => oT_big h hm (by omega))
    omega
  · decide
theorem lY_b {T : Nat → Nat → Int} {n s m p : Nat} (h : tV T n s) : 0 ≤ lY T n m p ∧ lY T n m p ≤ 99 := by
  unfold lY
  split
  · refine ⟨mn_0 (fun j _ => ?_), mn_99⟩
    unfold oU
    split
    · exact (oA_99 h).1
    · decide
  · decide
theorem k_layMoment (d n s i m : Nat) (M : dt_M) (T : Nat → Nat → Int) (hi : i < 4) (hV : tV T n s) (hG : mG M T n i) (hm : m < cC T) (hc : con T n (cG T m)) (hO : ∀ m', m < m' → m' < cC T → M.2 79 m' = oB T n m' ∧ M.1 80 m' = oA T n m') : dt_Sp mX7_layMoment (d + 1) [qM, .inl m, .inl (und T n (cG T m))] M (fun r M' => r = none ∧ (∀ a, a ≠ 80 → M'.1 a = M.1 a) ∧ (∀ j, j ≠ m → M'.1 80 j = M.1 80 j) ∧ (∀ a, a ≠ 79 → M'.2 a = M.2 a) ∧ (∀ j, j ≠ m → M'.2 79 j = M.2 79 j) ∧ M'.2 79 m = oB T n m ∧ M'.1 80 m = oA T n m) := by
  have hC' : cC T ≤ 1296 := cu_many hV.1
  have em : (m : Int).toNat = m := by omega
  have ule := und_le (x := cG T m) hV
  have s4 : M.1 78 4 = ((cC T : Nat) : Int) := hG.2.1 4 (by omega)
  refine dt_meth okX7_layMoment (fun pc => pc == 48) 90 (σ := Nat × dt_M) (fun t => 48) (fun t => [some qM, some (.inl m), some (.inl (und T n (cG T m))), none, some (.inl (lY T n m t.1)), some (.inl t.1)]) (fun t => t.2) (fun t => t.1 ≤ 4 ∧ t.2.1 = M.1 ∧ (∀ a, a ≠ 79 → t.2.2 a = M.2 a) ∧ (∀ j, j ≠ m → t.2.2 79 j = M.2 79 j) ∧ t.2.2 79 m = lX T n m t.1) (fun t => 4 - t.1) (by decide) (Nat.le_of_ble_eq_true rfl) ?_ ?_
  · intro J hJ
    refine And.intro ⟨by omega, by omega⟩ (And.intro (show dt_r (M.1 78 4 - 1) by rw [s4]; exact ⟨by omega, by omega⟩) ?_)
    refine And.intro (fun h => ?_) (fun h => ?_)
    · have hh : ¬ (m : Int) = M.1 78 4 - 1 := h
      have hl : m + 1 < cC T := by omega
      refine And.intro (fun _ => ?_) (fun q => absurd rfl q)
      (repeat (first | refine And.intro ⟨by (try dsimp only); omega, by (try dsimp only); omega⟩ ?_ | refine And.intro (Or.inl rfl) ?_ | refine And.intro (Or.inr rfl) ?_))
      rw [em]
      intro M1 hM1
      have hM1' : M1 = dt_wl M 79 m 0 := hM1
      refine And.intro (fun _ => ?_) (fun q => absurd rfl q)
      refine hJ (0, M1) _ ⟨Nat.zero_le _, by rw [hM1']; rfl, fun a ha => by rw [hM1']; exact dm_wl2 ha, fun j hj => by rw [hM1', dm_wl1]; exact dm_up2 hj, by rw [hM1', dm_wl1, dm_up1]; unfold lX; rw [if_pos hl]; rfl⟩ ⟨rfl, rfl, rfl, ?_, rfl, trivial⟩
      exact congrArg Sum.inl (by unfold lY; rw [if_pos hl]; rfl)
    · have hh : (m : Int) = M.1 78 4 - 1 := h
      have hl : ¬ m + 1 < cC T := by omega
      refine And.intro (fun q => absurd (show (1 : Int) = 0 from q) (by decide)) (fun _ => ?_)
      (repeat (first | refine And.intro ⟨by (try dsimp only); omega, by (try dsimp only); omega⟩ ?_ | refine And.intro (Or.inl rfl) ?_ | refine And.intro (Or.inr rfl) ?_))
      rw [em]
      intro M1 hM1
      have hM1' : M1 = dt_wl M 79 m 1 := hM1
      refine And.intro (fun q => absurd (show (1 : Int) = 0 from q) (by decide)) (fun _ => ?_)
      refine hJ (0, M1) _ ⟨Nat.zero_le _, by rw [hM1']; rfl, fun a ha => by rw [hM1']; exact dm_wl2 ha, fun j hj => by rw [hM1', dm_wl1]; exact dm_up2 hj, by rw [hM1', dm_wl1, dm_up1]; unfold lX; rw [if_neg hl]⟩ ⟨rfl, rfl, rfl, ?_, rfl, trivial⟩
      exact congrArg Sum.inl (by unfold lY; rw [if_neg hl])
  · rintro ⟨p, N⟩ ⟨h1, h2, h3, h4, h5⟩ J hJ
    dsimp only at h1 h2 h3 h4 h5 hJ
    have yb := lY_b (m := m) (p := p) hV
    have xb := lX_b (m := m) (p := p) hV.1 hm h1
    refine And.intro (fun h => ?_) (fun h => ?_)
    · have hh : (4 : Int) ≤ (p : Int) := h
      have : p = 4 := by omega
      subst this
      have fin : ∀ v : Int, v = oA T n m → ∀ M', M' = dt_wi N 80 m v → (none : Option dt_V) = none ∧ (∀ a, a ≠ 80 → M'.1 a = M.1 a) ∧ (∀ j, j ≠ m → M'.1 80 j = M.1 80 j) ∧ (∀ a, a ≠ 79 → M'.2 a = M.2 a) ∧ (∀ j, j ≠ m → M'.2 79 j = M.2 79 j) ∧ M'.2 79 m = oB T n m ∧ M'.1 80 m = oA T n m := by
        intro v hv M' hM'
        refine ⟨rfl, fun a ha => by rw [hM', dm_wi2 ha, h2], fun j hj => by rw [hM', dm_wi1, dm_up2 hj, h2], fun a ha => by rw [hM']; exact h3 a ha, fun j hj => by rw [hM']; exact h4 j hj, ?_, by rw [hM', dm_wi1, dm_up1]; exact hv⟩
        rw [hM', dm_wi3, h5]
        unfold lX
        split
        · rename_i q; rw [oB_y q hc]
        · rename_i q; rw [oB_1 q]
      have eA : oA T n m = max (und T n (cG T m) : Int) (lY T n m 4) := by
        unfold lY
        split
        · rename_i q; rw [oA_y q hc]
        · rename_i q
          rw [oA_1 q, (con_all hV (fun p hp => by
            have e : m = cC T - 1 := by omega
            rw [e]
            exact dg_last hp)).2]
          rfl
      refine And.intro (fun z => ?_) (fun z => ?_)
      · have z' : (und T n (cG T m) : Int) ≤ lY T n m 4 := z
        (repeat (first | refine And.intro ⟨by (try dsimp only); omega, by (try dsimp only); omega⟩ ?_ | refine And.intro (Or.inl rfl) ?_ | refine And.intro (Or.inr rfl) ?_))
        dsimp only
        rw [em]
        intro M' hM'
        exact fin _ (by rw [eA]; omega) M' hM'
      · have z' : lY T n m 4 < (und T n (cG T m) : Int) := z
        (repeat (first | refine And.intro ⟨by (try dsimp only); omega, by (try dsimp only); omega⟩ ?_ | refine And.intro (Or.inl rfl) ?_ | refine And.intro (Or.inr rfl) ?_))
        dsimp only
        rw [em]
        intro M' hM'
        exact fin _ (by rw [eA]; omega) M' hM'
    · have hh : (p : Int) < 4 := h
      have hp : p < 4 := by omega
      have ep : (p : Int).toNat = p := by omega
      have h6 := ln_eq hV.1 hp
      have GN : mG N T n i := ⟨by rw [h2]; exact hG.1, by rw [h2]; exact hG.2.1, rp_fr hG.2.2 (fun a _ _ => by rw [h2])⟩
      have g3 := GN.2.2.2.2.1 p hp
      have er : (4 * N.1 62 27 + (p : Int)).toNat = 4 * i + p := by rw [GN.1]; omega
      have gl : cG T m p ≤ ln T p := dg_le _ _ _
      have sC : st (ln T) p ≤ cC T := st_mono (ln T) (by omega)
      have sp := st_pos (ln T) p
      refine Exists.intro _ (And.intro (k_come _ n s i m p N T hi hV GN hm hp) ?_)
      rintro r M0 ⟨rfl, rfl⟩
      refine And.intro (show dt_r (4 * M0.1 62 27) by rw [GN.1]; exact ⟨by omega, by omega⟩) (And.intro (show dt_r (4 * M0.1 62 27 + (p : Int)) by rw [GN.1]; exact ⟨by omega, by omega⟩) (And.intro (show 0 ≤ 4 * M0.1 62 27 + (p : Int) ∧ 4 * M0.1 62 27 + (p : Int) < 16 by rw [GN.1]; exact ⟨by omega, by omega⟩) ?_))
      dsimp only
      rw [er, g3, h6.1]
      refine And.intro (fun z => ?_) (fun z => ?_)
      · have z' : ¬ cG T m p < ln T p := by omega
        have e1 : lX T n m (p + 1) = lX T n m p := by
          unfold lX
          split
          · show sm (oT T n m) p + oT T n m p = _
            rw [show oT T n m p = 0 from if_neg z', Int.add_zero]
          · rfl
        have e2 : lY T n m (p + 1) = lY T n m p := by
          unfold lY
          split
          · show (if oU T n m p < mn (oU T n m) p then oU T n m p else mn (oU T n m) p) = _
            rw [show oU T n m p = 99 from if_neg z', if_neg (by have := mn_99 (f := oU T n m) (k := p); omega)]
          · rfl
        exact And.intro ⟨by (try dsimp only); omega, by (try dsimp only); omega⟩ (hJ (p + 1, M0) _ ⟨by dsimp only; omega, h2, h3, h4, by dsimp only; rw [e1]; exact h5⟩ (by dsimp only; omega) ⟨rfl, rfl, rfl, congrArg Sum.inl e2, rfl, trivial⟩)
      · have z' : cG T m p < ln T p := by omega
        have u : m + st (ln T) p < cC T := (cu_up (c := m) (m := 4) (l := ln T) hm hp z').1
        have hl : m + 1 < cC T := by omega
        have hOO := hO (m + st (ln T) p) (by omega) u
        have N78 : M0.1 78 p = (st (ln T) p : Int) := GN.2.1 p (by omega)
        have el : ((m : Int) + (st (ln T) p : Int)).toNat = m + st (ln T) p := by omega
        have e1 : lX T n m (p + 1) = lX T n m p + oB T n (m + st (ln T) p) := by
          unfold lX
          rw [if_pos hl, if_pos hl]
          show sm (oT T n m) p + oT T n m p = _
          rw [show oT T n m p = oB T n (m + st (ln T) p) from if_pos z']
        have e2 : lY T n m (p + 1) = if oA T n (m + st (ln T) p) < lY T n m p then oA T n (m + st (ln T) p) else lY T n m p := by
          unfold lY
          rw [if_pos hl, if_pos hl]
          show (if oU T n m p < mn (oU T n m) p then oU T n m p else mn (oU T n m) p) = _
          rw [show oU T n m p = oA T n (m + st (ln T) p) from if_pos z']
        have ob0 := oB_0 (T := T) (n := n) (c := m + st (ln T) p)
        have ob1 := oB_big (n := n) hV.1 u
        have n79 : M0.2 79 (m + st (ln T) p) = oB T n (m + st (ln T) p) := by rw [h4 _ (by omega)]; exact hOO.1
        have n80 : M0.1 80 (m + st (ln T) p) = oA T n (m + st (ln T) p) := by rw [h2]; exact hOO.2
        (repeat (first | refine And.intro ⟨by (try dsimp only); omega, by (try dsimp only); omega⟩ ?_ | refine And.intro (Or.inl rfl) ?_ | refine And.intro (Or.inr rfl) ?_))
        dsimp only
        rw [ep, N78]
        (repeat (first | refine And.intro ⟨by (try dsimp only); omega, by (try dsimp only); omega⟩ ?_ | refine And.intro (Or.inl rfl) ?_ | refine And.intro (Or.inr rfl) ?_))
        dsimp only
        rw [el, em, n79, h5]
        refine And.intro ⟨by omega, by omega⟩ ?_
        (repeat (first | refine And.intro ⟨by (try dsimp only); omega, by (try dsimp only); omega⟩ ?_ | refine And.intro (Or.inl rfl) ?_ | refine And.intro (Or.inr rfl) ?_))
        intro M1 hM1
        have hM1' : M1 = dt_wl M0 79 m (lX T n m p + oB T n (m + st (ln T) p)) := hM1
        have q1 : M1.1 = M0.1 := by rw [hM1']; rfl
        rw [← q1] at N78 n80
        have fin : ∀ v : Int, v = lY T n m (p + 1) → ∀ w, dt_r ((p : Int) + 1) ∧ J 48 [some qM, some (.inl m), some (.inl (und T n (cG T m))), w, some (.inl v), some (.inl ((p : Int) + 1))] [] M1 := by
          intro v hv w
          refine And.intro ⟨by omega, by omega⟩ (hJ (p + 1, M1) _ ⟨by dsimp only; omega, by dsimp only; rw [q1]; exact h2, fun a ha => by dsimp only; rw [hM1', dm_wl2 ha]; exact h3 a ha, fun j hj => by dsimp only; rw [hM1', dm_wl1, dm_up2 hj]; exact h4 j hj, by dsimp only; rw [hM1', dm_wl1, dm_up1, e1]⟩ (by dsimp only; omega) ⟨rfl, rfl, rfl, congrArg Sum.inl hv.symm, rfl, trivial⟩)
        (repeat (first | refine And.intro ⟨by (try dsimp only); omega, by (try dsimp only); omega⟩ ?_ | refine And.intro (Or.inl rfl) ?_ | refine And.intro (Or.inr rfl) ?_))
        dsimp only
        rw [ep, N78]
        (repeat (first | refine And.intro ⟨by (try dsimp only); omega, by (try dsimp only); omega⟩ ?_ | refine And.intro (Or.inl rfl) ?_ | refine And.intro (Or.inr rfl) ?_))
        dsimp only
        rw [el, n80]
        refine And.intro (fun y => ?_) (fun y => ?_)
        · exact fin _ (by rw [e2, if_neg (by omega)]) _
        · (repeat (first | refine And.intro ⟨by (try dsimp only); omega, by (try dsimp only); omega⟩ ?_ | refine And.intro (Or.inl rfl) ?_ | refine And.intro (Or.inr rfl) ?_))
          dsimp only
          rw [ep, N78]
          (repeat (first | refine And.intro ⟨by (try dsimp only); omega, by (try dsimp only); omega⟩ ?_ | refine And.intro (Or.inl rfl) ?_ | refine And.intro (Or.inr rfl) ?_))
          dsimp only
          rw [el, n80]
          exact (fin _ (by rw [e2, if_pos (by omega)]) _).2
