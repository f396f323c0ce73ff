/-! ===== readInto, talk of the class ===== -/
theorem ev_ok {x : Nat → Int} {L a a' n s : Nat} {U U' : Nat → Nat → Int} {v : Int} (h : ev x L U v a = .inr (U', a')) (hB : tB U n s) (hS : tS U n) (hv : (v = 10 ∧ s < 10) ∨ v = 11) : n < 20 ∧ ∃ s', tB U' (n + 1) s' ∧ tS U' (n + 1) := by
  unfold ev at h
  split at h
  · next q1 =>
    unfold ev2 at h
    split at h
    · next q2 =>
      unfold ev3 at h
      split at h
      · next q3 =>
        unfold ev4 at h
        split at h
        · cases h
          exact evT_B hB hS hv q1 q2 q3
        · cases h
      · cases h
    · cases h
  · cases h
theorem efr.tx {M M' : dt_M} {x : Nat → Int} {L : Nat} (h : efr M M') (k : rtx M x L) : rtx M' x L := ⟨by rw [h.2.1]; exact k.1, k.2.1, fun j hj => by rw [h.1 43 (by omega)]; exact k.2.2 j hj⟩
theorem c_readInto (d L : Nat) (M : dt_M) (x : Nat → Int) (hT : rtx M x L) : dt_Sp mX3_readInto (d + 8) [qRd, qT 34] M (fun r M' => ∃ E, tk_0 E ∧ efr M M' ∧ ((∃ f : Nat, ps x L 21 E 0 = .inl f ∧ r = some (.inl (f : Int)) ∧ f ≤ 300) ∨ (∃ U n s, ps x L 21 E 0 = .inr U ∧ r = some (.inl (-1)) ∧ (∀ g, g < 8 → tk M' 34 g = U g) ∧ tV U n s))) := by
  have hL := hT.2.1
  refine dt_meth okX3_readInto (fun pc => pc == 11) 60 (σ := Nat × dt_M × (Nat → Nat → Int) × Nat × (Nat → Nat → Int)) (fun _ => 11) (fun t => [some qRd, some (qT 34), some (.inl t.1)]) (fun t => t.2.1)
    (fun t => t.1 ≤ 20 ∧ efr M t.2.1 ∧ (∀ g, g < 8 → tk t.2.1 34 g = t.2.2.1 g) ∧ (∃ s, tB t.2.2.1 t.1 s ∧ tS t.2.2.1 t.1) ∧ t.2.1.1 42 2 = (t.2.2.2.1 : Int) ∧ t.2.2.2.1 ≤ L ∧ tk_0 t.2.2.2.2 ∧ ps x L 21 t.2.2.2.2 0 = ps x L (21 - t.1) t.2.2.1 t.2.2.2.1) (fun t => 21 - t.1) (by decide) (Nat.le_of_ble_eq_true rfl) ?_ ?_
  · intro J hJ
    refine Exists.intro _ (And.intro (c_empty _ 34 M) ?_)
    rintro r M1 ⟨rfl, g1, g2, g3, g4⟩
    have hE : tk_0 (tk M1 34) := ⟨by rw [g2, dm_up2 (by decide), dm_up1], by rw [g2, dm_up1], g4⟩
    intro M2 hM2
    have hM2' : M2 = dt_wi M1 42 2 0 := hM2
    have f2 : qfr M1 M2 := qfr_e hM2' (by decide)
    have row : ∀ g, g < 8 → tk M2 34 g = tk M1 34 g := fun g hg => f2.1 (34 + g) (by omega)
    exact hJ (0, M2, tk M1 34, 0, tk M1 34) _ ⟨Nat.zero_le _, (efr_t g1).tr (efr_q f2), row, ⟨0, tk_0B hE, tS_0 hE⟩, by dsimp only; rw [hM2', dm_wi1, dm_up1]; rfl, Nat.zero_le _, hE, rfl⟩ ⟨rfl, rfl, rfl, trivial⟩
  · rintro ⟨k, N, U, a, E⟩ ⟨k20, f1, hU, ⟨s, hB, hS⟩, n2, haL, hE, hps⟩ J hJ
    dsimp only at k20 f1 hU hB hS n2 haL hE hps hJ
    rw [show 21 - k = (20 - k) + 1 by omega] at hps
    refine And.intro (fun hh => absurd (show (20 : Int) < (k : Int) from hh) (by omega)) (fun _ => ?_)
    refine Exists.intro _ (And.intro (c_nextIs _ a L 5 N x (f1.tx hT) n2 haL) ?_)
    rintro r M1 ⟨q1, b, kk, c, t1, e3, hkk, e2, rfl⟩
    have hkk' := hkk
    unfold tx_k at hkk'
    have r1 := tx_t_r t1
    have f2 := f1.tr (efr_q q1)
    have hU1 := q1.tk hU
    have m7 : M1.1 34 7 = (k : Int) := (congrFun (hU1 0 (by omega)) 7).trans hB.1.1
    have m8 : M1.1 34 8 = (s : Int) := (congrFun (hU1 0 (by omega)) 8).trans hB.1.2.1
    have u7 : U 0 7 = (k : Int) := hB.1.1
    have u8 : U 0 8 = (s : Int) := hB.1.2.1
    have s10 := hB.1.2.2.1
    by_cases q40 : kk = 40
    · have v4 : M1.1 42 4 = 5 := by omega
      rw [if_pos v4]
      rw [ps_e t1 q40] at hps
      refine And.intro (fun h => absurd (show (1 : Int) = 0 from h) (by decide)) (fun _ => ?_)
      refine Exists.intro _ (And.intro (c_isWhole _ 34 M1 (show -100 ≤ M1.1 34 8 ∧ M1.1 34 8 ≤ 100 by omega)) ?_)
      rintro r M2 ⟨rfl, rfl⟩
      have w7 : tk M2 34 0 7 = (k : Int) := m7
      have w8 : tk M2 34 0 8 = (s : Int) := m8
      rw [w7, w8]
      rw [u7, u8] at hps
      by_cases hw : (k : Int) = 2 * (s : Int)
      · rw [if_pos hw]
        rw [if_pos hw] at hps
        refine And.intro (fun h => absurd (show (1 : Int) = 0 from h) (by decide)) (fun _ => ?_)
        exact ⟨E, hE, f2, Or.inr ⟨U, k, s, hps, rfl, hU1, hB, hS, by omega⟩⟩
      · rw [if_neg hw]
        rw [if_neg hw] at hps
        refine And.intro (fun _ => ?_) (fun h => absurd rfl h)
        refine ⟨E, hE, f2, Or.inl ⟨L, hps, ?_, hL⟩⟩
        show some (Sum.inl (M2.1 42 1)) = _
        rw [(f2.tx hT).1]
    · have v4 : ¬ M1.1 42 4 = 5 := by omega
      rw [if_neg v4]
      refine And.intro (fun _ => ?_) (fun h => absurd rfl h)
      refine Exists.intro _ (And.intro (c_readEvent _ c L k s kk M1 x U (f2.tx hT) e2 (by omega) hkk hU1 hB) ?_)
      rintro r M2 (⟨nc, rfl, rfl⟩ | ⟨can, f3, (⟨f, he, rfl, e4, fL⟩ | ⟨U', a', he, rfl, e4, ha', hU2⟩)⟩)
      · refine And.intro (fun h => absurd rfl h) (fun _ => ?_)
        rw [ps_n t1 q40 (by rw [u8]; omega)] at hps
        refine ⟨E, hE, f2, Or.inl ⟨b, hps, ?_, by omega⟩⟩
        show some (Sum.inl (M2.1 42 3)) = _
        rw [e3]
      · refine And.intro (fun h => absurd rfl h) (fun _ => ?_)
        rw [ps_f t1 (by rw [u8]; omega) he] at hps
        refine ⟨E, hE, f2.tr f3, Or.inl ⟨f, hps, ?_, by omega⟩⟩
        show some (Sum.inl (M2.1 42 3)) = _
        rw [e4]
      · refine And.intro (fun _ => ?_) (fun h => absurd (show (1 : Int) = 0 from h) (by decide))
        rw [ps_y t1 (by rw [u8]; omega) he] at hps
        obtain ⟨k19, s', hB', hS'⟩ := ev_ok he hB hS can
        exact And.intro ⟨by (try dsimp only); omega, by (try dsimp only); omega⟩ (hJ (k + 1, M2, U', a', E) _ ⟨by dsimp only; omega, f2.tr f3, hU2, ⟨s', hB', hS'⟩, e4, ha', hE, by dsimp only; rw [hps]; congr 1; omega⟩ (by dsimp only; omega) ⟨rfl, rfl, rfl, trivial⟩)
theorem c_talk (d L : Nat) (i : Int) (M : dt_M) (x : Nat → Int) (hT : rtx M x L) : dt_Sp mX6_talk (d + 9) [qX, .inl i] M (fun r M' =>
    (¬ (0 ≤ i ∧ i < 4) ∧ r = some (.inl (-1)) ∧ M' = M) ∨
    ((0 ≤ i ∧ i < 4) ∧ ∃ E, tk_0 E ∧ ((∃ f : Nat, ps x L 21 E 0 = .inl f ∧ r = some (.inl (-10 - (f : Int))) ∧ efr M M') ∨
      (∃ U n s, ps x L 21 E 0 = .inr U ∧ tV U n s ∧ r = some (.inl (n : Int)) ∧ ((∀ a, (a < 2 + 8 * i.toNat ∨ 2 + 8 * i.toNat + 8 ≤ a) → (a < 34 ∨ 43 ≤ a) → M'.1 a = M.1 a) ∧ M'.2 = M.2) ∧ M'.1 42 1 = 0 ∧ tV (tk M' (2 + 8 * i.toNat)) n s ∧ tk_eq n (tk M' (2 + 8 * i.toNat)) U)))) := by
  refine dt_flat okX6_talk 60 (by decide) (Nat.le_of_ble_eq_true rfl) (fun J => ?_)
  refine Exists.intro _ (And.intro (c_isTalk _ i M) ?_)
  rintro r M0 ⟨rfl, rfl⟩
  by_cases hi : 0 ≤ i ∧ i < 4
  · rw [if_pos hi]
    refine And.intro (fun _ => ?_) (fun h => absurd (show (1 : Int) = 0 from h) (by decide))
    refine Exists.intro _ (And.intro (c_readInto d L M0 x hT) ?_)
    rintro r M1 ⟨E, hE, f1, (⟨f, hp, rfl, f300⟩ | ⟨U, n, s, hp, rfl, hU, hV⟩)⟩
    · refine And.intro (fun h => absurd (show (f : Int) = -1 from h) (by omega)) (fun _ => ?_)
      refine And.intro (show dt_r (-10 - (f : Int)) from ⟨by omega, by omega⟩) ?_
      exact Or.inr ⟨hi, E, hE, Or.inl ⟨f, hp, rfl, f1⟩⟩
    · refine And.intro (fun _ => ?_) (fun h => absurd rfl h)
      intro M2 hM2
      have hM2' : M2 = dt_wi M1 42 1 0 := hM2
      have row : ∀ g, g < 8 → tk M2 34 g = U g := fun g hg => by
        rw [← hU g hg]
        show M2.1 (34 + g) = M1.1 (34 + g)
        rw [hM2', dm_wi2 (by omega)]
      have hkb := c_keepBuilt (d + 4) n s i.toNat M2 (by omega) (tV_row row hV)
      rw [show ((i.toNat : Nat) : Int) = i by omega] at hkb
      refine Exists.intro _ (And.intro hkb ?_)
      rintro r M3 ⟨rfl, o1, o2, o3⟩
      refine Or.inr ⟨hi, E, hE, Or.inr ⟨U, n, s, hp, hV, rfl, ⟨fun a y z => by rw [o1.1 a y, hM2', dm_wi2 (by omega)]; exact f1.1 a z, by rw [o1.2, hM2']; exact f1.2.2⟩, by rw [o1.1 42 (by omega), hM2', dm_wi1, dm_up1], o2, ?_⟩⟩
      exact o3.tr ⟨by rw [row 0 (by omega)], by rw [row 0 (by omega)], fun g a b j hj => by rw [row g (by omega)], fun p hp => by rw [row 6 (by omega)], fun p hp j hj => by rw [row 7 (by omega)]⟩
  · rw [if_neg hi]
    refine And.intro (fun h => absurd rfl h) (fun _ => ?_)
    exact Or.inl ⟨hi, rfl, rfl⟩
