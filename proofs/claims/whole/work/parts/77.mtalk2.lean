theorem tv_of {U : Nat → Nat → Int} {n s : Nat} (hB : tB U n s) (hS : tS U n) (h : n = 2 * s) : tV U n s := ⟨hB, hS, h⟩
theorem k_readTalk (d L : Nat) (M : dt_M) (x : Nat → Int) (E : Nat → Nat → Int) (hE : tk_0 E) (hT : mtx M x L) : dt_Sp mX7_readTalk (d + 4) [qM] M (fun r M' => zfr M M' ∧ ((∃ f : Nat, ps x L 21 E 0 = .inl f ∧ r = some (.inl (f : Int)) ∧ f ≤ 300) ∨ (∃ U n s, ps x L 21 E 0 = .inr U ∧ r = some (.inl (-9)) ∧ tV U n s ∧ rn M' U n s))) := by
  have hL := hT.2.1
  refine dt_meth okX7_readTalk (fun pc => pc == 13) 70 (σ := Nat × dt_M × (Nat → Nat → Int) × Nat × Nat × Int × Nat) (fun _ => 13) (fun t => [some qM, none]) (fun t => t.2.1)
    (fun t => zfr M t.2.1 ∧ (∃ s, rn t.2.1 t.2.2.1 t.1 s ∧ tB t.2.2.1 t.1 s ∧ tS t.2.2.1 t.1) ∧ tx_t x L t.2.2.2.1 t.2.2.2.2.1 t.2.2.2.2.2.1 t.2.2.2.2.2.2 ∧ t.2.1.1 62 19 = (t.2.2.2.2.1 : Int) ∧ t.2.1.1 62 20 = t.2.2.2.2.2.1 ∧ t.2.1.1 62 18 = (t.2.2.2.2.2.2 : Int) ∧ t.1 ≤ 20 ∧ ps x L 21 E 0 = ps x L (21 - t.1) t.2.2.1 t.2.2.2.1) (fun t => 21 - t.1) (by decide) (Nat.le_of_ble_eq_true rfl) ?_ ?_
  · intro J hJ
    refine Exists.intro _ (And.intro (k_beginTalk _ M) ?_)
    rintro r M1 ⟨rfl, g1, g2, g3, g4⟩
    intro M2 hM2
    have hM2' : M2 = dt_wi M1 62 18 0 := hM2
    have f2 : ufr M1 M2 := ufr_e hM2' (by decide)
    have z2 := (zfr_n g1).tr (zfr_u f2)
    refine Exists.intro _ (And.intro (k_readToken _ 0 L M2 x (z2.tx hT) (by rw [hM2', dm_wi1, dm_up1]; rfl) (Nat.zero_le _)) ?_)
    rintro r M3 ⟨rfl, f3, b, k, c, t1, e9, e0, e8⟩
    exact hJ (0, M3, E, 0, b, k, c) _ ⟨z2.tr (zfr_u f3), ⟨0, f3.rn (f2.rn (rn_0 g2 g3 g4)), tk_0B hE, tS_0 hE⟩, t1, e9, e0, e8, Nat.zero_le _, rfl⟩ ⟨rfl, trivial⟩
  · rintro ⟨n, N, U, a, b, k, c⟩ ⟨f1, ⟨s, hR, hB, hS⟩, t1, e9, e0, e8, n20, hps⟩ J hJ
    dsimp only at f1 hR hB hS t1 e9 e0 e8 n20 hps hJ
    rw [show 21 - n = (20 - n) + 1 by omega] at hps
    have r1 := tx_t_r t1
    have u7 : U 0 7 = (n : Int) := hB.1.1
    have u8 : U 0 8 = (s : Int) := hB.1.2.1
    have s10 := hB.1.2.2.1
    have e11 : N.1 62 11 = (s : Int) := hR.1.2.1
    have e12 : N.1 62 12 = 2 * (s : Int) - (n : Int) := hR.1.2.2
    have nle : n ≤ 2 * s := by have := hB.1.2.2.2.2; omega
    refine And.intro (fun z => ?_) (fun z => ?_)
    · have z' : N.1 62 20 = 40 := z
      rw [ps_e t1 (by omega), u7, u8] at hps
      refine And.intro (fun y => ?_) (fun y => ?_)
      · have y' : N.1 62 12 ≤ 0 := y
        rw [if_pos (by omega)] at hps
        exact ⟨f1, Or.inr ⟨U, n, s, hps, rfl, tv_of hB hS (by omega), hR⟩⟩
      · have y' : 0 < N.1 62 12 := y
        rw [if_neg (by omega)] at hps
        refine ⟨f1, Or.inl ⟨L, hps, ?_, hL⟩⟩
        show some (Sum.inl (N.1 62 8)) = _
        rw [(f1.tx hT).1]
    · have z' : ¬ N.1 62 20 = 40 := z
      have k40 : k ≠ 40 := by omega
      have stop : ¬ ((k = 10 ∧ U 0 8 < 10) ∨ k = 11) → zfr M N ∧ ((∃ f : Nat, ps x L 21 E 0 = .inl f ∧ (some (.inl (N.1 62 19)) : Option dt_V) = some (.inl (f : Int)) ∧ f ≤ 300) ∨ (∃ U n s, ps x L 21 E 0 = .inr U ∧ (some (.inl (N.1 62 19)) : Option dt_V) = some (.inl (-9)) ∧ tV U n s ∧ rn N U n s)) := by
        intro nc
        rw [ps_n t1 k40 nc] at hps
        exact ⟨f1, Or.inl ⟨b, hps, by rw [e9], by omega⟩⟩
      have go : ∀ w : Int, ((k = 11 ∧ w = 1) ∨ (k = 10 ∧ w = 0 ∧ s < 10)) → ∃ Ψ : Option dt_V → dt_M → Prop, dt_Sp mX7_readsEvent (d + 3) [qM, .inl w] N Ψ ∧ ∀ rv M', Ψ rv M' → (rv = some (.inl 0) ∧ zfr M M' ∧ ((∃ f : Nat, ps x L 21 E 0 = .inl f ∧ (some (.inl (M'.1 62 19)) : Option dt_V) = some (.inl (f : Int)) ∧ f ≤ 300) ∨ (∃ U n s, ps x L 21 E 0 = .inr U ∧ (some (.inl (M'.1 62 19)) : Option dt_V) = some (.inl (-9)) ∧ tV U n s ∧ rn M' U n s))) ∨ (rv = some (.inl 1) ∧ ∃ Ψ2 : Option dt_V → dt_M → Prop, dt_Sp mX7_readToken (d + 3) [qM] M' Ψ2 ∧ ∀ rv2 M2, Ψ2 rv2 M2 → rv2 = none ∧ J 13 [some qM, some (.inl 1)] [] M2) := by
        intro w hw
        have can : (k = 10 ∧ s < 10) ∨ k = 11 := by omega
        refine Exists.intro _ (And.intro (k_readsEvent d c L n s k w N x U (f1.tx hT) e8 (by omega) hw hR hB) ?_)
        rintro rv M' ⟨f2, (⟨f, he, rfl, e5, fL⟩ | ⟨U', a', s', he, rfl, e5, ha', hR', hB'⟩)⟩
        · rw [ps_f t1 (by rw [u8]; omega) he] at hps
          exact Or.inl ⟨rfl, f1.tr f2, Or.inl ⟨f, hps, by rw [e5], by omega⟩⟩
        · rw [ps_y t1 (by rw [u8]; omega) he] at hps
          obtain ⟨k19, s'', hB'', hS''⟩ := ev_ok he hB hS can
          refine Or.inr ⟨rfl, ?_⟩
          refine Exists.intro _ (And.intro (k_readToken (d + 1) a' L M' x ((f1.tr f2).tx hT) e5 ha') ?_)
          rintro rv2 M2 ⟨rfl, f3, b', k', c', t2, e9', e0', e8'⟩
          refine ⟨rfl, hJ (n + 1, M2, U', a', b', k', c') _ ⟨(f1.tr f2).tr (zfr_u f3), ⟨s', f3.rn hR', hB', hS''⟩, t2, e9', e0', e8', by dsimp only; omega, by dsimp only; rw [hps]; congr 1; omega⟩ (by dsimp only; omega) ⟨rfl, trivial⟩⟩
      have run : ∀ w : Int, ((k = 11 ∧ w = 1) ∨ (k = 10 ∧ w = 0 ∧ s < 10)) → ∃ Ψ : Option dt_V → dt_M → Prop, dt_Sp mX7_readsEvent (d + 3) [qM, .inl w] N Ψ ∧ ∀ rv M', Ψ rv M' → ∃ q : Int, rv = some (.inl q) ∧ (q ≠ 0 → ∃ Ψ2 : Option dt_V → dt_M → Prop, dt_Sp mX7_readToken (d + 3) [qM] M' Ψ2 ∧ ∀ rv2 M2, Ψ2 rv2 M2 → rv2 = none ∧ J 13 [some qM, some (.inl 1)] [] M2) ∧ (q = 0 → zfr M M' ∧ ((∃ f : Nat, ps x L 21 E 0 = .inl f ∧ (some (.inl (M'.1 62 19)) : Option dt_V) = some (.inl (f : Int)) ∧ f ≤ 300) ∨ (∃ U n s, ps x L 21 E 0 = .inr U ∧ (some (.inl (M'.1 62 19)) : Option dt_V) = some (.inl (-9)) ∧ tV U n s ∧ rn M' U n s))) := by
        intro w hw
        obtain ⟨Ψ, p1, p2⟩ := go w hw
        refine ⟨Ψ, p1, fun rv M' h => ?_⟩
        rcases p2 rv M' h with ⟨q1, q2⟩ | ⟨q1, q2⟩
        · exact ⟨0, q1, fun z => absurd rfl z, fun _ => q2⟩
        · exact ⟨1, q1, fun _ => q2, fun z => absurd z (by decide)⟩
      refine And.intro (fun z1 => ?_) (fun z1 => ?_)
      · have z1' : ¬ N.1 62 20 = 10 := z1
        refine And.intro (fun z2 => ?_) (fun z2 => ?_)
        · have z2' : ¬ N.1 62 20 = 11 := z2
          refine And.intro (fun _ => ?_) (fun h => absurd rfl h)
          exact stop (by rw [u8]; omega)
        · have z2' : N.1 62 20 = 11 := z2
          refine And.intro (fun h => absurd (show (1 : Int) = 0 from h) (by decide)) (fun _ => ?_)
          refine And.intro (fun h => absurd z2' h) (fun _ => ?_)
          obtain ⟨Ψ, p1, p2⟩ := run 1 (Or.inl ⟨by omega, rfl⟩)
          refine Exists.intro Ψ (And.intro p1 ?_)
          intro rv M' hΨ
          obtain ⟨q, rfl, q1, q2⟩ := p2 rv M' hΨ
          refine And.intro (fun h => ?_) (fun h => q2 h)
          obtain ⟨Ψ2, p3, p4⟩ := q1 h
          refine Exists.intro Ψ2 (And.intro p3 ?_)
          intro rv2 M2 h2
          obtain ⟨rfl, hj⟩ := p4 rv2 M2 h2
          exact hj
      · have z1' : N.1 62 20 = 10 := z1
        refine And.intro (fun z3 => ?_) (fun z3 => ?_)
        · have z3' : N.1 62 11 < 10 := z3
          refine And.intro (fun h => absurd (show (1 : Int) = 0 from h) (by decide)) (fun _ => ?_)
          refine And.intro (fun _ => ?_) (fun h => absurd (show N.1 62 20 = 11 from h) (by omega))
          obtain ⟨Ψ, p1, p2⟩ := run 0 (Or.inr ⟨by omega, rfl, by omega⟩)
          refine Exists.intro Ψ (And.intro p1 ?_)
          intro rv M' hΨ
          obtain ⟨q, rfl, q1, q2⟩ := p2 rv M' hΨ
          refine And.intro (fun h => ?_) (fun h => q2 h)
          obtain ⟨Ψ2, p3, p4⟩ := q1 h
          refine Exists.intro Ψ2 (And.intro p3 ?_)
          intro rv2 M2 h2
          obtain ⟨rfl, hj⟩ := p4 rv2 M2 h2
          exact hj
        · have z3' : 10 ≤ N.1 62 11 := z3
          refine And.intro (fun z2 => ?_) (fun z2 => absurd (show N.1 62 20 = 11 from z2) (by omega))
          refine And.intro (fun _ => ?_) (fun h => absurd rfl h)
          exact stop (by rw [u8]; omega)
theorem k_talk (d L : Nat) (i : Int) (M : dt_M) (x : Nat → Int) (E : Nat → Nat → Int) (hE : tk_0 E) (hT : mtx M x L) : dt_Sp mX7_talk (d + 5) [qM, .inl i] M (fun r M' =>
    (¬ (0 ≤ i ∧ i < 4) ∧ r = some (.inl (-1)) ∧ M' = M) ∨
    ((0 ≤ i ∧ i < 4) ∧ ((∃ f : Nat, ps x L 21 E 0 = .inl f ∧ r = some (.inl (-10 - (f : Int))) ∧ zfr M M') ∨
      (∃ U n s, ps x L 21 E 0 = .inr U ∧ tV U n s ∧ r = some (.inl (n : Int)) ∧ ∃ M1, ((∀ a, a ≠ 62 → (a < 72 ∨ 76 < a) → M1.1 a = M.1 a) ∧ (∀ j, (j < 8 ∨ j = 9 ∨ (12 < j ∧ j < 18) ∨ 20 < j) → M1.1 62 j = M.1 62 j) ∧ M1.2 = M.2 ∧ M1.1 62 8 = 0) ∧ kfr M1 M' i.toNat ∧ rp M' i.toNat U n)))) := by
  refine dt_flat okX7_talk 60 (by decide) (Nat.le_of_ble_eq_true rfl) (fun J => ?_)
  refine Exists.intro _ (And.intro (c_noTalk _ i M) ?_)
  rintro r M0 ⟨rfl, rfl⟩
  by_cases hi : 0 ≤ i ∧ i < 4
  · rw [if_pos hi]
    refine And.intro (fun _ => ?_) (fun h => absurd rfl h)
    refine Exists.intro _ (And.intro (k_readTalk d L M0 x E hE hT) ?_)
    rintro r M1 ⟨f1, (⟨f, hp, rfl, f300⟩ | ⟨U, n, s, hp, rfl, hV, hR⟩)⟩
    · refine And.intro (fun h => absurd (show (f : Int) < 0 from h) (by omega)) (fun _ => ?_)
      refine And.intro (show dt_r (-10 - (f : Int)) from ⟨by omega, by omega⟩) ?_
      exact Or.inr ⟨hi, Or.inl ⟨f, hp, rfl, f1⟩⟩
    · refine And.intro (fun _ => ?_) (fun h => absurd (show (0 : Int) ≤ -9 from h) (by decide))
      intro M2 hM2
      have hM2' : M2 = dt_wi M1 62 8 0 := hM2
      have hR2 : rn M2 U n s := by
        obtain ⟨⟨k1, k2, k3⟩, k4⟩ := hR
        refine ⟨⟨by rw [hM2', dm_wi1, dm_up2 (by decide)]; exact k1, by rw [hM2', dm_wi1, dm_up2 (by decide)]; exact k2, by rw [hM2', dm_wi1, dm_up2 (by decide)]; exact k3⟩, fun j hj => ?_⟩
        rw [hM2', dm_wi2 (by decide), dm_wi2 (by decide), dm_wi2 (by decide), dm_wi2 (by decide), dm_wi2 (by decide)]
        exact k4 j hj
      have h6 := k_keep (d + 4) i.toNat n s M2 U (by omega) hV hR2
      rw [show ((i.toNat : Nat) : Int) = i by omega] at h6
      refine Exists.intro _ (And.intro h6 ?_)
      rintro r M3 ⟨rfl, u1, u2⟩
      exact Or.inr ⟨hi, Or.inr ⟨U, n, s, hp, hV, rfl, M2, ⟨fun a y z => by rw [hM2', dm_wi2 y]; exact f1.1 a y z, fun j hj => by rw [hM2', dm_wi1, dm_up2 (by omega)]; exact f1.2.1 j (by omega), by rw [hM2']; exact f1.2.2, by rw [hM2', dm_wi1, dm_up1]⟩, u1, u2⟩⟩
  · rw [if_neg hi]
    refine And.intro (fun h => absurd (show (1 : Int) = 0 from h) (by decide)) (fun _ => ?_)
    exact Or.inl ⟨hi, rfl, rfl⟩
