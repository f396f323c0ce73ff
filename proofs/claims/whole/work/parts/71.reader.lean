/-! ===== Reader: words and tokens ===== -/
def qf2 (M M' : dt_M) : Prop := (∀ a, a ≠ 42 → M'.1 a = M.1 a) ∧ (∀ j, j ≠ 2 → M'.1 42 j = M.1 42 j) ∧ M'.2 = M.2
theorem qf2.q {M M' : dt_M} (h : qf2 M M') : qfr M M' := ⟨h.1, h.2.1 1 (by decide), h.2.2⟩
theorem c_readWord (d b L : Nat) (M : dt_M) (x : Nat → Int) (hT : rtx M x L) (h2 : M.1 42 2 = (b : Int)) (h3' : M.1 42 3 = (b : Int)) (hb : b < L) (hl : 97 ≤ x b ∧ x b ≤ 122) : dt_Sp mX3_readWord (d + 5) [qRd] M (fun r M' => r = none ∧ qfr M M' ∧ M'.1 42 3 = (b : Int) ∧ ∃ c k, tx_w x L b c ∧ M'.1 42 2 = (c : Int) ∧ tx_c x b c k ∧ tx_k k (M'.1 42 4) (M'.1 42 5)) := by
  obtain ⟨t1, t2, t3⟩ := hT
  refine dt_meth0 okX3_readWord (fun pc => pc == 0 || pc == 39) 60 (σ := Nat × Nat × dt_M) (fun t => h3 t.1 0 39 39) (fun t => [some qRd]) (fun t => t.2.2)
    (fun t => t.1 < 2 ∧ b ≤ t.2.1 ∧ t.2.1 ≤ L ∧ qf2 M t.2.2 ∧ t.2.2.1 42 2 = (t.2.1 : Int) ∧ (∀ j, b ≤ j → j < t.2.1 → 97 ≤ x j ∧ x j ≤ 122) ∧ (t.1 = 1 → tx_w x L b t.2.1))
    (fun t => (L - t.2.1) * 2 + h3 t.1 1 0 0) (by decide) (Nat.le_of_ble_eq_true rfl) (0, b, M) ⟨by dsimp only; omega, Nat.le_refl _, Nat.le_of_lt hb, ⟨fun _ _ => rfl, fun _ _ => rfl, rfl⟩, h2, fun j p q => absurd q (by dsimp only; omega), fun q => (by cases q)⟩ rfl rfl rfl ?_
  rintro ⟨hd, i, N⟩ ⟨hd2, i1, i2, f1, n2, i5, i6⟩ J hJ
  dsimp only at hd2 i1 i2 f1 n2 i5 i6 hJ
  have n1 : N.1 42 1 = (L : Int) := by rw [f1.2.1 1 (by decide)]; exact t1
  have n3 : N.1 42 3 = (b : Int) := by rw [f1.2.1 3 (by decide)]; exact h3'
  have n43 : ∀ j, j < L → N.1 43 j = x j := fun j hj => by rw [f1.1 43 (by decide)]; exact (t3 j hj).1
  have ei : (i : Int).toNat = i := by omega
  match hd, hd2, i6 with
  | 0, _, _ =>
    refine And.intro (fun hh => ?_) (fun hh => ?_)
    · have h4 : N.1 42 1 ≤ N.1 42 2 := hh
      have : i = L := by omega
      subst this
      exact hJ (1, i, N) _ ⟨by dsimp only; omega, i1, i2, f1, n2, i5, fun _ => ⟨i1, Nat.le_refl _, i5, fun q => absurd q (Nat.lt_irrefl _)⟩⟩ (by dsimp only [h3]; omega) ⟨rfl, trivial⟩
    · have h4 : N.1 42 2 < N.1 42 1 := hh
      have hi : i < L := by omega
      refine And.intro (show 0 ≤ N.1 42 2 ∧ N.1 42 2 < 300 by omega) ?_
      have ev : N.1 43 (N.1 42 2).toNat = x i := by rw [n2, ei]; exact n43 i hi
      refine Exists.intro _ (And.intro (c_isSmallLetter _ (N.1 43 (N.1 42 2).toNat) N) ?_)
      rw [ev]
      rintro r M0 ⟨rfl, (⟨rfl, g⟩ | ⟨rfl, g⟩)⟩
      · refine And.intro (fun q => absurd (show (1 : Int) = 0 from q) (by decide)) (fun _ => ?_)
        refine And.intro (show dt_r (M0.1 42 2 + 1) by rw [n2]; exact ⟨by omega, by omega⟩) ?_
        intro M1 hM1
        have hM1' : M1 = dt_wi M0 42 2 ((i : Int) + 1) := by rw [← n2]; exact hM1
        refine hJ (0, i + 1, M1) _ ⟨by dsimp only; omega, by dsimp only; omega, by dsimp only; omega, ⟨fun a z => by dsimp only; rw [hM1', dm_wi2 z]; exact f1.1 a z, fun j z => by dsimp only; rw [hM1', dm_wi1, dm_up2 z]; exact f1.2.1 j z, by dsimp only; rw [hM1']; exact f1.2.2⟩, by dsimp only; rw [hM1', dm_wi1, dm_up1]; rfl, fun j p q => ?_, fun q => (by cases q)⟩ (by dsimp only [h3]; omega) ⟨rfl, trivial⟩
        dsimp only at q
        by_cases z : j = i
        · subst z; exact g
        · exact i5 j p (by omega)
      · refine And.intro (fun _ => ?_) (fun q => absurd rfl q)
        exact hJ (1, i, M0) _ ⟨by dsimp only; omega, i1, i2, f1, n2, i5, fun _ => ⟨i1, i2, i5, fun _ => g⟩⟩ (by dsimp only [h3]; omega) ⟨rfl, trivial⟩
  | 1, _, i6 =>
    have hw := i6 rfl
    have hT' : rtx N x L := ⟨n1, t2, fun j hj => ⟨n43 j hj, (t3 j hj).2⟩⟩
    have fin : ∀ k v, tx_c x b i k → (∀ N' : dt_M, N'.1 42 4 = v → (v ≠ 3) → tx_k k (N'.1 42 4) (N'.1 42 5)) → v ≠ 3 → ∀ M1, M1 = dt_wi N 42 4 v → (none : Option dt_V) = none ∧ qfr M M1 ∧ M1.1 42 3 = (b : Int) ∧ ∃ c k, tx_w x L b c ∧ M1.1 42 2 = (c : Int) ∧ tx_c x b c k ∧ tx_k k (M1.1 42 4) (M1.1 42 5) := by
      intro k v hc hk hv M1 hM1
      exact ⟨rfl, f1.q.tr (qfr_e hM1 (by decide)), by rw [hM1, dm_wi1, dm_up2 (by decide)]; exact n3, i, k, hw, by rw [hM1, dm_wi1, dm_up2 (by decide)]; exact n2, hc, hk M1 (by rw [hM1, dm_wi1, dm_up1]) hv⟩
    refine Exists.intro _ (And.intro (c_wordIs _ 86 b i L N x (Or.inl rfl) hT' n3 n2 i1 i2) ?_)
    rw [st_send.1, st_send.2.1, st_send.2.2.1, st_send.2.2.2]
    rintro r M0 ⟨rfl, (⟨rfl, g⟩ | ⟨rfl, g⟩)⟩
    · refine And.intro (fun q => absurd (show (1 : Int) = 0 from q) (by decide)) (fun _ => ?_)
      exact fun M1 hM1 => fin 10 0 (Or.inl ⟨g, rfl⟩) (fun N' e _ => by unfold tx_k; omega) (by decide) M1 hM1
    · refine And.intro (fun _ => ?_) (fun q => absurd rfl q)
      refine Exists.intro _ (And.intro (c_wordIs _ 87 b i L M0 x (Or.inr rfl) hT' n3 n2 i1 i2) ?_)
      rw [st_take.1, st_take.2.1, st_take.2.2.1, st_take.2.2.2]
      rintro r M2 ⟨rfl, (⟨rfl, g2⟩ | ⟨rfl, g2⟩)⟩
      · refine And.intro (fun q => absurd (show (1 : Int) = 0 from q) (by decide)) (fun _ => ?_)
        exact fun M1 hM1 => fin 11 1 (Or.inr (Or.inl ⟨g2, rfl⟩)) (fun N' e _ => by unfold tx_k; omega) (by decide) M1 hM1
      · refine And.intro (fun _ => ?_) (fun q => absurd rfl q)
        refine And.intro (show dt_r (M2.1 42 2 - M2.1 42 3) by rw [n2, n3]; exact ⟨by omega, by omega⟩) ?_
        have bad : ¬ (i = b + 1 ∧ x b < 105) → ∀ M1, M1 = dt_wi M2 42 4 6 → (none : Option dt_V) = none ∧ qfr M M1 ∧ M1.1 42 3 = (b : Int) ∧ ∃ c k, tx_w x L b c ∧ M1.1 42 2 = (c : Int) ∧ tx_c x b c k ∧ tx_k k (M1.1 42 4) (M1.1 42 5) := fun z M1 hM1 => fin (-1) 6 (Or.inr (Or.inr (Or.inr ⟨g, g2, z, rfl⟩))) (fun N' e _ => by unfold tx_k; omega) (by decide) M1 hM1
        refine And.intro (fun z => ?_) (fun z => ?_)
        · have z' : ¬ M2.1 42 2 - M2.1 42 3 = 1 := z
          exact fun M1 hM1 => bad (by omega) M1 hM1
        · have z' : M2.1 42 2 - M2.1 42 3 = 1 := z
          have e3 : M2.1 43 (M2.1 42 3).toNat = x b := by rw [n3, show (b : Int).toNat = b by omega]; exact n43 b hb
          refine And.intro (show 0 ≤ M2.1 42 3 ∧ M2.1 42 3 < 300 by omega) ?_
          refine And.intro (fun z2 => ?_) (fun z2 => ?_)
          · have z2' : 105 ≤ M2.1 43 (M2.1 42 3).toNat := z2
            rw [e3] at z2'
            exact fun M1 hM1 => bad (by omega) M1 hM1
          · have z2' : M2.1 43 (M2.1 42 3).toNat < 105 := z2
            rw [e3] at z2'
            intro M1 hM1
            have hM1' : M1 = dt_wi M2 42 4 3 := hM1
            have m3 : M1.1 42 3 = (b : Int) := by rw [hM1', dm_wi1, dm_up2 (by decide)]; exact n3
            have m43 : M1.1 43 (M1.1 42 3).toNat = x b := by rw [m3, hM1', dm_wi2 (by decide), show (b : Int).toNat = b by omega]; exact n43 b hb
            refine And.intro (show 0 ≤ M1.1 42 3 ∧ M1.1 42 3 < 300 by omega) ?_
            refine And.intro (show dt_r (M1.1 43 (M1.1 42 3).toNat - 97) by rw [m43]; exact ⟨by omega, by omega⟩) ?_
            intro M4 hM4
            have hM4' : M4 = dt_wi M1 42 5 (x b - 97) := by rw [← m43]; exact hM4
            refine ⟨rfl, (f1.q.tr (qfr_e hM1' (by decide))).tr (qfr_e hM4' (by decide)), by rw [hM4', dm_wi1, dm_up2 (by decide)]; exact m3, i, x b - 97, hw, by rw [hM4', dm_wi1, dm_up2 (by decide), hM1', dm_wi1, dm_up2 (by decide)]; exact n2, Or.inr (Or.inr (Or.inl ⟨by omega, by omega, rfl⟩)), ?_⟩
            have k4 : M4.1 42 4 = 3 := by rw [hM4', dm_wi1, dm_up2 (by decide), hM1', dm_wi1, dm_up1]
            have k5 : M4.1 42 5 = x b - 97 := by rw [hM4', dm_wi1, dm_up1]
            rw [k4, k5]
            unfold tx_k
            omega
  | hd + 2, hh, _ => exact absurd hh (by omega)
theorem c_nextIs (d a L : Nat) (w : Int) (M : dt_M) (x : Nat → Int) (hT : rtx M x L) (h2 : M.1 42 2 = (a : Int)) (ha : a ≤ L) : dt_Sp mX3_nextIs (d + 6) [qRd, .inl w] M (fun r M' => qfr M M' ∧ ∃ b k c, tx_t x L a b k c ∧ M'.1 42 3 = (b : Int) ∧ tx_k k (M'.1 42 4) (M'.1 42 5) ∧ (k ≠ -1 → M'.1 42 2 = (c : Int)) ∧ r = some (.inl (if M'.1 42 4 = w then 1 else 0))) := by
  obtain ⟨t1, t2, t3⟩ := hT
  refine dt_meth0 okX3_nextIs (fun pc => pc == 0 || pc == 38) 80 (σ := Nat × Nat × dt_M) (fun t => h3 t.1 0 38 38) (fun t => [some qRd, some (.inl w)]) (fun t => t.2.2)
    (fun t => t.1 < 2 ∧ a ≤ t.2.1 ∧ t.2.1 ≤ L ∧ qf2 M t.2.2 ∧ t.2.2.1 42 2 = (t.2.1 : Int) ∧ (∀ j, a ≤ j → j < t.2.1 → x j = 32) ∧ (t.1 = 1 → tx_sp x L a t.2.1))
    (fun t => (L - t.2.1) * 2 + h3 t.1 1 0 0) (by decide) (Nat.le_of_ble_eq_true rfl) (0, a, M) ⟨by dsimp only; omega, Nat.le_refl _, ha, ⟨fun _ _ => rfl, fun _ _ => rfl, rfl⟩, h2, fun j p q => absurd q (by dsimp only; omega), fun q => (by cases q)⟩ rfl rfl rfl ?_
  rintro ⟨hd, i, N⟩ ⟨hd2, i1, i2, f1, n2, i5, i6⟩ J hJ
  dsimp only at hd2 i1 i2 f1 n2 i5 i6 hJ
  have n1 : N.1 42 1 = (L : Int) := by rw [f1.2.1 1 (by decide)]; exact t1
  have n43 : ∀ j, j < L → N.1 43 j = x j := fun j hj => by rw [f1.1 43 (by decide)]; exact (t3 j hj).1
  have ei : (i : Int).toNat = i := by omega
  match hd, hd2, i6 with
  | 0, _, _ =>
    refine And.intro (fun hh => ?_) (fun hh => ?_)
    · have h4 : N.1 42 1 ≤ N.1 42 2 := hh
      have : i = L := by omega
      subst this
      exact hJ (1, i, N) _ ⟨by dsimp only; omega, i1, i2, f1, n2, i5, fun _ => ⟨i1, Nat.le_refl _, i5, fun q => absurd q (Nat.lt_irrefl _)⟩⟩ (by dsimp only [h3]; omega) ⟨rfl, rfl, trivial⟩
    · have h4 : N.1 42 2 < N.1 42 1 := hh
      have hi : i < L := by omega
      refine And.intro (show 0 ≤ N.1 42 2 ∧ N.1 42 2 < 300 by omega) ?_
      have ev : N.1 43 (N.1 42 2).toNat = x i := by rw [n2, ei]; exact n43 i hi
      refine And.intro (fun z => ?_) (fun z => ?_)
      · have z' : ¬ N.1 43 (N.1 42 2).toNat = 32 := z
        rw [ev] at z'
        exact hJ (1, i, N) _ ⟨by dsimp only; omega, i1, i2, f1, n2, i5, fun _ => ⟨i1, i2, i5, fun _ => z'⟩⟩ (by dsimp only [h3]; omega) ⟨rfl, rfl, trivial⟩
      · have z' : N.1 43 (N.1 42 2).toNat = 32 := z
        rw [ev] at z'
        refine And.intro (show dt_r (N.1 42 2 + 1) by rw [n2]; exact ⟨by omega, by omega⟩) ?_
        intro M1 hM1
        have hM1' : M1 = dt_wi N 42 2 ((i : Int) + 1) := by rw [← n2]; exact hM1
        refine hJ (0, i + 1, M1) _ ⟨by dsimp only; omega, by dsimp only; omega, by dsimp only; omega, ⟨fun a z => by dsimp only; rw [hM1', dm_wi2 z]; exact f1.1 a z, fun j z => by dsimp only; rw [hM1', dm_wi1, dm_up2 z]; exact f1.2.1 j z, by dsimp only; rw [hM1']; exact f1.2.2⟩, by dsimp only; rw [hM1', dm_wi1, dm_up1]; rfl, fun j p q => ?_, fun q => (by cases q)⟩ (by dsimp only [h3]; omega) ⟨rfl, rfl, trivial⟩
        dsimp only at q
        by_cases z : j = i
        · subst z; exact z'
        · exact i5 j p (by omega)
  | 1, _, i6 =>
    have hsp := i6 rfl
    have fin : ∀ (N' : dt_M) (k : Int) (c : Nat), qfr M N' → tx_t x L a i k c → N'.1 42 3 = (i : Int) → tx_k k (N'.1 42 4) (N'.1 42 5) → (k ≠ -1 → N'.1 42 2 = (c : Int)) → (¬ N'.1 42 4 = w → (((0 : Int) = 0 ∨ (0 : Int) = 1) ∧ qfr M N' ∧ ∃ b k c, tx_t x L a b k c ∧ N'.1 42 3 = (b : Int) ∧ tx_k k (N'.1 42 4) (N'.1 42 5) ∧ (k ≠ -1 → N'.1 42 2 = (c : Int)) ∧ (some (.inl 0) : Option dt_V) = some (.inl (if N'.1 42 4 = w then 1 else 0)))) ∧ (N'.1 42 4 = w → (((1 : Int) = 0 ∨ (1 : Int) = 1) ∧ qfr M N' ∧ ∃ b k c, tx_t x L a b k c ∧ N'.1 42 3 = (b : Int) ∧ tx_k k (N'.1 42 4) (N'.1 42 5) ∧ (k ≠ -1 → N'.1 42 2 = (c : Int)) ∧ (some (.inl 1) : Option dt_V) = some (.inl (if N'.1 42 4 = w then 1 else 0)))) := by
      intro N' k c q1 q2 q3 q4 q5
      exact ⟨fun z => ⟨Or.inl rfl, q1, i, k, c, q2, q3, q4, q5, by rw [if_neg z]⟩, fun z => ⟨Or.inr rfl, q1, i, k, c, q2, q3, q4, q5, by rw [if_pos z]⟩⟩
    intro M1 hM1
    have hM1' : M1 = dt_wi N 42 3 (i : Int) := by rw [← n2]; exact hM1
    intro M2 hM2
    have hM2' : M2 = dt_wi M1 42 5 0 := hM2
    have m1 : M2.1 42 1 = (L : Int) := by rw [hM2', dm_wi1, dm_up2 (by decide), hM1', dm_wi1, dm_up2 (by decide)]; exact n1
    have m2 : M2.1 42 2 = (i : Int) := by rw [hM2', dm_wi1, dm_up2 (by decide), hM1', dm_wi1, dm_up2 (by decide)]; exact n2
    have m3 : M2.1 42 3 = (i : Int) := by rw [hM2', dm_wi1, dm_up2 (by decide), hM1', dm_wi1, dm_up1]
    have m43 : ∀ j, j < L → M2.1 43 j = x j := fun j hj => by rw [hM2', dm_wi2 (by decide), hM1', dm_wi2 (by decide)]; exact n43 j hj
    have f2 : qfr M M2 := (f1.q.tr (qfr_e hM1' (by decide))).tr (qfr_e hM2' (by decide))
    refine And.intro (fun hh => ?_) (fun hh => ?_)
    · have h4 : M2.1 42 2 < M2.1 42 1 := hh
      have hi : i < L := by omega
      have ev : M2.1 43 (M2.1 42 2).toNat = x i := by rw [m2, ei]; exact m43 i hi
      have r255 := (t3 i hi).2
      refine And.intro (show 0 ≤ M2.1 42 2 ∧ M2.1 42 2 < 300 by omega) ?_
      refine Exists.intro _ (And.intro (c_isSmallLetter _ (M2.1 43 (M2.1 42 2).toNat) M2) ?_)
      rw [ev]
      rintro r M0 ⟨rfl, (⟨rfl, g⟩ | ⟨rfl, g⟩)⟩
      · refine And.intro (fun q => absurd (show (1 : Int) = 0 from q) (by decide)) (fun _ => ?_)
        refine Exists.intro _ (And.intro (c_readWord _ i L M0 x ⟨m1, t2, fun j hj => ⟨m43 j hj, (t3 j hj).2⟩⟩ m2 m3 hi g) ?_)
        rintro r M3 ⟨rfl, f3, e3, c, k, hw, e2, hc, hk⟩
        exact fin M3 k c (f2.tr f3) ⟨hsp, Or.inr (Or.inr (Or.inr (Or.inl ⟨hi, g, hw, hc⟩)))⟩ e3 hk (fun _ => e2)
      · refine And.intro (fun _ => ?_) (fun q => absurd rfl q)
        refine And.intro (show 0 ≤ M0.1 42 2 ∧ M0.1 42 2 < 300 by omega) ?_
        refine Exists.intro _ (And.intro (c_readSign _ i (M0.1 43 (M0.1 42 2).toNat) M0 (by omega) m2 (by rw [ev]; exact r255)) ?_)
        rw [ev]
        rintro r M3 ⟨rfl, f3, e2, e3, hk⟩
        rw [m3] at e3
        rcases hk with ⟨z, k4⟩ | ⟨z1, z2, k4, k5⟩ | ⟨z1, z2, k4⟩
        · exact fin M3 30 (i + 1) (f2.tr f3) ⟨hsp, Or.inr (Or.inl ⟨hi, z, rfl, rfl⟩)⟩ e3 (by unfold tx_k; omega) (fun _ => by rw [e2]; rfl)
        · exact fin M3 (x i - 45) (i + 1) (f2.tr f3) ⟨hsp, Or.inr (Or.inr (Or.inl ⟨hi, ⟨z1, z2⟩, rfl, rfl⟩))⟩ e3 (by unfold tx_k; omega) (fun _ => by rw [e2]; rfl)
        · exact fin M3 (-1) i (f2.tr f3) ⟨hsp, Or.inr (Or.inr (Or.inr (Or.inr ⟨hi, z1, z2, g, rfl, rfl⟩)))⟩ e3 (by unfold tx_k; omega) (fun q => absurd rfl q)
    · have h4 : M2.1 42 1 ≤ M2.1 42 2 := hh
      have : i = L := by omega
      subst this
      intro M3 hM3
      have hM3' : M3 = dt_wi M2 42 4 5 := hM3
      exact fin M3 40 i (f2.tr (qfr_e hM3' (by decide))) ⟨hsp, Or.inl ⟨rfl, rfl, rfl⟩⟩ (by rw [hM3', dm_wi1, dm_up2 (by decide)]; exact m3) (by rw [hM3', dm_wi1, dm_up1]; unfold tx_k; omega) (fun _ => by rw [hM3', dm_wi1, dm_up2 (by decide)]; exact m2)
  | hd + 2, hh, _ => exact absurd hh (by omega)
