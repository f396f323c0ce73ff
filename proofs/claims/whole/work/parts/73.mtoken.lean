/-! ===== the Model's tokens ===== -/
def wl (x : Nat → Int) (b : Nat) : Nat → Int
  | 0 => 0
  | n + 1 => if 100000000 < wl x b n then wl x b n else 32 * wl x b n + x (b + n) - 96
theorem wl_1 {x : Nat → Int} {b : Nat} : wl x b 1 = x b - 96 := by
  show (if 100000000 < (0 : Int) then (0 : Int) else 32 * 0 + x (b + 0) - 96) = _
  rw [if_neg (by omega), Nat.add_zero]
  omega
theorem wl_r {x : Nat → Int} {b : Nat} : ∀ {n : Nat}, (∀ j, j < n → 97 ≤ x (b + j) ∧ x (b + j) ≤ 122) → 0 ≤ wl x b n ∧ wl x b n ≤ 3200000026
  | 0, _ => by unfold wl; omega
  | n + 1, h => by
    have h1 := wl_r (x := x) (b := b) (n := n) (fun j hj => h j (by omega))
    have h2 := h n (by omega)
    unfold wl
    split <;> omega
theorem wl_5 {x : Nat → Int} {b : Nat} : ∀ {n : Nat}, (∀ j, j < n + 5 → 97 ≤ x (b + j) ∧ x (b + j) ≤ 122) → 1000000 ≤ wl x b (n + 5)
  | 0, h => by
    have h0 := h 0 (by omega)
    have h1 := h 1 (by omega)
    have h2 := h 2 (by omega)
    have h3 := h 3 (by omega)
    have h4 := h 4 (by omega)
    have e1 : wl x b 1 = x b - 96 := wl_1
    rw [Nat.add_zero] at h0
    have e2 : wl x b 2 = 32 * wl x b 1 + x (b + 1) - 96 := by show (if 100000000 < wl x b 1 then _ else _) = _; rw [if_neg (by omega)]
    have e3 : wl x b 3 = 32 * wl x b 2 + x (b + 2) - 96 := by show (if 100000000 < wl x b 2 then _ else _) = _; rw [if_neg (by omega)]
    have e4 : wl x b 4 = 32 * wl x b 3 + x (b + 3) - 96 := by show (if 100000000 < wl x b 3 then _ else _) = _; rw [if_neg (by omega)]
    have e5 : wl x b 5 = 32 * wl x b 4 + x (b + 4) - 96 := by show (if 100000000 < wl x b 4 then _ else _) = _; rw [if_neg (by omega)]
    show 1000000 ≤ wl x b 5
    omega
  | n + 1, h => by
    have h1 := wl_5 (x := x) (b := b) (n := n) (fun j hj => h j (by omega))
    have h2 := h (n + 5) (by omega)
    show 1000000 ≤ wl x b (n + 5 + 1)
    unfold wl
    split <;> omega
/-- what the Model makes of the number of a word -/
def wby (l : Int) : Int := if l = 628164 then 10 else if l = 656741 then 11 else if 1 ≤ l ∧ l ≤ 8 then l - 1 else -1
theorem wl_c {x : Nat → Int} {b n : Nat} (h : ∀ j, j < n → 97 ≤ x (b + j) ∧ x (b + j) ≤ 122) (hn : 0 < n) : tx_c x b (b + n) (wby (wl x b n)) := by
  unfold tx_c tx_is wby
  by_cases h5 : 5 ≤ n
  · obtain ⟨m, rfl⟩ : ∃ m, n = m + 5 := ⟨n - 5, by omega⟩
    have := wl_5 h
    rw [if_neg (by omega), if_neg (by omega), if_neg (by omega)]
    omega
  · have e1 : wl x b 1 = x b - 96 := wl_1
    have h0 := h 0 hn
    rw [Nat.add_zero] at h0
    rcases (show n = 1 ∨ n = 2 ∨ n = 3 ∨ n = 4 by omega) with e | e | e | e <;> subst e
    · rw [if_neg (by omega), if_neg (by omega), e1]
      split <;> omega
    · have h1 := h 1 (by omega)
      have e2 : wl x b 2 = 32 * wl x b 1 + x (b + 1) - 96 := by show (if 100000000 < wl x b 1 then _ else _) = _; rw [if_neg (by omega)]
      rw [if_neg (by omega), if_neg (by omega), if_neg (by omega)]
      omega
    · have h1 := h 1 (by omega)
      have h2 := h 2 (by omega)
      have e2 : wl x b 2 = 32 * wl x b 1 + x (b + 1) - 96 := by show (if 100000000 < wl x b 1 then _ else _) = _; rw [if_neg (by omega)]
      have e3 : wl x b 3 = 32 * wl x b 2 + x (b + 2) - 96 := by show (if 100000000 < wl x b 2 then _ else _) = _; rw [if_neg (by omega)]
      rw [if_neg (by omega), if_neg (by omega), if_neg (by omega)]
      omega
    · have h1 := h 1 (by omega)
      have h2 := h 2 (by omega)
      have h3 := h 3 (by omega)
      have e2 : wl x b 2 = 32 * wl x b 1 + x (b + 1) - 96 := by show (if 100000000 < wl x b 1 then _ else _) = _; rw [if_neg (by omega)]
      have e3 : wl x b 3 = 32 * wl x b 2 + x (b + 2) - 96 := by show (if 100000000 < wl x b 2 then _ else _) = _; rw [if_neg (by omega)]
      have e4 : wl x b 4 = 32 * wl x b 3 + x (b + 3) - 96 := by show (if 100000000 < wl x b 3 then _ else _) = _; rw [if_neg (by omega)]
      generalize x b = p0 at *
      generalize x (b + 1) = p1 at *
      generalize x (b + 2) = p2 at *
      generalize x (b + 3) = p3 at *
      generalize wl x b 4 = q4 at *
      generalize wl x b 3 = q3 at *
      generalize wl x b 2 = q2 at *
      generalize wl x b 1 = q1 at *
      by_cases z1 : q4 = 628164
      · rw [if_pos z1]; left; refine ⟨⟨rfl, ?_, ?_, ?_, ?_⟩, rfl⟩ <;> omega
      · rw [if_neg z1]
        by_cases z2 : q4 = 656741
        · rw [if_pos z2]; right; left; refine ⟨⟨rfl, ?_, ?_, ?_, ?_⟩, rfl⟩ <;> omega
        · rw [if_neg z2, if_neg (by omega)]
          right; right; right
          refine ⟨fun q => z1 ?_, fun q => z2 ?_, by omega, rfl⟩ <;> omega
theorem cmp_0 {x y : Int} : dt_cmp x y = 0 ↔ x = y := by
  unfold dt_cmp
  split
  · constructor <;> intro h <;> omega
  · split <;> constructor <;> intro h <;> omega
theorem cmp_le {x y : Int} : dt_cmp x y ≤ 0 ↔ x ≤ y := by
  unfold dt_cmp
  split
  · constructor <;> intro h <;> omega
  · split <;> constructor <;> intro h <;> omega
theorem k_wordBy (d : Nat) (l : Int) (M : dt_M) (hl : 0 ≤ l ∧ l ≤ 3200000026) : dt_Sp mX7_wordBy (d + 1) [.inr (.inl l)] M (fun r M' => M' = M ∧ r = some (.inl (wby l))) := by
  unfold wby
  refine dt_flat okX7_wordBy 40 (by decide) (Nat.le_of_ble_eq_true rfl) (fun J => ?_)
  refine And.intro (fun z => ?_) (fun z => ?_)
  · have z' : ¬ dt_cmp l 628164 = 0 := z
    rw [cmp_0] at z'
    rw [if_neg z']
    refine And.intro (fun y => ?_) (fun y => ?_)
    · have y' : ¬ dt_cmp l 656741 = 0 := y
      rw [cmp_0] at y'
      rw [if_neg y']
      refine Exists.intro _ (And.intro (c_in _ _ _ _ M) ?_)
      rintro r M0 ⟨rfl, rfl⟩
      by_cases hi : 1 ≤ l ∧ l ≤ 8
      · rw [if_pos hi, if_pos hi]
        refine And.intro (fun h => absurd (show (1 : Int) = 0 from h) (by decide)) (fun _ => ?_)
        have e : dt_l2i l = l := by
          rw [ty_l2i ⟨by omega, by omega⟩]
          unfold Int.bmod
          dsimp only
          split <;> omega
        refine And.intro (show dt_r (dt_l2i l - 1) by rw [e]; exact ⟨by omega, by omega⟩) ?_
        exact ⟨rfl, congrArg (fun z => some (Sum.inl (z - 1))) e⟩
      · rw [if_neg hi, if_neg hi]
        refine And.intro (fun _ => ?_) (fun h => absurd rfl h)
        exact ⟨rfl, rfl⟩
    · have y' : dt_cmp l 656741 = 0 := y
      rw [cmp_0] at y'
      rw [if_pos y']
      exact ⟨rfl, rfl⟩
  · have z' : dt_cmp l 628164 = 0 := z
    rw [cmp_0] at z'
    rw [if_pos z']
    exact ⟨rfl, rfl⟩
def mtx (M : dt_M) (x : Nat → Int) (L : Nat) : Prop := M.1 62 8 = (L : Int) ∧ L ≤ 300 ∧ ∀ j, j < L → M.1 71 j = x j ∧ 0 ≤ x j ∧ x j ≤ 255
/-- nothing has changed but the Model's place and token -/
def ufr (M M' : dt_M) : Prop := (∀ a, a ≠ 62 → M'.1 a = M.1 a) ∧ (∀ j, (j < 18 ∨ 20 < j) → M'.1 62 j = M.1 62 j) ∧ M'.2 = M.2
theorem ufr.rf {M : dt_M} : ufr M M := ⟨fun _ _ => rfl, fun _ _ => rfl, rfl⟩
theorem ufr.tr {M M1 M2 : dt_M} (h : ufr M M1) (k : ufr M1 M2) : ufr M M2 := ⟨fun a x => (k.1 a x).trans (h.1 a x), fun a x => (k.2.1 a x).trans (h.2.1 a x), k.2.2.trans h.2.2⟩
theorem ufr_e {M M' : dt_M} {j : Nat} {v : Int} (e : M' = dt_wi M 62 j v) (h : 18 ≤ j ∧ j ≤ 20) : ufr M M' := by
  subst e
  exact ⟨fun a x => dm_wi2 x, fun i hi => by rw [dm_wi1, dm_up2 (by omega)], rfl⟩
theorem ufr.tx {M M' : dt_M} {x : Nat → Int} {L : Nat} (h : ufr M M') (k : mtx M x L) : mtx M' x L := ⟨by rw [h.2.1 8 (by omega)]; exact k.1, k.2.1, fun j hj => by rw [h.1 71 (by decide)]; exact k.2.2 j hj⟩
theorem k_readToken (d a L : Nat) (M : dt_M) (x : Nat → Int) (hT : mtx M x L) (h18 : M.1 62 18 = (a : Int)) (ha : a ≤ L) : dt_Sp mX7_readToken (d + 2) [qM] M (fun r M' => r = none ∧ ufr M M' ∧ ∃ b k c, tx_t x L a b k c ∧ M'.1 62 19 = (b : Int) ∧ M'.1 62 20 = k ∧ M'.1 62 18 = (c : Int)) := by
  have hL := hT.2.1
  have hr := hT.2.2
  refine dt_meth0 okX7_readToken (fun pc => pc == 0 || pc == 38 || pc == 129) 90 (σ := Nat × Nat × Nat × dt_M) (fun t => h3 t.1 0 38 129) (fun t => [some qM, none, h3 t.1 none none (some (.inr (.inl (wl x t.2.1 t.2.2.1)))), none]) (fun t => t.2.2.2)
    (fun t => t.1 < 3 ∧ a ≤ t.2.1 ∧ t.2.1 + t.2.2.1 ≤ L ∧ ufr M t.2.2.2 ∧ t.2.2.2.1 62 18 = ((t.2.1 + t.2.2.1 : Nat) : Int) ∧ (∀ j, a ≤ j → j < t.2.1 → x j = 32) ∧ (t.1 = 0 → t.2.2.1 = 0) ∧ (t.1 = 1 → t.2.2.1 = 0 ∧ tx_sp x L a t.2.1) ∧ (t.1 = 2 → tx_sp x L a t.2.1 ∧ t.2.1 < L ∧ x t.2.1 ≠ 59 ∧ ¬ (65 ≤ x t.2.1 ∧ x t.2.1 ≤ 68) ∧ t.2.2.2.1 62 19 = (t.2.1 : Int) ∧ ∀ j, j < t.2.2.1 → 97 ≤ x (t.2.1 + j) ∧ x (t.2.1 + j) ≤ 122))
    (fun t => (L - (t.2.1 + t.2.2.1)) * 4 + h3 t.1 3 2 1) (by decide) (Nat.le_of_ble_eq_true rfl) (0, a, 0, M) ⟨by dsimp only; omega, Nat.le_refl _, ha, ufr.rf, h18, fun j p q => absurd q (by dsimp only; omega), fun _ => rfl, fun q => (by cases q), fun q => (by cases q)⟩ rfl rfl rfl ?_
  rintro ⟨hd, b, n, N⟩ ⟨hd2, i1, i2, f1, n18, i5, i6, i7, i8⟩ J hJ
  dsimp only at hd2 i1 i2 f1 n18 i5 i6 i7 i8 hJ
  obtain ⟨n8, -, n71⟩ := f1.tx hT
  have ei : (((b + n : Nat) : Int)).toNat = b + n := by omega
  match hd, hd2, i6, i7, i8 with
  | 0, _, i6, _, _ =>
    have := i6 rfl
    subst this
    rw [Nat.add_zero] at n18 ei i2
    refine And.intro (fun hh => ?_) (fun hh => ?_)
    · have h4 : N.1 62 8 ≤ N.1 62 18 := hh
      have : b = L := by omega
      subst this
      exact hJ (1, b, 0, N) _ ⟨by dsimp only; omega, i1, Nat.le_refl _, f1, n18, i5, fun q => (by cases q), fun _ => ⟨rfl, i1, Nat.le_refl _, i5, fun q => absurd q (Nat.lt_irrefl _)⟩, fun q => (by cases q)⟩ (by dsimp only [h3]; omega) ⟨rfl, trivial⟩
    · have h4 : N.1 62 18 < N.1 62 8 := hh
      have hi : b < L := by omega
      refine And.intro (show 0 ≤ N.1 62 18 ∧ N.1 62 18 < 300 by omega) ?_
      have ev : N.1 71 (N.1 62 18).toNat = x b := by rw [n18, ei]; exact (n71 b hi).1
      refine And.intro (fun z => ?_) (fun z => ?_)
      · have z' : ¬ N.1 71 (N.1 62 18).toNat = 32 := z
        rw [ev] at z'
        exact hJ (1, b, 0, N) _ ⟨by dsimp only; omega, i1, i2, f1, n18, i5, fun q => (by cases q), fun _ => ⟨rfl, i1, i2, i5, fun _ => z'⟩, fun q => (by cases q)⟩ (by dsimp only [h3]; omega) ⟨rfl, trivial⟩
      · have z' : N.1 71 (N.1 62 18).toNat = 32 := z
        rw [ev] at z'
        refine And.intro (show dt_r (N.1 62 18 + 1) by rw [n18]; exact ⟨by omega, by omega⟩) ?_
        intro M1 hM1
        have hM1' : M1 = dt_wi N 62 18 ((b : Int) + 1) := by rw [← n18]; exact hM1
        refine hJ (0, b + 1, 0, M1) _ ⟨by dsimp only; omega, by dsimp only; omega, by dsimp only; omega, f1.tr (ufr_e hM1' (by decide)), by dsimp only; rw [hM1', dm_wi1, dm_up1]; rfl, fun j p q => ?_, fun _ => rfl, fun q => (by cases q), fun q => (by cases q)⟩ (by dsimp only [h3]; omega) ⟨rfl, trivial⟩
        dsimp only at q
        by_cases z : j = b
        · subst z; exact z'
        · exact i5 j p (by omega)
  | 1, _, _, i7, _ =>
    obtain ⟨rfl, hsp⟩ := i7 rfl
    rw [Nat.add_zero] at n18 ei i2
    intro M1 hM1
    have hM1' : M1 = dt_wi N 62 19 (b : Int) := by rw [← n18]; exact hM1
    have m8 : M1.1 62 8 = (L : Int) := by rw [hM1', dm_wi1, dm_up2 (by decide)]; exact n8
    have m18 : M1.1 62 18 = (b : Int) := by rw [hM1', dm_wi1, dm_up2 (by decide)]; exact n18
    have m19 : M1.1 62 19 = (b : Int) := by rw [hM1', dm_wi1, dm_up1]
    have m71 : ∀ j, j < L → M1.1 71 j = x j := fun j hj => by rw [hM1', dm_wi2 (by decide)]; exact (n71 j hj).1
    have f2 : ufr M M1 := f1.tr (ufr_e hM1' (by decide))
    refine And.intro (fun hh => ?_) (fun hh => ?_)
    · have h4 : ¬ M1.1 62 18 = M1.1 62 8 := hh
      have hi : b < L := by omega
      have ev : M1.1 71 (M1.1 62 18).toNat = x b := by rw [m18, ei]; exact m71 b hi
      have r255 := (n71 b hi).2
      refine And.intro (show 0 ≤ M1.1 62 18 ∧ M1.1 62 18 < 300 by omega) ?_
      rw [ev]
      have sign : ∀ k v, v = k → tx_t x L a b k (b + 1) → ∀ M2, M2 = dt_wi M1 62 20 v → dt_r (M2.1 62 18 + 1) ∧ ∀ M3, M3 = dt_wi M2 62 18 (M2.1 62 18 + 1) → (none : Option dt_V) = none ∧ ufr M M3 ∧ ∃ b k c, tx_t x L a b k c ∧ M3.1 62 19 = (b : Int) ∧ M3.1 62 20 = k ∧ M3.1 62 18 = (c : Int) := by
        intro k v hv ht M2 hM2
        have p18 : M2.1 62 18 = (b : Int) := by rw [hM2, dm_wi1, dm_up2 (by decide)]; exact m18
        refine ⟨by rw [p18]; exact ⟨by omega, by omega⟩, fun M3 hM3 => ?_⟩
        rw [p18] at hM3
        exact ⟨rfl, (f2.tr (ufr_e hM2 (by decide))).tr (ufr_e hM3 (by decide)), b, k, b + 1, ht, by rw [hM3, dm_wi1, dm_up2 (by decide), hM2, dm_wi1, dm_up2 (by decide)]; exact m19, by rw [hM3, dm_wi1, dm_up2 (by decide), hM2, dm_wi1, dm_up1]; exact hv, by rw [hM3, dm_wi1, dm_up1]; rfl⟩
      refine And.intro (fun z => ?_) (fun z => ?_)
      · have z' : x b = 59 := z
        refine And.intro (fun q => absurd z' q) (fun _ => ?_)
        exact fun M2 hM2 => sign 30 30 rfl ⟨hsp, Or.inr (Or.inl ⟨hi, z', rfl, rfl⟩)⟩ M2 hM2
      · have z' : ¬ x b = 59 := z
        refine Exists.intro _ (And.intro (c_in _ _ _ _ M1) ?_)
        rintro r M0 ⟨rfl, rfl⟩
        by_cases hq : 65 ≤ x b ∧ x b ≤ 68
        · rw [if_pos hq]
          refine And.intro (fun h => absurd (show (1 : Int) = 0 from h) (by decide)) (fun _ => ?_)
          refine And.intro (fun _ => ?_) (fun q => absurd q z')
          refine And.intro ⟨by (try dsimp only); omega, by (try dsimp only); omega⟩ (And.intro ⟨by (try dsimp only); omega, by (try dsimp only); omega⟩ ?_)
          exact fun M2 hM2 => sign (x b - 45) (20 + x b - 65) (by omega) ⟨hsp, Or.inr (Or.inr (Or.inl ⟨hi, hq, rfl, rfl⟩))⟩ M2 hM2
        · rw [if_neg hq]
          refine And.intro (fun _ => ?_) (fun h => absurd rfl h)
          exact hJ (2, b, 0, M0) _ ⟨by dsimp only; omega, i1, i2, f2, m18, i5, fun q => (by cases q), fun q => (by cases q), fun _ => ⟨hsp, hi, z', hq, m19, fun j hj => absurd hj (Nat.not_lt_zero j)⟩⟩ (by dsimp only [h3]; omega) ⟨rfl, rfl, trivial⟩
    · have h4 : M1.1 62 18 = M1.1 62 8 := hh
      have : b = L := by omega
      subst this
      intro M2 hM2
      have hM2' : M2 = dt_wi M1 62 20 40 := hM2
      exact ⟨rfl, f2.tr (ufr_e hM2' (by decide)), b, 40, b, ⟨hsp, Or.inl ⟨rfl, rfl, rfl⟩⟩, by rw [hM2', dm_wi1, dm_up2 (by decide)]; exact m19, by rw [hM2', dm_wi1, dm_up1], by rw [hM2', dm_wi1, dm_up2 (by decide)]; exact m18⟩
  | 2, _, _, _, i8 =>
    obtain ⟨hsp, hi, z59, zP, n19, hlet⟩ := i8 rfl
    have wr := wl_r hlet
    have fin : (b + n < L → ¬ (97 ≤ x (b + n) ∧ x (b + n) ≤ 122)) → ∃ Ψ : Option dt_V → dt_M → Prop, dt_Sp mX7_wordBy (d + 1) [.inr (.inl (wl x b n))] N Ψ ∧ ∀ rv M', Ψ rv M' → ∃ v : Int, rv = some (.inl v) ∧ M' = N ∧ ∀ M2, M2 = dt_wi N 62 20 v → (none : Option dt_V) = none ∧ ufr M M2 ∧ ∃ b k c, tx_t x L a b k c ∧ M2.1 62 19 = (b : Int) ∧ M2.1 62 20 = k ∧ M2.1 62 18 = (c : Int) := by
      intro hend
      refine Exists.intro _ (And.intro (k_wordBy d (wl x b n) N wr) ?_)
      rintro rv M' ⟨rfl, rfl⟩
      refine ⟨_, rfl, rfl, fun M2 hM2 => ?_⟩
      refine ⟨rfl, f1.tr (ufr_e hM2 (by decide)), b, wby (wl x b n), b + n, ⟨hsp, ?_⟩, by rw [hM2, dm_wi1, dm_up2 (by decide)]; exact n19, by rw [hM2, dm_wi1, dm_up1], by rw [hM2, dm_wi1, dm_up2 (by decide)]; exact n18⟩
      by_cases h0 : n = 0
      · subst h0
        have hnl := hend (by omega)
        rw [Nat.add_zero] at hnl
        exact Or.inr (Or.inr (Or.inr (Or.inr ⟨hi, z59, zP, hnl, by unfold wby wl; decide, rfl⟩)))
      · have hl0 := hlet 0 (by omega)
        rw [Nat.add_zero] at hl0
        exact Or.inr (Or.inr (Or.inr (Or.inl ⟨hi, hl0, ⟨by omega, i2, fun j p q => by
          have := hlet (j - b) (by omega)
          rw [show b + (j - b) = j by omega] at this
          exact this, hend⟩, wl_c hlet (by omega)⟩)))
    refine And.intro (fun hh => ?_) (fun hh => ?_)
    · have h4 : N.1 62 8 ≤ N.1 62 18 := hh
      obtain ⟨Ψ, p1, p2⟩ := fin (fun q => by omega)
      refine Exists.intro Ψ (And.intro p1 ?_)
      intro rv M' hΨ
      obtain ⟨v, rfl, rfl, p3⟩ := p2 rv M' hΨ
      exact fun M2 hM2 => p3 M2 hM2
    · have h4 : N.1 62 18 < N.1 62 8 := hh
      have hbn : b + n < L := by omega
      have ev : N.1 71 (N.1 62 18).toNat = x (b + n) := by rw [n18, ei]; exact (n71 _ hbn).1
      refine And.intro (show 0 ≤ N.1 62 18 ∧ N.1 62 18 < 300 by omega) ?_
      rw [ev]
      refine Exists.intro _ (And.intro (c_in _ _ _ _ N) ?_)
      rintro r M0 ⟨rfl, rfl⟩
      by_cases hq : 97 ≤ x (b + n) ∧ x (b + n) ≤ 122
      · rw [if_pos hq]
        refine And.intro (fun h => absurd (show (1 : Int) = 0 from h) (by decide)) (fun _ => ?_)
        have nx : ∀ v, v = wl x b (n + 1) → dt_r (M0.1 62 18 + 1) ∧ ∀ M1, M1 = dt_wi M0 62 18 (M0.1 62 18 + 1) → J 129 [some qM, none, some (.inr (.inl v)), none] [] M1 := by
          intro v hv
          refine ⟨by rw [n18]; exact ⟨by omega, by omega⟩, fun M1 hM1 => ?_⟩
          rw [n18] at hM1
          refine hJ (2, b, n + 1, M1) _ ⟨by dsimp only; omega, i1, by dsimp only; omega, f1.tr (ufr_e hM1 (by decide)), by dsimp only; rw [hM1, dm_wi1, dm_up1]; omega, i5, fun q => (by cases q), fun q => (by cases q), fun _ => ⟨hsp, hi, z59, zP, by dsimp only; rw [hM1, dm_wi1, dm_up2 (by decide)]; exact n19, fun j hj => ?_⟩⟩ (by dsimp only [h3]; omega) ⟨rfl, congrArg (fun z => (Sum.inr (Sum.inl z) : dt_V)) hv.symm, trivial⟩
          dsimp only at hj
          by_cases z : j = n
          · subst z; exact hq
          · exact hlet j (by omega)
        refine And.intro (fun z => ?_) (fun z => ?_)
        · have z' : dt_cmp (wl x b n) 100000000 ≤ 0 := z
          rw [cmp_le] at z'
          refine And.intro ⟨by (try dsimp only [h3]); omega, by (try dsimp only [h3]); omega⟩ ?_
          refine And.intro (show 0 ≤ M0.1 62 18 ∧ M0.1 62 18 < 300 by omega) ?_
          rw [ev]
          refine And.intro ⟨by (try dsimp only [h3]); omega, by (try dsimp only [h3]); omega⟩ ?_
          refine And.intro ⟨by (try dsimp only [h3]); omega, by (try dsimp only [h3]); omega⟩ ?_
          exact nx _ (by show _ = (if 100000000 < wl x b n then _ else _); rw [if_neg (by omega)])
        · have z' : 0 < dt_cmp (wl x b n) 100000000 := z
          have z2 : ¬ dt_cmp (wl x b n) 100000000 ≤ 0 := by omega
          rw [cmp_le] at z2
          exact nx _ (by show _ = (if 100000000 < wl x b n then _ else _); rw [if_pos (by omega)])
      · rw [if_neg hq]
        refine And.intro (fun _ => ?_) (fun h => absurd rfl h)
        obtain ⟨Ψ, p1, p2⟩ := fin (fun _ => hq)
        refine Exists.intro Ψ (And.intro p1 ?_)
        intro rv M' hΨ
        obtain ⟨v, rfl, rfl, p3⟩ := p2 rv M' hΨ
        exact fun M2 hM2 => p3 M2 hM2
  | hd + 3, hh, _, _, _ => exact absurd hh (by omega)
