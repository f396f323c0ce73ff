/-! ===== Mixer: choose, isFirst, isOfOne ===== -/
def xfr (M M' : dt_M) : Prop := (∀ a, a ≠ 60 → a ≠ 61 → M'.1 a = M.1 a) ∧ (∀ j, j ≠ 3 → M'.1 60 j = M.1 60 j) ∧ M'.2 = M.2
/-- the four talks are those of T -/
def cE (M : dt_M) (T : Nat → Nat → Nat → Int) : Prop := ∀ i, i < 4 → ∀ g, g < 8 → cT M i g = T i g
theorem sl_cong {T U T' U' : Nat → Nat → Int} {p : Nat} (h : ∀ g, g < 8 → T g = T' g) (k : ∀ g, g < 8 → U g = U' g) : tk_sl T U p ↔ tk_sl T' U' p := by
  unfold tk_sl
  rw [h 6 (by decide), h 1 (by decide), h 3 (by decide), h 4 (by decide), h 7 (by decide), k 6 (by decide), k 1 (by decide), k 3 (by decide), k 4 (by decide), k 7 (by decide)]
theorem FL_cong {T T' : Nat → Nat → Nat → Int} {s i p j : Nat} (hi : i < 4) (h : ∀ i, i < 4 → ∀ g, g < 8 → T i g = T' i g) (H : FL T s i p j) : FL T' s i p j :=
  ⟨H.1, H.2.1, (sl_cong (h j (by have := H.1; omega)) (h i hi)).mp H.2.2.1, fun q hq z => H.2.2.2 q hq ⟨z.1, (sl_cong (h q (by have := H.1; omega)) (h i hi)).mpr z.2⟩⟩
theorem cE_V {M : dt_M} {T : Nat → Nat → Nat → Int} (h : cE M T) (k : ∀ i, i < 4 → ∃ n s, tV (T i) n s) : cV M := fun i hi => by
  obtain ⟨n, s, v⟩ := k i hi
  exact ⟨n, s, tV_row (h i hi) v⟩
theorem xfr.E {M M' : dt_M} {T : Nat → Nat → Nat → Int} (h : xfr M M') (k : cE M T) : cE M' T := fun i hi g hg => by
  rw [← k i hi g hg]
  exact h.1 _ (by omega) (by omega)
theorem c_choose (d s : Nat) (M : dt_M) (T : Nat → Nat → Nat → Int) (hs : s < 16) (hE : cE M T) (hT : ∀ i, i < 4 → ∃ n s, tV (T i) n s) : dt_Sp mX1_choose (d + 3) [qK, .inl s] M (fun r M' => r = none ∧ xfr M M' ∧ xR M' T s) := by
  refine dt_meth okX1_choose (fun pc => pc == 7 || pc == 14) 60 (σ := Nat × Nat × Nat × dt_M) (fun t => h3 t.1 7 14 14) (fun t => [some qK, some (.inl s), some (.inl t.2.1), h3 t.1 none (some (.inl t.2.2.1)) none]) (fun t => t.2.2.2)
    (fun t => t.1 < 2 ∧ xfr M t.2.2.2 ∧ t.2.2.2.1 60 3 = (s : Int) ∧ (t.1 = 0 → t.2.1 ≤ 4 ∧ t.2.2.1 = 0) ∧ (t.1 = 1 → t.2.1 < 4 ∧ t.2.2.1 ≤ 4) ∧ ∀ p, p < 4 → ∀ i, i < 4 → (p < t.2.1 ∨ (p = t.2.1 ∧ i < t.2.2.1)) → (hb s i → ∃ j : Nat, t.2.2.2.1 61 (p * 4 + i) = (j : Int) ∧ FL T s i p j) ∧ (¬ hb s i → t.2.2.2.1 61 (p * 4 + i) = -1))
    (fun t => (4 - t.2.1) * 20 + h3 t.1 19 (10 - t.2.2.1) 0) (by decide) (Nat.le_of_ble_eq_true rfl) ?_ ?_
  · intro J hJ
    intro M1 hM1
    have hM1' : M1 = dt_wi M 60 3 (s : Int) := hM1
    refine hJ (0, 0, 0, M1) _ ⟨by dsimp only; omega, ⟨fun a x _ => by rw [hM1', dm_wi2 x], fun j hj => by rw [hM1', dm_wi1, dm_up2 hj], by rw [hM1']; rfl⟩, by dsimp only; rw [hM1', dm_wi1, dm_up1], fun _ => ⟨Nat.zero_le _, rfl⟩, fun q => (by cases q), fun p _ i _ q => (by dsimp only at q; omega)⟩ ⟨rfl, rfl, rfl, trivial⟩
  · rintro ⟨hd, p, i, N⟩ ⟨hd2, f1, n3, i0, i1, k5⟩ J hJ
    dsimp only at hd2 f1 n3 i0 i1 k5 hJ
    match hd, hd2, i0, i1 with
    | 0, _, i0, _ =>
      obtain ⟨k1, rfl⟩ := i0 rfl
      refine And.intro (fun hh => ?_) (fun hh => ?_)
      · have h4 : (4 : Int) ≤ (p : Int) := hh
        have : p = 4 := by omega
        subst this
        exact ⟨rfl, f1, n3, fun q hq j hj => k5 q hq j hj (Or.inl hq)⟩
      · have h4 : (p : Int) < 4 := hh
        exact hJ (1, p, 0, N) _ ⟨by dsimp only; omega, f1, n3, fun q => (by cases q), fun _ => ⟨by dsimp only; omega, Nat.zero_le _⟩, k5⟩ (by dsimp only [h3]; omega) ⟨rfl, rfl, rfl, rfl, trivial⟩
    | 1, _, _, i1 =>
      obtain ⟨hp, k2⟩ := i1 rfl
      refine And.intro (fun hh => ?_) (fun hh => ?_)
      · have h4 : (4 : Int) ≤ (i : Int) := hh
        have : i = 4 := by omega
        subst this
        refine And.intro ⟨by (try dsimp only); omega, by (try dsimp only); omega⟩ (hJ (0, p + 1, 0, N) _ ⟨by dsimp only; omega, f1, n3, fun _ => ⟨by dsimp only; omega, rfl⟩, fun q => (by cases q), fun a ha b hb' q => k5 a ha b hb' (by dsimp only at q; omega)⟩ (by dsimp only [h3]; omega) ⟨rfl, rfl, rfl, trivial⟩)
      · have h4 : (i : Int) < 4 := hh
        have hi : i < 4 := by omega
        have ei : ((p : Int) * 4 + (i : Int)).toNat = p * 4 + i := by omega
        have nx : ∀ v : Int, (hb s i → ∃ j : Nat, v = (j : Int) ∧ FL T s i p j) → (¬ hb s i → v = -1) → ∀ M1, M1 = dt_wi N 61 (p * 4 + i) v → dt_r ((i : Int) + 1) ∧ J 14 [some qK, some (.inl s), some (.inl p), some (.inl ((i : Int) + 1))] [] M1 := by
          intro v v1 v2 M1 hM1
          refine And.intro ⟨by omega, by omega⟩ (hJ (1, p, i + 1, M1) _ ⟨by dsimp only; omega, ⟨fun a x y => by dsimp only; rw [hM1, dm_wi2 y]; exact f1.1 a x y, fun j hj => by dsimp only; rw [hM1, dm_wi2 (by decide)]; exact f1.2.1 j hj, by dsimp only; rw [hM1]; exact f1.2.2⟩, by dsimp only; rw [hM1, dm_wi2 (by decide)]; exact n3, fun q => (by cases q), fun _ => ⟨hp, by dsimp only; omega⟩, fun a ha b hb' q => ?_⟩ (by dsimp only [h3]; omega) ⟨rfl, rfl, rfl, rfl, trivial⟩)
          dsimp only at q ⊢
          rw [hM1, dm_wi1]
          by_cases z : a = p ∧ b = i
          · obtain ⟨rfl, rfl⟩ := z
            rw [dm_up1]
            exact ⟨v1, v2⟩
          · rw [dm_up2 (by omega)]
            exact k5 a ha b hb' (by omega)
        (repeat (first | refine And.intro ⟨by (try dsimp only); omega, by (try dsimp only); omega⟩ ?_ | refine And.intro (Or.inl rfl) ?_ | refine And.intro (Or.inr rfl) ?_))
        dsimp only
        refine Exists.intro _ (And.intro (c_has _ s i N hs hi n3) ?_)
        rintro r M0 ⟨rfl, (⟨rfl, g⟩ | ⟨rfl, g⟩)⟩
        · refine And.intro (fun q => absurd (show (1 : Int) = 0 from q) (by decide)) (fun _ => ?_)
          refine Exists.intro _ (And.intro (c_firstLike _ s i p M0 hs hi hp n3 (cE_V (f1.E hE) hT) g) ?_)
          rintro r M1 ⟨rfl, j, rfl, hF⟩
          have hF' : FL T s i p j := FL_cong hi (f1.E hE) hF
          (repeat (first | refine And.intro ⟨by (try dsimp only); omega, by (try dsimp only); omega⟩ ?_ | refine And.intro (Or.inl rfl) ?_ | refine And.intro (Or.inr rfl) ?_))
          dsimp only
          rw [ei]
          exact nx _ (fun _ => ⟨j, rfl, hF'⟩) (fun q => absurd g q)
        · refine And.intro (fun _ => ?_) (fun q => absurd (show (0 : Int) = 0 from rfl) q)
          (repeat (first | refine And.intro ⟨by (try dsimp only); omega, by (try dsimp only); omega⟩ ?_ | refine And.intro (Or.inl rfl) ?_ | refine And.intro (Or.inr rfl) ?_))
          dsimp only
          rw [ei]
          exact nx _ (fun q => absurd q g) (fun _ => rfl)
    | hd + 2, hh, _, _ => exact absurd hh (by omega)
theorem c_isFirst (d s m : Nat) (M : dt_M) (T : Nat → Nat → Nat → Int) (hm : m < 256) (hR : xR M T s) : dt_Sp mX1_isFirst (d + 1) [qK, .inl m] M (fun r M' => M' = M ∧ ((r = some (.inl 1) ∧ xF T s m) ∨ (r = some (.inl 0) ∧ ¬ xF T s m))) := by
  refine dt_meth okX1_isFirst (fun pc => pc == 2) 60 (σ := Nat) (fun t => 2) (fun t => [some qK, some (.inl m), some (.inl t), none]) (fun t => M) (fun t => t ≤ 4 ∧ ∀ p, p < t → hb s (ch m p) ∧ ∀ j, j < ch m p → ¬ (hb s j ∧ tk_sl (T j) (T (ch m p)) p)) (fun t => 4 - t) (by decide) (Nat.le_of_ble_eq_true rfl) ?_ ?_
  · intro J hJ
    exact hJ 0 _ ⟨Nat.zero_le _, fun q hq => absurd hq (Nat.not_lt_zero q)⟩ ⟨rfl, rfl, rfl, trivial⟩
  · rintro p ⟨h1, h2⟩ J hJ
    refine And.intro (fun hh => ?_) (fun hh => ?_)
    · have : p = 4 := by omega
      subst this
      exact ⟨Or.inr rfl, rfl, Or.inl ⟨rfl, h2⟩⟩
    · have hp : p < 4 := by omega
      have cl := ch_lt m p
      have ei : ((p : Int) * 4 + (ch m p : Int)).toNat = p * 4 + ch m p := by omega
      obtain ⟨r1, r2⟩ := hR.2 p hp (ch m p) cl
      refine Exists.intro _ (And.intro (c_choice _ m p M hm hp) ?_)
      rintro r M0 ⟨rfl, rfl⟩
      (repeat (first | refine And.intro ⟨by (try dsimp only); omega, by (try dsimp only); omega⟩ ?_ | refine And.intro (Or.inl rfl) ?_ | refine And.intro (Or.inr rfl) ?_))
      rw [ei]
      by_cases hbc : hb s (ch m p)
      · obtain ⟨j, j1, j2⟩ := r1 hbc
        rw [j1]
        refine And.intro (fun z => ?_) (fun z => ?_)
        · have z' : j = ch m p := by omega
          subst z'
          refine And.intro ⟨by omega, by omega⟩ (hJ (p + 1) _ ⟨by omega, fun q hq => ?_⟩ (by omega) ⟨rfl, rfl, rfl, trivial⟩)
          by_cases x : q = p
          · subst x; exact ⟨hbc, j2.2.2.2⟩
          · exact h2 q (by omega)
        · have z' : j < ch m p := by have := j2.1; omega
          exact ⟨Or.inl rfl, rfl, Or.inr ⟨rfl, fun q => (q p hp).2 j z' ⟨j2.2.1, j2.2.2.1⟩⟩⟩
      · rw [r2 hbc]
        refine And.intro (fun z => absurd z (by omega)) (fun _ => ?_)
        exact ⟨Or.inl rfl, rfl, Or.inr ⟨rfl, fun q => hbc (q p hp).1⟩⟩
theorem c_isOf (d s m i : Nat) (M : dt_M) (T : Nat → Nat → Nat → Int) (hm : m < 256) (hi : i < 4) (hR : xR M T s) (hF : xF T s m) (hbi : hb s i) : dt_Sp mX1_isOf (d + 1) [qK, .inl m, .inl i] M (fun r M' => M' = M ∧ ((r = some (.inl 1) ∧ ∀ p, p < 4 → tk_sl (T (ch m p)) (T i) p) ∨ (r = some (.inl 0) ∧ ¬ ∀ p, p < 4 → tk_sl (T (ch m p)) (T i) p))) := by
  refine dt_meth okX1_isOf (fun pc => pc == 2) 60 (σ := Nat) (fun t => 2) (fun t => [some qK, some (.inl m), some (.inl i), some (.inl t)]) (fun t => M) (fun t => t ≤ 4 ∧ ∀ p, p < t → tk_sl (T (ch m p)) (T i) p) (fun t => 4 - t) (by decide) (Nat.le_of_ble_eq_true rfl) ?_ ?_
  · intro J hJ
    exact hJ 0 _ ⟨Nat.zero_le _, fun q hq => absurd hq (Nat.not_lt_zero q)⟩ ⟨rfl, rfl, rfl, rfl, trivial⟩
  · rintro p ⟨h1, h2⟩ J hJ
    refine And.intro (fun hh => ?_) (fun hh => ?_)
    · have : p = 4 := by omega
      subst this
      exact ⟨Or.inr rfl, rfl, Or.inl ⟨rfl, h2⟩⟩
    · have hp : p < 4 := by omega
      have cl := ch_lt m p
      have ei : ((p : Int) * 4 + (i : Int)).toNat = p * 4 + i := by omega
      obtain ⟨j, j1, j2⟩ := (hR.2 p hp i hi).1 hbi
      have key : j = ch m p ↔ tk_sl (T (ch m p)) (T i) p := by
        constructor
        · intro q; rw [← q]; exact j2.2.2.1
        · intro q
          rcases Nat.lt_trichotomy j (ch m p) with z | z | z
          · exact absurd ⟨j2.2.1, sl_tr j2.2.2.1 (sl_sy q)⟩ ((hF p hp).2 j z)
          · exact z
          · exact absurd ⟨(hF p hp).1, q⟩ (j2.2.2.2 _ z)
      (repeat (first | refine And.intro ⟨by (try dsimp only); omega, by (try dsimp only); omega⟩ ?_ | refine And.intro (Or.inl rfl) ?_ | refine And.intro (Or.inr rfl) ?_))
      rw [ei, j1]
      refine Exists.intro _ (And.intro (c_choice _ m p M hm hp) ?_)
      rintro r M0 ⟨rfl, rfl⟩
      refine And.intro (fun z => ?_) (fun z => ?_)
      · have z' : (j : Int) = (ch m p : Int) := z
        refine And.intro ⟨by omega, by omega⟩ (hJ (p + 1) _ ⟨by omega, fun q hq => ?_⟩ (by omega) ⟨rfl, rfl, rfl, rfl, trivial⟩)
        by_cases x : q = p
        · subst x; exact key.mp (by omega)
        · exact h2 q (by omega)
      · have z' : ¬ (j : Int) = (ch m p : Int) := z
        exact ⟨Or.inl rfl, rfl, Or.inr ⟨rfl, fun q => by have := key.mpr (q p hp); omega⟩⟩
theorem c_isOfOne (d s m : Nat) (M : dt_M) (T : Nat → Nat → Nat → Int) (hs : s < 16) (hm : m < 256) (hR : xR M T s) (hF : xF T s m) : dt_Sp mX1_isOfOne (d + 2) [qK, .inl m] M (fun r M' => M' = M ∧ ((r = some (.inl 1) ∧ xO T s m) ∨ (r = some (.inl 0) ∧ ¬ xO T s m))) := by
  refine dt_meth okX1_isOfOne (fun pc => pc == 2) 60 (σ := Nat) (fun t => 2) (fun t => [some qK, some (.inl m), some (.inl t)]) (fun t => M) (fun t => t ≤ 4 ∧ ∀ j, j < t → ¬ (hb s j ∧ ∀ p, p < 4 → tk_sl (T (ch m p)) (T j) p)) (fun t => 4 - t) (by decide) (Nat.le_of_ble_eq_true rfl) ?_ ?_
  · intro J hJ
    exact hJ 0 _ ⟨Nat.zero_le _, fun q hq => absurd hq (Nat.not_lt_zero q)⟩ ⟨rfl, rfl, rfl, trivial⟩
  · rintro j ⟨h1, h2⟩ J hJ
    refine And.intro (fun hh => ?_) (fun hh => ?_)
    · have : j = 4 := by omega
      subst this
      exact ⟨Or.inl rfl, rfl, Or.inr ⟨rfl, fun q => by obtain ⟨a, b, c, e⟩ := q; exact h2 a b ⟨c, e⟩⟩⟩
    · have hj : j < 4 := by omega
      have nx : ¬ (hb s j ∧ ∀ p, p < 4 → tk_sl (T (ch m p)) (T j) p) → dt_r ((j : Int) + 1) ∧ J 2 [some qK, some (.inl m), some (.inl ((j : Int) + 1))] [] M := fun g =>
        And.intro ⟨by omega, by omega⟩ (hJ (j + 1) _ ⟨by omega, fun q hq => by
          by_cases z : q = j
          · subst z; exact g
          · exact h2 q (by omega)⟩ (by omega) ⟨rfl, rfl, rfl, trivial⟩)
      refine Exists.intro _ (And.intro (c_has _ s j M hs hj hR.1) ?_)
      rintro r M0 ⟨rfl, (⟨rfl, g⟩ | ⟨rfl, g⟩)⟩
      · refine And.intro (fun q => absurd (show (1 : Int) = 0 from q) (by decide)) (fun _ => ?_)
        refine Exists.intro _ (And.intro (c_isOf _ s m j M0 T hm hj hR hF g) ?_)
        rintro r M1 ⟨rfl, (⟨rfl, g'⟩ | ⟨rfl, g'⟩)⟩
        · refine And.intro (fun q => absurd (show (1 : Int) = 0 from q) (by decide)) (fun _ => ?_)
          exact ⟨Or.inr rfl, rfl, Or.inl ⟨rfl, j, hj, g, g'⟩⟩
        · refine And.intro (fun _ => ?_) (fun q => absurd (show (0 : Int) = 0 from rfl) q)
          exact nx (fun q => g' q.2)
      · refine And.intro (fun _ => ?_) (fun q => absurd (show (0 : Int) = 0 from rfl) q)
        exact nx (fun q => g q.1)
