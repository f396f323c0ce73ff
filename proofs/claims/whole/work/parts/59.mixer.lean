/-! ===== Mixer ===== -/
abbrev qK : dt_V := .inr (.inr (5, 4, 60))
def hb (s i : Nat) : Prop := s / 2 ^ i % 2 = 1
theorem hb_1 : ∀ s : Nat, s < 16 → ∀ i : Nat, i < 4 → (dt_and (s : Int) (dt_shl 1 (i : Int)) = 0 ↔ ¬ (s / 2 ^ i % 2 = 1)) := by decide +kernel
theorem hb_2 : ∀ s : Nat, s < 16 → ∀ i : Nat, i < 4 → (dt_and (dt_shr (s : Int) (i : Int)) 1 = 1 ↔ (s / 2 ^ i % 2 = 1)) := by decide +kernel
theorem sl_rf {T : Nat → Nat → Int} {p : Nat} : tk_sl T T p := ⟨rfl, fun _ _ => ⟨rfl, rfl, rfl⟩⟩
theorem sl_sy {T U : Nat → Nat → Int} {p : Nat} (h : tk_sl T U p) : tk_sl U T p := ⟨h.1.symm, fun j hj => by
  have := h.2 j (by rw [h.1]; exact hj)
  exact ⟨this.1.symm, this.2.1.symm, this.2.2.symm⟩⟩
theorem sl_tr {T U V : Nat → Nat → Int} {p : Nat} (h : tk_sl T U p) (k : tk_sl U V p) : tk_sl T V p := ⟨h.1.trans k.1, fun j hj => by
  have a := h.2 j hj
  have b := k.2 j (by rw [← h.1]; exact hj)
  exact ⟨a.1.trans b.1, a.2.1.trans b.2.1, a.2.2.trans b.2.2⟩⟩
/-- j is the first of the set that has the same line as i -/
def FL (T : Nat → Nat → Nat → Int) (s i p j : Nat) : Prop := j ≤ i ∧ hb s j ∧ tk_sl (T j) (T i) p ∧ ∀ q, q < j → ¬ (hb s q ∧ tk_sl (T q) (T i) p)
def xF (T : Nat → Nat → Nat → Int) (s m : Nat) : Prop := ∀ p, p < 4 → hb s (ch m p) ∧ ∀ j, j < ch m p → ¬ (hb s j ∧ tk_sl (T j) (T (ch m p)) p)
def xO (T : Nat → Nat → Nat → Int) (s m : Nat) : Prop := ∃ j, j < 4 ∧ hb s j ∧ ∀ p, p < 4 → tk_sl (T (ch m p)) (T j) p
/-- the row `first` is laid for the set s -/
def xR (M : dt_M) (T : Nat → Nat → Nat → Int) (s : Nat) : Prop := M.1 60 3 = (s : Int) ∧ ∀ p, p < 4 → ∀ i, i < 4 → (hb s i → ∃ j : Nat, M.1 61 (p * 4 + i) = (j : Int) ∧ FL T s i p j) ∧ (¬ hb s i → M.1 61 (p * 4 + i) = -1)
theorem c_has (d s i : Nat) (M : dt_M) (hs : s < 16) (hi : i < 4) (h3 : M.1 60 3 = (s : Int)) : dt_Sp mX1_has d [qK, .inl i] M (fun r M' => M' = M ∧ ((r = some (.inl 1) ∧ hb s i) ∨ (r = some (.inl 0) ∧ ¬ hb s i))) := by
  refine dt_flat okX1_has 30 (by decide) (Nat.le_of_ble_eq_true rfl) (fun J => ?_)
  refine And.intro (fun z => ?_) (fun z => ?_)
  · have z' : dt_and (M.1 60 3) (dt_shl 1 (i : Int)) = 0 := z
    rw [h3] at z'
    exact ⟨Or.inl rfl, rfl, Or.inr ⟨rfl, (hb_1 s hs i hi).mp z'⟩⟩
  · have z' : ¬ dt_and (M.1 60 3) (dt_shl 1 (i : Int)) = 0 := z
    rw [h3] at z'
    refine ⟨Or.inr rfl, rfl, Or.inl ⟨rfl, ?_⟩⟩
    apply Classical.byContradiction
    intro q
    exact z' ((hb_1 s hs i hi).mpr q)
theorem c_firstLike (d s i p : Nat) (M : dt_M) (hs : s < 16) (hi : i < 4) (hp : p < 4) (h3 : M.1 60 3 = (s : Int)) (hV : cV M) (hbi : hb s i) : dt_Sp mX1_firstLike (d + 2) [qK, .inl i, .inl p] M (fun r M' => M' = M ∧ ∃ j : Nat, r = some (.inl (j : Int)) ∧ FL (cT M) s i p j) := by
  refine dt_meth okX1_firstLike (fun pc => pc == 2) 60 (σ := Nat) (fun t => 2) (fun t => [some qK, some (.inl i), some (.inl p), some (.inl t)]) (fun t => M) (fun t => t ≤ i ∧ ∀ q, q < t → ¬ (hb s q ∧ tk_sl (cT M q) (cT M i) p)) (fun t => 4 - t) (by decide) (Nat.le_of_ble_eq_true rfl) ?_ ?_
  · intro J hJ
    exact hJ 0 _ ⟨Nat.zero_le _, fun q hq => absurd hq (Nat.not_lt_zero q)⟩ ⟨rfl, rfl, rfl, rfl, trivial⟩
  · rintro j ⟨h1, h2⟩ J hJ
    refine And.intro (fun hh => ?_) (fun hh => ?_)
    · have : j = i := by omega
      subst this
      exact ⟨rfl, j, rfl, Nat.le_refl _, hbi, sl_rf, h2⟩
    · have hj : j < i := by omega
      refine Exists.intro _ (And.intro (c_has _ s j M hs (by omega) h3) ?_)
      have nx : ¬ (hb s j ∧ tk_sl (cT M j) (cT M i) p) → dt_r ((j : Int) + 1) ∧ J 2 [some qK, some (.inl i), some (.inl p), some (.inl ((j : Int) + 1))] [] M := fun g =>
        And.intro ⟨by omega, by omega⟩ (hJ (j + 1) _ ⟨by omega, fun q hq => by
          by_cases z : q = j
          · subst z; exact g
          · exact h2 q (by omega)⟩ (by omega) ⟨rfl, rfl, rfl, rfl, trivial⟩)
      rintro r M0 ⟨rfl, (⟨rfl, g⟩ | ⟨rfl, g⟩)⟩
      · refine And.intro (fun q => absurd (show (1 : Int) = 0 from q) (by decide)) (fun _ => ?_)
        obtain ⟨n, t, v1⟩ := hV j (by omega)
        obtain ⟨n', t', v2⟩ := hV i hi
        have ej : (j : Int).toNat = j := by omega
        have ei : (i : Int).toNat = i := by omega
        (repeat (first | refine And.intro ⟨by (try dsimp only); omega, by (try dsimp only); omega⟩ ?_ | refine And.intro (Or.inl rfl) ?_ | refine And.intro (Or.inr rfl) ?_))
        rw [ej, ei]
        refine Exists.intro _ (And.intro (c_hasSameLine _ (2 + 8 * j) (2 + 8 * i) p n t n' t' M0 hp v1.1 v2.1) ?_)
        rintro r M1 ⟨rfl, (⟨rfl, g'⟩ | ⟨rfl, g'⟩)⟩
        · refine And.intro (fun q => absurd (show (1 : Int) = 0 from q) (by decide)) (fun _ => ?_)
          exact ⟨rfl, j, rfl, h1, g, g', h2⟩
        · refine And.intro (fun _ => ?_) (fun q => absurd (show (0 : Int) = 0 from rfl) q)
          exact nx (fun q => g' q.2)
      · refine And.intro (fun _ => ?_) (fun q => absurd (show (0 : Int) = 0 from rfl) q)
        exact nx (fun q => g q.1)
