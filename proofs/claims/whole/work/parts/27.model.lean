/-! ===== the Model: its copies of talks; small methods ===== -/
/-- the Model's talk i is T -/
def rp (M : dt_M) (i : Nat) (T : Nat → Nat → Int) (n : Nat) : Prop :=
  M.1 63 i = (n : Int) ∧ (∀ j, j < n → M.1 64 (20 * i + j) = T 1 j ∧ M.1 65 (20 * i + j) = T 2 j ∧ M.1 66 (20 * i + j) = T 3 j ∧ M.1 67 (20 * i + j) = T 4 j ∧ M.1 68 (20 * i + j) = T 5 j) ∧
  (∀ p : Nat, p < 4 → M.1 69 (4 * i + p) = T 6 p) ∧ ∀ p : Nat, p < 4 → ∀ j : Nat, (j : Int) < T 6 p → M.1 70 (20 * (4 * i + p) + j) = T 7 (p * 10 + j)
theorem rp_eq {M : dt_M} {i n : Nat} {T U : Nat → Nat → Int} (h : rp M i T n) (he : tk_eq n U T) : rp M i U n := by
  obtain ⟨h1, h2, h3, h4⟩ := h
  refine ⟨h1, fun j hj => ?_, fun p hp => ?_, fun p hp j hj => ?_⟩
  · have a := fun g x y => he.2.2.1 g x y j hj
    rw [a 1 (by omega) (by omega), a 2 (by omega) (by omega), a 3 (by omega) (by omega), a 4 (by omega) (by omega), a 5 (by omega) (by omega)]
    exact h2 j hj
  · rw [he.2.2.2.1 p hp]; exact h3 p hp
  · rw [he.2.2.2.2 p hp j hj]; exact h4 p hp j (by rw [← he.2.2.2.1 p hp]; exact hj)
/-- the Model's rows of talks are as they were -/
def rfr (M M' : dt_M) : Prop := ∀ a, 63 ≤ a → a ≤ 70 → M'.1 a = M.1 a
theorem rp_fr {M M' : dt_M} {i n : Nat} {T : Nat → Nat → Int} (h : rp M i T n) (hf : rfr M M') : rp M' i T n := by
  unfold rp at h ⊢
  rw [hf 63 (by omega) (by omega), hf 64 (by omega) (by omega), hf 65 (by omega) (by omega), hf 66 (by omega) (by omega), hf 67 (by omega) (by omega), hf 68 (by omega) (by omega), hf 69 (by omega) (by omega), hf 70 (by omega) (by omega)]
  exact h
/-- the Model's talks are those of T, whole ones -/
def mV (M : dt_M) (T : Nat → Nat → Nat → Int) : Prop := ∀ i : Nat, i < 4 → ∃ n s, tV (T i) n s ∧ rp M i (T i) n
theorem c_in (d : Nat) (v l h : Int) (M : dt_M) : dt_Sp mX7_in d [.inr (.inl v), .inr (.inl l), .inr (.inl h)] M (fun r M' => M' = M ∧ r = some (.inl (if l ≤ v ∧ v ≤ h then 1 else 0))) := by
  refine dt_flat okX7_in 30 (by decide) (Nat.le_of_ble_eq_true rfl) (fun J => ?_)
  refine And.intro (fun h1 => ?_) (fun h1 => And.intro (fun h2 => ?_) (fun h2 => ?_))
  · unfold dt_cmp at h1
    refine ⟨Or.inl rfl, rfl, ?_⟩
    rw [if_neg]
    intro q
    split at h1
    · omega
    · split at h1 <;> omega
  · unfold dt_cmp at h2
    refine ⟨Or.inl rfl, rfl, ?_⟩
    rw [if_neg]
    intro q
    split at h2
    · omega
    · split at h2 <;> omega
  · unfold dt_cmp at h1 h2
    refine ⟨Or.inr rfl, rfl, ?_⟩
    rw [if_pos]
    constructor
    · split at h1
      · omega
      · split at h1 <;> omega
    · split at h2
      · omega
      · split at h2 <;> omega
theorem c_noTalk (d : Nat) (i : Int) (M : dt_M) : dt_Sp mX7_noTalk (d + 1) [.inl i] M (fun r M' => M' = M ∧ r = some (.inl (if 0 ≤ i ∧ i < 4 then 0 else 1))) := by
  refine dt_flat okX7_noTalk 30 (by decide) (Nat.le_of_ble_eq_true rfl) (fun J => ?_)
  refine Exists.intro _ (And.intro (c_in _ _ _ _ M) ?_)
  rintro r M0 ⟨rfl, rfl⟩
  by_cases hi : 0 ≤ i ∧ i ≤ 3
  · rw [if_pos hi, if_pos (by omega)]
    exact And.intro (fun _ => ⟨Or.inl rfl, rfl, rfl⟩) (fun h => absurd (show (1 : Int) = 0 from h) (by decide))
  · rw [if_neg hi, if_neg (by omega)]
    exact And.intro (fun h => absurd (show (0 : Int) = 0 from rfl) h) (fun _ => ⟨Or.inr rfl, rfl, rfl⟩)
theorem k_clear (d : Nat) (M : dt_M) : dt_Sp mX7_clear d [qM] M (fun r M' => r = some (.inl (M.1 62 8)) ∧ M' = dt_wi M 62 8 0) := by
  refine dt_flat okX7_clear 30 (by decide) (Nat.le_of_ble_eq_true rfl) (fun J => ?_)
  intro M1 h1
  exact ⟨rfl, h1⟩
theorem k_count (d : Nat) (w : Int) (M : dt_M) (hT : ∀ i : Nat, i < 4 → 0 ≤ M.1 63 i ∧ M.1 63 i ≤ 20) : dt_Sp mX7_count d [qM, .inl w] M (fun r M' => M' = M ∧ r = some (.inl (if w = 0 then M.1 63 0 + M.1 63 1 + M.1 63 2 + M.1 63 3 else if w = 1 then M.1 62 8 else -1))) := by
  have t0 := hT 0 (by omega)
  have t1 := hT 1 (by omega)
  have t2 := hT 2 (by omega)
  have t3 := hT 3 (by omega)
  refine dt_flat okX7_count 40 (by decide) (Nat.le_of_ble_eq_true rfl) (fun J => ?_)
  refine And.intro (fun h => And.intro (fun h1 => ⟨rfl, by rw [if_neg h, if_neg h1]⟩) (fun h1 => ⟨rfl, by rw [if_neg h, if_pos h1]⟩)) (fun h => ?_)
  refine And.intro ⟨by decide, by decide⟩ (And.intro ⟨by decide, by decide⟩ (And.intro ⟨by show _ ≤ M.1 63 0 + M.1 63 1; omega, by show M.1 63 0 + M.1 63 1 ≤ _; omega⟩ (And.intro ⟨by decide, by decide⟩ (And.intro ⟨by show _ ≤ M.1 63 0 + M.1 63 1 + M.1 63 2; omega, by show M.1 63 0 + M.1 63 1 + M.1 63 2 ≤ _; omega⟩ (And.intro ⟨by decide, by decide⟩ (And.intro ⟨by show _ ≤ M.1 63 0 + M.1 63 1 + M.1 63 2 + M.1 63 3; omega, by show M.1 63 0 + M.1 63 1 + M.1 63 2 + M.1 63 3 ≤ _; omega⟩ ?_))))))
  exact ⟨rfl, by rw [if_pos h]; rfl⟩
theorem c_noEvent (d : Nat) (i e : Int) (M : dt_M) (hT : ∀ i : Nat, i < 4 → 0 ≤ M.1 63 i ∧ M.1 63 i ≤ 20) : dt_Sp mX7_noEvent (d + 2) [qM, .inl i, .inl e] M (fun r M' => M' = M ∧ r = some (.inl (if (0 ≤ i ∧ i < 4) ∧ 0 ≤ e ∧ e < M.1 63 i.toNat then 0 else 1))) := by
  refine dt_flat okX7_noEvent 40 (by decide) (Nat.le_of_ble_eq_true rfl) (fun J => ?_)
  refine Exists.intro _ (And.intro (c_noTalk _ i M) ?_)
  rintro r M0 ⟨rfl, rfl⟩
  by_cases hi : 0 ≤ i ∧ i < 4
  · have := hT i.toNat (by omega)
    rw [if_pos hi]
    refine And.intro (fun h => absurd (show (0 : Int) = 0 from rfl) h) (fun _ => ?_)
    refine And.intro ⟨by omega, by omega⟩ (And.intro ⟨by show _ ≤ M0.1 63 i.toNat - 1; omega, by show M0.1 63 i.toNat - 1 ≤ _; omega⟩ ?_)
    refine Exists.intro _ (And.intro (c_in _ _ _ _ M0) ?_)
    rintro r M1 ⟨rfl, rfl⟩
    by_cases he : 0 ≤ e ∧ e < M1.1 63 i.toNat
    · rw [if_pos (show 0 ≤ e ∧ e ≤ M1.1 63 i.toNat - 1 by omega), if_pos ⟨hi, he⟩]
      exact And.intro (fun _ => ⟨Or.inl rfl, rfl, rfl⟩) (fun h => absurd (show (1 : Int) = 0 from h) (by decide))
    · rw [if_neg (show ¬ (0 ≤ e ∧ e ≤ M1.1 63 i.toNat - 1) by omega), if_neg (fun q => he q.2)]
      exact And.intro (fun h => absurd (show (0 : Int) = 0 from rfl) h) (fun _ => ⟨Or.inr rfl, rfl, rfl⟩)
  · rw [if_neg hi, if_neg (fun q => hi q.1)]
    exact And.intro (fun _ => ⟨Or.inr rfl, rfl, rfl⟩) (fun h => absurd (show (1 : Int) = 0 from h) (by decide))
theorem k_event (d : Nat) (i e w : Int) (M : dt_M) (hT : ∀ i : Nat, i < 4 → 0 ≤ M.1 63 i ∧ M.1 63 i ≤ 20) (hZ : ∀ i : Nat, i < 4 → ∀ e : Nat, (e : Int) < M.1 63 i → M.1 64 (20 * i + e) = 0 ∨ M.1 64 (20 * i + e) = 1) : dt_Sp mX7_event (d + 3) [qM, .inl i, .inl e, .inl w] M (fun r M' => M' = M ∧ r = some (.inl (if (0 ≤ i ∧ i < 4) ∧ 0 ≤ e ∧ e < M.1 63 i.toNat then (if 0 ≤ w ∧ w ≤ 4 then M.1 (64 + w.toNat) (20 * i.toNat + e.toNat) else -1) else -1))) := by
  refine dt_flat okX7_event 60 (by decide) (Nat.le_of_ble_eq_true rfl) (fun J => ?_)
  refine Exists.intro _ (And.intro (c_noEvent _ i e M hT) ?_)
  rintro r M0 ⟨rfl, rfl⟩
  by_cases hi : (0 ≤ i ∧ i < 4) ∧ 0 ≤ e ∧ e < M0.1 63 i.toNat
  · have h20 := hT i.toNat (by omega)
    have ea : (20 * i + e).toNat = 20 * i.toNat + e.toNat := by omega
    rw [if_pos hi, if_pos hi]
    refine And.intro (fun _ => ?_) (fun h => absurd (show (0 : Int) = 0 from rfl) h)
    refine And.intro ⟨by omega, by omega⟩ (And.intro ⟨by omega, by omega⟩ ?_)
    refine And.intro (fun h => ?_) (fun h => And.intro (fun h1 => ?_) (fun h1 => And.intro (fun h2 => ?_) (fun h2 => And.intro (fun h3 => ?_) (fun h3 => And.intro (fun h4 => ?_) (fun h4 => ?_)))))
    · refine And.intro ⟨by omega, by omega⟩ ?_
      rw [ea]
      subst h
      rw [if_pos (by omega)]
      have hz := hZ i.toNat (by omega) e.toNat (by omega)
      refine And.intro (fun z => ⟨rfl, ?_⟩) (fun z => ⟨rfl, ?_⟩)
      · show some (Sum.inl 0) = some (Sum.inl (M0.1 64 _)); rw [z]
      · show some (Sum.inl 1) = some (Sum.inl (M0.1 64 _))
        rcases hz with q | q
        · exact absurd q z
        · rw [q]
    · subst h1
      exact And.intro ⟨by omega, by omega⟩ ⟨rfl, by rw [if_pos (by omega), ea]; rfl⟩
    · subst h2
      exact And.intro ⟨by omega, by omega⟩ ⟨rfl, by rw [if_pos (by omega), ea]; rfl⟩
    · subst h3
      exact And.intro ⟨by omega, by omega⟩ ⟨rfl, by rw [if_pos (by omega), ea]; rfl⟩
    · subst h4
      exact And.intro ⟨by omega, by omega⟩ ⟨rfl, by rw [if_pos (by omega), ea]; rfl⟩
    · exact ⟨rfl, by rw [if_neg (by omega)]⟩
  · rw [if_neg hi, if_neg hi]
    refine And.intro (fun h => absurd (show (1 : Int) = 0 from h) (by decide)) (fun _ => ?_)
    exact ⟨rfl, rfl⟩
theorem k_line (d : Nat) (i p k : Int) (M : dt_M) (hl : ∀ i : Nat, i < 4 → ∀ q : Nat, q < 4 → 0 ≤ M.1 69 (4 * i + q) ∧ M.1 69 (4 * i + q) ≤ 10) : dt_Sp mX7_line (d + 2) [qM, .inl i, .inl p, .inl k] M (fun r M' => M' = M ∧ r = some (.inl (if (0 ≤ i ∧ i < 4) ∧ (0 ≤ p ∧ p < 4) then (if k = -1 then M.1 69 (4 * i.toNat + p.toNat) else if 0 ≤ k ∧ k < M.1 69 (4 * i.toNat + p.toNat) then M.1 70 (20 * (4 * i.toNat + p.toNat) + k.toNat) else -1) else -1))) := by
  refine dt_flat okX7_line 60 (by decide) (Nat.le_of_ble_eq_true rfl) (fun J => ?_)
  refine Exists.intro _ (And.intro (c_noTalk _ i M) ?_)
  rintro r M0 ⟨rfl, rfl⟩
  by_cases hi : 0 ≤ i ∧ i < 4
  · rw [if_pos hi]
    refine And.intro (fun h => absurd (show (0 : Int) = 0 from rfl) h) (fun _ => ?_)
    refine Exists.intro _ (And.intro (c_in _ _ _ _ M0) ?_)
    rintro r M1 ⟨rfl, rfl⟩
    by_cases hp : 0 ≤ p ∧ p < 4
    · have hl1 := hl i.toNat (by omega) p.toNat (by omega)
      have ea : (4 * i + p).toNat = 4 * i.toNat + p.toNat := by omega
      rw [if_pos (show 0 ≤ p ∧ p ≤ 3 by omega), if_pos ⟨hi, hp⟩]
      refine And.intro (fun h => absurd (show (1 : Int) = 0 from h) (by decide)) (fun _ => ?_)
      refine And.intro ⟨by omega, by omega⟩ (And.intro ⟨by omega, by omega⟩ (And.intro ⟨by omega, by omega⟩ ?_))
      rw [ea]
      refine And.intro ⟨by omega, by omega⟩ ?_
      refine Exists.intro _ (And.intro (c_in _ _ _ _ M1) ?_)
      rintro r M2 ⟨rfl, rfl⟩
      by_cases hk : -1 ≤ k ∧ k ≤ M2.1 69 (4 * i.toNat + p.toNat) - 1
      · rw [if_pos hk]
        refine And.intro (fun _ => ?_) (fun h => absurd (show (1 : Int) = 0 from h) (by decide))
        refine And.intro ⟨by omega, by omega⟩ (And.intro ⟨by omega, by omega⟩ (And.intro (fun h => ?_) (fun h => ?_)))
        · refine And.intro ⟨by omega, by omega⟩ (And.intro ⟨by omega, by omega⟩ (And.intro ⟨by omega, by omega⟩ ⟨rfl, ?_⟩))
          rw [if_neg (by omega), if_pos (by omega), show (20 * (4 * i + p) + k).toNat = 20 * (4 * i.toNat + p.toNat) + k.toNat by omega]
        · refine And.intro ⟨by omega, by omega⟩ ⟨rfl, ?_⟩
          rw [if_pos (by omega), ea]
      · rw [if_neg hk]
        refine And.intro (fun h => absurd (show (0 : Int) = 0 from rfl) h) (fun _ => ?_)
        exact ⟨rfl, by rw [if_neg (by omega), if_neg (by omega)]⟩
    · rw [if_neg (show ¬ (0 ≤ p ∧ p ≤ 3) by omega), if_neg (fun q => hp q.2)]
      refine And.intro (fun _ => ?_) (fun h => absurd (show (0 : Int) = 0 from rfl) h)
      exact ⟨rfl, rfl⟩
  · rw [if_neg hi, if_neg (fun q => hi q.1)]
    refine And.intro (fun _ => ?_) (fun h => absurd (show (1 : Int) = 0 from h) (by decide))
    exact ⟨rfl, rfl⟩
