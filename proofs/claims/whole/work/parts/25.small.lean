/-! ===== DrawnTalks: the small methods ===== -/
abbrev qX : dt_V := .inr (.inr (10, 7, 0))
abbrev qM : dt_V := .inr (.inr (11, 35, 62))
abbrev qT (k : Nat) : dt_V := .inr (.inr (9, 9, k))
theorem c_isPart (d : Nat) (i : Int) (M : dt_M) : dt_Sp mX6_isPart d [.inl i] M (fun r M' => M' = M ∧ r = some (.inl (if 0 ≤ i ∧ i < 4 then 1 else 0))) := by
  refine dt_flat okX6_isPart 20 (by decide) (Nat.le_of_ble_eq_true rfl) (fun J => ?_)
  repeat' (first | apply And.intro | intro _)
  all_goals first | omega | rfl | (rw [if_neg (by omega)]) | (rw [if_pos (by omega)])
theorem c_isWay (d : Nat) (i : Int) (M : dt_M) : dt_Sp mX6_isWay d [.inl i] M (fun r M' => M' = M ∧ r = some (.inl (if 0 ≤ i ∧ i ≤ 2 then 1 else 0))) := by
  refine dt_flat okX6_isWay 20 (by decide) (Nat.le_of_ble_eq_true rfl) (fun J => ?_)
  repeat' (first | apply And.intro | intro _)
  all_goals first | omega | rfl | (rw [if_neg (by omega)]) | (rw [if_pos (by omega)])
theorem c_isMix (d : Nat) (i : Int) (M : dt_M) : dt_Sp mX6_isMix d [.inl i] M (fun r M' => M' = M ∧ r = some (.inl (if 0 ≤ i ∧ i < 256 then 1 else 0))) := by
  refine dt_flat okX6_isMix 20 (by decide) (Nat.le_of_ble_eq_true rfl) (fun J => ?_)
  repeat' (first | apply And.intro | intro _)
  all_goals first | omega | rfl | (rw [if_neg (by omega)]) | (rw [if_pos (by omega)])
theorem c_isSet (d : Nat) (i : Int) (M : dt_M) : dt_Sp mX6_isSet d [.inl i] M (fun r M' => M' = M ∧ r = some (.inl (if 1 ≤ i ∧ i < 16 then 1 else 0))) := by
  refine dt_flat okX6_isSet 20 (by decide) (Nat.le_of_ble_eq_true rfl) (fun J => ?_)
  repeat' (first | apply And.intro | intro _)
  all_goals first | omega | rfl | (rw [if_neg (by omega)]) | (rw [if_pos (by omega)])
theorem c_asNumber (d : Nat) (b : Int) (hb : b = 0 ∨ b = 1) (M : dt_M) : dt_Sp mX6_asNumber d [.inl b] M (fun r M' => M' = M ∧ r = some (.inl b)) := by
  refine dt_flat okX6_asNumber 20 (by decide) (Nat.le_of_ble_eq_true rfl) (fun J => ?_)
  repeat' (first | apply And.intro | intro _)
  all_goals first | omega | rfl | (congr 2; omega)
theorem c_isEvent (d : Nat) (i e : Int) (M : dt_M) : dt_Sp mX6_isEvent (d + 1) [qX, .inl i, .inl e] M (fun r M' => M' = M ∧ r = some (.inl (if (0 ≤ i ∧ i < 4) ∧ 0 ≤ e ∧ e < M.1 (2 + 8 * i.toNat) 7 then 1 else 0))) := by
  refine dt_flat okX6_isEvent 40 (by decide) (Nat.le_of_ble_eq_true rfl) (fun J => ?_)
  refine Exists.intro _ (And.intro (c_isTalk _ i M) ?_)
  rintro r M0 ⟨rfl, rfl⟩
  by_cases hi : 0 ≤ i ∧ i < 4
  · rw [if_pos hi]
    refine And.intro (fun h => absurd (show (1 : Int) = 0 from h) (by decide)) (fun _ => ?_)
    repeat' (first | apply And.intro | intro _)
    all_goals first | omega | rfl | (rw [if_neg (by omega)]) | (rw [if_pos (by omega)])
  · rw [if_neg hi]
    refine And.intro (fun _ => ?_) (fun h => absurd (show (0 : Int) = 0 from rfl) h)
    repeat' (first | apply And.intro | intro _)
    all_goals first | omega | rfl | (rw [if_neg (by omega)])
theorem c_clear (d : Nat) (M : dt_M) : dt_Sp mX6_clear d [qX] M (fun r M' => r = some (.inl (M.1 42 1)) ∧ M' = dt_wi M 42 1 0) := by
  refine dt_flat okX6_clear 30 (by decide) (Nat.le_of_ble_eq_true rfl) (fun J => ?_)
  intro M1 h1
  exact ⟨rfl, h1⟩
/-- the parts that have events, as bits -/
def tk_pw (T : Nat → Nat → Int) : Nat → Int
  | 0 => 0
  | p + 1 => if 0 < T 6 p then dt_or (tk_pw T p) (dt_shl 1 p) else tk_pw T p
theorem c_partsWithEvents (d k : Nat) (M : dt_M) : dt_Sp mX5_partsWithEvents d [qT k] M (fun r M' => M' = M ∧ r = some (.inl (tk_pw (tk M k) 4))) := by
  refine dt_meth okX5_partsWithEvents (fun pc => pc == 4) 50 (σ := Nat) (fun _ => 4) (fun t => [some (qT k), some (.inl (tk_pw (tk M k) t)), some (.inl t)]) (fun t => M) (fun t => t ≤ 4) (fun t => 4 - t) (by decide) (Nat.le_of_ble_eq_true rfl) ?_ ?_
  · intro J hJ
    exact hJ 0 _ (by omega) ⟨rfl, rfl, rfl, trivial⟩
  · intro p hp J hJ
    have ep : (p : Int).toNat = p := by omega
    refine And.intro (fun h => ?_) (fun h => ?_)
    · have : p = 4 := by omega
      subst this
      exact ⟨rfl, rfl⟩
    · refine And.intro ⟨by omega, by omega⟩ (And.intro (fun h2 => ?_) (fun h2 => ?_))
      · refine And.intro ⟨by omega, by omega⟩ (hJ (p + 1) _ (by omega) (by omega) ⟨rfl, ?_, rfl, trivial⟩)
        rw [ep] at h2
        show (Sum.inl (tk_pw (tk M k) (p + 1)) : dt_V) = Sum.inl (tk_pw (tk M k) p)
        congr 1
        exact if_neg (show ¬ 0 < M.1 (k + 6) p by omega)
      · refine And.intro ⟨by omega, by omega⟩ (hJ (p + 1) _ (by omega) (by omega) ⟨rfl, ?_, rfl, trivial⟩)
        rw [ep] at h2
        show (Sum.inl (tk_pw (tk M k) (p + 1)) : dt_V) = Sum.inl (dt_or (tk_pw (tk M k) p) (dt_shl 1 p))
        congr 1
        exact if_pos (show 0 < M.1 (k + 6) p by omega)
theorem c_about (d : Nat) (i w : Int) (M : dt_M) : dt_Sp mX6_about (d + 1) [qX, .inl i, .inl w] M (fun r M' => M' = M ∧ r = some (.inl (if (0 ≤ i ∧ i < 4) ∧ 0 ≤ w ∧ w ≤ 2 then (if w = 0 then M.1 (2 + 8 * i.toNat) 7 else if w = 1 then M.1 (2 + 8 * i.toNat) 8 else tk_pw (tk M (2 + 8 * i.toNat)) 4) else -1))) := by
  refine dt_flat okX6_about 40 (by decide) (Nat.le_of_ble_eq_true rfl) (fun J => ?_)
  refine Exists.intro _ (And.intro (c_isTalk _ i M) ?_)
  rintro r M0 ⟨rfl, rfl⟩
  by_cases hi : 0 ≤ i ∧ i < 4
  · rw [if_pos hi]
    refine And.intro (fun _ => ?_) (fun h => absurd (show (1 : Int) = 0 from h) (by decide))
    refine And.intro (fun h => ?_) (fun h => And.intro (fun h1 => ?_) (fun h1 => And.intro (fun h2 => ?_) (fun h2 => ?_)))
    · refine And.intro ⟨by omega, by omega⟩ ⟨rfl, ?_⟩
      subst h
      rw [if_pos (by omega), if_pos rfl]
    · refine And.intro ⟨by omega, by omega⟩ ⟨rfl, ?_⟩
      subst h1
      rw [if_pos (by omega), if_neg (by omega), if_pos rfl]
    · refine And.intro ⟨by omega, by omega⟩ ?_
      refine Exists.intro _ (And.intro (c_partsWithEvents _ _ M0) ?_)
      rintro r M1 ⟨rfl, rfl⟩
      refine ⟨rfl, ?_⟩
      subst h2
      rw [if_pos (by omega), if_neg (by omega), if_neg (by omega)]
    · exact ⟨rfl, by rw [if_neg (by omega)]⟩
  · rw [if_neg hi]
    refine And.intro (fun h => absurd (show (0 : Int) = 0 from rfl) h) (fun _ => ?_)
    exact ⟨rfl, by rw [if_neg (fun q => hi q.1)]⟩
theorem c_event (d : Nat) (i e w : Int) (M : dt_M) (hT : ∀ i : Nat, i < 4 → M.1 (2 + 8 * i) 7 ≤ 20) (hZ : ∀ i : Nat, i < 4 → ∀ e : Nat, (e : Int) < M.1 (2 + 8 * i) 7 → M.1 (2 + 8 * i + 1) e = 0 ∨ M.1 (2 + 8 * i + 1) e = 1) : dt_Sp mX6_event (d + 2) [qX, .inl i, .inl e, .inl w] M (fun r M' => M' = M ∧ r = some (.inl (if (0 ≤ i ∧ i < 4) ∧ 0 ≤ e ∧ e < M.1 (2 + 8 * i.toNat) 7 then (if 0 ≤ w ∧ w ≤ 4 then M.1 (2 + 8 * i.toNat + (w.toNat + 1)) e.toNat else -1) else -1))) := by
  refine dt_flat okX6_event 60 (by decide) (Nat.le_of_ble_eq_true rfl) (fun J => ?_)
  refine Exists.intro _ (And.intro (c_isEvent _ i e M) ?_)
  rintro r M0 ⟨rfl, rfl⟩
  by_cases hi : (0 ≤ i ∧ i < 4) ∧ 0 ≤ e ∧ e < M0.1 (2 + 8 * i.toNat) 7
  · have h20 := hT i.toNat (by omega)
    rw [if_pos hi, if_pos hi]
    refine And.intro (fun _ => ?_) (fun h => absurd (show (1 : Int) = 0 from h) (by decide))
    refine And.intro ⟨by omega, by omega⟩ ?_
    refine And.intro (fun h => ?_) (fun h => And.intro (fun h1 => ?_) (fun h1 => And.intro (fun h2 => ?_) (fun h2 => And.intro (fun h3 => ?_) (fun h3 => And.intro (fun h4 => ?_) (fun h4 => ?_)))))
    · refine And.intro ⟨by omega, by omega⟩ ?_
      refine Exists.intro _ (And.intro (c_asNumber _ _ (hZ i.toNat (by omega) e.toNat (by omega)) M0) ?_)
      rintro r M1 ⟨rfl, rfl⟩
      subst h
      exact ⟨rfl, by rw [if_pos (by omega)]; rfl⟩
    · subst h1
      exact And.intro ⟨by omega, by omega⟩ ⟨rfl, by rw [if_pos (by omega)]; rfl⟩
    · subst h2
      exact And.intro ⟨by omega, by omega⟩ ⟨rfl, by rw [if_pos (by omega)]; rfl⟩
    · subst h3
      exact And.intro ⟨by omega, by omega⟩ ⟨rfl, by rw [if_pos (by omega)]; rfl⟩
    · subst h4
      exact And.intro ⟨by omega, by omega⟩ ⟨rfl, by rw [if_pos (by omega)]; rfl⟩
    · exact ⟨rfl, by rw [if_neg (by omega)]⟩
  · rw [if_neg hi, if_neg hi]
    refine And.intro (fun h => absurd (show (0 : Int) = 0 from rfl) h) (fun _ => ?_)
    exact ⟨rfl, rfl⟩
theorem c_line (d : Nat) (i p k : Int) (M : dt_M) (hl : ∀ i : Nat, i < 4 → ∀ q : Nat, q < 4 → M.1 (2 + 8 * i + 6) q ≤ 10) : dt_Sp mX6_line (d + 1) [qX, .inl i, .inl p, .inl k] M (fun r M' => M' = M ∧ r = some (.inl (if (0 ≤ i ∧ i < 4) ∧ (0 ≤ p ∧ p < 4) then (if k = -1 then M.1 (2 + 8 * i.toNat + 6) p.toNat else if 0 ≤ k ∧ k < M.1 (2 + 8 * i.toNat + 6) p.toNat then M.1 (2 + 8 * i.toNat + 7) (p * 10 + k).toNat else -1) else -1))) := by
  refine dt_flat okX6_line 60 (by decide) (Nat.le_of_ble_eq_true rfl) (fun J => ?_)
  refine Exists.intro _ (And.intro (c_isTalk _ i M) ?_)
  rintro r M0 ⟨rfl, rfl⟩
  by_cases hi : 0 ≤ i ∧ i < 4
  · rw [if_pos hi]
    refine And.intro (fun h => absurd (show (1 : Int) = 0 from h) (by decide)) (fun _ => ?_)
    refine Exists.intro _ (And.intro (c_isPart _ p M0) ?_)
    rintro r M1 ⟨rfl, rfl⟩
    by_cases hp : 0 ≤ p ∧ p < 4
    · rw [if_pos hp, if_pos ⟨hi, hp⟩]
      refine And.intro (fun _ => ?_) (fun h => absurd (show (1 : Int) = 0 from h) (by decide))
      refine And.intro (fun h => ?_) (fun h => ?_)
      · refine And.intro ⟨by omega, by omega⟩ ?_
        refine Exists.intro _ (And.intro (c_onLine _ _ p k M1 (fun q hq => hl i.toNat (by omega) q hq)) ?_)
        rintro r M2 ⟨rfl, rfl⟩
        rw [if_neg h]
        have e1 : (if 0 ≤ p ∧ p < 4 ∧ 0 ≤ k ∧ k < tk M2 (2 + 8 * i.toNat) 6 p.toNat then tk M2 (2 + 8 * i.toNat) 7 (p * 10 + k).toNat else -1) = (if 0 ≤ k ∧ k < M2.1 (2 + 8 * i.toNat + 6) p.toNat then M2.1 (2 + 8 * i.toNat + 7) (p * 10 + k).toNat else -1) := by
          by_cases hq : 0 ≤ k ∧ k < M2.1 (2 + 8 * i.toNat + 6) p.toNat
          · rw [if_pos hq]; exact if_pos ⟨hp.1, hp.2, hq.1, hq.2⟩
          · rw [if_neg hq]; exact if_neg (fun z => hq ⟨z.2.2.1, z.2.2.2⟩)
        rw [e1]
        generalize (if 0 ≤ k ∧ k < M2.1 (2 + 8 * i.toNat + 6) p.toNat then M2.1 (2 + 8 * i.toNat + 7) (p * 10 + k).toNat else (-1 : Int)) = z
        refine And.intro (fun h2 => ⟨rfl, rfl⟩) (fun h2 => ⟨rfl, by rw [h2]⟩)
      · rw [if_pos h]
        exact And.intro ⟨by omega, by omega⟩ (And.intro ⟨by omega, by omega⟩ ⟨rfl, rfl⟩)
    · rw [if_neg hp, if_neg (fun q => hp q.2)]
      refine And.intro (fun h => absurd (show (0 : Int) = 0 from rfl) h) (fun _ => ?_)
      exact ⟨rfl, rfl⟩
  · rw [if_neg hi, if_neg (fun q => hi q.1)]
    refine And.intro (fun _ => ?_) (fun h => absurd (show (0 : Int) = 0 from rfl) h)
    exact ⟨rfl, rfl⟩
def tk_sum (M : dt_M) : Nat → Int
  | 0 => 0
  | i + 1 => tk_sum M i + M.1 (2 + 8 * i) 7
theorem c_count (d : Nat) (w : Int) (M : dt_M) (hT : ∀ i : Nat, i < 4 → 0 ≤ M.1 (2 + 8 * i) 7 ∧ M.1 (2 + 8 * i) 7 ≤ 20) : dt_Sp mX6_count d [qX, .inl w] M (fun r M' => M' = M ∧ r = some (.inl (if w = 0 then tk_sum M 4 else if w = 1 then M.1 42 1 else -1))) := by
  have hs : ∀ i : Nat, i ≤ 4 → 0 ≤ tk_sum M i ∧ tk_sum M i ≤ 20 * (i : Int) := by
    intro i
    induction i with
    | zero => exact fun _ => ⟨Int.le_refl 0, Int.le_refl 0⟩
    | succ i ih =>
      intro hi
      have := ih (by omega)
      have := hT i (by omega)
      show 0 ≤ tk_sum M i + M.1 (2 + 8 * i) 7 ∧ tk_sum M i + M.1 (2 + 8 * i) 7 ≤ 20 * ((i + 1 : Nat) : Int)
      omega
  refine dt_meth okX6_count (fun pc => pc == 23) 60 (σ := Nat) (fun _ => 23) (fun t => [some qX, some (.inl w), some (.inl (tk_sum M t)), some (.inl t)]) (fun t => M) (fun t => t ≤ 4 ∧ w = 0) (fun t => 4 - t) (by decide) (Nat.le_of_ble_eq_true rfl) ?_ ?_
  · intro J hJ
    refine And.intro (fun h => ?_) (fun h => ?_)
    · refine And.intro (fun h0 => ?_) (fun h0 => ⟨rfl, by rw [if_neg h0, if_neg h]⟩)
      exact hJ 0 _ ⟨by omega, h0⟩ ⟨rfl, rfl, rfl, rfl, trivial⟩
    · exact ⟨rfl, by subst h; rw [if_neg (by decide), if_pos rfl]⟩
  · rintro i ⟨h1, h2⟩ J hJ
    have ei : (i : Int).toNat = i := by omega
    refine And.intro (fun h => ?_) (fun h => ?_)
    · have : i = 4 := by omega
      subst this
      exact ⟨rfl, by rw [if_pos h2]⟩
    · have a1 := hs i h1
      have a2 := hT i (by omega)
      refine And.intro ⟨by omega, by omega⟩ ?_
      rw [ei]
      exact And.intro ⟨by omega, by omega⟩ (And.intro ⟨by omega, by omega⟩ (hJ (i + 1) _ ⟨by omega, h2⟩ (by omega) ⟨rfl, rfl, rfl, rfl, trivial⟩))
/-- two talks have the same line of a part -/
def tk_sl (T U : Nat → Nat → Int) (p : Nat) : Prop := T 6 p = U 6 p ∧ ∀ j : Nat, (j : Int) < T 6 p → T 1 (T 7 (p * 10 + j)).toNat = U 1 (U 7 (p * 10 + j)).toNat ∧ T 3 (T 7 (p * 10 + j)).toNat = U 3 (U 7 (p * 10 + j)).toNat ∧ T 4 (T 7 (p * 10 + j)).toNat = U 4 (U 7 (p * 10 + j)).toNat
theorem tB_at {T : Nat → Nat → Int} {n s p : Nat} (h : tB T n s) (hp : p < 4) {j : Nat} (hj : (j : Int) < T 6 p) : 0 ≤ T 7 (p * 10 + j) ∧ T 7 (p * 10 + j) < (n : Int) ∧ n ≤ 20 ∧ T 2 (T 7 (p * 10 + j)).toNat = (p : Int) := by
  obtain ⟨e, e1, e2, e3⟩ := h.2.2.2.2.2.1 p hp j hj
  have := h.1
  refine ⟨by omega, by omega, by omega, ?_⟩
  rw [e1]; exact e3
theorem c_hasSameLine (d k l p n s m r : Nat) (M : dt_M) (hp : p < 4) (hT : tB (tk M k) n s) (hU : tB (tk M l) m r) : dt_Sp mX5_hasSameLine (d + 1) [qT k, qT l, .inl p] M (fun r M' => M' = M ∧ ((r = some (.inl 1) ∧ tk_sl (tk M k) (tk M l) p) ∨ (r = some (.inl 0) ∧ ¬ tk_sl (tk M k) (tk M l) p))) := by
  have ep : (p : Int).toNat = p := by omega
  have lk := tB_line hT hp
  have ll := tB_line hU hp
  have lk' : ∀ q : Nat, q < 4 → tk M k 6 q ≤ 10 := fun q hq => by have := tB_line hT hq; omega
  have ll' : ∀ q : Nat, q < 4 → tk M l 6 q ≤ 10 := fun q hq => by have := tB_line hU hq; omega
  refine dt_meth okX5_hasSameLine (fun pc => pc == 28) 120 (σ := Nat) (fun _ => 28) (fun t => [some (qT k), some (qT l), some (.inl p), some (.inl t), none, none]) (fun t => M) (fun t => (t : Int) ≤ tk M k 6 p ∧ tk M k 6 p = tk M l 6 p ∧ ∀ j : Nat, j < t → tk M k 1 (tk M k 7 (p * 10 + j)).toNat = tk M l 1 (tk M l 7 (p * 10 + j)).toNat ∧ tk M k 3 (tk M k 7 (p * 10 + j)).toNat = tk M l 3 (tk M l 7 (p * 10 + j)).toNat ∧ tk M k 4 (tk M k 7 (p * 10 + j)).toNat = tk M l 4 (tk M l 7 (p * 10 + j)).toNat) (fun t => 10 - t) (by decide) (Nat.le_of_ble_eq_true rfl) ?_ ?_
  · intro J hJ
    refine And.intro (fun h => absurd h (by omega)) (fun _ => ?_)
    refine And.intro (fun h => absurd h (by omega)) (fun _ => ?_)
    refine And.intro ⟨by omega, by omega⟩ (And.intro ⟨by omega, by omega⟩ ?_)
    rw [ep]
    refine And.intro (fun h => ?_) (fun h => ?_)
    · exact hJ 0 _ ⟨lk.1, h, fun j hj => by omega⟩ ⟨rfl, rfl, rfl, rfl, trivial⟩
    · exact ⟨Or.inl rfl, rfl, Or.inr ⟨rfl, fun q => h q.1⟩⟩
  · rintro j ⟨h1, h2, h3⟩ J hJ
    refine And.intro ⟨by omega, by omega⟩ ?_
    rw [ep]
    refine And.intro (fun h => ?_) (fun h => ?_)
    · have hj : tk M k 6 p ≤ (j : Int) := h
      exact ⟨Or.inr rfl, rfl, Or.inl ⟨rfl, h2, fun i hi => h3 i (by omega)⟩⟩
    · have hj : (j : Int) < tk M k 6 p := h
      have ak := tB_at hT hp hj
      have al := tB_at hU hp (j := j) (by omega)
      refine Exists.intro _ (And.intro (c_onLine _ k p j M lk') ?_)
      rintro r0 M0 ⟨rfl, rfl⟩
      rw [if_pos ⟨by omega, by omega, by omega, by rw [ep]; exact hj⟩]
      refine Exists.intro _ (And.intro (c_onLine _ l p j M0 ll') ?_)
      rintro r0 M1 ⟨rfl, rfl⟩
      rw [if_pos ⟨by omega, by omega, by omega, by rw [ep, ← h2]; exact hj⟩]
      rw [show ((p : Int) * 10 + (j : Int)).toNat = p * 10 + j by omega]
      refine And.intro (fun q => absurd q (by omega)) (fun _ => ?_)
      refine And.intro (fun q => absurd q (by omega)) (fun _ => ?_)
      refine And.intro ⟨by omega, by show _ < (20 : Int); omega⟩ (And.intro ⟨by omega, by show _ < (20 : Int); omega⟩ ?_)
      have hno : ¬ (tk M1 k 1 (tk M1 k 7 (p * 10 + j)).toNat = tk M1 l 1 (tk M1 l 7 (p * 10 + j)).toNat ∧ tk M1 k 3 (tk M1 k 7 (p * 10 + j)).toNat = tk M1 l 3 (tk M1 l 7 (p * 10 + j)).toNat ∧ tk M1 k 4 (tk M1 k 7 (p * 10 + j)).toNat = tk M1 l 4 (tk M1 l 7 (p * 10 + j)).toNat) → ¬ tk_sl (tk M1 k) (tk M1 l) p := fun q z => q (z.2 j hj)
      refine And.intro (fun q1 => ⟨Or.inl rfl, rfl, Or.inr ⟨rfl, hno (fun z => q1 z.1)⟩⟩) (fun q1 => ?_)
      refine And.intro ⟨by omega, by show _ < (20 : Int); omega⟩ (And.intro ⟨by omega, by show _ < (20 : Int); omega⟩ ?_)
      refine And.intro (fun q2 => ⟨Or.inl rfl, rfl, Or.inr ⟨rfl, hno (fun z => q2 z.2.1)⟩⟩) (fun q2 => ?_)
      refine And.intro ⟨by omega, by show _ < (20 : Int); omega⟩ (And.intro ⟨by omega, by show _ < (20 : Int); omega⟩ ?_)
      refine And.intro (fun q3 => ?_) (fun q3 => ⟨Or.inl rfl, rfl, Or.inr ⟨rfl, hno (fun z => q3 z.2.2)⟩⟩)
      refine And.intro ⟨by omega, by omega⟩ (hJ (j + 1) _ ⟨by omega, h2, fun i hi => ?_⟩ (by omega) ⟨rfl, rfl, rfl, rfl, trivial⟩)
      by_cases hij : i = j
      · subst hij; exact ⟨q1, q2, q3⟩
      · exact h3 i (by omega)
