theorem c_isTalk (d : Nat) (i : Int) (M : dt_M) : dt_Sp mX6_isTalk d [.inl i] M (fun r M' => M' = M ∧ r = some (.inl (if 0 ≤ i ∧ i < 4 then 1 else 0))) := by
  refine dt_flat okX6_isTalk 20 (by decide) (Nat.le_of_ble_eq_true rfl) (fun J => ?_)
  refine And.intro (fun h => ?_) (fun h => ?_)
  · refine ⟨Or.inl rfl, rfl, ?_⟩
    rw [if_neg (by omega)]
  · refine And.intro (fun h2 => ?_) (fun h2 => ?_)
    · refine ⟨Or.inl rfl, rfl, ?_⟩
      rw [if_neg (by omega)]
    · refine ⟨Or.inr rfl, rfl, ?_⟩
      rw [if_pos (by omega)]
theorem c_onLine (d : Nat) (k : Nat) (p j : Int) (M : dt_M) (hl : ∀ q : Nat, q < 4 → M.1 (k + 6) q ≤ 10) : dt_Sp mX5_onLine d [.inr (.inr (9, 9, k)), .inl p, .inl j] M (fun r M' => M' = M ∧ r = some (.inl (if 0 ≤ p ∧ p < 4 ∧ 0 ≤ j ∧ j < M.1 (k + 6) p.toNat then M.1 (k + 7) (p * 10 + j).toNat else -1))) := by
  refine dt_flat okX5_onLine 40 (by decide) (Nat.le_of_ble_eq_true rfl) (fun J => ?_)
  repeat' (first | apply And.intro | intro _)
  all_goals trace_state
  all_goals sorry
