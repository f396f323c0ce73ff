/-! ===== Lattice ===== -/
abbrev qL : dt_V := .inr (.inr (4, 10, 46))
theorem c_mayHappen (d k n s e : Nat) (M : dt_M) (T : Nat → Nat → Int) (x : Nat → Nat) (hT : ∀ g, g < 8 → tk M k g = T g) (hV : tV T n s) (he : e < n) (hpl : ∀ f, f < n → M.1 52 f = (pl T f : Int)) (hx : ∀ p, p < 4 → M.1 51 p = (x p : Int)) : dt_Sp mX0_mayHappen d [qL, qT k, .inl e] M (fun r M' => M' = M ∧ ((r = some (.inl 1) ∧ (T 1 e = 0 ∨ dnb T x (mt T e) = true)) ∨ (r = some (.inl 0) ∧ ¬ (T 1 e = 0 ∨ dnb T x (mt T e) = true)))) := by
  have hn : n ≤ 20 := by have := hV.1.1; omega
  have ee : (e : Int).toNat = e := by omega
  have t0 : M.1 k = T 0 := hT 0 (by omega)
  have t1 : M.1 (k + 1) = T 1 := hT 1 (by omega)
  have t2 : M.1 (k + 2) = T 2 := hT 2 (by omega)
  have t5 : M.1 (k + 5) = T 5 := hT 5 (by omega)
  refine dt_flat okX0_mayHappen 60 (by decide) (Nat.le_of_ble_eq_true rfl) (fun J => ?_)
  (repeat (first | refine And.intro ⟨by (try dsimp only); omega, by (try dsimp only); omega⟩ ?_ | refine And.intro (Or.inl rfl) ?_ | refine And.intro (Or.inr rfl) ?_))
  rw [ee, t1]
  refine And.intro (fun h1 => ?_) (fun h1 => ⟨Or.inr rfl, rfl, Or.inl ⟨rfl, Or.inl h1⟩⟩)
  have te : T 1 e = 1 := by rcases (hV.1.2.1 e he).1 with q | q; exact absurd q h1; exact q
  obtain ⟨m, m1, m2, -⟩ := hV.1.2.2.1 e he te
  have me : mt T e = m := by unfold mt; omega
  have em : (m : Int).toNat = m := by omega
  have pm := pt_lt hV.1 (show m < n by omega)
  have ep : ((pt T m : Nat) : Int).toNat = pt T m := by omega
  have h7 : M.1 k 7 = (n : Int) := by rw [t0]; exact hV.1.1.1
  rw [me]
  (repeat (first | refine And.intro ⟨by (try dsimp only); omega, by (try dsimp only); omega⟩ ?_ | refine And.intro (Or.inl rfl) ?_ | refine And.intro (Or.inr rfl) ?_))
  rw [ee, t5, m1]
  refine And.intro (fun h2 => absurd h2 (by omega)) (fun _ => ?_)
  refine And.intro (fun h2 => absurd h2 (by omega)) (fun _ => ?_)
  refine And.intro ⟨by omega, by omega⟩ (And.intro ⟨by omega, by omega⟩ ?_)
  rw [em, t2, pm.2]
  refine And.intro ⟨by omega, by omega⟩ ?_
  rw [ep, hpl m (by omega), hx _ pm.1]
  have hd : dnb T x m = true ↔ pl T m < x (pt T m) := by unfold dnb; exact decide_eq_true_iff
  rw [hd]
  refine And.intro (fun h2 => ⟨Or.inl rfl, rfl, Or.inr ⟨rfl, fun q => ?_⟩⟩) (fun h2 => ⟨Or.inr rfl, rfl, Or.inl ⟨rfl, Or.inr (by omega)⟩⟩)
  rcases q with q | q
  · exact h1 q
  · omega
theorem c_goToNextCut (d k n s c : Nat) (M : dt_M) (T : Nat → Nat → Int) (hT : ∀ g, g < 8 → tk M k g = T g) (hk : k + 8 ≤ 42) (hV : tV T n s) (hc : c < cC T) (hx : ∀ p, p < 4 → M.1 51 p = (cG T c p : Int)) : dt_Sp mX0_goToNextCut d [qL, qT k] M (fun r M' => r = none ∧ (∀ a, a ≠ 51 → M'.1 a = M.1 a) ∧ M'.2 = M.2 ∧ (c + 1 < cC T → ∀ p, p < 4 → M'.1 51 p = (cG T (c + 1) p : Int))) := by
  refine dt_meth okX0_goToNextCut (fun pc => pc == 2) 60 (σ := Nat × dt_M) (fun t => 2) (fun t => [some qL, some (qT k), some (.inl t.1)]) (fun t => t.2) (fun t => t.1 ≤ 4 ∧ (∀ a, a ≠ 51 → t.2.1 a = M.1 a) ∧ t.2.2 = M.2 ∧ (∀ p, p < t.1 → cG T c p = ln T p ∧ t.2.1 51 p = 0) ∧ ∀ p, t.1 ≤ p → p < 4 → t.2.1 51 p = (cG T c p : Int)) (fun t => 4 - t.1) (by decide) (Nat.le_of_ble_eq_true rfl) ?_ ?_
  · intro J hJ
    exact hJ (0, M) _ ⟨Nat.zero_le _, fun _ _ => rfl, rfl, fun f hf => absurd hf (Nat.not_lt_zero f), fun p _ hp => hx p hp⟩ ⟨rfl, rfl, rfl, trivial⟩
  · rintro ⟨p, N⟩ ⟨h1, h2, h3, h4, h5⟩ J hJ
    dsimp only at h1 h2 h3 h4 h5 hJ
    refine And.intro (fun h => ?_) (fun h => ?_)
    · have : p = 4 := by omega
      subst this
      refine ⟨rfl, h2, h3, fun q => ?_⟩
      obtain ⟨p, p1, p2⟩ := cu_not q
      have := (h4 p p1).1
      omega
    · have hp : p < 4 := by omega
      have ep : (p : Int).toNat = p := by omega
      have t6 : N.1 (k + 6) = T 6 := by rw [h2 _ (by omega)]; exact hT 6 (by omega)
      have h6 := ln_eq hV.1 hp
      have h51 := h5 p (Nat.le_refl p) hp
      have gl : cG T c p ≤ ln T p := dg_le _ _ _
      (repeat (first | refine And.intro ⟨by (try dsimp only); omega, by (try dsimp only); omega⟩ ?_ | refine And.intro (Or.inl rfl) ?_ | refine And.intro (Or.inr rfl) ?_))
      dsimp only
      rw [ep, t6, h6.1, h51]
      refine And.intro (fun z => ?_) (fun z => ?_)
      · (repeat (first | refine And.intro ⟨by (try dsimp only); omega, by (try dsimp only); omega⟩ ?_ | refine And.intro (Or.inl rfl) ?_ | refine And.intro (Or.inr rfl) ?_))
        intro M1 hM1
        (try dsimp only at hM1)
        rw [ep] at hM1
        refine And.intro ⟨by (try dsimp only); omega, by (try dsimp only); omega⟩ (hJ (p + 1, M1) _ ⟨by (try dsimp only); omega, ?_, ?_, ?_, ?_⟩ (by dsimp only; omega) ⟨rfl, rfl, rfl, trivial⟩)
        · intro a ha; subst hM1; dsimp only; rw [dm_wi2 ha]; exact h2 a ha
        · subst hM1; exact h3
        · intro q hq
          subst hM1
          dsimp only at hq ⊢
          rw [dm_wi1]
          by_cases hqp : q = p
          · subst hqp; rw [dm_up1]; exact ⟨by omega, rfl⟩
          · rw [dm_up2 hqp]; exact h4 q (by omega)
        · intro q hq hq4
          subst hM1
          dsimp only at hq ⊢
          rw [dm_wi1, dm_up2 (by omega)]
          exact h5 q (by omega) hq4
      · (repeat (first | refine And.intro ⟨by (try dsimp only); omega, by (try dsimp only); omega⟩ ?_ | refine And.intro (Or.inl rfl) ?_ | refine And.intro (Or.inr rfl) ?_))
        dsimp only
        rw [ep, h51]
        (repeat (first | refine And.intro ⟨by (try dsimp only); omega, by (try dsimp only); omega⟩ ?_ | refine And.intro (Or.inl rfl) ?_ | refine And.intro (Or.inr rfl) ?_))
        intro M1 hM1
        subst hM1
        refine ⟨rfl, fun a ha => by rw [dm_wi2 ha]; exact h2 a ha, h3, fun _ q hq => ?_⟩
        have hgp : cG T c p < ln T p := by omega
        have hn := cu_next (l := ln T) (m := 4) hc hp hgp (fun q hq => (h4 q hq).1) q hq
        show _ = ((dg (ln T) (c + 1) q : Nat) : Int)
        rw [hn, ep, dm_wi1]
        by_cases hqp : q = p
        · subst hqp
          rw [dm_up1, if_neg (Nat.lt_irrefl q), if_pos rfl]
          rfl
        · rw [dm_up2 hqp]
          by_cases hlt : q < p
          · rw [if_pos hlt]; exact (h4 q hlt).2
          · rw [if_neg hlt, if_neg hqp]; exact h5 q (by omega) hq
