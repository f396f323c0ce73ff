/-! ===== Player ===== -/
abbrev qP : dt_V := .inr (.inr (6, 10, 53))
def nxt (U : Nat → Nat → Nat → Int) (x : Nat → Nat) (p : Nat) : Int := if x p < ln (U p) p then (pE U x p : Int) else -1
/-- the talks of a mix -/
def hM (M : dt_M) (U : Nat → Nat → Nat → Int) (m : Nat) : Prop := ∀ p, p < 4 → ∀ g, g < 8 → tk M (2 + 8 * ch m p) g = U p g
def pX (M : dt_M) (U : Nat → Nat → Nat → Int) (s : pm) : Prop := (∀ p, p < 4 → M.1 54 p = (s.1 p : Int) ∧ M.1 55 p = nxt U s.1 p) ∧ ∀ c, c < 16 → M.1 57 c = (s.2.1 c : Int) ∧ M.1 58 c = (s.2.2.1 c : Int) ∧ ∀ j, j < s.2.1 c → M.1 56 (c * 10 + j) = s.2.2.2 c j
/-- nothing has changed but the Player -/
def pfr (M M' : dt_M) : Prop := (∀ a, (a < 53 ∨ 59 < a) → M'.1 a = M.1 a) ∧ M'.2 = M.2
theorem pfr.rf {M : dt_M} : pfr M M := ⟨fun _ _ => rfl, rfl⟩
theorem pfr.tr {M M1 M2 : dt_M} (h : pfr M M1) (k : pfr M1 M2) : pfr M M2 := ⟨fun a x => (k.1 a x).trans (h.1 a x), k.2.trans h.2⟩
theorem pfr_w {M : dt_M} {a j : Nat} {x : Int} (h : 53 ≤ a ∧ a ≤ 59) : pfr M (dt_wi M a j x) := ⟨fun b hb => dm_wi2 (by omega), rfl⟩
theorem pfr.hM {M M' : dt_M} {U : Nat → Nat → Nat → Int} {m : Nat} (h : pfr M M') (k : hM M U m) : hM M' U m := fun p hp g hg => by
  rw [← k p hp g hg]
  have := ch_lt m p
  exact h.1 _ (by omega)
theorem c_choice (d m p : Nat) (M : dt_M) (hm : m < 256) (hp : p < 4) : dt_Sp mX6_choice d [.inl m, .inl p] M (fun r M' => M' = M ∧ r = some (.inl (ch m p : Int))) := by
  refine dt_flat okX6_choice 30 (by decide) (Nat.le_of_ble_eq_true rfl) (fun J => ?_)
  (repeat (first | refine And.intro ⟨by (try dsimp only); omega, by (try dsimp only); omega⟩ ?_ | refine And.intro (Or.inl rfl) ?_ | refine And.intro (Or.inr rfl) ?_))
  exact ⟨rfl, by rw [← ch_ok m hm p hp]⟩
theorem c_talkOf (d m p : Nat) (M : dt_M) (hm : m < 256) (hp : p < 4) (h7 : M.1 53 7 = (m : Int)) : dt_Sp mX2_talkOf (d + 1) [qP, .inl p] M (fun r M' => M' = M ∧ r = some (qT (2 + 8 * ch m p))) := by
  have := ch_lt m p
  refine dt_flat okX2_talkOf 30 (by decide) (Nat.le_of_ble_eq_true rfl) (fun J => ?_)
  show ∃ Ψ, dt_Sp mX6_choice d [.inl (M.1 53 7), .inl p] M Ψ ∧ _
  rw [h7]
  refine Exists.intro _ (And.intro (c_choice _ m p M hm hp) ?_)
  rintro r M0 ⟨rfl, rfl⟩
  (repeat (first | refine And.intro ⟨by (try dsimp only); omega, by (try dsimp only); omega⟩ ?_ | refine And.intro (Or.inl rfl) ?_ | refine And.intro (Or.inr rfl) ?_))
  exact ⟨rfl, by rw [show ((ch m p : Nat) : Int).toNat = ch m p by omega]⟩
theorem c_onl {M : dt_M} {U : Nat → Nat → Nat → Int} {m p : Nat} (d : Nat) (x : Nat → Nat) (h : hM M U m) (hu : hU U) (hp : p < 4) : dt_Sp mX5_onLine d [qT (2 + 8 * ch m p), .inl p, .inl (x p)] M (fun r M' => M' = M ∧ r = some (.inl (nxt U x p))) := by
  obtain ⟨n, s, v⟩ := hu p hp
  have hh := c_onLine d (2 + 8 * ch m p) (p : Int) (x p : Int) M (fun q hq => by rw [h p hp 6 (by omega)]; have := ln_eq v.1 hq; omega)
  have e : (if 0 ≤ (p : Int) ∧ (p : Int) < 4 ∧ 0 ≤ (x p : Int) ∧ (x p : Int) < tk M (2 + 8 * ch m p) 6 (p : Int).toNat then tk M (2 + 8 * ch m p) 7 ((p : Int) * 10 + (x p : Int)).toNat else -1) = nxt U x p := by
    rw [h p hp 6 (by omega), h p hp 7 (by omega), show (p : Int).toNat = p by omega, show ((p : Int) * 10 + (x p : Int)).toNat = p * 10 + x p by omega, (ln_eq v.1 hp).1]
    unfold nxt
    by_cases q : x p < ln (U p) p
    · rw [if_pos q, if_pos (by omega)]
      exact (pE_sp hu hp q).1
    · rw [if_neg q, if_neg (by omega)]
  rw [e] at hh
  exact hh
theorem c_goToStart (d m : Nat) (M : dt_M) (U : Nat → Nat → Nat → Int) (hm : m < 256) (h7 : M.1 53 7 = (m : Int)) (h : hM M U m) (hu : hU U) : dt_Sp mX2_goToStart (d + 2) [qP] M (fun r M' => r = none ∧ (∀ a, a ≠ 54 → a ≠ 55 → M'.1 a = M.1 a) ∧ M'.2 = M.2 ∧ ∀ p, p < 4 → M'.1 54 p = 0 ∧ M'.1 55 p = nxt U (fun _ => 0) p) := by
  refine dt_meth okX2_goToStart (fun pc => pc == 2) 50 (σ := Nat × dt_M) (fun t => 2) (fun t => [some qP, some (.inl t.1)]) (fun t => t.2) (fun t => t.1 ≤ 4 ∧ (∀ a, a ≠ 54 → a ≠ 55 → t.2.1 a = M.1 a) ∧ t.2.2 = M.2 ∧ ∀ p, p < t.1 → t.2.1 54 p = 0 ∧ t.2.1 55 p = nxt U (fun _ => 0) p) (fun t => 4 - t.1) (by decide) (Nat.le_of_ble_eq_true rfl) ?_ ?_
  · intro J hJ
    exact hJ (0, M) _ ⟨Nat.zero_le _, fun _ _ _ => rfl, rfl, fun p hp => absurd hp (Nat.not_lt_zero p)⟩ ⟨rfl, rfl, trivial⟩
  · rintro ⟨p, N⟩ ⟨h1, h2, h3, h4⟩ J hJ
    dsimp only at h1 h2 h3 h4 hJ
    refine And.intro (fun hh => ?_) (fun hh => ?_)
    · have : p = 4 := by omega
      subst this
      exact ⟨rfl, h2, h3, h4⟩
    · have hp : p < 4 := by omega
      have ep : (p : Int).toNat = p := by omega
      (repeat (first | refine And.intro ⟨by (try dsimp only); omega, by (try dsimp only); omega⟩ ?_ | refine And.intro (Or.inl rfl) ?_ | refine And.intro (Or.inr rfl) ?_))
      dsimp only
      rw [ep]
      intro M1 hM1
      have hM1' : M1 = dt_wi N 54 p 0 := hM1
      have f1 : pfr M M1 := ⟨fun a ha => by rw [hM1', dm_wi2 (by omega)]; exact h2 a (by omega) (by omega), by rw [hM1']; exact h3⟩
      refine Exists.intro _ (And.intro (c_talkOf _ m p M1 hm hp (by rw [hM1', dm_wi2 (by decide), h2 53 (by decide) (by decide)]; exact h7)) ?_)
      rintro r M2 ⟨rfl, rfl⟩
      refine Exists.intro _ (And.intro (c_onl (d + 1) (fun _ => 0) (f1.hM h) hu hp) ?_)
      rintro r M3 ⟨rfl, rfl⟩
      (repeat (first | refine And.intro ⟨by (try dsimp only); omega, by (try dsimp only); omega⟩ ?_ | refine And.intro (Or.inl rfl) ?_ | refine And.intro (Or.inr rfl) ?_))
      dsimp only
      rw [ep]
      intro M4 hM4
      have hM4' : M4 = dt_wi M3 55 p (nxt U (fun _ => 0) p) := hM4
      refine And.intro ⟨by (try dsimp only); omega, by (try dsimp only); omega⟩ (hJ (p + 1, M4) _ ⟨by dsimp only; omega, fun a x y => by dsimp only; rw [hM4', dm_wi2 y, hM1', dm_wi2 x]; exact h2 a x y, by dsimp only; rw [hM4', dm_wi3, hM1', dm_wi3]; exact h3, fun q hq => ?_⟩ (by dsimp only; omega) ⟨rfl, rfl, trivial⟩)
      dsimp only at hq ⊢
      rw [hM4', dm_wi1, dm_wi2 (by decide), hM1', dm_wi1, dm_wi2 (by decide)]
      by_cases z : q = p
      · subst z; rw [dm_up1, dm_up1]; exact ⟨rfl, rfl⟩
      · rw [dm_up2 z, dm_up2 z]; exact h4 q (by omega)
theorem c_goOn (d m p : Nat) (M : dt_M) (U : Nat → Nat → Nat → Int) (x : Nat → Nat) (hm : m < 256) (hp : p < 4) (h7 : M.1 53 7 = (m : Int)) (h : hM M U m) (hu : hU U) (hx : M.1 54 p = (x p : Int)) (hx20 : x p ≤ 20) : dt_Sp mX2_goOn (d + 2) [qP, .inl p] M (fun r M' => r = none ∧ M' = dt_wi (dt_wi M 54 p ((x p : Int) + 1)) 55 p (nxt U (xu x p (x p + 1)) p)) := by
  have ep : (p : Int).toNat = p := by omega
  refine dt_flat okX2_goOn 50 (by decide) (Nat.le_of_ble_eq_true rfl) (fun J => ?_)
  (repeat (first | refine And.intro ⟨by (try dsimp only); omega, by (try dsimp only); omega⟩ ?_ | refine And.intro (Or.inl rfl) ?_ | refine And.intro (Or.inr rfl) ?_))
  rw [ep, hx]
  (repeat (first | refine And.intro ⟨by (try dsimp only); omega, by (try dsimp only); omega⟩ ?_ | refine And.intro (Or.inl rfl) ?_ | refine And.intro (Or.inr rfl) ?_))
  intro M1 hM1
  have hM1' : M1 = dt_wi M 54 p ((x p : Int) + 1) := hM1
  have f1 : pfr M M1 := by rw [hM1']; exact pfr_w (by decide)
  refine Exists.intro _ (And.intro (c_talkOf _ m p M1 hm hp (by rw [hM1', dm_wi2 (by decide)]; exact h7)) ?_)
  rintro r M2 ⟨rfl, rfl⟩
  (repeat (first | refine And.intro ⟨by (try dsimp only); omega, by (try dsimp only); omega⟩ ?_ | refine And.intro (Or.inl rfl) ?_ | refine And.intro (Or.inr rfl) ?_))
  have e54 : M2.1 54 p = ((xu x p (x p + 1) p : Nat) : Int) := by rw [hM1', dm_wi1, dm_up1, xu_1]; rfl
  rw [ep, e54]
  refine Exists.intro _ (And.intro (c_onl (d + 1) (xu x p (x p + 1)) (f1.hM h) hu hp) ?_)
  rintro r M3 ⟨rfl, rfl⟩
  (repeat (first | refine And.intro ⟨by (try dsimp only); omega, by (try dsimp only); omega⟩ ?_ | refine And.intro (Or.inl rfl) ?_ | refine And.intro (Or.inr rfl) ?_))
  rw [ep]
  intro M4 hM4
  exact ⟨rfl, by rw [hM4, hM1']⟩
