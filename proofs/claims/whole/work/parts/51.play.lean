/-! ===== a play, as one machine ===== -/
def ch (m p : Nat) : Nat := m / 4 ^ (3 - p) % 4
theorem ch_ok : ∀ m : Nat, m < 256 → ∀ p : Nat, p < 4 → dt_and (dt_shr (m : Int) (2 * (3 - (p : Int)))) 3 = ((ch m p : Nat) : Int) := by decide +kernel
theorem ch_lt (m p : Nat) : ch m p < 4 := Nat.mod_lt _ (by decide)
abbrev pm : Type := (Nat → Nat) × (Nat → Nat) × (Nat → Nat) × (Nat → Nat → Int)
def pE (U : Nat → Nat → Nat → Int) (x : Nat → Nat) (p : Nat) : Nat := (U p 7 (p * 10 + x p)).toNat
def pG (U : Nat → Nat → Nat → Int) (x : Nat → Nat) (p : Nat) : Nat := (U p 3 (pE U x p)).toNat * 4 + p
def pQ (U : Nat → Nat → Nat → Int) (x : Nat → Nat) (p : Nat) : Nat := p * 4 + (U p 3 (pE U x p)).toNat
def pC (U : Nat → Nat → Nat → Int) (s : pm) (p : Nat) : Prop := s.1 p < ln (U p) p ∧ (U p 1 (pE U s.1 p) = 0 ∨ (s.2.2.1 (pG U s.1 p) < s.2.1 (pG U s.1 p) ∧ s.2.2.2 (pG U s.1 p) (s.2.2.1 (pG U s.1 p)) = U p 4 (pE U s.1 p)))
def pS (U : Nat → Nat → Nat → Int) (s : pm) (p : Nat) : pm :=
  if U p 1 (pE U s.1 p) = 0 then (xu s.1 p (s.1 p + 1), xu s.2.1 (pQ U s.1 p) (s.2.1 (pQ U s.1 p) + 1), s.2.2.1, fun c j => if c = pQ U s.1 p ∧ j = s.2.1 (pQ U s.1 p) then U p 4 (pE U s.1 p) else s.2.2.2 c j)
  else (xu s.1 p (s.1 p + 1), s.2.1, xu s.2.2.1 (pG U s.1 p) (s.2.2.1 (pG U s.1 p) + 1), s.2.2.2)
noncomputable def pF (U : Nat → Nat → Nat → Int) (s : pm) : Nat := @ite _ (pC U s 0) (Classical.propDecidable _) 0 (@ite _ (pC U s 1) (Classical.propDecidable _) 1 (@ite _ (pC U s 2) (Classical.propDecidable _) 2 (@ite _ (pC U s 3) (Classical.propDecidable _) 3 4)))
theorem pF_sp (U : Nat → Nat → Nat → Int) (s : pm) : (pF U s < 4 ∧ pC U s (pF U s) ∧ ∀ q, q < pF U s → ¬ pC U s q) ∨ (pF U s = 4 ∧ ∀ q, q < 4 → ¬ pC U s q) := by
  unfold pF
  by_cases h0 : pC U s 0
  · rw [if_pos h0]; exact Or.inl ⟨by decide, h0, fun q hq => absurd hq (Nat.not_lt_zero q)⟩
  · rw [if_neg h0]
    by_cases h1 : pC U s 1
    · rw [if_pos h1]
      refine Or.inl ⟨by decide, h1, fun q hq => ?_⟩
      rw [show q = 0 by omega]; exact h0
    · rw [if_neg h1]
      by_cases h2 : pC U s 2
      · rw [if_pos h2]
        refine Or.inl ⟨by decide, h2, fun q hq => ?_⟩
        rcases (show q = 0 ∨ q = 1 by omega) with z | z <;> rw [z]
        · exact h0
        · exact h1
      · rw [if_neg h2]
        by_cases h3 : pC U s 3
        · rw [if_pos h3]
          refine Or.inl ⟨by decide, h3, fun q hq => ?_⟩
          rcases (show q = 0 ∨ q = 1 ∨ q = 2 by omega) with z | z | z <;> rw [z]
          · exact h0
          · exact h1
          · exact h2
        · rw [if_neg h3]
          refine Or.inr ⟨rfl, fun q hq => ?_⟩
          rcases (show q = 0 ∨ q = 1 ∨ q = 2 ∨ q = 3 by omega) with z | z | z | z <;> rw [z]
          · exact h0
          · exact h1
          · exact h2
          · exact h3
theorem pF_at {U : Nat → Nat → Nat → Int} {s : pm} {p : Nat} (hp : p < 4) (h : pC U s p) (h0 : ∀ q, q < p → ¬ pC U s q) : pF U s = p := by
  rcases pF_sp U s with ⟨a, b, c⟩ | ⟨a, b⟩
  · rcases Nat.lt_trichotomy (pF U s) p with q | q | q
    · exact absurd b (h0 _ q)
    · exact q
    · exact absurd h (c p q)
  · exact absurd h (b p hp)
theorem pF_4 {U : Nat → Nat → Nat → Int} {s : pm} (h : ∀ q, q < 4 → ¬ pC U s q) : pF U s = 4 := by
  rcases pF_sp U s with ⟨a, b, c⟩ | ⟨a, b⟩
  · exact absurd b (h _ a)
  · exact a
noncomputable def pst (U : Nat → Nat → Nat → Int) : Nat → pm
  | 0 => (fun _ => 0, fun _ => 0, fun _ => 0, fun _ _ => 0)
  | k + 1 => pS U (pst U k) (pF U (pst U k))
/-- the part that does the step k, and its event -/
noncomputable def pP (U : Nat → Nat → Nat → Int) (k : Nat) : Nat := pF U (pst U k)
noncomputable def pV (U : Nat → Nat → Nat → Int) (k : Nat) : Nat := pE U (pst U k).1 (pP U k)
/-- the first k steps can be done -/
def pR (U : Nat → Nat → Nat → Int) (k : Nat) : Prop := ∀ j, j < k → pP U j < 4
def hU (U : Nat → Nat → Nat → Int) : Prop := ∀ p, p < 4 → ∃ n s, tV (U p) n s
theorem pE_sp {U : Nat → Nat → Nat → Int} {x : Nat → Nat} {p : Nat} (h : hU U) (hp : p < 4) (hl : x p < ln (U p) p) : U p 7 (p * 10 + x p) = (pE U x p : Int) ∧ (∃ n s, tV (U p) n s ∧ pE U x p < n ∧ n ≤ 20) ∧ U p 2 (pE U x p) = (p : Int) ∧ (0 ≤ U p 3 (pE U x p) ∧ U p 3 (pE U x p) < 4) ∧ (0 ≤ U p 4 (pE U x p) ∧ U p 4 (pE U x p) < 8) ∧ U p 2 (pE U x p) ≠ U p 3 (pE U x p) ∧ (U p 1 (pE U x p) = 0 ∨ U p 1 (pE U x p) = 1) := by
  obtain ⟨n, s, v⟩ := h p hp
  obtain ⟨e, e1, e2, e3, e4⟩ := pl_at v.1 hp hl
  have ee : pE U x p = e := by unfold pE; omega
  have t2 := (pt_lt v.1 e2).2
  have te := v.1.2.1 e e2
  rw [ee]
  refine ⟨e1, ⟨n, s, v, e2, by have := v.1.1; omega⟩, by rw [t2, e3], te.2.2.1, te.2.2.2.2, te.2.2.2.1, te.1⟩
/-- what holds in a play -/
def pI (U : Nat → Nat → Nat → Int) (s : pm) (k : Nat) : Prop := (∀ p, p < 4 → s.1 p ≤ ln (U p) p) ∧ (∀ p q, p < 4 → q < 4 → s.2.1 (p * 4 + q) ≤ s.1 p) ∧ (∀ c, s.2.2.1 c ≤ s.2.1 c) ∧ s.1 0 + s.1 1 + s.1 2 + s.1 3 = k
theorem xu_sum {x : Nat → Nat} {p : Nat} (hp : p < 4) : xu x p (x p + 1) 0 + xu x p (x p + 1) 1 + xu x p (x p + 1) 2 + xu x p (x p + 1) 3 = x 0 + x 1 + x 2 + x 3 + 1 := by
  match p, hp with
  | 0, _ => rw [xu_1, xu_2 (by decide), xu_2 (by decide), xu_2 (by decide)]; omega
  | 1, _ => rw [xu_2 (by decide), xu_1, xu_2 (by decide), xu_2 (by decide)]; omega
  | 2, _ => rw [xu_2 (by decide), xu_2 (by decide), xu_1, xu_2 (by decide)]; omega
  | 3, _ => rw [xu_2 (by decide), xu_2 (by decide), xu_2 (by decide), xu_1]; omega
theorem pS_x {U : Nat → Nat → Nat → Int} {s : pm} {p : Nat} : (pS U s p).1 = xu s.1 p (s.1 p + 1) := by
  unfold pS
  split <;> rfl
theorem pI_S {U : Nat → Nat → Nat → Int} {s : pm} {k p : Nat} (h : hU U) (hp : p < 4) (H : pI U s k) (hc : pC U s p) : pI U (pS U s p) (k + 1) := by
  obtain ⟨h1, h2, h3, h4⟩ := H
  have es := pE_sp h hp hc.1
  refine ⟨fun q hq => ?_, fun a b ha hb => ?_, fun c => ?_, ?_⟩
  · rw [pS_x]
    by_cases z : q = p
    · subst z; rw [xu_1]; exact hc.1
    · rw [xu_2 z]; exact h1 q hq
  · rw [pS_x]
    have hle : s.1 a ≤ xu s.1 p (s.1 p + 1) a := by
      by_cases z : a = p
      · subst z; rw [xu_1]; omega
      · rw [xu_2 z]; exact Nat.le_refl _
    have h2' := h2 a b ha hb
    unfold pS
    split
    · show xu s.2.1 (pQ U s.1 p) (s.2.1 (pQ U s.1 p) + 1) (a * 4 + b) ≤ _
      by_cases z : a * 4 + b = pQ U s.1 p
      · have z1 : a = p := by unfold pQ at z; omega
        rw [← z, xu_1]
        subst z1
        rw [xu_1]
        omega
      · rw [xu_2 z]; omega
    · show s.2.1 (a * 4 + b) ≤ _
      omega
  · unfold pS
    split
    · show s.2.2.1 c ≤ xu s.2.1 (pQ U s.1 p) (s.2.1 (pQ U s.1 p) + 1) c
      have := h3 c
      by_cases z : c = pQ U s.1 p
      · rw [z, xu_1]; rw [z] at this; omega
      · rw [xu_2 z]; exact this
    · rename_i ht
      show xu s.2.2.1 (pG U s.1 p) (s.2.2.1 (pG U s.1 p) + 1) c ≤ s.2.1 c
      by_cases z : c = pG U s.1 p
      · rw [z, xu_1]
        rcases hc.2 with q | q
        · exact absurd q ht
        · exact q.1
      · rw [xu_2 z]; exact h3 c
  · rw [pS_x, xu_sum hp]; omega
theorem pI_k {U : Nat → Nat → Nat → Int} (h : hU U) : ∀ {k : Nat}, pR U k → pI U (pst U k) k
  | 0, _ => ⟨fun _ _ => Nat.zero_le _, fun _ _ _ _ => Nat.le_refl _, fun _ => Nat.le_refl _, rfl⟩
  | k + 1, hr => by
    have h1 := pI_k h (k := k) (fun j hj => hr j (by omega))
    have h2 : pP U k < 4 := hr k (by omega)
    have hp : pF U (pst U k) < 4 := h2
    rcases pF_sp U (pst U k) with ⟨a, b, c⟩ | ⟨a, b⟩
    · exact pI_S h a h1 b
    · omega
theorem pR_40 {U : Nat → Nat → Nat → Int} (h : hU U) {k : Nat} (hr : pR U k) : k ≤ 40 := by
  have h1 := pI_k h hr
  have l : ∀ p, p < 4 → ln (U p) p ≤ 10 := fun p hp => by
    obtain ⟨n, s, v⟩ := h p hp
    exact (ln_eq v.1 hp).2
  have a0 := h1.1 0 (by omega)
  have a1 := h1.1 1 (by omega)
  have a2 := h1.1 2 (by omega)
  have a3 := h1.1 3 (by omega)
  have b0 := l 0 (by omega)
  have b1 := l 1 (by omega)
  have b2 := l 2 (by omega)
  have b3 := l 3 (by omega)
  have := h1.2.2.2
  omega
/-- k is how many steps there are -/
def pK (U : Nat → Nat → Nat → Int) (k : Nat) : Prop := pR U k ∧ pP U k = 4
theorem pK_u {U : Nat → Nat → Nat → Int} {k j : Nat} (h : pK U k) (i : pK U j) : k = j := by
  rcases Nat.lt_trichotomy k j with q | q | q
  · have := i.1 k q; have := h.2; omega
  · exact q
  · have := h.1 j q; have := i.2; omega
/-- how many of the first k steps are sends -/
noncomputable def pN (U : Nat → Nat → Nat → Int) : Nat → Nat
  | 0 => 0
  | k + 1 => pN U k + (if U (pP U k) 1 (pV U k) = 0 then 1 else 0)
theorem pN_le (U : Nat → Nat → Nat → Int) : ∀ k, pN U k ≤ k
  | 0 => Nat.le_refl _
  | k + 1 => by
    have := pN_le U k
    show pN U k + _ ≤ k + 1
    split <;> omega
