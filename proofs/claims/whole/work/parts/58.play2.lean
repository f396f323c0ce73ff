/-! ===== play: the class and the Model ===== -/
/-- the answer of play -/
def pyA (T : Nat → Nat → Nat → Int) (m w v : Int) : Prop := ((0 ≤ m ∧ m < 256) ∧ ∃ k, pK (fun p => T (ch m.toNat p)) k ∧ ((w = 0 ∧ v = (k : Int)) ∨ (w = 1 ∧ ((v = 1 ∧ pZ (fun p => T (ch m.toNat p)) k) ∨ (v = 0 ∧ ¬ pZ (fun p => T (ch m.toNat p)) k))) ∨ (w = 2 ∧ v = 2 * (pN (fun p => T (ch m.toNat p)) k : Int) - (k : Int)))) ∨ (¬ ((0 ≤ m ∧ m < 256) ∧ 0 ≤ w ∧ w ≤ 2) ∧ v = -1)
theorem pyA_u {T : Nat → Nat → Nat → Int} {m w v v' : Int} (h : pyA T m w v) (k : pyA T m w v') : v = v' := by
  rcases h with ⟨h1, j, h2, h3⟩ | ⟨h1, h2⟩ <;> rcases k with ⟨k1, i, k2, k3⟩ | ⟨k1, k2⟩
  · have e := pK_u h2 k2
    subst e
    rcases h3 with ⟨a, b⟩ | ⟨a, b⟩ | ⟨a, b⟩ <;> rcases k3 with ⟨c, d⟩ | ⟨c, d⟩ | ⟨c, d⟩ <;> first | omega | skip
    rcases b with ⟨b1, b2⟩ | ⟨b1, b2⟩ <;> rcases d with ⟨d1, d2⟩ | ⟨d1, d2⟩
    · rw [b1, d1]
    · exact absurd b2 d2
    · exact absurd d2 b2
    · rw [b1, d1]
  · exfalso
    rcases h3 with ⟨a, b⟩ | ⟨a, b⟩ | ⟨a, b⟩ <;> exact k1 ⟨h1, by omega⟩
  · exfalso
    rcases k3 with ⟨a, b⟩ | ⟨a, b⟩ | ⟨a, b⟩ <;> exact h1 ⟨k1, by omega⟩
  · rw [h2, k2]
theorem cV_hU {M : dt_M} (h : cV M) (m : Nat) : hU (fun p => cT M (ch m p)) := fun p _ => h (ch m p) (ch_lt m p)
theorem c_play (d : Nat) (m w : Int) (M : dt_M) (hV : cV M) : dt_Sp mX6_play (d + 5) [qX, .inl m, .inl w] M (fun r M' => pfr M M' ∧ ∃ v, r = some (.inl v) ∧ pyA (cT M) m w v) := by
  refine dt_flat okX6_play 60 (by decide) (Nat.le_of_ble_eq_true rfl) (fun J => ?_)
  refine Exists.intro _ (And.intro (c_isMix _ m M) ?_)
  rintro r M0 ⟨rfl, rfl⟩
  by_cases hi : 0 ≤ m ∧ m < 256
  · rw [if_pos hi]
    refine And.intro (fun h => absurd (show (1 : Int) = 0 from h) (by decide)) (fun _ => ?_)
    refine And.intro (fun h => ⟨pfr.rf, _, rfl, Or.inr ⟨by omega, rfl⟩⟩) (fun h => ?_)
    refine And.intro (fun h1 => ?_) (fun h1 => ⟨pfr.rf, _, rfl, Or.inr ⟨by omega, rfl⟩⟩)
    have hp := c_perform d m.toNat M0 (fun p => cT M0 (ch m.toNat p)) (by omega) (fun p _ g _ => rfl) (cV_hU hV m.toNat)
    rw [show ((m.toNat : Nat) : Int) = m by omega] at hp
    refine Exists.intro _ (And.intro hp ?_)
    rintro r M1 ⟨rfl, f1, k, hK, hP⟩
    refine And.intro (fun z => ?_) (fun z => And.intro (fun z1 => ?_) (fun z1 => ?_))
    · exact ⟨f1, M1.1 53 8, rfl, Or.inl ⟨hi, k, hK, Or.inl ⟨z, hP.2.1⟩⟩⟩
    · refine Exists.intro _ (And.intro (c_ends _ m.toNat k M1 (fun p => cT M0 (ch m.toNat p)) (cV_hU hV m.toNat) hK hP) ?_)
      rintro r M2 ⟨rfl, (⟨rfl, g⟩ | ⟨rfl, g⟩)⟩
      · refine Exists.intro _ (And.intro (c_asNumber _ _ (Or.inr rfl) M2) ?_)
        rintro r M4 ⟨rfl, rfl⟩
        exact ⟨f1, 1, rfl, Or.inl ⟨hi, k, hK, Or.inr (Or.inl ⟨z1, Or.inl ⟨rfl, g⟩⟩)⟩⟩
      · refine Exists.intro _ (And.intro (c_asNumber _ _ (Or.inl rfl) M2) ?_)
        rintro r M4 ⟨rfl, rfl⟩
        exact ⟨f1, 0, rfl, Or.inl ⟨hi, k, hK, Or.inr (Or.inl ⟨z1, Or.inr ⟨rfl, g⟩⟩)⟩⟩
    · exact ⟨f1, M1.1 53 9, rfl, Or.inl ⟨hi, k, hK, Or.inr (Or.inr ⟨by omega, hP.2.2.1⟩)⟩⟩
  · rw [if_neg hi]
    refine And.intro (fun _ => ?_) (fun h => absurd (show (0 : Int) = 0 from rfl) h)
    exact ⟨pfr.rf, _, rfl, Or.inr ⟨fun q => hi q.1, rfl⟩⟩
theorem mV_mM {M : dt_M} {T : Nat → Nat → Nat → Int} (h : mV M T) (m : Nat) : mM M (fun p => T (ch m p)) m := fun p _ => h (ch m p) (ch_lt m p)
theorem k_play (d : Nat) (m w : Int) (M : dt_M) (T : Nat → Nat → Nat → Int) (hV : mV M T) : dt_Sp mX7_play (d + 3) [qM, .inl m, .inl w] M (fun r M' => gfr M M' ∧ ∃ v, r = some (.inl v) ∧ pyA T m w v) := by
  refine dt_flat okX7_play 60 (by decide) (Nat.le_of_ble_eq_true rfl) (fun J => ?_)
  refine Exists.intro _ (And.intro (c_in _ _ _ _ M) ?_)
  rintro r M0 ⟨rfl, rfl⟩
  by_cases hi : 0 ≤ m ∧ m ≤ 255
  · rw [if_pos hi]
    refine And.intro (fun h => absurd (show (1 : Int) = 0 from h) (by decide)) (fun _ => ?_)
    refine Exists.intro _ (And.intro (c_in _ _ _ _ M0) ?_)
    rintro r M0 ⟨rfl, rfl⟩
    by_cases hw : 0 ≤ w ∧ w ≤ 2
    · rw [if_pos hw]
      refine And.intro (fun _ => ?_) (fun h => absurd (show (1 : Int) = 0 from h) (by decide))
      have hp := k_plays d m.toNat M0 (fun p => T (ch m.toNat p)) (by omega) (mV_mM hV m.toNat)
      rw [show ((m.toNat : Nat) : Int) = m by omega] at hp
      refine Exists.intro _ (And.intro hp ?_)
      rintro r M1 ⟨f1, k, hK, hP, hr⟩
      have hk := pR_40 (mV_mM hV m.toNat).hU hK.1
      have nl := pN_le (fun p => T (ch m.toNat p)) k
      have hi' : 0 ≤ m ∧ m < 256 := by omega
      rcases hr with ⟨rfl, g⟩ | ⟨rfl, g⟩
      · refine And.intro (fun z => And.intro (fun z1 => ?_) (fun z1 => ?_)) (fun z => ?_)
        · refine And.intro (show dt_r (2 * M1.1 62 33) by rw [hP.2.1]; exact ⟨by omega, by omega⟩) (And.intro (show dt_r (2 * M1.1 62 33 - M1.1 62 32) by rw [hP.1, hP.2.1]; exact ⟨by omega, by omega⟩) ?_)
          exact ⟨f1, 2 * M1.1 62 33 - M1.1 62 32, rfl, Or.inl ⟨hi', k, hK, Or.inr (Or.inr ⟨by omega, by rw [hP.1, hP.2.1]⟩)⟩⟩
        · refine And.intro (fun q => absurd (show (1 : Int) = 0 from q) (by decide)) (fun _ => ?_)
          exact ⟨f1, 1, rfl, Or.inl ⟨hi', k, hK, Or.inr (Or.inl ⟨z1, Or.inl ⟨rfl, g⟩⟩)⟩⟩
        · exact ⟨f1, M1.1 62 32, rfl, Or.inl ⟨hi', k, hK, Or.inl ⟨z, hP.1⟩⟩⟩
      · refine And.intro (fun z => And.intro (fun z1 => ?_) (fun z1 => ?_)) (fun z => ?_)
        · refine And.intro (show dt_r (2 * M1.1 62 33) by rw [hP.2.1]; exact ⟨by omega, by omega⟩) (And.intro (show dt_r (2 * M1.1 62 33 - M1.1 62 32) by rw [hP.1, hP.2.1]; exact ⟨by omega, by omega⟩) ?_)
          exact ⟨f1, 2 * M1.1 62 33 - M1.1 62 32, rfl, Or.inl ⟨hi', k, hK, Or.inr (Or.inr ⟨by omega, by rw [hP.1, hP.2.1]⟩)⟩⟩
        · refine And.intro (fun _ => ?_) (fun q => absurd rfl q)
          exact ⟨f1, 0, rfl, Or.inl ⟨hi', k, hK, Or.inr (Or.inl ⟨z1, Or.inr ⟨rfl, g⟩⟩)⟩⟩
        · exact ⟨f1, M1.1 62 32, rfl, Or.inl ⟨hi', k, hK, Or.inl ⟨z, hP.1⟩⟩⟩
    · rw [if_neg hw]
      refine And.intro (fun h => absurd (show (0 : Int) = 0 from rfl) h) (fun _ => ?_)
      exact ⟨gfr.rf, _, rfl, Or.inr ⟨fun q => hw q.2, rfl⟩⟩
  · rw [if_neg hi]
    refine And.intro (fun _ => ?_) (fun h => absurd (show (0 : Int) = 0 from rfl) h)
    exact ⟨gfr.rf, _, rfl, Or.inr ⟨fun q => hi (by omega), rfl⟩⟩
