/-! ===== Player: can, act, perform ===== -/
theorem nxt_y {U : Nat → Nat → Nat → Int} {x : Nat → Nat} {p : Nat} (h : x p < ln (U p) p) : nxt U x p = (pE U x p : Int) := if_pos h
theorem nxt_n {U : Nat → Nat → Nat → Int} {x : Nat → Nat} {p : Nat} (h : ¬ x p < ln (U p) p) : nxt U x p = -1 := if_neg h
theorem pI_sn {U : Nat → Nat → Nat → Int} {s : pm} {k c : Nat} (h : hU U) (H : pI U s k) (hc : c < 16) : s.2.1 c ≤ 10 ∧ s.2.2.1 c ≤ s.2.1 c := by
  have h1 := H.2.1 (c / 4) (c % 4) (by omega) (by omega)
  rw [show c / 4 * 4 + c % 4 = c by omega] at h1
  have h2 := H.1 (c / 4) (by omega)
  obtain ⟨n, s', v⟩ := h (c / 4) (by omega)
  have h3 := (ln_eq v.1 (show c / 4 < 4 by omega)).2
  exact ⟨by omega, H.2.2.1 c⟩
theorem pG_lt {U : Nat → Nat → Nat → Int} {x : Nat → Nat} {p : Nat} (h : hU U) (hp : p < 4) (hl : x p < ln (U p) p) : pG U x p < 16 ∧ pQ U x p < 16 ∧ U p 3 (pE U x p) * 4 + (p : Int) = (pG U x p : Int) ∧ (p : Int) * 4 + U p 3 (pE U x p) = (pQ U x p : Int) := by
  have := (pE_sp h hp hl).2.2.2.1
  unfold pG pQ
  omega
theorem c_can (d m p k : Nat) (M : dt_M) (U : Nat → Nat → Nat → Int) (s : pm) (hm : m < 256) (hp : p < 4) (h7 : M.1 53 7 = (m : Int)) (h : hM M U m) (hu : hU U) (hX : pX M U s) (hI : pI U s k) : dt_Sp mX2_can (d + 2) [qP, .inl p] M (fun r M' => M' = M ∧ ((r = some (.inl 1) ∧ pC U s p) ∨ (r = some (.inl 0) ∧ ¬ pC U s p))) := by
  have ep : (p : Int).toNat = p := by omega
  refine dt_flat okX2_can 70 (by decide) (Nat.le_of_ble_eq_true rfl) (fun J => ?_)
  (repeat (first | refine And.intro ⟨by (try dsimp only); omega, by (try dsimp only); omega⟩ ?_ | refine And.intro (Or.inl rfl) ?_ | refine And.intro (Or.inr rfl) ?_))
  rw [ep, (hX.1 p hp).2]
  by_cases hl : s.1 p < ln (U p) p
  · obtain ⟨e7, ⟨n, s', v, en, n20⟩, t2, t3, t4, t23, t1⟩ := pE_sp hu hp hl
    obtain ⟨g1, g2, g3, g4⟩ := pG_lt hu hp hl
    rw [nxt_y hl]
    have ee : ((pE U s.1 p : Nat) : Int).toNat = pE U s.1 p := by omega
    have eg : ((pG U s.1 p : Nat) : Int).toNat = pG U s.1 p := by omega
    have u1 : M.1 (2 + 8 * ch m p + 1) = U p 1 := h p hp 1 (by omega)
    have u3 : M.1 (2 + 8 * ch m p + 3) = U p 3 := h p hp 3 (by omega)
    have u4 : M.1 (2 + 8 * ch m p + 4) = U p 4 := h p hp 4 (by omega)
    obtain ⟨x1, x2, x3⟩ := hX.2 (pG U s.1 p) g1
    have b := pI_sn hu hI g1
    refine And.intro (fun _ => ?_) (fun z => absurd (show ((pE U s.1 p : Nat) : Int) = -1 from z) (by omega))
    refine Exists.intro _ (And.intro (c_talkOf _ m p M hm hp h7) ?_)
    rintro r M0 ⟨rfl, rfl⟩
    (repeat (first | refine And.intro ⟨by (try dsimp only); omega, by (try dsimp only); omega⟩ ?_ | refine And.intro (Or.inl rfl) ?_ | refine And.intro (Or.inr rfl) ?_))
    rw [ee, u1]
    refine And.intro (fun z => ?_) (fun z => ⟨Or.inr rfl, rfl, Or.inl ⟨rfl, hl, Or.inl z⟩⟩)
    (repeat (first | refine And.intro ⟨by (try dsimp only); omega, by (try dsimp only); omega⟩ ?_ | refine And.intro (Or.inl rfl) ?_ | refine And.intro (Or.inr rfl) ?_))
    rw [ee, u3]
    refine And.intro ⟨by omega, by omega⟩ (And.intro ⟨by omega, by omega⟩ ?_)
    show (0 ≤ U p 3 (pE U s.1 p) * 4 + (p : Int) ∧ U p 3 (pE U s.1 p) * 4 + (p : Int) < 16) ∧ _
    rw [g3]
    refine And.intro ⟨by omega, by omega⟩ (And.intro ⟨by omega, by omega⟩ ?_)
    rw [eg, x1, x2]
    refine And.intro (fun y => ⟨Or.inl rfl, rfl, Or.inr ⟨rfl, fun q => ?_⟩⟩) (fun y => ?_)
    · rcases q.2 with q | q
      · exact z q
      · omega
    · have y' : s.2.2.1 (pG U s.1 p) < s.2.1 (pG U s.1 p) := by omega
      have x4 := x3 (s.2.2.1 (pG U s.1 p)) y'
      have ei : ((pG U s.1 p : Int) * 10 + (s.2.2.1 (pG U s.1 p) : Int)).toNat = pG U s.1 p * 10 + s.2.2.1 (pG U s.1 p) := by omega
      (repeat (first | refine And.intro ⟨by (try dsimp only); omega, by (try dsimp only); omega⟩ ?_ | refine And.intro (Or.inl rfl) ?_ | refine And.intro (Or.inr rfl) ?_))
      rw [eg, x2]
      (repeat (first | refine And.intro ⟨by (try dsimp only); omega, by (try dsimp only); omega⟩ ?_ | refine And.intro (Or.inl rfl) ?_ | refine And.intro (Or.inr rfl) ?_))
      rw [ei, x4, ee, u4]
      refine And.intro (fun w => ⟨Or.inl rfl, rfl, Or.inr ⟨rfl, fun q => ?_⟩⟩) (fun w => ⟨Or.inr rfl, rfl, Or.inl ⟨rfl, hl, Or.inr ⟨y', w⟩⟩⟩)
      rcases q.2 with q | q
      · exact z q
      · exact w q.2
  · rw [nxt_n hl]
    refine And.intro (fun z => absurd (show (-1 : Int) = -1 from rfl) z) (fun _ => ⟨Or.inl rfl, rfl, Or.inr ⟨rfl, fun q => hl q.1⟩⟩)
theorem c_firstThatCan (d m k : Nat) (M : dt_M) (U : Nat → Nat → Nat → Int) (s : pm) (hm : m < 256) (h7 : M.1 53 7 = (m : Int)) (h : hM M U m) (hu : hU U) (hX : pX M U s) (hI : pI U s k) : dt_Sp mX2_firstThatCan (d + 3) [qP] M (fun r M' => M' = M ∧ ((pF U s < 4 ∧ r = some (.inl (pF U s))) ∨ (pF U s = 4 ∧ r = some (.inl (-1))))) := by
  refine dt_meth okX2_firstThatCan (fun pc => pc == 2) 40 (σ := Nat) (fun t => 2) (fun t => [some qP, some (.inl t)]) (fun t => M) (fun t => t ≤ 4 ∧ ∀ q, q < t → ¬ pC U s q) (fun t => 4 - t) (by decide) (Nat.le_of_ble_eq_true rfl) ?_ ?_
  · intro J hJ
    exact hJ 0 _ ⟨Nat.zero_le _, fun q hq => absurd hq (Nat.not_lt_zero q)⟩ ⟨rfl, rfl, trivial⟩
  · rintro p ⟨h1, h2⟩ J hJ
    refine And.intro (fun hh => ?_) (fun hh => ?_)
    · have : p = 4 := by omega
      subst this
      exact ⟨rfl, Or.inr ⟨pF_4 h2, rfl⟩⟩
    · have hp : p < 4 := by omega
      refine Exists.intro _ (And.intro (c_can _ m p k M U s hm hp h7 h hu hX hI) ?_)
      rintro r M0 ⟨rfl, (⟨rfl, g⟩ | ⟨rfl, g⟩)⟩
      · refine And.intro (fun q => absurd (show (1 : Int) = 0 from q) (by decide)) (fun _ => ?_)
        have e := pF_at hp g h2
        refine ⟨rfl, Or.inl ⟨by omega, by rw [e]⟩⟩
      · refine And.intro (fun _ => ?_) (fun q => absurd (show (0 : Int) = 0 from rfl) q)
        refine And.intro ⟨by omega, by omega⟩ (hJ (p + 1) _ ⟨by omega, fun q hq => ?_⟩ (by omega) ⟨rfl, rfl, trivial⟩)
        by_cases z : q = p
        · subst z; exact g
        · exact h2 q (by omega)
theorem c_post (d c sn : Nat) (w : Int) (M : dt_M) (hc : c < 16) (hs : sn < 10) (h57 : M.1 57 c = (sn : Int)) (h9 : -100 ≤ M.1 53 9 ∧ M.1 53 9 ≤ 100) : dt_Sp mX2_post d [qP, .inl c, .inl w] M (fun r M' => r = none ∧ M' = dt_wi (dt_wi (dt_wi M 56 (c * 10 + sn) w) 57 c ((sn : Int) + 1)) 53 9 (M.1 53 9 + 1)) := by
  have ec : (c : Int).toNat = c := by omega
  have ei : ((c : Int) * 10 + (sn : Int)).toNat = c * 10 + sn := by omega
  refine dt_flat okX2_post 60 (by decide) (Nat.le_of_ble_eq_true rfl) (fun J => ?_)
  (repeat (first | refine And.intro ⟨by (try dsimp only); omega, by (try dsimp only); omega⟩ ?_ | refine And.intro (Or.inl rfl) ?_ | refine And.intro (Or.inr rfl) ?_))
  rw [ec, h57]
  refine And.intro (fun z => absurd z (by omega)) (fun _ => ?_)
  (repeat (first | refine And.intro ⟨by (try dsimp only); omega, by (try dsimp only); omega⟩ ?_ | refine And.intro (Or.inl rfl) ?_ | refine And.intro (Or.inr rfl) ?_))
  rw [ec, h57]
  (repeat (first | refine And.intro ⟨by (try dsimp only); omega, by (try dsimp only); omega⟩ ?_ | refine And.intro (Or.inl rfl) ?_ | refine And.intro (Or.inr rfl) ?_))
  rw [ei]
  intro M1 hM1
  have e57 : M1.1 57 c = (sn : Int) := by rw [hM1, dm_wi2 (by decide)]; exact h57
  have e53 : M1.1 53 9 = M.1 53 9 := by rw [hM1, dm_wi2 (by decide)]
  (repeat (first | refine And.intro ⟨by (try dsimp only); omega, by (try dsimp only); omega⟩ ?_ | refine And.intro (Or.inl rfl) ?_ | refine And.intro (Or.inr rfl) ?_))
  rw [ec, e57]
  (repeat (first | refine And.intro ⟨by (try dsimp only); omega, by (try dsimp only); omega⟩ ?_ | refine And.intro (Or.inl rfl) ?_ | refine And.intro (Or.inr rfl) ?_))
  intro M2 hM2
  have e53' : M2.1 53 9 = M.1 53 9 := by rw [hM2, dm_wi2 (by decide)]; exact e53
  refine And.intro (show dt_r (M2.1 53 9 + 1) by rw [e53']; exact ⟨by omega, by omega⟩) ?_
  intro M3 hM3
  have hM3' : M3 = dt_wi M2 53 9 (M2.1 53 9 + 1) := hM3
  refine ⟨rfl, ?_⟩
  rw [hM3', e53', hM2, hM1, ec]
/-- a step's part that act does -/
def pA (M M' : dt_M) (U : Nat → Nat → Nat → Int) (s : pm) (p : Nat) : Prop := (∀ a, a ≠ 53 → a ≠ 56 → a ≠ 57 → a ≠ 58 → M'.1 a = M.1 a) ∧ M'.2 = M.2 ∧ M'.1 53 = dt_up (M.1 53) 9 (M.1 53 9 + (if U p 1 (pE U s.1 p) = 0 then 1 else -1)) ∧ ∀ c, c < 16 → M'.1 57 c = ((pS U s p).2.1 c : Int) ∧ M'.1 58 c = ((pS U s p).2.2.1 c : Int) ∧ ∀ j, j < (pS U s p).2.1 c → M'.1 56 (c * 10 + j) = (pS U s p).2.2.2 c j
theorem c_act (d m p k : Nat) (M : dt_M) (U : Nat → Nat → Nat → Int) (s : pm) (hm : m < 256) (hp : p < 4) (h7 : M.1 53 7 = (m : Int)) (h : hM M U m) (hu : hU U) (hX : pX M U s) (hI : pI U s k) (hC : pC U s p) (h9 : -100 ≤ M.1 53 9 ∧ M.1 53 9 ≤ 100) : dt_Sp mX2_act (d + 2) [qP, .inl p] M (fun r M' => r = none ∧ pA M M' U s p) := by
  have ep : (p : Int).toNat = p := by omega
  have hl := hC.1
  obtain ⟨e7, ⟨n, s', v, en, n20⟩, t2, t3, t4, t23, t1⟩ := pE_sp hu hp hl
  obtain ⟨g1, g2, g3, g4⟩ := pG_lt hu hp hl
  have ee : ((pE U s.1 p : Nat) : Int).toNat = pE U s.1 p := by omega
  have eg : ((pG U s.1 p : Nat) : Int).toNat = pG U s.1 p := by omega
  have u1 : M.1 (2 + 8 * ch m p + 1) = U p 1 := h p hp 1 (by omega)
  have u3 : M.1 (2 + 8 * ch m p + 3) = U p 3 := h p hp 3 (by omega)
  have u4 : M.1 (2 + 8 * ch m p + 4) = U p 4 := h p hp 4 (by omega)
  obtain ⟨x1, x2, x3⟩ := hX.2 (pG U s.1 p) g1
  have b := pI_sn hu hI g1
  refine dt_flat okX2_act 70 (by decide) (Nat.le_of_ble_eq_true rfl) (fun J => ?_)
  (repeat (first | refine And.intro ⟨by (try dsimp only); omega, by (try dsimp only); omega⟩ ?_ | refine And.intro (Or.inl rfl) ?_ | refine And.intro (Or.inr rfl) ?_))
  rw [ep, (hX.1 p hp).2, nxt_y hl]
  refine And.intro (fun _ => ?_) (fun z => absurd (show ((pE U s.1 p : Nat) : Int) = -1 from z) (by omega))
  refine Exists.intro _ (And.intro (c_talkOf _ m p M hm hp h7) ?_)
  rintro r M0 ⟨rfl, rfl⟩
  (repeat (first | refine And.intro ⟨by (try dsimp only); omega, by (try dsimp only); omega⟩ ?_ | refine And.intro (Or.inl rfl) ?_ | refine And.intro (Or.inr rfl) ?_))
  rw [ee, u1]
  refine And.intro (fun z => ?_) (fun z => ?_)
  · have z' : U p 1 (pE U s.1 p) = 0 := z
    have q4 := (hX.2 (pQ U s.1 p) g2).1
    have q5 : s.2.1 (pQ U s.1 p) < 10 := by
      have h5 := hI.2.1 p (U p 3 (pE U s.1 p)).toNat hp (by omega)
      have h6 : s.2.1 (pQ U s.1 p) ≤ s.1 p := h5
      have := (ln_eq v.1 hp).2
      omega
    (repeat (first | refine And.intro ⟨by (try dsimp only); omega, by (try dsimp only); omega⟩ ?_ | refine And.intro (Or.inl rfl) ?_ | refine And.intro (Or.inr rfl) ?_))
    rw [ee, u3]
    show dt_r ((p : Int) * 4 + U p 3 (pE U s.1 p)) ∧ _
    rw [g4]
    refine And.intro ⟨by omega, by omega⟩ (And.intro ⟨by omega, by omega⟩ ?_)
    rw [u4]
    refine Exists.intro _ (And.intro (c_post _ (pQ U s.1 p) (s.2.1 (pQ U s.1 p)) (U p 4 (pE U s.1 p)) M0 g2 q5 q4 h9) ?_)
    rintro r M1 ⟨rfl, rfl⟩
    refine ⟨rfl, fun a w1 w2 w3 w4 => by rw [dm_wi2 w1, dm_wi2 w3, dm_wi2 w2], rfl, ?_, fun c hc => ?_⟩
    · rw [dm_wi1, dm_wi2 (by decide), dm_wi2 (by decide), if_pos z']
    · unfold pS
      rw [if_pos z', dm_wi2 (by decide), dm_wi1, dm_wi2 (by decide), dm_wi2 (by decide), dm_wi2 (by decide), dm_wi2 (by decide), dm_wi2 (by decide), dm_wi2 (by decide), dm_wi1]
      obtain ⟨y1, y2, y3⟩ := hX.2 c hc
      have bq := pI_sn hu hI g2
      have bc := pI_sn hu hI hc
      refine ⟨?_, y2, fun j hj => ?_⟩
      · show _ = ((xu s.2.1 (pQ U s.1 p) (s.2.1 (pQ U s.1 p) + 1) c : Nat) : Int)
        by_cases w : c = pQ U s.1 p
        · rw [w, dm_up1, xu_1]; rfl
        · rw [dm_up2 w, xu_2 w]; exact y1
      · have hj' : j < xu s.2.1 (pQ U s.1 p) (s.2.1 (pQ U s.1 p) + 1) c := hj
        show _ = (if c = pQ U s.1 p ∧ j = s.2.1 (pQ U s.1 p) then U p 4 (pE U s.1 p) else s.2.2.2 c j)
        by_cases w : c = pQ U s.1 p ∧ j = s.2.1 (pQ U s.1 p)
        · rw [if_pos w, w.1, w.2, dm_up1]
        · rw [if_neg w]
          by_cases w1 : c = pQ U s.1 p
          · rw [w1, xu_1] at hj'
            rw [dm_up2 (by omega)]
            exact y3 j (by rw [w1]; omega)
          · rw [xu_2 w1] at hj'
            rw [dm_up2 (by omega)]
            exact y3 j hj'
  · have z' : ¬ U p 1 (pE U s.1 p) = 0 := z
    have hq := (by rcases hC.2 with q | q; exact absurd q z'; exact q : s.2.2.1 (pG U s.1 p) < s.2.1 (pG U s.1 p) ∧ s.2.2.2 (pG U s.1 p) (s.2.2.1 (pG U s.1 p)) = U p 4 (pE U s.1 p))
    (repeat (first | refine And.intro ⟨by (try dsimp only); omega, by (try dsimp only); omega⟩ ?_ | refine And.intro (Or.inl rfl) ?_ | refine And.intro (Or.inr rfl) ?_))
    rw [ee, u3]
    refine And.intro ⟨by omega, by omega⟩ ?_
    show dt_r (U p 3 (pE U s.1 p) * 4 + (p : Int)) ∧ _
    rw [g3]
    (repeat (first | refine And.intro ⟨by (try dsimp only); omega, by (try dsimp only); omega⟩ ?_ | refine And.intro (Or.inl rfl) ?_ | refine And.intro (Or.inr rfl) ?_))
    rw [eg, x2]
    (repeat (first | refine And.intro ⟨by (try dsimp only); omega, by (try dsimp only); omega⟩ ?_ | refine And.intro (Or.inl rfl) ?_ | refine And.intro (Or.inr rfl) ?_))
    intro M1 hM1
    have hM1' : M1 = dt_wi M0 58 (pG U s.1 p) ((s.2.2.1 (pG U s.1 p) : Int) + 1) := by first | exact hM1 | (rw [hM1, eg])
    have e53 : M1.1 53 9 = M0.1 53 9 := by rw [hM1', dm_wi2 (by decide)]
    refine And.intro (show dt_r (M1.1 53 9 - 1) by rw [e53]; exact ⟨by omega, by omega⟩) ?_
    intro M2 hM2
    have hM2' : M2 = dt_wi M1 53 9 (M1.1 53 9 - 1) := hM2
    refine ⟨rfl, fun a w1 w2 w3 w4 => by rw [hM2', dm_wi2 w1, hM1', dm_wi2 w4], by rw [hM2', dm_wi3, hM1', dm_wi3], ?_, fun c hc => ?_⟩
    · rw [hM2', dm_wi1, e53, hM1', dm_wi2 (by decide), if_neg z']; rfl
    · unfold pS
      rw [if_neg z', hM2', dm_wi2 (by decide), dm_wi2 (by decide), dm_wi2 (by decide), hM1', dm_wi2 (by decide), dm_wi1, dm_wi2 (by decide)]
      obtain ⟨y1, y2, y3⟩ := hX.2 c hc
      refine ⟨y1, ?_, y3⟩
      show _ = ((xu s.2.2.1 (pG U s.1 p) (s.2.2.1 (pG U s.1 p) + 1) c : Nat) : Int)
      by_cases w : c = pG U s.1 p
      · rw [w, dm_up1, xu_1]; rfl
      · rw [dm_up2 w, xu_2 w]; exact y2
