/-! ===== the Model: doNext ===== -/
theorem k_doNext (d m p k c : Nat) (M : dt_M) (U : Nat → Nat → Nat → Int) (s : pm) (hm : m < 256) (hp : p < 4) (h : mM M U m) (hX : MX M s) (hI : pI U s k) (hC : pC U s p) (hk : k ≤ 40) (hc40 : c ≤ 40) (h32 : M.1 62 32 = (k : Int)) (h33 : M.1 62 33 = (c : Int)) : dt_Sp mX7_doNext (d + 1) [qM, .inl m, .inl p] M (fun r M' => r = none ∧ gfr M M' ∧ MX M' (pS U s p) ∧ M'.1 62 32 = (k : Int) + 1 ∧ M'.1 62 33 = (c : Int) + (if U p 1 (pE U s.1 p) = 0 then 1 else 0) ∧ M'.1 85 = dt_up (M.1 85) k (20 * (ch m p : Int) + (pE U s.1 p : Int))) := by
  have hu := h.hU
  have hl := hC.1
  have ep : (p : Int).toNat = p := by omega
  have ek : (k : Int).toNat = k := by omega
  have cl := ch_lt m p
  have ml := mM_l h hp
  obtain ⟨a0, a20, a1, a2, a3, a4⟩ := mM_at h hp hl
  obtain ⟨-, -, t2, t3, t4, t23, t1⟩ := pE_sp hu hp hl
  obtain ⟨g1, g2, g3, g4⟩ := pG_lt hu hp hl
  have eg : ((pG U s.1 p : Nat) : Int).toNat = pG U s.1 p := by omega
  have eq : ((pQ U s.1 p : Nat) : Int).toNat = pQ U s.1 p := by omega
  have g3' : 4 * U p 3 (pE U s.1 p) + (p : Int) = (pG U s.1 p : Int) := by omega
  have g4' : 4 * (p : Int) + U p 3 (pE U s.1 p) = (pQ U s.1 p : Int) := by omega
  have ei : (20 * (4 * ((ch m p : Nat) : Int) + (p : Int)) + (s.1 p : Int)).toNat = 20 * (4 * ch m p + p) + s.1 p := by omega
  have ea : (20 * ((ch m p : Nat) : Int) + ((pE U s.1 p : Nat) : Int)).toNat = 20 * ch m p + pE U s.1 p := by omega
  have bg := pI_sn hu hI g1
  have bq := pI_sn hu hI g2
  obtain ⟨x1, x2, x3⟩ := hX.2 (pG U s.1 p) g1
  obtain ⟨w1, w2, w3⟩ := hX.2 (pQ U s.1 p) g2
  /- the end: what is common to both ways -/
  have fin : ∀ N : dt_M, gfr M N → N.1 84 = M.1 84 → N.1 85 = M.1 85 → N.1 62 32 = (k : Int) → N.1 62 33 = (c : Int) + (if U p 1 (pE U s.1 p) = 0 then 1 else 0) → (∀ c, c < 16 → N.1 82 c = ((pS U s p).2.1 c : Int) ∧ N.1 83 c = ((pS U s p).2.2.1 c : Int) ∧ ∀ j, j < (pS U s p).2.1 c → N.1 81 (20 * c + j) = (pS U s p).2.2.2 c j) →
      ∀ M1, M1 = dt_wi N 85 k (20 * (ch m p : Int) + (pE U s.1 p : Int)) → ∀ M2, M2 = dt_wi M1 62 32 ((k : Int) + 1) → ∀ M3, M3 = dt_wi M2 84 p ((s.1 p : Int) + 1) → (none : Option dt_V) = none ∧ gfr M M3 ∧ MX M3 (pS U s p) ∧ M3.1 62 32 = (k : Int) + 1 ∧ M3.1 62 33 = (c : Int) + (if U p 1 (pE U s.1 p) = 0 then 1 else 0) ∧ M3.1 85 = dt_up (M.1 85) k (20 * (ch m p : Int) + (pE U s.1 p : Int)) := by
    intro N f n84 n85 n32 n33 nX M1 hM1 M2 hM2 M3 hM3
    have r0 : ∀ a, a ≠ 62 → a ≠ 84 → a ≠ 85 → M3.1 a = N.1 a := fun a x y z => by rw [hM3, dm_wi2 y, hM2, dm_wi2 x, hM1, dm_wi2 z]
    have r62 : M3.1 62 = dt_up (N.1 62) 32 ((k : Int) + 1) := by rw [hM3, dm_wi2 (by decide), hM2, dm_wi1, hM1, dm_wi2 (by decide)]
    refine ⟨rfl, ?_, ⟨fun q hq => ?_, fun c hc => ?_⟩, by rw [r62, dm_up1], by rw [r62, dm_up2 (by decide)]; exact n33, ?_⟩
    · rw [hM3, hM2, hM1]; exact ((f.tr (gfr_a (by decide))).tr (gfr_s (by omega))).tr (gfr_a (by decide))
    · rw [pS_x, hM3, dm_wi1, hM2, dm_wi2 (by decide), hM1, dm_wi2 (by decide), n84]
      by_cases z : q = p
      · subst z; rw [dm_up1, xu_1]; omega
      · rw [dm_up2 z, xu_2 z]; exact hX.1 q hq
    · rw [r0 82 (by decide) (by decide) (by decide), r0 83 (by decide) (by decide) (by decide), r0 81 (by decide) (by decide) (by decide)]
      exact nX c hc
    · rw [hM3, dm_wi2 (by decide), hM2, dm_wi2 (by decide), hM1, dm_wi1, n85]
  refine dt_flat okX7_doNext 110 (by decide) (Nat.le_of_ble_eq_true rfl) (fun J => ?_)
  refine Exists.intro _ (And.intro (k_talkOf _ m p M hm hp) ?_)
  rintro r M0 ⟨rfl, rfl⟩
  (repeat (first | refine And.intro ⟨by (try dsimp only); omega, by (try dsimp only); omega⟩ ?_ | refine And.intro (Or.inl rfl) ?_ | refine And.intro (Or.inr rfl) ?_))
  refine Exists.intro _ (And.intro (k_talkOf _ m p M0 hm hp) ?_)
  rintro r M1 ⟨rfl, rfl⟩
  (repeat (first | refine And.intro ⟨by (try dsimp only); omega, by (try dsimp only); omega⟩ ?_ | refine And.intro (Or.inl rfl) ?_ | refine And.intro (Or.inr rfl) ?_))
  rw [ep, hX.1 p hp]
  (repeat (first | refine And.intro ⟨by (try dsimp only); omega, by (try dsimp only); omega⟩ ?_ | refine And.intro (Or.inl rfl) ?_ | refine And.intro (Or.inr rfl) ?_))
  rw [ei, a0]
  (repeat (first | refine And.intro ⟨by (try dsimp only); omega, by (try dsimp only); omega⟩ ?_ | refine And.intro (Or.inl rfl) ?_ | refine And.intro (Or.inr rfl) ?_))
  rw [ea, a1]
  refine And.intro (fun z => ?_) (fun z => ?_)
  · have z' : U p 1 (pE U s.1 p) = 0 := z
    have q5 : s.2.1 (pQ U s.1 p) < 10 := by
      have h5 := hI.2.1 p (U p 3 (pE U s.1 p)).toNat hp (by omega)
      have h6 : s.2.1 (pQ U s.1 p) ≤ s.1 p := h5
      omega
    have ej : (20 * (pQ U s.1 p : Int) + (s.2.1 (pQ U s.1 p) : Int)).toNat = 20 * pQ U s.1 p + s.2.1 (pQ U s.1 p) := by omega
    (repeat (first | refine And.intro ⟨by (try dsimp only); omega, by (try dsimp only); omega⟩ ?_ | refine And.intro (Or.inl rfl) ?_ | refine And.intro (Or.inr rfl) ?_))
    rw [ea, a3]
    show dt_r (4 * (p : Int) + U p 3 (pE U s.1 p)) ∧ _
    rw [g4']
    (repeat (first | refine And.intro ⟨by (try dsimp only); omega, by (try dsimp only); omega⟩ ?_ | refine And.intro (Or.inl rfl) ?_ | refine And.intro (Or.inr rfl) ?_))
    rw [eq, w1]
    (repeat (first | refine And.intro ⟨by (try dsimp only); omega, by (try dsimp only); omega⟩ ?_ | refine And.intro (Or.inl rfl) ?_ | refine And.intro (Or.inr rfl) ?_))
    rw [ej, ea, a4]
    intro N1 hN1
    have v82 : N1.1 82 (pQ U s.1 p) = (s.2.1 (pQ U s.1 p) : Int) := by rw [hN1, dm_wi2 (by decide)]; exact w1
    (repeat (first | refine And.intro ⟨by (try dsimp only); omega, by (try dsimp only); omega⟩ ?_ | refine And.intro (Or.inl rfl) ?_ | refine And.intro (Or.inr rfl) ?_))
    rw [eq, v82]
    (repeat (first | refine And.intro ⟨by (try dsimp only); omega, by (try dsimp only); omega⟩ ?_ | refine And.intro (Or.inl rfl) ?_ | refine And.intro (Or.inr rfl) ?_))
    intro N2 hN2
    have hN2' : N2 = dt_wi N1 82 (pQ U s.1 p) ((s.2.1 (pQ U s.1 p) : Int) + 1) := by first | exact hN2 | (rw [hN2, eq])
    have v33 : N2.1 62 33 = (c : Int) := by rw [hN2', dm_wi2 (by decide), hN1, dm_wi2 (by decide)]; exact h33
    refine And.intro (show dt_r (N2.1 62 33 + 1) by rw [v33]; exact ⟨by omega, by omega⟩) ?_
    intro N3 hN3
    have hN3' : N3 = dt_wi N2 62 33 (N2.1 62 33 + 1) := hN3
    rw [v33] at hN3'
    have n62 : N3.1 62 = dt_up (M1.1 62) 33 ((c : Int) + 1) := by rw [hN3', dm_wi1, hN2', dm_wi2 (by decide), hN1, dm_wi2 (by decide)]
    have n32 : N3.1 62 32 = (k : Int) := by rw [n62, dm_up2 (by decide)]; exact h32
    refine And.intro (show 0 ≤ N3.1 62 32 ∧ N3.1 62 32 < 80 by rw [n32]; exact ⟨by omega, by omega⟩) ?_
    intro P1 hP1
    have hP1' : P1 = dt_wi N3 85 k (20 * (ch m p : Int) + (pE U s.1 p : Int)) := by
      have : P1 = dt_wi N3 85 (N3.1 62 32).toNat (20 * (ch m p : Int) + (pE U s.1 p : Int)) := hP1
      rw [this, n32, ek]
    have p32 : P1.1 62 32 = (k : Int) := by rw [hP1', dm_wi2 (by decide)]; exact n32
    refine And.intro (show dt_r (P1.1 62 32 + 1) by rw [p32]; exact ⟨by omega, by omega⟩) ?_
    intro P2 hP2
    have hP2' : P2 = dt_wi P1 62 32 ((k : Int) + 1) := by
      have : P2 = dt_wi P1 62 32 (P1.1 62 32 + 1) := hP2
      rw [this, p32]
    have p84 : P2.1 84 p = (s.1 p : Int) := by rw [hP2', dm_wi2 (by decide), hP1', dm_wi2 (by decide), hN3', dm_wi2 (by decide), hN2', dm_wi2 (by decide), hN1, dm_wi2 (by decide)]; exact hX.1 p hp
    (repeat (first | refine And.intro ⟨by (try dsimp only); omega, by (try dsimp only); omega⟩ ?_ | refine And.intro (Or.inl rfl) ?_ | refine And.intro (Or.inr rfl) ?_))
    rw [ep, p84]
    (repeat (first | refine And.intro ⟨by (try dsimp only); omega, by (try dsimp only); omega⟩ ?_ | refine And.intro (Or.inl rfl) ?_ | refine And.intro (Or.inr rfl) ?_))
    intro P3 hP3
    have hP3' : P3 = dt_wi P2 84 p ((s.1 p : Int) + 1) := by first | exact hP3 | (rw [hP3, ep])
    refine fin N3 ?_ ?_ ?_ n32 ?_ (fun c' hc' => ?_) P1 hP1' P2 hP2' P3 hP3'
    · rw [hN3', hN2', hN1]; exact ((gfr_a (by decide)).tr (gfr_a (by decide))).tr (gfr_s (by omega))
    · rw [hN3', dm_wi2 (by decide), hN2', dm_wi2 (by decide), hN1, dm_wi2 (by decide)]
    · rw [hN3', dm_wi2 (by decide), hN2', dm_wi2 (by decide), hN1, dm_wi2 (by decide)]
    · rw [n62, dm_up1, if_pos z']
    · have e82 : N3.1 82 = dt_up (M1.1 82) (pQ U s.1 p) ((s.2.1 (pQ U s.1 p) : Int) + 1) := by rw [hN3', dm_wi2 (by decide), hN2', dm_wi1, hN1, dm_wi2 (by decide)]
      have e83 : N3.1 83 = M1.1 83 := by rw [hN3', dm_wi2 (by decide), hN2', dm_wi2 (by decide), hN1, dm_wi2 (by decide)]
      have e81 : N3.1 81 = dt_up (M1.1 81) (20 * pQ U s.1 p + s.2.1 (pQ U s.1 p)) (U p 4 (pE U s.1 p)) := by rw [hN3', dm_wi2 (by decide), hN2', dm_wi2 (by decide), hN1, dm_wi1]
      obtain ⟨y1, y2, y3⟩ := hX.2 c' hc'
      have bc := pI_sn hu hI hc'
      unfold pS
      rw [if_pos z', e82, e83, e81]
      refine ⟨?_, y2, fun j hj => ?_⟩
      · show _ = ((xu s.2.1 (pQ U s.1 p) (s.2.1 (pQ U s.1 p) + 1) c' : Nat) : Int)
        by_cases w : c' = pQ U s.1 p
        · rw [w, dm_up1, xu_1]; rfl
        · rw [dm_up2 w, xu_2 w]; exact y1
      · have hj' : j < xu s.2.1 (pQ U s.1 p) (s.2.1 (pQ U s.1 p) + 1) c' := hj
        show _ = (if c' = pQ U s.1 p ∧ j = s.2.1 (pQ U s.1 p) then U p 4 (pE U s.1 p) else s.2.2.2 c' j)
        by_cases w : c' = pQ U s.1 p ∧ j = s.2.1 (pQ U s.1 p)
        · rw [if_pos w, w.1, w.2, dm_up1]
        · rw [if_neg w]
          by_cases w1 : c' = pQ U s.1 p
          · rw [w1, xu_1] at hj'
            rw [dm_up2 (by omega)]
            exact y3 j (by rw [w1]; omega)
          · rw [xu_2 w1] at hj'
            rw [dm_up2 (by omega)]
            exact y3 j hj'
  · have z' : ¬ U p 1 (pE U s.1 p) = 0 := z
    have hq := (by rcases hC.2 with q | q; exact absurd q z'; exact q : s.2.2.1 (pG U s.1 p) < s.2.1 (pG U s.1 p) ∧ s.2.2.2 (pG U s.1 p) (s.2.2.1 (pG U s.1 p)) = U p 4 (pE U s.1 p))
    (repeat (first | refine And.intro ⟨by (try dsimp only); omega, by (try dsimp only); omega⟩ ?_ | refine And.intro (Or.inl rfl) ?_ | refine And.intro (Or.inr rfl) ?_))
    rw [ea, a3]
    refine And.intro ⟨by omega, by omega⟩ ?_
    show dt_r (4 * U p 3 (pE U s.1 p) + (p : Int)) ∧ _
    rw [g3']
    (repeat (first | refine And.intro ⟨by (try dsimp only); omega, by (try dsimp only); omega⟩ ?_ | refine And.intro (Or.inl rfl) ?_ | refine And.intro (Or.inr rfl) ?_))
    rw [eg, x2]
    (repeat (first | refine And.intro ⟨by (try dsimp only); omega, by (try dsimp only); omega⟩ ?_ | refine And.intro (Or.inl rfl) ?_ | refine And.intro (Or.inr rfl) ?_))
    intro N3 hN3
    have hN3' : N3 = dt_wi M1 83 (pG U s.1 p) ((s.2.2.1 (pG U s.1 p) : Int) + 1) := by first | exact hN3 | (rw [hN3, eg])
    have n62 : N3.1 62 = M1.1 62 := by rw [hN3', dm_wi2 (by decide)]
    have n32 : N3.1 62 32 = (k : Int) := by rw [n62]; exact h32
    refine And.intro (show 0 ≤ N3.1 62 32 ∧ N3.1 62 32 < 80 by rw [n32]; exact ⟨by omega, by omega⟩) ?_
    intro P1 hP1
    have hP1' : P1 = dt_wi N3 85 k (20 * (ch m p : Int) + (pE U s.1 p : Int)) := by
      have : P1 = dt_wi N3 85 (N3.1 62 32).toNat (20 * (ch m p : Int) + (pE U s.1 p : Int)) := hP1
      rw [this, n32, ek]
    have p32 : P1.1 62 32 = (k : Int) := by rw [hP1', dm_wi2 (by decide)]; exact n32
    refine And.intro (show dt_r (P1.1 62 32 + 1) by rw [p32]; exact ⟨by omega, by omega⟩) ?_
    intro P2 hP2
    have hP2' : P2 = dt_wi P1 62 32 ((k : Int) + 1) := by
      have : P2 = dt_wi P1 62 32 (P1.1 62 32 + 1) := hP2
      rw [this, p32]
    have p84 : P2.1 84 p = (s.1 p : Int) := by rw [hP2', dm_wi2 (by decide), hP1', dm_wi2 (by decide), hN3', dm_wi2 (by decide)]; exact hX.1 p hp
    (repeat (first | refine And.intro ⟨by (try dsimp only); omega, by (try dsimp only); omega⟩ ?_ | refine And.intro (Or.inl rfl) ?_ | refine And.intro (Or.inr rfl) ?_))
    rw [ep, p84]
    (repeat (first | refine And.intro ⟨by (try dsimp only); omega, by (try dsimp only); omega⟩ ?_ | refine And.intro (Or.inl rfl) ?_ | refine And.intro (Or.inr rfl) ?_))
    intro P3 hP3
    have hP3' : P3 = dt_wi P2 84 p ((s.1 p : Int) + 1) := by first | exact hP3 | (rw [hP3, ep])
    refine fin N3 ?_ ?_ ?_ n32 ?_ (fun c' hc' => ?_) P1 hP1' P2 hP2' P3 hP3'
    · rw [hN3']; exact gfr_a (by decide)
    · rw [hN3', dm_wi2 (by decide)]
    · rw [hN3', dm_wi2 (by decide)]
    · rw [n62, if_neg z', h33]; omega
    · have e82 : N3.1 82 = M1.1 82 := by rw [hN3', dm_wi2 (by decide)]
      have e83 : N3.1 83 = dt_up (M1.1 83) (pG U s.1 p) ((s.2.2.1 (pG U s.1 p) : Int) + 1) := by rw [hN3', dm_wi1]
      have e81 : N3.1 81 = M1.1 81 := by rw [hN3', dm_wi2 (by decide)]
      obtain ⟨y1, y2, y3⟩ := hX.2 c' hc'
      unfold pS
      rw [if_neg z', e82, e83, e81]
      refine ⟨y1, ?_, y3⟩
      show _ = ((xu s.2.2.1 (pG U s.1 p) (s.2.2.1 (pG U s.1 p) + 1) c' : Nat) : Int)
      by_cases w : c' = pG U s.1 p
      · rw [w, dm_up1, xu_1]; rfl
      · rw [dm_up2 w, xu_2 w]; exact y2
