/-! ===== the Model: keep, behind ===== -/
/-- nothing has changed but the Model's talk i -/
def kfr (M M' : dt_M) (i : Nat) : Prop := (∀ a, (a < 63 ∨ 70 < a) → M'.1 a = M.1 a) ∧ M'.2 = M.2 ∧ (∀ x, x ≠ i → M'.1 63 x = M.1 63 x) ∧ (∀ g, 64 ≤ g → g ≤ 68 → ∀ x, (x < 20 * i ∨ 20 * i + 20 ≤ x) → M'.1 g x = M.1 g x) ∧ (∀ x, (x < 4 * i ∨ 4 * i + 4 ≤ x) → M'.1 69 x = M.1 69 x) ∧ ∀ x, (x < 80 * i ∨ 80 * i + 80 ≤ x) → M'.1 70 x = M.1 70 x
theorem kfr.rf {M : dt_M} {i : Nat} : kfr M M i := ⟨fun _ _ => rfl, rfl, fun _ _ => rfl, fun _ _ _ _ _ => rfl, fun _ _ => rfl, fun _ _ => rfl⟩
theorem kfr.tr {M M1 M2 : dt_M} {i : Nat} (h : kfr M M1 i) (k : kfr M1 M2 i) : kfr M M2 i :=
  ⟨fun a x => (k.1 a x).trans (h.1 a x), k.2.1.trans h.2.1, fun x y => (k.2.2.1 x y).trans (h.2.2.1 x y), fun g a b x y => (k.2.2.2.1 g a b x y).trans (h.2.2.2.1 g a b x y), fun x y => (k.2.2.2.2.1 x y).trans (h.2.2.2.2.1 x y), fun x y => (k.2.2.2.2.2 x y).trans (h.2.2.2.2.2 x y)⟩
theorem kfr_w {M : dt_M} {i a j : Nat} {x : Int} (h : (a = 63 ∧ j = i) ∨ ((64 ≤ a ∧ a ≤ 68) ∧ 20 * i ≤ j ∧ j < 20 * i + 20) ∨ (a = 69 ∧ 4 * i ≤ j ∧ j < 4 * i + 4) ∨ (a = 70 ∧ 80 * i ≤ j ∧ j < 80 * i + 80)) : kfr M (dt_wi M a j x) i := by
  have key : ∀ b y, (b = a → y ≠ j) → (dt_wi M a j x).1 b y = M.1 b y := by
    intro b y hb
    by_cases e : b = a
    · subst e; rw [dm_wi1, dm_up2 (hb rfl)]
    · rw [dm_wi2 e]
  refine ⟨fun b hb => dm_wi2 (by omega), rfl, fun y hy => key 63 y (fun _ => by omega), fun g h1 h2 y hy => key g y (fun _ => by omega), fun y hy => key 69 y (fun _ => by omega), fun y hy => key 70 y (fun _ => by omega)⟩
theorem rp_kfr {M M' : dt_M} {i j n s : Nat} {T : Nat → Nat → Int} (h : rp M j T n) (hB : tB T n s) (hf : kfr M M' i) (hij : j ≠ i) : rp M' j T n := by
  have hn : n ≤ 20 := by have := hB.1; omega
  obtain ⟨h1, h2, h3, h4⟩ := h
  obtain ⟨-, -, f3, f4, f5, f6⟩ := hf
  refine ⟨by rw [f3 j hij]; exact h1, fun x hx => ?_, fun p hp => ?_, fun p hp x hx => ?_⟩
  · rw [f4 64 (by omega) (by omega) _ (by omega), f4 65 (by omega) (by omega) _ (by omega), f4 66 (by omega) (by omega) _ (by omega), f4 67 (by omega) (by omega) _ (by omega), f4 68 (by omega) (by omega) _ (by omega)]
    exact h2 x hx
  · rw [f5 _ (by omega)]; exact h3 p hp
  · have := tB_line hB hp
    rw [f6 _ (by omega)]; exact h4 p hp x hx
/-- how far the keeping has come: e events are laid down, in the lines those that are below e -/
def kst (N : dt_M) (i e : Nat) (T : Nat → Nat → Int) : Prop :=
  (∀ j, j < e → N.1 64 (20 * i + j) = T 1 j ∧ N.1 65 (20 * i + j) = T 2 j ∧ N.1 66 (20 * i + j) = T 3 j ∧ N.1 67 (20 * i + j) = T 4 j ∧ N.1 68 (20 * i + j) = T 5 j) ∧
  ∀ p : Nat, p < 4 → ∃ c : Nat, N.1 69 (4 * i + p) = (c : Int) ∧ (c : Int) ≤ T 6 p ∧ (∀ x : Nat, (x : Int) < T 6 p → (T 7 (p * 10 + x) < (e : Int) ↔ x < c)) ∧ ∀ x : Nat, x < c → N.1 70 (20 * (4 * i + p) + x) = T 7 (p * 10 + x)
theorem k_keep (d i n s : Nat) (M : dt_M) (T : Nat → Nat → Int) (hi : i < 4) (hT : tV T n s) (hr : rn M T n s) : dt_Sp mX7_keep d [qM, .inl i] M (fun rv M' => rv = some (.inl n) ∧ kfr M M' i ∧ rp M' i T n) := by
  have hB := hT.1
  have hn : n ≤ 20 := by have := hB.1; omega
  have ei : (i : Int).toNat = i := by omega
  refine dt_meth okX7_keep (fun pc => pc == 12 || pc == 36) 150 (σ := Bool × Nat × dt_M) (fun t => cond t.1 36 12) (fun t => [some qM, some (.inl i), some (.inl t.2.1), none, none]) (fun t => t.2.2) (fun t => kfr M t.2.2 i ∧ t.2.2.1 63 i = (n : Int) ∧ ((t.1 = false ∧ t.2.1 ≤ 4 ∧ ∀ p, p < t.2.1 → t.2.2.1 69 (4 * i + p) = 0) ∨ (t.1 = true ∧ t.2.1 ≤ n ∧ kst t.2.2 i t.2.1 T))) (fun t => (cond t.1 0 100) + 30 - t.2.1) (by decide) (Nat.le_of_ble_eq_true rfl) ?_ ?_
  · intro J hJ
    refine And.intro ⟨by omega, by omega⟩ ?_
    intro M1 h1
    refine hJ (false, 0, M1) _ ⟨?_, ?_, Or.inl ⟨rfl, by (try dsimp only); omega, fun p hp => absurd hp (Nat.not_lt_zero p)⟩⟩ ⟨rfl, rfl, rfl, trivial⟩
    · subst h1; exact kfr_w (Or.inl ⟨rfl, ei⟩)
    · subst h1
      show (dt_wi M 63 (i : Int).toNat (M.1 62 10)).1 63 i = _
      rw [ei, dm_wi1, dm_up1, hr.1.1]
  · rintro ⟨b, e, N⟩ ⟨g1, g2, (⟨rfl, h1, h2⟩ | ⟨rfl, h1, h2⟩)⟩ J hJ
    · dsimp only at g1 g2 h1 h2 hJ
      refine And.intro (fun h => ?_) (fun h => ?_)
      · have he : e = 4 := by (try dsimp only at h); omega
        subst he
        refine hJ (true, 0, N) _ ⟨g1, g2, Or.inr ⟨rfl, by (try dsimp only); omega, fun j hj => absurd hj (Nat.not_lt_zero j), fun p hp => ⟨0, h2 p hp, (tB_line hB hp).1, fun x hx => ?_, fun x hx => absurd hx (Nat.not_lt_zero x)⟩⟩⟩ (by dsimp only [cond]; omega) ⟨rfl, rfl, rfl, trivial⟩
        have := (tB_at hB hp hx).1
        dsimp only
        omega
      · have he : e < 4 := by (try dsimp only at h); omega
        have ea : (4 * (i : Int) + (e : Int)).toNat = 4 * i + e := by omega
        refine And.intro ⟨by (try dsimp only); omega, by (try dsimp only); omega⟩ (And.intro ⟨by (try dsimp only); omega, by (try dsimp only); omega⟩ (And.intro ⟨by (try dsimp only); omega, by (try dsimp only); omega⟩ ?_))
        intro M1 hM1
        dsimp only at hM1
        rw [ea] at hM1
        refine And.intro ⟨by (try dsimp only); omega, by (try dsimp only); omega⟩ (hJ (false, e + 1, M1) _ ⟨?_, ?_, Or.inl ⟨rfl, by (try dsimp only); omega, fun p hp => ?_⟩⟩ (by dsimp only [cond]; omega) ⟨rfl, rfl, rfl, trivial⟩)
        · subst hM1; exact g1.tr (kfr_w (Or.inr (Or.inr (Or.inl ⟨rfl, by omega, by omega⟩))))
        · subst hM1; show (dt_wi N 69 _ 0).1 63 i = _; rw [dm_wi2 (by decide)]; exact g2
        · subst hM1
          show (dt_wi N 69 _ 0).1 69 (4 * i + p) = 0
          dsimp only at hp
          by_cases hpe : p = e
          · subst hpe; rw [dm_wi1, dm_up1]
          · rw [dm_wi1, dm_up2 (by omega)]; exact h2 p (by omega)
    · dsimp only at g1 g2 h1 h2 hJ
      have e10 : N.1 62 10 = (n : Int) := by rw [g1.1 62 (by omega)]; exact hr.1.1
      refine And.intro (fun h => ?_) (fun h => ?_)
      · have he : e = n := by
          have : N.1 62 10 ≤ (e : Int) := h
          omega
        subst he
        refine ⟨congrArg (fun z => some (Sum.inl z)) e10, g1, g2, h2.1, fun p hp => ?_, fun p hp x hx => ?_⟩
        · obtain ⟨c, c1, c2, c3, c4⟩ := h2.2 p hp
          rw [c1]
          have hl := tB_line hB hp
          by_cases hc : (c : Int) < T 6 p
          · have := (c3 c hc).mp (tB_at hB hp hc).2.1
            omega
          · omega
        · obtain ⟨c, c1, c2, c3, c4⟩ := h2.2 p hp
          exact c4 x ((c3 x hx).mp (tB_at hB hp hx).2.1)
      · have he : e < n := by
          have : (e : Int) < N.1 62 10 := h
          omega
        have hev := hB.2.1 e he
        obtain ⟨q1, q2, q3, q4, q5⟩ := hr.2 e he
        have hm5 : T 5 e ≠ -1 := by
          rcases hev.1 with z | z
          · obtain ⟨m, a, -⟩ := tV_mate hT he z; omega
          · obtain ⟨m, a, -⟩ := hB.2.2.1 e he z; omega
        rw [if_neg hm5] at q5
        have row : ∀ a, 72 ≤ a → N.1 a = M.1 a := fun a ha => g1.1 a (by omega)
        have ea : (20 * (i : Int) + (e : Int)).toNat = 20 * i + e := by omega
        have ee : (e : Int).toNat = e := by omega
        obtain ⟨p, hp⟩ : ∃ p : Nat, T 2 e = (p : Int) := ⟨(T 2 e).toNat, by have := hev.2.1; omega⟩
        have hp4 : p < 4 := by have := hev.2.1; omega
        have hl := tB_line hB hp4
        obtain ⟨c, c1, c2, c3, c4⟩ := h2.2 p hp4
        obtain ⟨x, x1, x2⟩ := hB.2.2.2.2.2.2.2.1 e he
        rw [hp, show ((p : Int)).toNat = p by omega] at x1 x2
        have hxc : x = c := by
          have a := c3 x x1
          rw [x2] at a
          by_cases hcx : c < x
          · have b := hB.2.2.2.2.2.2.1 p hp4 c x hcx x1
            rw [x2] at b
            have := (c3 c (by omega)).mp b
            omega
          · have : ¬ x < c := fun z => by have := a.mpr z; omega
            omega
        subst hxc
        refine And.intro ⟨by (try dsimp only); omega, by (try dsimp only); omega⟩ (And.intro ⟨by (try dsimp only); omega, by (try dsimp only); omega⟩ ?_)
        refine And.intro ⟨by (try dsimp only); omega, by (try dsimp only); omega⟩ (And.intro ⟨by (try dsimp only); omega, by (try dsimp only); omega⟩ ?_)
        dsimp only
        rw [ee, ea, row 72 (by omega), q1]
        refine And.intro hev.1 ?_
        intro M1 hM1
        have r1 : ∀ a, a ≠ 64 → M1.1 a = N.1 a := fun a ha => by rw [hM1, dm_wi2 ha]
        refine And.intro ⟨by omega, by omega⟩ (And.intro ⟨by omega, by omega⟩ ?_)
        rw [ee, ea, r1 73 (by decide), row 73 (by omega), q2]
        intro M2 hM2
        have r2 : ∀ a, a ≠ 64 → a ≠ 65 → M2.1 a = N.1 a := fun a ha hb => by rw [hM2, dm_wi2 hb, r1 a ha]
        refine And.intro ⟨by omega, by omega⟩ (And.intro ⟨by omega, by omega⟩ ?_)
        rw [ee, ea, r2 74 (by decide) (by decide), row 74 (by omega), q3]
        intro M3 hM3
        have r3 : ∀ a, a ≠ 64 → a ≠ 65 → a ≠ 66 → M3.1 a = N.1 a := fun a ha hb hc => by rw [hM3, dm_wi2 hc, r2 a ha hb]
        refine And.intro ⟨by omega, by omega⟩ (And.intro ⟨by omega, by omega⟩ ?_)
        rw [ee, ea, r3 75 (by decide) (by decide) (by decide), row 75 (by omega), q4]
        intro M4 hM4
        have r4 : ∀ a, a ≠ 64 → a ≠ 65 → a ≠ 66 → a ≠ 67 → M4.1 a = N.1 a := fun a ha hb hc hd => by rw [hM4, dm_wi2 hd, r3 a ha hb hc]
        refine And.intro ⟨by omega, by omega⟩ (And.intro ⟨by omega, by omega⟩ ?_)
        rw [ee, ea, r4 76 (by decide) (by decide) (by decide) (by decide), row 76 (by omega), q5]
        intro M5 hM5
        have r5 : ∀ a, (a < 64 ∨ 68 < a) → M5.1 a = N.1 a := fun a ha => by rw [hM5, dm_wi2 (by omega), r4 a (by omega) (by omega) (by omega) (by omega)]
        refine And.intro ⟨by omega, by omega⟩ (And.intro ⟨by omega, by omega⟩ ?_)
        rw [ee, r5 73 (by omega), row 73 (by omega), q2, hp]
        have eb : (4 * (i : Int) + (p : Int)).toNat = 4 * i + p := by omega
        refine And.intro ⟨by omega, by omega⟩ (And.intro ⟨by omega, by omega⟩ (And.intro ⟨by omega, by omega⟩ ?_))
        rw [eb, r5 69 (by omega), c1]
        have ec : (20 * (4 * (i : Int) + (p : Int)) + (x : Int)).toNat = 20 * (4 * i + p) + x := by omega
        refine And.intro ⟨by omega, by omega⟩ (And.intro ⟨by omega, by omega⟩ ?_)
        rw [ec]
        intro M6 hM6
        have r6 : M6.1 69 = N.1 69 := by rw [hM6, dm_wi2 (by decide), r5 69 (by omega)]
        refine And.intro ⟨by omega, by omega⟩ ?_
        rw [eb, r6, c1]
        refine And.intro ⟨by omega, by omega⟩ (And.intro ⟨by omega, by omega⟩ ?_)
        intro M7 hM7
        rw [eb] at hM7
        refine And.intro ⟨by omega, by omega⟩ (hJ (true, e + 1, M7) _ ⟨?_, ?_, Or.inr ⟨rfl, by (try dsimp only); omega, ?_, ?_⟩⟩ (by dsimp only [cond]; omega) ⟨rfl, rfl, rfl, trivial⟩)
        · have k1 : kfr N M1 i := by rw [hM1]; exact kfr_w (Or.inr (Or.inl ⟨by omega, by omega, by omega⟩))
          have k2 : kfr M1 M2 i := by rw [hM2]; exact kfr_w (Or.inr (Or.inl ⟨by omega, by omega, by omega⟩))
          have k3 : kfr M2 M3 i := by rw [hM3]; exact kfr_w (Or.inr (Or.inl ⟨by omega, by omega, by omega⟩))
          have k4 : kfr M3 M4 i := by rw [hM4]; exact kfr_w (Or.inr (Or.inl ⟨by omega, by omega, by omega⟩))
          have k5 : kfr M4 M5 i := by rw [hM5]; exact kfr_w (Or.inr (Or.inl ⟨by omega, by omega, by omega⟩))
          have k6 : kfr M5 M6 i := by rw [hM6]; exact kfr_w (Or.inr (Or.inr (Or.inr ⟨rfl, by omega, by omega⟩)))
          have k7 : kfr M6 M7 i := by rw [hM7]; exact kfr_w (Or.inr (Or.inr (Or.inl ⟨rfl, by omega, by omega⟩)))
          exact ((((((g1.tr k1).tr k2).tr k3).tr k4).tr k5).tr k6).tr k7
        · show M7.1 63 i = _
          rw [hM7, dm_wi2 (by decide), hM6, dm_wi2 (by decide), r5 63 (by omega)]; exact g2
        · intro j hj
          dsimp only at hj ⊢
          have b64 : M7.1 64 = dt_up (N.1 64) (20 * i + e) (T 1 e) := by rw [hM7, dm_wi2 (by decide), hM6, dm_wi2 (by decide), hM5, dm_wi2 (by decide), hM4, dm_wi2 (by decide), hM3, dm_wi2 (by decide), hM2, dm_wi2 (by decide), hM1, dm_wi1]
          have b65 : M7.1 65 = dt_up (N.1 65) (20 * i + e) (T 2 e) := by rw [hM7, dm_wi2 (by decide), hM6, dm_wi2 (by decide), hM5, dm_wi2 (by decide), hM4, dm_wi2 (by decide), hM3, dm_wi2 (by decide), hM2, dm_wi1, hM1, dm_wi2 (by decide)]
          have b66 : M7.1 66 = dt_up (N.1 66) (20 * i + e) (T 3 e) := by rw [hM7, dm_wi2 (by decide), hM6, dm_wi2 (by decide), hM5, dm_wi2 (by decide), hM4, dm_wi2 (by decide), hM3, dm_wi1, hM2, dm_wi2 (by decide), hM1, dm_wi2 (by decide)]
          have b67 : M7.1 67 = dt_up (N.1 67) (20 * i + e) (T 4 e) := by rw [hM7, dm_wi2 (by decide), hM6, dm_wi2 (by decide), hM5, dm_wi2 (by decide), hM4, dm_wi1, hM3, dm_wi2 (by decide), hM2, dm_wi2 (by decide), hM1, dm_wi2 (by decide)]
          have b68 : M7.1 68 = dt_up (N.1 68) (20 * i + e) (T 5 e) := by rw [hM7, dm_wi2 (by decide), hM6, dm_wi2 (by decide), hM5, dm_wi1, hM4, dm_wi2 (by decide), hM3, dm_wi2 (by decide), hM2, dm_wi2 (by decide), hM1, dm_wi2 (by decide)]
          rw [b64, b65, b66, b67, b68]
          by_cases hje : j = e
          · subst hje
            rw [dm_up1, dm_up1, dm_up1, dm_up1, dm_up1]
            exact ⟨rfl, rfl, rfl, rfl, rfl⟩
          · rw [dm_up2 (by omega), dm_up2 (by omega), dm_up2 (by omega), dm_up2 (by omega), dm_up2 (by omega)]
            exact h2.1 j (by omega)
        · intro p' hp'
          dsimp only
          have b69 : M7.1 69 = dt_up (N.1 69) (4 * i + p) ((x : Int) + 1) := by rw [hM7, dm_wi1, r6]
          have b70 : M7.1 70 = dt_up (N.1 70) (20 * (4 * i + p) + x) (e : Int) := by rw [hM7, dm_wi2 (by decide), hM6, dm_wi1, r5 70 (by omega)]
          by_cases hpp : p' = p
          · subst hpp
            refine ⟨x + 1, ?_, by omega, fun y hy => ?_, fun y hy => ?_⟩
            · rw [b69, dm_up1]; rfl
            · have a := c3 y hy
              have ha := tB_at hB hp' hy
              constructor
              · intro z
                by_cases hz : T 7 (p' * 10 + y) < (e : Int)
                · have := a.mp hz; omega
                · have hz2 : T 7 (p' * 10 + y) = (e : Int) := by omega
                  by_cases hyx : y = x
                  · omega
                  · exfalso
                    rcases Nat.lt_or_ge y x with w | w
                    · have := hB.2.2.2.2.2.2.1 p' hp' y x w x1
                      omega
                    · have := hB.2.2.2.2.2.2.1 p' hp' x y (by omega) hy
                      omega
              · intro z
                by_cases hyx : y = x
                · subst hyx; rw [x2]; omega
                · have := a.mpr (by omega); omega
            · rw [b70]
              by_cases hyx : y = x
              · subst hyx; rw [dm_up1, x2]
              · rw [dm_up2 (by omega)]; exact c4 y (by omega)
          · obtain ⟨c', d1, d2, d3, d4⟩ := h2.2 p' hp'
            have hl' := tB_line hB hp'
            refine ⟨c', ?_, d2, fun y hy => ?_, fun y hy => ?_⟩
            · rw [b69, dm_up2 (by omega)]; exact d1
            · rw [← d3 y hy]
              have ha := tB_at hB hp' hy
              constructor
              · intro z
                by_cases hz : T 7 (p' * 10 + y) < (e : Int)
                · exact hz
                · exfalso
                  have hz2 : T 7 (p' * 10 + y) = (e : Int) := by omega
                  have h3 := ha.2.2.2
                  rw [hz2, show ((e : Int)).toNat = e by omega, hp] at h3
                  omega
              · intro z; omega
            · rw [b70, dm_up2 (by omega)]; exact d4 y hy
theorem k_behind (d : Nat) (i j t : Int) (M : dt_M) (T : Nat → Nat → Nat → Int) (hV : mV M T) : dt_Sp mX7_behind (d + 2) [qM, .inl i, .inl j, .inl t] M (fun r M' =>
    (¬ ((0 ≤ i ∧ i < 4) ∧ (0 ≤ j ∧ j < 4) ∧ (0 ≤ t ∧ t < 4)) ∧ r = some (.inl (-1)) ∧ M' = M) ∨
    ((0 ≤ i ∧ i < 4) ∧ (0 ≤ j ∧ j < 4) ∧ (0 ≤ t ∧ t < 4) ∧ 10 < T i.toNat 0 8 + T j.toNat 0 8 ∧ r = some (.inl (-3)) ∧ M' = M) ∨
    ((0 ≤ i ∧ i < 4) ∧ (0 ≤ j ∧ j < 4) ∧ (0 ≤ t ∧ t < 4) ∧ ∃ M1 n s m q, ∀ E, tk_0 E → tV (T i.toNat) n s ∧ tV (T j.toNat) m q ∧ s + q ≤ 10 ∧ r = some (.inl ((n + m : Nat) : Int)) ∧ nfr M M1 ∧ kfr M1 M' t.toNat ∧ rp M' t.toNat (tk_bh E (T i.toNat) (T j.toNat) n m) (n + m))) := by
  refine dt_flat okX7_behind 80 (by decide) (Nat.le_of_ble_eq_true rfl) (fun J => ?_)
  refine Exists.intro _ (And.intro (c_noTalk _ i M) ?_)
  rintro r M0 ⟨rfl, rfl⟩
  by_cases hi : 0 ≤ i ∧ i < 4
  · rw [if_pos hi]
    refine And.intro (fun h => absurd (show (0 : Int) = 0 from rfl) h) (fun _ => ?_)
    refine Exists.intro _ (And.intro (c_noTalk _ j M0) ?_)
    rintro r M1 ⟨rfl, rfl⟩
    by_cases hj : 0 ≤ j ∧ j < 4
    · rw [if_pos hj]
      refine And.intro (fun h => absurd (show (0 : Int) = 0 from rfl) h) (fun _ => ?_)
      refine Exists.intro _ (And.intro (c_noTalk _ t M1) ?_)
      rintro r M2 ⟨rfl, rfl⟩
      by_cases ht : 0 ≤ t ∧ t < 4
      · rw [if_pos ht]
        refine And.intro (fun _ => ?_) (fun h => absurd (show (0 : Int) = 0 from rfl) h)
        obtain ⟨n, s, v1, p1⟩ := hV i.toNat (by omega)
        obtain ⟨m, q, v2, p2⟩ := hV j.toNat (by omega)
        have e1 := p1.1
        have e2 := p2.1
        have n1 := v1.2.2
        have n2 := v2.2.2
        have s10 := v1.1.1.2.2.1
        have q10 := v2.1.1.2.2.1
        have f1 : T i.toNat 0 8 = (s : Int) := v1.1.1.2.1
        have f2 : T j.toNat 0 8 = (q : Int) := v2.1.1.2.1
        refine And.intro ⟨by omega, by omega⟩ (And.intro ⟨by omega, by omega⟩ ?_)
        rw [e1, e2]
        refine And.intro ⟨by omega, by omega⟩ (And.intro (fun h => ?_) (fun h => ?_))
        · have hsq : s + q ≤ 10 := by omega
          refine Exists.intro _ (And.intro (k_beginTalk _ M2) ?_)
          rintro r M3 ⟨rfl, g1, g2, g3, g4⟩
          have ei : ((i.toNat : Nat) : Int) = i := by omega
          have ej : ((j.toNat : Nat) : Int) = j := by omega
          have et : ((t.toNat : Nat) : Int) = t := by omega
          have fr3 : rfr M2 M3 := fun a x y => g1.1 a (by omega) (by omega)
          obtain ⟨F, hF⟩ : ∃ F : Nat → Nat → Int, tk_0 F := ⟨fun _ _ => 0, rfl, rfl, fun _ _ => rfl⟩
          have h4 := k_addTalk d i.toNat n s 0 0 M3 (T i.toNat) F (by omega) v1.1 (tk_0B hF) (by omega) (rp_fr p1 fr3) (rn_0 g2 g3 g4)
          rw [ei] at h4
          refine Exists.intro _ (And.intro h4 ?_)
          rintro r M4 ⟨rfl, l1, l2⟩
          rw [Nat.zero_add, Nat.zero_add] at l2
          have fr4 : rfr M2 M4 := fun a x y => ((g1.tr l1).1 a (by omega) (by omega))
          have h5 := k_addTalk d j.toNat m q n s M4 (T j.toNat) (tk_all F (T i.toNat) n) (by omega) v2.1 (bh_tV hF v1 v2 hsq).2 hsq (rp_fr p2 fr4) l2
          rw [ej] at h5
          refine Exists.intro _ (And.intro h5 ?_)
          rintro r M5 ⟨rfl, o1, o2⟩
          have h6 := k_keep (d + 1) t.toNat (n + m) (s + q) M5 (tk_bh F (T i.toNat) (T j.toNat) n m) (by omega) (bh_tV hF v1 v2 hsq).1 o2
          rw [et] at h6
          refine Exists.intro _ (And.intro h6 ?_)
          rintro r M6 ⟨rfl, u1, u2⟩
          refine Or.inr (Or.inr ⟨hi, hj, ht, M5, n, s, m, q, fun E hE => ⟨v1, v2, hsq, rfl, (g1.tr l1).tr o1, u1, rp_eq u2 (bh_eq hE hF v1 v2 hsq)⟩⟩)
        · exact Or.inr (Or.inl ⟨hi, hj, ht, by omega, rfl, rfl⟩)
      · rw [if_neg ht]
        refine And.intro (fun h => absurd (show (1 : Int) = 0 from h) (by decide)) (fun _ => ?_)
        exact Or.inl ⟨fun q => ht q.2.2, rfl, rfl⟩
    · rw [if_neg hj]
      refine And.intro (fun _ => ?_) (fun h => absurd (show (1 : Int) = 0 from h) (by decide))
      exact Or.inl ⟨fun q => hj q.2.1, rfl, rfl⟩
  · rw [if_neg hi]
    refine And.intro (fun _ => ?_) (fun h => absurd (show (1 : Int) = 0 from h) (by decide))
    exact Or.inl ⟨fun q => hi q.1, rfl, rfl⟩
