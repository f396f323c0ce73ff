/-! ===== the Model: drawn and kept ===== -/
theorem ct_sub {P R : Nat → Bool} : ∀ {n : Nat}, (∀ j, j < n → P j = true → R j = true) → dt_ct P n ≤ dt_ct R n
  | 0, _ => Nat.le_refl _
  | n + 1, h => by
    show dt_ct P n + _ ≤ dt_ct R n + _
    have h1 := ct_sub (P := P) (R := R) (n := n) (fun j hj => h j (by omega))
    have h2 := h n (by omega)
    cases hp : P n with
    | true => rw [h2 hp]; omega
    | false => simp; omega
theorem k_layDrawn (d i n s : Nat) (M : dt_M) (T : Nat → Nat → Int) (hi : i < 4) (hV : tV T n s) (rT : rp M i T n) : dt_Sp mX7_layDrawn (d + 1) [qM, .inl i] M (fun r M' => r = none ∧ afr M M' ∧ a01 M' ∧ ∀ a b, a < n → b < n → (aB M' a b ↔ KR T n 3 a b)) := by
  have hn : n ≤ 20 := by have := hV.1.1; omega
  have e0 : (i : Int).toNat = i := by omega
  refine dt_meth okX7_layDrawn (fun pc => pc == 11 || pc == 25) 90 (σ := Nat × Nat × Nat × dt_M) (fun t => h3 t.1 11 25 25) (fun t => [some qM, some (.inl i), some (.inl t.2.1), h3 t.1 none (some (.inl t.2.2.1)) (some (.inl t.2.2.1))]) (fun t => t.2.2.2)
    (fun t => afr M t.2.2.2 ∧ a01 t.2.2.2 ∧ t.1 < 2 ∧ (t.1 = 0 → t.2.1 ≤ n ∧ t.2.2.1 = 0) ∧ (t.1 = 1 → t.2.1 < n ∧ t.2.2.1 ≤ n ∧ t.2.1 < t.2.2.1) ∧ ∀ a b, a < n → b < n → (aB t.2.2.2 a b ↔ ((T 1 a = 0 ∧ T 5 a = (b : Int)) ∨ (a < b ∧ T 2 a = T 2 b ∧ (a < t.2.1 ∨ (a = t.2.1 ∧ b < t.2.2.1))))))
    (fun t => (n - t.2.1) * 50 + h3 t.1 49 (n - t.2.2.1) 0) (by decide) (Nat.le_of_ble_eq_true rfl) ?_ ?_
  · intro J hJ
    refine Exists.intro _ (And.intro (k_clearAhead _ M) ?_)
    rintro r M0 ⟨rfl, f1, g1, c1⟩
    refine Exists.intro _ (And.intro (k_layMates _ i n s M0 T hi hV (f1.rp rT) g1) ?_)
    rintro r M1 ⟨rfl, f2, g2, c2⟩
    refine hJ (0, 0, 0, M1) _ ⟨f1.tr f2, g2, (by dsimp only; omega), fun _ => ⟨Nat.zero_le _, rfl⟩, fun q => (by cases q), fun a b ha hb => ?_⟩ ⟨rfl, rfl, rfl, trivial⟩
    dsimp only
    rw [c2 a b (by omega) (by omega)]
    constructor
    · rintro (q | q)
      · exact absurd q (c1 a b (by omega) (by omega))
      · exact Or.inl q.2
    · rintro (q | q)
      · exact Or.inr ⟨ha, q⟩
      · omega
  · rintro ⟨hd, e, f, N⟩ ⟨h1, h2, h3', i0, i1, b1⟩ J hJ
    dsimp only at h1 h2 h3' i0 i1 b1 hJ
    have rN := h1.rp rT
    match hd, h3', i0, i1 with
    | 0, _, i0, _ =>
      obtain ⟨k1, rfl⟩ := i0 rfl
      (repeat (first | refine And.intro ⟨by (try dsimp only); omega, by (try dsimp only); omega⟩ ?_ | refine And.intro (Or.inl rfl) ?_ | refine And.intro (Or.inr rfl) ?_))
      dsimp only
      rw [e0, rN.1]
      refine And.intro (fun h => ?_) (fun h => ?_)
      · have : e = n := by omega
        subst this
        (repeat (first | refine And.intro ⟨by (try dsimp only); omega, by (try dsimp only); omega⟩ ?_ | refine And.intro (Or.inl rfl) ?_ | refine And.intro (Or.inr rfl) ?_))
        dsimp only
        rw [e0, rN.1]
        refine Exists.intro _ (And.intro (k_closeAhead _ e N hn h2) ?_)
        rintro r M0 ⟨rfl, f1, g1, c1, c2, c3, c4⟩
        refine ⟨rfl, h1.tr f1, g1, fun a b ha hb => ⟨fun q => ?_, fun q => ?_⟩⟩
        · refine c2 (KR T e 3) KR_cl.1 (fun a b ha hb q => ?_) a b ha hb q
          rcases (b1 a b ha hb).mp q with z | z
          · exact KR_cl.2.1 a b ha z.1 z.2 hb
          · exact KR_cl.2.2.1 a b z.1 hb z.2.1 (Or.inl rfl)
        · refine (q (fun a b => a < e ∧ b < e ∧ aB M0 a b) ⟨?_, ?_, ?_, ?_, ?_⟩).2.2
          · rintro a b c ⟨q1, q2, q3⟩ ⟨q4, q5, q6⟩
            exact ⟨q1, q5, c3 a b c q1 q2 q5 q3 q6⟩
          · intro a m x1 x2 x3 x4
            exact ⟨x1, x4, c1 a m x1 x4 ((b1 a m x1 x4).mpr (Or.inl ⟨x2, x3⟩))⟩
          · intro a c x1 x2 x3 _
            exact ⟨by omega, x2, c1 a c (by omega) x2 ((b1 a c (by omega) x2).mpr (Or.inr ⟨x1, x3, Or.inl (by omega)⟩))⟩
          · intro a c _ _ _ _ _ x
            exact absurd x (by decide)
          · intro a c _ _ _ _ _ _ _ x
            exact absurd x (by decide)
      · have hh : (e : Int) < (n : Int) := h
        have he : e < n := by omega
        refine And.intro ⟨by (try dsimp only); omega, by (try dsimp only); omega⟩ (hJ (1, e, e + 1, N) _ ⟨h1, h2, by (dsimp only; omega), fun q => (by cases q), fun _ => ⟨he, by (dsimp only; omega), by (dsimp only; omega)⟩, fun a b ha hb => ?_⟩ (by dsimp only [h3]; omega) ⟨rfl, rfl, rfl, rfl, trivial⟩)
        dsimp only
        rw [b1 a b ha hb]
        constructor
        · rintro (q | q)
          · exact Or.inl q
          · exact Or.inr ⟨q.1, q.2.1, by omega⟩
        · rintro (q | q)
          · exact Or.inl q
          · exact Or.inr ⟨q.1, q.2.1, by omega⟩
    | 1, _, _, i1 =>
      obtain ⟨he, k2, k3⟩ := i1 rfl
      (repeat (first | refine And.intro ⟨by (try dsimp only); omega, by (try dsimp only); omega⟩ ?_ | refine And.intro (Or.inl rfl) ?_ | refine And.intro (Or.inr rfl) ?_))
      dsimp only
      rw [e0, rN.1]
      refine And.intro (fun h => ?_) (fun h => ?_)
      · have hh : (n : Int) ≤ (f : Int) := h
        have : f = n := by omega
        subst this
        refine And.intro ⟨by (try dsimp only); omega, by (try dsimp only); omega⟩ (hJ (0, e + 1, 0, N) _ ⟨h1, h2, by (dsimp only; omega), fun _ => ⟨by (dsimp only; omega), rfl⟩, fun q => (by cases q), fun a b ha hb => ?_⟩ (by dsimp only [h3]; omega) ⟨rfl, rfl, rfl, trivial⟩)
        dsimp only
        rw [b1 a b ha hb]
        constructor
        · rintro (q | q)
          · exact Or.inl q
          · exact Or.inr ⟨q.1, q.2.1, by omega⟩
        · rintro (q | q)
          · exact Or.inl q
          · exact Or.inr ⟨q.1, q.2.1, by omega⟩
      · have hh : (f : Int) < (n : Int) := h
        have hf : f < n := by omega
        have eI : (20 * (e : Int) + (f : Int)).toNat = 20 * e + f := by omega
        have step : ∀ (x : Int), (x = 0 ∨ x = 1) → (x = 1 ↔ (aB N e f ∨ T 2 e = T 2 f)) → ∀ M1, M1 = dt_wi N 77 (20 * e + f) x → dt_r ((f : Int) + 1) ∧ J 25 [some qM, some (.inl i), some (.inl e), some (.inl ((f : Int) + 1))] [] M1 := by
          intro x hx hx1 M1 hM1
          refine And.intro ⟨by (try dsimp only); omega, by (try dsimp only); omega⟩ (hJ (1, e, f + 1, M1) _ ⟨?_, ?_, by (dsimp only; omega), fun q => (by cases q), fun _ => ⟨he, by (dsimp only; omega), by (dsimp only; omega)⟩, ?_⟩ (by dsimp only [h3]; omega) ⟨rfl, rfl, rfl, rfl, trivial⟩)
          · subst hM1; exact h1.tr afr_w
          · subst hM1; exact a01_w h2 hx
          · intro a b ha hb
            subst hM1
            dsimp only
            by_cases z : a = e ∧ b = f
            · obtain ⟨rfl, rfl⟩ := z
              rw [aB_w1, hx1, b1 a b ha hb]
              constructor
              · rintro ((q | q) | q)
                · exact Or.inl q
                · omega
                · exact Or.inr ⟨k3, q, by omega⟩
              · rintro (q | q)
                · exact Or.inl (Or.inl q)
                · exact Or.inr q.2.1
            · rw [aB_w2 (by omega) (by omega) z, b1 a b ha hb]
              constructor
              · rintro (q | q)
                · exact Or.inl q
                · exact Or.inr ⟨q.1, q.2.1, by omega⟩
              · rintro (q | q)
                · exact Or.inl q
                · exact Or.inr ⟨q.1, q.2.1, by omega⟩
        (repeat (first | refine And.intro ⟨by (try dsimp only); omega, by (try dsimp only); omega⟩ ?_ | refine And.intro (Or.inl rfl) ?_ | refine And.intro (Or.inr rfl) ?_))
        dsimp only
        rw [eI]
        refine And.intro (fun z1 => ?_) (fun z1 => ?_)
        · (repeat (first | refine And.intro ⟨by (try dsimp only); omega, by (try dsimp only); omega⟩ ?_ | refine And.intro (Or.inl rfl) ?_ | refine And.intro (Or.inr rfl) ?_))
          dsimp only
          rw [eI]
          have y1 : aB N e f := by
            rcases h2 e f (by omega) (by omega) with q | q
            · exact absurd q z1
            · exact q
          exact step 1 (Or.inr rfl) ⟨fun _ => Or.inl y1, fun _ => rfl⟩
        · have y1 : ¬ aB N e f := fun q => by
            have q1 : N.1 77 (20 * e + f) = 1 := q
            have q2 : N.1 77 (20 * e + f) = 0 := z1
            omega
          refine Exists.intro _ (And.intro (k_onOneLine _ i e f n s N T hi he hf hV rN) ?_)
          rintro r M0 ⟨rfl, (⟨rfl, g⟩ | ⟨rfl, g⟩)⟩
          · refine And.intro (fun q => absurd (show (1 : Int) = 0 from q) (by decide)) (fun _ => ?_)
            (repeat (first | refine And.intro ⟨by (try dsimp only); omega, by (try dsimp only); omega⟩ ?_ | refine And.intro (Or.inl rfl) ?_ | refine And.intro (Or.inr rfl) ?_))
            dsimp only
            rw [eI]
            exact step 1 (Or.inr rfl) ⟨fun _ => Or.inr g, fun _ => rfl⟩
          · refine And.intro (fun _ => ?_) (fun q => absurd (show (0 : Int) = 0 from rfl) q)
            (repeat (first | refine And.intro ⟨by (try dsimp only); omega, by (try dsimp only); omega⟩ ?_ | refine And.intro (Or.inl rfl) ?_ | refine And.intro (Or.inr rfl) ?_))
            dsimp only
            rw [eI]
            exact step 0 (Or.inl rfl) ⟨fun q => absurd q (by decide), fun q => by rcases q with q | q; exact absurd q y1; exact absurd q g⟩
    | hd + 2, h, _, _ => exact absurd h (by omega)
def kt_t (T : Nat → Nat → Int) (w : Int) (B : Nat → Nat → Prop) (e f : Nat) : Prop := (w = 1 ∧ T 3 e = T 3 f ∧ T 5 e < T 5 f) ∨ (w = 2 ∧ B (T 5 e).toNat (T 5 f).toNat)
theorem k_isKeptTake (d i n s e f : Nat) (w : Int) (M : dt_M) (T : Nat → Nat → Int) (hi : i < 4) (he : e < n) (hf : f < n) (te : T 1 e = 1) (tf : T 1 f = 1) (hV : tV T n s) (rT : rp M i T n) (h01 : a01 M) : dt_Sp mX7_isKeptTake (d + 1) [qM, .inl i, .inl w, .inl e, .inl f] M (fun r M' => M' = M ∧ ((r = some (.inl 1) ∧ kt_t T w (aB M) e f) ∨ (r = some (.inl 0) ∧ ¬ kt_t T w (aB M) e f))) := by
  have hn : n ≤ 20 := by have := hV.1.1; omega
  have e1 : (20 * (i : Int) + (e : Int)).toNat = 20 * i + e := by omega
  have f1 : (20 * (i : Int) + (f : Int)).toNat = 20 * i + f := by omega
  obtain ⟨a, a1, a2, a3, a4, a5, -⟩ := hV.1.2.2.1 e he te
  obtain ⟨b, c1, c2, c3, c4, c5, -⟩ := hV.1.2.2.1 f hf tf
  have t1 : kt_t T w (aB M) e f ↔ (w = 1 ∧ T 3 e = T 3 f ∧ (a : Int) < (b : Int)) ∨ (w = 2 ∧ aB M a b) := by
    unfold kt_t
    rw [a1, c1]
    exact Iff.rfl
  have eI : (20 * (a : Int) + (b : Int)).toNat = 20 * a + b := by omega
  refine dt_flat okX7_isKeptTake 80 (by decide) (Nat.le_of_ble_eq_true rfl) (fun J => ?_)
  (repeat (first | refine And.intro ⟨by (try dsimp only); omega, by (try dsimp only); omega⟩ ?_ | refine And.intro (Or.inl rfl) ?_ | refine And.intro (Or.inr rfl) ?_))
  rw [e1, f1, (rT.2.1 e he).2.2.2.2, (rT.2.1 f hf).2.2.2.2, a1, c1, t1]
  refine And.intro (fun h1 => ?_) (fun h1 => ?_)
  · refine And.intro (fun h2 => ⟨Or.inl rfl, rfl, Or.inr ⟨rfl, fun q => by rcases q with q | q; exact h1 q.1; exact h2 q.1⟩⟩) (fun h2 => ?_)
    (repeat (first | refine And.intro ⟨by (try dsimp only); omega, by (try dsimp only); omega⟩ ?_ | refine And.intro (Or.inl rfl) ?_ | refine And.intro (Or.inr rfl) ?_))
    dsimp only
    rw [eI]
    refine And.intro (fun h3 => ⟨Or.inl rfl, rfl, Or.inr ⟨rfl, fun q => ?_⟩⟩) (fun h3 => ⟨Or.inr rfl, rfl, Or.inl ⟨rfl, Or.inr ⟨h2, ?_⟩⟩⟩)
    · rcases q with q | q
      · exact h1 q.1
      · have q1 : M.1 77 (20 * a + b) = 1 := q.2
        have q2 : M.1 77 (20 * a + b) = 0 := h3
        omega
    · rcases h01 a b (by omega) (by omega) with q | q
      · exact absurd q h3
      · exact q
  · refine Exists.intro _ (And.intro (k_onOneLine _ i a b n s M T hi (by omega) (by omega) hV rT) ?_)
    rintro r M0 ⟨rfl, (⟨rfl, g⟩ | ⟨rfl, g⟩)⟩
    · refine And.intro (fun q => absurd (show (1 : Int) = 0 from q) (by decide)) (fun _ => ?_)
      refine And.intro (fun h2 => ⟨Or.inl rfl, rfl, Or.inr ⟨rfl, fun q => ?_⟩⟩) (fun h2 => ⟨Or.inr rfl, rfl, Or.inl ⟨rfl, Or.inl ⟨h1, by omega, by omega⟩⟩⟩)
      rcases q with q | q
      · omega
      · omega
    · refine And.intro (fun _ => ⟨Or.inl rfl, rfl, Or.inr ⟨rfl, fun q => ?_⟩⟩) (fun q => absurd (show (0 : Int) = 0 from rfl) q)
      rcases q with q | q
      · omega
      · omega
