/-! ===== the Model: its matrix of what is ahead ===== -/
/-- by heads -/
def h3 {α : Type} : Nat → α → α → α → α
  | 0, a, _, _ => a
  | 1, _, b, _ => b
  | _ + 2, _, _, c => c
/-- nothing has changed but the Model's matrix -/
def afr (M M' : dt_M) : Prop := (∀ a, a ≠ 77 → M'.1 a = M.1 a) ∧ M'.2 = M.2
theorem afr.rf {M : dt_M} : afr M M := ⟨fun _ _ => rfl, rfl⟩
theorem afr.tr {M M1 M2 : dt_M} (h : afr M M1) (k : afr M1 M2) : afr M M2 := ⟨fun a x => (k.1 a x).trans (h.1 a x), k.2.trans h.2⟩
theorem afr_w {M : dt_M} {j : Nat} {x : Int} : afr M (dt_wi M 77 j x) := ⟨fun b h2 => dm_wi2 h2, rfl⟩
theorem afr.rp {M M' : dt_M} {i n : Nat} {T : Nat → Nat → Int} (h : afr M M') (r : rp M i T n) : rp M' i T n := rp_fr r (fun a h1 h2 => h.1 a (by omega))
def aB (N : dt_M) (a b : Nat) : Prop := N.1 77 (20 * a + b) = 1
def a01 (N : dt_M) : Prop := ∀ a b, a < 20 → b < 20 → N.1 77 (20 * a + b) = 0 ∨ N.1 77 (20 * a + b) = 1
theorem a01_w {N : dt_M} {e f : Nat} {x : Int} (h : a01 N) (hx : x = 0 ∨ x = 1) : a01 (dt_wi N 77 (20 * e + f) x) := by
  intro a b ha hb
  rw [dm_wi1]
  by_cases h1 : 20 * a + b = 20 * e + f
  · rw [h1, dm_up1]; exact hx
  · rw [dm_up2 h1]; exact h a b ha hb
theorem aB_w1 {N : dt_M} {e f : Nat} {x : Int} : aB (dt_wi N 77 (20 * e + f) x) e f ↔ x = 1 := by
  unfold aB
  rw [dm_wi1, dm_up1]
theorem aB_w2 {N : dt_M} {e f a b : Nat} {x : Int} (hf : f < 20) (hb : b < 20) (h : ¬ (a = e ∧ b = f)) : aB (dt_wi N 77 (20 * e + f) x) a b ↔ aB N a b := by
  unfold aB
  rw [dm_wi1, dm_up2 (by omega)]
theorem k_clearAhead (d : Nat) (M : dt_M) : dt_Sp mX7_clearAhead d [qM] M (fun r M' => r = none ∧ afr M M' ∧ a01 M' ∧ ∀ a b, a < 20 → b < 20 → ¬ aB M' a b) := by
  refine dt_meth okX7_clearAhead (fun pc => pc == 2) 40 (σ := Nat × dt_M) (fun t => 2) (fun t => [some qM, some (.inl t.1)]) (fun t => t.2) (fun t => t.1 ≤ 400 ∧ afr M t.2 ∧ ∀ j, j < t.1 → t.2.1 77 j = 0) (fun t => 400 - t.1) (by decide) (Nat.le_of_ble_eq_true rfl) ?_ ?_
  · intro J hJ
    exact hJ (0, M) _ ⟨Nat.zero_le _, afr.rf, fun f hf => absurd hf (Nat.not_lt_zero f)⟩ ⟨rfl, rfl, trivial⟩
  · rintro ⟨k, N⟩ ⟨h1, h2, h3⟩ J hJ
    dsimp only at h1 h2 h3 hJ
    refine And.intro (fun h => ?_) (fun h => ?_)
    · have : k = 400 := by omega
      subst this
      refine ⟨rfl, h2, fun a b ha hb => Or.inl (h3 _ (by omega)), fun a b ha hb q => ?_⟩
      have := h3 (20 * a + b) (by omega)
      unfold aB at q
      dsimp only at this q
      omega
    · (repeat (first | refine And.intro ⟨by (try dsimp only); omega, by (try dsimp only); omega⟩ ?_ | refine And.intro (Or.inl rfl) ?_ | refine And.intro (Or.inr rfl) ?_))
      intro M1 hM1
      dsimp only at hM1
      rw [show (k : Int).toNat = k by omega] at hM1
      refine And.intro ⟨by (try dsimp only); omega, by (try dsimp only); omega⟩ (hJ (k + 1, M1) _ ⟨by (try dsimp only); omega, ?_, ?_⟩ (by dsimp only [h3]; omega) ⟨rfl, rfl, trivial⟩)
      · subst hM1
        exact h2.tr afr_w
      · intro j hj
        dsimp only at hj
        subst hM1
        dsimp only
        rw [dm_wi1]
        by_cases hje : j = k
        · subst hje
          rw [dm_up1]
        · rw [dm_up2 hje]
          exact h3 j (by omega)
/-- B is what follows from A -/
def aCl (n : Nat) (A B : Nat → Nat → Prop) : Prop :=
  (∀ a b, a < n → b < n → A a b → B a b) ∧ (∀ R : Nat → Nat → Prop, (∀ a b c, R a b → R b c → R a c) → (∀ a b, a < n → b < n → A a b → R a b) → ∀ a b, a < n → b < n → B a b → R a b) ∧
  (∀ a x b, a < n → x < n → b < n → B a x → B x b → B a b) ∧ ∀ a b, a < 20 → b < 20 → ¬ (a < n ∧ b < n) → (B a b ↔ A a b)
theorem k_closeAhead (d n : Nat) (M : dt_M) (hn : n ≤ 20) (h01 : a01 M) : dt_Sp mX7_closeAhead d [qM, .inl n] M (fun r M' => r = none ∧ afr M M' ∧ a01 M' ∧ aCl n (aB M) (aB M')) := by
  refine dt_meth okX7_closeAhead (fun pc => pc == 2 || pc == 9 || pc == 17) 80 (σ := Nat × Nat × Nat × Nat × (Nat → Nat → Prop) × dt_M) (fun t => h3 t.1 2 9 17) (fun t => [some qM, some (.inl n), some (.inl t.2.1), h3 t.1 none (some (.inl t.2.2.1)) (some (.inl t.2.2.1)), h3 t.1 none none (some (.inl t.2.2.2.1))]) (fun t => t.2.2.2.2.2)
    (fun t => afr M t.2.2.2.2.2 ∧ a01 t.2.2.2.2.2 ∧ (t.2.1 ≤ n ∧ t.2.2.1 ≤ n ∧ t.2.2.2.1 ≤ n) ∧ (t.1 = 0 → t.2.2.1 = 0 ∧ t.2.2.2.1 = 0) ∧ (t.1 = 1 → t.2.1 < n ∧ t.2.2.2.1 = 0) ∧ (1 < t.1 → t.2.1 < n ∧ t.2.2.1 < n) ∧
      (∀ a b, a < n → b < n → aB M a b → t.2.2.2.2.1 a b) ∧ (∀ R : Nat → Nat → Prop, (∀ a b c, R a b → R b c → R a c) → (∀ a b, a < n → b < n → aB M a b → R a b) → ∀ a b, a < n → b < n → t.2.2.2.2.1 a b → R a b) ∧
      (∀ a x b, a < n → x < t.2.1 → b < n → t.2.2.2.2.1 a x → t.2.2.2.2.1 x b → t.2.2.2.2.1 a b) ∧ (∀ a b, a < 20 → b < 20 → ¬ (a < n ∧ b < n) → (aB t.2.2.2.2.2 a b ↔ aB M a b)) ∧
      (∀ a b, a < n → b < n → (a < t.2.2.1 ∨ (a = t.2.2.1 ∧ b < t.2.2.2.1)) → (aB t.2.2.2.2.2 a b ↔ (t.2.2.2.2.1 a b ∨ (t.2.2.2.2.1 a t.2.1 ∧ t.2.2.2.2.1 t.2.1 b)))) ∧
      (∀ a b, a < n → b < n → ¬ (a < t.2.2.1 ∨ (a = t.2.2.1 ∧ b < t.2.2.2.1)) → (aB t.2.2.2.2.2 a b ↔ t.2.2.2.2.1 a b)))
    (fun t => (n - t.2.1) * 2000 + (h3 t.1 1999 ((n - t.2.2.1) * 50 + 49) ((n - t.2.2.1) * 50 + (n - t.2.2.2.1)))) (by decide) (Nat.le_of_ble_eq_true rfl) ?_ ?_
  · intro J hJ
    exact hJ (0, 0, 0, 0, aB M, M) _ ⟨afr.rf, h01, ⟨Nat.zero_le _, Nat.zero_le _, Nat.zero_le _⟩, fun _ => ⟨rfl, rfl⟩, fun q => (by cases q), fun q => (by dsimp only at q; omega), fun a b _ _ h => h, fun R _ hR => hR, fun a x b _ hx => absurd hx (Nat.not_lt_zero x), fun _ _ _ _ _ => Iff.rfl, fun a b _ _ q => (by dsimp only at q; omega), fun a b _ _ _ => Iff.rfl⟩ ⟨rfl, rfl, rfl, trivial⟩
  · rintro ⟨hd, k, e, f, B, N⟩ ⟨h1, h2, ⟨k1, k2, k3⟩, i0, i1, i2, b1, b2, b3, b4, b5, b6⟩ J hJ
    dsimp only at h1 h2 k1 k2 k3 i0 i1 i2 b1 b2 b3 b4 b5 b6 hJ
    match hd, i0, i1, i2 with
    | 0, i0, _, _ =>
      obtain ⟨rfl, rfl⟩ := i0 rfl
      have bb : ∀ a b, a < n → b < n → (aB N a b ↔ B a b) := fun a b ha hb => b6 a b ha hb (by omega)
      refine And.intro (fun h => ?_) (fun h => ?_)
      · have hh : (n : Int) ≤ (k : Int) := h
        have : k = n := by omega
        subst this
        refine ⟨rfl, h1, h2, fun a b ha hb q => (bb a b ha hb).mpr (b1 a b ha hb q), fun R r1 r2 a b ha hb q => b2 R r1 r2 a b ha hb ((bb a b ha hb).mp q), fun a x b ha hx hb q1 q2 => ?_, b4⟩
        exact (bb a b ha hb).mpr (b3 a x b ha hx hb ((bb a x ha hx).mp q1) ((bb x b hx hb).mp q2))
      · have hh : (k : Int) < (n : Int) := h
        have hk : k < n := by omega
        exact hJ (1, k, 0, 0, B, N) _ ⟨h1, h2, ⟨k1, k2, k3⟩, fun q => (by cases q), fun _ => ⟨hk, rfl⟩, fun q => (by dsimp only at q; omega), b1, b2, b3, b4, b5, b6⟩ (by dsimp only [h3]; omega) ⟨rfl, rfl, rfl, rfl, trivial⟩
    | 1, _, i1, _ =>
      obtain ⟨hk, rfl⟩ := i1 rfl
      refine And.intro (fun h => ?_) (fun h => ?_)
      · have hh : (n : Int) ≤ (e : Int) := h
        have : e = n := by omega
        subst this
        have bb : ∀ a b, a < e → b < e → (aB N a b ↔ (B a b ∨ (B a k ∧ B k b))) := fun a b ha hb => b5 a b ha hb (Or.inl ha)
        refine And.intro ⟨by (try dsimp only); omega, by (try dsimp only); omega⟩ (hJ (0, k + 1, 0, 0, aB N, N) _ ⟨h1, h2, ⟨by (try dsimp only); omega, Nat.zero_le _, Nat.zero_le _⟩, fun _ => ⟨rfl, rfl⟩, fun q => (by cases q), fun q => (by dsimp only at q; omega), fun a b ha hb q => (bb a b ha hb).mpr (Or.inl (b1 a b ha hb q)), fun R r1 r2 a b ha hb q => ?_, fun a x b ha hx hb q1 q2 => ?_, b4, fun a b _ _ q => (by dsimp only at q; omega), fun a b _ _ _ => Iff.rfl⟩ (by dsimp only [h3]; omega) ⟨rfl, rfl, rfl, trivial⟩)
        · rcases (bb a b ha hb).mp q with z | z
          · exact b2 R r1 r2 a b ha hb z
          · exact r1 a k b (b2 R r1 r2 a k ha hk z.1) (b2 R r1 r2 k b hk hb z.2)
        · dsimp only at hx q1 q2 ⊢
          have z1 := (bb a x ha (by omega)).mp q1
          have z2 := (bb x b (by omega) hb).mp q2
          rw [bb a b ha hb]
          by_cases hxk : x = k
          · subst hxk
            have y1 : B a x := by rcases z1 with z | z; exact z; exact z.1
            have y2 : B x b := by rcases z2 with z | z; exact z; exact z.2
            exact Or.inr ⟨y1, y2⟩
          · have hx' : x < k := by omega
            rcases z1 with z1 | ⟨z1, z3⟩ <;> rcases z2 with z2 | ⟨z2, z4⟩
            · exact Or.inl (b3 a x b ha hx' hb z1 z2)
            · exact Or.inr ⟨b3 a x k ha hx' hk z1 z2, z4⟩
            · exact Or.inr ⟨z1, b3 k x b hk hx' hb z3 z2⟩
            · exact Or.inr ⟨z1, z4⟩
      · have hh : (e : Int) < (n : Int) := h
        have he : e < n := by omega
        exact hJ (2, k, e, 0, B, N) _ ⟨h1, h2, ⟨k1, k2, k3⟩, fun q => (by cases q), fun q => (by cases q), fun _ => ⟨hk, he⟩, b1, b2, b3, b4, b5, b6⟩ (by dsimp only [h3]; omega) ⟨rfl, rfl, rfl, rfl, rfl, trivial⟩
    | hd + 2, _, _, i2 =>
      obtain ⟨hk, he⟩ := i2 (by omega)
      refine And.intro (fun h => ?_) (fun h => ?_)
      · have hh : (n : Int) ≤ (f : Int) := h
        have : f = n := by omega
        subst this
        refine And.intro ⟨by (try dsimp only); omega, by (try dsimp only); omega⟩ (hJ (1, k, e + 1, 0, B, N) _ ⟨h1, h2, ⟨k1, by (try dsimp only); omega, by (try dsimp only); omega⟩, fun q => (by cases q), fun _ => ⟨hk, rfl⟩, fun q => (by dsimp only at q; omega), b1, b2, b3, b4, fun a b ha hb q => b5 a b ha hb ((by dsimp only at q; omega)), fun a b ha hb q => b6 a b ha hb ((by dsimp only at q; omega))⟩ (by dsimp only [h3]; omega) ⟨rfl, rfl, rfl, rfl, trivial⟩)
      · have hh : (f : Int) < (n : Int) := h
        have hf : f < n := by omega
        have eI : (20 * (e : Int) + (f : Int)).toNat = 20 * e + f := by omega
        have eK : (20 * (e : Int) + (k : Int)).toNat = 20 * e + k := by omega
        have kI : (20 * (k : Int) + (f : Int)).toNat = 20 * k + f := by omega
        have c0 : aB N e f ↔ B e f := b6 e f he hf (by omega)
        have c1 : aB N e k ↔ B e k := by
          by_cases q : k < f
          · rw [b5 e k he hk (Or.inr ⟨rfl, q⟩)]
            exact ⟨fun z => by rcases z with z | z; exact z; exact z.1, Or.inl⟩
          · exact b6 e k he hk (by omega)
        have c2 : aB N k f ↔ B k f := by
          by_cases q : k < e
          · rw [b5 k f hk hf (Or.inl q)]
            exact ⟨fun z => by rcases z with z | z; exact z; exact z.2, Or.inl⟩
          · exact b6 k f hk hf (by omega)
        have step : ∀ (x : Int), (x = 0 ∨ x = 1) → (x = 1 ↔ (B e f ∨ (B e k ∧ B k f))) → ∀ M1, M1 = dt_wi N 77 (20 * e + f) x → dt_r ((f : Int) + 1) ∧ J 17 [some qM, some (.inl n), some (.inl k), some (.inl e), some (.inl ((f : Int) + 1))] [] M1 := by
          intro x hx hx1 M1 hM1
          refine And.intro ⟨by (try dsimp only); omega, by (try dsimp only); omega⟩ (hJ (2, k, e, f + 1, B, M1) _ ⟨?_, ?_, ⟨k1, by (try dsimp only); omega, by (try dsimp only); omega⟩, fun q => (by cases q), fun q => (by cases q), fun _ => ⟨hk, he⟩, b1, b2, b3, ?_, ?_, ?_⟩ (by dsimp only [h3]; omega) ⟨rfl, rfl, rfl, rfl, rfl, trivial⟩)
          · subst hM1; exact h1.tr afr_w
          · subst hM1; exact a01_w h2 hx
          · intro a b ha hb q
            subst hM1
            dsimp only
            rw [aB_w2 (by omega) hb (by omega)]
            exact b4 a b ha hb q
          · intro a b ha hb q
            dsimp only at q
            subst hM1
            dsimp only
            by_cases z : a = e ∧ b = f
            · obtain ⟨rfl, rfl⟩ := z
              rw [aB_w1]
              exact hx1
            · rw [aB_w2 (by omega) (by omega) z]
              exact b5 a b ha hb (by omega)
          · intro a b ha hb q
            dsimp only at q
            subst hM1
            dsimp only
            rw [aB_w2 (by omega) (by omega) (by omega)]
            exact b6 a b ha hb (by omega)
        (repeat (first | refine And.intro ⟨by (try dsimp only); omega, by (try dsimp only); omega⟩ ?_ | refine And.intro (Or.inl rfl) ?_ | refine And.intro (Or.inr rfl) ?_))
        dsimp only
        rw [eI]
        refine And.intro (fun z1 => ?_) (fun z1 => ?_)
        · (repeat (first | refine And.intro ⟨by (try dsimp only); omega, by (try dsimp only); omega⟩ ?_ | refine And.intro (Or.inl rfl) ?_ | refine And.intro (Or.inr rfl) ?_))
          dsimp only
          rw [eI]
          have y1 : aB N e f := by
            rcases h2 e f (by omega) (by omega) with q | q
            · exact absurd q z1
            · exact q
          exact step 1 (Or.inr rfl) ⟨fun _ => Or.inl (c0.mp y1), fun _ => rfl⟩
        · have y1 : ¬ B e f := fun q => by
            have q1 : N.1 77 (20 * e + f) = 1 := c0.mpr q
            have q2 : N.1 77 (20 * e + f) = 0 := z1
            omega
          (repeat (first | refine And.intro ⟨by (try dsimp only); omega, by (try dsimp only); omega⟩ ?_ | refine And.intro (Or.inl rfl) ?_ | refine And.intro (Or.inr rfl) ?_))
          dsimp only
          rw [eK]
          refine And.intro (fun z2 => ?_) (fun z2 => ?_)
          · have y2 : ¬ B e k := fun q => by
              have q1 : N.1 77 (20 * e + k) = 1 := c1.mpr q
              have q2 : N.1 77 (20 * e + k) = 0 := z2
              omega
            (repeat (first | refine And.intro ⟨by (try dsimp only); omega, by (try dsimp only); omega⟩ ?_ | refine And.intro (Or.inl rfl) ?_ | refine And.intro (Or.inr rfl) ?_))
            dsimp only
            rw [eI]
            exact step 0 (Or.inl rfl) ⟨fun q => absurd q (by decide), fun q => by rcases q with q | q; exact absurd q y1; exact absurd q.1 y2⟩
          · have y2 : aB N e k := by
              rcases h2 e k (by omega) (by omega) with q | q
              · exact absurd q z2
              · exact q
            (repeat (first | refine And.intro ⟨by (try dsimp only); omega, by (try dsimp only); omega⟩ ?_ | refine And.intro (Or.inl rfl) ?_ | refine And.intro (Or.inr rfl) ?_))
            dsimp only
            rw [kI]
            refine And.intro (fun z3 => ?_) (fun z3 => ?_)
            · have y3 : ¬ B k f := fun q => by
                have q1 : N.1 77 (20 * k + f) = 1 := c2.mpr q
                have q2 : N.1 77 (20 * k + f) = 0 := z3
                omega
              (repeat (first | refine And.intro ⟨by (try dsimp only); omega, by (try dsimp only); omega⟩ ?_ | refine And.intro (Or.inl rfl) ?_ | refine And.intro (Or.inr rfl) ?_))
              dsimp only
              rw [eI]
              exact step 0 (Or.inl rfl) ⟨fun q => absurd q (by decide), fun q => by rcases q with q | q; exact absurd q y1; exact absurd q.2 y3⟩
            · have y3 : aB N k f := by
                rcases h2 k f (by omega) (by omega) with q | q
                · exact absurd q z3
                · exact q
              (repeat (first | refine And.intro ⟨by (try dsimp only); omega, by (try dsimp only); omega⟩ ?_ | refine And.intro (Or.inl rfl) ?_ | refine And.intro (Or.inr rfl) ?_))
              dsimp only
              rw [eI]
              exact step 1 (Or.inr rfl) ⟨fun _ => Or.inr ⟨c1.mp y2, c2.mp y3⟩, fun _ => rfl⟩
theorem k_onOneLine (d i e f n s : Nat) (M : dt_M) (T : Nat → Nat → Int) (hi : i < 4) (he : e < n) (hf : f < n) (hV : tV T n s) (rT : rp M i T n) : dt_Sp mX7_onOneLine d [qM, .inl i, .inl e, .inl f] M (fun r M' => M' = M ∧ ((r = some (.inl 1) ∧ T 2 e = T 2 f) ∨ (r = some (.inl 0) ∧ ¬ T 2 e = T 2 f))) := by
  have hn : n ≤ 20 := by have := hV.1.1; omega
  have e1 : (20 * (i : Int) + (e : Int)).toNat = 20 * i + e := by omega
  have f1 : (20 * (i : Int) + (f : Int)).toNat = 20 * i + f := by omega
  refine dt_flat okX7_onOneLine 60 (by decide) (Nat.le_of_ble_eq_true rfl) (fun J => ?_)
  (repeat (first | refine And.intro ⟨by (try dsimp only); omega, by (try dsimp only); omega⟩ ?_ | refine And.intro (Or.inl rfl) ?_ | refine And.intro (Or.inr rfl) ?_))
  rw [e1, f1, (rT.2.1 e he).2.1, (rT.2.1 f hf).2.1]
  exact And.intro (fun h => ⟨Or.inl rfl, rfl, Or.inr ⟨rfl, h⟩⟩) (fun h => ⟨Or.inr rfl, rfl, Or.inl ⟨rfl, h⟩⟩)
theorem k_layMates (d i n s : Nat) (M : dt_M) (T : Nat → Nat → Int) (hi : i < 4) (hV : tV T n s) (rT : rp M i T n) (h01 : a01 M) : dt_Sp mX7_layMates d [qM, .inl i] M (fun r M' => r = none ∧ afr M M' ∧ a01 M' ∧ ∀ a b, a < 20 → b < 20 → (aB M' a b ↔ (aB M a b ∨ (a < n ∧ T 1 a = 0 ∧ T 5 a = (b : Int))))) := by
  have hn : n ≤ 20 := by have := hV.1.1; omega
  refine dt_meth okX7_layMates (fun pc => pc == 2) 60 (σ := Nat × dt_M) (fun t => 2) (fun t => [some qM, some (.inl i), some (.inl t.1)]) (fun t => t.2) (fun t => t.1 ≤ n ∧ afr M t.2 ∧ a01 t.2 ∧ ∀ a b, a < 20 → b < 20 → (aB t.2 a b ↔ (aB M a b ∨ (a < t.1 ∧ T 1 a = 0 ∧ T 5 a = (b : Int))))) (fun t => 400 - t.1) (by decide) (Nat.le_of_ble_eq_true rfl) ?_ ?_
  · intro J hJ
    exact hJ (0, M) _ ⟨Nat.zero_le _, afr.rf, h01, fun a b ha hb => ⟨Or.inl, fun q => q.elim id (fun z => absurd z.1 (Nat.not_lt_zero a))⟩⟩ ⟨rfl, rfl, rfl, trivial⟩
  · rintro ⟨e, N⟩ ⟨h1, h2, h3, h4⟩ J hJ
    dsimp only at h1 h2 h3 h4 hJ
    have rN := h2.rp rT
    have e0 : (i : Int).toNat = i := by omega
    (repeat (first | refine And.intro ⟨by (try dsimp only); omega, by (try dsimp only); omega⟩ ?_ | refine And.intro (Or.inl rfl) ?_ | refine And.intro (Or.inr rfl) ?_))
    dsimp only
    rw [e0, rN.1]
    refine And.intro (fun h => ?_) (fun h => ?_)
    · have : e = n := by omega
      subst this
      exact ⟨rfl, h2, h3, h4⟩
    · have hh : (e : Int) < (n : Int) := h
      have he : e < n := by omega
      have e1 : (20 * (i : Int) + (e : Int)).toNat = 20 * i + e := by omega
      obtain ⟨r1, r2, r3, r4, r5⟩ := rN.2.1 e he
      (repeat (first | refine And.intro ⟨by (try dsimp only); omega, by (try dsimp only); omega⟩ ?_ | refine And.intro (Or.inl rfl) ?_ | refine And.intro (Or.inr rfl) ?_))
      dsimp only
      rw [e1, r1]
      refine And.intro (fun z => ?_) (fun z => ?_)
      · refine And.intro ⟨by (try dsimp only); omega, by (try dsimp only); omega⟩ (hJ (e + 1, N) _ ⟨by (try dsimp only); omega, h2, h3, fun a b ha hb => ?_⟩ (by dsimp only; omega) ⟨rfl, rfl, rfl, trivial⟩)
        dsimp only
        rw [h4 a b ha hb]
        constructor
        · rintro (q | ⟨q1, q2⟩)
          · exact Or.inl q
          · exact Or.inr ⟨by omega, q2⟩
        · rintro (q | ⟨q1, q2⟩)
          · exact Or.inl q
          · by_cases hae : a = e
            · subst hae; exact absurd q2.1 z
            · exact Or.inr ⟨by omega, q2⟩
      · obtain ⟨x, a1, a2, a3, a4, a5⟩ := tV_mate hV he z
        have e2 : (20 * (e : Int) + (x : Int)).toNat = 20 * e + x := by omega
        (repeat (first | refine And.intro ⟨by (try dsimp only); omega, by (try dsimp only); omega⟩ ?_ | refine And.intro (Or.inl rfl) ?_ | refine And.intro (Or.inr rfl) ?_))
        dsimp only
        rw [e1, r5, a1]
        (repeat (first | refine And.intro ⟨by (try dsimp only); omega, by (try dsimp only); omega⟩ ?_ | refine And.intro (Or.inl rfl) ?_ | refine And.intro (Or.inr rfl) ?_))
        dsimp only
        rw [e2]
        intro M1 hM1
        refine And.intro ⟨by (try dsimp only); omega, by (try dsimp only); omega⟩ (hJ (e + 1, M1) _ ⟨by (try dsimp only); omega, ?_, ?_, fun a b ha hb => ?_⟩ (by dsimp only; omega) ⟨rfl, rfl, rfl, trivial⟩)
        · subst hM1; exact h2.tr afr_w
        · subst hM1; exact a01_w h3 (Or.inr rfl)
        · subst hM1
          dsimp only
          by_cases q : a = e ∧ b = x
          · obtain ⟨rfl, rfl⟩ := q
            rw [aB_w1]
            exact ⟨fun _ => Or.inr ⟨by omega, z, a1⟩, fun _ => rfl⟩
          · rw [aB_w2 (by omega) hb q, h4 a b ha hb]
            constructor
            · rintro (q | ⟨q1, q2⟩)
              · exact Or.inl q
              · exact Or.inr ⟨by omega, q2⟩
            · rintro (q' | ⟨q1, q2⟩)
              · exact Or.inl q'
              · by_cases hae : a = e
                · subst hae; exact absurd ⟨rfl, by have := q2.2; omega⟩ q
                · exact Or.inr ⟨by omega, q2⟩
