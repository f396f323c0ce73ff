/-! ===== THE COUPLING: the class and the Model hold the same talks and the same text ===== -/
def IT (M : dt_M) : Prop := ∀ i, i < 4 → ∃ n s, tV (cT M i) n s ∧ rp M i (cT M i) n
def IX (M : dt_M) (L : Nat) : Prop := M.1 42 1 = (L : Int) ∧ M.1 62 8 = (L : Int) ∧ L ≤ 300 ∧ ∀ j, j < L → M.1 43 j = M.1 71 j ∧ 0 ≤ M.1 71 j ∧ M.1 71 j ≤ 255
def Inv (M : dt_M) : Prop := IT M ∧ ∃ L, IX M L
theorem tk_eq_row {n : Nat} {A B : Nat → Nat → Int} (h : ∀ g, g < 8 → A g = B g) : tk_eq n A B := ⟨by rw [h 0 (by omega)], by rw [h 0 (by omega)], fun g a b j hj => by rw [h g (by omega)], fun p hp => by rw [h 6 (by omega)], fun p hp j hj => by rw [h 7 (by omega)]⟩
/-- nothing that is coupled has changed -/
def sam (M M' : dt_M) : Prop := (∀ a, ((2 ≤ a ∧ a < 34) ∨ a = 43 ∨ (63 ≤ a ∧ a ≤ 71)) → M'.1 a = M.1 a) ∧ M'.1 42 1 = M.1 42 1 ∧ M'.1 62 8 = M.1 62 8
theorem sam.rf {M : dt_M} : sam M M := ⟨fun _ _ => rfl, rfl, rfl⟩
theorem sam.tr {M M1 M2 : dt_M} (h : sam M M1) (k : sam M1 M2) : sam M M2 := ⟨fun a x => (k.1 a x).trans (h.1 a x), k.2.1.trans h.2.1, k.2.2.trans h.2.2⟩
theorem sam.T {M M' : dt_M} (h : sam M M') {i : Nat} (hi : i < 4) : ∀ g, g < 8 → cT M' i g = cT M i g := fun g hg => h.1 (2 + 8 * i + g) (by omega)
theorem IT.V {M : dt_M} (h : IT M) : cV M := fun i hi => by
  obtain ⟨n, s, v, r⟩ := h i hi
  exact ⟨n, s, v⟩
theorem IT.m {M M' : dt_M} (h : IT M) (k : sam M M') : mV M' (cT M) := fun i hi => by
  obtain ⟨n, s, v, r⟩ := h i hi
  exact ⟨n, s, v, rp_fr r (fun a x y => k.1 a (by omega))⟩
theorem IT.s {M M' : dt_M} (h : IT M) (k : sam M M') : IT M' := fun i hi => by
  obtain ⟨n, s, v, r⟩ := h i hi
  exact ⟨n, s, tV_row (k.T hi) v, rp_eq (rp_fr r (fun a x y => k.1 a (by omega))) (tk_eq_row (k.T hi))⟩
theorem IX.s {M M' : dt_M} {L : Nat} (h : IX M L) (k : sam M M') : IX M' L := ⟨by rw [k.2.1]; exact h.1, by rw [k.2.2]; exact h.2.1, h.2.2.1, fun j hj => by rw [k.1 43 (by omega), k.1 71 (by omega)]; exact h.2.2.2 j hj⟩
theorem Inv.s {M M' : dt_M} (h : Inv M) (k : sam M M') : Inv M' := ⟨h.1.s k, by obtain ⟨L, x⟩ := h.2; exact ⟨L, x.s k⟩⟩
theorem sam_rel {M M' : dt_M} (h : rel_fr M M') : sam M M' := ⟨fun a x => h.1 a (by omega), by rw [h.1 42 (by decide)], by rw [h.1 62 (by decide)]⟩
theorem sam_a {M M' : dt_M} (h : afr M M') : sam M M' := ⟨fun a x => h.1 a (by omega), by rw [h.1 42 (by decide)], by rw [h.1 62 (by decide)]⟩
theorem sam_l {M M' : dt_M} (h : lfr M M') : sam M M' := ⟨fun a x => h.1 a (by omega), by rw [h.1 42 (by omega)], by rw [h.1 62 (by omega)]⟩
theorem sam_m {M M' : dt_M} (h : mfr M M') : sam M M' := ⟨fun a x => h.1 a (by omega) (by omega) (by omega), by rw [h.1 42 (by decide) (by decide) (by decide)], h.2.1 8 (by decide) (by decide) (by decide)⟩
theorem sam_p {M M' : dt_M} (h : pfr M M') : sam M M' := ⟨fun a x => h.1 a (by omega), by rw [h.1 42 (by omega)], by rw [h.1 62 (by omega)]⟩
theorem sam_y {M M' : dt_M} (h : yfr M M') : sam M M' := ⟨fun a x => h.1 a (by omega), by rw [h.1 42 (by omega)], by rw [h.1 62 (by omega)]⟩
theorem sam_g {M M' : dt_M} (h : gfr M M') : sam M M' := ⟨fun a x => h.1 a (by omega) (by omega), by rw [h.1 42 (by decide) (by omega)], h.2.1 8 (by decide) (by decide)⟩
theorem sam_e {M M' : dt_M} (h : efr M M') : sam M M' := ⟨fun a x => h.1 a (by omega), h.2.1, by rw [h.1 62 (by omega)]⟩
theorem sam_z {M M' : dt_M} (h : zfr M M') : sam M M' := ⟨fun a x => h.1 a (by omega) (by omega), by rw [h.1 42 (by decide) (by omega)], h.2.1 8 (by omega)⟩
theorem sam_n {M M' : dt_M} (h : nfr M M') : sam M M' := ⟨fun a x => h.1 a (by omega) (by omega), by rw [h.1 42 (by decide) (by omega)], h.2.2 8 (by omega)⟩
/-- a talk is laid anew on both sides -/
theorem IT_new {M M1 M2 : dt_M} {i n s : Nat} {U : Nat → Nat → Int} (hi : i < 4) (h : IT M) (c1 : ∀ a, 2 ≤ a → a < 34 → (a < 2 + 8 * i ∨ 2 + 8 * i + 8 ≤ a) → M1.1 a = M.1 a) (c2 : ∀ a, 63 ≤ a → a ≤ 70 → M1.1 a = M.1 a) (v : tV (cT M1 i) n s) (e : tk_eq n (cT M1 i) U) {M3 : dt_M} (k0 : sam M1 M3 ∨ ((∀ a, 2 ≤ a → a < 34 → M3.1 a = M1.1 a) ∧ ∀ a, 63 ≤ a → a ≤ 70 → M3.1 a = M1.1 a)) (k1 : kfr M3 M2 i) (k2 : rp M2 i U n) : IT M2 := by
  have a1 : ∀ a, 2 ≤ a → a < 34 → M2.1 a = M1.1 a := fun a x y => by
    rw [k1.1 a (by omega)]
    rcases k0 with k0 | k0
    · exact k0.1 a (by omega)
    · exact k0.1 a x y
  have a2 : ∀ a, 63 ≤ a → a ≤ 70 → M3.1 a = M1.1 a := fun a x y => by
    rcases k0 with k0 | k0
    · exact k0.1 a (by omega)
    · exact k0.2 a x y
  intro j hj
  by_cases hij : j = i
  · subst hij
    have row : ∀ g, g < 8 → cT M2 j g = cT M1 j g := fun g hg => a1 _ (by omega) (by omega)
    exact ⟨n, s, tV_row row v, rp_eq k2 ((tk_eq_row row).tr e)⟩
  · obtain ⟨n', s', v', r'⟩ := h j hj
    have row : ∀ g, g < 8 → cT M2 j g = cT M j g := fun g hg => (a1 (2 + 8 * j + g) (by omega) (by omega)).trans (c1 (2 + 8 * j + g) (by omega) (by omega) (by omega))
    have r1 : rp M3 j (cT M j) n' := rp_fr r' (fun a x y => (a2 a x y).trans (c2 a x y))
    exact ⟨n', s', tV_row row v', rp_eq (rp_kfr r1 v'.1 k1 hij) (tk_eq_row row)⟩
/-- one call on both sides -/
def Pr (y z : dt_Y) (av bv : List dt_V) : Prop := ∀ M, Inv M → ∃ Φ : Option dt_V → dt_M → Prop, dt_Sp y 11 av M Φ ∧ ∀ r M1, Φ r M1 → ∃ Ψ : Option dt_V → dt_M → Prop, dt_Sp z 11 bv M1 Ψ ∧ ∀ r' M2, Ψ r' M2 → r' = r ∧ Inv M2
theorem Pr_clear : Pr mX6_clear mX7_clear [qX] [qM] := by
  intro M hI
  obtain ⟨hT, L, x1, x2, x3, x4⟩ := hI
  refine ⟨_, c_clear 11 M, ?_⟩
  rintro r M1 ⟨rfl, hM1⟩
  refine ⟨_, k_clear 11 M1, ?_⟩
  rintro r' M2 ⟨rfl, hM2⟩
  refine ⟨by rw [hM1, dm_wi2 (by decide), x1, x2], ?_, 0, ?_⟩
  · intro i hi
    obtain ⟨n, s, v, r⟩ := hT i hi
    have row : ∀ g, g < 8 → cT M2 i g = cT M i g := fun g hg => by
      show M2.1 (2 + 8 * i + g) = M.1 (2 + 8 * i + g)
      rw [hM2, dm_wi2 (by omega), hM1, dm_wi2 (by omega)]
    exact ⟨n, s, tV_row row v, rp_eq (rp_fr r (fun a x y => by rw [hM2, dm_wi2 (by omega), hM1, dm_wi2 (by omega)])) (tk_eq_row row)⟩
  · exact ⟨by rw [hM2, dm_wi2 (by decide), hM1, dm_wi1, dm_up1]; rfl, by rw [hM2, dm_wi1, dm_up1]; rfl, by omega, fun j hj => absurd hj (Nat.not_lt_zero j)⟩
theorem Pr_about (i w : Int) : Pr mX6_about mX7_about [qX, .inl i, .inl w] [qM, .inl i, .inl w] := by
  intro M hI
  refine ⟨_, c_about 10 i w M, ?_⟩
  rintro r M1 ⟨rfl, rfl⟩
  refine ⟨_, k_about 9 i w M1 (cT M1) (hI.1.m sam.rf), ?_⟩
  rintro r' M2 ⟨rfl, rfl⟩
  exact ⟨rfl, hI⟩
theorem IT.n {M : dt_M} (h : IT M) {i : Nat} (hi : i < 4) : 0 ≤ M.1 (2 + 8 * i) 7 ∧ M.1 (2 + 8 * i) 7 ≤ 20 ∧ M.1 63 i = M.1 (2 + 8 * i) 7 ∧ (∀ e : Nat, (e : Int) < M.1 (2 + 8 * i) 7 → M.1 (2 + 8 * i + 1) e = 0 ∨ M.1 (2 + 8 * i + 1) e = 1) ∧ (∀ e : Nat, (e : Int) < M.1 (2 + 8 * i) 7 → M.1 64 (20 * i + e) = M.1 (2 + 8 * i + 1) e ∧ M.1 65 (20 * i + e) = M.1 (2 + 8 * i + 2) e ∧ M.1 66 (20 * i + e) = M.1 (2 + 8 * i + 3) e ∧ M.1 67 (20 * i + e) = M.1 (2 + 8 * i + 4) e ∧ M.1 68 (20 * i + e) = M.1 (2 + 8 * i + 5) e) ∧ (∀ q : Nat, q < 4 → 0 ≤ M.1 (2 + 8 * i + 6) q ∧ M.1 (2 + 8 * i + 6) q ≤ 10 ∧ M.1 69 (4 * i + q) = M.1 (2 + 8 * i + 6) q ∧ ∀ j : Nat, (j : Int) < M.1 (2 + 8 * i + 6) q → M.1 70 (20 * (4 * i + q) + j) = M.1 (2 + 8 * i + 7) (q * 10 + j)) := by
  obtain ⟨n, s, v, r⟩ := h i hi
  have e7 : M.1 (2 + 8 * i) 7 = (n : Int) := v.1.1.1
  have n20 := v.1.1
  refine ⟨by omega, by omega, by rw [r.1, e7], fun e he => (v.1.2.1 e (by omega)).1, fun e he => r.2.1 e (by omega), fun q hq => ?_⟩
  have hl := tB_line v.1 hq
  have e6 : cT M i 6 q = M.1 (2 + 8 * i + 6) q := rfl
  have hl1 : 0 ≤ M.1 (2 + 8 * i + 6) q ∧ M.1 (2 + 8 * i + 6) q ≤ 10 := by
    have h1 : 0 ≤ M.1 (2 + 8 * i + 6) q := hl.1
    have h2 : M.1 (2 + 8 * i + 6) q ≤ (s : Int) := hl.2.1
    omega
  exact ⟨hl1.1, hl1.2, r.2.2.1 q hq, fun j hj => r.2.2.2 q hq j hj⟩
theorem Pr_event (i e w : Int) : Pr mX6_event mX7_event [qX, .inl i, .inl e, .inl w] [qM, .inl i, .inl e, .inl w] := by
  intro M hI
  refine ⟨_, c_event 9 i e w M (fun i hi => (hI.1.n hi).2.1) (fun i hi e he => (hI.1.n hi).2.2.2.1 e he), ?_⟩
  rintro r M1 ⟨rfl, rfl⟩
  refine ⟨_, k_event 8 i e w M1 (fun i hi => by have := hI.1.n hi; omega) (fun i hi e he => by have := hI.1.n hi; rw [(this.2.2.2.2.1 e (by omega)).1]; exact this.2.2.2.1 e (by omega)), ?_⟩
  rintro r' M2 ⟨rfl, rfl⟩
  refine ⟨?_, hI⟩
  by_cases hi : 0 ≤ i ∧ i < 4
  · have hn := hI.1.n (i := i.toNat) (by omega)
    rw [hn.2.2.1]
    by_cases he : 0 ≤ e ∧ e < M2.1 (2 + 8 * i.toNat) 7
    · have hie : (0 ≤ i ∧ i < 4) ∧ 0 ≤ e ∧ e < M2.1 (2 + 8 * i.toNat) 7 := ⟨hi, he⟩
      rw [if_pos hie, if_pos hie]
      by_cases hw : 0 ≤ w ∧ w ≤ 4
      · rw [if_pos hw, if_pos hw]
        have h5 := hn.2.2.2.2.1 e.toNat (by omega)
        rcases (show w = 0 ∨ w = 1 ∨ w = 2 ∨ w = 3 ∨ w = 4 by omega) with z | z | z | z | z <;> subst z
        · exact congrArg (fun z => some (Sum.inl z)) h5.1
        · exact congrArg (fun z => some (Sum.inl z)) h5.2.1
        · exact congrArg (fun z => some (Sum.inl z)) h5.2.2.1
        · exact congrArg (fun z => some (Sum.inl z)) h5.2.2.2.1
        · exact congrArg (fun z => some (Sum.inl z)) h5.2.2.2.2
      · rw [if_neg hw, if_neg hw]
    · rw [if_neg (fun q => he q.2), if_neg (fun q => he q.2)]
  · rw [if_neg (fun q => hi q.1), if_neg (fun q => hi q.1)]
theorem Pr_line (i p k : Int) : Pr mX6_line mX7_line [qX, .inl i, .inl p, .inl k] [qM, .inl i, .inl p, .inl k] := by
  intro M hI
  refine ⟨_, c_line 10 i p k M (fun i hi q hq => ((hI.1.n hi).2.2.2.2.2 q hq).2.1), ?_⟩
  rintro r M1 ⟨rfl, rfl⟩
  refine ⟨_, k_line 9 i p k M1 (fun i hi q hq => by have := (hI.1.n hi).2.2.2.2.2 q hq; omega), ?_⟩
  rintro r' M2 ⟨rfl, rfl⟩
  refine ⟨?_, hI⟩
  by_cases hi : (0 ≤ i ∧ i < 4) ∧ (0 ≤ p ∧ p < 4)
  · rw [if_pos hi, if_pos hi]
    have hq := (hI.1.n (i := i.toNat) (by omega)).2.2.2.2.2 p.toNat (by omega)
    rw [hq.2.2.1]
    by_cases hk : k = -1
    · rw [if_pos hk, if_pos hk]
    · rw [if_neg hk, if_neg hk]
      by_cases hk2 : 0 ≤ k ∧ k < M2.1 (2 + 8 * i.toNat + 6) p.toNat
      · rw [if_pos hk2, if_pos hk2, hq.2.2.2 k.toNat (by omega)]
        rw [show (p * 10 + k).toNat = p.toNat * 10 + k.toNat by omega]
      · rw [if_neg hk2, if_neg hk2]
  · rw [if_neg hi, if_neg hi]
theorem Pr_drawn (i e f : Int) : Pr mX6_drawn mX7_drawn [qX, .inl i, .inl e, .inl f] [qM, .inl i, .inl e, .inl f] := by
  intro M hI
  refine ⟨_, c_drawn 8 i e f M hI.1.V, ?_⟩
  rintro r M1 ⟨f1, rfl⟩
  refine ⟨_, k_drawn 8 i e f M1 (cT M) (hI.1.m (sam_rel f1)), ?_⟩
  rintro r' M2 ⟨f2, rfl⟩
  exact ⟨rfl, hI.s ((sam_rel f1).tr (sam_a f2))⟩
theorem Pr_kept (i w e f : Int) : Pr mX6_kept mX7_kept [qX, .inl i, .inl w, .inl e, .inl f] [qM, .inl i, .inl w, .inl e, .inl f] := by
  intro M hI
  refine ⟨_, c_kept 8 i w e f M hI.1.V, ?_⟩
  rintro r M1 ⟨f1, rfl⟩
  refine ⟨_, k_kept 8 i w e f M1 (cT M) (hI.1.m (sam_rel f1)), ?_⟩
  rintro r' M2 ⟨f2, rfl⟩
  exact ⟨rfl, hI.s ((sam_rel f1).tr (sam_a f2))⟩
theorem Pr_race (i w k : Int) : Pr mX6_race mX7_race [qX, .inl i, .inl w, .inl k] [qM, .inl i, .inl w, .inl k] := by
  intro M hI
  refine ⟨_, c_race 8 i w k M hI.1.V, ?_⟩
  rintro r M1 ⟨f1, rfl⟩
  refine ⟨_, k_race 8 i w k M1 (cT M) (hI.1.m (sam_rel f1)), ?_⟩
  rintro r' M2 ⟨f2, rfl⟩
  exact ⟨rfl, hI.s ((sam_rel f1).tr (sam_a f2))⟩
theorem Pr_orders (i : Int) : Pr mX6_orders mX7_orders [qX, .inl i] [qM, .inl i] := by
  intro M hI
  refine ⟨_, c_orders 8 i M hI.1.V, ?_⟩
  rintro r M1 ⟨f1, rfl⟩
  refine ⟨_, k_orders 7 i M1 (cT M) (hI.1.m (sam_l f1)), ?_⟩
  rintro r' M2 ⟨f2, rfl⟩
  exact ⟨rfl, hI.s ((sam_l f1).tr (sam_m f2))⟩
theorem Pr_moments (i : Int) : Pr mX6_moments mX7_moments [qX, .inl i] [qM, .inl i] := by
  intro M hI
  refine ⟨_, c_moments 8 i M hI.1.V, ?_⟩
  rintro r M1 ⟨f1, rfl⟩
  refine ⟨_, k_moments 7 i M1 (cT M) (hI.1.m (sam_l f1)), ?_⟩
  rintro r' M2 ⟨f2, rfl⟩
  exact ⟨rfl, hI.s ((sam_l f1).tr (sam_m f2))⟩
theorem Pr_under (i w : Int) : Pr mX6_under mX7_under [qX, .inl i, .inl w] [qM, .inl i, .inl w] := by
  intro M hI
  refine ⟨_, c_under 8 i w M hI.1.V, ?_⟩
  rintro r M1 ⟨f1, v, rfl, hv⟩
  refine ⟨_, k_under 7 i w M1 (cT M) (hI.1.m (sam_l f1)), ?_⟩
  rintro r' M2 ⟨f2, v', rfl, hv'⟩
  exact ⟨by rw [unA_u hv' hv], hI.s ((sam_l f1).tr (sam_m f2))⟩
theorem Pr_alike (i j : Int) : Pr mX6_alike mX7_alike [qX, .inl i, .inl j] [qM, .inl i, .inl j] := by
  intro M hI
  refine ⟨_, c_alike 9 i j M hI.1.V, ?_⟩
  rintro r M1 ⟨rfl, h1⟩
  refine ⟨_, k_alike 9 i j M1 (cT M1) (hI.1.m sam.rf), ?_⟩
  rintro r' M2 ⟨rfl, h2⟩
  refine ⟨?_, hI⟩
  rcases h1 with ⟨a1, a2, (⟨rfl, a3⟩ | ⟨rfl, a3⟩)⟩ | ⟨a1, rfl⟩ <;> rcases h2 with ⟨b1, b2, (⟨rfl, b3⟩ | ⟨rfl, b3⟩)⟩ | ⟨b1, rfl⟩
  · rfl
  · exact absurd a3 b3
  · exact absurd ⟨a1, a2⟩ b1
  · exact absurd b3 a3
  · rfl
  · exact absurd ⟨a1, a2⟩ b1
  · exact absurd ⟨b1, b2⟩ a1
  · exact absurd ⟨b1, b2⟩ a1
  · rfl
theorem Pr_play (m w : Int) : Pr mX6_play mX7_play [qX, .inl m, .inl w] [qM, .inl m, .inl w] := by
  intro M hI
  refine ⟨_, c_play 6 m w M hI.1.V, ?_⟩
  rintro r M1 ⟨f1, v, rfl, hv⟩
  refine ⟨_, k_play 8 m w M1 (cT M) (hI.1.m (sam_p f1)), ?_⟩
  rintro r' M2 ⟨f2, v', rfl, hv'⟩
  exact ⟨by rw [pyA_u hv' hv], hI.s ((sam_p f1).tr (sam_g f2))⟩
theorem Pr_mixes (s w : Int) : Pr mX6_mixes mX7_mixes [qX, .inl s, .inl w] [qM, .inl s, .inl w] := by
  intro M hI
  refine ⟨_, c_mixes 5 s w M hI.1.V, ?_⟩
  rintro r M1 ⟨f1, rfl⟩
  refine ⟨_, k_mixes 8 s w M1 (cT M) (hI.1.m (sam_y f1)), ?_⟩
  rintro r' M2 ⟨f2, rfl⟩
  exact ⟨rfl, hI.s ((sam_y f1).tr (sam_g f2))⟩
theorem Pr_fresh (s k : Int) : Pr mX6_fresh mX7_fresh [qX, .inl s, .inl k] [qM, .inl s, .inl k] := by
  intro M hI
  refine ⟨_, c_fresh 5 s k M hI.1.V, ?_⟩
  rintro r M1 ⟨f1, v, rfl, hv⟩
  refine ⟨_, k_fresh 8 s k M1 (cT M) (hI.1.m (sam_y f1)), ?_⟩
  rintro r' M2 ⟨f2, v', rfl, hv'⟩
  exact ⟨by rw [frA_u hv' hv], hI.s ((sam_y f1).tr (sam_g f2))⟩
theorem Pr_count (w : Int) : Pr mX6_count mX7_count [qX, .inl w] [qM, .inl w] := by
  intro M hI
  refine ⟨_, c_count 11 w M (fun i hi => by have := hI.1.n hi; omega), ?_⟩
  rintro r M1 ⟨rfl, rfl⟩
  refine ⟨_, k_count 11 w M1 (fun i hi => by have := hI.1.n hi; omega), ?_⟩
  rintro r' M2 ⟨rfl, rfl⟩
  refine ⟨?_, hI⟩
  obtain ⟨hT, L, x1, x2, x3, x4⟩ := hI
  have h0 := (hT.n (i := 0) (by omega)).2.2.1
  have h1 := (hT.n (i := 1) (by omega)).2.2.1
  have h2 := (hT.n (i := 2) (by omega)).2.2.1
  have h3 := (hT.n (i := 3) (by omega)).2.2.1
  rw [x1, x2]
  by_cases hw : w = 0
  · rw [if_pos hw, if_pos hw, h0, h1, h2, h3]
    refine congrArg (fun z => some (Sum.inl z)) ?_
    show _ = tk_sum M2 4
    unfold tk_sum tk_sum tk_sum tk_sum tk_sum
    omega
  · rw [if_neg hw, if_neg hw]
