/-! ===== the Model: drawn, kept, race ===== -/
theorem mV_n {M : dt_M} {T : Nat → Nat → Nat → Int} (h : mV M T) {i : Nat} (hi : i < 4) : 0 ≤ M.1 63 i ∧ M.1 63 i ≤ 20 ∧ M.1 63 i = T i 0 7 := by
  obtain ⟨n, s, v, r⟩ := h i hi
  have e7 := v.1.1.1
  have := v.1.1
  have := r.1
  omega
theorem k_drawn (d : Nat) (i e f : Int) (M : dt_M) (T : Nat → Nat → Nat → Int) (hV : mV M T) : dt_Sp mX7_drawn (d + 3) [qM, .inl i, .inl e, .inl f] M (fun r M' => afr M M' ∧ r = some (.inl (drw T 3 i e f))) := by
  have hT : ∀ i : Nat, i < 4 → 0 ≤ M.1 63 i ∧ M.1 63 i ≤ 20 := fun i hi => ⟨(mV_n hV hi).1, (mV_n hV hi).2.1⟩
  refine dt_flat okX7_drawn 60 (by decide) (Nat.le_of_ble_eq_true rfl) (fun J => ?_)
  refine Exists.intro _ (And.intro (c_noEvent _ i e M hT) ?_)
  rintro r M0 ⟨rfl, rfl⟩
  by_cases he : (0 ≤ i ∧ i < 4) ∧ 0 ≤ e ∧ e < M0.1 63 i.toNat
  · rw [if_pos he]
    refine And.intro (fun h => absurd (show (0 : Int) = 0 from rfl) h) (fun _ => ?_)
    refine Exists.intro _ (And.intro (c_noEvent _ i f M0 hT) ?_)
    rintro r M1 ⟨rfl, rfl⟩
    have e3 := mV_n hV (i := i.toNat) (by omega)
    by_cases hf : (0 ≤ i ∧ i < 4) ∧ 0 ≤ f ∧ f < M1.1 63 i.toNat
    · rw [if_pos hf]
      refine And.intro (fun _ => ?_) (fun h => absurd (show (0 : Int) = 0 from rfl) h)
      obtain ⟨n, s, v, rT⟩ := hV i.toNat (by omega)
      have e7 := rT.1
      have e7' : (T i.toNat 0 7).toNat = n := by omega
      have hk := k_layDrawn (d + 1) i.toNat n s M1 (T i.toNat) (by omega) v rT
      rw [show ((i.toNat : Nat) : Int) = i by omega] at hk
      refine Exists.intro _ (And.intro hk ?_)
      rintro r M2 ⟨rfl, h1, h2, h3⟩
      have hb := h3 e.toNat f.toNat (by omega) (by omega)
      have h01 := h2 e.toNat f.toNat (by omega) (by omega)
      have eI : (20 * e + f).toNat = 20 * e.toNat + f.toNat := by omega
      (repeat (first | refine And.intro ⟨by (try dsimp only); omega, by (try dsimp only); omega⟩ ?_ | refine And.intro (Or.inl rfl) ?_ | refine And.intro (Or.inr rfl) ?_))
      rw [eI]
      refine And.intro (fun z => ⟨h1, ?_⟩) (fun z => ⟨h1, ?_⟩)
      · rw [drw_f ⟨hf.1, by omega, by omega⟩ ?_]
        rw [e7']
        intro q
        have q1 : M2.1 77 (20 * e.toNat + f.toNat) = 1 := hb.mpr q
        have q2 : M2.1 77 (20 * e.toNat + f.toNat) = 0 := z
        omega
      · rw [drw_t ⟨hf.1, by omega, by omega⟩ ?_]
        rw [e7']
        exact hb.mp (by rcases h01 with q | q; exact absurd q z; exact q)
    · rw [if_neg hf]
      refine And.intro (fun h => absurd (show (1 : Int) = 0 from h) (by decide)) (fun _ => ?_)
      exact ⟨afr.rf, by rw [drw_n (fun q => hf ⟨q.1, by omega, by omega⟩)]⟩
  · rw [if_neg he]
    refine And.intro (fun _ => ?_) (fun h => absurd (show (1 : Int) = 0 from h) (by decide))
    exact ⟨afr.rf, by rw [drw_n (fun q => he ⟨q.1, by omega, by have := mV_n hV (i := i.toNat) (by omega); omega⟩)]⟩
theorem k_kept (d : Nat) (i w e f : Int) (M : dt_M) (T : Nat → Nat → Nat → Int) (hV : mV M T) : dt_Sp mX7_kept (d + 3) [qM, .inl i, .inl w, .inl e, .inl f] M (fun r M' => afr M M' ∧ r = some (.inl (if 0 ≤ w ∧ w ≤ 2 then drw T w i e f else -1))) := by
  have hT : ∀ i : Nat, i < 4 → 0 ≤ M.1 63 i ∧ M.1 63 i ≤ 20 := fun i hi => ⟨(mV_n hV hi).1, (mV_n hV hi).2.1⟩
  refine dt_flat okX7_kept 60 (by decide) (Nat.le_of_ble_eq_true rfl) (fun J => ?_)
  refine Exists.intro _ (And.intro (c_in _ _ _ _ M) ?_)
  rintro r M0 ⟨rfl, rfl⟩
  by_cases hw : 0 ≤ w ∧ w ≤ 2
  · rw [if_pos hw, if_pos hw]
    refine And.intro (fun h => absurd (show (1 : Int) = 0 from h) (by decide)) (fun _ => ?_)
    refine Exists.intro _ (And.intro (c_noEvent _ i e M0 hT) ?_)
    rintro r M0 ⟨rfl, rfl⟩
    by_cases he : (0 ≤ i ∧ i < 4) ∧ 0 ≤ e ∧ e < M0.1 63 i.toNat
    · rw [if_pos he]
      refine And.intro (fun h => absurd (show (0 : Int) = 0 from rfl) h) (fun _ => ?_)
      refine Exists.intro _ (And.intro (c_noEvent _ i f M0 hT) ?_)
      rintro r M1 ⟨rfl, rfl⟩
      have e3 := mV_n hV (i := i.toNat) (by omega)
      by_cases hf : (0 ≤ i ∧ i < 4) ∧ 0 ≤ f ∧ f < M1.1 63 i.toNat
      · rw [if_pos hf]
        refine And.intro (fun _ => ?_) (fun h => absurd (show (0 : Int) = 0 from rfl) h)
        obtain ⟨n, s, v, rT⟩ := hV i.toNat (by omega)
        have e7 := rT.1
        have e7' : (T i.toNat 0 7).toNat = n := by omega
        have hk := k_layKept d i.toNat n s w M1 (T i.toNat) (by omega) (by omega) v rT
        rw [show ((i.toNat : Nat) : Int) = i by omega] at hk
        refine Exists.intro _ (And.intro hk ?_)
        rintro r M2 ⟨rfl, h1, h2, h3⟩
        have hb := h3 e.toNat f.toNat (by omega) (by omega)
        have h01 := h2 e.toNat f.toNat (by omega) (by omega)
        have eI : (20 * e + f).toNat = 20 * e.toNat + f.toNat := by omega
        (repeat (first | refine And.intro ⟨by (try dsimp only); omega, by (try dsimp only); omega⟩ ?_ | refine And.intro (Or.inl rfl) ?_ | refine And.intro (Or.inr rfl) ?_))
        rw [eI]
        refine And.intro (fun z => ⟨h1, ?_⟩) (fun z => ⟨h1, ?_⟩)
        · rw [drw_f ⟨hf.1, by omega, by omega⟩ ?_]
          rw [e7']
          intro q
          have q1 : M2.1 77 (20 * e.toNat + f.toNat) = 1 := hb.mpr q
          have q2 : M2.1 77 (20 * e.toNat + f.toNat) = 0 := z
          omega
        · rw [drw_t ⟨hf.1, by omega, by omega⟩ ?_]
          rw [e7']
          exact hb.mp (by rcases h01 with q | q; exact absurd q z; exact q)
      · rw [if_neg hf]
        refine And.intro (fun h => absurd (show (1 : Int) = 0 from h) (by decide)) (fun _ => ?_)
        exact ⟨afr.rf, by rw [drw_n (fun q => hf ⟨q.1, by omega, by omega⟩)]⟩
    · rw [if_neg he]
      refine And.intro (fun _ => ?_) (fun h => absurd (show (1 : Int) = 0 from h) (by decide))
      exact ⟨afr.rf, by rw [drw_n (fun q => he ⟨q.1, by omega, by have := mV_n hV (i := i.toNat) (by omega); omega⟩)]⟩
  · rw [if_neg hw, if_neg hw]
    refine And.intro (fun _ => ?_) (fun h => absurd (show (0 : Int) = 0 from rfl) h)
    exact ⟨afr.rf, rfl⟩
theorem k_race (d : Nat) (i w k : Int) (M : dt_M) (T : Nat → Nat → Nat → Int) (hV : mV M T) : dt_Sp mX7_race (d + 3) [qM, .inl i, .inl w, .inl k] M (fun r M' => afr M M' ∧ r = some (.inl (rcA T w i k))) := by
  have hT : ∀ i : Nat, i < 4 → 0 ≤ M.1 63 i ∧ M.1 63 i ≤ 20 := fun i hi => ⟨(mV_n hV hi).1, (mV_n hV hi).2.1⟩
  refine dt_meth okX7_race (fun pc => pc == 41 || pc == 58) 80 (σ := Nat × Nat × Nat × dt_M) (fun t => h3 t.1 41 58 58) (fun t => [some qM, some (.inl i), some (.inl w), some (.inl k), some (.inl (h3 t.1 (rcO (rcQ (T i.toNat) (T i.toNat 0 7).toNat w) k (T i.toNat 0 7).toNat t.2.1).1 (rcI (rcQ (T i.toNat) (T i.toNat 0 7).toNat w) k t.2.1 (rcO (rcQ (T i.toNat) (T i.toNat 0 7).toNat w) k (T i.toNat 0 7).toNat t.2.1) t.2.2.1).1 0)), some (.inl (h3 t.1 (rcO (rcQ (T i.toNat) (T i.toNat 0 7).toNat w) k (T i.toNat 0 7).toNat t.2.1).2 (rcI (rcQ (T i.toNat) (T i.toNat 0 7).toNat w) k t.2.1 (rcO (rcQ (T i.toNat) (T i.toNat 0 7).toNat w) k (T i.toNat 0 7).toNat t.2.1) t.2.2.1).2 0)), some (.inl t.2.1), h3 t.1 none (some (.inl t.2.2.1)) none]) (fun t => t.2.2.2)
    (fun t => t.1 < 2 ∧ ((0 ≤ i ∧ i < 4) ∧ (0 ≤ w ∧ w ≤ 2) ∧ -1 ≤ k) ∧ afr M t.2.2.2 ∧ a01 t.2.2.2 ∧ (∀ a b, a < (T i.toNat 0 7).toNat → b < (T i.toNat 0 7).toNat → (aB t.2.2.2 a b ↔ KR (T i.toNat) (T i.toNat 0 7).toNat w a b)) ∧ (t.1 = 0 → t.2.1 ≤ (T i.toNat 0 7).toNat) ∧ (t.1 = 1 → t.2.1 < (T i.toNat 0 7).toNat ∧ t.2.1 < t.2.2.1 ∧ t.2.2.1 ≤ (T i.toNat 0 7).toNat)) (fun t => ((T i.toNat 0 7).toNat - t.2.1) * 50 + h3 t.1 49 ((T i.toNat 0 7).toNat - t.2.2.1) 0) (by decide) (Nat.le_of_ble_eq_true rfl) ?_ ?_
  · intro J hJ
    refine Exists.intro _ (And.intro (c_noTalk _ i M) ?_)
    rintro r M0 ⟨rfl, rfl⟩
    by_cases hi : 0 ≤ i ∧ i < 4
    · rw [if_pos hi]
      refine And.intro (fun h => absurd (show (0 : Int) = 0 from rfl) h) (fun _ => ?_)
      refine Exists.intro _ (And.intro (c_in _ _ _ _ M0) ?_)
      rintro r M0 ⟨rfl, rfl⟩
      by_cases hw : 0 ≤ w ∧ w ≤ 2
      · rw [if_pos hw]
        refine And.intro (fun h => absurd (show (1 : Int) = 0 from h) (by decide)) (fun _ => ?_)
        refine And.intro (fun hk => ?_) (fun hk => ?_)
        · obtain ⟨n, s, v, rT⟩ := hV i.toNat (by omega)
          have e3 := mV_n hV (i := i.toNat) (by omega)
          have e7 := rT.1
          have e7' : (T i.toNat 0 7).toNat = n := by omega
          have hl := k_layKept d i.toNat n s w M0 (T i.toNat) (by omega) (by omega) v rT
          rw [show ((i.toNat : Nat) : Int) = i by omega] at hl
          refine Exists.intro _ (And.intro hl ?_)
          rintro r M2 ⟨rfl, h1, h2, h3⟩
          exact hJ (0, 0, 0, M2) _ ⟨by dsimp only; omega, ⟨hi, hw, hk⟩, h1, h2, by rw [e7']; exact h3, fun _ => Nat.zero_le _, fun q => (by cases q)⟩ ⟨rfl, rfl, rfl, rfl, rfl, rfl, rfl, trivial⟩
        · refine ⟨afr.rf, ?_⟩
          unfold rcA
          rw [if_neg (fun q => by omega)]
      · rw [if_neg hw]
        refine And.intro (fun _ => ⟨afr.rf, ?_⟩) (fun h => absurd (show (0 : Int) = 0 from rfl) h)
        unfold rcA
        rw [if_neg (fun q => hw q.2.1)]
    · rw [if_neg hi]
      refine And.intro (fun _ => ⟨afr.rf, ?_⟩) (fun h => absurd (show (1 : Int) = 0 from h) (by decide))
      unfold rcA
      rw [if_neg (fun q => hi q.1)]
  · rintro ⟨hd, e, f, N⟩ ⟨h1, hc, hf, h2, hb, i0, i1⟩ J hJ
    dsimp only at h1 hc hf h2 hb i0 i1 hJ
    obtain ⟨n, s, v, rT⟩ := hV i.toNat (by omega)
    have e3 := mV_n hV (i := i.toNat) (by omega)
    have rN := hf.rp rT
    have e7 := rT.1
    have e7' : (T i.toNat 0 7).toNat = n := by omega
    rw [e7'] at hb i0 i1 hJ ⊢
    have hn : n ≤ 20 := by omega
    have bo := rcO_bd (Q := rcQ (T i.toNat) n w) (k := k) hn e
    have e63 : N.1 63 i.toNat = (n : Int) := rN.1
    match hd, h1, i0, i1 with
    | 0, _, i0, _ =>
      have he := i0 rfl
      (repeat (first | refine And.intro ⟨by (try dsimp only); omega, by (try dsimp only); omega⟩ ?_ | refine And.intro (Or.inl rfl) ?_ | refine And.intro (Or.inr rfl) ?_))
      dsimp only
      rw [e63]
      refine And.intro (fun h => ?_) (fun h => ?_)
      · have : e = n := by omega
        subst this
        refine And.intro (fun z => ⟨hf, ?_⟩) (fun z => ⟨hf, ?_⟩)
        · unfold rcA
          rw [if_pos hc, if_neg (by omega), e7']
          rfl
        · unfold rcA
          rw [if_pos hc, if_pos (by omega), e7']
          rfl
      · have hh : (e : Int) < (n : Int) := h
        exact And.intro ⟨by (try dsimp only); omega, by (try dsimp only); omega⟩ (hJ (1, e, e + 1, N) _ ⟨by dsimp only; omega, hc, hf, h2, hb, fun q => (by cases q), fun _ => ⟨by dsimp only; omega, by dsimp only; omega, by dsimp only; omega⟩⟩ (by dsimp only [h3]; omega) ⟨rfl, rfl, rfl, rfl, congrArg Sum.inl (congrArg Prod.fst (rcI_0 (Nat.le_refl _))), congrArg Sum.inl (congrArg Prod.snd (rcI_0 (Nat.le_refl _))), rfl, rfl, trivial⟩)
    | 1, _, _, i1 =>
      obtain ⟨he, k2, k3⟩ := i1 rfl
      have bi := rcI_bd (Q := rcQ (T i.toNat) n w) (k := k) (e := e) (s := rcO (rcQ (T i.toNat) n w) k n e) f
      (repeat (first | refine And.intro ⟨by (try dsimp only); omega, by (try dsimp only); omega⟩ ?_ | refine And.intro (Or.inl rfl) ?_ | refine And.intro (Or.inr rfl) ?_))
      dsimp only
      rw [e63]
      refine And.intro (fun h => ?_) (fun h => ?_)
      · have hh : (n : Int) ≤ (f : Int) := h
        have : f = n := by omega
        subst this
        exact And.intro ⟨by (try dsimp only); omega, by (try dsimp only); omega⟩ (hJ (0, e + 1, 0, N) _ ⟨by dsimp only; omega, hc, hf, h2, hb, fun _ => by dsimp only; omega, fun q => (by cases q)⟩ (by dsimp only [h3]; omega) ⟨rfl, rfl, rfl, rfl, rfl, rfl, rfl, trivial⟩)
      · have hh : (f : Int) < (n : Int) := h
        have hfn : f < n := by omega
        have no : ¬ rcQ (T i.toNat) n w e f → dt_r ((f : Int) + 1) ∧ J 58 [some qM, some (.inl i), some (.inl w), some (.inl k), some (.inl (rcI (rcQ (T i.toNat) n w) k e (rcO (rcQ (T i.toNat) n w) k n e) f).1), some (.inl (rcI (rcQ (T i.toNat) n w) k e (rcO (rcQ (T i.toNat) n w) k n e) f).2), some (.inl e), some (.inl ((f : Int) + 1))] [] N := fun g => by
          have zn := rcI_n (Q := rcQ (T i.toNat) n w) (k := k) (e := e) (f := f) (s := rcO (rcQ (T i.toNat) n w) k n e) (fun q => g q.2)
          exact And.intro ⟨by (try dsimp only); omega, by (try dsimp only); omega⟩ (hJ (1, e, f + 1, N) _ ⟨by dsimp only; omega, hc, hf, h2, hb, fun q => (by cases q), fun _ => ⟨he, by dsimp only; omega, by dsimp only; omega⟩⟩ (by dsimp only [h3]; omega) ⟨rfl, rfl, rfl, rfl, congrArg Sum.inl (congrArg Prod.fst zn), congrArg Sum.inl (congrArg Prod.snd zn), rfl, rfl, trivial⟩)
        have ho := k_onOneLine (d + 2) i.toNat e f n s N (T i.toNat) (by omega) he hfn v rN
        rw [show ((i.toNat : Nat) : Int) = i by omega] at ho
        refine Exists.intro _ (And.intro ho ?_)
        rintro r M0 ⟨rfl, (⟨rfl, g⟩ | ⟨rfl, g⟩)⟩
        · refine And.intro (fun q => absurd (show (1 : Int) = 0 from q) (by decide)) (fun _ => ?_)
          have eI : (20 * (e : Int) + (f : Int)).toNat = 20 * e + f := by omega
          have h01 := h2 e f (by omega) (by omega)
          have hb' := hb e f he hfn
          (repeat (first | refine And.intro ⟨by (try dsimp only); omega, by (try dsimp only); omega⟩ ?_ | refine And.intro (Or.inl rfl) ?_ | refine And.intro (Or.inr rfl) ?_))
          dsimp only
          rw [eI]
          refine And.intro (fun z => ?_) (fun z => ?_)
          · exact no (fun q => q.2 (hb'.mp (by rcases h01 with q | q; exact absurd q z; exact q)))
          · have y : rcQ (T i.toNat) n w e f := ⟨g, fun q => by
              have q1 : M0.1 77 (20 * e + f) = 1 := hb'.mpr q
              have q2 : M0.1 77 (20 * e + f) = 0 := z
              omega⟩
            have zy := rcI_y (Q := rcQ (T i.toNat) n w) (k := k) (e := e) (f := f) (s := rcO (rcQ (T i.toNat) n w) k n e) ⟨k2, y⟩
            refine And.intro (fun z => ?_) (fun z => ?_)
            · have z' : ¬ (rcI (rcQ (T i.toNat) n w) k e (rcO (rcQ (T i.toNat) n w) k n e) f).1 = k := z
              exact And.intro ⟨by (dsimp only [h3]; omega), by (dsimp only [h3]; omega)⟩ (And.intro ⟨by (try dsimp only); omega, by (try dsimp only); omega⟩ (hJ (1, e, f + 1, M0) _ ⟨by dsimp only; omega, hc, hf, h2, hb, fun q => (by cases q), fun _ => ⟨he, by dsimp only; omega, by dsimp only; omega⟩⟩ (by dsimp only [h3]; omega) ⟨rfl, rfl, rfl, rfl, congrArg Sum.inl (congrArg Prod.fst zy), congrArg Sum.inl (((congrArg Prod.snd zy)).trans (if_neg z')), rfl, rfl, trivial⟩))
            · have z' : (rcI (rcQ (T i.toNat) n w) k e (rcO (rcQ (T i.toNat) n w) k n e) f).1 = k := z
              (repeat (first | refine And.intro ⟨by (try dsimp only); omega, by (try dsimp only); omega⟩ ?_ | refine And.intro (Or.inl rfl) ?_ | refine And.intro (Or.inr rfl) ?_))
              exact hJ (1, e, f + 1, M0) _ ⟨by dsimp only; omega, hc, hf, h2, hb, fun q => (by cases q), fun _ => ⟨he, by dsimp only; omega, by dsimp only; omega⟩⟩ (by dsimp only [h3]; omega) ⟨rfl, rfl, rfl, rfl, congrArg Sum.inl (congrArg Prod.fst zy), congrArg Sum.inl (((congrArg Prod.snd zy)).trans (if_pos z')), rfl, rfl, trivial⟩
        · refine And.intro (fun _ => ?_) (fun q => absurd (show (0 : Int) = 0 from rfl) q)
          exact no (fun q => g q.1)
    | hd + 2, h, _, _ => exact absurd h (by omega)
