/-! ===== the Model: plays ===== -/
def MR (M : dt_M) (U : Nat → Nat → Nat → Int) (m k : Nat) : Prop := M.1 62 32 = (k : Int) ∧ M.1 62 33 = (pN U k : Int) ∧ (∀ j, j < k → M.1 85 j = 20 * (ch m (pP U j) : Int) + (pV U j : Int)) ∧ MX M (pst U k)
theorem k_plays (d m : Nat) (M : dt_M) (U : Nat → Nat → Nat → Int) (hm : m < 256) (h : mM M U m) : dt_Sp mX7_plays (d + 2) [qM, .inl m] M (fun r M' => gfr M M' ∧ ∃ k, pK U k ∧ MR M' U m k ∧ ((r = some (.inl 1) ∧ pZ U k) ∨ (r = some (.inl 0) ∧ ¬ pZ U k))) := by
  have hu := h.hU
  refine dt_meth okX7_plays (fun pc => pc == 12 || pc == 49 || pc == 102) 80 (σ := Nat × Nat × Nat × Bool × dt_M) (fun t => h3 t.1 12 49 102) (fun t => [some qM, some (.inl m), h3 t.1 (some (.inl t.2.1)) (some (.inl t.2.1)) none, h3 t.1 none none (some (.inl (cond t.2.2.2.1 1 0))), h3 t.1 none none (some (.inl t.2.1))]) (fun t => t.2.2.2.2)
    (fun t => t.1 < 3 ∧ gfr M t.2.2.2.2 ∧ (t.1 = 0 → t.2.1 ≤ 16 ∧ t.2.2.2.2.1 62 32 = 0 ∧ t.2.2.2.2.1 62 33 = 0 ∧ (∀ c, c < t.2.1 → t.2.2.2.2.1 82 c = 0 ∧ t.2.2.2.2.1 83 c = 0) ∧ ∀ p, p < 4 → p < t.2.1 → t.2.2.2.2.1 84 p = 0) ∧
      (t.1 = 1 → t.2.1 ≤ 4 ∧ pR U t.2.2.1 ∧ MR t.2.2.2.2 U m t.2.2.1 ∧ ∀ q, q < t.2.1 → ¬ pC U (pst U t.2.2.1) q) ∧
      (t.1 = 2 → t.2.1 ≤ 4 ∧ pK U t.2.2.1 ∧ MR t.2.2.2.2 U m t.2.2.1 ∧ (t.2.2.2.1 = true ↔ (t.2.2.1 = 2 * pN U t.2.2.1 ∧ ∀ p, p < t.2.1 → (pst U t.2.2.1).1 p = ln (U p) p))))
    (fun t => h3 t.1 (2000 - t.2.1) ((60 - t.2.2.1) * 10 + 20 - t.2.1) (10 - t.2.1)) (by decide) (Nat.le_of_ble_eq_true rfl) ?_ ?_
  · intro J hJ
    intro M1 hM1
    have hM1' : M1 = dt_wi M 62 32 0 := hM1
    intro M2 hM2
    have hM2' : M2 = dt_wi M1 62 33 0 := hM2
    refine hJ (0, 0, 0, false, M2) _ ⟨by dsimp only; omega, ?_, fun _ => ⟨Nat.zero_le _, ?_, ?_, fun c hc => absurd hc (Nat.not_lt_zero c), fun p _ hp => absurd hp (Nat.not_lt_zero p)⟩, fun q => (by cases q), fun q => (by cases q)⟩ ⟨rfl, rfl, rfl, trivial⟩
    · rw [hM2', hM1']; exact (gfr_s (by omega)).tr (gfr_s (by omega))
    · dsimp only; rw [hM2', dm_wi1, dm_up2 (by decide), hM1', dm_wi1, dm_up1]
    · dsimp only; rw [hM2', dm_wi1, dm_up1]
  · rintro ⟨hd, p, k, b, N⟩ ⟨hd3, f1, i0, i1, i2⟩ J hJ
    dsimp only at hd3 f1 i0 i1 i2 hJ
    have ep : (p : Int).toNat = p := by omega
    match hd, hd3, i0, i1, i2 with
    | 0, _, i0, _, _ =>
      obtain ⟨k1, k2, k3, k4, k5⟩ := i0 rfl
      refine And.intro (fun hh => ?_) (fun hh => ?_)
      · have h16 : (16 : Int) ≤ (p : Int) := hh
        have : p = 16 := by omega
        subst this
        refine hJ (1, 0, 0, false, N) _ ⟨by dsimp only; omega, f1, fun q => (by cases q), fun _ => ⟨Nat.zero_le _, fun j hj => absurd hj (Nat.not_lt_zero j), ⟨k2, k3, fun j hj => absurd hj (Nat.not_lt_zero j), fun q hq => k5 q hq (by omega), fun c hc => ⟨(k4 c hc).1, (k4 c hc).2, fun j hj => absurd hj (Nat.not_lt_zero j)⟩⟩, fun q hq => absurd hq (Nat.not_lt_zero q)⟩, fun q => (by cases q)⟩ (by dsimp only [h3]; omega) ⟨rfl, rfl, rfl, trivial⟩
      · have h16 : (p : Int) < 16 := hh
        have er : dt_rem (p : Int) 4 = ((p % 4 : Nat) : Int) := by rw [dn_rem ⟨by omega, by omega⟩ ⟨by decide, by decide⟩ (by omega) (by decide)]; rfl
        have er2 : ((p % 4 : Nat) : Int).toNat = p % 4 := by omega
        dsimp only [h3]
        (repeat (first | refine And.intro ⟨by (try dsimp only); omega, by (try dsimp only); omega⟩ ?_ | refine And.intro (Or.inl rfl) ?_ | refine And.intro (Or.inr rfl) ?_))
        dsimp only
        rw [ep]
        intro M1 hM1
        have hM1' : M1 = dt_wi N 82 p 0 := hM1
        (repeat (first | refine And.intro ⟨by (try dsimp only); omega, by (try dsimp only); omega⟩ ?_ | refine And.intro (Or.inl rfl) ?_ | refine And.intro (Or.inr rfl) ?_))
        dsimp only
        rw [ep]
        intro M2 hM2
        have hM2' : M2 = dt_wi M1 83 p 0 := hM2
        refine And.intro (by decide) ?_
        rw [er]
        refine And.intro ⟨by omega, by omega⟩ ?_
        rw [er2]
        intro M3 hM3
        have hM3' : M3 = dt_wi M2 84 (p % 4) 0 := hM3
        have e62 : M3.1 62 = N.1 62 := by rw [hM3', dm_wi2 (by decide), hM2', dm_wi2 (by decide), hM1', dm_wi2 (by decide)]
        refine And.intro ⟨by (try dsimp only); omega, by (try dsimp only); omega⟩ (hJ (0, p + 1, 0, false, M3) _ ⟨by dsimp only; omega, ?_, fun _ => ⟨by dsimp only; omega, by dsimp only; rw [e62]; exact k2, by dsimp only; rw [e62]; exact k3, fun c hc => ?_, fun q hq hq1 => ?_⟩, fun q => (by cases q), fun q => (by cases q)⟩ (by dsimp only [h3]; omega) ⟨rfl, rfl, rfl, trivial⟩)
        · rw [hM3', hM2', hM1']; exact ((f1.tr (gfr_a (by decide))).tr (gfr_a (by decide))).tr (gfr_a (by decide))
        · dsimp only at hc ⊢
          rw [hM3', dm_wi2 (by decide), dm_wi2 (by decide), hM2', dm_wi2 (by decide), dm_wi1, hM1', dm_wi1, dm_wi2 (by decide)]
          by_cases z : c = p
          · subst z; rw [dm_up1, dm_up1]; exact ⟨rfl, rfl⟩
          · rw [dm_up2 z, dm_up2 z]; exact k4 c (by omega)
        · dsimp only at hq1 ⊢
          rw [hM3', dm_wi1, hM2', dm_wi2 (by decide), hM1', dm_wi2 (by decide)]
          by_cases z : q = p % 4
          · rw [z, dm_up1]
          · rw [dm_up2 z]; exact k5 q hq (by omega)
    | 1, _, _, i1, _ =>
      obtain ⟨k1, hR, hP, k4⟩ := i1 rfl
      have hk40 := pR_40 hu hR
      have pIk := pI_k hu hR
      have nl := pN_le U k
      refine And.intro (fun hh => ?_) (fun hh => ?_)
      · have h4 : (4 : Int) ≤ (p : Int) := hh
        have : p = 4 := by omega
        subst this
        have hK : pK U k := ⟨hR, pF_4 k4⟩
        refine And.intro (show dt_r (2 * N.1 62 33) by rw [hP.2.1]; exact ⟨by omega, by omega⟩) ?_
        refine And.intro (fun z => ?_) (fun z => ?_)
        · have z' : ¬ N.1 62 32 = 2 * N.1 62 33 := z
          rw [hP.1, hP.2.1] at z'
          exact hJ (2, 0, k, false, N) _ ⟨by dsimp only; omega, f1, fun q => (by cases q), fun q => (by cases q), fun _ => ⟨Nat.zero_le _, hK, hP, ⟨fun q => (by cases q), fun q => absurd q.1 (by dsimp only; omega)⟩⟩⟩ (by dsimp only [h3]; omega) ⟨rfl, rfl, rfl, rfl, trivial⟩
        · have z' : N.1 62 32 = 2 * N.1 62 33 := z
          rw [hP.1, hP.2.1] at z'
          exact hJ (2, 0, k, true, N) _ ⟨by dsimp only; omega, f1, fun q => (by cases q), fun q => (by cases q), fun _ => ⟨Nat.zero_le _, hK, hP, ⟨fun _ => ⟨by dsimp only; omega, fun q hq => absurd hq (Nat.not_lt_zero q)⟩, fun _ => rfl⟩⟩⟩ (by dsimp only [h3]; omega) ⟨rfl, rfl, rfl, rfl, trivial⟩
      · have h4 : (p : Int) < 4 := hh
        have hp : p < 4 := by omega
        refine Exists.intro _ (And.intro (k_canDo _ m p k N U (pst U k) hm hp (f1.mM h) hP.2.2.2 pIk) ?_)
        rintro r M0 ⟨rfl, (⟨rfl, g⟩ | ⟨rfl, g⟩)⟩
        · refine And.intro (fun q => absurd (show (1 : Int) = 0 from q) (by decide)) (fun _ => ?_)
          have eF : pF U (pst U k) = p := pF_at hp g k4
          have eP : pP U k = p := eF
          have eV : pV U k = pE U (pst U k).1 p := by unfold pV; rw [eP]
          refine Exists.intro _ (And.intro (k_doNext _ m p k (pN U k) M0 U (pst U k) hm hp (f1.mM h) hP.2.2.2 pIk g hk40 (by omega) hP.1 hP.2.1) ?_)
          rintro r M1 ⟨rfl, a1, a2, a3, a4, a5⟩
          refine hJ (1, 0, k + 1, false, M1) _ ⟨by dsimp only; omega, f1.tr a1, fun q => (by cases q), fun _ => ⟨Nat.zero_le _, fun j hj => ?_, ⟨?_, ?_, fun j hj => ?_, ?_⟩, fun q hq => absurd hq (Nat.not_lt_zero q)⟩, fun q => (by cases q)⟩ (by dsimp only [h3]; omega) ⟨rfl, rfl, rfl, trivial⟩
          · dsimp only at hj
            by_cases z : j = k
            · subst z; rw [eP]; exact hp
            · exact hR j (by omega)
          · dsimp only; rw [a3]; omega
          · dsimp only
            rw [a4]
            show _ = ((pN U k + (if U (pP U k) 1 (pV U k) = 0 then 1 else 0) : Nat) : Int)
            rw [eP, eV]
            split <;> omega
          · dsimp only at hj ⊢
            rw [a5]
            by_cases z : j = k
            · subst z; rw [dm_up1, eP, eV]
            · rw [dm_up2 z]; exact hP.2.2.1 j (by omega)
          · dsimp only
            show MX M1 (pS U (pst U k) (pF U (pst U k)))
            rw [eF]
            exact a2
        · refine And.intro (fun _ => ?_) (fun q => absurd (show (0 : Int) = 0 from rfl) q)
          refine And.intro ⟨by dsimp only [h3]; omega, by dsimp only [h3]; omega⟩ (hJ (1, p + 1, k, false, M0) _ ⟨by dsimp only; omega, f1, fun q => (by cases q), fun _ => ⟨by dsimp only; omega, hR, hP, fun q hq => ?_⟩, fun q => (by cases q)⟩ (by dsimp only [h3]; omega) ⟨rfl, rfl, rfl, trivial⟩)
          dsimp only at hq
          by_cases z : q = p
          · subst z; exact g
          · exact k4 q (by omega)
    | 2, _, _, _, i2 =>
      obtain ⟨k1, hK, hP, k4⟩ := i2 rfl
      have pIk := pI_k hu hK.1
      refine And.intro (fun hh => ?_) (fun hh => ?_)
      · have h4 : (4 : Int) ≤ (p : Int) := hh
        have : p = 4 := by omega
        subst this
        cases b with
        | true =>
          have z := k4.mp rfl
          exact ⟨Or.inr rfl, f1, k, hK, hP, Or.inl ⟨rfl, z.2, z.1⟩⟩
        | false =>
          exact ⟨Or.inl rfl, f1, k, hK, hP, Or.inr ⟨rfl, fun z => by cases k4.mpr ⟨z.2, z.1⟩⟩⟩
      · have h4 : (p : Int) < 4 := hh
        have hp : p < 4 := by omega
        have cl := ch_lt m p
        have er : (4 * ((ch m p : Nat) : Int) + (p : Int)).toNat = 4 * ch m p + p := by omega
        have ml := mM_l (f1.mM h) hp
        cases b with
        | false =>
          refine And.intro (fun _ => ?_) (fun q => absurd rfl q)
          refine And.intro ⟨by dsimp only [h3]; omega, by dsimp only [h3]; omega⟩ (hJ (2, p + 1, k, false, N) _ ⟨by dsimp only; omega, f1, fun q => (by cases q), fun q => (by cases q), fun _ => ⟨by dsimp only; omega, hK, hP, ⟨fun q => (by cases q), fun q => (by cases k4.mpr ⟨q.1, fun r hr => q.2 r (by dsimp only; omega)⟩)⟩⟩⟩ (by dsimp only [h3]; omega) ⟨rfl, rfl, rfl, rfl, trivial⟩)
        | true =>
          have z := k4.mp rfl
          refine And.intro (fun q => absurd (show (1 : Int) = 0 from q) (by decide)) (fun _ => ?_)
          dsimp only [h3]
          (repeat (first | refine And.intro ⟨by (try dsimp only); omega, by (try dsimp only); omega⟩ ?_ | refine And.intro (Or.inl rfl) ?_ | refine And.intro (Or.inr rfl) ?_))
          dsimp only
          rw [ep, hP.2.2.2.1 p hp]
          refine Exists.intro _ (And.intro (k_talkOf _ m p N hm hp) ?_)
          rintro r M0 ⟨rfl, rfl⟩
          (repeat (first | refine And.intro ⟨by (try dsimp only); omega, by (try dsimp only); omega⟩ ?_ | refine And.intro (Or.inl rfl) ?_ | refine And.intro (Or.inr rfl) ?_))
          dsimp only
          rw [er, ml.1]
          refine And.intro (fun y => ?_) (fun y => ?_)
          · have y' : ¬ (pst U k).1 p = ln (U p) p := by omega
            exact And.intro ⟨by omega, by omega⟩ (hJ (2, p + 1, k, false, M0) _ ⟨by dsimp only; omega, f1, fun q => (by cases q), fun q => (by cases q), fun _ => ⟨by dsimp only; omega, hK, hP, ⟨fun q => (by cases q), fun q => absurd (q.2 p (by dsimp only; omega)) y'⟩⟩⟩ (by dsimp only [h3]; omega) ⟨rfl, rfl, rfl, rfl, trivial⟩)
          · have y' : (pst U k).1 p = ln (U p) p := by omega
            refine And.intro ⟨by omega, by omega⟩ (hJ (2, p + 1, k, true, M0) _ ⟨by dsimp only; omega, f1, fun q => (by cases q), fun q => (by cases q), fun _ => ⟨by dsimp only; omega, hK, hP, ⟨fun _ => ⟨z.1, fun r hr => ?_⟩, fun _ => rfl⟩⟩⟩ (by dsimp only [h3]; omega) ⟨rfl, rfl, rfl, rfl, trivial⟩)
            dsimp only at hr ⊢
            by_cases x : r = p
            · subst x; exact y'
            · exact z.2 r (by omega)
    | hd + 3, hh, _, _, _ => exact absurd hh (by omega)
