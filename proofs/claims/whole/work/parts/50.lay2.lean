/-! ===== the Model: layMoments; orders, moments, under ===== -/
def mfr (M M' : dt_M) : Prop := (∀ a, a ≠ 62 → a ≠ 78 → a ≠ 80 → M'.1 a = M.1 a) ∧ (∀ j, j ≠ 25 → j ≠ 26 → j ≠ 27 → M'.1 62 j = M.1 62 j) ∧ ∀ a, a ≠ 79 → M'.2 a = M.2 a
theorem mfr.rf {M : dt_M} : mfr M M := ⟨fun _ _ _ _ => rfl, fun _ _ _ _ => rfl, fun _ _ => rfl⟩
theorem mfr.tr {M M1 M2 : dt_M} (h : mfr M M1) (k : mfr M1 M2) : mfr M M2 := ⟨fun a x y z => (k.1 a x y z).trans (h.1 a x y z), fun a x y z => (k.2.1 a x y z).trans (h.2.1 a x y z), fun a x => (k.2.2 a x).trans (h.2.2 a x)⟩
theorem mfr_a {M : dt_M} {a j : Nat} {x : Int} (h : a = 78 ∨ a = 80) : mfr M (dt_wi M a j x) := ⟨fun b _ _ _ => dm_wi2 (by omega), fun j _ _ _ => by rw [dm_wi2 (by omega)], fun _ _ => rfl⟩
theorem mfr_s {M : dt_M} {j : Nat} {x : Int} (h : j = 25 ∨ j = 26 ∨ j = 27) : mfr M (dt_wi M 62 j x) := ⟨fun b h1 _ _ => dm_wi2 h1, fun i _ _ _ => by rw [dm_wi1, dm_up2 (by omega)], fun _ _ => rfl⟩
theorem mfr_l {M : dt_M} {j : Nat} {x : Int} : mfr M (dt_wl M 79 j x) := ⟨fun b _ _ _ => rfl, fun i _ _ _ => rfl, fun _ h => dm_wl2 h⟩
theorem mfr.rp {M M' : dt_M} {i n : Nat} {T : Nat → Nat → Int} (h : mfr M M') (r : rp M i T n) : rp M' i T n := rp_fr r (fun a h1 h2 => h.1 a (by omega) (by omega) (by omega))
theorem k_layMoments (d n s i : Nat) (M : dt_M) (T : Nat → Nat → Int) (hi : i < 4) (hV : tV T n s) (rT : rp M i T n) : dt_Sp mX7_layMoments (d + 3) [qM, .inl i] M (fun r M' => r = none ∧ mfr M M' ∧ M'.2 79 0 = oB T n 0 ∧ M'.1 80 0 = oA T n 0 ∧ M'.1 62 25 = (dt_ct (conb T n) (cC T) : Int) ∧ mxP T n (M'.1 62 26)) := by
  have hC' : cC T ≤ 1296 := cu_many hV.1
  have spC : 0 < cC T := st_pos (ln T) 4
  refine dt_meth okX7_layMoments (fun pc => pc == 14 || pc == 71) 90 (σ := Nat × Nat × dt_M) (fun t => h3 t.1 14 71 71) (fun t => [some qM, some (.inl i), some (.inl (h3 t.1 (t.2.1 : Int) ((t.2.1 : Int) - 1) 0)), none]) (fun t => t.2.2)
    (fun t => mfr M t.2.2 ∧ t.1 < 2 ∧ t.2.2.1 62 27 = (i : Int) ∧ (t.1 = 0 → t.2.1 ≤ 4 ∧ ∀ q, q ≤ t.2.1 → t.2.2.1 78 q = (st (ln T) q : Int)) ∧
      (t.1 = 1 → t.2.1 ≤ cC T ∧ (∀ q, q ≤ 4 → t.2.2.1 78 q = (st (ln T) q : Int)) ∧ (∀ m', t.2.1 ≤ m' → m' < cC T → t.2.2.2 79 m' = oB T n m' ∧ t.2.2.1 80 m' = oA T n m') ∧ t.2.2.1 62 25 + (dt_ct (conb T n) t.2.1 : Int) = (dt_ct (conb T n) (cC T) : Int) ∧ 0 ≤ t.2.2.1 62 26 ∧ (∀ d, t.2.1 ≤ d → d < cC T → con T n (cG T d) → (und T n (cG T d) : Int) ≤ t.2.2.1 62 26) ∧ (t.2.2.1 62 26 = 0 ∨ ∃ d, d < cC T ∧ con T n (cG T d) ∧ (und T n (cG T d) : Int) = t.2.2.1 62 26)))
    (fun t => h3 t.1 (2000 + (4 - t.2.1)) t.2.1 0) (by decide) (Nat.le_of_ble_eq_true rfl) ?_ ?_
  · intro J hJ
    intro M1 hM1
    have hM1' : M1 = dt_wi M 62 27 (i : Int) := hM1
    (repeat (first | refine And.intro ⟨by (try dsimp only); omega, by (try dsimp only); omega⟩ ?_ | refine And.intro (Or.inl rfl) ?_ | refine And.intro (Or.inr rfl) ?_))
    intro M2 hM2
    have hM2' : M2 = dt_wi M1 78 0 1 := hM2
    refine hJ (0, 0, M2) _ ⟨?_, by dsimp only; omega, ?_, fun _ => ⟨Nat.zero_le _, fun q hq => ?_⟩, fun q => (by cases q)⟩ ⟨rfl, rfl, rfl, trivial⟩
    · rw [hM2', hM1']; exact (mfr_s (by omega)).tr (mfr_a (by omega))
    · dsimp only; rw [hM2', dm_wi2 (by decide), hM1', dm_wi1, dm_up1]
    · dsimp only at hq ⊢
      rw [show q = 0 by omega, hM2', dm_wi1, dm_up1]; rfl
  · rintro ⟨hd, p, N⟩ ⟨f1, hd2, n27, i0, i1⟩ J hJ
    dsimp only at f1 hd2 n27 i0 i1 hJ
    have rN := f1.rp rT
    match hd, hd2, i0, i1 with
    | 0, _, i0, _ =>
      obtain ⟨k1, k2⟩ := i0 rfl
      refine And.intro (fun h => ?_) (fun h => ?_)
      · have hh : (4 : Int) ≤ (p : Int) := h
        have : p = 4 := by omega
        subst this
        have s4 : N.1 78 4 = ((cC T : Nat) : Int) := k2 4 (Nat.le_refl 4)
        intro M1 hM1
        have hM1' : M1 = dt_wi N 62 25 0 := hM1
        intro M2 hM2
        have hM2' : M2 = dt_wi M1 62 26 0 := hM2
        have m78 : M2.1 78 = N.1 78 := by rw [hM2', dm_wi2 (by decide), hM1', dm_wi2 (by decide)]
        refine And.intro ⟨by omega, by omega⟩ (And.intro (show dt_r (M2.1 78 4 - 1) by rw [m78, s4]; exact ⟨by omega, by omega⟩) ?_)
        refine hJ (1, cC T, M2) _ ⟨?_, by dsimp only; omega, ?_, fun q => (by cases q), fun _ => ⟨Nat.le_refl _, fun q hq => by dsimp only; rw [m78]; exact k2 q hq, fun m' a b => absurd b (by dsimp only at a; omega), ?_, ?_, fun d a b => absurd b (by dsimp only at a; omega), Or.inl ?_⟩⟩ (by dsimp only [h3]; omega) ⟨rfl, rfl, ?_, trivial⟩
        · rw [hM2', hM1']; exact (f1.tr (mfr_s (by omega))).tr (mfr_s (by omega))
        · dsimp only; rw [hM2', dm_wi1, dm_up2 (by decide), hM1', dm_wi1, dm_up2 (by decide)]; exact n27
        · dsimp only; rw [hM2', dm_wi1, dm_up2 (by decide), hM1', dm_wi1, dm_up1]; omega
        · dsimp only; rw [hM2', dm_wi1, dm_up1]; decide
        · dsimp only; rw [hM2', dm_wi1, dm_up1]
        · show Sum.inl (((cC T : Nat) : Int) - 1) = Sum.inl (M2.1 78 4 - 1)
          rw [m78, s4]
      · have hh : (p : Int) < 4 := h
        have hp : p < 4 := by omega
        have ep : (p : Int).toNat = p := by omega
        have ep1 : ((p : Int) + 1).toNat = p + 1 := by omega
        have er : (4 * (i : Int) + (p : Int)).toNat = 4 * i + p := by omega
        have g3 := rN.2.2.1 p hp
        have h6 := ln_eq hV.1 hp
        have sC : st (ln T) (p + 1) ≤ cC T := st_mono (ln T) (by omega)
        have e1 : (st (ln T) p : Int) * ((ln T p : Int) + 1) = (st (ln T) (p + 1) : Int) := by
          show _ = ((st (ln T) p * (ln T p + 1) : Nat) : Int)
          rw [Int.natCast_mul]; rfl
        dsimp only [h3]
        (repeat (first | refine And.intro ⟨by (try dsimp only); omega, by (try dsimp only); omega⟩ ?_ | refine And.intro (Or.inl rfl) ?_ | refine And.intro (Or.inr rfl) ?_))
        dsimp only
        rw [er, g3, h6.1, ep, k2 p (Nat.le_refl p)]
        refine And.intro ⟨by omega, by omega⟩ ?_
        show dt_r ((st (ln T) p : Int) * ((ln T p : Int) + 1)) ∧ _
        rw [e1]
        (repeat (first | refine And.intro ⟨by (try dsimp only); omega, by (try dsimp only); omega⟩ ?_ | refine And.intro (Or.inl rfl) ?_ | refine And.intro (Or.inr rfl) ?_))
        dsimp only
        rw [ep1]
        intro M1 hM1
        have hM1' : M1 = dt_wi N 78 (p + 1) (st (ln T) (p + 1) : Int) := hM1
        refine And.intro ⟨by (try dsimp only); omega, by (try dsimp only); omega⟩ (hJ (0, p + 1, M1) _ ⟨by rw [hM1']; exact f1.tr (mfr_a (by omega)), by dsimp only; omega, by dsimp only; rw [hM1', dm_wi2 (by decide)]; exact n27, fun _ => ⟨by dsimp only; omega, fun q hq => ?_⟩, fun q => (by cases q)⟩ (by dsimp only [h3]; omega) ⟨rfl, rfl, rfl, trivial⟩)
        dsimp only at hq ⊢
        rw [hM1', dm_wi1]
        by_cases z : q = p + 1
        · subst z; rw [dm_up1]
        · rw [dm_up2 z]; exact k2 q (by omega)
    | 1, _, _, i1 =>
      obtain ⟨k1, k2, k3, k4, k5, k6, k7⟩ := i1 rfl
      refine And.intro (fun h => ?_) (fun h => ?_)
      · have hh : (p : Int) - 1 < 0 := h
        have : p = 0 := by omega
        subst this
        have h0 := k3 0 (Nat.le_refl 0) spC
        refine ⟨rfl, f1, h0.1, h0.2, ?_, k5, fun d hd => k6 d (Nat.zero_le d) hd, k7⟩
        have k4' : N.1 62 25 + ((0 : Nat) : Int) = (dt_ct (conb T n) (cC T) : Int) := k4
        show N.1 62 25 = _
        omega
      · have hh : 0 ≤ (p : Int) - 1 := h
        obtain ⟨m, rfl⟩ : ∃ m, p = m + 1 := ⟨p - 1, by omega⟩
        have hm : m < cC T := by omega
        have em : (((m + 1 : Nat) : Int) - 1) = (m : Int) := by omega
        have em' : (m : Int).toNat = m := by omega
        have GN : mG N T n i := ⟨n27, fun q hq => k2 q (by omega), rN⟩
        have ctl := ct_le (conb T n) (cC T)
        have ule := und_le (x := cG T m) hV
        show ∃ Ψ, dt_Sp mX7_underAt (d + 2) [qM, .inl (((m + 1 : Nat) : Int) - 1)] N Ψ ∧ _
        rw [em]
        refine Exists.intro _ (And.intro (k_underAt d n s i m N T hi hV GN hm) ?_)
        rintro r M0 ⟨rfl, hr⟩
        have nx : ∀ (M' : dt_M) (w : Option dt_V), mfr M M' → M'.1 62 27 = (i : Int) → (∀ q, q ≤ 4 → M'.1 78 q = (st (ln T) q : Int)) → (∀ m', m ≤ m' → m' < cC T → M'.2 79 m' = oB T n m' ∧ M'.1 80 m' = oA T n m') → M'.1 62 25 + (dt_ct (conb T n) m : Int) = (dt_ct (conb T n) (cC T) : Int) → 0 ≤ M'.1 62 26 → (∀ d, m ≤ d → d < cC T → con T n (cG T d) → (und T n (cG T d) : Int) ≤ M'.1 62 26) → (M'.1 62 26 = 0 ∨ ∃ d, d < cC T ∧ con T n (cG T d) ∧ (und T n (cG T d) : Int) = M'.1 62 26) → dt_r ((m : Int) + -1) ∧ J 71 [some qM, some (.inl i), some (.inl ((m : Int) + -1)), w] [] M' := by
          intro M' w a1 a2 a3 a4 a5 a6 a7 a8
          exact And.intro ⟨by omega, by omega⟩ (hJ (1, m, M') _ ⟨a1, by dsimp only; omega, a2, fun q => (by cases q), fun _ => ⟨by dsimp only; omega, a3, a4, a5, a6, a7, a8⟩⟩ (by dsimp only [h3]; omega) ⟨rfl, rfl, rfl, trivial⟩)
        rcases hr with ⟨hc, rfl⟩ | ⟨hc, rfl⟩
        · have ctm := ct_t (conb_t hc)
          have ctb := ct_mono (conb T n) (show m + 1 ≤ cC T by omega)
          dsimp only [h3]
          (repeat (first | refine And.intro ⟨by (try dsimp only); omega, by (try dsimp only); omega⟩ ?_ | refine And.intro (Or.inl rfl) ?_ | refine And.intro (Or.inr rfl) ?_))
          dsimp only
          rw [em']
          intro M1 hM1
          have hM1' : M1 = dt_wl M0 79 m 0 := hM1
          (repeat (first | refine And.intro ⟨by (try dsimp only); omega, by (try dsimp only); omega⟩ ?_ | refine And.intro (Or.inl rfl) ?_ | refine And.intro (Or.inr rfl) ?_))
          dsimp only
          rw [em']
          intro M2 hM2
          have hM2' : M2 = dt_wi M1 80 m 99 := hM2
          have a62 : M2.1 62 = M0.1 62 := by rw [hM2', dm_wi2 (by decide), hM1', dm_wl3]
          refine And.intro (fun q => absurd (show (und T n (cG T m) : Int) < 0 from q) (by omega)) (fun _ => ?_)
          refine And.intro (show dt_r (M2.1 62 25 + 1) by rw [a62]; exact ⟨by omega, by omega⟩) ?_
          intro M3 hM3
          have hM3' : M3 = dt_wi M2 62 25 (M2.1 62 25 + 1) := hM3
          have b26 : M3.1 62 26 = M0.1 62 26 := by rw [hM3', dm_wi1, dm_up2 (by decide), a62]
          have go : ∀ v : Int, v = max (M0.1 62 26) (und T n (cG T m) : Int) → ∀ M4, M4 = dt_wi M3 62 26 v → ∃ Ψ, dt_Sp mX7_layMoment (d + 2) [qM, .inl m, .inl (und T n (cG T m))] M4 Ψ ∧ ∀ r M', Ψ r M' → r = none ∧ ∀ w, dt_r ((m : Int) + -1) ∧ J 71 [some qM, some (.inl i), some (.inl ((m : Int) + -1)), w] [] M' := by
            intro v hv M4 hM4
            have c0 : ∀ a, a ≠ 62 → a ≠ 80 → M4.1 a = M0.1 a := fun a x y => by rw [hM4, dm_wi2 x, hM3', dm_wi2 x, hM2', dm_wi2 y, hM1', dm_wl3]
            have c1 : M4.1 62 = dt_up (dt_up (M0.1 62) 25 (M0.1 62 25 + 1)) 26 v := by rw [hM4, dm_wi1, hM3', dm_wi1, a62]
            have c2 : M4.1 80 = dt_up (M0.1 80) m 99 := by rw [hM4, dm_wi2 (by decide), hM3', dm_wi2 (by decide), hM2', dm_wi1, hM1', dm_wl3]
            have c3 : M4.2 79 = dt_up (M0.2 79) m 0 := by rw [hM4, dm_wi3, hM3', dm_wi3, hM2', dm_wi3, hM1', dm_wl1]
            have c4 : mfr M M4 := by rw [hM4, hM3', hM2', hM1']; exact (((f1.tr mfr_l).tr (mfr_a (by omega))).tr (mfr_s (by omega))).tr (mfr_s (by omega))
            have G4 : mG M4 T n i := ⟨by rw [c1, dm_up2 (by decide), dm_up2 (by decide)]; exact n27, fun q hq => by rw [c0 78 (by decide) (by decide)]; exact k2 q (by omega), c4.rp rT⟩
            refine ⟨_, k_layMoment (d + 1) n s i m M4 T hi hV G4 hm hc (fun m' a b => ?_), ?_⟩
            · rw [c3, c2, dm_up2 (by omega), dm_up2 (by omega)]
              exact k3 m' (by omega) b
            · rintro r M' ⟨rfl, z1, z2, z3, z4, z5, z6⟩
              refine ⟨rfl, fun w => nx M' w (c4.tr ⟨fun a _ _ x => z1 a x, fun j _ _ _ => by rw [z1 62 (by decide)], z3⟩) (by rw [z1 62 (by decide)]; exact G4.1) (fun q hq => by rw [z1 78 (by decide)]; exact G4.2.1 q (by omega)) (fun m' a b => ?_) ?_ ?_ (fun d a b c => ?_) ?_⟩
              · by_cases z : m' = m
                · subst z; exact ⟨z5, z6⟩
                · rw [z4 m' z, z2 m' z, c3, c2, dm_up2 z, dm_up2 z]; exact k3 m' (by omega) b
              · rw [z1 62 (by decide), c1, dm_up2 (by decide), dm_up1]; omega
              · rw [z1 62 (by decide), c1, dm_up1, hv]; omega
              · rw [z1 62 (by decide), c1, dm_up1, hv]
                by_cases z : d = m
                · subst z; omega
                · have := k6 d (by omega) b c; omega
              · rw [z1 62 (by decide), c1, dm_up1, hv]
                by_cases e : M0.1 62 26 < (und T n (cG T m) : Int)
                · exact Or.inr ⟨m, hm, hc, by omega⟩
                · rw [show max (M0.1 62 26) (und T n (cG T m) : Int) = M0.1 62 26 by omega]
                  exact k7
          refine And.intro (fun z => ?_) (fun z => ?_)
          · have z' : (und T n (cG T m) : Int) ≤ M3.1 62 26 := z
            intro M4 hM4
            have hM4' : M4 = dt_wi M3 62 26 (M3.1 62 26) := hM4
            obtain ⟨Ψ, y1, y2⟩ := go (M3.1 62 26) (by omega) M4 hM4'
            refine Exists.intro Ψ (And.intro y1 ?_)
            intro r M' hr'
            obtain ⟨rfl, y3⟩ := y2 r M' hr'
            exact y3 _
          · have z' : M3.1 62 26 < (und T n (cG T m) : Int) := z
            intro M4 hM4
            have hM4' : M4 = dt_wi M3 62 26 (und T n (cG T m) : Int) := hM4
            obtain ⟨Ψ, y1, y2⟩ := go _ (by omega) M4 hM4'
            refine Exists.intro Ψ (And.intro y1 ?_)
            intro r M' hr'
            obtain ⟨rfl, y3⟩ := y2 r M' hr'
            exact y3 _
        · have hl : m + 1 < cC T := by
            apply Classical.byContradiction
            intro q
            refine hc (con_all hV (fun p hp => ?_)).1
            have e : m = cC T - 1 := by omega
            rw [e]
            exact dg_last hp
          dsimp only [h3]
          (repeat (first | refine And.intro ⟨by (try dsimp only); omega, by (try dsimp only); omega⟩ ?_ | refine And.intro (Or.inl rfl) ?_ | refine And.intro (Or.inr rfl) ?_))
          dsimp only
          rw [em']
          intro M1 hM1
          have hM1' : M1 = dt_wl M0 79 m 0 := hM1
          (repeat (first | refine And.intro ⟨by (try dsimp only); omega, by (try dsimp only); omega⟩ ?_ | refine And.intro (Or.inl rfl) ?_ | refine And.intro (Or.inr rfl) ?_))
          dsimp only
          rw [em']
          intro M2 hM2
          have hM2' : M2 = dt_wi M1 80 m 99 := hM2
          refine And.intro (fun _ => ?_) (fun q => absurd (show (0 : Int) ≤ -9 from q) (by decide))
          refine nx M2 _ (by rw [hM2', hM1']; exact (f1.tr mfr_l).tr (mfr_a (by omega))) (by rw [hM2', dm_wi2 (by decide), hM1', dm_wl3]; exact n27) (by rw [hM2', dm_wi2 (by decide), hM1', dm_wl3]; exact k2) (fun m' a b => ?_) (by rw [hM2', dm_wi2 (by decide), hM1', dm_wl3, ← ct_f (conb_f hc)]; exact k4) (by rw [hM2', dm_wi2 (by decide), hM1', dm_wl3]; exact k5) (fun d a b c => ?_) (by rw [hM2', dm_wi2 (by decide), hM1', dm_wl3]; exact k7)
          · rw [hM2', dm_wi3, dm_wi1, hM1', dm_wl1, dm_wl3]
            by_cases z : m' = m
            · subst z; rw [dm_up1, dm_up1, oB_n hl hc, oA_n hl hc]; exact ⟨rfl, rfl⟩
            · rw [dm_up2 z, dm_up2 z]; exact k3 m' (by omega) b
          · rw [hM2', dm_wi2 (by decide), hM1', dm_wl3]
            by_cases z : d = m
            · subst z; exact absurd c hc
            · exact k6 d (by omega) b c
    | hd + 2, h, _, _ => exact absurd h (by omega)
theorem k_orders (d : Nat) (i : Int) (M : dt_M) (T : Nat → Nat → Nat → Int) (hV : mV M T) : dt_Sp mX7_orders (d + 4) [qM, .inl i] M (fun r M' => mfr M M' ∧ r = some (.inr (.inl (if 0 ≤ i ∧ i < 4 then oB (T i.toNat) (T i.toNat 0 7).toNat 0 else -1)))) := by
  refine dt_flat okX7_orders 60 (by decide) (Nat.le_of_ble_eq_true rfl) (fun J => ?_)
  refine Exists.intro _ (And.intro (c_noTalk _ i M) ?_)
  rintro r M0 ⟨rfl, rfl⟩
  by_cases hi : 0 ≤ i ∧ i < 4
  · rw [if_pos hi, if_pos hi]
    refine And.intro (fun _ => ?_) (fun h => absurd (show (0 : Int) = 0 from rfl) h)
    obtain ⟨n, s, v, rT⟩ := hV i.toNat (by omega)
    have e3 := mV_n hV (i := i.toNat) (by omega)
    have e7 := rT.1
    have e7' : (T i.toNat 0 7).toNat = n := by omega
    have hk := k_layMoments d n s i.toNat M0 (T i.toNat) (by omega) v rT
    rw [show ((i.toNat : Nat) : Int) = i by omega] at hk
    refine Exists.intro _ (And.intro hk ?_)
    rintro r M1 ⟨rfl, w1, w2, w3, w4, w5⟩
    (repeat (first | refine And.intro ⟨by (try dsimp only); omega, by (try dsimp only); omega⟩ ?_ | refine And.intro (Or.inl rfl) ?_ | refine And.intro (Or.inr rfl) ?_))
    refine ⟨w1, ?_⟩
    rw [e7', ← w2]
    rfl
  · rw [if_neg hi, if_neg hi]
    refine And.intro (fun h => absurd (show (1 : Int) = 0 from h) (by decide)) (fun _ => ?_)
    exact ⟨mfr.rf, rfl⟩
theorem k_moments (d : Nat) (i : Int) (M : dt_M) (T : Nat → Nat → Nat → Int) (hV : mV M T) : dt_Sp mX7_moments (d + 4) [qM, .inl i] M (fun r M' => mfr M M' ∧ r = some (.inl (if 0 ≤ i ∧ i < 4 then (dt_ct (conb (T i.toNat) (T i.toNat 0 7).toNat) (cC (T i.toNat)) : Int) else -1))) := by
  refine dt_flat okX7_moments 60 (by decide) (Nat.le_of_ble_eq_true rfl) (fun J => ?_)
  refine Exists.intro _ (And.intro (c_noTalk _ i M) ?_)
  rintro r M0 ⟨rfl, rfl⟩
  by_cases hi : 0 ≤ i ∧ i < 4
  · rw [if_pos hi, if_pos hi]
    refine And.intro (fun _ => ?_) (fun h => absurd (show (0 : Int) = 0 from rfl) h)
    obtain ⟨n, s, v, rT⟩ := hV i.toNat (by omega)
    have e3 := mV_n hV (i := i.toNat) (by omega)
    have e7 := rT.1
    have e7' : (T i.toNat 0 7).toNat = n := by omega
    have hk := k_layMoments d n s i.toNat M0 (T i.toNat) (by omega) v rT
    rw [show ((i.toNat : Nat) : Int) = i by omega] at hk
    refine Exists.intro _ (And.intro hk ?_)
    rintro r M1 ⟨rfl, w1, w2, w3, w4, w5⟩
    refine ⟨w1, ?_⟩
    rw [e7', ← w4]
  · rw [if_neg hi, if_neg hi]
    refine And.intro (fun h => absurd (show (1 : Int) = 0 from h) (by decide)) (fun _ => ?_)
    exact ⟨mfr.rf, rfl⟩
theorem k_under (d : Nat) (i w : Int) (M : dt_M) (T : Nat → Nat → Nat → Int) (hV : mV M T) : dt_Sp mX7_under (d + 4) [qM, .inl i, .inl w] M (fun r M' => mfr M M' ∧ ∃ v, r = some (.inl v) ∧ unA T i w v) := by
  refine dt_flat okX7_under 60 (by decide) (Nat.le_of_ble_eq_true rfl) (fun J => ?_)
  refine Exists.intro _ (And.intro (c_noTalk _ i M) ?_)
  rintro r M0 ⟨rfl, rfl⟩
  by_cases hi : 0 ≤ i ∧ i < 4
  · rw [if_pos hi]
    refine And.intro (fun h => absurd (show (0 : Int) = 0 from rfl) h) (fun _ => ?_)
    refine Exists.intro _ (And.intro (c_in _ _ _ _ M0) ?_)
    rintro r M0 ⟨rfl, rfl⟩
    by_cases hw : 0 ≤ w ∧ w ≤ 1
    · rw [if_pos hw]
      refine And.intro (fun _ => ?_) (fun h => absurd (show (1 : Int) = 0 from h) (by decide))
      obtain ⟨n, s, v, rT⟩ := hV i.toNat (by omega)
      have e3 := mV_n hV (i := i.toNat) (by omega)
      have e7 := rT.1
      have e7' : (T i.toNat 0 7).toNat = n := by omega
      have hk := k_layMoments d n s i.toNat M0 (T i.toNat) (by omega) v rT
      rw [show ((i.toNat : Nat) : Int) = i by omega] at hk
      refine Exists.intro _ (And.intro hk ?_)
      rintro r M1 ⟨rfl, w1, w2, w3, w4, w5⟩
      refine And.intro (fun z => ?_) (fun z => ?_)
      · (repeat (first | refine And.intro ⟨by (try dsimp only); omega, by (try dsimp only); omega⟩ ?_ | refine And.intro (Or.inl rfl) ?_ | refine And.intro (Or.inr rfl) ?_))
        exact ⟨w1, M1.1 80 0, rfl, Or.inr (Or.inl ⟨hi, by omega, by rw [e7']; exact w3⟩)⟩
      · exact ⟨w1, M1.1 62 26, rfl, Or.inl ⟨hi, z, by rw [e7']; exact w5⟩⟩
    · rw [if_neg hw]
      refine And.intro (fun h => absurd (show (0 : Int) = 0 from rfl) h) (fun _ => ?_)
      exact ⟨mfr.rf, _, rfl, Or.inr (Or.inr ⟨fun q => hw q.2, rfl⟩)⟩
  · rw [if_neg hi]
    refine And.intro (fun _ => ?_) (fun h => absurd (show (1 : Int) = 0 from h) (by decide))
    exact ⟨mfr.rf, _, rfl, Or.inr (Or.inr ⟨fun q => hi q.1, rfl⟩)⟩
