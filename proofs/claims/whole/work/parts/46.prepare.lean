/-! ===== Lattice: prepare ===== -/
def lfr (M M' : dt_M) : Prop := (∀ a, (a < 46 ∨ 52 < a) → M'.1 a = M.1 a) ∧ ∀ a, a ≠ 46 → a ≠ 47 → M'.2 a = M.2 a
theorem lfr.rf {M : dt_M} : lfr M M := ⟨fun _ _ => rfl, fun _ _ _ => rfl⟩
theorem lfr.tr {M M1 M2 : dt_M} (h : lfr M M1) (k : lfr M1 M2) : lfr M M2 := ⟨fun a x => (k.1 a x).trans (h.1 a x), fun a x y => (k.2 a x y).trans (h.2 a x y)⟩
theorem lfr_w {M : dt_M} {a j : Nat} {x : Int} (h : 46 ≤ a ∧ a ≤ 52) : lfr M (dt_wi M a j x) := ⟨fun b hb => dm_wi2 (by omega), fun _ _ _ => rfl⟩
theorem lfr_l {M : dt_M} {j : Nat} {x : Int} : lfr M (dt_wl M 47 j x) := ⟨fun b hb => rfl, fun _ _ h => dm_wl2 h⟩
theorem LA_i {T : Nat → Nat → Int} {n s : Nat} {rw uw lt : Nat → Int} (h : tV T n s) (r0 : rw 0 = 1) (r1 : ∀ d, 0 < d → d < cC T → rw d = 0) (u0 : uw 0 = 0) (l0 : lt 0 = 0) (l1 : ∀ d, 0 < d → d < cC T → lt d = 20) : LA T n 0 0 rw uw lt := by
  have sp : 0 < cC T := st_pos (ln T) 4
  have c0 : con T n (cG T 0) := con_0 (fun p => dg_0)
  have a0 := oA_10 h (c := 0) sp c0
  have a1 := oA_99 (c := 0) h
  refine ⟨fun d _ x2 => ?_, fun d _ x2 x3 => ?_, fun d _ x2 => ?_, ?_, fun d _ x2 => ?_, 0, Nat.le_refl _, sp, by rw [l0]; omega⟩
  · by_cases q : d = 0
    · subst q; rw [r0]; exact ⟨by decide, fun _ => ⟨c0, Or.inl rfl⟩, fun _ => by decide⟩
    · rw [r1 d (by omega) x2]
      refine ⟨by decide, fun z => absurd z (by decide), fun z => ?_⟩
      rcases z.2 with z | ⟨p, z1, z2, z3, z4⟩
      · exact absurd z q
      · omega
  · by_cases q : d = 0
    · subst q; rw [u0, und_0 (fun p => dg_0)]; rfl
    · rw [r1 d (by omega) x2] at x3; exact absurd x3 (by decide)
  · by_cases q : d = 0
    · subst q; rw [l0, r0]; exact ⟨by decide, by decide, fun z => absurd z (by decide)⟩
    · rw [l1 d (by omega) x2]; exact ⟨by decide, by decide, fun _ => rfl⟩
  · rw [sm_ch (i := 0) (g := fun _ => 0) sp (fun j hj hne => by
      show (if 0 ≤ j then rw j * oB T n j else 0) = 0
      rw [if_pos (Nat.zero_le _), r1 j (by omega) hj, Int.zero_mul])]
    have : ∀ k, sm (fun _ => 0) k = 0 := by
      intro k
      induction k with
      | zero => rfl
      | succ k ih => show sm (fun _ => 0) k + 0 = 0; rw [ih]; rfl
    rw [this]
    show 0 + ((if 0 ≤ 0 then rw 0 * oB T n 0 else 0) - 0) = oB T n 0
    rw [if_pos (Nat.le_refl 0), r0]
    omega
  · by_cases q : d = 0
    · subst q; omega
    · rw [l1 d (by omega) x2]; omega
theorem c_prepare (d k n s : Nat) (M : dt_M) (T : Nat → Nat → Int) (hT : ∀ g, g < 8 → tk M k g = T g) (hk : k + 8 ≤ 42) (hV : tV T n s) : dt_Sp mX0_prepare (d + 1) [qL, qT k] M (fun r M' => r = some (.inl (cC T)) ∧ lfr M M' ∧ lG M' T n 0 ∧ M'.1 46 7 = 0 ∧ M'.1 46 8 = 0 ∧ LA T n 0 0 (M'.2 47) (M'.1 48) (M'.1 49)) := by
  have hC' : cC T ≤ 1296 := cu_many hV.1
  have sp : 0 < cC T := st_pos (ln T) 4
  have hn : n ≤ 20 := by have := hV.1.1; omega
  refine dt_meth okX0_prepare (fun pc => pc == 4 || pc == 37 || pc == 94) 80 (σ := Nat × Nat × Nat × dt_M) (fun t => h3 t.1 4 37 94) (fun t => [some qL, some (qT k), some (.inl (h3 t.1 (st (ln T) t.2.1) (st (ln T) (t.2.1 + 1)) (cC T) : Nat)), some (.inl t.2.1), h3 t.1 none (some (.inl t.2.2.1)) none, none]) (fun t => t.2.2.2)
    (fun t => lfr M t.2.2.2 ∧ t.1 < 3 ∧ (t.1 = 0 → t.2.1 ≤ 4 ∧ t.2.2.1 = 0 ∧ ∀ q, q < t.2.1 → t.2.2.2.1 50 q = (st (ln T) q : Int) ∧ t.2.2.2.1 51 q = 0) ∧ (t.1 = 1 → t.2.1 < 4 ∧ t.2.2.1 ≤ ln T t.2.1 ∧ ∀ q, q ≤ t.2.1 → t.2.2.2.1 50 q = (st (ln T) q : Int) ∧ t.2.2.2.1 51 q = 0) ∧
      (t.1 < 2 → ∀ f, f < n → (pt T f < t.2.1 ∨ (pt T f = t.2.1 ∧ pl T f < t.2.2.1)) → t.2.2.2.1 52 f = (pl T f : Int)) ∧
      (t.1 = 2 → t.2.1 ≤ cC T ∧ lG t.2.2.2 T n 0 ∧ ∀ j, j < t.2.1 → t.2.2.2.2 47 j = 0 ∧ t.2.2.2.1 49 j = 20))
    (fun t => h3 t.1 (5000 + (4 - t.2.1) * 100 + 99) (5000 + (4 - t.2.1) * 100 + (50 - t.2.2.1)) (cC T - t.2.1)) (by decide) (Nat.le_of_ble_eq_true rfl) ?_ ?_
  · intro J hJ
    exact hJ (0, 0, 0, M) _ ⟨lfr.rf, by dsimp only; omega, fun _ => ⟨Nat.zero_le _, rfl, fun q hq => absurd hq (Nat.not_lt_zero q)⟩, fun q => (by cases q), fun _ f _ q => (by dsimp only at q; omega), fun q => (by cases q)⟩ ⟨rfl, rfl, rfl, rfl, trivial⟩
  · rintro ⟨hd, p, kk, N⟩ ⟨f1, hd3, i0, i1, i2, i3⟩ J hJ
    dsimp only at f1 hd3 i0 i1 i2 i3 hJ
    have TN : ∀ g, g < 8 → tk N k g = T g := fun g hg => by rw [← hT g hg]; exact f1.1 (k + g) (by omega)
    have t6 : N.1 (k + 6) = T 6 := TN 6 (by omega)
    match hd, hd3, i0, i1, i2, i3 with
    | 0, _, i0, _, i2, _ =>
      obtain ⟨k1, rfl, k3⟩ := i0 rfl
      have hpl := i2 (by omega)
      have ep : (p : Int).toNat = p := by omega
      refine And.intro (fun h => ?_) (fun h => ?_)
      · have hh : (4 : Int) ≤ (p : Int) := h
        have : p = 4 := by omega
        subst this
        refine hJ (2, 0, 0, N) _ ⟨f1, by dsimp only; omega, fun q => (by cases q), fun q => (by cases q), fun q => (by dsimp only at q; omega), fun _ => ⟨Nat.zero_le _, ⟨fun q hq => (k3 q hq).1, fun q hq => ?_, fun f hf => hpl f hf (Or.inl (pt_lt hV.1 hf).1)⟩, fun j hj => absurd hj (Nat.not_lt_zero j)⟩⟩ (by dsimp only [h3]; omega) ⟨rfl, rfl, ?_, rfl, trivial⟩
        · rw [(k3 q hq).2]; show (0 : Int) = ((dg (ln T) 0 q : Nat) : Int); rw [dg_0]; rfl
        · exact congrArg Sum.inl (if_neg (show ¬ (1296 : Int) < ((cC T : Nat) : Int) by omega)).symm
      · have hh : (p : Int) < 4 := h
        have hp : p < 4 := by omega
        have h6 := ln_eq hV.1 hp
        have sC : st (ln T) (p + 1) ≤ cC T := st_mono (ln T) (by omega)
        have e1 : (st (ln T) p : Int) * ((ln T p : Int) + 1) = (st (ln T) (p + 1) : Int) := by
          show _ = ((st (ln T) p * (ln T p + 1) : Nat) : Int)
          rw [Int.natCast_mul]; rfl
        (repeat (first | refine And.intro ⟨by (try dsimp only); omega, by (try dsimp only); omega⟩ ?_ | refine And.intro (Or.inl rfl) ?_ | refine And.intro (Or.inr rfl) ?_))
        dsimp only
        rw [ep]
        intro M1 hM1
        have hM1' : M1 = dt_wi N 50 p (st (ln T) p : Int) := hM1
        (repeat (first | refine And.intro ⟨by (try dsimp only); omega, by (try dsimp only); omega⟩ ?_ | refine And.intro (Or.inl rfl) ?_ | refine And.intro (Or.inr rfl) ?_))
        dsimp only
        rw [ep]
        intro M2 hM2
        have g0 : ∀ a, a ≠ 50 → a ≠ 51 → M2.1 a = N.1 a := fun a x y => by rw [hM2, dm_wi2 y, hM1', dm_wi2 x]
        have g1 : M2.1 50 = dt_up (N.1 50) p (st (ln T) p : Int) := by rw [hM2, dm_wi2 (by decide), hM1', dm_wi1]
        have g2 : M2.1 51 = dt_up (N.1 51) p 0 := by rw [hM2, dm_wi1, hM1', dm_wi2 (by decide)]
        have g3 : lfr M M2 := by rw [hM2]; exact (f1.tr (by rw [hM1']; exact lfr_w (by decide))).tr (lfr_w (by decide))
        (repeat (first | refine And.intro ⟨by (try dsimp only); omega, by (try dsimp only); omega⟩ ?_ | refine And.intro (Or.inl rfl) ?_ | refine And.intro (Or.inr rfl) ?_))
        dsimp only
        rw [ep, g0 (k + 6) (by omega) (by omega), t6, h6.1]
        refine And.intro ⟨by omega, by omega⟩ ?_
        show dt_r ((st (ln T) p : Int) * ((ln T p : Int) + 1)) ∧ _
        rw [e1]
        refine And.intro ⟨by omega, by omega⟩ ?_
        refine hJ (1, p, 0, M2) _ ⟨g3, by dsimp only; omega, fun q => (by cases q), fun _ => ⟨hp, Nat.zero_le _, fun q hq => ?_⟩, fun _ f hf q => ?_, fun q => (by cases q)⟩ (by dsimp only [h3]; omega) ⟨rfl, rfl, ?_, rfl, rfl, trivial⟩
        · dsimp only at hq ⊢
          rw [g1, g2]
          by_cases z : q = p
          · subst z; rw [dm_up1, dm_up1]; exact ⟨rfl, rfl⟩
          · rw [dm_up2 z, dm_up2 z]; exact k3 q (by omega)
        · dsimp only at q ⊢
          rw [g0 52 (by decide) (by decide)]
          exact hpl f hf (by omega)
        · exact congrArg Sum.inl e1.symm
    | 1, _, _, i1, i2, _ =>
      obtain ⟨hp, k2, k3⟩ := i1 rfl
      have hpl := i2 (by omega)
      have ep : (p : Int).toNat = p := by omega
      have h6 := ln_eq hV.1 hp
      (repeat (first | refine And.intro ⟨by (try dsimp only); omega, by (try dsimp only); omega⟩ ?_ | refine And.intro (Or.inl rfl) ?_ | refine And.intro (Or.inr rfl) ?_))
      dsimp only
      rw [ep, t6, h6.1]
      refine And.intro (fun h => ?_) (fun h => ?_)
      · have hh : ((ln T p : Nat) : Int) ≤ (kk : Int) := h
        have : kk = ln T p := by omega
        subst this
        refine And.intro ⟨by (try dsimp only); omega, by (try dsimp only); omega⟩ (hJ (0, p + 1, 0, N) _ ⟨f1, by dsimp only; omega, fun _ => ⟨by dsimp only; omega, rfl, fun q hq => k3 q (by dsimp only at hq; omega)⟩, fun q => (by cases q), fun _ f hf q => ?_, fun q => (by cases q)⟩ (by dsimp only [h3]; omega) ⟨rfl, rfl, rfl, rfl, trivial⟩)
        refine hpl f hf ?_
        dsimp only at q
        by_cases z : pt T f = p
        · right
          have := (pl_spec hV.1 hf).1
          rw [z] at this
          exact ⟨z, this⟩
        · omega
      · have hh : (kk : Int) < ((ln T p : Nat) : Int) := h
        have hkk : kk < ln T p := by omega
        refine Exists.intro _ (And.intro (c_onLine _ k (p : Int) (kk : Int) N (fun q hq => by rw [TN 6 (by omega)]; have := ln_eq hV.1 hq; omega)) ?_)
        rintro r M0 ⟨rfl, rfl⟩
        rw [TN 6 (by omega), TN 7 (by omega), ep, h6.1, if_pos (by omega)]
        obtain ⟨e, e1, e2, e3, e4⟩ := pl_at hV.1 hp hkk
        have ej : ((p : Int) * 10 + (kk : Int)).toNat = p * 10 + kk := by omega
        have ee : (e : Int).toNat = e := by omega
        rw [ej, e1]
        refine And.intro (fun z => absurd (show (e : Int) = -1 from z) (by omega)) (fun _ => ?_)
        (repeat (first | refine And.intro ⟨by (try dsimp only); omega, by (try dsimp only); omega⟩ ?_ | refine And.intro (Or.inl rfl) ?_ | refine And.intro (Or.inr rfl) ?_))
        dsimp only
        rw [ee]
        intro M1 hM1
        have hM1' : M1 = dt_wi M0 52 e (kk : Int) := hM1
        refine And.intro ⟨by (try dsimp only); omega, by (try dsimp only); omega⟩ (hJ (1, p, kk + 1, M1) _ ⟨by rw [hM1']; exact f1.tr (lfr_w (by decide)), by dsimp only; omega, fun q => (by cases q), fun _ => ⟨hp, by dsimp only; omega, fun q hq => ?_⟩, fun _ f hf q => ?_, fun q => (by cases q)⟩ (by dsimp only [h3]; omega) ⟨rfl, rfl, rfl, rfl, rfl, trivial⟩)
        · dsimp only
          rw [hM1', dm_wi2 (by decide), dm_wi2 (by decide)]
          exact k3 q hq
        · dsimp only at q ⊢
          rw [hM1', dm_wi1]
          by_cases z : f = e
          · subst z; rw [dm_up1, e4]
          · rw [dm_up2 z]
            refine hpl f hf ?_
            by_cases y : pt T f = p ∧ pl T f = kk
            · exfalso
              have := (pl_spec hV.1 hf).2
              rw [y.1, y.2] at this
              omega
            · omega
    | 2, _, _, _, _, i3 =>
      obtain ⟨k1, k2, k3⟩ := i3 rfl
      have ep : (p : Int).toNat = p := by omega
      refine And.intro (fun h => ?_) (fun h => ?_)
      · have hh : ((cC T : Nat) : Int) ≤ (p : Int) := h
        have : p = cC T := by omega
        subst this
        (repeat (first | refine And.intro ⟨by (try dsimp only); omega, by (try dsimp only); omega⟩ ?_ | refine And.intro (Or.inl rfl) ?_ | refine And.intro (Or.inr rfl) ?_))
        intro M1 hM1
        have hM1' : M1 = dt_wl N 47 0 1 := hM1
        (repeat (first | refine And.intro ⟨by (try dsimp only); omega, by (try dsimp only); omega⟩ ?_ | refine And.intro (Or.inl rfl) ?_ | refine And.intro (Or.inr rfl) ?_))
        intro M2 hM2
        have hM2' : M2 = dt_wi M1 48 0 0 := hM2
        (repeat (first | refine And.intro ⟨by (try dsimp only); omega, by (try dsimp only); omega⟩ ?_ | refine And.intro (Or.inl rfl) ?_ | refine And.intro (Or.inr rfl) ?_))
        intro M3 hM3
        have hM3' : M3 = dt_wi M2 49 0 0 := hM3
        intro M4 hM4
        have hM4' : M4 = dt_wi M3 46 7 0 := hM4
        intro M5 hM5
        have hM5' : M5 = dt_wi M4 46 8 0 := hM5
        have r0 : ∀ a, a ≠ 46 → a ≠ 48 → a ≠ 49 → M5.1 a = N.1 a := fun a x y z => by rw [hM5', dm_wi2 x, hM4', dm_wi2 x, hM3', dm_wi2 z, hM2', dm_wi2 y, hM1', dm_wl3]
        have r1 : M5.2 47 = dt_up (N.2 47) 0 1 := by rw [hM5', dm_wi3, hM4', dm_wi3, hM3', dm_wi3, hM2', dm_wi3, hM1', dm_wl1]
        have r2 : M5.1 48 = dt_up (N.1 48) 0 0 := by rw [hM5', dm_wi2 (by decide), hM4', dm_wi2 (by decide), hM3', dm_wi2 (by decide), hM2', dm_wi1, hM1', dm_wl3]
        have r3 : M5.1 49 = dt_up (N.1 49) 0 0 := by rw [hM5', dm_wi2 (by decide), hM4', dm_wi2 (by decide), hM3', dm_wi1, hM2', dm_wi2 (by decide), hM1', dm_wl3]
        have r4 : M5.1 46 8 = 0 := by rw [hM5', dm_wi1, dm_up1]
        have r5 : M5.1 46 7 = 0 := by rw [hM5', dm_wi1, dm_up2 (by decide), hM4', dm_wi1, dm_up1]
        have r6 : lfr M M5 := by
          refine f1.tr ⟨fun a ha => r0 a (by omega) (by omega) (by omega), fun a x y => ?_⟩
          rw [hM5', dm_wi3, hM4', dm_wi3, hM3', dm_wi3, hM2', dm_wi3, hM1', dm_wl2 y]
        refine ⟨rfl, r6, ⟨fun q hq => by rw [r0 50 (by decide) (by decide) (by decide)]; exact k2.1 q hq, fun q hq => by rw [r0 51 (by decide) (by decide) (by decide)]; exact k2.2.1 q hq, fun f hf => by rw [r0 52 (by decide) (by decide) (by decide)]; exact k2.2.2 f hf⟩, r5, r4, ?_⟩
        refine LA_i hV ?_ ?_ ?_ ?_ ?_
        · rw [r1, dm_up1]
        · intro d h0 h1; rw [r1, dm_up2 (by omega)]; exact (k3 d h1).1
        · rw [r2, dm_up1]
        · rw [r3, dm_up1]
        · intro d h0 h1; rw [r3, dm_up2 (by omega)]; exact (k3 d h1).2
      · have hh : (p : Int) < ((cC T : Nat) : Int) := h
        (repeat (first | refine And.intro ⟨by (try dsimp only); omega, by (try dsimp only); omega⟩ ?_ | refine And.intro (Or.inl rfl) ?_ | refine And.intro (Or.inr rfl) ?_))
        dsimp only
        rw [ep]
        intro M1 hM1
        have hM1' : M1 = dt_wl N 47 p 0 := hM1
        (repeat (first | refine And.intro ⟨by (try dsimp only); omega, by (try dsimp only); omega⟩ ?_ | refine And.intro (Or.inl rfl) ?_ | refine And.intro (Or.inr rfl) ?_))
        dsimp only
        rw [ep]
        intro M2 hM2
        have hM2' : M2 = dt_wi M1 49 p 20 := hM2
        have r0 : ∀ a, a ≠ 49 → M2.1 a = N.1 a := fun a z => by rw [hM2', dm_wi2 z, hM1', dm_wl3]
        have r1 : M2.2 47 = dt_up (N.2 47) p 0 := by rw [hM2', dm_wi3, hM1', dm_wl1]
        have r3 : M2.1 49 = dt_up (N.1 49) p 20 := by rw [hM2', dm_wi1, hM1', dm_wl3]
        have r6 : lfr M M2 := by
          refine f1.tr ⟨fun a ha => r0 a (by omega), fun a x y => ?_⟩
          rw [hM2', dm_wi3, hM1', dm_wl2 y]
        refine And.intro ⟨by (try dsimp only); omega, by (try dsimp only); omega⟩ (hJ (2, p + 1, 0, M2) _ ⟨r6, by dsimp only; omega, fun q => (by cases q), fun q => (by cases q), fun q => (by dsimp only at q; omega), fun _ => ⟨by dsimp only; omega, ⟨fun q hq => by dsimp only; rw [r0 50 (by decide)]; exact k2.1 q hq, fun q hq => by dsimp only; rw [r0 51 (by decide)]; exact k2.2.1 q hq, fun f hf => by dsimp only; rw [r0 52 (by decide)]; exact k2.2.2 f hf⟩, fun j hj => ?_⟩⟩ (by dsimp only [h3]; omega) ⟨rfl, rfl, rfl, rfl, trivial⟩)
        dsimp only at hj ⊢
        rw [r1, r3]
        by_cases z : j = p
        · subst z; rw [dm_up1, dm_up1]; exact ⟨rfl, rfl⟩
        · rw [dm_up2 z, dm_up2 z]; exact k3 j (by omega)
    | hd + 3, h, _, _, _, _ => exact absurd h (by omega)
