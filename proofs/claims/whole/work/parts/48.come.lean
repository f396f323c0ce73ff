/-! ===== the Model: moments ===== -/
theorem dn_rem {x y : Int} (hx : dt_r x) (hy : dt_r y) (h0 : 0 ≤ x) (h1 : 0 < y) : dt_rem x y = x % y := by
  have hd : (Int32.ofInt x / Int32.ofInt y).toInt = x / y := dn_div hx hy h0 h1
  have a : 0 ≤ x / y := Int.ediv_nonneg h0 (by omega)
  have b : x / y * y ≤ x := Int.ediv_mul_le x (by omega)
  have c : 0 ≤ x / y * y := Int.mul_nonneg a (by omega)
  have := hx.2
  unfold dt_rem
  rw [Int32.toInt_sub, Int32.toInt_mul, hd, dn_ti hx, dn_ti hy]
  rw [show (x / y * y).bmod (2 ^ 32) = x / y * y from Int.bmod_eq_of_le (by omega) (by omega)]
  rw [show (x - x / y * y).bmod (2 ^ 32) = x - x / y * y from Int.bmod_eq_of_le (by omega) (by omega)]
  rw [Int.emod_def, Int.mul_comm]
/-- the Model's moments are of the talk i, which is T -/
def mG (M : dt_M) (T : Nat → Nat → Int) (n i : Nat) : Prop := M.1 62 27 = (i : Int) ∧ (∀ p, p < 5 → M.1 78 p = (st (ln T) p : Int)) ∧ rp M i T n
theorem k_come (d n s i m p : Nat) (M : dt_M) (T : Nat → Nat → Int) (hi : i < 4) (hV : tV T n s) (hG : mG M T n i) (hm : m < cC T) (hp : p < 4) : dt_Sp mX7_come d [qM, .inl m, .inl p] M (fun r M' => M' = M ∧ r = some (.inl (cG T m p : Int))) := by
  have hC' : cC T ≤ 1296 := cu_many hV.1
  have sC : st (ln T) p ≤ cC T := st_mono (ln T) (by omega)
  have sp := st_pos (ln T) p
  have ep : (p : Int).toNat = p := by omega
  have er : ((i : Int) * 4 + (p : Int)).toNat = 4 * i + p := by omega
  have h6 := ln_eq hV.1 hp
  have g3 := hG.2.2.2.2.1 p hp
  refine dt_flat okX7_come 40 (by decide) (Nat.le_of_ble_eq_true rfl) (fun J => ?_)
  (repeat (first | refine And.intro ⟨by (try dsimp only); omega, by (try dsimp only); omega⟩ ?_ | refine And.intro (Or.inl rfl) ?_ | refine And.intro (Or.inr rfl) ?_))
  rw [ep, hG.2.1 p (by omega)]
  refine And.intro (by omega) ?_
  have hdv : dt_div (m : Int) (st (ln T) p : Int) = ((m / st (ln T) p : Nat) : Int) := by rw [dn_div ⟨by omega, by omega⟩ ⟨by omega, by omega⟩ (by omega) (by omega)]; rfl
  rw [hdv]
  have q := Nat.div_le_self m (st (ln T) p)
  have q0 : (0 : Int) ≤ ((m / st (ln T) p : Nat) : Int) := Int.natCast_nonneg _
  refine And.intro ?_ ?_
  · show dt_r (M.1 62 27 * 4)
    rw [hG.1]; exact ⟨by omega, by omega⟩
  · refine And.intro ?_ ?_
    · show dt_r (M.1 62 27 * 4 + (p : Int))
      rw [hG.1]; exact ⟨by omega, by omega⟩
    · refine And.intro ?_ ?_
      · show 0 ≤ M.1 62 27 * 4 + (p : Int) ∧ M.1 62 27 * 4 + (p : Int) < 16
        rw [hG.1]; exact ⟨by omega, by omega⟩
      · show dt_r (M.1 69 (M.1 62 27 * 4 + (p : Int)).toNat + 1) ∧ _
        rw [hG.1, er, g3, h6.1]
        refine And.intro ⟨by omega, by omega⟩ ?_
        refine And.intro ?_ ?_
        · omega
        · refine ⟨rfl, ?_⟩
          rw [dn_rem ⟨by omega, by omega⟩ ⟨by omega, by omega⟩ (by omega) (by omega)]
          rfl
theorem k_isDone (d n s i m e : Nat) (M : dt_M) (T : Nat → Nat → Int) (hi : i < 4) (hV : tV T n s) (hG : mG M T n i) (hm : m < cC T) (he : e < n) : dt_Sp mX7_isDone (d + 1) [qM, .inl m, .inl e] M (fun r M' => M' = M ∧ r = some (.inl (cond (dnb T (cG T m) e) 1 0))) := by
  have hn : n ≤ 20 := by have := hV.1.1; omega
  have hp := pt_lt hV.1 he
  have h6 := ln_eq hV.1 hp.1
  have gl : cG T m (pt T e) ≤ ln T (pt T e) := dg_le _ _ _
  have e1 : (20 * (i : Int) + (e : Int)).toNat = 20 * i + e := by omega
  have r2 := (hG.2.2.2.1 e he).2.1
  have hps := pl_spec hV.1 he
  refine dt_meth okX7_isDone (fun pc => pc == 31) 60 (σ := Nat × Bool) (fun t => 31) (fun t => [some qM, some (.inl m), some (.inl e), some (.inl (pt T e)), some (.inl (4 * (i : Int) + (pt T e : Int))), some (.inl (cond t.2 1 0)), some (.inl t.1)]) (fun t => M) (fun t => t.1 ≤ cG T m (pt T e) ∧ (t.2 = true ↔ pl T e < t.1)) (fun t => 20 - t.1) (by decide) (Nat.le_of_ble_eq_true rfl) ?_ ?_
  · intro J hJ
    refine And.intro (show dt_r (20 * M.1 62 27) by rw [hG.1]; exact ⟨by omega, by omega⟩) (And.intro (show dt_r (20 * M.1 62 27 + (e : Int)) by rw [hG.1]; exact ⟨by omega, by omega⟩) (And.intro (show 0 ≤ 20 * M.1 62 27 + (e : Int) ∧ 20 * M.1 62 27 + (e : Int) < 80 by rw [hG.1]; exact ⟨by omega, by omega⟩) ?_))
    show dt_r (4 * M.1 62 27) ∧ dt_r (4 * M.1 62 27 + M.1 65 (20 * M.1 62 27 + (e : Int)).toNat) ∧ _
    rw [hG.1, e1, r2, hp.2]
    refine And.intro ⟨by omega, by omega⟩ (And.intro ⟨by omega, by omega⟩ ?_)
    refine hJ (0, false) _ ⟨Nat.zero_le _, ⟨fun q => (by cases q), fun q => absurd q (Nat.not_lt_zero _)⟩⟩ ⟨rfl, rfl, rfl, rfl, rfl, rfl, rfl, trivial⟩
  · rintro ⟨k, b⟩ ⟨h1, h2⟩ J hJ
    dsimp only at h1 h2 hJ
    refine Exists.intro _ (And.intro (k_come _ n s i m (pt T e) M T hi hV hG hm hp.1) ?_)
    rintro r M0 ⟨rfl, rfl⟩
    refine And.intro (fun h => ?_) (fun h => ?_)
    · have hh : ((cG T m (pt T e) : Nat) : Int) ≤ (k : Int) := h
      have : k = cG T m (pt T e) := by omega
      have hb : b = dnb T (cG T m) e := by
        rw [Bool.eq_iff_iff, h2, this]
        unfold dnb
        exact decide_eq_true_iff.symm
      rw [← hb]
      cases b
      · exact ⟨Or.inl rfl, rfl, rfl⟩
      · exact ⟨Or.inr rfl, rfl, rfl⟩
    · have hh : (k : Int) < ((cG T m (pt T e) : Nat) : Int) := h
      have hk : k < ln T (pt T e) := by omega
      have g4 := hG.2.2.2.2.2 (pt T e) hp.1 k (by rw [h6.1]; omega)
      have e3 : (20 * (4 * (i : Int) + (pt T e : Int)) + (k : Int)).toNat = 20 * (4 * i + pt T e) + k := by omega
      have inj : T 7 (pt T e * 10 + k) = (e : Int) ↔ pl T e = k := by
        constructor
        · intro q; exact ln_inj hV.1 hp.1 hps.1 hk (hps.2.trans q.symm)
        · intro q; rw [← q]; exact hps.2
      cases b with
      | true =>
        refine And.intro (fun _ => ?_) (fun q => absurd (show (1 : Int) = 0 from q) (by decide))
        exact And.intro ⟨by (try dsimp only); omega, by (try dsimp only); omega⟩ (hJ (k + 1, true) _ ⟨by dsimp only; omega, ⟨fun _ => by have := h2.mp rfl; dsimp only; omega, fun _ => rfl⟩⟩ (by dsimp only; omega) ⟨rfl, rfl, rfl, rfl, rfl, rfl, rfl, trivial⟩)
      | false =>
        refine And.intro (fun q => absurd rfl q) (fun _ => ?_)
        have nb : ¬ pl T e < k := fun q => by cases h2.mpr q
        (repeat (first | refine And.intro ⟨by (try dsimp only); omega, by (try dsimp only); omega⟩ ?_ | refine And.intro (Or.inl rfl) ?_ | refine And.intro (Or.inr rfl) ?_))
        dsimp only
        rw [e3, g4]
        refine And.intro (fun z => ?_) (fun z => ?_)
        · have z' : ¬ pl T e = k := fun q => z (inj.mpr q)
          exact And.intro ⟨by (try dsimp only); omega, by (try dsimp only); omega⟩ (hJ (k + 1, false) _ ⟨by dsimp only; omega, ⟨fun q => (by cases q), fun q => by dsimp only at q; omega⟩⟩ (by dsimp only; omega) ⟨rfl, rfl, rfl, rfl, rfl, rfl, rfl, trivial⟩)
        · have z' : pl T e = k := inj.mp z
          exact And.intro ⟨by (try dsimp only); omega, by (try dsimp only); omega⟩ (hJ (k + 1, true) _ ⟨by dsimp only; omega, ⟨fun _ => by dsimp only; omega, fun _ => rfl⟩⟩ (by dsimp only; omega) ⟨rfl, rfl, rfl, rfl, rfl, rfl, rfl, trivial⟩)
theorem k_underAt (d n s i m : Nat) (M : dt_M) (T : Nat → Nat → Int) (hi : i < 4) (hV : tV T n s) (hG : mG M T n i) (hm : m < cC T) : dt_Sp mX7_underAt (d + 2) [qM, .inl m] M (fun r M' => M' = M ∧ ((con T n (cG T m) ∧ r = some (.inl (und T n (cG T m)))) ∨ (¬ con T n (cG T m) ∧ r = some (.inl (-9))))) := by
  have hn : n ≤ 20 := by have := hV.1.1; omega
  have ei : (i : Int).toNat = i := by omega
  refine dt_meth okX7_underAt (fun pc => pc == 4) 90 (σ := Nat) (fun t => 4) (fun t => [some qM, some (.inl m), some (.inl (dt_ct (unp T (cG T m)) t : Int)), some (.inl t), none, none]) (fun t => M) (fun t => t ≤ n ∧ ∀ f, f < t → T 1 f = 1 → dnb T (cG T m) f = true → dnb T (cG T m) (mt T f) = true) (fun t => n - t) (by decide) (Nat.le_of_ble_eq_true rfl) ?_ ?_
  · intro J hJ
    exact hJ 0 _ ⟨Nat.zero_le _, fun f hf => absurd hf (Nat.not_lt_zero f)⟩ ⟨rfl, rfl, rfl, rfl, trivial⟩
  · rintro e ⟨h1, h2⟩ J hJ
    have ctl := ct_le (unp T (cG T m)) e
    refine And.intro (show 0 ≤ M.1 62 27 ∧ M.1 62 27 < 4 by rw [hG.1]; exact ⟨by omega, by omega⟩) ?_
    have g63 : M.1 63 (M.1 62 27).toNat = (n : Int) := by rw [hG.1, ei]; exact hG.2.2.1
    refine And.intro (fun h => ?_) (fun h => ?_)
    · have hh : M.1 63 (M.1 62 27).toNat ≤ (e : Int) := h
      have : e = n := by omega
      subst this
      exact ⟨rfl, Or.inl ⟨h2, rfl⟩⟩
    · have hh : (e : Int) < M.1 63 (M.1 62 27).toNat := h
      have he : e < n := by omega
      have e1 : (20 * M.1 62 27 + (e : Int)).toNat = 20 * i + e := by rw [hG.1]; omega
      obtain ⟨r1, r2, r3, r4, r5⟩ := hG.2.2.2.1 e he
      have hmt := mt_lt hV he
      have t5 : T 5 e = (mt T e : Int) := by
        rcases (hV.1.2.1 e he).1 with q | q
        · obtain ⟨x, a1, -⟩ := tV_mate hV he q; unfold mt; omega
        · obtain ⟨x, a1, -⟩ := hV.1.2.2.1 e he q; unfold mt; omega
      refine Exists.intro _ (And.intro (k_isDone _ n s i m e M T hi hV hG hm he) ?_)
      rintro r M0 ⟨rfl, rfl⟩
      refine And.intro (show dt_r (20 * M0.1 62 27) by rw [hG.1]; exact ⟨by omega, by omega⟩) (And.intro (show dt_r (20 * M0.1 62 27 + (e : Int)) by rw [hG.1]; exact ⟨by omega, by omega⟩) (And.intro (show 0 ≤ 20 * M0.1 62 27 + (e : Int) ∧ 20 * M0.1 62 27 + (e : Int) < 80 by rw [hG.1]; exact ⟨by omega, by omega⟩) ?_))
      rw [e1, r5, t5]
      refine Exists.intro _ (And.intro (k_isDone _ n s i m (mt T e) M0 T hi hV hG hm hmt.1) ?_)
      rintro r M1 ⟨rfl, rfl⟩
      have o1 : dt_r (20 * M1.1 62 27) := by rw [hG.1]; exact ⟨by omega, by omega⟩
      have o2 : dt_r (20 * M1.1 62 27 + (e : Int)) := by rw [hG.1]; exact ⟨by omega, by omega⟩
      have o3 : 0 ≤ 20 * M1.1 62 27 + (e : Int) ∧ 20 * M1.1 62 27 + (e : Int) < 80 := by rw [hG.1]; exact ⟨by omega, by omega⟩
      have t01 := (hV.1.2.1 e he).1
      have nx : ∀ (v : Int) (a b : Option dt_V), v = (dt_ct (unp T (cG T m)) (e + 1) : Int) → (T 1 e = 1 → dnb T (cG T m) e = true → dnb T (cG T m) (mt T e) = true) → dt_r ((e : Int) + 1) ∧ J 4 [some qM, some (.inl m), some (.inl v), some (.inl ((e : Int) + 1)), a, b] [] M1 := by
        intro v a b hv hc
        subst hv
        refine And.intro ⟨by omega, by omega⟩ (hJ (e + 1) _ ⟨by omega, fun f hf => ?_⟩ (by omega) ⟨rfl, rfl, rfl, rfl, trivial⟩)
        by_cases z : f = e
        · subst z; exact hc
        · exact h2 f (by omega)
      cases hde : dnb T (cG T m) e with
      | false =>
        refine And.intro (fun _ => ?_) (fun q => absurd rfl q)
        refine And.intro (fun _ => ?_) (fun q => absurd rfl q)
        have un : unp T (cG T m) e = false := by unfold unp; rw [hde]; simp
        refine And.intro ⟨by (try dsimp only); omega, by (try dsimp only); omega⟩ ?_
        exact nx _ _ _ (by rw [ct_f un]; omega) (fun _ q => by rw [hde] at q; cases q)
      | true =>
        refine And.intro (fun q => absurd (show (1 : Int) = 0 from q) (by decide)) (fun _ => ?_)
        refine And.intro o1 (And.intro o2 (And.intro o3 ?_))
        rw [e1, r1]
        cases hdm : dnb T (cG T m) (mt T e) with
        | true =>
          have un : unp T (cG T m) e = false := by unfold unp; rw [hdm]; simp
          refine And.intro (fun z => ?_) (fun z => ?_)
          · refine And.intro (fun q => absurd (show (1 : Int) = 0 from q) (by decide)) (fun _ => ?_)
            refine And.intro o1 (And.intro o2 (And.intro o3 ?_))
            rw [e1, r1]
            refine And.intro (fun q => absurd z q) (fun _ => ?_)
            refine And.intro (fun _ => ?_) (fun q => absurd (show (1 : Int) = 0 from q) (by decide))
            refine And.intro ⟨by (try dsimp only); omega, by (try dsimp only); omega⟩ ?_
            exact nx _ _ _ (by rw [ct_f un]; omega) (fun _ _ => hdm)
          · refine And.intro (fun _ => ?_) (fun q => absurd (show (1 : Int) = 0 from q) (by decide))
            refine And.intro (fun q => absurd (show (1 : Int) = 0 from q) (by decide)) (fun _ => ?_)
            refine And.intro o1 (And.intro o2 (And.intro o3 ?_))
            rw [e1, r1]
            refine And.intro (fun _ => ?_) (fun q => absurd q z)
            refine And.intro ⟨by (try dsimp only); omega, by (try dsimp only); omega⟩ ?_
            exact nx _ _ _ (by rw [ct_f un]; omega) (fun _ _ => hdm)
        | false =>
          refine And.intro (fun z => ?_) (fun z => ?_)
          · have z' : T 1 e = 0 := z
            have un : unp T (cG T m) e = true := by unfold unp; rw [hdm, hde, z']; simp
            refine And.intro (fun q => absurd (show (1 : Int) = 0 from q) (by decide)) (fun _ => ?_)
            refine And.intro o1 (And.intro o2 (And.intro o3 ?_))
            rw [e1, r1]
            refine And.intro (fun q => absurd z q) (fun _ => ?_)
            refine And.intro (fun q => absurd rfl q) (fun _ => ?_)
            refine And.intro ⟨by (try dsimp only); omega, by (try dsimp only); omega⟩ ?_
            exact nx _ _ _ (by rw [ct_t un]; omega) (fun q => by omega)
          · have z' : T 1 e = 1 := by rcases t01 with q | q; exact absurd q z; exact q
            refine And.intro (fun q => absurd rfl q) (fun _ => ?_)
            refine ⟨rfl, Or.inr ⟨fun q => ?_, rfl⟩⟩
            have := q e he z' hde
            rw [hdm] at this
            cases this
