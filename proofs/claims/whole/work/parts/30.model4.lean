/-! ===== the Model: takes, whole talks, keeping ===== -/
theorem k_addTake (d n s i : Nat) (f t w : Int) (M : dt_M) (T : Nat → Nat → Int) (hB : tB T n s) (hi : i < n) (hns : n < 2 * s) (hr : rn M T n s) : dt_Sp mX7_addEvent d [qM, .inl 1, .inl t, .inl f, .inl w, .inl i] M (fun r M' => r = none ∧ nfr M M' ∧ rn M' (tk_tk T f t w i) (n + 1) s) := by
  have hn : n < 20 := by have := hB.1; omega
  have hsn := hB.1.2.2
  obtain ⟨⟨e0, e1, e2⟩, er⟩ := hr
  refine dt_flat okX7_addEvent 90 (by decide) (Nat.le_of_ble_eq_true rfl) (fun J => ?_)
  refine And.intro ⟨by show 0 ≤ M.1 62 10; omega, by show M.1 62 10 < 20; omega⟩ (And.intro (Or.inr rfl) ?_)
  intro M1 h1
  have a1 : ∀ x, M1.1 62 x = M.1 62 x := fun x => by rw [h1, dm_wi2 (by decide)]
  refine And.intro ⟨by show 0 ≤ M1.1 62 10; rw [a1]; omega, by show M1.1 62 10 < 20; rw [a1]; omega⟩ ?_
  intro M2 h2
  have a2 : ∀ x, M2.1 62 x = M.1 62 x := fun x => by rw [h2, dm_wi2 (by decide), a1]
  refine And.intro ⟨by show 0 ≤ M2.1 62 10; rw [a2]; omega, by show M2.1 62 10 < 20; rw [a2]; omega⟩ ?_
  intro M3 h3
  have a3 : ∀ x, M3.1 62 x = M.1 62 x := fun x => by rw [h3, dm_wi2 (by decide), a2]
  refine And.intro ⟨by show 0 ≤ M3.1 62 10; rw [a3]; omega, by show M3.1 62 10 < 20; rw [a3]; omega⟩ ?_
  intro M4 h4
  have a4 : ∀ x, M4.1 62 x = M.1 62 x := fun x => by rw [h4, dm_wi2 (by decide), a3]
  refine And.intro ⟨by show 0 ≤ M4.1 62 10; rw [a4]; omega, by show M4.1 62 10 < 20; rw [a4]; omega⟩ ?_
  intro M5 h5
  have a5 : ∀ x, M5.1 62 x = M.1 62 x := fun x => by rw [h5, dm_wi2 (by decide), a4]
  refine And.intro (fun z => absurd (show (1 : Int) = 0 from z) (by decide)) (fun _ => ?_)
  refine And.intro ⟨by show _ ≤ M5.1 62 11 + 0; rw [a5]; omega, by show M5.1 62 11 + 0 ≤ _; rw [a5]; omega⟩ ?_
  intro M6 h6
  have a6 : ∀ x, x ≠ 11 → M6.1 62 x = M.1 62 x := fun x hx => by rw [h6, dm_wi1, dm_up2 hx, a5]
  refine And.intro (fun z => absurd (show (1 : Int) = 0 from z) (by decide)) (fun _ => ?_)
  refine And.intro ⟨by show _ ≤ M6.1 62 12 + (-1); rw [a6 12 (by decide)]; omega, by show M6.1 62 12 + (-1) ≤ _; rw [a6 12 (by decide)]; omega⟩ ?_
  intro M7 h7
  refine And.intro (fun z => absurd (show (1 : Int) = 0 from z) (by decide)) (fun _ => ?_)
  have a7 : M7.1 62 10 = M.1 62 10 := by rw [h7, dm_wi1, dm_up2 (by decide), a6 10 (by decide)]
  refine And.intro ⟨by omega, by show (i : Int) < 20; omega⟩ ?_
  intro M9 h9
  have a9 : M9.1 62 10 = M.1 62 10 := by rw [h9, dm_wi2 (by decide), a7]
  refine And.intro ⟨by show _ ≤ M9.1 62 10 + 1; rw [a9]; omega, by show M9.1 62 10 + 1 ≤ _; rw [a9]; omega⟩ ?_
  intro M8 h8
  have en : (M.1 62 10).toNat = n := by omega
  have h1' : M1 = dt_wi M 72 n 1 := by rw [h1]; show dt_wi M 72 (M.1 62 10).toNat 1 = _; rw [en]
  have h2' : M2 = dt_wi M1 73 n t := by rw [h2]; show dt_wi M1 73 (M1.1 62 10).toNat t = _; rw [a1, en]
  have h3' : M3 = dt_wi M2 74 n f := by rw [h3]; show dt_wi M2 74 (M2.1 62 10).toNat f = _; rw [a2, en]
  have h4' : M4 = dt_wi M3 75 n w := by rw [h4]; show dt_wi M3 75 (M3.1 62 10).toNat w = _; rw [a3, en]
  have h5' : M5 = dt_wi M4 76 n i := by rw [h5]; show dt_wi M4 76 (M4.1 62 10).toNat i = _; rw [a4, en]
  have h9' : M9 = dt_wi M7 76 i n := by rw [h9]; show dt_wi M7 76 (i : Int).toNat (M7.1 62 10) = _; rw [a7, e0]; rfl
  have b8 : ∀ a, a ≠ 62 → a ≠ 76 → M8.1 a = M5.1 a := fun a ha hb => by rw [h8, dm_wi2 ha, h9, dm_wi2 hb, h7, dm_wi2 ha, h6, dm_wi2 ha]
  refine ⟨rfl, ?_, ⟨⟨?_, ?_, ?_⟩, fun j hj => ?_⟩⟩
  · rw [h8, h9', h7, h6, h5', h4', h3', h2', h1']
    exact (((((((((nfr_a (by decide)).tr (nfr_a (by decide))).tr (nfr_a (by decide))).tr (nfr_a (by decide))).tr (nfr_a (by decide))).tr (nfr_0 (by decide)))).tr (nfr_0 (by decide))).tr (nfr_a (by decide))).tr (nfr_0 (by decide))
  · rw [h8, dm_wi1, dm_up1]; show M9.1 62 10 + 1 = _; rw [a9]; omega
  · rw [h8, dm_wi1, dm_up2 (by decide), h9, dm_wi2 (by decide), h7, dm_wi1, dm_up2 (by decide), h6, dm_wi1, dm_up1]; show M5.1 62 11 + 0 = _; rw [a5]; omega
  · rw [h8, dm_wi1, dm_up2 (by decide), h9, dm_wi2 (by decide), h7, dm_wi1, dm_up1]; show M6.1 62 12 + (-1) = _; rw [a6 12 (by decide)]; omega
  · rw [b8 72 (by decide) (by decide), b8 73 (by decide) (by decide), b8 74 (by decide) (by decide), b8 75 (by decide) (by decide)]
    have c1 : M5.1 72 = dt_up (M.1 72) n 1 := by rw [h5', dm_wi2 (by decide), h4', dm_wi2 (by decide), h3', dm_wi2 (by decide), h2', dm_wi2 (by decide), h1', dm_wi1]
    have c2 : M5.1 73 = dt_up (M.1 73) n t := by rw [h5', dm_wi2 (by decide), h4', dm_wi2 (by decide), h3', dm_wi2 (by decide), h2', dm_wi1, h1', dm_wi2 (by decide)]
    have c3 : M5.1 74 = dt_up (M.1 74) n f := by rw [h5', dm_wi2 (by decide), h4', dm_wi2 (by decide), h3', dm_wi1, h2', dm_wi2 (by decide), h1', dm_wi2 (by decide)]
    have c4 : M5.1 75 = dt_up (M.1 75) n w := by rw [h5', dm_wi2 (by decide), h4', dm_wi1, h3', dm_wi2 (by decide), h2', dm_wi2 (by decide), h1', dm_wi2 (by decide)]
    have c5 : M8.1 76 = dt_up (dt_up (M.1 76) n i) i n := by rw [h8, dm_wi2 (by decide), h9', dm_wi1, h7, dm_wi2 (by decide), h6, dm_wi2 (by decide), h5', dm_wi1, h4', dm_wi2 (by decide), h3', dm_wi2 (by decide), h2', dm_wi2 (by decide), h1', dm_wi2 (by decide)]
    rw [c1, c2, c3, c4, c5]
    obtain ⟨n1, n2, n3, n4, n5, n5i⟩ := tk_new (f := f) (t := t) (w := w) hB.1.1 hi
    by_cases hjn : j = n
    · subst hjn
      rw [dm_up1, dm_up1, dm_up1, dm_up1, dm_up2 (by omega), dm_up1, n1, n2, n3, n4, n5, if_neg (by omega)]
      exact ⟨rfl, rfl, rfl, rfl, rfl⟩
    · rw [dm_up2 hjn, dm_up2 hjn, dm_up2 hjn, dm_up2 hjn, tk_old hB.1.1 (g := 1) (by omega) (by omega), tk_old hB.1.1 (g := 2) (by omega) (by omega), tk_old hB.1.1 (g := 3) (by omega) (by omega), tk_old hB.1.1 (g := 4) (by omega) (by omega)]
      obtain ⟨q1, q2, q3, q4, q5⟩ := er j (by omega)
      refine ⟨q1, q2, q3, q4, ?_⟩
      by_cases hji : j = i
      · subst hji
        rw [dm_up1, n5i, if_neg (by omega)]
      · rw [dm_up2 hji, dm_up2 hjn, tk_old5 hB.1.1 (by omega) hji]
        exact q5
theorem k_addTalk (d i n s m r : Nat) (M : dt_M) (T U : Nat → Nat → Int) (hi : i < 4) (hT : tB T n s) (hU : tB U m r) (hrs : r + s ≤ 10) (rT : rp M i T n) (rU : rn M U m r) : dt_Sp mX7_addTalk (d + 1) [qM, .inl i] M (fun rv M' => rv = none ∧ nfr M M' ∧ rn M' (tk_all U T n) (m + n) (r + s)) := by
  have hn : n ≤ 20 := by have := hT.1; omega
  refine dt_meth okX7_addTalk (fun pc => pc == 2) 90 (σ := Nat × dt_M) (fun _ => 2) (fun t => [some qM, some (.inl i), some (.inl t.1), none, none]) (fun t => t.2) (fun t => t.1 ≤ n ∧ nfr M t.2 ∧ rn t.2 (tk_all U T t.1) (m + t.1) (r + dt_ct (tk_is T) t.1)) (fun t => n - t.1) (by decide) (Nat.le_of_ble_eq_true rfl) ?_ ?_
  · intro J hJ
    exact hJ (0, M) _ ⟨by omega, nfr.rf, rU⟩ ⟨rfl, rfl, rfl, trivial⟩
  · rintro ⟨e, N⟩ ⟨h1, h2, h3⟩ J hJ
    dsimp only at h1 h2 h3 hJ
    have hrow : ∀ a, 63 ≤ a → a ≤ 70 → N.1 a = M.1 a := fun a x y => h2.1 a (by omega) (by omega)
    have e63 : N.1 63 i = (n : Int) := by rw [hrow 63 (by omega) (by omega)]; exact rT.1
    refine And.intro ⟨by omega, by omega⟩ (And.intro (fun h => ?_) (fun h => ?_))
    · have hh : N.1 63 (i : Int).toNat ≤ (e : Int) := h
      rw [show (i : Int).toNat = i by omega] at hh
      have : e = n := by omega
      subst this
      have hz := hT.2.2.2.2.2.2.2.2.2.2
      rw [hz] at h3
      exact ⟨rfl, h2, h3⟩
    · have hh : (e : Int) < N.1 63 (i : Int).toNat := h
      rw [show (i : Int).toNat = i by omega] at hh
      have he : e < n := by omega
      obtain ⟨hB, hev, hw, hr⟩ := all_can hU hT hrs he
      obtain ⟨q1, q2, q3, q4, q5⟩ := rT.2.1 e he
      have ea : (20 * (i : Int) + (e : Int)).toNat = 20 * i + e := by omega
      refine And.intro ⟨by omega, by omega⟩ (And.intro ⟨by show _ ≤ 20 * (i : Int) + (e : Int); omega, by show 20 * (i : Int) + (e : Int) ≤ _; omega⟩ (And.intro ⟨by show 0 ≤ 20 * (i : Int) + (e : Int); omega, by show 20 * (i : Int) + (e : Int) < _; omega⟩ ?_))
      dsimp only
      rw [ea, hrow 64 (by omega) (by omega), q1]
      refine And.intro (fun z => ?_) (fun z => ?_)
      · refine And.intro ⟨by omega, by omega⟩ (And.intro ⟨by omega, by omega⟩ (And.intro ⟨by omega, by omega⟩ (And.intro ⟨by omega, by omega⟩ ?_)))
        rw [ea, hrow 64 (by omega) (by omega), q1, z]
        rw [hrow 65 (by omega) (by omega), hrow 66 (by omega) (by omega), hrow 67 (by omega) (by omega), q2, q3, q4]
        refine Exists.intro _ (And.intro (k_addSend _ _ _ (T 2 e) (T 3 e) (T 4 e) N _ hB (hr z) h3) ?_)
        rintro rv M' ⟨rfl, g1, g2⟩
        refine And.intro ⟨by omega, by omega⟩ (hJ (e + 1, M') _ ⟨by dsimp only; omega, h2.tr g1, ?_⟩ (by dsimp only; omega) ⟨rfl, rfl, rfl, trivial⟩)
        show rn M' (tk_cp (tk_all U T e) T e) (m + e + 1) (r + (dt_ct (tk_is T) e + if tk_is T e then 1 else 0))
        have c1 : tk_is T e = true := by unfold tk_is; rw [z]; rfl
        have c2 : tk_cp (tk_all U T e) T e = tk_sd (tk_all U T e) (T 2 e) (T 3 e) (T 4 e) := by unfold tk_cp; rw [if_neg (by rw [z]; decide)]
        rw [c1, c2]
        exact g2
      · have h1e : T 1 e = 1 := by rcases hev.1 with q | q; exact absurd q z; exact q
        have hw1 := hw h1e
        obtain ⟨x, x1, x2, x3, x4, x5, x6, x7⟩ := tk_w_i hB.1.1 hw1
        obtain ⟨-, b2, -⟩ := tB_tk hB hw1
        refine And.intro ⟨by omega, by omega⟩ (And.intro ⟨by omega, by omega⟩ (And.intro ⟨by omega, by omega⟩ ?_))
        rw [ea, hrow 65 (by omega) (by omega), hrow 66 (by omega) (by omega), hrow 67 (by omega) (by omega), q2, q3, q4]
        refine Exists.intro _ (And.intro (k_openSend _ _ _ (T 3 e) (T 2 e) (T 4 e) N _ hB h3) ?_)
        rintro rv M0 ⟨rfl, rfl⟩
        rw [if_neg hw1, x2]
        refine And.intro ⟨by omega, by omega⟩ (And.intro ⟨by omega, by omega⟩ (And.intro ⟨by omega, by omega⟩ (And.intro ⟨by omega, by omega⟩ ?_)))
        rw [ea, hrow 64 (by omega) (by omega), q1, h1e]
        rw [hrow 65 (by omega) (by omega), hrow 66 (by omega) (by omega), hrow 67 (by omega) (by omega), q2, q3, q4]
        refine Exists.intro _ (And.intro (k_addTake _ _ _ x (T 3 e) (T 2 e) (T 4 e) M0 _ hB x1 b2 h3) ?_)
        rintro rv M' ⟨rfl, g1, g2⟩
        refine And.intro ⟨by omega, by omega⟩ (hJ (e + 1, M') _ ⟨by dsimp only; omega, h2.tr g1, ?_⟩ (by dsimp only; omega) ⟨rfl, rfl, rfl, trivial⟩)
        show rn M' (tk_cp (tk_all U T e) T e) (m + e + 1) (r + (dt_ct (tk_is T) e + if tk_is T e then 1 else 0))
        have c1 : tk_is T e = false := by unfold tk_is; rw [h1e]; rfl
        have c2 : tk_cp (tk_all U T e) T e = tk_tk (tk_all U T e) (T 3 e) (T 2 e) (T 4 e) x := by unfold tk_cp; rw [if_pos h1e, x2]
        rw [c1, c2]
        exact g2
