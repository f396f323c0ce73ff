theorem IT.m2 {M M' : dt_M} (h : IT M) (k : ∀ a, 63 ≤ a → a ≤ 70 → M'.1 a = M.1 a) : mV M' (cT M) := fun i hi => by
  obtain ⟨n, s, v, r⟩ := h i hi
  exact ⟨n, s, v, rp_fr r (fun a x y => k a x y)⟩
theorem IX.s2 {M M' : dt_M} {L : Nat} (h : IX M L) (k1 : M'.1 42 1 = M.1 42 1) (k2 : M'.1 62 8 = M.1 62 8) (k3 : M'.1 43 = M.1 43) (k4 : M'.1 71 = M.1 71) : IX M' L := ⟨by rw [k1]; exact h.1, by rw [k2]; exact h.2.1, h.2.2.1, fun j hj => by rw [k3, k4]; exact h.2.2.2 j hj⟩
theorem tV_u {T : Nat → Nat → Int} {n s n' s' : Nat} (h : tV T n s) (k : tV T n' s') : n = n' ∧ s = s' := by
  have a := h.1.1.1
  have b := k.1.1.1
  have c := h.2.2
  have d := k.2.2
  rw [a] at b
  omega
theorem Pr_behind (i j t : Int) : Pr mX6_behind mX7_behind [qX, .inl i, .inl j, .inl t] [qM, .inl i, .inl j, .inl t] := by
  intro M hI
  refine ⟨_, c_behind 6 i j t M hI.1.V, ?_⟩
  obtain ⟨hT, L, hX⟩ := id hI
  obtain ⟨F, hF⟩ : ∃ F : Nat → Nat → Int, tk_0 F := ⟨fun _ _ => 0, rfl, rfl, fun _ _ => rfl⟩
  rintro r M1 (⟨h1, rfl, rfl⟩ | ⟨h1, h2, h3, h4, rfl, rfl⟩ | ⟨h1, h2, h3, n, s, m, q, E, v1, v2, sq, hE, rfl, f1, v3, e3⟩)
  · refine ⟨_, k_behind 9 i j t M1 (cT M1) (hT.m sam.rf), ?_⟩
    rintro r' M2 (⟨g1, rfl, rfl⟩ | ⟨g1, g2, g3, g4, rfl, rfl⟩ | ⟨g1, g2, g3, -⟩)
    · exact ⟨rfl, hI⟩
    · exact absurd ⟨g1, g2, g3⟩ h1
    · exact absurd ⟨g1, g2, g3⟩ h1
  · refine ⟨_, k_behind 9 i j t M1 (cT M1) (hT.m sam.rf), ?_⟩
    rintro r' M2 (⟨g1, rfl, rfl⟩ | ⟨g1, g2, g3, g4, rfl, rfl⟩ | ⟨g1, g2, g3, M3, n, s, m, q, g4⟩)
    · exact absurd ⟨h1, h2, h3⟩ g1
    · exact ⟨rfl, hI⟩
    · obtain ⟨w1, w2, w3, -⟩ := g4 F hF
      have e1 : M1.1 (2 + 8 * i.toNat) 8 = (s : Int) := w1.1.1.2.1
      have e2 : M1.1 (2 + 8 * j.toNat) 8 = (q : Int) := w2.1.1.2.1
      omega
  · have c2 : ∀ a, 63 ≤ a → a ≤ 70 → M1.1 a = M.1 a := fun a x y => f1.1 a (by omega) (by omega)
    refine ⟨_, k_behind 9 i j t M1 (cT M) (hT.m2 c2), ?_⟩
    rintro r' M2 (⟨g1, rfl, rfl⟩ | ⟨g1, g2, g3, g4, rfl, rfl⟩ | ⟨g1, g2, g3, M3, n', s', m', q', g4⟩)
    · exact absurd ⟨h1, h2, h3⟩ g1
    · have e1 : cT M i.toNat 0 8 = (s : Int) := v1.1.1.2.1
      have e2 : cT M j.toNat 0 8 = (q : Int) := v2.1.1.2.1
      omega
    · obtain ⟨w1, w2, w3, rfl, f3, f4, r2⟩ := g4 E hE
      obtain ⟨rfl, rfl⟩ := tV_u v1 w1
      obtain ⟨rfl, rfl⟩ := tV_u v2 w2
      refine ⟨rfl, IT_new (by omega) hT (fun a x y z => f1.1 a z (by omega)) c2 v3 e3 (Or.inl (sam_n f3)) f4 r2, L, hX.s2 ?_ ?_ ?_ ?_⟩
      · rw [f4.1 42 (by omega), f3.1 42 (by decide) (by omega), f1.1 42 (by omega) (by omega)]
      · rw [f4.1 62 (by omega), f3.2.2 8 (by omega), f1.1 62 (by omega) (by omega)]
      · rw [f4.1 43 (by omega), f3.1 43 (by decide) (by omega), f1.1 43 (by omega) (by omega)]
      · rw [f4.1 71 (by omega), f3.1 71 (by decide) (by omega), f1.1 71 (by omega) (by omega)]
theorem Pr_take (m t : Int) : Pr mX6_take mX7_take [qX, .inl m, .inl t] [qM, .inl m, .inl t] := by
  intro M hI
  refine ⟨_, c_take 6 m t M hI.1.V, ?_⟩
  obtain ⟨hT, L, hX⟩ := id hI
  obtain ⟨F, hF⟩ : ∃ F : Nat → Nat → Int, tk_0 F := ⟨fun _ _ => 0, rfl, rfl, fun _ _ => rfl⟩
  rintro r M1 (⟨h1, rfl, rfl⟩ | ⟨h1, h2, k, hK, (⟨hz, rfl, f1⟩ | ⟨hz, k20, rfl, f1⟩ | ⟨hz, k20, rfl, f1, E, hE, v3, e3⟩)⟩)
  · refine ⟨_, k_take 8 m t M1 (cT M1) F hF (hT.m sam.rf), ?_⟩
    rintro r' M2 (⟨g1, rfl, rfl⟩ | ⟨g1, g2, -⟩)
    · exact ⟨rfl, hI⟩
    · exact absurd ⟨g1, g2⟩ h1
  · refine ⟨_, k_take 8 m t M1 (cT M) F hF (hT.m (sam_p f1)), ?_⟩
    rintro r' M2 (⟨g1, rfl, rfl⟩ | ⟨g1, g2, k', hK', (⟨hz', rfl, f2⟩ | ⟨hz', k20', rfl, f2⟩ | ⟨hz', k20', rfl, -⟩)⟩)
    · exact absurd ⟨h1, h2⟩ g1
    · exact ⟨rfl, hI.s ((sam_p f1).tr (sam_g f2))⟩
    · rw [pK_u hK hK'] at hz; exact absurd hz' hz
    · rw [pK_u hK hK'] at hz; exact absurd hz' hz
  · refine ⟨_, k_take 8 m t M1 (cT M) F hF (hT.m (sam_p f1)), ?_⟩
    rintro r' M2 (⟨g1, rfl, rfl⟩ | ⟨g1, g2, k', hK', (⟨hz', rfl, f2⟩ | ⟨hz', k20', rfl, f2⟩ | ⟨hz', k20', rfl, -⟩)⟩)
    · exact absurd ⟨h1, h2⟩ g1
    · rw [pK_u hK hK'] at hz; exact absurd hz hz'
    · exact ⟨rfl, hI.s ((sam_p f1).tr (sam_g f2))⟩
    · have := pK_u hK hK'; omega
  · have c2 : ∀ a, 63 ≤ a → a ≤ 70 → M1.1 a = M.1 a := fun a x y => f1.1 a (by omega) (by omega) (by omega)
    refine ⟨_, k_take 8 m t M1 (cT M) E hE (hT.m2 c2), ?_⟩
    rintro r' M2 (⟨g1, rfl, rfl⟩ | ⟨g1, g2, k', hK', (⟨hz', rfl, f2⟩ | ⟨hz', k20', rfl, f2⟩ | ⟨hz', k20', rfl, M3, M4, f2, f3, f4, r2⟩)⟩)
    · exact absurd ⟨h1, h2⟩ g1
    · rw [pK_u hK hK'] at hz; exact absurd hz hz'
    · have := pK_u hK hK'; omega
    · have ek := pK_u hK hK'
      subst ek
      refine ⟨rfl, IT_new (by omega) hT (fun a x y z => f1.1 a z (by omega) (by omega)) c2 v3 e3 (Or.inl ((sam_g f2).tr (sam_n f3))) f4 r2, L, hX.s2 ?_ ?_ ?_ ?_⟩
      · rw [f4.1 42 (by omega), f3.1 42 (by decide) (by omega), f2.1 42 (by decide) (by omega), f1.1 42 (by omega) (by omega) (by omega)]
      · rw [f4.1 62 (by omega), f3.2.2 8 (by omega), f2.2.1 8 (by decide) (by decide), f1.1 62 (by omega) (by omega) (by omega)]
      · rw [f4.1 43 (by omega), f3.1 43 (by decide) (by omega), f2.1 43 (by decide) (by omega), f1.1 43 (by omega) (by omega) (by omega)]
      · rw [f4.1 71 (by omega), f3.1 71 (by decide) (by omega), f2.1 71 (by decide) (by omega), f1.1 71 (by omega) (by omega) (by omega)]
theorem Pr_talk (i : Int) : Pr mX6_talk mX7_talk [qX, .inl i] [qM, .inl i] := by
  intro M hI
  obtain ⟨hT, L, hX⟩ := id hI
  obtain ⟨x1, x2, x3, x4⟩ := id hX
  have tc : rtx M (M.1 71) L := ⟨x1, x3, fun j hj => x4 j hj⟩
  refine ⟨_, c_talk 2 L i M (M.1 71) tc, ?_⟩
  obtain ⟨F, hF⟩ : ∃ F : Nat → Nat → Int, tk_0 F := ⟨fun _ _ => 0, rfl, rfl, fun _ _ => rfl⟩
  have tm : ∀ M1 : dt_M, M1.1 62 8 = M.1 62 8 → M1.1 71 = M.1 71 → mtx M1 (M.1 71) L := fun M1 a b => ⟨by rw [a]; exact x2, x3, fun j hj => ⟨by rw [b], (x4 j hj).2⟩⟩
  rintro r M1 (⟨h1, rfl, rfl⟩ | ⟨h1, E, hE, (⟨f, hp, rfl, f1⟩ | ⟨U, n, s, hp, hV, rfl, f1, m1, v3, e3⟩)⟩)
  · refine ⟨_, k_talk 6 L i M1 (M1.1 71) F hF (tm M1 rfl rfl), ?_⟩
    rintro r' M2 (⟨g1, rfl, rfl⟩ | ⟨g1, -⟩)
    · exact ⟨rfl, hI⟩
    · exact absurd g1 h1
  · have s1 := sam_e f1
    refine ⟨_, k_talk 6 L i M1 (M.1 71) E hE (tm M1 s1.2.2 (s1.1 71 (by omega))), ?_⟩
    rintro r' M2 (⟨g1, rfl, rfl⟩ | ⟨g1, (⟨f', hp', rfl, f2⟩ | ⟨U, n, s, hp', -⟩)⟩)
    · exact absurd h1 g1
    · rw [hp] at hp'
      cases hp'
      exact ⟨rfl, hI.s (s1.tr (sam_z f2))⟩
    · rw [hp] at hp'
      cases hp'
  · have c2 : ∀ a, 43 ≤ a → M1.1 a = M.1 a := fun a x => f1.1 a (by omega) (by omega)
    refine ⟨_, k_talk 6 L i M1 (M.1 71) E hE (tm M1 (by rw [c2 62 (by omega)]) (c2 71 (by omega))), ?_⟩
    rintro r' M2 (⟨g1, rfl, rfl⟩ | ⟨g1, (⟨f', hp', rfl, f2⟩ | ⟨U', n', s', hp', hV', rfl, M3, ⟨p1, p2, p3, p4⟩, f4, r2⟩)⟩)
    · exact absurd h1 g1
    · rw [hp] at hp'
      cases hp'
    · rw [hp] at hp'
      cases hp'
      obtain ⟨rfl, rfl⟩ := tV_u hV hV'
      refine ⟨rfl, IT_new (by omega) hT (fun a x y z => f1.1 a z (by omega)) (fun a x y => c2 a (by omega)) v3 e3 (Or.inr ⟨fun a x y => p1 a (by omega) (by omega), fun a x y => p1 a (by omega) (by omega)⟩) f4 r2, 0, ?_⟩
      exact ⟨by rw [f4.1 42 (by omega), p1 42 (by decide) (by omega)]; exact m1, by rw [f4.1 62 (by omega)]; exact p4, by omega, fun j hj => absurd hj (Nat.not_lt_zero j)⟩
theorem Pr_type (v n : Int) (hv : dt_rL v) (hn : dt_r n) : Pr mX6_type mX7_type [qX, .inr (.inl v), .inl n] [qM, .inr (.inl v), .inl n] := by
  intro M hI
  obtain ⟨hT, L, hX⟩ := id hI
  obtain ⟨x1, x2, x3, x4⟩ := id hX
  refine ⟨_, c_type 10 L v n M hv x1 x3 hn, ?_⟩
  rintro r M1 (⟨h1, rfl, rfl⟩ | ⟨h1, h2, rfl, rfl⟩ | ⟨h1, h2, rfl, f1, f2, f3, f4⟩)
  · refine ⟨_, k_type 10 L v n M1 hv x2 x3 hn, ?_⟩
    rintro r' M2 (⟨g1, rfl, rfl⟩ | ⟨g1, g2, rfl, rfl⟩ | ⟨g1, g2, -⟩)
    · exact ⟨rfl, hI⟩
    · exact absurd g1 h1
    · exact absurd g1 h1
  · refine ⟨_, k_type 10 L v n M1 hv x2 x3 hn, ?_⟩
    rintro r' M2 (⟨g1, rfl, rfl⟩ | ⟨g1, g2, rfl, rfl⟩ | ⟨g1, g2, -⟩)
    · exact absurd h1 g1
    · exact ⟨rfl, hI⟩
    · omega
  · refine ⟨_, k_type 10 L v n M1 hv (by rw [f1 62 (by decide) (by decide)]; exact x2) x3 hn, ?_⟩
    rintro r' M2 (⟨g1, rfl, rfl⟩ | ⟨g1, g2, rfl, rfl⟩ | ⟨g1, g2, rfl, k1, k2, k3, k4, k5⟩)
    · exact absurd h1 g1
    · omega
    · have e71 : M1.1 71 = M.1 71 := f1 71 (by decide) (by decide)
      rw [e71] at k5
      refine ⟨rfl, ?_, L + n.toNat, ?_⟩
      · intro i hi
        obtain ⟨n', s', v', r'⟩ := hT i hi
        have row : ∀ g, g < 8 → cT M2 i g = cT M i g := fun g hg => (k1 (2 + 8 * i + g) (by omega) (by omega)).trans (f1 (2 + 8 * i + g) (by omega) (by omega))
        exact ⟨n', s', tV_row row v', rp_eq (rp_fr r' (fun a x y => (k1 a (by omega) (by omega)).trans (f1 a (by omega) (by omega)))) (tk_eq_row row)⟩
      · have e43 : M2.1 43 = M1.1 43 := k1 43 (by decide) (by decide)
        refine ⟨by rw [k1 42 (by decide) (by decide), f3]; omega, by rw [k4]; omega, by omega, fun j hj => ?_⟩
        rw [e43]
        by_cases hjL : j < L
        · rw [f4.1 j hjL, k5.1 j hjL]; exact x4 j hjL
        · have a1 := f4.2 (j - L) (by omega)
          have a2 := k5.2 (j - L) (by omega)
          rw [show L + (j - L) = j by omega] at a1 a2
          rw [a1, a2]
          have := tyb_r v (n.toNat - 1 - (j - L))
          exact ⟨rfl, this.1, this.2⟩
