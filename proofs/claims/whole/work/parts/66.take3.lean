theorem k_take (d : Nat) (m t : Int) (M : dt_M) (T : Nat → Nat → Nat → Int) (E : Nat → Nat → Int) (hE : tk_0 E) (hV : mV M T) : dt_Sp mX7_take (d + 3) [qM, .inl m, .inl t] M (fun r M' =>
    (¬ ((0 ≤ m ∧ m < 256) ∧ (0 ≤ t ∧ t < 4)) ∧ r = some (.inl (-1)) ∧ M' = M) ∨
    ((0 ≤ m ∧ m < 256) ∧ (0 ≤ t ∧ t < 4) ∧ ∃ k, pK (mU T m.toNat) k ∧
      ((¬ pZ (mU T m.toNat) k ∧ r = some (.inl (-2)) ∧ gfr M M') ∨
       (pZ (mU T m.toNat) k ∧ 20 < k ∧ r = some (.inl (-3)) ∧ gfr M M') ∨
       (pZ (mU T m.toNat) k ∧ k ≤ 20 ∧ r = some (.inl (k : Int)) ∧ ∃ M1 M2, gfr M M1 ∧ nfr M1 M2 ∧ kfr M2 M' t.toNat ∧ rp M' t.toNat (pB (mU T m.toNat) E k) k)))) := by
  have hu := (mV_mM hV m.toNat).hU
  refine dt_meth okX7_take (fun pc => pc == 50) 90 (σ := Nat × Nat × dt_M × dt_M) (fun _ => 50) (fun t' => [some qM, some (.inl m), some (.inl t), some (.inl t'.1), none, none]) (fun t' => t'.2.2.2)
    (fun t' => (0 ≤ m ∧ m < 256) ∧ (0 ≤ t ∧ t < 4) ∧ t'.1 ≤ t'.2.1 ∧ pK (mU T m.toNat) t'.2.1 ∧ pZ (mU T m.toNat) t'.2.1 ∧ t'.2.1 ≤ 20 ∧ gfr M t'.2.2.1 ∧ MR t'.2.2.1 (mU T m.toNat) m.toNat t'.2.1 ∧ nfr t'.2.2.1 t'.2.2.2 ∧ rn t'.2.2.2 (pB (mU T m.toNat) E t'.1) t'.1 (pN (mU T m.toNat) t'.1)) (fun t' => t'.2.1 - t'.1) (by decide) (Nat.le_of_ble_eq_true rfl) ?_ ?_
  · intro J hJ
    refine Exists.intro _ (And.intro (c_in _ _ _ _ M) ?_)
    rintro r M0 ⟨rfl, rfl⟩
    by_cases hi : 0 ≤ m ∧ m ≤ 255
    · rw [if_pos hi]
      have hi' : 0 ≤ m ∧ m < 256 := by omega
      refine And.intro (fun h => absurd (show (1 : Int) = 0 from h) (by decide)) (fun _ => ?_)
      refine Exists.intro _ (And.intro (c_noTalk _ t M0) ?_)
      rintro r M1 ⟨rfl, rfl⟩
      by_cases ht : 0 ≤ t ∧ t < 4
      · rw [if_pos ht]
        refine And.intro (fun _ => ?_) (fun h => absurd rfl h)
        have hp := k_plays d m.toNat M1 (mU T m.toNat) (by omega) (mV_mM hV m.toNat)
        rw [show ((m.toNat : Nat) : Int) = m by omega] at hp
        refine Exists.intro _ (And.intro hp ?_)
        rintro r M2 ⟨f1, k, hK, hR, hr⟩
        rcases hr with ⟨rfl, g⟩ | ⟨rfl, g⟩
        · refine And.intro (fun _ => ?_) (fun h => absurd (show (1 : Int) = 0 from h) (by decide))
          have e33 := hR.2.1
          refine And.intro (fun z => ?_) (fun z => ?_)
          · have z' : M2.1 62 33 ≤ 10 := z
            have hk : k ≤ 20 := by have := g.2; omega
            refine Exists.intro _ (And.intro (k_beginTalk _ M2) ?_)
            rintro r M3 ⟨rfl, g1, g2, g3, g4⟩
            exact hJ (0, k, M2, M3) _ ⟨hi', ht, Nat.zero_le _, hK, g, hk, f1, hR, g1, rn_0 g2 g3 g4⟩ ⟨rfl, rfl, rfl, rfl, trivial⟩
          · have z' : 10 < M2.1 62 33 := z
            exact Or.inr ⟨hi', ht, k, hK, Or.inr (Or.inl ⟨g, by have := g.2; omega, rfl, f1⟩)⟩
        · refine And.intro (fun h => absurd rfl h) (fun _ => ?_)
          exact Or.inr ⟨hi', ht, k, hK, Or.inl ⟨g, rfl, f1⟩⟩
      · rw [if_neg ht]
        refine And.intro (fun h => absurd (show (1 : Int) = 0 from h) (by decide)) (fun _ => ?_)
        exact Or.inl ⟨fun q => ht q.2, rfl, rfl⟩
    · rw [if_neg hi]
      refine And.intro (fun _ => ?_) (fun h => absurd rfl h)
      exact Or.inl ⟨fun q => hi (by omega), rfl, rfl⟩
  · rintro ⟨j, K, M1, N⟩ ⟨hi, ht, hj, hK, hZ, hK20, f1, hR, f2, hN⟩ J hJ
    dsimp only at hj hK hZ hK20 f1 hR f2 hN hJ
    have hn : pN (mU T m.toNat) K ≤ 10 := by have := hZ.2; omega
    have e32 : N.1 62 32 = (K : Int) := by rw [f2.2.2 32 (by omega)]; exact hR.1
    refine And.intro (fun hh => ?_) (fun hh => ?_)
    · have h4 : N.1 62 32 ≤ (j : Int) := hh
      have : j = K := by omega
      subst this
      have b := pB_k hu hE hK.1 hn
      have h6 := k_keep (d + 2) t.toNat j (pN (mU T m.toNat) j) N (pB (mU T m.toNat) E j) (by omega) ⟨b.1, b.2.1, hZ.2⟩ hN
      rw [show ((t.toNat : Nat) : Int) = t by omega] at h6
      refine Exists.intro _ (And.intro h6 ?_)
      rintro r M5 ⟨rfl, u1, u2⟩
      exact Or.inr ⟨hi, ht, j, hK, Or.inr (Or.inr ⟨hZ, hK20, rfl, M1, N, f1, f2, u1, u2⟩)⟩
    · have h4 : (j : Int) < N.1 62 32 := hh
      have hjK : j < K := by omega
      have ej : (j : Int).toNat = j := by omega
      have hr1 : pR (mU T m.toNat) (j + 1) := fun i hi => hK.1 i (by omega)
      obtain ⟨hp, hC, hS, hI, he, h2, hlt, h20⟩ := pst_s hu hr1
      have cl := ch_lt m.toNat (pP (mU T m.toNat) j)
      have hmm : mM N (mU T m.toNat) m.toNat := fun p hp => by
        obtain ⟨n, s, v, r⟩ := mV_mM (f1.mV hV) m.toNat p hp
        exact ⟨n, s, v, rp_fr r (fun a x y => f2.1 a (by omega) (by omega))⟩
      have at4 := mM_at (x := (pst (mU T m.toNat) j).1) hmm hp hC.1
      obtain ⟨-, a20, q1, q2, q3, q4⟩ := at4
      have e85 : N.1 85 j = 20 * (ch m.toNat (pP (mU T m.toNat) j) : Int) + (pV (mU T m.toNat) j : Int) := by rw [f2.1 85 (by decide) (by omega)]; exact hR.2.2.1 j hjK
      have ea : (20 * (ch m.toNat (pP (mU T m.toNat) j) : Int) + (pV (mU T m.toNat) j : Int)).toNat = 20 * ch m.toNat (pP (mU T m.toNat) j) + pV (mU T m.toNat) j := by omega
      have q1' : N.1 64 (20 * ch m.toNat (pP (mU T m.toNat) j) + pV (mU T m.toNat) j) = T (ch m.toNat (pP (mU T m.toNat) j)) 1 (pV (mU T m.toNat) j) := q1
      have q2' : N.1 65 (20 * ch m.toNat (pP (mU T m.toNat) j) + pV (mU T m.toNat) j) = T (ch m.toNat (pP (mU T m.toNat) j)) 2 (pV (mU T m.toNat) j) := q2
      have q3' : N.1 66 (20 * ch m.toNat (pP (mU T m.toNat) j) + pV (mU T m.toNat) j) = T (ch m.toNat (pP (mU T m.toNat) j)) 3 (pV (mU T m.toNat) j) := q3
      have q4' : N.1 67 (20 * ch m.toNat (pP (mU T m.toNat) j) + pV (mU T m.toNat) j) = T (ch m.toNat (pP (mU T m.toNat) j)) 4 (pV (mU T m.toNat) j) := q4
      have can : tk_can (pB (mU T m.toNat) E j) (T (ch m.toNat (pP (mU T m.toNat) j))) j (pN (mU T m.toNat) j) (pV (mU T m.toNat) j) := pB_can hu hE hjK hK.1 hn
      obtain ⟨hB, hev, hw, hr⟩ := can
      generalize hvv : pV (mU T m.toNat) j = vv at *
      generalize hcc : ch m.toNat (pP (mU T m.toNat) j) = cc at *
      (repeat (first | refine And.intro ⟨by (try dsimp only); omega, by (try dsimp only); omega⟩ ?_ | refine And.intro (Or.inl rfl) ?_ | refine And.intro (Or.inr rfl) ?_))
      dsimp only
      rw [ej, e85]
      (repeat (first | refine And.intro ⟨by (try dsimp only); omega, by (try dsimp only); omega⟩ ?_ | refine And.intro (Or.inl rfl) ?_ | refine And.intro (Or.inr rfl) ?_))
      rw [ea, q1']
      have e1 : pN (mU T m.toNat) (j + 1) = pN (mU T m.toNat) j + (if T cc 1 vv = 0 then 1 else 0) := by rw [← hcc, ← hvv]; rfl
      have e2 : pB (mU T m.toNat) E (j + 1) = tk_cp (pB (mU T m.toNat) E j) (T cc) vv := by rw [← hcc, ← hvv]; rfl
      refine And.intro (fun z => ?_) (fun z => ?_)
      · have z' : T cc 1 vv = 0 := z
        (repeat (first | refine And.intro ⟨by (try dsimp only); omega, by (try dsimp only); omega⟩ ?_ | refine And.intro (Or.inl rfl) ?_ | refine And.intro (Or.inr rfl) ?_))
        rw [ea, q1', q2', q3', q4', z']
        refine Exists.intro _ (And.intro (k_addSend _ _ _ (T cc 2 vv) (T cc 3 vv) (T cc 4 vv) N _ hB (hr z') hN) ?_)
        rintro rv M' ⟨rfl, g1, g2⟩
        refine And.intro ⟨by (try dsimp only); omega, by (try dsimp only); omega⟩ (hJ (j + 1, K, M1, M') _ ⟨hi, ht, by dsimp only; omega, hK, hZ, hK20, f1, hR, f2.tr g1, ?_⟩ (by dsimp only; omega) ⟨rfl, rfl, rfl, rfl, trivial⟩)
        dsimp only
        have c2 : tk_cp (pB (mU T m.toNat) E j) (T cc) vv = tk_sd (pB (mU T m.toNat) E j) (T cc 2 vv) (T cc 3 vv) (T cc 4 vv) := by unfold tk_cp; rw [if_neg (by rw [z']; decide)]
        rw [e1, e2, if_pos z', c2]
        exact g2
      · have z' : ¬ T cc 1 vv = 0 := z
        have h1e : T cc 1 vv = 1 := by rcases hev.1 with q | q; exact absurd q z'; exact q
        have hw1 := hw h1e
        obtain ⟨x, x1, x2, x3, x4, x5, x6, x7⟩ := tk_w_i hB.1.1 hw1
        obtain ⟨-, b2, -⟩ := tB_tk hB hw1
        (repeat (first | refine And.intro ⟨by (try dsimp only); omega, by (try dsimp only); omega⟩ ?_ | refine And.intro (Or.inl rfl) ?_ | refine And.intro (Or.inr rfl) ?_))
        rw [ea, q2', q3', q4']
        refine Exists.intro _ (And.intro (k_openSend _ _ _ (T cc 3 vv) (T cc 2 vv) (T cc 4 vv) N _ hB hN) ?_)
        rintro rv M0 ⟨rfl, rfl⟩
        rw [if_neg hw1, x2]
        (repeat (first | refine And.intro ⟨by (try dsimp only); omega, by (try dsimp only); omega⟩ ?_ | refine And.intro (Or.inl rfl) ?_ | refine And.intro (Or.inr rfl) ?_))
        rw [ea, q1', q2', q3', q4', h1e]
        refine Exists.intro _ (And.intro (k_addTake _ _ _ x (T cc 3 vv) (T cc 2 vv) (T cc 4 vv) M0 _ hB x1 b2 hN) ?_)
        rintro rv M' ⟨rfl, g1, g2⟩
        refine And.intro ⟨by (try dsimp only); omega, by (try dsimp only); omega⟩ (hJ (j + 1, K, M1, M') _ ⟨hi, ht, by dsimp only; omega, hK, hZ, hK20, f1, hR, f2.tr g1, ?_⟩ (by dsimp only; omega) ⟨rfl, rfl, rfl, rfl, trivial⟩)
        dsimp only
        have c2 : tk_cp (pB (mU T m.toNat) E j) (T cc) vv = tk_tk (pB (mU T m.toNat) E j) (T cc 3 vv) (T cc 2 vv) (T cc 4 vv) x := by unfold tk_cp; rw [if_pos h1e, x2]
        rw [e1, e2, if_neg z', c2]
        exact g2
