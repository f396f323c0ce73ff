/-! ===== Player: perform, ends ===== -/
def PR (M : dt_M) (U : Nat → Nat → Nat → Int) (m k : Nat) : Prop := M.1 53 7 = (m : Int) ∧ M.1 53 8 = (k : Int) ∧ M.1 53 9 = 2 * (pN U k : Int) - (k : Int) ∧ (∀ j, j < k → M.1 59 j = (pP U j : Int)) ∧ pX M U (pst U k)
theorem c_perform (d m : Nat) (M : dt_M) (U : Nat → Nat → Nat → Int) (hm : m < 256) (h : hM M U m) (hu : hU U) : dt_Sp mX2_perform (d + 4) [qP, .inl m] M (fun r M' => r = none ∧ pfr M M' ∧ ∃ k, pK U k ∧ PR M' U m k) := by
  refine dt_meth okX2_perform (fun pc => pc == 17 || pc == 49) 70 (σ := Nat × Nat × dt_M) (fun t => h3 t.1 17 49 49) (fun t => [some qP, some (.inl m), some (.inl t.2.1), none]) (fun t => t.2.2)
    (fun t => t.1 < 2 ∧ pfr M t.2.2 ∧ (t.1 = 0 → t.2.1 ≤ 16 ∧ t.2.2.1 53 7 = (m : Int) ∧ t.2.2.1 53 8 = 0 ∧ t.2.2.1 53 9 = 0 ∧ ∀ c, c < t.2.1 → t.2.2.1 57 c = 0 ∧ t.2.2.1 58 c = 0) ∧ (t.1 = 1 → pR U t.2.1 ∧ PR t.2.2 U m t.2.1)) (fun t => h3 t.1 (100 - t.2.1) (60 - t.2.1) 0) (by decide) (Nat.le_of_ble_eq_true rfl) ?_ ?_
  · intro J hJ
    intro M1 hM1
    have hM1' : M1 = dt_wi M 53 7 (m : Int) := hM1
    intro M2 hM2
    have hM2' : M2 = dt_wi M1 53 8 0 := hM2
    intro M3 hM3
    have hM3' : M3 = dt_wi M2 53 9 0 := hM3
    have e : M3.1 53 = dt_up (dt_up (dt_up (M.1 53) 7 (m : Int)) 8 0) 9 0 := by rw [hM3', dm_wi1, hM2', dm_wi1, hM1', dm_wi1]
    refine hJ (0, 0, M3) _ ⟨by dsimp only; omega, ?_, fun _ => ⟨Nat.zero_le _, ?_, ?_, ?_, fun c hc => absurd hc (Nat.not_lt_zero c)⟩, fun q => (by cases q)⟩ ⟨rfl, rfl, rfl, trivial⟩
    · rw [hM3', hM2', hM1']; exact ((pfr_w (by decide)).tr (pfr_w (by decide))).tr (pfr_w (by decide))
    · dsimp only; rw [e, dm_up2 (by decide), dm_up2 (by decide), dm_up1]
    · dsimp only; rw [e, dm_up2 (by decide), dm_up1]
    · dsimp only; rw [e, dm_up1]
  · rintro ⟨hd, k, N⟩ ⟨hd2, f1, i0, i1⟩ J hJ
    dsimp only at hd2 f1 i0 i1 hJ
    match hd, hd2, i0, i1 with
    | 0, _, i0, _ =>
      obtain ⟨k1, k2, k3, k4, k5⟩ := i0 rfl
      refine And.intro (fun hh => ?_) (fun hh => ?_)
      · have h16 : (16 : Int) ≤ (k : Int) := hh
        have : k = 16 := by omega
        subst this
        refine Exists.intro _ (And.intro (c_goToStart _ m N U hm k2 (f1.hM h) hu) ?_)
        rintro r M1 ⟨rfl, z1, z2, z3⟩
        refine hJ (1, 0, M1) _ ⟨by dsimp only; omega, f1.tr ⟨fun a ha => z1 a (by omega) (by omega), z2⟩, fun q => (by cases q), fun _ => ⟨fun j hj => absurd hj (Nat.not_lt_zero j), ?_, ?_, ?_, fun j hj => absurd hj (Nat.not_lt_zero j), fun p hp => ?_, fun c hc => ?_⟩⟩ (by dsimp only [h3]; omega) ⟨rfl, rfl, rfl, trivial⟩
        · dsimp only; rw [z1 53 (by decide) (by decide)]; exact k2
        · dsimp only; rw [z1 53 (by decide) (by decide)]; exact k3
        · dsimp only; rw [z1 53 (by decide) (by decide)]; exact k4
        · exact z3 p hp
        · dsimp only
          rw [z1 57 (by decide) (by decide), z1 58 (by decide) (by decide)]
          exact ⟨(k5 c hc).1, (k5 c hc).2, fun j hj => absurd hj (Nat.not_lt_zero j)⟩
      · have h16 : (k : Int) < 16 := hh
        have ek : (k : Int).toNat = k := by omega
        (repeat (first | refine And.intro ⟨by (try dsimp only); omega, by (try dsimp only); omega⟩ ?_ | refine And.intro (Or.inl rfl) ?_ | refine And.intro (Or.inr rfl) ?_))
        dsimp only
        rw [ek]
        intro M1 hM1
        have hM1' : M1 = dt_wi N 57 k 0 := hM1
        (repeat (first | refine And.intro ⟨by (try dsimp only); omega, by (try dsimp only); omega⟩ ?_ | refine And.intro (Or.inl rfl) ?_ | refine And.intro (Or.inr rfl) ?_))
        dsimp only
        rw [ek]
        intro M2 hM2
        have hM2' : M2 = dt_wi M1 58 k 0 := hM2
        have e53 : M2.1 53 = N.1 53 := by rw [hM2', dm_wi2 (by decide), hM1', dm_wi2 (by decide)]
        refine And.intro ⟨by (try dsimp only); omega, by (try dsimp only); omega⟩ (hJ (0, k + 1, M2) _ ⟨by dsimp only; omega, ?_, fun _ => ⟨by dsimp only; omega, by dsimp only; rw [e53]; exact k2, by dsimp only; rw [e53]; exact k3, by dsimp only; rw [e53]; exact k4, fun c hc => ?_⟩, fun q => (by cases q)⟩ (by dsimp only [h3]; omega) ⟨rfl, rfl, rfl, trivial⟩)
        · rw [hM2', hM1']; exact (f1.tr (pfr_w (by decide))).tr (pfr_w (by decide))
        · dsimp only at hc ⊢
          rw [hM2', dm_wi2 (by decide), dm_wi1, hM1', dm_wi1, dm_wi2 (by decide)]
          by_cases z : c = k
          · subst z; rw [dm_up1, dm_up1]; exact ⟨rfl, rfl⟩
          · rw [dm_up2 z, dm_up2 z]; exact k5 c (by omega)
    | 1, _, _, i1 =>
      obtain ⟨hR, p7, p8, p9, p59, pXk⟩ := i1 rfl
      have hk40 := pR_40 hu hR
      have pIk := pI_k hu hR
      have nl := pN_le U k
      have ek : (k : Int).toNat = k := by omega
      refine And.intro (fun hh => ?_) (fun hh => ?_)
      · have h40 : (40 : Int) ≤ (k : Int) := hh
        have : k = 40 := by omega
        subst this
        refine ⟨rfl, f1, 40, ⟨hR, ?_⟩, p7, p8, p9, p59, pXk⟩
        rcases pF_sp U (pst U 40) with ⟨a, b, c⟩ | ⟨a, b⟩
        · exfalso
          have : pR U 41 := fun j hj => by
            by_cases z : j = 40
            · subst z; exact a
            · exact hR j (by omega)
          have := pR_40 hu this
          omega
        · exact a
      · have h40 : (k : Int) < 40 := hh
        refine Exists.intro _ (And.intro (c_firstThatCan _ m k N U (pst U k) hm p7 (f1.hM h) hu pXk pIk) ?_)
        rintro r M0 ⟨rfl, (⟨g, rfl⟩ | ⟨g, rfl⟩)⟩
        · have hC : pC U (pst U k) (pF U (pst U k)) := by
            rcases pF_sp U (pst U k) with ⟨a, b, c⟩ | ⟨a, b⟩
            · exact b
            · omega
          refine And.intro (fun _ => ?_) (fun z => absurd (show ((pF U (pst U k) : Nat) : Int) = -1 from z) (by omega))
          refine Exists.intro _ (And.intro (c_act _ m (pF U (pst U k)) k M0 U (pst U k) hm g p7 (f1.hM h) hu pXk pIk hC (by omega)) ?_)
          rintro r M1 ⟨rfl, a1, a2, a3, a4⟩
          (repeat (first | refine And.intro ⟨by (try dsimp only); omega, by (try dsimp only); omega⟩ ?_ | refine And.intro (Or.inl rfl) ?_ | refine And.intro (Or.inr rfl) ?_))
          dsimp only
          rw [ek]
          intro M2 hM2
          have hM2' : M2 = dt_wi M1 59 k (pF U (pst U k) : Int) := hM2
          have e8 : M2.1 53 8 = (k : Int) := by rw [hM2', dm_wi2 (by decide), a3, dm_up2 (by decide)]; exact p8
          refine And.intro (show dt_r (M2.1 53 8 + 1) by rw [e8]; exact ⟨by omega, by omega⟩) ?_
          intro M3 hM3
          have hM3' : M3 = dt_wi M2 53 8 (M2.1 53 8 + 1) := hM3
          rw [e8] at hM3'
          have b53 : M3.1 53 = dt_up (dt_up (M0.1 53) 9 (M0.1 53 9 + (if U (pF U (pst U k)) 1 (pE U (pst U k).1 (pF U (pst U k))) = 0 then 1 else -1))) 8 ((k : Int) + 1) := by rw [hM3', dm_wi1, hM2', dm_wi2 (by decide), a3]
          have b0 : ∀ a, a ≠ 53 → a ≠ 59 → M3.1 a = M1.1 a := fun a x y => by rw [hM3', dm_wi2 x, hM2', dm_wi2 y]
          have b59 : M3.1 59 = dt_up (M0.1 59) k (pF U (pst U k) : Int) := by rw [hM3', dm_wi2 (by decide), hM2', dm_wi1, a1 59 (by decide) (by decide) (by decide) (by decide)]
          have f3 : pfr M M3 := f1.tr ⟨fun a ha => by rw [b0 a (by omega) (by omega)]; exact a1 a (by omega) (by omega) (by omega) (by omega), by rw [hM3', dm_wi3, hM2', dm_wi3]; exact a2⟩
          have x54 : M3.1 54 = M0.1 54 := by rw [b0 54 (by decide) (by decide)]; exact a1 54 (by decide) (by decide) (by decide) (by decide)
          have x55 : M3.1 55 = M0.1 55 := by rw [b0 55 (by decide) (by decide)]; exact a1 55 (by decide) (by decide) (by decide) (by decide)
          have xl := pIk.1 (pF U (pst U k)) g
          obtain ⟨n', s', v'⟩ := hu (pF U (pst U k)) g
          have xl2 := (ln_eq v'.1 g).2
          refine Exists.intro _ (And.intro (c_goOn _ m (pF U (pst U k)) M3 U (pst U k).1 hm g (by rw [b53, dm_up2 (by decide), dm_up2 (by decide)]; exact p7) (f3.hM h) hu (by rw [x54]; exact (pXk.1 _ g).1) (by omega)) ?_)
          rintro r M4 ⟨rfl, hM4⟩
          have c53 : M4.1 53 = M3.1 53 := by rw [hM4, dm_wi2 (by decide), dm_wi2 (by decide)]
          have nk : (pN U (k + 1) : Int) = (pN U k : Int) + (if U (pF U (pst U k)) 1 (pE U (pst U k).1 (pF U (pst U k))) = 0 then 1 else 0) := by
            show ((pN U k + (if U (pP U k) 1 (pV U k) = 0 then 1 else 0) : Nat) : Int) = _
            show ((pN U k + (if U (pF U (pst U k)) 1 (pE U (pst U k).1 (pF U (pst U k))) = 0 then 1 else 0) : Nat) : Int) = _
            split <;> omega
          refine And.intro ⟨by (try dsimp only); omega, by (try dsimp only); omega⟩ (hJ (1, k + 1, M4) _ ⟨by dsimp only; omega, ?_, fun q => (by cases q), fun _ => ⟨?_, ?_, ?_, ?_, fun j hj => ?_, fun q hq => ?_, fun c hc => ?_⟩⟩ (by dsimp only [h3]; omega) ⟨rfl, rfl, rfl, trivial⟩)
          · rw [hM4]; exact (f3.tr (pfr_w (by decide))).tr (pfr_w (by decide))
          · intro j hj
            dsimp only at hj
            by_cases z : j = k
            · subst z; exact g
            · exact hR j (by omega)
          · dsimp only; rw [c53, b53, dm_up2 (by decide), dm_up2 (by decide)]; exact p7
          · dsimp only; rw [c53, b53, dm_up1]; omega
          · dsimp only; rw [c53, b53, dm_up2 (by decide), dm_up1, p9, nk]; split <;> omega
          · dsimp only at hj ⊢
            rw [hM4, dm_wi2 (by decide), dm_wi2 (by decide), b59]
            by_cases z : j = k
            · subst z; rw [dm_up1]; rfl
            · rw [dm_up2 z]; exact p59 j (by omega)
          · dsimp only
            show M4.1 54 q = (((pS U (pst U k) (pF U (pst U k))).1 q : Nat) : Int) ∧ M4.1 55 q = nxt U (pS U (pst U k) (pF U (pst U k))).1 q
            rw [pS_x, hM4, dm_wi2 (by decide), dm_wi1, dm_wi1, dm_wi2 (by decide), x54, x55]
            by_cases z : q = pF U (pst U k)
            · rw [z, dm_up1, dm_up1, xu_1]; exact ⟨by omega, rfl⟩
            · rw [dm_up2 z, dm_up2 z, xu_2 z]
              refine ⟨(pXk.1 q hq).1, (pXk.1 q hq).2.trans ?_⟩
              unfold nxt pE
              rw [xu_2 z]
          · dsimp only
            show M4.1 57 c = (((pS U (pst U k) (pF U (pst U k))).2.1 c : Nat) : Int) ∧ M4.1 58 c = (((pS U (pst U k) (pF U (pst U k))).2.2.1 c : Nat) : Int) ∧ ∀ j, j < (pS U (pst U k) (pF U (pst U k))).2.1 c → M4.1 56 (c * 10 + j) = (pS U (pst U k) (pF U (pst U k))).2.2.2 c j
            rw [hM4, dm_wi2 (by decide), dm_wi2 (by decide), dm_wi2 (by decide), dm_wi2 (by decide), dm_wi2 (by decide), dm_wi2 (by decide), b0 57 (by decide) (by decide), b0 58 (by decide) (by decide), b0 56 (by decide) (by decide)]
            exact a4 c hc
        · refine And.intro (fun z => absurd (show (-1 : Int) = -1 from rfl) z) (fun _ => ?_)
          exact ⟨rfl, f1, k, ⟨hR, g⟩, p7, p8, p9, p59, pXk⟩
    | hd + 2, hh, _, _ => exact absurd hh (by omega)
/-- the play that has k steps ends -/
def pZ (U : Nat → Nat → Nat → Int) (k : Nat) : Prop := (∀ p, p < 4 → (pst U k).1 p = ln (U p) p) ∧ k = 2 * pN U k
theorem c_ends (d m k : Nat) (M : dt_M) (U : Nat → Nat → Nat → Int) (hu : hU U) (hK : pK U k) (hP : PR M U m k) : dt_Sp mX2_ends d [qP] M (fun r M' => M' = M ∧ ((r = some (.inl 1) ∧ pZ U k) ∨ (r = some (.inl 0) ∧ ¬ pZ U k))) := by
  obtain ⟨p7, p8, p9, p59, pXk⟩ := hP
  have pIk := pI_k hu hK.1
  refine dt_meth okX2_ends (fun pc => pc == 2) 50 (σ := Nat) (fun t => 2) (fun t => [some qP, some (.inl t)]) (fun t => M) (fun t => t ≤ 4 ∧ ∀ p, p < t → (pst U k).1 p = ln (U p) p) (fun t => 4 - t) (by decide) (Nat.le_of_ble_eq_true rfl) ?_ ?_
  · intro J hJ
    exact hJ 0 _ ⟨Nat.zero_le _, fun q hq => absurd hq (Nat.not_lt_zero q)⟩ ⟨rfl, rfl, trivial⟩
  · rintro p ⟨h1, h2⟩ J hJ
    refine And.intro (fun hh => ?_) (fun hh => ?_)
    · have : p = 4 := by omega
      subst this
      refine And.intro (fun z => ?_) (fun z => ?_)
      · have z' : ¬ M.1 53 9 = 0 := z
        exact ⟨Or.inl rfl, rfl, Or.inr ⟨rfl, fun q => by have := q.2; omega⟩⟩
      · have z' : M.1 53 9 = 0 := z
        exact ⟨Or.inr rfl, rfl, Or.inl ⟨rfl, h2, by omega⟩⟩
    · have hp : p < 4 := by omega
      have ep : (p : Int).toNat = p := by omega
      have xl := pIk.1 p hp
      (repeat (first | refine And.intro ⟨by (try dsimp only); omega, by (try dsimp only); omega⟩ ?_ | refine And.intro (Or.inl rfl) ?_ | refine And.intro (Or.inr rfl) ?_))
      rw [ep, (pXk.1 p hp).2]
      by_cases hl : (pst U k).1 p < ln (U p) p
      · rw [nxt_y hl]
        refine And.intro (fun z => absurd (show ((pE U (pst U k).1 p : Nat) : Int) = -1 from z) (by omega)) (fun _ => ?_)
        exact ⟨Or.inl rfl, rfl, Or.inr ⟨rfl, fun q => by have := q.1 p hp; omega⟩⟩
      · rw [nxt_n hl]
        refine And.intro (fun _ => ?_) (fun z => absurd (show (-1 : Int) = -1 from rfl) z)
        refine And.intro ⟨by omega, by omega⟩ (hJ (p + 1) _ ⟨by omega, fun q hq => ?_⟩ (by omega) ⟨rfl, rfl, trivial⟩)
        by_cases z : q = p
        · subst z; omega
        · exact h2 q (by omega)
