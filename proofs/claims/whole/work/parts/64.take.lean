/-! ===== take: the talk that a play makes ===== -/
noncomputable def pB (U : Nat → Nat → Nat → Int) (E : Nat → Nat → Int) : Nat → Nat → Nat → Int
  | 0 => E
  | k + 1 => tk_cp (pB U E k) (U (pP U k)) (pV U k)
theorem pN_mono (U : Nat → Nat → Nat → Int) {k j : Nat} (h : k ≤ j) : pN U k ≤ pN U j := by
  induction j with
  | zero => rw [show k = 0 by omega]; exact Nat.le_refl _
  | succ j ih =>
    by_cases hk : k = j + 1
    · rw [hk]; exact Nat.le_refl _
    · have := ih (by omega)
      show pN U k ≤ pN U j + _
      omega
/-- the step k of a play: its part, its event -/
theorem pst_s {U : Nat → Nat → Nat → Int} (h : hU U) {k : Nat} (hr : pR U (k + 1)) : pP U k < 4 ∧ pC U (pst U k) (pP U k) ∧ pst U (k + 1) = pS U (pst U k) (pP U k) ∧ pI U (pst U k) k ∧ tk_e (U (pP U k)) (pV U k) ∧ U (pP U k) 2 (pV U k) = (pP U k : Int) ∧ (pV U k : Int) < U (pP U k) 0 7 ∧ pV U k < 20 := by
  have h2 : pP U k < 4 := hr k (by omega)
  have hp : pF U (pst U k) < 4 := h2
  rcases pF_sp U (pst U k) with ⟨a, b, c⟩ | ⟨a, b⟩
  · have es := pE_sp h h2 b.1
    obtain ⟨n, s, v, e1, e2⟩ := es.2.1
    have e0 : U (pP U k) 0 7 = (n : Int) := v.1.1.1
    have e1' : pV U k < n := e1
    exact ⟨h2, b, rfl, pI_k h (fun j hj => hr j (by omega)), v.1.2.1 _ e1, es.2.2.1, by omega, by omega⟩
  · omega
def nmB (s : pm) (c : Nat) (w : Int) (j : Nat) : Bool := decide (s.2.2.2 c j = w)
theorem nmB_c {s t : pm} {c a j i : Nat} {w : Int} (h : s.2.2.2 c j = t.2.2.2 a i) : nmB s c w j = nmB t a w i := by unfold nmB; rw [h]
theorem nmB_v {s : pm} {c j : Nat} {w v : Int} (h : s.2.2.2 c j = v) : nmB s c w j = decide (v = w) := by unfold nmB; rw [h]
theorem pB_can0 {U : Nat → Nat → Nat → Int} {E : Nat → Nat → Int} (h : hU U) {k : Nat} (hr : pR U (k + 1)) (hn : pN U (k + 1) ≤ 10) (b1 : tB (pB U E k) k (pN U k)) (b3 : ∀ f t : Nat, f < 4 → t < 4 → ∀ w : Int, dt_ct (tk_ks (pB U E k) f t w) k = dt_ct (nmB (pst U k) (f * 4 + t) w) ((pst U k).2.1 (f * 4 + t)) ∧ dt_ct (tk_kt (pB U E k) f t w) k = dt_ct (nmB (pst U k) (f * 4 + t) w) ((pst U k).2.2.1 (f * 4 + t))) : tk_can (pB U E k) (U (pP U k)) k (pN U k) (pV U k) := by
    obtain ⟨hp, hC, hS, hI, he, h2, -, -⟩ := pst_s h hr
    have hn' : pN U k + (if U (pP U k) 1 (pV U k) = 0 then 1 else 0) ≤ 10 := hn
    have key : ∀ f t : Nat, ∀ w : Int, U (pP U k) 2 (pV U k) = (t : Int) → U (pP U k) 3 (pV U k) = (f : Int) → pG U (pst U k).1 (pP U k) = f * 4 + t := by
      intro f t w e2 e3
      have e3' : U (pP U k) 3 (pE U (pst U k).1 (pP U k)) = (f : Int) := e3
      unfold pG
      rw [e3']
      omega
    have hw : U (pP U k) 1 (pV U k) = 1 → tk_w (pB U E k) (U (pP U k) 3 (pV U k)) (U (pP U k) 2 (pV U k)) (U (pP U k) 4 (pV U k)) ≠ -1 := by
      intro q
      obtain ⟨f, hf⟩ : ∃ f : Nat, U (pP U k) 3 (pV U k) = (f : Int) := ⟨(U (pP U k) 3 (pV U k)).toNat, by have := he.2.2.1; omega⟩
      obtain ⟨t, ht⟩ : ∃ t : Nat, U (pP U k) 2 (pV U k) = (t : Int) := ⟨(U (pP U k) 2 (pV U k)).toNat, by have := he.2.1; omega⟩
      have hg := key f t (U (pP U k) 4 (pV U k)) ht hf
      have f4 : f < 4 := by have := he.2.2.1; omega
      have t4 : t < 4 := by have := he.2.1; omega
      rw [hf, ht]
      refine tk_w_pos b1.1.1 ?_
      have a := b1.2.2.2.2.2.2.2.2.1 (f : Int) (t : Int) (U (pP U k) 4 (pV U k))
      obtain ⟨c1, c2⟩ := b3 f t f4 t4 (U (pP U k) 4 (pV U k))
      rcases hC.2 with z | ⟨z1, z2⟩
      · exact absurd (z.symm.trans q) (by decide)
      · rw [hg] at z1 z2
        have := ct_lt (P := nmB (pst U k) (f * 4 + t) (U (pP U k) 4 (pV U k))) (e := (pst U k).2.2.1 (f * 4 + t)) (n := (pst U k).2.1 (f * 4 + t)) (decide_eq_true z2) z1
        omega
    have hr10 : U (pP U k) 1 (pV U k) = 0 → pN U k < 10 := by
      intro q
      rw [if_pos q] at hn'
      omega
    exact ⟨b1, he, hw, hr10⟩
theorem pB_k {U : Nat → Nat → Nat → Int} {E : Nat → Nat → Int} (h : hU U) (hE : tk_0 E) : ∀ {k : Nat}, pR U k → pN U k ≤ 10 → tB (pB U E k) k (pN U k) ∧ tS (pB U E k) k ∧ ∀ f t : Nat, f < 4 → t < 4 → ∀ w : Int, dt_ct (tk_ks (pB U E k) f t w) k = dt_ct (nmB (pst U k) (f * 4 + t) w) ((pst U k).2.1 (f * 4 + t)) ∧ dt_ct (tk_kt (pB U E k) f t w) k = dt_ct (nmB (pst U k) (f * 4 + t) w) ((pst U k).2.2.1 (f * 4 + t))
  | 0, _, _ => ⟨tk_0B hE, tS_0 hE, fun _ _ _ _ _ => ⟨rfl, rfl⟩⟩
  | k + 1, hr, hn => by
    obtain ⟨b1, b2, b3⟩ := pB_k (k := k) h hE (fun j hj => hr j (by omega)) (Nat.le_trans (pN_mono U (Nat.le_succ k)) hn)
    obtain ⟨hp, hC, hS, hI, he, h2, -, -⟩ := pst_s h hr
    have hC' := hC
    have hn' : pN U k + (if U (pP U k) 1 (pV U k) = 0 then 1 else 0) ≤ 10 := hn
    have can := pB_can0 (E := E) h hr hn b1 b3
    obtain ⟨-, -, hw, hr10⟩ := can
    have can := pB_can0 (E := E) h hr hn b1 b3
    obtain ⟨r1, r2⟩ := cp_rows b1 he hw
    refine ⟨?_, tS_cp b2 can, fun f t hf ht w => ?_⟩
    · have q := cp_tB b1 he hw hr10
      show tB _ (k + 1) (pN U k + _)
      by_cases z : U (pP U k) 1 (pV U k) = 0
      · rw [if_pos z]
        have e : tk_is (U (pP U k)) (pV U k) = true := by unfold tk_is; rw [z]; rfl
        rw [e] at q; exact q
      · rw [if_neg z]
        have e : tk_is (U (pP U k)) (pV U k) = false := by unfold tk_is; exact decide_eq_false z
        rw [e] at q; exact q
    · obtain ⟨c1, c2⟩ := b3 f t hf ht w
      have e1 : dt_ct (tk_ks (pB U E (k + 1)) f t w) (k + 1) = dt_ct (tk_ks (pB U E k) f t w) k + (if tk_ks (U (pP U k)) f t w (pV U k) then 1 else 0) := by
        show dt_ct (tk_ks (tk_cp (pB U E k) (U (pP U k)) (pV U k)) f t w) k + (if tk_ks (tk_cp (pB U E k) (U (pP U k)) (pV U k)) f t w k then 1 else 0) = _
        rw [ct_cong (R := tk_ks (pB U E k) f t w) (fun j hj => by unfold tk_ks; rw [r1 1 (by omega) (by omega) j hj, r1 2 (by omega) (by omega) j hj, r1 3 (by omega) (by omega) j hj, r1 4 (by omega) (by omega) j hj])]
        have : tk_ks (tk_cp (pB U E k) (U (pP U k)) (pV U k)) f t w k = tk_ks (U (pP U k)) f t w (pV U k) := by unfold tk_ks; rw [r2 1 (by omega) (by omega), r2 2 (by omega) (by omega), r2 3 (by omega) (by omega), r2 4 (by omega) (by omega)]
        rw [this]
      have e2 : dt_ct (tk_kt (pB U E (k + 1)) f t w) (k + 1) = dt_ct (tk_kt (pB U E k) f t w) k + (if tk_kt (U (pP U k)) f t w (pV U k) then 1 else 0) := by
        show dt_ct (tk_kt (tk_cp (pB U E k) (U (pP U k)) (pV U k)) f t w) k + (if tk_kt (tk_cp (pB U E k) (U (pP U k)) (pV U k)) f t w k then 1 else 0) = _
        rw [ct_cong (R := tk_kt (pB U E k) f t w) (fun j hj => by unfold tk_kt; rw [r1 1 (by omega) (by omega) j hj, r1 2 (by omega) (by omega) j hj, r1 3 (by omega) (by omega) j hj, r1 4 (by omega) (by omega) j hj])]
        have : tk_kt (tk_cp (pB U E k) (U (pP U k)) (pV U k)) f t w k = tk_kt (U (pP U k)) f t w (pV U k) := by unfold tk_kt; rw [r2 1 (by omega) (by omega), r2 2 (by omega) (by omega), r2 3 (by omega) (by omega), r2 4 (by omega) (by omega)]
        rw [this]
      rw [e1, e2, c1, c2, hS]
      have h2n : (U (pP U k) 2 (pV U k)) = (pP U k : Int) := h2
      by_cases z : U (pP U k) 1 (pV U k) = 0
      · have z' : U (pP U k) 1 (pE U (pst U k).1 (pP U k)) = 0 := z
        have ks : tk_kt (U (pP U k)) f t w (pV U k) = false := by unfold tk_kt; rw [z]; rfl
        rw [ks]
        unfold pS
        rw [if_pos z']
        dsimp only
        by_cases q : f * 4 + t = pQ U (pst U k).1 (pP U k)
        · have q' := q
          unfold pQ at q'
          have e3 := he.2.2.1
          have q1 : f = pP U k := by have : (U (pP U k) 3 (pE U (pst U k).1 (pP U k))).toNat < 4 := by (have : U (pP U k) 3 (pE U (pst U k).1 (pP U k)) = U (pP U k) 3 (pV U k) := rfl); omega
                                     omega
          have q2 : U (pP U k) 3 (pV U k) = (t : Int) := by
            have x1 : U (pP U k) 3 (pE U (pst U k).1 (pP U k)) = U (pP U k) 3 (pV U k) := rfl
            rw [x1] at q'
            omega
          have kk : tk_ks (U (pP U k)) f t w (pV U k) = decide (U (pP U k) 4 (pV U k) = w) := by
            unfold tk_ks
            rw [z, h2n, q2, q1]
            simp
          rw [kk, q, xu_1]
          have hle : ∀ n, n ≤ (pst U k).2.1 (pQ U (pst U k).1 (pP U k)) → dt_ct (fun j => nmB (xu (pst U k).1 (pP U k) ((pst U k).1 (pP U k) + 1), xu (pst U k).2.1 (pQ U (pst U k).1 (pP U k)) ((pst U k).2.1 (pQ U (pst U k).1 (pP U k)) + 1), (pst U k).2.2.1, fun c j => if c = pQ U (pst U k).1 (pP U k) ∧ j = (pst U k).2.1 (pQ U (pst U k).1 (pP U k)) then U (pP U k) 4 (pE U (pst U k).1 (pP U k)) else (pst U k).2.2.2 c j) (pQ U (pst U k).1 (pP U k)) w j) n = dt_ct (nmB (pst U k) (pQ U (pst U k).1 (pP U k)) w) n := fun n hn => ct_cong (fun j hj => nmB_c (if_neg (fun x => by have := x.2; omega)))
          constructor
          · show _ = dt_ct _ _ + _
            rw [hle _ (Nat.le_refl _)]
            exact congrArg (fun b : Bool => dt_ct (nmB (pst U k) (pQ U (pst U k).1 (pP U k)) w) ((pst U k).2.1 (pQ U (pst U k).1 (pP U k))) + (if b = true then 1 else 0)) (nmB_v (if_pos ⟨rfl, rfl⟩)).symm
          · rw [hle _ (hI.2.2.1 _)]
            rfl
        · have kk : tk_ks (U (pP U k)) f t w (pV U k) = false := by
            unfold tk_ks
            rw [z, h2n]
            simp only [decide_true, Bool.true_and, Bool.and_eq_false_iff, decide_eq_false_iff_not]
            have x1 : U (pP U k) 3 (pE U (pst U k).1 (pP U k)) = U (pP U k) 3 (pV U k) := rfl
            unfold pQ at q
            rw [x1] at q
            have e3 := he.2.2.1
            omega
          rw [kk, xu_2 q]
          have hle : ∀ n, dt_ct (fun j => nmB (xu (pst U k).1 (pP U k) ((pst U k).1 (pP U k) + 1), xu (pst U k).2.1 (pQ U (pst U k).1 (pP U k)) ((pst U k).2.1 (pQ U (pst U k).1 (pP U k)) + 1), (pst U k).2.2.1, fun c j => if c = pQ U (pst U k).1 (pP U k) ∧ j = (pst U k).2.1 (pQ U (pst U k).1 (pP U k)) then U (pP U k) 4 (pE U (pst U k).1 (pP U k)) else (pst U k).2.2.2 c j) (f * 4 + t) w j) n = dt_ct (nmB (pst U k) (f * 4 + t) w) n := fun n => ct_cong (fun j hj => nmB_c (if_neg (fun x => q x.1)))
          constructor
          · rw [hle]; rfl
          · rw [hle]; rfl
      · have z' : ¬ U (pP U k) 1 (pE U (pst U k).1 (pP U k)) = 0 := z
        have z1 : U (pP U k) 1 (pV U k) = 1 := by rcases he.1 with x | x; exact absurd x z; exact x
        have ks : tk_ks (U (pP U k)) f t w (pV U k) = false := by unfold tk_ks; rw [z1]; rfl
        rw [ks]
        unfold pS
        rw [if_neg z']
        dsimp only
        have hle : ∀ n, dt_ct (fun j => nmB (xu (pst U k).1 (pP U k) ((pst U k).1 (pP U k) + 1), (pst U k).2.1, xu (pst U k).2.2.1 (pG U (pst U k).1 (pP U k)) ((pst U k).2.2.1 (pG U (pst U k).1 (pP U k)) + 1), (pst U k).2.2.2) (f * 4 + t) w j) n = dt_ct (nmB (pst U k) (f * 4 + t) w) n := fun n => ct_cong (fun j hj => rfl)
        refine ⟨(hle _).symm ▸ rfl, ?_⟩
        by_cases q : f * 4 + t = pG U (pst U k).1 (pP U k)
        · rcases hC.2 with y | ⟨y1, y2⟩
          · exact absurd y z'
          have e3 := he.2.2.1
          have x1 : U (pP U k) 3 (pE U (pst U k).1 (pP U k)) = U (pP U k) 3 (pV U k) := rfl
          have x4 : U (pP U k) 4 (pE U (pst U k).1 (pP U k)) = U (pP U k) 4 (pV U k) := rfl
          have q' := q
          unfold pG at q'
          rw [x1] at q'
          have q1 : t = pP U k := by omega
          have q2 : U (pP U k) 3 (pV U k) = (f : Int) := by omega
          have kk : tk_kt (U (pP U k)) f t w (pV U k) = decide (U (pP U k) 4 (pV U k) = w) := by
            unfold tk_kt
            rw [z1, h2n, q2, q1]
            simp
          rw [kk, ← q, xu_1]
          rw [← q] at y2
          show _ = dt_ct (fun j => nmB _ (f * 4 + t) w j) _ + _
          rw [← q] at hle
          rw [hle]
          exact congrArg (fun b : Bool => dt_ct (nmB (pst U k) (f * 4 + t) w) ((pst U k).2.2.1 (f * 4 + t)) + (if b = true then 1 else 0)) (nmB_v (y2.trans x4)).symm
        · have kk : tk_kt (U (pP U k)) f t w (pV U k) = false := by
            unfold tk_kt
            rw [z1, h2n]
            simp only [decide_true, Bool.true_and, Bool.and_eq_false_iff, decide_eq_false_iff_not]
            have x1 : U (pP U k) 3 (pE U (pst U k).1 (pP U k)) = U (pP U k) 3 (pV U k) := rfl
            unfold pG at q
            rw [x1] at q
            have e3 := he.2.2.1
            omega
          rw [kk, xu_2 q]
          exact (hle _).symm ▸ rfl
theorem pB_can {U : Nat → Nat → Nat → Int} {E : Nat → Nat → Int} (h : hU U) (hE : tk_0 E) {k K : Nat} (hk : k < K) (hr : pR U K) (hn : pN U K ≤ 10) : tk_can (pB U E k) (U (pP U k)) k (pN U k) (pV U k) := by
  have hn1 : pN U (k + 1) ≤ 10 := Nat.le_trans (pN_mono U hk) hn
  have hr1 : pR U (k + 1) := fun j hj => hr j (by omega)
  obtain ⟨b1, b2, b3⟩ := pB_k (k := k) h hE (fun j hj => hr j (by omega)) (Nat.le_trans (pN_mono U (Nat.le_succ k)) hn1)
  exact pB_can0 h hr1 hn1 b1 b3
theorem pB_eq {U : Nat → Nat → Nat → Int} {E F : Nat → Nat → Int} (h : hU U) (hE : tk_0 E) (hF : tk_0 F) {K : Nat} (hr : pR U K) (hn : pN U K ≤ 10) : ∀ k, k ≤ K → tk_eq k (pB U E k) (pB U F k)
  | 0, _ => tk_0e hE hF
  | k + 1, hk => cp_eq (pB_eq h hE hF hr hn k (by omega)) (pB_can h hE (by omega) hr hn)
