/-! ===== Lattice: the walk; orders, moments, under ===== -/
noncomputable def conb (T : Nat → Nat → Int) (n c : Nat) : Bool := @decide (con T n (cG T c)) (Classical.propDecidable _)
theorem conb_t {T : Nat → Nat → Int} {n c : Nat} (h : con T n (cG T c)) : conb T n c = true := @decide_eq_true _ (Classical.propDecidable _) h
theorem conb_f {T : Nat → Nat → Int} {n c : Nat} (h : ¬ con T n (cG T c)) : conb T n c = false := @decide_eq_false _ (Classical.propDecidable _) h
theorem ct_t {P : Nat → Bool} {c : Nat} (h : P c = true) : dt_ct P (c + 1) = dt_ct P c + 1 := by show dt_ct P c + _ = _; rw [h]; rfl
theorem ct_f {P : Nat → Bool} {c : Nat} (h : P c = false) : dt_ct P (c + 1) = dt_ct P c := by show dt_ct P c + _ = _; rw [h]; rfl
/-- v is the most under way -/
def mxP (T : Nat → Nat → Int) (n : Nat) (v : Int) : Prop := 0 ≤ v ∧ (∀ d, d < cC T → con T n (cG T d) → (und T n (cG T d) : Int) ≤ v) ∧ (v = 0 ∨ ∃ d, d < cC T ∧ con T n (cG T d) ∧ (und T n (cG T d) : Int) = v)
theorem mxP_u {T : Nat → Nat → Int} {n : Nat} {v w : Int} (h : mxP T n v) (k : mxP T n w) : v = w := by
  have le : ∀ {v w : Int}, mxP T n v → mxP T n w → v ≤ w := by
    intro v w h k
    rcases h.2.2 with q | ⟨d, d1, d2, d3⟩
    · rw [q]; exact k.1
    · rw [← d3]; exact k.2.1 d d1 d2
  exact Int.le_antisymm (le h k) (le k h)
theorem c_walk (d k n s : Nat) (M : dt_M) (T : Nat → Nat → Int) (hT : ∀ g, g < 8 → tk M k g = T g) (hk : k + 8 ≤ 42) (hV : tV T n s) : dt_Sp mX0_walk (d + 2) [qL, qT k] M (fun r M' => r = none ∧ lfr M M' ∧ M'.2 46 6 = oB T n 0 ∧ M'.1 46 7 = (dt_ct (conb T n) (cC T) : Int) ∧ mxP T n (M'.1 46 8) ∧ M'.1 46 9 = oA T n 0) := by
  have hC' : cC T ≤ 1296 := cu_many hV.1
  have sp : 0 < cC T := st_pos (ln T) 4
  have hn : n ≤ 20 := by have := hV.1.1; omega
  refine dt_meth okX0_walk (fun pc => pc == 8) 80 (σ := Nat × dt_M) (fun t => 8) (fun t => [some qL, some (qT k), some (.inl (cC T)), some (.inl t.1)]) (fun t => t.2)
    (fun t => t.1 ≤ cC T ∧ lfr M t.2 ∧ (∀ p, p < 4 → t.2.1 50 p = (st (ln T) p : Int)) ∧ (t.1 < cC T → ∀ p, p < 4 → t.2.1 51 p = (cG T t.1 p : Int)) ∧ (∀ f, f < n → t.2.1 52 f = (pl T f : Int)) ∧ LA T n t.1 (min t.1 (cC T - 1)) (t.2.2 47) (t.2.1 48) (t.2.1 49) ∧ t.2.1 46 7 = (dt_ct (conb T n) t.1 : Int) ∧ (0 ≤ t.2.1 46 8 ∧ (∀ d, d < t.1 → con T n (cG T d) → (und T n (cG T d) : Int) ≤ t.2.1 46 8) ∧ (t.2.1 46 8 = 0 ∨ ∃ d, d < t.1 ∧ con T n (cG T d) ∧ (und T n (cG T d) : Int) = t.2.1 46 8))) (fun t => cC T - t.1) (by decide) (Nat.le_of_ble_eq_true rfl) ?_ ?_
  · intro J hJ
    refine Exists.intro _ (And.intro (c_prepare _ k n s M T hT hk hV) ?_)
    rintro r M0 ⟨rfl, f1, g1, g7, g8, gL⟩
    refine hJ (0, M0) _ ⟨Nat.zero_le _, f1, g1.1, fun _ => g1.2.1, g1.2.2, ?_, g7, by rw [g8]; decide, fun d hd => absurd hd (Nat.not_lt_zero d), Or.inl g8⟩ ⟨rfl, rfl, rfl, rfl, trivial⟩
    dsimp only
    rw [show min 0 (cC T - 1) = 0 by omega]
    exact gL
  · rintro ⟨c, N⟩ ⟨h1, h2, h3, h4, h5, h6, h7, h8, h9, h10⟩ J hJ
    dsimp only at h1 h2 h3 h4 h5 h6 h7 h8 h9 h10 hJ
    have ec : (c : Int).toNat = c := by omega
    refine And.intro (fun h => ?_) (fun h => ?_)
    · have hh : ((cC T : Nat) : Int) ≤ (c : Int) := h
      have : c = cC T := by omega
      subst this
      have e1 : ((cC T : Nat) : Int) - 1 = ((cC T - 1 : Nat) : Int) := by omega
      have e2 : (((cC T : Nat) : Int) - 1).toNat = cC T - 1 := by omega
      rw [show min (cC T) (cC T - 1) = cC T - 1 by omega] at h6
      obtain ⟨z1, z2⟩ := LA_e hV h6
      (repeat (first | refine And.intro ⟨by (try dsimp only); omega, by (try dsimp only); omega⟩ ?_ | refine And.intro (Or.inl rfl) ?_ | refine And.intro (Or.inr rfl) ?_))
      dsimp only
      rw [e2, z1]
      intro M1 hM1
      have hM1' : M1 = dt_wl N 46 6 (oB T n 0) := hM1
      (repeat (first | refine And.intro ⟨by (try dsimp only); omega, by (try dsimp only); omega⟩ ?_ | refine And.intro (Or.inl rfl) ?_ | refine And.intro (Or.inr rfl) ?_))
      dsimp only
      rw [e2, show M1.1 = N.1 by rw [hM1', dm_wl3], z2]
      intro M2 hM2
      have hM2' : M2 = dt_wi M1 46 9 (oA T n 0) := hM2
      have w1 : M2.1 46 = dt_up (N.1 46) 9 (oA T n 0) := by rw [hM2', dm_wi1, hM1', dm_wl3]
      refine ⟨rfl, h2.tr ⟨fun a ha => by rw [hM2', dm_wi2 (by omega), hM1', dm_wl3], fun a x y => by rw [hM2', dm_wi3, hM1', dm_wl2 x]⟩, by rw [hM2', dm_wi3, hM1', dm_wl1, dm_up1], by rw [w1, dm_up2 (by decide)]; exact h7, by rw [w1, dm_up2 (by decide)]; exact ⟨h8, h9, h10⟩, by rw [w1, dm_up1]⟩
    · have hh : (c : Int) < ((cC T : Nat) : Int) := h
      have hc : c < cC T := by omega
      have TN : ∀ g, g < 8 → tk N k g = T g := fun g hg => by rw [← hT g hg]; exact h2.1 (k + g) (by omega)
      have hx := h4 hc
      rw [show min c (cC T - 1) = c by omega] at h6
      have ctc := ct_le (conb T n) c
      have next : ∀ N' : dt_M, lfr M N' → (∀ p, p < 4 → N'.1 50 p = (st (ln T) p : Int)) → (∀ p, p < 4 → N'.1 51 p = (cG T c p : Int)) → (∀ f, f < n → N'.1 52 f = (pl T f : Int)) → LA T n (c + 1) (min (c + 1) (cC T - 1)) (N'.2 47) (N'.1 48) (N'.1 49) → N'.1 46 7 = (dt_ct (conb T n) (c + 1) : Int) → (0 ≤ N'.1 46 8 ∧ (∀ d, d < c + 1 → con T n (cG T d) → (und T n (cG T d) : Int) ≤ N'.1 46 8) ∧ (N'.1 46 8 = 0 ∨ ∃ d, d < c + 1 ∧ con T n (cG T d) ∧ (und T n (cG T d) : Int) = N'.1 46 8)) → ∃ Ψ, dt_Sp mX0_goToNextCut (d + 1) [qL, qT k] N' Ψ ∧ ∀ r M', Ψ r M' → r = none ∧ dt_r ((c : Int) + 1) ∧ J 8 [some qL, some (qT k), some (.inl (cC T)), some (.inl ((c : Int) + 1))] [] M' := by
        intro N' f1 f2 f3 f4 f5 f6 f7
        have TN' : ∀ g, g < 8 → tk N' k g = T g := fun g hg => by rw [← hT g hg]; exact f1.1 (k + g) (by omega)
        refine ⟨_, c_goToNextCut (d + 1) k n s c N' T TN' hk hV hc f3, ?_⟩
        rintro r M' ⟨rfl, z1, z2, z3⟩
        refine ⟨rfl, ⟨by omega, by omega⟩, hJ (c + 1, M') _ ⟨by dsimp only; omega, f1.tr ⟨fun a ha => z1 a (by omega), fun a _ _ => by rw [z2]⟩, fun p hp => by dsimp only; rw [z1 50 (by decide)]; exact f2 p hp, fun q => z3 q, fun f hf => by dsimp only; rw [z1 52 (by decide)]; exact f4 f hf, ?_, ?_, ?_⟩ (by dsimp only; omega) ⟨rfl, rfl, rfl, rfl, trivial⟩⟩
        · dsimp only; rw [z1 48 (by decide), z1 49 (by decide), z2]; exact f5
        · dsimp only; rw [z1 46 (by decide)]; exact f6
        · dsimp only; rw [z1 46 (by decide)]; exact f7
      (repeat (first | refine And.intro ⟨by (try dsimp only); omega, by (try dsimp only); omega⟩ ?_ | refine And.intro (Or.inl rfl) ?_ | refine And.intro (Or.inr rfl) ?_))
      dsimp only
      rw [ec]
      refine And.intro (fun z => ?_) (fun z => ?_)
      · have hr : ¬ 0 < N.2 47 c := by
          intro q
          have z' : dt_cmp (N.2 47 c) 0 ≤ 0 := z
          unfold dt_cmp at z'
          rw [if_pos q] at z'
          omega
        have hm : ¬ con T n (cG T c) := fun q => hr (((h6.1 c (Nat.le_refl c) hc).2).mpr ⟨q, rc_c hV hc q⟩)
        have hcC : c + 1 < cC T := by
          apply Classical.byContradiction
          intro q
          refine hm (con_all hV (fun p hp => ?_)).1
          have e : c = cC T - 1 := by omega
          rw [e]
          exact dg_last hp
        obtain ⟨-, LN⟩ := LA_n hV hcC hr h6
        obtain ⟨Ψ, y1, y2⟩ := next N h2 h3 hx h5 (by rw [show min (c + 1) (cC T - 1) = c + 1 by omega]; exact LN) (by rw [ct_f (conb_f hm)]; exact h7) ⟨h8, fun d hd q => by
            by_cases e : d = c
            · subst e; exact absurd q hm
            · exact h9 d (by omega) q, by
            rcases h10 with q | ⟨d, d1, d2, d3⟩
            · exact Or.inl q
            · exact Or.inr ⟨d, by omega, d2, d3⟩⟩
        refine Exists.intro Ψ (And.intro y1 ?_)
        intro r M' hr'
        obtain ⟨rfl, y3⟩ := y2 r M' hr'
        exact y3
      · have hr : 0 < N.2 47 c := by
          have z' : 0 < dt_cmp (N.2 47 c) 0 := z
          unfold dt_cmp at z'
          split at z'
          · assumption
          · split at z' <;> omega
        have hm := (((h6.1 c (Nat.le_refl c) hc).2).mp hr).1
        refine Exists.intro _ (And.intro (c_visit _ k n s c N T TN hk hV hc ⟨h3, hx, h5⟩ hr h6 (by rw [h7]; omega)) ?_)
        rintro r N' ⟨rfl, v1, v2, v3⟩
        obtain ⟨Ψ, y1, y2⟩ := next N' (h2.tr ⟨fun a ha => v1.1 a (by omega) (by omega) (by omega), fun a _ y => v1.2 a y⟩) (fun p hp => by rw [v1.1 50 (by decide) (by decide) (by decide)]; exact h3 p hp) (fun p hp => by rw [v1.1 51 (by decide) (by decide) (by decide)]; exact hx p hp) (fun f hf => by rw [v1.1 52 (by decide) (by decide) (by decide)]; exact h5 f hf) v3 (by rw [v2, dm_up2 (by decide), dm_up1, h7, ct_t (conb_t hm)]; rfl) (by
          rw [v2, dm_up1]
          refine ⟨by omega, fun d hd q => ?_, ?_⟩
          · by_cases e : d = c
            · subst e; omega
            · have := h9 d (by omega) q; omega
          · by_cases e : N.1 46 8 < (und T n (cG T c) : Int)
            · exact Or.inr ⟨c, by omega, hm, by omega⟩
            · rw [show max (N.1 46 8) (und T n (cG T c) : Int) = N.1 46 8 by omega]
              rcases h10 with q | ⟨d, d1, d2, d3⟩
              · exact Or.inl q
              · exact Or.inr ⟨d, by omega, d2, d3⟩)
        refine Exists.intro Ψ (And.intro y1 ?_)
        intro r M' hr'
        obtain ⟨rfl, y3⟩ := y2 r M' hr'
        exact y3
theorem c_orders (d : Nat) (i : Int) (M : dt_M) (hV : cV M) : dt_Sp mX6_orders (d + 3) [qX, .inl i] M (fun r M' => lfr M M' ∧ r = some (.inr (.inl (if 0 ≤ i ∧ i < 4 then oB (cT M i.toNat) (cT M i.toNat 0 7).toNat 0 else -1)))) := by
  refine dt_flat okX6_orders 60 (by decide) (Nat.le_of_ble_eq_true rfl) (fun J => ?_)
  refine Exists.intro _ (And.intro (c_isTalk _ i M) ?_)
  rintro r M0 ⟨rfl, rfl⟩
  by_cases hi : 0 ≤ i ∧ i < 4
  · rw [if_pos hi, if_pos hi]
    refine And.intro (fun _ => ?_) (fun h => absurd (show (1 : Int) = 0 from h) (by decide))
    obtain ⟨n, s, v⟩ := hV i.toNat (by omega)
    have e7 : M0.1 (2 + 8 * i.toNat) 7 = (n : Int) := v.1.1.1
    have e7' : (cT M0 i.toNat 0 7).toNat = n := by show (M0.1 (2 + 8 * i.toNat) 7).toNat = n; omega
    (repeat (first | refine And.intro ⟨by (try dsimp only); omega, by (try dsimp only); omega⟩ ?_ | refine And.intro (Or.inl rfl) ?_ | refine And.intro (Or.inr rfl) ?_))
    refine Exists.intro _ (And.intro (c_walk _ (2 + 8 * i.toNat) n s M0 (cT M0 i.toNat) (fun _ _ => rfl) (by omega) v) ?_)
    rintro r M1 ⟨rfl, w1, w2, w3, w4, w5⟩
    refine ⟨w1, ?_⟩
    rw [e7', ← w2]
  · rw [if_neg hi, if_neg hi]
    refine And.intro (fun h => absurd (show (0 : Int) = 0 from rfl) h) (fun _ => ?_)
    exact ⟨lfr.rf, rfl⟩
theorem c_moments (d : Nat) (i : Int) (M : dt_M) (hV : cV M) : dt_Sp mX6_moments (d + 3) [qX, .inl i] M (fun r M' => lfr M M' ∧ r = some (.inl (if 0 ≤ i ∧ i < 4 then (dt_ct (conb (cT M i.toNat) (cT M i.toNat 0 7).toNat) (cC (cT M i.toNat)) : Int) else -1))) := by
  refine dt_flat okX6_moments 60 (by decide) (Nat.le_of_ble_eq_true rfl) (fun J => ?_)
  refine Exists.intro _ (And.intro (c_isTalk _ i M) ?_)
  rintro r M0 ⟨rfl, rfl⟩
  by_cases hi : 0 ≤ i ∧ i < 4
  · rw [if_pos hi, if_pos hi]
    refine And.intro (fun _ => ?_) (fun h => absurd (show (1 : Int) = 0 from h) (by decide))
    obtain ⟨n, s, v⟩ := hV i.toNat (by omega)
    have e7 : M0.1 (2 + 8 * i.toNat) 7 = (n : Int) := v.1.1.1
    have e7' : (cT M0 i.toNat 0 7).toNat = n := by show (M0.1 (2 + 8 * i.toNat) 7).toNat = n; omega
    (repeat (first | refine And.intro ⟨by (try dsimp only); omega, by (try dsimp only); omega⟩ ?_ | refine And.intro (Or.inl rfl) ?_ | refine And.intro (Or.inr rfl) ?_))
    refine Exists.intro _ (And.intro (c_walk _ (2 + 8 * i.toNat) n s M0 (cT M0 i.toNat) (fun _ _ => rfl) (by omega) v) ?_)
    rintro r M1 ⟨rfl, w1, w2, w3, w4, w5⟩
    refine ⟨w1, ?_⟩
    rw [e7', ← w3]
  · rw [if_neg hi, if_neg hi]
    refine And.intro (fun h => absurd (show (0 : Int) = 0 from rfl) h) (fun _ => ?_)
    exact ⟨lfr.rf, rfl⟩
/-- the answer of under -/
def unA (T : Nat → Nat → Nat → Int) (i w v : Int) : Prop := ((0 ≤ i ∧ i < 4) ∧ w = 0 ∧ mxP (T i.toNat) (T i.toNat 0 7).toNat v) ∨ ((0 ≤ i ∧ i < 4) ∧ w = 1 ∧ v = oA (T i.toNat) (T i.toNat 0 7).toNat 0) ∨ (¬ ((0 ≤ i ∧ i < 4) ∧ 0 ≤ w ∧ w ≤ 1) ∧ v = -1)
theorem unA_u {T : Nat → Nat → Nat → Int} {i w v v' : Int} (h : unA T i w v) (k : unA T i w v') : v = v' := by
  rcases h with ⟨h1, h2, h3⟩ | ⟨h1, h2, h3⟩ | ⟨h1, h3⟩ <;> rcases k with ⟨k1, k2, k3⟩ | ⟨k1, k2, k3⟩ | ⟨k1, k3⟩ <;> first | exact mxP_u h3 k3 | exact h3.trans k3.symm | omega
theorem c_under (d : Nat) (i w : Int) (M : dt_M) (hV : cV M) : dt_Sp mX6_under (d + 3) [qX, .inl i, .inl w] M (fun r M' => lfr M M' ∧ ∃ v, r = some (.inl v) ∧ unA (cT M) i w v) := by
  refine dt_flat okX6_under 60 (by decide) (Nat.le_of_ble_eq_true rfl) (fun J => ?_)
  refine Exists.intro _ (And.intro (c_isTalk _ i M) ?_)
  rintro r M0 ⟨rfl, rfl⟩
  by_cases hi : 0 ≤ i ∧ i < 4
  · rw [if_pos hi]
    refine And.intro (fun h => absurd (show (1 : Int) = 0 from h) (by decide)) (fun _ => ?_)
    refine And.intro (fun h => ⟨lfr.rf, _, rfl, Or.inr (Or.inr ⟨by omega, rfl⟩)⟩) (fun h => ?_)
    refine And.intro (fun h1 => ?_) (fun h1 => ⟨lfr.rf, _, rfl, Or.inr (Or.inr ⟨by omega, rfl⟩)⟩)
    obtain ⟨n, s, v⟩ := hV i.toNat (by omega)
    have e7 : M0.1 (2 + 8 * i.toNat) 7 = (n : Int) := v.1.1.1
    have e7' : (cT M0 i.toNat 0 7).toNat = n := by show (M0.1 (2 + 8 * i.toNat) 7).toNat = n; omega
    (repeat (first | refine And.intro ⟨by (try dsimp only); omega, by (try dsimp only); omega⟩ ?_ | refine And.intro (Or.inl rfl) ?_ | refine And.intro (Or.inr rfl) ?_))
    refine Exists.intro _ (And.intro (c_walk _ (2 + 8 * i.toNat) n s M0 (cT M0 i.toNat) (fun _ _ => rfl) (by omega) v) ?_)
    rintro r M1 ⟨rfl, w1, w2, w3, w4, w5⟩
    refine And.intro (fun z => ?_) (fun z => ?_)
    · exact ⟨w1, M1.1 46 9, rfl, Or.inr (Or.inl ⟨hi, by omega, by rw [e7']; exact w5⟩)⟩
    · exact ⟨w1, M1.1 46 8, rfl, Or.inl ⟨hi, z, by rw [e7']; exact w4⟩⟩
  · rw [if_neg hi]
    refine And.intro (fun _ => ?_) (fun h => absurd (show (0 : Int) = 0 from rfl) h)
    exact ⟨lfr.rf, _, rfl, Or.inr (Or.inr ⟨fun q => hi q.1, rfl⟩)⟩
