/-! ===== DrawnTalks: alike, behind ===== -/
/-- every talk of the class is whole -/
def cV (M : dt_M) : Prop := ∀ i : Nat, i < 4 → ∃ n s, tV (tk M (2 + 8 * i)) n s
theorem tB_row {T U : Nat → Nat → Int} {n s : Nat} (hrow : ∀ g, g < 8 → U g = T g) (hB : tB T n s) : tB U n s := by
  unfold tB tk_op tk_ot tk_kt tk_ks tk_o tk_is tk_e at hB ⊢
  rw [hrow 0 (by omega), hrow 1 (by omega), hrow 2 (by omega), hrow 3 (by omega), hrow 4 (by omega), hrow 5 (by omega), hrow 6 (by omega), hrow 7 (by omega)]
  exact hB
theorem tS_row {T U : Nat → Nat → Int} {n : Nat} (hrow : ∀ g, g < 8 → U g = T g) (hS : tS T n) : tS U n := by
  intro E hE
  rw [all_cong (R := T) (fun g a b j hj => by rw [hrow g (by omega)])]
  have h := hS E hE
  unfold tk_eq at h ⊢
  refine ⟨?_, ?_, fun g a b j hj => ?_, fun p hp => ?_, fun p hp j hj => ?_⟩
  · rw [hrow 0 (by omega)]; exact h.1
  · rw [hrow 0 (by omega)]; exact h.2.1
  · rw [hrow g (by omega)]; exact h.2.2.1 g a b j hj
  · rw [hrow 6 (by omega)]; exact h.2.2.2.1 p hp
  · rw [hrow 7 (by omega)]; exact h.2.2.2.2 p hp j hj
theorem tV_row {T U : Nat → Nat → Int} {n s : Nat} (hrow : ∀ g, g < 8 → U g = T g) (h : tV T n s) : tV U n s := ⟨tB_row hrow h.1, tS_row hrow h.2.1, h.2.2⟩
theorem tV_fr {M M' : dt_M} {k l n s : Nat} (h : tk_fr M M' k) (hk : tk_ap k l) (hT : tV (tk M l) n s) : tV (tk M' l) n s := tV_row (fun _ hg => h.row hk hg) hT
theorem c_alike (d : Nat) (i j : Int) (M : dt_M) (hV : cV M) : dt_Sp mX6_alike (d + 2) [qX, .inl i, .inl j] M (fun r M' => M' = M ∧ (((0 ≤ i ∧ i < 4) ∧ (0 ≤ j ∧ j < 4) ∧ ((r = some (.inl 1) ∧ ∀ p, p < 4 → tk_sl (tk M (2 + 8 * i.toNat)) (tk M (2 + 8 * j.toNat)) p) ∨ (r = some (.inl 0) ∧ ¬ ∀ p, p < 4 → tk_sl (tk M (2 + 8 * i.toNat)) (tk M (2 + 8 * j.toNat)) p))) ∨ (¬ ((0 ≤ i ∧ i < 4) ∧ (0 ≤ j ∧ j < 4)) ∧ r = some (.inl (-1))))) := by
  refine dt_meth okX6_alike (fun pc => pc == 18) 60 (σ := Nat) (fun _ => 18) (fun t => [some qX, some (.inl i), some (.inl j), some (.inl t)]) (fun t => M) (fun t => t ≤ 4 ∧ (0 ≤ i ∧ i < 4) ∧ (0 ≤ j ∧ j < 4) ∧ ∀ p, p < t → tk_sl (tk M (2 + 8 * i.toNat)) (tk M (2 + 8 * j.toNat)) p) (fun t => 4 - t) (by decide) (Nat.le_of_ble_eq_true rfl) ?_ ?_
  · intro J hJ
    refine Exists.intro _ (And.intro (c_isTalk _ i M) ?_)
    rintro r M0 ⟨rfl, rfl⟩
    by_cases hi : 0 ≤ i ∧ i < 4
    · rw [if_pos hi]
      refine And.intro (fun h => absurd (show (1 : Int) = 0 from h) (by decide)) (fun _ => ?_)
      refine Exists.intro _ (And.intro (c_isTalk _ j M0) ?_)
      rintro r M1 ⟨rfl, rfl⟩
      by_cases hj : 0 ≤ j ∧ j < 4
      · rw [if_pos hj]
        refine And.intro (fun _ => ?_) (fun h => absurd (show (1 : Int) = 0 from h) (by decide))
        exact hJ 0 _ ⟨by omega, hi, hj, fun p hp => by omega⟩ ⟨rfl, rfl, rfl, rfl, trivial⟩
      · rw [if_neg hj]
        refine And.intro (fun h => absurd (show (0 : Int) = 0 from rfl) h) (fun _ => ?_)
        exact ⟨rfl, Or.inr ⟨fun q => hj q.2, rfl⟩⟩
    · rw [if_neg hi]
      refine And.intro (fun _ => ?_) (fun h => absurd (show (0 : Int) = 0 from rfl) h)
      exact ⟨rfl, Or.inr ⟨fun q => hi q.1, rfl⟩⟩
  · rintro p ⟨h1, hi, hj, h2⟩ J hJ
    refine And.intro (fun h => ?_) (fun h => ?_)
    · have : p = 4 := by omega
      subst this
      exact ⟨rfl, Or.inl ⟨hi, hj, Or.inl ⟨rfl, h2⟩⟩⟩
    · refine And.intro ⟨by omega, by omega⟩ (And.intro ⟨by omega, by omega⟩ ?_)
      obtain ⟨n, s, v1⟩ := hV i.toNat (by omega)
      obtain ⟨m, r, v2⟩ := hV j.toNat (by omega)
      refine Exists.intro _ (And.intro (c_hasSameLine _ _ _ p n s m r M (by omega) v1.1 v2.1) ?_)
      rintro rv M0 ⟨rfl, (⟨rfl, g⟩ | ⟨rfl, g⟩)⟩
      · refine And.intro (fun _ => ?_) (fun q => absurd (show (1 : Int) = 0 from q) (by decide))
        refine And.intro ⟨by omega, by omega⟩ (hJ (p + 1) _ ⟨by omega, hi, hj, fun q hq => ?_⟩ (by omega) ⟨rfl, rfl, rfl, rfl, trivial⟩)
        by_cases hqp : q = p
        · subst hqp; exact g
        · exact h2 q (by omega)
      · refine And.intro (fun q => absurd (show (0 : Int) = 0 from rfl) q) (fun _ => ?_)
        exact ⟨rfl, Or.inl ⟨hi, hj, Or.inr ⟨rfl, fun q => g (q p (by omega))⟩⟩⟩
/-- one talk behind another, as it is built -/
def tk_bh (E T U : Nat → Nat → Int) (n m : Nat) : Nat → Nat → Int := tk_all (tk_all E T n) U m
theorem bh_tV {E T U : Nat → Nat → Int} {n s m r : Nat} (hE : tk_0 E) (hT : tV T n s) (hU : tV U m r) (h : s + r ≤ 10) : tV (tk_bh E T U n m) (n + m) (s + r) ∧ tB (tk_all E T n) n s := by
  have b1 := (all_tB (tk_0B hE) hT.1 (by omega) n (Nat.le_refl n)).1
  have c1 := tS_all (tS_0 hE) (tk_0B hE) hT.1 (by omega) n (Nat.le_refl n)
  rw [hT.1.2.2.2.2.2.2.2.2.2.2, Nat.zero_add, Nat.zero_add] at b1
  rw [Nat.zero_add] at c1
  have b2 := (all_tB b1 hU.1 (by omega) m (Nat.le_refl m)).1
  have c2 := tS_all c1 b1 hU.1 (by omega) m (Nat.le_refl m)
  rw [hU.1.2.2.2.2.2.2.2.2.2.2] at b2
  exact ⟨⟨b2, c2, by have := hT.2.2; have := hU.2.2; omega⟩, b1⟩
theorem bh_eq {E F T U : Nat → Nat → Int} {n s m r : Nat} (hE : tk_0 E) (hF : tk_0 F) (hT : tV T n s) (hU : tV U m r) (h : s + r ≤ 10) : tk_eq (n + m) (tk_bh E T U n m) (tk_bh F T U n m) := by
  have a := all_eq (tk_0e hE hF) (tk_0B hE) hT.1 (by omega) n (Nat.le_refl n)
  rw [Nat.zero_add] at a
  exact all_eq a (bh_tV hE hT hU h).2 hU.1 h m (Nat.le_refl m)
/-- only the talk i and the scratch talk have changed -/
def cB (M M' : dt_M) (i : Nat) : Prop := (∀ a, (a < 2 + 8 * i ∨ 2 + 8 * i + 8 ≤ a) → (a < 34 ∨ 42 ≤ a) → M'.1 a = M.1 a) ∧ M'.2 = M.2
theorem c_behind (d : Nat) (i j t : Int) (M : dt_M) (hV : cV M) : dt_Sp mX6_behind (d + 5) [qX, .inl i, .inl j, .inl t] M (fun r M' =>
    (¬ ((0 ≤ i ∧ i < 4) ∧ (0 ≤ j ∧ j < 4) ∧ (0 ≤ t ∧ t < 4)) ∧ r = some (.inl (-1)) ∧ M' = M) ∨
    ((0 ≤ i ∧ i < 4) ∧ (0 ≤ j ∧ j < 4) ∧ (0 ≤ t ∧ t < 4) ∧ 10 < M.1 (2 + 8 * i.toNat) 8 + M.1 (2 + 8 * j.toNat) 8 ∧ r = some (.inl (-3)) ∧ M' = M) ∨
    ((0 ≤ i ∧ i < 4) ∧ (0 ≤ j ∧ j < 4) ∧ (0 ≤ t ∧ t < 4) ∧ ∃ n s m q E, tV (tk M (2 + 8 * i.toNat)) n s ∧ tV (tk M (2 + 8 * j.toNat)) m q ∧ s + q ≤ 10 ∧ tk_0 E ∧ r = some (.inl ((n + m : Nat) : Int)) ∧ cB M M' t.toNat ∧ tV (tk M' (2 + 8 * t.toNat)) (n + m) (s + q) ∧ tk_eq (n + m) (tk M' (2 + 8 * t.toNat)) (tk_bh E (tk M (2 + 8 * i.toNat)) (tk M (2 + 8 * j.toNat)) n m))) := by
  refine dt_flat okX6_behind 80 (by decide) (Nat.le_of_ble_eq_true rfl) (fun J => ?_)
  refine Exists.intro _ (And.intro (c_isTalk _ i M) ?_)
  rintro r M0 ⟨rfl, rfl⟩
  by_cases hi : 0 ≤ i ∧ i < 4
  · rw [if_pos hi]
    refine And.intro (fun h => absurd (show (1 : Int) = 0 from h) (by decide)) (fun _ => ?_)
    refine Exists.intro _ (And.intro (c_isTalk _ j M0) ?_)
    rintro r M1 ⟨rfl, rfl⟩
    by_cases hj : 0 ≤ j ∧ j < 4
    · rw [if_pos hj]
      refine And.intro (fun h => absurd (show (1 : Int) = 0 from h) (by decide)) (fun _ => ?_)
      refine Exists.intro _ (And.intro (c_isTalk _ t M1) ?_)
      rintro r M2 ⟨rfl, rfl⟩
      by_cases ht : 0 ≤ t ∧ t < 4
      · rw [if_pos ht]
        refine And.intro (fun _ => ?_) (fun h => absurd (show (1 : Int) = 0 from h) (by decide))
        refine And.intro ⟨by omega, by omega⟩ (And.intro ⟨by omega, by omega⟩ ?_)
        obtain ⟨n, s, v1⟩ := hV i.toNat (by omega)
        obtain ⟨m, q, v2⟩ := hV j.toNat (by omega)
        have e1 : M2.1 (2 + 8 * i.toNat) 8 = (s : Int) := v1.1.1.2.1
        have e2 : M2.1 (2 + 8 * j.toNat) 8 = (q : Int) := v2.1.1.2.1
        have s10 := v1.1.1.2.2.1
        have q10 := v2.1.1.2.2.1
        refine And.intro ⟨by show _ ≤ M2.1 (2 + 8 * i.toNat) 8 + M2.1 (2 + 8 * j.toNat) 8; omega, by show M2.1 (2 + 8 * i.toNat) 8 + M2.1 (2 + 8 * j.toNat) 8 ≤ _; omega⟩ (And.intro (fun h => ?_) (fun h => ?_))
        · have hsq : s + q ≤ 10 := by
            have : M2.1 (2 + 8 * i.toNat) 8 + M2.1 (2 + 8 * j.toNat) 8 ≤ 10 := h
            omega
          refine Exists.intro _ (And.intro (c_empty _ 34 M2) ?_)
          rintro r M3 ⟨rfl, g1, g2, g3, g4⟩
          have hE : tk_0 (tk M3 34) := ⟨by rw [g2, dm_up2 (by decide), dm_up1], by rw [g2, dm_up1], g4⟩
          have api : tk_ap 34 (2 + 8 * i.toNat) := by unfold tk_ap; omega
          have apj : tk_ap 34 (2 + 8 * j.toNat) := by unfold tk_ap; omega
          have w1 := tV_fr g1 api v1
          refine And.intro ⟨by omega, by omega⟩ ?_
          refine Exists.intro _ (And.intro (c_addAll _ 34 (2 + 8 * i.toNat) 0 0 n s M3 api (tk_0B hE) w1.1 (by omega)) ?_)
          rintro r M4 ⟨rfl, k1, k2⟩
          have w2 := tV_fr k1 apj (tV_fr g1 apj v2)
          rw [all_cong (R := tk M2 (2 + 8 * i.toNat)) (fun g a b x hx => by rw [g1.row api (by omega)])] at k2
          have hb1 : tB (tk M4 34) n s := by rw [k2]; exact (bh_tV hE v1 v2 hsq).2
          refine And.intro ⟨by omega, by omega⟩ ?_
          refine Exists.intro _ (And.intro (c_addAll _ 34 (2 + 8 * j.toNat) n s m q M4 apj hb1 w2.1 hsq) ?_)
          rintro r M5 ⟨rfl, l1, l2⟩
          rw [k2, all_cong (R := tk M2 (2 + 8 * j.toNat)) (fun g a b x hx => by rw [(g1.tr k1).row apj (by omega)])] at l2
          have hb2 := (bh_tV hE v1 v2 hsq).1
          have hb3 : tV (tk M5 34) (n + m) (s + q) := by rw [l2]; exact hb2
          have et : ((t.toNat : Nat) : Int) = t := by omega
          have hkb := c_keepBuilt d (n + m) (s + q) t.toNat M5 (by omega) hb3
          rw [et] at hkb
          refine Exists.intro _ (And.intro hkb ?_)
          rintro r M6 ⟨rfl, o1, o2, o3⟩
          refine Or.inr (Or.inr ⟨hi, hj, ht, n, s, m, q, tk M3 34, v1, v2, hsq, hE, rfl, ⟨fun a h1 h2 => ?_, ?_⟩, o2, ?_⟩)
          · rw [o1.1 a h1, l1.1 a (by omega), k1.1 a (by omega), g1.1 a (by omega)]
          · rw [o1.2, l1.2, k1.2, g1.2]
          · rw [l2] at o3; exact o3
        · exact Or.inr (Or.inl ⟨hi, hj, ht, h, rfl, rfl⟩)
      · rw [if_neg ht]
        refine And.intro (fun h => absurd (show (0 : Int) = 0 from rfl) h) (fun _ => ?_)
        exact Or.inl ⟨fun q => ht q.2.2, rfl, rfl⟩
    · rw [if_neg hj]
      refine And.intro (fun _ => ?_) (fun h => absurd (show (0 : Int) = 0 from rfl) h)
      exact Or.inl ⟨fun q => hj q.2.1, rfl, rfl⟩
  · rw [if_neg hi]
    refine And.intro (fun _ => ?_) (fun h => absurd (show (0 : Int) = 0 from rfl) h)
    exact Or.inl ⟨fun q => hi q.1, rfl, rfl⟩
