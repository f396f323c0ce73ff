/-! ===== Talk: copying, comparing ===== -/
/-- two talks lie apart -/
def tk_ap (k l : Nat) : Prop := l + 8 ≤ k ∨ k + 8 ≤ l
theorem tk_fr.row {M M' : dt_M} {k l : Nat} (h : tk_fr M M' k) (hk : tk_ap k l) {g : Nat} (hg : g < 8) : tk M' l g = tk M l g := by
  funext j
  show M'.1 (l + g) j = M.1 (l + g) j
  rw [h.1 (l + g) (by unfold tk_ap at hk; omega)]
theorem c_addCopy (d k l e m r : Nat) (M : dt_M) (he : (e : Int) < M.1 l 7) (he2 : e < 20) (hc : tk_can (tk M k) (tk M l) m r e) : dt_Sp mX5_addCopy (d + 2) [.inr (.inr (9, 9, k)), .inr (.inr (9, 9, l)), .inl e] M (fun r M' => r = none ∧ tk_fr M M' k ∧ tk M' k = tk_cp (tk M k) (tk M l) e) := by
  obtain ⟨hB, hev, hw, hr⟩ := hc
  have f1 : M.1 k 7 = (m : Int) := hB.1.1
  have f2 : M.1 k 8 = (r : Int) := hB.1.2.1
  have f3 := hB.1
  have p1 : (M.1 (l + 2) e : Int) = tk M l 2 e := rfl
  have en : (e : Int).toNat = e := by omega
  refine dt_flat okX5_addCopy 80 (by decide) (Nat.le_of_ble_eq_true rfl) (fun J => ?_)
  refine And.intro (fun h => absurd h (by omega)) (fun _ => ?_)
  refine And.intro (fun _ => ?_) (fun h => absurd h (by omega))
  refine And.intro ⟨by omega, by omega⟩ (And.intro (fun h => ?_) (fun h => ?_))
  · rw [en] at h
    have h0 : tk M l 1 e = 0 := h
    refine And.intro ⟨by omega, by omega⟩ (And.intro ⟨by omega, by omega⟩ (And.intro ⟨by omega, by omega⟩ ?_))
    have hlp := tB_line hB (p := (tk M l 2 e).toNat) (by have := hev.2.1; omega)
    have hr' := hr h0
    refine Exists.intro _ (And.intro (c_addSend d k _ _ _ M (by rw [en]; exact hev.2.1) (by rw [en]; exact hev.2.2.1) (by omega) (by omega) (by rw [en]; exact ⟨hlp.1, by have := hlp.2.1; show tk M k 6 (tk M l 2 e).toNat < 10; omega⟩)) ?_)
    rintro rv M' ⟨rfl, g1, g2⟩
    refine ⟨rfl, g1, ?_⟩
    rw [g2, en]
    unfold tk_cp
    rw [if_neg (by rw [h0]; decide)]
    rfl
  · rw [en] at h
    have h1 : tk M l 1 e = 1 := by rcases hev.1 with q | q; exact absurd q h; exact q
    refine And.intro ⟨by omega, by omega⟩ (And.intro ⟨by omega, by omega⟩ (And.intro ⟨by omega, by omega⟩ ?_))
    obtain ⟨-, b2, b3, -, -⟩ := tB_tk hB (hw h1)
    have hlp := tB_line hB (p := (tk M l 2 e).toNat) (by have := hev.2.1; omega)
    refine Exists.intro _ (And.intro (c_addTake d k _ _ _ M (by rw [en]; exact hev.2.2.1) (by rw [en]; exact hev.2.1) (by omega) (by rw [en]; exact ⟨hlp.1, b3⟩) (by rw [en]; exact hw h1)) ?_)
    rintro rv M' ⟨rfl, g1, g2⟩
    refine ⟨rfl, g1, ?_⟩
    rw [g2, en]
    unfold tk_cp
    rw [if_pos h1]
    rfl
theorem c_addAll (d k l m r n s : Nat) (M : dt_M) (hk : tk_ap k l) (hU : tB (tk M k) m r) (hT : tB (tk M l) n s) (hrs : r + s ≤ 10) : dt_Sp mX5_addAll (d + 3) [.inr (.inr (9, 9, k)), .inr (.inr (9, 9, l))] M (fun r M' => r = none ∧ tk_fr M M' k ∧ tk M' k = tk_all (tk M k) (tk M l) n) := by
  have hn : n ≤ 20 := by have := hT.1; omega
  refine dt_meth okX5_addAll (fun pc => pc == 2) 40 (σ := Nat × dt_M) (fun _ => 2) (fun t => [some (.inr (.inr (9, 9, k))), some (.inr (.inr (9, 9, l))), some (.inl t.1)]) (fun t => t.2) (fun t => t.1 ≤ n ∧ tk_fr M t.2 k ∧ tk t.2 k = tk_all (tk M k) (tk M l) t.1) (fun t => n - t.1) (by decide) (Nat.le_of_ble_eq_true rfl) ?_ ?_
  · intro J hJ
    exact hJ (0, M) _ ⟨by omega, tk_fr.rf, rfl⟩ ⟨rfl, rfl, rfl, trivial⟩
  · rintro ⟨e, N⟩ ⟨h1, h2, h3⟩ J hJ
    dsimp only at h1 h2 h3 hJ
    have f1 : N.1 l 7 = (n : Int) := (congrFun (h2.row hk (g := 0) (by omega)) 7).trans hT.1.1
    refine And.intro (fun h => ?_) (fun h => ?_)
    · have : e = n := by (try dsimp only at *); omega
      subst this
      exact ⟨rfl, h2, h3⟩
    · have he : e < n := by (try dsimp only at *); omega
      have hc := all_can hU hT hrs he
      have hrow : ∀ g, g < 8 → tk N l g = tk M l g := fun g hg => h2.row hk hg
      have hc2 : tk_can (tk N k) (tk N l) (m + e) (r + dt_ct (tk_is (tk M l)) e) e := by
        rw [h3]
        unfold tk_can tk_e at hc ⊢
        rw [hrow 1 (by omega), hrow 2 (by omega), hrow 3 (by omega), hrow 4 (by omega)]
        exact hc
      refine Exists.intro _ (And.intro (c_addCopy d k l e _ _ N (by omega) (by omega) hc2) ?_)
      rintro rv M' ⟨rfl, g1, g2⟩
      refine And.intro (by (try dsimp only at *); exact ⟨by omega, by omega⟩) ?_
      refine hJ (e + 1, M') _ ⟨(by (try dsimp only at *); omega), h2.tr g1, ?_⟩ (by (try dsimp only at *); omega) ⟨rfl, rfl, rfl, trivial⟩
      show tk M' k = tk_cp (tk_all (tk M k) (tk M l) e) (tk M l) e
      rw [g2, h3]
      exact cp_cong (fun g a b => by rw [hrow g (by omega)])
theorem c_isTalk (d : Nat) (i : Int) (M : dt_M) : dt_Sp mX6_isTalk d [.inl i] M (fun r M' => M' = M ∧ r = some (.inl (if 0 ≤ i ∧ i < 4 then 1 else 0))) := by
  refine dt_flat okX6_isTalk 20 (by decide) (Nat.le_of_ble_eq_true rfl) (fun J => ?_)
  refine And.intro (fun h => ?_) (fun h => ?_)
  · refine ⟨Or.inl rfl, rfl, ?_⟩
    rw [if_neg (by omega)]
  · refine And.intro (fun h2 => ?_) (fun h2 => ?_)
    · refine ⟨Or.inl rfl, rfl, ?_⟩
      rw [if_neg (by omega)]
    · refine ⟨Or.inr rfl, rfl, ?_⟩
      rw [if_pos (by omega)]
theorem c_keepBuilt (d n s i : Nat) (M : dt_M) (hi : i < 4) (hT : tV (tk M 34) n s) : dt_Sp mX6_keepBuilt (d + 4) [.inr (.inr (10, 7, 0)), .inl i] M (fun r M' => r = some (.inl n) ∧ tk_fr M M' (2 + 8 * i) ∧ tV (tk M' (2 + 8 * i)) n s ∧ tk_eq n (tk M' (2 + 8 * i)) (tk M 34)) := by
  have ei : (i : Int).toNat = i := by omega
  have hap : tk_ap (2 + 8 * i) 34 := by unfold tk_ap; omega
  refine dt_flat okX6_keepBuilt 60 (by decide) (Nat.le_of_ble_eq_true rfl) (fun J => ?_)
  refine Exists.intro _ (And.intro (c_isTalk _ i M) ?_)
  rintro r M0 ⟨rfl, rfl⟩
  rw [if_pos (by omega)]
  refine And.intro (fun _ => ?_) (fun h => absurd (show (1 : Int) = 0 from h) (by decide))
  refine And.intro ⟨by omega, by omega⟩ ?_
  rw [ei]
  refine Exists.intro _ (And.intro (c_empty _ (2 + 8 * i) M0) ?_)
  rintro r M1 ⟨rfl, g1, g2, g3, g4⟩
  refine And.intro ⟨by omega, by omega⟩ ?_
  rw [ei]
  have hE : tk_0 (tk M1 (2 + 8 * i)) := ⟨by rw [g2, dm_up2 (by decide), dm_up1], by rw [g2, dm_up1], g4⟩
  have hT1 : tB (tk M1 34) n s ∧ tk_all (tk M1 (2 + 8 * i)) (tk M1 34) n = tk_all (tk M1 (2 + 8 * i)) (tk M0 34) n := by
    have hrow : ∀ g, g < 8 → tk M1 34 g = tk M0 34 g := fun g hg => g1.row hap hg
    refine ⟨?_, all_cong (fun g a b j hj => by rw [hrow g (by omega)])⟩
    have hB := hT.1
    unfold tB tk_op tk_ot tk_kt tk_ks tk_o tk_is tk_e at hB ⊢
    rw [hrow 0 (by omega), hrow 1 (by omega), hrow 2 (by omega), hrow 3 (by omega), hrow 4 (by omega), hrow 5 (by omega), hrow 6 (by omega), hrow 7 (by omega)]
    exact hB
  refine Exists.intro _ (And.intro (c_addAll d (2 + 8 * i) 34 0 0 n s M1 hap (tk_0B hE) hT1.1 (by have := hT.1.1.2.2.1; omega)) ?_)
  rintro r M2 ⟨rfl, k1, k2⟩
  refine And.intro ⟨by omega, by omega⟩ ?_
  rw [ei]
  rw [hT1.2] at k2
  obtain ⟨v1, v2⟩ := tV_copy hT hE
  rw [← k2] at v1 v2
  exact ⟨congrArg (fun z => some (Sum.inl z)) v1.1.1.1, g1.tr k1, v1, v2⟩
