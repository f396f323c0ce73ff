/-! ===== the Model: comparing, building, keeping ===== -/
theorem dn_or0 {x : Int} (h : dt_r x) : dt_or x 0 = x := by
  unfold dt_or
  rw [show Int32.ofInt 0 = 0 from rfl, Int32.or_zero, dn_ti h]
theorem tk_pw_r (T : Nat → Nat → Int) : ∀ p, dt_r (tk_pw T p)
  | 0 => dn_r0
  | p + 1 => by
    unfold tk_pw
    split
    · exact dn_ri _
    · exact tk_pw_r T p
theorem dn_div {x y : Int} (hx : dt_r x) (hy : dt_r y) (h0 : 0 ≤ x) (h1 : 0 < y) : dt_div x y = x / y := by
  unfold dt_div
  rw [Int32.toInt_div, dn_ti hx, dn_ti hy, Int.tdiv_eq_ediv_of_nonneg h0]
  have a : 0 ≤ x / y := Int.ediv_nonneg h0 (by omega)
  have b : x / y ≤ x := Int.ediv_le_self y h0
  have := hx.2
  exact Int.bmod_eq_of_le (by omega) (by omega)
theorem k_about (d : Nat) (i w : Int) (M : dt_M) (T : Nat → Nat → Nat → Int) (hV : mV M T) : dt_Sp mX7_about (d + 2) [qM, .inl i, .inl w] M (fun r M' => M' = M ∧ r = some (.inl (if (0 ≤ i ∧ i < 4) ∧ 0 ≤ w ∧ w ≤ 2 then (if w = 0 then T i.toNat 0 7 else if w = 1 then T i.toNat 0 8 else tk_pw (T i.toNat) 4) else -1))) := by
  refine dt_meth okX7_about (fun pc => pc == 26) 80 (σ := Nat) (fun _ => 26) (fun t => [some qM, some (.inl i), some (.inl w), some (.inl (tk_pw (T i.toNat) t)), some (.inl t)]) (fun t => M) (fun t => t ≤ 4 ∧ (0 ≤ i ∧ i < 4) ∧ 0 ≤ w ∧ w ≤ 2) (fun t => 4 - t) (by decide) (Nat.le_of_ble_eq_true rfl) ?_ ?_
  · intro J hJ
    refine Exists.intro _ (And.intro (c_noTalk _ i M) ?_)
    rintro r M0 ⟨rfl, rfl⟩
    by_cases hi : 0 ≤ i ∧ i < 4
    · rw [if_pos hi]
      refine And.intro (fun h => absurd (show (0 : Int) = 0 from rfl) h) (fun _ => ?_)
      refine Exists.intro _ (And.intro (c_in _ _ _ _ M0) ?_)
      rintro r M1 ⟨rfl, rfl⟩
      by_cases hw : 0 ≤ w ∧ w ≤ 2
      · rw [if_pos hw]
        refine And.intro (fun _ => ?_) (fun h => absurd (show (1 : Int) = 0 from h) (by decide))
        exact hJ 0 _ ⟨by omega, hi, hw⟩ ⟨rfl, rfl, rfl, rfl, rfl, trivial⟩
      · rw [if_neg hw]
        refine And.intro (fun h => absurd (show (0 : Int) = 0 from rfl) h) (fun _ => ?_)
        exact ⟨rfl, by rw [if_neg (fun q => hw q.2)]⟩
    · rw [if_neg hi]
      refine And.intro (fun _ => ?_) (fun h => absurd (show (1 : Int) = 0 from h) (by decide))
      exact ⟨rfl, by rw [if_neg (fun q => hi q.1)]⟩
  · rintro p ⟨h1, hi, hw⟩ J hJ
    obtain ⟨n, s, v, r1, r2, r3, r4⟩ := hV i.toNat (by omega)
    have e7 : T i.toNat 0 7 = (n : Int) := v.1.1.1
    have e8 : T i.toNat 0 8 = (s : Int) := v.1.1.2.1
    have s10 := v.1.1.2.2.1
    have ns := v.2.2
    refine And.intro (fun h => ?_) (fun h => ?_)
    · have : p = 4 := by omega
      subst this
      refine And.intro (fun h0 => ?_) (fun h0 => ?_)
      · refine And.intro (fun h1 => ⟨rfl, ?_⟩) (fun h1 => ?_)
        · rw [if_pos ⟨hi, hw⟩, if_neg h0, if_neg h1]
        · refine And.intro ⟨by omega, by omega⟩ (And.intro (by decide) ⟨rfl, ?_⟩)
          rw [if_pos ⟨hi, hw⟩, if_neg h0, if_pos h1, e8, r1, dn_div ⟨by omega, by omega⟩ ⟨by decide, by decide⟩ (by omega) (by decide)]
          congr 2
          omega
      · refine And.intro ⟨by omega, by omega⟩ ⟨rfl, ?_⟩
        rw [if_pos ⟨hi, hw⟩, if_pos h0, e7, r1]
    · have el : (4 * i + (p : Int)).toNat = 4 * i.toNat + p := by omega
      have er := r3 p (by omega)
      refine And.intro ⟨by omega, by omega⟩ (And.intro ⟨by omega, by omega⟩ (And.intro ⟨by omega, by omega⟩ ?_))
      rw [el, er]
      refine And.intro (fun h2 => ?_) (fun h2 => ?_)
      · refine And.intro ⟨by omega, by omega⟩ (hJ (p + 1) _ ⟨by omega, hi, hw⟩ (by omega) ⟨rfl, rfl, rfl, ?_, rfl, trivial⟩)
        show (Sum.inl (tk_pw (T i.toNat) (p + 1)) : dt_V) = Sum.inl (dt_or (tk_pw (T i.toNat) p) 0)
        rw [dn_or0 (tk_pw_r _ _)]
        congr 1
        exact if_neg (by omega)
      · refine And.intro ⟨by omega, by omega⟩ (hJ (p + 1) _ ⟨by omega, hi, hw⟩ (by omega) ⟨rfl, rfl, rfl, ?_, rfl, trivial⟩)
        show (Sum.inl (tk_pw (T i.toNat) (p + 1)) : dt_V) = Sum.inl (dt_or (tk_pw (T i.toNat) p) (dt_shl 1 p))
        congr 1
        exact if_pos (by omega)
theorem c_isSameLine (d i j p n s m r : Nat) (M : dt_M) (T U : Nat → Nat → Int) (hi : i < 4) (hj : j < 4) (hp : p < 4) (hT : tB T n s) (hU : tB U m r) (rT : rp M i T n) (rU : rp M j U m) : dt_Sp mX7_isSameLine d [qM, .inl i, .inl j, .inl p] M (fun r M' => M' = M ∧ ((r = some (.inl 1) ∧ tk_sl T U p) ∨ (r = some (.inl 0) ∧ ¬ tk_sl T U p))) := by
  have lk := tB_line hT hp
  have ll := tB_line hU hp
  have a1 : (4 * (i : Int) + (p : Int)).toNat = 4 * i + p := by omega
  have a2 : (4 * (j : Int) + (p : Int)).toNat = 4 * j + p := by omega
  have b1 := rT.2.2.1 p hp
  have b2 := rU.2.2.1 p hp
  refine dt_meth okX7_isSameLine (fun pc => pc == 33) 160 (σ := Nat × Int) (fun _ => 33) (fun t => [some qM, some (.inl i), some (.inl j), some (.inl p), some (.inl t.2), some (.inl t.1), none, none]) (fun t => M) (fun t => (t.1 : Int) ≤ T 6 p ∧ ((t.2 = 1 ∧ T 6 p = U 6 p ∧ ∀ x : Nat, x < t.1 → T 1 (T 7 (p * 10 + x)).toNat = U 1 (U 7 (p * 10 + x)).toNat ∧ T 3 (T 7 (p * 10 + x)).toNat = U 3 (U 7 (p * 10 + x)).toNat ∧ T 4 (T 7 (p * 10 + x)).toNat = U 4 (U 7 (p * 10 + x)).toNat) ∨ (t.2 = 0 ∧ ¬ tk_sl T U p))) (fun t => 10 - t.1) (by decide) (Nat.le_of_ble_eq_true rfl) ?_ ?_
  · intro J hJ
    refine And.intro ⟨by omega, by omega⟩ (And.intro ⟨by omega, by omega⟩ (And.intro ⟨by omega, by omega⟩ (And.intro ⟨by omega, by omega⟩ (And.intro ⟨by omega, by omega⟩ (And.intro ⟨by omega, by omega⟩ ?_)))))
    rw [a1, a2, b1, b2]
    refine And.intro (fun h => ?_) (fun h => ?_)
    · exact hJ (0, 0) _ ⟨lk.1, Or.inr ⟨rfl, fun q => h q.1⟩⟩ ⟨rfl, rfl, rfl, rfl, rfl, rfl, trivial⟩
    · exact hJ (0, 1) _ ⟨lk.1, Or.inl ⟨rfl, h, fun x hx => absurd hx (Nat.not_lt_zero x)⟩⟩ ⟨rfl, rfl, rfl, rfl, rfl, rfl, trivial⟩
  · rintro ⟨x, b⟩ ⟨h1, h2⟩ J hJ
    dsimp only at h1 h2 hJ
    refine And.intro ⟨by omega, by omega⟩ (And.intro ⟨by omega, by omega⟩ (And.intro ⟨by omega, by omega⟩ ?_))
    rw [a1, b1]
    refine And.intro (fun h => ?_) (fun h => ?_)
    · rcases h2 with ⟨q1, q2, q3⟩ | ⟨q1, q2⟩
      · subst q1
        exact ⟨Or.inr rfl, rfl, Or.inl ⟨rfl, q2, fun y hy => q3 y (by (try dsimp only at h); omega)⟩⟩
      · subst q1
        exact ⟨Or.inl rfl, rfl, Or.inr ⟨rfl, q2⟩⟩
    · have hx : (x : Int) < T 6 p := h
      refine And.intro (fun hb => ?_) (fun hb => ?_)
      · have hb0 : b = 0 := hb
        subst hb0
        rcases h2 with ⟨q1, q2, q3⟩ | ⟨q1, q2⟩
        · omega
        · exact ⟨Or.inl rfl, rfl, Or.inr ⟨rfl, q2⟩⟩
      · have hb0 : ¬ b = 0 := hb
        rcases h2 with ⟨q1, q2, q3⟩ | ⟨q1, q2⟩
        · subst q1
          have ak := tB_at hT hp hx
          have al := tB_at hU hp (j := x) (by omega)
          have c1 := rT.2.2.2 p hp x hx
          have c2 := rU.2.2.2 p hp x (by omega)
          have e1 : (20 * (4 * (i : Int) + (p : Int)) + (x : Int)).toNat = 20 * (4 * i + p) + x := by omega
          have e2 : (20 * (4 * (j : Int) + (p : Int)) + (x : Int)).toNat = 20 * (4 * j + p) + x := by omega
          obtain ⟨u1, u2, u3, u4, u5⟩ := rT.2.1 (T 7 (p * 10 + x)).toNat (by omega)
          obtain ⟨w1, w2, w3, w4, w5⟩ := rU.2.1 (U 7 (p * 10 + x)).toNat (by omega)
          have f1 : (20 * (i : Int) + T 7 (p * 10 + x)).toNat = 20 * i + (T 7 (p * 10 + x)).toNat := by omega
          have f2 : (20 * (j : Int) + U 7 (p * 10 + x)).toNat = 20 * j + (U 7 (p * 10 + x)).toNat := by omega
          refine And.intro ⟨by omega, by omega⟩ (And.intro ⟨by omega, by omega⟩ (And.intro ⟨by omega, by omega⟩ (And.intro ⟨by omega, by omega⟩ (And.intro ⟨by show _ ≤ 20 * (4 * (i : Int) + (p : Int)) + (x : Int); omega, by show 20 * (4 * (i : Int) + (p : Int)) + (x : Int) ≤ _; omega⟩ (And.intro ⟨by show 0 ≤ 20 * (4 * (i : Int) + (p : Int)) + (x : Int); omega, by show 20 * (4 * (i : Int) + (p : Int)) + (x : Int) < _; omega⟩ ?_)))))
          dsimp only
          rw [e1, c1]
          refine And.intro ⟨by omega, by omega⟩ ?_
          refine And.intro ⟨by omega, by omega⟩ (And.intro ⟨by omega, by omega⟩ (And.intro ⟨by omega, by omega⟩ (And.intro ⟨by omega, by omega⟩ (And.intro ⟨by omega, by omega⟩ (And.intro ⟨by omega, by omega⟩ ?_)))))
          rw [e2, c2]
          refine And.intro ⟨by omega, by omega⟩ ?_
          refine And.intro ⟨by omega, by omega⟩ (And.intro ⟨by omega, by omega⟩ ?_)
          rw [f1, f2, u1, w1]
          have hno : ¬ (T 1 (T 7 (p * 10 + x)).toNat = U 1 (U 7 (p * 10 + x)).toNat ∧ T 3 (T 7 (p * 10 + x)).toNat = U 3 (U 7 (p * 10 + x)).toNat ∧ T 4 (T 7 (p * 10 + x)).toNat = U 4 (U 7 (p * 10 + x)).toNat) → ¬ tk_sl T U p := fun q z => q (z.2 x hx)
          refine And.intro (fun z1 => ?_) (fun z1 => ?_)
          · exact And.intro ⟨by omega, by omega⟩ (hJ (x + 1, 0) _ ⟨by dsimp only; omega, Or.inr ⟨rfl, hno (fun z => z1 z.1)⟩⟩ (by dsimp only; omega) ⟨rfl, rfl, rfl, rfl, rfl, rfl, trivial⟩)
          · refine And.intro ⟨by omega, by omega⟩ (And.intro ⟨by omega, by omega⟩ ?_)
            rw [f1, f2, u3, w3]
            refine And.intro (fun z2 => ?_) (fun z2 => ?_)
            · exact And.intro ⟨by omega, by omega⟩ (hJ (x + 1, 0) _ ⟨by dsimp only; omega, Or.inr ⟨rfl, hno (fun z => z2 z.2.1)⟩⟩ (by dsimp only; omega) ⟨rfl, rfl, rfl, rfl, rfl, rfl, trivial⟩)
            · refine And.intro ⟨by omega, by omega⟩ (And.intro ⟨by omega, by omega⟩ ?_)
              rw [f1, f2, u4, w4]
              refine And.intro (fun z3 => ?_) (fun z3 => ?_)
              · exact And.intro ⟨by omega, by omega⟩ (hJ (x + 1, 0) _ ⟨by dsimp only; omega, Or.inr ⟨rfl, hno (fun z => z3 z.2.2)⟩⟩ (by dsimp only; omega) ⟨rfl, rfl, rfl, rfl, rfl, rfl, trivial⟩)
              · refine And.intro ⟨by omega, by omega⟩ (hJ (x + 1, 1) _ ⟨by dsimp only; omega, Or.inl ⟨rfl, q2, fun y hy => ?_⟩⟩ (by dsimp only; omega) ⟨rfl, rfl, rfl, rfl, rfl, rfl, trivial⟩)
                dsimp only at hy
                by_cases hyx : y = x
                · subst hyx; exact ⟨z1, z2, z3⟩
                · exact q3 y (by omega)
        · exact absurd q1 hb0
