/-! ===== type ===== -/
/-- byte k of a number, the lowest is 0 -/
def tyb (v : Int) (k : Nat) : Int := v / 256 ^ k % 256
theorem ty_mod (a : Int) : (a.bmod 18446744073709551616) % 256 = a % 256 := by
  unfold Int.bmod
  dsimp only
  split <;> omega
theorem ty_mod2 (a : Int) : (a.bmod 4294967296) % 256 = a % 256 := by
  unfold Int.bmod
  dsimp only
  split <;> omega
theorem ty_and (z : Int) : dt_and z 255 = z % 256 := by
  unfold dt_and
  show (Int32.ofInt z &&& Int32.ofInt 255).toBitVec.toInt = _
  rw [Int32.toBitVec_and]
  have e1 : ((Int32.ofInt z).toBitVec &&& (Int32.ofInt 255).toBitVec).toNat = (z % 256).toNat := by
    rw [BitVec.toNat_and]
    have h1 : (Int32.ofInt z).toBitVec.toNat = (z % 4294967296).toNat := BitVec.toNat_ofInt z
    have h2 : (Int32.ofInt 255).toBitVec.toNat = 2 ^ 8 - 1 := by decide
    rw [h1, h2, Nat.and_two_pow_sub_one_eq_mod]
    omega
  rw [BitVec.toInt_eq_toNat_of_lt (by rw [e1]; omega), e1]
  omega
theorem ty_andL (z : Int) : dt_andL z 255 = z % 256 := by
  unfold dt_andL
  show (Int64.ofInt z &&& Int64.ofInt 255).toBitVec.toInt = _
  rw [Int64.toBitVec_and]
  have e1 : ((Int64.ofInt z).toBitVec &&& (Int64.ofInt 255).toBitVec).toNat = (z % 256).toNat := by
    rw [BitVec.toNat_and]
    have h1 : (Int64.ofInt z).toBitVec.toNat = (z % 18446744073709551616).toNat := BitVec.toNat_ofInt z
    have h2 : (Int64.ofInt 255).toBitVec.toNat = 2 ^ 8 - 1 := by decide
    rw [h1, h2, Nat.and_two_pow_sub_one_eq_mod]
    omega
  rw [BitVec.toInt_eq_toNat_of_lt (by rw [e1]; omega), e1]
  omega
theorem ty_l2i {z : Int} (h : dt_rL z) : dt_l2i z = z.bmod 4294967296 := by
  unfold dt_l2i
  rw [Int64.toInt_toInt32, dn_tl h]
theorem ty_cu : ∀ k : Nat, k < 8 → ((Int32.ofInt (8 * (k : Int))).toInt64.toUInt64 &&& Int64.toUInt64 63).toNat = 8 * k := by decide +kernel
theorem ty_cs : ∀ k : Nat, k < 8 → (((Int32.ofInt (8 * (k : Int))).toInt64 &&& 63).toBitVec.smod 64).toNat = 8 * k := by decide +kernel
theorem ty_p : ∀ k : Nat, k < 8 → 2 ^ (8 * k) = 256 ^ k := by decide +kernel
theorem ty_g (v q : Int) (e : v % 18446744073709551616 = v - 18446744073709551616 * q) (p r : Int) (hp : 0 < p) (hpr : p * r = 18446744073709551616) (hr : r % 256 = 0) : (v % 18446744073709551616) / p % 256 = v / p % 256 := by
  rw [e, ← hpr, show v - p * r * q = v + p * (-(r * q)) by rw [Int.mul_neg, Int.mul_assoc]; omega, Int.add_mul_ediv_left _ _ (by omega)]
  obtain ⟨z, hz⟩ := Int.dvd_of_emod_eq_zero hr
  rw [hz, show v / p + -(256 * z * q) = v / p + 256 * (-(z * q)) by rw [Int.mul_neg, Int.mul_assoc], Int.add_mul_emod_self_left]
theorem ty_q : ∀ k : Nat, k < 8 → (256 : Int) ^ k * 256 ^ (8 - k) = 18446744073709551616 ∧ (256 : Int) ^ (8 - k) % 256 = 0 ∧ (0 : Int) < 256 ^ k := by decide +kernel
theorem ty_f (v : Int) (k : Nat) (hk : k < 8) : (((v % 18446744073709551616).toNat / 256 ^ k : Nat) : Int) % 256 = tyb v k := by
  have h := ty_q k hk
  rw [Int.natCast_ediv, Int.toNat_of_nonneg (Int.emod_nonneg _ (by decide)), Int.natCast_pow]
  exact ty_g v (v / 18446744073709551616) (by have := Int.emod_add_mul_ediv v 18446744073709551616; omega) _ _ h.2.2 h.1 h.2.1
theorem ty_1 {v : Int} (hv : dt_rL v) {k : Nat} (hk : k < 8) : dt_and (dt_l2i (dt_ushrL v (8 * (k : Int)))) 255 = tyb v k := by
  have e0 : dt_ushrL v (8 * (k : Int)) = (((v % 18446744073709551616).toNat / 256 ^ k : Nat) : Int).bmod 18446744073709551616 := by
    unfold dt_ushrL
    show ((Int64.ofInt v).toUInt64 >>> _).toBitVec.toInt = _
    rw [BitVec.toInt_eq_toNat_bmod]
    show Int.bmod (((Int64.ofInt v).toUInt64 >>> ((Int32.ofInt (8 * (k : Int))).toInt64.toUInt64 &&& Int64.toUInt64 63)).toNat : Int) _ = _
    rw [UInt64.toNat_shiftRight, ty_cu k hk, Nat.mod_eq_of_lt (show 8 * k < 64 by omega), Nat.shiftRight_eq_div_pow, ty_p k hk]
    have h1 : (Int64.ofInt v).toUInt64.toNat = (v % 18446744073709551616).toNat := BitVec.toNat_ofInt v
    rw [h1]
  rw [ty_and, ty_l2i (by unfold dt_ushrL; exact dn_rl _), ty_mod2, e0, ty_mod]
  exact ty_f v k hk
theorem ty_2 {v : Int} (hv : dt_rL v) {k : Nat} (hk : k < 8) : dt_l2i (dt_andL (dt_shrL v (8 * (k : Int))) 255) = tyb v k := by
  have e0 : dt_shrL v (8 * (k : Int)) = v / 256 ^ k := by
    unfold dt_shrL
    show (Int64.ofInt v >>> _).toBitVec.toInt = _
    rw [Int64.toBitVec_shiftRight, BitVec.toInt_sshiftRight', ty_cs k hk]
    have h1 : (Int64.ofInt v).toBitVec.toInt = v := dn_tl hv
    rw [h1, Int.shiftRight_eq_div_pow, ty_p k hk, Int.natCast_pow]
    rfl
  have e1 : dt_andL (dt_shrL v (8 * (k : Int))) 255 = tyb v k := by
    rw [ty_andL, e0]
    rfl
  rw [e1, ty_l2i (by have : 0 ≤ tyb v k ∧ tyb v k ≤ 255 := (by unfold tyb; omega); exact ⟨by omega, by omega⟩)]
  have : 0 ≤ tyb v k ∧ tyb v k ≤ 255 := by unfold tyb; omega
  unfold Int.bmod
  dsimp only
  split <;> omega
theorem tyb_r (v : Int) (k : Nat) : 0 ≤ tyb v k ∧ tyb v k ≤ 255 := by unfold tyb; omega
theorem c_append (d n : Nat) (v : Int) (M : dt_M) (hn : n < 300) (h1 : M.1 42 1 = (n : Int)) : dt_Sp mX3_append d [qRd, .inl v] M (fun r M' => r = none ∧ M' = dt_wi (dt_wi M 43 n v) 42 1 ((n : Int) + 1)) := by
  refine dt_flat okX3_append 40 (by decide) (Nat.le_of_ble_eq_true rfl) (fun J => ?_)
  refine And.intro (fun h => absurd (show (300 : Int) ≤ M.1 42 1 from h) (by omega)) (fun _ => ?_)
  refine And.intro (show 0 ≤ M.1 42 1 ∧ M.1 42 1 < 300 by omega) ?_
  intro M1 hM1
  have hM1' : M1 = dt_wi M 43 n v := by rw [show n = (M.1 42 1).toNat by omega]; exact hM1
  have e1 : M1.1 42 1 = (n : Int) := by rw [hM1', dm_wi2 (by decide)]; exact h1
  refine And.intro (show dt_r (M1.1 42 1 + 1) by rw [e1]; exact ⟨by omega, by omega⟩) ?_
  intro M2 hM2
  have hM2' : M2 = dt_wi M1 42 1 ((n : Int) + 1) := by rw [← e1]; exact hM2
  exact ⟨rfl, by rw [hM2', hM1']⟩
/-- what type does to a text: from the length L on the m highest of n bytes lie there -/
def tyt (x y : Nat → Int) (L n m : Nat) (v : Int) : Prop := (∀ j, j < L → y j = x j) ∧ ∀ i, i < m → y (L + i) = tyb v (n - 1 - i)
theorem tyt_s {x y z : Nat → Int} {L n m : Nat} {v : Int} (h : tyt x y L n m v) (hz : ∀ j, j ≠ L + m → z j = y j) (e : z (L + m) = tyb v (n - 1 - m)) : tyt x z L n (m + 1) v := by
  refine ⟨fun j hj => by rw [hz j (by omega)]; exact h.1 j hj, fun i hi => ?_⟩
  by_cases q : i = m
  · subst q; exact e
  · rw [hz _ (by omega)]; exact h.2 i (by omega)
theorem c_type (d L : Nat) (v n : Int) (M : dt_M) (hv : dt_rL v) (h1 : M.1 42 1 = (L : Int)) (hL : L ≤ 300) (hn : dt_r n) : dt_Sp mX6_type (d + 1) [qX, .inr (.inl v), .inl n] M (fun r M' =>
    (¬ (1 ≤ n ∧ n ≤ 8) ∧ r = some (.inl (-1)) ∧ M' = M) ∨
    ((1 ≤ n ∧ n ≤ 8) ∧ 300 < (L : Int) + n ∧ r = some (.inl (-3)) ∧ M' = M) ∨
    ((1 ≤ n ∧ n ≤ 8) ∧ (L : Int) + n ≤ 300 ∧ r = some (.inl ((L : Int) + n)) ∧ (∀ a, a ≠ 42 → a ≠ 43 → M'.1 a = M.1 a) ∧ M'.2 = M.2 ∧ M'.1 42 1 = (L : Int) + n ∧ tyt (M.1 43) (M'.1 43) L n.toNat n.toNat v)) := by
  refine dt_meth okX6_type (fun pc => pc == 36) 60 (σ := Nat × dt_M) (fun t => 36) (fun t => [some qX, some (.inr (.inl v)), none, some (.inl n), some (.inl (n - 1 - (t.1 : Int)))]) (fun t => t.2) (fun t => (1 ≤ n ∧ n ≤ 8) ∧ (L : Int) + n ≤ 300 ∧ (t.1 : Int) ≤ n ∧ (∀ a, a ≠ 42 → a ≠ 43 → t.2.1 a = M.1 a) ∧ t.2.2 = M.2 ∧ t.2.1 42 1 = (L : Int) + t.1 ∧ tyt (M.1 43) (t.2.1 43) L n.toNat t.1 v) (fun t => 8 - t.1) (by decide) (Nat.le_of_ble_eq_true rfl) ?_ ?_
  · intro J hJ
    refine And.intro (fun z => Or.inl ⟨by omega, rfl, rfl⟩) (fun z => And.intro (fun z2 => ?_) (fun z2 => Or.inl ⟨by omega, rfl, rfl⟩))
    refine And.intro (show dt_r (M.1 42 1 + n) by rw [h1]; exact ⟨by omega, by omega⟩) ?_
    refine And.intro (fun z3 => ?_) (fun z3 => ?_)
    · have z3' : M.1 42 1 + n ≤ 300 := z3
      refine And.intro ⟨by omega, by omega⟩ ?_
      exact hJ (0, M) _ ⟨by omega, by omega, by dsimp only; omega, fun _ _ _ => rfl, rfl, by dsimp only; rw [h1]; omega, fun _ _ => rfl, fun i hi => absurd hi (Nat.not_lt_zero i)⟩ ⟨rfl, rfl, rfl, congrArg (fun z => (Sum.inl z : dt_V)) (show n - 1 - ((0 : Nat) : Int) = n - 1 by omega), trivial⟩
    · have z3' : 300 < M.1 42 1 + n := z3
      exact Or.inr (Or.inl ⟨by omega, by omega, rfl, rfl⟩)
  · rintro ⟨m, N⟩ ⟨k1, k2, k3, k4, k5, k6, k7⟩ J hJ
    dsimp only at k3 k4 k5 k6 k7 hJ
    refine And.intro (fun hh => ?_) (fun hh => ?_)
    · have h4 : n - 1 - (m : Int) < 0 := hh
      have e : (m : Int) = n := by omega
      have em : n.toNat = m := by omega
      refine Or.inr (Or.inr ⟨k1, k2, ?_, k4, k5, by rw [k6, e], by rw [em] at k7 ⊢; exact k7⟩)
      show some (Sum.inl (N.1 42 1)) = _
      rw [k6, e]
    · have h4 : 0 ≤ n - 1 - (m : Int) := hh
      obtain ⟨q, hq⟩ : ∃ q : Nat, n - 1 - (m : Int) = (q : Int) := ⟨(n - 1 - (m : Int)).toNat, by omega⟩
      have hq8 : q < 8 := by omega
      have eq : q = n.toNat - 1 - m := by omega
      refine And.intro ⟨by (try dsimp only); omega, by (try dsimp only); omega⟩ ?_
      dsimp only
      rw [hq]
      have hap := c_append d (L + m) (tyb v q) N (by omega) (by rw [k6]; omega)
      rw [← ty_1 hv hq8] at hap
      refine Exists.intro _ (And.intro hap ?_)
      rintro r M1 ⟨rfl, hM1⟩
      rw [ty_1 hv hq8] at hM1
      refine And.intro ⟨by (try dsimp only); omega, by (try dsimp only); omega⟩ (hJ (m + 1, M1) _ ⟨k1, k2, by dsimp only; omega, fun a x y => by dsimp only; rw [hM1, dm_wi2 x, dm_wi2 y]; exact k4 a x y, by dsimp only; rw [hM1]; exact k5, by dsimp only; rw [hM1, dm_wi1, dm_up1]; omega, ?_⟩ (by dsimp only; omega) ⟨rfl, rfl, rfl, congrArg (fun z => (Sum.inl z : dt_V)) (show n - 1 - ((m + 1 : Nat) : Int) = (q : Int) + -1 by omega), trivial⟩)
      dsimp only
      refine tyt_s k7 (fun j hj => by rw [hM1, dm_wi2 (by decide), dm_wi1, dm_up2 hj]) (by rw [hM1, dm_wi2 (by decide), dm_wi1, dm_up1, eq])
theorem k_type (d L : Nat) (v n : Int) (M : dt_M) (hv : dt_rL v) (h1 : M.1 62 8 = (L : Int)) (hL : L ≤ 300) (hn : dt_r n) : dt_Sp mX7_type (d + 1) [qM, .inr (.inl v), .inl n] M (fun r M' =>
    (¬ (1 ≤ n ∧ n ≤ 8) ∧ r = some (.inl (-1)) ∧ M' = M) ∨
    ((1 ≤ n ∧ n ≤ 8) ∧ 300 < (L : Int) + n ∧ r = some (.inl (-3)) ∧ M' = M) ∨
    ((1 ≤ n ∧ n ≤ 8) ∧ (L : Int) + n ≤ 300 ∧ r = some (.inl ((L : Int) + n)) ∧ (∀ a, a ≠ 62 → a ≠ 71 → M'.1 a = M.1 a) ∧ (∀ j, j ≠ 8 → M'.1 62 j = M.1 62 j) ∧ M'.2 = M.2 ∧ M'.1 62 8 = (L : Int) + n ∧ tyt (M.1 71) (M'.1 71) L n.toNat n.toNat v)) := by
  refine dt_meth okX7_type (fun pc => pc == 34) 60 (σ := Nat × dt_M) (fun t => 34) (fun t => [some qM, some (.inr (.inl v)), none, some (.inl n), some (.inl (n - 1 - (t.1 : Int)))]) (fun t => t.2) (fun t => (1 ≤ n ∧ n ≤ 8) ∧ (L : Int) + n ≤ 300 ∧ (t.1 : Int) ≤ n ∧ (∀ a, a ≠ 62 → a ≠ 71 → t.2.1 a = M.1 a) ∧ (∀ j, j ≠ 8 → t.2.1 62 j = M.1 62 j) ∧ t.2.2 = M.2 ∧ t.2.1 62 8 = (L : Int) + t.1 ∧ tyt (M.1 71) (t.2.1 71) L n.toNat t.1 v) (fun t => 8 - t.1) (by decide) (Nat.le_of_ble_eq_true rfl) ?_ ?_
  · intro J hJ
    refine Exists.intro _ (And.intro (c_in _ _ _ _ M) ?_)
    rintro r M0 ⟨rfl, rfl⟩
    by_cases hi : 1 ≤ n ∧ n ≤ 8
    · rw [if_pos hi]
      refine And.intro (fun _ => ?_) (fun h => absurd (show (1 : Int) = 0 from h) (by decide))
      refine And.intro (show dt_r (M0.1 62 8 + n) by rw [h1]; exact ⟨by omega, by omega⟩) ?_
      refine And.intro (fun z3 => ?_) (fun z3 => ?_)
      · have z3' : M0.1 62 8 + n ≤ 300 := z3
        refine And.intro ⟨by omega, by omega⟩ ?_
        exact hJ (0, M0) _ ⟨by omega, by omega, by dsimp only; omega, fun _ _ _ => rfl, fun _ _ => rfl, rfl, by dsimp only; rw [h1]; omega, fun _ _ => rfl, fun i hi => absurd hi (Nat.not_lt_zero i)⟩ ⟨rfl, rfl, rfl, congrArg (fun z => (Sum.inl z : dt_V)) (show n - 1 - ((0 : Nat) : Int) = n - 1 by omega), trivial⟩
      · have z3' : 300 < M0.1 62 8 + n := z3
        exact Or.inr (Or.inl ⟨by omega, by omega, rfl, rfl⟩)
    · rw [if_neg hi]
      refine And.intro (fun h => absurd rfl h) (fun _ => ?_)
      exact Or.inl ⟨hi, rfl, rfl⟩
  · rintro ⟨m, N⟩ ⟨k1, k2, k3, k4, k4', k5, k6, k7⟩ J hJ
    dsimp only at k3 k4 k4' k5 k6 k7 hJ
    refine And.intro (fun hh => ?_) (fun hh => ?_)
    · have h4 : n - 1 - (m : Int) < 0 := hh
      have e : (m : Int) = n := by omega
      have em : n.toNat = m := by omega
      refine Or.inr (Or.inr ⟨k1, k2, ?_, k4, k4', k5, by rw [k6, e], by rw [em] at k7 ⊢; exact k7⟩)
      show some (Sum.inl (N.1 62 8)) = _
      rw [k6, e]
    · have h4 : 0 ≤ n - 1 - (m : Int) := hh
      obtain ⟨q, hq⟩ : ∃ q : Nat, n - 1 - (m : Int) = (q : Int) := ⟨(n - 1 - (m : Int)).toNat, by omega⟩
      have hq8 : q < 8 := by omega
      have eq : q = n.toNat - 1 - m := by omega
      have e6 : (N.1 62 8).toNat = L + m := by omega
      refine And.intro ⟨by (try dsimp only); omega, by (try dsimp only); omega⟩ ?_
      refine And.intro (show 0 ≤ N.1 62 8 ∧ N.1 62 8 < 300 by omega) ?_
      dsimp only
      rw [hq]
      intro M1 hM1
      have hM1' : M1 = dt_wi N 71 (L + m) (tyb v q) := by rw [← e6, ← ty_2 hv hq8]; exact hM1
      have f8 : M1.1 62 8 = (L : Int) + m := by rw [hM1', dm_wi2 (by decide)]; exact k6
      refine And.intro (show dt_r (M1.1 62 8 + 1) by rw [f8]; exact ⟨by omega, by omega⟩) ?_
      intro M2 hM2
      have hM2' : M2 = dt_wi M1 62 8 ((L : Int) + m + 1) := by rw [← f8]; exact hM2
      refine And.intro ⟨by (try dsimp only); omega, by (try dsimp only); omega⟩ (hJ (m + 1, M2) _ ⟨k1, k2, by dsimp only; omega, fun a x y => by dsimp only; rw [hM2', dm_wi2 x, hM1', dm_wi2 y]; exact k4 a x y, fun j hj => by dsimp only; rw [hM2', dm_wi1, dm_up2 hj, hM1', dm_wi2 (by decide)]; exact k4' j hj, by dsimp only; rw [hM2', hM1']; exact k5, by dsimp only; rw [hM2', dm_wi1, dm_up1]; omega, ?_⟩ (by dsimp only; omega) ⟨rfl, rfl, rfl, congrArg (fun z => (Sum.inl z : dt_V)) (show n - 1 - ((m + 1 : Nat) : Int) = (q : Int) + -1 by omega), trivial⟩)
      dsimp only
      refine tyt_s k7 (fun j hj => by rw [hM2', dm_wi2 (by decide), hM1', dm_wi1, dm_up2 hj]) (by rw [hM2', dm_wi2 (by decide), hM1', dm_wi1, dm_up1, eq])
