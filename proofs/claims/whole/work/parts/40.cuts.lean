/-! ===== cuts: numbers to the base of each line's length and one ===== -/
def st (l : Nat → Nat) : Nat → Nat
  | 0 => 1
  | p + 1 => st l p * (l p + 1)
def en (l x : Nat → Nat) : Nat → Nat
  | 0 => 0
  | p + 1 => en l x p + st l p * x p
def dg (l : Nat → Nat) (c p : Nat) : Nat := c / st l p % (l p + 1)
def xu (x : Nat → Nat) (p v : Nat) : Nat → Nat := fun q => if q = p then v else x q
theorem xu_1 {x : Nat → Nat} {p v : Nat} : xu x p v p = v := if_pos rfl
theorem xu_2 {x : Nat → Nat} {p v q : Nat} (h : q ≠ p) : xu x p v q = x q := if_neg h
theorem st_pos (l : Nat → Nat) : ∀ m, 0 < st l m
  | 0 => Nat.one_pos
  | m + 1 => Nat.mul_pos (st_pos l m) (Nat.succ_pos _)
theorem st_mono (l : Nat → Nat) : ∀ {m k : Nat}, m ≤ k → st l m ≤ st l k
  | m, 0, h => by rw [show m = 0 by omega]; exact Nat.le_refl _
  | m, k + 1, h => by
    by_cases hm : m = k + 1
    · rw [hm]; exact Nat.le_refl _
    · exact Nat.le_trans (st_mono l (k := k) (by omega)) (Nat.le_mul_of_pos_right _ (Nat.succ_pos _))
theorem en_lt {l x : Nat → Nat} : ∀ {m : Nat}, (∀ p, p < m → x p ≤ l p) → en l x m < st l m
  | 0, _ => Nat.one_pos
  | m + 1, h => by
    have h1 := en_lt (l := l) (x := x) (m := m) (fun p hp => h p (by omega))
    have h2 : st l m * x m ≤ st l m * l m := Nat.mul_le_mul_left _ (h m (by omega))
    show en l x m + st l m * x m < st l m * (l m + 1)
    rw [Nat.mul_add, Nat.mul_one]
    omega
theorem en_split {l x : Nat → Nat} {p : Nat} : ∀ {m : Nat}, p < m → ∃ K, en l x m = en l x p + st l p * x p + st l (p + 1) * K
  | 0, h => by omega
  | m + 1, h => by
    by_cases hm : p = m
    · subst hm; exact ⟨0, rfl⟩
    · obtain ⟨K, hK⟩ := en_split (l := l) (x := x) (p := p) (m := m) (by omega)
      have hd : ∃ D, st l m = st l (p + 1) * D := by
        have : ∀ k, ∃ D, st l (p + 1 + k) = st l (p + 1) * D := by
          intro k
          induction k with
          | zero => exact ⟨1, (Nat.mul_one _).symm⟩
          | succ k ih =>
            obtain ⟨D, hD⟩ := ih
            exact ⟨D * (l (p + 1 + k) + 1), by show st l (p + 1 + k) * (l (p + 1 + k) + 1) = _; rw [hD, Nat.mul_assoc]⟩
        obtain ⟨D, hD⟩ := this (m - (p + 1))
        rw [show p + 1 + (m - (p + 1)) = m by omega] at hD
        exact ⟨D, hD⟩
      obtain ⟨D, hD⟩ := hd
      refine ⟨K + D * x m, ?_⟩
      show en l x m + st l m * x m = _
      rw [hK, hD, Nat.mul_add, Nat.mul_assoc (st l (p + 1)) D]
      omega
theorem dg_en {l x : Nat → Nat} {m p : Nat} (h : ∀ q, q < m → x q ≤ l q) (hp : p < m) : dg l (en l x m) p = x p := by
  obtain ⟨K, hK⟩ := en_split (l := l) (x := x) hp
  have h1 := en_lt (l := l) (x := x) (m := p) (fun q hq => h q (by omega))
  have h2 : en l x m = en l x p + st l p * (x p + (l p + 1) * K) := by
    rw [hK]
    show en l x p + st l p * x p + st l p * (l p + 1) * K = _
    rw [Nat.mul_add (st l p) (x p), Nat.mul_assoc]
    omega
  unfold dg
  rw [h2, Nat.add_mul_div_left _ _ (st_pos l p), Nat.div_eq_of_lt h1, Nat.zero_add, Nat.add_mul_mod_self_left]
  exact Nat.mod_eq_of_lt (by have := h p hp; omega)
theorem en_dg' {l : Nat → Nat} (c : Nat) : ∀ m, en l (dg l c) m = c % st l m
  | 0 => (Nat.mod_one c).symm
  | m + 1 => by
    show en l (dg l c) m + st l m * dg l c m = c % (st l m * (l m + 1))
    rw [en_dg' c m, Nat.mod_mul]
    rfl
theorem en_dg {l : Nat → Nat} {c m : Nat} (h : c < st l m) : en l (dg l c) m = c := (en_dg' c m).trans (Nat.mod_eq_of_lt h)
theorem dg_le (l : Nat → Nat) (c p : Nat) : dg l c p ≤ l p := Nat.le_of_lt_succ (Nat.mod_lt _ (Nat.succ_pos _))
theorem en_cong {l x y : Nat → Nat} : ∀ {m : Nat}, (∀ p, p < m → x p = y p) → en l x m = en l y m
  | 0, _ => rfl
  | m + 1, h => by
    show en l x m + st l m * x m = en l y m + st l m * y m
    rw [en_cong (fun p hp => h p (by omega)), h m (by omega)]
theorem en_up {l x : Nat → Nat} {p : Nat} : ∀ {m : Nat}, p < m → en l (xu x p (x p + 1)) m = en l x m + st l p
  | 0, h => by omega
  | m + 1, h => by
    show en l (xu x p (x p + 1)) m + st l m * xu x p (x p + 1) m = en l x m + st l m * x m + st l p
    by_cases hm : p = m
    · subst hm
      rw [en_cong (l := l) (x := xu x p (x p + 1)) (y := x) (fun q hq => xu_2 (by omega)), xu_1, Nat.mul_add]
      omega
    · rw [en_up (p := p) (m := m) (by omega), xu_2 (fun q => hm q.symm)]
      omega
/-- one event more on the line p -/
theorem cu_up {l : Nat → Nat} {c m p : Nat} (hc : c < st l m) (hp : p < m) (hl : dg l c p < l p) : c + st l p < st l m ∧ ∀ q, q < m → dg l (c + st l p) q = xu (dg l c) p (dg l c p + 1) q := by
  have h1 : en l (xu (dg l c) p (dg l c p + 1)) m = c + st l p := by rw [en_up hp, en_dg hc]
  have h2 : ∀ q, q < m → xu (dg l c) p (dg l c p + 1) q ≤ l q := by
    intro q hq
    by_cases hqp : q = p
    · subst hqp; rw [xu_1]; exact hl
    · rw [xu_2 hqp]; exact dg_le _ _ _
  rw [← h1]
  exact ⟨en_lt h2, fun q hq => dg_en h2 hq⟩
theorem en_ge {l x : Nat → Nat} {p : Nat} : ∀ {m : Nat}, p < m → st l p * x p ≤ en l x m
  | 0, h => by omega
  | m + 1, h => by
    show st l p * x p ≤ en l x m + st l m * x m
    by_cases hm : p = m
    · subst hm; omega
    · have := en_ge (l := l) (x := x) (p := p) (m := m) (by omega); omega
/-- one event less on the line p -/
theorem cu_dn {l : Nat → Nat} {c m p : Nat} (hc : c < st l m) (hp : p < m) (hl : 0 < dg l c p) : st l p ≤ c ∧ ∀ q, q < m → dg l (c - st l p) q = xu (dg l c) p (dg l c p - 1) q := by
  have h1 : en l (xu (dg l c) p (dg l c p - 1)) m + st l p = c := by
    have h := en_up (l := l) (x := xu (dg l c) p (dg l c p - 1)) (p := p) (m := m) hp
    rw [← h, xu_1]
    refine (en_cong (fun q hq => ?_)).trans (en_dg hc)
    by_cases hqp : q = p
    · subst hqp; rw [xu_1]; omega
    · rw [xu_2 hqp, xu_2 hqp]
  have h2 : ∀ q, q < m → xu (dg l c) p (dg l c p - 1) q ≤ l q := by
    intro q hq
    by_cases hqp : q = p
    · subst hqp; rw [xu_1]; have := dg_le l c q; omega
    · rw [xu_2 hqp]; exact dg_le _ _ _
  refine ⟨by omega, fun q hq => ?_⟩
  rw [show c - st l p = en l (xu (dg l c) p (dg l c p - 1)) m by omega]
  exact dg_en h2 hq
theorem en_full {l : Nat → Nat} : ∀ m, en l l m + 1 = st l m
  | 0 => rfl
  | m + 1 => by
    have := en_full (l := l) m
    show en l l m + st l m * l m + 1 = st l m * (l m + 1)
    rw [Nat.mul_add, Nat.mul_one]
    omega
theorem cu_last {l : Nat → Nat} {c m : Nat} (hc : c < st l m) (h : ∀ p, p < m → dg l c p = l p) : c + 1 = st l m := by
  have h1 := en_dg hc
  rw [en_cong h] at h1
  have := en_full (l := l) m
  omega
theorem dg_last {l : Nat → Nat} {m p : Nat} (hp : p < m) : dg l (st l m - 1) p = l p := by
  have := en_full (l := l) m
  rw [show st l m - 1 = en l l m by omega]
  exact dg_en (fun _ _ => Nat.le_refl _) hp
theorem en_0 {l : Nat → Nat} : ∀ m, en l (fun _ => 0) m = 0
  | 0 => rfl
  | m + 1 => by
    show en l (fun _ => 0) m + st l m * 0 = 0
    rw [en_0 m]
    rfl
theorem cu_0 {l : Nat → Nat} {c m : Nat} (hc : c < st l m) (h : ∀ p, p < m → dg l c p = 0) : c = 0 := by
  have h1 := en_dg hc
  rw [en_cong (y := fun _ => 0) h, en_0] at h1
  exact h1.symm
theorem dg_0 {l : Nat → Nat} {p : Nat} : dg l 0 p = 0 := by
  unfold dg
  rw [Nat.zero_div, Nat.zero_mod]
/-- the next cut: the lowest line that is not at its end goes on, those below begin anew -/
theorem cu_next {l : Nat → Nat} {c m p : Nat} (hc : c < st l m) (hp : p < m) (hl : dg l c p < l p) (h0 : ∀ q, q < p → dg l c q = l q) : ∀ q, q < m → dg l (c + 1) q = if q < p then 0 else if q = p then dg l c p + 1 else dg l c q := by
  have hb : ∀ q, q < m → (fun q => if q < p then 0 else if q = p then dg l c p + 1 else dg l c q) q ≤ l q := by
    intro q hq
    dsimp only
    split
    · exact Nat.zero_le _
    · split
      · rename_i h; subst h; exact hl
      · exact dg_le _ _ _
  have key : ∀ k, p < k → k ≤ m → en l (fun q => if q < p then 0 else if q = p then dg l c p + 1 else dg l c q) k = en l (dg l c) k + 1 := by
    intro k
    induction k with
    | zero => intro h; omega
    | succ k ih =>
      intro h1 h2
      show en l _ k + st l k * _ = en l (dg l c) k + st l k * dg l c k + 1
      by_cases hk : k = p
      · subst hk
        rw [en_cong (l := l) (y := fun _ => 0) (fun q hq => if_pos hq), en_0, en_cong (l := l) (x := dg l c) (y := l) h0]
        have := en_full (l := l) k
        dsimp only
        rw [if_neg (Nat.lt_irrefl k), if_pos rfl, Nat.mul_add]
        omega
      · rw [ih (by omega) (by omega)]
        dsimp only
        rw [if_neg (by omega), if_neg hk]
        omega
  have h1 := key m hp (Nat.le_refl m)
  rw [en_dg hc] at h1
  intro q hq
  rw [← h1]
  exact dg_en hb hq
/-- at most 1296 cuts -/
theorem am2 : ∀ x, x < 25 → ∀ y, y < 25 → x * y ≤ (x + y) * (x + y) / 4 := by decide
theorem am4 : ∀ x, x < 25 → ∀ y, y < 25 → x + y ≤ 24 → (x * x / 4) * (y * y / 4) ≤ 1296 := by decide
theorem st_4 {l : Nat → Nat} (h : l 0 + l 1 + l 2 + l 3 ≤ 20) : st l 4 ≤ 1296 := by
  show 1 * (l 0 + 1) * (l 1 + 1) * (l 2 + 1) * (l 3 + 1) ≤ 1296
  rw [Nat.one_mul, Nat.mul_assoc ((l 0 + 1) * (l 1 + 1))]
  have h1 := am2 (l 0 + 1) (by omega) (l 1 + 1) (by omega)
  have h2 := am2 (l 2 + 1) (by omega) (l 3 + 1) (by omega)
  have h3 := am4 (l 0 + 1 + (l 1 + 1)) (by omega) (l 2 + 1 + (l 3 + 1)) (by omega) (by omega)
  exact Nat.le_trans (Nat.mul_le_mul h1 h2) h3
