/-! ===== how many ways lead from a moment to the end, and the least of the greatest ===== -/
def sm (f : Nat → Int) : Nat → Int
  | 0 => 0
  | k + 1 => sm f k + f k
def mn (f : Nat → Int) : Nat → Int
  | 0 => 99
  | k + 1 => if f k < mn f k then f k else mn f k
abbrev cC (T : Nat → Nat → Int) : Nat := st (ln T) 4
abbrev cG (T : Nat → Nat → Int) (c : Nat) : Nat → Nat := dg (ln T) c
noncomputable def oB (T : Nat → Nat → Int) (n c : Nat) : Int :=
  if h : c + 1 < cC T then
    @ite _ (con T n (cG T c)) (Classical.propDecidable _) (0 + (if cG T c 0 < ln T 0 then oB T n (c + st (ln T) 0) else 0) + (if cG T c 1 < ln T 1 then oB T n (c + st (ln T) 1) else 0) + (if cG T c 2 < ln T 2 then oB T n (c + st (ln T) 2) else 0) + (if cG T c 3 < ln T 3 then oB T n (c + st (ln T) 3) else 0)) 0
  else 1
termination_by cC T - c
decreasing_by
  · have := st_pos (ln T) 0; omega
  · have := st_pos (ln T) 1; omega
  · have := st_pos (ln T) 2; omega
  · have := st_pos (ln T) 3; omega
noncomputable def oT (T : Nat → Nat → Int) (n c p : Nat) : Int := if cG T c p < ln T p then oB T n (c + st (ln T) p) else 0
theorem oB_y {T : Nat → Nat → Int} {n c : Nat} (h : c + 1 < cC T) (hc : con T n (cG T c)) : oB T n c = sm (oT T n c) 4 := by
  rw [oB, dif_pos h, if_pos hc]
  rfl
theorem oB_n {T : Nat → Nat → Int} {n c : Nat} (h : c + 1 < cC T) (hc : ¬ con T n (cG T c)) : oB T n c = 0 := by
  rw [oB, dif_pos h, if_neg hc]
theorem oB_1 {T : Nat → Nat → Int} {n c : Nat} (h : ¬ c + 1 < cC T) : oB T n c = 1 := by
  rw [oB, dif_neg h]
theorem sm_nn {f : Nat → Int} : ∀ {k : Nat}, (∀ j, j < k → 0 ≤ f j) → 0 ≤ sm f k
  | 0, _ => Int.le_refl _
  | k + 1, h => by
    have := sm_nn (f := f) (k := k) (fun j hj => h j (by omega))
    have := h k (by omega)
    show 0 ≤ sm f k + f k
    omega
theorem sm_ge {f : Nat → Int} {j : Nat} : ∀ {k : Nat}, (∀ j, j < k → 0 ≤ f j) → j < k → f j ≤ sm f k
  | 0, _, h => by omega
  | k + 1, h, hj => by
    have h1 := sm_nn (f := f) (k := k) (fun j hj => h j (by omega))
    have h2 := h k (by omega)
    show f j ≤ sm f k + f k
    by_cases q : j = k
    · subst q; omega
    · have := sm_ge (f := f) (j := j) (k := k) (fun j hj => h j (by omega)) (by omega); omega
theorem sm_le {f : Nat → Int} {b : Int} : ∀ {k : Nat}, (∀ j, j < k → f j ≤ b) → sm f k ≤ (k : Int) * b
  | 0, _ => by show (0 : Int) ≤ ((0 : Nat) : Int) * b; simp
  | k + 1, h => by
    have h1 := sm_le (f := f) (b := b) (k := k) (fun j hj => h j (by omega))
    have h2 := h k (by omega)
    show sm f k + f k ≤ ((k + 1 : Nat) : Int) * b
    rw [Int.natCast_add, Int.add_mul]
    simp
    omega
theorem sm_cong {f g : Nat → Int} : ∀ {k : Nat}, (∀ j, j < k → f j = g j) → sm f k = sm g k
  | 0, _ => rfl
  | k + 1, h => by
    show sm f k + f k = sm g k + g k
    rw [sm_cong (fun j hj => h j (by omega)), h k (by omega)]
theorem sm_ch {f g : Nat → Int} {i : Nat} : ∀ {k : Nat}, i < k → (∀ j, j < k → j ≠ i → f j = g j) → sm f k = sm g k + (f i - g i)
  | 0, h, _ => by omega
  | k + 1, h, hc => by
    show sm f k + f k = sm g k + g k + (f i - g i)
    by_cases q : i = k
    · subst q
      rw [sm_cong (f := f) (g := g) (fun j hj => hc j (by omega) (by omega))]
      omega
    · rw [sm_ch (f := f) (g := g) (i := i) (k := k) (by omega) (fun j hj => hc j (by omega)), hc k (by omega) (by omega)]
      omega
theorem oB_0 {T : Nat → Nat → Int} {n c : Nat} : 0 ≤ oB T n c := by
  have key : ∀ m c, cC T - c ≤ m → 0 ≤ oB T n c := by
    intro m
    induction m with
    | zero => intro c h; rw [oB_1 (by omega)]; decide
    | succ m ih =>
      intro c h
      by_cases h1 : c + 1 < cC T
      · by_cases h2 : con T n (cG T c)
        · rw [oB_y h1 h2]
          refine sm_nn (fun p _ => ?_)
          unfold oT
          split
          · exact ih _ (by have := st_pos (ln T) p; omega)
          · decide
        · rw [oB_n h1 h2]; exact Int.le_refl _
      · rw [oB_1 h1]; decide
  exact key _ c (Nat.le_refl _)
theorem oT_0 {T : Nat → Nat → Int} {n c p : Nat} : 0 ≤ oT T n c p := by
  unfold oT
  split
  · exact oB_0
  · decide
theorem con_st {T : Nat → Nat → Int} {n s c p : Nat} (h : tV T n s) (hc : c < cC T) (hp : p < 4) (hl : cG T c p < ln T p) : con T n (cG T (c + st (ln T) p)) ↔ con T n (xu (cG T c) p (cG T c p + 1)) := con_cong h (cu_up hc hp hl).2
theorem cu_not {T : Nat → Nat → Int} {c : Nat} (hc : c + 1 < cC T) : ∃ p, p < 4 ∧ cG T c p < ln T p := by
  apply Classical.byContradiction
  intro q
  have : c + 1 = cC T := cu_last (show c < cC T by omega) (fun p hp => by
    have : cG T c p ≤ ln T p := dg_le (ln T) c p
    have : ¬ cG T c p < ln T p := fun z => q ⟨p, hp, z⟩
    show cG T c p = ln T p
    omega)
  omega
theorem oB_pos {T : Nat → Nat → Int} {n s c : Nat} (h : tV T n s) (hc : c < cC T) (hm : con T n (cG T c)) : 1 ≤ oB T n c := by
  have key : ∀ m c, cC T - c ≤ m → c < cC T → con T n (cG T c) → 1 ≤ oB T n c := by
    intro m
    induction m with
    | zero => intro c h; omega
    | succ m ih =>
      intro c h0 hc hm
      by_cases h1 : c + 1 < cC T
      · obtain ⟨p, p1, p2⟩ := cu_not h1
        obtain ⟨q, q1, q2, q3⟩ := con_on h p1 p2 hm
        have u := cu_up hc q1 q2
        have h3 := ih (c + st (ln T) q) (by have := st_pos (ln T) q; omega) u.1 ((con_st h hc q1 q2).mpr q3)
        rw [oB_y h1 hm]
        have h4 : oT T n c q ≤ sm (oT T n c) 4 := sm_ge (fun _ _ => oT_0) q1
        have h5 : oT T n c q = oB T n (c + st (ln T) q) := if_pos q2
        omega
      · rw [oB_1 h1]; decide
  exact key _ c (Nat.le_refl _) hc hm
def rm (l x : Nat → Nat) : Nat := (l 0 - x 0) + (l 1 - x 1) + (l 2 - x 2) + (l 3 - x 3)
theorem rm_up {l x : Nat → Nat} {p : Nat} (hp : p < 4) (h : x p < l p) : rm l (xu x p (x p + 1)) + 1 = rm l x := by
  unfold rm
  match p, hp, h with
  | 0, _, h => rw [xu_1, xu_2 (by decide), xu_2 (by decide), xu_2 (by decide)]; omega
  | 1, _, h => rw [xu_2 (by decide), xu_1, xu_2 (by decide), xu_2 (by decide)]; omega
  | 2, _, h => rw [xu_2 (by decide), xu_2 (by decide), xu_1, xu_2 (by decide)]; omega
  | 3, _, h => rw [xu_2 (by decide), xu_2 (by decide), xu_2 (by decide), xu_1]; omega
theorem rm_cong {l x y : Nat → Nat} (h : ∀ p, p < 4 → x p = y p) : rm l x = rm l y := by
  unfold rm
  rw [h 0 (by decide), h 1 (by decide), h 2 (by decide), h 3 (by decide)]
theorem oB_le {T : Nat → Nat → Int} {n c : Nat} (hc : c < cC T) : oB T n c ≤ 4 ^ rm (ln T) (cG T c) := by
  have pp : ∀ k : Nat, (1 : Int) ≤ 4 ^ k := fun k => by
    induction k with
    | zero => decide
    | succ k ih => rw [Int.pow_succ]; omega
  have key : ∀ m c, cC T - c ≤ m → c < cC T → oB T n c ≤ 4 ^ rm (ln T) (cG T c) := by
    intro m
    induction m with
    | zero => intro c h; omega
    | succ m ih =>
      intro c h0 hc
      by_cases h1 : c + 1 < cC T
      · by_cases h2 : con T n (cG T c)
        · rw [oB_y h1 h2]
          obtain ⟨p, p1, p2⟩ := cu_not h1
          have r1 := rm_up p1 p2
          have h3 : sm (oT T n c) 4 ≤ ((4 : Nat) : Int) * 4 ^ (rm (ln T) (cG T c) - 1) := sm_le (fun q hq => by
            unfold oT
            split
            · rename_i q2
              have u := cu_up hc hq q2
              have h4 := ih (c + st (ln T) q) (by have := st_pos (ln T) q; omega) u.1
              have r2 := rm_up hq q2
              rw [rm_cong (l := ln T) u.2] at h4
              rw [show rm (ln T) (cG T c) - 1 = rm (ln T) (xu (cG T c) q (cG T c q + 1)) by omega]
              exact h4
            · have := pp (rm (ln T) (cG T c) - 1); omega)
          have h5 : (4 : Int) ^ rm (ln T) (cG T c) = 4 ^ (rm (ln T) (cG T c) - 1) * 4 := by
            obtain ⟨k, hk⟩ : ∃ k, rm (ln T) (cG T c) = k + 1 := ⟨rm (ln T) (cG T c) - 1, by omega⟩
            rw [hk, Int.pow_succ, Nat.add_sub_cancel]
          rw [h5, Int.mul_comm]
          exact h3
        · rw [oB_n h1 h2]
          have := pp (rm (ln T) (cG T c)); omega
      · rw [oB_1 h1]
        exact pp _
  exact key _ c (Nat.le_refl _) hc
theorem oB_big {T : Nat → Nat → Int} {n s c : Nat} (h : tB T n s) (hc : c < cC T) : oB T n c ≤ 1099511627776 := by
  have h1 := oB_le (n := n) hc
  have h2 : rm (ln T) (cG T c) ≤ 20 := by
    have := ln_sum h
    have := h.1
    unfold rm
    omega
  have h3 : ∀ k : Nat, k ≤ 20 → (4 : Int) ^ k ≤ 1099511627776 := by decide
  exact Int.le_trans h1 (h3 _ h2)
/-! the least of the greatest -/
noncomputable def oA (T : Nat → Nat → Int) (n c : Nat) : Int :=
  if h : c + 1 < cC T then
    @ite _ (con T n (cG T c)) (Classical.propDecidable _) (max (und T n (cG T c) : Int) (mn (fun p => if p = 0 then (if cG T c 0 < ln T 0 then oA T n (c + st (ln T) 0) else 99) else if p = 1 then (if cG T c 1 < ln T 1 then oA T n (c + st (ln T) 1) else 99) else if p = 2 then (if cG T c 2 < ln T 2 then oA T n (c + st (ln T) 2) else 99) else (if cG T c 3 < ln T 3 then oA T n (c + st (ln T) 3) else 99)) 4)) 99
  else 0
termination_by cC T - c
decreasing_by
  · have := st_pos (ln T) 0; omega
  · have := st_pos (ln T) 1; omega
  · have := st_pos (ln T) 2; omega
  · have := st_pos (ln T) 3; omega
noncomputable def oU (T : Nat → Nat → Int) (n c p : Nat) : Int := if cG T c p < ln T p then oA T n (c + st (ln T) p) else 99
theorem mn_cong {f g : Nat → Int} : ∀ {k : Nat}, (∀ j, j < k → f j = g j) → mn f k = mn g k
  | 0, _ => rfl
  | k + 1, h => by
    show (if f k < mn f k then f k else mn f k) = (if g k < mn g k then g k else mn g k)
    rw [mn_cong (fun j hj => h j (by omega)), h k (by omega)]
theorem oA_y {T : Nat → Nat → Int} {n c : Nat} (h : c + 1 < cC T) (hc : con T n (cG T c)) : oA T n c = max (und T n (cG T c) : Int) (mn (oU T n c) 4) := by
  rw [oA, dif_pos h, if_pos hc]
  congr 1
theorem oA_n {T : Nat → Nat → Int} {n c : Nat} (h : c + 1 < cC T) (hc : ¬ con T n (cG T c)) : oA T n c = 99 := by
  rw [oA, dif_pos h, if_neg hc]
theorem oA_1 {T : Nat → Nat → Int} {n c : Nat} (h : ¬ c + 1 < cC T) : oA T n c = 0 := by
  rw [oA, dif_neg h]
theorem mn_le {f : Nat → Int} {j : Nat} : ∀ {k : Nat}, j < k → mn f k ≤ f j
  | 0, h => by omega
  | k + 1, h => by
    show (if f k < mn f k then f k else mn f k) ≤ f j
    by_cases q : j = k
    · subst q; split <;> omega
    · have := mn_le (f := f) (j := j) (k := k) (by omega); split <;> omega
theorem mn_99 {f : Nat → Int} : ∀ {k : Nat}, mn f k ≤ 99
  | 0 => Int.le_refl _
  | k + 1 => by
    have := mn_99 (f := f) (k := k)
    show (if f k < mn f k then f k else mn f k) ≤ 99
    split <;> omega
theorem mn_at {f : Nat → Int} : ∀ {k : Nat}, mn f k < 99 → ∃ j, j < k ∧ f j = mn f k
  | 0, h => absurd h (by show ¬ (99 : Int) < 99; decide)
  | k + 1, h => by
    have h' : (if f k < mn f k then f k else mn f k) < 99 := h
    show ∃ j, j < k + 1 ∧ f j = (if f k < mn f k then f k else mn f k)
    split at h'
    · rename_i q; rw [if_pos q]; exact ⟨k, by omega, rfl⟩
    · rename_i q
      rw [if_neg q]
      obtain ⟨j, j1, j2⟩ := mn_at (f := f) (k := k) h'
      exact ⟨j, by omega, j2⟩
theorem mn_0 {f : Nat → Int} : ∀ {k : Nat}, (∀ j, j < k → 0 ≤ f j) → 0 ≤ mn f k
  | 0, _ => by show (0 : Int) ≤ 99; decide
  | k + 1, h => by
    have := mn_0 (f := f) (k := k) (fun j hj => h j (by omega))
    have := h k (by omega)
    show 0 ≤ (if f k < mn f k then f k else mn f k)
    split <;> omega
theorem oA_10 {T : Nat → Nat → Int} {n s c : Nat} (h : tV T n s) (hc : c < cC T) (hm : con T n (cG T c)) : oA T n c ≤ 10 := by
  have key : ∀ m c, cC T - c ≤ m → c < cC T → con T n (cG T c) → oA T n c ≤ 10 := by
    intro m
    induction m with
    | zero => intro c h; omega
    | succ m ih =>
      intro c h0 hc hm
      by_cases h1 : c + 1 < cC T
      · obtain ⟨p, p1, p2⟩ := cu_not h1
        obtain ⟨q, q1, q2, q3⟩ := con_on h p1 p2 hm
        have u := cu_up hc q1 q2
        have h3 := ih (c + st (ln T) q) (by have := st_pos (ln T) q; omega) u.1 ((con_st h hc q1 q2).mpr q3)
        rw [oA_y h1 hm]
        have h4 : mn (oU T n c) 4 ≤ oU T n c q := mn_le q1
        have h5 : oU T n c q = oA T n (c + st (ln T) q) := if_pos q2
        have h6 := und_le (x := cG T c) h
        omega
      · rw [oA_1 h1]; decide
  exact key _ c (Nat.le_refl _) hc hm
theorem oA_0 {T : Nat → Nat → Int} {n c : Nat} : 0 ≤ oA T n c ∧ oA T n c ≤ 99 ∨ 99 < (und T n (cG T c) : Int) := by
  by_cases h1 : c + 1 < cC T
  · by_cases h2 : con T n (cG T c)
    · rw [oA_y h1 h2]
      have := mn_99 (f := oU T n c) (k := 4)
      omega
    · rw [oA_n h1 h2]; omega
  · rw [oA_1 h1]; omega
theorem oA_99 {T : Nat → Nat → Int} {n s c : Nat} (h : tV T n s) : 0 ≤ oA T n c ∧ oA T n c ≤ 99 := by
  rcases oA_0 (T := T) (n := n) (c := c) with q | q
  · exact q
  · have := und_le (x := cG T c) h; omega
