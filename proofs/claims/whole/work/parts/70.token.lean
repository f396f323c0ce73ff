/-! ===== tokens of a text ===== -/
/-- a method whose first head is its entry -/
theorem dt_meth0 {y : dt_Y} {tb : Nat → dt_T} (ht : ∀ pc, dt_S y (tb pc) pc) (cut : Nat → Bool) (n : Nat) {σ : Type} (P : σ → Nat) (L : σ → dt_L) (N : σ → dt_M) (I : σ → Prop) (μ : σ → Nat) {d : Nat} {av : List dt_V} {M : dt_M} {Φ : Option dt_V → dt_M → Prop} (hy : plainName y.1.cls = true) (hs : (dt_lv0 av).length ≤ y.2.2.1) (t0 : σ) (hI : I t0) (hP : P t0 = 0) (hL : L t0 = dt_lv av y.2.2.1) (hN : N t0 = M)
    (h1 : ∀ (t : σ), I t → ∀ J : dt_K, (∀ (u : σ) (lv : dt_L), I u → μ u < μ t → dt_le (L u) lv → J (P u) lv [] (N u)) → tb (P t) d Φ (dt_w tb cut d Φ J n) (P t) (L t) [] (N t)) : dt_Sp y d av M Φ :=
  dt_meth ht cut n P L N I μ hy hs (fun J hJ => by
    have := h1 t0 hI J (fun u lv hu _ hle => hJ u lv hu hle)
    rw [hP, hL, hN] at this
    exact this) h1
def tx_sp (x : Nat → Int) (L a b : Nat) : Prop := a ≤ b ∧ b ≤ L ∧ (∀ j, a ≤ j → j < b → x j = 32) ∧ (b < L → x b ≠ 32)
def tx_w (x : Nat → Int) (L b c : Nat) : Prop := b ≤ c ∧ c ≤ L ∧ (∀ j, b ≤ j → j < c → 97 ≤ x j ∧ x j ≤ 122) ∧ (c < L → ¬ (97 ≤ x c ∧ x c ≤ 122))
theorem tx_sp_u {x : Nat → Int} {L a b b' : Nat} (h : tx_sp x L a b) (k : tx_sp x L a b') : b = b' := by
  rcases Nat.lt_trichotomy b b' with q | q | q
  · exact absurd (k.2.2.1 b h.1 q) (h.2.2.2 (by have := k.2.1; omega))
  · exact q
  · exact absurd (h.2.2.1 b' k.1 q) (k.2.2.2 (by have := h.2.1; omega))
theorem tx_w_u {x : Nat → Int} {L b c c' : Nat} (h : tx_w x L b c) (k : tx_w x L b c') : c = c' := by
  rcases Nat.lt_trichotomy c c' with q | q | q
  · exact absurd (k.2.2.1 c h.1 q) (h.2.2.2 (by have := k.2.1; omega))
  · exact q
  · exact absurd (h.2.2.1 c' k.1 q) (k.2.2.2 (by have := h.2.1; omega))
def tx_is (x : Nat → Int) (b c : Nat) (p q r s : Int) : Prop := c = b + 4 ∧ x b = p ∧ x (b + 1) = q ∧ x (b + 2) = r ∧ x (b + 3) = s
/-- what a word means -/
def tx_c (x : Nat → Int) (b c : Nat) (k : Int) : Prop := (tx_is x b c 115 101 110 100 ∧ k = 10) ∨ (tx_is x b c 116 97 107 101 ∧ k = 11) ∨ (c = b + 1 ∧ x b < 105 ∧ k = x b - 97) ∨ (¬ tx_is x b c 115 101 110 100 ∧ ¬ tx_is x b c 116 97 107 101 ∧ ¬ (c = b + 1 ∧ x b < 105) ∧ k = -1)
theorem tx_c_u {x : Nat → Int} {b c : Nat} {k k' : Int} (h : tx_c x b c k) (i : tx_c x b c k') : k = k' := by
  unfold tx_c tx_is at h i
  omega
/-- the token that begins behind a: where it stands, what it is, where it ends -/
def tx_t (x : Nat → Int) (L a b : Nat) (k : Int) (c : Nat) : Prop := tx_sp x L a b ∧ ((b = L ∧ k = 40 ∧ c = L) ∨ (b < L ∧ x b = 59 ∧ k = 30 ∧ c = b + 1) ∨ (b < L ∧ (65 ≤ x b ∧ x b ≤ 68) ∧ k = x b - 45 ∧ c = b + 1) ∨ (b < L ∧ (97 ≤ x b ∧ x b ≤ 122) ∧ tx_w x L b c ∧ tx_c x b c k) ∨ (b < L ∧ x b ≠ 59 ∧ ¬ (65 ≤ x b ∧ x b ≤ 68) ∧ ¬ (97 ≤ x b ∧ x b ≤ 122) ∧ k = -1 ∧ c = b))
theorem tx_t_u {x : Nat → Int} {L a b b' c c' : Nat} {k k' : Int} (h : tx_t x L a b k c) (i : tx_t x L a b' k' c') : b = b' ∧ k = k' ∧ c = c' := by
  have e := tx_sp_u h.1 i.1
  subst e
  refine ⟨rfl, ?_⟩
  rcases h.2 with h | h | h | h | h <;> rcases i.2 with i | i | i | i | i <;> try omega
  have e := tx_w_u h.2.2.1 i.2.2.1
  subst e
  exact ⟨tx_c_u h.2.2.2 i.2.2.2, rfl⟩
theorem tx_c_r {x : Nat → Int} {b c : Nat} {k : Int} (hl : 97 ≤ x b) (h : tx_c x b c k) : (0 ≤ k ∧ k ≤ 7) ∨ k = 10 ∨ k = 11 ∨ k = -1 := by
  unfold tx_c at h
  rcases h with h | h | h | h <;> omega
theorem tx_t_r {x : Nat → Int} {L a b c : Nat} {k : Int} (h : tx_t x L a b k c) : a ≤ b ∧ b ≤ c ∧ c ≤ L ∧ ((0 ≤ k ∧ k ≤ 7) ∨ k = 10 ∨ k = 11 ∨ (20 ≤ k ∧ k ≤ 23) ∨ k = 30 ∨ k = 40 ∨ k = -1) := by
  have h1 := h.1.1
  have h2 := h.1.2.1
  rcases h.2 with q | q | q | q | q
  · omega
  · omega
  · omega
  · have := tx_c_r q.2.1.1 q.2.2.2
    have := q.2.2.1.1
    have := q.2.2.1.2.1
    omega
  · omega
/-- kind and value of a token in the class -/
def tx_k (k kind value : Int) : Prop := (k = 40 ∧ kind = 5) ∨ (k = 30 ∧ kind = 4) ∨ (20 ≤ k ∧ k ≤ 23 ∧ kind = 2 ∧ value = k - 20) ∨ (0 ≤ k ∧ k ≤ 7 ∧ kind = 3 ∧ value = k) ∨ (k = 10 ∧ kind = 0) ∨ (k = 11 ∧ kind = 1) ∨ (k = -1 ∧ kind = 6)
abbrev qRd : dt_V := .inr (.inr (7, 6, 42))
/-- nothing has changed but the reader's place and token -/
def qfr (M M' : dt_M) : Prop := (∀ a, a ≠ 42 → M'.1 a = M.1 a) ∧ M'.1 42 1 = M.1 42 1 ∧ M'.2 = M.2
theorem qfr.rf {M : dt_M} : qfr M M := ⟨fun _ _ => rfl, rfl, rfl⟩
theorem qfr.tr {M M1 M2 : dt_M} (h : qfr M M1) (k : qfr M1 M2) : qfr M M2 := ⟨fun a x => (k.1 a x).trans (h.1 a x), k.2.1.trans h.2.1, k.2.2.trans h.2.2⟩
theorem qfr_w {M : dt_M} {j : Nat} {v : Int} (h : j ≠ 1) : qfr M (dt_wi M 42 j v) := ⟨fun a x => dm_wi2 x, by rw [dm_wi1, dm_up2 (Ne.symm h)], rfl⟩
theorem qfr_e {M M' : dt_M} {j : Nat} {v : Int} (e : M' = dt_wi M 42 j v) (h : j ≠ 1) : qfr M M' := by
  subst e
  exact qfr_w h
/-- the reader's text -/
def rtx (M : dt_M) (x : Nat → Int) (L : Nat) : Prop := M.1 42 1 = (L : Int) ∧ L ≤ 300 ∧ ∀ j, j < L → M.1 43 j = x j ∧ 0 ≤ x j ∧ x j ≤ 255
theorem qfr.tx {M M' : dt_M} {x : Nat → Int} {L : Nat} (h : qfr M M') (k : rtx M x L) : rtx M' x L := ⟨by rw [h.2.1]; exact k.1, k.2.1, fun j hj => by rw [h.1 43 (by decide)]; exact k.2.2 j hj⟩
theorem c_isSmallLetter (d : Nat) (v : Int) (M : dt_M) : dt_Sp mX3_isSmallLetter d [.inl v] M (fun r M' => M' = M ∧ ((r = some (.inl 1) ∧ 97 ≤ v ∧ v ≤ 122) ∨ (r = some (.inl 0) ∧ ¬ (97 ≤ v ∧ v ≤ 122)))) := by
  refine dt_flat okX3_isSmallLetter 30 (by decide) (Nat.le_of_ble_eq_true rfl) (fun J => ?_)
  refine And.intro (fun h => ⟨Or.inl rfl, rfl, Or.inr ⟨rfl, by omega⟩⟩) (fun h => ?_)
  refine And.intro (fun h2 => ⟨Or.inl rfl, rfl, Or.inr ⟨rfl, by omega⟩⟩) (fun h2 => ?_)
  exact ⟨Or.inr rfl, rfl, Or.inl ⟨rfl, by omega, by omega⟩⟩
theorem c_readSign (d a : Nat) (v : Int) (M : dt_M) (ha : a ≤ 300) (h2 : M.1 42 2 = (a : Int)) (hv : 0 ≤ v ∧ v ≤ 255) : dt_Sp mX3_readSign d [qRd, .inl v] M (fun r M' => r = none ∧ qfr M M' ∧ M'.1 42 2 = (a : Int) + 1 ∧ M'.1 42 3 = M.1 42 3 ∧ ((v = 59 ∧ M'.1 42 4 = 4) ∨ (65 ≤ v ∧ v ≤ 68 ∧ M'.1 42 4 = 2 ∧ M'.1 42 5 = v - 65) ∨ (v ≠ 59 ∧ ¬ (65 ≤ v ∧ v ≤ 68) ∧ M'.1 42 4 = 6))) := by
  refine dt_flat okX3_readSign 60 (by decide) (Nat.le_of_ble_eq_true rfl) (fun J => ?_)
  refine And.intro (show dt_r (M.1 42 2 + 1) by rw [h2]; exact ⟨by omega, by omega⟩) ?_
  intro M1 hM1
  have hM1' : M1 = dt_wi M 42 2 ((a : Int) + 1) := by rw [← h2]; exact hM1
  have e1 : M1.1 42 2 = (a : Int) + 1 := by rw [hM1', dm_wi1, dm_up1]
  have e3 : M1.1 42 3 = M.1 42 3 := by rw [hM1', dm_wi1, dm_up2 (by decide)]
  have f1 : qfr M M1 := qfr_e hM1' (by decide)
  have bad : v ≠ 59 → ¬ (65 ≤ v ∧ v ≤ 68) → ∀ M2, M2 = dt_wi M1 42 4 6 → (none : Option dt_V) = none ∧ qfr M M2 ∧ M2.1 42 2 = (a : Int) + 1 ∧ M2.1 42 3 = M.1 42 3 ∧ ((v = 59 ∧ M2.1 42 4 = 4) ∨ (65 ≤ v ∧ v ≤ 68 ∧ M2.1 42 4 = 2 ∧ M2.1 42 5 = v - 65) ∨ (v ≠ 59 ∧ ¬ (65 ≤ v ∧ v ≤ 68) ∧ M2.1 42 4 = 6)) := by
    intro z1 z2 M2 hM2
    refine ⟨rfl, f1.tr (qfr_e hM2 (by decide)), by rw [hM2, dm_wi1, dm_up2 (by decide)]; exact e1, by rw [hM2, dm_wi1, dm_up2 (by decide)]; exact e3, Or.inr (Or.inr ⟨z1, z2, by rw [hM2, dm_wi1, dm_up1]⟩)⟩
  refine And.intro (fun z => ?_) (fun z => ?_)
  · have z' : v ≠ 59 := z
    refine And.intro (fun z1 => ?_) (fun z1 => And.intro (fun z2 => ?_) (fun z2 => ?_))
    · exact fun M2 hM2 => bad z' (by omega) M2 hM2
    · exact fun M2 hM2 => bad z' (by omega) M2 hM2
    · intro M2 hM2
      have hM2' : M2 = dt_wi M1 42 4 2 := hM2
      refine And.intro (show dt_r (v - 65) from ⟨by omega, by omega⟩) ?_
      intro M3 hM3
      have hM3' : M3 = dt_wi M2 42 5 (v - 65) := hM3
      refine ⟨rfl, (f1.tr (qfr_e hM2' (by decide))).tr (qfr_e hM3' (by decide)), by rw [hM3', dm_wi1, dm_up2 (by decide), hM2', dm_wi1, dm_up2 (by decide)]; exact e1, by rw [hM3', dm_wi1, dm_up2 (by decide), hM2', dm_wi1, dm_up2 (by decide)]; exact e3, Or.inr (Or.inl ⟨by omega, by omega, by rw [hM3', dm_wi1, dm_up2 (by decide), hM2', dm_wi1, dm_up1], by rw [hM3', dm_wi1, dm_up1]⟩)⟩
  · have z' : v = 59 := z
    intro M2 hM2
    have hM2' : M2 = dt_wi M1 42 4 4 := hM2
    exact ⟨rfl, f1.tr (qfr_e hM2' (by decide)), by rw [hM2', dm_wi1, dm_up2 (by decide)]; exact e1, by rw [hM2', dm_wi1, dm_up2 (by decide)]; exact e3, Or.inl ⟨z', by rw [hM2', dm_wi1, dm_up1]⟩⟩
theorem c_wordIs (d k b c L : Nat) (M : dt_M) (x : Nat → Int) (hk : k = 86 ∨ k = 87) (hT : rtx M x L) (hb : M.1 42 3 = (b : Int)) (hc : M.1 42 2 = (c : Int)) (hbc : b ≤ c) (hcL : c ≤ L) : dt_Sp mX3_wordIs (d + 4) [qRd, .inr (.inr (50, 4, k))] M (fun r M' => M' = M ∧ ((r = some (.inl 1) ∧ tx_is x b c (st_c k 0) (st_c k 1) (st_c k 2) (st_c k 3)) ∨ (r = some (.inl 0) ∧ ¬ tx_is x b c (st_c k 0) (st_c k 1) (st_c k 2) (st_c k 3)))) := by
  obtain ⟨t1, t2, t3⟩ := hT
  refine dt_meth okX3_wordIs (fun pc => pc == 23) 50 (σ := Nat) (fun t => 23) (fun t => [some qRd, some (.inr (.inr (50, 4, k))), some (.inl ((b + t : Nat) : Int))]) (fun t => M) (fun t => c = b + 4 ∧ t ≤ 4 ∧ ∀ j, j < t → x (b + j) = st_c k j) (fun t => 4 - t) (by decide) (Nat.le_of_ble_eq_true rfl) ?_ ?_
  · intro J hJ
    refine And.intro (show dt_r (M.1 42 2 - M.1 42 3) by rw [hb, hc]; exact ⟨by omega, by omega⟩) ?_
    refine And.intro (fun z => ?_) (fun z => ?_)
    · have z' : M.1 42 2 - M.1 42 3 = 4 := z
      exact hJ 0 _ ⟨by omega, Nat.zero_le _, fun j hj => absurd hj (Nat.not_lt_zero j)⟩ ⟨rfl, rfl, congrArg (fun z => (Sum.inl z : dt_V)) (show M.1 42 3 = ((b + 0 : Nat) : Int) by rw [hb]; rfl).symm, trivial⟩
    · have z' : ¬ M.1 42 2 - M.1 42 3 = 4 := z
      exact ⟨Or.inl rfl, rfl, Or.inr ⟨rfl, fun q => by have := q.1; omega⟩⟩
  · rintro t ⟨h1, h2, h3⟩ J hJ
    refine And.intro (fun hh => ?_) (fun hh => ?_)
    · have h4 : M.1 42 2 ≤ ((b + t : Nat) : Int) := hh
      have : t = 4 := by omega
      subst this
      exact ⟨Or.inr rfl, rfl, Or.inl ⟨rfl, h1, h3 0 (by omega), h3 1 (by omega), h3 2 (by omega), h3 3 (by omega)⟩⟩
    · have h4 : ((b + t : Nat) : Int) < M.1 42 2 := hh
      have ht : t < 4 := by omega
      have et : (((b + t : Nat) : Int)).toNat = b + t := by omega
      refine And.intro ⟨by omega, by omega⟩ ?_
      rw [et, (t3 (b + t) (by omega)).1]
      refine And.intro (show dt_r (((b + t : Nat) : Int) - M.1 42 3) by rw [hb]; exact ⟨by omega, by omega⟩) ?_
      refine And.intro (show 0 ≤ ((b + t : Nat) : Int) - M.1 42 3 ∧ ((b + t : Nat) : Int) - M.1 42 3 < 4 by rw [hb]; omega) ?_
      have e5 : (((b + t : Nat) : Int) - M.1 42 3).toNat = t := by rw [hb]; omega
      refine And.intro (fun z => ?_) (fun z => ?_)
      · have z' : x (b + t) = st_c k (((b + t : Nat) : Int) - M.1 42 3).toNat := z
        rw [e5] at z'
        refine And.intro ⟨by omega, by omega⟩ (hJ (t + 1) _ ⟨h1, by omega, fun j hj => ?_⟩ (by omega) ⟨rfl, rfl, congrArg (fun z => (Sum.inl z : dt_V)) (show ((b + t : Nat) : Int) + 1 = ((b + (t + 1) : Nat) : Int) by omega).symm, trivial⟩)
        by_cases q : j = t
        · subst q; exact z'
        · exact h3 j (by omega)
      · have z' : ¬ x (b + t) = st_c k (((b + t : Nat) : Int) - M.1 42 3).toNat := z
        rw [e5] at z'
        refine ⟨Or.inl rfl, rfl, Or.inr ⟨rfl, fun q => z' ?_⟩⟩
        rcases (show t = 0 ∨ t = 1 ∨ t = 2 ∨ t = 3 by omega) with e | e | e | e <;> subst e
        · exact q.2.1
        · exact q.2.2.1
        · exact q.2.2.2.1
        · exact q.2.2.2.2
