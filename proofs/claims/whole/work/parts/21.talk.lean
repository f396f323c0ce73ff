/-! ===== Talk: what its methods do to its rows ===== -/
/-- the rows of the talk at place k -/
def tk (M : dt_M) (k : Nat) : Nat → Nat → Int := fun f j => M.1 (k + f) j
/-- nothing changes but the talk at place k -/
def tk_fr (M M' : dt_M) (k : Nat) : Prop := (∀ a, (a < k ∨ k + 8 ≤ a) → M'.1 a = M.1 a) ∧ M'.2 = M.2
theorem tk_fr.rf {M : dt_M} {k : Nat} : tk_fr M M k := ⟨fun _ _ => rfl, rfl⟩
theorem tk_fr.tr {M M1 M2 : dt_M} {k : Nat} (h1 : tk_fr M M1 k) (h2 : tk_fr M1 M2 k) : tk_fr M M2 k := ⟨fun a h => (h2.1 a h).trans (h1.1 a h), h2.2.trans h1.2⟩
theorem tk_wi {M : dt_M} {k f j : Nat} {x : Int} (hf : f < 8) : tk_fr M (dt_wi M (k + f) j x) k := ⟨fun a h => dm_wi2 (by omega), rfl⟩
theorem tk_same {M : dt_M} {k f g j : Nat} {x : Int} (h : g ≠ f) : tk (dt_wi M (k + f) j x) k g = tk M k g := by
  funext i
  show (dt_wi M (k + f) j x).1 (k + g) i = M.1 (k + g) i
  rw [dm_wi2 (by omega)]
theorem tk_at {M : dt_M} {k f j : Nat} {x : Int} : tk (dt_wi M (k + f) j x) k f = dt_up (tk M k f) j x := by
  funext i
  show (dt_wi M (k + f) j x).1 (k + f) i = _
  rw [dm_wi1]
  rfl
theorem tk_wi0 {M : dt_M} {k j : Nat} {x : Int} : tk_fr M (dt_wi M k j x) k := tk_wi (f := 0) (by omega)
theorem tk_same0 {M : dt_M} {k g j : Nat} {x : Int} (h : g ≠ 0) : tk (dt_wi M k j x) k g = tk M k g := tk_same (f := 0) h
theorem tk_at0 {M : dt_M} {k j : Nat} {x : Int} : tk (dt_wi M k j x) k 0 = dt_up (tk M k 0) j x := tk_at (f := 0)
/-- the first number below n of which P holds, or -1 -/
def dt_fst (P : Nat → Bool) : Nat → Int
  | 0 => -1
  | n + 1 => if dt_fst P n = -1 then (if P n then (n : Int) else -1) else dt_fst P n
theorem dt_fst_no {P : Nat → Bool} : ∀ {n : Nat}, (∀ j, j < n → P j = false) → dt_fst P n = -1
  | 0, _ => rfl
  | n + 1, h => by
    have h1 := dt_fst_no (P := P) (n := n) (fun j hj => h j (by omega))
    unfold dt_fst
    rw [if_pos h1, h n (by omega)]
    rfl
theorem dt_fst_yes {P : Nat → Bool} {i : Nat} : ∀ {n : Nat}, i < n → P i = true → (∀ j, j < i → P j = false) → dt_fst P n = (i : Int)
  | 0, h, _, _ => by omega
  | n + 1, h, h1, h2 => by
    unfold dt_fst
    by_cases hi : i = n
    · subst hi
      rw [if_pos (dt_fst_no h2), h1]
      rfl
    · have := dt_fst_yes (P := P) (n := n) (by omega) h1 h2
      rw [if_neg (by omega), this]
theorem dt_fst_sp (P : Nat → Bool) : ∀ (n : Nat), (dt_fst P n = -1 ∧ ∀ j, j < n → P j = false) ∨ ∃ i : Nat, i < n ∧ dt_fst P n = (i : Int) ∧ P i = true ∧ ∀ j, j < i → P j = false
  | 0 => Or.inl ⟨rfl, fun j h => by omega⟩
  | n + 1 => by
    rcases dt_fst_sp P n with ⟨h1, h2⟩ | ⟨i, h1, h2, h3, h4⟩
    · cases hp : P n with
      | true => exact Or.inr ⟨n, by omega, dt_fst_yes (by omega) hp h2, hp, h2⟩
      | false =>
        have : ∀ j, j < n + 1 → P j = false := fun j hj => by
          by_cases hj' : j = n
          · subst hj'; exact hp
          · exact h2 j (by omega)
        exact Or.inl ⟨dt_fst_no this, this⟩
    · exact Or.inr ⟨i, by omega, dt_fst_yes (by omega) h3 h4, h3, h4⟩
theorem dt_fst_cong {P R : Nat → Bool} : ∀ {n : Nat}, (∀ j, j < n → P j = R j) → dt_fst P n = dt_fst R n
  | 0, _ => rfl
  | n + 1, h => by
    unfold dt_fst
    rw [dt_fst_cong (P := P) (R := R) (n := n) (fun j hj => h j (by omega)), h n (by omega)]
/-- an open send -/
def tk_o (T : Nat → Nat → Int) (f t w : Int) (e : Nat) : Bool := decide (T 1 e = 0) && (decide (T 5 e = -1) && (decide (T 2 e = f) && (decide (T 3 e = t) && decide (T 4 e = w))))
theorem tk_o_t {T : Nat → Nat → Int} {f t w : Int} {e : Nat} : tk_o T f t w e = true ↔ T 1 e = 0 ∧ T 5 e = -1 ∧ T 2 e = f ∧ T 3 e = t ∧ T 4 e = w := by
  simp [tk_o]
theorem tk_o_f {T : Nat → Nat → Int} {f t w : Int} {e : Nat} : tk_o T f t w e = false ↔ ¬ (T 1 e = 0 ∧ T 5 e = -1 ∧ T 2 e = f ∧ T 3 e = t ∧ T 4 e = w) := by
  rw [← tk_o_t, Bool.not_eq_true]
/-- which event is waiting -/
def tk_w (T : Nat → Nat → Int) (f t w : Int) : Int := dt_fst (tk_o T f t w) (T 0 7).toNat
theorem c_empty (d : Nat) (k : Nat) (M : dt_M) : dt_Sp mX5_empty d [.inr (.inr (9, 9, k))] M (fun r M' => r = none ∧ tk_fr M M' k ∧ tk M' k 0 = dt_up (dt_up (tk M k 0) 7 0) 8 0 ∧ (∀ f, f ≠ 0 → f ≠ 6 → tk M' k f = tk M k f) ∧ ∀ p : Nat, p < 4 → tk M' k 6 p = 0) := by
  refine dt_meth okX5_empty (fun pc => pc == 12) 60 (σ := Int × dt_M) (fun _ => 12) (fun t => [some (.inr (.inr (9, 9, k))), some (.inl t.1)]) (fun t => t.2) (fun t => 0 ≤ t.1 ∧ t.1 ≤ 4 ∧ tk_fr M t.2 k ∧ tk t.2 k 0 = dt_up (dt_up (tk M k 0) 7 0) 8 0 ∧ (∀ f, f ≠ 0 → f ≠ 6 → tk t.2 k f = tk M k f) ∧ ∀ p : Nat, p < t.1 → tk t.2 k 6 p = 0) (fun t => (4 - t.1).toNat) (by decide) (Nat.le_of_ble_eq_true rfl) ?_ ?_
  · intro J hJ
    intro M1 h1 M2 h2
    refine hJ (0, M2) _ ⟨(by (try dsimp only at *); omega), (by (try dsimp only at *); omega), ?_, ?_, ?_, fun p hp => (by (try dsimp only at *); omega)⟩ ⟨rfl, rfl, trivial⟩
    · subst h1; subst h2; exact tk_wi0.tr tk_wi0
    · subst h1; subst h2; exact tk_at0.trans (by rw [tk_at0])
    · subst h1; subst h2; exact fun f hf _ => (tk_same0 hf).trans (tk_same0 hf)
  · rintro ⟨i, N⟩ ⟨h1, h2, h3, h4, h5, h6⟩ J hJ
    dsimp only at h1 h2 h3 h4 h5 h6 hJ
    refine And.intro (fun h => ?_) (fun h => ?_)
    · exact ⟨rfl, h3, h4, h5, fun p hp => h6 p (by (try dsimp only at *); omega)⟩
    · refine And.intro (by (try dsimp only at *); exact ⟨by omega, by omega⟩) ?_
      intro M1 hM1
      refine And.intro (by (try dsimp only at *); exact ⟨by omega, by omega⟩) ?_
      refine hJ (i + 1, M1) _ ⟨(by (try dsimp only at *); omega), (by (try dsimp only at *); omega), ?_, ?_, ?_, ?_⟩ (by (try dsimp only at *); omega) ⟨rfl, rfl, trivial⟩
      · subst hM1; exact h3.tr (tk_wi (f := 6) (by omega))
      · subst hM1; exact (tk_same (f := 6) (by omega)).trans h4
      · subst hM1; exact fun f a b => (tk_same (f := 6) b).trans (h5 f a b)
      · subst hM1
        intro p hp
        show tk (dt_wi N (k + 6) i.toNat 0) k 6 p = 0
        rw [tk_at (f := 6)]
        by_cases hq : p = i.toNat
        · subst hq; rw [dm_up1]
        · rw [dm_up2 hq]; exact h6 p (by (try dsimp only at *); omega)
theorem c_isWhole (d : Nat) (k : Nat) (M : dt_M) (h0 : -100 ≤ tk M k 0 8 ∧ tk M k 0 8 ≤ 100) : dt_Sp mX5_isWhole d [.inr (.inr (9, 9, k))] M (fun r M' => M' = M ∧ r = some (.inl (if tk M k 0 7 = 2 * tk M k 0 8 then 1 else 0))) := by
  refine dt_flat okX5_isWhole 40 (by decide) (Nat.le_of_ble_eq_true rfl) (fun J => ?_)
  have h1 : -100 ≤ M.1 k 8 ∧ M.1 k 8 ≤ 100 := h0
  refine And.intro ⟨by omega, by omega⟩ (And.intro (fun h => ?_) (fun h => ?_))
  · exact ⟨Or.inl rfl, rfl, by rw [if_neg (show ¬ tk M k 0 7 = 2 * tk M k 0 8 from h)]⟩
  · exact ⟨Or.inr rfl, rfl, by rw [if_pos (show tk M k 0 7 = 2 * tk M k 0 8 from h)]⟩
theorem c_onLine (d : Nat) (k : Nat) (p j : Int) (M : dt_M) (hl : ∀ q : Nat, q < 4 → tk M k 6 q ≤ 10) : dt_Sp mX5_onLine d [.inr (.inr (9, 9, k)), .inl p, .inl j] M (fun r M' => M' = M ∧ r = some (.inl (if 0 ≤ p ∧ p < 4 ∧ 0 ≤ j ∧ j < tk M k 6 p.toNat then tk M k 7 (p * 10 + j).toNat else -1))) := by
  refine dt_flat okX5_onLine 40 (by decide) (Nat.le_of_ble_eq_true rfl) (fun J => ?_)
  have hl' : ∀ q : Nat, q < 4 → M.1 (k + 6) q ≤ 10 := hl
  show _
  refine And.intro (fun h => ⟨rfl, by rw [if_neg (by omega)]⟩) (fun h => ?_)
  refine And.intro (fun h2 => ⟨rfl, by rw [if_neg (by omega)]⟩) (fun h2 => ?_)
  refine And.intro (fun h3 => ⟨rfl, by rw [if_neg (by omega)]⟩) (fun h3 => ?_)
  have := hl' p.toNat (by omega)
  refine And.intro ⟨by omega, by omega⟩ (And.intro (fun h4 => ?_) (fun h4 => ⟨rfl, by rw [if_neg (fun q => by have : j < M.1 (k + 6) p.toNat := q.2.2.2; omega)]⟩))
  refine And.intro ⟨by omega, by omega⟩ (And.intro ⟨by omega, by omega⟩ (And.intro ⟨by omega, by omega⟩ ⟨rfl, ?_⟩))
  rw [if_pos ⟨h, h2, h3, h4⟩]
  rfl
theorem c_firstWaiting (d k : Nat) (f t w : Int) (M : dt_M) (hn : 0 ≤ M.1 k 7 ∧ M.1 k 7 ≤ 20) : dt_Sp mX5_firstWaiting d [.inr (.inr (9, 9, k)), .inl f, .inl t, .inl w] M (fun r M' => M' = M ∧ r = some (.inl (tk_w (tk M k) f t w))) := by
  refine dt_meth okX5_firstWaiting (fun pc => pc == 3) 80 (σ := Int) (fun _ => 3) (fun e => [some (.inr (.inr (9, 9, k))), some (.inl f), some (.inl t), some (.inl w), some (.inl e)]) (fun _ => M) (fun e => 0 ≤ e ∧ e ≤ M.1 k 7 ∧ ∀ j : Nat, j < e → tk_o (tk M k) f t w j = false) (fun e => (20 - e).toNat) (by decide) (Nat.le_of_ble_eq_true rfl) ?_ ?_
  · intro J hJ
    exact hJ 0 _ ⟨by omega, by omega, fun j hj => by omega⟩ ⟨rfl, rfl, rfl, rfl, rfl, trivial⟩
  · rintro e ⟨h1, h2, h3⟩ J hJ
    have nx : e < M.1 k 7 → tk_o (tk M k) f t w e.toNat = false → ∀ lv, dt_le [some (.inr (.inr (9, 9, k))), some (.inl f), some (.inl t), some (.inl w), some (.inl (e + 1))] lv → J 3 lv [] M := fun a b lv hl => hJ (e + 1) lv ⟨by omega, by omega, fun j hj => by
      by_cases q : j = e.toNat
      · subst q; exact b
      · exact h3 j (by omega)⟩ (by omega) hl
    repeat' (first | apply And.intro | intro _)
    all_goals first | rfl | omega | exact nx (by omega) (tk_o_f.mpr (fun q => by simp only [tk] at q; omega)) _ ⟨rfl, rfl, rfl, rfl, rfl, trivial⟩ | skip
    · have : tk_w (tk M k) f t w = -1 := dt_fst_no (fun j hj => h3 j (by have : j < (M.1 k 7).toNat := hj; omega))
      rw [this]
    · have : tk_w (tk M k) f t w = ((e.toNat : Nat) : Int) := dt_fst_yes (by show e.toNat < (M.1 k 7).toNat; omega) (tk_o_t.mpr (by simp only [tk]; omega)) (fun j hj => h3 j (by omega))
      rw [this]
      congr 2
      omega
/-- an event is laid at the end: its rows but for take and mate -/
def tk_ad (T : Nat → Nat → Int) (p q w : Int) : Nat → Nat → Int := fun g => match g with
  | 0 => dt_up (T 0) 7 (T 0 7 + 1)
  | 2 => dt_up (T 2) (T 0 7).toNat p
  | 3 => dt_up (T 3) (T 0 7).toNat q
  | 4 => dt_up (T 4) (T 0 7).toNat w
  | 6 => dt_up (T 6) p.toNat (T 6 p.toNat + 1)
  | 7 => dt_up (T 7) (p * 10 + T 6 p.toNat).toNat (T 0 7)
  | g => T g
def tk_sd (T : Nat → Nat → Int) (f t w : Int) : Nat → Nat → Int := fun g => match g with
  | 0 => dt_up (dt_up (T 0) 7 (T 0 7 + 1)) 8 (T 0 8 + 1)
  | 1 => dt_up (T 1) (T 0 7).toNat 0
  | 5 => dt_up (T 5) (T 0 7).toNat (-1)
  | g => tk_ad T f t w g
def tk_tk (T : Nat → Nat → Int) (f t w e : Int) : Nat → Nat → Int := fun g => match g with
  | 1 => dt_up (T 1) (T 0 7).toNat 1
  | 5 => dt_up (dt_up (T 5) (T 0 7).toNat e) e.toNat (T 0 7)
  | g => tk_ad T t f w g
theorem c_add (d k : Nat) (p q w : Int) (M : dt_M) (hp : 0 ≤ p ∧ p < 4) (hq : 0 ≤ q ∧ q < 4) (hn : 0 ≤ M.1 k 7 ∧ M.1 k 7 < 20) (hl : 0 ≤ M.1 (k + 6) p.toNat ∧ M.1 (k + 6) p.toNat < 10) : dt_Sp mX5_add d [.inr (.inr (9, 9, k)), .inl p, .inl q, .inl w] M (fun r M' => r = some (.inl 1) ∧ tk_fr M M' k ∧ tk M' k = tk_ad (tk M k) p q w) := by
  refine dt_flat okX5_add 90 (by decide) (Nat.le_of_ble_eq_true rfl) (fun J => ?_)
  refine And.intro (fun h => absurd h (by omega)) (fun _ => ?_)
  refine And.intro (fun h => absurd h (by omega)) (fun _ => ?_)
  refine And.intro (fun h => absurd h (by omega)) (fun _ => ?_)
  refine And.intro (fun _ => ?_) (fun h => absurd h (by omega))
  refine And.intro (fun h => absurd h (by omega)) (fun _ => ?_)
  refine And.intro ⟨by omega, by omega⟩ (And.intro (fun _ => ?_) (fun h => absurd h (by omega)))
  refine And.intro ⟨by omega, by omega⟩ ?_
  intro M1 h1
  have a1 : ∀ x, M1.1 k x = M.1 k x := fun x => by rw [h1, dm_wi2 (by omega)]
  have b1 : ∀ x, M1.1 (k + 6) x = M.1 (k + 6) x := fun x => by rw [h1, dm_wi2 (by omega)]
  refine And.intro ⟨by rw [a1]; omega, by rw [a1]; omega⟩ ?_
  intro M2 h2
  have a2 : ∀ x, M2.1 k x = M.1 k x := fun x => by rw [h2, dm_wi2 (by omega), a1]
  have b2 : ∀ x, M2.1 (k + 6) x = M.1 (k + 6) x := fun x => by rw [h2, dm_wi2 (by omega), b1]
  refine And.intro ⟨by rw [a2]; omega, by rw [a2]; omega⟩ ?_
  intro M3 h3
  have a3 : ∀ x, M3.1 k x = M.1 k x := fun x => by rw [h3, dm_wi2 (by omega), a2]
  have b3 : ∀ x, M3.1 (k + 6) x = M.1 (k + 6) x := fun x => by rw [h3, dm_wi2 (by omega), b2]
  refine And.intro ⟨by omega, by omega⟩ (And.intro ⟨by omega, by omega⟩ (And.intro ⟨by rw [b3]; omega, by rw [b3]; omega⟩ (And.intro ⟨by rw [b3]; omega, by rw [b3]; omega⟩ ?_)))
  intro M4 h4
  have a4 : ∀ x, M4.1 k x = M.1 k x := fun x => by rw [h4, dm_wi2 (by omega), a3]
  have b4 : ∀ x, M4.1 (k + 6) x = M.1 (k + 6) x := fun x => by rw [h4, dm_wi2 (by omega), b3]
  refine And.intro ⟨by omega, by omega⟩ (And.intro ⟨by rw [b4]; omega, by rw [b4]; omega⟩ (And.intro ⟨by omega, by omega⟩ ?_))
  intro M5 h5
  have a5 : ∀ x, M5.1 k x = M.1 k x := fun x => by rw [h5, dm_wi2 (by omega), a4]
  refine And.intro ⟨by rw [a5]; omega, by rw [a5]; omega⟩ ?_
  intro M6 h6
  rw [a1] at h2
  rw [a2] at h3
  rw [a3, b3] at h4
  rw [b4] at h5
  rw [a5] at h6
  refine ⟨Or.inr rfl, rfl, ?_, ?_⟩
  · subst h1; subst h2; subst h3; subst h4; subst h5; subst h6
    exact (((((tk_wi (f := 2) (by omega)).tr (tk_wi (f := 3) (by omega))).tr (tk_wi (f := 4) (by omega))).tr (tk_wi (f := 7) (by omega))).tr (tk_wi (f := 6) (by omega))).tr tk_wi0
  · subst h1; subst h2; subst h3; subst h4; subst h5; subst h6
    funext g
    match g with
    | 0 => rw [tk_at0, tk_same (f := 6) (by omega), tk_same (f := 7) (by omega), tk_same (f := 4) (by omega), tk_same (f := 3) (by omega), tk_same (f := 2) (by omega)]; rfl
    | 1 => rw [tk_same0 (by omega), tk_same (f := 6) (by omega), tk_same (f := 7) (by omega), tk_same (f := 4) (by omega), tk_same (f := 3) (by omega), tk_same (f := 2) (by omega)]; rfl
    | 2 => rw [tk_same0 (by omega), tk_same (f := 6) (by omega), tk_same (f := 7) (by omega), tk_same (f := 4) (by omega), tk_same (f := 3) (by omega), tk_at (f := 2)]; rfl
    | 3 => rw [tk_same0 (by omega), tk_same (f := 6) (by omega), tk_same (f := 7) (by omega), tk_same (f := 4) (by omega), tk_at (f := 3), tk_same (f := 2) (by omega)]; rfl
    | 4 => rw [tk_same0 (by omega), tk_same (f := 6) (by omega), tk_same (f := 7) (by omega), tk_at (f := 4), tk_same (f := 3) (by omega), tk_same (f := 2) (by omega)]; rfl
    | 5 => rw [tk_same0 (by omega), tk_same (f := 6) (by omega), tk_same (f := 7) (by omega), tk_same (f := 4) (by omega), tk_same (f := 3) (by omega), tk_same (f := 2) (by omega)]; rfl
    | 6 => rw [tk_same0 (by omega), tk_at (f := 6), tk_same (f := 7) (by omega), tk_same (f := 4) (by omega), tk_same (f := 3) (by omega), tk_same (f := 2) (by omega)]; rfl
    | 7 => rw [tk_same0 (by omega), tk_same (f := 6) (by omega), tk_at (f := 7), tk_same (f := 4) (by omega), tk_same (f := 3) (by omega), tk_same (f := 2) (by omega)]; rfl
    | g + 8 => rw [tk_same0 (by omega), tk_same (f := 6) (by omega), tk_same (f := 7) (by omega), tk_same (f := 4) (by omega), tk_same (f := 3) (by omega), tk_same (f := 2) (by omega)]; rfl
theorem c_addSend (d k : Nat) (f t w : Int) (M : dt_M) (hp : 0 ≤ f ∧ f < 4) (hq : 0 ≤ t ∧ t < 4) (hn : 0 ≤ M.1 k 7 ∧ M.1 k 7 < 20) (hs : 0 ≤ M.1 k 8 ∧ M.1 k 8 < 10) (hl : 0 ≤ M.1 (k + 6) f.toNat ∧ M.1 (k + 6) f.toNat < 10) : dt_Sp mX5_addSend (d + 1) [.inr (.inr (9, 9, k)), .inl f, .inl t, .inl w] M (fun r M' => r = none ∧ tk_fr M M' k ∧ tk M' k = tk_sd (tk M k) f t w) := by
  refine dt_flat okX5_addSend 60 (by decide) (Nat.le_of_ble_eq_true rfl) (fun J => ?_)
  refine And.intro (fun h => absurd h (by omega)) (fun _ => ?_)
  refine Exists.intro _ (And.intro (c_add d k f t w M hp hq hn hl) ?_)
  rintro r M1 ⟨rfl, g1, g2⟩
  have e0 : ∀ g x, M1.1 (k + g) x = tk_ad (tk M k) f t w g x := fun g x => congrFun (congrFun g2 g) x
  have a1 : M1.1 k 7 = M.1 k 7 + 1 := (e0 0 7).trans rfl
  have a2 : M1.1 k 8 = M.1 k 8 := (e0 0 8).trans rfl
  refine And.intro (fun h => absurd h (by decide)) (fun _ => ?_)
  refine And.intro ⟨by rw [a1]; omega, by rw [a1]; omega⟩ (And.intro ⟨by rw [a1]; omega, by rw [a1]; omega⟩ (And.intro (Or.inl rfl) ?_))
  intro M2 h2
  have c1 : M2.1 k 7 = M.1 k 7 + 1 := by rw [h2, dm_wi2 (by omega), a1]
  have c2 : M2.1 k 8 = M.1 k 8 := by rw [h2, dm_wi2 (by omega), a2]
  refine And.intro ⟨by rw [c1]; omega, by rw [c1]; omega⟩ (And.intro ⟨by rw [c1]; omega, by rw [c1]; omega⟩ ?_)
  intro M3 h3
  have d2 : M3.1 k 8 = M.1 k 8 := by rw [h3, dm_wi2 (by omega), c2]
  refine And.intro ⟨by rw [d2]; omega, by rw [d2]; omega⟩ ?_
  intro M4 h4
  rw [a1] at h2
  rw [c1] at h3
  rw [d2] at h4
  have e7 : (M.1 k 7 + 1 - 1).toNat = (M.1 k 7).toNat := by omega
  rw [e7] at h2 h3
  refine ⟨rfl, ?_, ?_⟩
  · subst h2; subst h3; subst h4
    exact ((g1.tr (tk_wi (f := 1) (by omega))).tr (tk_wi (f := 5) (by omega))).tr tk_wi0
  · subst h2; subst h3; subst h4
    funext g
    match g with
    | 0 => rw [tk_at0, tk_same (f := 5) (by omega), tk_same (f := 1) (by omega), g2]; rfl
    | 1 => rw [tk_same0 (by omega), tk_same (f := 5) (by omega), tk_at (f := 1), g2]; rfl
    | 2 => rw [tk_same0 (by omega), tk_same (f := 5) (by omega), tk_same (f := 1) (by omega), g2]; rfl
    | 3 => rw [tk_same0 (by omega), tk_same (f := 5) (by omega), tk_same (f := 1) (by omega), g2]; rfl
    | 4 => rw [tk_same0 (by omega), tk_same (f := 5) (by omega), tk_same (f := 1) (by omega), g2]; rfl
    | 5 => rw [tk_same0 (by omega), tk_at (f := 5), tk_same (f := 1) (by omega), g2]; rfl
    | g + 6 => rw [tk_same0 (by omega), tk_same (f := 5) (by omega), tk_same (f := 1) (by omega), g2]; rfl
theorem c_addTake (d k : Nat) (f t w : Int) (M : dt_M) (hp : 0 ≤ f ∧ f < 4) (hq : 0 ≤ t ∧ t < 4) (hn : 0 ≤ M.1 k 7 ∧ M.1 k 7 < 20) (hl : 0 ≤ M.1 (k + 6) t.toNat ∧ M.1 (k + 6) t.toNat < 10) (hw : tk_w (tk M k) f t w ≠ -1) : dt_Sp mX5_addTake (d + 1) [.inr (.inr (9, 9, k)), .inl f, .inl t, .inl w] M (fun r M' => r = none ∧ tk_fr M M' k ∧ tk M' k = tk_tk (tk M k) f t w (tk_w (tk M k) f t w)) := by
  have hwb : 0 ≤ tk_w (tk M k) f t w ∧ tk_w (tk M k) f t w < M.1 k 7 := by
    rcases dt_fst_sp (tk_o (tk M k) f t w) (tk M k 0 7).toNat with ⟨h, -⟩ | ⟨i, h1, h2, -⟩
    · exact absurd h hw
    · have e : tk_w (tk M k) f t w = (i : Int) := h2
      have e2 : i < (M.1 k 7).toNat := h1
      omega
  refine dt_flat okX5_addTake 70 (by decide) (Nat.le_of_ble_eq_true rfl) (fun J => ?_)
  refine Exists.intro _ (And.intro (c_firstWaiting d k f t w M (by omega)) ?_)
  rintro r M0 ⟨rfl, rfl⟩
  generalize he : tk_w (tk M0 k) f t w = e at hw hwb ⊢
  refine And.intro (fun h => absurd h hw) (fun _ => ?_)
  refine Exists.intro _ (And.intro (c_add d k t f w M0 hq hp hn hl) ?_)
  rintro r M1 ⟨rfl, g1, g2⟩
  have e0 : ∀ g x, M1.1 (k + g) x = tk_ad (tk M0 k) t f w g x := fun g x => congrFun (congrFun g2 g) x
  have a1 : M1.1 k 7 = M0.1 k 7 + 1 := (e0 0 7).trans rfl
  refine And.intro (fun h => absurd h (by decide)) (fun _ => ?_)
  refine And.intro ⟨by rw [a1]; omega, by rw [a1]; omega⟩ (And.intro ⟨by rw [a1]; omega, by rw [a1]; omega⟩ (And.intro (Or.inr rfl) ?_))
  intro M2 h2
  have c1 : M2.1 k 7 = M0.1 k 7 + 1 := by rw [h2, dm_wi2 (by omega), a1]
  refine And.intro ⟨by rw [c1]; omega, by rw [c1]; omega⟩ (And.intro ⟨by rw [c1]; omega, by rw [c1]; omega⟩ ?_)
  intro M3 h3
  have d1 : M3.1 k 7 = M0.1 k 7 + 1 := by rw [h3, dm_wi2 (by omega), c1]
  refine And.intro ⟨by rw [d1]; omega, by rw [d1]; omega⟩ (And.intro ⟨by omega, by omega⟩ ?_)
  intro M4 h4
  rw [a1] at h2
  rw [c1] at h3
  rw [d1] at h4
  have e7 : (M0.1 k 7 + 1 - 1).toNat = (M0.1 k 7).toNat := by omega
  have e8 : M0.1 k 7 + 1 - 1 = M0.1 k 7 := by omega
  rw [e7] at h2 h3
  rw [e8] at h4
  refine ⟨rfl, ?_, ?_⟩
  · subst h2; subst h3; subst h4
    exact ((g1.tr (tk_wi (f := 1) (by omega))).tr (tk_wi (f := 5) (by omega))).tr (tk_wi (f := 5) (by omega))
  · subst h2; subst h3; subst h4
    funext g
    match g with
    | 0 => rw [tk_same (f := 5) (by omega), tk_same (f := 5) (by omega), tk_same (f := 1) (by omega), g2]; rfl
    | 1 => rw [tk_same (f := 5) (by omega), tk_same (f := 5) (by omega), tk_at (f := 1), g2]; rfl
    | 2 => rw [tk_same (f := 5) (by omega), tk_same (f := 5) (by omega), tk_same (f := 1) (by omega), g2]; rfl
    | 3 => rw [tk_same (f := 5) (by omega), tk_same (f := 5) (by omega), tk_same (f := 1) (by omega), g2]; rfl
    | 4 => rw [tk_same (f := 5) (by omega), tk_same (f := 5) (by omega), tk_same (f := 1) (by omega), g2]; rfl
    | 5 => rw [tk_at (f := 5), tk_at (f := 5), tk_same (f := 1) (by omega), g2]; rfl
    | g + 6 => rw [tk_same (f := 5) (by omega), tk_same (f := 5) (by omega), tk_same (f := 1) (by omega), g2]; rfl
