/-! ===== races ===== -/
noncomputable def rcI (Q : Nat → Nat → Prop) (k : Int) (e : Nat) (s : Int × Int) : Nat → Int × Int
  | 0 => s
  | f + 1 => @ite _ (e < f ∧ Q e f) (Classical.propDecidable _) ((rcI Q k e s f).1 + 1, if (rcI Q k e s f).1 = k then 32 * (e : Int) + f else (rcI Q k e s f).2) (rcI Q k e s f)
noncomputable def rcO (Q : Nat → Nat → Prop) (k : Int) (n : Nat) : Nat → Int × Int
  | 0 => (0, -1)
  | e + 1 => rcI Q k e (rcO Q k n e) n
theorem rcI_y {Q : Nat → Nat → Prop} {k : Int} {e f : Nat} {s : Int × Int} (h : e < f ∧ Q e f) : rcI Q k e s (f + 1) = ((rcI Q k e s f).1 + 1, if (rcI Q k e s f).1 = k then 32 * (e : Int) + f else (rcI Q k e s f).2) := if_pos h
theorem rcI_n {Q : Nat → Nat → Prop} {k : Int} {e f : Nat} {s : Int × Int} (h : ¬ (e < f ∧ Q e f)) : rcI Q k e s (f + 1) = rcI Q k e s f := if_neg h
theorem rcI_0 {Q : Nat → Nat → Prop} {k : Int} {e : Nat} {s : Int × Int} : ∀ {f : Nat}, f ≤ e + 1 → rcI Q k e s f = s
  | 0, _ => rfl
  | f + 1, h => (rcI_n (by omega)).trans (rcI_0 (by omega))
theorem rcI_bd {Q : Nat → Nat → Prop} {k : Int} {e : Nat} {s : Int × Int} : ∀ (f : Nat), s.1 ≤ (rcI Q k e s f).1 ∧ (rcI Q k e s f).1 ≤ s.1 + f
  | 0 => by show s.1 ≤ s.1 ∧ s.1 ≤ s.1 + 0; omega
  | f + 1 => by
    have := rcI_bd (Q := Q) (k := k) (e := e) (s := s) f
    by_cases h : e < f ∧ Q e f
    · rw [rcI_y h]; dsimp only; omega
    · rw [rcI_n h]; omega
theorem rcO_bd {Q : Nat → Nat → Prop} {k : Int} {n : Nat} (hn : n ≤ 20) : ∀ (e : Nat), 0 ≤ (rcO Q k n e).1 ∧ (rcO Q k n e).1 ≤ 20 * e
  | 0 => by show (0 : Int) ≤ 0 ∧ (0 : Int) ≤ 20 * 0; omega
  | e + 1 => by
    have h1 := rcO_bd (Q := Q) (k := k) hn e
    have h2 := rcI_bd (Q := Q) (k := k) (e := e) (s := rcO Q k n e) n
    show 0 ≤ (rcI Q k e (rcO Q k n e) n).1 ∧ (rcI Q k e (rcO Q k n e) n).1 ≤ _
    omega
theorem rcI_st {Q : Nat → Nat → Prop} {k : Int} {e f : Nat} {s : Int × Int} (h : k < (rcI Q k e s f).1) : ∀ (g : Nat), f ≤ g → k < (rcI Q k e s g).1 ∧ (rcI Q k e s g).2 = (rcI Q k e s f).2
  | 0, hg => by have : f = 0 := by omega
                subst this; exact ⟨h, rfl⟩
  | g + 1, hg => by
    by_cases hf : f = g + 1
    · subst hf; exact ⟨h, rfl⟩
    · obtain ⟨i1, i2⟩ := rcI_st h g (by omega)
      by_cases hq : e < g ∧ Q e g
      · rw [rcI_y hq]
        dsimp only
        rw [if_neg (by omega)]
        exact ⟨by omega, i2⟩
      · rw [rcI_n hq]; exact ⟨i1, i2⟩
theorem rcO_st {Q : Nat → Nat → Prop} {k : Int} {n e : Nat} (h : k < (rcO Q k n e).1) : ∀ (g : Nat), e ≤ g → k < (rcO Q k n g).1 ∧ (rcO Q k n g).2 = (rcO Q k n e).2
  | 0, hg => by have : e = 0 := by omega
                subst this; exact ⟨h, rfl⟩
  | g + 1, hg => by
    by_cases hf : e = g + 1
    · subst hf; exact ⟨h, rfl⟩
    · obtain ⟨i1, i2⟩ := rcO_st h g (by omega)
      obtain ⟨j1, j2⟩ := rcI_st (Q := Q) (k := k) (e := g) (f := 0) (s := rcO Q k n g) i1 n (by omega)
      exact ⟨j1, j2.trans i2⟩
def rcQ (T : Nat → Nat → Int) (n : Nat) (w : Int) (e f : Nat) : Prop := T 2 e = T 2 f ∧ ¬ KR T n w e f
noncomputable def drw (T : Nat → Nat → Nat → Int) (w i e f : Int) : Int := @ite _ ((0 ≤ i ∧ i < 4) ∧ (0 ≤ e ∧ e < T i.toNat 0 7) ∧ (0 ≤ f ∧ f < T i.toNat 0 7)) (Classical.propDecidable _) (@ite _ (KR (T i.toNat) (T i.toNat 0 7).toNat w e.toNat f.toNat) (Classical.propDecidable _) 1 0) (-1)
noncomputable def rcA (T : Nat → Nat → Nat → Int) (w i k : Int) : Int := if (0 ≤ i ∧ i < 4) ∧ (0 ≤ w ∧ w ≤ 2) ∧ -1 ≤ k then (if k = -1 then (rcO (rcQ (T i.toNat) (T i.toNat 0 7).toNat w) k (T i.toNat 0 7).toNat (T i.toNat 0 7).toNat).1 else (rcO (rcQ (T i.toNat) (T i.toNat 0 7).toNat w) k (T i.toNat 0 7).toNat (T i.toNat 0 7).toNat).2) else -1
def cT (M : dt_M) (i : Nat) : Nat → Nat → Int := tk M (2 + 8 * i)
theorem c_isRace (d k n s e f : Nat) (w : Int) (M : dt_M) (hV : tV (tk M k) n s) (he : e < n) (hf : f < n) (hA : ∀ g, g < n → ∀ x, x < 20 → (dt_bit (M.1 45 g) x ↔ KR (tk M k) n w x g)) : dt_Sp mX4_isRace (d + 1) [qR, qT k, .inl e, .inl f] M (fun r M' => M' = M ∧ ((r = some (.inl 1) ∧ rcQ (tk M k) n w e f) ∨ (r = some (.inl 0) ∧ ¬ rcQ (tk M k) n w e f))) := by
  have hn : n ≤ 20 := by have := hV.1.1; omega
  have ef : (f : Int).toNat = f := by omega
  have ee : (e : Int).toNat = e := by omega
  refine dt_flat okX4_isRace 60 (by decide) (Nat.le_of_ble_eq_true rfl) (fun J => ?_)
  (repeat (first | refine And.intro ⟨by (try dsimp only); omega, by (try dsimp only); omega⟩ ?_ | refine And.intro (Or.inl rfl) ?_ | refine And.intro (Or.inr rfl) ?_))
  rw [ee, ef]
  refine And.intro (fun h => ⟨Or.inl rfl, rfl, Or.inr ⟨rfl, fun q => h q.1⟩⟩) (fun h => ?_)
  refine Exists.intro _ (And.intro (c_isAhead _ e f M (by omega) (by omega)) ?_)
  rintro r M0 ⟨rfl, (⟨rfl, g⟩ | ⟨rfl, g⟩)⟩
  · exact And.intro (fun _ => ⟨Or.inl rfl, rfl, Or.inr ⟨rfl, fun q => q.2 ((hA f hf e (by omega)).mp g)⟩⟩) (fun q => absurd (show (1 : Int) = 0 from q) (by decide))
  · exact And.intro (fun q => absurd (show (0 : Int) = 0 from rfl) q) (fun _ => ⟨Or.inr rfl, rfl, Or.inl ⟨rfl, h, fun q => g ((hA f hf e (by omega)).mpr q)⟩⟩)
theorem c_howManyRaces (d k n s : Nat) (w : Int) (M : dt_M) (hV : tV (tk M k) n s) (hA : ∀ g, g < n → ∀ x, x < 20 → (dt_bit (M.1 45 g) x ↔ KR (tk M k) n w x g)) : dt_Sp mX4_howManyRaces (d + 2) [qR, qT k] M (fun r M' => M' = M ∧ r = some (.inl (rcO (rcQ (tk M k) n w) (-1) n n).1)) := by
  have hn : n ≤ 20 := by have := hV.1.1; omega
  have e7 : M.1 k 7 = (n : Int) := hV.1.1.1
  refine dt_meth okX4_howManyRaces (fun pc => pc == 4 || pc == 17) 80 (σ := Nat × Nat × Nat) (fun t => h3 t.1 4 17 17) (fun t => [some qR, some (qT k), some (.inl (h3 t.1 (rcO (rcQ (tk M k) n w) (-1) n t.2.1).1 (rcI (rcQ (tk M k) n w) (-1) t.2.1 (rcO (rcQ (tk M k) n w) (-1) n t.2.1) t.2.2).1 0)), some (.inl t.2.1), h3 t.1 none (some (.inl t.2.2)) none]) (fun t => M) (fun t => t.1 < 2 ∧ (t.1 = 0 → t.2.1 ≤ n) ∧ (t.1 = 1 → t.2.1 < n ∧ t.2.1 < t.2.2 ∧ t.2.2 ≤ n)) (fun t => (n - t.2.1) * 50 + h3 t.1 49 (n - t.2.2) 0) (by decide) (Nat.le_of_ble_eq_true rfl) ?_ ?_
  · intro J hJ
    exact hJ (0, 0, 0) _ ⟨by decide, fun _ => Nat.zero_le _, fun q => (by cases q)⟩ ⟨rfl, rfl, rfl, rfl, trivial⟩
  · rintro ⟨hd, e, f⟩ ⟨h1, i0, i1⟩ J hJ
    dsimp only at h1 i0 i1 hJ
    have bo := rcO_bd (Q := rcQ (tk M k) n w) (k := -1) hn e
    match hd, h1, i0, i1 with
    | 0, _, i0, _ =>
      have he := i0 rfl
      refine And.intro (fun h => ?_) (fun h => ?_)
      · have hh : M.1 k 7 ≤ (e : Int) := h
        have : e = n := by omega
        subst this
        exact ⟨rfl, rfl⟩
      · have hh : (e : Int) < M.1 k 7 := h
        exact And.intro ⟨by (try dsimp only); omega, by (try dsimp only); omega⟩ (hJ (1, e, e + 1) _ ⟨by dsimp only; omega, fun q => (by cases q), fun _ => ⟨by dsimp only; omega, by dsimp only; omega, by dsimp only; omega⟩⟩ (by dsimp only [h3]; omega) ⟨rfl, rfl, congrArg Sum.inl (congrArg Prod.fst (rcI_0 (Nat.le_refl _))), rfl, rfl, trivial⟩)
    | 1, _, _, i1 =>
      obtain ⟨he, k2, k3⟩ := i1 rfl
      have bi := rcI_bd (Q := rcQ (tk M k) n w) (k := -1) (e := e) (s := rcO (rcQ (tk M k) n w) (-1) n e) f
      refine And.intro (fun h => ?_) (fun h => ?_)
      · have hh : M.1 k 7 ≤ (f : Int) := h
        have : f = n := by omega
        subst this
        exact And.intro ⟨by (try dsimp only); omega, by (try dsimp only); omega⟩ (hJ (0, e + 1, 0) _ ⟨by dsimp only; omega, fun _ => by dsimp only; omega, fun q => (by cases q)⟩ (by dsimp only [h3]; omega) ⟨rfl, rfl, rfl, rfl, trivial⟩)
      · have hh : (f : Int) < M.1 k 7 := h
        have hf : f < n := by omega
        refine Exists.intro _ (And.intro (c_isRace _ k n s e f w M hV he hf hA) ?_)
        rintro r M0 ⟨rfl, (⟨rfl, g⟩ | ⟨rfl, g⟩)⟩
        · refine And.intro (fun q => absurd (show (1 : Int) = 0 from q) (by decide)) (fun _ => ?_)
          refine And.intro ⟨by (dsimp only [h3]; omega), by (dsimp only [h3]; omega)⟩ (And.intro ⟨by (try dsimp only); omega, by (try dsimp only); omega⟩ (hJ (1, e, f + 1) _ ⟨by dsimp only; omega, fun q => (by cases q), fun _ => ⟨he, by dsimp only; omega, by dsimp only; omega⟩⟩ (by dsimp only [h3]; omega) ⟨rfl, rfl, ?_, rfl, rfl, trivial⟩))
          exact congrArg Sum.inl (congrArg Prod.fst (rcI_y ⟨k2, g⟩))
        · refine And.intro (fun _ => ?_) (fun q => absurd (show (0 : Int) = 0 from rfl) q)
          refine And.intro ⟨by (try dsimp only); omega, by (try dsimp only); omega⟩ (hJ (1, e, f + 1) _ ⟨by dsimp only; omega, fun q => (by cases q), fun _ => ⟨he, by dsimp only; omega, by dsimp only; omega⟩⟩ (by dsimp only [h3]; omega) ⟨rfl, rfl, ?_, rfl, rfl, trivial⟩)
          exact congrArg Sum.inl (congrArg Prod.fst (rcI_n (fun q => g q.2)))
    | hd + 2, h, _, _ => exact absurd h (by omega)
theorem c_raceAt (d k n s : Nat) (w kk : Int) (M : dt_M) (hkk : 0 ≤ kk) (hV : tV (tk M k) n s) (hA : ∀ g, g < n → ∀ x, x < 20 → (dt_bit (M.1 45 g) x ↔ KR (tk M k) n w x g)) : dt_Sp mX4_raceAt (d + 2) [qR, qT k, .inl kk] M (fun r M' => M' = M ∧ r = some (.inl (rcO (rcQ (tk M k) n w) kk n n).2)) := by
  have hn : n ≤ 20 := by have := hV.1.1; omega
  have e7 : M.1 k 7 = (n : Int) := hV.1.1.1
  refine dt_meth okX4_raceAt (fun pc => pc == 5 || pc == 20) 80 (σ := Nat × Nat × Nat) (fun t => h3 t.1 5 20 20) (fun t => [some qR, some (qT k), some (.inl kk), some (.inl (h3 t.1 (rcO (rcQ (tk M k) n w) kk n t.2.1).1 (rcI (rcQ (tk M k) n w) kk t.2.1 (rcO (rcQ (tk M k) n w) kk n t.2.1) t.2.2).1 0)), some (.inl t.2.1), h3 t.1 none (some (.inl t.2.2)) none]) (fun t => M) (fun t => t.1 < 2 ∧ (t.1 = 0 → t.2.1 ≤ n ∧ (rcO (rcQ (tk M k) n w) kk n t.2.1).1 ≤ kk ∧ (rcO (rcQ (tk M k) n w) kk n t.2.1).2 = -1) ∧ (t.1 = 1 → t.2.1 < n ∧ t.2.1 < t.2.2 ∧ t.2.2 ≤ n ∧ (rcI (rcQ (tk M k) n w) kk t.2.1 (rcO (rcQ (tk M k) n w) kk n t.2.1) t.2.2).1 ≤ kk ∧ (rcI (rcQ (tk M k) n w) kk t.2.1 (rcO (rcQ (tk M k) n w) kk n t.2.1) t.2.2).2 = -1)) (fun t => (n - t.2.1) * 50 + h3 t.1 49 (n - t.2.2) 0) (by decide) (Nat.le_of_ble_eq_true rfl) ?_ ?_
  · intro J hJ
    exact hJ (0, 0, 0) _ ⟨by decide, fun _ => ⟨Nat.zero_le _, hkk, rfl⟩, fun q => (by cases q)⟩ ⟨rfl, rfl, rfl, rfl, rfl, trivial⟩
  · rintro ⟨hd, e, f⟩ ⟨h1, i0, i1⟩ J hJ
    dsimp only at h1 i0 i1 hJ
    have bo := rcO_bd (Q := rcQ (tk M k) n w) (k := kk) hn e
    match hd, h1, i0, i1 with
    | 0, _, i0, _ =>
      obtain ⟨he, l1, l2⟩ := i0 rfl
      refine And.intro (fun h => ?_) (fun h => ?_)
      · have hh : M.1 k 7 ≤ (e : Int) := h
        have : e = n := by omega
        subst this
        exact ⟨rfl, by rw [l2]⟩
      · have hh : (e : Int) < M.1 k 7 := h
        have z := rcI_0 (Q := rcQ (tk M k) n w) (k := kk) (e := e) (s := rcO (rcQ (tk M k) n w) kk n e) (f := e + 1) (by omega)
        refine And.intro ⟨by (try dsimp only); omega, by (try dsimp only); omega⟩ (hJ (1, e, e + 1) _ ⟨by dsimp only; omega, fun q => (by cases q), fun _ => ⟨by dsimp only; omega, by dsimp only; omega, by dsimp only; omega, ?_, ?_⟩⟩ (by dsimp only [h3]; omega) ⟨rfl, rfl, rfl, congrArg Sum.inl (congrArg Prod.fst (rcI_0 (Nat.le_refl _))), rfl, rfl, trivial⟩)
        · dsimp only; rw [z]; exact l1
        · dsimp only; rw [z]; exact l2
    | 1, _, _, i1 =>
      obtain ⟨he, k2, k3, l1, l2⟩ := i1 rfl
      have bi := rcI_bd (Q := rcQ (tk M k) n w) (k := kk) (e := e) (s := rcO (rcQ (tk M k) n w) kk n e) f
      refine And.intro (fun h => ?_) (fun h => ?_)
      · have hh : M.1 k 7 ≤ (f : Int) := h
        have : f = n := by omega
        subst this
        exact And.intro ⟨by (try dsimp only); omega, by (try dsimp only); omega⟩ (hJ (0, e + 1, 0) _ ⟨by dsimp only; omega, fun _ => ⟨by dsimp only; omega, l1, l2⟩, fun q => (by cases q)⟩ (by dsimp only [h3]; omega) ⟨rfl, rfl, rfl, rfl, rfl, trivial⟩)
      · have hh : (f : Int) < M.1 k 7 := h
        have hf : f < n := by omega
        refine Exists.intro _ (And.intro (c_isRace _ k n s e f w M hV he hf hA) ?_)
        rintro r M0 ⟨rfl, (⟨rfl, g⟩ | ⟨rfl, g⟩)⟩
        · have zy := rcI_y (Q := rcQ (tk M0 k) n w) (k := kk) (e := e) (f := f) (s := rcO (rcQ (tk M0 k) n w) kk n e) ⟨k2, g⟩
          refine And.intro (fun q => absurd (show (1 : Int) = 0 from q) (by decide)) (fun _ => ?_)
          refine And.intro (fun z => ?_) (fun z => ?_)
          · have z' : ¬ (rcI (rcQ (tk M0 k) n w) kk e (rcO (rcQ (tk M0 k) n w) kk n e) f).1 = kk := z
            refine And.intro ⟨by (dsimp only [h3]; omega), by (dsimp only [h3]; omega)⟩ (And.intro ⟨by (try dsimp only); omega, by (try dsimp only); omega⟩ (hJ (1, e, f + 1) _ ⟨by dsimp only; omega, fun q => (by cases q), fun _ => ⟨he, by dsimp only; omega, by dsimp only; omega, ?_, ?_⟩⟩ (by dsimp only [h3]; omega) ⟨rfl, rfl, rfl, ?_, rfl, rfl, trivial⟩))
            · dsimp only; rw [zy]; dsimp only; omega
            · dsimp only; rw [zy]; dsimp only; rw [if_neg z']; exact l2
            · exact congrArg Sum.inl (congrArg Prod.fst zy)
          · have z' : (rcI (rcQ (tk M0 k) n w) kk e (rcO (rcQ (tk M0 k) n w) kk n e) f).1 = kk := z
            (repeat (first | refine And.intro ⟨by (try dsimp only); omega, by (try dsimp only); omega⟩ ?_ | refine And.intro (Or.inl rfl) ?_ | refine And.intro (Or.inr rfl) ?_))
            refine ⟨rfl, ?_⟩
            have y1 : kk < (rcI (rcQ (tk M0 k) n w) kk e (rcO (rcQ (tk M0 k) n w) kk n e) (f + 1)).1 := by rw [zy]; dsimp only; omega
            obtain ⟨y2, y3⟩ := rcI_st y1 n (by omega)
            obtain ⟨y4, y5⟩ := rcO_st (Q := rcQ (tk M0 k) n w) (k := kk) (n := n) (e := e + 1) y2 n (by omega)
            rw [y5]
            show _ = some (Sum.inl (rcI (rcQ (tk M0 k) n w) kk e (rcO (rcQ (tk M0 k) n w) kk n e) n).2)
            rw [y3, zy]
            dsimp only
            rw [if_pos z']
        · have zn := rcI_n (Q := rcQ (tk M0 k) n w) (k := kk) (e := e) (f := f) (s := rcO (rcQ (tk M0 k) n w) kk n e) (fun q => g q.2)
          refine And.intro (fun _ => ?_) (fun q => absurd (show (0 : Int) = 0 from rfl) q)
          refine And.intro ⟨by (try dsimp only); omega, by (try dsimp only); omega⟩ (hJ (1, e, f + 1) _ ⟨by dsimp only; omega, fun q => (by cases q), fun _ => ⟨he, by dsimp only; omega, by dsimp only; omega, ?_, ?_⟩⟩ (by dsimp only [h3]; omega) ⟨rfl, rfl, rfl, ?_, rfl, rfl, trivial⟩)
          · dsimp only; rw [zn]; exact l1
          · dsimp only; rw [zn]; exact l2
          · exact congrArg Sum.inl (congrArg Prod.fst zn)
    | hd + 2, h, _, _ => exact absurd h (by omega)
