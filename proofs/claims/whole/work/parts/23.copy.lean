/-! ===== talks that agree; replaying ===== -/
def tk_eq (n : Nat) (A B : Nat → Nat → Int) : Prop := A 0 7 = B 0 7 ∧ A 0 8 = B 0 8 ∧ (∀ g, 1 ≤ g → g ≤ 5 → ∀ j, j < n → A g j = B g j) ∧ (∀ p : Nat, p < 4 → A 6 p = B 6 p) ∧ ∀ p : Nat, p < 4 → ∀ j : Nat, (j : Int) < A 6 p → A 7 (p * 10 + j) = B 7 (p * 10 + j)
theorem tk_eq.rf {n : Nat} {A : Nat → Nat → Int} : tk_eq n A A := ⟨rfl, rfl, fun _ _ _ _ _ => rfl, fun _ _ => rfl, fun _ _ _ _ => rfl⟩
theorem tk_eq.sm {n : Nat} {A B : Nat → Nat → Int} (h : tk_eq n A B) : tk_eq n B A := ⟨h.1.symm, h.2.1.symm, fun g a b j hj => (h.2.2.1 g a b j hj).symm, fun p hp => (h.2.2.2.1 p hp).symm, fun p hp j hj => (h.2.2.2.2 p hp j (by rw [h.2.2.2.1 p hp]; exact hj)).symm⟩
theorem tk_eq.tr {n : Nat} {A B C : Nat → Nat → Int} (h : tk_eq n A B) (k : tk_eq n B C) : tk_eq n A C := ⟨h.1.trans k.1, h.2.1.trans k.2.1, fun g a b j hj => (h.2.2.1 g a b j hj).trans (k.2.2.1 g a b j hj), fun p hp => (h.2.2.2.1 p hp).trans (k.2.2.2.1 p hp), fun p hp j hj => (h.2.2.2.2 p hp j hj).trans (k.2.2.2.2 p hp j (by rw [← h.2.2.2.1 p hp]; exact hj))⟩
theorem tk_eq_o {n : Nat} {A B : Nat → Nat → Int} (h : tk_eq n A B) (f t w : Int) {j : Nat} (hj : j < n) : tk_o A f t w j = tk_o B f t w j := by
  unfold tk_o
  rw [h.2.2.1 1 (by omega) (by omega) j hj, h.2.2.1 2 (by omega) (by omega) j hj, h.2.2.1 3 (by omega) (by omega) j hj, h.2.2.1 4 (by omega) (by omega) j hj, h.2.2.1 5 (by omega) (by omega) j hj]
theorem tk_eq_w {n : Nat} {A B : Nat → Nat → Int} (h : tk_eq n A B) (hn : A 0 7 = (n : Int)) (f t w : Int) : tk_w A f t w = tk_w B f t w := by
  unfold tk_w
  rw [← h.1]
  exact dt_fst_cong (fun j hj => tk_eq_o h f t w (by omega))
theorem up_eq {f g : Nat → Int} {k : Nat} {x : Int} {j : Nat} (h : j ≠ k → f j = g j) : dt_up f k x j = dt_up g k x j := by
  by_cases hj : j = k
  · subst hj; rw [dm_up1, dm_up1]
  · rw [dm_up2 hj, dm_up2 hj]; exact h hj
theorem ad_eq {n : Nat} {A B : Nat → Nat → Int} (h : tk_eq n A B) (hn : A 0 7 = (n : Int)) {p q w : Int} (hp : 0 ≤ p ∧ p < 4) (hl : ∀ p : Nat, p < 4 → 0 ≤ A 6 p ∧ A 6 p ≤ 10) (hl2 : A 6 p.toNat < 10) :
    (∀ g, 2 ≤ g → g ≤ 4 → ∀ j, j < n + 1 → tk_ad A p q w g j = tk_ad B p q w g j) ∧ (∀ p' : Nat, p' < 4 → tk_ad A p q w 6 p' = tk_ad B p q w 6 p') ∧ ∀ p' : Nat, p' < 4 → ∀ j : Nat, (j : Int) < tk_ad A p q w 6 p' → tk_ad A p q w 7 (p' * 10 + j) = tk_ad B p q w 7 (p' * 10 + j) := by
  have e7 := h.1
  have e6 := h.2.2.2.1
  refine ⟨fun g a b j hj => ?_, fun p' hp' => ?_, fun p' hp' j hj => ?_⟩
  · match g, a, b with
    | 2, _, _ => show dt_up (A 2) _ _ j = dt_up (B 2) _ _ j; rw [e7]; exact up_eq (fun q => h.2.2.1 2 (by omega) (by omega) j (by omega))
    | 3, _, _ => show dt_up (A 3) _ _ j = dt_up (B 3) _ _ j; rw [e7]; exact up_eq (fun q => h.2.2.1 3 (by omega) (by omega) j (by omega))
    | 4, _, _ => show dt_up (A 4) _ _ j = dt_up (B 4) _ _ j; rw [e7]; exact up_eq (fun q => h.2.2.1 4 (by omega) (by omega) j (by omega))
  · show dt_up (A 6) _ _ p' = dt_up (B 6) _ _ p'
    rw [e6 p.toNat (by omega)]
    exact up_eq (fun q => e6 p' hp')
  · have hj' : (j : Int) < dt_up (A 6) p.toNat (A 6 p.toNat + 1) p' := hj
    show dt_up (A 7) _ _ _ = dt_up (B 7) _ _ _
    rw [e6 p.toNat (by omega), e7]
    refine up_eq (fun q => h.2.2.2.2 p' hp' j ?_)
    by_cases hpp : p' = p.toNat
    · subst hpp
      rw [dm_up1] at hj'
      rw [← e6 p.toNat (by omega)] at q
      have := hl p.toNat (by omega)
      omega
    · rw [dm_up2 hpp] at hj'; exact hj'
theorem cp_eq {n r e : Nat} {A B T : Nat → Nat → Int} (h : tk_eq n A B) (hc : tk_can A T n r e) : tk_eq (n + 1) (tk_cp A T e) (tk_cp B T e) := by
  obtain ⟨hA, he, hw, hr⟩ := hc
  have hl : ∀ p : Nat, p < 4 → 0 ≤ A 6 p ∧ A 6 p ≤ 10 := fun p hp => by have := tB_line hA hp; omega
  unfold tk_cp
  rw [← tk_eq_w h hA.1.1]
  split
  · next h1 =>
    obtain ⟨i, hi, ei, -⟩ := tk_w_i hA.1.1 (hw h1)
    obtain ⟨-, -, c3, -⟩ := tB_tk hA (hw h1)
    rw [ei]
    obtain ⟨a1, a2, a3⟩ := ad_eq (q := T 3 e) (w := T 4 e) h hA.1.1 he.2.1 hl c3
    refine ⟨?_, h.2.1, fun g a b j hj => ?_, a2, a3⟩
    · show dt_up (A 0) 7 (A 0 7 + 1) 7 = dt_up (B 0) 7 (B 0 7 + 1) 7
      rw [dm_up1, dm_up1, h.1]
    · match g, a, b with
      | 1, _, _ => show dt_up (A 1) _ _ j = dt_up (B 1) _ _ j; rw [h.1]; exact up_eq (fun q => h.2.2.1 1 (by omega) (by omega) j (by have := hA.1.1; have := h.1; omega))
      | 2, _, _ => exact a1 2 (by omega) (by omega) j hj
      | 3, _, _ => exact a1 3 (by omega) (by omega) j hj
      | 4, _, _ => exact a1 4 (by omega) (by omega) j hj
      | 5, _, _ =>
        show dt_up (dt_up (A 5) _ _) _ _ j = dt_up (dt_up (B 5) _ _) _ _ j
        rw [h.1]
        exact up_eq (fun _ => up_eq (fun q => h.2.2.1 5 (by omega) (by omega) j (by have := hA.1.1; have := h.1; omega)))
  · next h1 =>
    have h0 : T 1 e = 0 := by rcases he.1 with q | q; exact q; exact absurd q h1
    have hlp := tB_line hA (p := (T 2 e).toNat) (by have := he.2.1; omega)
    obtain ⟨a1, a2, a3⟩ := ad_eq (q := T 3 e) (w := T 4 e) h hA.1.1 he.2.1 hl (by have := hr h0; omega)
    refine ⟨?_, ?_, fun g a b j hj => ?_, a2, a3⟩
    · show dt_up (dt_up (A 0) 7 (A 0 7 + 1)) 8 _ 7 = dt_up (dt_up (B 0) 7 (B 0 7 + 1)) 8 _ 7
      rw [dm_up2 (k := 8) (a := 7) (by decide), dm_up2 (k := 8) (a := 7) (by decide), dm_up1, dm_up1, h.1]
    · show dt_up _ 8 (A 0 8 + 1) 8 = dt_up _ 8 (B 0 8 + 1) 8
      rw [dm_up1, dm_up1, h.2.1]
    · match g, a, b with
      | 1, _, _ => show dt_up (A 1) _ _ j = dt_up (B 1) _ _ j; rw [h.1]; exact up_eq (fun q => h.2.2.1 1 (by omega) (by omega) j (by have := hA.1.1; have := h.1; omega))
      | 2, _, _ => exact a1 2 (by omega) (by omega) j hj
      | 3, _, _ => exact a1 3 (by omega) (by omega) j hj
      | 4, _, _ => exact a1 4 (by omega) (by omega) j hj
      | 5, _, _ => show dt_up (A 5) _ _ j = dt_up (B 5) _ _ j; rw [h.1]; exact up_eq (fun q => h.2.2.1 5 (by omega) (by omega) j (by have := hA.1.1; have := h.1; omega))
theorem cp_cong {U T R : Nat → Nat → Int} {e j : Nat} (h : ∀ g, 1 ≤ g → g ≤ 4 → T g e = R g j) : tk_cp U T e = tk_cp U R j := by
  unfold tk_cp
  rw [h 1 (by omega) (by omega), h 2 (by omega) (by omega), h 3 (by omega) (by omega), h 4 (by omega) (by omega)]
theorem all_cong {U T R : Nat → Nat → Int} : ∀ {e : Nat}, (∀ g, 1 ≤ g → g ≤ 4 → ∀ j, j < e → T g j = R g j) → tk_all U T e = tk_all U R e
  | 0, _ => rfl
  | e + 1, h => by
    show tk_cp (tk_all U T e) T e = tk_cp (tk_all U R e) R e
    rw [all_cong (U := U) (T := T) (R := R) (e := e) (fun g a b j hj => h g a b j (by omega))]
    exact cp_cong (fun g a b => h g a b e (by omega))
/-- an empty talk; a talk that replays itself -/
def tk_0 (E : Nat → Nat → Int) : Prop := E 0 7 = 0 ∧ E 0 8 = 0 ∧ ∀ p : Nat, p < 4 → E 6 p = 0
theorem tk_0B {E : Nat → Nat → Int} (h : tk_0 E) : tB E 0 0 := tB_0 h.1 h.2.1 h.2.2
theorem tk_0e {E F : Nat → Nat → Int} (h : tk_0 E) (k : tk_0 F) : tk_eq 0 E F := ⟨by rw [h.1, k.1], by rw [h.2.1, k.2.1], fun g _ _ j hj => by omega, fun p hp => by rw [h.2.2 p hp, k.2.2 p hp], fun p hp j hj => by rw [h.2.2 p hp] at hj; omega⟩
theorem all_eq {A B T : Nat → Nat → Int} {m r n s : Nat} (h : tk_eq m A B) (hA : tB A m r) (hT : tB T n s) (hrs : r + s ≤ 10) : ∀ e, e ≤ n → tk_eq (m + e) (tk_all A T e) (tk_all B T e)
  | 0, _ => h
  | e + 1, he => cp_eq (all_eq h hA hT hrs e (by omega)) (all_can hA hT hrs (by omega))
def tS (T : Nat → Nat → Int) (n : Nat) : Prop := ∀ E, tk_0 E → tk_eq n (tk_all E T n) T
theorem tS_0 {E : Nat → Nat → Int} (h : tk_0 E) : tS E 0 := fun _ hF => tk_0e hF h
theorem tS_cp {U T : Nat → Nat → Int} {m r e : Nat} (h : tS U m) (hc : tk_can U T m r e) : tS (tk_cp U T e) (m + 1) := by
  intro E hE
  obtain ⟨r1, r2⟩ := cp_rows hc.1 hc.2.1 hc.2.2.1
  show tk_eq (m + 1) (tk_cp (tk_all E (tk_cp U T e) m) (tk_cp U T e) m) (tk_cp U T e)
  rw [all_cong (R := U) (fun g a b j hj => r1 g a b j hj), cp_cong (R := T) (j := e) (fun g a b => r2 g a b)]
  exact (cp_eq (h E hE).sm hc).sm
theorem tS_all {U T : Nat → Nat → Int} {m r n s : Nat} (h : tS U m) (hU : tB U m r) (hT : tB T n s) (hrs : r + s ≤ 10) : ∀ e, e ≤ n → tS (tk_all U T e) (m + e)
  | 0, _ => h
  | e + 1, he => tS_cp (tS_all h hU hT hrs e (by omega)) (all_can hU hT hrs (by omega))
theorem tS_sd {U : Nat → Nat → Int} {m r : Nat} {f t w : Int} (h : tS U m) (hU : tB U m r) (hs : r < 10) (hf : 0 ≤ f ∧ f < 4) (ht : 0 ≤ t ∧ t < 4) (hft : f ≠ t) (hw : 0 ≤ w ∧ w < 8) : tS (tk_sd U f t w) (m + 1) := by
  have := tS_cp (T := fun g _ => match g with | 1 => 0 | 2 => f | 3 => t | _ => w) (e := 0) (r := r) h ⟨hU, ⟨Or.inl rfl, hf, ht, hft, hw⟩, fun q => absurd (show (0 : Int) = 1 from q) (by decide), fun _ => hs⟩
  exact this
theorem tS_tk {U : Nat → Nat → Int} {m r : Nat} {f t w : Int} (h : tS U m) (hU : tB U m r) (hw : tk_w U f t w ≠ -1) : tS (tk_tk U f t w (tk_w U f t w)) (m + 1) := by
  obtain ⟨i, hi, ei, i1, i5, i2, i3, i4⟩ := tk_w_i hU.1.1 hw
  have he := hU.2.1 i hi
  unfold tk_e at he
  rw [i2, i3, i4] at he
  have := tS_cp (T := fun g _ => match g with | 1 => 1 | 2 => t | 3 => f | _ => w) (e := 0) (r := r) h ⟨hU, ⟨Or.inr rfl, he.2.2.1, he.2.1, fun q => he.2.2.2.1 q.symm, he.2.2.2.2⟩, fun _ => hw, fun q => absurd (show (1 : Int) = 0 from q) (by decide)⟩
  exact this
/-- A WHOLE TALK -/
def tV (T : Nat → Nat → Int) (n s : Nat) : Prop := tB T n s ∧ tS T n ∧ n = 2 * s
theorem tV_mate {T : Nat → Nat → Int} {n s : Nat} (h : tV T n s) {e : Nat} (he : e < n) (h0 : T 1 e = 0) : ∃ m : Nat, T 5 e = (m : Int) ∧ e < m ∧ m < n ∧ T 1 m = 1 ∧ T 5 m = (e : Int) := by
  rcases h.1.2.2.2.1 e he h0 with a | a
  · exfalso
    have h1 : dt_ct (tk_op T) n = 0 := by have := h.1.1.2.2.2.2; have := h.2.2; omega
    have h2 := ct_0 h1 e he
    unfold tk_op at h2
    rw [h0, a] at h2
    cases h2
  · exact a
/-- a whole talk laid into an empty one is the same, and whole -/
theorem tV_copy {T E : Nat → Nat → Int} {n s : Nat} (h : tV T n s) (hE : tk_0 E) : tV (tk_all E T n) n s ∧ tk_eq n (tk_all E T n) T := by
  obtain ⟨hB, hS, hn⟩ := h
  have e1 := hS E hE
  have hs10 : 0 + s ≤ 10 := by have := hB.1.2.2.1; omega
  have b := (all_tB (tk_0B hE) hB hs10 n (Nat.le_refl n)).1
  rw [hB.2.2.2.2.2.2.2.2.2.2, Nat.zero_add, Nat.zero_add] at b
  have c := tS_all (tS_0 hE) (tk_0B hE) hB hs10 n (Nat.le_refl n)
  rw [Nat.zero_add] at c
  exact ⟨⟨b, c, hn⟩, e1⟩
