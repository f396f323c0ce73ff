/-! ===== a talk as it is built: what always holds of its rows ===== -/
def dt_ct (P : Nat → Bool) : Nat → Nat
  | 0 => 0
  | n + 1 => dt_ct P n + (if P n then 1 else 0)
theorem ct_cong {P R : Nat → Bool} : ∀ {n : Nat}, (∀ j, j < n → P j = R j) → dt_ct P n = dt_ct R n
  | 0, _ => rfl
  | n + 1, h => by
    show dt_ct P n + _ = dt_ct R n + _
    rw [ct_cong (fun j hj => h j (by omega)), h n (by omega)]
theorem ct_le (P : Nat → Bool) : ∀ n, dt_ct P n ≤ n
  | 0 => Nat.le_refl _
  | n + 1 => by
    have := ct_le P n
    show dt_ct P n + _ ≤ n + 1
    split <;> omega
theorem ct_flip {P R : Nat → Bool} {e : Nat} (h1 : P e = true) (h2 : R e = false) : ∀ {n : Nat}, e < n → (∀ j, j < n → j ≠ e → P j = R j) → dt_ct P n = dt_ct R n + 1
  | 0, h, _ => by omega
  | n + 1, h, hc => by
    show dt_ct P n + _ = dt_ct R n + _ + 1
    by_cases he : e = n
    · subst he
      rw [ct_cong (R := R) (fun j hj => hc j (by omega) (by omega)), h1, h2]
      simp
    · rw [ct_flip h1 h2 (n := n) (by omega) (fun j hj => hc j (by omega)), hc n (by omega) (by omega)]
      omega
theorem ct_0 {P : Nat → Bool} : ∀ {n : Nat}, dt_ct P n = 0 → ∀ j, j < n → P j = false
  | 0, _, j, hj => by omega
  | n + 1, h, j, hj => by
    have h' : dt_ct P n + (if P n then 1 else 0) = 0 := h
    have h1 : dt_ct P n = 0 := by omega
    by_cases hq : j = n
    · subst hq
      cases hp : P j with
      | true => rw [hp] at h'; simp at h'
      | false => rfl
    · exact ct_0 h1 j (by omega)
theorem ct_pos {P : Nat → Bool} {e : Nat} (h : P e = true) : ∀ {n : Nat}, e < n → 0 < dt_ct P n
  | 0, h => by omega
  | n + 1, hn => by
    show 0 < dt_ct P n + _
    by_cases he : e = n
    · subst he; rw [h]; simp
    · have := ct_pos h (n := n) (by omega); omega
theorem ct_ex {P : Nat → Bool} : ∀ {n : Nat}, 0 < dt_ct P n → ∃ e, e < n ∧ P e = true
  | 0, h => by simp [dt_ct] at h
  | n + 1, h => by
    cases hp : P n with
    | true => exact ⟨n, by omega, hp⟩
    | false =>
      have h' : 0 < dt_ct P n + (if P n then 1 else 0) := h
      rw [hp] at h'
      obtain ⟨e, h1, h2⟩ := ct_ex (P := P) (n := n) (by simpa using h')
      exact ⟨e, by omega, h2⟩
/-- an open send; one to a part; a send, a take of a key -/
def tk_op (T : Nat → Nat → Int) (e : Nat) : Bool := decide (T 1 e = 0) && decide (T 5 e = -1)
def tk_ot (T : Nat → Nat → Int) (p : Int) (e : Nat) : Bool := decide (T 1 e = 0) && (decide (T 5 e = -1) && decide (T 3 e = p))
def tk_ks (T : Nat → Nat → Int) (f t w : Int) (e : Nat) : Bool := decide (T 1 e = 0) && (decide (T 2 e = f) && (decide (T 3 e = t) && decide (T 4 e = w)))
def tk_kt (T : Nat → Nat → Int) (f t w : Int) (e : Nat) : Bool := decide (T 1 e = 1) && (decide (T 3 e = f) && (decide (T 2 e = t) && decide (T 4 e = w)))
def tk_is (T : Nat → Nat → Int) (e : Nat) : Bool := decide (T 1 e = 0)
/-- what an event is -/
def tk_e (T : Nat → Nat → Int) (e : Nat) : Prop := (T 1 e = 0 ∨ T 1 e = 1) ∧ (0 ≤ T 2 e ∧ T 2 e < 4) ∧ (0 ≤ T 3 e ∧ T 3 e < 4) ∧ T 2 e ≠ T 3 e ∧ (0 ≤ T 4 e ∧ T 4 e < 8)
def tB (T : Nat → Nat → Int) (n s : Nat) : Prop :=
  (T 0 7 = (n : Int) ∧ T 0 8 = (s : Int) ∧ s ≤ 10 ∧ s ≤ n ∧ n + dt_ct (tk_op T) n = 2 * s) ∧
  (∀ e, e < n → tk_e T e) ∧
  (∀ e, e < n → T 1 e = 1 → ∃ m : Nat, T 5 e = (m : Int) ∧ m < e ∧ T 1 m = 0 ∧ T 5 m = (e : Int) ∧ T 2 m = T 3 e ∧ T 3 m = T 2 e ∧ T 4 m = T 4 e) ∧
  (∀ e, e < n → T 1 e = 0 → T 5 e = -1 ∨ ∃ m : Nat, T 5 e = (m : Int) ∧ e < m ∧ m < n ∧ T 1 m = 1 ∧ T 5 m = (e : Int)) ∧
  (∀ p : Nat, p < 4 → ∃ c : Nat, T 6 p = (c : Int) ∧ c + dt_ct (tk_ot T p) n ≤ s) ∧
  (∀ p : Nat, p < 4 → ∀ j : Nat, (j : Int) < T 6 p → ∃ e : Nat, T 7 (p * 10 + j) = (e : Int) ∧ e < n ∧ T 2 e = (p : Int)) ∧
  (∀ p : Nat, p < 4 → ∀ i j : Nat, i < j → (j : Int) < T 6 p → T 7 (p * 10 + i) < T 7 (p * 10 + j)) ∧
  (∀ e, e < n → ∃ j : Nat, (j : Int) < T 6 (T 2 e).toNat ∧ T 7 ((T 2 e).toNat * 10 + j) = (e : Int)) ∧
  (∀ f t w : Int, dt_ct (tk_o T f t w) n + dt_ct (tk_kt T f t w) n = dt_ct (tk_ks T f t w) n) ∧
  (∀ e, e < n → T 1 e = 1 → dt_ct (tk_kt T (T 3 e) (T 2 e) (T 4 e)) e < dt_ct (tk_ks T (T 3 e) (T 2 e) (T 4 e)) e) ∧
  dt_ct (tk_is T) n = s
theorem tB_line {T : Nat → Nat → Int} {n s p : Nat} (h : tB T n s) (hp : p < 4) : 0 ≤ T 6 p ∧ T 6 p ≤ (s : Int) ∧ (s : Int) ≤ 10 := by
  obtain ⟨c, h1, h2⟩ := h.2.2.2.2.1 p hp
  have := h.1.2.2.1
  omega
/-- the empty talk -/
theorem tB_0 {T : Nat → Nat → Int} (h7 : T 0 7 = 0) (h8 : T 0 8 = 0) (h6 : ∀ p : Nat, p < 4 → T 6 p = 0) : tB T 0 0 := by
  refine ⟨⟨h7, h8, by omega, by omega, rfl⟩, fun e h => by omega, fun e h => by omega, fun e h => by omega, fun p hp => ⟨0, h6 p hp, Nat.le_refl _⟩, fun p hp j hj => ?_, fun p hp i j _ hj => ?_, fun e h => by omega, fun f t w => rfl, fun e h => by omega, rfl⟩
  · rw [h6 p hp] at hj; omega
  · rw [h6 p hp] at hj; omega
/-! a send is laid -/
section SD
variable {T : Nat → Nat → Int} {n s : Nat} {f t w : Int}
theorem sd_old (h : T 0 7 = (n : Int)) {g e : Nat} (hg : 1 ≤ g ∧ g ≤ 5) (he : e < n) : tk_sd T f t w g e = T g e := by
  have hn : e ≠ (T 0 7).toNat := by omega
  match g, hg with
  | 1, _ => exact dm_up2 hn
  | 2, _ => exact dm_up2 hn
  | 3, _ => exact dm_up2 hn
  | 4, _ => exact dm_up2 hn
  | 5, _ => exact dm_up2 hn
theorem sd_new (h : T 0 7 = (n : Int)) : tk_sd T f t w 1 n = 0 ∧ tk_sd T f t w 2 n = f ∧ tk_sd T f t w 3 n = t ∧ tk_sd T f t w 4 n = w ∧ tk_sd T f t w 5 n = -1 := by
  have hn : n = (T 0 7).toNat := by omega
  rw [hn]
  exact ⟨dm_up1, dm_up1, dm_up1, dm_up1, dm_up1⟩
theorem tB_sd (h : tB T n s) (hs : s < 10) (hf : 0 ≤ f ∧ f < 4) (ht : 0 ≤ t ∧ t < 4) (hft : f ≠ t) (hw : 0 ≤ w ∧ w < 8) : tB (tk_sd T f t w) (n + 1) (s + 1) := by
  obtain ⟨⟨q1, q2, q3, q4, q5⟩, qe, qt, qs, ql, qj, qm, qp, qk, qc, qz⟩ := id h
  have old := fun {g e : Nat} => sd_old (f := f) (t := t) (w := w) q1 (g := g) (e := e)
  obtain ⟨n1, n2, n3, n4, n5⟩ := sd_new (f := f) (t := t) (w := w) q1
  have o6 : ∀ p, p ≠ f.toNat → tk_sd T f t w 6 p = T 6 p := fun p hp => dm_up2 hp
  have n6 : tk_sd T f t w 6 f.toNat = T 6 f.toNat + 1 := dm_up1
  have hlf := tB_line h (p := f.toNat) (by omega)
  have n7 : tk_sd T f t w 7 (f.toNat * 10 + (T 6 f.toNat).toNat) = (n : Int) := by
    rw [show f.toNat * 10 + (T 6 f.toNat).toNat = (f * 10 + T 6 f.toNat).toNat by omega, ← q1]
    exact dm_up1
  have o7 : ∀ a : Nat, (a : Int) ≠ f * 10 + T 6 f.toNat → tk_sd T f t w 7 a = T 7 a := fun a ha => dm_up2 (by omega)
  have lin : ∀ p : Nat, p < 4 → ∀ j : Nat, (j : Int) < tk_sd T f t w 6 p → ((j : Int) < T 6 p ∧ tk_sd T f t w 7 (p * 10 + j) = T 7 (p * 10 + j)) ∨ (p = f.toNat ∧ (j : Int) = T 6 p ∧ tk_sd T f t w 7 (p * 10 + j) = (n : Int)) := by
    intro p hp j hj
    have hlp := tB_line h hp
    by_cases hpf : p = f.toNat
    · subst hpf
      rw [n6] at hj
      by_cases hj2 : (j : Int) = T 6 f.toNat
      · refine Or.inr ⟨rfl, hj2, ?_⟩
        rw [show j = (T 6 f.toNat).toNat by omega]
        exact n7
      · exact Or.inl ⟨by omega, o7 _ (by omega)⟩
    · rw [o6 p hpf] at hj
      exact Or.inl ⟨hj, o7 _ (by omega)⟩
  refine ⟨⟨?_, ?_, by omega, by omega, ?_⟩, ?_, ?_, ?_, ?_, ?_, ?_, ?_, ?_, ?_, by
    show dt_ct _ n + _ = _
    rw [ct_cong (R := tk_is T) (fun j hj => by unfold tk_is; rw [old (by omega) hj]), qz]
    have : tk_is (tk_sd T f t w) n = true := by unfold tk_is; rw [n1]; rfl
    rw [this]; rfl⟩
  · show dt_up (dt_up (T 0) 7 (T 0 7 + 1)) 8 (T 0 8 + 1) 7 = _
    rw [dm_up2 (by omega), dm_up1, q1]; omega
  · show dt_up (dt_up (T 0) 7 (T 0 7 + 1)) 8 (T 0 8 + 1) 8 = _
    rw [dm_up1, q2]; omega
  · show n + 1 + (dt_ct (tk_op (tk_sd T f t w)) n + (if tk_op (tk_sd T f t w) n then 1 else 0)) = _
    rw [ct_cong (R := tk_op T) (fun j hj => by unfold tk_op; rw [old (by omega) hj, old (by omega) hj])]
    have : tk_op (tk_sd T f t w) n = true := by unfold tk_op; rw [n1, n5]; rfl
    rw [this]; simp; omega
  · intro e he
    by_cases hen : e = n
    · subst hen
      unfold tk_e
      rw [n1, n2, n3, n4]
      exact ⟨Or.inl rfl, hf, ht, hft, hw⟩
    · have := qe e (by omega)
      unfold tk_e at this ⊢
      rw [old (by omega) (by omega), old (by omega) (by omega), old (by omega) (by omega), old (by omega) (by omega)]
      exact this
  · intro e he h1
    by_cases hen : e = n
    · subst hen; rw [n1] at h1; cases h1
    · rw [old (by omega) (by omega)] at h1
      obtain ⟨m, a1, a2, a3, a4, a5, a6, a7⟩ := qt e (by omega) h1
      refine ⟨m, ?_, a2, ?_, ?_, ?_, ?_, ?_⟩
      · rw [old (by omega) (by omega)]; exact a1
      · rw [old (by omega) (by omega)]; exact a3
      · rw [old (by omega) (by omega)]; exact a4
      · rw [old (by omega) (by omega), old (by omega) (by omega)]; exact a5
      · rw [old (by omega) (by omega), old (by omega) (by omega)]; exact a6
      · rw [old (by omega) (by omega), old (by omega) (by omega)]; exact a7
  · intro e he h1
    by_cases hen : e = n
    · subst hen; exact Or.inl n5
    · rw [old (by omega) (by omega)] at h1
      rcases qs e (by omega) h1 with a | ⟨m, a1, a2, a3, a4, a5⟩
      · left; rw [old (by omega) (by omega)]; exact a
      · right
        refine ⟨m, ?_, a2, by omega, ?_, ?_⟩
        · rw [old (by omega) (by omega)]; exact a1
        · rw [old (by omega) (by omega)]; exact a4
        · rw [old (by omega) (by omega)]; exact a5
  · intro p hp
    obtain ⟨c, c1, c2⟩ := ql p hp
    have hc : dt_ct (tk_ot (tk_sd T f t w) p) (n + 1) = dt_ct (tk_ot T p) n + (if t = (p : Int) then 1 else 0) := by
      show dt_ct _ n + _ = _
      rw [ct_cong (R := tk_ot T p) (fun j hj => by unfold tk_ot; rw [old (by omega) hj, old (by omega) hj, old (by omega) hj])]
      have : tk_ot (tk_sd T f t w) p n = decide (t = (p : Int)) := by unfold tk_ot; rw [n1, n5, n3]; simp
      rw [this]
      by_cases htp : t = (p : Int) <;> simp [htp]
    rw [hc]
    by_cases hpf : p = f.toNat
    · refine ⟨c + 1, ?_, ?_⟩
      · subst hpf; rw [n6, c1]; omega
      · rw [if_neg (by omega)]; omega
    · refine ⟨c, by rw [o6 p hpf]; exact c1, ?_⟩
      split <;> omega
  · intro p hp j hj
    rcases lin p hp j hj with ⟨a, b⟩ | ⟨a, b, c⟩
    · obtain ⟨e, e1, e2, e3⟩ := qj p hp j a
      exact ⟨e, by rw [b]; exact e1, by omega, by rw [old (by omega) e2]; exact e3⟩
    · exact ⟨n, c, by omega, by rw [n2]; omega⟩
  · intro p hp i j hij hj
    rcases lin p hp j hj with ⟨a, b⟩ | ⟨a, b, c⟩
    · rcases lin p hp i (by omega) with ⟨a', b'⟩ | ⟨a', b', c'⟩
      · rw [b, b']; exact qm p hp i j hij a
      · omega
    · rcases lin p hp i (by omega) with ⟨a', b'⟩ | ⟨a', b', c'⟩
      · rw [c, b']
        obtain ⟨e, e1, e2, e3⟩ := qj p hp i a'
        rw [e1]; omega
      · omega
  · intro e he
    by_cases hen : e = n
    · subst hen
      rw [n2]
      exact ⟨(T 6 f.toNat).toNat, by rw [n6]; omega, n7⟩
    · rw [old (g := 2) (by omega) (by omega)]
      obtain ⟨j, j1, j2⟩ := qp e (by omega)
      have hee := (qe e (by omega)).2.1
      have hlp := tB_line h (p := (T 2 e).toNat) (by omega)
      refine ⟨j, ?_, ?_⟩
      · by_cases hpf : (T 2 e).toNat = f.toNat
        · rw [hpf, n6, ← hpf]; omega
        · rw [o6 _ hpf]; exact j1
      · rw [o7 _ (fun q => by
          by_cases hpf : (T 2 e).toNat = f.toNat
          · rw [← hpf] at q; omega
          · omega)]
        exact j2
  · intro f' t' w'
    have e1 : dt_ct (tk_o (tk_sd T f t w) f' t' w') n = dt_ct (tk_o T f' t' w') n := ct_cong (fun j hj => by unfold tk_o; rw [old (by omega) hj, old (by omega) hj, old (by omega) hj, old (by omega) hj, old (by omega) hj])
    have e2 : dt_ct (tk_kt (tk_sd T f t w) f' t' w') n = dt_ct (tk_kt T f' t' w') n := ct_cong (fun j hj => by unfold tk_kt; rw [old (by omega) hj, old (by omega) hj, old (by omega) hj, old (by omega) hj])
    have e3 : dt_ct (tk_ks (tk_sd T f t w) f' t' w') n = dt_ct (tk_ks T f' t' w') n := ct_cong (fun j hj => by unfold tk_ks; rw [old (by omega) hj, old (by omega) hj, old (by omega) hj, old (by omega) hj])
    have e4 : tk_o (tk_sd T f t w) f' t' w' n = tk_ks (tk_sd T f t w) f' t' w' n := by unfold tk_o tk_ks; rw [n5]; simp
    have e5 : tk_kt (tk_sd T f t w) f' t' w' n = false := by unfold tk_kt; rw [n1]; rfl
    show dt_ct _ n + _ + (dt_ct _ n + _) = dt_ct _ n + _
    rw [e1, e2, e3, e4, e5]
    have := qk f' t' w'
    simp; omega
  · intro e he h1
    by_cases hen : e = n
    · subst hen; rw [n1] at h1; cases h1
    · rw [old (by omega) (by omega)] at h1
      have hq := qc e (by omega) h1
      rw [old (g := 2) (by omega) (by omega), old (g := 3) (by omega) (by omega), old (g := 4) (by omega) (by omega)]
      rw [ct_cong (P := tk_kt (tk_sd T f t w) (T 3 e) (T 2 e) (T 4 e)) (R := tk_kt T (T 3 e) (T 2 e) (T 4 e)) (fun j hj => by unfold tk_kt; rw [old (by omega) (by omega), old (by omega) (by omega), old (by omega) (by omega), old (by omega) (by omega)]),
        ct_cong (P := tk_ks (tk_sd T f t w) (T 3 e) (T 2 e) (T 4 e)) (R := tk_ks T (T 3 e) (T 2 e) (T 4 e)) (fun j hj => by unfold tk_ks; rw [old (by omega) (by omega), old (by omega) (by omega), old (by omega) (by omega), old (by omega) (by omega)])]
      exact hq
end SD
/-! a take is laid -/
section TK
variable {T : Nat → Nat → Int} {n s i : Nat} {f t w : Int}
theorem tk_old (h : T 0 7 = (n : Int)) {g e : Nat} (hg : 1 ≤ g ∧ g ≤ 4) (he : e < n) : tk_tk T f t w i g e = T g e := by
  have hn : e ≠ (T 0 7).toNat := by omega
  match g, hg with
  | 1, _ => exact dm_up2 hn
  | 2, _ => exact dm_up2 hn
  | 3, _ => exact dm_up2 hn
  | 4, _ => exact dm_up2 hn
theorem tk_old5 (h : T 0 7 = (n : Int)) {e : Nat} (he : e < n) (hi : e ≠ i) : tk_tk T f t w i 5 e = T 5 e := by
  show dt_up (dt_up (T 5) (T 0 7).toNat i) (i : Int).toNat (T 0 7) e = _
  rw [dm_up2 (by omega), dm_up2 (by omega)]
theorem tk_new (h : T 0 7 = (n : Int)) (hi : i < n) : tk_tk T f t w i 1 n = 1 ∧ tk_tk T f t w i 2 n = t ∧ tk_tk T f t w i 3 n = f ∧ tk_tk T f t w i 4 n = w ∧ tk_tk T f t w i 5 n = (i : Int) ∧ tk_tk T f t w i 5 i = (n : Int) := by
  have hn : n = (T 0 7).toNat := by omega
  refine ⟨?_, ?_, ?_, ?_, ?_, ?_⟩
  · rw [hn]; exact dm_up1
  · rw [hn]; exact dm_up1
  · rw [hn]; exact dm_up1
  · rw [hn]; exact dm_up1
  · show dt_up (dt_up (T 5) (T 0 7).toNat i) (i : Int).toNat (T 0 7) n = _
    rw [dm_up2 (by omega)]
    conv => lhs; arg 4; rw [hn]
    exact dm_up1
  · show dt_up (dt_up (T 5) (T 0 7).toNat i) (i : Int).toNat (T 0 7) i = _
    rw [show (i : Int).toNat = i by omega, dm_up1, h]
theorem tk_w_i (h : T 0 7 = (n : Int)) (hw : tk_w T f t w ≠ -1) : ∃ i : Nat, i < n ∧ tk_w T f t w = (i : Int) ∧ T 1 i = 0 ∧ T 5 i = -1 ∧ T 2 i = f ∧ T 3 i = t ∧ T 4 i = w := by
  rcases dt_fst_sp (tk_o T f t w) (T 0 7).toNat with ⟨a, -⟩ | ⟨i, a1, a2, a3, -⟩
  · exact absurd a hw
  · exact ⟨i, by omega, a2, tk_o_t.mp a3⟩
theorem tB_tk0 (h : tB T n s) (hi : i < n) (i1 : T 1 i = 0) (i5 : T 5 i = -1) (i2 : T 2 i = f) (i3 : T 3 i = t) (i4 : T 4 i = w) : tB (tk_tk T f t w i) (n + 1) s ∧ n < 2 * s ∧ T 6 t.toNat < 10 := by
  obtain ⟨⟨q1, q2, q3, q4, q5⟩, qe, qt, qs, ql, qj, qm, qp, qk, qc, qz⟩ := id h
  have old := fun {g e : Nat} => tk_old (f := f) (t := t) (w := w) (i := i) q1 (g := g) (e := e)
  have old5 := fun {e : Nat} => tk_old5 (f := f) (t := t) (w := w) (i := i) q1 (e := e)
  have r1 : ∀ j : Nat, j < n → tk_tk T f t w i 1 j = T 1 j := fun j hj => old (by omega) hj
  have r2 : ∀ j : Nat, j < n → tk_tk T f t w i 2 j = T 2 j := fun j hj => old (by omega) hj
  have r3 : ∀ j : Nat, j < n → tk_tk T f t w i 3 j = T 3 j := fun j hj => old (by omega) hj
  have r4 : ∀ j : Nat, j < n → tk_tk T f t w i 4 j = T 4 j := fun j hj => old (by omega) hj
  obtain ⟨n1, n2, n3, n4, n5, n5i⟩ := tk_new (f := f) (t := t) (w := w) q1 hi
  obtain ⟨-, hf, ht, hft, hw⟩ := qe i hi
  rw [i2] at hf hft
  rw [i3] at ht hft
  rw [i4] at hw
  have hop : tk_op T i = true := by unfold tk_op; rw [i1, i5]; rfl
  have hot : tk_ot T t.toNat i = true := by unfold tk_ot; rw [i1, i5, i3]; simp; omega
  have hpos := ct_pos hop hi
  have hpos2 := ct_pos hot hi
  obtain ⟨ct, ct1, ct2⟩ := ql t.toNat (by omega)
  have o6 : ∀ p, p ≠ t.toNat → tk_tk T f t w i 6 p = T 6 p := fun p hp => dm_up2 hp
  have n6 : tk_tk T f t w i 6 t.toNat = T 6 t.toNat + 1 := dm_up1
  have hlf := tB_line h (p := t.toNat) (by omega)
  have n7 : tk_tk T f t w i 7 (t.toNat * 10 + (T 6 t.toNat).toNat) = (n : Int) := by
    rw [show t.toNat * 10 + (T 6 t.toNat).toNat = (t * 10 + T 6 t.toNat).toNat by omega, ← q1]
    exact dm_up1
  have o7 : ∀ a : Nat, (a : Int) ≠ t * 10 + T 6 t.toNat → tk_tk T f t w i 7 a = T 7 a := fun a ha => dm_up2 (by omega)
  have lin : ∀ p : Nat, p < 4 → ∀ j : Nat, (j : Int) < tk_tk T f t w i 6 p → ((j : Int) < T 6 p ∧ tk_tk T f t w i 7 (p * 10 + j) = T 7 (p * 10 + j)) ∨ (p = t.toNat ∧ (j : Int) = T 6 p ∧ tk_tk T f t w i 7 (p * 10 + j) = (n : Int)) := by
    intro p hp j hj
    have hlp := tB_line h hp
    by_cases hpf : p = t.toNat
    · subst hpf
      rw [n6] at hj
      by_cases hj2 : (j : Int) = T 6 t.toNat
      · refine Or.inr ⟨rfl, hj2, ?_⟩
        rw [show j = (T 6 t.toNat).toNat by omega]
        exact n7
      · exact Or.inl ⟨by omega, o7 _ (by omega)⟩
    · rw [o6 p hpf] at hj
      exact Or.inl ⟨hj, o7 _ (by omega)⟩
  refine ⟨⟨⟨?_, q2, by omega, by omega, ?_⟩, ?_, ?_, ?_, ?_, ?_, ?_, ?_, ?_, ?_, by
    show dt_ct _ n + _ = _
    rw [ct_cong (R := tk_is T) (fun j hj => by unfold tk_is; rw [r1 j hj]), qz]
    have : tk_is (tk_tk T f t w i) n = false := by unfold tk_is; rw [n1]; rfl
    rw [this]; rfl⟩, by omega, by omega⟩
  · show dt_up (T 0) 7 (T 0 7 + 1) 7 = _
    rw [dm_up1, q1]; omega
  · show n + 1 + (dt_ct (tk_op (tk_tk T f t w i)) n + (if tk_op (tk_tk T f t w i) n then 1 else 0)) = _
    have e1 := ct_flip (R := tk_op (tk_tk T f t w i)) hop (by unfold tk_op; rw [n5i]; simp <;> omega) hi (fun j hj hji => by unfold tk_op; rw [r1 j hj, old5 hj hji])
    have e2 : tk_op (tk_tk T f t w i) n = false := by unfold tk_op; rw [n1]; rfl
    rw [e2]; simp; omega
  · intro e he
    by_cases hen : e = n
    · subst hen
      unfold tk_e
      rw [n1, n2, n3, n4]
      exact ⟨Or.inr rfl, ht, hf, fun q => hft q.symm, hw⟩
    · have := qe e (by omega)
      unfold tk_e at this ⊢
      rw [old (by omega) (by omega), old (by omega) (by omega), old (by omega) (by omega), old (by omega) (by omega)]
      exact this
  · intro e he h1
    by_cases hen : e = n
    · subst hen
      refine ⟨i, n5, hi, ?_, n5i, ?_, ?_, ?_⟩
      · rw [old (by omega) hi]; exact i1
      · rw [old (by omega) hi, n3]; exact i2
      · rw [old (by omega) hi, n2]; exact i3
      · rw [old (by omega) hi, n4]; exact i4
    · rw [old (by omega) (by omega)] at h1
      obtain ⟨m, a1, a2, a3, a4, a5, a6, a7⟩ := qt e (by omega) h1
      have hei : e ≠ i := fun q => by subst q; rw [i1] at h1; cases h1
      have hmi : m ≠ i := fun q => by subst q; rw [i5] at a4; omega
      refine ⟨m, ?_, a2, ?_, ?_, ?_, ?_, ?_⟩
      · rw [old5 (by omega) hei]; exact a1
      · rw [old (by omega) (by omega)]; exact a3
      · rw [old5 (by omega) hmi]; exact a4
      · rw [old (by omega) (by omega), old (by omega) (by omega)]; exact a5
      · rw [old (by omega) (by omega), old (by omega) (by omega)]; exact a6
      · rw [old (by omega) (by omega), old (by omega) (by omega)]; exact a7
  · intro e he h1
    by_cases hen : e = n
    · subst hen; rw [n1] at h1; cases h1
    · rw [old (by omega) (by omega)] at h1
      by_cases hei : e = i
      · subst hei
        exact Or.inr ⟨n, n5i, hi, by omega, n1, n5⟩
      · rcases qs e (by omega) h1 with a | ⟨m, a1, a2, a3, a4, a5⟩
        · left; rw [old5 (by omega) hei]; exact a
        · right
          have hmi : m ≠ i := fun q => by subst q; rw [i1] at a4; cases a4
          refine ⟨m, ?_, a2, by omega, ?_, ?_⟩
          · rw [old5 (by omega) hei]; exact a1
          · rw [old (by omega) (by omega)]; exact a4
          · rw [old5 (by omega) hmi]; exact a5
  · intro p hp
    obtain ⟨c, c1, c2⟩ := ql p hp
    have hnew : tk_ot (tk_tk T f t w i) p n = false := by unfold tk_ot; rw [n1]; rfl
    have hc : dt_ct (tk_ot (tk_tk T f t w i) p) (n + 1) = dt_ct (tk_ot (tk_tk T f t w i) p) n := by
      show dt_ct _ n + _ = _
      rw [hnew]; rfl
    rw [hc]
    by_cases hpt : p = t.toNat
    · subst hpt
      have e1 := ct_flip (R := tk_ot (tk_tk T f t w i) t.toNat) hot (by unfold tk_ot; rw [n5i]; simp <;> omega) hi (fun j hj hji => by unfold tk_ot; rw [r1 j hj, r3 j hj, old5 hj hji])
      refine ⟨c + 1, by rw [n6, c1]; omega, by omega⟩
    · refine ⟨c, by rw [o6 p hpt]; exact c1, ?_⟩
      rw [ct_cong (R := tk_ot T p) (fun j hj => by
        by_cases hji : j = i
        · subst hji
          unfold tk_ot
          rw [r1 j hj, r3 j hj, i3, n5i, i5]
          have : ¬ t = (p : Int) := by omega
          simp [this]
        · unfold tk_ot; rw [r1 j hj, r3 j hj, old5 hj hji])]
      exact c2
  · intro p hp j hj
    rcases lin p hp j hj with ⟨a, b⟩ | ⟨a, b, c⟩
    · obtain ⟨e, e1, e2, e3⟩ := qj p hp j a
      exact ⟨e, by rw [b]; exact e1, by omega, by rw [old (by omega) e2]; exact e3⟩
    · exact ⟨n, c, by omega, by rw [n2]; omega⟩
  · intro p hp i' j hij hj
    rcases lin p hp j hj with ⟨a, b⟩ | ⟨a, b, c⟩
    · rcases lin p hp i' (by omega) with ⟨a', b'⟩ | ⟨a', b', c'⟩
      · rw [b, b']; exact qm p hp i' j hij a
      · omega
    · rcases lin p hp i' (by omega) with ⟨a', b'⟩ | ⟨a', b', c'⟩
      · rw [c, b']
        obtain ⟨e, e1, e2, e3⟩ := qj p hp i' a'
        rw [e1]; omega
      · omega
  · intro e he
    by_cases hen : e = n
    · subst hen
      rw [n2]
      exact ⟨(T 6 t.toNat).toNat, by rw [n6]; omega, n7⟩
    · rw [old (g := 2) (by omega) (by omega)]
      obtain ⟨j, j1, j2⟩ := qp e (by omega)
      have hee := (qe e (by omega)).2.1
      have hlp := tB_line h (p := (T 2 e).toNat) (by omega)
      refine ⟨j, ?_, ?_⟩
      · by_cases hpf : (T 2 e).toNat = t.toNat
        · rw [hpf, n6, ← hpf]; omega
        · rw [o6 _ hpf]; exact j1
      · rw [o7 _ (fun q => by
          by_cases hpf : (T 2 e).toNat = t.toNat
          · rw [← hpf] at q; omega
          · omega)]
        exact j2
  · intro f' t' w'
    have e2 : dt_ct (tk_kt (tk_tk T f t w i) f' t' w') n = dt_ct (tk_kt T f' t' w') n := ct_cong (fun j hj => by unfold tk_kt; rw [r1 j hj, r2 j hj, r3 j hj, r4 j hj])
    have e3 : dt_ct (tk_ks (tk_tk T f t w i) f' t' w') n = dt_ct (tk_ks T f' t' w') n := ct_cong (fun j hj => by unfold tk_ks; rw [r1 j hj, r2 j hj, r3 j hj, r4 j hj])
    have e4 : tk_o (tk_tk T f t w i) f' t' w' n = false := by unfold tk_o; rw [n1]; rfl
    have e5 : tk_ks (tk_tk T f t w i) f' t' w' n = false := by unfold tk_ks; rw [n1]; rfl
    show dt_ct _ n + _ + (dt_ct _ n + _) = dt_ct _ n + _
    have hk := qk f' t' w'
    rw [e2, e3, e4, e5]
    by_cases hkey : f = f' ∧ t = t' ∧ w = w'
    · obtain ⟨rfl, rfl, rfl⟩ := hkey
      have e6 : tk_kt (tk_tk T f t w i) f t w n = true := by unfold tk_kt; rw [n1, n2, n3, n4]; simp
      have e7 := ct_flip (P := tk_o T f t w) (R := tk_o (tk_tk T f t w i) f t w) (tk_o_t.mpr ⟨i1, i5, i2, i3, i4⟩) (by unfold tk_o; rw [n5i]; simp <;> omega) hi (fun j hj hji => by unfold tk_o; rw [r1 j hj, r2 j hj, r3 j hj, r4 j hj, old5 hj hji])
      rw [e6]; simp; omega
    · have e6 : tk_kt (tk_tk T f t w i) f' t' w' n = false := by
        unfold tk_kt; rw [n1, n2, n3, n4]
        simp only [decide_true, Bool.true_and, Bool.and_eq_false_iff, decide_eq_false_iff_not]
        omega
      have e7 : dt_ct (tk_o (tk_tk T f t w i) f' t' w') n = dt_ct (tk_o T f' t' w') n := ct_cong (fun j hj => by
        by_cases hji : j = i
        · subst hji
          have a1 : tk_o (tk_tk T f t w j) f' t' w' j = false := by unfold tk_o; rw [n5i]; simp <;> omega
          have a2 : tk_o T f' t' w' j = false := tk_o_f.mpr (fun q => hkey ⟨by omega, by omega, by omega⟩)
          rw [a1, a2]
        · unfold tk_o; rw [r1 j hj, r2 j hj, r3 j hj, r4 j hj, old5 hj hji])
      rw [e6, e7]; simp; omega
  · intro e he h1
    by_cases hen : e = n
    · subst hen
      rw [n2, n3, n4]
      rw [ct_cong (P := tk_kt (tk_tk T f t w i) f t w) (R := tk_kt T f t w) (fun j hj => by unfold tk_kt; rw [r1 j hj, r2 j hj, r3 j hj, r4 j hj]),
        ct_cong (P := tk_ks (tk_tk T f t w i) f t w) (R := tk_ks T f t w) (fun j hj => by unfold tk_ks; rw [r1 j hj, r2 j hj, r3 j hj, r4 j hj])]
      have := qk f t w
      have := ct_pos (P := tk_o T f t w) (tk_o_t.mpr ⟨i1, i5, i2, i3, i4⟩) hi
      omega
    · rw [old (by omega) (by omega)] at h1
      have hq := qc e (by omega) h1
      rw [old (g := 2) (by omega) (by omega), old (g := 3) (by omega) (by omega), old (g := 4) (by omega) (by omega)]
      rw [ct_cong (P := tk_kt (tk_tk T f t w i) (T 3 e) (T 2 e) (T 4 e)) (R := tk_kt T (T 3 e) (T 2 e) (T 4 e)) (fun j hj => by unfold tk_kt; rw [r1 j (by omega), r2 j (by omega), r3 j (by omega), r4 j (by omega)]),
        ct_cong (P := tk_ks (tk_tk T f t w i) (T 3 e) (T 2 e) (T 4 e)) (R := tk_ks T (T 3 e) (T 2 e) (T 4 e)) (fun j hj => by unfold tk_ks; rw [r1 j (by omega), r2 j (by omega), r3 j (by omega), r4 j (by omega)])]
      exact hq
theorem tB_tk (h : tB T n s) (hw : tk_w T f t w ≠ -1) : tB (tk_tk T f t w (tk_w T f t w)) (n + 1) s ∧ n < 2 * s ∧ T 6 t.toNat < 10 ∧ (0 ≤ f ∧ f < 4) ∧ (0 ≤ t ∧ t < 4) := by
  obtain ⟨i, hi, e, i1, i5, i2, i3, i4⟩ := tk_w_i h.1.1 hw
  rw [e]
  obtain ⟨a, b, c⟩ := tB_tk0 h hi i1 i5 i2 i3 i4
  have := h.2.1 i hi
  unfold tk_e at this
  rw [i2, i3] at this
  exact ⟨a, b, c, this.2.1, this.2.2.1⟩
end TK
/-! ===== events of one talk are laid behind another ===== -/
def tk_cp (U T : Nat → Nat → Int) (e : Nat) : Nat → Nat → Int := if T 1 e = 1 then tk_tk U (T 3 e) (T 2 e) (T 4 e) (tk_w U (T 3 e) (T 2 e) (T 4 e)) else tk_sd U (T 2 e) (T 3 e) (T 4 e)
def tk_all (U T : Nat → Nat → Int) : Nat → Nat → Nat → Int
  | 0 => U
  | e + 1 => tk_cp (tk_all U T e) T e
theorem ct_mono (P : Nat → Bool) {m n : Nat} (h : m ≤ n) : dt_ct P m ≤ dt_ct P n := by
  induction n with
  | zero => rw [show m = 0 by omega]; exact Nat.le_refl _
  | succ n ih =>
    by_cases hm : m = n + 1
    · rw [hm]; exact Nat.le_refl _
    · have := ih (by omega)
      show dt_ct P m ≤ dt_ct P n + _
      omega
theorem ct_lt {P : Nat → Bool} {e n : Nat} (h : P e = true) (hn : e < n) : dt_ct P e < dt_ct P n := by
  have h1 : dt_ct P (e + 1) ≤ dt_ct P n := ct_mono P hn
  have h2 : dt_ct P (e + 1) = dt_ct P e + 1 := by show dt_ct P e + _ = _; rw [h]; rfl
  omega
theorem tk_w_pos {T : Nat → Nat → Int} {n : Nat} {f t w : Int} (h : T 0 7 = (n : Int)) (hp : 0 < dt_ct (tk_o T f t w) n) : tk_w T f t w ≠ -1 := by
  intro hq
  rcases dt_fst_sp (tk_o T f t w) (T 0 7).toNat with ⟨-, a⟩ | ⟨i, a1, a2, -⟩
  · obtain ⟨e, e1, e2⟩ := ct_ex hp
    rw [a e (by omega)] at e2
    cases e2
  · have : tk_w T f t w = (i : Int) := a2
    omega
/-- one event more: what the rows hold at the end, and before it -/
theorem cp_rows {U T : Nat → Nat → Int} {m r e : Nat} (hU : tB U m r) (he : tk_e T e) (hw : T 1 e = 1 → tk_w U (T 3 e) (T 2 e) (T 4 e) ≠ -1) :
    (∀ g, 1 ≤ g → g ≤ 4 → ∀ j, j < m → tk_cp U T e g j = U g j) ∧ ∀ g, 1 ≤ g → g ≤ 4 → tk_cp U T e g m = T g e := by
  unfold tk_cp
  split
  · next h1 =>
    obtain ⟨i, hi, ei, -⟩ := tk_w_i hU.1.1 (hw h1)
    rw [ei]
    obtain ⟨n1, n2, n3, n4, -⟩ := tk_new (f := T 3 e) (t := T 2 e) (w := T 4 e) hU.1.1 hi
    refine ⟨fun g a b j hj => tk_old hU.1.1 ⟨a, b⟩ hj, fun g a b => ?_⟩
    match g, a, b with
    | 1, _, _ => rw [n1, h1]
    | 2, _, _ => exact n2
    | 3, _, _ => exact n3
    | 4, _, _ => exact n4
  · next h1 =>
    obtain ⟨n1, n2, n3, n4, -⟩ := sd_new (f := T 2 e) (t := T 3 e) (w := T 4 e) hU.1.1
    refine ⟨fun g a b j hj => sd_old hU.1.1 ⟨a, by omega⟩ hj, fun g a b => ?_⟩
    match g, a, b with
    | 1, _, _ => rw [n1]; rcases he.1 with q | q; exact q.symm; exact absurd q h1
    | 2, _, _ => exact n2
    | 3, _, _ => exact n3
    | 4, _, _ => exact n4
theorem cp_tB {U T : Nat → Nat → Int} {m r e : Nat} (hU : tB U m r) (he : tk_e T e) (hw : T 1 e = 1 → tk_w U (T 3 e) (T 2 e) (T 4 e) ≠ -1) (hr : T 1 e = 0 → r < 10) : tB (tk_cp U T e) (m + 1) (r + (if tk_is T e then 1 else 0)) := by
  unfold tk_cp
  split
  · next h1 =>
    have : tk_is T e = false := by unfold tk_is; rw [h1]; rfl
    rw [this]
    exact (tB_tk hU (hw h1)).1
  · next h1 =>
    have h0 : T 1 e = 0 := by rcases he.1 with q | q; exact q; exact absurd q h1
    have : tk_is T e = true := by unfold tk_is; rw [h0]; rfl
    rw [this]
    exact tB_sd hU (hr h0) he.2.1 he.2.2.1 he.2.2.2.1 he.2.2.2.2
/-- all events of T behind U, if there is room -/
theorem all_tB {U T : Nat → Nat → Int} {m r n s : Nat} (hU : tB U m r) (hT : tB T n s) (hrs : r + s ≤ 10) : ∀ e, e ≤ n →
    tB (tk_all U T e) (m + e) (r + dt_ct (tk_is T) e) ∧ (∀ f t w, dt_ct (tk_ks (tk_all U T e) f t w) (m + e) = dt_ct (tk_ks U f t w) m + dt_ct (tk_ks T f t w) e ∧ dt_ct (tk_kt (tk_all U T e) f t w) (m + e) = dt_ct (tk_kt U f t w) m + dt_ct (tk_kt T f t w) e) := by
  intro e
  induction e with
  | zero => exact fun _ => ⟨hU, fun f t w => ⟨rfl, rfl⟩⟩
  | succ e ih =>
    intro he
    obtain ⟨h1, h2⟩ := ih (by omega)
    have hee := hT.2.1 e (by omega)
    have hw : T 1 e = 1 → tk_w (tk_all U T e) (T 3 e) (T 2 e) (T 4 e) ≠ -1 := by
      intro q
      refine tk_w_pos h1.1.1 ?_
      have a := h1.2.2.2.2.2.2.2.2.1 (T 3 e) (T 2 e) (T 4 e)
      have b := hT.2.2.2.2.2.2.2.2.2.1 e (by omega) q
      have c := hU.2.2.2.2.2.2.2.2.1 (T 3 e) (T 2 e) (T 4 e)
      have d := h2 (T 3 e) (T 2 e) (T 4 e)
      omega
    have hr : T 1 e = 0 → r + dt_ct (tk_is T) e < 10 := by
      intro q
      have := ct_lt (P := tk_is T) (e := e) (n := n) (by unfold tk_is; rw [q]; rfl) (by omega)
      have := hT.2.2.2.2.2.2.2.2.2.2
      omega
    refine ⟨by have q := cp_tB h1 hee hw hr; rw [Nat.add_assoc r] at q; exact q, fun f t w => ?_⟩
    obtain ⟨r1, r2⟩ := cp_rows h1 hee hw
    obtain ⟨d1, d2⟩ := h2 f t w
    constructor
    · show dt_ct (tk_ks (tk_cp (tk_all U T e) T e) f t w) (m + e) + (if tk_ks (tk_cp (tk_all U T e) T e) f t w (m + e) then 1 else 0) = _
      rw [ct_cong (R := tk_ks (tk_all U T e) f t w) (fun j hj => by unfold tk_ks; rw [r1 1 (by omega) (by omega) j hj, r1 2 (by omega) (by omega) j hj, r1 3 (by omega) (by omega) j hj, r1 4 (by omega) (by omega) j hj]), d1]
      have : tk_ks (tk_cp (tk_all U T e) T e) f t w (m + e) = tk_ks T f t w e := by unfold tk_ks; rw [r2 1 (by omega) (by omega), r2 2 (by omega) (by omega), r2 3 (by omega) (by omega), r2 4 (by omega) (by omega)]
      rw [this, Nat.add_assoc]; rfl
    · show dt_ct (tk_kt (tk_cp (tk_all U T e) T e) f t w) (m + e) + (if tk_kt (tk_cp (tk_all U T e) T e) f t w (m + e) then 1 else 0) = _
      rw [ct_cong (R := tk_kt (tk_all U T e) f t w) (fun j hj => by unfold tk_kt; rw [r1 1 (by omega) (by omega) j hj, r1 2 (by omega) (by omega) j hj, r1 3 (by omega) (by omega) j hj, r1 4 (by omega) (by omega) j hj]), d2]
      have : tk_kt (tk_cp (tk_all U T e) T e) f t w (m + e) = tk_kt T f t w e := by unfold tk_kt; rw [r2 1 (by omega) (by omega), r2 2 (by omega) (by omega), r2 3 (by omega) (by omega), r2 4 (by omega) (by omega)]
      rw [this, Nat.add_assoc]; rfl
/-- what one event needs to be laid -/
def tk_can (U T : Nat → Nat → Int) (m r e : Nat) : Prop := tB U m r ∧ tk_e T e ∧ (T 1 e = 1 → tk_w U (T 3 e) (T 2 e) (T 4 e) ≠ -1) ∧ (T 1 e = 0 → r < 10)
theorem all_can {U T : Nat → Nat → Int} {m r n s : Nat} (hU : tB U m r) (hT : tB T n s) (hrs : r + s ≤ 10) {e : Nat} (he : e < n) : tk_can (tk_all U T e) T (m + e) (r + dt_ct (tk_is T) e) e := by
  obtain ⟨h1, h2⟩ := all_tB hU hT hrs e (by omega)
  refine ⟨h1, hT.2.1 e he, fun q => ?_, fun q => ?_⟩
  · refine tk_w_pos h1.1.1 ?_
    have a := h1.2.2.2.2.2.2.2.2.1 (T 3 e) (T 2 e) (T 4 e)
    have b := hT.2.2.2.2.2.2.2.2.2.1 e he q
    have c := hU.2.2.2.2.2.2.2.2.1 (T 3 e) (T 2 e) (T 4 e)
    have d := h2 (T 3 e) (T 2 e) (T 4 e)
    omega
  · have := ct_lt (P := tk_is T) (e := e) (n := n) (by unfold tk_is; rw [q]; rfl) (by omega)
    have := hT.2.2.2.2.2.2.2.2.2.2
    omega
