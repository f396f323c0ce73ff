/-! ===== moments: cuts in which nothing is taken that was not sent ===== -/
def ln (T : Nat → Nat → Int) (p : Nat) : Nat := (T 6 p).toNat
def pt (T : Nat → Nat → Int) (e : Nat) : Nat := (T 2 e).toNat
def mt (T : Nat → Nat → Int) (e : Nat) : Nat := (T 5 e).toNat
noncomputable def pl (T : Nat → Nat → Int) (e : Nat) : Nat := @Classical.epsilon Nat ⟨0⟩ (fun j => (j : Int) < T 6 (T 2 e).toNat ∧ T 7 ((T 2 e).toNat * 10 + j) = (e : Int))
theorem pt_lt {T : Nat → Nat → Int} {n s e : Nat} (h : tB T n s) (he : e < n) : pt T e < 4 ∧ T 2 e = (pt T e : Int) := by
  have := (h.2.1 e he).2.1
  unfold pt
  omega
theorem ln_eq {T : Nat → Nat → Int} {n s p : Nat} (h : tB T n s) (hp : p < 4) : T 6 p = (ln T p : Int) ∧ ln T p ≤ 10 := by
  have := tB_line h hp
  unfold ln
  omega
theorem pl_spec {T : Nat → Nat → Int} {n s e : Nat} (h : tB T n s) (he : e < n) : pl T e < ln T (pt T e) ∧ T 7 (pt T e * 10 + pl T e) = (e : Int) := by
  have h1 := @Classical.epsilon_spec Nat (fun j => (j : Int) < T 6 (T 2 e).toNat ∧ T 7 ((T 2 e).toNat * 10 + j) = (e : Int)) (h.2.2.2.2.2.2.2.1 e he)
  have h2 := ln_eq h (pt_lt h he).1
  have h3 : (pl T e : Int) < T 6 (pt T e) := h1.1
  exact ⟨by omega, h1.2⟩
theorem ln_inj {T : Nat → Nat → Int} {n s p i j : Nat} (h : tB T n s) (hp : p < 4) (hi : i < ln T p) (hj : j < ln T p) (he : T 7 (p * 10 + i) = T 7 (p * 10 + j)) : i = j := by
  have h2 := ln_eq h hp
  have h3 := h.2.2.2.2.2.2.1 p hp
  rcases Nat.lt_trichotomy i j with q | q | q
  · have := h3 i j q (by omega); omega
  · exact q
  · have := h3 j i q (by omega); omega
theorem pl_at {T : Nat → Nat → Int} {n s p j : Nat} (h : tB T n s) (hp : p < 4) (hj : j < ln T p) : ∃ e : Nat, T 7 (p * 10 + j) = (e : Int) ∧ e < n ∧ pt T e = p ∧ pl T e = j := by
  have h2 := ln_eq h hp
  obtain ⟨e, e1, e2, e3⟩ := h.2.2.2.2.2.1 p hp j (by omega)
  have e4 : pt T e = p := by unfold pt; omega
  have h5 := pl_spec h e2
  rw [e4] at h5
  exact ⟨e, e1, e2, e4, ln_inj h hp h5.1 hj (h5.2.trans e1.symm)⟩
noncomputable def dnb (T : Nat → Nat → Int) (x : Nat → Nat) (e : Nat) : Bool := decide (pl T e < x (pt T e))
def con (T : Nat → Nat → Int) (n : Nat) (x : Nat → Nat) : Prop := ∀ e, e < n → T 1 e = 1 → dnb T x e = true → dnb T x (mt T e) = true
noncomputable def unp (T : Nat → Nat → Int) (x : Nat → Nat) (e : Nat) : Bool := decide (T 1 e = 0) && (dnb T x e && !dnb T x (mt T e))
noncomputable def und (T : Nat → Nat → Int) (n : Nat) (x : Nat → Nat) : Nat := dt_ct (unp T x) n
theorem mt_lt {T : Nat → Nat → Int} {n s e : Nat} (h : tV T n s) (he : e < n) : mt T e < n ∧ mt T (mt T e) = e ∧ T 1 (mt T e) = 1 - T 1 e ∧ (T 1 e = 1 → mt T e < e) := by
  rcases (h.1.2.1 e he).1 with q | q
  · obtain ⟨m, m1, m2, m3, m4, m5⟩ := tV_mate h he q
    have : mt T e = m := by unfold mt; omega
    rw [this]
    refine ⟨m3, ?_, by omega, fun z => by omega⟩
    unfold mt
    omega
  · obtain ⟨m, m1, m2, m3, m4, m5⟩ := h.1.2.2.1 e he q
    have : mt T e = m := by unfold mt; omega
    rw [this]
    refine ⟨by omega, ?_, by omega, fun z => by omega⟩
    unfold mt
    omega
theorem dnb_cong {T : Nat → Nat → Int} {n s e : Nat} {x y : Nat → Nat} (h : tB T n s) (he : e < n) (hx : ∀ p, p < 4 → x p = y p) : dnb T x e = dnb T y e := by
  unfold dnb
  rw [hx _ (pt_lt h he).1]
theorem con_cong {T : Nat → Nat → Int} {n s : Nat} {x y : Nat → Nat} (h : tV T n s) (hx : ∀ p, p < 4 → x p = y p) : con T n x ↔ con T n y := by
  unfold con
  constructor
  · intro q e he t d
    rw [← dnb_cong h.1 (mt_lt h he).1 hx]
    exact q e he t (by rw [dnb_cong h.1 he hx]; exact d)
  · intro q e he t d
    rw [dnb_cong h.1 (mt_lt h he).1 hx]
    exact q e he t (by rw [← dnb_cong h.1 he hx]; exact d)
theorem und_cong {T : Nat → Nat → Int} {n s : Nat} {x y : Nat → Nat} (h : tV T n s) (hx : ∀ p, p < 4 → x p = y p) : und T n x = und T n y := by
  unfold und
  refine ct_cong (fun e he => ?_)
  unfold unp
  rw [dnb_cong h.1 he hx, dnb_cong h.1 (mt_lt h he).1 hx]
/-- the next event of a line -/
theorem dn_up {T : Nat → Nat → Int} {n s p e f : Nat} {x : Nat → Nat} (h : tB T n s) (hp : p < 4) (hl : x p < ln T p) (he : T 7 (p * 10 + x p) = (e : Int)) (hf : f < n) : dnb T (xu x p (x p + 1)) f = (dnb T x f || decide (f = e)) := by
  obtain ⟨e', a1, a2, a3, a4⟩ := pl_at h hp hl
  have : e' = e := by omega
  subst this
  unfold dnb
  by_cases hq : pt T f = p
  · rw [hq, xu_1]
    have h5 := pl_spec h hf
    rw [hq] at h5
    by_cases hfe : f = e'
    · subst hfe
      rw [a4]
      simp
    · have : pl T f ≠ x p := fun q => by rw [q] at h5; omega
      by_cases hlt : pl T f < x p
      · simp [hlt, show pl T f < x p + 1 by omega]
      · simp [hlt, hfe, show ¬ pl T f < x p + 1 by omega]
  · rw [xu_2 hq]
    have : f ≠ e' := fun q => hq (by rw [q]; exact a3)
    simp [this]
theorem dn_e {T : Nat → Nat → Int} {n s p e : Nat} {x : Nat → Nat} (h : tB T n s) (hp : p < 4) (hl : x p < ln T p) (he : T 7 (p * 10 + x p) = (e : Int)) : e < n ∧ pt T e = p ∧ dnb T x e = false := by
  obtain ⟨e', a1, a2, a3, a4⟩ := pl_at h hp hl
  have : e' = e := by omega
  subst this
  refine ⟨a2, a3, ?_⟩
  unfold dnb
  rw [a3, a4]
  simp
theorem con_up {T : Nat → Nat → Int} {n s p e : Nat} {x : Nat → Nat} (h : tV T n s) (hp : p < 4) (hl : x p < ln T p) (he : T 7 (p * 10 + x p) = (e : Int)) (hc : con T n x) : con T n (xu x p (x p + 1)) ↔ (T 1 e = 0 ∨ dnb T x (mt T e) = true) := by
  obtain ⟨e1, e2, e3⟩ := dn_e h.1 hp hl he
  constructor
  · intro q
    rcases (h.1.2.1 e e1).1 with t | t
    · exact Or.inl t
    · right
      have h1 := q e e1 t (by rw [dn_up h.1 hp hl he e1]; simp)
      rw [dn_up h.1 hp hl he (mt_lt h e1).1] at h1
      have : mt T e ≠ e := by have := (mt_lt h e1).2.2.2 t; omega
      simpa [this] using h1
  · intro q f hf t d
    rw [dn_up h.1 hp hl he hf] at d
    rw [dn_up h.1 hp hl he (mt_lt h hf).1]
    by_cases hfe : f = e
    · subst hfe
      rcases q with q | q
      · omega
      · rw [q]; rfl
    · have : dnb T x f = true := by simpa [hfe] using d
      rw [hc f hf t this]; rfl
theorem und_up {T : Nat → Nat → Int} {n s p e : Nat} {x : Nat → Nat} (h : tV T n s) (hp : p < 4) (hl : x p < ln T p) (he : T 7 (p * 10 + x p) = (e : Int)) (hc : con T n x) (hy : con T n (xu x p (x p + 1))) : (und T n (xu x p (x p + 1)) : Int) = (und T n x : Int) + (if T 1 e = 0 then 1 else -1) := by
  obtain ⟨e1, e2, e3⟩ := dn_e h.1 hp hl he
  have hq := (con_up h hp hl he hc).mp hy
  have hm := mt_lt h e1
  by_cases t : T 1 e = 0
  · rw [if_pos t]
    have md : dnb T x (mt T e) = false := by
      cases hd : dnb T x (mt T e) with
      | false => rfl
      | true =>
        have := hc (mt T e) hm.1 (by omega) hd
        rw [hm.2.1, e3] at this
        cases this
    have key : und T n (xu x p (x p + 1)) = und T n x + 1 := by
      unfold und
      refine ct_flip (e := e) ?_ ?_ e1 (fun f hf hne => ?_)
      · unfold unp
        rw [dn_up h.1 hp hl he e1, dn_up h.1 hp hl he hm.1, md]
        have : mt T e ≠ e := fun z => by have := hm.2.2.1; rw [z] at this; omega
        simp [t, this]
      · unfold unp
        rw [e3]; simp
      · unfold unp
        rw [dn_up h.1 hp hl he hf, dn_up h.1 hp hl he (mt_lt h hf).1]
        by_cases tf : T 1 f = 0
        · have : mt T f ≠ e := fun z => by have := (mt_lt h hf).2.2.1; rw [z] at this; omega
          simp [hne, this]
        · simp [tf]
    omega
  · have t1 : T 1 e = 1 := by rcases (h.1.2.1 e e1).1 with q | q; exact absurd q t; exact q
    rw [if_neg t]
    have md : dnb T x (mt T e) = true := by rcases hq with q | q; exact absurd q t; exact q
    have key : und T n x = und T n (xu x p (x p + 1)) + 1 := by
      unfold und
      refine ct_flip (e := mt T e) ?_ ?_ hm.1 (fun f hf hne => ?_)
      · unfold unp
        rw [md, hm.2.1, e3]
        have : T 1 (mt T e) = 0 := by omega
        simp [this]
      · unfold unp
        rw [hm.2.1, dn_up h.1 hp hl he e1]
        simp
      · unfold unp
        rw [dn_up h.1 hp hl he hf, dn_up h.1 hp hl he (mt_lt h hf).1]
        by_cases tf : T 1 f = 0
        · have h1 : f ≠ e := fun z => by subst z; omega
          have h2 : mt T f ≠ e := fun z => hne (by rw [← z]; exact (mt_lt h hf).2.1.symm)
          simp [h1, h2]
        · simp [tf]
    omega
theorem und_le {T : Nat → Nat → Int} {n s : Nat} {x : Nat → Nat} (h : tV T n s) : und T n x ≤ 10 := by
  have h1 : und T n x ≤ dt_ct (tk_is T) n := ct_sub (fun e _ q => by
    unfold unp at q
    unfold tk_is
    simp at q
    simp [q.1])
  have := h.1.2.2.2.2.2.2.2.2.2.2
  have := h.1.1.2.2.1
  omega
/-- the lowest of a kind -/
theorem ex_min {P : Nat → Prop} {n : Nat} (h : ∃ e, e < n ∧ P e) : ∃ e, e < n ∧ P e ∧ ∀ f, f < e → ¬ P f := by
  obtain ⟨e, h1, h2⟩ := h
  induction e using Nat.strongRecOn with
  | _ e ih =>
    by_cases q : ∃ f, f < e ∧ P f
    · obtain ⟨f, f1, f2⟩ := q
      exact ih f f1 (by omega) f2
    · exact ⟨e, h1, h2, fun f hf z => q ⟨f, hf, z⟩⟩
theorem ex_max {P : Nat → Prop} {n : Nat} (h : ∃ e, e < n ∧ P e) : ∃ e, e < n ∧ P e ∧ ∀ f, e < f → f < n → ¬ P f := by
  obtain ⟨e, h1, h2, h3⟩ := ex_min (P := fun k => P (n - 1 - k)) (n := n) (by obtain ⟨e, h1, h2⟩ := h; exact ⟨n - 1 - e, by omega, by rw [show n - 1 - (n - 1 - e) = e by omega]; exact h2⟩)
  refine ⟨n - 1 - e, by omega, h2, fun f hf hn z => h3 (n - 1 - f) (by omega) ?_⟩
  show P (n - 1 - (n - 1 - f))
  rw [show n - 1 - (n - 1 - f) = f by omega]
  exact z
/-- a moment that is not the last goes on -/
theorem con_on {T : Nat → Nat → Int} {n s p : Nat} {x : Nat → Nat} (h : tV T n s) (hp : p < 4) (hl : x p < ln T p) (hc : con T n x) : ∃ q, q < 4 ∧ x q < ln T q ∧ con T n (xu x q (x q + 1)) := by
  obtain ⟨e0, z1, z2, z3, z4⟩ := pl_at h.1 hp hl
  obtain ⟨e, e1, e2, e3⟩ := ex_min (P := fun e => dnb T x e = false) (n := n) ⟨e0, z2, (dn_e h.1 hp hl z1).2.2⟩
  have hq := pt_lt h.1 e1
  have hs := pl_spec h.1 e1
  have hge : x (pt T e) ≤ pl T e := by
    unfold dnb at e2
    have := of_decide_eq_false e2
    omega
  have hxl : x (pt T e) < ln T (pt T e) := by omega
  obtain ⟨e', a1, a2, a3, a4⟩ := pl_at h.1 hq.1 hxl
  have hle : e' ≤ e := by
    by_cases hxe : x (pt T e) = pl T e
    · rw [hxe, hs.2] at a1; omega
    · have := h.1.2.2.2.2.2.2.1 (pt T e) hq.1 (x (pt T e)) (pl T e) (by omega) (by have := ln_eq h.1 hq.1; omega)
      omega
  have : e' = e := by
    rcases Nat.lt_or_eq_of_le hle with q | q
    · exact absurd (dn_e h.1 hq.1 hxl a1).2.2 (e3 e' q)
    · exact q
  subst this
  refine ⟨pt T e', hq.1, hxl, (con_up h hq.1 hxl a1 hc).mpr ?_⟩
  rcases (h.1.2.1 e' e1).1 with t | t
  · exact Or.inl t
  · right
    have := (mt_lt h e1).2.2.2 t
    cases hd : dnb T x (mt T e') with
    | true => rfl
    | false => exact absurd hd (e3 _ this)
/-- a moment that is not the first has one before it -/
theorem con_of {T : Nat → Nat → Int} {n s p : Nat} {x : Nat → Nat} (h : tV T n s) (hx : ∀ q, q < 4 → x q ≤ ln T q) (hp : p < 4) (hl : 0 < x p) (hc : con T n x) : ∃ q, q < 4 ∧ 0 < x q ∧ con T n (xu x q (x q - 1)) := by
  have xp := hx p hp
  obtain ⟨e0, z1, z2, z3, z4⟩ := pl_at h.1 (j := x p - 1) hp (by omega)
  obtain ⟨e, e1, e2, e3⟩ := ex_max (P := fun e => dnb T x e = true) (n := n) ⟨e0, z2, by
    show decide (pl T e0 < x (pt T e0)) = true
    rw [z3, z4]
    exact decide_eq_true (by omega)⟩
  have hq := pt_lt h.1 e1
  have hs := pl_spec h.1 e1
  have hlt : pl T e < x (pt T e) := by
    unfold dnb at e2
    exact of_decide_eq_true e2
  have hxq := hx (pt T e) hq.1
  obtain ⟨e', a1, a2, a3, a4⟩ := pl_at h.1 (j := x (pt T e) - 1) hq.1 (by omega)
  have hde : dnb T x e' = true := by
    unfold dnb
    rw [a3, a4]
    exact decide_eq_true (by omega)
  have hle : e ≤ e' := by
    by_cases hxe : x (pt T e) - 1 = pl T e
    · rw [hxe, hs.2] at a1; omega
    · have := h.1.2.2.2.2.2.2.1 (pt T e) hq.1 (pl T e) (x (pt T e) - 1) (by omega) (by have := ln_eq h.1 hq.1; omega)
      omega
  have : e' = e := by
    rcases Nat.lt_or_eq_of_le hle with q | q
    · exact absurd hde (e3 e' q a2)
    · exact q.symm
  subst this
  refine ⟨pt T e', hq.1, by omega, fun f hf t d => ?_⟩
  have back : ∀ g, g < n → dnb T x g = (dnb T (xu x (pt T e') (x (pt T e') - 1)) g || decide (g = e')) := by
    intro g hg
    have hh := dn_up (x := xu x (pt T e') (x (pt T e') - 1)) (e := e') h.1 hq.1 (by rw [xu_1]; omega) (by rw [xu_1]; exact a1) hg
    rw [← hh]
    refine dnb_cong h.1 hg (fun q _ => ?_)
    by_cases z : q = pt T e'
    · subst z; rw [xu_1, xu_1]; omega
    · rw [xu_2 z, xu_2 z]
  have h1 := back f hf
  rw [d] at h1
  have h2 := hc f hf t (by rw [h1]; rfl)
  have h3 := back (mt T f) (mt_lt h hf).1
  rw [h2] at h3
  by_cases z : mt T f = e'
  · exfalso
    have := (mt_lt h hf).2.2.2 t
    exact e3 f (by omega) hf (by rw [h1]; rfl)
  · simpa [z] using h3.symm
theorem con_0 {T : Nat → Nat → Int} {n : Nat} {x : Nat → Nat} (h : ∀ p, x p = 0) : con T n x := fun e _ _ d => by
  unfold dnb at d
  rw [h] at d
  simp at d
theorem und_0 {T : Nat → Nat → Int} {x : Nat → Nat} (h : ∀ p, x p = 0) : ∀ n, und T n x = 0
  | 0 => rfl
  | n + 1 => by
    have h1 := und_0 (T := T) h n
    unfold und at h1 ⊢
    show dt_ct (unp T x) n + _ = 0
    rw [h1]
    unfold unp dnb
    rw [h]
    simp
theorem con_all {T : Nat → Nat → Int} {n s : Nat} {x : Nat → Nat} (h : tV T n s) (hx : ∀ q, q < 4 → x q = ln T q) : con T n x ∧ und T n x = 0 := by
  have hd : ∀ e, e < n → dnb T x e = true := fun e he => by
    unfold dnb
    rw [hx _ (pt_lt h.1 he).1]
    exact decide_eq_true (pl_spec h.1 he).1
  refine ⟨fun e he _ _ => hd _ (mt_lt h he).1, ?_⟩
  unfold und
  have : ∀ m, m ≤ n → dt_ct (unp T x) m = 0 := by
    intro m
    induction m with
    | zero => intro _; rfl
    | succ m ih =>
      intro hm
      show dt_ct (unp T x) m + _ = 0
      rw [ih (by omega)]
      unfold unp
      rw [hd _ (mt_lt h (show m < n by omega)).1]
      simp
  exact this n (Nat.le_refl n)
def lnb (T : Nat → Nat → Int) (p : Int) (e : Nat) : Bool := decide (T 2 e = p)
/-- the lines hold no more than all events -/
theorem ln_ct {T : Nat → Nat → Int} {n s p : Nat} (h : tB T n s) (hp : p < 4) : ln T p ≤ dt_ct (lnb T p) n := by
  have key : ∀ j, j ≤ ln T p → (j = 0 ∨ ∃ e : Nat, T 7 (p * 10 + (j - 1)) = (e : Int) ∧ e < n ∧ j ≤ dt_ct (lnb T p) (e + 1)) := by
    intro j
    induction j with
    | zero => intro _; exact Or.inl rfl
    | succ j ih =>
      intro hj
      right
      obtain ⟨e, e1, e2, e3, e4⟩ := pl_at h (j := j) hp (by omega)
      have t2 := (pt_lt h e2).2
      rw [e3] at t2
      refine ⟨e, by rw [show j + 1 - 1 = j by omega]; exact e1, e2, ?_⟩
      have hs : dt_ct (lnb T p) (e + 1) = dt_ct (lnb T p) e + 1 := by
        show dt_ct (lnb T p) e + (if lnb T p e then 1 else 0) = _
        rw [show lnb T p e = true from decide_eq_true t2]
        rfl
      rcases ih (by omega) with q | ⟨f, f1, f2, f3⟩
      · omega
      · by_cases j0 : j = 0
        · omega
        · have := h.2.2.2.2.2.2.1 p hp (j - 1) j (by omega) (by have := ln_eq h hp; omega)
          have := ct_mono (lnb T p) (m := f + 1) (n := e) (by omega)
          omega
  rcases key (ln T p) (Nat.le_refl _) with q | ⟨e, _, e2, e3⟩
  · omega
  · exact Nat.le_trans e3 (ct_mono _ e2)
theorem ln_sum {T : Nat → Nat → Int} {n s : Nat} (h : tB T n s) : ln T 0 + ln T 1 + ln T 2 + ln T 3 ≤ n := by
  have key : ∀ m, m ≤ n → dt_ct (lnb T 0) m + dt_ct (lnb T 1) m + dt_ct (lnb T 2) m + dt_ct (lnb T 3) m = m := by
    intro m
    induction m with
    | zero => intro _; rfl
    | succ m ih =>
      intro hm
      have h1 := ih (by omega)
      have h2 := (h.2.1 m (by omega)).2.1
      show dt_ct _ m + _ + (dt_ct _ m + _) + (dt_ct _ m + _) + (dt_ct _ m + _) = m + 1
      have h3 : T 2 m = 0 ∨ T 2 m = 1 ∨ T 2 m = 2 ∨ T 2 m = 3 := by omega
      unfold lnb
      unfold lnb at h1
      rcases h3 with q | q | q | q <;> simp only [q] <;> simp <;> omega
  have := key n (Nat.le_refl n)
  have q0 : _ ≤ dt_ct (lnb T 0) n := ln_ct h (p := 0) (by omega)
  have q1 : _ ≤ dt_ct (lnb T 1) n := ln_ct h (p := 1) (by omega)
  have q2 : _ ≤ dt_ct (lnb T 2) n := ln_ct h (p := 2) (by omega)
  have q3 : _ ≤ dt_ct (lnb T 3) n := ln_ct h (p := 3) (by omega)
  omega
theorem cu_many {T : Nat → Nat → Int} {n s : Nat} (h : tB T n s) : st (ln T) 4 ≤ 1296 := st_4 (by have := ln_sum h; have := h.1; omega)
