/-! ===== what a text says: events one after another ===== -/
noncomputable def tx (x : Nat → Int) (L a : Nat) : Nat × Int × Nat := @Classical.epsilon (Nat × Int × Nat) ⟨(0, 0, 0)⟩ (fun q => tx_t x L a q.1 q.2.1 q.2.2)
theorem tx_e {x : Nat → Int} {L a b c : Nat} {k : Int} (h : tx_t x L a b k c) : tx x L a = (b, k, c) := by
  have h1 : tx_t x L a (tx x L a).1 (tx x L a).2.1 (tx x L a).2.2 := Classical.epsilon_spec (p := fun q : Nat × Int × Nat => tx_t x L a q.1 q.2.1 q.2.2) ⟨(b, k, c), h⟩
  obtain ⟨e1, e2, e3⟩ := tx_t_u h1 h
  exact Prod.ext e1 (Prod.ext e2 e3)
noncomputable def evT (U : Nat → Nat → Int) (v k1 k2 k3 : Int) : Nat → Nat → Int := if v = 11 then tk_tk U (k1 - 20) (k2 - 20) k3 (tk_w U (k1 - 20) (k2 - 20) k3) else tk_sd U (k1 - 20) (k2 - 20) k3
noncomputable def ev4 (x : Nat → Int) (L : Nat) (U : Nat → Nat → Int) (v k1 k2 k3 : Int) (a : Nat) : Nat ⊕ ((Nat → Nat → Int) × Nat) := if (tx x L a).2.1 = 30 then .inr (evT U v k1 k2 k3, (tx x L a).2.2) else .inl (tx x L a).1
noncomputable def ev3 (x : Nat → Int) (L : Nat) (U : Nat → Nat → Int) (v k1 k2 : Int) (a : Nat) : Nat ⊕ ((Nat → Nat → Int) × Nat) := if (0 ≤ (tx x L a).2.1 ∧ (tx x L a).2.1 ≤ 7) ∧ ¬ (v = 11 ∧ tk_w U (k1 - 20) (k2 - 20) (tx x L a).2.1 = -1) then ev4 x L U v k1 k2 (tx x L a).2.1 (tx x L a).2.2 else .inl (tx x L a).1
noncomputable def ev2 (x : Nat → Int) (L : Nat) (U : Nat → Nat → Int) (v k1 : Int) (a : Nat) : Nat ⊕ ((Nat → Nat → Int) × Nat) := if (20 ≤ (tx x L a).2.1 ∧ (tx x L a).2.1 ≤ 23) ∧ (tx x L a).2.1 ≠ k1 then ev3 x L U v k1 (tx x L a).2.1 (tx x L a).2.2 else .inl (tx x L a).1
/-- an event behind its word -/
noncomputable def ev (x : Nat → Int) (L : Nat) (U : Nat → Nat → Int) (v : Int) (a : Nat) : Nat ⊕ ((Nat → Nat → Int) × Nat) := if 20 ≤ (tx x L a).2.1 ∧ (tx x L a).2.1 ≤ 23 then ev2 x L U v (tx x L a).2.1 (tx x L a).2.2 else .inl (tx x L a).1
section EV
variable {x : Nat → Int} {L a b c : Nat} {U : Nat → Nat → Int} {v k k1 k2 k3 : Int}
theorem ev_n (h : tx_t x L a b k c) (q : ¬ (20 ≤ k ∧ k ≤ 23)) : ev x L U v a = .inl b := by unfold ev; rw [tx_e h]; exact if_neg q
theorem ev_y (h : tx_t x L a b k c) (q : 20 ≤ k ∧ k ≤ 23) : ev x L U v a = ev2 x L U v k c := by unfold ev; rw [tx_e h]; exact if_pos q
theorem ev2_n (h : tx_t x L a b k c) (q : ¬ ((20 ≤ k ∧ k ≤ 23) ∧ k ≠ k1)) : ev2 x L U v k1 a = .inl b := by unfold ev2; rw [tx_e h]; exact if_neg q
theorem ev2_y (h : tx_t x L a b k c) (q : (20 ≤ k ∧ k ≤ 23) ∧ k ≠ k1) : ev2 x L U v k1 a = ev3 x L U v k1 k c := by unfold ev2; rw [tx_e h]; exact if_pos q
theorem ev3_n (h : tx_t x L a b k c) (q : ¬ ((0 ≤ k ∧ k ≤ 7) ∧ ¬ (v = 11 ∧ tk_w U (k1 - 20) (k2 - 20) k = -1))) : ev3 x L U v k1 k2 a = .inl b := by unfold ev3; rw [tx_e h]; exact if_neg q
theorem ev3_y (h : tx_t x L a b k c) (q : (0 ≤ k ∧ k ≤ 7) ∧ ¬ (v = 11 ∧ tk_w U (k1 - 20) (k2 - 20) k = -1)) : ev3 x L U v k1 k2 a = ev4 x L U v k1 k2 k c := by unfold ev3; rw [tx_e h]; exact if_pos q
theorem ev4_n (h : tx_t x L a b k c) (q : ¬ k = 30) : ev4 x L U v k1 k2 k3 a = .inl b := by unfold ev4; rw [tx_e h]; exact if_neg q
theorem ev4_y (h : tx_t x L a b k c) (q : k = 30) : ev4 x L U v k1 k2 k3 a = .inr (evT U v k1 k2 k3, c) := by unfold ev4; rw [tx_e h]; exact if_pos q
end EV
/-- the talk with one event more is built -/
theorem evT_B {U : Nat → Nat → Int} {n s : Nat} {v k1 k2 k3 : Int} (hB : tB U n s) (hS : tS U n) (hv : (v = 10 ∧ s < 10) ∨ v = 11) (q1 : 20 ≤ k1 ∧ k1 ≤ 23) (q2 : (20 ≤ k2 ∧ k2 ≤ 23) ∧ k2 ≠ k1) (q3 : (0 ≤ k3 ∧ k3 ≤ 7) ∧ ¬ (v = 11 ∧ tk_w U (k1 - 20) (k2 - 20) k3 = -1)) : n < 20 ∧ ∃ s', tB (evT U v k1 k2 k3) (n + 1) s' ∧ tS (evT U v k1 k2 k3) (n + 1) := by
  unfold evT
  rcases hv with ⟨hv, hs⟩ | hv
  · rw [if_neg (by omega)]
    have hb := tB_sd (f := k1 - 20) (t := k2 - 20) (w := k3) hB hs (by omega) (by omega) (by omega) (by omega)
    refine ⟨by have := hB.1; omega, s + 1, hb, tS_sd hS hB hs (by omega) (by omega) (by omega) (by omega)⟩
  · rw [if_pos hv]
    have hw : tk_w U (k1 - 20) (k2 - 20) k3 ≠ -1 := fun z => q3.2 ⟨hv, z⟩
    have hb := tB_tk hB hw
    refine ⟨by have := hb.2.1; have := hB.1; omega, s, hb.1, tS_tk hS hB hw⟩
noncomputable def ps (x : Nat → Int) (L : Nat) : Nat → (Nat → Nat → Int) → Nat → Nat ⊕ (Nat → Nat → Int)
  | 0, _, _ => .inl 0
  | n + 1, U, a => if (tx x L a).2.1 = 40 then (if U 0 7 = 2 * U 0 8 then .inr U else .inl L) else if ((tx x L a).2.1 = 10 ∧ U 0 8 < 10) ∨ (tx x L a).2.1 = 11 then (match ev x L U (tx x L a).2.1 (tx x L a).2.2 with
    | .inl f => .inl f
    | .inr q => ps x L n q.1 q.2) else .inl (tx x L a).1
section PS
variable {x : Nat → Int} {L a b c n : Nat} {U : Nat → Nat → Int} {k : Int}
theorem ps_e (h : tx_t x L a b k c) (q : k = 40) : ps x L (n + 1) U a = (if U 0 7 = 2 * U 0 8 then .inr U else .inl L) := by
  unfold ps; rw [tx_e h]; exact if_pos q
theorem ps_n (h : tx_t x L a b k c) (q : k ≠ 40) (q2 : ¬ ((k = 10 ∧ U 0 8 < 10) ∨ k = 11)) : ps x L (n + 1) U a = .inl b := by
  unfold ps; rw [tx_e h]; dsimp only; rw [if_neg q, if_neg q2]
theorem ps_f {f : Nat} (h : tx_t x L a b k c) (q2 : (k = 10 ∧ U 0 8 < 10) ∨ k = 11) (he : ev x L U k c = .inl f) : ps x L (n + 1) U a = .inl f := by
  unfold ps; rw [tx_e h]; dsimp only; rw [if_neg (by omega), if_pos q2, he]
theorem ps_y {U' : Nat → Nat → Int} {a' : Nat} (h : tx_t x L a b k c) (q2 : (k = 10 ∧ U 0 8 < 10) ∨ k = 11) (he : ev x L U k c = .inr (U', a')) : ps x L (n + 1) U a = ps x L n U' a' := by
  conv => lhs; unfold ps
  rw [tx_e h]; dsimp only; rw [if_neg (by omega), if_pos q2, he]
end PS
theorem sd_row {A B : Nat → Nat → Int} (h : ∀ g, g < 8 → A g = B g) (f t w : Int) : ∀ g, g < 8 → tk_sd A f t w g = tk_sd B f t w g := fun g hg => cp_row (T := fun g _ => match g with | 1 => 0 | 2 => f | 3 => t | _ => w) (e := 0) h g hg
theorem tk_row {A B : Nat → Nat → Int} (h : ∀ g, g < 8 → A g = B g) (f t w : Int) : ∀ g, g < 8 → tk_tk A f t w (tk_w A f t w) g = tk_tk B f t w (tk_w B f t w) g := fun g hg => cp_row (T := fun g _ => match g with | 1 => 1 | 2 => t | 3 => f | _ => w) (e := 0) h g hg
/-- nothing has changed but the reader and the talk that is built -/
def efr (M M' : dt_M) : Prop := (∀ a, (a < 34 ∨ 43 ≤ a) → M'.1 a = M.1 a) ∧ M'.1 42 1 = M.1 42 1 ∧ M'.2 = M.2
theorem efr.rf {M : dt_M} : efr M M := ⟨fun _ _ => rfl, rfl, rfl⟩
theorem efr.tr {M M1 M2 : dt_M} (h : efr M M1) (k : efr M1 M2) : efr M M2 := ⟨fun a x => (k.1 a x).trans (h.1 a x), k.2.1.trans h.2.1, k.2.2.trans h.2.2⟩
theorem efr_q {M M' : dt_M} (h : qfr M M') : efr M M' := ⟨fun a x => h.1 a (by omega), h.2.1, h.2.2⟩
theorem efr_t {M M' : dt_M} (h : tk_fr M M' 34) : efr M M' := ⟨fun a x => h.1 a (by omega), by rw [h.1 42 (by omega)], h.2⟩
theorem qfr.tk {M M' : dt_M} {U : Nat → Nat → Int} (h : qfr M M') (k : ∀ g, g < 8 → tk M 34 g = U g) : ∀ g, g < 8 → tk M' 34 g = U g := fun g hg => by
  rw [← k g hg]
  exact h.1 (34 + g) (by omega)
/-- how an event read ends -/
def evR (x : Nat → Int) (L : Nat) (U : Nat → Nat → Int) (k : Int) (a : Nat) (M M' : dt_M) (r : Option dt_V) : Prop := efr M M' ∧ ((∃ f, ev x L U k a = .inl f ∧ r = some (.inl 0) ∧ M'.1 42 3 = (f : Int) ∧ f ≤ L) ∨ (∃ U' a', ev x L U k a = .inr (U', a') ∧ r = some (.inl 1) ∧ M'.1 42 2 = (a' : Int) ∧ a' ≤ L ∧ ∀ g, g < 8 → tk M' 34 g = U' g))
theorem c_readEvent (d a L n s : Nat) (k : Int) (M : dt_M) (x : Nat → Int) (U : Nat → Nat → Int) (hT : rtx M x L) (h2 : k ≠ -1 → M.1 42 2 = (a : Int)) (ha : a ≤ L) (hk : tx_k k (M.1 42 4) (M.1 42 5)) (hU : ∀ g, g < 8 → tk M 34 g = U g) (hB : tB U n s) : dt_Sp mX3_readEvent (d + 7) [qRd, qT 34] M (fun r M' => (¬ ((k = 10 ∧ s < 10) ∨ k = 11) ∧ r = some (.inl 0) ∧ M' = M) ∨ (((k = 10 ∧ s < 10) ∨ k = 11) ∧ evR x L U k a M M' r)) := by
  have e7 : M.1 34 7 = (n : Int) := (congrFun (hU 0 (by omega)) 7).trans hB.1.1
  have e8 : M.1 34 8 = (s : Int) := (congrFun (hU 0 (by omega)) 8).trans hB.1.2.1
  have hk' := hk
  unfold tx_k at hk'
  refine dt_meth okX3_readEvent (fun pc => pc == 25) 90 (σ := Int) (fun _ => 25) (fun w => [some qRd, some (qT 34), some (.inl w), none, none, none]) (fun _ => M) (fun w => (k = 11 ∧ w = 1) ∨ (k = 10 ∧ w = 0 ∧ s < 10)) (fun _ => 0) (by decide) (Nat.le_of_ble_eq_true rfl) ?_ ?_
  · intro J hJ
    refine And.intro (fun z => ?_) (fun z => And.intro (fun z2 => ?_) (fun z2 => And.intro (fun z3 => ?_) (fun z3 => ?_)))
    · have z' : M.1 42 4 = 1 := z
      exact hJ (M.1 42 4) _ (Or.inl ⟨by omega, z'⟩) ⟨rfl, rfl, rfl, trivial⟩
    · have z' : ¬ M.1 42 4 = 1 := z
      have z2' : ¬ M.1 42 4 = 0 := z2
      exact ⟨Or.inl rfl, Or.inl ⟨by omega, rfl, rfl⟩⟩
    · have z2' : M.1 42 4 = 0 := z2
      have z3' : M.1 34 8 < 10 := z3
      exact hJ (M.1 42 4) _ (Or.inr ⟨by omega, z2', by omega⟩) ⟨rfl, rfl, rfl, trivial⟩
    · have z' : ¬ M.1 42 4 = 1 := z
      have z3' : 10 ≤ M.1 34 8 := z3
      exact ⟨Or.inl rfl, Or.inl ⟨by omega, rfl, rfl⟩⟩
  · intro w hw J hJ
    have can : (k = 10 ∧ s < 10) ∨ k = 11 := by omega
    have h2' := h2 (by omega)
    have bad : ∀ (M' : dt_M) (f : Nat), efr M M' → ev x L U k a = .inl f → M'.1 42 3 = (f : Int) → f ≤ L → ((0 : Int) = 0 ∨ (0 : Int) = 1) ∧ ((¬ ((k = 10 ∧ s < 10) ∨ k = 11) ∧ (some (.inl 0) : Option dt_V) = some (.inl 0) ∧ M' = M) ∨ (((k = 10 ∧ s < 10) ∨ k = 11) ∧ evR x L U k a M M' (some (.inl 0)))) := fun M' f q1 q2 q3 q4 => ⟨Or.inl rfl, Or.inr ⟨can, q1, Or.inl ⟨f, q2, rfl, q3, q4⟩⟩⟩
    refine Exists.intro _ (And.intro (c_nextIs d a L 2 M x hT h2' ha) ?_)
    rintro r M1 ⟨f1, b1, k1, c1, t1, e31, hk1, e21, rfl⟩
    unfold tx_k at hk1
    have r1 := tx_t_r t1
    by_cases q1 : 20 ≤ k1 ∧ k1 ≤ 23
    · have v14 : M1.1 42 4 = 2 := by omega
      have v15 : M1.1 42 5 = k1 - 20 := by omega
      rw [if_pos v14]
      refine And.intro (fun _ => ?_) (fun h => absurd (show (1 : Int) = 0 from h) (by decide))
      refine Exists.intro _ (And.intro (c_nextIs d c1 L 2 M1 x (f1.tx hT) (e21 (by omega)) (by omega)) ?_)
      rintro r M2 ⟨f2, b2, k2, c2, t2, e32, hk2, e22, rfl⟩
      unfold tx_k at hk2
      have r2 := tx_t_r t2
      have g2 := f1.tr f2
      by_cases q2 : 20 ≤ k2 ∧ k2 ≤ 23
      · have v24 : M2.1 42 4 = 2 := by omega
        have v25 : M2.1 42 5 = k2 - 20 := by omega
        rw [if_pos v24]
        refine And.intro (fun h => absurd (show (1 : Int) = 0 from h) (by decide)) (fun _ => ?_)
        refine And.intro (fun z => ?_) (fun z => ?_)
        · have z' : ¬ M2.1 42 5 = M1.1 42 5 := z
          have q2' : (20 ≤ k2 ∧ k2 ≤ 23) ∧ k2 ≠ k1 := ⟨q2, by omega⟩
          refine Exists.intro _ (And.intro (c_nextIs d c2 L 3 M2 x (g2.tx hT) (e22 (by omega)) (by omega)) ?_)
          rintro r M3 ⟨f3, b3, k3, c3, t3, e33, hk3, e23, rfl⟩
          unfold tx_k at hk3
          have r3 := tx_t_r t3
          have g3 := g2.tr f3
          have hU3 := g3.tk hU
          have m7 : M3.1 34 7 = (n : Int) := (congrFun (hU3 0 (by omega)) 7).trans hB.1.1
          have m8 : M3.1 34 8 = (s : Int) := (congrFun (hU3 0 (by omega)) 8).trans hB.1.2.1
          have n20 := hB.1
          by_cases q3 : 0 ≤ k3 ∧ k3 ≤ 7
          · have v34 : M3.1 42 4 = 3 := by omega
            have v35 : M3.1 42 5 = k3 := by omega
            rw [if_pos v34]
            refine And.intro (fun _ => ?_) (fun h => absurd (show (1 : Int) = 0 from h) (by decide))
            have fin : ((0 ≤ k3 ∧ k3 ≤ 7) ∧ ¬ (k = 11 ∧ tk_w U (k1 - 20) (k2 - 20) k3 = -1)) → ∀ M4, tk_fr M3 M4 34 → (∀ g, g < 8 → tk M4 34 g = evT U k k1 k2 k3 g) → ∃ Ψ : Option dt_V → dt_M → Prop, dt_Sp mX3_nextIs (d + 6) [qRd, .inl 4] M4 Ψ ∧ ∀ rv M', Ψ rv M' → ∃ z : Int, rv = some (.inl z) ∧ (z = 0 ∨ z = 1) ∧ ((¬ ((k = 10 ∧ s < 10) ∨ k = 11) ∧ (some (.inl z) : Option dt_V) = some (.inl 0) ∧ M' = M) ∨ (((k = 10 ∧ s < 10) ∨ k = 11) ∧ evR x L U k a M M' (some (.inl z)))) := by
              intro q3' M4 f4 h4
              have m42 : M4.1 42 = M3.1 42 := f4.1 42 (by omega)
              have tx4 : rtx M4 x L := by
                obtain ⟨p1, p2, p3⟩ := g3.tx hT
                exact ⟨by rw [m42]; exact p1, p2, fun j hj => by rw [f4.1 43 (by omega)]; exact p3 j hj⟩
              refine Exists.intro _ (And.intro (c_nextIs d c3 L 4 M4 x tx4 (by rw [m42]; exact e23 (by omega)) (by omega)) ?_)
              rintro r M5 ⟨f5, b4, k4, c4, t4, e34, hk4, e24, rfl⟩
              unfold tx_k at hk4
              have r4 := tx_t_r t4
              have g5 : efr M M5 := ((efr_q g3).tr (efr_t f4)).tr (efr_q f5)
              by_cases q4 : k4 = 30
              · have v44 : M5.1 42 4 = 4 := by omega
                rw [if_pos v44]
                exact ⟨1, rfl, Or.inr rfl, Or.inr ⟨can, g5, Or.inr ⟨_, _, by rw [ev_y t1 q1, ev2_y t2 q2', ev3_y t3 q3', ev4_y t4 q4], rfl, e24 (by omega), by omega, f5.tk h4⟩⟩⟩
              · have v44 : ¬ M5.1 42 4 = 4 := by omega
                rw [if_neg v44]
                exact ⟨0, rfl, Or.inl rfl, Or.inr ⟨can, g5, Or.inl ⟨b4, by rw [ev_y t1 q1, ev2_y t2 q2', ev3_y t3 q3', ev4_n t4 q4], rfl, e34, by omega⟩⟩⟩
            subst v35
            rw [v15, v25]
            rcases hw with ⟨ek, rfl⟩ | ⟨ek, rfl, hs⟩
            · refine And.intro (fun h => absurd (show (1 : Int) = 1 from rfl) h) (fun _ => ?_)
              refine Exists.intro _ (And.intro (c_firstWaiting _ 34 (k1 - 20) (k2 - 20) _ M3 (by omega)) ?_)
              rintro r M3' ⟨rfl, rfl⟩
              rw [tk_w_row hU3]
              refine And.intro (fun y => ?_) (fun y => ?_)
              · have y' : ¬ tk_w U (k1 - 20) (k2 - 20) (M3'.1 42 5) = -1 := y
                refine And.intro (fun h => absurd (show (1 : Int) = 1 from rfl) h) (fun _ => ?_)
                have hwr : tk_w (tk M3' 34) (k1 - 20) (k2 - 20) (M3'.1 42 5) ≠ -1 := by rw [tk_w_row hU3]; exact y'
                have hb := tB_tk hB y'
                have hlt := tB_line hB (p := (k2 - 20).toNat) (by omega)
                refine Exists.intro _ (And.intro (c_addTake _ 34 (k1 - 20) (k2 - 20) (M3'.1 42 5) M3' (by omega) (by omega) (by have := hb.2.1; omega) (by have e6 := congrFun (hU3 6 (by omega)) (k2 - 20).toNat; unfold tk at e6; rw [e6]; exact ⟨hlt.1, hb.2.2.1⟩) hwr) ?_)
                rintro r M4 ⟨rfl, f4, e4⟩
                obtain ⟨Ψ, p1, p2⟩ := fin ⟨q3, fun h => y' h.2⟩ M4 f4 (fun g hg => by rw [e4, tk_row hU3 _ _ _ g hg]; unfold evT; rw [if_pos ek])
                refine Exists.intro Ψ (And.intro p1 ?_)
                intro rv M' hΨ
                obtain ⟨z, rfl, hz, p3⟩ := p2 rv M' hΨ
                exact ⟨hz, p3⟩
              · have y' : tk_w U (k1 - 20) (k2 - 20) (M3'.1 42 5) = -1 := y
                exact bad M3' b3 (efr_q g3) (by rw [ev_y t1 q1, ev2_y t2 q2', ev3_n t3 (fun h => h.2 ⟨ek, y'⟩)]) e33 (by omega)
            · refine And.intro (fun _ => ?_) (fun h => absurd (show (0 : Int) = 1 from h) (by decide))
              refine And.intro (fun _ => ?_) (fun h => absurd (show (0 : Int) = 1 from h) (by decide))
              have hlt := tB_line hB (p := (k1 - 20).toNat) (by omega)
              refine Exists.intro _ (And.intro (c_addSend _ 34 (k1 - 20) (k2 - 20) (M3.1 42 5) M3 (by omega) (by omega) (by omega) (by omega) (by have e6 := congrFun (hU3 6 (by omega)) (k1 - 20).toNat; unfold tk at e6; rw [e6]; exact ⟨hlt.1, by omega⟩)) ?_)
              rintro r M4 ⟨rfl, f4, e4⟩
              obtain ⟨Ψ, p1, p2⟩ := fin ⟨q3, fun h => by omega⟩ M4 f4 (fun g hg => by rw [e4, sd_row hU3 _ _ _ g hg]; unfold evT; rw [if_neg (by omega)])
              refine Exists.intro Ψ (And.intro p1 ?_)
              intro rv M' hΨ
              obtain ⟨z, rfl, hz, p3⟩ := p2 rv M' hΨ
              exact ⟨hz, p3⟩
          · have v34 : ¬ M3.1 42 4 = 3 := by omega
            rw [if_neg v34]
            refine And.intro (fun h => absurd rfl h) (fun _ => ?_)
            exact bad M3 b3 (efr_q g3) (by rw [ev_y t1 q1, ev2_y t2 q2', ev3_n t3 (fun h => q3 h.1)]) e33 (by omega)
        · have z' : M2.1 42 5 = M1.1 42 5 := z
          exact bad M2 b2 (efr_q g2) (by rw [ev_y t1 q1, ev2_n t2 (fun h => h.2 (by omega))]) e32 (by omega)
      · have v24 : ¬ M2.1 42 4 = 2 := by omega
        rw [if_neg v24]
        refine And.intro (fun _ => ?_) (fun h => absurd rfl h)
        exact bad M2 b2 (efr_q g2) (by rw [ev_y t1 q1, ev2_n t2 (fun h => q2 h.1)]) e32 (by omega)
    · have v14 : ¬ M1.1 42 4 = 2 := by omega
      rw [if_neg v14]
      refine And.intro (fun h => absurd rfl h) (fun _ => ?_)
      exact bad M1 b1 (efr_q f1) (by rw [ev_n t1 q1]) e31 (by omega)
