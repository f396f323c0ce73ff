/-! ===== talk of the Model ===== -/
def zfr (M M' : dt_M) : Prop := (∀ a, a ≠ 62 → (a < 72 ∨ 76 < a) → M'.1 a = M.1 a) ∧ (∀ j, (j < 10 ∨ (12 < j ∧ j < 18) ∨ 20 < j) → M'.1 62 j = M.1 62 j) ∧ M'.2 = M.2
theorem zfr.rf {M : dt_M} : zfr M M := ⟨fun _ _ _ => rfl, fun _ _ => rfl, rfl⟩
theorem zfr.tr {M M1 M2 : dt_M} (h : zfr M M1) (k : zfr M1 M2) : zfr M M2 := ⟨fun a x y => (k.1 a x y).trans (h.1 a x y), fun a x => (k.2.1 a x).trans (h.2.1 a x), k.2.2.trans h.2.2⟩
theorem zfr_u {M M' : dt_M} (h : ufr M M') : zfr M M' := ⟨fun a x _ => h.1 a x, fun j hj => h.2.1 j (by omega), h.2.2⟩
theorem zfr_n {M M' : dt_M} (h : nfr M M') : zfr M M' := ⟨fun a x y => h.1 a x y, fun j hj => h.2.2 j (by omega), h.2.1⟩
theorem zfr.tx {M M' : dt_M} {x : Nat → Int} {L : Nat} (h : zfr M M') (k : mtx M x L) : mtx M' x L := ⟨by rw [h.2.1 8 (by omega)]; exact k.1, k.2.1, fun j hj => by rw [h.1 71 (by decide) (by omega)]; exact k.2.2 j hj⟩
theorem ufr.rn {M M' : dt_M} {U : Nat → Nat → Int} {n s : Nat} (h : ufr M M') (k : rn M U n s) : rn M' U n s := by
  obtain ⟨⟨k1, k2, k3⟩, k4⟩ := k
  refine ⟨⟨by rw [h.2.1 10 (by omega)]; exact k1, by rw [h.2.1 11 (by omega)]; exact k2, by rw [h.2.1 12 (by omega)]; exact k3⟩, fun j hj => ?_⟩
  rw [h.1 72 (by decide), h.1 73 (by decide), h.1 74 (by decide), h.1 75 (by decide), h.1 76 (by decide)]
  exact k4 j hj
/-- how an event read ends, in the Model -/
def evM (x : Nat → Int) (L : Nat) (U : Nat → Nat → Int) (k : Int) (a n : Nat) (M M' : dt_M) (r : Option dt_V) : Prop := zfr M M' ∧ ((∃ f, ev x L U k a = .inl f ∧ r = some (.inl 0) ∧ M'.1 62 19 = (f : Int) ∧ f ≤ L) ∨ (∃ U' a' s', ev x L U k a = .inr (U', a') ∧ r = some (.inl 1) ∧ M'.1 62 18 = (a' : Int) ∧ a' ≤ L ∧ rn M' U' (n + 1) s' ∧ tB U' (n + 1) s'))
theorem k_readsEvent (d a L n s : Nat) (k w : Int) (M : dt_M) (x : Nat → Int) (U : Nat → Nat → Int) (hT : mtx M x L) (h18 : M.1 62 18 = (a : Int)) (ha : a ≤ L) (hw : (k = 11 ∧ w = 1) ∨ (k = 10 ∧ w = 0 ∧ s < 10)) (hR : rn M U n s) (hB : tB U n s) : dt_Sp mX7_readsEvent (d + 3) [qM, .inl w] M (fun r M' => evM x L U k a n M M' r) := by
  have n20 := hB.1
  refine dt_flat okX7_readsEvent 100 (by decide) (Nat.le_of_ble_eq_true rfl) (fun J => ?_)
  have bad : ∀ (M' : dt_M) (f : Nat), zfr M M' → ev x L U k a = .inl f → M'.1 62 19 = (f : Int) → f ≤ L → ((0 : Int) = 0 ∨ (0 : Int) = 1) ∧ evM x L U k a n M M' (some (.inl 0)) := fun M' f q1 q2 q3 q4 => ⟨Or.inl rfl, q1, Or.inl ⟨f, q2, rfl, q3, q4⟩⟩
  refine Exists.intro _ (And.intro (k_readToken _ a L M x hT h18 ha) ?_)
  rintro r M1 ⟨rfl, f1, b1, k1, c1, t1, e91, e01, e81⟩
  have r1 := tx_t_r t1
  refine And.intro (show dt_r (M1.1 62 20 - 20) by rw [e01]; exact ⟨by omega, by omega⟩) ?_
  rw [e01]
  refine Exists.intro _ (And.intro (c_in _ _ _ _ M1) ?_)
  rintro r M1' ⟨rfl, rfl⟩
  by_cases q1 : 20 ≤ k1 ∧ k1 ≤ 23
  · rw [if_pos (show 0 ≤ k1 - 20 ∧ k1 - 20 ≤ 3 by omega)]
    refine And.intro (fun _ => ?_) (fun h => absurd (show (1 : Int) = 0 from h) (by decide))
    refine Exists.intro _ (And.intro (k_readToken _ c1 L M1' x (f1.tx hT) e81 (by omega)) ?_)
    rintro r M2 ⟨rfl, f2, b2, k2, c2, t2, e92, e02, e82⟩
    have r2 := tx_t_r t2
    have g2 := f1.tr f2
    refine And.intro (show dt_r (M2.1 62 20 - 20) by rw [e02]; exact ⟨by omega, by omega⟩) ?_
    rw [e02]
    refine Exists.intro _ (And.intro (c_in _ _ _ _ M2) ?_)
    rintro r M2' ⟨rfl, rfl⟩
    by_cases q2 : 20 ≤ k2 ∧ k2 ≤ 23
    · rw [if_pos (show 0 ≤ k2 - 20 ∧ k2 - 20 ≤ 3 by omega)]
      refine And.intro (fun h => absurd (show (1 : Int) = 0 from h) (by decide)) (fun _ => ?_)
      refine And.intro (fun z => ?_) (fun z => ?_)
      · have z' : ¬ k2 - 20 = k1 - 20 := z
        have q2' : (20 ≤ k2 ∧ k2 ≤ 23) ∧ k2 ≠ k1 := ⟨q2, by omega⟩
        refine Exists.intro _ (And.intro (k_readToken _ c2 L M2' x (g2.tx hT) e82 (by omega)) ?_)
        rintro r M3 ⟨rfl, f3, b3, k3, c3, t3, e93, e03, e83⟩
        have r3 := tx_t_r t3
        have g3 := g2.tr f3
        have hR3 := g3.rn hR
        have nofault : ∀ m : Int, (¬ (0 ≤ k3 ∧ k3 ≤ 7)) → ∃ Ψ : Option dt_V → dt_M → Prop, dt_Sp mX7_in (d + 2) [.inr (.inl k3), .inr (.inl 0), .inr (.inl 7)] M3 Ψ ∧ ∀ rv M', Ψ rv M' → rv = some (.inl 0) ∧ M' = M3 := by
          intro m hm
          refine Exists.intro _ (And.intro (c_in _ _ _ _ M3) ?_)
          rintro rv M' ⟨rfl, rfl⟩
          exact ⟨by rw [if_neg hm], rfl⟩
        rcases hw with ⟨ek, rfl⟩ | ⟨ek, rfl, hs⟩
        · refine And.intro (fun h => absurd (show (1 : Int) = 0 from h) (by decide)) (fun _ => ?_)
          rw [e03]
          refine Exists.intro _ (And.intro (c_in _ _ _ _ M3) ?_)
          rintro r M3' ⟨rfl, rfl⟩
          by_cases q3 : 0 ≤ k3 ∧ k3 ≤ 7
          · rw [if_pos q3]
            refine And.intro (fun h => absurd (show (1 : Int) = 0 from h) (by decide)) (fun _ => ?_)
            refine Exists.intro _ (And.intro (k_openSend _ n s (k1 - 20) (k2 - 20) k3 M3' U hB hR3) ?_)
            rintro r M4 ⟨rfl, rfl⟩
            refine Exists.intro _ (And.intro (c_in _ _ _ _ M4) ?_)
            rintro r M4' ⟨rfl, rfl⟩
            rw [if_pos q3]
            refine And.intro (fun h => absurd (show (1 : Int) = 0 from h) (by decide)) (fun _ => ?_)
            by_cases y : tk_w U (k1 - 20) (k2 - 20) k3 = -1
            · rw [if_pos y]
              refine And.intro (fun h => absurd (show (0 : Int) ≤ -9 from h) (by decide)) (fun _ => ?_)
              exact bad M4' b3 (zfr_u g3) (by rw [ev_y t1 q1, ev2_y t2 q2', ev3_n t3 (fun h => h.2 ⟨ek, y⟩)]) e93 (by omega)
            · rw [if_neg y]
              obtain ⟨i, i1, i2, -⟩ := tk_w_i hB.1.1 y
              rw [i2]
              refine And.intro (fun _ => ?_) (fun h => absurd (show (i : Int) < 0 from h) (by omega))
              have q3' : (0 ≤ k3 ∧ k3 ≤ 7) ∧ ¬ (k = 11 ∧ tk_w U (k1 - 20) (k2 - 20) k3 = -1) := ⟨q3, fun h => y h.2⟩
              refine Exists.intro _ (And.intro (k_readToken _ c3 L M4' x (g3.tx hT) e83 (by omega)) ?_)
              rintro r M5 ⟨rfl, f5, b4, k4, c4, t4, e94, e04, e84⟩
              have r4 := tx_t_r t4
              have g5 := g3.tr f5
              refine And.intro (fun q4 => ?_) (fun q4 => ?_)
              · have q4' : M5.1 62 20 = 30 := q4
                refine And.intro (fun h => absurd (show (1 : Int) = 0 from h) (by decide)) (fun _ => ?_)
                have hb := tB_tk hB y
                refine Exists.intro _ (And.intro (k_addTake _ n s i (k1 - 20) (k2 - 20) k3 M5 U hB i1 hb.2.1 (g5.rn hR)) ?_)
                rintro r M6 ⟨rfl, f6, hR6⟩
                rw [← i2] at hR6
                refine ⟨Or.inr rfl, (zfr_u g5).tr (zfr_n f6), Or.inr ⟨evT U k k1 k2 k3, c4, s, by rw [ev_y t1 q1, ev2_y t2 q2', ev3_y t3 q3', ev4_y t4 (by omega)], rfl, by rw [f6.2.2 18 (by omega)]; exact e84, by omega, ?_, ?_⟩⟩
                · unfold evT; rw [if_pos ek]; exact hR6
                · unfold evT; rw [if_pos ek]; exact hb.1
              · have q4' : ¬ M5.1 62 20 = 30 := q4
                exact bad M5 b4 (zfr_u g5) (by rw [ev_y t1 q1, ev2_y t2 q2', ev3_y t3 q3', ev4_n t4 (by omega)]) e94 (by omega)
          · rw [if_neg q3]
            refine And.intro (fun _ => ?_) (fun h => absurd rfl h)
            obtain ⟨Ψ, p1, p2⟩ := nofault 0 q3
            refine Exists.intro Ψ (And.intro p1 ?_)
            intro rv M' hΨ
            obtain ⟨rfl, rfl⟩ := p2 rv M' hΨ
            refine And.intro (fun _ => ?_) (fun h => absurd rfl h)
            exact bad M' b3 (zfr_u g3) (by rw [ev_y t1 q1, ev2_y t2 q2', ev3_n t3 (fun h => q3 h.1)]) e93 (by omega)
        · refine And.intro (fun _ => ?_) (fun h => absurd rfl h)
          rw [e03]
          by_cases q3 : 0 ≤ k3 ∧ k3 ≤ 7
          · refine Exists.intro _ (And.intro (c_in _ _ _ _ M3) ?_)
            rintro r M4' ⟨rfl, rfl⟩
            rw [if_pos q3]
            refine And.intro (fun h => absurd (show (1 : Int) = 0 from h) (by decide)) (fun _ => ?_)
            refine And.intro (fun _ => ?_) (fun h => absurd (show (0 : Int) < 0 from h) (by decide))
            have q3' : (0 ≤ k3 ∧ k3 ≤ 7) ∧ ¬ (k = 11 ∧ tk_w U (k1 - 20) (k2 - 20) k3 = -1) := ⟨q3, fun h => by omega⟩
            refine Exists.intro _ (And.intro (k_readToken _ c3 L M4' x (g3.tx hT) e83 (by omega)) ?_)
            rintro r M5 ⟨rfl, f5, b4, k4, c4, t4, e94, e04, e84⟩
            have r4 := tx_t_r t4
            have g5 := g3.tr f5
            refine And.intro (fun q4 => ?_) (fun q4 => ?_)
            · have q4' : M5.1 62 20 = 30 := q4
              refine And.intro (fun _ => ?_) (fun h => absurd rfl h)
              refine Exists.intro _ (And.intro (k_addSend _ n s (k1 - 20) (k2 - 20) k3 M5 U hB hs (g5.rn hR)) ?_)
              rintro r M6 ⟨rfl, f6, hR6⟩
              refine ⟨Or.inr rfl, (zfr_u g5).tr (zfr_n f6), Or.inr ⟨evT U k k1 k2 k3, c4, s + 1, by rw [ev_y t1 q1, ev2_y t2 q2', ev3_y t3 q3', ev4_y t4 (by omega)], rfl, by rw [f6.2.2 18 (by omega)]; exact e84, by omega, ?_, ?_⟩⟩
              · unfold evT; rw [if_neg (by omega)]; exact hR6
              · unfold evT; rw [if_neg (by omega)]; exact tB_sd hB hs (by omega) (by omega) (by omega) (by omega)
            · have q4' : ¬ M5.1 62 20 = 30 := q4
              exact bad M5 b4 (zfr_u g5) (by rw [ev_y t1 q1, ev2_y t2 q2', ev3_y t3 q3', ev4_n t4 (by omega)]) e94 (by omega)
          · obtain ⟨Ψ, p1, p2⟩ := nofault 0 q3
            refine Exists.intro Ψ (And.intro p1 ?_)
            intro rv M' hΨ
            obtain ⟨rfl, rfl⟩ := p2 rv M' hΨ
            refine And.intro (fun _ => ?_) (fun h => absurd rfl h)
            exact bad M' b3 (zfr_u g3) (by rw [ev_y t1 q1, ev2_y t2 q2', ev3_n t3 (fun h => q3 h.1)]) e93 (by omega)
      · have z' : k2 - 20 = k1 - 20 := z
        exact bad M2' b2 (zfr_u g2) (by rw [ev_y t1 q1, ev2_n t2 (fun h => h.2 (by omega))]) e92 (by omega)
    · rw [if_neg (show ¬ (0 ≤ k2 - 20 ∧ k2 - 20 ≤ 3) by omega)]
      refine And.intro (fun _ => ?_) (fun h => absurd rfl h)
      exact bad M2' b2 (zfr_u g2) (by rw [ev_y t1 q1, ev2_n t2 (fun h => q2 h.1)]) e92 (by omega)
  · rw [if_neg (show ¬ (0 ≤ k1 - 20 ∧ k1 - 20 ≤ 3) by omega)]
    refine And.intro (fun h => absurd rfl h) (fun _ => ?_)
    exact bad M1' b1 (zfr_u f1) (by rw [ev_n t1 q1]) e91 (by omega)
