/-! ===== drawn, kept, race: the class and the Model ===== -/
theorem drw_t {T : Nat → Nat → Nat → Int} {w i e f : Int} (h : (0 ≤ i ∧ i < 4) ∧ (0 ≤ e ∧ e < T i.toNat 0 7) ∧ (0 ≤ f ∧ f < T i.toNat 0 7)) (k : KR (T i.toNat) (T i.toNat 0 7).toNat w e.toNat f.toNat) : drw T w i e f = 1 := by
  unfold drw
  rw [if_pos h, if_pos k]
theorem drw_f {T : Nat → Nat → Nat → Int} {w i e f : Int} (h : (0 ≤ i ∧ i < 4) ∧ (0 ≤ e ∧ e < T i.toNat 0 7) ∧ (0 ≤ f ∧ f < T i.toNat 0 7)) (k : ¬ KR (T i.toNat) (T i.toNat 0 7).toNat w e.toNat f.toNat) : drw T w i e f = 0 := by
  unfold drw
  rw [if_pos h, if_neg k]
theorem drw_n {T : Nat → Nat → Nat → Int} {w i e f : Int} (h : ¬ ((0 ≤ i ∧ i < 4) ∧ (0 ≤ e ∧ e < T i.toNat 0 7) ∧ (0 ≤ f ∧ f < T i.toNat 0 7))) : drw T w i e f = -1 := by
  unfold drw
  rw [if_neg h]
theorem rel_tk {M M' : dt_M} {k : Nat} (h : rel_fr M M') (hk : k + 8 ≤ 45) (g : Nat) (hg : g < 8) : tk M' k g = tk M k g := by
  funext j
  show M'.1 (k + g) j = M.1 (k + g) j
  rw [h.1 (k + g) (by omega)]
theorem rel_KR {M M' : dt_M} {k n : Nat} {w : Int} (h : rel_fr M M') (hk : k + 8 ≤ 45) (x y : Nat) : KR (tk M' k) n w x y ↔ KR (tk M k) n w x y := by
  unfold KR kr_cl
  rw [rel_tk h hk 1 (by omega), rel_tk h hk 2 (by omega), rel_tk h hk 3 (by omega), rel_tk h hk 5 (by omega)]
theorem c_drawn (d : Nat) (i e f : Int) (M : dt_M) (hV : cV M) : dt_Sp mX6_drawn (d + 3) [qX, .inl i, .inl e, .inl f] M (fun r M' => rel_fr M M' ∧ r = some (.inl (drw (cT M) 3 i e f))) := by
  refine dt_flat okX6_drawn 60 (by decide) (Nat.le_of_ble_eq_true rfl) (fun J => ?_)
  refine Exists.intro _ (And.intro (c_isEvent _ i e M) ?_)
  rintro r M0 ⟨rfl, rfl⟩
  by_cases he : (0 ≤ i ∧ i < 4) ∧ 0 ≤ e ∧ e < M0.1 (2 + 8 * i.toNat) 7
  · rw [if_pos he]
    refine And.intro (fun h => absurd (show (1 : Int) = 0 from h) (by decide)) (fun _ => ?_)
    refine Exists.intro _ (And.intro (c_isEvent _ i f M0) ?_)
    rintro r M1 ⟨rfl, rfl⟩
    by_cases hf : (0 ≤ i ∧ i < 4) ∧ 0 ≤ f ∧ f < M1.1 (2 + 8 * i.toNat) 7
    · rw [if_pos hf]
      refine And.intro (fun _ => ?_) (fun h => absurd (show (1 : Int) = 0 from h) (by decide))
      obtain ⟨n, s, v⟩ := hV i.toNat (by omega)
      have e7 : M1.1 (2 + 8 * i.toNat) 7 = (n : Int) := v.1.1.1
      have e7' : (cT M1 i.toNat 0 7).toNat = n := by show (M1.1 (2 + 8 * i.toNat) 7).toNat = n; omega
      have hn : n ≤ 20 := by have := v.1.1; omega
      (repeat (first | refine And.intro ⟨by (try dsimp only); omega, by (try dsimp only); omega⟩ ?_ | refine And.intro (Or.inl rfl) ?_ | refine And.intro (Or.inr rfl) ?_))
      refine Exists.intro _ (And.intro (c_workOut _ (2 + 8 * i.toNat) n s 3 M1 (by omega) v) ?_)
      rintro r M2 ⟨rfl, h1, h2⟩
      have ha := c_isAhead (d + 2) e.toNat f.toNat M2 (by omega) (by omega)
      rw [show ((e.toNat : Nat) : Int) = e by omega, show ((f.toNat : Nat) : Int) = f by omega] at ha
      refine Exists.intro _ (And.intro ha ?_)
      have hb := h2 f.toNat (by omega) e.toNat (by omega)
      rintro r M3 ⟨rfl, (⟨rfl, g⟩ | ⟨rfl, g⟩)⟩
      · refine Exists.intro _ (And.intro (c_asNumber _ _ (Or.inr rfl) M3) ?_)
        rintro r M4 ⟨rfl, rfl⟩
        refine ⟨h1, ?_⟩
        rw [drw_t ⟨hf.1, he.2, hf.2⟩ (by rw [e7']; exact hb.mp g)]
      · refine Exists.intro _ (And.intro (c_asNumber _ _ (Or.inl rfl) M3) ?_)
        rintro r M4 ⟨rfl, rfl⟩
        refine ⟨h1, ?_⟩
        rw [drw_f ⟨hf.1, he.2, hf.2⟩ (by rw [e7']; exact fun q => g (hb.mpr q))]
    · rw [if_neg hf]
      refine And.intro (fun h => absurd (show (0 : Int) = 0 from rfl) h) (fun _ => ?_)
      exact ⟨⟨fun _ _ => rfl, rfl⟩, by rw [drw_n (fun q => hf ⟨q.1, q.2.2⟩)]⟩
  · rw [if_neg he]
    refine And.intro (fun _ => ?_) (fun h => absurd (show (0 : Int) = 0 from rfl) h)
    exact ⟨⟨fun _ _ => rfl, rfl⟩, by rw [drw_n (fun q => he ⟨q.1, q.2.1⟩)]⟩
theorem c_kept (d : Nat) (i w e f : Int) (M : dt_M) (hV : cV M) : dt_Sp mX6_kept (d + 3) [qX, .inl i, .inl w, .inl e, .inl f] M (fun r M' => rel_fr M M' ∧ r = some (.inl (if 0 ≤ w ∧ w ≤ 2 then drw (cT M) w i e f else -1))) := by
  refine dt_flat okX6_kept 60 (by decide) (Nat.le_of_ble_eq_true rfl) (fun J => ?_)
  refine Exists.intro _ (And.intro (c_isWay _ w M) ?_)
  rintro r M0 ⟨rfl, rfl⟩
  by_cases hw : 0 ≤ w ∧ w ≤ 2
  · rw [if_pos hw, if_pos hw]
    refine And.intro (fun h => absurd (show (1 : Int) = 0 from h) (by decide)) (fun _ => ?_)
    refine Exists.intro _ (And.intro (c_isEvent _ i e M0) ?_)
    rintro r M0 ⟨rfl, rfl⟩
    by_cases he : (0 ≤ i ∧ i < 4) ∧ 0 ≤ e ∧ e < M0.1 (2 + 8 * i.toNat) 7
    · rw [if_pos he]
      refine And.intro (fun h => absurd (show (1 : Int) = 0 from h) (by decide)) (fun _ => ?_)
      refine Exists.intro _ (And.intro (c_isEvent _ i f M0) ?_)
      rintro r M1 ⟨rfl, rfl⟩
      by_cases hf : (0 ≤ i ∧ i < 4) ∧ 0 ≤ f ∧ f < M1.1 (2 + 8 * i.toNat) 7
      · rw [if_pos hf]
        refine And.intro (fun _ => ?_) (fun h => absurd (show (1 : Int) = 0 from h) (by decide))
        obtain ⟨n, s, v⟩ := hV i.toNat (by omega)
        have e7 : M1.1 (2 + 8 * i.toNat) 7 = (n : Int) := v.1.1.1
        have e7' : (cT M1 i.toNat 0 7).toNat = n := by show (M1.1 (2 + 8 * i.toNat) 7).toNat = n; omega
        have hn : n ≤ 20 := by have := v.1.1; omega
        (repeat (first | refine And.intro ⟨by (try dsimp only); omega, by (try dsimp only); omega⟩ ?_ | refine And.intro (Or.inl rfl) ?_ | refine And.intro (Or.inr rfl) ?_))
        refine Exists.intro _ (And.intro (c_workOut _ (2 + 8 * i.toNat) n s w M1 (by omega) v) ?_)
        rintro r M2 ⟨rfl, h1, h2⟩
        have ha := c_isAhead (d + 2) e.toNat f.toNat M2 (by omega) (by omega)
        rw [show ((e.toNat : Nat) : Int) = e by omega, show ((f.toNat : Nat) : Int) = f by omega] at ha
        refine Exists.intro _ (And.intro ha ?_)
        have hb := h2 f.toNat (by omega) e.toNat (by omega)
        rintro r M3 ⟨rfl, (⟨rfl, g⟩ | ⟨rfl, g⟩)⟩
        · refine Exists.intro _ (And.intro (c_asNumber _ _ (Or.inr rfl) M3) ?_)
          rintro r M4 ⟨rfl, rfl⟩
          refine ⟨h1, ?_⟩
          rw [drw_t ⟨hf.1, he.2, hf.2⟩ (by rw [e7']; exact hb.mp g)]
        · refine Exists.intro _ (And.intro (c_asNumber _ _ (Or.inl rfl) M3) ?_)
          rintro r M4 ⟨rfl, rfl⟩
          refine ⟨h1, ?_⟩
          rw [drw_f ⟨hf.1, he.2, hf.2⟩ (by rw [e7']; exact fun q => g (hb.mpr q))]
      · rw [if_neg hf]
        refine And.intro (fun h => absurd (show (0 : Int) = 0 from rfl) h) (fun _ => ?_)
        exact ⟨⟨fun _ _ => rfl, rfl⟩, by rw [drw_n (fun q => hf ⟨q.1, q.2.2⟩)]⟩
    · rw [if_neg he]
      refine And.intro (fun _ => ?_) (fun h => absurd (show (0 : Int) = 0 from rfl) h)
      exact ⟨⟨fun _ _ => rfl, rfl⟩, by rw [drw_n (fun q => he ⟨q.1, q.2.1⟩)]⟩
  · rw [if_neg hw, if_neg hw]
    refine And.intro (fun _ => ?_) (fun h => absurd (show (0 : Int) = 0 from rfl) h)
    exact ⟨⟨fun _ _ => rfl, rfl⟩, rfl⟩
theorem c_race (d : Nat) (i w k : Int) (M : dt_M) (hV : cV M) : dt_Sp mX6_race (d + 3) [qX, .inl i, .inl w, .inl k] M (fun r M' => rel_fr M M' ∧ r = some (.inl (rcA (cT M) w i k))) := by
  unfold rcA
  refine dt_flat okX6_race 60 (by decide) (Nat.le_of_ble_eq_true rfl) (fun J => ?_)
  refine Exists.intro _ (And.intro (c_isTalk _ i M) ?_)
  rintro r M0 ⟨rfl, rfl⟩
  by_cases hi : 0 ≤ i ∧ i < 4
  · rw [if_pos hi]
    refine And.intro (fun h => absurd (show (1 : Int) = 0 from h) (by decide)) (fun _ => ?_)
    refine Exists.intro _ (And.intro (c_isWay _ w M0) ?_)
    rintro r M0 ⟨rfl, rfl⟩
    by_cases hw : 0 ≤ w ∧ w ≤ 2
    · rw [if_pos hw]
      refine And.intro (fun h => absurd (show (1 : Int) = 0 from h) (by decide)) (fun _ => ?_)
      refine And.intro (fun hk => ?_) (fun hk => ?_)
      · rw [if_pos ⟨hi, hw, hk⟩]
        obtain ⟨n, s, v⟩ := hV i.toNat (by omega)
        have e7 : M0.1 (2 + 8 * i.toNat) 7 = (n : Int) := v.1.1.1
        have e7' : (cT M0 i.toNat 0 7).toNat = n := by show (M0.1 (2 + 8 * i.toNat) 7).toNat = n; omega
        rw [e7']
        (repeat (first | refine And.intro ⟨by (try dsimp only); omega, by (try dsimp only); omega⟩ ?_ | refine And.intro (Or.inl rfl) ?_ | refine And.intro (Or.inr rfl) ?_))
        refine Exists.intro _ (And.intro (c_workOut _ (2 + 8 * i.toNat) n s w M0 (by omega) v) ?_)
        rintro r M2 ⟨rfl, h1, h2⟩
        have v2 : tV (tk M2 (2 + 8 * i.toNat)) n s := tV_row (fun g hg => rel_tk h1 (by omega) g hg) v
        have h3 : ∀ g, g < n → ∀ x, x < 20 → (dt_bit (M2.1 45 g) x ↔ KR (tk M2 (2 + 8 * i.toNat)) n w x g) := fun g hg x hx => by rw [rel_KR h1 (by omega)]; exact h2 g hg x hx
        have hq : rcQ (tk M2 (2 + 8 * i.toNat)) n w = rcQ (cT M0 i.toNat) n w := by
          funext x y
          unfold rcQ
          rw [rel_tk h1 (by omega) 2 (by omega), rel_KR h1 (by omega)]
          rfl
        refine And.intro (fun hk1 => ?_) (fun hk1 => ?_)
        · rw [if_neg hk1]
          (repeat (first | refine And.intro ⟨by (try dsimp only); omega, by (try dsimp only); omega⟩ ?_ | refine And.intro (Or.inl rfl) ?_ | refine And.intro (Or.inr rfl) ?_))
          refine Exists.intro _ (And.intro (c_raceAt _ (2 + 8 * i.toNat) n s w k M2 (by omega) v2 h3) ?_)
          rintro r M3 ⟨rfl, rfl⟩
          exact ⟨h1, by rw [hq]⟩
        · rw [if_pos hk1]
          (repeat (first | refine And.intro ⟨by (try dsimp only); omega, by (try dsimp only); omega⟩ ?_ | refine And.intro (Or.inl rfl) ?_ | refine And.intro (Or.inr rfl) ?_))
          refine Exists.intro _ (And.intro (c_howManyRaces _ (2 + 8 * i.toNat) n s w M2 v2 h3) ?_)
          rintro r M3 ⟨rfl, rfl⟩
          exact ⟨h1, by rw [hq, hk1]⟩
      · rw [if_neg (fun q => by omega)]
        exact ⟨⟨fun _ _ => rfl, rfl⟩, rfl⟩
    · rw [if_neg hw, if_neg (fun q => hw q.2.1)]
      refine And.intro (fun _ => ?_) (fun h => absurd (show (0 : Int) = 0 from rfl) h)
      exact ⟨⟨fun _ _ => rfl, rfl⟩, rfl⟩
  · rw [if_neg hi, if_neg (fun q => hi q.1)]
    refine And.intro (fun _ => ?_) (fun h => absurd (show (0 : Int) = 0 from rfl) h)
    exact ⟨⟨fun _ _ => rfl, rfl⟩, rfl⟩
