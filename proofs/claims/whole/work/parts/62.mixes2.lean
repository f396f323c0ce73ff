/-! ===== mixes, fresh of the class; the Model's isFirst, isOfOne ===== -/
theorem cV_T {M : dt_M} (h : cV M) : ∀ i, i < 4 → ∃ n s, tV (cT M i) n s := h
noncomputable def mxA (T : Nat → Nat → Nat → Int) (s w : Int) : Int := if (1 ≤ s ∧ s < 16) ∧ 0 ≤ w ∧ w ≤ 2 then (dt_ct (sxb T s.toNat w) 256 : Int) else -1
def frA (T : Nat → Nat → Nat → Int) (s k v : Int) : Prop := (((1 ≤ s ∧ s < 16) ∧ 0 ≤ k) ∧ frB T s.toNat k v) ∨ (¬ ((1 ≤ s ∧ s < 16) ∧ 0 ≤ k) ∧ v = -1)
theorem frA_u {T : Nat → Nat → Nat → Int} {s k v v' : Int} (h : frA T s k v) (i : frA T s k v') : v = v' := by
  rcases h with ⟨h1, h2⟩ | ⟨h1, h2⟩ <;> rcases i with ⟨i1, i2⟩ | ⟨i1, i2⟩
  · exact frB_u h2 i2
  · exact absurd h1 i1
  · exact absurd i1 h1
  · rw [h2, i2]
theorem c_mixes (d : Nat) (s w : Int) (M : dt_M) (hV : cV M) : dt_Sp mX6_mixes (d + 6) [qX, .inl s, .inl w] M (fun r M' => yfr M M' ∧ r = some (.inl (mxA (cT M) s w))) := by
  unfold mxA
  refine dt_flat okX6_mixes 60 (by decide) (Nat.le_of_ble_eq_true rfl) (fun J => ?_)
  refine Exists.intro _ (And.intro (c_isSet _ s M) ?_)
  rintro r M0 ⟨rfl, rfl⟩
  by_cases hi : 1 ≤ s ∧ s < 16
  · rw [if_pos hi]
    refine And.intro (fun h => absurd (show (1 : Int) = 0 from h) (by decide)) (fun _ => ?_)
    refine And.intro (fun h => ⟨yfr.rf, by rw [if_neg (by omega)]⟩) (fun h => ?_)
    refine And.intro (fun h1 => ?_) (fun h1 => ⟨yfr.rf, by rw [if_neg (by omega)]⟩)
    rw [if_pos ⟨hi, by omega⟩]
    have hp := c_howMany d s.toNat w M0 (cT M0) (by omega) (fun _ _ _ _ => rfl) hV
    rw [show ((s.toNat : Nat) : Int) = s by omega] at hp
    refine Exists.intro _ (And.intro hp ?_)
    rintro r M1 ⟨f1, rfl⟩
    exact ⟨f1, rfl⟩
  · rw [if_neg hi, if_neg (fun q => hi q.1)]
    refine And.intro (fun _ => ⟨yfr.rf, rfl⟩) (fun h => absurd (show (0 : Int) = 0 from rfl) h)
theorem c_fresh (d : Nat) (s k : Int) (M : dt_M) (hV : cV M) : dt_Sp mX6_fresh (d + 6) [qX, .inl s, .inl k] M (fun r M' => yfr M M' ∧ ∃ v, r = some (.inl v) ∧ frA (cT M) s k v) := by
  refine dt_flat okX6_fresh 60 (by decide) (Nat.le_of_ble_eq_true rfl) (fun J => ?_)
  refine Exists.intro _ (And.intro (c_isSet _ s M) ?_)
  rintro r M0 ⟨rfl, rfl⟩
  by_cases hi : 1 ≤ s ∧ s < 16
  · rw [if_pos hi]
    refine And.intro (fun h => absurd (show (1 : Int) = 0 from h) (by decide)) (fun _ => ?_)
    refine And.intro (fun h => ?_) (fun h => ⟨yfr.rf, _, rfl, Or.inr ⟨by omega, rfl⟩⟩)
    have hp := c_newAt d s.toNat k M0 (cT M0) (by omega) (fun _ _ _ _ => rfl) hV
    rw [show ((s.toNat : Nat) : Int) = s by omega] at hp
    refine Exists.intro _ (And.intro hp ?_)
    rintro r M1 ⟨f1, v, rfl, hv⟩
    exact ⟨f1, v, rfl, Or.inl ⟨⟨hi, h⟩, hv⟩⟩
  · rw [if_neg hi]
    refine And.intro (fun _ => ⟨yfr.rf, _, rfl, Or.inr ⟨fun q => hi q.1, rfl⟩⟩) (fun h => absurd (show (0 : Int) = 0 from rfl) h)
theorem k_hasBit (d s i : Nat) (M : dt_M) (hs : s < 16) (hi : i < 4) : dt_Sp mX7_hasBit d [.inl s, .inl i] M (fun r M' => M' = M ∧ ((r = some (.inl 1) ∧ hb s i) ∨ (r = some (.inl 0) ∧ ¬ hb s i))) := by
  refine dt_flat okX7_hasBit 30 (by decide) (Nat.le_of_ble_eq_true rfl) (fun J => ?_)
  refine And.intro (fun z => ?_) (fun z => ?_)
  · exact ⟨Or.inl rfl, rfl, Or.inr ⟨rfl, fun q => z ((hb_2 s hs i hi).mpr q)⟩⟩
  · exact ⟨Or.inr rfl, rfl, Or.inl ⟨rfl, (hb_2 s hs i hi).mp z⟩⟩
theorem k_same {M : dt_M} {T : Nat → Nat → Nat → Int} (d i j p : Nat) (hV : mV M T) (hi : i < 4) (hj : j < 4) (hp : p < 4) : dt_Sp mX7_isSameLine d [qM, .inl i, .inl j, .inl p] M (fun r M' => M' = M ∧ ((r = some (.inl 1) ∧ tk_sl (T i) (T j) p) ∨ (r = some (.inl 0) ∧ ¬ tk_sl (T i) (T j) p))) := by
  obtain ⟨n, s, v1, r1⟩ := hV i hi
  obtain ⟨m, r, v2, r2⟩ := hV j hj
  exact c_isSameLine d i j p n s m r M (T i) (T j) hi hj hp v1.1 v2.1 r1 r2
/-- one part's share of xF -/
def xP (T : Nat → Nat → Nat → Int) (s m p : Nat) : Prop := hb s (ch m p) ∧ ∀ j, j < ch m p → ¬ (hb s j ∧ tk_sl (T j) (T (ch m p)) p)
theorem k_isFirst (d s m : Nat) (M : dt_M) (T : Nat → Nat → Nat → Int) (hs : s < 16) (hm : m < 256) (hV : mV M T) : dt_Sp mX7_isFirst (d + 1) [qM, .inl m, .inl s] M (fun r M' => M' = M ∧ ((r = some (.inl 1) ∧ xF T s m) ∨ (r = some (.inl 0) ∧ ¬ xF T s m))) := by
  refine dt_meth okX7_isFirst (fun pc => pc == 5 || pc == 33) 80 (σ := Nat × Nat × Nat × Bool) (fun t => h3 t.1 5 33 33) (fun t => [some qM, some (.inl m), some (.inl s), some (.inl (cond t.2.2.2 1 0)), some (.inl t.2.1), h3 t.1 none (some (.inl (ch m t.2.1))) none, h3 t.1 none (some (.inl t.2.2.1)) none]) (fun t => M)
    (fun t => t.1 < 2 ∧ (t.1 = 0 → t.2.1 ≤ 4 ∧ (t.2.2.2 = true ↔ ∀ q, q < t.2.1 → xP T s m q)) ∧ (t.1 = 1 → t.2.1 < 4 ∧ t.2.2.1 ≤ ch m t.2.1 ∧ (∀ q, q < t.2.1 → xP T s m q) ∧ (t.2.2.2 = true ↔ (hb s (ch m t.2.1) ∧ ∀ j, j < t.2.2.1 → ¬ (hb s j ∧ tk_sl (T j) (T (ch m t.2.1)) t.2.1)))))
    (fun t => (4 - t.2.1) * 20 + h3 t.1 19 (10 - t.2.2.1) 0) (by decide) (Nat.le_of_ble_eq_true rfl) ?_ ?_
  · intro J hJ
    exact hJ (0, 0, 0, true) _ ⟨by dsimp only; omega, fun _ => ⟨Nat.zero_le _, ⟨fun _ q hq => absurd hq (Nat.not_lt_zero q), fun _ => rfl⟩⟩, fun q => (by cases q)⟩ ⟨rfl, rfl, rfl, rfl, rfl, trivial⟩
  · rintro ⟨hd, p, j, b⟩ ⟨hd2, i0, i1⟩ J hJ
    dsimp only at hd2 i0 i1 hJ
    match hd, hd2, i0, i1 with
    | 0, _, i0, _ =>
      obtain ⟨k1, k2⟩ := i0 rfl
      refine And.intro (fun hh => ?_) (fun hh => ?_)
      · have h4 : (4 : Int) ≤ (p : Int) := hh
        have : p = 4 := by omega
        subst this
        cases b with
        | true => exact ⟨Or.inr rfl, rfl, Or.inl ⟨rfl, k2.mp rfl⟩⟩
        | false => exact ⟨Or.inl rfl, rfl, Or.inr ⟨rfl, fun q => by cases k2.mpr q⟩⟩
      · have h4 : (p : Int) < 4 := hh
        have hp : p < 4 := by omega
        have cl := ch_lt m p
        cases b with
        | false =>
          refine And.intro (fun _ => ?_) (fun q => absurd rfl q)
          exact ⟨Or.inl rfl, rfl, Or.inr ⟨rfl, fun q => by cases k2.mpr (fun r hr => q r (by omega))⟩⟩
        | true =>
          refine And.intro (fun q => absurd (show (1 : Int) = 0 from q) (by decide)) (fun _ => ?_)
          refine Exists.intro _ (And.intro (k_talkOf _ m p M hm hp) ?_)
          rintro r M0 ⟨rfl, rfl⟩
          refine Exists.intro _ (And.intro (k_hasBit _ s (ch m p) M0 hs cl) ?_)
          rintro r M1 ⟨rfl, (⟨rfl, g⟩ | ⟨rfl, g⟩)⟩
          · exact hJ (1, p, 0, true) _ ⟨by dsimp only; omega, fun q => (by cases q), fun _ => ⟨hp, Nat.zero_le _, k2.mp rfl, ⟨fun _ => ⟨g, fun j hj => absurd hj (Nat.not_lt_zero j)⟩, fun _ => rfl⟩⟩⟩ (by dsimp only [h3]; omega) ⟨rfl, rfl, rfl, rfl, rfl, rfl, rfl, trivial⟩
          · exact hJ (1, p, 0, false) _ ⟨by dsimp only; omega, fun q => (by cases q), fun _ => ⟨hp, Nat.zero_le _, k2.mp rfl, ⟨fun q => (by cases q), fun q => absurd q.1 g⟩⟩⟩ (by dsimp only [h3]; omega) ⟨rfl, rfl, rfl, rfl, rfl, rfl, rfl, trivial⟩
    | 1, _, _, i1 =>
      obtain ⟨hp, k2, k3, k4⟩ := i1 rfl
      have cl := ch_lt m p
      have out : (b = true ↔ xP T s m p) → dt_r ((p : Int) + 1) ∧ J 5 [some qM, some (.inl m), some (.inl s), some (.inl (cond b 1 0)), some (.inl ((p : Int) + 1)), some (.inl (ch m p)), some (.inl j)] [] M := fun g =>
        And.intro ⟨by omega, by omega⟩ (hJ (0, p + 1, 0, b) _ ⟨by dsimp only; omega, fun _ => ⟨by dsimp only; omega, ⟨fun q r hr => by
          dsimp only at hr
          by_cases z : r = p
          · subst z; exact g.mp q
          · exact k3 r (by omega), fun q => g.mpr (q p (by dsimp only; omega))⟩⟩, fun q => (by cases q)⟩ (by dsimp only [h3]; omega) ⟨rfl, rfl, rfl, rfl, rfl, trivial⟩)
      refine And.intro (fun hh => ?_) (fun hh => ?_)
      · have h4 : ((ch m p : Nat) : Int) ≤ (j : Int) := hh
        have : j = ch m p := by omega
        subst this
        exact out k4
      · have h4 : (j : Int) < ((ch m p : Nat) : Int) := hh
        cases b with
        | false =>
          refine And.intro (fun _ => ?_) (fun q => absurd rfl q)
          exact out ⟨fun q => (by cases q), fun q => by cases k4.mpr ⟨q.1, fun r hr => q.2 r (by omega)⟩⟩
        | true =>
          have kk := k4.mp rfl
          refine And.intro (fun q => absurd (show (1 : Int) = 0 from q) (by decide)) (fun _ => ?_)
          refine Exists.intro _ (And.intro (k_hasBit _ s j M hs (by omega)) ?_)
          have yes : ¬ (hb s j ∧ tk_sl (T j) (T (ch m p)) p) → dt_r ((j : Int) + 1) ∧ J 33 [some qM, some (.inl m), some (.inl s), some (.inl 1), some (.inl p), some (.inl (ch m p)), some (.inl ((j : Int) + 1))] [] M := fun g =>
            And.intro ⟨by omega, by omega⟩ (hJ (1, p, j + 1, true) _ ⟨by dsimp only; omega, fun q => (by cases q), fun _ => ⟨hp, by dsimp only; omega, k3, ⟨fun _ => ⟨kk.1, fun r hr => by
              dsimp only at hr
              by_cases z : r = j
              · subst z; exact g
              · exact kk.2 r (by omega)⟩, fun _ => rfl⟩⟩⟩ (by dsimp only [h3]; omega) ⟨rfl, rfl, rfl, rfl, rfl, rfl, rfl, trivial⟩)
          rintro r M0 ⟨rfl, (⟨rfl, g⟩ | ⟨rfl, g⟩)⟩
          · refine And.intro (fun q => absurd (show (1 : Int) = 0 from q) (by decide)) (fun _ => ?_)
            refine Exists.intro _ (And.intro (k_same _ (ch m p) j p hV cl (by omega) hp) ?_)
            rintro r M1 ⟨rfl, (⟨rfl, g'⟩ | ⟨rfl, g'⟩)⟩
            · refine And.intro (fun _ => ?_) (fun q => absurd (show (1 : Int) = 0 from q) (by decide))
              exact And.intro ⟨by (try dsimp only [h3]); omega, by (try dsimp only [h3]); omega⟩ (hJ (1, p, j + 1, false) _ ⟨by dsimp only; omega, fun q => (by cases q), fun _ => ⟨hp, by dsimp only; omega, k3, ⟨fun q => (by cases q), fun q => absurd ⟨g, sl_sy g'⟩ (q.2 j (by dsimp only; omega))⟩⟩⟩ (by dsimp only [h3]; omega) ⟨rfl, rfl, rfl, rfl, rfl, rfl, rfl, trivial⟩)
            · refine And.intro (fun q => absurd (show (0 : Int) = 0 from rfl) q) (fun _ => ?_)
              exact yes (fun q => g' (sl_sy q.2))
          · refine And.intro (fun _ => ?_) (fun q => absurd (show (0 : Int) = 0 from rfl) q)
            exact yes (fun q => g q.1)
    | hd + 2, hh, _, _ => exact absurd hh (by omega)
