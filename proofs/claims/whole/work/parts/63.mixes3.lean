/-! ===== the Model's isOfOne, mixes, fresh ===== -/
def xJ (T : Nat → Nat → Nat → Int) (s m j : Nat) : Prop := hb s j ∧ ∀ p, p < 4 → tk_sl (T (ch m p)) (T j) p
theorem gfr.mV {M M' : dt_M} {T : Nat → Nat → Nat → Int} (h : gfr M M') (k : mV M T) : mV M' T := fun i hi => by
  obtain ⟨n, s, v, r⟩ := k i hi
  exact ⟨n, s, v, rp_fr r (fun a x y => h.1 a (by omega) (by omega))⟩
theorem k_isOfOne (d s m : Nat) (M : dt_M) (T : Nat → Nat → Nat → Int) (hs : s < 16) (hm : m < 256) (hV : mV M T) : dt_Sp mX7_isOfOne (d + 1) [qM, .inl m, .inl s] M (fun r M' => M' = M ∧ ((r = some (.inl 1) ∧ xO T s m) ∨ (r = some (.inl 0) ∧ ¬ xO T s m))) := by
  refine dt_meth okX7_isOfOne (fun pc => pc == 5 || pc == 22) 80 (σ := Nat × Nat × Nat × Bool × Bool) (fun t => h3 t.1 5 22 22) (fun t => [some qM, some (.inl m), some (.inl s), some (.inl (cond t.2.2.2.1 1 0)), some (.inl t.2.1), h3 t.1 none (some (.inl (cond t.2.2.2.2 1 0))) none, h3 t.1 none (some (.inl t.2.2.1)) none]) (fun t => M)
    (fun t => t.1 < 2 ∧ (t.2.2.2.1 = true ↔ ∃ i, i < t.2.1 ∧ xJ T s m i) ∧ (t.1 = 0 → t.2.1 ≤ 4) ∧ (t.1 = 1 → t.2.1 < 4 ∧ t.2.2.1 ≤ 4 ∧ (t.2.2.2.2 = true ↔ (hb s t.2.1 ∧ ∀ q, q < t.2.2.1 → tk_sl (T (ch m q)) (T t.2.1) q))))
    (fun t => (4 - t.2.1) * 20 + h3 t.1 19 (10 - t.2.2.1) 0) (by decide) (Nat.le_of_ble_eq_true rfl) ?_ ?_
  · intro J hJ
    exact hJ (0, 0, 0, false, false) _ ⟨by dsimp only; omega, ⟨fun q => (by cases q), fun ⟨i, hi, _⟩ => absurd hi (Nat.not_lt_zero i)⟩, fun _ => Nat.zero_le _, fun q => (by cases q)⟩ ⟨rfl, rfl, rfl, rfl, rfl, trivial⟩
  · rintro ⟨hd, j, p, b, a⟩ ⟨hd2, hb0, i0, i1⟩ J hJ
    dsimp only at hd2 hb0 i0 i1 hJ
    match hd, hd2, i0, i1 with
    | 0, _, i0, _ =>
      have k1 := i0 rfl
      refine And.intro (fun hh => ?_) (fun hh => ?_)
      · have h4 : (4 : Int) ≤ (j : Int) := hh
        have : j = 4 := by omega
        subst this
        cases b with
        | true => exact ⟨Or.inr rfl, rfl, Or.inl ⟨rfl, by obtain ⟨i, a1, a2, a3⟩ := hb0.mp rfl; exact ⟨i, a1, a2, a3⟩⟩⟩
        | false => exact ⟨Or.inl rfl, rfl, Or.inr ⟨rfl, fun q => by obtain ⟨i, a1, a2, a3⟩ := q; cases hb0.mpr ⟨i, a1, a2, a3⟩⟩⟩
      · have h4 : (j : Int) < 4 := hh
        have hj : j < 4 := by omega
        refine Exists.intro _ (And.intro (k_hasBit _ s j M hs hj) ?_)
        rintro r M1 ⟨rfl, (⟨rfl, g⟩ | ⟨rfl, g⟩)⟩
        · exact hJ (1, j, 0, b, true) _ ⟨by dsimp only; omega, hb0, fun q => (by cases q), fun _ => ⟨hj, Nat.zero_le _, ⟨fun _ => ⟨g, fun q hq => absurd hq (Nat.not_lt_zero q)⟩, fun _ => rfl⟩⟩⟩ (by dsimp only [h3]; omega) ⟨rfl, rfl, rfl, rfl, rfl, rfl, rfl, trivial⟩
        · exact hJ (1, j, 0, b, false) _ ⟨by dsimp only; omega, hb0, fun q => (by cases q), fun _ => ⟨hj, Nat.zero_le _, ⟨fun q => (by cases q), fun q => absurd q.1 g⟩⟩⟩ (by dsimp only [h3]; omega) ⟨rfl, rfl, rfl, rfl, rfl, rfl, rfl, trivial⟩
    | 1, _, _, i1 =>
      obtain ⟨hj, k2, k4⟩ := i1 rfl
      have out : ∀ c : Bool, (c = true ↔ (b = true ∨ xJ T s m j)) → dt_r ((j : Int) + 1) ∧ J 5 [some qM, some (.inl m), some (.inl s), some (.inl (cond c 1 0)), some (.inl ((j : Int) + 1)), some (.inl (cond a 1 0)), some (.inl p)] [] M := fun c g =>
        And.intro ⟨by omega, by omega⟩ (hJ (0, j + 1, 0, c, false) _ ⟨by dsimp only; omega, ⟨fun q => by
          rcases g.mp q with z | z
          · obtain ⟨i, a1, a2⟩ := hb0.mp z
            exact ⟨i, by dsimp only; omega, a2⟩
          · exact ⟨j, by dsimp only; omega, z⟩, fun ⟨i, a1, a2⟩ => by
          dsimp only at a1
          by_cases z : i = j
          · subst z; exact g.mpr (Or.inr a2)
          · exact g.mpr (Or.inl (hb0.mpr ⟨i, by omega, a2⟩))⟩, fun _ => by dsimp only; omega, fun q => (by cases q)⟩ (by dsimp only [h3]; omega) ⟨rfl, rfl, rfl, rfl, rfl, trivial⟩)
      have fin : (a = true ↔ xJ T s m j) → (cond b (1 : Int) 0 ≠ 0 → dt_r ((j : Int) + 1) ∧ J 5 [some qM, some (.inl m), some (.inl s), some (.inl 1), some (.inl ((j : Int) + 1)), some (.inl (cond a 1 0)), some (.inl p)] [] M) ∧ (cond b (1 : Int) 0 = 0 → (cond a (1 : Int) 0 = 0 → dt_r ((j : Int) + 1) ∧ J 5 [some qM, some (.inl m), some (.inl s), some (.inl 0), some (.inl ((j : Int) + 1)), some (.inl (cond a 1 0)), some (.inl p)] [] M) ∧ (¬ cond a (1 : Int) 0 = 0 → dt_r ((j : Int) + 1) ∧ J 5 [some qM, some (.inl m), some (.inl s), some (.inl 1), some (.inl ((j : Int) + 1)), some (.inl (cond a 1 0)), some (.inl p)] [] M)) := by
        intro g
        refine ⟨fun z => out true ⟨fun _ => Or.inl (by cases b with | true => rfl | false => exact absurd rfl z), fun _ => rfl⟩, fun z => ⟨fun z1 => out false ⟨fun q => (by cases q), fun q => ?_⟩, fun z1 => out true ⟨fun _ => Or.inr (g.mp (by cases a with | true => rfl | false => exact absurd rfl z1)), fun _ => rfl⟩⟩⟩
        rcases q with q | q
        · subst q; cases z
        · have := g.mpr q; subst this; cases z1
      refine And.intro (fun hh => ?_) (fun hh => ?_)
      · have h4 : (4 : Int) ≤ (p : Int) := hh
        have : p = 4 := by omega
        subst this
        exact fin k4
      · have h4 : (p : Int) < 4 := hh
        have hp : p < 4 := by omega
        cases a with
        | false =>
          refine And.intro (fun _ => ?_) (fun q => absurd rfl q)
          exact fin ⟨fun q => (by cases q), fun q => by cases k4.mpr ⟨q.1, fun r hr => q.2 r (by omega)⟩⟩
        | true =>
          have kk := k4.mp rfl
          refine And.intro (fun q => absurd (show (1 : Int) = 0 from q) (by decide)) (fun _ => ?_)
          refine Exists.intro _ (And.intro (k_talkOf _ m p M hm hp) ?_)
          rintro r M0 ⟨rfl, rfl⟩
          refine Exists.intro _ (And.intro (k_same _ (ch m p) j p hV (ch_lt m p) hj hp) ?_)
          rintro r M1 ⟨rfl, (⟨rfl, g⟩ | ⟨rfl, g⟩)⟩
          · exact And.intro ⟨by (try dsimp only [h3]); omega, by (try dsimp only [h3]); omega⟩ (hJ (1, j, p + 1, b, true) _ ⟨by dsimp only; omega, hb0, fun q => (by cases q), fun _ => ⟨hj, by dsimp only; omega, ⟨fun _ => ⟨kk.1, fun r hr => by
              dsimp only at hr
              by_cases z : r = p
              · subst z; exact g
              · exact kk.2 r (by omega)⟩, fun _ => rfl⟩⟩⟩ (by dsimp only [h3]; omega) ⟨rfl, rfl, rfl, rfl, rfl, rfl, rfl, trivial⟩)
          · exact And.intro ⟨by (try dsimp only [h3]); omega, by (try dsimp only [h3]); omega⟩ (hJ (1, j, p + 1, b, false) _ ⟨by dsimp only; omega, hb0, fun q => (by cases q), fun _ => ⟨hj, by dsimp only; omega, ⟨fun q => (by cases q), fun q => absurd (q.2 p (by dsimp only; omega)) g⟩⟩⟩ (by dsimp only [h3]; omega) ⟨rfl, rfl, rfl, rfl, rfl, rfl, rfl, trivial⟩)
    | hd + 2, hh, _, _ => exact absurd hh (by omega)
theorem k_mixes (d : Nat) (s w : Int) (M : dt_M) (T : Nat → Nat → Nat → Int) (hV : mV M T) : dt_Sp mX7_mixes (d + 3) [qM, .inl s, .inl w] M (fun r M' => gfr M M' ∧ r = some (.inl (mxA T s w))) := by
  unfold mxA
  by_cases hi : 1 ≤ s ∧ s ≤ 15
  · by_cases hw : 0 ≤ w ∧ w ≤ 2
    · rw [if_pos ⟨by omega, hw⟩]
      obtain ⟨n, rfl⟩ : ∃ n : Nat, s = (n : Int) := ⟨s.toNat, by omega⟩
      rw [Int.toNat_natCast]
      have hn : n < 16 := by omega
      refine dt_meth okX7_mixes (fun pc => pc == 31) 80 (σ := Nat × dt_M) (fun t => 31) (fun t => [some qM, some (.inl n), some (.inl w), some (.inl (dt_ct (sxb T n w) t.1 : Int)), some (.inl t.1), none]) (fun t => t.2) (fun t => t.1 ≤ 256 ∧ gfr M t.2) (fun t => 256 - t.1) (by decide) (Nat.le_of_ble_eq_true rfl) ?_ ?_
      · intro J hJ
        refine Exists.intro _ (And.intro (c_in _ _ _ _ M) ?_)
        rintro r M0 ⟨rfl, rfl⟩
        rw [if_pos hi]
        refine And.intro (fun h => absurd (show (1 : Int) = 0 from h) (by decide)) (fun _ => ?_)
        refine Exists.intro _ (And.intro (c_in _ _ _ _ M0) ?_)
        rintro r M1 ⟨rfl, rfl⟩
        rw [if_pos hw]
        refine And.intro (fun _ => ?_) (fun h => absurd (show (1 : Int) = 0 from h) (by decide))
        exact hJ (0, M1) _ ⟨Nat.zero_le _, gfr.rf⟩ ⟨rfl, rfl, rfl, rfl, rfl, trivial⟩
      · rintro ⟨m, N⟩ ⟨h1, f1⟩ J hJ
        dsimp only at h1 f1 hJ
        have ctl := ct_le (sxb T n w) m
        refine And.intro (fun hh => ?_) (fun hh => ?_)
        · have h4 : (256 : Int) ≤ (m : Int) := hh
          have : m = 256 := by omega
          subst this
          exact ⟨f1, rfl⟩
        · have h4 : (m : Int) < 256 := hh
          have hm : m < 256 := by omega
          have no : ∀ N' x, gfr M N' → ¬ sx T n w m → dt_r ((dt_ct (sxb T n w) m : Int) + 0) ∧ dt_r ((m : Int) + 1) ∧ J 31 [some qM, some (.inl n), some (.inl w), some (.inl ((dt_ct (sxb T n w) m : Int) + 0)), some (.inl ((m : Int) + 1)), x] [] N' := fun N' x f2 g =>
            And.intro ⟨by omega, by omega⟩ (And.intro ⟨by omega, by omega⟩ (hJ (m + 1, N') _ ⟨by dsimp only; omega, f2⟩ (by dsimp only; omega) ⟨rfl, rfl, rfl, by dsimp only; rw [ct_f (sxb_f g), Int.add_zero], rfl, trivial⟩))
          have yes : ∀ N' x, gfr M N' → sx T n w m → dt_r ((dt_ct (sxb T n w) m : Int) + 1) ∧ dt_r ((m : Int) + 1) ∧ J 31 [some qM, some (.inl n), some (.inl w), some (.inl ((dt_ct (sxb T n w) m : Int) + 1)), some (.inl ((m : Int) + 1)), x] [] N' := fun N' x f2 g =>
            And.intro ⟨by omega, by omega⟩ (And.intro ⟨by omega, by omega⟩ (hJ (m + 1, N') _ ⟨by dsimp only; omega, f2⟩ (by dsimp only; omega) ⟨rfl, rfl, rfl, by dsimp only; rw [ct_t (sxb_t g)]; rfl, rfl, trivial⟩))
          refine Exists.intro _ (And.intro (k_isFirst _ n m N T hn hm (f1.mV hV)) ?_)
          rintro r M0 ⟨rfl, (⟨rfl, g⟩ | ⟨rfl, g⟩)⟩
          · refine And.intro (fun q => absurd (show (1 : Int) = 0 from q) (by decide)) (fun _ => ?_)
            refine Exists.intro _ (And.intro (k_plays _ m M0 (mU T m) hm (mV_mM (f1.mV hV) m)) ?_)
            rintro r M1 ⟨f2, k, hK, hR, hr⟩
            have f3 := f1.tr f2
            have pk := pe_k hK
            rcases hr with ⟨rfl, gz⟩ | ⟨rfl, gz⟩
            · refine And.intro (fun z => ?_) (fun z => ?_)
              · have z' : ¬ w = 1 := z
                refine And.intro (fun q => absurd (show (1 : Int) = 0 from q) (by decide)) (fun _ => ?_)
                refine And.intro (fun q => ?_) (fun q => ?_)
                · exact yes M1 _ f3 ⟨g, Or.inr ⟨z', pk.mpr gz, Or.inl q⟩⟩
                · refine Exists.intro _ (And.intro (k_isOfOne _ n m M1 T hn hm (f3.mV hV)) ?_)
                  rintro r M2 ⟨rfl, (⟨rfl, g'⟩ | ⟨rfl, g'⟩)⟩
                  · refine And.intro (fun _ => ?_) (fun q => absurd (show (1 : Int) = 0 from q) (by decide))
                    refine no M2 _ f3 (fun x => ?_)
                    rcases x.2 with y | ⟨y1, y2, y3 | y3⟩
                    · exact z' y.1
                    · exact q y3
                    · exact y3 g'
                  · refine And.intro (fun q => absurd rfl q) (fun _ => ?_)
                    exact yes M2 _ f3 ⟨g, Or.inr ⟨z', pk.mpr gz, Or.inr g'⟩⟩
              · have z' : w = 1 := z
                refine And.intro (fun q => absurd (show (1 : Int) = 0 from q) (by decide)) (fun _ => ?_)
                refine no M1 _ f3 (fun x => ?_)
                rcases x.2 with y | ⟨y1, y2, y3⟩
                · exact y.2 (pk.mpr gz)
                · exact y1 z'
            · refine And.intro (fun z => ?_) (fun z => ?_)
              · have z' : ¬ w = 1 := z
                refine And.intro (fun _ => ?_) (fun q => absurd rfl q)
                refine no M1 _ f3 (fun x => ?_)
                rcases x.2 with y | ⟨y1, y2, y3⟩
                · exact z' y.1
                · exact gz (pk.mp y2)
              · have z' : w = 1 := z
                refine And.intro (fun _ => ?_) (fun q => absurd rfl q)
                exact yes M1 _ f3 ⟨g, Or.inl ⟨z', fun q => gz (pk.mp q)⟩⟩
          · refine And.intro (fun _ => ?_) (fun q => absurd rfl q)
            have nn : ¬ sx T n w m := fun q => g q.1
            exact And.intro ⟨by dsimp only; omega, by dsimp only; omega⟩ (hJ (m + 1, M0) _ ⟨by dsimp only; omega, f1⟩ (by dsimp only; omega) ⟨rfl, rfl, rfl, by dsimp only; rw [ct_f (sxb_f nn)], rfl, trivial⟩)
    · rw [if_neg (fun q => hw q.2)]
      refine dt_flat okX7_mixes 80 (by decide) (Nat.le_of_ble_eq_true rfl) (fun J => ?_)
      refine Exists.intro _ (And.intro (c_in _ _ _ _ M) ?_)
      rintro r M0 ⟨rfl, rfl⟩
      rw [if_pos hi]
      refine And.intro (fun h => absurd (show (1 : Int) = 0 from h) (by decide)) (fun _ => ?_)
      refine Exists.intro _ (And.intro (c_in _ _ _ _ M0) ?_)
      rintro r M1 ⟨rfl, rfl⟩
      rw [if_neg hw]
      refine And.intro (fun q => absurd rfl q) (fun _ => ?_)
      exact ⟨gfr.rf, rfl⟩
  · rw [if_neg (fun q => hi (by omega))]
    refine dt_flat okX7_mixes 80 (by decide) (Nat.le_of_ble_eq_true rfl) (fun J => ?_)
    refine Exists.intro _ (And.intro (c_in _ _ _ _ M) ?_)
    rintro r M0 ⟨rfl, rfl⟩
    rw [if_neg hi]
    refine And.intro (fun _ => ?_) (fun q => absurd rfl q)
    exact ⟨gfr.rf, rfl⟩
theorem k_fresh (d : Nat) (s k : Int) (M : dt_M) (T : Nat → Nat → Nat → Int) (hV : mV M T) : dt_Sp mX7_fresh (d + 3) [qM, .inl s, .inl k] M (fun r M' => gfr M M' ∧ ∃ v, r = some (.inl v) ∧ frA T s k v) := by
  by_cases hi : 1 ≤ s ∧ s ≤ 15
  · by_cases hw : 0 ≤ k
    · obtain ⟨n, rfl⟩ : ∃ n : Nat, s = (n : Int) := ⟨s.toNat, by omega⟩
      have hn : n < 16 := by omega
      have ok : ((1 ≤ (n : Int) ∧ (n : Int) < 16) ∧ 0 ≤ k) := ⟨by omega, hw⟩
      refine dt_meth okX7_fresh (fun pc => pc == 23) 80 (σ := Nat × dt_M) (fun t => 23) (fun t => [some qM, some (.inl n), some (.inl k), some (.inl (dt_ct (fxb T n) t.1 : Int)), some (.inl t.1)]) (fun t => t.2) (fun t => t.1 ≤ 256 ∧ gfr M t.2 ∧ ∀ m, m < t.1 → fxb T n m = true → (dt_ct (fxb T n) m : Int) ≠ k) (fun t => 256 - t.1) (by decide) (Nat.le_of_ble_eq_true rfl) ?_ ?_
      · intro J hJ
        refine Exists.intro _ (And.intro (c_in _ _ _ _ M) ?_)
        rintro r M0 ⟨rfl, rfl⟩
        rw [if_pos hi]
        refine And.intro (fun h => absurd (show (1 : Int) = 0 from h) (by decide)) (fun _ => ?_)
        refine And.intro (fun _ => ?_) (fun h => absurd hw (by omega))
        exact hJ (0, M0) _ ⟨Nat.zero_le _, gfr.rf, fun m hm => absurd hm (Nat.not_lt_zero m)⟩ ⟨rfl, rfl, rfl, rfl, rfl, trivial⟩
      · rintro ⟨m, N⟩ ⟨h1, f1, h2⟩ J hJ
        dsimp only at h1 f1 h2 hJ
        have ctl := ct_le (fxb T n) m
        refine And.intro (fun hh => ?_) (fun hh => ?_)
        · have h4 : (256 : Int) ≤ (m : Int) := hh
          have : m = 256 := by omega
          subst this
          exact ⟨f1, -1, rfl, Or.inl ⟨ok, by rw [Int.toNat_natCast]; exact Or.inr ⟨rfl, h2⟩⟩⟩
        · have h4 : (m : Int) < 256 := hh
          have hm : m < 256 := by omega
          have no : ∀ N', gfr M N' → ¬ fx T n m → dt_r ((m : Int) + 1) ∧ J 23 [some qM, some (.inl n), some (.inl k), some (.inl (dt_ct (fxb T n) m : Int)), some (.inl ((m : Int) + 1))] [] N' := fun N' f2 g =>
            And.intro ⟨by omega, by omega⟩ (hJ (m + 1, N') _ ⟨by dsimp only; omega, f2, fun j hj q => by
              dsimp only at hj
              by_cases z : j = m
              · subst z; rw [fxb_f g] at q; cases q
              · exact h2 j (by omega) q⟩ (by dsimp only; omega) ⟨rfl, rfl, rfl, by dsimp only; rw [ct_f (fxb_f g)], rfl, trivial⟩)
          refine Exists.intro _ (And.intro (k_isFirst _ n m N T hn hm (f1.mV hV)) ?_)
          rintro r M0 ⟨rfl, (⟨rfl, g⟩ | ⟨rfl, g⟩)⟩
          · refine And.intro (fun q => absurd (show (1 : Int) = 0 from q) (by decide)) (fun _ => ?_)
            refine Exists.intro _ (And.intro (k_plays _ m M0 (mU T m) hm (mV_mM (f1.mV hV) m)) ?_)
            rintro r M1 ⟨f2, j, hK, hR, hr⟩
            have f3 := f1.tr f2
            have pk := pe_k hK
            rcases hr with ⟨rfl, gz⟩ | ⟨rfl, gz⟩
            · refine And.intro (fun q => absurd (show (1 : Int) = 0 from q) (by decide)) (fun _ => ?_)
              refine Exists.intro _ (And.intro (k_isOfOne _ n m M1 T hn hm (f3.mV hV)) ?_)
              rintro r M2 ⟨rfl, (⟨rfl, g'⟩ | ⟨rfl, g'⟩)⟩
              · refine And.intro (fun _ => ?_) (fun q => absurd (show (1 : Int) = 0 from q) (by decide))
                exact no M2 f3 (fun q => q.2.2 g')
              · refine And.intro (fun q => absurd rfl q) (fun _ => ?_)
                have hfx : fx T n m := ⟨g, pk.mpr gz, g'⟩
                refine And.intro (fun z => ?_) (fun z => ?_)
                · have z' : ¬ (dt_ct (fxb T n) m : Int) = k := z
                  refine And.intro ⟨by (try dsimp only); omega, by (try dsimp only); omega⟩ (And.intro ⟨by (try dsimp only); omega, by (try dsimp only); omega⟩ (hJ (m + 1, M2) _ ⟨by dsimp only; omega, f3, fun i hi q => ?_⟩ (by dsimp only; omega) ⟨rfl, rfl, rfl, by dsimp only; rw [ct_t (fxb_t hfx)]; rfl, rfl, trivial⟩))
                  dsimp only at hi
                  by_cases x : i = m
                  · subst x; exact z'
                  · exact h2 i (by omega) q
                · have z' : (dt_ct (fxb T n) m : Int) = k := z
                  exact ⟨f3, m, rfl, Or.inl ⟨ok, by rw [Int.toNat_natCast]; exact Or.inl ⟨m, hm, fxb_t hfx, z', rfl⟩⟩⟩
            · refine And.intro (fun _ => ?_) (fun q => absurd rfl q)
              exact no M1 f3 (fun q => gz (pk.mp q.2.1))
          · refine And.intro (fun _ => ?_) (fun q => absurd rfl q)
            exact no M0 f1 (fun q => g q.1)
    · refine dt_flat okX7_fresh 80 (by decide) (Nat.le_of_ble_eq_true rfl) (fun J => ?_)
      refine Exists.intro _ (And.intro (c_in _ _ _ _ M) ?_)
      rintro r M0 ⟨rfl, rfl⟩
      rw [if_pos hi]
      refine And.intro (fun h => absurd (show (1 : Int) = 0 from h) (by decide)) (fun _ => ?_)
      refine And.intro (fun q => absurd q hw) (fun _ => ?_)
      exact ⟨gfr.rf, _, rfl, Or.inr ⟨fun q => hw q.2, rfl⟩⟩
  · refine dt_flat okX7_fresh 80 (by decide) (Nat.le_of_ble_eq_true rfl) (fun J => ?_)
    refine Exists.intro _ (And.intro (c_in _ _ _ _ M) ?_)
    rintro r M0 ⟨rfl, rfl⟩
    rw [if_neg hi]
    refine And.intro (fun _ => ?_) (fun q => absurd rfl q)
    exact ⟨gfr.rf, _, rfl, Or.inr ⟨fun q => hi (by omega), rfl⟩⟩
