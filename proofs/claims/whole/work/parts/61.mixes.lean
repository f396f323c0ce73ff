/-! ===== Mixer: howMany, newAt; mixes, fresh of the class ===== -/
def yfr (M M' : dt_M) : Prop := (∀ a, (a < 53 ∨ 61 < a) → M'.1 a = M.1 a) ∧ M'.2 = M.2
theorem yfr.rf {M : dt_M} : yfr M M := ⟨fun _ _ => rfl, rfl⟩
theorem yfr.tr {M M1 M2 : dt_M} (h : yfr M M1) (k : yfr M1 M2) : yfr M M2 := ⟨fun a x => (k.1 a x).trans (h.1 a x), k.2.trans h.2⟩
theorem yfr_p {M M' : dt_M} (h : pfr M M') : yfr M M' := ⟨fun a x => h.1 a (by omega), h.2⟩
theorem yfr_x {M M' : dt_M} (h : xfr M M') : yfr M M' := ⟨fun a x => h.1 a (by omega) (by omega), h.2.2⟩
theorem yfr.E {M M' : dt_M} {T : Nat → Nat → Nat → Int} (h : yfr M M') (k : cE M T) : cE M' T := fun i hi g hg => by
  rw [← k i hi g hg]
  exact h.1 _ (by omega)
theorem pfr_R {M M' : dt_M} {T : Nat → Nat → Nat → Int} {s : Nat} (h : pfr M M') (k : xR M T s) : xR M' T s := by
  unfold xR at k ⊢
  rw [h.1 60 (by omega), h.1 61 (by omega)]
  exact k
abbrev mU (T : Nat → Nat → Nat → Int) (m : Nat) : Nat → Nat → Nat → Int := fun p => T (ch m p)
/-- the mix ends -/
def pe (T : Nat → Nat → Nat → Int) (m : Nat) : Prop := ∃ k, pK (mU T m) k ∧ pZ (mU T m) k
theorem pe_k {T : Nat → Nat → Nat → Int} {m k : Nat} (h : pK (mU T m) k) : pe T m ↔ pZ (mU T m) k := ⟨fun ⟨j, a, b⟩ => by rw [pK_u h a]; exact b, fun q => ⟨k, h, q⟩⟩
def sx (T : Nat → Nat → Nat → Int) (s : Nat) (w : Int) (m : Nat) : Prop := xF T s m ∧ ((w = 1 ∧ ¬ pe T m) ∨ (w ≠ 1 ∧ pe T m ∧ (w = 0 ∨ ¬ xO T s m)))
noncomputable def sxb (T : Nat → Nat → Nat → Int) (s : Nat) (w : Int) (m : Nat) : Bool := @decide (sx T s w m) (Classical.propDecidable _)
theorem sxb_t {T : Nat → Nat → Nat → Int} {s : Nat} {w : Int} {m : Nat} (h : sx T s w m) : sxb T s w m = true := @decide_eq_true _ (Classical.propDecidable _) h
theorem sxb_f {T : Nat → Nat → Nat → Int} {s : Nat} {w : Int} {m : Nat} (h : ¬ sx T s w m) : sxb T s w m = false := @decide_eq_false _ (Classical.propDecidable _) h
def fx (T : Nat → Nat → Nat → Int) (s m : Nat) : Prop := xF T s m ∧ pe T m ∧ ¬ xO T s m
noncomputable def fxb (T : Nat → Nat → Nat → Int) (s : Nat) (m : Nat) : Bool := @decide (fx T s m) (Classical.propDecidable _)
theorem fxb_t {T : Nat → Nat → Nat → Int} {s m : Nat} (h : fx T s m) : fxb T s m = true := @decide_eq_true _ (Classical.propDecidable _) h
theorem fxb_f {T : Nat → Nat → Nat → Int} {s m : Nat} (h : ¬ fx T s m) : fxb T s m = false := @decide_eq_false _ (Classical.propDecidable _) h
/-- the mix number k of those that are fresh -/
def frB (T : Nat → Nat → Nat → Int) (s : Nat) (k v : Int) : Prop := (∃ m : Nat, m < 256 ∧ fxb T s m = true ∧ (dt_ct (fxb T s) m : Int) = k ∧ v = (m : Int)) ∨ (v = -1 ∧ ∀ m, m < 256 → fxb T s m = true → (dt_ct (fxb T s) m : Int) ≠ k)
theorem frB_u {T : Nat → Nat → Nat → Int} {s : Nat} {k v v' : Int} (h : frB T s k v) (i : frB T s k v') : v = v' := by
  rcases h with ⟨m, m1, m2, m3, m4⟩ | ⟨m1, m2⟩ <;> rcases i with ⟨j, j1, j2, j3, j4⟩ | ⟨j1, j2⟩
  · rcases Nat.lt_trichotomy m j with q | q | q
    · have := ct_lt m2 q; omega
    · omega
    · have := ct_lt j2 q; omega
  · exact absurd m3 (j2 m m1 m2)
  · exact absurd j3 (m2 j j1 j2)
  · omega
theorem cE_hM {M : dt_M} {T : Nat → Nat → Nat → Int} (h : cE M T) (m : Nat) : hM M (mU T m) m := fun p _ g hg => h (ch m p) (ch_lt m p) g hg
theorem T_hU {T : Nat → Nat → Nat → Int} (h : ∀ i, i < 4 → ∃ n s, tV (T i) n s) (m : Nat) : hU (mU T m) := fun p _ => h (ch m p) (ch_lt m p)
theorem c_isSuch (d s m k : Nat) (w : Int) (M : dt_M) (T : Nat → Nat → Nat → Int) (hs : s < 16) (hm : m < 256) (hT : ∀ i, i < 4 → ∃ n s, tV (T i) n s) (hR : xR M T s) (hF : xF T s m) (hK : pK (mU T m) k) (hP : PR M (mU T m) m k) : dt_Sp mX1_isSuch (d + 3) [qK, .inl m, .inl w] M (fun r M' => M' = M ∧ ((r = some (.inl 1) ∧ sx T s w m) ∨ (r = some (.inl 0) ∧ ¬ sx T s w m))) := by
  have pk := pe_k hK
  refine dt_flat okX1_isSuch 60 (by decide) (Nat.le_of_ble_eq_true rfl) (fun J => ?_)
  refine And.intro (fun hw => ?_) (fun hw => ?_)
  · have hw' : w ≠ 1 := hw
    refine Exists.intro _ (And.intro (c_ends _ m k M (mU T m) (T_hU hT m) hK hP) ?_)
    rintro r M0 ⟨rfl, (⟨rfl, g⟩ | ⟨rfl, g⟩)⟩
    · refine And.intro (fun q => absurd (show (1 : Int) = 0 from q) (by decide)) (fun _ => ?_)
      refine And.intro (fun z => ?_) (fun z => ?_)
      · exact ⟨Or.inr rfl, rfl, Or.inl ⟨rfl, hF, Or.inr ⟨hw', pk.mpr g, Or.inl z⟩⟩⟩
      · refine Exists.intro _ (And.intro (c_isOfOne _ s m M0 T hs hm hR hF) ?_)
        rintro r M1 ⟨rfl, (⟨rfl, g'⟩ | ⟨rfl, g'⟩)⟩
        · refine And.intro (fun _ => ?_) (fun q => absurd (show (1 : Int) = 0 from q) (by decide))
          refine ⟨Or.inl rfl, rfl, Or.inr ⟨rfl, fun q => ?_⟩⟩
          rcases q.2 with q | ⟨q1, q2, q3 | q3⟩
          · exact hw' q.1
          · exact z q3
          · exact q3 g'
        · refine And.intro (fun q => absurd (show (0 : Int) = 0 from rfl) q) (fun _ => ?_)
          exact ⟨Or.inr rfl, rfl, Or.inl ⟨rfl, hF, Or.inr ⟨hw', pk.mpr g, Or.inr g'⟩⟩⟩
    · refine And.intro (fun _ => ?_) (fun q => absurd (show (0 : Int) = 0 from rfl) q)
      refine ⟨Or.inl rfl, rfl, Or.inr ⟨rfl, fun q => ?_⟩⟩
      rcases q.2 with q | ⟨q1, q2, q3⟩
      · exact hw' q.1
      · exact g (pk.mp q2)
  · have hw' : w = 1 := hw
    refine Exists.intro _ (And.intro (c_ends _ m k M (mU T m) (T_hU hT m) hK hP) ?_)
    rintro r M0 ⟨rfl, (⟨rfl, g⟩ | ⟨rfl, g⟩)⟩
    · refine And.intro (fun _ => ?_) (fun q => absurd (show (1 : Int) = 0 from q) (by decide))
      refine ⟨Or.inl rfl, rfl, Or.inr ⟨rfl, fun q => ?_⟩⟩
      rcases q.2 with q | ⟨q1, q2, q3⟩
      · exact q.2 (pk.mpr g)
      · exact q1 hw'
    · refine And.intro (fun q => absurd (show (0 : Int) = 0 from rfl) q) (fun _ => ?_)
      exact ⟨Or.inr rfl, rfl, Or.inl ⟨rfl, hF, Or.inl ⟨hw', fun q => g (pk.mp q)⟩⟩⟩
theorem c_howMany (d s : Nat) (w : Int) (M : dt_M) (T : Nat → Nat → Nat → Int) (hs : s < 16) (hE : cE M T) (hT : ∀ i, i < 4 → ∃ n s, tV (T i) n s) : dt_Sp mX1_howMany (d + 5) [qK, .inl s, .inl w] M (fun r M' => yfr M M' ∧ r = some (.inl (dt_ct (sxb T s w) 256 : Int))) := by
  refine dt_meth okX1_howMany (fun pc => pc == 10) 60 (σ := Nat × dt_M) (fun t => 10) (fun t => [some qK, some (.inl s), some (.inl w), some (.inl (dt_ct (sxb T s w) t.1 : Int)), some (.inl t.1)]) (fun t => t.2) (fun t => t.1 ≤ 256 ∧ yfr M t.2 ∧ xR t.2 T s) (fun t => 256 - t.1) (by decide) (Nat.le_of_ble_eq_true rfl) ?_ ?_
  · intro J hJ
    refine Exists.intro _ (And.intro (c_choose _ s M T hs hE hT) ?_)
    rintro r M1 ⟨rfl, f1, hR⟩
    exact hJ (0, M1) _ ⟨Nat.zero_le _, yfr_x f1, hR⟩ ⟨rfl, rfl, rfl, rfl, rfl, trivial⟩
  · rintro ⟨m, N⟩ ⟨h1, f1, hR⟩ J hJ
    dsimp only at h1 f1 hR hJ
    have ctl := ct_le (sxb T s w) m
    refine And.intro (fun hh => ?_) (fun hh => ?_)
    · have h4 : (256 : Int) ≤ (m : Int) := hh
      have : m = 256 := by omega
      subst this
      exact ⟨f1, rfl⟩
    · have h4 : (m : Int) < 256 := hh
      have hm : m < 256 := by omega
      have no : ∀ N', yfr M N' → xR N' T s → ¬ sx T s w m → dt_r ((m : Int) + 1) ∧ J 10 [some qK, some (.inl s), some (.inl w), some (.inl (dt_ct (sxb T s w) m : Int)), some (.inl ((m : Int) + 1))] [] N' := fun N' f2 hR2 g =>
        And.intro ⟨by omega, by omega⟩ (hJ (m + 1, N') _ ⟨by dsimp only; omega, f2, hR2⟩ (by dsimp only; omega) ⟨rfl, rfl, rfl, by dsimp only; rw [ct_f (sxb_f g)], rfl, trivial⟩)
      refine Exists.intro _ (And.intro (c_isFirst _ s m N T hm hR) ?_)
      rintro r M0 ⟨rfl, (⟨rfl, g⟩ | ⟨rfl, g⟩)⟩
      · refine And.intro (fun q => absurd (show (1 : Int) = 0 from q) (by decide)) (fun _ => ?_)
        refine Exists.intro _ (And.intro (c_perform _ m M0 (mU T m) hm (cE_hM (f1.E hE) m) (T_hU hT m)) ?_)
        rintro r M1 ⟨rfl, f2, k, hK, hP⟩
        have hR1 := pfr_R f2 hR
        refine Exists.intro _ (And.intro (c_isSuch _ s m k w M1 T hs hm hT hR1 g hK hP) ?_)
        rintro r M2 ⟨rfl, (⟨rfl, g'⟩ | ⟨rfl, g'⟩)⟩
        · refine And.intro (fun q => absurd (show (1 : Int) = 0 from q) (by decide)) (fun _ => ?_)
          refine And.intro ⟨by (try dsimp only); omega, by (try dsimp only); omega⟩ (And.intro ⟨by (try dsimp only); omega, by (try dsimp only); omega⟩ (hJ (m + 1, M2) _ ⟨by dsimp only; omega, f1.tr (yfr_p f2), hR1⟩ (by dsimp only; omega) ⟨rfl, rfl, rfl, by dsimp only; rw [ct_t (sxb_t g')]; rfl, rfl, trivial⟩))
        · refine And.intro (fun _ => ?_) (fun q => absurd (show (0 : Int) = 0 from rfl) q)
          exact no M2 (f1.tr (yfr_p f2)) hR1 g'
      · refine And.intro (fun _ => ?_) (fun q => absurd (show (0 : Int) = 0 from rfl) q)
        exact no M0 f1 hR (fun q => g q.1)
theorem c_newAt (d s : Nat) (k : Int) (M : dt_M) (T : Nat → Nat → Nat → Int) (hs : s < 16) (hE : cE M T) (hT : ∀ i, i < 4 → ∃ n s, tV (T i) n s) : dt_Sp mX1_newAt (d + 5) [qK, .inl s, .inl k] M (fun r M' => yfr M M' ∧ ∃ v, r = some (.inl v) ∧ frB T s k v) := by
  refine dt_meth okX1_newAt (fun pc => pc == 10) 60 (σ := Nat × dt_M) (fun t => 10) (fun t => [some qK, some (.inl s), some (.inl k), some (.inl (dt_ct (fxb T s) t.1 : Int)), some (.inl t.1)]) (fun t => t.2) (fun t => t.1 ≤ 256 ∧ yfr M t.2 ∧ xR t.2 T s ∧ ∀ m, m < t.1 → fxb T s m = true → (dt_ct (fxb T s) m : Int) ≠ k) (fun t => 256 - t.1) (by decide) (Nat.le_of_ble_eq_true rfl) ?_ ?_
  · intro J hJ
    refine Exists.intro _ (And.intro (c_choose _ s M T hs hE hT) ?_)
    rintro r M1 ⟨rfl, f1, hR⟩
    exact hJ (0, M1) _ ⟨Nat.zero_le _, yfr_x f1, hR, fun m hm => absurd hm (Nat.not_lt_zero m)⟩ ⟨rfl, rfl, rfl, rfl, rfl, trivial⟩
  · rintro ⟨m, N⟩ ⟨h1, f1, hR, h2⟩ J hJ
    dsimp only at h1 f1 hR h2 hJ
    have ctl := ct_le (fxb T s) m
    refine And.intro (fun hh => ?_) (fun hh => ?_)
    · have h4 : (256 : Int) ≤ (m : Int) := hh
      have : m = 256 := by omega
      subst this
      exact ⟨f1, -1, rfl, Or.inr ⟨rfl, h2⟩⟩
    · have h4 : (m : Int) < 256 := hh
      have hm : m < 256 := by omega
      have no : ∀ N', yfr M N' → xR N' T s → ¬ fx T s m → dt_r ((m : Int) + 1) ∧ J 10 [some qK, some (.inl s), some (.inl k), some (.inl (dt_ct (fxb T s) m : Int)), some (.inl ((m : Int) + 1))] [] N' := fun N' f2 hR2 g =>
        And.intro ⟨by omega, by omega⟩ (hJ (m + 1, N') _ ⟨by dsimp only; omega, f2, hR2, fun j hj q => by
          dsimp only at hj
          by_cases z : j = m
          · subst z; rw [fxb_f g] at q; cases q
          · exact h2 j (by omega) q⟩ (by dsimp only; omega) ⟨rfl, rfl, rfl, by dsimp only; rw [ct_f (fxb_f g)], rfl, trivial⟩)
      refine Exists.intro _ (And.intro (c_isFirst _ s m N T hm hR) ?_)
      rintro r M0 ⟨rfl, (⟨rfl, g⟩ | ⟨rfl, g⟩)⟩
      · refine And.intro (fun q => absurd (show (1 : Int) = 0 from q) (by decide)) (fun _ => ?_)
        refine Exists.intro _ (And.intro (c_isOfOne _ s m M0 T hs hm hR g) ?_)
        rintro r M1 ⟨rfl, (⟨rfl, g1⟩ | ⟨rfl, g1⟩)⟩
        · refine And.intro (fun _ => ?_) (fun q => absurd (show (1 : Int) = 0 from q) (by decide))
          exact no M1 f1 hR (fun q => q.2.2 g1)
        · refine And.intro (fun q => absurd (show (0 : Int) = 0 from rfl) q) (fun _ => ?_)
          refine Exists.intro _ (And.intro (c_perform _ m M1 (mU T m) hm (cE_hM (f1.E hE) m) (T_hU hT m)) ?_)
          rintro r M2 ⟨rfl, f2, j, hK, hP⟩
          have hR1 := pfr_R f2 hR
          refine Exists.intro _ (And.intro (c_ends _ m j M2 (mU T m) (T_hU hT m) hK hP) ?_)
          rintro r M3 ⟨rfl, (⟨rfl, g'⟩ | ⟨rfl, g'⟩)⟩
          · refine And.intro (fun q => absurd (show (1 : Int) = 0 from q) (by decide)) (fun _ => ?_)
            have hfx : fx T s m := ⟨g, (pe_k hK).mpr g', g1⟩
            refine And.intro (fun z => ?_) (fun z => ?_)
            · have z' : ¬ (dt_ct (fxb T s) m : Int) = k := z
              refine And.intro ⟨by (try dsimp only); omega, by (try dsimp only); omega⟩ (And.intro ⟨by (try dsimp only); omega, by (try dsimp only); omega⟩ (hJ (m + 1, M3) _ ⟨by dsimp only; omega, f1.tr (yfr_p f2), hR1, fun i hi q => ?_⟩ (by dsimp only; omega) ⟨rfl, rfl, rfl, by dsimp only; rw [ct_t (fxb_t hfx)]; rfl, rfl, trivial⟩))
              dsimp only at hi
              by_cases x : i = m
              · subst x; exact z'
              · exact h2 i (by omega) q
            · have z' : (dt_ct (fxb T s) m : Int) = k := z
              exact ⟨f1.tr (yfr_p f2), m, rfl, Or.inl ⟨m, hm, fxb_t hfx, z', rfl⟩⟩
          · refine And.intro (fun _ => ?_) (fun q => absurd (show (0 : Int) = 0 from rfl) q)
            exact no M3 (f1.tr (yfr_p f2)) hR1 (fun q => g' ((pe_k hK).mp q.2.1))
      · refine And.intro (fun _ => ?_) (fun q => absurd (show (0 : Int) = 0 from rfl) q)
        exact no M0 f1 hR (fun q => g q.1)
