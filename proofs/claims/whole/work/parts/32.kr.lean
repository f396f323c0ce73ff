/-! ===== what is drawn and kept: the least relation; bits ===== -/
def kr_cl (T : Nat → Nat → Int) (n : Nat) (w : Int) (R : Nat → Nat → Prop) : Prop :=
  (∀ a b c, R a b → R b c → R a c) ∧
  (∀ e m : Nat, e < n → T 1 e = 0 → T 5 e = (m : Int) → m < n → R e m) ∧
  (∀ e f : Nat, e < f → f < n → T 2 e = T 2 f → (w = 3 ∨ T 1 f = 0) → R e f) ∧
  (∀ e f : Nat, e < f → f < n → T 2 e = T 2 f → T 1 e = 1 → T 1 f = 1 → w = 1 → T 3 e = T 3 f → T 5 e < T 5 f → R e f) ∧
  (∀ e f a b : Nat, e < f → f < n → T 2 e = T 2 f → T 1 e = 1 → T 1 f = 1 → w = 2 → T 5 e = (a : Int) → T 5 f = (b : Int) → R a b → R e f)
def KR (T : Nat → Nat → Int) (n : Nat) (w : Int) (e f : Nat) : Prop := ∀ R, kr_cl T n w R → R e f
def kr_d (T : Nat → Nat → Int) (w : Int) (K : Nat → Nat → Prop) (g f : Nat) : Prop :=
  T 5 f = (g : Int) ∨ (T 2 g = T 2 f ∧ (w = 3 ∨ T 1 f = 0 ∨ (T 1 f = 1 ∧ T 1 g = 1 ∧ ((w = 1 ∧ T 3 g = T 3 f ∧ T 5 g < T 5 f) ∨ (w = 2 ∧ K (T 5 g).toNat (T 5 f).toNat)))))
theorem KR_cl {T : Nat → Nat → Int} {n : Nat} {w : Int} : kr_cl T n w (KR T n w) :=
  ⟨fun a b c h1 h2 R hR => hR.1 a b c (h1 R hR) (h2 R hR), fun e m h1 h2 h3 h4 R hR => hR.2.1 e m h1 h2 h3 h4, fun e f h1 h2 h3 h4 R hR => hR.2.2.1 e f h1 h2 h3 h4, fun e f h1 h2 h3 h4 h5 h6 h7 h8 R hR => hR.2.2.2.1 e f h1 h2 h3 h4 h5 h6 h7 h8, fun e f a b h1 h2 h3 h4 h5 h6 h7 h8 h9 R hR => hR.2.2.2.2 e f a b h1 h2 h3 h4 h5 h6 h7 h8 (h9 R hR)⟩
theorem KR_lt {T : Nat → Nat → Int} {n s : Nat} {w : Int} (hV : tV T n s) {e f : Nat} (h : KR T n w e f) : e < f ∧ f < n := by
  refine h (fun e f => e < f ∧ f < n) ⟨fun a b c h1 h2 => ⟨by omega, h2.2⟩, fun e m h1 h2 h3 h4 => ?_, fun e f h1 h2 _ _ => ⟨h1, h2⟩, fun e f h1 h2 _ _ _ _ _ _ => ⟨h1, h2⟩, fun e f a b h1 h2 _ _ _ _ _ _ _ => ⟨h1, h2⟩⟩
  obtain ⟨x, a1, a2, a3, -⟩ := tV_mate hV h1 h2
  omega
theorem KR_up {T : Nat → Nat → Int} {n s : Nat} {w : Int} (hV : tV T n s) {e f : Nat} (hf : f < n) : KR T n w e f ↔ ∃ g, g < f ∧ kr_d T w (KR T n w) g f ∧ (e = g ∨ KR T n w e g) := by
  have dirK : ∀ g f, g < f → f < n → kr_d T w (KR T n w) g f → KR T n w g f := by
    intro g f hgf hf h
    rcases h with h | ⟨h1, h | h | ⟨h2, h3, ⟨h4, h5, h6⟩ | ⟨h4, h5⟩⟩⟩
    · have he := hV.1.2.1 f hf
      rcases he.1 with z | z
      · obtain ⟨x, a1, a2, -⟩ := tV_mate hV hf z
        omega
      · obtain ⟨m, a1, a2, a3, a4, -⟩ := hV.1.2.2.1 f hf z
        have : m = g := by omega
        subst this
        exact KR_cl.2.1 m f (by omega) a3 a4 hf
    · exact KR_cl.2.2.1 g f hgf hf h1 (Or.inl h)
    · exact KR_cl.2.2.1 g f hgf hf h1 (Or.inr h)
    · exact KR_cl.2.2.2.1 g f hgf hf h1 h3 h2 h4 h5 h6
    · obtain ⟨a, a1, -⟩ := hV.1.2.2.1 g (by omega) h3
      obtain ⟨b, b1, -⟩ := hV.1.2.2.1 f hf h2
      refine KR_cl.2.2.2.2 g f a b hgf hf h1 h3 h2 h4 a1 b1 ?_
      rw [a1, b1] at h5
      exact h5
  constructor
  · intro h
    have key : kr_cl T n w (fun e f => f < n ∧ ∃ g, g < f ∧ kr_d T w (KR T n w) g f ∧ (e = g ∨ KR T n w e g)) := by
      have toK : ∀ a b, (b < n ∧ ∃ g, g < b ∧ kr_d T w (KR T n w) g b ∧ (a = g ∨ KR T n w a g)) → KR T n w a b := by
        rintro a b ⟨hb, g, g1, g2, g3⟩
        have hg := dirK g b g1 hb g2
        rcases g3 with rfl | g3
        · exact hg
        · exact KR_cl.1 _ _ _ g3 hg
      refine ⟨?_, ?_, ?_, ?_, ?_⟩
      · rintro a b c h1 ⟨hc, g, g1, g2, g3⟩
        have hab := toK a b h1
        refine ⟨hc, g, g1, g2, Or.inr ?_⟩
        rcases g3 with rfl | g3
        · exact hab
        · exact KR_cl.1 _ _ _ hab g3
      · intro e m h1 h2 h3 h4
        obtain ⟨x, a1, a2, a3, a4, a5⟩ := tV_mate hV h1 h2
        have : x = m := by omega
        subst this
        exact ⟨a3, e, a2, Or.inl a5, Or.inl rfl⟩
      · intro e f h1 h2 h3 h4
        exact ⟨h2, e, h1, Or.inr ⟨h3, h4.elim Or.inl (fun z => Or.inr (Or.inl z))⟩, Or.inl rfl⟩
      · intro e f h1 h2 h3 h4 h5 h6 h7 h8
        exact ⟨h2, e, h1, Or.inr ⟨h3, Or.inr (Or.inr ⟨h5, h4, Or.inl ⟨h6, h7, h8⟩⟩)⟩, Or.inl rfl⟩
      · intro e f a b h1 h2 h3 h4 h5 h6 h7 h8 h9
        refine ⟨h2, e, h1, Or.inr ⟨h3, Or.inr (Or.inr ⟨h5, h4, Or.inr ⟨h6, ?_⟩⟩)⟩, Or.inl rfl⟩
        rw [h7, h8]
        exact toK a b h9
    exact (h _ key).2
  · rintro ⟨g, g1, g2, g3⟩
    have hg := dirK g f g1 hf g2
    rcases g3 with rfl | g3
    · exact hg
    · exact KR_cl.1 _ _ _ g3 hg
/-! bits -/
def dt_bit (x : Int) (e : Nat) : Prop := ¬ dt_and x (dt_shl 1 e) = 0
theorem db_sh : ∀ l : Nat, l < 32 → ((1 : Int32) <<< (Int32.ofNat l &&& 31)).toBitVec = BitVec.twoPow 32 l := by decide +kernel
theorem db_bv {x : Int} {e : Nat} (he : e < 32) : dt_bit x e ↔ (Int32.ofInt x).toBitVec.getLsbD e = true := by
  unfold dt_bit dt_and dt_shl
  rw [Int32.ofInt_toInt, show Int32.ofInt 1 = 1 from rfl, Int32.ofInt_eq_ofNat]
  have h0 : (Int32.ofInt x &&& 1 <<< (Int32.ofNat e &&& 31)).toInt = 0 ↔ (Int32.ofInt x &&& 1 <<< (Int32.ofNat e &&& 31)) = 0 := by
    rw [← Int32.toInt_inj]; rfl
  rw [h0, ← Int32.toBitVec_inj, Int32.toBitVec_and, db_sh e he, BitVec.and_twoPow]
  cases hb : (Int32.ofInt x).toBitVec.getLsbD e with
  | true =>
    simp only [if_true, iff_true]
    intro q
    have := congrArg (fun z => z.getLsbD e) q
    simp [BitVec.getLsbD_twoPow, he] at this
  | false => simp
theorem db_or {x y : Int} {e : Nat} (he : e < 32) : dt_bit (dt_or x y) e ↔ dt_bit x e ∨ dt_bit y e := by
  rw [db_bv he, db_bv he, db_bv he]
  unfold dt_or
  rw [Int32.ofInt_toInt, Int32.toBitVec_or, BitVec.getLsbD_or, Bool.or_eq_true]
theorem db_one {g e : Nat} (hg : g < 32) (he : e < 32) : dt_bit (dt_shl 1 g) e ↔ e = g := by
  rw [db_bv he]
  unfold dt_shl
  rw [Int32.ofInt_toInt, show Int32.ofInt 1 = 1 from rfl, Int32.ofInt_eq_ofNat, db_sh g hg, BitVec.getLsbD_twoPow]
  simp [hg]
  exact ⟨fun h => h.symm, fun h => h.symm⟩
theorem db_zero {e : Nat} (he : e < 32) : ¬ dt_bit 0 e := by
  rw [db_bv he]
  simp
/-! ===== Relation ===== -/
abbrev qR : dt_V := .inr (.inr (8, 1, 44))
theorem c_isAhead (d e f : Nat) (M : dt_M) (he : e < 20) (hf : f < 20) : dt_Sp mX4_isAhead d [qR, .inl e, .inl f] M (fun r M' => M' = M ∧ ((r = some (.inl 1) ∧ dt_bit (M.1 45 f) e) ∨ (r = some (.inl 0) ∧ ¬ dt_bit (M.1 45 f) e))) := by
  have ef : (f : Int).toNat = f := by omega
  refine dt_flat okX4_isAhead 40 (by decide) (Nat.le_of_ble_eq_true rfl) (fun J => ?_)
  refine And.intro (fun h => absurd h (by omega)) (fun _ => ?_)
  refine And.intro (fun h => absurd h (by omega)) (fun _ => ?_)
  refine And.intro (fun h => absurd h (by omega)) (fun _ => ?_)
  refine And.intro (fun h => absurd h (by omega)) (fun _ => ?_)
  refine And.intro ⟨by omega, by omega⟩ ?_
  rw [ef]
  refine And.intro (fun h => ⟨Or.inl rfl, rfl, Or.inr ⟨rfl, fun q => q h⟩⟩) (fun h => ⟨Or.inr rfl, rfl, Or.inl ⟨rfl, h⟩⟩)
theorem c_isDirect (d k n s e f : Nat) (w : Int) (M : dt_M) (hV : tV (tk M k) n s) (hef : e < f) (hf : f < n) (hA : ∀ g, g < f → ∀ x, x < 20 → (dt_bit (M.1 45 g) x ↔ KR (tk M k) n w x g)) : dt_Sp mX4_isDirect (d + 1) [qR, qT k, .inl w, .inl e, .inl f] M (fun r M' => M' = M ∧ ((r = some (.inl 1) ∧ kr_d (tk M k) w (KR (tk M k) n w) e f) ∨ (r = some (.inl 0) ∧ ¬ kr_d (tk M k) w (KR (tk M k) n w) e f))) := by
  have hn : n ≤ 20 := by have := hV.1.1; omega
  have ef : (f : Int).toNat = f := by omega
  have ee : (e : Int).toNat = e := by omega
  have ve := hV.1.2.1 e (by omega)
  have vf := hV.1.2.1 f hf
  refine dt_flat okX4_isDirect 120 (by decide) (Nat.le_of_ble_eq_true rfl) (fun J => ?_)
  refine And.intro ⟨by omega, by omega⟩ ?_
  rw [ef]
  refine And.intro (fun h1 => ?_) (fun h1 => ⟨Or.inr rfl, rfl, Or.inl ⟨rfl, Or.inl h1⟩⟩)
  refine And.intro ⟨by omega, by omega⟩ (And.intro ⟨by omega, by omega⟩ ?_)
  rw [ef, ee]
  refine And.intro (fun h2 => ?_) (fun h2 => ⟨Or.inl rfl, rfl, Or.inr ⟨rfl, fun q => q.elim h1 (fun z => h2 z.1)⟩⟩)
  refine And.intro (fun h3 => ⟨Or.inr rfl, rfl, Or.inl ⟨rfl, Or.inr ⟨h2, Or.inl h3⟩⟩⟩) (fun h3 => ?_)
  refine And.intro ⟨by omega, by omega⟩ ?_
  rw [ef]
  refine And.intro (fun h4 => ?_) (fun h4 => ⟨Or.inr rfl, rfl, Or.inl ⟨rfl, Or.inr ⟨h2, Or.inr (Or.inl h4)⟩⟩⟩)
  have t4 : tk M k 1 f = 1 := by rcases vf.1 with q | q; exact absurd q h4; exact q
  refine And.intro ⟨by omega, by omega⟩ ?_
  rw [ee]
  have noD : ¬ (tk M k 1 e = 1 ∧ ((w = 1 ∧ tk M k 3 e = tk M k 3 f ∧ tk M k 5 e < tk M k 5 f) ∨ (w = 2 ∧ KR (tk M k) n w (tk M k 5 e).toNat (tk M k 5 f).toNat))) → ¬ kr_d (tk M k) w (KR (tk M k) n w) e f := by
    intro q z
    rcases z with z | ⟨-, z | z | ⟨-, z1, z2⟩⟩
    · exact h1 z
    · exact h3 z
    · exact h4 z
    · exact q ⟨z1, z2⟩
  refine And.intro (fun h5 => ?_) (fun h5 => ⟨Or.inl rfl, rfl, Or.inr ⟨rfl, noD (fun q => by have : tk M k 1 e = 0 := h5; omega)⟩⟩)
  have t5 : tk M k 1 e = 1 := by rcases ve.1 with q | q; exact absurd q h5; exact q
  obtain ⟨a, a1, a2, -⟩ := hV.1.2.2.1 e (by omega) t5
  obtain ⟨b, b1, b2, -⟩ := hV.1.2.2.1 f hf t4
  have a1' : M.1 (k + 5) e = (a : Int) := a1
  have b1' : M.1 (k + 5) f = (b : Int) := b1
  refine And.intro (fun h6 => ?_) (fun h6 => ?_)
  · refine And.intro (fun h7 => ⟨Or.inl rfl, rfl, Or.inr ⟨rfl, noD (fun q => by rcases q.2 with z | z; exact h6 z.1; exact h7 z.1)⟩⟩) (fun h7 => ?_)
    refine And.intro ⟨by omega, by omega⟩ (And.intro ⟨by omega, by omega⟩ ?_)
    rw [ee, ef, a1', b1']
    refine Exists.intro _ (And.intro (c_isAhead _ a b M (by omega) (by omega)) ?_)
    have hab := hA b (by omega) a (by omega)
    have h8 : KR (tk M k) n w (tk M k 5 e).toNat (tk M k 5 f).toNat ↔ KR (tk M k) n w a b := by rw [a1, b1]; exact Iff.rfl
    rintro r M0 ⟨rfl, (⟨rfl, g⟩ | ⟨rfl, g⟩)⟩
    · exact And.intro (fun q => absurd (show (1 : Int) = 0 from q) (by decide)) (fun _ => ⟨Or.inr rfl, rfl, Or.inl ⟨rfl, Or.inr ⟨h2, Or.inr (Or.inr ⟨t4, t5, Or.inr ⟨h7, h8.mpr (hab.mp g)⟩⟩)⟩⟩⟩)
    · exact And.intro (fun _ => ⟨Or.inl rfl, rfl, Or.inr ⟨rfl, noD (fun q => by rcases q.2 with z | z; exact h6 z.1; exact g (hab.mpr (h8.mp z.2)))⟩⟩) (fun q => absurd (show (0 : Int) = 0 from rfl) q)
  · refine And.intro ⟨by omega, by omega⟩ (And.intro ⟨by omega, by omega⟩ ?_)
    rw [ee, ef]
    refine And.intro (fun h7 => ⟨Or.inl rfl, rfl, Or.inr ⟨rfl, noD (fun q => by rcases q.2 with z | z; exact h7 z.2.1; have := z.1; omega)⟩⟩) (fun h7 => ?_)
    refine And.intro ⟨by omega, by omega⟩ (And.intro ⟨by omega, by omega⟩ ?_)
    rw [ee, ef]
    refine And.intro (fun h8 => ⟨Or.inl rfl, rfl, Or.inr ⟨rfl, noD (fun q => by rcases q.2 with z | z; have z8 : M.1 (k + 5) e < M.1 (k + 5) f := z.2.2; omega; have := z.1; omega)⟩⟩) (fun h8 => ⟨Or.inr rfl, rfl, Or.inl ⟨rfl, Or.inr ⟨h2, Or.inr (Or.inr ⟨t4, t5, Or.inl ⟨h6, h7, h8⟩⟩)⟩⟩⟩)
/-- nothing has changed but the Relation's row -/
def rel_fr (M M' : dt_M) : Prop := (∀ a, a ≠ 45 → M'.1 a = M.1 a) ∧ M'.2 = M.2
theorem c_workOut (d k n s : Nat) (w : Int) (M : dt_M) (hk : k + 8 ≤ 45) (hV : tV (tk M k) n s) : dt_Sp mX4_workOut (d + 2) [qR, qT k, .inl w] M (fun r M' => r = none ∧ rel_fr M M' ∧ ∀ f, f < n → ∀ x, x < 20 → (dt_bit (M'.1 45 f) x ↔ KR (tk M k) n w x f)) := by
  have hn : n ≤ 20 := by have := hV.1.1; omega
  refine dt_meth okX4_workOut (fun pc => pc == 2 || pc == 16) 80 (σ := Bool × Nat × Nat × Int × dt_M) (fun t => cond t.1 16 2) (fun t => [some qR, some (qT k), some (.inl w), some (.inl t.2.1), cond t.1 (some (.inl t.2.2.2.1)) none, cond t.1 (some (.inl t.2.2.1)) none]) (fun t => t.2.2.2.2) (fun t => rel_fr M t.2.2.2.2 ∧ (∀ f, f < t.2.1 → ∀ x, x < 20 → (dt_bit (t.2.2.2.2.1 45 f) x ↔ KR (tk M k) n w x f)) ∧ t.2.1 ≤ n ∧ (t.1 = true → t.2.1 < n ∧ t.2.2.1 ≤ t.2.1 ∧ ∀ x, x < 20 → (dt_bit t.2.2.2.1 x ↔ ∃ g, g < t.2.2.1 ∧ kr_d (tk M k) w (KR (tk M k) n w) g t.2.1 ∧ (x = g ∨ KR (tk M k) n w x g)))) (fun t => (n - t.2.1) * 100 + (cond t.1 (50 - t.2.2.1) 60)) (by decide) (Nat.le_of_ble_eq_true rfl) ?_ ?_
  · intro J hJ
    exact hJ (false, 0, 0, 0, M) _ ⟨⟨fun _ _ => rfl, rfl⟩, fun f hf => absurd hf (Nat.not_lt_zero f), Nat.zero_le _, fun q => by cases q⟩ ⟨rfl, rfl, rfl, rfl, trivial⟩
  · rintro ⟨b, f, e, m, N⟩ ⟨h1, h2, h3, h4⟩ J hJ
    dsimp only at h1 h2 h3 h4 hJ
    have row : ∀ g, g < 8 → tk N k g = tk M k g := fun g hg => by
      funext j
      show N.1 (k + g) j = M.1 (k + g) j
      rw [h1.1 (k + g) (by omega)]
    have VN : tV (tk N k) n s := tV_row row hV
    have KN : ∀ x y, KR (tk N k) n w x y ↔ KR (tk M k) n w x y := by
      intro x y
      unfold KR kr_cl
      rw [row 1 (by omega), row 2 (by omega), row 3 (by omega), row 5 (by omega)]
    have e7 : N.1 k 7 = (n : Int) := VN.1.1.1
    cases b with
    | false =>
      refine And.intro (fun h => ?_) (fun h => ?_)
      · have hh : N.1 k 7 ≤ (f : Int) := h
        have : f = n := by omega
        subst this
        exact ⟨rfl, h1, h2⟩
      · have hh : (f : Int) < N.1 k 7 := h
        have hfn : f < n := by omega
        refine hJ (true, f, 0, 0, N) _ ⟨h1, h2, h3, fun _ => ⟨hfn, Nat.zero_le _, fun x hx => ⟨fun q => absurd q (db_zero (by omega)), fun ⟨g, g1, _⟩ => absurd g1 (Nat.not_lt_zero g)⟩⟩⟩ (by dsimp only [cond]; omega) ⟨rfl, rfl, rfl, rfl, rfl, rfl, trivial⟩
    | true =>
      obtain ⟨q1, q2, q3⟩ := h4 rfl
      refine And.intro (fun h => ?_) (fun h => ?_)
      · have hh : (f : Int) ≤ (e : Int) := h
        have : e = f := by omega
        subst this
        refine And.intro ⟨by (try dsimp only); omega, by (try dsimp only); omega⟩ ?_
        intro M1 hM1
        dsimp only at hM1
        rw [show (e : Int).toNat = e by omega] at hM1
        refine And.intro ⟨by (try dsimp only); omega, by (try dsimp only); omega⟩ (hJ (false, e + 1, 0, 0, M1) _ ⟨?_, ?_, by (try dsimp only); omega, fun q => by cases q⟩ (by dsimp only [cond]; omega) ⟨rfl, rfl, rfl, rfl, trivial⟩)
        · subst hM1
          exact ⟨fun a ha => (dm_wi2 ha).trans (h1.1 a ha), h1.2⟩
        · intro g hg x hx
          subst hM1
          show dt_bit ((dt_wi N 45 e m).1 45 g) x ↔ _
          rw [dm_wi1]
          dsimp only at hg
          by_cases hge : g = e
          · subst hge
            rw [dm_up1, q3 x hx]
            exact (KR_up hV q1).symm
          · rw [dm_up2 hge]
            exact h2 g (by omega) x hx
      · have hh : (e : Int) < (f : Int) := h
        have hef : e < f := by omega
        have hD := c_isDirect d k n s e f w N VN hef q1 (fun g hg x hx => by rw [KN]; exact h2 g hg x hx)
        have DN : kr_d (tk N k) w (KR (tk N k) n w) e f ↔ kr_d (tk M k) w (KR (tk M k) n w) e f := by
          unfold kr_d
          rw [row 1 (by omega), row 2 (by omega), row 3 (by omega), row 5 (by omega), KN]
        refine Exists.intro _ (And.intro hD ?_)
        rintro r M0 ⟨rfl, (⟨rfl, g⟩ | ⟨rfl, g⟩)⟩
        · refine And.intro (fun q => absurd (show (1 : Int) = 0 from q) (by decide)) (fun _ => ?_)
          refine And.intro ⟨by omega, by (try dsimp only); omega⟩ ?_
          dsimp only
          rw [show (e : Int).toNat = e by omega]
          refine And.intro ⟨by omega, by omega⟩ (hJ (true, f, e + 1, dt_or m (dt_or (M0.1 45 e) (dt_shl 1 e)), M0) _ ⟨h1, h2, h3, fun _ => ⟨q1, by (try dsimp only); omega, fun x hx => ?_⟩⟩ (by dsimp only [cond]; omega) ⟨rfl, rfl, rfl, rfl, rfl, rfl, trivial⟩)
          dsimp only
          rw [db_or (by omega), db_or (by omega), db_one (by omega) (by omega), q3 x hx, h2 e hef x hx]
          constructor
          · rintro (⟨g', a1, a2, a3⟩ | z | z)
            · exact ⟨g', by omega, a2, a3⟩
            · exact ⟨e, by omega, DN.mp g, Or.inr z⟩
            · exact ⟨e, by omega, DN.mp g, Or.inl z⟩
          · rintro ⟨g', a1, a2, a3⟩
            by_cases hg : g' = e
            · subst hg
              rcases a3 with z | z
              · exact Or.inr (Or.inr z)
              · exact Or.inr (Or.inl z)
            · exact Or.inl ⟨g', by omega, a2, a3⟩
        · refine And.intro (fun _ => ?_) (fun q => absurd (show (0 : Int) = 0 from rfl) q)
          refine And.intro ⟨by (try dsimp only); omega, by (try dsimp only); omega⟩ (hJ (true, f, e + 1, m, M0) _ ⟨h1, h2, h3, fun _ => ⟨q1, by (try dsimp only); omega, fun x hx => ?_⟩⟩ (by dsimp only [cond]; omega) ⟨rfl, rfl, rfl, rfl, rfl, rfl, trivial⟩)
          dsimp only
          rw [q3 x hx]
          constructor
          · rintro ⟨g', a1, a2, a3⟩
            exact ⟨g', by omega, a2, a3⟩
          · rintro ⟨g', a1, a2, a3⟩
            by_cases hg : g' = e
            · subst hg
              exact absurd (DN.mpr a2) g
            · exact ⟨g', by omega, a2, a3⟩
