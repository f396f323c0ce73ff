/-! ===== the Model: kept, by passes ===== -/
def h4 {α : Type} : Nat → α → α → α → α → α
  | 0, a, _, _, _ => a
  | 1, _, b, _, _ => b
  | 2, _, _, c, _ => c
  | _ + 3, _, _, _, d => d
def dI (T : Nat → Nat → Int) (w : Int) (B : Nat → Nat → Prop) (e f : Nat) : Prop := T 2 e = T 2 f ∧ (T 1 f = 0 ∨ (T 1 f = 1 ∧ T 1 e = 1 ∧ kt_t T w B e f))
theorem dI_KR {T : Nat → Nat → Int} {n s e f : Nat} {w : Int} {B : Nat → Nat → Prop} (hV : tV T n s) (hs : ∀ a b, a < n → b < n → B a b → KR T n w a b) (hef : e < f) (hf : f < n) (h : dI T w B e f) : KR T n w e f := by
  obtain ⟨h1, h2 | ⟨h2, h3, h4 | h4⟩⟩ := h
  · exact KR_cl.2.2.1 e f hef hf h1 (Or.inr h2)
  · exact KR_cl.2.2.2.1 e f hef hf h1 h3 h2 h4.1 h4.2.1 h4.2.2
  · obtain ⟨a, a1, a2, -⟩ := hV.1.2.2.1 e (by omega) h3
    obtain ⟨b, c1, c2, -⟩ := hV.1.2.2.1 f hf h2
    have h5 := h4.2
    rw [a1, c1] at h5
    exact KR_cl.2.2.2.2 e f a b hef hf h1 h3 h2 h4.1 a1 c1 (hs a b (by omega) (by omega) h5)
theorem dI_mono {T : Nat → Nat → Int} {n s e f : Nat} {w : Int} {B C : Nat → Nat → Prop} (hV : tV T n s) (hs : ∀ a b, a < n → b < n → B a b → C a b) (hef : e < f) (hf : f < n) (h : dI T w B e f) : dI T w C e f := by
  obtain ⟨h1, h2 | ⟨h2, h3, h4 | h4⟩⟩ := h
  · exact ⟨h1, Or.inl h2⟩
  · exact ⟨h1, Or.inr ⟨h2, h3, Or.inl h4⟩⟩
  · obtain ⟨a, a1, a2, -⟩ := hV.1.2.2.1 e (by omega) h3
    obtain ⟨b, c1, c2, -⟩ := hV.1.2.2.1 f hf h2
    refine ⟨h1, Or.inr ⟨h2, h3, Or.inr ⟨h4.1, ?_⟩⟩⟩
    have h5 := h4.2
    rw [a1, c1] at h5 ⊢
    exact hs a b (by omega) (by omega) h5
theorem KR_dI {T : Nat → Nat → Int} {n s : Nat} {w : Int} {B : Nat → Nat → Prop} (hV : tV T n s) (hw : w ≠ 3) (ht : ∀ a x b, a < n → x < n → b < n → B a x → B x b → B a b) (hm : ∀ a b : Nat, a < n → b < n → T 1 a = 0 → T 5 a = (b : Int) → B a b) (hc : ∀ a b, a < b → b < n → dI T w B a b → B a b) {e f : Nat} (h : KR T n w e f) : B e f := by
  refine (h (fun a b => a < n ∧ b < n ∧ B a b) ⟨?_, ?_, ?_, ?_, ?_⟩).2.2
  · rintro a b c ⟨q1, q2, q3⟩ ⟨q4, q5, q6⟩
    exact ⟨q1, q5, ht a b c q1 q2 q5 q3 q6⟩
  · intro a m x1 x2 x3 x4
    exact ⟨x1, x4, hm a m x1 x4 x2 x3⟩
  · intro a c x1 x2 x3 x4
    exact ⟨by omega, x2, hc a c x1 x2 ⟨x3, Or.inl (by rcases x4 with q | q; exact absurd q hw; exact q)⟩⟩
  · intro a c x1 x2 x3 x4 x5 x6 x7 x8
    exact ⟨by omega, x2, hc a c x1 x2 ⟨x3, Or.inr ⟨x5, x4, Or.inl ⟨x6, x7, x8⟩⟩⟩⟩
  · intro a c x y x1 x2 x3 x4 x5 x6 x7 x8 x9
    refine ⟨by omega, x2, hc a c x1 x2 ⟨x3, Or.inr ⟨x5, x4, Or.inr ⟨x6, ?_⟩⟩⟩⟩
    rw [x7, x8]
    exact x9.2.2
def a0n (N : dt_M) : Nat := dt_ct (fun j => decide (N.1 77 j = 0)) 400
theorem a0n_le {N N' : dt_M} (h : a01 N) (hB : ∀ a b, a < 20 → b < 20 → aB N a b → aB N' a b) : a0n N' ≤ a0n N := by
  refine ct_sub (fun j hj h1 => ?_)
  have e1 : 20 * (j / 20) + j % 20 = j := by omega
  have h2 := h (j / 20) (j % 20) (by omega) (by omega)
  have h3 := hB (j / 20) (j % 20) (by omega) (by omega)
  unfold aB at h3
  rw [e1] at h2 h3
  have h4 : N'.1 77 j = 0 := of_decide_eq_true h1
  refine decide_eq_true ?_
  rcases h2 with q | q
  · exact q
  · have := h3 q
    omega
theorem a0n_lt {N : dt_M} {e f : Nat} (he : e < 20) (hf : f < 20) (h : N.1 77 (20 * e + f) = 0) : a0n (dt_wi N 77 (20 * e + f) 1) + 1 = a0n N := by
  unfold a0n
  refine (ct_flip (e := 20 * e + f) (decide_eq_true h) ?_ (by omega) (fun j hj hne => ?_)).symm
  · rw [dm_wi1, dm_up1]; rfl
  · rw [dm_wi1, dm_up2 hne]
theorem k_layKept (d i n s : Nat) (w : Int) (M : dt_M) (T : Nat → Nat → Int) (hi : i < 4) (hw : w ≠ 3) (hV : tV T n s) (rT : rp M i T n) : dt_Sp mX7_layKept (d + 2) [qM, .inl i, .inl w] M (fun r M' => r = none ∧ afr M M' ∧ a01 M' ∧ ∀ a b, a < n → b < n → (aB M' a b ↔ KR T n w a b)) := by
  have hn : n ≤ 20 := by have := hV.1.1; omega
  have e0 : (i : Int).toNat = i := by omega
  refine dt_meth okX7_layKept (fun pc => pc == 11 || pc == 20 || pc == 37 || pc == 110) 90 (σ := Nat × Nat × Nat × Bool × Bool × Nat × dt_M) (fun t => h4 t.1 11 20 37 110) (fun t => [some qM, some (.inl i), some (.inl w), some (.inl (cond t.2.2.2.1 1 0)), h4 t.1 none (some (.inl t.2.1)) (some (.inl t.2.1)) (some (.inl t.2.1)), h4 t.1 none none (some (.inl t.2.2.1)) (some (.inl t.2.2.1)), h4 t.1 none none none (some (.inl (cond t.2.2.2.2.1 1 0)))]) (fun t => t.2.2.2.2.2.2)
    (fun t => afr M t.2.2.2.2.2.2 ∧ a01 t.2.2.2.2.2.2 ∧ t.1 < 4 ∧ (∀ a b, a < n → b < n → aB t.2.2.2.2.2.2 a b → KR T n w a b) ∧ (∀ a b : Nat, a < n → b < n → T 1 a = 0 → T 5 a = (b : Int) → aB t.2.2.2.2.2.2 a b) ∧
      (t.1 = 0 → (∀ a x b, a < n → x < n → b < n → aB t.2.2.2.2.2.2 a x → aB t.2.2.2.2.2.2 x b → aB t.2.2.2.2.2.2 a b) ∧ (t.2.2.2.1 = false → ∀ a b, a < b → b < n → dI T w (aB t.2.2.2.2.2.2) a b → aB t.2.2.2.2.2.2 a b)) ∧
      (0 < t.1 → a0n t.2.2.2.2.2.2 ≤ t.2.2.2.2.2.1 ∧ (t.2.2.2.1 = true → a0n t.2.2.2.2.2.2 < t.2.2.2.2.2.1) ∧ (t.2.2.2.1 = false → (∀ a x b, a < n → x < n → b < n → aB t.2.2.2.2.2.2 a x → aB t.2.2.2.2.2.2 x b → aB t.2.2.2.2.2.2 a b) ∧ ∀ a b, a < b → b < n → (a < t.2.1 ∨ (a = t.2.1 ∧ b < t.2.2.1)) → dI T w (aB t.2.2.2.2.2.2) a b → aB t.2.2.2.2.2.2 a b)) ∧
      (t.1 = 1 → t.2.1 ≤ n ∧ t.2.2.1 = 0) ∧ (t.1 = 2 → t.2.1 < n ∧ t.2.1 < t.2.2.1 ∧ t.2.2.1 ≤ n) ∧ (t.1 = 3 → t.2.1 < n ∧ t.2.1 < t.2.2.1 ∧ t.2.2.1 < n ∧ (t.2.2.2.2.1 = true ↔ dI T w (aB t.2.2.2.2.2.2) t.2.1 t.2.2.1)))
    (fun t => h4 t.1 (cond t.2.2.2.1 (a0n t.2.2.2.2.2.2 * 3000 + 2999) 0) (t.2.2.2.2.2.1 * 3000 + (n - t.2.1) * 100 + 99) (t.2.2.2.2.2.1 * 3000 + (n - t.2.1) * 100 + (n - t.2.2.1) * 2 + 2) (t.2.2.2.2.2.1 * 3000 + (n - t.2.1) * 100 + (n - t.2.2.1) * 2 + 1)) (by decide) (Nat.le_of_ble_eq_true rfl) ?_ ?_
  · intro J hJ
    refine Exists.intro _ (And.intro (k_clearAhead _ M) ?_)
    rintro r M0 ⟨rfl, f1, g1, c1⟩
    refine Exists.intro _ (And.intro (k_layMates _ i n s M0 T hi hV (f1.rp rT) g1) ?_)
    rintro r M1 ⟨rfl, f2, g2, c2⟩
    have c3 : ∀ a b, a < n → b < n → (aB M1 a b ↔ (T 1 a = 0 ∧ T 5 a = (b : Int))) := by
      intro a b ha hb
      rw [c2 a b (by omega) (by omega)]
      exact ⟨fun q => by rcases q with q | q; exact absurd q (c1 a b (by omega) (by omega)); exact q.2, fun q => Or.inr ⟨ha, q⟩⟩
    refine hJ (0, 0, 0, true, false, 0, M1) _ ⟨f1.tr f2, g2, (by dsimp only; omega), fun a b ha hb q => ?_, fun a b ha hb q1 q2 => (c3 a b ha hb).mpr ⟨q1, q2⟩, fun _ => ⟨fun a x b ha hx hb q1 q2 => ?_, fun q => by cases q⟩, fun q => absurd q (Nat.lt_irrefl 0), fun q => (by cases q), fun q => (by cases q), fun q => (by cases q)⟩ ⟨rfl, rfl, rfl, rfl, trivial⟩
    · have z := (c3 a b ha hb).mp q
      exact KR_cl.2.1 a b ha z.1 z.2 hb
    · have z1 := (c3 a x ha hx).mp q1
      have z2 := (c3 x b hx hb).mp q2
      obtain ⟨y, y1, y2, y3, y4, y5⟩ := tV_mate hV ha z1.1
      have : y = x := by omega
      subst this
      omega
  · rintro ⟨hd, e, f, b, x, c0, N⟩ ⟨h1, h2, hd4, so, ma, j0, j1, i1, i2, i3⟩ J hJ
    dsimp only at h1 h2 hd4 so ma j0 j1 i1 i2 i3 hJ
    have rN := h1.rp rT
    match hd, hd4, j0, j1, i1, i2, i3 with
    | 0, _, j0, _, _, _, _ =>
      obtain ⟨tr, cl⟩ := j0 rfl
      cases b with
      | false =>
        refine And.intro (fun _ => ?_) (fun h => absurd rfl h)
        exact ⟨rfl, h1, h2, fun a b ha hb => ⟨so a b ha hb, fun q => KR_dI hV hw tr ma (cl rfl) q⟩⟩
      | true =>
        refine And.intro (fun h => absurd (show (1 : Int) = 0 from h) (by decide)) (fun _ => ?_)
        exact hJ (1, 0, 0, false, false, a0n N, N) _ ⟨h1, h2, (by dsimp only; omega), so, ma, fun q => (by cases q), fun _ => ⟨Nat.le_refl _, fun q => (by cases q), fun _ => ⟨tr, fun a b _ _ q => (by dsimp only at q; omega)⟩⟩, fun _ => ⟨Nat.zero_le _, rfl⟩, fun q => (by cases q), fun q => (by cases q)⟩ (by dsimp only [h4, cond]; omega) ⟨rfl, rfl, rfl, rfl, rfl, trivial⟩
    | 1, _, _, j1, i1, _, _ =>
      obtain ⟨cn, cb, cf⟩ := j1 (by omega)
      obtain ⟨k1, rfl⟩ := i1 rfl
      (repeat (first | refine And.intro ⟨by (try dsimp only); omega, by (try dsimp only); omega⟩ ?_ | refine And.intro (Or.inl rfl) ?_ | refine And.intro (Or.inr rfl) ?_))
      dsimp only
      rw [e0, rN.1]
      refine And.intro (fun h => ?_) (fun h => ?_)
      · have : e = n := by omega
        subst this
        (repeat (first | refine And.intro ⟨by (try dsimp only); omega, by (try dsimp only); omega⟩ ?_ | refine And.intro (Or.inl rfl) ?_ | refine And.intro (Or.inr rfl) ?_))
        dsimp only
        rw [e0, rN.1]
        refine Exists.intro _ (And.intro (k_closeAhead _ e N hn h2) ?_)
        rintro r M0 ⟨rfl, f1, g1, c1, c2, c3, c4⟩
        have up : a0n M0 ≤ a0n N := a0n_le h2 (fun a b ha hb q => by
          by_cases z : a < e ∧ b < e
          · exact c1 a b z.1 z.2 q
          · exact (c4 a b ha hb z).mpr q)
        refine hJ (0, 0, 0, b, false, 0, M0) _ ⟨h1.tr f1, g1, (by dsimp only; omega), c2 _ KR_cl.1 so, fun a b ha hb q1 q2 => c1 a b ha hb (ma a b ha hb q1 q2), fun _ => ⟨c3, fun hb a b' h3 h4 q => ?_⟩, fun q => absurd q (Nat.lt_irrefl 0), fun q => (by cases q), fun q => (by cases q), fun q => (by cases q)⟩ ?_ ⟨rfl, rfl, rfl, rfl, trivial⟩
        · obtain ⟨tr, cl⟩ := cf hb
          have back : ∀ x y, x < e → y < e → aB M0 x y → aB N x y := fun x y hx hy q => (c2 (fun a b => a < e ∧ b < e ∧ aB N a b) (fun p q r z1 z2 => ⟨z1.1, z2.2.1, tr p q r z1.1 z1.2.1 z2.2.1 z1.2.2 z2.2.2⟩) (fun p q hp hq z => ⟨hp, hq, z⟩) x y hx hy q).2.2
          exact c1 a b' (by omega) h4 (cl a b' h3 h4 (Or.inl (by omega)) (dI_mono hV back h3 h4 q))
        · cases b with
          | true => have := cb rfl; dsimp only [h4, cond]; omega
          | false => dsimp only [h4, cond]; omega
      · have hh : (e : Int) < (n : Int) := h
        have he : e < n := by omega
        exact And.intro ⟨by (try dsimp only); omega, by (try dsimp only); omega⟩ (hJ (2, e, e + 1, b, false, c0, N) _ ⟨h1, h2, (by dsimp only; omega), so, ma, fun q => (by cases q), fun _ => ⟨cn, cb, fun hb => ⟨(cf hb).1, fun a b h3 h4 q => (cf hb).2 a b h3 h4 (by dsimp only at q; omega)⟩⟩, fun q => (by cases q), fun _ => ⟨he, (by dsimp only; omega), (by dsimp only; omega)⟩, fun q => (by cases q)⟩ (by dsimp only [h4, cond]; omega) ⟨rfl, rfl, rfl, rfl, rfl, rfl, trivial⟩)
    | 2, _, _, j1, _, i2, _ =>
      obtain ⟨cn, cb, cf⟩ := j1 (by omega)
      obtain ⟨he, k2, k3⟩ := i2 rfl
      (repeat (first | refine And.intro ⟨by (try dsimp only); omega, by (try dsimp only); omega⟩ ?_ | refine And.intro (Or.inl rfl) ?_ | refine And.intro (Or.inr rfl) ?_))
      dsimp only
      rw [e0, rN.1]
      refine And.intro (fun h => ?_) (fun h => ?_)
      · have hh : (n : Int) ≤ (f : Int) := h
        have : f = n := by omega
        subst this
        exact And.intro ⟨by (try dsimp only); omega, by (try dsimp only); omega⟩ (hJ (1, e + 1, 0, b, false, c0, N) _ ⟨h1, h2, (by dsimp only; omega), so, ma, fun q => (by cases q), fun _ => ⟨cn, cb, fun hb => ⟨(cf hb).1, fun a b h3 h4 q => (cf hb).2 a b h3 h4 (by dsimp only at q; omega)⟩⟩, fun _ => ⟨(by dsimp only; omega), rfl⟩, fun q => (by cases q), fun q => (by cases q)⟩ (by dsimp only [h4, cond]; omega) ⟨rfl, rfl, rfl, rfl, rfl, trivial⟩)
      · have hh : (f : Int) < (n : Int) := h
        have hf : f < n := by omega
        have e1 : (20 * (i : Int) + (e : Int)).toNat = 20 * i + e := by omega
        have f1 : (20 * (i : Int) + (f : Int)).toNat = 20 * i + f := by omega
        have step : ∀ y : Bool, (y = true ↔ dI T w (aB N) e f) → J 110 [some qM, some (.inl i), some (.inl w), some (.inl (cond b 1 0)), some (.inl e), some (.inl f), some (.inl (cond y 1 0))] [] N := fun y hy =>
          hJ (3, e, f, b, y, c0, N) _ ⟨h1, h2, (by dsimp only; omega), so, ma, fun q => (by cases q), fun _ => ⟨cn, cb, cf⟩, fun q => (by cases q), fun q => (by cases q), fun _ => ⟨he, k2, hf, hy⟩⟩ (by dsimp only [h4, cond]; omega) ⟨rfl, rfl, rfl, rfl, rfl, rfl, rfl, trivial⟩
        refine Exists.intro _ (And.intro (k_onOneLine _ i e f n s N T hi he hf hV rN) ?_)
        rintro r M0 ⟨rfl, (⟨rfl, g⟩ | ⟨rfl, g⟩)⟩
        · refine And.intro (fun q => absurd (show (1 : Int) = 0 from q) (by decide)) (fun _ => ?_)
          (repeat (first | refine And.intro ⟨by (try dsimp only); omega, by (try dsimp only); omega⟩ ?_ | refine And.intro (Or.inl rfl) ?_ | refine And.intro (Or.inr rfl) ?_))
          dsimp only
          rw [f1, (rN.2.1 f hf).1]
          refine And.intro (fun z1 => ?_) (fun z1 => ?_)
          · exact step true ⟨fun _ => ⟨g, Or.inl z1⟩, fun _ => rfl⟩
          · have tf : T 1 f = 1 := by rcases (hV.1.2.1 f hf).1 with q | q; exact absurd q z1; exact q
            (repeat (first | refine And.intro ⟨by (try dsimp only); omega, by (try dsimp only); omega⟩ ?_ | refine And.intro (Or.inl rfl) ?_ | refine And.intro (Or.inr rfl) ?_))
            dsimp only
            rw [e1, (rN.2.1 e he).1]
            refine And.intro (fun z2 => ?_) (fun z2 => ?_)
            · have z2' : T 1 e = 0 := z2
              exact step false ⟨fun q => (by cases q), fun q => by rcases q.2 with q | q; exact absurd q z1; omega⟩
            · have te : T 1 e = 1 := by rcases (hV.1.2.1 e he).1 with q | q; exact absurd q z2; exact q
              refine Exists.intro _ (And.intro (k_isKeptTake _ i n s e f w M0 T hi he hf te tf hV rN h2) ?_)
              rintro r M1 ⟨rfl, (⟨rfl, g'⟩ | ⟨rfl, g'⟩)⟩
              · refine And.intro (fun q => absurd (show (1 : Int) = 0 from q) (by decide)) (fun _ => ?_)
                exact step true ⟨fun _ => ⟨g, Or.inr ⟨tf, te, g'⟩⟩, fun _ => rfl⟩
              · refine And.intro (fun _ => ?_) (fun q => absurd (show (0 : Int) = 0 from rfl) q)
                exact step false ⟨fun q => (by cases q), fun q => by rcases q.2 with q | q; exact absurd q z1; exact absurd q.2.2 g'⟩
        · refine And.intro (fun _ => ?_) (fun q => absurd (show (0 : Int) = 0 from rfl) q)
          exact step false ⟨fun q => (by cases q), fun q => absurd q.1 g⟩
    | 3, _, _, j1, _, _, i3 =>
      obtain ⟨cn, cb, cf⟩ := j1 (by omega)
      obtain ⟨he, k2, hf, hx⟩ := i3 rfl
      have eI : (20 * (e : Int) + (f : Int)).toNat = 20 * e + f := by omega
      have step : ∀ (v : Int) (b' : Bool), (v = 0 ∨ v = 1) → (v = 1 ↔ (aB N e f ∨ x = true)) → (b' = true ↔ (b = true ∨ (x = true ∧ ¬ aB N e f))) → ∀ M1, M1 = dt_wi N 77 (20 * e + f) v → dt_r ((f : Int) + 1) ∧ J 37 [some qM, some (.inl i), some (.inl w), some (.inl (cond b' 1 0)), some (.inl e), some (.inl ((f : Int) + 1)), some (.inl (cond x 1 0))] [] M1 := by
        intro v b' hv hv1 hb' M1 hM1
        have gr : ∀ a c, c < 20 → aB N a c → aB M1 a c := by
          intro a c hc q
          subst hM1
          by_cases z : a = e ∧ c = f
          · obtain ⟨rfl, rfl⟩ := z
            rw [aB_w1]; exact hv1.mpr (Or.inl q)
          · rw [aB_w2 (by omega) (by omega) z]; exact q
        have cM : a0n M1 ≤ a0n N := a0n_le h2 (fun a c _ hc q => gr a c hc q)
        refine And.intro ⟨by (try dsimp only); omega, by (try dsimp only); omega⟩ (hJ (2, e, f + 1, b', false, c0, M1) _ ⟨?_, ?_, (by dsimp only; omega), ?_, fun a c ha hc q1 q2 => gr a c (by omega) (ma a c ha hc q1 q2), fun q => (by cases q), fun _ => ⟨Nat.le_trans cM cn, ?_, ?_⟩, fun q => (by cases q), fun _ => ⟨he, (by dsimp only; omega), (by dsimp only; omega)⟩, fun q => (by cases q)⟩ (by dsimp only [h4, cond]; omega) ⟨rfl, rfl, rfl, rfl, rfl, rfl, trivial⟩)
        · subst hM1; exact h1.tr afr_w
        · subst hM1; exact a01_w h2 hv
        · intro a c ha hc q
          by_cases z : a = e ∧ c = f
          · obtain ⟨rfl, rfl⟩ := z
            subst hM1
            rcases hv1.mp (aB_w1.mp q) with z | z
            · exact so a c ha hc z
            · exact dI_KR hV so k2 hf (hx.mp z)
          · subst hM1
            exact so a c ha hc ((aB_w2 (by omega) (by omega) z).mp q)
        · intro hb
          rcases hb'.mp hb with z | ⟨z1, z2⟩
          · exact Nat.lt_of_le_of_lt cM (cb z)
          · have z3 : N.1 77 (20 * e + f) = 0 := by
              rcases h2 e f (by omega) (by omega) with q | q
              · exact q
              · exact absurd q z2
            have z4 : v = 1 := hv1.mpr (Or.inr z1)
            subst z4
            have := a0n_lt (N := N) (e := e) (f := f) (by omega) (by omega) z3
            subst hM1
            dsimp only
            omega
        · intro hb
          dsimp only at hb
          have z1 : ¬ b = true := fun q => by rw [hb'.mpr (Or.inl q)] at hb; cases hb
          have z2 : x = true → aB N e f := fun q => Classical.byContradiction (fun z => by rw [hb'.mpr (Or.inr ⟨q, z⟩)] at hb; cases hb)
          obtain ⟨tr, cl⟩ := cf (Bool.eq_false_iff.mpr z1)
          have z3 : v = N.1 77 (20 * e + f) := by
            rcases h2 e f (by omega) (by omega) with q | q
            · rcases hv with z | z
              · omega
              · have : aB N e f := by rcases hv1.mp z with y | y; exact y; exact z2 y
                unfold aB at this
                omega
            · rw [q]; exact hv1.mpr (Or.inl q)
          have z4 : aB M1 = aB N := by
            funext a c
            unfold aB
            subst hM1
            rw [dm_wi1]
            by_cases z : 20 * a + c = 20 * e + f
            · rw [z, dm_up1, z3]
            · rw [dm_up2 z]
          dsimp only
          rw [z4]
          refine ⟨tr, fun a c h3 h4 q1 q2 => ?_⟩
          by_cases z : a = e ∧ c = f
          · obtain ⟨rfl, rfl⟩ := z
            exact z2 (hx.mpr q2)
          · exact cl a c h3 h4 (by omega) q2
      have y01 := h2 e f (by omega) (by omega)
      cases b with
      | true =>
        refine And.intro (fun _ => ?_) (fun h => absurd (show (1 : Int) = 0 from h) (by decide))
        (repeat (first | refine And.intro ⟨by (try dsimp only); omega, by (try dsimp only); omega⟩ ?_ | refine And.intro (Or.inl rfl) ?_ | refine And.intro (Or.inr rfl) ?_))
        dsimp only
        rw [eI]
        refine And.intro (fun z1 => ?_) (fun z1 => ?_)
        · (repeat (first | refine And.intro ⟨by (try dsimp only); omega, by (try dsimp only); omega⟩ ?_ | refine And.intro (Or.inl rfl) ?_ | refine And.intro (Or.inr rfl) ?_))
          dsimp only
          rw [eI]
          have y1 : aB N e f := by rcases y01 with q | q; exact absurd q z1; exact q
          exact step 1 true (Or.inr rfl) ⟨fun _ => Or.inl y1, fun _ => rfl⟩ ⟨fun _ => Or.inl rfl, fun _ => rfl⟩
        · have y1 : ¬ aB N e f := fun q => by
            have q1 : N.1 77 (20 * e + f) = 1 := q
            have q2 : N.1 77 (20 * e + f) = 0 := z1
            omega
          cases x with
          | true =>
            refine And.intro (fun h => absurd (show (1 : Int) = 0 from h) (by decide)) (fun _ => ?_)
            (repeat (first | refine And.intro ⟨by (try dsimp only); omega, by (try dsimp only); omega⟩ ?_ | refine And.intro (Or.inl rfl) ?_ | refine And.intro (Or.inr rfl) ?_))
            dsimp only
            rw [eI]
            exact step 1 true (Or.inr rfl) ⟨fun _ => Or.inr rfl, fun _ => rfl⟩ ⟨fun _ => Or.inl rfl, fun _ => rfl⟩
          | false =>
            refine And.intro (fun _ => ?_) (fun h => absurd rfl h)
            (repeat (first | refine And.intro ⟨by (try dsimp only); omega, by (try dsimp only); omega⟩ ?_ | refine And.intro (Or.inl rfl) ?_ | refine And.intro (Or.inr rfl) ?_))
            dsimp only
            rw [eI]
            exact step 0 true (Or.inl rfl) ⟨fun q => absurd q (by decide), fun q => by rcases q with q | q; exact absurd q y1; cases q⟩ ⟨fun _ => Or.inl rfl, fun _ => rfl⟩
      | false =>
        refine And.intro (fun h => absurd rfl h) (fun _ => ?_)
        cases x with
        | true =>
          refine And.intro (fun h => absurd (show (1 : Int) = 0 from h) (by decide)) (fun _ => ?_)
          (repeat (first | refine And.intro ⟨by (try dsimp only); omega, by (try dsimp only); omega⟩ ?_ | refine And.intro (Or.inl rfl) ?_ | refine And.intro (Or.inr rfl) ?_))
          dsimp only
          rw [eI]
          refine And.intro (fun z1 => ?_) (fun z1 => ?_)
          · have y1 : aB N e f := by rcases y01 with q | q; exact absurd q z1; exact q
            (repeat (first | refine And.intro ⟨by (try dsimp only); omega, by (try dsimp only); omega⟩ ?_ | refine And.intro (Or.inl rfl) ?_ | refine And.intro (Or.inr rfl) ?_))
            dsimp only
            rw [eI]
            refine And.intro (fun _ => ?_) (fun h => absurd h z1)
            (repeat (first | refine And.intro ⟨by (try dsimp only); omega, by (try dsimp only); omega⟩ ?_ | refine And.intro (Or.inl rfl) ?_ | refine And.intro (Or.inr rfl) ?_))
            dsimp only
            rw [eI]
            exact step 1 false (Or.inr rfl) ⟨fun _ => Or.inl y1, fun _ => rfl⟩ ⟨fun q => (by cases q), fun q => by rcases q with q | q; cases q; exact absurd y1 q.2⟩
          · have y1 : ¬ aB N e f := fun q => by
              have q1 : N.1 77 (20 * e + f) = 1 := q
              have q2 : N.1 77 (20 * e + f) = 0 := z1
              omega
            (repeat (first | refine And.intro ⟨by (try dsimp only); omega, by (try dsimp only); omega⟩ ?_ | refine And.intro (Or.inl rfl) ?_ | refine And.intro (Or.inr rfl) ?_))
            dsimp only
            rw [eI]
            refine And.intro (fun h => absurd z1 h) (fun _ => ?_)
            refine And.intro (fun h => absurd (show (1 : Int) = 0 from h) (by decide)) (fun _ => ?_)
            (repeat (first | refine And.intro ⟨by (try dsimp only); omega, by (try dsimp only); omega⟩ ?_ | refine And.intro (Or.inl rfl) ?_ | refine And.intro (Or.inr rfl) ?_))
            dsimp only
            rw [eI]
            exact step 1 true (Or.inr rfl) ⟨fun _ => Or.inr rfl, fun _ => rfl⟩ ⟨fun _ => Or.inr ⟨rfl, y1⟩, fun _ => rfl⟩
        | false =>
          refine And.intro (fun _ => ?_) (fun h => absurd rfl h)
          (repeat (first | refine And.intro ⟨by (try dsimp only); omega, by (try dsimp only); omega⟩ ?_ | refine And.intro (Or.inl rfl) ?_ | refine And.intro (Or.inr rfl) ?_))
          dsimp only
          rw [eI]
          refine And.intro (fun z1 => ?_) (fun z1 => ?_)
          · have y1 : aB N e f := by rcases y01 with q | q; exact absurd q z1; exact q
            (repeat (first | refine And.intro ⟨by (try dsimp only); omega, by (try dsimp only); omega⟩ ?_ | refine And.intro (Or.inl rfl) ?_ | refine And.intro (Or.inr rfl) ?_))
            dsimp only
            rw [eI]
            exact step 1 false (Or.inr rfl) ⟨fun _ => Or.inl y1, fun _ => rfl⟩ ⟨fun q => (by cases q), fun q => by rcases q with q | q; cases q; cases q.1⟩
          · have y1 : ¬ aB N e f := fun q => by
              have q1 : N.1 77 (20 * e + f) = 1 := q
              have q2 : N.1 77 (20 * e + f) = 0 := z1
              omega
            refine And.intro (fun _ => ?_) (fun h => absurd rfl h)
            (repeat (first | refine And.intro ⟨by (try dsimp only); omega, by (try dsimp only); omega⟩ ?_ | refine And.intro (Or.inl rfl) ?_ | refine And.intro (Or.inr rfl) ?_))
            dsimp only
            rw [eI]
            exact step 0 false (Or.inl rfl) ⟨fun q => absurd q (by decide), fun q => by rcases q with q | q; exact absurd q y1; cases q⟩ ⟨fun q => (by cases q), fun q => by rcases q with q | q; cases q; cases q.1⟩
    | hd + 4, h, _, _, _, _, _ => exact absurd h (by omega)
