/-! ===== Lattice: a visit ===== -/
def lG (M : dt_M) (T : Nat → Nat → Int) (n c : Nat) : Prop := (∀ p, p < 4 → M.1 50 p = (st (ln T) p : Int)) ∧ (∀ p, p < 4 → M.1 51 p = (cG T c p : Int)) ∧ ∀ f, f < n → M.1 52 f = (pl T f : Int)
def vfr (M M' : dt_M) : Prop := (∀ a, a ≠ 46 → a ≠ 48 → a ≠ 49 → M'.1 a = M.1 a) ∧ ∀ a, a ≠ 47 → M'.2 a = M.2 a
theorem LA_l {T : Nat → Nat → Int} {n s c : Nat} {rw uw lt : Nat → Int} (h : tV T n s) (hc : c + 1 = cC T) (hr : 0 < rw c) (H : LA T n c c rw uw lt) : LA T n (c + 1) c rw uw (fu lt c (max (lt c) (uw c))) := by
  obtain ⟨h1, h2, h3, h4, h5, d, d1, d2, d3⟩ := H
  have u := h2 c (Nat.le_refl c) (by omega) hr
  have u0 : und T n (cG T c) = 0 := (con_all h (fun q hq => by
    have e : c = cC T - 1 := by omega
    rw [e]
    exact dg_last hq)).2
  have l := h3 c (Nat.le_refl c) (by omega)
  have e : fu lt c (max (lt c) (uw c)) = lt := by
    funext j
    by_cases q : j = c
    · subst q; rw [fu_1, u, u0]; omega
    · rw [fu_2 q]
  rw [e]
  refine ⟨fun d x1 x2 => ⟨(h1 d x1 x2).1, (h1 d x1 x2).2.trans ?_⟩, h2, h3, h4, h5, d, d1, d2, d3⟩
  have e : d = c := by omega
  subst e
  constructor
  · rintro ⟨y1, y | ⟨p, y2, y3, y4, y5⟩⟩
    · exact ⟨y1, Or.inl y⟩
    · exact ⟨y1, Or.inr ⟨p, y2, y3, y4, by omega⟩⟩
  · rintro ⟨y1, y⟩
    exact ⟨y1, rc_c h x2 y1⟩
theorem mx_if {a b : Int} : (if a < b then b else a) = max a b := by split <;> omega
theorem mi_if {a b : Int} : (if b < a then b else a) = min a b := by split <;> omega
theorem c_visit (d k n s c : Nat) (M : dt_M) (T : Nat → Nat → Int) (hT : ∀ g, g < 8 → tk M k g = T g) (hk : k + 8 ≤ 42) (hV : tV T n s) (hc : c < cC T) (hG : lG M T n c) (hr : 0 < M.2 47 c) (hL : LA T n c c (M.2 47) (M.1 48) (M.1 49)) (h7 : 0 ≤ M.1 46 7 ∧ M.1 46 7 ≤ 1296) : dt_Sp mX0_visit (d + 1) [qL, qT k, .inl c, .inl (cC T)] M (fun r M' => r = none ∧ vfr M M' ∧ M'.1 46 = dt_up (dt_up (M.1 46) 7 (M.1 46 7 + 1)) 8 (max (M.1 46 8) (und T n (cG T c))) ∧ LA T n (c + 1) (min (c + 1) (cC T - 1)) (M'.2 47) (M'.1 48) (M'.1 49)) := by
  have hC := cu_many hV.1
  have hC' : cC T ≤ 1296 := hC
  have hn : n ≤ 20 := by have := hV.1.1; omega
  have ec : (c : Int).toNat = c := by omega
  have hu := hL.2.1 c (Nat.le_refl c) hc hr
  refine dt_meth okX0_visit (fun pc => pc == 51) 110 (σ := Nat × dt_M) (fun t => 51) (fun t => [some qL, some (qT k), some (.inl c), some (.inl (cC T)), some (.inl t.1), none, none]) (fun t => t.2) (fun t => t.1 ≤ 4 ∧ vfr M t.2 ∧ t.2.1 46 = dt_up (dt_up (M.1 46) 7 (M.1 46 7 + 1)) 8 (max (M.1 46 8) (und T n (cG T c))) ∧ (c + 1 < cC T → LM T n c t.1 (t.2.2 47) (t.2.1 48) (t.2.1 49)) ∧ (¬ c + 1 < cC T → LA T n (c + 1) c (t.2.2 47) (t.2.1 48) (t.2.1 49))) (fun t => 4 - t.1) (by decide) (Nat.le_of_ble_eq_true rfl) ?_ ?_
  · intro J hJ
    (repeat (first | refine And.intro ⟨by (try dsimp only); omega, by (try dsimp only); omega⟩ ?_ | refine And.intro (Or.inl rfl) ?_ | refine And.intro (Or.inr rfl) ?_))
    intro M1 hM1
    have m1 : M1.1 48 = M.1 48 := by rw [hM1]; exact dm_wi2 (by decide)
    have m2 : M1.1 46 = dt_up (M.1 46) 7 (M.1 46 7 + 1) := by rw [hM1]; exact dm_wi1
    have m3 : M1.1 49 = M.1 49 := by rw [hM1]; exact dm_wi2 (by decide)
    have m4 : M1.2 = M.2 := by rw [hM1]; rfl
    have m5 : ∀ a, a ≠ 46 → a ≠ 48 → a ≠ 49 → M1.1 a = M.1 a := fun a q _ _ => by rw [hM1]; exact dm_wi2 q
    (repeat (first | refine And.intro ⟨by (try dsimp only); omega, by (try dsimp only); omega⟩ ?_ | refine And.intro (Or.inl rfl) ?_ | refine And.intro (Or.inr rfl) ?_))
    rw [ec, m1]
    intro M2 hM2'
    have hM2 : M2 = dt_wi M1 46 8 (if M1.1 46 8 < M.1 48 c then M.1 48 c else M1.1 46 8) := hM2'
    rw [mx_if, m2, hu, dm_up2 (by decide)] at hM2
    have n1 : M2.1 48 = M.1 48 := by rw [hM2, dm_wi2 (by decide)]; exact m1
    have n2 : M2.1 46 = dt_up (dt_up (M.1 46) 7 (M.1 46 7 + 1)) 8 (max (M.1 46 8) (und T n (cG T c))) := by rw [hM2, dm_wi1, m2]
    have n3 : M2.1 49 = M.1 49 := by rw [hM2, dm_wi2 (by decide)]; exact m3
    have n4 : M2.2 = M.2 := by rw [hM2]; exact m4
    have n5 : ∀ a, a ≠ 46 → a ≠ 48 → a ≠ 49 → M2.1 a = M.1 a := fun a q r t => by rw [hM2, dm_wi2 q]; exact m5 a q r t
    (repeat (first | refine And.intro ⟨by (try dsimp only); omega, by (try dsimp only); omega⟩ ?_ | refine And.intro (Or.inl rfl) ?_ | refine And.intro (Or.inr rfl) ?_))
    rw [ec, n1, n3]
    intro M3 hM3'
    have hM3 : M3 = dt_wi M2 49 c (if M.1 49 c < M.1 48 c then M.1 48 c else M.1 49 c) := hM3'
    rw [mx_if] at hM3
    have o1 : M3.1 48 = M.1 48 := by rw [hM3, dm_wi2 (by decide)]; exact n1
    have o2 : M3.1 46 = dt_up (dt_up (M.1 46) 7 (M.1 46 7 + 1)) 8 (max (M.1 46 8) (und T n (cG T c))) := by rw [hM3, dm_wi2 (by decide)]; exact n2
    have o3 : M3.1 49 = fu (M.1 49) c (max (M.1 49 c) (M.1 48 c)) := by rw [hM3, dm_wi1, n3]; rfl
    have o4 : M3.2 = M.2 := by rw [hM3]; exact n4
    have o5 : ∀ a, a ≠ 46 → a ≠ 48 → a ≠ 49 → M3.1 a = M.1 a := fun a q r t => by rw [hM3, dm_wi2 t]; exact n5 a q r t
    refine hJ (0, M3) _ ⟨Nat.zero_le _, ⟨o5, fun a _ => by rw [o4]⟩, o2, fun q => ?_, fun q => ?_⟩ ⟨rfl, rfl, rfl, rfl, rfl, trivial⟩
    · dsimp only
      rw [o1, o3, o4]
      exact LM_0 hV q hr hL
    · dsimp only
      rw [o1, o3, o4]
      exact LA_l hV (by omega) hr hL
  · rintro ⟨p, N⟩ ⟨h1, h2, h3, h4, h5⟩ J hJ
    dsimp only at h1 h2 h3 h4 h5 hJ
    refine And.intro (fun h => ?_) (fun h => ?_)
    · have : p = 4 := by omega
      subst this
      refine ⟨rfl, h2, h3, ?_⟩
      by_cases q : c + 1 < cC T
      · rw [show min (c + 1) (cC T - 1) = c + 1 by omega]
        exact LA_4 (h4 q)
      · rw [show min (c + 1) (cC T - 1) = c by omega]
        exact h5 q
    · have hp : p < 4 := by omega
      have ep : (p : Int).toNat = p := by omega
      have TN : ∀ g, g < 8 → tk N k g = T g := fun g hg => by rw [← hT g hg]; exact h2.1 (k + g) (by omega) (by omega) (by omega)
      have t1 : N.1 (k + 1) = T 1 := TN 1 (by omega)
      have N50 : N.1 50 p = (st (ln T) p : Int) := by rw [h2.1 50 (by decide) (by decide) (by decide)]; exact hG.1 p hp
      have N51 : ∀ p, p < 4 → N.1 51 p = (cG T c p : Int) := by rw [h2.1 51 (by decide) (by decide) (by decide)]; exact hG.2.1
      have N52 : ∀ f, f < n → N.1 52 f = (pl T f : Int) := by rw [h2.1 52 (by decide) (by decide) (by decide)]; exact hG.2.2
      have sC : st (ln T) p ≤ cC T := st_mono (ln T) (by omega)
      have sp := st_pos (ln T) p
      have gl : cG T c p ≤ ln T p := dg_le _ _ _
      have h6 := ln_eq hV.1 hp
      (repeat (first | refine And.intro ⟨by (try dsimp only); omega, by (try dsimp only); omega⟩ ?_ | refine And.intro (Or.inl rfl) ?_ | refine And.intro (Or.inr rfl) ?_))
      dsimp only
      rw [ep, N50]
      (repeat (first | refine And.intro ⟨by (try dsimp only); omega, by (try dsimp only); omega⟩ ?_ | refine And.intro (Or.inl rfl) ?_ | refine And.intro (Or.inr rfl) ?_))
      dsimp only
      rw [ep, N51 p hp]
      refine Exists.intro _ (And.intro (c_onLine _ k (p : Int) (cG T c p : Int) N (fun q hq => by rw [TN 6 (by omega)]; have := ln_eq hV.1 hq; omega)) ?_)
      rintro r M0 ⟨rfl, rfl⟩
      rw [TN 6 (by omega), TN 7 (by omega), ep, h6.1]
      have no : (c + 1 < cC T → ¬ (cG T c p < ln T p ∧ con T n (cG T (c + st (ln T) p)))) → ∀ a b, dt_r ((p : Int) + 1) ∧ J 51 [some qL, some (qT k), some (.inl c), some (.inl (cC T)), some (.inl ((p : Int) + 1)), a, b] [] M0 := by
        intro hno a b
        exact And.intro ⟨by omega, by omega⟩ (hJ (p + 1, M0) _ ⟨by dsimp only; omega, h2, h3, fun q => LM_n hV hp (hno q) (h4 q), h5⟩ (by dsimp only; omega) ⟨rfl, rfl, rfl, rfl, rfl, trivial⟩)
      by_cases hl : cG T c p < ln T p
      · have hcC : c + 1 < cC T := by
          have := (cu_up (c := c) (m := 4) (l := ln T) hc hp hl).1
          have this' : c + st (ln T) p < cC T := this
          omega
        have uC : c + st (ln T) p < cC T := (cu_up (c := c) (m := 4) (l := ln T) hc hp hl).1
        rw [if_pos (by omega)]
        obtain ⟨e, e1, e2, e3, e4⟩ := pl_at hV.1 hp hl
        have ej : ((p : Int) * 10 + (cG T c p : Int)).toNat = p * 10 + cG T c p := by omega
        rw [ej, e1]
        refine And.intro (fun z => absurd (show ((cC T : Nat) : Int) ≤ (c : Int) + (st (ln T) p : Int) from z) (by omega)) (fun _ => ?_)
        refine And.intro (fun z => absurd (show (e : Int) = -1 from z) (by omega)) (fun _ => ?_)
        have LMp := h4 hcC
        have cc := LMp.1.2.1
        refine Exists.intro _ (And.intro (c_mayHappen _ k n s e M0 T (cG T c) TN hV e2 N52 N51) ?_)
        have hcon : con T n (cG T (c + st (ln T) p)) ↔ (T 1 e = 0 ∨ dnb T (cG T c) (mt T e) = true) := (con_st hV hc hp hl).trans (con_up hV hp hl e1 cc)
        rintro r M1 ⟨rfl, (⟨rfl, g⟩ | ⟨rfl, g⟩)⟩
        · refine And.intro (fun q => absurd (show (1 : Int) = 0 from q) (by decide)) (fun _ => ?_)
          have hy := hcon.mpr g
          obtain ⟨LY, b1, b2⟩ := LM_y hV hp hl hy LMp
          have el : ((c : Int) + (st (ln T) p : Int)).toNat = c + st (ln T) p := by omega
          have ee : (e : Int).toNat = e := by omega
          have b3 := LMp.1.2.2.1
          have b4 := LMp.1.2.2.2.1
          have uw0 := LMp.1.2.2.2.2.1
          have ule := und_le (x := cG T c) hV
          have huu : (und T n (cG T (c + st (ln T) p)) : Int) = (und T n (cG T c) : Int) + (if T 1 e = 0 then 1 else -1) := by
            rw [und_cong hV (cu_up (c := c) (m := 4) (l := ln T) hc hp hl).2]
            exact und_up hV hp hl e1 cc ((con_st hV hc hp hl).mp hy)
          (repeat (first | refine And.intro ⟨by (try dsimp only); omega, by (try dsimp only); omega⟩ ?_ | refine And.intro (Or.inl rfl) ?_ | refine And.intro (Or.inr rfl) ?_))
          rw [el, ec]
          refine And.intro ⟨by omega, by omega⟩ ?_
          (repeat (first | refine And.intro ⟨by (try dsimp only); omega, by (try dsimp only); omega⟩ ?_ | refine And.intro (Or.inl rfl) ?_ | refine And.intro (Or.inr rfl) ?_))
          intro P1 hP1
          have hP : P1 = dt_wl M1 47 (c + st (ln T) p) (M1.2 47 (c + st (ln T) p) + M1.2 47 c) := by first | exact hP1 | (rw [hP1, el])
          have q1 : P1.1 = M1.1 := by rw [hP]; rfl
          have q2 : P1.2 47 = fu (M1.2 47) (c + st (ln T) p) (M1.2 47 (c + st (ln T) p) + M1.2 47 c) := by rw [hP]; exact dm_wl1
          have q3 : ∀ a, a ≠ 47 → P1.2 a = M1.2 a := fun a ha => by rw [hP]; exact dm_wl2 ha
          have fin : ∀ v : Int, v = (und T n (cG T (c + st (ln T) p)) : Int) → ∀ P2, P2 = dt_wi P1 48 (c + st (ln T) p) v → ∀ P3, P3 = dt_wi P2 49 (c + st (ln T) p) (min (M1.1 49 (c + st (ln T) p)) (M1.1 49 c)) → ∀ a b, dt_r ((p : Int) + 1) ∧ J 51 [some qL, some (qT k), some (.inl c), some (.inl (cC T)), some (.inl ((p : Int) + 1)), a, b] [] P3 := by
            intro v hv P2 hP2 P3 hP3 a b
            have w1 : P3.1 48 = fu (M1.1 48) (c + st (ln T) p) (und T n (cG T (c + st (ln T) p))) := by rw [hP3, dm_wi2 (by decide), hP2, dm_wi1, q1, hv]; rfl
            have w2 : P3.1 49 = fu (M1.1 49) (c + st (ln T) p) (min (M1.1 49 (c + st (ln T) p)) (M1.1 49 c)) := by rw [hP3, dm_wi1, hP2, dm_wi2 (by decide), q1]; rfl
            have w3 : P3.2 = P1.2 := by rw [hP3, hP2]; rfl
            have w4 : ∀ a, a ≠ 48 → a ≠ 49 → P3.1 a = M1.1 a := fun a x y => by rw [hP3, dm_wi2 y, hP2, dm_wi2 x, q1]
            refine And.intro ⟨by omega, by omega⟩ (hJ (p + 1, P3) _ ⟨by dsimp only; omega, ⟨fun a x y z => (w4 a y z).trans (h2.1 a x y z), fun a x => by dsimp only; rw [w3, q3 a x]; exact h2.2 a x⟩, (w4 46 (by decide) (by decide)).trans h3, fun q => ?_, fun q => absurd hcC q⟩ (by dsimp only; omega) ⟨rfl, rfl, rfl, rfl, rfl, trivial⟩)
            dsimp only
            rw [w1, w2, w3, q2]
            exact LY
          (repeat (first | refine And.intro ⟨by (try dsimp only); omega, by (try dsimp only); omega⟩ ?_ | refine And.intro (Or.inl rfl) ?_ | refine And.intro (Or.inr rfl) ?_))
          rw [ec, q1, uw0, ee, t1]
          have go : ∀ v : Int, v = (und T n (cG T (c + st (ln T) p)) : Int) → ∀ P2, P2 = dt_wi P1 48 (c + st (ln T) p) v → P2.1 49 = M1.1 49 := fun v _ P2 hP2 => by rw [hP2, dm_wi2 (by decide), q1]
          refine And.intro (fun z => ?_) (fun z => ?_)
          · rw [if_pos z] at huu
            (repeat (first | refine And.intro ⟨by (try dsimp only); omega, by (try dsimp only); omega⟩ ?_ | refine And.intro (Or.inl rfl) ?_ | refine And.intro (Or.inr rfl) ?_))
            rw [el]
            intro P2 hP2
            have g9 := go _ huu.symm P2 hP2
            (repeat (first | refine And.intro ⟨by (try dsimp only); omega, by (try dsimp only); omega⟩ ?_ | refine And.intro (Or.inl rfl) ?_ | refine And.intro (Or.inr rfl) ?_))
            rw [el, ec, g9]
            intro P3 hP3
            refine fin _ huu.symm P2 hP2 P3 ?_ _ _
            rw [hP3, ← mi_if]
          · rw [if_neg z] at huu
            (repeat (first | refine And.intro ⟨by (try dsimp only); omega, by (try dsimp only); omega⟩ ?_ | refine And.intro (Or.inl rfl) ?_ | refine And.intro (Or.inr rfl) ?_))
            rw [el]
            intro P2 hP2
            have g9 := go _ huu.symm P2 hP2
            (repeat (first | refine And.intro ⟨by (try dsimp only); omega, by (try dsimp only); omega⟩ ?_ | refine And.intro (Or.inl rfl) ?_ | refine And.intro (Or.inr rfl) ?_))
            rw [el, ec, g9]
            intro P3 hP3
            refine fin _ huu.symm P2 hP2 P3 ?_ _ _
            rw [hP3, ← mi_if]
        · refine And.intro (fun _ => ?_) (fun q => absurd (show (0 : Int) = 0 from rfl) q)
          exact no (fun _ q => g (hcon.mp q.2)) _ _
      · rw [if_neg (by omega)]
        refine And.intro (fun _ => no (fun _ q => hl q.1) _ _) (fun _ => ?_)
        refine And.intro (fun _ => no (fun _ q => hl q.1) _ _) (fun z => absurd (show (-1 : Int) = -1 from rfl) z)
