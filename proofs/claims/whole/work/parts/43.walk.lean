/-! ===== the walk through the cuts, upwards ===== -/
def fu (f : Nat → Int) (j : Nat) (v : Int) : Nat → Int := fun i => if i = j then v else f i
theorem fu_1 {f : Nat → Int} {j : Nat} {v : Int} : fu f j v j = v := if_pos rfl
theorem fu_2 {f : Nat → Int} {j i : Nat} {v : Int} (h : i ≠ j) : fu f j v i = f i := if_neg h
/-- come to from a cut below b, or from c by a line below k -/
def rc (T : Nat → Nat → Int) (n d b k : Nat) : Prop := ∃ p, p < 4 ∧ 0 < cG T d p ∧ con T n (cG T (d - st (ln T) p)) ∧ (d - st (ln T) p < b ∨ (d - st (ln T) p = b ∧ p < k))
/-- the cuts below c are done -/
def LA (T : Nat → Nat → Int) (n c b : Nat) (rw uw lt : Nat → Int) : Prop :=
  (∀ d, b ≤ d → d < cC T → 0 ≤ rw d ∧ (0 < rw d ↔ con T n (cG T d) ∧ (d = 0 ∨ rc T n d c 0))) ∧
  (∀ d, b ≤ d → d < cC T → 0 < rw d → uw d = (und T n (cG T d) : Int)) ∧
  (∀ d, b ≤ d → d < cC T → 0 ≤ lt d ∧ lt d ≤ 20 ∧ (rw d = 0 → lt d = 20)) ∧
  sm (fun d => if b ≤ d then rw d * oB T n d else 0) (cC T) = oB T n 0 ∧
  (∀ d, b ≤ d → d < cC T → oA T n 0 ≤ max (lt d) (oA T n d)) ∧ ∃ d, b ≤ d ∧ d < cC T ∧ max (lt d) (oA T n d) ≤ oA T n 0
/-- the cut c is being visited, its lines below k are done -/
def LM (T : Nat → Nat → Int) (n c k : Nat) (rw uw lt : Nat → Int) : Prop :=
  (c + 1 < cC T ∧ con T n (cG T c) ∧ 0 < rw c ∧ rw c ≤ 1099511627776 ∧ uw c = (und T n (cG T c) : Int) ∧ (und T n (cG T c) : Int) ≤ lt c ∧ lt c ≤ 20) ∧
  (∀ d, c < d → d < cC T → 0 ≤ rw d ∧ (0 < rw d ↔ con T n (cG T d) ∧ rc T n d c k)) ∧
  (∀ d, c < d → d < cC T → 0 < rw d → uw d = (und T n (cG T d) : Int)) ∧
  (∀ d, c < d → d < cC T → 0 ≤ lt d ∧ lt d ≤ 20 ∧ (rw d = 0 → lt d = 20)) ∧
  sm (fun d => if c < d then rw d * oB T n d else 0) (cC T) + rw c * (oB T n c - sm (oT T n c) k) = oB T n 0 ∧
  (∀ d, c < d → d < cC T → oA T n 0 ≤ max (lt d) (oA T n d)) ∧
  (∀ p, p < 4 → cG T c p < ln T p → oA T n 0 ≤ max (lt c) (oA T n (c + st (ln T) p))) ∧
  ((∃ d, c < d ∧ d < cC T ∧ max (lt d) (oA T n d) ≤ oA T n 0) ∨ ∃ q, k ≤ q ∧ q < 4 ∧ cG T c q < ln T q ∧ max (lt c) (oA T n (c + st (ln T) q)) ≤ oA T n 0)
theorem rc_c {T : Nat → Nat → Int} {n s c : Nat} (h : tV T n s) (hc : c < cC T) (hm : con T n (cG T c)) : c = 0 ∨ rc T n c c 0 := by
  by_cases q : ∃ p, p < 4 ∧ 0 < cG T c p
  · obtain ⟨p, p1, p2⟩ := q
    obtain ⟨q, q1, q2, q3⟩ := con_of h (fun q _ => dg_le _ _ _) p1 p2 hm
    have u := cu_dn hc q1 q2
    refine Or.inr ⟨q, q1, q2, (con_cong h u.2).mpr q3, Or.inl ?_⟩
    have := st_pos (ln T) q
    omega
  · left
    exact cu_0 hc (fun p hp => by
      apply Classical.byContradiction
      intro z
      exact q ⟨p, hp, Nat.pos_of_ne_zero z⟩)
theorem LA_bd {T : Nat → Nat → Int} {n s c b d : Nat} {rw uw lt : Nat → Int} (h : tV T n s) (H : LA T n c b rw uw lt) (hd : b ≤ d) (hC : d < cC T) : rw d ≤ 1099511627776 := by
  obtain ⟨h1, h2, h3, h4, h5, h6⟩ := H
  have hn := (h1 d hd hC).1
  by_cases q : 0 < rw d
  · have hm := ((h1 d hd hC).2.mp q).1
    have hp := oB_pos h hC hm
    have hg : (fun d => if b ≤ d then rw d * oB T n d else 0) d ≤ sm (fun d => if b ≤ d then rw d * oB T n d else 0) (cC T) := sm_ge (fun j hj => by
      (try dsimp only)
      split
      · rename_i z; exact Int.mul_nonneg (h1 j z hj).1 oB_0
      · decide) hC
    rw [h4] at hg
    dsimp only at hg
    rw [if_pos hd] at hg
    have hb := oB_big (T := T) (n := n) (c := 0) h.1 (by omega)
    have hmul : rw d * 1 ≤ rw d * oB T n d := Int.mul_le_mul_of_nonneg_left hp hn
    omega
  · omega
theorem sm_split {f : Nat → Int} {b C : Nat} (hb : b < C) : sm (fun d => if b ≤ d then f d else 0) C = sm (fun d => if b < d then f d else 0) C + f b := by
  rw [sm_ch (i := b) (g := fun d => if b < d then f d else 0) hb (fun j _ hne => by
    (try dsimp only)
    by_cases q : b < j
    · rw [if_pos q, if_pos (by omega)]
    · rw [if_neg q, if_neg (by omega)])]
  (try dsimp only)
  rw [if_pos (Nat.le_refl b), if_neg (Nat.lt_irrefl b)]
  omega
/-- a visit begins -/
theorem LM_0 {T : Nat → Nat → Int} {n s c : Nat} {rw uw lt : Nat → Int} (h : tV T n s) (hc : c + 1 < cC T) (hr : 0 < rw c) (H : LA T n c c rw uw lt) : LM T n c 0 rw uw (fu lt c (max (lt c) (uw c))) := by
  have hb := LA_bd (d := c) h H (Nat.le_refl c) (by omega)
  obtain ⟨h1, h2, h3, h4, h5, d, d1, d2, d3⟩ := H
  have hm := ((h1 c (Nat.le_refl c) (by omega)).2.mp hr).1
  have hu := h2 c (Nat.le_refl c) (by omega) hr
  have hl := h3 c (Nat.le_refl c) (by omega)
  have ule := und_le (x := cG T c) h
  have a0 := oA_10 h (c := 0) (by omega) (con_0 (fun p => dg_0))
  refine ⟨⟨hc, hm, hr, hb, hu, by rw [fu_1]; omega, by rw [fu_1]; omega⟩, fun d' x1 x2 => ?_, fun d' x1 x2 => h2 d' (by omega) x2, fun d' x1 x2 => by rw [fu_2 (by omega)]; exact h3 d' (by omega) x2, ?_, fun d' x1 x2 => by rw [fu_2 (by omega)]; exact h5 d' (by omega) x2, fun p p1 p2 => ?_, ?_⟩
  · refine ⟨(h1 d' (by omega) x2).1, (h1 d' (by omega) x2).2.trans ?_⟩
    constructor
    · rintro ⟨y1, y2 | y2⟩
      · omega
      · exact ⟨y1, y2⟩
    · rintro ⟨y1, y2⟩
      exact ⟨y1, Or.inr y2⟩
  · rw [sm_split (f := fun d => rw d * oB T n d) (by omega)] at h4
    show _ + rw c * (oB T n c - 0) = _
    rw [Int.sub_zero]
    exact h4
  · rw [fu_1]
    have y := h5 c (Nat.le_refl c) (by omega)
    rw [oA_y hc hm] at y
    have z : mn (oU T n c) 4 ≤ oU T n c p := mn_le p1
    have z1 : oU T n c p = oA T n (c + st (ln T) p) := if_pos p2
    omega
  · by_cases q : d = c
    · subst q
      right
      rw [oA_y hc hm] at d3
      obtain ⟨j, j1, j2⟩ := mn_at (f := oU T n d) (k := 4) (by omega)
      have jl : cG T d j < ln T j := by
        apply Classical.byContradiction
        intro z
        have : oU T n d j = 99 := if_neg z
        omega
      have z1 : oU T n d j = oA T n (d + st (ln T) j) := if_pos jl
      refine ⟨j, Nat.zero_le _, j1, jl, ?_⟩
      rw [fu_1]
      omega
    · left
      exact ⟨d, by omega, d2, by rw [fu_2 q]; exact d3⟩
/-- a visit ends -/
theorem LA_4 {T : Nat → Nat → Int} {n c : Nat} {rw uw lt : Nat → Int} (H : LM T n c 4 rw uw lt) : LA T n (c + 1) (c + 1) rw uw lt := by
  obtain ⟨⟨a1, a2, a3, a4, a5, a6, a7⟩, h1, h2, h3, h4, h5, h6, h7⟩ := H
  refine ⟨fun d x1 x2 => ⟨(h1 d (by omega) x2).1, (h1 d (by omega) x2).2.trans ?_⟩, fun d x1 x2 => h2 d (by omega) x2, fun d x1 x2 => h3 d (by omega) x2, ?_, fun d x1 x2 => h5 d (by omega) x2, ?_⟩
  · constructor
    · rintro ⟨y1, p, y2, y3, y4, y5⟩
      exact ⟨y1, Or.inr ⟨p, y2, y3, y4, by omega⟩⟩
    · rintro ⟨y1, y | ⟨p, y2, y3, y4, y5⟩⟩
      · omega
      · exact ⟨y1, p, y2, y3, y4, by omega⟩
  · rw [oB_y a1 a2, Int.sub_self, Int.mul_zero, Int.add_zero] at h4
    exact h4
  · rcases h7 with ⟨d, d1, d2, d3⟩ | ⟨q, q1, q2, -⟩
    · exact ⟨d, by omega, d2, d3⟩
    · omega
/-- a cut that is no moment -/
theorem LA_n {T : Nat → Nat → Int} {n s c : Nat} {rw uw lt : Nat → Int} (h : tV T n s) (hc : c + 1 < cC T) (hr : ¬ 0 < rw c) (H : LA T n c c rw uw lt) : ¬ con T n (cG T c) ∧ LA T n (c + 1) (c + 1) rw uw lt := by
  obtain ⟨h1, h2, h3, h4, h5, d, d1, d2, d3⟩ := H
  have hnn := (h1 c (Nat.le_refl c) (by omega)).1
  have hr0 : rw c = 0 := by omega
  have hm : ¬ con T n (cG T c) := fun q => hr ((h1 c (Nat.le_refl c) (by omega)).2.mpr ⟨q, rc_c h (by omega) q⟩)
  have a0 := oA_10 h (c := 0) (by omega) (con_0 (fun p => dg_0))
  refine ⟨hm, fun d x1 x2 => ⟨(h1 d (by omega) x2).1, (h1 d (by omega) x2).2.trans ?_⟩, fun d x1 x2 => h2 d (by omega) x2, fun d x1 x2 => h3 d (by omega) x2, ?_, fun d x1 x2 => h5 d (by omega) x2, ?_⟩
  · constructor
    · rintro ⟨y1, y | ⟨p, y2, y3, y4, y5⟩⟩
      · exact ⟨y1, Or.inl y⟩
      · exact ⟨y1, Or.inr ⟨p, y2, y3, y4, by omega⟩⟩
    · rintro ⟨y1, y | ⟨p, y2, y3, y4, y5⟩⟩
      · exact ⟨y1, Or.inl y⟩
      · refine ⟨y1, Or.inr ⟨p, y2, y3, y4, Or.inl ?_⟩⟩
        rcases y5 with y5 | y5
        · by_cases z : d - st (ln T) p = c
          · rw [z] at y4; exact absurd y4 hm
          · omega
        · omega
  · rw [sm_split (f := fun d => rw d * oB T n d) (by omega), hr0, Int.zero_mul, Int.add_zero] at h4
    exact h4
  · by_cases q : d = c
    · subst q
      have := (h3 d (Nat.le_refl d) d2).2.2 hr0
      omega
    · exact ⟨d, by omega, d2, d3⟩
/-- a line that does not lead on -/
theorem LM_n {T : Nat → Nat → Int} {n s c k : Nat} {rw uw lt : Nat → Int} (h : tV T n s) (hk : k < 4) (hx : ¬ (cG T c k < ln T k ∧ con T n (cG T (c + st (ln T) k)))) (H : LM T n c k rw uw lt) : LM T n c (k + 1) rw uw lt := by
  obtain ⟨⟨a1, a2, a3, a4, a5, a6, a7⟩, h1, h2, h3, h4, h5, h6, h7⟩ := H
  have a0 := oA_10 h (c := 0) (by omega) (con_0 (fun p => dg_0))
  refine ⟨⟨a1, a2, a3, a4, a5, a6, a7⟩, fun d x1 x2 => ⟨(h1 d x1 x2).1, (h1 d x1 x2).2.trans ?_⟩, h2, h3, ?_, h5, h6, ?_⟩
  · constructor
    · rintro ⟨y1, p, y2, y3, y4, y5⟩
      exact ⟨y1, p, y2, y3, y4, by omega⟩
    · rintro ⟨y1, p, y2, y3, y4, y5⟩
      refine ⟨y1, p, y2, y3, y4, ?_⟩
      by_cases z : p = k ∧ d - st (ln T) p = c
      · exfalso
        obtain ⟨rfl, z2⟩ := z
        have u := cu_dn x2 y2 y3
        have v := u.2 p y2
        rw [xu_1, z2] at v
        have w : cG T d p ≤ ln T p := dg_le _ _ _
        have v' : cG T c p = cG T d p - 1 := v
        have e : c + st (ln T) p = d := by clear h7; omega
        exact hx ⟨by omega, by rw [e]; exact y1⟩
      · omega
  · have : oT T n c k = 0 := by
      unfold oT
      split
      · rename_i q
        have u := cu_up (c := c) (m := 4) (l := ln T) (by show c < cC T; omega) hk q
        have hh : ¬ con T n (cG T (c + st (ln T) k)) := fun z => hx ⟨q, z⟩
        by_cases z : c + st (ln T) k + 1 < cC T
        · exact oB_n z hh
        · exfalso
          have u1 : c + st (ln T) k < cC T := u.1
          refine hh (con_all h (fun p hp => ?_)).1
          have e : c + st (ln T) k = cC T - 1 := by omega
          rw [e]
          exact dg_last hp
      · rfl
    show _ + rw c * (oB T n c - (sm (oT T n c) k + oT T n c k)) = _
    rw [this, Int.add_zero]
    exact h4
  · rcases h7 with q | ⟨q, q1, q2, q3, q4⟩
    · exact Or.inl q
    · by_cases z : q = k
      · subst z
        exfalso
        have u := cu_up (c := c) (m := 4) (l := ln T) (by show c < cC T; omega) hk q3
        have hh : ¬ con T n (cG T (c + st (ln T) q)) := fun z => hx ⟨q3, z⟩
        by_cases z : c + st (ln T) q + 1 < cC T
        · rw [oA_n z hh] at q4
          omega
        · have u1 : c + st (ln T) q < cC T := u.1
          refine hh (con_all h (fun p hp => ?_)).1
          have e : c + st (ln T) q = cC T - 1 := by omega
          rw [e]
          exact dg_last hp
      · exact Or.inr ⟨q, by omega, q2, q3, q4⟩
/-- a line that leads on -/
theorem LM_y {T : Nat → Nat → Int} {n s c k : Nat} {rw uw lt : Nat → Int} (h : tV T n s) (hk : k < 4) (hx : cG T c k < ln T k) (hy : con T n (cG T (c + st (ln T) k))) (H : LM T n c k rw uw lt) : LM T n c (k + 1) (fu rw (c + st (ln T) k) (rw (c + st (ln T) k) + rw c)) (fu uw (c + st (ln T) k) (und T n (cG T (c + st (ln T) k)))) (fu lt (c + st (ln T) k) (min (lt (c + st (ln T) k)) (lt c))) ∧ 0 ≤ rw (c + st (ln T) k) ∧ rw (c + st (ln T) k) ≤ 1099511627776 := by
  obtain ⟨⟨a1, a2, a3, a4, a5, a6, a7⟩, h1, h2, h3, h4, h5, h6, h7⟩ := H
  have sp := st_pos (ln T) k
  have u := cu_up (c := c) (m := 4) (l := ln T) (by show c < cC T; omega) hk hx
  have uC : c + st (ln T) k < cC T := u.1
  have ug : 0 < cG T (c + st (ln T) k) k := by
    have := u.2 k hk
    rw [xu_1] at this
    show 0 < dg (ln T) (c + st (ln T) k) k
    omega
  have b1 := h1 (c + st (ln T) k) (by omega) uC
  have b3 := h3 (c + st (ln T) k) (by omega) uC
  have hB := oB_pos h uC hy
  refine ⟨⟨⟨a1, a2, by rw [fu_2 (by omega)]; exact a3, by rw [fu_2 (by omega)]; exact a4, by rw [fu_2 (by omega)]; exact a5, by rw [fu_2 (by omega)]; exact a6, by rw [fu_2 (by omega)]; exact a7⟩, fun d x1 x2 => ?_, fun d x1 x2 x3 => ?_, fun d x1 x2 => ?_, ?_, fun d x1 x2 => ?_, fun p p1 p2 => by rw [fu_2 (by omega)]; exact h6 p p1 p2, ?_⟩, b1.1, ?_⟩
  · by_cases z : d = c + st (ln T) k
    · subst z
      rw [fu_1]
      refine ⟨by omega, fun _ => ⟨hy, k, hk, ug, by rw [Nat.add_sub_cancel]; exact a2, Or.inr ⟨by omega, by omega⟩⟩, fun _ => by omega⟩
    · rw [fu_2 z]
      refine ⟨(h1 d x1 x2).1, (h1 d x1 x2).2.trans ?_⟩
      constructor
      · rintro ⟨y1, p, y2, y3, y4, y5⟩
        exact ⟨y1, p, y2, y3, y4, by omega⟩
      · rintro ⟨y1, p, y2, y3, y4, y5⟩
        refine ⟨y1, p, y2, y3, y4, ?_⟩
        by_cases w : p = k ∧ d - st (ln T) p = c
        · obtain ⟨rfl, w2⟩ := w
          have := (cu_dn x2 y2 y3).1
          clear h7
          omega
        · omega
  · by_cases z : d = c + st (ln T) k
    · subst z; rw [fu_1]
    · rw [fu_2 z] at x3 ⊢
      exact h2 d x1 x2 x3
  · by_cases z : d = c + st (ln T) k
    · subst z
      rw [fu_1, fu_1]
      have : 0 ≤ (und T n (cG T c) : Int) := Int.natCast_nonneg _
      exact ⟨by omega, by omega, fun q => by omega⟩
    · rw [fu_2 z, fu_2 z]
      exact h3 d x1 x2
  · rw [sm_ch (i := c + st (ln T) k) (g := fun d => if c < d then rw d * oB T n d else 0) uC (fun j hj hne => by (try dsimp only); rw [fu_2 hne])]
    (try dsimp only)
    rw [if_pos (by omega), if_pos (by omega), fu_1, fu_2 (show c ≠ c + st (ln T) k by omega)]
    have e1 : oT T n c k = oB T n (c + st (ln T) k) := if_pos hx
    have e2 : sm (oT T n c) (k + 1) = sm (oT T n c) k + oB T n (c + st (ln T) k) := by rw [← e1]; rfl
    rw [e2, Int.add_mul]
    have e3 : rw c * (oB T n c - (sm (oT T n c) k + oB T n (c + st (ln T) k))) = rw c * (oB T n c - sm (oT T n c) k) - rw c * oB T n (c + st (ln T) k) := by
      rw [← Int.mul_sub]
      congr 1
      omega
    rw [e3]
    omega
  · by_cases z : d = c + st (ln T) k
    · subst z
      rw [fu_1]
      have := h5 _ x1 x2
      have := h6 k hk hx
      omega
    · rw [fu_2 z]
      exact h5 d x1 x2
  · rcases h7 with ⟨d, d1, d2, d3⟩ | ⟨q, q1, q2, q3, q4⟩
    · left
      refine ⟨d, d1, d2, ?_⟩
      by_cases z : d = c + st (ln T) k
      · subst z; rw [fu_1]; omega
      · rw [fu_2 z]; exact d3
    · by_cases z : q = k
      · subst z
        left
        exact ⟨_, by omega, uC, by rw [fu_1]; omega⟩
      · right
        exact ⟨q, by omega, q2, q3, by rw [fu_2 (by omega)]; exact q4⟩
  · have hg : (fun d => if c < d then rw d * oB T n d else 0) (c + st (ln T) k) ≤ sm (fun d => if c < d then rw d * oB T n d else 0) (cC T) := sm_ge (fun j hj => by
      (try dsimp only)
      split
      · rename_i z; exact Int.mul_nonneg (h1 j z hj).1 oB_0
      · decide) uC
    dsimp only at hg
    rw [if_pos (by omega)] at hg
    have hs : 0 ≤ oB T n c - sm (oT T n c) k := by
      rw [oB_y a1 a2]
      have : sm (oT T n c) k ≤ sm (oT T n c) 4 := by
        have g0 := oT_0 (T := T) (n := n) (c := c) (p := 0)
        have g1 := oT_0 (T := T) (n := n) (c := c) (p := 1)
        have g2 := oT_0 (T := T) (n := n) (c := c) (p := 2)
        have g3 := oT_0 (T := T) (n := n) (c := c) (p := 3)
        match k, hk with
        | 0, _ => show (0 : Int) ≤ 0 + oT T n c 0 + oT T n c 1 + oT T n c 2 + oT T n c 3; omega
        | 1, _ => show 0 + oT T n c 0 ≤ 0 + oT T n c 0 + oT T n c 1 + oT T n c 2 + oT T n c 3; omega
        | 2, _ => show 0 + oT T n c 0 + oT T n c 1 ≤ 0 + oT T n c 0 + oT T n c 1 + oT T n c 2 + oT T n c 3; omega
        | 3, _ => show 0 + oT T n c 0 + oT T n c 1 + oT T n c 2 ≤ 0 + oT T n c 0 + oT T n c 1 + oT T n c 2 + oT T n c 3; omega
      omega
    have hs2 : 0 ≤ rw c * (oB T n c - sm (oT T n c) k) := Int.mul_nonneg (by omega) hs
    have hb := oB_big (T := T) (n := n) (c := 0) h.1 (by omega)
    have hmul : rw (c + st (ln T) k) * 1 ≤ rw (c + st (ln T) k) * oB T n (c + st (ln T) k) := Int.mul_le_mul_of_nonneg_left hB b1.1
    omega
/-- at the end -/
theorem LA_e {T : Nat → Nat → Int} {n s c : Nat} {rw uw lt : Nat → Int} (h : tV T n s) (H : LA T n c (cC T - 1) rw uw lt) : rw (cC T - 1) = oB T n 0 ∧ lt (cC T - 1) = oA T n 0 := by
  have sp : 0 < cC T := st_pos (ln T) 4
  obtain ⟨h1, h2, h3, h4, h5, d, d1, d2, d3⟩ := H
  have e : d = cC T - 1 := by omega
  subst e
  have y := h5 _ (Nat.le_refl _) (by omega)
  have z := h3 _ (Nat.le_refl _) (show cC T - 1 < cC T by omega)
  rw [oA_1 (show ¬ cC T - 1 + 1 < cC T by omega)] at d3 y
  rw [sm_split (f := fun d => rw d * oB T n d) (by omega), oB_1 (show ¬ cC T - 1 + 1 < cC T by omega)] at h4
  rw [sm_cong (g := fun _ => 0) (fun j hj => if_neg (by omega))] at h4
  have : ∀ k, sm (fun _ => 0) k = 0 := by
    intro k
    induction k with
    | zero => rfl
    | succ k ih => show sm (fun _ => 0) k + 0 = 0; rw [ih]; rfl
  rw [this] at h4
  exact ⟨by omega, by omega⟩
