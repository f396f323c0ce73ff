/-! ===== the Model: plays ===== -/
def gfr (M M' : dt_M) : Prop := (∀ a, a ≠ 62 → (a < 81 ∨ 85 < a) → M'.1 a = M.1 a) ∧ (∀ j, j ≠ 32 → j ≠ 33 → M'.1 62 j = M.1 62 j) ∧ M'.2 = M.2
theorem gfr.rf {M : dt_M} : gfr M M := ⟨fun _ _ _ => rfl, fun _ _ _ => rfl, rfl⟩
theorem gfr.tr {M M1 M2 : dt_M} (h : gfr M M1) (k : gfr M1 M2) : gfr M M2 := ⟨fun a x y => (k.1 a x y).trans (h.1 a x y), fun a x y => (k.2.1 a x y).trans (h.2.1 a x y), k.2.2.trans h.2.2⟩
theorem gfr_a {M : dt_M} {a j : Nat} {x : Int} (h : 81 ≤ a ∧ a ≤ 85) : gfr M (dt_wi M a j x) := ⟨fun b _ _ => dm_wi2 (by omega), fun j _ _ => by rw [dm_wi2 (by omega)], rfl⟩
theorem gfr_s {M : dt_M} {j : Nat} {x : Int} (h : j = 32 ∨ j = 33) : gfr M (dt_wi M 62 j x) := ⟨fun b h1 _ => dm_wi2 h1, fun i _ _ => by rw [dm_wi1, dm_up2 (by omega)], rfl⟩
/-- the Model's talks of a mix -/
def mM (M : dt_M) (U : Nat → Nat → Nat → Int) (m : Nat) : Prop := ∀ p, p < 4 → ∃ n s, tV (U p) n s ∧ rp M (ch m p) (U p) n
theorem gfr.mM {M M' : dt_M} {U : Nat → Nat → Nat → Int} {m : Nat} (h : gfr M M') (k : mM M U m) : mM M' U m := fun p hp => by
  obtain ⟨n, s, v, r⟩ := k p hp
  exact ⟨n, s, v, rp_fr r (fun a h1 h2 => h.1 a (by omega) (by omega))⟩
theorem mM.hU {M : dt_M} {U : Nat → Nat → Nat → Int} {m : Nat} (k : mM M U m) : hU U := fun p hp => by
  obtain ⟨n, s, v, r⟩ := k p hp
  exact ⟨n, s, v⟩
def MX (M : dt_M) (s : pm) : Prop := (∀ p, p < 4 → M.1 84 p = (s.1 p : Int)) ∧ ∀ c, c < 16 → M.1 82 c = (s.2.1 c : Int) ∧ M.1 83 c = (s.2.2.1 c : Int) ∧ ∀ j, j < s.2.1 c → M.1 81 (20 * c + j) = s.2.2.2 c j
theorem k_talkOf (d m p : Nat) (M : dt_M) (hm : m < 256) (hp : p < 4) : dt_Sp mX7_talkOf d [.inl m, .inl p] M (fun r M' => M' = M ∧ r = some (.inl (ch m p : Int))) := by
  refine dt_flat okX7_talkOf 30 (by decide) (Nat.le_of_ble_eq_true rfl) (fun J => ?_)
  (repeat (first | refine And.intro ⟨by (try dsimp only); omega, by (try dsimp only); omega⟩ ?_ | refine And.intro (Or.inl rfl) ?_ | refine And.intro (Or.inr rfl) ?_))
  exact ⟨rfl, by rw [← ch_ok m hm p hp]⟩
/-- where the Model has the next event of part p -/
theorem mM_at {M : dt_M} {U : Nat → Nat → Nat → Int} {m p : Nat} {x : Nat → Nat} (h : mM M U m) (hp : p < 4) (hl : x p < ln (U p) p) : M.1 70 (20 * (4 * ch m p + p) + x p) = (pE U x p : Int) ∧ pE U x p < 20 ∧ M.1 64 (20 * ch m p + pE U x p) = U p 1 (pE U x p) ∧ M.1 65 (20 * ch m p + pE U x p) = U p 2 (pE U x p) ∧ M.1 66 (20 * ch m p + pE U x p) = U p 3 (pE U x p) ∧ M.1 67 (20 * ch m p + pE U x p) = U p 4 (pE U x p) := by
  have es := pE_sp h.hU hp hl
  obtain ⟨n, s, v, r⟩ := h p hp
  obtain ⟨e, e1, e2, e3, e4⟩ := pl_at v.1 hp hl
  have ee : pE U x p = e := by unfold pE; omega
  have n20 : n ≤ 20 := by have := v.1.1; omega
  have r4 := r.2.2.2 p hp (x p) (by rw [(ln_eq v.1 hp).1]; omega)
  obtain ⟨a1, a2, a3, a4, a5⟩ := r.2.1 e e2
  rw [ee]
  exact ⟨r4.trans e1, by omega, a1, a2, a3, a4⟩
theorem mM_l {M : dt_M} {U : Nat → Nat → Nat → Int} {m p : Nat} (h : mM M U m) (hp : p < 4) : M.1 69 (4 * ch m p + p) = (ln (U p) p : Int) ∧ ln (U p) p ≤ 10 := by
  obtain ⟨n, s, v, r⟩ := h p hp
  have := ln_eq v.1 hp
  exact ⟨(r.2.2.1 p hp).trans this.1, this.2⟩
theorem k_canDo (d m p k : Nat) (M : dt_M) (U : Nat → Nat → Nat → Int) (s : pm) (hm : m < 256) (hp : p < 4) (h : mM M U m) (hX : MX M s) (hI : pI U s k) : dt_Sp mX7_canDo (d + 1) [qM, .inl m, .inl p] M (fun r M' => M' = M ∧ ((r = some (.inl 1) ∧ pC U s p) ∨ (r = some (.inl 0) ∧ ¬ pC U s p))) := by
  have hu := h.hU
  have ep : (p : Int).toNat = p := by omega
  have cl := ch_lt m p
  have er : (4 * ((ch m p : Nat) : Int) + (p : Int)).toNat = 4 * ch m p + p := by omega
  have ml := mM_l h hp
  have xl := hI.1 p hp
  refine dt_flat okX7_canDo 90 (by decide) (Nat.le_of_ble_eq_true rfl) (fun J => ?_)
  refine Exists.intro _ (And.intro (k_talkOf _ m p M hm hp) ?_)
  rintro r M0 ⟨rfl, rfl⟩
  (repeat (first | refine And.intro ⟨by (try dsimp only); omega, by (try dsimp only); omega⟩ ?_ | refine And.intro (Or.inl rfl) ?_ | refine And.intro (Or.inr rfl) ?_))
  rw [ep, hX.1 p hp, er, ml.1]
  refine And.intro (fun z => ?_) (fun z => ⟨Or.inl rfl, rfl, Or.inr ⟨rfl, fun q => by have := q.1; omega⟩⟩)
  have hl : s.1 p < ln (U p) p := by omega
  obtain ⟨a0, a20, a1, a2, a3, a4⟩ := mM_at h hp hl
  obtain ⟨-, -, t2, t3, t4, t23, t1⟩ := pE_sp hu hp hl
  obtain ⟨g1, g2, g3, g4⟩ := pG_lt hu hp hl
  have eg : ((pG U s.1 p : Nat) : Int).toNat = pG U s.1 p := by omega
  have g3' : 4 * U p 3 (pE U s.1 p) + (p : Int) = (pG U s.1 p : Int) := by omega
  have ei : (20 * (4 * ((ch m p : Nat) : Int) + (p : Int)) + (s.1 p : Int)).toNat = 20 * (4 * ch m p + p) + s.1 p := by omega
  have ea : (20 * ((ch m p : Nat) : Int) + ((pE U s.1 p : Nat) : Int)).toNat = 20 * ch m p + pE U s.1 p := by omega
  obtain ⟨x1, x2, x3⟩ := hX.2 (pG U s.1 p) g1
  have b := pI_sn hu hI g1
  refine Exists.intro _ (And.intro (k_talkOf _ m p M0 hm hp) ?_)
  rintro r M1 ⟨rfl, rfl⟩
  (repeat (first | refine And.intro ⟨by (try dsimp only); omega, by (try dsimp only); omega⟩ ?_ | refine And.intro (Or.inl rfl) ?_ | refine And.intro (Or.inr rfl) ?_))
  rw [ep, hX.1 p hp]
  (repeat (first | refine And.intro ⟨by (try dsimp only); omega, by (try dsimp only); omega⟩ ?_ | refine And.intro (Or.inl rfl) ?_ | refine And.intro (Or.inr rfl) ?_))
  rw [ei, a0]
  (repeat (first | refine And.intro ⟨by (try dsimp only); omega, by (try dsimp only); omega⟩ ?_ | refine And.intro (Or.inl rfl) ?_ | refine And.intro (Or.inr rfl) ?_))
  rw [ea, a3]
  refine And.intro ⟨by omega, by omega⟩ ?_
  show dt_r (4 * U p 3 (pE U s.1 p) + (p : Int)) ∧ _
  rw [g3']
  (repeat (first | refine And.intro ⟨by (try dsimp only); omega, by (try dsimp only); omega⟩ ?_ | refine And.intro (Or.inl rfl) ?_ | refine And.intro (Or.inr rfl) ?_))
  rw [ea, a1]
  refine And.intro (fun y => ⟨Or.inr rfl, rfl, Or.inl ⟨rfl, hl, Or.inl y⟩⟩) (fun y => ?_)
  (repeat (first | refine And.intro ⟨by (try dsimp only); omega, by (try dsimp only); omega⟩ ?_ | refine And.intro (Or.inl rfl) ?_ | refine And.intro (Or.inr rfl) ?_))
  rw [eg, x1, x2]
  refine And.intro (fun w => ⟨Or.inl rfl, rfl, Or.inr ⟨rfl, fun q => ?_⟩⟩) (fun w => ?_)
  · rcases q.2 with q | q
    · exact y q
    · omega
  · have w' : s.2.2.1 (pG U s.1 p) < s.2.1 (pG U s.1 p) := by omega
    have x4 := x3 (s.2.2.1 (pG U s.1 p)) w'
    have ej : (20 * (pG U s.1 p : Int) + (s.2.2.1 (pG U s.1 p) : Int)).toNat = 20 * pG U s.1 p + s.2.2.1 (pG U s.1 p) := by omega
    (repeat (first | refine And.intro ⟨by (try dsimp only); omega, by (try dsimp only); omega⟩ ?_ | refine And.intro (Or.inl rfl) ?_ | refine And.intro (Or.inr rfl) ?_))
    rw [eg, x2]
    (repeat (first | refine And.intro ⟨by (try dsimp only); omega, by (try dsimp only); omega⟩ ?_ | refine And.intro (Or.inl rfl) ?_ | refine And.intro (Or.inr rfl) ?_))
    rw [ej, x4, ea, a4]
    refine And.intro (fun v => ⟨Or.inl rfl, rfl, Or.inr ⟨rfl, fun q => ?_⟩⟩) (fun v => ⟨Or.inr rfl, rfl, Or.inl ⟨rfl, hl, Or.inr ⟨w', v⟩⟩⟩)
    rcases q.2 with q | q
    · exact y q
    · exact v q.2
