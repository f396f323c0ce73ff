/-! ===== the Model: alike, building, keeping, behind ===== -/
theorem k_areAlike (d i j : Nat) (M : dt_M) (T : Nat → Nat → Nat → Int) (hi : i < 4) (hj : j < 4) (hV : mV M T) : dt_Sp mX7_areAlike (d + 1) [qM, .inl i, .inl j] M (fun r M' => M' = M ∧ ((r = some (.inl 1) ∧ ∀ p, p < 4 → tk_sl (T i) (T j) p) ∨ (r = some (.inl 0) ∧ ¬ ∀ p, p < 4 → tk_sl (T i) (T j) p))) := by
  obtain ⟨n, s, v1, r1⟩ := hV i hi
  obtain ⟨m, r, v2, r2⟩ := hV j hj
  have hc := fun p hp => c_isSameLine d i j p n s m r M (T i) (T j) hi hj hp v1.1 v2.1 r1 r2
  refine dt_flat okX7_areAlike 60 (by decide) (Nat.le_of_ble_eq_true rfl) (fun J => ?_)
  refine Exists.intro _ (And.intro (hc 0 (by omega)) ?_)
  rintro rv M0 ⟨rfl, (⟨rfl, g0⟩ | ⟨rfl, g0⟩)⟩
  · refine And.intro (fun h => absurd (show (1 : Int) = 0 from h) (by decide)) (fun _ => ?_)
    refine Exists.intro _ (And.intro (hc 1 (by omega)) ?_)
    rintro rv M1 ⟨rfl, (⟨rfl, g1⟩ | ⟨rfl, g1⟩)⟩
    · refine And.intro (fun h => absurd (show (1 : Int) = 0 from h) (by decide)) (fun _ => ?_)
      refine Exists.intro _ (And.intro (hc 2 (by omega)) ?_)
      rintro rv M2 ⟨rfl, (⟨rfl, g2⟩ | ⟨rfl, g2⟩)⟩
      · refine And.intro (fun h => absurd (show (1 : Int) = 0 from h) (by decide)) (fun _ => ?_)
        refine Exists.intro _ (And.intro (hc 3 (by omega)) ?_)
        rintro rv M3 ⟨rfl, (⟨rfl, g3⟩ | ⟨rfl, g3⟩)⟩
        · refine And.intro (fun h => absurd (show (1 : Int) = 0 from h) (by decide)) (fun _ => ?_)
          refine ⟨Or.inr rfl, rfl, Or.inl ⟨rfl, fun p hp => ?_⟩⟩
          match p, hp with
          | 0, _ => exact g0
          | 1, _ => exact g1
          | 2, _ => exact g2
          | 3, _ => exact g3
        · exact And.intro (fun _ => ⟨Or.inl rfl, rfl, Or.inr ⟨rfl, fun q => g3 (q 3 (by omega))⟩⟩) (fun h => absurd (show (0 : Int) = 0 from rfl) h)
      · exact And.intro (fun _ => ⟨Or.inl rfl, rfl, Or.inr ⟨rfl, fun q => g2 (q 2 (by omega))⟩⟩) (fun h => absurd (show (0 : Int) = 0 from rfl) h)
    · exact And.intro (fun _ => ⟨Or.inl rfl, rfl, Or.inr ⟨rfl, fun q => g1 (q 1 (by omega))⟩⟩) (fun h => absurd (show (0 : Int) = 0 from rfl) h)
  · exact And.intro (fun _ => ⟨Or.inl rfl, rfl, Or.inr ⟨rfl, fun q => g0 (q 0 (by omega))⟩⟩) (fun h => absurd (show (0 : Int) = 0 from rfl) h)
theorem k_alike (d : Nat) (i j : Int) (M : dt_M) (T : Nat → Nat → Nat → Int) (hV : mV M T) : dt_Sp mX7_alike (d + 2) [qM, .inl i, .inl j] M (fun r M' => M' = M ∧ (((0 ≤ i ∧ i < 4) ∧ (0 ≤ j ∧ j < 4) ∧ ((r = some (.inl 1) ∧ ∀ p, p < 4 → tk_sl (T i.toNat) (T j.toNat) p) ∨ (r = some (.inl 0) ∧ ¬ ∀ p, p < 4 → tk_sl (T i.toNat) (T j.toNat) p))) ∨ (¬ ((0 ≤ i ∧ i < 4) ∧ (0 ≤ j ∧ j < 4)) ∧ r = some (.inl (-1))))) := by
  refine dt_flat okX7_alike 60 (by decide) (Nat.le_of_ble_eq_true rfl) (fun J => ?_)
  refine Exists.intro _ (And.intro (c_noTalk _ i M) ?_)
  rintro r M0 ⟨rfl, rfl⟩
  by_cases hi : 0 ≤ i ∧ i < 4
  · rw [if_pos hi]
    refine And.intro (fun h => absurd (show (0 : Int) = 0 from rfl) h) (fun _ => ?_)
    refine Exists.intro _ (And.intro (c_noTalk _ j M0) ?_)
    rintro r M1 ⟨rfl, rfl⟩
    by_cases hj : 0 ≤ j ∧ j < 4
    · rw [if_pos hj]
      refine And.intro (fun _ => ?_) (fun h => absurd (show (0 : Int) = 0 from rfl) h)
      have ei : ((i.toNat : Nat) : Int) = i := by omega
      have ej : ((j.toNat : Nat) : Int) = j := by omega
      have hk := k_areAlike d i.toNat j.toNat M1 T (by omega) (by omega) hV
      rw [ei, ej] at hk
      refine Exists.intro _ (And.intro hk ?_)
      rintro r M2 ⟨rfl, (⟨rfl, g⟩ | ⟨rfl, g⟩)⟩
      · exact And.intro (fun h => absurd (show (1 : Int) = 0 from h) (by decide)) (fun _ => ⟨rfl, Or.inl ⟨hi, hj, Or.inl ⟨rfl, g⟩⟩⟩)
      · exact And.intro (fun _ => ⟨rfl, Or.inl ⟨hi, hj, Or.inr ⟨rfl, g⟩⟩⟩) (fun h => absurd (show (0 : Int) = 0 from rfl) h)
    · rw [if_neg hj]
      exact And.intro (fun h => absurd (show (1 : Int) = 0 from h) (by decide)) (fun _ => ⟨rfl, Or.inr ⟨fun q => hj q.2, rfl⟩⟩)
  · rw [if_neg hi]
    exact And.intro (fun _ => ⟨rfl, Or.inr ⟨fun q => hi q.1, rfl⟩⟩) (fun h => absurd (show (1 : Int) = 0 from h) (by decide))
/-- what the Model builds is T -/
def rn (M : dt_M) (T : Nat → Nat → Int) (n s : Nat) : Prop :=
  (M.1 62 10 = (n : Int) ∧ M.1 62 11 = (s : Int) ∧ M.1 62 12 = 2 * (s : Int) - (n : Int)) ∧ ∀ j, j < n → M.1 72 j = T 1 j ∧ M.1 73 j = T 2 j ∧ M.1 74 j = T 3 j ∧ M.1 75 j = T 4 j ∧ M.1 76 j = (if T 5 j = -1 then -9 else T 5 j)
/-- nothing has changed but what is built -/
def nfr (M M' : dt_M) : Prop := (∀ a, a ≠ 62 → (a < 72 ∨ 76 < a) → M'.1 a = M.1 a) ∧ M'.2 = M.2 ∧ ∀ j, (j < 10 ∨ 12 < j) → M'.1 62 j = M.1 62 j
theorem nfr.rf {M : dt_M} : nfr M M := ⟨fun _ _ _ => rfl, rfl, fun _ _ => rfl⟩
theorem nfr.tr {M M1 M2 : dt_M} (h : nfr M M1) (k : nfr M1 M2) : nfr M M2 := ⟨fun a x y => (k.1 a x y).trans (h.1 a x y), k.2.1.trans h.2.1, fun j x => (k.2.2 j x).trans (h.2.2 j x)⟩
theorem nfr_a {M : dt_M} {a j : Nat} {x : Int} (h : 72 ≤ a ∧ a ≤ 76) : nfr M (dt_wi M a j x) := ⟨fun b _ h2 => dm_wi2 (by omega), rfl, fun i _ => by rw [dm_wi2 (by omega)]⟩
theorem nfr_0 {M : dt_M} {j : Nat} {x : Int} (h : 10 ≤ j ∧ j ≤ 12) : nfr M (dt_wi M 62 j x) := ⟨fun b h1 _ => dm_wi2 h1, rfl, fun i hi => by rw [dm_wi1, dm_up2 (by omega)]⟩
theorem k_beginTalk (d : Nat) (M : dt_M) : dt_Sp mX7_beginTalk d [qM] M (fun r M' => r = none ∧ nfr M M' ∧ M'.1 62 10 = 0 ∧ M'.1 62 11 = 0 ∧ M'.1 62 12 = 0) := by
  refine dt_flat okX7_beginTalk 30 (by decide) (Nat.le_of_ble_eq_true rfl) (fun J => ?_)
  intro M1 h1 M2 h2 M3 h3
  subst h1; subst h2; subst h3
  refine ⟨rfl, ((nfr_0 (by omega)).tr (nfr_0 (by omega))).tr (nfr_0 (by omega)), ?_, ?_, ?_⟩
  · rw [dm_wi1, dm_up2 (by omega), dm_wi1, dm_up2 (by omega), dm_wi1, dm_up1]
  · rw [dm_wi1, dm_up2 (by omega), dm_wi1, dm_up1]
  · rw [dm_wi1, dm_up1]
theorem rn_0 {M : dt_M} {E : Nat → Nat → Int} (h0 : M.1 62 10 = 0) (h1 : M.1 62 11 = 0) (h2 : M.1 62 12 = 0) : rn M E 0 0 := ⟨⟨h0, h1, h2⟩, fun j hj => by omega⟩
theorem k_openSend (d n s : Nat) (f t w : Int) (M : dt_M) (T : Nat → Nat → Int) (hB : tB T n s) (hr : rn M T n s) : dt_Sp mX7_openSend d [qM, .inl f, .inl t, .inl w] M (fun r M' => M' = M ∧ r = some (.inl (if tk_w T f t w = -1 then -9 else tk_w T f t w))) := by
  have hn : n ≤ 20 := by have := hB.1; omega
  refine dt_meth okX7_openSend (fun pc => pc == 3) 90 (σ := Nat) (fun _ => 3) (fun e => [some qM, some (.inl f), some (.inl t), some (.inl w), some (.inl e), none]) (fun _ => M) (fun e => e ≤ n ∧ ∀ j : Nat, j < e → tk_o T f t w j = false) (fun e => n - e) (by decide) (Nat.le_of_ble_eq_true rfl) ?_ ?_
  · intro J hJ
    exact hJ 0 _ ⟨by omega, fun j hj => by omega⟩ ⟨rfl, rfl, rfl, rfl, rfl, trivial⟩
  · rintro e ⟨h1, h2⟩ J hJ
    have e10 := hr.1.1
    refine And.intro (fun h => ?_) (fun h => ?_)
    · have hh : M.1 62 10 ≤ (e : Int) := h
      have : e = n := by omega
      subst this
      have e1 : tk_w T f t w = -1 := dt_fst_no (fun j hj => h2 j (by have := hB.1.1; omega))
      exact ⟨rfl, by rw [if_pos e1]⟩
    · have hh : (e : Int) < M.1 62 10 := h
      have he : e < n := by omega
      have ee : (e : Int).toNat = e := by omega
      obtain ⟨r1, r2, r3, r4, r5⟩ := hr.2 e he
      have hev := hB.2.1 e he
      have nx : tk_o T f t w e = false → ∀ lv, dt_le [some qM, some (.inl f), some (.inl t), some (.inl w), some (.inl ((e + 1 : Nat) : Int)), none] lv → J 3 lv [] M := fun a lv hl => hJ (e + 1) lv ⟨by omega, fun j hj => by
        by_cases q : j = e
        · subst q; exact a
        · exact h2 j (by omega)⟩ (by omega) hl
      refine And.intro ⟨by omega, by omega⟩ ?_
      rw [ee, r1]
      refine And.intro (fun q1 => ?_) (fun q1 => ?_)
      · exact And.intro (fun _ => And.intro ⟨by omega, by omega⟩ (nx (tk_o_f.mpr (fun z => q1 z.1)) _ ⟨rfl, rfl, rfl, rfl, rfl, trivial⟩)) (fun z => absurd (show (0 : Int) = 0 from rfl) z)
      refine And.intro ⟨by omega, by omega⟩ ?_
      rw [ee, r5]
      refine And.intro (fun q2 => ?_) (fun q2 => ?_)
      · refine And.intro (fun _ => And.intro ⟨by omega, by omega⟩ (nx (tk_o_f.mpr (fun z => q2 (by rw [if_pos z.2.1]))) _ ⟨rfl, rfl, rfl, rfl, rfl, trivial⟩)) (fun z => absurd (show (0 : Int) = 0 from rfl) z)
      have q2' : T 5 e = -1 := by
        by_cases z : T 5 e = -1
        · exact z
        · exfalso
          rw [if_neg z] at q2
          rcases hB.2.2.2.1 e he q1 with a | ⟨m, a, -⟩
          · exact z a
          · omega
      refine And.intro ⟨by omega, by omega⟩ ?_
      rw [ee, r2]
      refine And.intro (fun q3 => ?_) (fun q3 => ?_)
      · exact And.intro (fun _ => And.intro ⟨by omega, by omega⟩ (nx (tk_o_f.mpr (fun z => q3 z.2.2.1)) _ ⟨rfl, rfl, rfl, rfl, rfl, trivial⟩)) (fun z => absurd (show (0 : Int) = 0 from rfl) z)
      refine And.intro ⟨by omega, by omega⟩ ?_
      rw [ee, r3]
      refine And.intro (fun q4 => ?_) (fun q4 => ?_)
      · exact And.intro (fun _ => And.intro ⟨by omega, by omega⟩ (nx (tk_o_f.mpr (fun z => q4 z.2.2.2.1)) _ ⟨rfl, rfl, rfl, rfl, rfl, trivial⟩)) (fun z => absurd (show (0 : Int) = 0 from rfl) z)
      refine And.intro (fun z => absurd (show (1 : Int) = 0 from z) (by decide)) (fun _ => ?_)
      refine And.intro ⟨by omega, by omega⟩ ?_
      rw [ee, r4]
      refine And.intro (fun q5 => ?_) (fun q5 => ?_)
      · exact And.intro ⟨by omega, by omega⟩ (nx (tk_o_f.mpr (fun z => q5 z.2.2.2.2)) _ ⟨rfl, rfl, rfl, rfl, rfl, trivial⟩)
      · have e1 : tk_w T f t w = (e : Int) := dt_fst_yes (by have := hB.1.1; omega) (tk_o_t.mpr ⟨q1, q2', q3, q4, q5⟩) h2
        exact ⟨rfl, by rw [if_neg (by omega), e1]⟩
/-- the Model lays a send -/
theorem k_addSend (d n s : Nat) (f t w : Int) (M : dt_M) (T : Nat → Nat → Int) (hB : tB T n s) (hs : s < 10) (hr : rn M T n s) : dt_Sp mX7_addEvent d [qM, .inl 0, .inl f, .inl t, .inl w, .inl (-9)] M (fun r M' => r = none ∧ nfr M M' ∧ rn M' (tk_sd T f t w) (n + 1) (s + 1)) := by
  have hn : n ≤ 18 := by have := hB.1; omega
  obtain ⟨⟨e0, e1, e2⟩, er⟩ := hr
  refine dt_flat okX7_addEvent 90 (by decide) (Nat.le_of_ble_eq_true rfl) (fun J => ?_)
  refine And.intro ⟨by show 0 ≤ M.1 62 10; omega, by show M.1 62 10 < 20; omega⟩ (And.intro (Or.inl rfl) ?_)
  intro M1 h1
  have a1 : ∀ x, M1.1 62 x = M.1 62 x := fun x => by rw [h1, dm_wi2 (by decide)]
  refine And.intro ⟨by show 0 ≤ M1.1 62 10; rw [a1]; omega, by show M1.1 62 10 < 20; rw [a1]; omega⟩ ?_
  intro M2 h2
  have a2 : ∀ x, M2.1 62 x = M.1 62 x := fun x => by rw [h2, dm_wi2 (by decide), a1]
  refine And.intro ⟨by show 0 ≤ M2.1 62 10; rw [a2]; omega, by show M2.1 62 10 < 20; rw [a2]; omega⟩ ?_
  intro M3 h3
  have a3 : ∀ x, M3.1 62 x = M.1 62 x := fun x => by rw [h3, dm_wi2 (by decide), a2]
  refine And.intro ⟨by show 0 ≤ M3.1 62 10; rw [a3]; omega, by show M3.1 62 10 < 20; rw [a3]; omega⟩ ?_
  intro M4 h4
  have a4 : ∀ x, M4.1 62 x = M.1 62 x := fun x => by rw [h4, dm_wi2 (by decide), a3]
  refine And.intro ⟨by show 0 ≤ M4.1 62 10; rw [a4]; omega, by show M4.1 62 10 < 20; rw [a4]; omega⟩ ?_
  intro M5 h5
  have a5 : ∀ x, M5.1 62 x = M.1 62 x := fun x => by rw [h5, dm_wi2 (by decide), a4]
  refine And.intro (fun _ => ?_) (fun z => absurd (show (0 : Int) = 0 from rfl) z)
  refine And.intro ⟨by show _ ≤ M5.1 62 11 + 1; rw [a5]; omega, by show M5.1 62 11 + 1 ≤ _; rw [a5]; omega⟩ ?_
  intro M6 h6
  have a6 : ∀ x, x ≠ 11 → M6.1 62 x = M.1 62 x := fun x hx => by rw [h6, dm_wi1, dm_up2 hx, a5]
  refine And.intro (fun _ => ?_) (fun z => absurd (show (0 : Int) = 0 from rfl) z)
  refine And.intro ⟨by show _ ≤ M6.1 62 12 + 1; rw [a6 12 (by decide)]; omega, by show M6.1 62 12 + 1 ≤ _; rw [a6 12 (by decide)]; omega⟩ ?_
  intro M7 h7
  refine And.intro (fun _ => ?_) (fun z => absurd (show (0 : Int) = 0 from rfl) z)
  have a7 : M7.1 62 10 = M.1 62 10 := by rw [h7, dm_wi1, dm_up2 (by decide), a6 10 (by decide)]
  refine And.intro ⟨by show _ ≤ M7.1 62 10 + 1; rw [a7]; omega, by show M7.1 62 10 + 1 ≤ _; rw [a7]; omega⟩ ?_
  intro M8 h8
  have en : (M.1 62 10).toNat = n := by omega
  have h1' : M1 = dt_wi M 72 n 0 := by rw [h1]; show dt_wi M 72 (M.1 62 10).toNat 0 = _; rw [en]
  have h2' : M2 = dt_wi M1 73 n f := by rw [h2]; show dt_wi M1 73 (M1.1 62 10).toNat f = _; rw [a1, en]
  have h3' : M3 = dt_wi M2 74 n t := by rw [h3]; show dt_wi M2 74 (M2.1 62 10).toNat t = _; rw [a2, en]
  have h4' : M4 = dt_wi M3 75 n w := by rw [h4]; show dt_wi M3 75 (M3.1 62 10).toNat w = _; rw [a3, en]
  have h5' : M5 = dt_wi M4 76 n (-9) := by rw [h5]; show dt_wi M4 76 (M4.1 62 10).toNat (-9) = _; rw [a4, en]
  have b8 : ∀ a, a ≠ 62 → M8.1 a = M5.1 a := fun a ha => by rw [h8, dm_wi2 ha, h7, dm_wi2 ha, h6, dm_wi2 ha]
  refine ⟨rfl, ?_, ⟨⟨?_, ?_, ?_⟩, fun j hj => ?_⟩⟩
  · rw [h8, h7, h6, h5', h4', h3', h2', h1']
    exact ((((((((nfr_a (by decide)).tr (nfr_a (by decide))).tr (nfr_a (by decide))).tr (nfr_a (by decide))).tr (nfr_a (by decide))).tr (nfr_0 (by decide)))).tr (nfr_0 (by decide))).tr (nfr_0 (by decide))
  · rw [h8, dm_wi1, dm_up1]; show M7.1 62 10 + 1 = _; rw [a7]; omega
  · rw [h8, dm_wi1, dm_up2 (by decide), h7, dm_wi1, dm_up2 (by decide), h6, dm_wi1, dm_up1]; show M5.1 62 11 + 1 = _; rw [a5]; omega
  · rw [h8, dm_wi1, dm_up2 (by decide), h7, dm_wi1, dm_up1]; show M6.1 62 12 + 1 = _; rw [a6 12 (by decide)]; omega
  · rw [b8 72 (by decide), b8 73 (by decide), b8 74 (by decide), b8 75 (by decide), b8 76 (by decide)]
    have c1 : M5.1 72 = dt_up (M.1 72) n 0 := by rw [h5', dm_wi2 (by decide), h4', dm_wi2 (by decide), h3', dm_wi2 (by decide), h2', dm_wi2 (by decide), h1', dm_wi1]
    have c2 : M5.1 73 = dt_up (M.1 73) n f := by rw [h5', dm_wi2 (by decide), h4', dm_wi2 (by decide), h3', dm_wi2 (by decide), h2', dm_wi1, h1', dm_wi2 (by decide)]
    have c3 : M5.1 74 = dt_up (M.1 74) n t := by rw [h5', dm_wi2 (by decide), h4', dm_wi2 (by decide), h3', dm_wi1, h2', dm_wi2 (by decide), h1', dm_wi2 (by decide)]
    have c4 : M5.1 75 = dt_up (M.1 75) n w := by rw [h5', dm_wi2 (by decide), h4', dm_wi1, h3', dm_wi2 (by decide), h2', dm_wi2 (by decide), h1', dm_wi2 (by decide)]
    have c5 : M5.1 76 = dt_up (M.1 76) n (-9) := by rw [h5', dm_wi1, h4', dm_wi2 (by decide), h3', dm_wi2 (by decide), h2', dm_wi2 (by decide), h1', dm_wi2 (by decide)]
    rw [c1, c2, c3, c4, c5]
    by_cases hjn : j = n
    · subst hjn
      obtain ⟨n1, n2, n3, n4, n5⟩ := sd_new (f := f) (t := t) (w := w) hB.1.1
      rw [dm_up1, dm_up1, dm_up1, dm_up1, dm_up1, n1, n2, n3, n4, n5]
      exact ⟨rfl, rfl, rfl, rfl, rfl⟩
    · rw [dm_up2 hjn, dm_up2 hjn, dm_up2 hjn, dm_up2 hjn, dm_up2 hjn, sd_old hB.1.1 (g := 1) (by omega) (by omega), sd_old hB.1.1 (g := 2) (by omega) (by omega), sd_old hB.1.1 (g := 3) (by omega) (by omega), sd_old hB.1.1 (g := 4) (by omega) (by omega), sd_old hB.1.1 (g := 5) (by omega) (by omega)]
      exact er j (by omega)
