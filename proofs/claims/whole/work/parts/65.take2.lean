/-! ===== take: the class and the Model ===== -/
theorem tk_can_row {A B U : Nat → Nat → Int} {m r e : Nat} (h : ∀ g, g < 8 → A g = B g) (hc : tk_can U B m r e) : tk_can U A m r e := by
  unfold tk_can tk_e at hc ⊢
  rw [h 1 (by omega), h 2 (by omega), h 3 (by omega), h 4 (by omega)]
  exact hc
theorem tk_w_row {A B : Nat → Nat → Int} (h : ∀ g, g < 8 → A g = B g) (f t w : Int) : tk_w A f t w = tk_w B f t w := by
  unfold tk_w
  rw [show tk_o A f t w = tk_o B f t w by funext e; unfold tk_o; rw [h 1 (by omega), h 2 (by omega), h 3 (by omega), h 4 (by omega), h 5 (by omega)], h 0 (by omega)]
theorem cp_row {A B T : Nat → Nat → Int} {e : Nat} (h : ∀ g, g < 8 → A g = B g) : ∀ g, g < 8 → tk_cp A T e g = tk_cp B T e g := by
  intro g hg
  have h0 := h 0 (by omega)
  have h1 := h 1 (by omega)
  have h2 := h 2 (by omega)
  have h3 := h 3 (by omega)
  have h4 := h 4 (by omega)
  have h5 := h 5 (by omega)
  have h6 := h 6 (by omega)
  have h7 := h 7 (by omega)
  unfold tk_cp
  rw [tk_w_row h]
  split
  · match g, hg with
    | 0, _ => simp only [tk_tk, tk_ad, h0]
    | 1, _ => simp only [tk_tk, h0, h1]
    | 2, _ => simp only [tk_tk, tk_ad, h0, h2]
    | 3, _ => simp only [tk_tk, tk_ad, h0, h3]
    | 4, _ => simp only [tk_tk, tk_ad, h0, h4]
    | 5, _ => simp only [tk_tk, h0, h5]
    | 6, _ => simp only [tk_tk, tk_ad, h6]
    | 7, _ => simp only [tk_tk, tk_ad, h0, h6, h7]
  · match g, hg with
    | 0, _ => simp only [tk_sd, h0]
    | 1, _ => simp only [tk_sd, h0, h1]
    | 2, _ => simp only [tk_sd, tk_ad, h0, h2]
    | 3, _ => simp only [tk_sd, tk_ad, h0, h3]
    | 4, _ => simp only [tk_sd, tk_ad, h0, h4]
    | 5, _ => simp only [tk_sd, h0, h5]
    | 6, _ => simp only [tk_sd, tk_ad, h6]
    | 7, _ => simp only [tk_sd, tk_ad, h0, h6, h7]
theorem tk_can_row2 {A B T : Nat → Nat → Int} {m r e : Nat} (h : ∀ g, g < 8 → A g = B g) (hc : tk_can B T m r e) : tk_can A T m r e := ⟨tB_row h hc.1, hc.2.1, fun q => by rw [tk_w_row h]; exact hc.2.2.1 q, hc.2.2.2⟩
theorem nxt_x {U : Nat → Nat → Nat → Int} {x y : Nat → Nat} {p : Nat} (h : x p = y p) : nxt U x p = nxt U y p := by
  unfold nxt pE
  rw [h]
def tfr (M M' : dt_M) : Prop := (∀ a, a ≠ 54 → a ≠ 55 → (a < 34 ∨ 42 ≤ a) → M'.1 a = M.1 a) ∧ M'.2 = M.2
theorem c_copyInto (d m K : Nat) (M : dt_M) (U : Nat → Nat → Nat → Int) (hm : m < 256) (h : hM M U m) (hu : hU U) (hK : pK U K) (hP : PR M U m K) (hn : pN U K ≤ 10) (hK20 : K ≤ 20) : dt_Sp mX2_copyInto (d + 3) [qP, qT 34] M (fun r M' => r = none ∧ tfr M M' ∧ ∃ E, tk_0 E ∧ ∀ g, g < 8 → tk M' 34 g = pB U E K g) := by
  obtain ⟨p7, p8, p9, p59, pXk⟩ := hP
  refine dt_meth okX2_copyInto (fun pc => pc == 10) 60 (σ := Nat × dt_M × (Nat → Nat → Int)) (fun t => 10) (fun t => [some qP, some (qT 34), some (.inl t.1), none]) (fun t => t.2.1) (fun t => t.1 ≤ K ∧ tfr M t.2.1 ∧ tk_0 t.2.2 ∧ (∀ g, g < 8 → tk t.2.1 34 g = pB U t.2.2 t.1 g) ∧ ∀ p, p < 4 → t.2.1.1 54 p = ((pst U t.1).1 p : Int) ∧ t.2.1.1 55 p = nxt U (pst U t.1).1 p) (fun t => K - t.1) (by decide) (Nat.le_of_ble_eq_true rfl) ?_ ?_
  · intro J hJ
    refine Exists.intro _ (And.intro (c_empty _ 34 M) ?_)
    rintro r M1 ⟨rfl, g1, g2, g3, g4⟩
    have hE : tk_0 (tk M1 34) := ⟨by rw [g2, dm_up2 (by decide), dm_up1], by rw [g2, dm_up1], g4⟩
    have h1 : hM M1 U m := fun p hp g hg => by
      rw [← h p hp g hg]
      have := ch_lt m p
      exact g1.row (by unfold tk_ap; omega) hg
    refine Exists.intro _ (And.intro (c_goToStart _ m M1 U hm (by rw [g1.1 53 (by omega)]; exact p7) h1 hu) ?_)
    rintro r M2 ⟨rfl, k1, k2, k3⟩
    have row : ∀ g, g < 8 → tk M2 34 g = tk M1 34 g := fun g hg => k1 (34 + g) (by omega) (by omega)
    refine hJ (0, M2, tk M2 34) _ ⟨Nat.zero_le _, ⟨fun a x y z => by dsimp only; rw [k1 a x y]; exact g1.1 a (by omega), by dsimp only; rw [k2]; exact g1.2⟩, ⟨by dsimp only; rw [row 0 (by omega)]; exact hE.1, by dsimp only; rw [row 0 (by omega)]; exact hE.2.1, fun p hp => by dsimp only; rw [row 6 (by omega)]; exact hE.2.2 p hp⟩, fun _ _ => rfl, k3⟩ ⟨rfl, rfl, rfl, trivial⟩
  · rintro ⟨k, N, E⟩ ⟨h1, f1, hE, hB, hx⟩ J hJ
    dsimp only at h1 f1 hE hB hx hJ
    have n8 : N.1 53 8 = (K : Int) := by rw [f1.1 53 (by decide) (by decide) (by omega)]; exact p8
    refine And.intro (fun hh => ?_) (fun hh => ?_)
    · have h4 : N.1 53 8 ≤ (k : Int) := hh
      have : k = K := by omega
      subst this
      exact ⟨rfl, f1, E, hE, hB⟩
    · have h4 : (k : Int) < N.1 53 8 := hh
      have hk : k < K := by omega
      refine And.intro (fun h40 => absurd (show (40 : Int) ≤ (k : Int) from h40) (by omega)) (fun _ => ?_)
      have ek : (k : Int).toNat = k := by omega
      have e59 : N.1 59 k = (pP U k : Int) := by rw [f1.1 59 (by decide) (by decide) (by omega)]; exact p59 k hk
      have hr1 : pR U (k + 1) := fun j hj => hK.1 j (by omega)
      obtain ⟨hp, hC, hS, hI, he, h2, hlt, h20⟩ := pst_s hu hr1
      have ep : ((pP U k : Nat) : Int).toNat = pP U k := by omega
      have hMN : hM N U m := fun p hp g hg => by
        rw [← h p hp g hg]
        have := ch_lt m p
        exact f1.1 _ (by omega) (by omega) (by omega)
      obtain ⟨x1, x2⟩ := hx (pP U k) hp
      have nx : nxt U (pst U k).1 (pP U k) = (pV U k : Int) := if_pos hC.1
      (repeat (first | refine And.intro ⟨by (try dsimp only); omega, by (try dsimp only); omega⟩ ?_ | refine And.intro (Or.inl rfl) ?_ | refine And.intro (Or.inr rfl) ?_))
      rw [ek, e59]
      refine Exists.intro _ (And.intro (c_talkOf _ m (pP U k) N hm hp (by rw [f1.1 53 (by decide) (by decide) (by omega)]; exact p7)) ?_)
      rintro r M1 ⟨rfl, rfl⟩
      (repeat (first | refine And.intro ⟨by (try dsimp only); omega, by (try dsimp only); omega⟩ ?_ | refine And.intro (Or.inl rfl) ?_ | refine And.intro (Or.inr rfl) ?_))
      rw [ep, x2, nx]
      have cl := ch_lt m (pP U k)
      have can := pB_can hu hE hk hK.1 hn
      refine Exists.intro _ (And.intro (c_addCopy d 34 (2 + 8 * ch m (pP U k)) (pV U k) k (pN U k) M1 (by have := congrFun (hMN (pP U k) hp 0 (by omega)) 7; unfold tk at this; rw [Nat.add_zero] at this; rw [this]; exact hlt) h20 (tk_can_row (hMN (pP U k) hp) (tk_can_row2 hB can))) ?_)
      rintro r M2 ⟨rfl, g1, g2⟩
      have hM2 : hM M2 U m := fun p hp g hg => by
        rw [← hMN p hp g hg]
        have := ch_lt m p
        exact g1.row (by unfold tk_ap; omega) hg
      have hxl := hI.1 (pP U k) hp
      have ll : ln (U (pP U k)) (pP U k) ≤ 10 := by
        obtain ⟨n', s', v'⟩ := hu (pP U k) hp
        exact (ln_eq v'.1 hp).2
      refine Exists.intro _ (And.intro (c_goOn _ m (pP U k) M2 U (pst U k).1 hm hp (by rw [g1.1 53 (by omega), f1.1 53 (by decide) (by decide) (by omega)]; exact p7) hM2 hu (by rw [g1.1 54 (by omega)]; exact x1) (by omega)) ?_)
      rintro r M3 ⟨rfl, hM3⟩
      have eS : (pst U (k + 1)).1 = xu (pst U k).1 (pP U k) ((pst U k).1 (pP U k) + 1) := by rw [hS]; exact pS_x
      refine And.intro ⟨by (try dsimp only); omega, by (try dsimp only); omega⟩ (hJ (k + 1, M3, E) _ ⟨by dsimp only; omega, ⟨fun a x y z => by dsimp only; rw [hM3, dm_wi2 y, dm_wi2 x, g1.1 a (by omega)]; exact f1.1 a x y z, by dsimp only; rw [hM3, dm_wi3, dm_wi3, g1.2]; exact f1.2⟩, hE, ?_, fun q hq => ?_⟩ (by dsimp only; omega) ⟨rfl, rfl, rfl, trivial⟩)
      · dsimp only
        intro g hg
        show tk M3 34 g = tk_cp (pB U E k) (U (pP U k)) (pV U k) g
        have e3 : tk M3 34 g = tk M2 34 g := by
          funext j
          show M3.1 (34 + g) j = M2.1 (34 + g) j
          rw [hM3, dm_wi2 (by omega), dm_wi2 (by omega)]
        rw [e3, g2, cp_cong (R := U (pP U k)) (j := pV U k) (fun g a b => by rw [hMN (pP U k) hp g (by omega)])]
        exact cp_row hB g hg
      · dsimp only
        rw [hM3, dm_wi1, dm_wi2 (by decide), dm_wi1, dm_wi2 (by decide), eS]
        obtain ⟨y1, y2⟩ := hx q hq
        by_cases z : q = pP U k
        · subst z
          rw [dm_up1, dm_up1, xu_1]
          exact ⟨rfl, rfl⟩
        · rw [dm_up2 z, dm_up2 z, xu_2 z, g1.1 54 (by omega), g1.1 55 (by omega), y1, y2]
          exact ⟨rfl, nxt_x (xu_2 z).symm⟩
/-- the outcome of take, on the class's side -/
theorem c_take (d : Nat) (m t : Int) (M : dt_M) (hV : cV M) : dt_Sp mX6_take (d + 5) [qX, .inl m, .inl t] M (fun r M' =>
    (¬ ((0 ≤ m ∧ m < 256) ∧ (0 ≤ t ∧ t < 4)) ∧ r = some (.inl (-1)) ∧ M' = M) ∨
    ((0 ≤ m ∧ m < 256) ∧ (0 ≤ t ∧ t < 4) ∧ ∃ k, pK (mU (cT M) m.toNat) k ∧
      ((¬ pZ (mU (cT M) m.toNat) k ∧ r = some (.inl (-2)) ∧ pfr M M') ∨
       (pZ (mU (cT M) m.toNat) k ∧ 20 < k ∧ r = some (.inl (-3)) ∧ pfr M M') ∨
       (pZ (mU (cT M) m.toNat) k ∧ k ≤ 20 ∧ r = some (.inl (k : Int)) ∧ ((∀ a, (a < 2 + 8 * t.toNat ∨ 2 + 8 * t.toNat + 8 ≤ a) → (a < 34 ∨ 42 ≤ a) → (a < 53 ∨ 59 < a) → M'.1 a = M.1 a) ∧ M'.2 = M.2) ∧ ∃ E, tk_0 E ∧ tV (tk M' (2 + 8 * t.toNat)) k (pN (mU (cT M) m.toNat) k) ∧ tk_eq k (tk M' (2 + 8 * t.toNat)) (pB (mU (cT M) m.toNat) E k))))) := by
  refine dt_flat okX6_take 60 (by decide) (Nat.le_of_ble_eq_true rfl) (fun J => ?_)
  refine Exists.intro _ (And.intro (c_isMix _ m M) ?_)
  rintro r M0 ⟨rfl, rfl⟩
  by_cases hi : 0 ≤ m ∧ m < 256
  · rw [if_pos hi]
    refine And.intro (fun h => absurd (show (1 : Int) = 0 from h) (by decide)) (fun _ => ?_)
    refine Exists.intro _ (And.intro (c_isTalk _ t M0) ?_)
    rintro r M1 ⟨rfl, rfl⟩
    by_cases ht : 0 ≤ t ∧ t < 4
    · rw [if_pos ht]
      refine And.intro (fun _ => ?_) (fun h => absurd (show (1 : Int) = 0 from h) (by decide))
      have hu := T_hU (T := cT M1) hV m.toNat
      have hp := c_perform (d) m.toNat M1 (mU (cT M1) m.toNat) (by omega) (fun p _ g _ => rfl) hu
      rw [show ((m.toNat : Nat) : Int) = m by omega] at hp
      refine Exists.intro _ (And.intro hp ?_)
      rintro r M2 ⟨rfl, f1, k, hK, hP⟩
      have hk40 := pR_40 hu hK.1
      refine Exists.intro _ (And.intro (c_ends _ m.toNat k M2 (mU (cT M1) m.toNat) hu hK hP) ?_)
      rintro r M3 ⟨rfl, (⟨rfl, g⟩ | ⟨rfl, g⟩)⟩
      · refine And.intro (fun _ => ?_) (fun h => absurd (show (1 : Int) = 0 from h) (by decide))
        refine And.intro (fun z => ?_) (fun z => ?_)
        · have z' : M3.1 53 8 ≤ 20 := z
          have hk : k ≤ 20 := by have := hP.2.1; omega
          have hn : pN (mU (cT M1) m.toNat) k ≤ 10 := by have := g.2; omega
          refine Exists.intro _ (And.intro (c_copyInto _ m.toNat k M3 (mU (cT M1) m.toNat) (by omega) (f1.hM (fun p _ g _ => rfl)) hu hK hP hn hk) ?_)
          rintro r M4 ⟨rfl, f2, E, hE, hB⟩
          have b := pB_k hu hE hK.1 hn
          have v : tV (tk M4 34) k (pN (mU (cT M1) m.toNat) k) := tV_row hB ⟨b.1, b.2.1, g.2⟩
          have hkb := c_keepBuilt d k (pN (mU (cT M1) m.toNat) k) t.toNat M4 (by omega) v
          rw [show ((t.toNat : Nat) : Int) = t by omega] at hkb
          refine Exists.intro _ (And.intro hkb ?_)
          rintro r M5 ⟨rfl, o1, o2, o3⟩
          refine Or.inr ⟨hi, ht, k, hK, Or.inr (Or.inr ⟨g, hk, rfl, ⟨fun a x y z => by rw [o1.1 a x, f2.1 a (by omega) (by omega) y, f1.1 a z], by rw [o1.2, f2.2, f1.2]⟩, E, hE, o2, ?_⟩)⟩
          refine o3.tr ⟨by rw [hB 0 (by omega)], by rw [hB 0 (by omega)], fun g a b j hj => by rw [hB g (by omega)], fun p hp => by rw [hB 6 (by omega)], fun p hp j hj => by rw [hB 7 (by omega)]⟩
        · have z' : 20 < M3.1 53 8 := z
          exact Or.inr ⟨hi, ht, k, hK, Or.inr (Or.inl ⟨g, by have := hP.2.1; omega, rfl, f1⟩)⟩
      · refine And.intro (fun h => absurd rfl h) (fun _ => ?_)
        exact Or.inr ⟨hi, ht, k, hK, Or.inl ⟨g, rfl, f1⟩⟩
    · rw [if_neg ht]
      refine And.intro (fun h => absurd rfl h) (fun _ => ?_)
      exact Or.inl ⟨fun q => ht q.2, rfl, rfl⟩
  · rw [if_neg hi]
    refine And.intro (fun _ => ?_) (fun h => absurd rfl h)
    exact Or.inl ⟨fun q => hi q.1, rfl, rfl⟩
