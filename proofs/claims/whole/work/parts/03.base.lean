/-! ===== numbers ===== -/
theorem dn_ti {x : Int} (h : dt_r x) : (Int32.ofInt x).toInt = x := Int32.toInt_ofInt_of_le (by have := h.1; omega) (by have := h.2; omega)
theorem dn_tl {x : Int} (h : dt_rL x) : (Int64.ofInt x).toInt = x := Int64.toInt_ofInt_of_le (by have := h.1; omega) (by have := h.2; omega)
theorem dn_ri (x : Int32) : dt_r x.toInt := ⟨by have := Int32.le_toInt x; omega, by have := Int32.toInt_lt x; omega⟩
theorem dn_rl (x : Int64) : dt_rL x.toInt := ⟨by have := Int64.le_toInt x; omega, by have := Int64.toInt_lt x; omega⟩
theorem dn_lt {x y : Int} (hx : dt_r x) (hy : dt_r y) : Int32.ofInt x < Int32.ofInt y ↔ x < y := by rw [Int32.lt_iff_toInt_lt, dn_ti hx, dn_ti hy]
theorem dn_le {x y : Int} (hx : dt_r x) (hy : dt_r y) : Int32.ofInt x ≤ Int32.ofInt y ↔ x ≤ y := by rw [Int32.le_iff_toInt_le, dn_ti hx, dn_ti hy]
theorem dn_eq {x y : Int} (hx : dt_r x) (hy : dt_r y) : Int32.ofInt x = Int32.ofInt y ↔ x = y := by rw [← Int32.toInt_inj, dn_ti hx, dn_ti hy]
theorem dn_0 : (0 : Int32) = Int32.ofInt 0 := rfl
theorem dn_r0 : dt_r 0 := ⟨by decide, by decide⟩
theorem dn_eq0 {x : Int} (hx : dt_r x) : Int32.ofInt x = 0 ↔ x = 0 := by rw [dn_0]; exact dn_eq hx dn_r0
theorem dn_lt0 {x : Int} (hx : dt_r x) : Int32.ofInt x < 0 ↔ x < 0 := by rw [dn_0]; exact dn_lt hx dn_r0
theorem dn_le0 {x : Int} (hx : dt_r x) : Int32.ofInt x ≤ 0 ↔ x ≤ 0 := by rw [dn_0]; exact dn_le hx dn_r0
theorem dn_0lt {x : Int} (hx : dt_r x) : 0 < Int32.ofInt x ↔ 0 < x := by rw [dn_0]; exact dn_lt dn_r0 hx
theorem dn_0le {x : Int} (hx : dt_r x) : 0 ≤ Int32.ofInt x ↔ 0 ≤ x := by rw [dn_0]; exact dn_le dn_r0 hx
theorem dn_cl {x : Int} (hx : dt_r x) : (Int32.ofInt x).toNatClampNeg = x.toNat := by
  show (Int32.ofInt x).toInt.toNat = x.toNat
  rw [dn_ti hx]
theorem dn_in {x : Int} {n : Nat} (hx : dt_r x) (h0 : 0 ≤ x) (hn : x < (n : Int)) : vp_in (Int32.ofInt x) n := by
  unfold vp_in
  rw [dn_lt0 hx, dn_cl hx]
  omega
theorem dn_i2l {x : Int} (hx : dt_r x) : (Int32.ofInt x).toInt64 = Int64.ofInt x := by
  apply Int64.toInt_inj.mp
  rw [Int32.toInt_toInt64, dn_ti hx, dn_tl ⟨by have := hx.1; omega, by have := hx.2; omega⟩]
def dt_cmp (x y : Int) : Int := if y < x then 1 else if x = y then 0 else -1
theorem dn_cmp {x y : Int} (hx : dt_rL x) (hy : dt_rL y) : lg_cmp (Int64.ofInt x) (Int64.ofInt y) = Int32.ofInt (dt_cmp x y) := by
  unfold lg_cmp dt_cmp
  simp only [gt_iff_lt, Int64.lt_iff_toInt_lt, ← Int64.toInt_inj, dn_tl hx, dn_tl hy]
  split
  · rfl
  · split <;> rfl
theorem dn_rcmp (x y : Int) : dt_r (dt_cmp x y) := by unfold dt_cmp; split; exact ⟨by decide, by decide⟩; split <;> exact ⟨by decide, by decide⟩
def dt_and (x y : Int) : Int := (Int32.ofInt x &&& Int32.ofInt y).toInt
def dt_or (x y : Int) : Int := (Int32.ofInt x ||| Int32.ofInt y).toInt
def dt_shl (x y : Int) : Int := (Int32.ofInt x <<< (Int32.ofInt y &&& 31)).toInt
def dt_shr (x y : Int) : Int := (Int32.ofInt x >>> (Int32.ofInt y &&& 31)).toInt
def dt_div (x y : Int) : Int := (Int32.ofInt x / Int32.ofInt y).toInt
def dt_rem (x y : Int) : Int := (Int32.ofInt x - Int32.ofInt x / Int32.ofInt y * Int32.ofInt y).toInt
def dt_l2i (x : Int) : Int := (Int64.ofInt x).toInt32.toInt
def dt_andL (x y : Int) : Int := (Int64.ofInt x &&& Int64.ofInt y).toInt
def dt_orL (x y : Int) : Int := (Int64.ofInt x ||| Int64.ofInt y).toInt
def dt_shlL (x y : Int) : Int := (Int64.ofInt x <<< ((Int32.ofInt y).toInt64 &&& 63)).toInt
def dt_shrL (x y : Int) : Int := (Int64.ofInt x >>> ((Int32.ofInt y).toInt64 &&& 63)).toInt
def dt_ushrL (x y : Int) : Int := ((Int64.ofInt x).toUInt64 >>> ((Int32.ofInt y).toInt64.toUInt64 &&& Int64.toUInt64 63)).toInt64.toInt
/-! ===== the world ===== -/
theorem dw_at {M : dt_M} {ad : Nat → Nat} {cA : Nat → ClassId} {k : Nat} (hk : k < 86) : (dt_wd M ad cA)[k]? = some (ad k, dt_wc M ad cA k) := by
  simp [dt_wd, hk]
theorem dw_gfc {M M' : dt_M} {k : Nat} (ci j : Nat) (h1 : M'.1 k = M.1 k) (h2 : M'.2 k = M.2 k) : dt_gf ci j k M' = dt_gf ci j k M := by
  unfold dt_gf
  rw [h1, h2]
theorem dw_cong {M M' : dt_M} {ad : Nat → Nat} {cA : Nat → ClassId} {k : Nat} (h1 : M'.1 k = M.1 k) (h2 : M'.2 k = M.2 k) : dt_wc M' ad cA k = dt_wc M ad cA k := by
  unfold dt_wc
  rw [h1, h2]
  simp only [dw_gfc _ _ h1 h2]
theorem dw_set {M M' : dt_M} {ad : Nat → Nat} {cA : Nat → ClassId} {k : Nat} {e : va_E} (hk : k < 86) (he : dt_wc M' ad cA k = e) (h : ∀ j, j ≠ k → M'.1 j = M.1 j ∧ M'.2 j = M.2 j) : (dt_wd M ad cA).set k (ad k, e) = dt_wd M' ad cA := by
  subst he
  apply List.ext_getElem?
  intro j
  by_cases hj : j < 86
  · rw [dw_at hj]
    by_cases hjk : j = k
    · subst hjk
      rw [List.getElem?_set_self (by simp [dt_wd, hj])]
    · rw [List.getElem?_set_ne (Ne.symm hjk), dw_at hj, dw_cong (h j hjk).1 (h j hjk).2]
  · rw [List.getElem?_eq_none (by simp [dt_wd]; omega), List.getElem?_eq_none (by simp [dt_wd]; omega)]
theorem dk_88 : ∀ k, k < 88 → 86 ≤ k → ¬ (dt_kd k).1 < 50 := by decide +kernel
theorem dk_lt {k t n : Nat} (h : dt_kd k = (t, n)) (ht : t < 50) : k < 86 := by
  rcases Nat.lt_or_ge k 86 with q | q
  · exact q
  · exfalso
    rcases Nat.lt_or_ge k 88 with q2 | q2
    · exact dk_88 k q2 q (by rw [h]; exact ht)
    · have h2 : dt_kd k = (99, 0) := by
        unfold dt_kd
        rw [List.getD_eq_getElem?_getD, List.getElem?_eq_none (show dt_lay.length ≤ k from q2)]
        rfl
      rw [h2] at h
      cases h
      omega
theorem dk_35 : ∀ k, k < 86 → 4 ≤ (dt_kd k).1 → (dt_kd k).2 ≤ 35 := by decide +kernel
def dt_cf1 (k : Nat) (q : Nat × Nat × Nat × Nat) : Bool := (!(q.1 == 2) || (dt_kd q.2.2.2 == (q.2.1, q.2.2.1))) && (!(Nat.ble 3 q.1) || (dt_kd (k + q.2.2.2) == (q.2.1, q.2.2.1)))
def dt_cf2 (k : Nat) : Bool := !(Nat.ble 4 (dt_kd k).1) || (List.range (dt_kd k).2).all (fun j => dt_cf1 k (dt_fd ((dt_kd k).1 - 4) j))
theorem dk_cf : (List.range 86).all dt_cf2 = true := by decide +kernel
theorem dk_fd0 (k : Nat) (hk : k < 86) (j : Nat) (_ : j < 35) (h : 4 ≤ (dt_kd k).1 ∧ j < (dt_kd k).2) : ((dt_fd ((dt_kd k).1 - 4) j).1 = 2 → dt_kd (dt_fd ((dt_kd k).1 - 4) j).2.2.2 = ((dt_fd ((dt_kd k).1 - 4) j).2.1, (dt_fd ((dt_kd k).1 - 4) j).2.2.1)) ∧ (3 ≤ (dt_fd ((dt_kd k).1 - 4) j).1 → dt_kd (k + (dt_fd ((dt_kd k).1 - 4) j).2.2.2) = ((dt_fd ((dt_kd k).1 - 4) j).2.1, (dt_fd ((dt_kd k).1 - 4) j).2.2.1)) := by
  have h1 := List.all_eq_true.mp dk_cf k (List.mem_range.mpr hk)
  have h4 : Nat.ble 4 (dt_kd k).1 = true := Nat.ble_eq.mpr h.1
  unfold dt_cf2 at h1
  rw [h4, Bool.not_true, Bool.false_or] at h1
  have h2 := List.all_eq_true.mp h1 j (List.mem_range.mpr h.2)
  generalize dt_fd ((dt_kd k).1 - 4) j = q at h2 ⊢
  unfold dt_cf1 at h2
  rw [Bool.and_eq_true, Bool.or_eq_true, Bool.or_eq_true] at h2
  refine ⟨fun e => ?_, fun e => ?_⟩
  · rcases h2.1 with a | a
    · rw [e] at a; cases a
    · exact eq_of_beq a
  · rcases h2.2 with a | a
    · rw [Nat.ble_eq.mpr e] at a; cases a
    · exact eq_of_beq a
theorem dk_fd (k : Nat) (hk : k < 86) (h4 : 4 ≤ (dt_kd k).1) (j : Nat) (hj : j < (dt_kd k).2) : ((dt_fd ((dt_kd k).1 - 4) j).1 = 2 → dt_kd (dt_fd ((dt_kd k).1 - 4) j).2.2.2 = ((dt_fd ((dt_kd k).1 - 4) j).2.1, (dt_fd ((dt_kd k).1 - 4) j).2.2.1)) ∧ (3 ≤ (dt_fd ((dt_kd k).1 - 4) j).1 → dt_kd (k + (dt_fd ((dt_kd k).1 - 4) j).2.2.2) = ((dt_fd ((dt_kd k).1 - 4) j).2.1, (dt_fd ((dt_kd k).1 - 4) j).2.2.1)) := dk_fd0 k hk j (Nat.lt_of_lt_of_le hj (dk_35 k hk h4)) ⟨h4, hj⟩
theorem dk_gf {ci j k N : Nat} {M : dt_M} (hM : dt_RM M) (hk : dt_kd k = (ci + 4, N)) (hc : ci < 46) (hj : j < N) : dt_okv (dt_gf ci j k M) := by
  have hl : k < 86 := dk_lt hk (by omega)
  have h := dk_fd k hl (by rw [hk]; omega) j (by rw [hk]; exact hj)
  rw [hk, show ci + 4 - 4 = ci by omega] at h
  unfold dt_gf
  obtain ⟨a, b, c, d, hq⟩ : ∃ a b c d, dt_fd ci j = (a, b, c, d) := ⟨_, _, _, _, rfl⟩
  rw [hq] at h ⊢
  match a, h with
  | 0, h => exact hM.1 k j
  | 1, h => exact hM.2 k j
  | 2, h => exact h.1 rfl
  | a + 3, h => exact h.2 (by simp)
theorem dw_obj {M : dt_M} {ad : Nat → Nat} {cA : Nat → ClassId} {ci k N : Nat} (hk : dt_kd k = (ci + 4, N)) : dt_wc M ad cA k = .inr (ci, (List.range N).map (fun j => dt_cv ad (dt_gf ci j k M))) := by
  unfold dt_wc
  rw [hk]
  simp only
  rw [if_neg (by omega), if_neg (by omega), if_neg (by omega), if_neg (by omega), show ci + 4 - 4 = ci by omega]
theorem dw_int {M : dt_M} {ad : Nat → Nat} {cA : Nat → ClassId} {k n : Nat} (hk : dt_kd k = (0, n)) : dt_wc M ad cA k = .inl (cA 0, n, .inl (fun j => Int32.ofInt (M.1 k j))) := by
  unfold dt_wc
  rw [hk]
  rfl
theorem dw_bool {M : dt_M} {ad : Nat → Nat} {cA : Nat → ClassId} {k n : Nat} (hk : dt_kd k = (1, n)) : dt_wc M ad cA k = .inl (cA 1, n, .inl (fun j => Int32.ofInt (M.1 k j))) := by
  unfold dt_wc
  rw [hk]
  rfl
theorem dw_long {M : dt_M} {ad : Nat → Nat} {cA : Nat → ClassId} {k n : Nat} (hk : dt_kd k = (2, n)) : dt_wc M ad cA k = .inl (cA 2, n, .inr (.inl (fun j => Int64.ofInt (M.2 k j)))) := by
  unfold dt_wc
  rw [hk]
  rfl
theorem dw_refs {M : dt_M} {ad : Nat → Nat} {cA : Nat → ClassId} {k n : Nat} (hk : dt_kd k = (3, n)) : dt_wc M ad cA k = .inl (cA 3, n, .inr (.inr (.inr (.inr (fun j => some (ad (2 + 8 * j))))))) := by
  unfold dt_wc
  rw [hk]
  rfl
theorem dm_wi1 {M : dt_M} {k j : Nat} {x : Int} : (dt_wi M k j x).1 k = dt_up (M.1 k) j x := by simp [dt_wi, dt_up]
theorem dm_wi2 {M : dt_M} {k j a : Nat} {x : Int} (h : a ≠ k) : (dt_wi M k j x).1 a = M.1 a := by simp [dt_wi, dt_up, h]
theorem dm_wi3 {M : dt_M} {k j : Nat} {x : Int} : (dt_wi M k j x).2 = M.2 := rfl
theorem dm_wl1 {M : dt_M} {k j : Nat} {x : Int} : (dt_wl M k j x).2 k = dt_up (M.2 k) j x := by simp [dt_wl, dt_up]
theorem dm_wl2 {M : dt_M} {k j a : Nat} {x : Int} (h : a ≠ k) : (dt_wl M k j x).2 a = M.2 a := by simp [dt_wl, dt_up, h]
theorem dm_wl3 {M : dt_M} {k j : Nat} {x : Int} : (dt_wl M k j x).1 = M.1 := rfl
theorem dm_up1 {α : Type} {f : Nat → α} {k : Nat} {v : α} : dt_up f k v k = v := by simp [dt_up]
theorem dm_up2 {α : Type} {f : Nat → α} {k a : Nat} {v : α} (h : a ≠ k) : dt_up f k v a = f a := by simp [dt_up, h]
theorem dm_rwi {M : dt_M} {k j : Nat} {x : Int} (h : dt_RM M) (hx : dt_r x) : dt_RM (dt_wi M k j x) := by
  refine ⟨fun a b => ?_, h.2⟩
  by_cases ha : a = k
  · subst ha
    rw [dm_wi1]
    by_cases hb : b = j
    · subst hb; rw [dm_up1]; exact hx
    · rw [dm_up2 hb]; exact h.1 a b
  · rw [dm_wi2 ha]; exact h.1 a b
theorem dm_rwl {M : dt_M} {k j : Nat} {x : Int} (h : dt_RM M) (hx : dt_rL x) : dt_RM (dt_wl M k j x) := by
  refine ⟨h.1, fun a b => ?_⟩
  by_cases ha : a = k
  · subst ha
    rw [dm_wl1]
    by_cases hb : b = j
    · subst hb; rw [dm_up1]; exact hx
    · rw [dm_up2 hb]; exact h.2 a b
  · rw [dm_wl2 ha]; exact h.2 a b
/-! ===== the locals ===== -/
def dt_as (ad : Nat → Nat) (lv : dt_L) : List (Nat × Value) := (List.range lv.length).filterMap (fun i => match lv[i]? with
  | some (some v) => some (i, dt_cv ad v)
  | _ => none)
theorem dl_mem {ad : Nat → Nat} {lv : dt_L} {i : Nat} {v : dt_V} (h : lv[i]? = some (some v)) : (i, dt_cv ad v) ∈ dt_as ad lv := by
  refine List.mem_filterMap.mpr ⟨i, List.mem_range.mpr (List.getElem?_eq_some_iff.mp h).1, ?_⟩
  rw [h]
theorem dl_of {ad : Nat → Nat} {lv : dt_L} {q : Nat × Value} (h : q ∈ dt_as ad lv) : ∃ v, lv[q.1]? = some (some v) ∧ q.2 = dt_cv ad v := by
  obtain ⟨i, -, hi⟩ := List.mem_filterMap.mp h
  split at hi
  · next v hv => cases hi; exact ⟨v, hv, rfl⟩
  · cases hi
theorem dl_has {ad : Nat → Nat} {ls : Array Slot} {nL : Nat} {lv : dt_L} (h : dt_H ad ls nL lv) : lv_has ls nL (dt_as ad lv) := by
  refine ⟨h.1, h.2.1, fun q hq => ?_⟩
  obtain ⟨v, h1, h2⟩ := dl_of hq
  rw [h.2.2 _ _ h1, h2]
def dt_set1 (lv : dt_L) (i : Nat) (v : dt_V) : dt_L := (match lv.getD (i - 1) none with
  | some (.inr (.inl _)) => lv.set (i - 1) none
  | _ => lv).set i (some v)
def dt_set2 (lv : dt_L) (i : Nat) (v : dt_V) : dt_L := ((match lv.getD (i - 1) none with
  | some (.inr (.inl _)) => lv.set (i - 1) none
  | _ => lv).set i (some v)).set (i + 1) none
theorem dl_pre {lv : dt_L} {i j : Nat} {v : dt_V} (h : (match lv.getD (i - 1) none with
  | some (.inr (.inl _)) => lv.set (i - 1) none
  | _ => lv)[j]? = some (some v)) : lv[j]? = some (some v) ∧ ¬ (j + 1 = i ∧ ∃ x, v = .inr (.inl x)) := by
  split at h
  · next x hx =>
    by_cases hj : j = i - 1
    · subst hj
      by_cases hl : i - 1 < lv.length
      · rw [List.getElem?_set_self hl] at h; cases h
      · rw [List.getElem?_eq_none (by simp; omega)] at h; cases h
    · rw [List.getElem?_set_ne (Ne.symm hj)] at h
      exact ⟨h, fun ⟨a, _⟩ => hj (by omega)⟩
  · next hx =>
    refine ⟨h, fun ⟨a, x, b⟩ => ?_⟩
    subst b
    have : j = i - 1 := by omega
    subst this
    rw [List.getD_eq_getElem?_getD, h] at hx
    exact hx _ rfl
theorem dl_cat {ad : Nat → Nat} {v : dt_V} (h : (dt_cv ad v).category = 2) : ∃ x, v = .inr (.inl x) := by
  match v, h with
  | .inl x, h => cases h
  | .inr (.inl x), _ => exact ⟨x, rfl⟩
  | .inr (.inr q), h => cases h
theorem dl_set1 {ad : Nat → Nat} {ls ls' : Array Slot} {nL i : Nat} {lv : dt_L} {v : dt_V} (h : lv_has ls' nL ((i, dt_cv ad v) :: (dt_as ad lv).filter (fun q => !(q.1 == i) && !(q.1 + 1 == i && q.2.category == 2)))) : dt_H ad ls' nL (dt_set1 lv i v) := by
  refine ⟨h.1, h.2.1, fun j w hj => ?_⟩
  by_cases hji : j = i
  · subst hji
    have hw : w = v := by
      by_cases hl : j < (dt_set1 lv j v).length
      · rw [show (dt_set1 lv j v) = List.set _ j (some v) from rfl, List.getElem?_set_self (by simpa [dt_set1] using hl)] at hj
        cases hj; rfl
      · rw [List.getElem?_eq_none (by omega)] at hj; cases hj
    subst hw
    exact h.2.2 (j, dt_cv ad w) List.mem_cons_self
  · rw [show (dt_set1 lv i v) = List.set _ i (some v) from rfl, List.getElem?_set_ne (Ne.symm hji)] at hj
    obtain ⟨h1, h2⟩ := dl_pre hj
    refine h.2.2 (j, dt_cv ad w) (List.mem_cons_of_mem _ (List.mem_filter.mpr ⟨dl_mem h1, ?_⟩))
    simp only [Bool.and_eq_true, Bool.not_eq_true', beq_eq_false_iff_ne, ne_eq, Bool.and_eq_false_iff]
    refine ⟨hji, ?_⟩
    by_cases ha : j + 1 = i
    · right
      intro hc
      exact h2 ⟨ha, dl_cat hc⟩
    · left; exact ha
theorem dl_set2 {ad : Nat → Nat} {ls ls' : Array Slot} {nL i : Nat} {lv : dt_L} {v : dt_V} (h : lv_has ls' nL ((i, dt_cv ad v) :: (dt_as ad lv).filter (fun q => !(q.1 == i) && (!(q.1 == i + 1) && !(q.1 + 1 == i && q.2.category == 2))))) : dt_H ad ls' nL (dt_set2 lv i v) := by
  refine ⟨h.1, h.2.1, fun j w hj => ?_⟩
  have hj1 : j ≠ i + 1 := by
    intro e
    subst e
    by_cases hl : i + 1 < (dt_set2 lv i v).length
    · rw [show (dt_set2 lv i v) = List.set _ (i + 1) none from rfl, List.getElem?_set_self (by simpa [dt_set2] using hl)] at hj
      cases hj
    · rw [List.getElem?_eq_none (by omega)] at hj; cases hj
  rw [show (dt_set2 lv i v) = List.set _ (i + 1) none from rfl, List.getElem?_set_ne (Ne.symm hj1)] at hj
  by_cases hji : j = i
  · subst hji
    have hw : w = v := by
      have hl := (List.getElem?_eq_some_iff.mp hj).1
      rw [List.getElem?_set_self (by simpa using hl)] at hj
      cases hj; rfl
    subst hw
    exact h.2.2 (j, dt_cv ad w) List.mem_cons_self
  · rw [List.getElem?_set_ne (Ne.symm hji)] at hj
    obtain ⟨h1, h2⟩ := dl_pre hj
    refine h.2.2 (j, dt_cv ad w) (List.mem_cons_of_mem _ (List.mem_filter.mpr ⟨dl_mem h1, ?_⟩))
    simp only [Bool.and_eq_true, Bool.not_eq_true', beq_eq_false_iff_ne, ne_eq, Bool.and_eq_false_iff]
    refine ⟨hji, hj1, ?_⟩
    by_cases ha : j + 1 = i
    · right
      intro hc
      exact h2 ⟨ha, dl_cat hc⟩
    · left; exact ha
theorem dl_ok1 {lv : dt_L} {i : Nat} {v : dt_V} (h : ∀ v, some v ∈ lv → dt_okv v) (hv : dt_okv v) : ∀ w, some w ∈ dt_set1 lv i v → dt_okv w := by
  intro w hw
  obtain ⟨j, hj⟩ := List.getElem?_of_mem hw
  by_cases hji : j = i
  · subst hji
    have hl := (List.getElem?_eq_some_iff.mp hj).1
    rw [show (dt_set1 lv j v) = List.set _ j (some v) from rfl, List.getElem?_set_self (by simpa [dt_set1] using hl)] at hj
    cases hj; exact hv
  · rw [show (dt_set1 lv i v) = List.set _ i (some v) from rfl, List.getElem?_set_ne (Ne.symm hji)] at hj
    exact h w (List.mem_of_getElem? (dl_pre hj).1)
theorem dl_ok2 {lv : dt_L} {i : Nat} {v : dt_V} (h : ∀ v, some v ∈ lv → dt_okv v) (hv : dt_okv v) : ∀ w, some w ∈ dt_set2 lv i v → dt_okv w := by
  intro w hw
  obtain ⟨j, hj⟩ := List.getElem?_of_mem hw
  have hj1 : j ≠ i + 1 := by
    intro e
    subst e
    have hl := (List.getElem?_eq_some_iff.mp hj).1
    rw [show (dt_set2 lv i v) = List.set _ (i + 1) none from rfl, List.getElem?_set_self (by simpa [dt_set2] using hl)] at hj
    cases hj
  rw [show (dt_set2 lv i v) = List.set _ (i + 1) none from rfl, List.getElem?_set_ne (Ne.symm hj1)] at hj
  by_cases hji : j = i
  · subst hji
    have hl := (List.getElem?_eq_some_iff.mp hj).1
    rw [List.getElem?_set_self (by simpa using hl)] at hj
    cases hj; exact hv
  · rw [List.getElem?_set_ne (Ne.symm hji)] at hj
    exact h w (List.mem_of_getElem? (dl_pre hj).1)
