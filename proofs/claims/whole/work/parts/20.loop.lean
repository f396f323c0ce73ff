/-! ===== loops: an invariant for every head, with a measure that falls ===== -/
def dt_le : dt_L → dt_L → Prop
  | [], _ => True
  | none :: a, _ :: b => dt_le a b
  | some v :: a, some w :: b => v = w ∧ dt_le a b
  | none :: a, [] => dt_le a []
  | some _ :: _, _ => False
theorem dt_le_at : ∀ {a b : dt_L}, dt_le a b → ∀ (i : Nat) (v : dt_V), a[i]? = some (some v) → b[i]? = some (some v)
  | [], _, _, i, v, h => by simp at h
  | none :: a, x :: b, hl, 0, v, h => by cases h
  | none :: a, x :: b, hl, i + 1, v, h => dt_le_at (a := a) (b := b) hl i v h
  | some w :: a, some z :: b, hl, 0, v, h => by
    have e : w = z := hl.1
    subst e; exact h
  | some w :: a, some z :: b, hl, i + 1, v, h => dt_le_at (a := a) (b := b) hl.2 i v h
  | none :: a, [], hl, 0, v, h => by cases h
  | none :: a, [], hl, i + 1, v, h => by
    have := dt_le_at (a := a) (b := []) hl i v h
    simp at this
  | some _ :: _, [], hl, i, v, h => hl.elim
  | some _ :: _, none :: _, hl, i, v, h => hl.elim
/-- A METHOD, with its loops: P the heads' places, L their locals, N their memories, I the invariant, μ the measure -/
theorem dt_meth {y : dt_Y} {tb : Nat → dt_T} (ht : ∀ pc, dt_S y (tb pc) pc) (cut : Nat → Bool) (n : Nat) {σ : Type} (P : σ → Nat) (L : σ → dt_L) (N : σ → dt_M) (I : σ → Prop) (μ : σ → Nat) {d : Nat} {av : List dt_V} {M : dt_M} {Φ : Option dt_V → dt_M → Prop} (hy : plainName y.1.cls = true) (hs : (dt_lv0 av).length ≤ y.2.2.1)
    (h0 : ∀ J : dt_K, (∀ (t : σ) (lv : dt_L), I t → dt_le (L t) lv → J (P t) lv [] (N t)) → tb 0 d Φ (dt_w tb cut d Φ J n) 0 (dt_lv av y.2.2.1) [] M)
    (h1 : ∀ (t : σ), I t → ∀ J : dt_K, (∀ (u : σ) (lv : dt_L), I u → μ u < μ t → dt_le (L u) lv → J (P u) lv [] (N u)) → tb (P t) d Φ (dt_w tb cut d Φ J n) (P t) (L t) [] (N t)) : dt_Sp y d av M Φ := by
  have key : ∀ (m : Nat) (t : σ), μ t = m → I t → dt_J y d Φ (P t) (L t) [] (N t) := by
    intro m
    induction m using Nat.strongRecOn with
    | _ m ih =>
      intro t hm hI
      subst hm
      exact dt_go ht cut n (h1 t hI (dt_J y d Φ) (fun u lv hu hlt hle => dt_less (dt_le_at hle) (ih (μ u) hlt u rfl hu)))
  exact dt_enter hy hs (dt_go ht cut n (h0 (dt_J y d Φ) (fun t lv hI hle => dt_less (dt_le_at hle) (key _ t rfl hI))))
/-- a method without a loop -/
theorem dt_flat {y : dt_Y} {tb : Nat → dt_T} (ht : ∀ pc, dt_S y (tb pc) pc) (n : Nat) {d : Nat} {av : List dt_V} {M : dt_M} {Φ : Option dt_V → dt_M → Prop} (hy : plainName y.1.cls = true) (hs : (dt_lv0 av).length ≤ y.2.2.1) (h : ∀ J : dt_K, tb 0 d Φ (dt_w tb (fun _ => false) d Φ J n) 0 (dt_lv av y.2.2.1) [] M) : dt_Sp y d av M Φ :=
  dt_enter hy hs (dt_go ht (fun _ => false) n (h (dt_J y d Φ)))
/-- what a call may take for granted: its arguments and the memory are in range -/
theorem dt_giv {y : dt_Y} {d : Nat} {av : List dt_V} {M : dt_M} {Φ : Option dt_V → dt_M → Prop} (h : (∀ v ∈ av, dt_okv v) → dt_RM M → dt_Sp y d av M Φ) : dt_Sp y d av M Φ := by
  intro l D ad cA p e ha hc hk s m args below hf hS hP hK
  exact h hP.2.1 hP.2.2.1 l D ad cA p e ha hc hk s m args below hf hS hP hK
