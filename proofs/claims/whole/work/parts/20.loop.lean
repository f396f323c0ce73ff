/-! ===== loops: an invariant for the entry and every head, with a measure that falls ===== -/
theorem dt_loop {y : dt_Y} {tb : Nat → dt_T} (ht : ∀ pc, dt_S y (tb pc) pc) (cut : Nat → Bool) (n : Nat) {d : Nat} {Q : Option dt_V → dt_M → Prop} (I : Nat → dt_K)
    (hs : ∀ (μ pc : Nat) (lv : dt_L) (st : List dt_V) (M : dt_M), I μ pc lv st M → ∀ J : dt_K, (∀ (μ' pc : Nat) (lv : dt_L) (st : List dt_V) (M : dt_M), μ' < μ → I μ' pc lv st M → J pc lv st M) → tb pc d Q (dt_w tb cut d Q J n) pc lv st M) :
    ∀ (μ pc : Nat) (lv : dt_L) (st : List dt_V) (M : dt_M), I μ pc lv st M → dt_J y d Q pc lv st M := by
  intro μ
  induction μ using Nat.strongRecOn with
  | _ μ ih =>
    intro pc lv st M hI
    exact dt_go ht cut n (hs μ pc lv st M hI (dt_J y d Q) (fun μ' pc lv st M h1 h2 => ih μ' h1 pc lv st M h2))
/-- a method without a loop -/
theorem dt_flat {y : dt_Y} {tb : Nat → dt_T} (ht : ∀ pc, dt_S y (tb pc) pc) (n : Nat) {d : Nat} {av : List dt_V} {M : dt_M} {Φ : Option dt_V → dt_M → Prop} (hy : plainName y.1.cls = true) (hs : (dt_lv0 av).length ≤ y.2.2.1) (h : ∀ J : dt_K, tb 0 d Φ (dt_w tb (fun _ => false) d Φ J n) 0 (dt_lv av y.2.2.1) [] M) : dt_Sp y d av M Φ :=
  dt_enter hy hs (dt_go ht (fun _ => false) n (h (dt_J y d Φ)))
