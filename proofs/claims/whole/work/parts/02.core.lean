/-! ===== THE ABSTRACT MACHINE: values and memory in whole numbers, cells by their places ===== -/
/-- a value: an int, a long, or a reference (kind of cell, size, place) -/
abbrev dt_V : Type := Int ⊕ (Int ⊕ (Nat × Nat × Nat))
/-- the memory: ints and longs, by place and slot -/
abbrev dt_M : Type := (Nat → Nat → Int) × (Nat → Nat → Int)
/-- a method: its name, code, locals, answer -/
abbrev dt_Y : Type := MethodName × ByteArray × Nat × Option FieldType
abbrev dt_L : Type := List (Option dt_V)
abbrev dt_K : Type := Nat → dt_L → List dt_V → dt_M → Prop
abbrev dt_T : Type := Nat → (Option dt_V → dt_M → Prop) → dt_K → dt_K
def dt_r (x : Int) : Prop := -2147483648 ≤ x ∧ x ≤ 2147483647
def dt_rL (x : Int) : Prop := -9223372036854775808 ≤ x ∧ x ≤ 9223372036854775807
/-- kinds: 0 int[], 1 boolean[], 2 long[], 3 Talk[], 4 + class number: an object; 50: a text constant -/
def dt_lay : List (Nat × Nat) := [(10, 7), (3, 4),
  (9, 9), (1, 20), (0, 20), (0, 20), (0, 20), (0, 20), (0, 4), (0, 40),
  (9, 9), (1, 20), (0, 20), (0, 20), (0, 20), (0, 20), (0, 4), (0, 40),
  (9, 9), (1, 20), (0, 20), (0, 20), (0, 20), (0, 20), (0, 4), (0, 40),
  (9, 9), (1, 20), (0, 20), (0, 20), (0, 20), (0, 20), (0, 4), (0, 40),
  (9, 9), (1, 20), (0, 20), (0, 20), (0, 20), (0, 20), (0, 4), (0, 40),
  (7, 6), (0, 300), (8, 1), (0, 20),
  (4, 10), (2, 1296), (0, 1296), (0, 1296), (0, 4), (0, 4), (0, 20),
  (6, 10), (0, 4), (0, 4), (0, 160), (0, 16), (0, 16), (0, 40),
  (5, 4), (0, 16),
  (11, 35), (0, 4), (1, 80), (0, 80), (0, 80), (0, 80), (0, 80), (0, 16), (0, 320), (0, 300), (1, 20), (0, 20), (0, 20), (0, 20), (0, 20), (1, 400), (0, 5), (2, 1296), (0, 1296), (0, 320), (0, 16), (0, 16), (0, 4), (0, 80),
  (50, 4), (50, 4)]
def dt_kd (k : Nat) : Nat × Nat := dt_lay.getD k (99, 0)
/-- the fields of each class: 0 an int, 1 a long, 2 a reference to a place, 3 a reference to a place behind its own -/
def dt_ft : List (List (Nat × Nat × Nat × Nat)) := [
  [(2, 2, 1296, 47), (2, 0, 1296, 48), (2, 0, 1296, 49), (2, 0, 4, 50), (2, 0, 4, 51), (2, 0, 20, 52), (1, 0, 0, 0), (0, 0, 0, 0), (0, 0, 0, 0), (0, 0, 0, 0)],
  [(2, 3, 4, 1), (2, 6, 10, 53), (2, 0, 16, 61), (0, 0, 0, 0)],
  [(2, 3, 4, 1), (2, 0, 4, 54), (2, 0, 4, 55), (2, 0, 160, 56), (2, 0, 16, 57), (2, 0, 16, 58), (2, 0, 40, 59), (0, 0, 0, 0), (0, 0, 0, 0), (0, 0, 0, 0)],
  [(2, 0, 300, 43), (0, 0, 0, 0), (0, 0, 0, 0), (0, 0, 0, 0), (0, 0, 0, 0), (0, 0, 0, 0)],
  [(2, 0, 20, 45)],
  [(3, 1, 20, 1), (3, 0, 20, 2), (3, 0, 20, 3), (3, 0, 20, 4), (3, 0, 20, 5), (3, 0, 4, 6), (3, 0, 40, 7), (0, 0, 0, 0), (0, 0, 0, 0)],
  [(2, 3, 4, 1), (2, 9, 9, 34), (2, 7, 6, 42), (2, 8, 1, 44), (2, 4, 10, 46), (2, 6, 10, 53), (2, 5, 4, 60)],
  [(2, 0, 4, 63), (2, 1, 80, 64), (2, 0, 80, 65), (2, 0, 80, 66), (2, 0, 80, 67), (2, 0, 80, 68), (2, 0, 16, 69), (2, 0, 320, 70), (0, 0, 0, 0), (2, 0, 300, 71), (0, 0, 0, 0), (0, 0, 0, 0), (0, 0, 0, 0), (2, 1, 20, 72), (2, 0, 20, 73), (2, 0, 20, 74), (2, 0, 20, 75), (2, 0, 20, 76), (0, 0, 0, 0), (0, 0, 0, 0), (0, 0, 0, 0), (2, 1, 400, 77), (2, 0, 5, 78), (2, 2, 1296, 79), (2, 0, 1296, 80), (0, 0, 0, 0), (0, 0, 0, 0), (0, 0, 0, 0), (2, 0, 320, 81), (2, 0, 16, 82), (2, 0, 16, 83), (2, 0, 4, 84), (0, 0, 0, 0), (0, 0, 0, 0), (2, 0, 80, 85)]]
def dt_fd (ci j : Nat) : Nat × Nat × Nat × Nat := (dt_ft.getD ci []).getD j (0, 0, 0, 0)
def dt_gf (ci j k : Nat) (M : dt_M) : dt_V := match dt_fd ci j with
  | (0, _, _, _) => .inl (M.1 k j)
  | (1, _, _, _) => .inr (.inl (M.2 k j))
  | (2, t, n, q) => .inr (.inr (t, n, q))
  | (_, t, n, q) => .inr (.inr (t, n, k + q))
def dt_okv (v : dt_V) : Prop := match v with
  | .inl x => dt_r x
  | .inr (.inl x) => dt_rL x
  | .inr (.inr q) => dt_kd q.2.2 = (q.1, q.2.1)
def dt_cv (ad : Nat → Nat) (v : dt_V) : Value := match v with
  | .inl x => .int (Int32.ofInt x)
  | .inr (.inl x) => .long (Int64.ofInt x)
  | .inr (.inr q) => .ref (ad q.2.2)
def dt_up {α : Type} (f : Nat → α) (k : Nat) (v : α) : Nat → α := fun a => if a = k then v else f a
def dt_wi (M : dt_M) (k j : Nat) (x : Int) : dt_M := (dt_up M.1 k (dt_up (M.1 k) j x), M.2)
def dt_wl (M : dt_M) (k j : Nat) (x : Int) : dt_M := (M.1, dt_up M.2 k (dt_up (M.2 k) j x))
def dt_RM (M : dt_M) : Prop := (∀ k j, dt_r (M.1 k j)) ∧ ∀ k j, dt_rL (M.2 k j)
def dt_ok (lv : dt_L) (st : List dt_V) (M : dt_M) : Prop := (∀ v, some v ∈ lv → dt_okv v) ∧ (∀ v ∈ st, dt_okv v) ∧ dt_RM M
/-- the world of cells -/
def dt_wc (M : dt_M) (ad : Nat → Nat) (cA : Nat → ClassId) (k : Nat) : va_E :=
  if (dt_kd k).1 = 0 then .inl (cA 0, (dt_kd k).2, .inl (fun j => Int32.ofInt (M.1 k j)))
  else if (dt_kd k).1 = 1 then .inl (cA 1, (dt_kd k).2, .inl (fun j => Int32.ofInt (M.1 k j)))
  else if (dt_kd k).1 = 2 then .inl (cA 2, (dt_kd k).2, .inr (.inl (fun j => Int64.ofInt (M.2 k j))))
  else if (dt_kd k).1 = 3 then .inl (cA 3, (dt_kd k).2, .inr (.inr (.inr (.inr (fun j => some (ad (2 + 8 * j)))))))
  else .inr ((dt_kd k).1 - 4, (List.range (dt_kd k).2).map (fun j => dt_cv ad (dt_gf ((dt_kd k).1 - 4) j k M)))
def dt_wd (M : dt_M) (ad : Nat → Nat) (cA : Nat → ClassId) : va_W := (List.range 86).map (fun k => (ad k, dt_wc M ad cA k))
def dt_tys (cA : Nat → ClassId) : List (ClassId × FieldType) := [(cA 0, .int), (cA 1, .boolean), (cA 2, .long), (cA 3, .object "DrawnTalks$Talk")]
def dt_W (D : va_G) (ad : Nat → Nat) (cA : Nat → ClassId) (A : Nat → Prop) (s : State) (H : Heap) (locs : List Loc) (M : dt_M) : Prop :=
  va_P D vwCl (dt_wd M ad cA) H ∧ va_D A (dt_wd M ad cA) ∧ va_S A s.heap H locs
def dt_A (ad : Nat → Nat) : Nat → Prop := fun q => ∃ k, k < 86 ∧ q = ad k
/-- the locals -/
def dt_H (ad : Nat → Nat) (ls : Array Slot) (nL : Nat) (lv : dt_L) : Prop := ls.size = nL ∧ lv_wf ls ∧ ∀ (i : Nat) (v : dt_V), lv[i]? = some (some v) → ls[i]? = some (Slot.val (dt_cv ad v))
/-- the words that every method has -/
def dt_W0 : List Cond := lw_tbl.filter goodWord
def dt_nst : Cond → Bool
  | .fieldLinkNest _ _ _ _ _ _ => true
  | .methodLinkNest _ _ _ _ => true
  | _ => false
def dt_NW : List Cond := lw_tbl.filter dt_nst
theorem dt_in {w : Cond} (h : w ∈ lw_tbl) (g : goodWord w = true) : w ∈ dt_W0 := List.mem_filter.mpr ⟨h, g⟩
theorem dt_inN {w : Cond} (h : w ∈ lw_tbl) (g : dt_nst w = true) : w ∈ dt_NW := List.mem_filter.mpr ⟨h, g⟩
/-- the text constants, and the statics that the texts' methods read -/
def dt_SF (ad : Nat → Nat) (A : Nat → Prop) (U : State) (H : Heap) : Prop :=
  (∃ adV : Nat → Nat, vk_S 2 [4, 4] [[115, 101, 110, 100], [116, 97, 107, 101]] (fun i => ad (86 + i)) adV A U H) ∧
  va_Z "java/lang/String" "COMPACT_STRINGS" "Z" (.int 1) A U H ∧
  va_Zq "jdk/internal/util/Preconditions" "SIOOBE_FORMATTER" "Ljava/util/function/BiFunction;" A U H ∧
  vk_R "DrawnTalks$Reader" 72 "send" (ad 86) U ∧ vk_R "DrawnTalks$Reader" 78 "take" (ad 87) U
/-- what an answer must be -/
def dt_okr (rt : Option FieldType) (r : Option dt_V) : Prop := match rt, r with
  | none, none => True
  | some .int, some (.inl x) => dt_r x
  | some .boolean, some (.inl x) => x = 0 ∨ x = 1
  | some .long, some (.inr (.inl x)) => dt_rL x
  | some (.object _), some (.inr (.inr q)) => dt_kd q.2.2 = (q.1, q.2.1)
  | _, _ => False
def dt_ri (r : Option dt_V) (cc : ByteArray) (pc : Nat) : Prop := match r with
  | none => decode cc pc = .ok (.return_, 1)
  | some (.inl _) => decode cc pc = .ok (.ireturn, 1)
  | some (.inr (.inl _)) => decode cc pc = .ok (.lreturn, 1)
  | some (.inr (.inr _)) => decode cc pc = .ok (.areturn, 1)
/-- where a method's walk stands -/
def dt_C (y : dt_Y) (d : Nat) (Q : Option dt_V → dt_M → Prop) (p : Program) (l : Launch) (e : Env) (R : Room) (s : State) (m : MethodId) (args : Array Value) (below : List Frame) (meth : Method) (c : Code) (cells slots : Nat) (Qf : State → Prop) (D : va_G) (ad : Nat → Nat) (cA : Nat → ClassId) (A : Nat → Prop) : Prop :=
  p.tables.exec = Jvm.exec ∧ c.code = y.2.1 ∧ c.maxLocals = y.2.2.1 ∧ s.vm.findClass y.1.cls = some m.cls ∧ (∀ w ∈ dt_W0, w.before args s = true) ∧ va_K D vwCl (dt_tys cA) s ∧ (∀ w ∈ dt_NW, va_Nw w s) ∧
  (d ≤ R.frames ∧ 39 * d ≤ R.locals ∧ cells ≤ R.cells ∧ slots ≤ R.slots) ∧ dt_SF ad A s s.heap ∧
  ∀ (H : Heap) (locs : List Loc) (M : dt_M) (r : Option dt_V) (pc : Nat) (ls : Array Slot), dt_W D ad cA A s H locs M → dt_RM M → dt_okr y.2.2.2 r → Q r M → dt_ri r y.2.1 pc →
    W p l e R s m args below meth c H locs cells slots Qf (F0 m pc ls (r.toList.map (dt_cv ad)))
/-- THE JUDGEMENT: from here the method comes to its end with Q -/
def dt_J (y : dt_Y) (d : Nat) (Q : Option dt_V → dt_M → Prop) : dt_K := fun pc lv st M =>
  dt_ok lv st M → ∀ (p : Program) (l : Launch) (e : Env) (R : Room) (s : State) (m : MethodId) (args : Array Value) (below : List Frame) (meth : Method) (c : Code) (cells slots : Nat) (Qf : State → Prop) (D : va_G) (ad : Nat → Nat) (cA : Nat → ClassId) (A : Nat → Prop),
    dt_C y d Q p l e R s m args below meth c cells slots Qf D ad cA A → ∀ (H : Heap) (locs : List Loc) (ls : Array Slot), dt_W D ad cA A s H locs M → dt_H ad ls y.2.2.1 lv →
      W p l e R s m args below meth c H locs cells slots Qf (F0 m pc ls (st.map (dt_cv ad)))
/-- a step's meaning is right -/
def dt_S (y : dt_Y) (tr : dt_T) (pc : Nat) : Prop := ∀ (d : Nat) (Q : Option dt_V → dt_M → Prop) (K : dt_K), (∀ pc lv st M, K pc lv st M → dt_J y d Q pc lv st M) → ∀ (lv : dt_L) (st : List dt_V) (M : dt_M), tr d Q K pc lv st M → dt_J y d Q pc lv st M
/-- a call of a method: from this memory, with these arguments, it comes back with Φ -/
def dt_room (d : Nat) : Room := { frames := d, cells := 0, slots := 0, locals := 39 * d }
def dt_Pc (D : va_G) (ad : Nat → Nat) (cA : Nat → ClassId) (av : List dt_V) (M : dt_M) : Array Value → State → Prop := fun v U =>
  v = (av.map (dt_cv ad)).toArray ∧ (∀ x ∈ av, dt_okv x) ∧ dt_RM M ∧ va_P D vwCl (dt_wd M ad cA) U.heap ∧ va_D (dt_A ad) (dt_wd M ad cA) ∧ va_K D vwCl (dt_tys cA) U ∧ (∀ w ∈ dt_NW, va_Nw w U) ∧ dt_SF ad (dt_A ad) U U.heap
def dt_Qc (D : va_G) (ad : Nat → Nat) (cA : Nat → ClassId) (rt : Option FieldType) (Φ : Option dt_V → dt_M → Prop) : Array Value → State → Outcome → State → Prop := fun _ st oc t =>
  (∃ (r : Option dt_V) (M : dt_M), oc = .returned (r.map (dt_cv ad)) ∧ Φ r M ∧ dt_okr rt r ∧ dt_RM M ∧ va_P D vwCl (dt_wd M ad cA) t.heap) ∧ va_F (dt_A ad) st t
def dt_Sp (y : dt_Y) (d : Nat) (av : List dt_V) (M : dt_M) (Φ : Option dt_V → dt_M → Prop) : Prop :=
  ∀ (l : Launch) (D : va_G) (ad : Nat → Nat) (cA : Nat → ClassId), Met l y.1 (Cond.code y.1 y.2.1 y.2.2.1 y.2.2.2 :: dt_W0) (dt_room d) (dt_Pc D ad cA av M) (dt_Qc D ad cA y.2.2.2 Φ) 0 0 (dt_A ad)
