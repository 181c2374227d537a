/-! THE Z LAYER: ints as whole numbers (qI z), one judgement qZ for a method's state, a row an instruction -/
def qI (z : Int) : Int32 := Int32.ofInt z
abbrev qR (z : Int) : Prop := -2147483648 ≤ z ∧ z < 2147483648
theorem qI_toInt {z : Int} (h : qR z) : (qI z).toInt = z := by
  unfold qI
  exact Int32.toInt_ofInt_of_le (by have := h.1; simpa using this) (by have := h.2; simpa using this)
theorem qI_of (x : Int32) : qI x.toInt = x := Int32.ofInt_toInt x
theorem qR_of (x : Int32) : qR x.toInt := ⟨Int32.le_toInt x, Int32.toInt_lt x⟩
theorem qI_inj {a b : Int} (ha : qR a) (hb : qR b) : qI a = qI b ↔ a = b := by
  constructor
  · intro h
    have h2 := congrArg Int32.toInt h
    rwa [qI_toInt ha, qI_toInt hb] at h2
  · intro h; rw [h]
theorem qI_lt {a b : Int} (ha : qR a) (hb : qR b) : qI a < qI b ↔ a < b := by
  rw [Int32.lt_iff_toInt_lt, qI_toInt ha, qI_toInt hb]
theorem qI_le {a b : Int} (ha : qR a) (hb : qR b) : qI a ≤ qI b ↔ a ≤ b := by
  rw [Int32.le_iff_toInt_le, qI_toInt ha, qI_toInt hb]
theorem qI_add (a b : Int) : qI a + qI b = qI (a + b) := (Int32.ofInt_add a b).symm
theorem qI_sub (a b : Int) : qI a - qI b = qI (a - b) := (Int32.ofInt_sub a b).symm
theorem qI_mul (a b : Int) : qI a * qI b = qI (a * b) := (Int32.ofInt_mul a b).symm
theorem qI_neg (a : Int) : -(qI a) = qI (-a) := (Int32.ofInt_neg a).symm
theorem qI_nat (n : Nat) : qI (n : Int) = Int32.ofNat n := by
  unfold qI
  first | exact Int32.ofInt_eq_ofNat | rfl | exact Int32.ofInt_natCast n | simp [Int32.ofInt_eq_ofNat]
theorem qI_clamp {z : Int} (h0 : 0 ≤ z) (h : z < 2147483648) : (qI z).toNatClampNeg = z.toNat := by
  show (qI z).toInt.toNat = _
  rw [qI_toInt ⟨by omega, h⟩]
theorem qI_in {z : Int} {n : Nat} (h : 0 ≤ z ∧ z < n) (hn : n < 2 ^ 31) : vp_in (qI z) n := by
  rw [vp_in_iff, qI_toInt ⟨by omega, by omega⟩]
  exact h
abbrev qP (a b : Int) : Prop := (0 ≤ a ∧ a < 2147483648) ∧ 0 < b ∧ b < 2147483648
theorem qI_ofI (z : Int) : Int32.ofInt z = qI z := rfl
theorem qI_div {a b : Int} (h : qP a b) : qI a / qI b = qI (a / b) := by
  have h1 : (qI a / qI b).toInt = (a / b : Int) := by
    rw [Int32.toInt_div_of_ne_left, qI_toInt ⟨by omega, by omega⟩, qI_toInt ⟨by omega, by omega⟩, Int.tdiv_eq_ediv_of_nonneg h.1.1]
    intro e
    have h2 := congrArg Int32.toInt e
    rw [qI_toInt ⟨by omega, by omega⟩] at h2
    have h3 : (Int32.minValue).toInt = -2147483648 := by decide
    omega
  have h2 : 0 ≤ a / b := Int.ediv_nonneg h.1.1 (by omega)
  have h3 : a / b ≤ a := Int.ediv_le_self _ h.1.1
  have h4 : (qI (a / b)).toInt = a / b := qI_toInt ⟨by omega, by omega⟩
  exact Int32.toInt_inj.mp (h1.trans h4.symm)
theorem qI_rem {a b : Int} (h : qP a b) : qI a - qI a / qI b * qI b = qI (a % b) := by
  rw [qI_div h, qI_mul, qI_sub]
  congr 1
  rw [Int.emod_def, Int.mul_comm]
theorem qI_ne0 {b : Int} (h : qR b) (h0 : b ≠ 0) : ¬ qI b = 0 := by
  intro e
  have h2 := congrArg Int32.toInt e
  rw [qI_toInt h] at h2
  exact h0 (by simpa using h2)
/-- contents -/
def qU (f : Nat → Int) (j : Nat) (x : Int) : Nat → Int := fun k => if k = j then x else f k
def qUL (f : Nat → Int64) (j : Nat) (x : Int64) : Nat → Int64 := fun k => if k = j then x else f k
theorem qU_upd (f : Nat → Int) (j : Nat) (x : Int) : upd (fun k => qI (f k)) j (qI x) = fun k => qI (qU f j x k) := by
  funext k
  unfold upd qU
  by_cases h : k = j <;> simp [h]
abbrev qA (cA : ClassId) (n : Nat) (f : Nat → Int) : va_E := .inl (cA, n, .inl (fun k => qI (f k)))
abbrev qL (cA : ClassId) (n : Nat) (f : Nat → Int64) : va_E := .inl (cA, n, .inr (.inl f))
abbrev qO (cA : ClassId) (n : Nat) (f : Nat → Option Nat) : va_E := .inl (cA, n, .inr (.inr (.inr (.inr f))))
abbrev qTY (E : Nat → ClassId) : List (ClassId × FieldType) := [(E 0, .int), (E 1, .long), (E 2, .boolean), (E 3, .char), (E 4, .object "PhosphorHush$State"), (E 5, .object "PhosphorHush$Screen")]
/-- the links between nest mates -/
def qNL : List (String × Nat × MethodName × String) := [(RX4, 22, yX0_init, RX4), (RX4, 29, yX3_init, RX4), (RX1, 41, yX4_isSpot, RX4), (RX1, 45, yX4_isPhosphor, RX4), (RX1, 64, yX4_bit, RX4), (RX1, 68, yX4_way, RX4), (RX1, 72, yX4_ticksAbove, RX4), (RX1, 86, yX4_glow, RX4), (RX2, 11, yX1_init, RX4), (RX3, 42, yX4_bit, RX4), (RX3, 57, yX4_way, RX4)]
def qN (U : State) : Prop := ∀ w ∈ qNL, va_Nw (.methodLinkNest w.1 w.2.1 w.2.2.1 w.2.2.2) U
theorem qN.warm {s U : State} (hW : s.WarmedH U.vm) (h : qN s) : qN U := fun w hw => va_Nw.warmM hW (h w hw)
theorem qN.same {s U : State} (hv : s.vm = U.vm) (h : qN s) : qN U := fun w hw => va_Nw.same rfl hv (h w hw)
def qK (D : va_G) (E : Nat → ClassId) (U : State) : Prop := va_K D vwCl (qTY E) U ∧ qN U
theorem qK.warm {D : va_G} {E : Nat → ClassId} {s U : State} (hW : s.WarmedH U.vm) (h : qK D E s) : qK D E U := ⟨va_K.moved hW.alike h.1, h.2.warm hW⟩
theorem qK.call {D : va_G} {E : Nat → ClassId} {U : State} {g : JFrame} {mk : MethodId} {a : Array Value} (h : qK D E U) : qK D E (U.calling g mk a) := ⟨va_K.moved (u := U) (U := U.calling g mk a) (Vm.Alike.refl U.vm) h.1, h.2.same rfl⟩
abbrev qFz : Type := (Nat → Prop) → State → Prop
/-- what a frozen fact must bear -/
def qFok (F : qFz) : Prop := (∀ (A : Nat → Prop) (U : State) (g : JFrame) (mk : MethodId) (a : Array Value), F A U → F A (U.calling g mk a)) ∧
  ∀ (A B : Nat → Prop) (s U : State), s.WarmedH U.vm → (∀ q : Nat, q < s.heap.size → ¬ A q → U.heap[q]? = s.heap[q]?) → (∀ q : Nat, q < s.heap.size → B q → A q) → F A s → F B U
def qF0 : qFz := fun _ _ => True
theorem qF0_ok : qFok qF0 := ⟨fun _ _ _ _ _ _ => trivial, fun _ _ _ _ _ _ _ _ => trivial⟩
abbrev qX : Type := (Program × Launch × Env × Room) × (State × MethodId × Array Value × List Frame × Method × Code) × (Nat × va_G × (Nat → ClassId) × Bool × (Nat → Prop) × va_W × qFz) × (State → Prop)
/-- the heap holds the world; a reading method leaves it as it was -/
def qG (ro : Bool) (D : va_G) (A : Nat → Prop) (s : State) (ws : va_W) (H : Heap) (locs : List Loc) : Prop := va_P D vwCl ws H ∧ va_S A s.heap H locs ∧ (ro = true → H = s.heap ∧ locs = []) ∧ (ro = false → va_D A ws)
def qZ (X : qX) (cells slots : Nat) (ws : va_W) (pc : Nat) (lv : List (Nat × Value)) (st : List Value) : Prop := match X with
  | ⟨⟨p, l, e, R⟩, ⟨s, m, args, below, meth, c⟩, ⟨nL, D, _, ro, A, pl, _⟩, Q⟩ => ∀ (ls : Array Slot) (H : Heap) (locs : List Loc), lv_has ls nL lv → qG ro D A s (ws ++ pl) H locs → W p l e R s m args below meth c H locs cells slots Q (F0 m pc ls st)
def qC (X : qX) (l : Launch) (D : va_G) (E : Nat → ClassId) (ro : Bool) (F : qFz) (cc : ByteArray) (own : String) (nL : Nat) (Ts : List Cond) (rm : Room) : Prop := match X with
  | ⟨⟨p, l', e, R⟩, ⟨s, m, args, below, meth, c⟩, ⟨nL', D', E', ro', A, pl, F'⟩, Q⟩ => (l' = l ∧ R = rm ∧ nL' = nL ∧ D' = D ∧ E' = E ∧ ro' = ro ∧ F' = F) ∧ p.tables.exec = Jvm.exec ∧ c.code = cc ∧ c.maxLocals = nL ∧ s.vm.findClass own = some m.cls ∧ (∀ w ∈ Ts, w.before args s = true) ∧ qK D E s ∧ F A s ∧ qFok F ∧ (ro = false → ∀ q, s.heap.size ≤ q → A q)

section QZ
variable {X : qX} {l : Launch} {D : va_G} {E : Nat → ClassId} {ro : Bool} {F : qFz} {cc : ByteArray} {own : String} {nL : Nat} {Ts : List Cond} {rm : Room} {cells slots : Nat} {ws : va_W} {pc : Nat} {lv : List (Nat × Value)} {st : List Value}

theorem z_iconst (C : qC X l D E ro F cc own nL Ts rm) {n : Int} (hdg : decode cc pc = .ok (.iconst n, 1)) (k : qZ X cells slots ws (pc + 1) lv (.int (qI n) :: st)) : qZ X cells slots ws pc lv st := by
  obtain ⟨⟨p, l', e, R⟩, ⟨s, m, args, below, meth, c⟩, ⟨nL', D', E', ro', A, pl, F'⟩, Q⟩ := X
  obtain ⟨⟨rfl, rfl, rfl, rfl, rfl, rfl, rfl⟩, hx, hb, -⟩ := C
  intro ls H locs hl hG
  exact lv_iconst hx hb hdg rfl (k ls H locs hl hG)

theorem z_bipush (C : qC X l D E ro F cc own nL Ts rm) {n : Int} (hv : (Int8.ofInt n).toInt32 = qI n) (hdg : decode cc pc = .ok (.bipush n, 2)) (k : qZ X cells slots ws (pc + 2) lv (.int (qI n) :: st)) : qZ X cells slots ws pc lv st := by
  obtain ⟨⟨p, l', e, R⟩, ⟨s, m, args, below, meth, c⟩, ⟨nL', D', E', ro', A, pl, F'⟩, Q⟩ := X
  obtain ⟨⟨rfl, rfl, rfl, rfl, rfl, rfl, rfl⟩, hx, hb, -⟩ := C
  intro ls H locs hl hG
  exact lv_bipush hx hb hdg hv (k ls H locs hl hG)

theorem z_sipush (C : qC X l D E ro F cc own nL Ts rm) {n : Int} (hv : (Int16.ofInt n).toInt32 = qI n) (hdg : decode cc pc = .ok (.sipush n, 3)) (k : qZ X cells slots ws (pc + 3) lv (.int (qI n) :: st)) : qZ X cells slots ws pc lv st := by
  obtain ⟨⟨p, l', e, R⟩, ⟨s, m, args, below, meth, c⟩, ⟨nL', D', E', ro', A, pl, F'⟩, Q⟩ := X
  obtain ⟨⟨rfl, rfl, rfl, rfl, rfl, rfl, rfl⟩, hx, hb, -⟩ := C
  intro ls H locs hl hG
  exact lv_sipush hx hb hdg hv (k ls H locs hl hG)

theorem z_ldc (C : qC X l D E ro F cc own nL Ts rm) {index : Nat} {v : Int} (hw : Cond.constant own index (qI v) ∈ Ts) (hdg : decode cc pc = .ok (.ldc index, 2)) (k : qZ X cells slots ws (pc + 2) lv (.int (qI v) :: st)) : qZ X cells slots ws pc lv st := by
  obtain ⟨⟨p, l', e, R⟩, ⟨s, m, args, below, meth, c⟩, ⟨nL', D', E', ro', A, pl, F'⟩, Q⟩ := X
  obtain ⟨⟨rfl, rfl, rfl, rfl, rfl, rfl, rfl⟩, hx, hb, hml, hown, hts, hK, hFz, hFo, hA⟩ := C
  intro ls H locs hl hG
  exact lv_ldc hx hb hown (hts _ hw) hdg (k ls H locs hl hG)
theorem z_ldc2 (C : qC X l D E ro F cc own nL Ts rm) {index : Nat} {v : Int64} (hw : Cond.constantLong own index v ∈ Ts) (hdg : decode cc pc = .ok (.ldc2_w index, 3)) (k : qZ X cells slots ws (pc + 3) lv (.long v :: st)) : qZ X cells slots ws pc lv st := by
  obtain ⟨⟨p, l', e, R⟩, ⟨s, m, args, below, meth, c⟩, ⟨nL', D', E', ro', A, pl, F'⟩, Q⟩ := X
  obtain ⟨⟨rfl, rfl, rfl, rfl, rfl, rfl, rfl⟩, hx, hb, hml, hown, hts, hK, hFz, hFo, hA⟩ := C
  intro ls H locs hl hG
  exact lv_ldc2 hx hb hown (hts _ hw) hdg (k ls H locs hl hG)

theorem z_lconst (C : qC X l D E ro F cc own nL Ts rm) {n : Fin 2} {v : Int64} (hv : Int64.ofNat (n : Nat) = v) (hdg : decode cc pc = .ok (.lconst n, 1)) (k : qZ X cells slots ws (pc + 1) lv (.long v :: st)) : qZ X cells slots ws pc lv st := by
  obtain ⟨⟨p, l', e, R⟩, ⟨s, m, args, below, meth, c⟩, ⟨nL', D', E', ro', A, pl, F'⟩, Q⟩ := X
  obtain ⟨⟨rfl, rfl, rfl, rfl, rfl, rfl, rfl⟩, hx, hb, -⟩ := C
  intro ls H locs hl hG
  exact lv_lconst hx hb hdg hv (k ls H locs hl hG)

theorem z_iload_n (C : qC X l D E ro F cc own nL Ts rm) {k9 : Fin 4} {i : Nat} {x : Int32} (q : Nat) (hq : lv[q]? = some (i, .int x)) (hi : (k9 : Nat) = i) (hdg : decode cc pc = .ok (.iload_n k9, 1)) (k : qZ X cells slots ws (pc + 1) lv (.int x :: st)) : qZ X cells slots ws pc lv st := by
  obtain ⟨⟨p, l', e, R⟩, ⟨s, m, args, below, meth, c⟩, ⟨nL', D', E', ro', A, pl, F'⟩, Q⟩ := X
  obtain ⟨⟨rfl, rfl, rfl, rfl, rfl, rfl, rfl⟩, hx, hb, -⟩ := C
  intro ls H locs hl hG
  exact lv_iload_n hx hb hdg hi (lv_at hl q hq) (k ls H locs hl hG)

theorem z_iload (C : qC X l D E ro F cc own nL Ts rm) {i : Nat} {x : Int32} (q : Nat) (hq : lv[q]? = some (i, .int x)) (hdg : decode cc pc = .ok (.iload i, 2)) (k : qZ X cells slots ws (pc + 2) lv (.int x :: st)) : qZ X cells slots ws pc lv st := by
  obtain ⟨⟨p, l', e, R⟩, ⟨s, m, args, below, meth, c⟩, ⟨nL', D', E', ro', A, pl, F'⟩, Q⟩ := X
  obtain ⟨⟨rfl, rfl, rfl, rfl, rfl, rfl, rfl⟩, hx, hb, -⟩ := C
  intro ls H locs hl hG
  exact lv_iload hx hb hdg (lv_at hl q hq) (k ls H locs hl hG)

theorem z_lload_n (C : qC X l D E ro F cc own nL Ts rm) {k9 : Fin 4} {i : Nat} {x : Int64} (q : Nat) (hq : lv[q]? = some (i, .long x)) (hi : (k9 : Nat) = i) (hdg : decode cc pc = .ok (.lload_n k9, 1)) (k : qZ X cells slots ws (pc + 1) lv (.long x :: st)) : qZ X cells slots ws pc lv st := by
  obtain ⟨⟨p, l', e, R⟩, ⟨s, m, args, below, meth, c⟩, ⟨nL', D', E', ro', A, pl, F'⟩, Q⟩ := X
  obtain ⟨⟨rfl, rfl, rfl, rfl, rfl, rfl, rfl⟩, hx, hb, -⟩ := C
  intro ls H locs hl hG
  exact lv_lload_n hx hb hdg hi (lv_at hl q hq) (k ls H locs hl hG)

theorem z_lload (C : qC X l D E ro F cc own nL Ts rm) {i : Nat} {x : Int64} (q : Nat) (hq : lv[q]? = some (i, .long x)) (hdg : decode cc pc = .ok (.lload i, 2)) (k : qZ X cells slots ws (pc + 2) lv (.long x :: st)) : qZ X cells slots ws pc lv st := by
  obtain ⟨⟨p, l', e, R⟩, ⟨s, m, args, below, meth, c⟩, ⟨nL', D', E', ro', A, pl, F'⟩, Q⟩ := X
  obtain ⟨⟨rfl, rfl, rfl, rfl, rfl, rfl, rfl⟩, hx, hb, -⟩ := C
  intro ls H locs hl hG
  exact lv_lload hx hb hdg (lv_at hl q hq) (k ls H locs hl hG)

theorem z_aload_n (C : qC X l D E ro F cc own nL Ts rm) {k9 : Fin 4} {i : Nat} {x : Nat} (q : Nat) (hq : lv[q]? = some (i, .ref x)) (hi : (k9 : Nat) = i) (hdg : decode cc pc = .ok (.aload_n k9, 1)) (k : qZ X cells slots ws (pc + 1) lv (.ref x :: st)) : qZ X cells slots ws pc lv st := by
  obtain ⟨⟨p, l', e, R⟩, ⟨s, m, args, below, meth, c⟩, ⟨nL', D', E', ro', A, pl, F'⟩, Q⟩ := X
  obtain ⟨⟨rfl, rfl, rfl, rfl, rfl, rfl, rfl⟩, hx, hb, -⟩ := C
  intro ls H locs hl hG
  exact lv_aload_n hx hb hdg hi (lv_at hl q hq) (k ls H locs hl hG)

theorem z_aload (C : qC X l D E ro F cc own nL Ts rm) {i : Nat} {x : Nat} (q : Nat) (hq : lv[q]? = some (i, .ref x)) (hdg : decode cc pc = .ok (.aload i, 2)) (k : qZ X cells slots ws (pc + 2) lv (.ref x :: st)) : qZ X cells slots ws pc lv st := by
  obtain ⟨⟨p, l', e, R⟩, ⟨s, m, args, below, meth, c⟩, ⟨nL', D', E', ro', A, pl, F'⟩, Q⟩ := X
  obtain ⟨⟨rfl, rfl, rfl, rfl, rfl, rfl, rfl⟩, hx, hb, -⟩ := C
  intro ls H locs hl hG
  exact lv_aload hx hb hdg (lv_at hl q hq) (k ls H locs hl hG)

theorem z_istore_n (C : qC X l D E ro F cc own nL Ts rm) {k9 : Fin 4} {i : Nat} {x : Int32} {lv' : List (Nat × Value)} (hi : (k9 : Nat) = i) (hn : i < nL) (hl9 : (i, Value.int x) :: lv.filter (fun q => !(q.1 == i) && !(q.1 + 1 == i && q.2.category == 2)) = lv') (hdg : decode cc pc = .ok (.istore_n k9, 1)) (k : qZ X cells slots ws (pc + 1) lv' st) : qZ X cells slots ws pc lv (.int x :: st) := by
  obtain ⟨⟨p, l', e, R⟩, ⟨s, m, args, below, meth, c⟩, ⟨nL', D', E', ro', A, pl, F'⟩, Q⟩ := X
  obtain ⟨⟨rfl, rfl, rfl, rfl, rfl, rfl, rfl⟩, hx, hb, -⟩ := C
  intro ls H locs hl hG
  exact lv_istore_n hx hb hdg hi hl hn hl9 (fun ls' hl' => k ls' H locs hl' hG)

theorem z_istore (C : qC X l D E ro F cc own nL Ts rm) {i : Nat} {x : Int32} {lv' : List (Nat × Value)} (hn : i < nL) (hl9 : (i, Value.int x) :: lv.filter (fun q => !(q.1 == i) && !(q.1 + 1 == i && q.2.category == 2)) = lv') (hdg : decode cc pc = .ok (.istore i, 2)) (k : qZ X cells slots ws (pc + 2) lv' st) : qZ X cells slots ws pc lv (.int x :: st) := by
  obtain ⟨⟨p, l', e, R⟩, ⟨s, m, args, below, meth, c⟩, ⟨nL', D', E', ro', A, pl, F'⟩, Q⟩ := X
  obtain ⟨⟨rfl, rfl, rfl, rfl, rfl, rfl, rfl⟩, hx, hb, -⟩ := C
  intro ls H locs hl hG
  exact lv_istore hx hb hdg hl hn hl9 (fun ls' hl' => k ls' H locs hl' hG)

theorem z_astore_n (C : qC X l D E ro F cc own nL Ts rm) {k9 : Fin 4} {i : Nat} {x : Nat} {lv' : List (Nat × Value)} (hi : (k9 : Nat) = i) (hn : i < nL) (hl9 : (i, Value.ref x) :: lv.filter (fun q => !(q.1 == i) && !(q.1 + 1 == i && q.2.category == 2)) = lv') (hdg : decode cc pc = .ok (.astore_n k9, 1)) (k : qZ X cells slots ws (pc + 1) lv' st) : qZ X cells slots ws pc lv (.ref x :: st) := by
  obtain ⟨⟨p, l', e, R⟩, ⟨s, m, args, below, meth, c⟩, ⟨nL', D', E', ro', A, pl, F'⟩, Q⟩ := X
  obtain ⟨⟨rfl, rfl, rfl, rfl, rfl, rfl, rfl⟩, hx, hb, -⟩ := C
  intro ls H locs hl hG
  exact lv_astore_n hx hb hdg hi hl hn hl9 (fun ls' hl' => k ls' H locs hl' hG)

theorem z_astore (C : qC X l D E ro F cc own nL Ts rm) {i : Nat} {x : Nat} {lv' : List (Nat × Value)} (hn : i < nL) (hl9 : (i, Value.ref x) :: lv.filter (fun q => !(q.1 == i) && !(q.1 + 1 == i && q.2.category == 2)) = lv') (hdg : decode cc pc = .ok (.astore i, 2)) (k : qZ X cells slots ws (pc + 2) lv' st) : qZ X cells slots ws pc lv (.ref x :: st) := by
  obtain ⟨⟨p, l', e, R⟩, ⟨s, m, args, below, meth, c⟩, ⟨nL', D', E', ro', A, pl, F'⟩, Q⟩ := X
  obtain ⟨⟨rfl, rfl, rfl, rfl, rfl, rfl, rfl⟩, hx, hb, -⟩ := C
  intro ls H locs hl hG
  exact lv_astore hx hb hdg hl hn hl9 (fun ls' hl' => k ls' H locs hl' hG)

theorem z_lstore_n (C : qC X l D E ro F cc own nL Ts rm) {k9 : Fin 4} {i : Nat} {x : Int64} {lv' : List (Nat × Value)} (hi : (k9 : Nat) = i) (hn : i + 1 < nL) (hl9 : (i, Value.long x) :: lv.filter (fun q => !(q.1 == i) && (!(q.1 == i + 1) && !(q.1 + 1 == i && q.2.category == 2))) = lv') (hdg : decode cc pc = .ok (.lstore_n k9, 1)) (k : qZ X cells slots ws (pc + 1) lv' st) : qZ X cells slots ws pc lv (.long x :: st) := by
  obtain ⟨⟨p, l', e, R⟩, ⟨s, m, args, below, meth, c⟩, ⟨nL', D', E', ro', A, pl, F'⟩, Q⟩ := X
  obtain ⟨⟨rfl, rfl, rfl, rfl, rfl, rfl, rfl⟩, hx, hb, -⟩ := C
  intro ls H locs hl hG
  exact lv_lstore_n hx hb hdg hi hl hn hl9 (fun ls' hl' => k ls' H locs hl' hG)

theorem z_lstore (C : qC X l D E ro F cc own nL Ts rm) {i : Nat} {x : Int64} {lv' : List (Nat × Value)} (hn : i + 1 < nL) (hl9 : (i, Value.long x) :: lv.filter (fun q => !(q.1 == i) && (!(q.1 == i + 1) && !(q.1 + 1 == i && q.2.category == 2))) = lv') (hdg : decode cc pc = .ok (.lstore i, 2)) (k : qZ X cells slots ws (pc + 2) lv' st) : qZ X cells slots ws pc lv (.long x :: st) := by
  obtain ⟨⟨p, l', e, R⟩, ⟨s, m, args, below, meth, c⟩, ⟨nL', D', E', ro', A, pl, F'⟩, Q⟩ := X
  obtain ⟨⟨rfl, rfl, rfl, rfl, rfl, rfl, rfl⟩, hx, hb, -⟩ := C
  intro ls H locs hl hG
  exact lv_lstore hx hb hdg hl hn hl9 (fun ls' hl' => k ls' H locs hl' hG)

theorem z_iinc (C : qC X l D E ro F cc own nL Ts rm) {i : Nat} {n : Int} {x : Int} {lv' : List (Nat × Value)} (q : Nat) (hq : lv[q]? = some (i, .int (qI x))) (hn : i < nL) (v : Int) (hv : v = x + n) (hl9 : (i, Value.int (qI v)) :: lv.filter (fun q => !(q.1 == i) && !(q.1 + 1 == i && q.2.category == 2)) = lv') (hdg : decode cc pc = .ok (.iinc i n, 3)) (k : qZ X cells slots ws (pc + 3) lv' st) : qZ X cells slots ws pc lv st := by
  obtain ⟨⟨p, l', e, R⟩, ⟨s, m, args, below, meth, c⟩, ⟨nL', D', E', ro', A, pl, F'⟩, Q⟩ := X
  obtain ⟨⟨rfl, rfl, rfl, rfl, rfl, rfl, rfl⟩, hx, hb, -⟩ := C
  intro ls H locs hl hG
  exact lv_iinc hx hb hdg hl hq (by rw [hv, qI_ofI, qI_add]) hn hl9 (fun ls' hl' => k ls' H locs hl' hG)

theorem z_iadd (C : qC X l D E ro F cc own nL Ts rm) {a b : Int} (hdg : decode cc pc = .ok (.iadd, 1)) (k : qZ X cells slots ws (pc + 1) lv (.int (qI (a + b)) :: st)) : qZ X cells slots ws pc lv (.int (qI b) :: .int (qI a) :: st) := by
  obtain ⟨⟨p, l', e, R⟩, ⟨s, m, args, below, meth, c⟩, ⟨nL', D', E', ro', A, pl, F'⟩, Q⟩ := X
  obtain ⟨⟨rfl, rfl, rfl, rfl, rfl, rfl, rfl⟩, hx, hb, -⟩ := C
  intro ls H locs hl hG
  exact lv_iadd hx hb hdg (by rw [qI_add]; exact k ls H locs hl hG)

theorem z_isub (C : qC X l D E ro F cc own nL Ts rm) {a b : Int} (hdg : decode cc pc = .ok (.isub, 1)) (k : qZ X cells slots ws (pc + 1) lv (.int (qI (a - b)) :: st)) : qZ X cells slots ws pc lv (.int (qI b) :: .int (qI a) :: st) := by
  obtain ⟨⟨p, l', e, R⟩, ⟨s, m, args, below, meth, c⟩, ⟨nL', D', E', ro', A, pl, F'⟩, Q⟩ := X
  obtain ⟨⟨rfl, rfl, rfl, rfl, rfl, rfl, rfl⟩, hx, hb, -⟩ := C
  intro ls H locs hl hG
  exact lv_isub hx hb hdg (by rw [qI_sub]; exact k ls H locs hl hG)

theorem z_imul (C : qC X l D E ro F cc own nL Ts rm) {a b : Int} (hdg : decode cc pc = .ok (.imul, 1)) (k : qZ X cells slots ws (pc + 1) lv (.int (qI (a * b)) :: st)) : qZ X cells slots ws pc lv (.int (qI b) :: .int (qI a) :: st) := by
  obtain ⟨⟨p, l', e, R⟩, ⟨s, m, args, below, meth, c⟩, ⟨nL', D', E', ro', A, pl, F'⟩, Q⟩ := X
  obtain ⟨⟨rfl, rfl, rfl, rfl, rfl, rfl, rfl⟩, hx, hb, -⟩ := C
  intro ls H locs hl hG
  exact lv_imul hx hb hdg (by rw [qI_mul]; exact k ls H locs hl hG)

theorem z_ineg (C : qC X l D E ro F cc own nL Ts rm) {a : Int} (hdg : decode cc pc = .ok (.ineg, 1)) (k : qZ X cells slots ws (pc + 1) lv (.int (qI (-a)) :: st)) : qZ X cells slots ws pc lv (.int (qI a) :: st) := by
  obtain ⟨⟨p, l', e, R⟩, ⟨s, m, args, below, meth, c⟩, ⟨nL', D', E', ro', A, pl, F'⟩, Q⟩ := X
  obtain ⟨⟨rfl, rfl, rfl, rfl, rfl, rfl, rfl⟩, hx, hb, -⟩ := C
  intro ls H locs hl hG
  exact lv_ineg hx hb hdg (by rw [qI_neg]; exact k ls H locs hl hG)

theorem z_idiv (C : qC X l D E ro F cc own nL Ts rm) {a b : Int} (h : qP a b) (hdg : decode cc pc = .ok (.idiv, 1)) (k : qZ X cells slots ws (pc + 1) lv (.int (qI (a / b)) :: st)) : qZ X cells slots ws pc lv (.int (qI b) :: .int (qI a) :: st) := by
  obtain ⟨⟨p, l', e, R⟩, ⟨s, m, args, below, meth, c⟩, ⟨nL', D', E', ro', A, pl, F'⟩, Q⟩ := X
  obtain ⟨⟨rfl, rfl, rfl, rfl, rfl, rfl, rfl⟩, hx, hb, -⟩ := C
  intro ls H locs hl hG
  exact lv_idiv hx hb hdg (qI_ne0 ⟨by omega, by omega⟩ (by omega)) (by rw [qI_div h]; exact k ls H locs hl hG)

theorem z_irem (C : qC X l D E ro F cc own nL Ts rm) {a b : Int} (h : qP a b) (hdg : decode cc pc = .ok (.irem, 1)) (k : qZ X cells slots ws (pc + 1) lv (.int (qI (a % b)) :: st)) : qZ X cells slots ws pc lv (.int (qI b) :: .int (qI a) :: st) := by
  obtain ⟨⟨p, l', e, R⟩, ⟨s, m, args, below, meth, c⟩, ⟨nL', D', E', ro', A, pl, F'⟩, Q⟩ := X
  obtain ⟨⟨rfl, rfl, rfl, rfl, rfl, rfl, rfl⟩, hx, hb, -⟩ := C
  intro ls H locs hl hG
  exact lv_irem hx hb hdg (qI_ne0 ⟨by omega, by omega⟩ (by omega)) (by rw [qI_rem h]; exact k ls H locs hl hG)

/-- ints by their bits -/
def qand (a b : Int) : Int := (qI a &&& qI b).toInt
def qor (a b : Int) : Int := (qI a ||| qI b).toInt
def qxor (a b : Int) : Int := (qI a ^^^ qI b).toInt
def qshl (a b : Int) : Int := (qI a <<< (qI b &&& 31)).toInt
def qshr (a b : Int) : Int := (qI a >>> (qI b &&& 31)).toInt

theorem z_iand (C : qC X l D E ro F cc own nL Ts rm) {a b : Int} (hdg : decode cc pc = .ok (.iand, 1)) (k : qZ X cells slots ws (pc + 1) lv (.int (qI (qand a b)) :: st)) : qZ X cells slots ws pc lv (.int (qI b) :: .int (qI a) :: st) := by
  obtain ⟨⟨p, l', e, R⟩, ⟨s, m, args, below, meth, c⟩, ⟨nL', D', E', ro', A, pl, F'⟩, Q⟩ := X
  obtain ⟨⟨rfl, rfl, rfl, rfl, rfl, rfl, rfl⟩, hx, hb, -⟩ := C
  intro ls H locs hl hG
  exact lv_iand hx hb hdg (by have h := k ls H locs hl hG; unfold qand at h; rw [qI_of] at h; exact h)

theorem z_ior (C : qC X l D E ro F cc own nL Ts rm) {a b : Int} (hdg : decode cc pc = .ok (.ior, 1)) (k : qZ X cells slots ws (pc + 1) lv (.int (qI (qor a b)) :: st)) : qZ X cells slots ws pc lv (.int (qI b) :: .int (qI a) :: st) := by
  obtain ⟨⟨p, l', e, R⟩, ⟨s, m, args, below, meth, c⟩, ⟨nL', D', E', ro', A, pl, F'⟩, Q⟩ := X
  obtain ⟨⟨rfl, rfl, rfl, rfl, rfl, rfl, rfl⟩, hx, hb, -⟩ := C
  intro ls H locs hl hG
  exact lv_ior hx hb hdg (by have h := k ls H locs hl hG; unfold qor at h; rw [qI_of] at h; exact h)

theorem z_ixor (C : qC X l D E ro F cc own nL Ts rm) {a b : Int} (hdg : decode cc pc = .ok (.ixor, 1)) (k : qZ X cells slots ws (pc + 1) lv (.int (qI (qxor a b)) :: st)) : qZ X cells slots ws pc lv (.int (qI b) :: .int (qI a) :: st) := by
  obtain ⟨⟨p, l', e, R⟩, ⟨s, m, args, below, meth, c⟩, ⟨nL', D', E', ro', A, pl, F'⟩, Q⟩ := X
  obtain ⟨⟨rfl, rfl, rfl, rfl, rfl, rfl, rfl⟩, hx, hb, -⟩ := C
  intro ls H locs hl hG
  exact lv_ixor hx hb hdg (by have h := k ls H locs hl hG; unfold qxor at h; rw [qI_of] at h; exact h)

theorem z_ishl (C : qC X l D E ro F cc own nL Ts rm) {a b : Int} (hdg : decode cc pc = .ok (.ishl, 1)) (k : qZ X cells slots ws (pc + 1) lv (.int (qI (qshl a b)) :: st)) : qZ X cells slots ws pc lv (.int (qI b) :: .int (qI a) :: st) := by
  obtain ⟨⟨p, l', e, R⟩, ⟨s, m, args, below, meth, c⟩, ⟨nL', D', E', ro', A, pl, F'⟩, Q⟩ := X
  obtain ⟨⟨rfl, rfl, rfl, rfl, rfl, rfl, rfl⟩, hx, hb, -⟩ := C
  intro ls H locs hl hG
  exact lv_ishl hx hb hdg (by have h := k ls H locs hl hG; unfold qshl at h; rw [qI_of] at h; exact h)

theorem z_ishr (C : qC X l D E ro F cc own nL Ts rm) {a b : Int} (hdg : decode cc pc = .ok (.ishr, 1)) (k : qZ X cells slots ws (pc + 1) lv (.int (qI (qshr a b)) :: st)) : qZ X cells slots ws pc lv (.int (qI b) :: .int (qI a) :: st) := by
  obtain ⟨⟨p, l', e, R⟩, ⟨s, m, args, below, meth, c⟩, ⟨nL', D', E', ro', A, pl, F'⟩, Q⟩ := X
  obtain ⟨⟨rfl, rfl, rfl, rfl, rfl, rfl, rfl⟩, hx, hb, -⟩ := C
  intro ls H locs hl hG
  exact lv_ishr hx hb hdg (by have h := k ls H locs hl hG; unfold qshr at h; rw [qI_of] at h; exact h)

theorem z_ladd (C : qC X l D E ro F cc own nL Ts rm) {a b : Int64} (hdg : decode cc pc = .ok (.ladd, 1)) (k : qZ X cells slots ws (pc + 1) lv (.long (a + b) :: st)) : qZ X cells slots ws pc lv (.long b :: .long a :: st) := by
  obtain ⟨⟨p, l', e, R⟩, ⟨s, m, args, below, meth, c⟩, ⟨nL', D', E', ro', A, pl, F'⟩, Q⟩ := X
  obtain ⟨⟨rfl, rfl, rfl, rfl, rfl, rfl, rfl⟩, hx, hb, -⟩ := C
  intro ls H locs hl hG
  exact lv_ladd hx hb hdg (k ls H locs hl hG)

theorem z_lsub (C : qC X l D E ro F cc own nL Ts rm) {a b : Int64} (hdg : decode cc pc = .ok (.lsub, 1)) (k : qZ X cells slots ws (pc + 1) lv (.long (a - b) :: st)) : qZ X cells slots ws pc lv (.long b :: .long a :: st) := by
  obtain ⟨⟨p, l', e, R⟩, ⟨s, m, args, below, meth, c⟩, ⟨nL', D', E', ro', A, pl, F'⟩, Q⟩ := X
  obtain ⟨⟨rfl, rfl, rfl, rfl, rfl, rfl, rfl⟩, hx, hb, -⟩ := C
  intro ls H locs hl hG
  exact lv_lsub hx hb hdg (k ls H locs hl hG)

theorem z_lmul (C : qC X l D E ro F cc own nL Ts rm) {a b : Int64} (hdg : decode cc pc = .ok (.lmul, 1)) (k : qZ X cells slots ws (pc + 1) lv (.long (a * b) :: st)) : qZ X cells slots ws pc lv (.long b :: .long a :: st) := by
  obtain ⟨⟨p, l', e, R⟩, ⟨s, m, args, below, meth, c⟩, ⟨nL', D', E', ro', A, pl, F'⟩, Q⟩ := X
  obtain ⟨⟨rfl, rfl, rfl, rfl, rfl, rfl, rfl⟩, hx, hb, -⟩ := C
  intro ls H locs hl hG
  exact lv_lmul hx hb hdg (k ls H locs hl hG)

theorem z_land (C : qC X l D E ro F cc own nL Ts rm) {a b : Int64} (hdg : decode cc pc = .ok (.land, 1)) (k : qZ X cells slots ws (pc + 1) lv (.long (a &&& b) :: st)) : qZ X cells slots ws pc lv (.long b :: .long a :: st) := by
  obtain ⟨⟨p, l', e, R⟩, ⟨s, m, args, below, meth, c⟩, ⟨nL', D', E', ro', A, pl, F'⟩, Q⟩ := X
  obtain ⟨⟨rfl, rfl, rfl, rfl, rfl, rfl, rfl⟩, hx, hb, -⟩ := C
  intro ls H locs hl hG
  exact lv_land hx hb hdg (k ls H locs hl hG)

theorem z_lor (C : qC X l D E ro F cc own nL Ts rm) {a b : Int64} (hdg : decode cc pc = .ok (.lor, 1)) (k : qZ X cells slots ws (pc + 1) lv (.long (a ||| b) :: st)) : qZ X cells slots ws pc lv (.long b :: .long a :: st) := by
  obtain ⟨⟨p, l', e, R⟩, ⟨s, m, args, below, meth, c⟩, ⟨nL', D', E', ro', A, pl, F'⟩, Q⟩ := X
  obtain ⟨⟨rfl, rfl, rfl, rfl, rfl, rfl, rfl⟩, hx, hb, -⟩ := C
  intro ls H locs hl hG
  exact lv_lor hx hb hdg (k ls H locs hl hG)

theorem z_lxor (C : qC X l D E ro F cc own nL Ts rm) {a b : Int64} (hdg : decode cc pc = .ok (.lxor, 1)) (k : qZ X cells slots ws (pc + 1) lv (.long (a ^^^ b) :: st)) : qZ X cells slots ws pc lv (.long b :: .long a :: st) := by
  obtain ⟨⟨p, l', e, R⟩, ⟨s, m, args, below, meth, c⟩, ⟨nL', D', E', ro', A, pl, F'⟩, Q⟩ := X
  obtain ⟨⟨rfl, rfl, rfl, rfl, rfl, rfl, rfl⟩, hx, hb, -⟩ := C
  intro ls H locs hl hG
  exact lv_lxor hx hb hdg (k ls H locs hl hG)

theorem z_lushr (C : qC X l D E ro F cc own nL Ts rm) {a : Int64} {b : Int} (hdg : decode cc pc = .ok (.lushr, 1)) (k : qZ X cells slots ws (pc + 1) lv (.long (a.toUInt64 >>> ((qI b).toInt64.toUInt64 &&& Int64.toUInt64 63)).toInt64 :: st)) : qZ X cells slots ws pc lv (.int (qI b) :: .long a :: st) := by
  obtain ⟨⟨p, l', e, R⟩, ⟨s, m, args, below, meth, c⟩, ⟨nL', D', E', ro', A, pl, F'⟩, Q⟩ := X
  obtain ⟨⟨rfl, rfl, rfl, rfl, rfl, rfl, rfl⟩, hx, hb, -⟩ := C
  intro ls H locs hl hG
  exact lv_lushr hx hb hdg rfl (k ls H locs hl hG)

theorem z_lshl (C : qC X l D E ro F cc own nL Ts rm) {a : Int64} {b : Int} (hdg : decode cc pc = .ok (.lshl, 1)) (k : qZ X cells slots ws (pc + 1) lv (.long (a <<< ((qI b).toInt64 &&& 63)) :: st)) : qZ X cells slots ws pc lv (.int (qI b) :: .long a :: st) := by
  obtain ⟨⟨p, l', e, R⟩, ⟨s, m, args, below, meth, c⟩, ⟨nL', D', E', ro', A, pl, F'⟩, Q⟩ := X
  obtain ⟨⟨rfl, rfl, rfl, rfl, rfl, rfl, rfl⟩, hx, hb, -⟩ := C
  intro ls H locs hl hG
  exact lv_lshl hx hb hdg rfl (k ls H locs hl hG)

theorem z_i2l (C : qC X l D E ro F cc own nL Ts rm) {a : Int} (hdg : decode cc pc = .ok (.i2l, 1)) (k : qZ X cells slots ws (pc + 1) lv (.long (qI a).toInt64 :: st)) : qZ X cells slots ws pc lv (.int (qI a) :: st) := by
  obtain ⟨⟨p, l', e, R⟩, ⟨s, m, args, below, meth, c⟩, ⟨nL', D', E', ro', A, pl, F'⟩, Q⟩ := X
  obtain ⟨⟨rfl, rfl, rfl, rfl, rfl, rfl, rfl⟩, hx, hb, -⟩ := C
  intro ls H locs hl hG
  exact lv_i2l hx hb hdg rfl (k ls H locs hl hG)

theorem z_l2i (C : qC X l D E ro F cc own nL Ts rm) {a : Int64} (hdg : decode cc pc = .ok (.l2i, 1)) (k : qZ X cells slots ws (pc + 1) lv (.int (qI a.toInt32.toInt) :: st)) : qZ X cells slots ws pc lv (.long a :: st) := by
  obtain ⟨⟨p, l', e, R⟩, ⟨s, m, args, below, meth, c⟩, ⟨nL', D', E', ro', A, pl, F'⟩, Q⟩ := X
  obtain ⟨⟨rfl, rfl, rfl, rfl, rfl, rfl, rfl⟩, hx, hb, -⟩ := C
  intro ls H locs hl hG
  exact lv_l2i hx hb hdg rfl (by have h := k ls H locs hl hG; rw [qI_of] at h; exact h)

theorem z_i2c (C : qC X l D E ro F cc own nL Ts rm) {a : Int} (h0 : 0 ≤ a ∧ a < 65536) (hdg : decode cc pc = .ok (.i2c, 1)) (k : qZ X cells slots ws (pc + 1) lv (.int (qI a) :: st)) : qZ X cells slots ws pc lv (.int (qI a) :: st) := by
  obtain ⟨⟨p, l', e, R⟩, ⟨s, m, args, below, meth, c⟩, ⟨nL', D', E', ro', A, pl, F'⟩, Q⟩ := X
  obtain ⟨⟨rfl, rfl, rfl, rfl, rfl, rfl, rfl⟩, hx, hb, -⟩ := C
  intro ls H locs hl hG
  refine lv_i2c hx hb hdg ?_ (k ls H locs hl hG)
  obtain ⟨n, rfl⟩ := Int.eq_ofNat_of_zero_le h0.1
  rw [qI_nat, show Int32.ofNat n = nI n from rfl, pk_char, pk_tn (by omega), Nat.mod_eq_of_lt (by omega)]

theorem z_dup (C : qC X l D E ro F cc own nL Ts rm) {v : Value} (hc : v.category = 1) (hdg : decode cc pc = .ok (.dup, 1)) (k : qZ X cells slots ws (pc + 1) lv (v :: v :: st)) : qZ X cells slots ws pc lv (v :: st) := by
  obtain ⟨⟨p, l', e, R⟩, ⟨s, m, args, below, meth, c⟩, ⟨nL', D', E', ro', A, pl, F'⟩, Q⟩ := X
  obtain ⟨⟨rfl, rfl, rfl, rfl, rfl, rfl, rfl⟩, hx, hb, -⟩ := C
  intro ls H locs hl hG
  exact lv_dup hx hb hdg hc (k ls H locs hl hG)

theorem z_pop (C : qC X l D E ro F cc own nL Ts rm) {v : Value} (hc : v.category = 1) (hdg : decode cc pc = .ok (.pop, 1)) (k : qZ X cells slots ws (pc + 1) lv st) : qZ X cells slots ws pc lv (v :: st) := by
  obtain ⟨⟨p, l', e, R⟩, ⟨s, m, args, below, meth, c⟩, ⟨nL', D', E', ro', A, pl, F'⟩, Q⟩ := X
  obtain ⟨⟨rfl, rfl, rfl, rfl, rfl, rfl, rfl⟩, hx, hb, -⟩ := C
  intro ls H locs hl hG
  exact lv_pop hx hb hdg hc (k ls H locs hl hG)

theorem z_dup2 (C : qC X l D E ro F cc own nL Ts rm) {v u : Value} (hc : v.category = 1) (hc2 : u.category = 1) (hdg : decode cc pc = .ok (.dup2, 1)) (k : qZ X cells slots ws (pc + 1) lv (v :: u :: v :: u :: st)) : qZ X cells slots ws pc lv (v :: u :: st) := by
  obtain ⟨⟨p, l', e, R⟩, ⟨s, m, args, below, meth, c⟩, ⟨nL', D', E', ro', A, pl, F'⟩, Q⟩ := X
  obtain ⟨⟨rfl, rfl, rfl, rfl, rfl, rfl, rfl⟩, hx, hb, -⟩ := C
  intro ls H locs hl hG
  exact lv_dup2_11 hx hb hdg hc hc2 (k ls H locs hl hG)

theorem z_name {e9 : Int} (k : ∀ v : Int, v = e9 → qZ X cells slots ws pc lv (.int (qI v) :: st)) : qZ X cells slots ws pc lv (.int (qI e9) :: st) := k e9 rfl
theorem z_nameL {e9 : Int64} (k : ∀ v : Int64, v = e9 → qZ X cells slots ws pc lv (.long v :: st)) : qZ X cells slots ws pc lv (.long e9 :: st) := k e9 rfl
theorem z_ws {ws' : va_W} (h : ws = ws') (k : qZ X cells slots ws' pc lv st) : qZ X cells slots ws pc lv st := by rw [h]; exact k
theorem z_lv {ps : List Nat} {lv' : List (Nat × Value)} (h : lv_pick lv ps = lv') (k : qZ X cells slots ws pc lv' st) : qZ X cells slots ws pc lv st := by
  obtain ⟨⟨p, l', e, R⟩, ⟨s, m, args, below, meth, c⟩, ⟨nL', D', E', ro', A, pl, F'⟩, Q⟩ := X
  intro ls H locs hl hG
  exact k ls H locs (lv_sub hl ps h) hG
theorem z_lst {ps : List Nat} {lv' : List (Nat × Value)} {st' : List Value} (h : lv_pick lv ps = lv') (h2 : st = st') (k : qZ X cells slots ws pc lv' st') : qZ X cells slots ws pc lv st := by
  rw [h2]; exact z_lv h k

theorem z_icmp_eq (C : qC X l D E ro F cc own nL Ts rm) {a b : Int} {off : Int} {tgt : Nat} (h : qR a ∧ qR b) (ht : (pc : Int) + off = (tgt : Int)) (hdg : decode cc pc = .ok (.if_icmp .eq off, 3)) (kt : a = b → qZ X cells slots ws tgt lv st) (kf : ¬ (a = b) → qZ X cells slots ws (pc + 3) lv st) : qZ X cells slots ws pc lv (.int (qI b) :: .int (qI a) :: st) := by
  obtain ⟨⟨p, l', e, R⟩, ⟨s, m, args, below, meth, c⟩, ⟨nL', D', E', ro', A, pl, F'⟩, Q⟩ := X
  obtain ⟨⟨rfl, rfl, rfl, rfl, rfl, rfl, rfl⟩, hx, hb, -⟩ := C
  intro ls H locs hl hG
  have hi := (qI_inj h.1 h.2)
  refine lv_icmp_eq hx hb hdg ht (fun h9 => ?_) (fun h9 => ?_)
  · exact kt (by first | exact hi.mp h9 | (rw [ge_iff_le] at h9; exact hi.mp h9) | (intro z; exact h9 (by rw [z]))) ls H locs hl hG
  · exact kf (fun z => (by first | exact h9 (hi.mpr z) | exact z ((qI_inj h.1 h.2).mp h9))) ls H locs hl hG
theorem z_if_eq (C : qC X l D E ro F cc own nL Ts rm) {a : Int} {off : Int} {tgt : Nat} (h : qR a) (ht : (pc : Int) + off = (tgt : Int)) (hdg : decode cc pc = .ok (.ifCond .eq off, 3)) (kt : a = 0 → qZ X cells slots ws tgt lv st) (kf : ¬ (a = 0) → qZ X cells slots ws (pc + 3) lv st) : qZ X cells slots ws pc lv (.int (qI a) :: st) := by
  obtain ⟨⟨p, l', e, R⟩, ⟨s, m, args, below, meth, c⟩, ⟨nL', D', E', ro', A, pl, F'⟩, Q⟩ := X
  obtain ⟨⟨rfl, rfl, rfl, rfl, rfl, rfl, rfl⟩, hx, hb, -⟩ := C
  intro ls H locs hl hG
  have h : qR a ∧ qR 0 := ⟨h, by decide⟩
  have h0 : qI 0 = 0 := by decide
  have hi := (qI_inj h.1 h.2)
  rw [h0] at hi
  refine lv_if_eq hx hb hdg ht (fun h9 => ?_) (fun h9 => ?_)
  · exact kt (by first | exact hi.mp h9 | (rw [ge_iff_le] at h9; exact hi.mp h9) | (intro z; exact h9 (by rw [z]; exact h0))) ls H locs hl hG
  · exact kf (fun z => (by first | exact h9 (hi.mpr z) | exact z ((qI_inj h.1 h.2).mp (h9.trans h0.symm)))) ls H locs hl hG

theorem z_icmp_ne (C : qC X l D E ro F cc own nL Ts rm) {a b : Int} {off : Int} {tgt : Nat} (h : qR a ∧ qR b) (ht : (pc : Int) + off = (tgt : Int)) (hdg : decode cc pc = .ok (.if_icmp .ne off, 3)) (kt : ¬ a = b → qZ X cells slots ws tgt lv st) (kf : ¬ (¬ a = b) → qZ X cells slots ws (pc + 3) lv st) : qZ X cells slots ws pc lv (.int (qI b) :: .int (qI a) :: st) := by
  obtain ⟨⟨p, l', e, R⟩, ⟨s, m, args, below, meth, c⟩, ⟨nL', D', E', ro', A, pl, F'⟩, Q⟩ := X
  obtain ⟨⟨rfl, rfl, rfl, rfl, rfl, rfl, rfl⟩, hx, hb, -⟩ := C
  intro ls H locs hl hG
  have hi := (not_congr (qI_inj h.1 h.2))
  refine lv_icmp_ne hx hb hdg ht (fun h9 => ?_) (fun h9 => ?_)
  · exact kt (by first | exact hi.mp h9 | (rw [ge_iff_le] at h9; exact hi.mp h9) | (intro z; exact h9 (by rw [z]))) ls H locs hl hG
  · exact kf (fun z => (by first | exact h9 (hi.mpr z) | exact z ((qI_inj h.1 h.2).mp h9))) ls H locs hl hG
theorem z_if_ne (C : qC X l D E ro F cc own nL Ts rm) {a : Int} {off : Int} {tgt : Nat} (h : qR a) (ht : (pc : Int) + off = (tgt : Int)) (hdg : decode cc pc = .ok (.ifCond .ne off, 3)) (kt : ¬ a = 0 → qZ X cells slots ws tgt lv st) (kf : ¬ (¬ a = 0) → qZ X cells slots ws (pc + 3) lv st) : qZ X cells slots ws pc lv (.int (qI a) :: st) := by
  obtain ⟨⟨p, l', e, R⟩, ⟨s, m, args, below, meth, c⟩, ⟨nL', D', E', ro', A, pl, F'⟩, Q⟩ := X
  obtain ⟨⟨rfl, rfl, rfl, rfl, rfl, rfl, rfl⟩, hx, hb, -⟩ := C
  intro ls H locs hl hG
  have h : qR a ∧ qR 0 := ⟨h, by decide⟩
  have h0 : qI 0 = 0 := by decide
  have hi := (not_congr (qI_inj h.1 h.2))
  rw [h0] at hi
  refine lv_if_ne hx hb hdg ht (fun h9 => ?_) (fun h9 => ?_)
  · exact kt (by first | exact hi.mp h9 | (rw [ge_iff_le] at h9; exact hi.mp h9) | (intro z; exact h9 (by rw [z]; exact h0))) ls H locs hl hG
  · exact kf (fun z => (by first | exact h9 (hi.mpr z) | exact z ((qI_inj h.1 h.2).mp (h9.trans h0.symm)))) ls H locs hl hG

theorem z_icmp_lt (C : qC X l D E ro F cc own nL Ts rm) {a b : Int} {off : Int} {tgt : Nat} (h : qR a ∧ qR b) (ht : (pc : Int) + off = (tgt : Int)) (hdg : decode cc pc = .ok (.if_icmp .lt off, 3)) (kt : a < b → qZ X cells slots ws tgt lv st) (kf : ¬ (a < b) → qZ X cells slots ws (pc + 3) lv st) : qZ X cells slots ws pc lv (.int (qI b) :: .int (qI a) :: st) := by
  obtain ⟨⟨p, l', e, R⟩, ⟨s, m, args, below, meth, c⟩, ⟨nL', D', E', ro', A, pl, F'⟩, Q⟩ := X
  obtain ⟨⟨rfl, rfl, rfl, rfl, rfl, rfl, rfl⟩, hx, hb, -⟩ := C
  intro ls H locs hl hG
  have hi := (qI_lt h.1 h.2)
  refine lv_icmp_lt hx hb hdg ht (fun h9 => ?_) (fun h9 => ?_)
  · exact kt (by first | exact hi.mp h9 | (rw [ge_iff_le] at h9; exact hi.mp h9) | (intro z; exact h9 (by rw [z]))) ls H locs hl hG
  · exact kf (fun z => (by first | exact h9 (hi.mpr z) | exact z ((qI_inj h.1 h.2).mp h9))) ls H locs hl hG
theorem z_if_lt (C : qC X l D E ro F cc own nL Ts rm) {a : Int} {off : Int} {tgt : Nat} (h : qR a) (ht : (pc : Int) + off = (tgt : Int)) (hdg : decode cc pc = .ok (.ifCond .lt off, 3)) (kt : a < 0 → qZ X cells slots ws tgt lv st) (kf : ¬ (a < 0) → qZ X cells slots ws (pc + 3) lv st) : qZ X cells slots ws pc lv (.int (qI a) :: st) := by
  obtain ⟨⟨p, l', e, R⟩, ⟨s, m, args, below, meth, c⟩, ⟨nL', D', E', ro', A, pl, F'⟩, Q⟩ := X
  obtain ⟨⟨rfl, rfl, rfl, rfl, rfl, rfl, rfl⟩, hx, hb, -⟩ := C
  intro ls H locs hl hG
  have h : qR a ∧ qR 0 := ⟨h, by decide⟩
  have h0 : qI 0 = 0 := by decide
  have hi := (qI_lt h.1 h.2)
  rw [h0] at hi
  refine lv_if_lt hx hb hdg ht (fun h9 => ?_) (fun h9 => ?_)
  · exact kt (by first | exact hi.mp h9 | (rw [ge_iff_le] at h9; exact hi.mp h9) | (intro z; exact h9 (by rw [z]; exact h0))) ls H locs hl hG
  · exact kf (fun z => (by first | exact h9 (hi.mpr z) | exact z ((qI_inj h.1 h.2).mp (h9.trans h0.symm)))) ls H locs hl hG

theorem z_icmp_ge (C : qC X l D E ro F cc own nL Ts rm) {a b : Int} {off : Int} {tgt : Nat} (h : qR a ∧ qR b) (ht : (pc : Int) + off = (tgt : Int)) (hdg : decode cc pc = .ok (.if_icmp .ge off, 3)) (kt : b ≤ a → qZ X cells slots ws tgt lv st) (kf : ¬ (b ≤ a) → qZ X cells slots ws (pc + 3) lv st) : qZ X cells slots ws pc lv (.int (qI b) :: .int (qI a) :: st) := by
  obtain ⟨⟨p, l', e, R⟩, ⟨s, m, args, below, meth, c⟩, ⟨nL', D', E', ro', A, pl, F'⟩, Q⟩ := X
  obtain ⟨⟨rfl, rfl, rfl, rfl, rfl, rfl, rfl⟩, hx, hb, -⟩ := C
  intro ls H locs hl hG
  have hi := (qI_le h.2 h.1)
  refine lv_icmp_ge hx hb hdg ht (fun h9 => ?_) (fun h9 => ?_)
  · exact kt (by first | exact hi.mp h9 | (rw [ge_iff_le] at h9; exact hi.mp h9) | (intro z; exact h9 (by rw [z]))) ls H locs hl hG
  · exact kf (fun z => (by first | exact h9 (hi.mpr z) | exact z ((qI_inj h.1 h.2).mp h9))) ls H locs hl hG
theorem z_if_ge (C : qC X l D E ro F cc own nL Ts rm) {a : Int} {off : Int} {tgt : Nat} (h : qR a) (ht : (pc : Int) + off = (tgt : Int)) (hdg : decode cc pc = .ok (.ifCond .ge off, 3)) (kt : 0 ≤ a → qZ X cells slots ws tgt lv st) (kf : ¬ (0 ≤ a) → qZ X cells slots ws (pc + 3) lv st) : qZ X cells slots ws pc lv (.int (qI a) :: st) := by
  obtain ⟨⟨p, l', e, R⟩, ⟨s, m, args, below, meth, c⟩, ⟨nL', D', E', ro', A, pl, F'⟩, Q⟩ := X
  obtain ⟨⟨rfl, rfl, rfl, rfl, rfl, rfl, rfl⟩, hx, hb, -⟩ := C
  intro ls H locs hl hG
  have h : qR a ∧ qR 0 := ⟨h, by decide⟩
  have h0 : qI 0 = 0 := by decide
  have hi := (qI_le h.2 h.1)
  rw [h0] at hi
  refine lv_if_ge hx hb hdg ht (fun h9 => ?_) (fun h9 => ?_)
  · exact kt (by first | exact hi.mp h9 | (rw [ge_iff_le] at h9; exact hi.mp h9) | (intro z; exact h9 (by rw [z]; exact h0))) ls H locs hl hG
  · exact kf (fun z => (by first | exact h9 (hi.mpr z) | exact z ((qI_inj h.1 h.2).mp (h9.trans h0.symm)))) ls H locs hl hG

theorem z_icmp_gt (C : qC X l D E ro F cc own nL Ts rm) {a b : Int} {off : Int} {tgt : Nat} (h : qR a ∧ qR b) (ht : (pc : Int) + off = (tgt : Int)) (hdg : decode cc pc = .ok (.if_icmp .gt off, 3)) (kt : b < a → qZ X cells slots ws tgt lv st) (kf : ¬ (b < a) → qZ X cells slots ws (pc + 3) lv st) : qZ X cells slots ws pc lv (.int (qI b) :: .int (qI a) :: st) := by
  obtain ⟨⟨p, l', e, R⟩, ⟨s, m, args, below, meth, c⟩, ⟨nL', D', E', ro', A, pl, F'⟩, Q⟩ := X
  obtain ⟨⟨rfl, rfl, rfl, rfl, rfl, rfl, rfl⟩, hx, hb, -⟩ := C
  intro ls H locs hl hG
  have hi := (qI_lt h.2 h.1)
  refine lv_icmp_gt hx hb hdg ht (fun h9 => ?_) (fun h9 => ?_)
  · exact kt (by first | exact hi.mp h9 | (rw [ge_iff_le] at h9; exact hi.mp h9) | (intro z; exact h9 (by rw [z]))) ls H locs hl hG
  · exact kf (fun z => (by first | exact h9 (hi.mpr z) | exact z ((qI_inj h.1 h.2).mp h9))) ls H locs hl hG
theorem z_if_gt (C : qC X l D E ro F cc own nL Ts rm) {a : Int} {off : Int} {tgt : Nat} (h : qR a) (ht : (pc : Int) + off = (tgt : Int)) (hdg : decode cc pc = .ok (.ifCond .gt off, 3)) (kt : 0 < a → qZ X cells slots ws tgt lv st) (kf : ¬ (0 < a) → qZ X cells slots ws (pc + 3) lv st) : qZ X cells slots ws pc lv (.int (qI a) :: st) := by
  obtain ⟨⟨p, l', e, R⟩, ⟨s, m, args, below, meth, c⟩, ⟨nL', D', E', ro', A, pl, F'⟩, Q⟩ := X
  obtain ⟨⟨rfl, rfl, rfl, rfl, rfl, rfl, rfl⟩, hx, hb, -⟩ := C
  intro ls H locs hl hG
  have h : qR a ∧ qR 0 := ⟨h, by decide⟩
  have h0 : qI 0 = 0 := by decide
  have hi := (qI_lt h.2 h.1)
  rw [h0] at hi
  refine lv_if_gt hx hb hdg ht (fun h9 => ?_) (fun h9 => ?_)
  · exact kt (by first | exact hi.mp h9 | (rw [ge_iff_le] at h9; exact hi.mp h9) | (intro z; exact h9 (by rw [z]; exact h0))) ls H locs hl hG
  · exact kf (fun z => (by first | exact h9 (hi.mpr z) | exact z ((qI_inj h.1 h.2).mp (h9.trans h0.symm)))) ls H locs hl hG

theorem z_icmp_le (C : qC X l D E ro F cc own nL Ts rm) {a b : Int} {off : Int} {tgt : Nat} (h : qR a ∧ qR b) (ht : (pc : Int) + off = (tgt : Int)) (hdg : decode cc pc = .ok (.if_icmp .le off, 3)) (kt : a ≤ b → qZ X cells slots ws tgt lv st) (kf : ¬ (a ≤ b) → qZ X cells slots ws (pc + 3) lv st) : qZ X cells slots ws pc lv (.int (qI b) :: .int (qI a) :: st) := by
  obtain ⟨⟨p, l', e, R⟩, ⟨s, m, args, below, meth, c⟩, ⟨nL', D', E', ro', A, pl, F'⟩, Q⟩ := X
  obtain ⟨⟨rfl, rfl, rfl, rfl, rfl, rfl, rfl⟩, hx, hb, -⟩ := C
  intro ls H locs hl hG
  have hi := (qI_le h.1 h.2)
  refine lv_icmp_le hx hb hdg ht (fun h9 => ?_) (fun h9 => ?_)
  · exact kt (by first | exact hi.mp h9 | (rw [ge_iff_le] at h9; exact hi.mp h9) | (intro z; exact h9 (by rw [z]))) ls H locs hl hG
  · exact kf (fun z => (by first | exact h9 (hi.mpr z) | exact z ((qI_inj h.1 h.2).mp h9))) ls H locs hl hG
theorem z_if_le (C : qC X l D E ro F cc own nL Ts rm) {a : Int} {off : Int} {tgt : Nat} (h : qR a) (ht : (pc : Int) + off = (tgt : Int)) (hdg : decode cc pc = .ok (.ifCond .le off, 3)) (kt : a ≤ 0 → qZ X cells slots ws tgt lv st) (kf : ¬ (a ≤ 0) → qZ X cells slots ws (pc + 3) lv st) : qZ X cells slots ws pc lv (.int (qI a) :: st) := by
  obtain ⟨⟨p, l', e, R⟩, ⟨s, m, args, below, meth, c⟩, ⟨nL', D', E', ro', A, pl, F'⟩, Q⟩ := X
  obtain ⟨⟨rfl, rfl, rfl, rfl, rfl, rfl, rfl⟩, hx, hb, -⟩ := C
  intro ls H locs hl hG
  have h : qR a ∧ qR 0 := ⟨h, by decide⟩
  have h0 : qI 0 = 0 := by decide
  have hi := (qI_le h.1 h.2)
  rw [h0] at hi
  refine lv_if_le hx hb hdg ht (fun h9 => ?_) (fun h9 => ?_)
  · exact kt (by first | exact hi.mp h9 | (rw [ge_iff_le] at h9; exact hi.mp h9) | (intro z; exact h9 (by rw [z]; exact h0))) ls H locs hl hG
  · exact kf (fun z => (by first | exact h9 (hi.mpr z) | exact z ((qI_inj h.1 h.2).mp (h9.trans h0.symm)))) ls H locs hl hG

theorem z_goto (C : qC X l D E ro F cc own nL Ts rm) {off : Int} {tgt : Nat} (ht : (pc : Int) + off = (tgt : Int)) (hdg : decode cc pc = .ok (.goto off, 3)) (k : qZ X cells slots ws tgt lv st) : qZ X cells slots ws pc lv st := by
  obtain ⟨⟨p, l', e, R⟩, ⟨s, m, args, below, meth, c⟩, ⟨nL', D', E', ro', A, pl, F'⟩, Q⟩ := X
  obtain ⟨⟨rfl, rfl, rfl, rfl, rfl, rfl, rfl⟩, hx, hb, -⟩ := C
  intro ls H locs hl hG
  exact lv_goto hx hb hdg ht (k ls H locs hl hG)
theorem z_swOut (C : qC X l D E ro F cc own nL Ts rm) {a : Int} {dflt lo hi : Int} {offs : Array Int} {len tgt : Nat} (hR : qR a) (h : a < lo ∨ hi < a) (ht : (pc : Int) + dflt = (tgt : Int)) (hdg : decode cc pc = .ok (.tableswitch dflt lo hi offs, len)) (k : qZ X cells slots ws tgt lv st) : qZ X cells slots ws pc lv (.int (qI a) :: st) := by
  obtain ⟨⟨p, l', e, R⟩, ⟨s, m, args, below, meth, c⟩, ⟨nL', D', E', ro', A, pl, F'⟩, Q⟩ := X
  obtain ⟨⟨rfl, rfl, rfl, rfl, rfl, rfl, rfl⟩, hx, hb, -⟩ := C
  intro ls H locs hl hG
  exact lv_tableOut hx hb hdg (by rw [qI_toInt hR]; exact h) ht (k ls H locs hl hG)
theorem z_swIn (C : qC X l D E ro F cc own nL Ts rm) {a : Int} {dflt lo hi off : Int} {offs : Array Int} {len tgt : Nat} (hR : qR a) (h1 : ¬ a < lo) (h2 : ¬ hi < a) (ho : offs[(a - lo).toNat]? = some off) (ht : (pc : Int) + off = (tgt : Int)) (hdg : decode cc pc = .ok (.tableswitch dflt lo hi offs, len)) (k : qZ X cells slots ws tgt lv st) : qZ X cells slots ws pc lv (.int (qI a) :: st) := by
  obtain ⟨⟨p, l', e, R⟩, ⟨s, m, args, below, meth, c⟩, ⟨nL', D', E', ro', A, pl, F'⟩, Q⟩ := X
  obtain ⟨⟨rfl, rfl, rfl, rfl, rfl, rfl, rfl⟩, hx, hb, -⟩ := C
  intro ls H locs hl hG
  exact lv_tableIn hx hb hdg (by rw [qI_toInt hR]; exact h1) (by rw [qI_toInt hR]; exact h2) (by rw [qI_toInt hR]; exact ho) ht (k ls H locs hl hG)
theorem z_lookup (C : qC X l D E ro F cc own nL Ts rm) {a : Int} {dflt off : Int} {ps : Array (Int × Int)} {len tgt : Nat} (hR : qR a) (hp : (ps.toList.zip (ps.toList.drop 1)).all (fun (a, next) => a.1 < next.1) = true) (ho : Op.lookupswitch.offset ps.toList dflt a = off) (ht : (pc : Int) + off = (tgt : Int)) (hdg : decode cc pc = .ok (.lookupswitch dflt ps, len)) (k : qZ X cells slots ws tgt lv st) : qZ X cells slots ws pc lv (.int (qI a) :: st) := by
  obtain ⟨⟨p, l', e, R⟩, ⟨s, m, args, below, meth, c⟩, ⟨nL', D', E', ro', A, pl, F'⟩, Q⟩ := X
  obtain ⟨⟨rfl, rfl, rfl, rfl, rfl, rfl, rfl⟩, hx, hb, -⟩ := C
  intro ls H locs hl hG
  exact lv_lookup hx hb hdg hp (by rw [qI_toInt hR]; exact ho) ht (k ls H locs hl hG)

theorem qG_at {ro : Bool} {D : va_G} {A : Nat → Prop} {s : State} {ws pl : va_W} {q0 : Nat} {x : Nat × va_E} (h : ws[q0]? = some x) : (ws ++ pl)[q0]? = some x := by
  rw [List.getElem?_append_left (List.getElem?_eq_some_iff.mp h).1]; exact h
theorem qat {ws pl : va_W} {q0 : Nat} {x : Nat × va_E} (h : ws[q0]? = some x) : (ws ++ pl)[q0]? = some x := by
  rw [List.getElem?_append_left (List.getElem?_eq_some_iff.mp h).1]; exact h
theorem qset {ws pl : va_W} {q0 : Nat} {x y : Nat × va_E} (h : ws[q0]? = some x) : (ws ++ pl).set q0 y = ws.set q0 y ++ pl := by
  rw [List.set_append_left _ _ (List.getElem?_eq_some_iff.mp h).1]
theorem z_get (C : qC X l D E ro F cc own nL Ts rm) {ref C9 : String} {T : u_T} {N ci index a : Nat} (hin : ∀ w ∈ u_ws C9 T N, w ∈ Ts) (q0 : Nat) {fs : List Value} (he : ws[q0]? = some (a, .inr (ci, fs))) (hc : vwCl[ci]? = some (C9, T, N)) (k0 : Nat) (hk : k0 < N) (hlink : Cond.fieldLink own index ref (T k0).2.1 (T k0).2.2.1 ∈ Ts) (hsame : (T k0).1 = ref) {v : Value} (hv : fs[k0]? = some v) (hdg : decode cc pc = .ok (.getfield index, 3)) (k : qZ X cells slots ws (pc + 3) lv (v :: st)) : qZ X cells slots ws pc lv (.ref a :: st) := by
  obtain ⟨⟨p, l', e, R⟩, ⟨s, m, args, below, meth, c⟩, ⟨nL', D', E', ro', A, pl, F'⟩, Q⟩ := X
  obtain ⟨⟨rfl, rfl, rfl, rfl, rfl, rfl, rfl⟩, hx, hb, hml, hown, hts, hK, hFz, hFo, hA⟩ := C
  intro ls H locs hl hG
  exact va_get hx hb hts hin hown hK.1 hG.1 q0 (qat he) hc k0 hk (hts _ hlink) (fun x h => by rw [← hsame]; exact h) hv hdg (k ls H locs hl hG)
theorem z_iald (C : qC X l D E ro F cc own nL Ts rm) {a : Nat} {n : Nat} {f : Nat → Int} (q0 : Nat) (he : ws[q0]? = some (a, qA (E 0) n f)) (hn : n < 2 ^ 31) {i : Int} (hi : 0 ≤ i ∧ i < n) (hdg : decode cc pc = .ok (.iaload, 1)) (k : qZ X cells slots ws (pc + 1) lv (.int (qI (f i.toNat)) :: st)) : qZ X cells slots ws pc lv (.int (qI i) :: .ref a :: st) := by
  obtain ⟨⟨p, l', e, R⟩, ⟨s, m, args, below, meth, c⟩, ⟨nL', D', E', ro', A, pl, F'⟩, Q⟩ := X
  obtain ⟨⟨rfl, rfl, rfl, rfl, rfl, rfl, rfl⟩, hx, hb, hml, hown, hts, hK, hFz, hFo, hA⟩ := C
  intro ls H locs hl hG
  refine va_iald hx hb hK.1 hG.1 q0 0 (qat he) rfl (qI_in hi hn) hdg ?_
  rw [qI_clamp hi.1 (by omega)]
  exact k ls H locs hl hG
theorem z_zald (C : qC X l D E ro F cc own nL Ts rm) {a : Nat} {n : Nat} {f : Nat → Int} (q0 : Nat) (he : ws[q0]? = some (a, qA (E 2) n f)) (hn : n < 2 ^ 31) {i : Int} (hi : 0 ≤ i ∧ i < n) (hdg : decode cc pc = .ok (.baload, 1)) (k : qZ X cells slots ws (pc + 1) lv (.int (qI (f i.toNat)) :: st)) : qZ X cells slots ws pc lv (.int (qI i) :: .ref a :: st) := by
  obtain ⟨⟨p, l', e, R⟩, ⟨s, m, args, below, meth, c⟩, ⟨nL', D', E', ro', A, pl, F'⟩, Q⟩ := X
  obtain ⟨⟨rfl, rfl, rfl, rfl, rfl, rfl, rfl⟩, hx, hb, hml, hown, hts, hK, hFz, hFo, hA⟩ := C
  intro ls H locs hl hG
  refine va_zald hx hb hK.1 hG.1 q0 2 (qat he) rfl (qI_in hi hn) hdg ?_
  rw [qI_clamp hi.1 (by omega)]
  exact k ls H locs hl hG
theorem z_cald (C : qC X l D E ro F cc own nL Ts rm) {a : Nat} {n : Nat} {f : Nat → Int} (q0 : Nat) (he : ws[q0]? = some (a, qA (E 3) n f)) (hn : n < 2 ^ 31) {i : Int} (hi : 0 ≤ i ∧ i < n) (hdg : decode cc pc = .ok (.caload, 1)) (k : qZ X cells slots ws (pc + 1) lv (.int (qI (f i.toNat)) :: st)) : qZ X cells slots ws pc lv (.int (qI i) :: .ref a :: st) := by
  obtain ⟨⟨p, l', e, R⟩, ⟨s, m, args, below, meth, c⟩, ⟨nL', D', E', ro', A, pl, F'⟩, Q⟩ := X
  obtain ⟨⟨rfl, rfl, rfl, rfl, rfl, rfl, rfl⟩, hx, hb, hml, hown, hts, hK, hFz, hFo, hA⟩ := C
  intro ls H locs hl hG
  refine va_cald hx hb hK.1 hG.1 q0 3 (qat he) rfl (qI_in hi hn) hdg ?_
  rw [qI_clamp hi.1 (by omega)]
  exact k ls H locs hl hG
theorem z_lald (C : qC X l D E ro F cc own nL Ts rm) {a : Nat} {n : Nat} {f : Nat → Int64} (q0 : Nat) (he : ws[q0]? = some (a, qL (E 1) n f)) (hn : n < 2 ^ 31) {i : Int} (hi : 0 ≤ i ∧ i < n) (hdg : decode cc pc = .ok (.laload, 1)) (k : qZ X cells slots ws (pc + 1) lv (.long (f i.toNat) :: st)) : qZ X cells slots ws pc lv (.int (qI i) :: .ref a :: st) := by
  obtain ⟨⟨p, l', e, R⟩, ⟨s, m, args, below, meth, c⟩, ⟨nL', D', E', ro', A, pl, F'⟩, Q⟩ := X
  obtain ⟨⟨rfl, rfl, rfl, rfl, rfl, rfl, rfl⟩, hx, hb, hml, hown, hts, hK, hFz, hFo, hA⟩ := C
  intro ls H locs hl hG
  refine va_lald hx hb hK.1 hG.1 q0 1 (qat he) rfl (qI_in hi hn) hdg ?_
  rw [qI_clamp hi.1 (by omega)]
  exact k ls H locs hl hG
theorem z_aald (C : qC X l D E ro F cc own nL Ts rm) {a : Nat} {n t0 : Nat} {cA : ClassId} {C9 : String} {f : Nat → Option Nat} (q0 : Nat) (he : ws[q0]? = some (a, qO cA n f)) (ht : (qTY E)[t0]? = some (cA, .object C9)) (hn : n < 2 ^ 31) {i : Int} (hi : 0 ≤ i ∧ i < n) {b : Nat} (hb9 : f i.toNat = some b) (hdg : decode cc pc = .ok (.aaload, 1)) (k : qZ X cells slots ws (pc + 1) lv (.ref b :: st)) : qZ X cells slots ws pc lv (.int (qI i) :: .ref a :: st) := by
  obtain ⟨⟨p, l', e, R⟩, ⟨s, m, args, below, meth, c⟩, ⟨nL', D', E', ro', A, pl, F'⟩, Q⟩ := X
  obtain ⟨⟨rfl, rfl, rfl, rfl, rfl, rfl, rfl⟩, hx, hb, hml, hown, hts, hK, hFz, hFo, hA⟩ := C
  intro ls H locs hl hG
  refine va_aldq hx hb hK.1 hG.1 q0 t0 (qat he) ht (qI_in hi hn) hdg ?_
  rw [qI_clamp hi.1 (by omega), hb9]
  exact k ls H locs hl hG
theorem z_alen (C : qC X l D E ro F cc own nL Ts rm) {a : Nat} {cA : ClassId} {x : vp_A} {t0 : Nat} {ty : FieldType} (q0 : Nat) (he : ws[q0]? = some (a, .inl (cA, x))) (ht : (qTY E)[t0]? = some (cA, ty)) {v : Int} (hv : (x.1 : Int) = v) (hdg : decode cc pc = .ok (.arraylength, 1)) (k : qZ X cells slots ws (pc + 1) lv (.int (qI v) :: st)) : qZ X cells slots ws pc lv (.ref a :: st) := by
  obtain ⟨⟨p, l', e, R⟩, ⟨s, m, args, below, meth, c⟩, ⟨nL', D', E', ro', A, pl, F'⟩, Q⟩ := X
  obtain ⟨⟨rfl, rfl, rfl, rfl, rfl, rfl, rfl⟩, hx, hb, hml, hown, hts, hK, hFz, hFo, hA⟩ := C
  intro ls H locs hl hG
  refine va_alen hx hb hK.1 hG.1 q0 t0 (qat he) ht (by rw [← hv, qI_nat]) hdg (k ls H locs hl hG)

theorem z_put (C : qC X l D E false F cc own nL Ts rm) {ref C9 : String} {T : u_T} {N ci index a : Nat} (hin : ∀ w ∈ u_ws C9 T N, w ∈ Ts) (ty0 : Nat → FieldType) (hty : ∀ k, k < N → parseFieldDescriptor (T k).2.2.1 = some (ty0 k)) (hnm : ∀ a, a < N → ∀ b, b < N → a ≠ b → (T a).2.1 ≠ (T b).2.1) (q0 : Nat) {fs : List Value} (he : ws[q0]? = some (a, .inr (ci, fs))) (hc : vwCl[ci]? = some (C9, T, N)) (k0 : Nat) (hk : k0 < N) (hlink : Cond.fieldLink own index ref (T k0).2.1 (T k0).2.2.1 ∈ Ts) (hsame : (T k0).1 = ref) (hfin : (T k0).2.2.2 = false) {ty : FieldType} {v : Value} (hd : parseFieldDescriptor (T k0).2.2.1 = some ty) (hn : narrow ty v = v) (hfit : fits ty v = true) (hl9 : k0 < fs.length) {ws' : va_W} (hw : ws.set q0 (a, .inr (ci, fs.set k0 v)) = ws') (hdg : decode cc pc = .ok (.putfield index, 3)) (k : qZ X cells slots ws' (pc + 3) lv st) : qZ X cells slots ws pc lv (v :: .ref a :: st) := by
  obtain ⟨⟨p, l', e, R⟩, ⟨s, m, args, below, meth, c⟩, ⟨nL', D', E', ro', A, pl, F'⟩, Q⟩ := X
  obtain ⟨⟨rfl, rfl, rfl, rfl, rfl, rfl, rfl⟩, hx, hb, hml, hown, hts, hK, hFz, hFo, hA⟩ := C
  intro ls H locs hl hG
  refine va_put hx hb hts hin ty0 hty hnm hown hK.1 hG.1 (hG.2.2.2 rfl) hG.2.1 q0 (qat he) hc k0 hk (hts _ hlink) (fun x h => by rw [← hsame]; exact h) hfin hd hn hfit hl9 hdg (fun H1 locs1 hP1 hD1 hS1 => ?_)
  rw [qset he, hw] at hP1 hD1
  exact k ls H1 locs1 hl ⟨hP1, hS1, fun h => (by cases h), fun _ => hD1⟩
theorem z_iast (C : qC X l D E false F cc own nL Ts rm) {a : Nat} {n : Nat} {f : Nat → Int} (q0 : Nat) (he : ws[q0]? = some (a, qA (E 0) n f)) (hn : n < 2 ^ 31) {i x : Int} (hi : 0 ≤ i ∧ i < n) (W' : (Nat → Int) → va_W) (hw : ∀ g, ws.set q0 (a, qA (E 0) n g) = W' g) (hdg : decode cc pc = .ok (.iastore, 1)) (k : ∀ g : Nat → Int, g = qU f i.toNat x → qZ X cells slots (W' g) (pc + 1) lv st) : qZ X cells slots ws pc lv (.int (qI x) :: .int (qI i) :: .ref a :: st) := by
  obtain ⟨⟨p, l', e, R⟩, ⟨s, m, args, below, meth, c⟩, ⟨nL', D', E', ro', A, pl, F'⟩, Q⟩ := X
  obtain ⟨⟨rfl, rfl, rfl, rfl, rfl, rfl, rfl⟩, hx, hb, hml, hown, hts, hK, hFz, hFo, hA⟩ := C
  intro ls H locs hl hG
  refine va_iast hx hb hK.1 hG.1 (hG.2.2.2 rfl) hG.2.1 q0 0 (qat he) rfl (qI_in hi hn) hdg (fun H1 locs1 hP1 hD1 hS1 => ?_)
  rw [qI_clamp hi.1 (by omega), qU_upd, qset he] at hP1 hD1
  rw [hw (qU f i.toNat x)] at hP1 hD1
  exact k _ rfl ls H1 locs1 hl ⟨hP1, hS1, fun h => (by cases h), fun _ => hD1⟩
theorem z_zast (C : qC X l D E false F cc own nL Ts rm) {a : Nat} {n : Nat} {f : Nat → Int} (q0 : Nat) (he : ws[q0]? = some (a, qA (E 2) n f)) (hn : n < 2 ^ 31) {i x : Int} (hi : 0 ≤ i ∧ i < n) (hx9 : x = 0 ∨ x = 1) (W' : (Nat → Int) → va_W) (hw : ∀ g, ws.set q0 (a, qA (E 2) n g) = W' g) (hdg : decode cc pc = .ok (.bastore, 1)) (k : ∀ g : Nat → Int, g = qU f i.toNat x → qZ X cells slots (W' g) (pc + 1) lv st) : qZ X cells slots ws pc lv (.int (qI x) :: .int (qI i) :: .ref a :: st) := by
  obtain ⟨⟨p, l', e, R⟩, ⟨s, m, args, below, meth, c⟩, ⟨nL', D', E', ro', A, pl, F'⟩, Q⟩ := X
  obtain ⟨⟨rfl, rfl, rfl, rfl, rfl, rfl, rfl⟩, hx, hb, hml, hown, hts, hK, hFz, hFo, hA⟩ := C
  intro ls H locs hl hG
  have e : vp_nar .boolean (qI x) = qI x := by rcases hx9 with rfl | rfl <;> decide
  refine va_zast hx hb hK.1 hG.1 (hG.2.2.2 rfl) hG.2.1 q0 2 (qat he) rfl (qI_in hi hn) hdg (fun H1 locs1 hP1 hD1 hS1 => ?_)
  rw [e, qI_clamp hi.1 (by omega), qU_upd, qset he] at hP1 hD1
  rw [hw (qU f i.toNat x)] at hP1 hD1
  exact k _ rfl ls H1 locs1 hl ⟨hP1, hS1, fun h => (by cases h), fun _ => hD1⟩
theorem z_cast (C : qC X l D E false F cc own nL Ts rm) {a : Nat} {n : Nat} {f : Nat → Int} (q0 : Nat) (he : ws[q0]? = some (a, qA (E 3) n f)) (hn : n < 2 ^ 31) {i x : Int} (hi : 0 ≤ i ∧ i < n) (hx9 : 0 ≤ x ∧ x < 65536) (W' : (Nat → Int) → va_W) (hw : ∀ g, ws.set q0 (a, qA (E 3) n g) = W' g) (hdg : decode cc pc = .ok (.castore, 1)) (k : ∀ g : Nat → Int, g = qU f i.toNat x → qZ X cells slots (W' g) (pc + 1) lv st) : qZ X cells slots ws pc lv (.int (qI x) :: .int (qI i) :: .ref a :: st) := by
  obtain ⟨⟨p, l', e, R⟩, ⟨s, m, args, below, meth, c⟩, ⟨nL', D', E', ro', A, pl, F'⟩, Q⟩ := X
  obtain ⟨⟨rfl, rfl, rfl, rfl, rfl, rfl, rfl⟩, hx, hb, hml, hown, hts, hK, hFz, hFo, hA⟩ := C
  intro ls H locs hl hG
  have e : vp_nar .char (qI x) = qI x := by
    obtain ⟨n9, rfl⟩ := Int.eq_ofNat_of_zero_le hx9.1
    have h9 := (pk_charN (q := n9) (by omega)).1
    rw [qI_nat]
    unfold vp_nar
    rw [show Int32.ofNat n9 = nI n9 from rfl, h9]
  refine va_cast hx hb hK.1 hG.1 (hG.2.2.2 rfl) hG.2.1 q0 3 (qat he) rfl (qI_in hi hn) hdg (fun H1 locs1 hP1 hD1 hS1 => ?_)
  rw [e, qI_clamp hi.1 (by omega), qU_upd, qset he] at hP1 hD1
  rw [hw (qU f i.toNat x)] at hP1 hD1
  exact k _ rfl ls H1 locs1 hl ⟨hP1, hS1, fun h => (by cases h), fun _ => hD1⟩
theorem z_last (C : qC X l D E false F cc own nL Ts rm) {a : Nat} {n : Nat} {f : Nat → Int64} (q0 : Nat) (he : ws[q0]? = some (a, qL (E 1) n f)) (hn : n < 2 ^ 31) {i : Int} {x : Int64} (hi : 0 ≤ i ∧ i < n) (W' : (Nat → Int64) → va_W) (hw : ∀ g, ws.set q0 (a, qL (E 1) n g) = W' g) (hdg : decode cc pc = .ok (.lastore, 1)) (k : ∀ g : Nat → Int64, g = qUL f i.toNat x → qZ X cells slots (W' g) (pc + 1) lv st) : qZ X cells slots ws pc lv (.long x :: .int (qI i) :: .ref a :: st) := by
  obtain ⟨⟨p, l', e, R⟩, ⟨s, m, args, below, meth, c⟩, ⟨nL', D', E', ro', A, pl, F'⟩, Q⟩ := X
  obtain ⟨⟨rfl, rfl, rfl, rfl, rfl, rfl, rfl⟩, hx, hb, hml, hown, hts, hK, hFz, hFo, hA⟩ := C
  intro ls H locs hl hG
  refine va_last hx hb hK.1 hG.1 (hG.2.2.2 rfl) hG.2.1 q0 1 (qat he) rfl (qI_in hi hn) hdg (fun H1 locs1 hP1 hD1 hS1 => ?_)
  rw [qI_clamp hi.1 (by omega), show vp_updL f i.toNat x = qUL f i.toNat x from rfl, qset he] at hP1 hD1
  rw [hw (qUL f i.toNat x)] at hP1 hD1
  exact k _ rfl ls H1 locs1 hl ⟨hP1, hS1, fun h => (by cases h), fun _ => hD1⟩

def qTwo (x y : Nat) : Nat → Option Nat := fun k => if k = 0 then some x else some y
theorem qTwo_0 {x y : Nat} {i : Int} (h : i = 0) : qTwo x y i.toNat = some x := by rw [h]; rfl
theorem qTwo_1 {x y : Nat} {i : Int} (h : 0 ≤ i ∧ i < 2) (h0 : ¬ i = 0) : qTwo x y i.toNat = some y := by
  unfold qTwo
  rw [if_neg (by omega)]

end QZ
