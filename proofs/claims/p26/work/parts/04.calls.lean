/-! CONTRACTS: reading methods (qRO: the heap stays), writing methods (qRW); how a walk gives one; rows for calls -/
def qRO (l : Launch) (D : va_G) (E : Nat → ClassId) (F : qFz) (y : MethodName) (wsy : List Cond) (fr lo : Nat) (wc : va_W) (av : List Value) {ρ : Type} (em : ρ → Option Value) (Φ : ρ → Prop) : Prop :=
  Met l y wsy { frames := fr, cells := 0, slots := 0, locals := lo } (va_Pc av (fun U => va_P D vwCl wc U.heap ∧ qK D E U ∧ F (fun _ => False) U)) (fun _ s o t => (∃ r, o = .returned (em r) ∧ Φ r) ∧ t.heap = s.heap) 0 0 (fun _ => False)
def qRW (l : Launch) (D : va_G) (E : Nat → ClassId) (F : qFz) (y : MethodName) (wsy : List Cond) (fr lo : Nat) (wc : va_W) (av : List Value) {ρ σ : Type} (em : ρ → Option Value) (W' : σ → va_W) (Φ : ρ → σ → Prop) : Prop :=
  ∀ sz : Nat, Met l y wsy { frames := fr, cells := 0, slots := 0, locals := lo } (va_Pc av (fun U => U.heap.size = sz ∧ va_P D vwCl wc U.heap ∧ qK D E U ∧ va_D (fun _ => True) wc ∧ F (va_A wc sz) U)) (fun _ s o t => (∃ r u, o = .returned (em r) ∧ Φ r u ∧ va_P D vwCl (W' u) t.heap ∧ qK D E t ∧ va_D (va_A wc sz) (W' u)) ∧ va_F (va_A wc sz) s t) 0 0 (va_A wc sz)
abbrev qeI : Int → Option Value := fun z => some (.int (qI z))
abbrev qeL : Int64 → Option Value := fun z => some (.long z)
abbrev qeV : Unit → Option Value := fun _ => none
abbrev qeR : Nat → Option Value := fun q => some (.ref q)
section QOF
variable {l : Launch} {D : va_G} {E : Nat → ClassId} {F : qFz} {y : MethodName} {wsy ws' : List Cond} {fr lo nL : Nat} {wc : va_W} {av : List Value} {cc : ByteArray} {own : String}

theorem qRO_int {Φ : Int → Prop} (hF : qFok F) (hy : plainName y.cls = true) (hw : wsy = Cond.code y cc nL (some .int) :: ws') (hc : y.cls = own) (hn : (lg_sl av).length ≤ nL)
    (body : ∀ X : qX, qC X l D E true F cc own nL wsy { frames := fr, cells := 0, slots := 0, locals := lo } → (∀ (pc : Nat) (lv : List (Nat × Value)) (r : Int), decode cc pc = .ok (.ireturn, 1) → Φ r → qZ X 0 0 wc pc lv [.int (qI r)]) → qZ X 0 0 wc 0 (lv_args 0 av) []) : qRO l D E F y wsy fr lo wc av qeI Φ := by
  refine Met.ofW (cc := cc) (maxL := nL) (ret := some .int) hy hw ?_
  intro p e s m args below meth c s₁ B hml hv
  obtain ⟨rfl, hP, hK, hFz⟩ := hv
  have hts := atoms_spec (ws := wsy) B.pre
  have hown : s.vm.findClass own = some m.cls := by rw [← hc]; exact findClass_of_methodNamed B.named
  have hlocks := B.notSynchronized
  have hx := B.exec
  have hb := B.bytes
  have hr := B.returns
  have hl := lv_entry av (n := nL) hn
  rw [lg_entry_eq]
  have hZ := body ⟨⟨p, l, e, (headSpec wsy { frames := fr, cells := 0, slots := 0, locals := lo }).room⟩, ⟨s, m, av.toArray, below, meth, c⟩, ⟨nL, D, E, true, fun _ => False, [], F⟩, MQ below (fun _ s o t => (∃ r, o = .returned (qeI r) ∧ Φ r) ∧ t.heap = s.heap) av.toArray s 0 0 (fun _ => False)⟩
    ⟨⟨rfl, rfl, rfl, rfl, rfl, rfl, rfl⟩, B.exec, B.bytes, hml, hown, hts, hK, hFz, hF, fun h => by cases h⟩ ?_
  · exact hZ _ s.heap [] hl ⟨by rw [List.append_nil]; exact hP, va_S.rf, fun _ => ⟨rfl, rfl⟩, fun h => by cases h⟩
  · intro pc lv r hd hφ ls H locs hl hG
    obtain ⟨e1, e2⟩ := hG.2.2.1 rfl
    subst e2
    exact W.iret hx hb hr (fun t ht hW => ⟨⟨r, rfl, hφ⟩, ht.trans e1⟩) (fun q h => by cases h) hd hlocks
theorem qRW_int {σ : Type} {W' : σ → va_W} {Φ : Int → σ → Prop} (hF : qFok F) (hy : plainName y.cls = true) (hw : wsy = Cond.code y cc nL (some .int) :: ws') (hc : y.cls = own) (hn : (lg_sl av).length ≤ nL)
    (body : ∀ X : qX, qC X l D E false F cc own nL wsy { frames := fr, cells := 0, slots := 0, locals := lo } → (∀ (pc : Nat) (lv : List (Nat × Value)) (r : Int) (u : σ), decode cc pc = .ok (.ireturn, 1) → Φ r u → qZ X 0 0 (W' u) pc lv [.int (qI r)]) → qZ X 0 0 wc 0 (lv_args 0 av) []) : qRW l D E F y wsy fr lo wc av qeI W' Φ := by
  intro sz
  refine Met.ofW (cc := cc) (maxL := nL) (ret := some .int) hy hw ?_
  intro p e s m args below meth c s₁ B hml hv
  obtain ⟨rfl, hsz, hP, hK, hD0, hFz⟩ := hv
  have hts := atoms_spec (ws := wsy) B.pre
  have hown : s.vm.findClass own = some m.cls := by rw [← hc]; exact findClass_of_methodNamed B.named
  have hlocks := B.notSynchronized
  have hx := B.exec
  have hb := B.bytes
  have hr := B.returns
  subst hsz
  have hD := hD0.self (sz := s.heap.size)
  have hl := lv_entry av (n := nL) hn
  rw [lg_entry_eq]
  have hZ := body ⟨⟨p, l, e, (headSpec wsy { frames := fr, cells := 0, slots := 0, locals := lo }).room⟩, ⟨s, m, av.toArray, below, meth, c⟩, ⟨nL, D, E, false, va_A wc s.heap.size, [], F⟩, MQ below (fun _ s9 o t => (∃ r u, o = .returned (qeI r) ∧ Φ r u ∧ va_P D vwCl (W' u) t.heap ∧ qK D E t ∧ va_D (va_A wc s.heap.size) (W' u)) ∧ va_F (va_A wc s.heap.size) s9 t) av.toArray s 0 0 (va_A wc s.heap.size)⟩
    ⟨⟨rfl, rfl, rfl, rfl, rfl, rfl, rfl⟩, B.exec, B.bytes, hml, hown, hts, hK, hFz, hF, fun _ q h => Or.inr h⟩ ?_
  · exact hZ _ s.heap [] hl ⟨by rw [List.append_nil]; exact hP, va_S.rf, fun h => (by cases h), fun _ => by rw [List.append_nil]; exact hD⟩
  · intro pc lv r u hd hφ ls H locs hl hG
    obtain ⟨hP2, hS2, -, hD2⟩ := hG
    have hD2 := hD2 rfl
    rw [List.append_nil] at hP2 hD2
    exact W.iret hx hb hr (fun t ht hW => ⟨⟨r, u, rfl, hφ, by rw [ht]; exact hP2, hK.warm hW, hD2⟩, hS2.F ht⟩) hS2.2.2 hd hlocks

theorem qRO_bool {Φ : Int → Prop} (hF : qFok F) (hy : plainName y.cls = true) (hw : wsy = Cond.code y cc nL (some .boolean) :: ws') (hc : y.cls = own) (hn : (lg_sl av).length ≤ nL)
    (body : ∀ X : qX, qC X l D E true F cc own nL wsy { frames := fr, cells := 0, slots := 0, locals := lo } → (∀ (pc : Nat) (lv : List (Nat × Value)) (r : Int), decode cc pc = .ok (.ireturn, 1) → (r = 0 ∨ r = 1) → Φ r → qZ X 0 0 wc pc lv [.int (qI r)]) → qZ X 0 0 wc 0 (lv_args 0 av) []) : qRO l D E F y wsy fr lo wc av qeI Φ := by
  refine Met.ofW (cc := cc) (maxL := nL) (ret := some .boolean) hy hw ?_
  intro p e s m args below meth c s₁ B hml hv
  obtain ⟨rfl, hP, hK, hFz⟩ := hv
  have hts := atoms_spec (ws := wsy) B.pre
  have hown : s.vm.findClass own = some m.cls := by rw [← hc]; exact findClass_of_methodNamed B.named
  have hlocks := B.notSynchronized
  have hx := B.exec
  have hb := B.bytes
  have hr := B.returns
  have hl := lv_entry av (n := nL) hn
  rw [lg_entry_eq]
  have hZ := body ⟨⟨p, l, e, (headSpec wsy { frames := fr, cells := 0, slots := 0, locals := lo }).room⟩, ⟨s, m, av.toArray, below, meth, c⟩, ⟨nL, D, E, true, fun _ => False, [], F⟩, MQ below (fun _ s o t => (∃ r, o = .returned (qeI r) ∧ Φ r) ∧ t.heap = s.heap) av.toArray s 0 0 (fun _ => False)⟩
    ⟨⟨rfl, rfl, rfl, rfl, rfl, rfl, rfl⟩, B.exec, B.bytes, hml, hown, hts, hK, hFz, hF, fun h => by cases h⟩ ?_
  · exact hZ _ s.heap [] hl ⟨by rw [List.append_nil]; exact hP, va_S.rf, fun _ => ⟨rfl, rfl⟩, fun h => by cases h⟩
  · intro pc lv r hd hc9 hφ ls H locs hl hG
    obtain ⟨e1, e2⟩ := hG.2.2.1 rfl
    subst e2
    exact W.zret (ty := .boolean) hx hb hr (by rcases hc9 with rfl | rfl <;> rfl) (fun t ht hW => ⟨⟨r, rfl, hφ⟩, ht.trans e1⟩) (fun q h => by cases h) hd hlocks
theorem qRW_bool {σ : Type} {W' : σ → va_W} {Φ : Int → σ → Prop} (hF : qFok F) (hy : plainName y.cls = true) (hw : wsy = Cond.code y cc nL (some .boolean) :: ws') (hc : y.cls = own) (hn : (lg_sl av).length ≤ nL)
    (body : ∀ X : qX, qC X l D E false F cc own nL wsy { frames := fr, cells := 0, slots := 0, locals := lo } → (∀ (pc : Nat) (lv : List (Nat × Value)) (r : Int) (u : σ), decode cc pc = .ok (.ireturn, 1) → (r = 0 ∨ r = 1) → Φ r u → qZ X 0 0 (W' u) pc lv [.int (qI r)]) → qZ X 0 0 wc 0 (lv_args 0 av) []) : qRW l D E F y wsy fr lo wc av qeI W' Φ := by
  intro sz
  refine Met.ofW (cc := cc) (maxL := nL) (ret := some .boolean) hy hw ?_
  intro p e s m args below meth c s₁ B hml hv
  obtain ⟨rfl, hsz, hP, hK, hD0, hFz⟩ := hv
  have hts := atoms_spec (ws := wsy) B.pre
  have hown : s.vm.findClass own = some m.cls := by rw [← hc]; exact findClass_of_methodNamed B.named
  have hlocks := B.notSynchronized
  have hx := B.exec
  have hb := B.bytes
  have hr := B.returns
  subst hsz
  have hD := hD0.self (sz := s.heap.size)
  have hl := lv_entry av (n := nL) hn
  rw [lg_entry_eq]
  have hZ := body ⟨⟨p, l, e, (headSpec wsy { frames := fr, cells := 0, slots := 0, locals := lo }).room⟩, ⟨s, m, av.toArray, below, meth, c⟩, ⟨nL, D, E, false, va_A wc s.heap.size, [], F⟩, MQ below (fun _ s9 o t => (∃ r u, o = .returned (qeI r) ∧ Φ r u ∧ va_P D vwCl (W' u) t.heap ∧ qK D E t ∧ va_D (va_A wc s.heap.size) (W' u)) ∧ va_F (va_A wc s.heap.size) s9 t) av.toArray s 0 0 (va_A wc s.heap.size)⟩
    ⟨⟨rfl, rfl, rfl, rfl, rfl, rfl, rfl⟩, B.exec, B.bytes, hml, hown, hts, hK, hFz, hF, fun _ q h => Or.inr h⟩ ?_
  · exact hZ _ s.heap [] hl ⟨by rw [List.append_nil]; exact hP, va_S.rf, fun h => (by cases h), fun _ => by rw [List.append_nil]; exact hD⟩
  · intro pc lv r u hd hc9 hφ ls H locs hl hG
    obtain ⟨hP2, hS2, -, hD2⟩ := hG
    have hD2 := hD2 rfl
    rw [List.append_nil] at hP2 hD2
    exact W.zret (ty := .boolean) hx hb hr (by rcases hc9 with rfl | rfl <;> rfl) (fun t ht hW => ⟨⟨r, u, rfl, hφ, by rw [ht]; exact hP2, hK.warm hW, hD2⟩, hS2.F ht⟩) hS2.2.2 hd hlocks

theorem qRO_long {Φ : Int64 → Prop} (hF : qFok F) (hy : plainName y.cls = true) (hw : wsy = Cond.code y cc nL (some .long) :: ws') (hc : y.cls = own) (hn : (lg_sl av).length ≤ nL)
    (body : ∀ X : qX, qC X l D E true F cc own nL wsy { frames := fr, cells := 0, slots := 0, locals := lo } → (∀ (pc : Nat) (lv : List (Nat × Value)) (r : Int64), decode cc pc = .ok (.lreturn, 1) → Φ r → qZ X 0 0 wc pc lv [.long r]) → qZ X 0 0 wc 0 (lv_args 0 av) []) : qRO l D E F y wsy fr lo wc av qeL Φ := by
  refine Met.ofW (cc := cc) (maxL := nL) (ret := some .long) hy hw ?_
  intro p e s m args below meth c s₁ B hml hv
  obtain ⟨rfl, hP, hK, hFz⟩ := hv
  have hts := atoms_spec (ws := wsy) B.pre
  have hown : s.vm.findClass own = some m.cls := by rw [← hc]; exact findClass_of_methodNamed B.named
  have hlocks := B.notSynchronized
  have hx := B.exec
  have hb := B.bytes
  have hr := B.returns
  have hl := lv_entry av (n := nL) hn
  rw [lg_entry_eq]
  have hZ := body ⟨⟨p, l, e, (headSpec wsy { frames := fr, cells := 0, slots := 0, locals := lo }).room⟩, ⟨s, m, av.toArray, below, meth, c⟩, ⟨nL, D, E, true, fun _ => False, [], F⟩, MQ below (fun _ s o t => (∃ r, o = .returned (qeL r) ∧ Φ r) ∧ t.heap = s.heap) av.toArray s 0 0 (fun _ => False)⟩
    ⟨⟨rfl, rfl, rfl, rfl, rfl, rfl, rfl⟩, B.exec, B.bytes, hml, hown, hts, hK, hFz, hF, fun h => by cases h⟩ ?_
  · exact hZ _ s.heap [] hl ⟨by rw [List.append_nil]; exact hP, va_S.rf, fun _ => ⟨rfl, rfl⟩, fun h => by cases h⟩
  · intro pc lv r hd hφ ls H locs hl hG
    obtain ⟨e1, e2⟩ := hG.2.2.1 rfl
    subst e2
    exact W.lret hx hb hr (fun t ht hW => ⟨⟨r, rfl, hφ⟩, ht.trans e1⟩) (fun q h => by cases h) hd hlocks
theorem qRW_long {σ : Type} {W' : σ → va_W} {Φ : Int64 → σ → Prop} (hF : qFok F) (hy : plainName y.cls = true) (hw : wsy = Cond.code y cc nL (some .long) :: ws') (hc : y.cls = own) (hn : (lg_sl av).length ≤ nL)
    (body : ∀ X : qX, qC X l D E false F cc own nL wsy { frames := fr, cells := 0, slots := 0, locals := lo } → (∀ (pc : Nat) (lv : List (Nat × Value)) (r : Int64) (u : σ), decode cc pc = .ok (.lreturn, 1) → Φ r u → qZ X 0 0 (W' u) pc lv [.long r]) → qZ X 0 0 wc 0 (lv_args 0 av) []) : qRW l D E F y wsy fr lo wc av qeL W' Φ := by
  intro sz
  refine Met.ofW (cc := cc) (maxL := nL) (ret := some .long) hy hw ?_
  intro p e s m args below meth c s₁ B hml hv
  obtain ⟨rfl, hsz, hP, hK, hD0, hFz⟩ := hv
  have hts := atoms_spec (ws := wsy) B.pre
  have hown : s.vm.findClass own = some m.cls := by rw [← hc]; exact findClass_of_methodNamed B.named
  have hlocks := B.notSynchronized
  have hx := B.exec
  have hb := B.bytes
  have hr := B.returns
  subst hsz
  have hD := hD0.self (sz := s.heap.size)
  have hl := lv_entry av (n := nL) hn
  rw [lg_entry_eq]
  have hZ := body ⟨⟨p, l, e, (headSpec wsy { frames := fr, cells := 0, slots := 0, locals := lo }).room⟩, ⟨s, m, av.toArray, below, meth, c⟩, ⟨nL, D, E, false, va_A wc s.heap.size, [], F⟩, MQ below (fun _ s9 o t => (∃ r u, o = .returned (qeL r) ∧ Φ r u ∧ va_P D vwCl (W' u) t.heap ∧ qK D E t ∧ va_D (va_A wc s.heap.size) (W' u)) ∧ va_F (va_A wc s.heap.size) s9 t) av.toArray s 0 0 (va_A wc s.heap.size)⟩
    ⟨⟨rfl, rfl, rfl, rfl, rfl, rfl, rfl⟩, B.exec, B.bytes, hml, hown, hts, hK, hFz, hF, fun _ q h => Or.inr h⟩ ?_
  · exact hZ _ s.heap [] hl ⟨by rw [List.append_nil]; exact hP, va_S.rf, fun h => (by cases h), fun _ => by rw [List.append_nil]; exact hD⟩
  · intro pc lv r u hd hφ ls H locs hl hG
    obtain ⟨hP2, hS2, -, hD2⟩ := hG
    have hD2 := hD2 rfl
    rw [List.append_nil] at hP2 hD2
    exact W.lret hx hb hr (fun t ht hW => ⟨⟨r, u, rfl, hφ, by rw [ht]; exact hP2, hK.warm hW, hD2⟩, hS2.F ht⟩) hS2.2.2 hd hlocks

theorem qRO_void {Φ : Unit → Prop} (hF : qFok F) (hy : plainName y.cls = true) (hw : wsy = Cond.code y cc nL (none) :: ws') (hc : y.cls = own) (hn : (lg_sl av).length ≤ nL)
    (body : ∀ X : qX, qC X l D E true F cc own nL wsy { frames := fr, cells := 0, slots := 0, locals := lo } → (∀ (pc : Nat) (lv : List (Nat × Value)) (r : Unit), decode cc pc = .ok (.return_, 1) → Φ r → qZ X 0 0 wc pc lv []) → qZ X 0 0 wc 0 (lv_args 0 av) []) : qRO l D E F y wsy fr lo wc av qeV Φ := by
  refine Met.ofW (cc := cc) (maxL := nL) (ret := none) hy hw ?_
  intro p e s m args below meth c s₁ B hml hv
  obtain ⟨rfl, hP, hK, hFz⟩ := hv
  have hts := atoms_spec (ws := wsy) B.pre
  have hown : s.vm.findClass own = some m.cls := by rw [← hc]; exact findClass_of_methodNamed B.named
  have hlocks := B.notSynchronized
  have hx := B.exec
  have hb := B.bytes
  have hr := B.returns
  have hl := lv_entry av (n := nL) hn
  rw [lg_entry_eq]
  have hZ := body ⟨⟨p, l, e, (headSpec wsy { frames := fr, cells := 0, slots := 0, locals := lo }).room⟩, ⟨s, m, av.toArray, below, meth, c⟩, ⟨nL, D, E, true, fun _ => False, [], F⟩, MQ below (fun _ s o t => (∃ r, o = .returned (qeV r) ∧ Φ r) ∧ t.heap = s.heap) av.toArray s 0 0 (fun _ => False)⟩
    ⟨⟨rfl, rfl, rfl, rfl, rfl, rfl, rfl⟩, B.exec, B.bytes, hml, hown, hts, hK, hFz, hF, fun h => by cases h⟩ ?_
  · exact hZ _ s.heap [] hl ⟨by rw [List.append_nil]; exact hP, va_S.rf, fun _ => ⟨rfl, rfl⟩, fun h => by cases h⟩
  · intro pc lv r hd hφ ls H locs hl hG
    obtain ⟨e1, e2⟩ := hG.2.2.1 rfl
    subst e2
    exact W.vret hx hb hr (fun t ht hW => ⟨⟨r, rfl, hφ⟩, ht.trans e1⟩) (fun q h => by cases h) hd hlocks
theorem qRW_void {σ : Type} {W' : σ → va_W} {Φ : Unit → σ → Prop} (hF : qFok F) (hy : plainName y.cls = true) (hw : wsy = Cond.code y cc nL (none) :: ws') (hc : y.cls = own) (hn : (lg_sl av).length ≤ nL)
    (body : ∀ X : qX, qC X l D E false F cc own nL wsy { frames := fr, cells := 0, slots := 0, locals := lo } → (∀ (pc : Nat) (lv : List (Nat × Value)) (r : Unit) (u : σ), decode cc pc = .ok (.return_, 1) → Φ r u → qZ X 0 0 (W' u) pc lv []) → qZ X 0 0 wc 0 (lv_args 0 av) []) : qRW l D E F y wsy fr lo wc av qeV W' Φ := by
  intro sz
  refine Met.ofW (cc := cc) (maxL := nL) (ret := none) hy hw ?_
  intro p e s m args below meth c s₁ B hml hv
  obtain ⟨rfl, hsz, hP, hK, hD0, hFz⟩ := hv
  have hts := atoms_spec (ws := wsy) B.pre
  have hown : s.vm.findClass own = some m.cls := by rw [← hc]; exact findClass_of_methodNamed B.named
  have hlocks := B.notSynchronized
  have hx := B.exec
  have hb := B.bytes
  have hr := B.returns
  subst hsz
  have hD := hD0.self (sz := s.heap.size)
  have hl := lv_entry av (n := nL) hn
  rw [lg_entry_eq]
  have hZ := body ⟨⟨p, l, e, (headSpec wsy { frames := fr, cells := 0, slots := 0, locals := lo }).room⟩, ⟨s, m, av.toArray, below, meth, c⟩, ⟨nL, D, E, false, va_A wc s.heap.size, [], F⟩, MQ below (fun _ s9 o t => (∃ r u, o = .returned (qeV r) ∧ Φ r u ∧ va_P D vwCl (W' u) t.heap ∧ qK D E t ∧ va_D (va_A wc s.heap.size) (W' u)) ∧ va_F (va_A wc s.heap.size) s9 t) av.toArray s 0 0 (va_A wc s.heap.size)⟩
    ⟨⟨rfl, rfl, rfl, rfl, rfl, rfl, rfl⟩, B.exec, B.bytes, hml, hown, hts, hK, hFz, hF, fun _ q h => Or.inr h⟩ ?_
  · exact hZ _ s.heap [] hl ⟨by rw [List.append_nil]; exact hP, va_S.rf, fun h => (by cases h), fun _ => by rw [List.append_nil]; exact hD⟩
  · intro pc lv r u hd hφ ls H locs hl hG
    obtain ⟨hP2, hS2, -, hD2⟩ := hG
    have hD2 := hD2 rfl
    rw [List.append_nil] at hP2 hD2
    exact W.vret hx hb hr (fun t ht hW => ⟨⟨r, u, rfl, hφ, by rw [ht]; exact hP2, hK.warm hW, hD2⟩, hS2.F ht⟩) hS2.2.2 hd hlocks

theorem qRO_ref {nm : String} {Φ : Nat → Prop} (hF : qFok F) (hy : plainName y.cls = true) (hw : wsy = Cond.code y cc nL (some (.object nm)) :: ws') (hc : y.cls = own) (hn : (lg_sl av).length ≤ nL)
    (body : ∀ X : qX, qC X l D E true F cc own nL wsy { frames := fr, cells := 0, slots := 0, locals := lo } → (∀ (pc : Nat) (lv : List (Nat × Value)) (r : Nat), decode cc pc = .ok (.areturn, 1) → Φ r → qZ X 0 0 wc pc lv [.ref r]) → qZ X 0 0 wc 0 (lv_args 0 av) []) : qRO l D E F y wsy fr lo wc av qeR Φ := by
  refine Met.ofW (cc := cc) (maxL := nL) (ret := some (.object nm)) hy hw ?_
  intro p e s m args below meth c s₁ B hml hv
  obtain ⟨rfl, hP, hK, hFz⟩ := hv
  have hts := atoms_spec (ws := wsy) B.pre
  have hown : s.vm.findClass own = some m.cls := by rw [← hc]; exact findClass_of_methodNamed B.named
  have hlocks := B.notSynchronized
  have hx := B.exec
  have hb := B.bytes
  have hr := B.returns
  have hl := lv_entry av (n := nL) hn
  rw [lg_entry_eq]
  have hZ := body ⟨⟨p, l, e, (headSpec wsy { frames := fr, cells := 0, slots := 0, locals := lo }).room⟩, ⟨s, m, av.toArray, below, meth, c⟩, ⟨nL, D, E, true, fun _ => False, [], F⟩, MQ below (fun _ s o t => (∃ r, o = .returned (qeR r) ∧ Φ r) ∧ t.heap = s.heap) av.toArray s 0 0 (fun _ => False)⟩
    ⟨⟨rfl, rfl, rfl, rfl, rfl, rfl, rfl⟩, B.exec, B.bytes, hml, hown, hts, hK, hFz, hF, fun h => by cases h⟩ ?_
  · exact hZ _ s.heap [] hl ⟨by rw [List.append_nil]; exact hP, va_S.rf, fun _ => ⟨rfl, rfl⟩, fun h => by cases h⟩
  · intro pc lv r hd hφ ls H locs hl hG
    obtain ⟨e1, e2⟩ := hG.2.2.1 rfl
    subst e2
    exact W.aret hx hb hr (Or.inl ⟨_, rfl⟩) (Or.inr ⟨_, rfl⟩) (fun t ht hW => ⟨⟨r, rfl, hφ⟩, ht.trans e1⟩) (fun q h => by cases h) hd hlocks
theorem qRW_ref {nm : String} {σ : Type} {W' : σ → va_W} {Φ : Nat → σ → Prop} (hF : qFok F) (hy : plainName y.cls = true) (hw : wsy = Cond.code y cc nL (some (.object nm)) :: ws') (hc : y.cls = own) (hn : (lg_sl av).length ≤ nL)
    (body : ∀ X : qX, qC X l D E false F cc own nL wsy { frames := fr, cells := 0, slots := 0, locals := lo } → (∀ (pc : Nat) (lv : List (Nat × Value)) (r : Nat) (u : σ), decode cc pc = .ok (.areturn, 1) → Φ r u → qZ X 0 0 (W' u) pc lv [.ref r]) → qZ X 0 0 wc 0 (lv_args 0 av) []) : qRW l D E F y wsy fr lo wc av qeR W' Φ := by
  intro sz
  refine Met.ofW (cc := cc) (maxL := nL) (ret := some (.object nm)) hy hw ?_
  intro p e s m args below meth c s₁ B hml hv
  obtain ⟨rfl, hsz, hP, hK, hD0, hFz⟩ := hv
  have hts := atoms_spec (ws := wsy) B.pre
  have hown : s.vm.findClass own = some m.cls := by rw [← hc]; exact findClass_of_methodNamed B.named
  have hlocks := B.notSynchronized
  have hx := B.exec
  have hb := B.bytes
  have hr := B.returns
  subst hsz
  have hD := hD0.self (sz := s.heap.size)
  have hl := lv_entry av (n := nL) hn
  rw [lg_entry_eq]
  have hZ := body ⟨⟨p, l, e, (headSpec wsy { frames := fr, cells := 0, slots := 0, locals := lo }).room⟩, ⟨s, m, av.toArray, below, meth, c⟩, ⟨nL, D, E, false, va_A wc s.heap.size, [], F⟩, MQ below (fun _ s9 o t => (∃ r u, o = .returned (qeR r) ∧ Φ r u ∧ va_P D vwCl (W' u) t.heap ∧ qK D E t ∧ va_D (va_A wc s.heap.size) (W' u)) ∧ va_F (va_A wc s.heap.size) s9 t) av.toArray s 0 0 (va_A wc s.heap.size)⟩
    ⟨⟨rfl, rfl, rfl, rfl, rfl, rfl, rfl⟩, B.exec, B.bytes, hml, hown, hts, hK, hFz, hF, fun _ q h => Or.inr h⟩ ?_
  · exact hZ _ s.heap [] hl ⟨by rw [List.append_nil]; exact hP, va_S.rf, fun h => (by cases h), fun _ => by rw [List.append_nil]; exact hD⟩
  · intro pc lv r u hd hφ ls H locs hl hG
    obtain ⟨hP2, hS2, -, hD2⟩ := hG
    have hD2 := hD2 rfl
    rw [List.append_nil] at hP2 hD2
    exact W.aret hx hb hr (Or.inl ⟨_, rfl⟩) (Or.inr ⟨_, rfl⟩) (fun t ht hW => ⟨⟨r, u, rfl, hφ, by rw [ht]; exact hP2, hK.warm hW, hD2⟩, hS2.F ht⟩) hS2.2.2 hd hlocks

end QOF

theorem qmapapp {ws pl : va_W} : ∀ (is : List Nat) (wc : va_W), is.map (fun i => ws[i]?) = wc.map some → is.map (fun i => (ws ++ pl)[i]?) = wc.map some
  | [], wc, h => by
    cases wc with
    | nil => rfl
    | cons x t => cases h
  | i :: is, wc, h => by
    cases wc with
    | nil => cases h
    | cons x t =>
      rw [List.map_cons, List.map_cons] at h
      obtain ⟨h1, h2⟩ := List.cons.inj h
      rw [List.map_cons, List.map_cons, qmapapp is t h2, qat h1]
theorem qfm {ws : va_W} : ∀ (is : List Nat) (wc : va_W), is.map (fun i => ws[i]?) = wc.map some → is.filterMap (fun i => ws[i]?) = wc
  | [], wc, h => by
    cases wc with
    | nil => rfl
    | cons x t => cases h
  | i :: is, wc, h => by
    cases wc with
    | nil => cases h
    | cons x t =>
      rw [List.map_cons, List.map_cons] at h
      obtain ⟨h1, h2⟩ := List.cons.inj h
      rw [List.filterMap_cons, h1, qfm is t h2]
section QCALL
variable {X : qX} {l : Launch} {D : va_G} {E : Nat → ClassId} {ro : Bool} {F F' : qFz} {cc : ByteArray} {own : String} {nL : Nat} {Ts : List Cond} {rm : Room} {ws wc : va_W} {pc : Nat} {lv : List (Nat × Value)} {st : List Value}
variable {y : MethodName} {wsy ws'' : List Cond} {fr lo : Nat} {index maxL n : Nat} {bytes : ByteArray} {ret : Option FieldType} {Cn host : String} {b : Nat} {As : List Value} {ρ : Type} {em : ρ → Option Value} {Φ : ρ → Prop}
theorem qpreRO {p : Program} {s : State} {H : Heap} {locs : List Loc} {A : Nat → Prop} {pl : va_W} {av : List Value} (hF' : qFok F') (hFF : ∀ A U, F A U → F' A U) (hFo : qFok F) (hFz : F A s) (hK : qK D E s) (hS : va_S A s.heap H locs) (hP : va_P D vwCl wc H) : FrameBlind (va_Pc av (fun U => va_P D vwCl wc U.heap ∧ qK D E U ∧ F' (fun _ => False) U)) ∧ ∀ U : State, U.heap = H → s.WarmedH U.vm → va_Pc av (fun U => va_P D vwCl wc U.heap ∧ qK D E U ∧ F' (fun _ => False) U) av.toArray U := by
  refine ⟨fun a U g mk q => ⟨q.1, q.2.1, q.2.2.1.call, hF'.1 _ _ _ _ _ q.2.2.2⟩, fun U hU hW => ⟨rfl, by rw [hU]; exact hP, hK.warm hW, hFF _ _ (hFo.2 A _ s U hW (fun q h1 h2 => by rw [hU]; exact hS.2.1 q h1 h2) (fun q _ h => h.elim) hFz)⟩⟩
theorem qfinRO {p : Program} {e : Env} {R : Room} {s : State} {m : MethodId} {args : Array Value} {below : List Frame} {meth : Method} {c : Code} {H : Heap} {locs : List Loc} {Q : State → Prop} {ls : Array Slot} {a : Array Value} {stk : List Value} (hr : CallRun p l e R s m args below meth c H locs 0 0 0 0 (F0 m pc ls stk) st ((fun (_ : Array Value) (s : State) o (t : State) => (∃ r, o = .returned (em r) ∧ Φ r) ∧ t.heap = s.heap) a) (fun _ => False))
    (k : ∀ r, Φ r → W p l e R s m args below meth c H locs 0 0 Q (F0 m (pc + 3) ls ((em r).toList ++ st))) : W p l e R s m args below meth c H locs 0 0 Q (F0 m pc ls stk) := by
  intro T hT X
  obtain ⟨v, st₀, t, T', L, h0, X', hL, e1, ⟨⟨r, hv, hp⟩, hh⟩, stp⟩ := hr T hT X
  have hv := Outcome.returned.inj hv
  subst hv
  obtain ⟨t2, a1, b1⟩ := k r hp T' (by rw [e1, hh, h0]) (Stand.forget X' (fun q h => (hL q h).elim))
  exact ⟨t2, stp t2 a1, b1⟩

theorem z_callV (C : qC X l D E ro F cc own nL Ts rm) (hM : qRO l D E F' y wsy fr lo wc (.ref b :: As) em Φ) (hF' : qFok F') (hFF : ∀ A U, F A U → F' A U) (hT : GoodIn Ts (wsV own index Cn y wsy)) (hw : wsy = Cond.code y bytes maxL ret :: ws'')
    (hd : y.cls = Cn ∧ y.cls ≠ "java/lang/invoke/MethodHandle" ∧ y.cls ≠ "java/lang/invoke/VarHandle" ∧ (parseMethodDescriptor y.desc).map (fun d => d.parameters.length) = some n) (hR : fr + 1 ≤ rm.frames ∧ 8 + (maxL + 11) + lo ≤ rm.locals) (hn : As.length = n) (q0 : Nat) {ci N : Nat} {T : u_T} {fs : List Value} (he : ws[q0]? = some (b, .inr (ci, fs))) (hc : vwCl[ci]? = some (Cn, T, N)) (is : List Nat) (hs : is.map (fun i => ws[i]?) = wc.map some) {stk : List Value} (hst : stk = As.reverse ++ .ref b :: st) (hcat : (st.map fun v => v.category).sum ≤ 8) (hdg : decode cc pc = .ok (.invokevirtual index, 3))
    (k : ∀ r, Φ r → qZ X 0 0 ws (pc + 3) lv ((em r).toList ++ st)) : qZ X 0 0 ws pc lv stk := by
  obtain ⟨⟨p, l', e, R⟩, ⟨s, m, args, below, meth, c⟩, ⟨nL', D', E', ro', A, pl, F''⟩, Q⟩ := X
  obtain ⟨⟨rfl, rfl, rfl, rfl, rfl, rfl, rfl⟩, hx, hb, hml, hown, hts, hK, hFz, hFo, hA⟩ := C
  intro ls H locs hl hG
  have hP := hG.1.sub is (qfm _ _ (qmapapp is wc hs))
  have hpre := qpreRO (p := p) (pl := pl) (av := .ref b :: As) hF' hFF hFo hFz hK hG.2.1 hP
  exact qfinRO (a := (Value.ref b :: As).toArray) (W.runV (g := F0 m pc ls stk) ⟨hx, hb, hml, hown, hts⟩ hM (cwV n hts hT hw rfl rfl hd hR) ⟨hpre.1, va_recv hK.1 hG.1 hc (qat he), hpre.2⟩ rfl hn hl.1 hst (lv_room hcat) hdg ⟨Nat.zero_le _, Nat.zero_le _⟩) (fun r hφ => k r hφ ls H locs hl hG)
theorem z_callS (C : qC X l D E ro F cc own nL Ts rm) (hM : qRO l D E F' y wsy fr lo wc As em Φ) (hF' : qFok F') (hFF : ∀ A U, F A U → F' A U) (hT : GoodIn Ts (va_wsS own index y wsy)) (hw : wsy = Cond.code y bytes maxL ret :: ws'')
    (hd : y.cls ≠ "java/lang/invoke/MethodHandle" ∧ y.cls ≠ "java/lang/invoke/VarHandle" ∧ (parseMethodDescriptor y.desc).map (fun d => d.parameters.length) = some n) (hR : fr + 1 ≤ rm.frames ∧ 8 + (maxL + 11) + lo ≤ rm.locals) (hn : As.length = n) (is : List Nat) (hs : is.map (fun i => ws[i]?) = wc.map some) {stk : List Value} (hst : stk = As.reverse ++ st) (hcat : (st.map fun v => v.category).sum ≤ 8) (hdg : decode cc pc = .ok (.invokestatic index, 3))
    (k : ∀ r, Φ r → qZ X 0 0 ws (pc + 3) lv ((em r).toList ++ st)) : qZ X 0 0 ws pc lv stk := by
  obtain ⟨⟨p, l', e, R⟩, ⟨s, m, args, below, meth, c⟩, ⟨nL', D', E', ro', A, pl, F''⟩, Q⟩ := X
  obtain ⟨⟨rfl, rfl, rfl, rfl, rfl, rfl, rfl⟩, hx, hb, hml, hown, hts, hK, hFz, hFo, hA⟩ := C
  intro ls H locs hl hG
  have hP := hG.1.sub is (qfm _ _ (qmapapp is wc hs))
  have hpre := qpreRO (p := p) (pl := pl) (av := As) hF' hFF hFo hFz hK hG.2.1 hP
  exact qfinRO (a := As.toArray) (W.runS (g := F0 m pc ls stk) ⟨hx, hb, hml, hown, hts⟩ hM (va_cwS n hts hT hw rfl rfl hd hR) hpre rfl hn hl.1 hst (lv_room hcat) hdg ⟨Nat.zero_le _, Nat.zero_le _⟩) (fun r hφ => k r hφ ls H locs hl hG)
theorem z_callSN (C : qC X l D E ro F cc own nL Ts rm) (hM : qRO l D E F' y wsy fr lo wc As em Φ) (hF' : qFok F') (hFF : ∀ A U, F A U → F' A U) (hT : GoodIn Ts wsy) (hw : wsy = Cond.code y bytes maxL ret :: ws'') (hsta : Cond.static y ∈ Ts) (hini : Cond.initialized y.cls ∈ Ts) (hnl : (own, index, y, host) ∈ qNL)
    (hd : y.cls ≠ "java/lang/invoke/MethodHandle" ∧ y.cls ≠ "java/lang/invoke/VarHandle" ∧ (parseMethodDescriptor y.desc).map (fun d => d.parameters.length) = some n) (hR : fr + 1 ≤ rm.frames ∧ 8 + (maxL + 11) + lo ≤ rm.locals) (hn : As.length = n) (is : List Nat) (hs : is.map (fun i => ws[i]?) = wc.map some) {stk : List Value} (hst : stk = As.reverse ++ st) (hcat : (st.map fun v => v.category).sum ≤ 8) (hdg : decode cc pc = .ok (.invokestatic index, 3))
    (k : ∀ r, Φ r → qZ X 0 0 ws (pc + 3) lv ((em r).toList ++ st)) : qZ X 0 0 ws pc lv stk := by
  obtain ⟨⟨p, l', e, R⟩, ⟨s, m, args, below, meth, c⟩, ⟨nL', D', E', ro', A, pl, F''⟩, Q⟩ := X
  obtain ⟨⟨rfl, rfl, rfl, rfl, rfl, rfl, rfl⟩, hx, hb, hml, hown, hts, hK, hFz, hFo, hA⟩ := C
  intro ls H locs hl hG
  have hP := hG.1.sub is (qfm _ _ (qmapapp is wc hs))
  have hpre := qpreRO (p := p) (pl := pl) (av := As) hF' hFF hFo hFz hK hG.2.1 hP
  have hr := va_runSN (e := e) (below := below) (meth := meth) (locs := locs) (g := F0 m pc ls stk) (rest := st) ⟨hx, hb, hml, hown, hts⟩ hM ⟨va_cnB n hts hT hw rfl rfl (hK.2 _ hnl) (hts _ hini) hd hR, hts _ hsta, trivial⟩ hpre rfl hn hl.1 hst (lv_room hcat) hdg ⟨Nat.zero_le _, Nat.zero_le _⟩
  exact qfinRO (a := As.toArray) (va_Run.run hr) (fun r hφ => k r hφ ls H locs hl hG)

theorem qpreRW {s : State} {H : Heap} {locs : List Loc} {A : Nat → Prop} {av : List Value} (hF' : qFok F') (hFF : ∀ A U, F A U → F' A U) (hFo : qFok F) (hFz : F A s) (hK : qK D E s) (hS : va_S A s.heap H locs) (hP : va_P D vwCl wc H) (hD : va_D (fun _ => True) wc) (hA : ∀ q, q < s.heap.size → va_A wc H.size q → A q) : FrameBlind (va_Pc av (fun U => U.heap.size = H.size ∧ va_P D vwCl wc U.heap ∧ qK D E U ∧ va_D (fun _ => True) wc ∧ F' (va_A wc H.size) U)) ∧ ∀ U : State, U.heap = H → s.WarmedH U.vm → va_Pc av (fun U => U.heap.size = H.size ∧ va_P D vwCl wc U.heap ∧ qK D E U ∧ va_D (fun _ => True) wc ∧ F' (va_A wc H.size) U) av.toArray U := by
  refine ⟨fun a U g mk q => ⟨q.1, q.2.1, q.2.2.1, q.2.2.2.1.call, q.2.2.2.2.1, hF'.1 _ _ _ _ _ q.2.2.2.2.2⟩, fun U hU hW => ⟨rfl, by rw [hU], by rw [hU]; exact hP, hK.warm hW, hD, hFF _ _ (hFo.2 A _ s U hW (fun q h1 h2 => by rw [hU]; exact hS.2.1 q h1 h2) hA hFz)⟩⟩
theorem qfinRW {σ : Type} {W' W2 : σ → va_W} {Φ : ρ → σ → Prop} {p : Program} {e : Env} {R : Room} {s : State} {m : MethodId} {args : Array Value} {below : List Frame} {meth : Method} {c : Code} {H : Heap} {locs : List Loc} {Q : State → Prop} {ls : Array Slot} {a : Array Value} {stk : List Value} {A : Nat → Prop} {pl : va_W}
    (hr : va_Run p l e R s m args below meth c H locs 0 0 0 0 (F0 m pc ls stk) st ((fun (_ : Array Value) s o t => (∃ r u, o = .returned (em r) ∧ Φ r u ∧ va_P D vwCl (W' u) t.heap ∧ qK D E t ∧ va_D (va_A wc H.size) (W' u)) ∧ va_F (va_A wc H.size) s t) a) (va_A wc H.size))
    (hS : va_S A s.heap H locs) (hA : ∀ q, va_A wc H.size q → A q) (hP : va_P D vwCl (ws ++ pl) H) (hD : va_D A (ws ++ pl)) (isC isR : List Nat) {wr : va_W} (hC : isC.map (fun i => ws[i]?) = wc.map some) (hR9 : isR.map (fun i => ws[i]?) = wr.map some) (hn9 : va_nd isR = true) (hdis : ∀ i ∈ isR, i ∉ isC) (perm : List Nat) (hpn : va_nd perm = true) (hperm : ∀ u, perm.map (fun i => (wr ++ W' u)[i]?) = (W2 u).map some)
    (k : ∀ r u (H1 : Heap) (locs1 : List Loc), Φ r u → va_P D vwCl (W2 u ++ pl) H1 → va_D A (W2 u ++ pl) → va_S A s.heap H1 locs1 → W p l e R s m args below meth c H1 locs1 0 0 Q (F0 m (pc + 3) ls ((em r).toList ++ st))) : W p l e R s m args below meth c H locs 0 0 Q (F0 m pc ls stk) := by
  intro T hT X
  obtain ⟨v, st₀, t, T', L, h0, X', hL, e1, e2, ⟨⟨r, u, hv, hp, hP1, hK1, hD1⟩, hz, hk⟩, stp⟩ := hr T hT X
  have hv := Outcome.returned.inj hv
  subst hv
  rw [h0] at hz hk
  rw [← e1] at hP1 hz
  have hk : ∀ q : Nat, q < H.size → ¬ va_A wc H.size q → T'.heap[q]? = H[q]? := fun q h1 h2 => by rw [e1]; exact hk q h1 h2
  obtain ⟨hP2, hD2⟩ := va_joinQ hP hD isC isR hC hR9 hn9 hdis hk hA hP1 hD1
  obtain ⟨t2, a1, b1⟩ := k r u T'.heap (locs ++ L) hp (hP2.part perm (hperm u)) (hD2.part perm hpn (hperm u)) ⟨Nat.le_trans hS.1 hz, fun q h1 h2 => by rw [hk q (Nat.lt_of_lt_of_le h1 hS.1) (fun z => h2 (hA q z))]; exact hS.2.1 q h1 h2, fun q hq => by
      rcases List.mem_append.mp hq with h | h
      · exact hS.2.2 q h
      · exact hA _ (hL q h)⟩ T' rfl X'
  exact ⟨t2, stp t2 a1, b1⟩
theorem qfreeC {H0 H : Heap} {locs : List Loc} {A : Nat → Prop} {pl : va_W} (hD : va_D A (ws ++ pl)) (hS : va_S A H0 H locs) (hA : ∀ q, H0.size ≤ q → A q) (isC : List Nat) (hC : isC.map (fun i => ws[i]?) = wc.map some) : ∀ q, va_A wc H.size q → A q := va_free hD hS hA isC (qmapapp isC wc hC)
theorem qDcut {A : Nat → Prop} {pl : va_W} (hD : va_D A (ws ++ pl)) (isC : List Nat) (hnd : va_nd isC = true) (hC : isC.map (fun i => ws[i]?) = wc.map some) : va_D (fun _ => True) wc := (hD.sub isC hnd (qmapapp isC wc hC)).weaken (fun _ _ _ _ => trivial)

theorem z_callVW {σ : Type} {W' : σ → va_W} {Φ : ρ → σ → Prop} (C : qC X l D E false F cc own nL Ts rm) (hM : qRW l D E F' y wsy fr lo wc (.ref b :: As) em W' Φ) (hF' : qFok F') (hFF : ∀ A U, F A U → F' A U) (hT : GoodIn Ts (wsV own index Cn y wsy)) (hw : wsy = Cond.code y bytes maxL ret :: ws'')
    (hd : y.cls = Cn ∧ y.cls ≠ "java/lang/invoke/MethodHandle" ∧ y.cls ≠ "java/lang/invoke/VarHandle" ∧ (parseMethodDescriptor y.desc).map (fun d => d.parameters.length) = some n) (hR : fr + 1 ≤ rm.frames ∧ 8 + (maxL + 11) + lo ≤ rm.locals) (hn : As.length = n) (q0 : Nat) {ci N : Nat} {T : u_T} {fs : List Value} (he : ws[q0]? = some (b, .inr (ci, fs))) (hc : vwCl[ci]? = some (Cn, T, N)) (isC isR : List Nat) {wr : va_W} (hnc : va_nd isC = true) (hC : isC.map (fun i => ws[i]?) = wc.map some) (hR9 : isR.map (fun i => ws[i]?) = wr.map some) (hn9 : va_nd isR = true) (hdis : ∀ i ∈ isR, i ∉ isC) (perm : List Nat) (hpn : va_nd perm = true) (W2 : σ → va_W) (hperm : ∀ u, perm.map (fun i => (wr ++ W' u)[i]?) = (W2 u).map some) {stk : List Value} (hst : stk = As.reverse ++ .ref b :: st) (hcat : (st.map fun v => v.category).sum ≤ 8) (hdg : decode cc pc = .ok (.invokevirtual index, 3))
    (k : ∀ r u, Φ r u → qZ X 0 0 (W2 u) (pc + 3) lv ((em r).toList ++ st)) : qZ X 0 0 ws pc lv stk := by
  obtain ⟨⟨p, l', e, R⟩, ⟨s, m, args, below, meth, c⟩, ⟨nL', D', E', ro', A, pl, F''⟩, Q⟩ := X
  obtain ⟨⟨rfl, rfl, rfl, rfl, rfl, rfl, rfl⟩, hx, hb, hml, hown, hts, hK, hFz, hFo, hA⟩ := C
  intro ls H locs hl hG
  have hP := hG.1.sub isC (qfm _ _ (qmapapp isC wc hC))
  have hD := hG.2.2.2 rfl
  have hFc := qfreeC hD hG.2.1 (hA rfl) isC hC
  have hpre := qpreRW (av := .ref b :: As) hF' hFF hFo hFz hK hG.2.1 hP (qDcut hD isC hnc hC) (fun q _ h => hFc q h)
  exact qfinRW (a := (Value.ref b :: As).toArray) (va_runV (g := F0 m pc ls stk) ⟨hx, hb, hml, hown, hts⟩ (hM H.size) (cwV n hts hT hw rfl rfl hd hR) ⟨hpre.1, va_recv hK.1 hG.1 hc (qat he), hpre.2⟩ rfl hn hl.1 hst (lv_room hcat) hdg ⟨Nat.zero_le _, Nat.zero_le _⟩) hG.2.1 hFc hG.1 hD isC isR hC hR9 hn9 hdis perm hpn hperm (fun r u H1 locs1 hφ hP1 hD1 hS1 => k r u hφ ls H1 locs1 hl ⟨hP1, hS1, fun h => (by cases h), fun _ => hD1⟩)
theorem z_callSW {σ : Type} {W' : σ → va_W} {Φ : ρ → σ → Prop} (C : qC X l D E false F cc own nL Ts rm) (hM : qRW l D E F' y wsy fr lo wc As em W' Φ) (hF' : qFok F') (hFF : ∀ A U, F A U → F' A U) (hT : GoodIn Ts (va_wsS own index y wsy)) (hw : wsy = Cond.code y bytes maxL ret :: ws'')
    (hd : y.cls ≠ "java/lang/invoke/MethodHandle" ∧ y.cls ≠ "java/lang/invoke/VarHandle" ∧ (parseMethodDescriptor y.desc).map (fun d => d.parameters.length) = some n) (hR : fr + 1 ≤ rm.frames ∧ 8 + (maxL + 11) + lo ≤ rm.locals) (hn : As.length = n) (isC isR : List Nat) {wr : va_W} (hnc : va_nd isC = true) (hC : isC.map (fun i => ws[i]?) = wc.map some) (hR9 : isR.map (fun i => ws[i]?) = wr.map some) (hn9 : va_nd isR = true) (hdis : ∀ i ∈ isR, i ∉ isC) (perm : List Nat) (hpn : va_nd perm = true) (W2 : σ → va_W) (hperm : ∀ u, perm.map (fun i => (wr ++ W' u)[i]?) = (W2 u).map some) {stk : List Value} (hst : stk = As.reverse ++ st) (hcat : (st.map fun v => v.category).sum ≤ 8) (hdg : decode cc pc = .ok (.invokestatic index, 3))
    (k : ∀ r u, Φ r u → qZ X 0 0 (W2 u) (pc + 3) lv ((em r).toList ++ st)) : qZ X 0 0 ws pc lv stk := by
  obtain ⟨⟨p, l', e, R⟩, ⟨s, m, args, below, meth, c⟩, ⟨nL', D', E', ro', A, pl, F''⟩, Q⟩ := X
  obtain ⟨⟨rfl, rfl, rfl, rfl, rfl, rfl, rfl⟩, hx, hb, hml, hown, hts, hK, hFz, hFo, hA⟩ := C
  intro ls H locs hl hG
  have hP := hG.1.sub isC (qfm _ _ (qmapapp isC wc hC))
  have hD := hG.2.2.2 rfl
  have hFc := qfreeC hD hG.2.1 (hA rfl) isC hC
  have hpre := qpreRW (av := As) hF' hFF hFo hFz hK hG.2.1 hP (qDcut hD isC hnc hC) (fun q _ h => hFc q h)
  exact qfinRW (a := As.toArray) (va_runS (g := F0 m pc ls stk) ⟨hx, hb, hml, hown, hts⟩ (hM H.size) (va_cwS n hts hT hw rfl rfl hd hR) hpre rfl hn hl.1 hst (lv_room hcat) hdg ⟨Nat.zero_le _, Nat.zero_le _⟩) hG.2.1 hFc hG.1 hD isC isR hC hR9 hn9 hdis perm hpn hperm (fun r u H1 locs1 hφ hP1 hD1 hS1 => k r u hφ ls H1 locs1 hl ⟨hP1, hS1, fun h => (by cases h), fun _ => hD1⟩)

theorem z_mmax (C : qC X l D E ro F cc own nL Ts rm) {a b9 : Int} (h : qR a ∧ qR b9) (h1 : Cond.methodLink own index Lib.Math.max.name ∈ Ts) (h2 : Cond.static Lib.Math.max.name ∈ Ts) (h3 : Cond.initialized "java/lang/Math" ∈ Ts) (h4 : Cond.code Lib.Math.max.name Lib.Math.max.code 2 (some .int) ∈ Ts) (hfr : 1 ≤ rm.frames) (hlo : (st.map fun v => v.category).sum + 13 ≤ rm.locals) (hdg : decode cc pc = .ok (.invokestatic index, 3)) (k : qZ X 0 0 ws (pc + 3) lv (.int (qI (if a < b9 then b9 else a)) :: st)) : qZ X 0 0 ws pc lv (.int (qI b9) :: .int (qI a) :: st) := by
  obtain ⟨⟨p, l', e, R⟩, ⟨s, m, args, below, meth, c⟩, ⟨nL', D', E', ro', A, pl, F''⟩, Q⟩ := X
  obtain ⟨⟨rfl, rfl, rfl, rfl, rfl, rfl, rfl⟩, hx, hb, hml, hown, hts, hK, hFz, hFo, hA⟩ := C
  intro ls H locs hl hG
  refine va_mmax hx hb (hml.trans hl.1.symm) hown (hts _ h1) (hts _ h2) (hts _ h3) (hts _ h4) hfr hlo (Nat.zero_le _) (Nat.zero_le _) hdg ?_
  have h9 := k ls H locs hl hG
  by_cases hq : a < b9
  · rw [if_pos hq] at h9
    rw [if_pos ((qI_lt h.1 h.2).mpr hq)]
    exact h9
  · rw [if_neg hq] at h9
    rw [if_neg (fun z => hq ((qI_lt h.1 h.2).mp z))]
    exact h9
theorem z_mmin (C : qC X l D E ro F cc own nL Ts rm) {a b9 : Int} (h : qR a ∧ qR b9) (h1 : Cond.methodLink own index Lib.Math.min.name ∈ Ts) (h2 : Cond.static Lib.Math.min.name ∈ Ts) (h3 : Cond.initialized "java/lang/Math" ∈ Ts) (h4 : Cond.code Lib.Math.min.name Lib.Math.min.code 2 (some .int) ∈ Ts) (hfr : 1 ≤ rm.frames) (hlo : (st.map fun v => v.category).sum + 13 ≤ rm.locals) (hdg : decode cc pc = .ok (.invokestatic index, 3)) (k : qZ X 0 0 ws (pc + 3) lv (.int (qI (if b9 < a then b9 else a)) :: st)) : qZ X 0 0 ws pc lv (.int (qI b9) :: .int (qI a) :: st) := by
  obtain ⟨⟨p, l', e, R⟩, ⟨s, m, args, below, meth, c⟩, ⟨nL', D', E', ro', A, pl, F''⟩, Q⟩ := X
  obtain ⟨⟨rfl, rfl, rfl, rfl, rfl, rfl, rfl⟩, hx, hb, hml, hown, hts, hK, hFz, hFo, hA⟩ := C
  intro ls H locs hl hG
  refine va_mmin hx hb (hml.trans hl.1.symm) hown (hts _ h1) (hts _ h2) (hts _ h3) (hts _ h4) hfr hlo (Nat.zero_le _) (Nat.zero_le _) hdg ?_
  have h9 := k ls H locs hl hG
  by_cases hq : b9 < a
  · rw [if_pos hq] at h9
    rw [if_pos ((qI_lt h.2 h.1).mpr hq)]
    exact h9
  · rw [if_neg hq] at h9
    rw [if_neg (fun z => hq ((qI_lt h.2 h.1).mp z))]
    exact h9
theorem z_mabs (C : qC X l D E ro F cc own nL Ts rm) {a : Int} (h : qR a) (h1 : Cond.methodLink own index Lib.Math.abs.name ∈ Ts) (h2 : Cond.static Lib.Math.abs.name ∈ Ts) (h3 : Cond.initialized "java/lang/Math" ∈ Ts) (h4 : Cond.code Lib.Math.abs.name Lib.Math.abs.code 1 (some .int) ∈ Ts) (hfr : 1 ≤ rm.frames) (hlo : (st.map fun v => v.category).sum + 13 ≤ rm.locals) (hdg : decode cc pc = .ok (.invokestatic index, 3)) (k : qZ X 0 0 ws (pc + 3) lv (.int (qI (if 0 ≤ a then a else 0 - a)) :: st)) : qZ X 0 0 ws pc lv (.int (qI a) :: st) := by
  obtain ⟨⟨p, l', e, R⟩, ⟨s, m, args, below, meth, c⟩, ⟨nL', D', E', ro', A, pl, F''⟩, Q⟩ := X
  obtain ⟨⟨rfl, rfl, rfl, rfl, rfl, rfl, rfl⟩, hx, hb, hml, hown, hts, hK, hFz, hFo, hA⟩ := C
  intro ls H locs hl hG
  refine va_mabs hx hb (hml.trans hl.1.symm) hown (hts _ h1) (hts _ h2) (hts _ h3) (hts _ h4) hfr hlo (Nat.zero_le _) (Nat.zero_le _) hdg ?_
  have h9 := k ls H locs hl hG
  have h0 : qI 0 = 0 := by decide
  have hi := qI_le (a := 0) (b := a) (by decide) h
  rw [h0] at hi
  by_cases hq : 0 ≤ a
  · rw [if_pos hq] at h9
    rw [if_pos (hi.mpr hq)]
    exact h9
  · rw [if_neg hq, ← qI_sub, h0] at h9
    rw [if_neg (fun z => hq (hi.mp z))]
    exact h9
theorem qarrV {cA : ClassId} {n : Nat} {f g : Nat → Value} (h : ∀ j, j < n → f j = g j) : arrV cA n f = arrV cA n g := by
  have e : (Array.ofFn (n := n) fun j => f j.val) = Array.ofFn (n := n) fun j => g j.val := by
    congr 1
    funext j
    exact h j.val j.isLt
  unfold arrV
  rw [e]
theorem qcell_cpy (cA : ClassId) (n : Nat) (f g : Nat → Int32) : vp_cell cA (n, .inl (va_cpy f g 0 0 n)) = vp_cell cA (n, .inl f) := by
  rw [vp_cell_i, vp_cell_i]
  refine qarrV ?_
  intro j hj
  simp [va_cpy, hj]
theorem qcell_cpyL (cA : ClassId) (n : Nat) (f g : Nat → Int64) : vp_cell cA (n, .inr (.inl (va_cpy f g 0 0 n))) = vp_cell cA (n, .inr (.inl f)) := by
  rw [vp_cell_l, vp_cell_l]
  refine qarrV ?_
  intro j hj
  simp [va_cpy, hj]
theorem qset_cell {cl : List vw_C} {i a : Nat} {cA : ClassId} {x y9 : vp_A} {H : Heap} {w9 : va_W} (h : va_P D cl (w9.set i (a, .inl (cA, x))) H) (e : vp_cell cA x = vp_cell cA y9) : va_P D cl (w9.set i (a, .inl (cA, y9))) H := by
  intro k q hk
  by_cases hki : i = k
  · subst hki
    have hlt : i < w9.length := by
      have := (List.getElem?_eq_some_iff.mp hk).1
      rwa [List.length_set] at this
    rw [List.getElem?_set_self hlt] at hk
    cases hk
    have h2 := h i (a, .inl (cA, x)) (by rw [List.getElem?_set_self hlt])
    show H[a]? = some (vp_cell cA y9)
    rw [← e]
    exact h2
  · rw [List.getElem?_set_ne hki] at hk
    exact h k q (by rw [List.getElem?_set_ne hki]; exact hk)

theorem z_copyi (C : qC X l D E false F cc own nL Ts rm) {a a0 nn : Nat} {f g : Nat → Int} (q0 q1 : Nat) (he0 : ws[q0]? = some (a0, qA (E 0) nn f)) (he1 : ws[q1]? = some (a, qA (E 0) nn g)) (hnn : nn < 2 ^ 31) (h1 : Cond.methodLink own index arraycopyName ∈ Ts) (h2 : Cond.native arraycopyName ∈ Ts) (h3 : Cond.static arraycopyName ∈ Ts) (h4 : Cond.initialized "java/lang/System" ∈ Ts) {ws' : va_W} (hw9 : ws.set q1 (a, qA (E 0) nn f) = ws') (hfr : 1 ≤ rm.frames) (hlo : (st.map fun v => v.category).sum + (nativeFrameWords "java/lang/System" "arraycopy" 5 + 11) ≤ rm.locals) (hdg : decode cc pc = .ok (.invokestatic index, 3)) (k : qZ X 0 0 ws' (pc + 3) lv st) : qZ X 0 0 ws pc lv (.int (qI (nn : Int)) :: .int (qI 0) :: .ref a :: .int (qI 0) :: .ref a0 :: st) := by
  obtain ⟨⟨p, l', e, R⟩, ⟨s, m, args, below, meth, c⟩, ⟨nL', D', E', ro', A, pl, F''⟩, Q⟩ := X
  obtain ⟨⟨rfl, rfl, rfl, rfl, rfl, rfl, rfl⟩, hx, hb, hml, hown, hts, hK, hFz, hFo, hA⟩ := C
  intro ls H locs hl hG
  have hz : (qI 0).toNatClampNeg = 0 := by decide
  have hz2 : ¬ (qI 0) < 0 := by decide
  have hn9 : (qI (nn : Int)).toNatClampNeg = nn := by rw [qI_clamp (by omega) (by omega)]; simp
  have hn8 : ¬ (qI (nn : Int)) < 0 := by rw [qI_nat]; exact nI_pos hnn
  refine va_copyi hx hb (hml.trans hl.1.symm) hown (hts _ h1) (hts _ h2) (hts _ h3) (hts _ h4) hK.1 hG.1 (hG.2.2.2 rfl) hG.2.1 q0 q1 0 0 (qat he0) (qat he1) rfl rfl rfl hz2 hz2 hn8 (by rw [hz, hn9]; omega) (by rw [hz, hn9]; omega) (fun i hi => rfl) hfr hlo hdg (fun H1 locs1 hP1 hD1 hS1 => ?_)
  rw [hz, hn9] at hP1
  have hP2 := qset_cell hP1 (qcell_cpy _ _ _ _)
  have hD2 := (hG.2.2.2 rfl).set (qat he1) (e := qA (E' 0) nn f)
  rw [qset he1, hw9] at hP2 hD2
  exact k ls H1 locs1 hl ⟨hP2, hS1, fun h => (by cases h), fun _ => hD2⟩
theorem z_copyl (C : qC X l D E false F cc own nL Ts rm) {a a0 nn : Nat} {f g : Nat → Int64} (q0 q1 : Nat) (he0 : ws[q0]? = some (a0, qL (E 1) nn f)) (he1 : ws[q1]? = some (a, qL (E 1) nn g)) (hnn : nn < 2 ^ 31) (h1 : Cond.methodLink own index arraycopyName ∈ Ts) (h2 : Cond.native arraycopyName ∈ Ts) (h3 : Cond.static arraycopyName ∈ Ts) (h4 : Cond.initialized "java/lang/System" ∈ Ts) {ws' : va_W} (hw9 : ws.set q1 (a, qL (E 1) nn f) = ws') (hfr : 1 ≤ rm.frames) (hlo : (st.map fun v => v.category).sum + (nativeFrameWords "java/lang/System" "arraycopy" 5 + 11) ≤ rm.locals) (hdg : decode cc pc = .ok (.invokestatic index, 3)) (k : qZ X 0 0 ws' (pc + 3) lv st) : qZ X 0 0 ws pc lv (.int (qI (nn : Int)) :: .int (qI 0) :: .ref a :: .int (qI 0) :: .ref a0 :: st) := by
  obtain ⟨⟨p, l', e, R⟩, ⟨s, m, args, below, meth, c⟩, ⟨nL', D', E', ro', A, pl, F''⟩, Q⟩ := X
  obtain ⟨⟨rfl, rfl, rfl, rfl, rfl, rfl, rfl⟩, hx, hb, hml, hown, hts, hK, hFz, hFo, hA⟩ := C
  intro ls H locs hl hG
  have hz : (qI 0).toNatClampNeg = 0 := by decide
  have hz2 : ¬ (qI 0) < 0 := by decide
  have hn9 : (qI (nn : Int)).toNatClampNeg = nn := by rw [qI_clamp (by omega) (by omega)]; simp
  have hn8 : ¬ (qI (nn : Int)) < 0 := by rw [qI_nat]; exact nI_pos hnn
  refine va_copyl hx hb (hml.trans hl.1.symm) hown (hts _ h1) (hts _ h2) (hts _ h3) (hts _ h4) hK.1 hG.1 (hG.2.2.2 rfl) hG.2.1 q0 q1 1 1 (qat he0) (qat he1) rfl rfl rfl hz2 hz2 hn8 (by rw [hz, hn9]; omega) (by rw [hz, hn9]; omega) (fun i hi => rfl) hfr hlo hdg (fun H1 locs1 hP1 hD1 hS1 => ?_)
  rw [hz, hn9] at hP1
  have hP2 := qset_cell hP1 (qcell_cpyL _ _ _ _)
  have hD2 := (hG.2.2.2 rfl).set (qat he1) (e := qL (E' 1) nn f)
  rw [qset he1, hw9] at hP2 hD2
  exact k ls H1 locs1 hl ⟨hP2, hS1, fun h => (by cases h), fun _ => hD2⟩
end QCALL
