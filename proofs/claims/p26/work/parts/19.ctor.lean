/-! CONSTRUCTORS -/
def qNW (l : Launch) (D : va_G) (E : Nat → ClassId) (F : qFz) (y : MethodName) (wsy : List Cond) (fr lo mc ms : Nat) (wc : va_W) (av : List Value) {σ : Type} (W' : σ → va_W) (Φ : σ → Prop) : Prop :=
  ∀ sz : Nat, Met l y wsy { frames := fr, cells := mc, slots := ms, locals := lo } (va_Pc av (fun U => U.heap.size = sz ∧ va_P D vwCl wc U.heap ∧ qK D E U ∧ va_D (fun _ => True) wc ∧ F (va_A wc sz) U)) (fun _ s o t => (∃ u, o = .returned none ∧ Φ u ∧ va_P D vwCl (W' u) t.heap ∧ qK D E t ∧ va_D (va_A wc sz) (W' u)) ∧ va_F (va_A wc sz) s t) mc ms (va_A wc sz)
def qIn (X : qX) : Prop := X.2.1.2.2.2.2.1.name = "<init>"
def qFa : qFz := fun _ U => va_AO "PhosphorHush$State" U ∧ va_AO "PhosphorHush$Screen" U
theorem qFa_ok : qFok qFa := ⟨fun A U g mk a h => ⟨va_AO.moved (u := U) (Vm.Alike.refl U.vm) h.1, va_AO.moved (u := U) (Vm.Alike.refl U.vm) h.2⟩, fun A B s U hW _ _ h => ⟨va_AO.moved hW.alike h.1, va_AO.moved hW.alike h.2⟩⟩
theorem qNW_of {l : Launch} {D : va_G} {E : Nat → ClassId} {F : qFz} {y : MethodName} {wsy ws' : List Cond} {fr lo nL mc ms : Nat} {wc : va_W} {av : List Value} {cc : ByteArray} {own : String} {σ : Type} {W' : σ → va_W} {Φ : σ → Prop} (hF : qFok F) (hy : plainName y.cls = true) (hw : wsy = Cond.code y cc nL none :: ws') (hc : y.cls = own) (hi : y.name = "<init>") (hn : (lg_sl av).length ≤ nL)
    (body : ∀ X : qX, qC X l D E false F cc own nL wsy { frames := fr, cells := mc, slots := ms, locals := lo } → qIn X → (∀ (pc : Nat) (lv : List (Nat × Value)) (u : σ), decode cc pc = .ok (.return_, 1) → Φ u → qZ X mc ms (W' u) pc lv []) → qZ X 0 0 wc 0 (lv_args 0 av) []) : qNW l D E F y wsy fr lo mc ms wc av W' Φ := by
  intro sz
  refine Met.ofW (cc := cc) (maxL := nL) (ret := none) hy hw ?_
  intro p e s m args below meth c s₁ B hml hv
  obtain ⟨rfl, hsz, hP, hK, hD0, hFz⟩ := hv
  have hts := atoms_spec (ws := wsy) B.pre
  have hown : s.vm.findClass own = some m.cls := by rw [← hc]; exact findClass_of_methodNamed B.named
  have hlocks := B.notSynchronized
  have hx := B.exec
  have hb := B.bytes
  have hr := B.returns
  have hin : meth.name = y.name := (name_of_methodNamed B.named B.method).1
  subst hsz
  have hD := hD0.self (sz := s.heap.size)
  have hl := lv_entry av (n := nL) hn
  rw [lg_entry_eq]
  have hZ := body ⟨⟨p, l, e, (headSpec wsy { frames := fr, cells := mc, slots := ms, locals := lo }).room⟩, ⟨s, m, av.toArray, below, meth, c⟩, ⟨nL, D, E, false, va_A wc s.heap.size, [], F⟩, MQ below (fun _ s9 o t => (∃ u, o = .returned none ∧ Φ u ∧ va_P D vwCl (W' u) t.heap ∧ qK D E t ∧ va_D (va_A wc s.heap.size) (W' u)) ∧ va_F (va_A wc s.heap.size) s9 t) av.toArray s mc ms (va_A wc s.heap.size)⟩
    ⟨⟨rfl, rfl, rfl, rfl, rfl, rfl, rfl⟩, B.exec, B.bytes, hml, hown, hts, hK, hFz, hF, fun _ q h => Or.inr h⟩ (hin.trans hi) ?_
  · exact hZ _ s.heap [] hl ⟨by rw [List.append_nil]; exact hP, va_S.rf, fun h => (by cases h), fun _ => by rw [List.append_nil]; exact hD⟩
  · intro pc lv u hd hφ ls H locs hl hG
    obtain ⟨hP2, hS2, -, hD2⟩ := hG
    have hD2 := hD2 rfl
    rw [List.append_nil] at hP2 hD2
    exact W.vret hx hb hr (fun t ht hW => ⟨⟨u, rfl, hφ, by rw [ht]; exact hP2, hK.warm hW, hD2⟩, hS2.F ht⟩) hS2.2.2 hd hlocks
section QCT
variable {X : qX} {l : Launch} {D : va_G} {E : Nat → ClassId} {F F' : qFz} {cc : ByteArray} {own : String} {nL : Nat} {Ts : List Cond} {rm : Room} {cells slots : Nat} {ws : va_W} {pc : Nat} {lv : List (Nat × Value)} {st : List Value} {index : Nat}
theorem qP_last {H : Heap} {x : Nat × va_E} {pl : va_W} (h : va_P D vwCl ((ws ++ pl) ++ [x]) H) : va_P D vwCl ((ws ++ [x]) ++ pl) H := h.swap
theorem qD_last {A : Nat → Prop} {x : Nat × va_E} {pl : va_W} (h : va_D A ((ws ++ pl) ++ [x])) : va_D A ((ws ++ [x]) ++ pl) := h.swap

theorem z_objI (C : qC X l D E false F cc own nL Ts rm) (h1 : Cond.methodLink own index objectInit ∈ Ts) (h2 : Cond.instanceMethod objectInit ∈ Ts) (h3 : Cond.code objectInit ⟨#[0xb1]⟩ 1 none ∈ Ts) {a : Nat} (hfr : 1 ≤ rm.frames) (hlo : (st.map fun v => v.category).sum + 12 ≤ rm.locals) (hdg : decode cc pc = .ok (.invokespecial index, 3)) (k : qZ X cells slots ws (pc + 3) lv st) : qZ X cells slots ws pc lv (.ref a :: st) := by
  obtain ⟨⟨p, l', e, R⟩, ⟨s, m, args, below, meth, c⟩, ⟨nL', D', E', ro', A, pl, F''⟩, Q⟩ := X
  obtain ⟨⟨rfl, rfl, rfl, rfl, rfl, rfl, rfl⟩, hx, hb, hml, hown, hts, hK, hFz, hFo, hA⟩ := C
  intro ls H locs hl hG
  refine W.objInit hx hb hown (hts _ h1) (hts _ h2) (hts _ h3) rfl (by rw [hml]; exact hl.1) rfl hdg hfr (by show 2 * 0 + _ + 12 ≤ _; omega) ?_
  exact k ls H locs hl hG
theorem z_putF (C : qC X l D E false F cc own nL Ts rm) (hin9 : qIn X) {ref C9 : String} {T : u_T} {N ci a : Nat} (hin : ∀ w ∈ u_ws C9 T N, w ∈ Ts) (ty0 : Nat → FieldType) (hty : ∀ k, k < N → parseFieldDescriptor (T k).2.2.1 = some (ty0 k)) (hnm : ∀ a, a < N → ∀ b, b < N → a ≠ b → (T a).2.1 ≠ (T b).2.1) (q0 : Nat) {fs : List Value} (he : ws[q0]? = some (a, .inr (ci, fs))) (hc : vwCl[ci]? = some (C9, T, N)) (k0 : Nat) (hk : k0 < N) (hlink : Cond.fieldLink own index ref (T k0).2.1 (T k0).2.2.1 ∈ Ts) (hsame : (T k0).1 = ref) (hfin : (T k0).2.2.2 = true) (hdecl : (T k0).1 = own) {ty : FieldType} {v : Value} (hd : parseFieldDescriptor (T k0).2.2.1 = some ty) (hn : narrow ty v = v) (hfit : fits ty v = true) (hl9 : k0 < fs.length) {ws' : va_W} (hw : ws.set q0 (a, .inr (ci, fs.set k0 v)) = ws') (hdg : decode cc pc = .ok (.putfield index, 3)) (k : qZ X cells slots ws' (pc + 3) lv st) : qZ X cells slots ws pc lv (v :: .ref a :: st) := by
  obtain ⟨⟨p, l', e, R⟩, ⟨s, m, args, below, meth, c⟩, ⟨nL', D', E', ro', A, pl, F''⟩, Q⟩ := X
  obtain ⟨⟨rfl, rfl, rfl, rfl, rfl, rfl, rfl⟩, hx, hb, hml, hown, hts, hK, hFz, hFo, hA⟩ := C
  intro ls H locs hl hG
  refine va_putF hx hb hts hin ty0 hty hnm hown hK.1 hG.1 (hG.2.2.2 rfl) hG.2.1 q0 (qat he) hc k0 hk (hts _ hlink) (fun x h => by rw [← hsame]; exact h) hfin hin9 hdecl hd hn hfit hl9 hdg (fun H1 locs1 hP1 hD1 hS1 => ?_)
  rw [qset he, hw] at hP1 hD1
  exact k ls H1 locs1 hl ⟨hP1, hS1, fun h => (by cases h), fun _ => hD1⟩
theorem z_newa (C : qC X l D E false F cc own nL Ts rm) {atype : ArrayType} {ty : FieldType} {k0 : Nat} {cA : ClassId} (a0 : vp_A) {nn : Nat} (hA9 : Cond.arrayClass (newarray.typeOf atype) ∈ Ts) (hty : newarray.typeOf atype = ty) (ht : (qTY E)[k0]? = some (cA, ty)) (hpr : ∀ (U : State) (c9 : ClassId), va_RA U c9 ty → U.vm.findClass ("[" ++ ty.toString) = some c9) (ha : ∀ c9 : ClassId, vp_cell c9 a0 = arrV c9 nn (fun _ => defaultValue ty)) (hn : nn < 2 ^ 31) (hby : nn * componentBytes ty ≤ 536870912) (hc : cells + 1 ≤ rm.cells) (hs : slots + nn ≤ rm.slots) (hdg : decode cc pc = .ok (.newarray atype, 2)) (k : ∀ q : Nat, qZ X (cells + 1) (slots + nn) (ws ++ [(q, .inl (cA, a0))]) (pc + 2) lv (.ref q :: st)) : qZ X cells slots ws pc lv (.int (qI (nn : Int)) :: st) := by
  obtain ⟨⟨p, l', e, R⟩, ⟨s, m, args, below, meth, c⟩, ⟨nL', D', E', ro', A, pl, F''⟩, Q⟩ := X
  obtain ⟨⟨rfl, rfl, rfl, rfl, rfl, rfl, rfl⟩, hx, hb, hml, hown, hts, hK, hFz, hFo, hA⟩ := C
  intro ls H locs hl hG
  have hn9 : (qI (nn : Int)).toNatClampNeg = nn := by rw [qI_clamp (by omega) (by omega)]; simp
  have hn8 : ¬ (qI (nn : Int)) < 0 := by rw [qI_nat]; exact nI_pos hn
  refine va_newa hx hb (hts _ hA9) hty hK.1 hG.1 (hG.2.2.2 rfl) hG.2.1 (hA rfl) ha hn8 hn9 hby hc hs hdg (fun q c9 H1 hK1 hP1 hD1 hS1 => ?_)
  have e9 : c9 = cA := by
    have h1 := hpr _ _ (hK1.2 (qTY E').length (c9, ty) (by simp)).2
    have h2 := hpr _ _ (hK.1.2 k0 (cA, ty) ht).2
    exact Option.some.inj (h1.symm.trans h2)
  subst e9
  exact k q ls H1 locs hl ⟨qP_last hP1, hS1, fun h => (by cases h), fun _ => qD_last hD1⟩
theorem z_newq (C : qC X l D E false F cc own nL Ts rm) {C9 : String} {k0 nn : Nat} {cA : ClassId} (hcl : Cond.classLink own index C9 ∈ Ts) (hov : ∀ A U, F A U → va_AO C9 U) (ht : (qTY E)[k0]? = some (cA, .object C9)) (hn : nn < 2 ^ 31) (hby : nn * 4 ≤ 536870912) (hc : cells + 1 ≤ rm.cells) (hs : slots + nn ≤ rm.slots) (hdg : decode cc pc = .ok (.anewarray index, 3)) (k : ∀ q : Nat, qZ X (cells + 1) (slots + nn) (ws ++ [(q, qO cA nn (fun _ => none))]) (pc + 3) lv (.ref q :: st)) : qZ X cells slots ws pc lv (.int (qI (nn : Int)) :: st) := by
  obtain ⟨⟨p, l', e, R⟩, ⟨s, m, args, below, meth, c⟩, ⟨nL', D', E', ro', A, pl, F''⟩, Q⟩ := X
  obtain ⟨⟨rfl, rfl, rfl, rfl, rfl, rfl, rfl⟩, hx, hb, hml, hown, hts, hK, hFz, hFo, hA⟩ := C
  intro ls H locs hl hG
  have hn9 : (qI (nn : Int)).toNatClampNeg = nn := by rw [qI_clamp (by omega) (by omega)]; simp
  have hn8 : ¬ (qI (nn : Int)) < 0 := by rw [qI_nat]; exact nI_pos hn
  refine va_newq hx hb hown (hts _ hcl) (hov _ _ hFz) hK.1 hG.1 (hG.2.2.2 rfl) hG.2.1 (hA rfl) hn8 hn9 hby hc hs hdg (fun q c9 H1 hK1 hP1 hD1 hS1 => ?_)
  have e9 : c9 = cA := by
    obtain ⟨_, _, _, _, _, h1⟩ := (hK1.2 (qTY E').length (c9, .object C9) (by simp)).2
    obtain ⟨_, _, _, _, _, h2⟩ := (hK.1.2 k0 (cA, .object C9) ht).2
    exact Option.some.inj (h1.symm.trans h2)
  subst e9
  exact k q ls H1 locs hl ⟨qP_last hP1, hS1, fun h => (by cases h), fun _ => qD_last hD1⟩
theorem z_new (C : qC X l D E false F cc own nL Ts rm) {C9 : String} {T : u_T} {N ci : Nat} (hin : ∀ w ∈ u_ws C9 T N, w ∈ Ts) (ty : Nat → FieldType) (hty : ∀ k, k < N → parseFieldDescriptor (T k).2.2.1 = some (ty k)) (hcl : Cond.classLink own index C9 ∈ Ts) (hinst : Cond.instantiable C9 N ∈ Ts) (hini : Cond.initialized C9 ∈ Ts) (hc9 : vwCl[ci]? = some (C9, T, N)) (fs : List Value) (hfs : ∀ j, j < N → defaultValue (ty j) = vp_V fs j) (hc : cells + 1 ≤ rm.cells) (hs : slots + N ≤ rm.slots) (hdg : decode cc pc = .ok (.new index, 3)) (k : ∀ q : Nat, qZ X (cells + 1) (slots + N) (ws ++ [(q, .inr (ci, fs))]) (pc + 3) lv (.ref q :: st)) : qZ X cells slots ws pc lv st := by
  obtain ⟨⟨p, l', e, R⟩, ⟨s, m, args, below, meth, c⟩, ⟨nL', D', E', ro', A, pl, F''⟩, Q⟩ := X
  obtain ⟨⟨rfl, rfl, rfl, rfl, rfl, rfl, rfl⟩, hx, hb, hml, hown, hts, hK, hFz, hFo, hA⟩ := C
  intro ls H locs hl hG
  refine va_new hx hb hts hin ty hty hown (hts _ hcl) (hts _ hinst) (hts _ hini) hK.1 hG.1 (hG.2.2.2 rfl) hG.2.1 (hA rfl) hc9 hfs hc hs hdg (fun q H1 hP1 hD1 hS1 => ?_)
  exact k q ls H1 locs hl ⟨qP_last hP1, hS1, fun h => (by cases h), fun _ => qD_last hD1⟩
theorem z_cs {c2 s2 : Nat} (h1 : cells ≤ c2) (h2 : slots ≤ s2) (k : qZ X c2 s2 ws pc lv st) : qZ X cells slots ws pc lv st := by
  obtain ⟨⟨p, l', e, R⟩, ⟨s, m, args, below, meth, c⟩, ⟨nL', D', E', ro', A, pl, F''⟩, Q⟩ := X
  intro ls H locs hl hG
  exact W.widen h1 h2 (k ls H locs hl hG)
variable {y : MethodName} {wsy ws'' : List Cond} {fr lo mc ms maxL : Nat} {bytes : ByteArray} {b : Nat} {e0 : va_E} {σ : Type} {W' : σ → va_W} {Φ : σ → Prop} {host : String}
theorem qfinNW {p : Program} {e : Env} {R : Room} {s : State} {m : MethodId} {args : Array Value} {below : List Frame} {meth : Method} {c : Code} {H : Heap} {locs : List Loc} {Q : State → Prop} {ls : Array Slot} {a : Array Value} {stk : List Value} {A : Nat → Prop} {pl : va_W}
    (hr : va_Run p l e R s m args below meth c H locs cells slots mc ms (F0 m pc ls stk) st ((fun (_ : Array Value) s o t => (∃ u, o = .returned none ∧ Φ u ∧ va_P D vwCl (W' u) t.heap ∧ qK D E t ∧ va_D (va_A [(b, e0)] H.size) (W' u)) ∧ va_F (va_A [(b, e0)] H.size) s t) a) (va_A [(b, e0)] H.size))
    (hS : va_S A s.heap H locs) (hA : ∀ q, va_A [(b, e0)] H.size q → A q) (hP : va_P D vwCl (([(b, e0)] ++ ws) ++ pl) H) (hD : va_D A (([(b, e0)] ++ ws) ++ pl))
    (k : ∀ u (H1 : Heap) (locs1 : List Loc), Φ u → va_P D vwCl ((ws ++ W' u) ++ pl) H1 → va_D A ((ws ++ W' u) ++ pl) → va_S A s.heap H1 locs1 → W p l e R s m args below meth c H1 locs1 (cells + mc) (slots + ms) Q (F0 m (pc + 3) ls st)) : W p l e R s m args below meth c H locs cells slots Q (F0 m pc ls stk) := by
  intro T hT X
  obtain ⟨v, st₀, t, T', L, h0, X', hL, e1, e2, ⟨⟨u, hv, hp, hP1, hK1, hD1⟩, hz, hk⟩, stp⟩ := hr T hT X
  have hv := Outcome.returned.inj hv
  subst hv
  rw [h0] at hz hk
  rw [← e1] at hP1 hz
  have hk : ∀ q : Nat, q < H.size → ¬ va_A [(b, e0)] H.size q → T'.heap[q]? = H[q]? := fun q h1 h2 => by rw [e1]; exact hk q h1 h2
  have hPa : va_P D vwCl ([(b, e0)] ++ (ws ++ pl)) H := by rw [← List.append_assoc]; exact hP
  have hDa : va_D A ([(b, e0)] ++ (ws ++ pl)) := by rw [← List.append_assoc]; exact hD
  obtain ⟨hP2, hD2⟩ := va_joinQ (wr := []) hPa hDa [0] [] rfl rfl rfl (fun _ h => by cases h) hk hA hP1 hD1
  have hP3 : va_P D vwCl (([] ++ W' u) ++ (ws ++ pl)) T'.heap := hP2
  have hD3 : va_D A (([] ++ W' u) ++ (ws ++ pl)) := hD2
  rw [List.nil_append, ← List.append_assoc] at hP3 hD3
  have hP4 : va_P D vwCl (([] ++ W' u ++ ws) ++ pl) T'.heap := hP3
  have sw : ∀ {B : Nat → Prop}, va_D B (W' u ++ ws ++ pl) → va_D B (ws ++ W' u ++ pl) := fun h => by
    have h2 := h.swap (a := W' u) (b := ws) (c := pl)
    have h3 : va_D _ ((([] ++ (W' u ++ pl)) ++ ws)) := h2
    have h4 := h3.swap
    rw [List.nil_append, ← List.append_assoc] at h4
    exact h4
  have swP : va_P D vwCl (W' u ++ ws ++ pl) T'.heap → va_P D vwCl (ws ++ W' u ++ pl) T'.heap := fun h => by
    have h2 := h.swap (a := W' u) (b := ws) (c := pl)
    have h3 : va_P _ _ ((([] ++ (W' u ++ pl)) ++ ws)) _ := h2
    have h4 := h3.swap
    rw [List.nil_append, ← List.append_assoc] at h4
    exact h4
  obtain ⟨t2, a1, b1⟩ := k u T'.heap (locs ++ L) hp (swP hP3) (sw hD3) ⟨Nat.le_trans hS.1 hz, fun q h1 h2 => by rw [hk q (Nat.lt_of_lt_of_le h1 hS.1) (fun z => h2 (hA q z))]; exact hS.2.1 q h1 h2, fun q hq => by
      rcases List.mem_append.mp hq with h | h
      · exact hS.2.2 q h
      · exact hA _ (hL q h)⟩ T' rfl X'
  exact ⟨t2, stp t2 a1, b1⟩
theorem qpreNW {s : State} {H : Heap} {locs : List Loc} {A : Nat → Prop} {pl : va_W} (hF' : qFok F') (hFF : ∀ A U, F A U → F' A U) (hFo : qFok F) (hFz : F A s) (hK : qK D E s) (hS : va_S A s.heap H locs) (hP : va_P D vwCl ((ws ++ [(b, e0)]) ++ pl) H) (hD : va_D A ((ws ++ [(b, e0)]) ++ pl)) (hA : ∀ q, s.heap.size ≤ q → A q) :
    va_P D vwCl (([(b, e0)] ++ ws) ++ pl) H ∧ va_D A (([(b, e0)] ++ ws) ++ pl) ∧ (∀ q, va_A [(b, e0)] H.size q → A q) ∧ (FrameBlind (va_Pc [.ref b] (fun U => U.heap.size = H.size ∧ va_P D vwCl [(b, e0)] U.heap ∧ qK D E U ∧ va_D (fun _ => True) [(b, e0)] ∧ F' (va_A [(b, e0)] H.size) U)) ∧ ∀ U : State, U.heap = H → s.WarmedH U.vm → va_Pc [.ref b] (fun U => U.heap.size = H.size ∧ va_P D vwCl [(b, e0)] U.heap ∧ qK D E U ∧ va_D (fun _ => True) [(b, e0)] ∧ F' (va_A [(b, e0)] H.size) U) [Value.ref b].toArray U) := by
  have hP2 : va_P D vwCl (([(b, e0)] ++ ws) ++ pl) H := by
    have h1 := hP.swap (a := ws) (b := [(b, e0)]) (c := pl)
    have h2 : va_P _ _ (([] ++ (ws ++ pl)) ++ [(b, e0)]) _ := h1
    have h3 := h2.swap
    rw [List.nil_append, ← List.append_assoc] at h3
    exact h3
  have hD2 : va_D A (([(b, e0)] ++ ws) ++ pl) := by
    have h1 := hD.swap (a := ws) (b := [(b, e0)]) (c := pl)
    have h2 : va_D _ (([] ++ (ws ++ pl)) ++ [(b, e0)]) := h1
    have h3 := h2.swap
    rw [List.nil_append, ← List.append_assoc] at h3
    exact h3
  have hC : [0].map (fun i => ([(b, e0)] ++ ws)[i]?) = ([(b, e0)] : va_W).map some := rfl
  have hFc := qfreeC hD2 hS hA [0] hC
  exact ⟨hP2, hD2, hFc, qpreRW hF' hFF hFo hFz hK hS (hP2.sub [0] (qfm _ _ (qmapapp [0] [(b, e0)] hC))) (qDcut hD2 [0] rfl hC) (fun q _ h => hFc q h)⟩
theorem z_callN (C : qC X l D E false F cc own nL Ts rm) (hM : qNW l D E F' y wsy fr lo mc ms [(b, e0)] [.ref b] W' Φ) (hF' : qFok F') (hFF : ∀ A U, F A U → F' A U) (hT : GoodIn Ts wsy) (hw : wsy = Cond.code y bytes maxL none :: ws'') (hini : Cond.initialized y.cls ∈ Ts) (hlk : Cond.methodLink own index y ∈ Ts) (hinm : Cond.instanceMethod y ∈ Ts) (hy1 : y.name = "<init>")
    (hd : y.cls ≠ "java/lang/invoke/MethodHandle" ∧ y.cls ≠ "java/lang/invoke/VarHandle" ∧ (parseMethodDescriptor y.desc).map (fun d => d.parameters.length) = some 0) (hR : fr + 1 ≤ rm.frames ∧ 8 + (maxL + 11) + lo ≤ rm.locals) (hcat : (st.map fun v => v.category).sum ≤ 8) (hc : cells + mc ≤ rm.cells ∧ slots + ms ≤ rm.slots) (hdg : decode cc pc = .ok (.invokespecial index, 3))
    (k : ∀ u, Φ u → qZ X (cells + mc) (slots + ms) (ws ++ W' u) (pc + 3) lv st) : qZ X cells slots (ws ++ [(b, e0)]) pc lv (.ref b :: st) := by
  obtain ⟨⟨p, l', e, R⟩, ⟨s, m, args, below, meth, c⟩, ⟨nL', D', E', ro', A, pl, F''⟩, Q⟩ := X
  obtain ⟨⟨rfl, rfl, rfl, rfl, rfl, rfl, rfl⟩, hx, hb, hml, hown, hts, hK, hFz, hFo, hA⟩ := C
  intro ls H locs hl hG
  obtain ⟨hP, hD, hFc, hpre⟩ := qpreNW hF' hFF hFo hFz hK hG.2.1 hG.1 (hG.2.2.2 rfl) (hA rfl)
  exact qfinNW (a := #[Value.ref b]) (va_runI (As := []) (g := F0 m pc ls (.ref b :: st)) ⟨hx, hb, hml, hown, hts⟩ (hM H.size) (cwI 0 hts hT hw rfl rfl (hts _ hini) (hts _ hlk) (hts _ hinm) hy1 hd hR) hpre rfl rfl hl.1 rfl (lv_room hcat) hdg hc) hG.2.1 hFc hP hD (fun u H1 locs1 hφ hP1 hD1 hS1 => k u hφ ls H1 locs1 hl ⟨hP1, hS1, fun h => (by cases h), fun _ => hD1⟩)
theorem z_callNn (C : qC X l D E false F cc own nL Ts rm) (hM : qNW l D E F' y wsy fr lo mc ms [(b, e0)] [.ref b] W' Φ) (hF' : qFok F') (hFF : ∀ A U, F A U → F' A U) (hT : GoodIn Ts wsy) (hw : wsy = Cond.code y bytes maxL none :: ws'') (hini : Cond.initialized y.cls ∈ Ts) (hnl : (own, index, y, host) ∈ qNL) (hinm : Cond.instanceMethod y ∈ Ts) (hy1 : y.name = "<init>")
    (hd : y.cls ≠ "java/lang/invoke/MethodHandle" ∧ y.cls ≠ "java/lang/invoke/VarHandle" ∧ (parseMethodDescriptor y.desc).map (fun d => d.parameters.length) = some 0) (hR : fr + 1 ≤ rm.frames ∧ 8 + (maxL + 11) + lo ≤ rm.locals) (hcat : (st.map fun v => v.category).sum ≤ 8) (hc : cells + mc ≤ rm.cells ∧ slots + ms ≤ rm.slots) (hdg : decode cc pc = .ok (.invokespecial index, 3))
    (k : ∀ u, Φ u → qZ X (cells + mc) (slots + ms) (ws ++ W' u) (pc + 3) lv st) : qZ X cells slots (ws ++ [(b, e0)]) pc lv (.ref b :: st) := by
  obtain ⟨⟨p, l', e, R⟩, ⟨s, m, args, below, meth, c⟩, ⟨nL', D', E', ro', A, pl, F''⟩, Q⟩ := X
  obtain ⟨⟨rfl, rfl, rfl, rfl, rfl, rfl, rfl⟩, hx, hb, hml, hown, hts, hK, hFz, hFo, hA⟩ := C
  intro ls H locs hl hG
  obtain ⟨hP, hD, hFc, hpre⟩ := qpreNW hF' hFF hFo hFz hK hG.2.1 hG.1 (hG.2.2.2 rfl) (hA rfl)
  exact qfinNW (a := #[Value.ref b]) (va_runIN (As := []) (g := F0 m pc ls (.ref b :: st)) ⟨hx, hb, hml, hown, hts⟩ (hM H.size) ⟨va_cnB 0 hts hT hw rfl rfl (hK.2 _ hnl) (hts _ hini) hd hR, hy1, hts _ hinm⟩ hpre rfl rfl hl.1 rfl (lv_room hcat) hdg hc) hG.2.1 hFc hP hD (fun u H1 locs1 hφ hP1 hD1 hS1 => k u hφ ls H1 locs1 hl ⟨hP1, hS1, fun h => (by cases h), fun _ => hD1⟩)
theorem qdv (n : Nat) (c9 : ClassId) : vp_cell c9 (n, .inl (fun k => qI ((fun _ => (0 : Int)) k))) = arrV c9 n (fun _ => .int 0) := by
  rw [vp_cell_i]
  exact qarrV (fun j _ => by show Value.int (qI 0) = Value.int 0; rw [show qI 0 = 0 by decide])
theorem qdvL (n : Nat) (c9 : ClassId) : vp_cell c9 (n, .inr (.inl (fun _ => (0 : Int64)))) = arrV c9 n (fun _ => .long 0) := by
  rw [vp_cell_l]
end QCT
def qSe0 : Nat → Int := qU (qU (qU (qU (qU (qU (fun _ => 0) (0 : Int).toNat 60) (1 : Int).toNat 1) (2 : Int).toNat 20) (3 : Int).toNat 0) (4 : Int).toNat 4) (5 : Int).toNat 60
def qSc0 : qSc := (0, fun _ => 0, fun _ => 0, fun _ => 0, qSe0)
def qSt0 : qSt := (fun _ => 0, qSc0, qSc0, qSc0)

section QCT2
variable {X : qX} {l : Launch} {D : va_G} {E : Nat → ClassId} {F : qFz} {cc : ByteArray} {own : String} {nL : Nat} {Ts : List Cond} {rm : Room} {cells slots : Nat} {ws : va_W} {pc : Nat} {lv : List (Nat × Value)} {st : List Value}
theorem z_aastg (C : qC X l D E false F cc own nL Ts rm) {a nn t0 qk ci v : Nat} {cA : ClassId} {rr : vw_C} {vs : List Value} {f : Nat → Option Nat} (q0 : Nat) (he : ws[q0]? = some (a, qO cA nn f)) (ht : (qTY E)[t0]? = some (cA, .object rr.1)) (hn : nn < 2 ^ 31) (hv : ws[qk]? = some (v, .inr (ci, vs))) (hc : vwCl[ci]? = some rr) {i : Int} (hi : 0 ≤ i ∧ i < nn) {ws' : va_W} (hw : ws.set q0 (a, qO cA nn (va_up f i.toNat (some v))) = ws') (hdg : decode cc pc = .ok (.aastore, 1)) (k : qZ X cells slots ws' (pc + 1) lv st) : qZ X cells slots ws pc lv (.ref v :: .int (qI i) :: .ref a :: st) := by
  obtain ⟨⟨p, l', e, R⟩, ⟨s, m, args, below, meth, c⟩, ⟨nL', D', E', ro', A, pl, F''⟩, Q⟩ := X
  obtain ⟨⟨rfl, rfl, rfl, rfl, rfl, rfl, rfl⟩, hx, hb, hml, hown, hts, hK, hFz, hFo, hA⟩ := C
  intro ls H locs hl hG
  refine va_astq hx hb hK.1 hG.1 (hG.2.2.2 rfl) hG.2.1 q0 t0 qk ci (qat he) ht (qat hv) hc (qI_in hi hn) hdg (fun H1 locs1 hP1 hD1 hS1 => ?_)
  rw [qI_clamp hi.1 (by omega), qset he, hw] at hP1 hD1
  exact k ls H1 locs1 hl ⟨hP1, hS1, fun h => (by cases h), fun _ => hD1⟩
theorem z_oeqg (C : qC X l D E false F cc own nL Ts rm) {a nn : Nat} {cA : ClassId} {f g : Nat → Option Nat} (q0 : Nat) (he : ws[q0]? = some (a, qO cA nn f)) (hfg : ∀ j, j < nn → f j = g j) {ws' : va_W} (hw : ws.set q0 (a, qO cA nn g) = ws') (k : qZ X cells slots ws' pc lv st) : qZ X cells slots ws pc lv st := by
  obtain ⟨⟨p, l', e, R⟩, ⟨s, m, args, below, meth, c⟩, ⟨nL', D', E', ro', A, pl, F''⟩, Q⟩ := X
  obtain ⟨⟨rfl, rfl, rfl, rfl, rfl, rfl, rfl⟩, hx, hb, hml, hown, hts, hK, hFz, hFo, hA⟩ := C
  intro ls H locs hl hG
  have e9 : vp_cell cA (nn, .inr (.inr (.inr (.inr f)))) = vp_cell cA (nn, .inr (.inr (.inr (.inr g)))) := by
    rw [vp_cell_q, vp_cell_q]
    exact qarrV (fun j hj => by rw [hfg j hj])
  have h1 : (ws ++ pl).set q0 (a, qO cA nn f) = ws ++ pl := by
    obtain ⟨hq, h2⟩ := List.getElem?_eq_some_iff.mp (qat (pl := pl) he)
    rw [← h2]
    exact List.set_getElem_self hq
  have hP1 := hG.1
  rw [← h1] at hP1
  have hP2 := qset_cell hP1 e9
  have hD2 := (hG.2.2.2 rfl).set (qat he) (e := qO cA nn g)
  rw [qset he, hw] at hP2 hD2
  exact k ls H locs hl ⟨hP2, hG.2.1, fun h => (by cases h), fun _ => hD2⟩
theorem z_permg (C : qC X l D E false F cc own nL Ts rm) (perm : List Nat) (hpn : va_nd perm = true) {ws' : va_W} (hp : perm.map (fun i => ws[i]?) = ws'.map some) (k : qZ X cells slots ws' pc lv st) : qZ X cells slots ws pc lv st := by
  obtain ⟨⟨p, l', e, R⟩, ⟨s, m, args, below, meth, c⟩, ⟨nL', D', E', ro', A, pl, F''⟩, Q⟩ := X
  obtain ⟨⟨rfl, rfl, rfl, rfl, rfl, rfl, rfl⟩, hx, hb, hml, hown, hts, hK, hFz, hFo, hA⟩ := C
  intro ls H locs hl hG
  exact k ls H locs hl ⟨hG.1.part perm hp, hG.2.1, fun h => (by cases h), fun _ => (hG.2.2.2 rfl).part perm hpn hp⟩
end QCT2

theorem iX0_init_X0 : ∀ w ∈ wsX00, w ∈ wsX0_init := fun w h => List.mem_cons_of_mem _ (List.mem_append_right _ (h))
set_option maxHeartbeats 4000000 in
set_option maxRecDepth 100000 in
theorem c_X0_init (l : Launch) (D : va_G) (E : Nat → ClassId) (h0 : Nat) : qNW (σ := Nat → Nat) l D E qF0 yX0_init wsX0_init 1 20 2 142 [(h0, .inr (0, [.null, .int (qI 0), .int (qI 0), .null]))] [.ref h0] (fun u => [(h0, .inr (0, [.ref (u 0), .int (qI 0), .int (qI 0), .ref (u 1)])), ((u 0), qA (E 3) 140 (fun _ => 0)), ((u 1), qA (E 0) 2 (fun _ => 0))]) (fun u => True) := by
  refine qNW_of (nL := 1) (own := RX0) qF0_ok (by decide) rfl rfl rfl (Nat.le_of_ble_eq_true rfl) (fun X C hI hend => ?_)
  show qZ X 0 0 [(h0, .inr (0, [.null, .int (qI 0), .int (qI 0), .null]))] 0 [(0, .ref h0)] []
  refine z_aload_n C 0 rfl rfl dX0_init_0 ?_
  refine z_objI C (List.mem_of_getElem? (i := 1) rfl) (List.mem_of_getElem? (i := 2) rfl) (List.mem_of_getElem? (i := 3) rfl) (Nat.le_of_ble_eq_true rfl) (Nat.le_of_ble_eq_true rfl) dX0_init_1 ?_
  refine z_aload_n C 0 rfl rfl dX0_init_4 ?_
  refine z_sipush C (by decide +kernel) dX0_init_5 ?_
  refine z_newa (atype := .char) (ty := .char) (k0 := 3) (nn := 140) C (140, .inl (fun k => qI ((fun _ => (0 : Int)) k))) (List.mem_of_getElem? (i := 4) rfl) rfl rfl (fun _ _ h => h) (qdv 140) (by decide) (by decide) (Nat.le_of_ble_eq_true rfl) (Nat.le_of_ble_eq_true rfl) dX0_init_8 (fun q1 => ?_)
  refine z_ws (ws' := ([(h0, .inr (0, [.null, .int (qI 0), .int (qI 0), .null]))] ++ [(q1, qA (E 3) 140 (fun _ => 0))])) rfl ?_
  refine z_putF (ty := (.array .char)) (ws' := ([(h0, .inr (0, [.ref q1, .int (qI 0), .int (qI 0), .null]))] ++ [(q1, qA (E 3) 140 (fun _ => 0))])) C hI iX0_init_X0 tyX0 tyX0_ok nmX0 0 rfl rfl 0 (by decide) (List.mem_of_getElem? (i := 5) rfl) rfl rfl rfl (by decide +kernel) rfl rfl (Nat.le_of_ble_eq_true rfl) rfl dX0_init_10 ?_
  refine z_aload_n C 0 rfl rfl dX0_init_13 ?_
  refine z_iconst C dX0_init_14 ?_
  refine z_newa (atype := .int) (ty := .int) (k0 := 0) (nn := 2) C (2, .inl (fun k => qI ((fun _ => (0 : Int)) k))) (List.mem_of_getElem? (i := 6) rfl) rfl rfl (fun _ _ h => h) (qdv 2) (by decide) (by decide) (Nat.le_of_ble_eq_true rfl) (Nat.le_of_ble_eq_true rfl) dX0_init_15 (fun q2 => ?_)
  refine z_ws (ws' := (([(h0, .inr (0, [.ref q1, .int (qI 0), .int (qI 0), .null]))] ++ [(q1, qA (E 3) 140 (fun _ => 0))]) ++ [(q2, qA (E 0) 2 (fun _ => 0))])) rfl ?_
  refine z_putF (ty := (.array .int)) (ws' := (([(h0, .inr (0, [.ref q1, .int (qI 0), .int (qI 0), .ref q2]))] ++ [(q1, qA (E 3) 140 (fun _ => 0))]) ++ [(q2, qA (E 0) 2 (fun _ => 0))])) C hI iX0_init_X0 tyX0 tyX0_ok nmX0 0 rfl rfl 3 (by decide) (List.mem_of_getElem? (i := 7) rfl) rfl rfl rfl (by decide +kernel) rfl rfl (Nat.le_of_ble_eq_true rfl) rfl dX0_init_17 ?_
  exact hend 20 _ (fun k => [q1, q2].getD k 0) dX0_init_20 trivial
theorem iX3_init_X3 : ∀ w ∈ wsX30, w ∈ wsX3_init := fun w h => List.mem_cons_of_mem _ (List.mem_append_right _ (h))
set_option maxHeartbeats 4000000 in
set_option maxRecDepth 100000 in
theorem c_X3_init (l : Launch) (D : va_G) (E : Nat → ClassId) (h0 : Nat) : qNW (σ := Nat → Nat) l D E qF0 yX3_init wsX3_init 1 20 3 49176 [(h0, .inr (3, [.long 0, .null, .int (qI 0), .null, .null, .int (qI 0)]))] [.ref h0] (fun u => [(h0, .inr (3, [.long 0, .ref (u 0), .int (qI 0), .ref (u 1), .ref (u 2), .int (qI 0)])), ((u 0), qA (E 0) 12 (fun _ => 0)), ((u 1), qA (E 0) 49152 (fun _ => 0)), ((u 2), qA (E 0) 12 (fun _ => 0))]) (fun u => True) := by
  refine qNW_of (nL := 1) (own := RX3) qF0_ok (by decide) rfl rfl rfl (Nat.le_of_ble_eq_true rfl) (fun X C hI hend => ?_)
  show qZ X 0 0 [(h0, .inr (3, [.long 0, .null, .int (qI 0), .null, .null, .int (qI 0)]))] 0 [(0, .ref h0)] []
  refine z_aload_n C 0 rfl rfl dX3_init_0 ?_
  refine z_objI C (List.mem_of_getElem? (i := 1) rfl) (List.mem_of_getElem? (i := 2) rfl) (List.mem_of_getElem? (i := 3) rfl) (Nat.le_of_ble_eq_true rfl) (Nat.le_of_ble_eq_true rfl) dX3_init_1 ?_
  refine z_aload_n C 0 rfl rfl dX3_init_4 ?_
  refine z_bipush C (by decide +kernel) dX3_init_5 ?_
  refine z_newa (atype := .int) (ty := .int) (k0 := 0) (nn := 12) C (12, .inl (fun k => qI ((fun _ => (0 : Int)) k))) (List.mem_of_getElem? (i := 4) rfl) rfl rfl (fun _ _ h => h) (qdv 12) (by decide) (by decide) (Nat.le_of_ble_eq_true rfl) (Nat.le_of_ble_eq_true rfl) dX3_init_7 (fun q1 => ?_)
  refine z_ws (ws' := ([(h0, .inr (3, [.long 0, .null, .int (qI 0), .null, .null, .int (qI 0)]))] ++ [(q1, qA (E 0) 12 (fun _ => 0))])) rfl ?_
  refine z_putF (ty := (.array .int)) (ws' := ([(h0, .inr (3, [.long 0, .ref q1, .int (qI 0), .null, .null, .int (qI 0)]))] ++ [(q1, qA (E 0) 12 (fun _ => 0))])) C hI iX3_init_X3 tyX3 tyX3_ok nmX3 0 rfl rfl 1 (by decide) (List.mem_of_getElem? (i := 5) rfl) rfl rfl rfl (by decide +kernel) rfl rfl (Nat.le_of_ble_eq_true rfl) rfl dX3_init_9 ?_
  refine z_aload_n C 0 rfl rfl dX3_init_12 ?_
  refine z_ldc (v := (49152 : Int)) C (List.mem_of_getElem? (i := 6) rfl) dX3_init_13 ?_
  refine z_newa (atype := .int) (ty := .int) (k0 := 0) (nn := 49152) C (49152, .inl (fun k => qI ((fun _ => (0 : Int)) k))) (List.mem_of_getElem? (i := 4) rfl) rfl rfl (fun _ _ h => h) (qdv 49152) (by decide) (by decide) (Nat.le_of_ble_eq_true rfl) (Nat.le_of_ble_eq_true rfl) dX3_init_15 (fun q2 => ?_)
  refine z_ws (ws' := (([(h0, .inr (3, [.long 0, .ref q1, .int (qI 0), .null, .null, .int (qI 0)]))] ++ [(q1, qA (E 0) 12 (fun _ => 0))]) ++ [(q2, qA (E 0) 49152 (fun _ => 0))])) rfl ?_
  refine z_putF (ty := (.array .int)) (ws' := (([(h0, .inr (3, [.long 0, .ref q1, .int (qI 0), .ref q2, .null, .int (qI 0)]))] ++ [(q1, qA (E 0) 12 (fun _ => 0))]) ++ [(q2, qA (E 0) 49152 (fun _ => 0))])) C hI iX3_init_X3 tyX3 tyX3_ok nmX3 0 rfl rfl 3 (by decide) (List.mem_of_getElem? (i := 7) rfl) rfl rfl rfl (by decide +kernel) rfl rfl (Nat.le_of_ble_eq_true rfl) rfl dX3_init_17 ?_
  refine z_aload_n C 0 rfl rfl dX3_init_20 ?_
  refine z_bipush C (by decide +kernel) dX3_init_21 ?_
  refine z_newa (atype := .int) (ty := .int) (k0 := 0) (nn := 12) C (12, .inl (fun k => qI ((fun _ => (0 : Int)) k))) (List.mem_of_getElem? (i := 4) rfl) rfl rfl (fun _ _ h => h) (qdv 12) (by decide) (by decide) (Nat.le_of_ble_eq_true rfl) (Nat.le_of_ble_eq_true rfl) dX3_init_23 (fun q3 => ?_)
  refine z_ws (ws' := ((([(h0, .inr (3, [.long 0, .ref q1, .int (qI 0), .ref q2, .null, .int (qI 0)]))] ++ [(q1, qA (E 0) 12 (fun _ => 0))]) ++ [(q2, qA (E 0) 49152 (fun _ => 0))]) ++ [(q3, qA (E 0) 12 (fun _ => 0))])) rfl ?_
  refine z_putF (ty := (.array .int)) (ws' := ((([(h0, .inr (3, [.long 0, .ref q1, .int (qI 0), .ref q2, .ref q3, .int (qI 0)]))] ++ [(q1, qA (E 0) 12 (fun _ => 0))]) ++ [(q2, qA (E 0) 49152 (fun _ => 0))]) ++ [(q3, qA (E 0) 12 (fun _ => 0))])) C hI iX3_init_X3 tyX3 tyX3_ok nmX3 0 rfl rfl 4 (by decide) (List.mem_of_getElem? (i := 8) rfl) rfl rfl rfl (by decide +kernel) rfl rfl (Nat.le_of_ble_eq_true rfl) rfl dX3_init_25 ?_
  exact hend 28 _ (fun k => [q1, q2, q3].getD k 0) dX3_init_28 trivial
theorem iX1_init_X1 : ∀ w ∈ wsX10, w ∈ wsX1_init := fun w h => List.mem_cons_of_mem _ (List.mem_append_right _ (h))
set_option maxHeartbeats 4000000 in
set_option maxRecDepth 100000 in
theorem c_X1_init (l : Launch) (D : va_G) (E : Nat → ClassId) (h0 : Nat) : qNW (σ := Nat → Nat) l D E qF0 yX1_init wsX1_init 1 20 4 84 [(h0, .inr (1, [.null, .null, .int (qI 0), .null, .null]))] [.ref h0] (fun u => [(h0, .inr (1, [.ref (u 0), .ref (u 1), .int (qI 0), .ref (u 2), .ref (u 3)])), ((u 0), qA (E 0) 64 (fun _ => 0)), ((u 1), qA (E 0) 12 (fun _ => 0)), ((u 2), qL (E 1) 2 (fun _ => 0)), ((u 3), qA (E 0) 6 (qU (qU (qU (qU (qU (qU (fun _ => 0) (0 : Int).toNat (60 : Int)) (1 : Int).toNat (1 : Int)) (2 : Int).toNat (20 : Int)) (3 : Int).toNat (0 : Int)) (4 : Int).toNat (4 : Int)) (5 : Int).toNat (60 : Int)))]) (fun u => True) := by
  refine qNW_of (nL := 1) (own := RX1) qF0_ok (by decide) rfl rfl rfl (Nat.le_of_ble_eq_true rfl) (fun X C hI hend => ?_)
  show qZ X 0 0 [(h0, .inr (1, [.null, .null, .int (qI 0), .null, .null]))] 0 [(0, .ref h0)] []
  refine z_aload_n C 0 rfl rfl dX1_init_0 ?_
  refine z_objI C (List.mem_of_getElem? (i := 1) rfl) (List.mem_of_getElem? (i := 2) rfl) (List.mem_of_getElem? (i := 3) rfl) (Nat.le_of_ble_eq_true rfl) (Nat.le_of_ble_eq_true rfl) dX1_init_1 ?_
  refine z_aload_n C 0 rfl rfl dX1_init_4 ?_
  refine z_bipush C (by decide +kernel) dX1_init_5 ?_
  refine z_newa (atype := .int) (ty := .int) (k0 := 0) (nn := 64) C (64, .inl (fun k => qI ((fun _ => (0 : Int)) k))) (List.mem_of_getElem? (i := 4) rfl) rfl rfl (fun _ _ h => h) (qdv 64) (by decide) (by decide) (Nat.le_of_ble_eq_true rfl) (Nat.le_of_ble_eq_true rfl) dX1_init_7 (fun q1 => ?_)
  refine z_ws (ws' := ([(h0, .inr (1, [.null, .null, .int (qI 0), .null, .null]))] ++ [(q1, qA (E 0) 64 (fun _ => 0))])) rfl ?_
  refine z_putF (ty := (.array .int)) (ws' := ([(h0, .inr (1, [.ref q1, .null, .int (qI 0), .null, .null]))] ++ [(q1, qA (E 0) 64 (fun _ => 0))])) C hI iX1_init_X1 tyX1 tyX1_ok nmX1 0 rfl rfl 0 (by decide) (List.mem_of_getElem? (i := 5) rfl) rfl rfl rfl (by decide +kernel) rfl rfl (Nat.le_of_ble_eq_true rfl) rfl dX1_init_9 ?_
  refine z_aload_n C 0 rfl rfl dX1_init_12 ?_
  refine z_bipush C (by decide +kernel) dX1_init_13 ?_
  refine z_newa (atype := .int) (ty := .int) (k0 := 0) (nn := 12) C (12, .inl (fun k => qI ((fun _ => (0 : Int)) k))) (List.mem_of_getElem? (i := 4) rfl) rfl rfl (fun _ _ h => h) (qdv 12) (by decide) (by decide) (Nat.le_of_ble_eq_true rfl) (Nat.le_of_ble_eq_true rfl) dX1_init_15 (fun q2 => ?_)
  refine z_ws (ws' := (([(h0, .inr (1, [.ref q1, .null, .int (qI 0), .null, .null]))] ++ [(q1, qA (E 0) 64 (fun _ => 0))]) ++ [(q2, qA (E 0) 12 (fun _ => 0))])) rfl ?_
  refine z_putF (ty := (.array .int)) (ws' := (([(h0, .inr (1, [.ref q1, .ref q2, .int (qI 0), .null, .null]))] ++ [(q1, qA (E 0) 64 (fun _ => 0))]) ++ [(q2, qA (E 0) 12 (fun _ => 0))])) C hI iX1_init_X1 tyX1 tyX1_ok nmX1 0 rfl rfl 1 (by decide) (List.mem_of_getElem? (i := 6) rfl) rfl rfl rfl (by decide +kernel) rfl rfl (Nat.le_of_ble_eq_true rfl) rfl dX1_init_17 ?_
  refine z_aload_n C 0 rfl rfl dX1_init_20 ?_
  refine z_iconst C dX1_init_21 ?_
  refine z_newa (atype := .long) (ty := .long) (k0 := 1) (nn := 2) C (2, .inr (.inl (fun _ => (0 : Int64)))) (List.mem_of_getElem? (i := 7) rfl) rfl rfl (fun _ _ h => h) (qdvL 2) (by decide) (by decide) (Nat.le_of_ble_eq_true rfl) (Nat.le_of_ble_eq_true rfl) dX1_init_22 (fun q3 => ?_)
  refine z_ws (ws' := ((([(h0, .inr (1, [.ref q1, .ref q2, .int (qI 0), .null, .null]))] ++ [(q1, qA (E 0) 64 (fun _ => 0))]) ++ [(q2, qA (E 0) 12 (fun _ => 0))]) ++ [(q3, qL (E 1) 2 (fun _ => 0))])) rfl ?_
  refine z_putF (ty := (.array .long)) (ws' := ((([(h0, .inr (1, [.ref q1, .ref q2, .int (qI 0), .ref q3, .null]))] ++ [(q1, qA (E 0) 64 (fun _ => 0))]) ++ [(q2, qA (E 0) 12 (fun _ => 0))]) ++ [(q3, qL (E 1) 2 (fun _ => 0))])) C hI iX1_init_X1 tyX1 tyX1_ok nmX1 0 rfl rfl 3 (by decide) (List.mem_of_getElem? (i := 8) rfl) rfl rfl rfl (by decide +kernel) rfl rfl (Nat.le_of_ble_eq_true rfl) rfl dX1_init_24 ?_
  refine z_aload_n C 0 rfl rfl dX1_init_27 ?_
  refine z_bipush C (by decide +kernel) dX1_init_28 ?_
  refine z_newa (atype := .int) (ty := .int) (k0 := 0) (nn := 6) C (6, .inl (fun k => qI ((fun _ => (0 : Int)) k))) (List.mem_of_getElem? (i := 4) rfl) rfl rfl (fun _ _ h => h) (qdv 6) (by decide) (by decide) (Nat.le_of_ble_eq_true rfl) (Nat.le_of_ble_eq_true rfl) dX1_init_30 (fun q4 => ?_)
  refine z_ws (ws' := (((([(h0, .inr (1, [.ref q1, .ref q2, .int (qI 0), .ref q3, .null]))] ++ [(q1, qA (E 0) 64 (fun _ => 0))]) ++ [(q2, qA (E 0) 12 (fun _ => 0))]) ++ [(q3, qL (E 1) 2 (fun _ => 0))]) ++ [(q4, qA (E 0) 6 (fun _ => 0))])) rfl ?_
  refine z_dup C rfl dX1_init_32 ?_
  refine z_iconst C dX1_init_33 ?_
  refine z_bipush C (by decide +kernel) dX1_init_34 ?_
  refine z_iast C 4 rfl (by decide) (i := (0 : Int)) (by decide) (fun g5 => (((([(h0, .inr (1, [.ref q1, .ref q2, .int (qI 0), .ref q3, .null]))] ++ [(q1, qA (E 0) 64 (fun _ => 0))]) ++ [(q2, qA (E 0) 12 (fun _ => 0))]) ++ [(q3, qL (E 1) 2 (fun _ => 0))]) ++ [(q4, qA (E 0) 6 g5)])) (fun _ => rfl) dX1_init_36 (fun g5 eg5 => ?_)
  subst eg5
  refine z_dup C rfl dX1_init_37 ?_
  refine z_iconst C dX1_init_38 ?_
  refine z_iconst C dX1_init_39 ?_
  refine z_iast C 4 rfl (by decide) (i := (1 : Int)) (by decide) (fun g6 => (((([(h0, .inr (1, [.ref q1, .ref q2, .int (qI 0), .ref q3, .null]))] ++ [(q1, qA (E 0) 64 (fun _ => 0))]) ++ [(q2, qA (E 0) 12 (fun _ => 0))]) ++ [(q3, qL (E 1) 2 (fun _ => 0))]) ++ [(q4, qA (E 0) 6 g6)])) (fun _ => rfl) dX1_init_40 (fun g6 eg6 => ?_)
  subst eg6
  refine z_dup C rfl dX1_init_41 ?_
  refine z_iconst C dX1_init_42 ?_
  refine z_bipush C (by decide +kernel) dX1_init_43 ?_
  refine z_iast C 4 rfl (by decide) (i := (2 : Int)) (by decide) (fun g7 => (((([(h0, .inr (1, [.ref q1, .ref q2, .int (qI 0), .ref q3, .null]))] ++ [(q1, qA (E 0) 64 (fun _ => 0))]) ++ [(q2, qA (E 0) 12 (fun _ => 0))]) ++ [(q3, qL (E 1) 2 (fun _ => 0))]) ++ [(q4, qA (E 0) 6 g7)])) (fun _ => rfl) dX1_init_45 (fun g7 eg7 => ?_)
  subst eg7
  refine z_dup C rfl dX1_init_46 ?_
  refine z_iconst C dX1_init_47 ?_
  refine z_iconst C dX1_init_48 ?_
  refine z_iast C 4 rfl (by decide) (i := (3 : Int)) (by decide) (fun g8 => (((([(h0, .inr (1, [.ref q1, .ref q2, .int (qI 0), .ref q3, .null]))] ++ [(q1, qA (E 0) 64 (fun _ => 0))]) ++ [(q2, qA (E 0) 12 (fun _ => 0))]) ++ [(q3, qL (E 1) 2 (fun _ => 0))]) ++ [(q4, qA (E 0) 6 g8)])) (fun _ => rfl) dX1_init_49 (fun g8 eg8 => ?_)
  subst eg8
  refine z_dup C rfl dX1_init_50 ?_
  refine z_iconst C dX1_init_51 ?_
  refine z_iconst C dX1_init_52 ?_
  refine z_iast C 4 rfl (by decide) (i := (4 : Int)) (by decide) (fun g9 => (((([(h0, .inr (1, [.ref q1, .ref q2, .int (qI 0), .ref q3, .null]))] ++ [(q1, qA (E 0) 64 (fun _ => 0))]) ++ [(q2, qA (E 0) 12 (fun _ => 0))]) ++ [(q3, qL (E 1) 2 (fun _ => 0))]) ++ [(q4, qA (E 0) 6 g9)])) (fun _ => rfl) dX1_init_53 (fun g9 eg9 => ?_)
  subst eg9
  refine z_dup C rfl dX1_init_54 ?_
  refine z_iconst C dX1_init_55 ?_
  refine z_bipush C (by decide +kernel) dX1_init_56 ?_
  refine z_iast C 4 rfl (by decide) (i := (5 : Int)) (by decide) (fun g10 => (((([(h0, .inr (1, [.ref q1, .ref q2, .int (qI 0), .ref q3, .null]))] ++ [(q1, qA (E 0) 64 (fun _ => 0))]) ++ [(q2, qA (E 0) 12 (fun _ => 0))]) ++ [(q3, qL (E 1) 2 (fun _ => 0))]) ++ [(q4, qA (E 0) 6 g10)])) (fun _ => rfl) dX1_init_58 (fun g10 eg10 => ?_)
  subst eg10
  refine z_putF (ty := (.array .int)) (ws' := (((([(h0, .inr (1, [.ref q1, .ref q2, .int (qI 0), .ref q3, .ref q4]))] ++ [(q1, qA (E 0) 64 (fun _ => 0))]) ++ [(q2, qA (E 0) 12 (fun _ => 0))]) ++ [(q3, qL (E 1) 2 (fun _ => 0))]) ++ [(q4, qA (E 0) 6 (qU (qU (qU (qU (qU (qU (fun _ => 0) (0 : Int).toNat (60 : Int)) (1 : Int).toNat (1 : Int)) (2 : Int).toNat (20 : Int)) (3 : Int).toNat (0 : Int)) (4 : Int).toNat (4 : Int)) (5 : Int).toNat (60 : Int)))])) C hI iX1_init_X1 tyX1 tyX1_ok nmX1 0 rfl rfl 4 (by decide) (List.mem_of_getElem? (i := 9) rfl) rfl rfl rfl (by decide +kernel) rfl rfl (Nat.le_of_ble_eq_true rfl) rfl dX1_init_59 ?_
  exact hend 62 _ (fun k => [q1, q2, q3, q4].getD k 0) dX1_init_62 trivial
theorem iX2_init_X1 : ∀ w ∈ wsX10, w ∈ wsX2_init := fun w h => List.mem_cons_of_mem _ (List.mem_append_left _ (List.mem_append_right _ (h)))
theorem iX2_init_X2 : ∀ w ∈ wsX20, w ∈ wsX2_init := fun w h => List.mem_cons_of_mem _ (List.mem_append_right _ (h))
set_option maxHeartbeats 4000000 in
set_option maxRecDepth 100000 in
theorem c_X2_init (l : Launch) (D : va_G) (E : Nat → ClassId) (h0 : Nat) : qNW (σ := Nat → Nat) l D E qFa yX2_init wsX2_init 2 40 17 271 [(h0, .inr (2, [.null, .null, .null]))] [.ref h0] (fun u => qStW E u qSt0) (fun u => u 0 = h0) := by
  refine qNW_of (nL := 2) (own := RX2) qFa_ok (by decide) rfl rfl rfl (Nat.le_of_ble_eq_true rfl) (fun X C hI hend => ?_)
  show qZ X 0 0 [(h0, .inr (2, [.null, .null, .null]))] 0 [(0, .ref h0)] []
  refine z_aload_n C 0 rfl rfl dX2_init_0 ?_
  refine z_objI C (List.mem_of_getElem? (i := 1) rfl) (List.mem_of_getElem? (i := 2) rfl) (List.mem_of_getElem? (i := 3) rfl) (Nat.le_of_ble_eq_true rfl) (Nat.le_of_ble_eq_true rfl) dX2_init_1 ?_
  refine z_aload_n C 0 rfl rfl dX2_init_4 ?_
  refine z_new (ci := 1) C iX2_init_X1 tyX1 tyX1_ok (List.mem_of_getElem? (i := 4) rfl) (List.mem_of_getElem? (i := 5) rfl) (List.mem_of_getElem? (i := 6) rfl) rfl [.null, .null, .int (qI 0), .null, .null] (fun j hj => by rcases (show j = 0 ∨ j = 1 ∨ j = 2 ∨ j = 3 ∨ j = 4 by omega) with rfl | rfl | rfl | rfl | rfl <;> first | rfl | (show Value.int 0 = Value.int (qI 0); rw [show qI 0 = 0 by decide])) (Nat.le_of_ble_eq_true rfl) (Nat.le_of_ble_eq_true rfl) dX2_init_5 (fun q1 => ?_)
  refine z_dup C rfl dX2_init_8 ?_
  refine z_callNn (host := RX4) C (c_X1_init l D E q1) qF0_ok (fun _ _ _ => trivial) gX2_init_X1_init_n11 rfl (List.mem_of_getElem? (i := 6) rfl) (by decide +kernel) (List.mem_of_getElem? (i := 11) rfl) rfl (by decide +kernel) ⟨(Nat.le_of_ble_eq_true rfl), (Nat.le_of_ble_eq_true rfl)⟩ (Nat.le_of_ble_eq_true rfl) ⟨(Nat.le_of_ble_eq_true rfl), (Nat.le_of_ble_eq_true rfl)⟩ dX2_init_9 (fun u2 hu2 => ?_)
  refine z_ws (ws' := ([(h0, .inr (2, [.null, .null, .null]))] ++ [(q1, .inr (1, [.ref (u2 0), .ref (u2 1), .int (qI 0), .ref (u2 2), .ref (u2 3)])), ((u2 0), qA (E 0) 64 (fun _ => 0)), ((u2 1), qA (E 0) 12 (fun _ => 0)), ((u2 2), qL (E 1) 2 (fun _ => 0)), ((u2 3), qA (E 0) 6 (qU (qU (qU (qU (qU (qU (fun _ => 0) (0 : Int).toNat (60 : Int)) (1 : Int).toNat (1 : Int)) (2 : Int).toNat (20 : Int)) (3 : Int).toNat (0 : Int)) (4 : Int).toNat (4 : Int)) (5 : Int).toNat (60 : Int)))])) rfl ?_
  refine z_putF (ty := (.object "PhosphorHush$Screen")) (ws' := ([(h0, .inr (2, [.ref q1, .null, .null]))] ++ [(q1, .inr (1, [.ref (u2 0), .ref (u2 1), .int (qI 0), .ref (u2 2), .ref (u2 3)])), ((u2 0), qA (E 0) 64 (fun _ => 0)), ((u2 1), qA (E 0) 12 (fun _ => 0)), ((u2 2), qL (E 1) 2 (fun _ => 0)), ((u2 3), qA (E 0) 6 (qU (qU (qU (qU (qU (qU (fun _ => 0) (0 : Int).toNat (60 : Int)) (1 : Int).toNat (1 : Int)) (2 : Int).toNat (20 : Int)) (3 : Int).toNat (0 : Int)) (4 : Int).toNat (4 : Int)) (5 : Int).toNat (60 : Int)))])) C hI iX2_init_X2 tyX2 tyX2_ok nmX2 0 rfl rfl 0 (by decide) (List.mem_of_getElem? (i := 7) rfl) rfl rfl rfl (by decide +kernel) rfl rfl (Nat.le_of_ble_eq_true rfl) rfl dX2_init_12 ?_
  refine z_aload_n C 0 rfl rfl dX2_init_15 ?_
  refine z_iconst C dX2_init_16 ?_
  refine z_newq (C9 := "PhosphorHush$Screen") (k0 := 5) (nn := 2) C (List.mem_of_getElem? (i := 4) rfl) (fun _ _ h => h.2) rfl (by decide) (by decide) (Nat.le_of_ble_eq_true rfl) (Nat.le_of_ble_eq_true rfl) dX2_init_17 (fun q3 => ?_)
  refine z_putF (ty := (.array (.object "PhosphorHush$Screen"))) (ws' := (([(h0, .inr (2, [.ref q1, .ref q3, .null]))] ++ [(q1, .inr (1, [.ref (u2 0), .ref (u2 1), .int (qI 0), .ref (u2 2), .ref (u2 3)])), ((u2 0), qA (E 0) 64 (fun _ => 0)), ((u2 1), qA (E 0) 12 (fun _ => 0)), ((u2 2), qL (E 1) 2 (fun _ => 0)), ((u2 3), qA (E 0) 6 (qU (qU (qU (qU (qU (qU (fun _ => 0) (0 : Int).toNat (60 : Int)) (1 : Int).toNat (1 : Int)) (2 : Int).toNat (20 : Int)) (3 : Int).toNat (0 : Int)) (4 : Int).toNat (4 : Int)) (5 : Int).toNat (60 : Int)))]) ++ [(q3, qO (E 5) 2 (fun _ => none))])) C hI iX2_init_X2 tyX2 tyX2_ok nmX2 0 rfl rfl 1 (by decide) (List.mem_of_getElem? (i := 8) rfl) rfl rfl rfl (by decide +kernel) rfl rfl (Nat.le_of_ble_eq_true rfl) rfl dX2_init_20 ?_
  refine z_iconst C dX2_init_23 ?_
  refine z_istore_n C rfl (by decide) rfl dX2_init_24 ?_
  refine z_iload_n C 0 rfl rfl dX2_init_25 ?_
  refine z_iconst C dX2_init_26 ?_
  refine z_icmp_ge (tgt := 49) C (by decide) (by decide) dX2_init_27 (fun c9 => ?_) (fun c9 => ?_)
  · exact absurd c9 (by decide)
  refine z_aload_n C 1 rfl rfl dX2_init_30 ?_
  refine z_get C iX2_init_X2 0 rfl rfl 1 (by decide) (List.mem_of_getElem? (i := 8) rfl) rfl rfl dX2_init_31 ?_
  refine z_iload_n C 0 rfl rfl dX2_init_34 ?_
  refine z_new (ci := 1) C iX2_init_X1 tyX1 tyX1_ok (List.mem_of_getElem? (i := 4) rfl) (List.mem_of_getElem? (i := 5) rfl) (List.mem_of_getElem? (i := 6) rfl) rfl [.null, .null, .int (qI 0), .null, .null] (fun j hj => by rcases (show j = 0 ∨ j = 1 ∨ j = 2 ∨ j = 3 ∨ j = 4 by omega) with rfl | rfl | rfl | rfl | rfl <;> first | rfl | (show Value.int 0 = Value.int (qI 0); rw [show qI 0 = 0 by decide])) (Nat.le_of_ble_eq_true rfl) (Nat.le_of_ble_eq_true rfl) dX2_init_35 (fun q4 => ?_)
  refine z_dup C rfl dX2_init_38 ?_
  refine z_callNn (host := RX4) C (c_X1_init l D E q4) qF0_ok (fun _ _ _ => trivial) gX2_init_X1_init_n11 rfl (List.mem_of_getElem? (i := 6) rfl) (by decide +kernel) (List.mem_of_getElem? (i := 11) rfl) rfl (by decide +kernel) ⟨(Nat.le_of_ble_eq_true rfl), (Nat.le_of_ble_eq_true rfl)⟩ (Nat.le_of_ble_eq_true rfl) ⟨(Nat.le_of_ble_eq_true rfl), (Nat.le_of_ble_eq_true rfl)⟩ dX2_init_39 (fun u5 hu5 => ?_)
  refine z_ws (ws' := ((([(h0, .inr (2, [.ref q1, .ref q3, .null]))] ++ [(q1, .inr (1, [.ref (u2 0), .ref (u2 1), .int (qI 0), .ref (u2 2), .ref (u2 3)])), ((u2 0), qA (E 0) 64 (fun _ => 0)), ((u2 1), qA (E 0) 12 (fun _ => 0)), ((u2 2), qL (E 1) 2 (fun _ => 0)), ((u2 3), qA (E 0) 6 (qU (qU (qU (qU (qU (qU (fun _ => 0) (0 : Int).toNat (60 : Int)) (1 : Int).toNat (1 : Int)) (2 : Int).toNat (20 : Int)) (3 : Int).toNat (0 : Int)) (4 : Int).toNat (4 : Int)) (5 : Int).toNat (60 : Int)))]) ++ [(q3, qO (E 5) 2 (fun _ => none))]) ++ [(q4, .inr (1, [.ref (u5 0), .ref (u5 1), .int (qI 0), .ref (u5 2), .ref (u5 3)])), ((u5 0), qA (E 0) 64 (fun _ => 0)), ((u5 1), qA (E 0) 12 (fun _ => 0)), ((u5 2), qL (E 1) 2 (fun _ => 0)), ((u5 3), qA (E 0) 6 (qU (qU (qU (qU (qU (qU (fun _ => 0) (0 : Int).toNat (60 : Int)) (1 : Int).toNat (1 : Int)) (2 : Int).toNat (20 : Int)) (3 : Int).toNat (0 : Int)) (4 : Int).toNat (4 : Int)) (5 : Int).toNat (60 : Int)))])) rfl ?_
  refine z_aastg (ws' := ((([(h0, .inr (2, [.ref q1, .ref q3, .null]))] ++ [(q1, .inr (1, [.ref (u2 0), .ref (u2 1), .int (qI 0), .ref (u2 2), .ref (u2 3)])), ((u2 0), qA (E 0) 64 (fun _ => 0)), ((u2 1), qA (E 0) 12 (fun _ => 0)), ((u2 2), qL (E 1) 2 (fun _ => 0)), ((u2 3), qA (E 0) 6 (qU (qU (qU (qU (qU (qU (fun _ => 0) (0 : Int).toNat (60 : Int)) (1 : Int).toNat (1 : Int)) (2 : Int).toNat (20 : Int)) (3 : Int).toNat (0 : Int)) (4 : Int).toNat (4 : Int)) (5 : Int).toNat (60 : Int)))]) ++ [(q3, qO (E 5) 2 (va_up (fun _ => none) 0 (some q4)))]) ++ [(q4, .inr (1, [.ref (u5 0), .ref (u5 1), .int (qI 0), .ref (u5 2), .ref (u5 3)])), ((u5 0), qA (E 0) 64 (fun _ => 0)), ((u5 1), qA (E 0) 12 (fun _ => 0)), ((u5 2), qL (E 1) 2 (fun _ => 0)), ((u5 3), qA (E 0) 6 (qU (qU (qU (qU (qU (qU (fun _ => 0) (0 : Int).toNat (60 : Int)) (1 : Int).toNat (1 : Int)) (2 : Int).toNat (20 : Int)) (3 : Int).toNat (0 : Int)) (4 : Int).toNat (4 : Int)) (5 : Int).toNat (60 : Int)))])) C 6 rfl (t0 := 5) rfl (by decide) (qk := 7) rfl (ci := 1) rfl (i := (0 : Int)) (by decide) rfl dX2_init_42 ?_
  refine z_iinc C 0 rfl (by decide) (1 : Int) (by decide) rfl dX2_init_43 ?_
  refine z_goto (tgt := 25) C (by decide) dX2_init_46 ?_
  refine z_iload_n C 0 rfl rfl dX2_init_25 ?_
  refine z_iconst C dX2_init_26 ?_
  refine z_icmp_ge (tgt := 49) C (by decide) (by decide) dX2_init_27 (fun c9 => ?_) (fun c9 => ?_)
  · exact absurd c9 (by decide)
  refine z_aload_n C 1 rfl rfl dX2_init_30 ?_
  refine z_get C iX2_init_X2 0 rfl rfl 1 (by decide) (List.mem_of_getElem? (i := 8) rfl) rfl rfl dX2_init_31 ?_
  refine z_iload_n C 0 rfl rfl dX2_init_34 ?_
  refine z_new (ci := 1) C iX2_init_X1 tyX1 tyX1_ok (List.mem_of_getElem? (i := 4) rfl) (List.mem_of_getElem? (i := 5) rfl) (List.mem_of_getElem? (i := 6) rfl) rfl [.null, .null, .int (qI 0), .null, .null] (fun j hj => by rcases (show j = 0 ∨ j = 1 ∨ j = 2 ∨ j = 3 ∨ j = 4 by omega) with rfl | rfl | rfl | rfl | rfl <;> first | rfl | (show Value.int 0 = Value.int (qI 0); rw [show qI 0 = 0 by decide])) (Nat.le_of_ble_eq_true rfl) (Nat.le_of_ble_eq_true rfl) dX2_init_35 (fun q6 => ?_)
  refine z_dup C rfl dX2_init_38 ?_
  refine z_callNn (host := RX4) C (c_X1_init l D E q6) qF0_ok (fun _ _ _ => trivial) gX2_init_X1_init_n11 rfl (List.mem_of_getElem? (i := 6) rfl) (by decide +kernel) (List.mem_of_getElem? (i := 11) rfl) rfl (by decide +kernel) ⟨(Nat.le_of_ble_eq_true rfl), (Nat.le_of_ble_eq_true rfl)⟩ (Nat.le_of_ble_eq_true rfl) ⟨(Nat.le_of_ble_eq_true rfl), (Nat.le_of_ble_eq_true rfl)⟩ dX2_init_39 (fun u7 hu7 => ?_)
  refine z_ws (ws' := (((([(h0, .inr (2, [.ref q1, .ref q3, .null]))] ++ [(q1, .inr (1, [.ref (u2 0), .ref (u2 1), .int (qI 0), .ref (u2 2), .ref (u2 3)])), ((u2 0), qA (E 0) 64 (fun _ => 0)), ((u2 1), qA (E 0) 12 (fun _ => 0)), ((u2 2), qL (E 1) 2 (fun _ => 0)), ((u2 3), qA (E 0) 6 (qU (qU (qU (qU (qU (qU (fun _ => 0) (0 : Int).toNat (60 : Int)) (1 : Int).toNat (1 : Int)) (2 : Int).toNat (20 : Int)) (3 : Int).toNat (0 : Int)) (4 : Int).toNat (4 : Int)) (5 : Int).toNat (60 : Int)))]) ++ [(q3, qO (E 5) 2 (va_up (fun _ => none) 0 (some q4)))]) ++ [(q4, .inr (1, [.ref (u5 0), .ref (u5 1), .int (qI 0), .ref (u5 2), .ref (u5 3)])), ((u5 0), qA (E 0) 64 (fun _ => 0)), ((u5 1), qA (E 0) 12 (fun _ => 0)), ((u5 2), qL (E 1) 2 (fun _ => 0)), ((u5 3), qA (E 0) 6 (qU (qU (qU (qU (qU (qU (fun _ => 0) (0 : Int).toNat (60 : Int)) (1 : Int).toNat (1 : Int)) (2 : Int).toNat (20 : Int)) (3 : Int).toNat (0 : Int)) (4 : Int).toNat (4 : Int)) (5 : Int).toNat (60 : Int)))]) ++ [(q6, .inr (1, [.ref (u7 0), .ref (u7 1), .int (qI 0), .ref (u7 2), .ref (u7 3)])), ((u7 0), qA (E 0) 64 (fun _ => 0)), ((u7 1), qA (E 0) 12 (fun _ => 0)), ((u7 2), qL (E 1) 2 (fun _ => 0)), ((u7 3), qA (E 0) 6 (qU (qU (qU (qU (qU (qU (fun _ => 0) (0 : Int).toNat (60 : Int)) (1 : Int).toNat (1 : Int)) (2 : Int).toNat (20 : Int)) (3 : Int).toNat (0 : Int)) (4 : Int).toNat (4 : Int)) (5 : Int).toNat (60 : Int)))])) rfl ?_
  refine z_aastg (ws' := (((([(h0, .inr (2, [.ref q1, .ref q3, .null]))] ++ [(q1, .inr (1, [.ref (u2 0), .ref (u2 1), .int (qI 0), .ref (u2 2), .ref (u2 3)])), ((u2 0), qA (E 0) 64 (fun _ => 0)), ((u2 1), qA (E 0) 12 (fun _ => 0)), ((u2 2), qL (E 1) 2 (fun _ => 0)), ((u2 3), qA (E 0) 6 (qU (qU (qU (qU (qU (qU (fun _ => 0) (0 : Int).toNat (60 : Int)) (1 : Int).toNat (1 : Int)) (2 : Int).toNat (20 : Int)) (3 : Int).toNat (0 : Int)) (4 : Int).toNat (4 : Int)) (5 : Int).toNat (60 : Int)))]) ++ [(q3, qO (E 5) 2 (va_up (va_up (fun _ => none) 0 (some q4)) 1 (some q6)))]) ++ [(q4, .inr (1, [.ref (u5 0), .ref (u5 1), .int (qI 0), .ref (u5 2), .ref (u5 3)])), ((u5 0), qA (E 0) 64 (fun _ => 0)), ((u5 1), qA (E 0) 12 (fun _ => 0)), ((u5 2), qL (E 1) 2 (fun _ => 0)), ((u5 3), qA (E 0) 6 (qU (qU (qU (qU (qU (qU (fun _ => 0) (0 : Int).toNat (60 : Int)) (1 : Int).toNat (1 : Int)) (2 : Int).toNat (20 : Int)) (3 : Int).toNat (0 : Int)) (4 : Int).toNat (4 : Int)) (5 : Int).toNat (60 : Int)))]) ++ [(q6, .inr (1, [.ref (u7 0), .ref (u7 1), .int (qI 0), .ref (u7 2), .ref (u7 3)])), ((u7 0), qA (E 0) 64 (fun _ => 0)), ((u7 1), qA (E 0) 12 (fun _ => 0)), ((u7 2), qL (E 1) 2 (fun _ => 0)), ((u7 3), qA (E 0) 6 (qU (qU (qU (qU (qU (qU (fun _ => 0) (0 : Int).toNat (60 : Int)) (1 : Int).toNat (1 : Int)) (2 : Int).toNat (20 : Int)) (3 : Int).toNat (0 : Int)) (4 : Int).toNat (4 : Int)) (5 : Int).toNat (60 : Int)))])) C 6 rfl (t0 := 5) rfl (by decide) (qk := 12) rfl (ci := 1) rfl (i := (1 : Int)) (by decide) rfl dX2_init_42 ?_
  refine z_iinc C 0 rfl (by decide) (2 : Int) (by decide) rfl dX2_init_43 ?_
  refine z_goto (tgt := 25) C (by decide) dX2_init_46 ?_
  refine z_iload_n C 0 rfl rfl dX2_init_25 ?_
  refine z_iconst C dX2_init_26 ?_
  refine z_icmp_ge (tgt := 49) C (by decide) (by decide) dX2_init_27 (fun c9 => ?_) (fun c9 => ?_)
  rotate_left
  · exact absurd (by decide) c9
  refine z_aload_n C 1 rfl rfl dX2_init_49 ?_
  refine z_iconst C dX2_init_50 ?_
  refine z_newa (atype := .boolean) (ty := .boolean) (k0 := 2) (nn := 2) C (2, .inl (fun k => qI ((fun _ => (0 : Int)) k))) (List.mem_of_getElem? (i := 9) rfl) rfl rfl (fun _ _ h => h) (qdv 2) (by decide) (by decide) (Nat.le_of_ble_eq_true rfl) (Nat.le_of_ble_eq_true rfl) dX2_init_51 (fun q8 => ?_)
  refine z_ws (ws' := ((((([(h0, .inr (2, [.ref q1, .ref q3, .null]))] ++ [(q1, .inr (1, [.ref (u2 0), .ref (u2 1), .int (qI 0), .ref (u2 2), .ref (u2 3)])), ((u2 0), qA (E 0) 64 (fun _ => 0)), ((u2 1), qA (E 0) 12 (fun _ => 0)), ((u2 2), qL (E 1) 2 (fun _ => 0)), ((u2 3), qA (E 0) 6 (qU (qU (qU (qU (qU (qU (fun _ => 0) (0 : Int).toNat (60 : Int)) (1 : Int).toNat (1 : Int)) (2 : Int).toNat (20 : Int)) (3 : Int).toNat (0 : Int)) (4 : Int).toNat (4 : Int)) (5 : Int).toNat (60 : Int)))]) ++ [(q3, qO (E 5) 2 (va_up (va_up (fun _ => none) 0 (some q4)) 1 (some q6)))]) ++ [(q4, .inr (1, [.ref (u5 0), .ref (u5 1), .int (qI 0), .ref (u5 2), .ref (u5 3)])), ((u5 0), qA (E 0) 64 (fun _ => 0)), ((u5 1), qA (E 0) 12 (fun _ => 0)), ((u5 2), qL (E 1) 2 (fun _ => 0)), ((u5 3), qA (E 0) 6 (qU (qU (qU (qU (qU (qU (fun _ => 0) (0 : Int).toNat (60 : Int)) (1 : Int).toNat (1 : Int)) (2 : Int).toNat (20 : Int)) (3 : Int).toNat (0 : Int)) (4 : Int).toNat (4 : Int)) (5 : Int).toNat (60 : Int)))]) ++ [(q6, .inr (1, [.ref (u7 0), .ref (u7 1), .int (qI 0), .ref (u7 2), .ref (u7 3)])), ((u7 0), qA (E 0) 64 (fun _ => 0)), ((u7 1), qA (E 0) 12 (fun _ => 0)), ((u7 2), qL (E 1) 2 (fun _ => 0)), ((u7 3), qA (E 0) 6 (qU (qU (qU (qU (qU (qU (fun _ => 0) (0 : Int).toNat (60 : Int)) (1 : Int).toNat (1 : Int)) (2 : Int).toNat (20 : Int)) (3 : Int).toNat (0 : Int)) (4 : Int).toNat (4 : Int)) (5 : Int).toNat (60 : Int)))]) ++ [(q8, qA (E 2) 2 (fun _ => 0))])) rfl ?_
  refine z_putF (ty := (.array .boolean)) (ws' := ((((([(h0, .inr (2, [.ref q1, .ref q3, .ref q8]))] ++ [(q1, .inr (1, [.ref (u2 0), .ref (u2 1), .int (qI 0), .ref (u2 2), .ref (u2 3)])), ((u2 0), qA (E 0) 64 (fun _ => 0)), ((u2 1), qA (E 0) 12 (fun _ => 0)), ((u2 2), qL (E 1) 2 (fun _ => 0)), ((u2 3), qA (E 0) 6 (qU (qU (qU (qU (qU (qU (fun _ => 0) (0 : Int).toNat (60 : Int)) (1 : Int).toNat (1 : Int)) (2 : Int).toNat (20 : Int)) (3 : Int).toNat (0 : Int)) (4 : Int).toNat (4 : Int)) (5 : Int).toNat (60 : Int)))]) ++ [(q3, qO (E 5) 2 (va_up (va_up (fun _ => none) 0 (some q4)) 1 (some q6)))]) ++ [(q4, .inr (1, [.ref (u5 0), .ref (u5 1), .int (qI 0), .ref (u5 2), .ref (u5 3)])), ((u5 0), qA (E 0) 64 (fun _ => 0)), ((u5 1), qA (E 0) 12 (fun _ => 0)), ((u5 2), qL (E 1) 2 (fun _ => 0)), ((u5 3), qA (E 0) 6 (qU (qU (qU (qU (qU (qU (fun _ => 0) (0 : Int).toNat (60 : Int)) (1 : Int).toNat (1 : Int)) (2 : Int).toNat (20 : Int)) (3 : Int).toNat (0 : Int)) (4 : Int).toNat (4 : Int)) (5 : Int).toNat (60 : Int)))]) ++ [(q6, .inr (1, [.ref (u7 0), .ref (u7 1), .int (qI 0), .ref (u7 2), .ref (u7 3)])), ((u7 0), qA (E 0) 64 (fun _ => 0)), ((u7 1), qA (E 0) 12 (fun _ => 0)), ((u7 2), qL (E 1) 2 (fun _ => 0)), ((u7 3), qA (E 0) 6 (qU (qU (qU (qU (qU (qU (fun _ => 0) (0 : Int).toNat (60 : Int)) (1 : Int).toNat (1 : Int)) (2 : Int).toNat (20 : Int)) (3 : Int).toNat (0 : Int)) (4 : Int).toNat (4 : Int)) (5 : Int).toNat (60 : Int)))]) ++ [(q8, qA (E 2) 2 (fun _ => 0))])) C hI iX2_init_X2 tyX2 tyX2_ok nmX2 0 rfl rfl 2 (by decide) (List.mem_of_getElem? (i := 10) rfl) rfl rfl rfl (by decide +kernel) rfl rfl (Nat.le_of_ble_eq_true rfl) rfl dX2_init_53 ?_
  refine z_oeqg (g := qTwo q4 q6) (ws' := ((((([(h0, .inr (2, [.ref q1, .ref q3, .ref q8]))] ++ [(q1, .inr (1, [.ref (u2 0), .ref (u2 1), .int (qI 0), .ref (u2 2), .ref (u2 3)])), ((u2 0), qA (E 0) 64 (fun _ => 0)), ((u2 1), qA (E 0) 12 (fun _ => 0)), ((u2 2), qL (E 1) 2 (fun _ => 0)), ((u2 3), qA (E 0) 6 (qU (qU (qU (qU (qU (qU (fun _ => 0) (0 : Int).toNat (60 : Int)) (1 : Int).toNat (1 : Int)) (2 : Int).toNat (20 : Int)) (3 : Int).toNat (0 : Int)) (4 : Int).toNat (4 : Int)) (5 : Int).toNat (60 : Int)))]) ++ [(q3, qO (E 5) 2 (qTwo q4 q6))]) ++ [(q4, .inr (1, [.ref (u5 0), .ref (u5 1), .int (qI 0), .ref (u5 2), .ref (u5 3)])), ((u5 0), qA (E 0) 64 (fun _ => 0)), ((u5 1), qA (E 0) 12 (fun _ => 0)), ((u5 2), qL (E 1) 2 (fun _ => 0)), ((u5 3), qA (E 0) 6 (qU (qU (qU (qU (qU (qU (fun _ => 0) (0 : Int).toNat (60 : Int)) (1 : Int).toNat (1 : Int)) (2 : Int).toNat (20 : Int)) (3 : Int).toNat (0 : Int)) (4 : Int).toNat (4 : Int)) (5 : Int).toNat (60 : Int)))]) ++ [(q6, .inr (1, [.ref (u7 0), .ref (u7 1), .int (qI 0), .ref (u7 2), .ref (u7 3)])), ((u7 0), qA (E 0) 64 (fun _ => 0)), ((u7 1), qA (E 0) 12 (fun _ => 0)), ((u7 2), qL (E 1) 2 (fun _ => 0)), ((u7 3), qA (E 0) 6 (qU (qU (qU (qU (qU (qU (fun _ => 0) (0 : Int).toNat (60 : Int)) (1 : Int).toNat (1 : Int)) (2 : Int).toNat (20 : Int)) (3 : Int).toNat (0 : Int)) (4 : Int).toNat (4 : Int)) (5 : Int).toNat (60 : Int)))]) ++ [(q8, qA (E 2) 2 (fun _ => 0))])) C 6 rfl (fun j hj => by rcases (show j = 0 ∨ j = 1 by omega) with rfl | rfl <;> rfl) rfl ?_
  refine z_permg (ws' := qStW E (fun k => [h0, q3, q8, q1, (u2 0), (u2 1), (u2 2), (u2 3), q4, (u5 0), (u5 1), (u5 2), (u5 3), q6, (u7 0), (u7 1), (u7 2), (u7 3)].getD k 0) qSt0) C [0, 6, 17, 1, 2, 3, 4, 5, 7, 8, 9, 10, 11, 12, 13, 14, 15, 16] (by decide +kernel) rfl ?_
  exact hend 56 _ (fun k => [h0, q3, q8, q1, (u2 0), (u2 1), (u2 2), (u2 3), q4, (u5 0), (u5 1), (u5 2), (u5 3), q6, (u7 0), (u7 1), (u7 2), (u7 3)].getD k 0) dX2_init_56 rfl
