/-! FROZEN CELLS: the class's static rows, the String constants; String's own methods over them -/
def qLE : Nat → Int := fun k => match k with
  | 0 => 8
  | 1 => 1
  | 2 => 1
  | 3 => 0
  | 4 => 1
  | _ => 1
def qMO : Nat → Int := fun k => match k with
  | 0 => 200
  | 1 => 4
  | 2 => 100
  | 3 => 199
  | 4 => 50
  | _ => 100
def qWl : List Nat := [5, 4, 4, 4, 6, 4, 4]
def qWb : List (List Int32) := [[108, 105, 103, 104, 116], [100, 97, 114, 107], [107, 105, 110, 100], [100, 117, 108, 108], [115, 101, 99, 114, 101, 116], [115, 111, 114, 116], [115, 119, 97, 112]]
def qSx : List (Nat × String) := [(69, "light"), (71, "dark"), (73, "kind"), (75, "dull"), (77, "secret"), (79, "sort"), (81, "swap")]
/-- a sign of a word -/
def qCh (i j : Nat) : Int := ((qWb.getD i []).getD j 0).toInt
def qFf (t0 t1 : Nat) (aK aV : Nat → Nat) : qFz := fun A U => (va_Z RX1 "LEAST" "[I" (.ref t0) A U U.heap ∧ va_T .int t0 6 (fun j => .int (qI (qLE j))) A U U.heap ∧ va_Z RX1 "MOST" "[I" (.ref t1) A U U.heap ∧ va_T .int t1 6 (fun j => .int (qI (qMO j))) A U U.heap) ∧ vk_S 7 qWl qWb aK aV A U U.heap ∧ (∀ j q, qSx[j]? = some q → vk_R RX0 q.1 q.2 (aK j) U) ∧ va_Z RJ0 "COMPACT_STRINGS" "Z" (.int (qI 1)) A U U.heap ∧ va_Zq "jdk/internal/util/Preconditions" "SIOOBE_FORMATTER" "Ljava/util/function/BiFunction;" A U U.heap
section QSTEP
variable {A B : Nat → Prop} {s U : State}
theorem va_Z_step {C n d : String} {v : Value} (hvm : s.vm.Alike U.vm) (hk : ∀ q : Nat, q < s.heap.size → ¬ A q → U.heap[q]? = s.heap[q]?) (hAB : ∀ q : Nat, q < s.heap.size → B q → A q) (h : va_Z C n d v A s s.heap) : va_Z C n d v B U U.heap := by
  obtain ⟨cf, kf, fi, f, a, cell, h1, h2, h3, h4, h5, h6, h7, h8⟩ := h
  obtain ⟨k', hi', he⟩ := State.fieldFound?_setVm hvm h1
  have hlt := (Array.getElem?_eq_some_iff.mp h5).1
  exact ⟨cf, k', fi, f, a, cell, hi', h2, by rw [he]; exact h3, by rw [he]; exact h4, by rw [hk a hlt h8]; exact h5, h6, h7, fun z => h8 (hAB a hlt z)⟩
theorem va_T_step {ty : FieldType} {t N : Nat} {f : Nat → Value} (hvm : s.vm.Alike U.vm) (hk : ∀ q : Nat, q < s.heap.size → ¬ A q → U.heap[q]? = s.heap[q]?) (hAB : ∀ q : Nat, q < s.heap.size → B q → A q) (h : va_T ty t N f A s s.heap) : va_T ty t N f B U U.heap := by
  obtain ⟨cell, h1, h2, h3, h4, h5, h6, h7⟩ := h
  have hlt := (Array.getElem?_eq_some_iff.mp h1).1
  exact ⟨cell, by rw [hk t hlt h7]; exact h1, State.isArrayOf_alike hvm h2, h3, h4, h5, h6, fun z => h7 (hAB t hlt z)⟩
theorem va_O_step {C : String} {t : Nat} (hvm : s.vm.Alike U.vm) (hk : ∀ q : Nat, q < s.heap.size → ¬ A q → U.heap[q]? = s.heap[q]?) (hAB : ∀ q : Nat, q < s.heap.size → B q → A q) (h : va_O C t A s s.heap) : va_O C t B U U.heap := by
  obtain ⟨cell, h1, h2, h3, h4⟩ := h
  have hlt := (Array.getElem?_eq_some_iff.mp h1).1
  exact ⟨cell, by rw [hk t hlt h4]; exact h1, h2, by rw [hvm.findClass]; exact h3, fun z => h4 (hAB t hlt z)⟩
theorem va_OF_step {o n d : String} {v : Value} {t : Nat} (hvm : s.vm.Alike U.vm) (hk : ∀ q : Nat, q < s.heap.size → ¬ A q → U.heap[q]? = s.heap[q]?) (hAB : ∀ q : Nat, q < s.heap.size → B q → A q) (h : va_OF o n d v t A s s.heap) : va_OF o n d v t B U U.heap := by
  obtain ⟨cf, k, i, f, cell, h1, h2, h3, h4, h5, h6⟩ := h
  obtain ⟨k', hi', he⟩ := State.fieldFound?_setVm hvm h1
  have hlt := (Array.getElem?_eq_some_iff.mp h3).1
  exact ⟨cf, k', i, f, cell, hi', h2, by rw [hk t hlt h6]; exact h3, h4, h5, fun z => h6 (hAB t hlt z)⟩
theorem vk_S_step {N : Nat} {len : List Nat} {byt : List (List Int32)} {adK adV : Nat → Nat} (hvm : s.vm.Alike U.vm) (hk : ∀ q : Nat, q < s.heap.size → ¬ A q → U.heap[q]? = s.heap[q]?) (hAB : ∀ q : Nat, q < s.heap.size → B q → A q) (h : vk_S N len byt adK adV A s s.heap) : vk_S N len byt adK adV B U U.heap :=
  ⟨fun i hi => ⟨va_O_step hvm hk hAB (h.1 i hi).1, va_OF_step hvm hk hAB (h.1 i hi).2.1, va_OF_step hvm hk hAB (h.1 i hi).2.2.1, va_T_step hvm hk hAB (h.1 i hi).2.2.2⟩, h.2⟩
theorem va_Zq_step {C n d : String} (hvm : s.vm.Alike U.vm) (hk : ∀ q : Nat, q < s.heap.size → ¬ A q → U.heap[q]? = s.heap[q]?) (hAB : ∀ q : Nat, q < s.heap.size → B q → A q) (h : va_Zq C n d A s s.heap) : va_Zq C n d B U U.heap := by
  rcases h with h | ⟨t, h⟩
  · exact Or.inl (va_Z_step hvm hk hAB h)
  · exact Or.inr ⟨t, va_Z_step hvm hk hAB h⟩
end QSTEP
theorem qFf_ok (t0 t1 : Nat) (aK aV : Nat → Nat) : qFok (qFf t0 t1 aK aV) := by
  refine ⟨fun A U g mk a h => ?_, fun A B s U hW hk hAB h => ?_⟩
  · obtain ⟨⟨h1, h2, h3, h4⟩, h5, h6, h7, h8⟩ := h
    exact ⟨⟨va_Z.moved (u := U) (Vm.Alike.refl U.vm) h1, va_T.moved (u := U) (Vm.Alike.refl U.vm) h2, va_Z.moved (u := U) (Vm.Alike.refl U.vm) h3, va_T.moved (u := U) (Vm.Alike.refl U.vm) h4⟩, vk_S.moved (u := U) (Vm.Alike.refl U.vm) h5, fun j q hq => vk_R.same (u := U) rfl (h6 j q hq), va_Z.moved (u := U) (Vm.Alike.refl U.vm) h7, va_Zq.moved (u := U) (Vm.Alike.refl U.vm) h8⟩
  · obtain ⟨⟨h1, h2, h3, h4⟩, h5, h6, h7, h8⟩ := h
    have hvm := hW.alike
    exact ⟨⟨va_Z_step hvm hk hAB h1, va_T_step hvm hk hAB h2, va_Z_step hvm hk hAB h3, va_T_step hvm hk hAB h4⟩, vk_S_step hvm hk hAB h5, fun j q hq => vk_R.warm hW (h6 j q hq), va_Z_step hvm hk hAB h7, va_Zq_step hvm hk hAB h8⟩
section QFR
variable {X : qX} {l : Launch} {D : va_G} {E : Nat → ClassId} {ro : Bool} {t0 t1 : Nat} {aK aV : Nat → Nat} {F' : qFz} {cc : ByteArray} {own : String} {nL : Nat} {Ts : List Cond} {rm : Room} {cells slots : Nat} {ws wc : va_W} {pc : Nat} {lv : List (Nat × Value)} {st : List Value} {index : Nat}
variable {y : MethodName} {wsy ws'' : List Cond} {fr lo maxL n : Nat} {bytes : ByteArray} {ret : Option FieldType} {b : Nat} {As : List Value} {ρ : Type} {em : ρ → Option Value} {Φ : ρ → Prop}

theorem z_getLE (C : qC X l D E ro (qFf t0 t1 aK aV) cc own nL Ts rm) (hlink : Cond.fieldLink own index RX1 "LEAST" "[I" ∈ Ts) (hdg : decode cc pc = .ok (.getstatic index, 3)) (k : qZ X cells slots ws (pc + 3) lv (.ref t0 :: st)) : qZ X cells slots ws pc lv st := by
  obtain ⟨⟨p, l', e, R⟩, ⟨s, m, args, below, meth, c⟩, ⟨nL', D', E', ro', A, pl, F''⟩, Q⟩ := X
  obtain ⟨⟨rfl, rfl, rfl, rfl, rfl, rfl, rfl⟩, hx, hb, hml, hown, hts, hK, hFz, hFo, hA⟩ := C
  intro ls H locs hl hG
  exact va_gets hx hb hFz.1.1 hG.2.1 hown (hts _ hlink) (fun _ h => h) hdg (k ls H locs hl hG)
theorem z_aldLE (C : qC X l D E ro (qFf t0 t1 aK aV) cc own nL Ts rm) {i : Int} (hi : 0 ≤ i ∧ i < (6 : Nat)) (hdg : decode cc pc = .ok (.iaload, 1)) (k : qZ X cells slots ws (pc + 1) lv (.int (qI (qLE i.toNat)) :: st)) : qZ X cells slots ws pc lv (.int (qI i) :: .ref t0 :: st) := by
  obtain ⟨⟨p, l', e, R⟩, ⟨s, m, args, below, meth, c⟩, ⟨nL', D', E', ro', A, pl, F''⟩, Q⟩ := X
  obtain ⟨⟨rfl, rfl, rfl, rfl, rfl, rfl, rfl⟩, hx, hb, hml, hown, hts, hK, hFz, hFo, hA⟩ := C
  intro ls H locs hl hG
  exact va_ti hx hb hFz.1.2.1 hG.2.1 (qI_in hi (by decide)) (by rw [qI_clamp hi.1 (by omega)]) hdg (k ls H locs hl hG)
theorem z_getMO (C : qC X l D E ro (qFf t0 t1 aK aV) cc own nL Ts rm) (hlink : Cond.fieldLink own index RX1 "MOST" "[I" ∈ Ts) (hdg : decode cc pc = .ok (.getstatic index, 3)) (k : qZ X cells slots ws (pc + 3) lv (.ref t1 :: st)) : qZ X cells slots ws pc lv st := by
  obtain ⟨⟨p, l', e, R⟩, ⟨s, m, args, below, meth, c⟩, ⟨nL', D', E', ro', A, pl, F''⟩, Q⟩ := X
  obtain ⟨⟨rfl, rfl, rfl, rfl, rfl, rfl, rfl⟩, hx, hb, hml, hown, hts, hK, hFz, hFo, hA⟩ := C
  intro ls H locs hl hG
  exact va_gets hx hb hFz.1.2.2.1 hG.2.1 hown (hts _ hlink) (fun _ h => h) hdg (k ls H locs hl hG)
theorem z_aldMO (C : qC X l D E ro (qFf t0 t1 aK aV) cc own nL Ts rm) {i : Int} (hi : 0 ≤ i ∧ i < (6 : Nat)) (hdg : decode cc pc = .ok (.iaload, 1)) (k : qZ X cells slots ws (pc + 1) lv (.int (qI (qMO i.toNat)) :: st)) : qZ X cells slots ws pc lv (.int (qI i) :: .ref t1 :: st) := by
  obtain ⟨⟨p, l', e, R⟩, ⟨s, m, args, below, meth, c⟩, ⟨nL', D', E', ro', A, pl, F''⟩, Q⟩ := X
  obtain ⟨⟨rfl, rfl, rfl, rfl, rfl, rfl, rfl⟩, hx, hb, hml, hown, hts, hK, hFz, hFo, hA⟩ := C
  intro ls H locs hl hG
  exact va_ti hx hb hFz.1.2.2.2 hG.2.1 (qI_in hi (by decide)) (by rw [qI_clamp hi.1 (by omega)]) hdg (k ls H locs hl hG)
theorem z_getCS (C : qC X l D E ro (qFf t0 t1 aK aV) cc own nL Ts rm) (hlink : Cond.fieldLink own index RJ0 "COMPACT_STRINGS" "Z" ∈ Ts) (hdg : decode cc pc = .ok (.getstatic index, 3)) (k : qZ X cells slots ws (pc + 3) lv (.int (qI 1) :: st)) : qZ X cells slots ws pc lv st := by
  obtain ⟨⟨p, l', e, R⟩, ⟨s, m, args, below, meth, c⟩, ⟨nL', D', E', ro', A, pl, F''⟩, Q⟩ := X
  obtain ⟨⟨rfl, rfl, rfl, rfl, rfl, rfl, rfl⟩, hx, hb, hml, hown, hts, hK, hFz, hFo, hA⟩ := C
  intro ls H locs hl hG
  exact va_gets hx hb hFz.2.2.2.1 hG.2.1 hown (hts _ hlink) (fun _ h => h) hdg (k ls H locs hl hG)
theorem z_getFM (C : qC X l D E ro (qFf t0 t1 aK aV) cc own nL Ts rm) (hlink : Cond.fieldLink own index "jdk/internal/util/Preconditions" "SIOOBE_FORMATTER" "Ljava/util/function/BiFunction;" ∈ Ts) (hdg : decode cc pc = .ok (.getstatic index, 3)) (kn : qZ X cells slots ws (pc + 3) lv (.null :: st)) (kr : ∀ t : Nat, qZ X cells slots ws (pc + 3) lv (.ref t :: st)) : qZ X cells slots ws pc lv st := by
  obtain ⟨⟨p, l', e, R⟩, ⟨s, m, args, below, meth, c⟩, ⟨nL', D', E', ro', A, pl, F''⟩, Q⟩ := X
  obtain ⟨⟨rfl, rfl, rfl, rfl, rfl, rfl, rfl⟩, hx, hb, hml, hown, hts, hK, hFz, hFo, hA⟩ := C
  intro ls H locs hl hG
  rcases hFz.2.2.2.2 with h | ⟨t, h⟩
  · exact va_gets hx hb h hG.2.1 hown (hts _ hlink) (fun _ h => h) hdg (kn ls H locs hl hG)
  · exact va_gets hx hb h hG.2.1 hown (hts _ hlink) (fun _ h => h) hdg (kr t ls H locs hl hG)
theorem z_sval (C : qC X l D E ro (qFf t0 t1 aK aV) cc own nL Ts rm) {i : Nat} (hi : i < 7) (hlink : Cond.fieldLink own index "java/lang/String" "value" "[B" ∈ Ts) (hdg : decode cc pc = .ok (.getfield index, 3)) (k : qZ X cells slots ws (pc + 3) lv (.ref (aV i) :: st)) : qZ X cells slots ws pc lv (.ref (aK i) :: st) := by
  obtain ⟨⟨p, l', e, R⟩, ⟨s, m, args, below, meth, c⟩, ⟨nL', D', E', ro', A, pl, F''⟩, Q⟩ := X
  obtain ⟨⟨rfl, rfl, rfl, rfl, rfl, rfl, rfl⟩, hx, hb, hml, hown, hts, hK, hFz, hFo, hA⟩ := C
  intro ls H locs hl hG
  exact vk_getf hx hb (hFz.2.1.1 i hi).2.2.1 hG.2.1 hown (hts _ hlink) (fun _ h => h) hdg (k ls H locs hl hG)
theorem z_scod (C : qC X l D E ro (qFf t0 t1 aK aV) cc own nL Ts rm) {i : Nat} (hi : i < 7) (hlink : Cond.fieldLink own index "java/lang/String" "coder" "B" ∈ Ts) (hdg : decode cc pc = .ok (.getfield index, 3)) (k : qZ X cells slots ws (pc + 3) lv (.int (qI 0) :: st)) : qZ X cells slots ws pc lv (.ref (aK i) :: st) := by
  obtain ⟨⟨p, l', e, R⟩, ⟨s, m, args, below, meth, c⟩, ⟨nL', D', E', ro', A, pl, F''⟩, Q⟩ := X
  obtain ⟨⟨rfl, rfl, rfl, rfl, rfl, rfl, rfl⟩, hx, hb, hml, hown, hts, hK, hFz, hFo, hA⟩ := C
  intro ls H locs hl hG
  have h0 : (0 : Int32) = qI 0 := by decide
  refine vk_getf hx hb (hFz.2.1.1 i hi).2.1 hG.2.1 hown (hts _ hlink) (fun _ h => h) hdg ?_
  rw [h0]
  exact k ls H locs hl hG
theorem z_slen (C : qC X l D E ro (qFf t0 t1 aK aV) cc own nL Ts rm) {i : Nat} (hi : i < 7) (hdg : decode cc pc = .ok (.arraylength, 1)) (k : qZ X cells slots ws (pc + 1) lv (.int (qI (qWl.getD i 0 : Nat)) :: st)) : qZ X cells slots ws pc lv (.ref (aV i) :: st) := by
  obtain ⟨⟨p, l', e, R⟩, ⟨s, m, args, below, meth, c⟩, ⟨nL', D', E', ro', A, pl, F''⟩, Q⟩ := X
  obtain ⟨⟨rfl, rfl, rfl, rfl, rfl, rfl, rfl⟩, hx, hb, hml, hown, hts, hK, hFz, hFo, hA⟩ := C
  intro ls H locs hl hG
  exact va_tlen hx hb (hFz.2.1.1 i hi).2.2.2 hG.2.1 (by rw [qI_nat]) hdg (k ls H locs hl hG)
theorem z_sbyte (C : qC X l D E ro (qFf t0 t1 aK aV) cc own nL Ts rm) {i : Nat} (hi : i < 7) {j : Int} (hj : 0 ≤ j ∧ j < (qWl.getD i 0 : Nat)) (hlt : qWl.getD i 0 < 100) (hdg : decode cc pc = .ok (.baload, 1)) (k : qZ X cells slots ws (pc + 1) lv (.int (qI (qCh i j.toNat)) :: st)) : qZ X cells slots ws pc lv (.int (qI j) :: .ref (aV i) :: st) := by
  obtain ⟨⟨p, l', e, R⟩, ⟨s, m, args, below, meth, c⟩, ⟨nL', D', E', ro', A, pl, F''⟩, Q⟩ := X
  obtain ⟨⟨rfl, rfl, rfl, rfl, rfl, rfl, rfl⟩, hx, hb, hml, hown, hts, hK, hFz, hFo, hA⟩ := C
  intro ls H locs hl hG
  refine va_tb hx hb (hFz.2.1.1 i hi).2.2.2 hG.2.1 (qI_in hj (by omega)) rfl hdg ?_
  rw [qI_clamp hj.1 (by omega)]
  have h := k ls H locs hl hG
  unfold qCh at h
  rw [qI_of] at h
  exact h
theorem z_ldcS (C : qC X l D E ro (qFf t0 t1 aK aV) cc own nL Ts rm) {j : Nat} {tx : String} (hq : qSx[j]? = some (index, tx)) (hown9 : own = RX0) (hdg : decode cc pc = .ok (.ldc index, 2)) (k : qZ X cells slots ws (pc + 2) lv (.ref (aK j) :: st)) : qZ X cells slots ws pc lv st := by
  obtain ⟨⟨p, l', e, R⟩, ⟨s, m, args, below, meth, c⟩, ⟨nL', D', E', ro', A, pl, F''⟩, Q⟩ := X
  obtain ⟨⟨rfl, rfl, rfl, rfl, rfl, rfl, rfl⟩, hx, hb, hml, hown, hts, hK, hFz, hFo, hA⟩ := C
  intro ls H locs hl hG
  subst hown9
  exact va_ldcS hx hb hown (hFz.2.2.1 j _ hq) hdg (k ls H locs hl hG)
theorem z_null_aload_n (C : qC X l D E ro (qFf t0 t1 aK aV) cc own nL Ts rm) {k9 : Fin 4} {i : Nat} (q : Nat) (hq : lv[q]? = some (i, .null)) (hi : (k9 : Nat) = i) (hdg : decode cc pc = .ok (.aload_n k9, 1)) (k : qZ X cells slots ws (pc + 1) lv (.null :: st)) : qZ X cells slots ws pc lv st := by
  obtain ⟨⟨p, l', e, R⟩, ⟨s, m, args, below, meth, c⟩, ⟨nL', D', E', ro', A, pl, F''⟩, Q⟩ := X
  obtain ⟨⟨rfl, rfl, rfl, rfl, rfl, rfl, rfl⟩, hx, hb, hml, hown, hts, hK, hFz, hFo, hA⟩ := C
  intro ls H locs hl hG
  exact lv_aload_nN hx hb hdg hi (lv_at hl q hq) (k ls H locs hl hG)
theorem z_callVS (C : qC X l D E ro (qFf t0 t1 aK aV) cc own nL Ts rm) {i : Nat} (hi : i < 7) (hM : qRO l D E F' y wsy fr lo wc (.ref (aK i) :: As) em Φ) (hF' : qFok F') (hFF : ∀ A U, qFf t0 t1 aK aV A U → F' A U) (hT : GoodIn Ts (wsV own index RJ0 y wsy)) (hw : wsy = Cond.code y bytes maxL ret :: ws'')
    (hd : y.cls = RJ0 ∧ y.cls ≠ "java/lang/invoke/MethodHandle" ∧ y.cls ≠ "java/lang/invoke/VarHandle" ∧ (parseMethodDescriptor y.desc).map (fun d => d.parameters.length) = some n) (hR : fr + 1 ≤ rm.frames ∧ 8 + (maxL + 11) + lo ≤ rm.locals) (hn : As.length = n) (is : List Nat) (hs : is.map (fun i => ws[i]?) = wc.map some) {stk : List Value} (hst : stk = As.reverse ++ .ref (aK i) :: st) (hcat : (st.map fun v => v.category).sum ≤ 8) (hdg : decode cc pc = .ok (.invokevirtual index, 3))
    (k : ∀ r, Φ r → qZ X 0 0 ws (pc + 3) lv ((em r).toList ++ st)) : qZ X 0 0 ws pc lv stk := by
  obtain ⟨⟨p, l', e, R⟩, ⟨s, m, args, below, meth, c⟩, ⟨nL', D', E', ro', A, pl, F''⟩, Q⟩ := X
  obtain ⟨⟨rfl, rfl, rfl, rfl, rfl, rfl, rfl⟩, hx, hb, hml, hown, hts, hK, hFz, hFo, hA⟩ := C
  intro ls H locs hl hG
  have hP := hG.1.sub is (qfm _ _ (qmapapp is wc hs))
  have hpre := qpreRO (p := p) (pl := pl) (av := .ref (aK i) :: As) hF' hFF hFo hFz hK hG.2.1 hP
  exact qfinRO (a := (Value.ref (aK i) :: As).toArray) (W.runV (g := F0 m pc ls stk) ⟨hx, hb, hml, hown, hts⟩ hM (cwV n hts hT hw rfl rfl hd hR) ⟨hpre.1, vk_recv hFz.2.1 hi hG.2.1, hpre.2⟩ rfl hn hl.1 hst (lv_room hcat) hdg ⟨Nat.zero_le _, Nat.zero_le _⟩) (fun r hφ => k r hφ ls H locs hl hG)
end QFR
theorem qRO_n {ty : FieldType} {l : Launch} {D : va_G} {E : Nat → ClassId} {F : qFz} {y : MethodName} {wsy ws' : List Cond} {fr lo nL : Nat} {wc : va_W} {av : List Value} {cc : ByteArray} {own : String} {Φ : Int → Prop} (hF : qFok F) (hy : plainName y.cls = true) (hw : wsy = Cond.code y cc nL (some ty) :: ws') (hc : y.cls = own) (hn : (lg_sl av).length ≤ nL)
    (body : ∀ X : qX, qC X l D E true F cc own nL wsy { frames := fr, cells := 0, slots := 0, locals := lo } → (∀ (pc : Nat) (lv : List (Nat × Value)) (r : Int), decode cc pc = .ok (.ireturn, 1) → narrow ty (.int (qI r)) = .int (qI r) → Φ r → qZ X 0 0 wc pc lv [.int (qI r)]) → qZ X 0 0 wc 0 (lv_args 0 av) []) : qRO l D E F y wsy fr lo wc av qeI Φ := by
  refine Met.ofW (cc := cc) (maxL := nL) (ret := some ty) hy hw ?_
  intro p e s m args below meth c s₁ B hml hv
  obtain ⟨rfl, hP, hK, hFz⟩ := hv
  have hts := atoms_spec (ws := wsy) B.pre
  have hown : s.vm.findClass own = some m.cls := by rw [← hc]; exact findClass_of_methodNamed B.named
  have hlocks := B.notSynchronized
  have hx := B.exec
  have hb := B.bytes
  have hr := B.returns
  have hl := lv_entry av (n := nL) hn
  rw [lg_entry_eq]
  have hZ := body ⟨⟨p, l, e, (headSpec wsy { frames := fr, cells := 0, slots := 0, locals := lo }).room⟩, ⟨s, m, av.toArray, below, meth, c⟩, ⟨nL, D, E, true, fun _ => False, [], F⟩, MQ below (fun _ s o t => (∃ r, o = .returned (qeI r) ∧ Φ r) ∧ t.heap = s.heap) av.toArray s 0 0 (fun _ => False)⟩
    ⟨⟨rfl, rfl, rfl, rfl, rfl, rfl, rfl⟩, B.exec, B.bytes, hml, hown, hts, hK, hFz, hF, fun h => by cases h⟩ ?_
  · exact hZ _ s.heap [] hl ⟨by rw [List.append_nil]; exact hP, va_S.rf, fun _ => ⟨rfl, rfl⟩, fun h => by cases h⟩
  · intro pc lv r hd hc9 hφ ls H locs hl hG
    obtain ⟨e1, e2⟩ := hG.2.2.1 rfl
    subst e2
    exact W.zret (ty := ty) hx hb hr hc9 (fun t ht hW => ⟨⟨r, rfl, hφ⟩, ht.trans e1⟩) (fun q h => by cases h) hd hlocks

set_option maxHeartbeats 4000000 in
set_option maxRecDepth 100000 in
theorem c_J0_coder (l : Launch) (D : va_G) (E : Nat → ClassId) (t0 t1 : Nat) (aK aV : Nat → Nat) (i : Nat) {Φ : Int → Prop} (hi : i < 7) (hw : Φ 0) : qRO l D E (qFf t0 t1 aK aV) yJ0_coder_7d493 wsJ0_coder_7d493 0 0 [] [.ref (aK i)] qeI (fun r => Φ r) := by
  refine qRO_n (nL := 1) (own := RJ0) (ty := .byte) (qFf_ok t0 t1 aK aV) (by decide) rfl rfl (Nat.le_of_ble_eq_true rfl) (fun X C hend => ?_)
  show qZ X 0 0 [] 0 [(0, .ref (aK i))] []
  refine z_getCS C (List.mem_of_getElem? (i := 1) rfl) dJ0_coder_7d493_0 ?_
  refine z_if_eq (tgt := 13) C (by decide) (by decide) dJ0_coder_7d493_3 (fun c => absurd c (by decide)) (fun _ => ?_)
  refine z_aload_n C 0 rfl rfl dJ0_coder_7d493_6 ?_
  refine z_scod C hi (List.mem_of_getElem? (i := 2) rfl) dJ0_coder_7d493_7 ?_
  refine z_goto (tgt := 14) C (by decide) dJ0_coder_7d493_10 ?_
  exact hend 14 _ 0 dJ0_coder_7d493_14 rfl hw
set_option maxHeartbeats 4000000 in
set_option maxRecDepth 100000 in
theorem c_J0_isLatin1 (l : Launch) (D : va_G) (E : Nat → ClassId) (t0 t1 : Nat) (aK aV : Nat → Nat) (i : Nat) {Φ : Int → Prop} (hi : i < 7) (hw : Φ 1) : qRO l D E (qFf t0 t1 aK aV) yJ0_isLatin1_aae02 wsJ0_isLatin1_aae02 0 0 [] [.ref (aK i)] qeI (fun r => Φ r) := by
  refine qRO_bool (nL := 1) (own := RJ0) (qFf_ok t0 t1 aK aV) (by decide) rfl rfl (Nat.le_of_ble_eq_true rfl) (fun X C hend => ?_)
  show qZ X 0 0 [] 0 [(0, .ref (aK i))] []
  refine z_getCS C (List.mem_of_getElem? (i := 1) rfl) dJ0_isLatin1_aae02_0 ?_
  refine z_if_eq (tgt := 17) C (by decide) (by decide) dJ0_isLatin1_aae02_3 (fun c => absurd c (by decide)) (fun _ => ?_)
  refine z_aload_n C 0 rfl rfl dJ0_isLatin1_aae02_6 ?_
  refine z_scod C hi (List.mem_of_getElem? (i := 2) rfl) dJ0_isLatin1_aae02_7 ?_
  refine z_if_ne (tgt := 17) C (by decide) (by decide) dJ0_isLatin1_aae02_10 (fun c => absurd rfl c) (fun _ => ?_)
  refine z_iconst C dJ0_isLatin1_aae02_13 ?_
  refine z_goto (tgt := 18) C (by decide) dJ0_isLatin1_aae02_14 ?_
  exact hend 18 _ 1 dJ0_isLatin1_aae02_18 (Or.inr rfl) hw
set_option maxHeartbeats 4000000 in
set_option maxRecDepth 100000 in
theorem c_J0_length (l : Launch) (D : va_G) (E : Nat → ClassId) (t0 t1 : Nat) (aK aV : Nat → Nat) (i : Nat) {Φ : Int → Prop} (hi : i < 7) (hw : Φ (qWl.getD i 0 : Nat)) : qRO l D E (qFf t0 t1 aK aV) yJ0_length_8abf5 wsJ0_length_8abf5 1 20 [] [.ref (aK i)] qeI (fun r => Φ r) := by
  refine qRO_int (nL := 1) (own := RJ0) (qFf_ok t0 t1 aK aV) (by decide) rfl rfl (Nat.le_of_ble_eq_true rfl) (fun X C hend => ?_)
  show qZ X 0 0 [] 0 [(0, .ref (aK i))] []
  refine z_aload_n C 0 rfl rfl dJ0_length_8abf5_0 ?_
  refine z_sval C hi (List.mem_of_getElem? (i := 1) rfl) dJ0_length_8abf5_1 ?_
  refine z_slen C hi dJ0_length_8abf5_4 ?_
  refine z_aload_n C 0 rfl rfl dJ0_length_8abf5_5 ?_
  refine z_callVS (n := 0) C hi (c_J0_coder l D E t0 t1 aK aV i (Φ := fun r => r = 0) hi rfl) (qFf_ok t0 t1 aK aV) (fun _ _ h => h) gJ0_length_8abf5_J0_coder_7d493 rfl (by decide +kernel) ⟨(Nat.le_of_ble_eq_true rfl), (Nat.le_of_ble_eq_true rfl)⟩ rfl [] rfl rfl (Nat.le_of_ble_eq_true rfl) dJ0_length_8abf5_6 (fun r hr => ?_)
  show qZ X 0 0 [] _ _ [.int (qI r), .int (qI (qWl.getD i 0 : Nat))]
  obtain rfl : r = 0 := hr
  refine z_ishr C dJ0_length_8abf5_9 ?_
  refine z_name (fun v ev => ?_)
  have e9 : v = (qWl.getD i 0 : Nat) := by
    rw [ev]
    rcases (show i = 0 ∨ i = 1 ∨ i = 2 ∨ i = 3 ∨ i = 4 ∨ i = 5 ∨ i = 6 by omega) with rfl | rfl | rfl | rfl | rfl | rfl | rfl <;> decide +kernel
  exact hend 10 _ v dJ0_length_8abf5_10 (by rw [e9]; exact hw)
set_option maxHeartbeats 4000000 in
set_option maxRecDepth 100000 in
theorem c_J3_checkIndex_n (l : Launch) (D : va_G) (E : Nat → ClassId) (t0 t1 : Nat) (aK aV : Nat → Nat)  (a b : Int) {Φ : Int → Prop} (h0 : 0 ≤ a ∧ a < b ∧ b < 1000) (hw : Φ a) : qRO l D E qF0 yJ3_checkIndex_8e157 wsJ3_checkIndex_8e157 0 0 [] [.int (qI a), .int (qI b), .null] qeI (fun r => Φ r) := by
  refine qRO_int (nL := 3) (own := RJ3) qF0_ok (by decide) rfl rfl (Nat.le_of_ble_eq_true rfl) (fun X C hend => ?_)
  show qZ X 0 0 [] 0 [(0, .int (qI a)), (1, .int (qI b)), (2, .null)] []
  refine z_iload_n C 0 rfl rfl dJ3_checkIndex_8e157_0 ?_
  refine z_if_lt (tgt := 9) C ⟨by omega, by omega⟩ (by decide) dJ3_checkIndex_8e157_1 (fun c => absurd c (by omega)) (fun _ => ?_)
  refine z_iload_n C 0 rfl rfl dJ3_checkIndex_8e157_4 ?_
  refine z_iload_n C 1 rfl rfl dJ3_checkIndex_8e157_5 ?_
  refine z_icmp_lt (tgt := 16) C ⟨⟨by omega, by omega⟩, ⟨by omega, by omega⟩⟩ (by decide) dJ3_checkIndex_8e157_6 (fun _ => ?_) (fun c => absurd (by omega) c)
  refine z_iload_n C 0 rfl rfl dJ3_checkIndex_8e157_16 ?_
  exact hend 17 _ a dJ3_checkIndex_8e157_17 hw
set_option maxHeartbeats 4000000 in
set_option maxRecDepth 100000 in
theorem c_J3_checkIndex_r (l : Launch) (D : va_G) (E : Nat → ClassId) (t0 t1 : Nat) (aK aV : Nat → Nat) (tt : Nat) (a b : Int) {Φ : Int → Prop} (h0 : 0 ≤ a ∧ a < b ∧ b < 1000) (hw : Φ a) : qRO l D E qF0 yJ3_checkIndex_8e157 wsJ3_checkIndex_8e157 0 0 [] [.int (qI a), .int (qI b), .ref tt] qeI (fun r => Φ r) := by
  refine qRO_int (nL := 3) (own := RJ3) qF0_ok (by decide) rfl rfl (Nat.le_of_ble_eq_true rfl) (fun X C hend => ?_)
  show qZ X 0 0 [] 0 [(0, .int (qI a)), (1, .int (qI b)), (2, .ref tt)] []
  refine z_iload_n C 0 rfl rfl dJ3_checkIndex_8e157_0 ?_
  refine z_if_lt (tgt := 9) C ⟨by omega, by omega⟩ (by decide) dJ3_checkIndex_8e157_1 (fun c => absurd c (by omega)) (fun _ => ?_)
  refine z_iload_n C 0 rfl rfl dJ3_checkIndex_8e157_4 ?_
  refine z_iload_n C 1 rfl rfl dJ3_checkIndex_8e157_5 ?_
  refine z_icmp_lt (tgt := 16) C ⟨⟨by omega, by omega⟩, ⟨by omega, by omega⟩⟩ (by decide) dJ3_checkIndex_8e157_6 (fun _ => ?_) (fun c => absurd (by omega) c)
  refine z_iload_n C 0 rfl rfl dJ3_checkIndex_8e157_16 ?_
  exact hend 17 _ a dJ3_checkIndex_8e157_17 hw
set_option maxHeartbeats 4000000 in
set_option maxRecDepth 100000 in
theorem c_J0_checkIndex (l : Launch) (D : va_G) (E : Nat → ClassId) (t0 t1 : Nat) (aK aV : Nat → Nat) (a b : Int) {Φ : Prop} (h0 : 0 ≤ a ∧ a < b ∧ b < 1000) (hw : Φ) : qRO l D E (qFf t0 t1 aK aV) yJ0_checkIndex_df160 wsJ0_checkIndex_df160 1 22 [] [.int (qI a), .int (qI b)] qeV (fun _ => Φ) := by
  refine qRO_void (nL := 2) (own := RJ0) (qFf_ok t0 t1 aK aV) (by decide) rfl rfl (Nat.le_of_ble_eq_true rfl) (fun X C hend => ?_)
  show qZ X 0 0 [] 0 [(0, .int (qI a)), (1, .int (qI b))] []
  refine z_iload_n C 0 rfl rfl dJ0_checkIndex_df160_0 ?_
  refine z_iload_n C 1 rfl rfl dJ0_checkIndex_df160_1 ?_
  refine z_getFM C (List.mem_of_getElem? (i := 1) rfl) dJ0_checkIndex_df160_2 ?_ (fun tt => ?_)
  · refine z_callS (n := 3) C (c_J3_checkIndex_n l D E t0 t1 aK aV a b (Φ := fun _ => True) h0 trivial) qF0_ok (fun _ _ _ => trivial) gJ0_checkIndex_df160_J3_checkIndex_8e157 rfl (by decide +kernel) ⟨(Nat.le_of_ble_eq_true rfl), (Nat.le_of_ble_eq_true rfl)⟩ rfl [] rfl rfl (Nat.le_of_ble_eq_true rfl) dJ0_checkIndex_df160_5 (fun r _ => ?_)
    show qZ X 0 0 [] _ _ [.int (qI r)]
    refine z_pop C rfl dJ0_checkIndex_df160_8 ?_
    exact hend 9 _ () dJ0_checkIndex_df160_9 hw
  · refine z_callS (n := 3) C (c_J3_checkIndex_r l D E t0 t1 aK aV tt a b (Φ := fun _ => True) h0 trivial) qF0_ok (fun _ _ _ => trivial) gJ0_checkIndex_df160_J3_checkIndex_8e157 rfl (by decide +kernel) ⟨(Nat.le_of_ble_eq_true rfl), (Nat.le_of_ble_eq_true rfl)⟩ rfl [] rfl rfl (Nat.le_of_ble_eq_true rfl) dJ0_checkIndex_df160_5 (fun r _ => ?_)
    show qZ X 0 0 [] _ _ [.int (qI r)]
    refine z_pop C rfl dJ0_checkIndex_df160_8 ?_
    exact hend 9 _ () dJ0_checkIndex_df160_9 hw
theorem qCh_all : ∀ i, i < 7 → ∀ j, j < 6 → qand (qCh i j) 255 = qCh i j ∧ (0 ≤ qCh i j ∧ qCh i j < 128) ∧ narrow .char (.int (qI (qCh i j))) = .int (qI (qCh i j)) := by decide +kernel
theorem qWl_all : ∀ i, i < 7 → qWl.getD i 0 ≤ 6 := by decide +kernel
set_option maxHeartbeats 4000000 in
set_option maxRecDepth 100000 in
theorem c_J1_charAt (l : Launch) (D : va_G) (E : Nat → ClassId) (t0 t1 : Nat) (aK aV : Nat → Nat) (i : Nat) (j : Int) {Φ : Int → Prop} (hi : i < 7) (hj : 0 ≤ j ∧ j < (qWl.getD i 0 : Nat)) (hw : Φ (qCh i j.toNat)) : qRO l D E (qFf t0 t1 aK aV) yJ1_charAt_3b067 wsJ1_charAt_3b067 2 43 [] [.ref (aV i), .int (qI j)] qeI (fun r => Φ r) := by
  have hL := qWl_all i hi
  obtain ⟨a1, a2, a3⟩ := qCh_all i hi j.toNat (by omega)
  refine qRO_n (nL := 2) (own := RJ1) (ty := .char) (qFf_ok t0 t1 aK aV) (by decide) rfl rfl (Nat.le_of_ble_eq_true rfl) (fun X C hend => ?_)
  show qZ X 0 0 [] 0 [(0, .ref (aV i)), (1, .int (qI j))] []
  refine z_iload_n C 1 rfl rfl dJ1_charAt_3b067_0 ?_
  refine z_aload_n C 0 rfl rfl dJ1_charAt_3b067_1 ?_
  refine z_slen C hi dJ1_charAt_3b067_2 ?_
  refine z_callS (n := 2) C (c_J0_checkIndex l D E t0 t1 aK aV j (qWl.getD i 0 : Nat) (Φ := True) ⟨hj.1, hj.2, by omega⟩ trivial) (qFf_ok t0 t1 aK aV) (fun _ _ h => h) gJ1_charAt_3b067_J0_checkIndex_df160 rfl (by decide +kernel) ⟨(Nat.le_of_ble_eq_true rfl), (Nat.le_of_ble_eq_true rfl)⟩ rfl [] rfl rfl (Nat.le_of_ble_eq_true rfl) dJ1_charAt_3b067_3 (fun r _ => ?_)
  show qZ X 0 0 [] _ _ []
  refine z_aload_n C 0 rfl rfl dJ1_charAt_3b067_6 ?_
  refine z_iload_n C 1 rfl rfl dJ1_charAt_3b067_7 ?_
  refine z_sbyte C hi hj (by omega) dJ1_charAt_3b067_8 ?_
  refine z_sipush C (by decide +kernel) dJ1_charAt_3b067_9 ?_
  refine z_iand C dJ1_charAt_3b067_12 ?_
  rw [a1]
  refine z_i2c C ⟨a2.1, by omega⟩ dJ1_charAt_3b067_13 ?_
  exact hend 14 _ _ dJ1_charAt_3b067_14 a3 hw
set_option maxHeartbeats 4000000 in
set_option maxRecDepth 100000 in
theorem c_J0_charAt (l : Launch) (D : va_G) (E : Nat → ClassId) (t0 t1 : Nat) (aK aV : Nat → Nat) (i : Nat) (j : Int) {Φ : Int → Prop} (hi : i < 7) (hj : 0 ≤ j ∧ j < (qWl.getD i 0 : Nat)) (hw : Φ (qCh i j.toNat)) : qRO l D E (qFf t0 t1 aK aV) yJ0_charAt_5068e wsJ0_charAt_5068e 3 64 [] [.ref (aK i), .int (qI j)] qeI (fun r => Φ r) := by
  have hL := qWl_all i hi
  obtain ⟨a1, a2, a3⟩ := qCh_all i hi j.toNat (by omega)
  refine qRO_n (nL := 2) (own := RJ0) (ty := .char) (qFf_ok t0 t1 aK aV) (by decide) rfl rfl (Nat.le_of_ble_eq_true rfl) (fun X C hend => ?_)
  show qZ X 0 0 [] 0 [(0, .ref (aK i)), (1, .int (qI j))] []
  refine z_aload_n C 0 rfl rfl dJ0_charAt_5068e_0 ?_
  refine z_callVS (n := 0) C hi (c_J0_isLatin1 l D E t0 t1 aK aV i (Φ := fun r => r = 1) hi rfl) (qFf_ok t0 t1 aK aV) (fun _ _ h => h) gJ0_charAt_5068e_J0_isLatin1_aae02 rfl (by decide +kernel) ⟨(Nat.le_of_ble_eq_true rfl), (Nat.le_of_ble_eq_true rfl)⟩ rfl [] rfl rfl (Nat.le_of_ble_eq_true rfl) dJ0_charAt_5068e_1 (fun r hr => ?_)
  show qZ X 0 0 [] _ _ [.int (qI r)]
  obtain rfl : r = 1 := hr
  refine z_if_eq (tgt := 16) C (by decide) (by decide) dJ0_charAt_5068e_4 (fun c => absurd c (by decide)) (fun _ => ?_)
  refine z_aload_n C 0 rfl rfl dJ0_charAt_5068e_7 ?_
  refine z_sval C hi (List.mem_of_getElem? (i := 1) rfl) dJ0_charAt_5068e_8 ?_
  refine z_iload_n C 1 rfl rfl dJ0_charAt_5068e_11 ?_
  refine z_callS (n := 2) C (c_J1_charAt l D E t0 t1 aK aV i j (Φ := fun r => r = qCh i j.toNat) hi hj rfl) (qFf_ok t0 t1 aK aV) (fun _ _ h => h) gJ0_charAt_5068e_J1_charAt_3b067 rfl (by decide +kernel) ⟨(Nat.le_of_ble_eq_true rfl), (Nat.le_of_ble_eq_true rfl)⟩ rfl [] rfl rfl (Nat.le_of_ble_eq_true rfl) dJ0_charAt_5068e_12 (fun r hr => ?_)
  show qZ X 0 0 [] _ _ [.int (qI r)]
  obtain rfl : r = qCh i j.toNat := hr
  exact hend 15 _ _ dJ0_charAt_5068e_15 a3 hw
