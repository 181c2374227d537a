/-! FROZEN CELLS: the class's static rows, the law's script -/
def qLE : Nat → Int := fun k => match k with
  | 0 => 8
  | 1 => 1
  | 2 => 1
  | 3 => 0
  | 4 => 1
  | _ => 1
def qMO : Nat → Int := fun k => match k with
  | 0 => 200
  | 1 => 4
  | 2 => 100
  | 3 => 199
  | 4 => 50
  | _ => 100
def qFf (t0 t1 b L : Nat) (xs : Nat → Int32) : qFz := fun A U => (va_Z RX1 "LEAST" "[I" (.ref t0) A U U.heap ∧ va_T .int t0 6 (fun j => .int (qI (qLE j))) A U U.heap ∧ va_Z RX1 "MOST" "[I" (.ref t1) A U U.heap ∧ va_T .int t1 6 (fun j => .int (qI (qMO j))) A U U.heap) ∧ va_X b L xs U U.heap ∧ b < U.heap.size ∧ ¬ A b
section QSTEP
variable {A B : Nat → Prop} {s U : State}
theorem va_Z_step {C n d : String} {v : Value} (hvm : s.vm.Alike U.vm) (hk : ∀ q : Nat, q < s.heap.size → ¬ A q → U.heap[q]? = s.heap[q]?) (hAB : ∀ q : Nat, q < s.heap.size → B q → A q) (h : va_Z C n d v A s s.heap) : va_Z C n d v B U U.heap := by
  obtain ⟨cf, kf, fi, f, a, cell, h1, h2, h3, h4, h5, h6, h7, h8⟩ := h
  obtain ⟨k', hi', he⟩ := State.fieldFound?_setVm hvm h1
  have hlt := (Array.getElem?_eq_some_iff.mp h5).1
  exact ⟨cf, k', fi, f, a, cell, hi', h2, by rw [he]; exact h3, by rw [he]; exact h4, by rw [hk a hlt h8]; exact h5, h6, h7, fun z => h8 (hAB a hlt z)⟩
theorem va_T_step {ty : FieldType} {t N : Nat} {f : Nat → Value} (hvm : s.vm.Alike U.vm) (hk : ∀ q : Nat, q < s.heap.size → ¬ A q → U.heap[q]? = s.heap[q]?) (hAB : ∀ q : Nat, q < s.heap.size → B q → A q) (h : va_T ty t N f A s s.heap) : va_T ty t N f B U U.heap := by
  obtain ⟨cell, h1, h2, h3, h4, h5, h6, h7⟩ := h
  have hlt := (Array.getElem?_eq_some_iff.mp h1).1
  exact ⟨cell, by rw [hk t hlt h7]; exact h1, State.isArrayOf_alike hvm h2, h3, h4, h5, h6, fun z => h7 (hAB t hlt z)⟩
theorem va_X_step {b L : Nat} {xs : Nat → Int32} (hvm : s.vm.Alike U.vm) (hk : ∀ q : Nat, q < s.heap.size → ¬ A q → U.heap[q]? = s.heap[q]?) (hAB : ∀ q : Nat, q < s.heap.size → B q → A q) (h : va_X b L xs s s.heap ∧ b < s.heap.size ∧ ¬ A b) : va_X b L xs U U.heap ∧ b < U.heap.size ∧ ¬ B b := by
  obtain ⟨h1, h2, h3⟩ := h
  have h4 := (h1.kept (hk b h2 h3)).moved hvm
  refine ⟨h4, ?_, fun z => h3 (hAB b h2 z)⟩
  obtain ⟨scr, h5, -⟩ := h4
  exact (Array.getElem?_eq_some_iff.mp h5).1
end QSTEP
theorem qFf_ok (t0 t1 b L : Nat) (xs : Nat → Int32) : qFok (qFf t0 t1 b L xs) := by
  refine ⟨fun A U g mk a h => ?_, fun A B s U hW hk hAB h => ?_⟩
  · obtain ⟨⟨h1, h2, h3, h4⟩, h5, h6, h7⟩ := h
    exact ⟨⟨va_Z.moved (u := U) (Vm.Alike.refl U.vm) h1, va_T.moved (u := U) (Vm.Alike.refl U.vm) h2, va_Z.moved (u := U) (Vm.Alike.refl U.vm) h3, va_T.moved (u := U) (Vm.Alike.refl U.vm) h4⟩, va_X.moved (u := U) (Vm.Alike.refl U.vm) h5, h6, h7⟩
  · obtain ⟨⟨h1, h2, h3, h4⟩, h5⟩ := h
    have hvm := hW.alike
    exact ⟨⟨va_Z_step hvm hk hAB h1, va_T_step hvm hk hAB h2, va_Z_step hvm hk hAB h3, va_T_step hvm hk hAB h4⟩, va_X_step hvm hk hAB h5⟩
section QFR
variable {X : qX} {l : Launch} {D : va_G} {E : Nat → ClassId} {ro : Bool} {t0 t1 b L : Nat} {xs : Nat → Int32} {F' : qFz} {cc : ByteArray} {own : String} {nL : Nat} {Ts : List Cond} {rm : Room} {cells slots : Nat} {ws wc : va_W} {pc : Nat} {lv : List (Nat × Value)} {st : List Value} {index : Nat}

theorem z_getLE (C : qC X l D E ro (qFf t0 t1 b L xs) cc own nL Ts rm) (hlink : Cond.fieldLink own index RX1 "LEAST" "[I" ∈ Ts) (hdg : decode cc pc = .ok (.getstatic index, 3)) (k : qZ X cells slots ws (pc + 3) lv (.ref t0 :: st)) : qZ X cells slots ws pc lv st := by
  obtain ⟨⟨p, l', e, R⟩, ⟨s, m, args, below, meth, c⟩, ⟨nL', D', E', ro', A, pl, F''⟩, Q⟩ := X
  obtain ⟨⟨rfl, rfl, rfl, rfl, rfl, rfl, rfl⟩, hx, hb, hml, hown, hts, hK, hFz, hFo, hA⟩ := C
  intro ls H locs hl hG
  exact va_gets hx hb hFz.1.1 hG.2.1 hown (hts _ hlink) (fun _ h => h) hdg (k ls H locs hl hG)
theorem z_aldLE (C : qC X l D E ro (qFf t0 t1 b L xs) cc own nL Ts rm) {i : Int} (hi : 0 ≤ i ∧ i < (6 : Nat)) (hdg : decode cc pc = .ok (.iaload, 1)) (k : qZ X cells slots ws (pc + 1) lv (.int (qI (qLE i.toNat)) :: st)) : qZ X cells slots ws pc lv (.int (qI i) :: .ref t0 :: st) := by
  obtain ⟨⟨p, l', e, R⟩, ⟨s, m, args, below, meth, c⟩, ⟨nL', D', E', ro', A, pl, F''⟩, Q⟩ := X
  obtain ⟨⟨rfl, rfl, rfl, rfl, rfl, rfl, rfl⟩, hx, hb, hml, hown, hts, hK, hFz, hFo, hA⟩ := C
  intro ls H locs hl hG
  exact va_ti hx hb hFz.1.2.1 hG.2.1 (qI_in hi (by decide)) (by rw [qI_clamp hi.1 (by omega)]) hdg (k ls H locs hl hG)
theorem z_getMO (C : qC X l D E ro (qFf t0 t1 b L xs) cc own nL Ts rm) (hlink : Cond.fieldLink own index RX1 "MOST" "[I" ∈ Ts) (hdg : decode cc pc = .ok (.getstatic index, 3)) (k : qZ X cells slots ws (pc + 3) lv (.ref t1 :: st)) : qZ X cells slots ws pc lv st := by
  obtain ⟨⟨p, l', e, R⟩, ⟨s, m, args, below, meth, c⟩, ⟨nL', D', E', ro', A, pl, F''⟩, Q⟩ := X
  obtain ⟨⟨rfl, rfl, rfl, rfl, rfl, rfl, rfl⟩, hx, hb, hml, hown, hts, hK, hFz, hFo, hA⟩ := C
  intro ls H locs hl hG
  exact va_gets hx hb hFz.1.2.2.1 hG.2.1 hown (hts _ hlink) (fun _ h => h) hdg (k ls H locs hl hG)
theorem z_aldMO (C : qC X l D E ro (qFf t0 t1 b L xs) cc own nL Ts rm) {i : Int} (hi : 0 ≤ i ∧ i < (6 : Nat)) (hdg : decode cc pc = .ok (.iaload, 1)) (k : qZ X cells slots ws (pc + 1) lv (.int (qI (qMO i.toNat)) :: st)) : qZ X cells slots ws pc lv (.int (qI i) :: .ref t1 :: st) := by
  obtain ⟨⟨p, l', e, R⟩, ⟨s, m, args, below, meth, c⟩, ⟨nL', D', E', ro', A, pl, F''⟩, Q⟩ := X
  obtain ⟨⟨rfl, rfl, rfl, rfl, rfl, rfl, rfl⟩, hx, hb, hml, hown, hts, hK, hFz, hFo, hA⟩ := C
  intro ls H locs hl hG
  exact va_ti hx hb hFz.1.2.2.2 hG.2.1 (qI_in hi (by decide)) (by rw [qI_clamp hi.1 (by omega)]) hdg (k ls H locs hl hG)
theorem z_sld (C : qC X l D E ro (qFf t0 t1 b L xs) cc own nL Ts rm) {i : Int} (hi : 0 ≤ i ∧ i < L) (hL : L < 2 ^ 31) (hdg : decode cc pc = .ok (.iaload, 1)) (k : qZ X cells slots ws (pc + 1) lv (.int (qI (xs i.toNat).toInt) :: st)) : qZ X cells slots ws pc lv (.int (qI i) :: .ref b :: st) := by
  obtain ⟨⟨p, l', e, R⟩, ⟨s, m, args, below, meth, c⟩, ⟨nL', D', E', ro', A, pl, F''⟩, Q⟩ := X
  obtain ⟨⟨rfl, rfl, rfl, rfl, rfl, rfl, rfl⟩, hx, hb, hml, hown, hts, hK, hFz, hFo, hA⟩ := C
  intro ls H locs hl hG
  obtain ⟨h1, h2, h3⟩ := hFz.2
  refine va_sld hx hb h1 h2 h3 hG.2.1 (qI_in hi hL) hdg ?_
  rw [qI_clamp hi.1 (by omega)]
  have h := k ls H locs hl hG
  rw [qI_of] at h
  exact h
theorem z_slen9 (C : qC X l D E ro (qFf t0 t1 b L xs) cc own nL Ts rm) (hdg : decode cc pc = .ok (.arraylength, 1)) (k : qZ X cells slots ws (pc + 1) lv (.int (qI (L : Int)) :: st)) : qZ X cells slots ws pc lv (.ref b :: st) := by
  obtain ⟨⟨p, l', e, R⟩, ⟨s, m, args, below, meth, c⟩, ⟨nL', D', E', ro', A, pl, F''⟩, Q⟩ := X
  obtain ⟨⟨rfl, rfl, rfl, rfl, rfl, rfl, rfl⟩, hx, hb, hml, hown, hts, hK, hFz, hFo, hA⟩ := C
  intro ls H locs hl hG
  obtain ⟨h1, h2, h3⟩ := hFz.2
  refine va_slen hx hb h1 h2 h3 hG.2.1 hdg ?_
  have h := k ls H locs hl hG
  rw [qI_nat] at h
  exact h
end QFR
def zcell (L : Nat) (xs : Nat → Int32) (k : Int) : Int := if k < L then (xs k.toNat).toInt else 7919 * (k + 3) * (k + 11)
set_option maxHeartbeats 4000000 in
set_option maxRecDepth 100000 in
theorem c_L_cell (l : Launch) (D : va_G) (E : Nat → ClassId) (z0 z1 sb sL : Nat) (sx : Nat → Int32) (k : Int) {Φ : Int → Prop} (hL : sL < 2 ^ 31) (hk : 0 ≤ k ∧ k < 1000) (hw : Φ (zcell sL sx k)) : qRO l D E (qFf z0 z1 sb sL sx) yL_cell wsL_cell 0 0 [] [.ref sb, .int (qI k)] qeI (fun r => Φ r) := by
  refine qRO_int (nL := 2) (own := RL) (qFf_ok z0 z1 sb sL sx) (by decide) rfl rfl (Nat.le_of_ble_eq_true rfl) (fun X C hend => ?_)
  show qZ X 0 0 [] 0 [(0, .ref sb), (1, .int (qI k))] []
  have hk9 : qR k := ⟨by omega, by omega⟩
  have hL9 : qR (sL : Int) := ⟨by omega, by omega⟩
  refine z_iload_n C 1 rfl rfl dL_cell_0 ?_
  refine z_aload_n C 0 rfl rfl dL_cell_1 ?_
  refine z_slen9 C dL_cell_2 ?_
  refine z_icmp_ge (tgt := 12) C ⟨hk9, hL9⟩ (by decide) dL_cell_3 (fun c => ?_) (fun c => ?_)
  · refine z_sipush C (by decide +kernel) dL_cell_12 ?_
    refine z_iload_n C 1 rfl rfl dL_cell_15 ?_
    refine z_iconst C dL_cell_16 ?_
    refine z_iadd C dL_cell_17 ?_
    refine z_imul C dL_cell_18 ?_
    refine z_iload_n C 1 rfl rfl dL_cell_19 ?_
    refine z_bipush C (by decide +kernel) dL_cell_20 ?_
    refine z_iadd C dL_cell_22 ?_
    refine z_imul C dL_cell_23 ?_
    unfold zcell at hw
    rw [if_neg (by omega)] at hw
    exact hend 24 _ _ dL_cell_24 hw
  · refine z_aload_n C 0 rfl rfl dL_cell_6 ?_
    refine z_iload_n C 1 rfl rfl dL_cell_7 ?_
    refine z_sld C ⟨hk.1, by omega⟩ hL dL_cell_8 ?_
    refine z_goto (tgt := 24) C (by decide) dL_cell_9 ?_
    unfold zcell at hw
    rw [if_pos (by omega)] at hw
    exact hend 24 _ _ dL_cell_24 hw
