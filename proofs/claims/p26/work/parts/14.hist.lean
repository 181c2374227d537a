/-! STATES AND THE HISTORY -/
abbrev qSc : Type := Int × (Nat → Int) × (Nat → Int) × (Nat → Int64) × (Nat → Int)
abbrev qSt : Type := (Nat → Int) × qSc × qSc × qSc
def qStW (E : Nat → ClassId) (a : Nat → Nat) (c : qSt) : va_W := [(a 0, .inr (2, [.ref (a 3), .ref (a 1), .ref (a 2)])), (a 1, qO (E 5) 2 (qTwo (a 8) (a 13))), (a 2, qA (E 2) 2 c.1),
  (a 3, .inr (1, [.ref (a 4), .ref (a 5), .int (qI c.2.1.1), .ref (a 6), .ref (a 7)])), (a 4, qA (E 0) 64 c.2.1.2.1), (a 5, qA (E 0) 12 c.2.1.2.2.1), (a 6, qL (E 1) 2 c.2.1.2.2.2.1), (a 7, qA (E 0) 6 c.2.1.2.2.2.2),
  (a 8, .inr (1, [.ref (a 9), .ref (a 10), .int (qI c.2.2.1.1), .ref (a 11), .ref (a 12)])), (a 9, qA (E 0) 64 c.2.2.1.2.1), (a 10, qA (E 0) 12 c.2.2.1.2.2.1), (a 11, qL (E 1) 2 c.2.2.1.2.2.2.1), (a 12, qA (E 0) 6 c.2.2.1.2.2.2.2),
  (a 13, .inr (1, [.ref (a 14), .ref (a 15), .int (qI c.2.2.2.1), .ref (a 16), .ref (a 17)])), (a 14, qA (E 0) 64 c.2.2.2.2.1), (a 15, qA (E 0) 12 c.2.2.2.2.2.1), (a 16, qL (E 1) 2 c.2.2.2.2.2.2.1), (a 17, qA (E 0) 6 c.2.2.2.2.2.2.2)]

def qHsW (E : Nat → ClassId) (ha : Nat → Nat → Nat) (hc : Nat → qSt) : va_W := qStW E (ha 0) (hc 0) ++ (qStW E (ha 1) (hc 1) ++ (qStW E (ha 2) (hc 2) ++ (qStW E (ha 3) (hc 3) ++ (qStW E (ha 4) (hc 4) ++ qStW E (ha 5) (hc 5)))))
def qUh (f : Nat → qSt) (k : Nat) (x : qSt) : Nat → qSt := fun j => if j = k then x else f j
/-- what a copy leaves: the flags laid over those that were there, the rest as it is -/
def qCp (o n : qSt) : qSt := (qU (qU o.1 0 (n.1 0)) 1 (n.1 1), n.2)
theorem wp_X2_copyFrom_ok {tk : Nat → Int} {szs : Int} {phs ods : Nat → Int} {pis : Nat → Int64} {ses : Nat → Int} {szx : Int} {phx odx : Nat → Int} {pix : Nat → Int64} {sex : Nat → Int} {szy : Int} {phy ody : Nat → Int} {piy : Nat → Int64} {sey : Nat → Int} {tko : Nat → Int} {szso : Int} {phso odso : Nat → Int} {piso : Nat → Int64} {seso : Nat → Int} {szxo : Int} {phxo odxo : Nat → Int} {pixo : Nat → Int64} {sexo : Nat → Int} {szyo : Int} {phyo odyo : Nat → Int} {piyo : Nat → Int64} {seyo : Nat → Int} {Φ : (Nat → Int) → Int → (Nat → Int) → (Nat → Int) → (Nat → Int64) → (Nat → Int) → Int → (Nat → Int) → (Nat → Int) → (Nat → Int64) → (Nat → Int) → Int → (Nat → Int) → (Nat → Int) → (Nat → Int64) → (Nat → Int) → Prop}
    (h0 : tko 0 = 0 ∨ tko 0 = 1) (h1 : tko 1 = 0 ∨ tko 1 = 1) (h : Φ (qU (qU tk 0 (tko 0)) 1 (tko 1)) szso phso odso piso seso szxo phxo odxo pixo sexo szyo phyo odyo piyo seyo) : wp_X2_copyFrom tk szs phs ods pis ses szx phx odx pix sex szy phy ody piy sey tko szso phso odso piso seso szxo phxo odxo pixo sexo szyo phyo odyo piyo seyo Φ := by
  unfold wp_X2_copyFrom wp_X1_copyFrom
  refine ⟨3, ?_⟩
  simp [wp_X2_copyFrom_13, wp_X1_copyFrom, h0, h1, h, qR]
theorem qrange (ws : va_W) : (List.range ws.length).map (fun i => ws[i]?) = ws.map some := by
  apply List.ext_getElem?
  intro i
  rw [List.getElem?_map, List.getElem?_map]
  by_cases h : i < ws.length
  · rw [List.getElem?_range h, List.getElem?_eq_getElem h]
    simp [List.getElem?_eq_getElem h]
  · rw [List.getElem?_eq_none (by simpa using h), List.getElem?_eq_none (by simpa using h)]
    rfl
section QHIST
variable {X : qX} {l : Launch} {D : va_G} {E : Nat → ClassId} {F F' : qFz} {cc : ByteArray} {own : String} {nL : Nat} {Ts : List Cond} {rm : Room} {ws wc tl : va_W} {pc : Nat} {lv : List (Nat × Value)} {st : List Value}
variable {y : MethodName} {wsy ws'' : List Cond} {fr lo : Nat} {index maxL n : Nat} {bytes : ByteArray} {ret : Option FieldType} {Cn : String} {b : Nat} {As : List Value} {ρ σ : Type} {em : ρ → Option Value} {W' : σ → va_W} {Φ : ρ → σ → Prop}

theorem z_callVWf (C : qC X l D E false F cc own nL Ts rm) (hM : qRW l D E F' y wsy fr lo ws (.ref b :: As) em W' Φ) (hF' : qFok F') (hFF : ∀ A U, F A U → F' A U) (hT : GoodIn Ts (wsV own index Cn y wsy)) (hw : wsy = Cond.code y bytes maxL ret :: ws'')
    (hd : y.cls = Cn ∧ y.cls ≠ "java/lang/invoke/MethodHandle" ∧ y.cls ≠ "java/lang/invoke/VarHandle" ∧ (parseMethodDescriptor y.desc).map (fun d => d.parameters.length) = some n) (hR : fr + 1 ≤ rm.frames ∧ 8 + (maxL + 11) + lo ≤ rm.locals) (hn : As.length = n) (q0 : Nat) {ci N : Nat} {T : u_T} {fs : List Value} (he : ws[q0]? = some (b, .inr (ci, fs))) (hc : vwCl[ci]? = some (Cn, T, N)) {stk : List Value} (hst : stk = As.reverse ++ .ref b :: st) (hcat : (st.map fun v => v.category).sum ≤ 8) (hdg : decode cc pc = .ok (.invokevirtual index, 3))
    (k : ∀ r u, Φ r u → qZ X 0 0 (W' u) (pc + 3) lv ((em r).toList ++ st)) : qZ X 0 0 ws pc lv stk := by
  obtain ⟨⟨p, l', e, R⟩, ⟨s, m, args, below, meth, c⟩, ⟨nL', D', E', ro', A, pl, F''⟩, Q⟩ := X
  obtain ⟨⟨rfl, rfl, rfl, rfl, rfl, rfl, rfl⟩, hx, hb, hml, hown, hts, hK, hFz, hFo, hA⟩ := C
  intro ls H locs hl hG
  have hC := qrange ws
  have hP := hG.1.sub (List.range ws.length) (qfm _ _ (qmapapp _ ws hC))
  have hD := hG.2.2.2 rfl
  have hFc := qfreeC hD hG.2.1 (hA rfl) (List.range ws.length) hC
  have hDc : va_D (fun _ => True) ws := ⟨fun i j p q hi hj => hD.1 i j p q (qat hi) (qat hj), fun _ _ _ => trivial⟩
  have hpre := qpreRW (av := .ref b :: As) hF' hFF hFo hFz hK hG.2.1 hP hDc (fun q _ h => hFc q h)
  have hr := va_runV (e := e) (below := below) (meth := meth) (locs := locs) (rest := st) (g := F0 m pc ls stk) ⟨hx, hb, hml, hown, hts⟩ (hM H.size) (cwV n hts hT hw rfl rfl hd hR) ⟨hpre.1, va_recv hK.1 hG.1 hc (qat he), hpre.2⟩ rfl hn hl.1 hst (lv_room hcat) hdg ⟨Nat.zero_le _, Nat.zero_le _⟩
  intro T hT X
  obtain ⟨v, st₀, t, T', L, h0, X', hL, e1, e2, ⟨⟨r, u, hv, hp, hP1, hK1, hD1⟩, hz, hk⟩, stp⟩ := hr T hT X
  have hv := Outcome.returned.inj hv
  subst hv
  rw [h0] at hz hk
  rw [← e1] at hP1 hz
  have hk : ∀ q : Nat, q < H.size → ¬ va_A ws H.size q → T'.heap[q]? = H[q]? := fun q h1 h2 => by rw [e1]; exact hk q h1 h2
  obtain ⟨hP2, hD2⟩ := va_joinQ (wr := []) hG.1 hD (List.range ws.length) [] hC rfl rfl (fun _ h => by cases h) hk hFc hP1 hD1
  obtain ⟨t2, a1, b1⟩ := k r u hp ls T'.heap (locs ++ L) hl ⟨hP2, ⟨Nat.le_trans hG.2.1.1 hz, fun q h1 h2 => by rw [hk q (Nat.lt_of_lt_of_le h1 hG.2.1.1) (fun z => h2 (hFc q z))]; exact hG.2.1.2.1 q h1 h2, fun q hq => by
      rcases List.mem_append.mp hq with h | h
      · exact hG.2.1.2.2 q h
      · exact hFc _ (hL q h)⟩, fun h => (by cases h), fun _ => hD2⟩ T' rfl X'
  exact ⟨t2, stp t2 a1, b1⟩
theorem z_callVWt (C : qC X l D E false F cc own nL Ts rm) (hM : qRW l D E F' y wsy fr lo wc (.ref b :: As) em W' Φ) (hF' : qFok F') (hFF : ∀ A U, F A U → F' A U) (hT : GoodIn Ts (wsV own index Cn y wsy)) (hw : wsy = Cond.code y bytes maxL ret :: ws'')
    (hd : y.cls = Cn ∧ y.cls ≠ "java/lang/invoke/MethodHandle" ∧ y.cls ≠ "java/lang/invoke/VarHandle" ∧ (parseMethodDescriptor y.desc).map (fun d => d.parameters.length) = some n) (hR : fr + 1 ≤ rm.frames ∧ 8 + (maxL + 11) + lo ≤ rm.locals) (hn : As.length = n) (q0 : Nat) {ci N : Nat} {T : u_T} {fs : List Value} (he : ws[q0]? = some (b, .inr (ci, fs))) (hc : vwCl[ci]? = some (Cn, T, N)) (isC isR : List Nat) {wr : va_W} (hnc : va_nd isC = true) (hC : isC.map (fun i => ws[i]?) = wc.map some) (hR9 : isR.map (fun i => ws[i]?) = wr.map some) (hn9 : va_nd isR = true) (hdis : ∀ i ∈ isR, i ∉ isC) (perm : List Nat) (hpn : va_nd perm = true) (W2 : σ → va_W) (hperm : ∀ u, perm.map (fun i => (wr ++ W' u)[i]?) = (W2 u).map some) {stk : List Value} (hst : stk = As.reverse ++ .ref b :: st) (hcat : (st.map fun v => v.category).sum ≤ 8) (hdg : decode cc pc = .ok (.invokevirtual index, 3))
    (k : ∀ r u, Φ r u → qZ X 0 0 (W2 u ++ tl) (pc + 3) lv ((em r).toList ++ st)) : qZ X 0 0 (ws ++ tl) pc lv stk := by
  obtain ⟨⟨p, l', e, R⟩, ⟨s, m, args, below, meth, c⟩, ⟨nL', D', E', ro', A, pl, F''⟩, Q⟩ := X
  obtain ⟨⟨rfl, rfl, rfl, rfl, rfl, rfl, rfl⟩, hx, hb, hml, hown, hts, hK, hFz, hFo, hA⟩ := C
  intro ls H locs hl hG
  rw [List.append_assoc] at hG
  have hP := hG.1.sub isC (qfm _ _ (qmapapp isC wc hC))
  have hD := hG.2.2.2 rfl
  have hFc := qfreeC hD hG.2.1 (hA rfl) isC hC
  have hpre := qpreRW (av := .ref b :: As) hF' hFF hFo hFz hK hG.2.1 hP (qDcut hD isC hnc hC) (fun q _ h => hFc q h)
  exact qfinRW (a := (Value.ref b :: As).toArray) (va_runV (g := F0 m pc ls stk) ⟨hx, hb, hml, hown, hts⟩ (hM H.size) (cwV n hts hT hw rfl rfl hd hR) ⟨hpre.1, va_recv hK.1 hG.1 hc (qat he), hpre.2⟩ rfl hn hl.1 hst (lv_room hcat) hdg ⟨Nat.zero_le _, Nat.zero_le _⟩) hG.2.1 hFc hG.1 hD isC isR hC hR9 hn9 hdis perm hpn hperm (fun r u H1 locs1 hφ hP1 hD1 hS1 => k r u hφ ls H1 locs1 hl ⟨by rw [List.append_assoc]; exact hP1, hS1, fun h => (by cases h), fun _ => by rw [List.append_assoc]; exact hD1⟩)
theorem z_aast (C : qC X l D E false F cc own nL Ts rm) {a nn t0 qk ci v : Nat} {cA : ClassId} {rr : vw_C} {vs : List Value} {f : Nat → Option Nat} (q0 : Nat) (he : ws[q0]? = some (a, qO cA nn f)) (ht : (qTY E)[t0]? = some (cA, .object rr.1)) (hn : nn < 2 ^ 31) (hv : ws[qk]? = some (v, .inr (ci, vs))) (hc : vwCl[ci]? = some rr) {i : Int} (hi : 0 ≤ i ∧ i < nn) {ws' : va_W} (hw : ws.set q0 (a, qO cA nn (va_up f i.toNat (some v))) = ws') (hdg : decode cc pc = .ok (.aastore, 1)) (k : qZ X 0 0 ws' (pc + 1) lv st) : qZ X 0 0 ws pc lv (.ref v :: .int (qI i) :: .ref a :: st) := by
  obtain ⟨⟨p, l', e, R⟩, ⟨s, m, args, below, meth, c⟩, ⟨nL', D', E', ro', A, pl, F''⟩, Q⟩ := X
  obtain ⟨⟨rfl, rfl, rfl, rfl, rfl, rfl, rfl⟩, hx, hb, hml, hown, hts, hK, hFz, hFo, hA⟩ := C
  intro ls H locs hl hG
  refine va_astq hx hb hK.1 hG.1 (hG.2.2.2 rfl) hG.2.1 q0 t0 qk ci (qat he) ht (qat hv) hc (qI_in hi hn) hdg (fun H1 locs1 hP1 hD1 hS1 => ?_)
  rw [qI_clamp hi.1 (by omega), qset he, hw] at hP1 hD1
  exact k ls H1 locs1 hl ⟨hP1, hS1, fun h => (by cases h), fun _ => hD1⟩
/-- a row of references may be told by another function that agrees within -/
theorem z_oeq (C : qC X l D E false F cc own nL Ts rm) {a nn : Nat} {cA : ClassId} {f g : Nat → Option Nat} (q0 : Nat) (he : ws[q0]? = some (a, qO cA nn f)) (hfg : ∀ j, j < nn → f j = g j) {ws' : va_W} (hw : ws.set q0 (a, qO cA nn g) = ws') (k : qZ X 0 0 ws' pc lv st) : qZ X 0 0 ws pc lv st := by
  obtain ⟨⟨p, l', e, R⟩, ⟨s, m, args, below, meth, c⟩, ⟨nL', D', E', ro', A, pl, F''⟩, Q⟩ := X
  obtain ⟨⟨rfl, rfl, rfl, rfl, rfl, rfl, rfl⟩, hx, hb, hml, hown, hts, hK, hFz, hFo, hA⟩ := C
  intro ls H locs hl hG
  have e9 : vp_cell cA (nn, .inr (.inr (.inr (.inr f)))) = vp_cell cA (nn, .inr (.inr (.inr (.inr g)))) := by
    rw [vp_cell_q, vp_cell_q]
    exact qarrV (fun j hj => by rw [hfg j hj])
  have hlt : q0 < (ws ++ pl).length := (List.getElem?_eq_some_iff.mp (qat (pl := pl) he)).1
  have h1 : (ws ++ pl).set q0 (a, qO cA nn f) = ws ++ pl := by
    obtain ⟨hq, h2⟩ := List.getElem?_eq_some_iff.mp (qat (pl := pl) he)
    rw [← h2]
    exact List.set_getElem_self hq
  have hP1 := hG.1
  rw [← h1] at hP1
  have hP2 := qset_cell hP1 e9
  have hD2 := (hG.2.2.2 rfl).set (qat he) (e := qO cA nn g)
  rw [qset he, hw] at hP2 hD2
  exact k ls H locs hl ⟨hP2, hG.2.1, fun h => (by cases h), fun _ => hD2⟩
/-- the cells of the world in another order -/
theorem z_perm (C : qC X l D E false F cc own nL Ts rm) (perm : List Nat) (hpn : va_nd perm = true) {ws' : va_W} (hp : perm.map (fun i => ws[i]?) = ws'.map some) (k : qZ X 0 0 ws' pc lv st) : qZ X 0 0 ws pc lv st := by
  obtain ⟨⟨p, l', e, R⟩, ⟨s, m, args, below, meth, c⟩, ⟨nL', D', E', ro', A, pl, F''⟩, Q⟩ := X
  obtain ⟨⟨rfl, rfl, rfl, rfl, rfl, rfl, rfl⟩, hx, hb, hml, hown, hts, hK, hFz, hFo, hA⟩ := C
  intro ls H locs hl hG
  exact k ls H locs hl ⟨hG.1.part perm hp, hG.2.1, fun h => (by cases h), fun _ => (hG.2.2.2 rfl).part perm hpn hp⟩
end QHIST
