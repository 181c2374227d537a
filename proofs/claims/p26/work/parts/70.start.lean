/-! THE CLAIM OUT OF ONE WALK OF THE LAW'S BODY. Your part is whole_start (and what it stands on); all else here is the same for every law, but numbers. -/
def R_law : String := "PhosphorHushLaw"
def lw_P (b : Addr) (xs : List Int32) (args : Array Value) (s : State) : Prop := args = #[.ref b] ∧ s.IntsAt b xs ∧ xs.length ≤ 260 ∧ (Jvm.Cond.and given_1 narrow_1).before args s = true
def lw_Q (_ : Array Value) (s : State) (o : Outcome) (t : State) : Prop := o = .returned (some (.int 1)) ∧ Framed s o t [] 600000 7302250
def lw_Z (below : List Frame) (a : Array Value) (s : State) : State → Prop := fun t => ∃ o, t.status = .running ∧ Ended t below o ∧ lw_Q a s o t
/-- the law's own end, with 1 on the stack, nothing written that was there before, its room as the claim has it -/
theorem lw_ret {p : Program} {l : Launch} {e : Env} {s : State} {m : MethodId} {below : List Frame} {meth : Method} {c : Code} {b : Nat} (hx : p.tables.exec = Jvm.exec) (hb : c.code = code) (hr : meth.sig.returnType = ret) (hlocks : meth.locks = false) {pc : Nat} {H : Heap} {ls : Array Slot} (hdg : decode code pc = .ok (.ireturn, 1)) : W p l e room_1 s m #[Value.ref b] below meth c H [] 600000 7302250 (lw_Z below #[Value.ref b] s) (F0 m pc ls [.int 1]) := by
  intro T hT X
  obtain ⟨fs, hret, hrun, hended, hW, hframe⟩ := X.leave (v := some (.int 1)) (hlocks := hlocks) (fun h => by rw [hr] at h; cases h)
  have hmeth' : T.vm.method? m = some meth := X.method'
  refine ⟨T.setFrames fs, ?_, .returned (some (.int 1)), hrun, hended, rfl, ⟨_, rfl⟩, hW, hframe⟩
  jvm_step X.here [X.here.top, hx, hb, hdg, hmeth', hr, ret, narrow_b1]
  (try refine ⟨rfl, ?_⟩); (try refine ⟨rfl, ?_⟩)
  first | (intro acts; rw [hret _ acts rfl rfl rfl]) | rw [hret _ _ rfl rfl rfl]
  exact Steps.refl _
/-- what holds at the law's entry: the machine, the code, the tables' words (any of lw_tbl by 'hts w (by decide +kernel)'), the script of L ints xs at the cell b, what the Statement gives of the start (any of its parts by flat_of_before) -/
def lw_At (p : Program) (s : State) (m : MethodId) (meth : Method) (c : Code) (b L : Nat) (xs : Nat → Int32) : Prop :=
  p.tables.exec = Jvm.exec ∧ c.code = code ∧ meth.sig.returnType = ret ∧ c.maxLocals = 10 ∧ s.vm.findClass R_law = some m.cls ∧ (∀ w ∈ lw_tbl, w.before #[Value.ref b] s = true) ∧ va_X b L xs s s.heap ∧ b < s.heap.size ∧ meth.locks = false ∧ (Jvm.Cond.and given_1 narrow_1).before #[Value.ref b] s = true

theorem qE_prim {s : State} {args : Array Value} {ty : FieldType} (hp : ∀ c, s.vm.findClass ("[" ++ ty.toString) = some c → va_RA s c ty) (h : (Cond.arrayClass ty).before args s = true) : ∃ cA, ArrOfT s cA ty ∧ va_RA s cA ty := by
  obtain ⟨cA, kA, comp, h1, h2, h3⟩ := Cond.arrayClass_spec h
  exact ⟨cA, fun n z => ⟨fun k h => (by cases h), kA, h2, comp, h3⟩, hp _ h1⟩
theorem qE_obj {s : State} {C : String} (h : va_AO C s) : ∃ cA, ArrOfT s cA (.object C) ∧ va_RA s cA (.object C) := by
  obtain ⟨comp, c, k, h1, h2, h3, h4, h5⟩ := Cond.arrayOver_spec h
  exact ⟨c, fun n z => ⟨fun k h => (by cases h), k, h3, comp, h4⟩, k, comp, h3, h4, h1, h5⟩
abbrev qFC : List Cond := flatC (Jvm.Cond.and given_1 narrow_1)
theorem qf_le : ∀ j, j < 6 → Cond.eq (.elem (.static "PhosphorHush$Screen" "LEAST" "[I") (.int (Int32.ofNat j))) (.int (qI (qLE j))) ∈ qFC := by decide +kernel
theorem qf_mo : ∀ j, j < 6 → Cond.eq (.elem (.static "PhosphorHush$Screen" "MOST" "[I") (.int (Int32.ofNat j))) (.int (qI (qMO j))) ∈ qFC := by decide +kernel
theorem qf_LEASTa : Cond.arrayOf (.static "PhosphorHush$Screen" "LEAST" "[I") .int ∈ qFC := by decide +kernel
theorem qf_LEASTl : Cond.eq (.length (.static "PhosphorHush$Screen" "LEAST" "[I")) (.int (Int32.ofNat 6)) ∈ qFC := by decide +kernel
theorem qf_MOSTa : Cond.arrayOf (.static "PhosphorHush$Screen" "MOST" "[I") .int ∈ qFC := by decide +kernel
theorem qf_MOSTl : Cond.eq (.length (.static "PhosphorHush$Screen" "MOST" "[I")) (.int (Int32.ofNat 6)) ∈ qFC := by decide +kernel
theorem qf_n : ∀ w ∈ qNL, Cond.methodLinkNest w.1 w.2.1 w.2.2.1 w.2.2.2 ∈ lw_tbl := by decide +kernel
theorem qf_lsL : Cond.laysStatic RX1 "LEAST" "[I" ∈ lw_tbl := by decide +kernel
theorem qf_lsM : Cond.laysStatic RX1 "MOST" "[I" ∈ lw_tbl := by decide +kernel
theorem qf_i1 : Cond.initialized RX1 ∈ lw_tbl := by decide +kernel
theorem qf_aI : Cond.arrayClass .int ∈ lw_tbl := by decide +kernel
theorem qf_aJ : Cond.arrayClass .long ∈ lw_tbl := by decide +kernel
theorem qf_aZ : Cond.arrayClass .boolean ∈ lw_tbl := by decide +kernel
theorem qf_aC : Cond.arrayClass .char ∈ lw_tbl := by decide +kernel
theorem qf_aS : Cond.arrayOver (.object "PhosphorHush$State") ∈ lw_tbl := by decide +kernel
theorem qf_aT : Cond.arrayOver (.object "PhosphorHush$Screen") ∈ lw_tbl := by decide +kernel
theorem qf_m0 : Cond.instantiable RX0 4 ∈ lw_tbl := by decide +kernel
theorem qf_m1 : Cond.instantiable RX1 5 ∈ lw_tbl := by decide +kernel
theorem qf_m2 : Cond.instantiable RX2 3 ∈ lw_tbl := by decide +kernel
theorem qf_m3 : Cond.instantiable RX3 6 ∈ lw_tbl := by decide +kernel
theorem qf_m4 : Cond.instantiable RX4 6 ∈ lw_tbl := by decide +kernel
theorem iL_law_X4 : ∀ w ∈ wsX40, w ∈ wsL_law := inlX4
theorem z0_P : zPl 0 0 0 (fun _ => 0) := by
  refine ⟨0, rfl, by decide, ?_, rfl, fun p hp => absurd hp (by omega)⟩
  exact ((zcnt_z (f := zb 0) 64 (fun k _ => zb_01 0 k)).2 (fun k _ => zb_zero k)).symm
theorem z0_V : zV ((fun _ => 0), (0, (fun _ => 0), (fun _ => 0), (fun _ => 0), qSe0), (0, (fun _ => 0), (fun _ => 0), (fun _ => 0), qSe0), (0, (fun _ => 0), (fun _ => 0), (fun _ => 0), qSe0)) := by
  have h : zX 0 (fun _ => 0) (fun _ => 0) (fun _ => 0) qSe0 := zX_i ⟨by decide, fun k hk => absurd hk (by omega), fun i j hi _ _ => absurd hi (by omega)⟩ ⟨⟨by decide, by decide⟩, ⟨by decide, by decide⟩, ⟨by decide, by decide⟩, ⟨by decide, by decide⟩, ⟨by decide, by decide⟩, ⟨by decide, by decide⟩⟩ (fun k hk => show (0 : Int) ≤ 0 ∧ (0 : Int) ≤ 3 by decide)
  exact ⟨h, Or.inl rfl, Or.inl rfl⟩
theorem z0_Hk : zHk 0 (fun _ => qSt0) := ⟨by decide, fun i hi => absurd hi (by omega)⟩
set_option maxHeartbeats 8000000 in
set_option maxRecDepth 100000 in
/-- from the entry -/
theorem whole_start {p : Program} {e : Env} {s : State} {m : MethodId} {below : List Frame} {meth : Method} {c : Code} (l : Launch) (_ : l.flags = flags0) {b L : Nat} {xs : Nat → Int32} (hL : L ≤ 260) (C0 : lw_At p s m meth c b L xs) : W p l e room_1 s m #[Value.ref b] below meth c s.heap [] 0 0 (lw_Z below #[Value.ref b] s) (entryFrame m ([Value.ref b] : List Value).toArray 10) := by
  obtain ⟨hx, hb, hr, hml, hown, hts, hX, hbl, hlocks, hgv⟩ := C0
  have htl : ∀ w ∈ wsL_law, w.before #[Value.ref b] s = true := fun w h => hts w (wsL_law_in w h)
  obtain ⟨c0, i0, k0⟩ := u_known (C := RX0) (T := TX0) (N := 4) (n := 4) hts inX0 (hts _ qf_m0)
  obtain ⟨c1, i1, k1⟩ := u_known (C := RX1) (T := TX1) (N := 5) (n := 5) hts inX1 (hts _ qf_m1)
  obtain ⟨c2, i2, k2⟩ := u_known (C := RX2) (T := TX2) (N := 3) (n := 3) hts inX2 (hts _ qf_m2)
  obtain ⟨c3, i3, k3⟩ := u_known (C := RX3) (T := TX3) (N := 6) (n := 6) hts inX3 (hts _ qf_m3)
  obtain ⟨c4, i4, k4⟩ := u_known (C := RX4) (T := TX4) (N := 6) (n := 6) hts inX4 (hts _ qf_m4)
  obtain ⟨e0, f0, g0⟩ := qE_prim (ty := .int) (fun _ h => h) (hts _ qf_aI)
  obtain ⟨e1, f1, g1⟩ := qE_prim (ty := .long) (fun _ h => h) (hts _ qf_aJ)
  obtain ⟨e2, f2, g2⟩ := qE_prim (ty := .boolean) (fun _ h => h) (hts _ qf_aZ)
  obtain ⟨e3, f3, g3⟩ := qE_prim (ty := .char) (fun _ h => h) (hts _ qf_aC)
  have ao1 : va_AO "PhosphorHush$State" s := va_AO.of (hts _ qf_aS)
  have ao2 : va_AO "PhosphorHush$Screen" s := va_AO.of (hts _ qf_aT)
  obtain ⟨e4, f4, g4⟩ := qE_obj ao1
  obtain ⟨e5, f5, g5⟩ := qE_obj ao2
  obtain ⟨D, hD⟩ : ∃ D : va_G, ∀ (k : Nat) (q : vw_C), vwCl[k]? = some q → u_Kn s q.1 q.2.1 q.2.2 (D.1 k) (D.2 k) := by
    refine ⟨(fun k => [c0, c1, c2, c3, c4].getD k c0, fun k => [i0, i1, i2, i3, i4].getD k i0), ?_⟩
    intro k q hq
    match k, hq with
    | 0, hq => cases hq; exact k0
    | 1, hq => cases hq; exact k1
    | 2, hq => cases hq; exact k2
    | 3, hq => cases hq; exact k3
    | 4, hq => cases hq; exact k4
    | k + 5, hq => simp [vwCl] at hq
  obtain ⟨E, hE⟩ : ∃ E : Nat → ClassId, ∀ (k : Nat) (q : ClassId × FieldType), (qTY E)[k]? = some q → ArrOfT s q.1 q.2 ∧ va_RA s q.1 q.2 := by
    refine ⟨fun k => [e0, e1, e2, e3, e4, e5].getD k e0, ?_⟩
    intro k q hq
    match k, hq with
    | 0, hq => cases hq; exact ⟨f0, g0⟩
    | 1, hq => cases hq; exact ⟨f1, g1⟩
    | 2, hq => cases hq; exact ⟨f2, g2⟩
    | 3, hq => cases hq; exact ⟨f3, g3⟩
    | 4, hq => cases hq; exact ⟨f4, g4⟩
    | 5, hq => cases hq; exact ⟨f5, g5⟩
    | k + 6, hq => simp [qTY] at hq
  have hN : qN s := fun w hw => va_Nw.of rfl (hts _ (qf_n w hw))
  have hK : qK D E s := ⟨⟨hD, hE⟩, hN⟩
  have hs := flat_of_before _ hgv
  have hA0 : ∀ a : Nat, a < s.heap.size → ¬ (fun q : Nat => s.heap.size ≤ q) a := fun a h => Nat.not_le.mpr h
  obtain ⟨t0, ht0, hT0⟩ := va_Tof (A := fun q : Nat => s.heap.size ≤ q) (f := fun j => .int (qI (qLE j))) (N := 6) (by decide) (hs _ qf_LEASTa) (va_eqt (hs _ qf_LEASTl)) (fun j hj => va_eqt (hs _ (qf_le j hj))) hA0
  obtain ⟨t1, ht1, hT1⟩ := va_Tof (A := fun q : Nat => s.heap.size ≤ q) (f := fun j => .int (qI (qMO j))) (N := 6) (by decide) (hs _ qf_MOSTa) (va_eqt (hs _ qf_MOSTl)) (fun j hj => va_eqt (hs _ (qf_mo j hj))) hA0
  have hF : qFf t0 t1 b L xs (fun q : Nat => s.heap.size ≤ q) s := ⟨⟨va_Zref (hts _ qf_lsL) (hts _ qf_i1) ht0 hA0, hT0, va_Zref (hts _ qf_lsM) (hts _ qf_i1) ht1 hA0, hT1⟩, hX, hbl, Nat.not_le.mpr hbl⟩
  have hl := lv_entry ([.ref b]) (n := 10) (Nat.le_of_ble_eq_true rfl)
  rw [lg_entry_eq]
  have Ca : qC ⟨⟨p, l, e, room_1⟩, ⟨s, m, #[Value.ref b], below, meth, c⟩, ⟨10, D, E, false, fun q : Nat => s.heap.size ≤ q, [], qFa⟩, lw_Z below #[Value.ref b] s⟩ l D E false qFa cL_law RL 10 wsL_law room_1 := ⟨⟨rfl, rfl, rfl, rfl, rfl, rfl, rfl⟩, hx, hb, hml, hown, htl, hK, ⟨ao1, ao2⟩, qFa_ok, fun _ q h => h⟩
  have Cb : qC ⟨⟨p, l, e, room_1⟩, ⟨s, m, #[Value.ref b], below, meth, c⟩, ⟨10, D, E, false, fun q : Nat => s.heap.size ≤ q, [], qFf t0 t1 b L xs⟩, lw_Z below #[Value.ref b] s⟩ l D E false (qFf t0 t1 b L xs) cL_law RL 10 wsL_law room_1 := ⟨⟨rfl, rfl, rfl, rfl, rfl, rfl, rfl⟩, hx, hb, hml, hown, htl, hK, hF, qFf_ok t0 t1 b L xs, fun _ q h => h⟩
  have hend : ∀ (ws : va_W) (pc : Nat) (lv : List (Nat × Value)) (r : Int), decode cL_law pc = .ok (.ireturn, 1) → r = 1 → qZ ⟨⟨p, l, e, room_1⟩, ⟨s, m, #[Value.ref b], below, meth, c⟩, ⟨10, D, E, false, fun q : Nat => s.heap.size ≤ q, [], qFf t0 t1 b L xs⟩, lw_Z below #[Value.ref b] s⟩ 136 51458 ws pc lv [.int (qI r)] := by
    intro ws pc lv r hd hr1 ls H locs hl hG
    subst hr1
    rw [show qI 1 = 1 by decide]
    refine va_forget (fun q hq => hG.2.1.2.2 q hq) ?_
    refine W.widen (k := 600000) (n := 7302250) (by decide) (by decide) ?_
    exact lw_ret hx hb hr hlocks hd
  have hZ : qZ ⟨⟨p, l, e, room_1⟩, ⟨s, m, #[Value.ref b], below, meth, c⟩, ⟨10, D, E, false, fun q : Nat => s.heap.size ≤ q, [], qFa⟩, lw_Z below #[Value.ref b] s⟩ 0 0 [] 0 [(0, .ref b)] [] := by
    refine z_new (ci := 4) Ca iL_law_X4 tyX4 tyX4_ok (List.mem_of_getElem? (i := 0) rfl) (List.mem_of_getElem? (i := 1) rfl) (List.mem_of_getElem? (i := 2) rfl) rfl [.null, .null, .int (qI 0), .null, .null, .null] (fun j hj => by rcases (show j = 0 ∨ j = 1 ∨ j = 2 ∨ j = 3 ∨ j = 4 ∨ j = 5 by omega) with rfl | rfl | rfl | rfl | rfl | rfl <;> first | rfl | (show Value.int 0 = Value.int (qI 0); rw [show qI 0 = 0 by decide])) (Nat.le_of_ble_eq_true rfl) (Nat.le_of_ble_eq_true rfl) dL_law_0 (fun h0 => ?_)
    refine z_dup Ca rfl dL_law_3 ?_
    refine z_callN (ws := []) Ca (c_X4_init l D E h0) qFa_ok (fun _ _ h => h) gL_law_X4_init rfl (List.mem_of_getElem? (i := 2) rfl) (List.mem_of_getElem? (i := 3) rfl) (List.mem_of_getElem? (i := 4) rfl) rfl (by decide +kernel) ⟨(Nat.le_of_ble_eq_true rfl), (Nat.le_of_ble_eq_true rfl)⟩ (Nat.le_of_ble_eq_true rfl) ⟨(Nat.le_of_ble_eq_true rfl), (Nat.le_of_ble_eq_true rfl)⟩ dL_law_4 (fun u4 _ => ?_)
    refine z_astore_n Ca rfl (by decide) rfl dL_law_7 ?_
    have hw := L_law (sL := L) (sx := xs) (kp := 0) (tl := 0) (sp := fun _ => 0) (rs := fun _ => 0) (wa := fun _ => 0) (ha := u4.2.2) z0_V z0_Hk z0_P
    exact c_L_law (X := ⟨⟨p, l, e, room_1⟩, ⟨s, m, #[Value.ref b], below, meth, c⟩, ⟨10, D, E, false, fun q : Nat => s.heap.size ≤ q, [], qFf t0 t1 b L xs⟩, lw_Z below #[Value.ref b] s⟩) l D E t0 t1 b L xs 136 51458 Cb (by omega) ⟨by decide, by decide⟩ hend h0 (u4.1 1) (u4.1 2) (u4.1 3) (u4.1 4) (u4.1 5) (u4.1 6) (u4.1 7) (u4.1 8) (u4.2.1 0) (u4.2.1 1) (u4.2.1 2) (u4.2.1 3) (u4.2.1 4) (u4.2.1 5) (u4.2.1 6) (u4.2.1 7) (u4.2.1 8) (u4.2.1 9) (u4.2.1 10) (u4.2.1 11) (u4.2.1 12) (u4.2.1 13) (u4.2.1 14) (u4.2.1 15) (u4.2.1 16) (u4.2.1 17) (u4.1 0) _ _ _ _ _ _ _ _ _ _ _ _ _ _ _ _ _ _ _ _ _ _ _ _ _ _ _ _ _ _ hw
  exact hZ _ s.heap [] hl ⟨fun k q h => by simp at h, va_S.rf, fun h => (by cases h), fun _ => ⟨fun i j p q h => by simp at h, fun k q h => by simp at h⟩⟩
