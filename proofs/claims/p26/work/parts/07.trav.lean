def qlcmp (a b : Int64) : Int := if b < a then 1 else if a = b then 0 else -1
theorem z_lcmp {X : qX} {l : Launch} {D : va_G} {E : Nat → ClassId} {ro : Bool} {F : qFz} {cc : ByteArray} {own : String} {nL : Nat} {Ts : List Cond} {rm : Room} {cells slots : Nat} {ws : va_W} {pc : Nat} {lv : List (Nat × Value)} {st : List Value} (C : qC X l D E ro F cc own nL Ts rm) {a b : Int64} (hdg : decode cc pc = .ok (.lcmp, 1)) (k : qZ X cells slots ws (pc + 1) lv (.int (qI (qlcmp a b)) :: st)) : qZ X cells slots ws pc lv (.long b :: .long a :: st) := by
  obtain ⟨⟨p, l', e, R⟩, ⟨s, m, args, below, meth, c⟩, ⟨nL', D', E', ro', A, pl, F'⟩, Q⟩ := X
  obtain ⟨⟨rfl, rfl, rfl, rfl, rfl, rfl, rfl⟩, hx, hb, -⟩ := C
  intro ls H locs hl hG
  refine W.lcmp hx hb hdg ?_
  have h := k ls H locs hl hG
  have e9 : lg_cmp a b = qI (qlcmp a b) := by
    unfold qlcmp lg_cmp
    by_cases h1 : b < a
    · simp [h1]; decide
    · by_cases h2 : a = b
      · subst h2; simp; decide
      · simp [h1, h2]; decide
  rw [e9]
  exact h

def wp_X3_sumOfWays  (ts : Int) (Φ : Int → Prop) : Prop := Φ ts
theorem iX3_sumOfWays_X3 : ∀ w ∈ wsX30, w ∈ wsX3_sumOfWays := fun w h => List.mem_cons_of_mem _ (List.mem_append_right _ (h))
set_option maxHeartbeats 4000000 in
set_option maxRecDepth 100000 in
theorem c_X3_sumOfWays (l : Launch) (D : va_G) (E : Nat → ClassId) (t0 t1 t2 t3 : Nat) (pn : Int64) (tz : Int) (ts : Int) (sp : Nat → Int) (rs : Nat → Int) (so : Nat → Int)  {Φ : Int → Prop} (hw : wp_X3_sumOfWays  ts Φ) : qRO l D E qF0 yX3_sumOfWays wsX3_sumOfWays 0 0 [(t0, .inr (3, [.long pn, .ref t1, .int (qI tz), .ref t2, .ref t3, .int (qI ts)])), (t1, qA (E 0) 12 sp), (t2, qA (E 0) 49152 rs), (t3, qA (E 0) 12 so)] [.ref t0] qeI (fun r => Φ r) := by
  refine qRO_int (nL := 1) (own := RX3) qF0_ok (by decide) rfl rfl (Nat.le_of_ble_eq_true rfl) (fun X C hend => ?_)
  unfold wp_X3_sumOfWays at hw
  show qZ X 0 0 [(t0, .inr (3, [.long pn, .ref t1, .int (qI tz), .ref t2, .ref t3, .int (qI ts)])), (t1, qA (E 0) 12 sp), (t2, qA (E 0) 49152 rs), (t3, qA (E 0) 12 so)] 0 [(0, .ref t0)] []
  refine z_aload_n C 0 rfl rfl dX3_sumOfWays_0 ?_
  refine z_get C iX3_sumOfWays_X3 0 rfl rfl 5 (by decide) (List.mem_of_getElem? (i := 1) rfl) rfl rfl dX3_sumOfWays_1 ?_
  exact hend 4 _ ts dX3_sumOfWays_4 hw
def wp_X3_stop_23 (Φ : Int → Prop)  (k0 : Int) : Prop := Φ k0
def wp_X3_stop_21 (Φ : Int → Prop)   : Prop := wp_X3_stop_23 Φ  (-9 : Int)
def wp_X3_stop (x1 : Int) (tz : Int) (so : Nat → Int) (Φ : Int → Prop) : Prop := (qR x1 ∧ (x1 < (0 : Int) → wp_X3_stop_21 Φ  ) ∧ (¬ (x1 < (0 : Int)) → ((qR x1 ∧ qR tz) ∧ (tz ≤ x1 → wp_X3_stop_21 Φ  ) ∧ (¬ (tz ≤ x1) → ((0 ≤ x1 ∧ x1 < 12) ∧ (∀ v3 : Int, v3 = so (x1).toNat → wp_X3_stop_23 Φ  v3))))))
theorem iX3_stop_X3 : ∀ w ∈ wsX30, w ∈ wsX3_stop := fun w h => List.mem_cons_of_mem _ (List.mem_append_right _ (h))
set_option maxHeartbeats 4000000 in
set_option maxRecDepth 100000 in
theorem c_X3_stop (l : Launch) (D : va_G) (E : Nat → ClassId) (t0 t1 t2 t3 : Nat) (pn : Int64) (tz : Int) (ts : Int) (sp : Nat → Int) (rs : Nat → Int) (so : Nat → Int) (x1 : Int) {Φ : Int → Prop} (hw : wp_X3_stop x1 tz so Φ) : qRO l D E qF0 yX3_stop wsX3_stop 0 0 [(t0, .inr (3, [.long pn, .ref t1, .int (qI tz), .ref t2, .ref t3, .int (qI ts)])), (t1, qA (E 0) 12 sp), (t2, qA (E 0) 49152 rs), (t3, qA (E 0) 12 so)] [.ref t0, .int (qI x1)] qeI (fun r => Φ r) := by
  refine qRO_int (nL := 2) (own := RX3) qF0_ok (by decide) rfl rfl (Nat.le_of_ble_eq_true rfl) (fun X C hend => ?_)
  have hB23 : ∀ k0 : Int, wp_X3_stop_23 Φ  k0 → qZ X 0 0 [(t0, .inr (3, [.long pn, .ref t1, .int (qI tz), .ref t2, .ref t3, .int (qI ts)])), (t1, qA (E 0) 12 sp), (t2, qA (E 0) 49152 rs), (t3, qA (E 0) 12 so)] 23 [] [.int (qI k0)] := by
    intro k0 hw
    unfold wp_X3_stop_23 at hw
    exact hend 23 _ k0 dX3_stop_23 hw
  have hB21 :  wp_X3_stop_21 Φ   → qZ X 0 0 [(t0, .inr (3, [.long pn, .ref t1, .int (qI tz), .ref t2, .ref t3, .int (qI ts)])), (t1, qA (E 0) 12 sp), (t2, qA (E 0) 49152 rs), (t3, qA (E 0) 12 so)] 21 [] [] := by
    intro  hw
    unfold wp_X3_stop_21 at hw
    refine z_bipush C (by decide +kernel) dX3_stop_21 ?_
    refine z_lst (ps := []) (lv' := []) (st' := [.int (qI (-9 : Int))]) rfl rfl ?_
    exact hB23 (-9 : Int) hw
  unfold wp_X3_stop at hw
  show qZ X 0 0 [(t0, .inr (3, [.long pn, .ref t1, .int (qI tz), .ref t2, .ref t3, .int (qI ts)])), (t1, qA (E 0) 12 sp), (t2, qA (E 0) 49152 rs), (t3, qA (E 0) 12 so)] 0 [(0, .ref t0), (1, .int (qI x1))] []
  refine z_iload_n C 1 rfl rfl dX3_stop_0 ?_
  refine z_if_lt (tgt := 21) C hw.1 (by decide) dX3_stop_1 (fun c1 => ?_) (fun c1 => ?_)
  · replace hw := hw.2.1 c1
    refine z_lst (ps := []) (lv' := []) (st' := []) rfl rfl ?_
    exact hB21  hw
  · replace hw := hw.2.2 c1
    refine z_iload_n C 1 rfl rfl dX3_stop_4 ?_
    refine z_aload_n C 0 rfl rfl dX3_stop_5 ?_
    refine z_get C iX3_stop_X3 0 rfl rfl 2 (by decide) (List.mem_of_getElem? (i := 1) rfl) rfl rfl dX3_stop_6 ?_
    refine z_icmp_ge (tgt := 21) C hw.1 (by decide) dX3_stop_9 (fun c2 => ?_) (fun c2 => ?_)
    · replace hw := hw.2.1 c2
      refine z_lst (ps := []) (lv' := []) (st' := []) rfl rfl ?_
      exact hB21  hw
    · replace hw := hw.2.2 c2
      refine z_aload_n C 0 rfl rfl dX3_stop_12 ?_
      refine z_get C iX3_stop_X3 0 rfl rfl 4 (by decide) (List.mem_of_getElem? (i := 2) rfl) rfl rfl dX3_stop_13 ?_
      refine z_iload_n C 1 rfl rfl dX3_stop_16 ?_
      refine z_iald C 3 rfl (by decide) hw.1 dX3_stop_17 ?_
      replace hw := hw.2
      refine z_name (fun v3 ev3 => ?_)
      replace hw := hw v3 ev3
      refine z_goto (tgt := 23) C (by decide) dX3_stop_18 ?_
      refine z_lst (ps := []) (lv' := []) (st' := [.int (qI v3)]) rfl rfl ?_
      exact hB23 v3 hw
def wp_X3_listSpots_60 (Φ : Int → (Nat → Int) → Prop)  (tz : Int) (sp : Nat → Int) : Prop := Φ tz sp
def wp_X3_listSpots_54 (Φ : Int → (Nat → Int) → Prop) (K7 : Int → Int → (Nat → Int) → Prop) (x1 : Int) (pn : Int64) (tz : Int) (sp : Nat → Int) : Prop := (∀ v1 : Int, v1 = x1 + (1 : Int) → K7 v1 tz sp)
def wp_X3_listSpots_7 (Φ : Int → (Nat → Int) → Prop)  (pn : Int64) : Nat → Int → Int → (Nat → Int) → Prop
  | 0, _, _, _ => False
  | n9 + 1, x1, tz, sp => ((qR x1 ∧ qR (64 : Int)) ∧ ((64 : Int) ≤ x1 → wp_X3_listSpots_60 Φ  tz sp) ∧ (¬ ((64 : Int) ≤ x1) → ((qR tz ∧ qR (12 : Int)) ∧ ((12 : Int) ≤ tz → wp_X3_listSpots_60 Φ  tz sp) ∧ (¬ ((12 : Int) ≤ tz) → wp_X4_bit pn x1 (fun (r4 : Int) => ((qR r4 ∧ qR (1 : Int)) ∧ (¬ r4 = (1 : Int) → wp_X3_listSpots_54 Φ (wp_X3_listSpots_7 Φ  pn n9) x1 pn tz sp) ∧ (¬ (¬ r4 = (1 : Int)) → ((0 ≤ tz ∧ tz < 12) ∧ ∀ g6 : Nat → Int, g6 = qU sp (tz).toNat x1 → (∀ v7 : Int, v7 = (tz + (1 : Int)) → wp_X3_listSpots_54 Φ (wp_X3_listSpots_7 Φ  pn n9) x1 pn v7 g6)))))))))
def wp_X3_listSpots  (pn : Int64) (tz : Int) (sp : Nat → Int) (Φ : Int → (Nat → Int) → Prop) : Prop := ∃ n : Nat, wp_X3_listSpots_7 Φ  pn n (0 : Int) (0 : Int) sp
theorem iX3_listSpots_X3 : ∀ w ∈ wsX30, w ∈ wsX3_listSpots := fun w h => List.mem_cons_of_mem _ (List.mem_append_right _ (h))
set_option maxHeartbeats 4000000 in
set_option maxRecDepth 100000 in
theorem c_X3_listSpots (l : Launch) (D : va_G) (E : Nat → ClassId) (t0 t1 t2 t3 : Nat) (pn : Int64) (tz : Int) (ts : Int) (sp : Nat → Int) (rs : Nat → Int) (so : Nat → Int)  {Φ : Int → (Nat → Int) → Prop} (hw : wp_X3_listSpots  pn tz sp Φ) : qRW (σ := (Int) × (Nat → Int)) l D E qF0 yX3_listSpots wsX3_listSpots 1 22 [(t0, .inr (3, [.long pn, .ref t1, .int (qI tz), .ref t2, .ref t3, .int (qI ts)])), (t1, qA (E 0) 12 sp), (t2, qA (E 0) 49152 rs), (t3, qA (E 0) 12 so)] [.ref t0] qeV (fun u => [(t0, .inr (3, [.long pn, .ref t1, .int (qI u.1), .ref t2, .ref t3, .int (qI ts)])), (t1, qA (E 0) 12 u.2), (t2, qA (E 0) 49152 rs), (t3, qA (E 0) 12 so)]) (fun r u => Φ u.1 u.2) := by
  refine qRW_void (nL := 2) (own := RX3) qF0_ok (by decide) rfl rfl (Nat.le_of_ble_eq_true rfl) (fun X C hend => ?_)
  have hB60 : ∀ tz : Int, ∀ sp : Nat → Int, wp_X3_listSpots_60 Φ  tz sp → qZ X 0 0 [(t0, .inr (3, [.long pn, .ref t1, .int (qI tz), .ref t2, .ref t3, .int (qI ts)])), (t1, qA (E 0) 12 sp), (t2, qA (E 0) 49152 rs), (t3, qA (E 0) 12 so)] 60 [] [] := by
    intro tz sp hw
    unfold wp_X3_listSpots_60 at hw
    exact hend 60 _ () (tz, sp) dX3_listSpots_60 hw
  have hB54 : ∀ K7 : Int → Int → (Nat → Int) → Prop, (∀ (x1 : Int) (tz : Int) (sp : Nat → Int), K7 x1 tz sp → qZ X 0 0 [(t0, .inr (3, [.long pn, .ref t1, .int (qI tz), .ref t2, .ref t3, .int (qI ts)])), (t1, qA (E 0) 12 sp), (t2, qA (E 0) 49152 rs), (t3, qA (E 0) 12 so)] 7 [(0, .ref t0), (1, .int (qI x1))] []) → ∀ x1 : Int, ∀ tz : Int, ∀ sp : Nat → Int, wp_X3_listSpots_54 Φ K7 x1 pn tz sp → qZ X 0 0 [(t0, .inr (3, [.long pn, .ref t1, .int (qI tz), .ref t2, .ref t3, .int (qI ts)])), (t1, qA (E 0) 12 sp), (t2, qA (E 0) 49152 rs), (t3, qA (E 0) 12 so)] 54 [(0, .ref t0), (1, .int (qI x1))] [] := by
    intro K7 hK7 x1 tz sp hw
    unfold wp_X3_listSpots_54 at hw
    obtain ⟨v1, ev1⟩ : ∃ v1 : Int, v1 = x1 + (1 : Int) := ⟨_, rfl⟩
    replace hw := hw v1 ev1
    refine z_iinc C 1 rfl (by decide) v1 ev1 rfl dX3_listSpots_54 ?_
    refine z_goto (tgt := 7) C (by decide) dX3_listSpots_57 ?_
    refine z_lst (ps := [1, 0]) (lv' := [(0, .ref t0), (1, .int (qI v1))]) (st' := []) rfl rfl ?_
    exact hK7 v1 tz sp hw
  have hB7 : ∀ n8 : Nat, ∀ x1 : Int, ∀ tz : Int, ∀ sp : Nat → Int, wp_X3_listSpots_7 Φ  pn n8 x1 tz sp → qZ X 0 0 [(t0, .inr (3, [.long pn, .ref t1, .int (qI tz), .ref t2, .ref t3, .int (qI ts)])), (t1, qA (E 0) 12 sp), (t2, qA (E 0) 49152 rs), (t3, qA (E 0) 12 so)] 7 [(0, .ref t0), (1, .int (qI x1))] [] := by
    intro n8
    induction n8 with
    | zero =>
      intro x1 tz sp hw
      exact hw.elim
    | succ n9 ih =>
      intro x1 tz sp hw
      unfold wp_X3_listSpots_7 at hw
      refine z_iload_n C 1 rfl rfl dX3_listSpots_7 ?_
      refine z_bipush C (by decide +kernel) dX3_listSpots_8 ?_
      refine z_icmp_ge (tgt := 60) C hw.1 (by decide) dX3_listSpots_10 (fun c2 => ?_) (fun c2 => ?_)
      · replace hw := hw.2.1 c2
        refine z_lst (ps := []) (lv' := []) (st' := []) rfl rfl ?_
        exact hB60 tz sp hw
      · replace hw := hw.2.2 c2
        refine z_aload_n C 0 rfl rfl dX3_listSpots_13 ?_
        refine z_get C iX3_listSpots_X3 0 rfl rfl 2 (by decide) (List.mem_of_getElem? (i := 1) rfl) rfl rfl dX3_listSpots_14 ?_
        refine z_bipush C (by decide +kernel) dX3_listSpots_17 ?_
        refine z_icmp_ge (tgt := 60) C hw.1 (by decide) dX3_listSpots_19 (fun c3 => ?_) (fun c3 => ?_)
        · replace hw := hw.2.1 c3
          refine z_lst (ps := []) (lv' := []) (st' := []) rfl rfl ?_
          exact hB60 tz sp hw
        · replace hw := hw.2.2 c3
          refine z_aload_n C 0 rfl rfl dX3_listSpots_22 ?_
          refine z_get C iX3_listSpots_X3 0 rfl rfl 0 (by decide) (List.mem_of_getElem? (i := 2) rfl) rfl rfl dX3_listSpots_23 ?_
          refine z_iload_n C 1 rfl rfl dX3_listSpots_26 ?_
          refine z_callSN (n := 2) C (c_X4_bit l D E   pn x1 hw) qF0_ok (fun _ _ _ => trivial) gX3_listSpots_X4_bit_n42 rfl (List.mem_of_getElem? (i := 4) rfl) (List.mem_of_getElem? (i := 5) rfl) (host := RX4) (by decide +kernel) (by decide +kernel) ⟨(Nat.le_of_ble_eq_true rfl), (Nat.le_of_ble_eq_true rfl)⟩ rfl [] rfl rfl (Nat.le_of_ble_eq_true rfl) dX3_listSpots_27 (fun r4 hw => ?_)
          show qZ X 0 0 [(t0, .inr (3, [.long pn, .ref t1, .int (qI tz), .ref t2, .ref t3, .int (qI ts)])), (t1, qA (E 0) 12 sp), (t2, qA (E 0) 49152 rs), (t3, qA (E 0) 12 so)] _ _ [.int (qI r4)]
          refine z_iconst C dX3_listSpots_30 ?_
          refine z_icmp_ne (tgt := 54) C hw.1 (by decide) dX3_listSpots_31 (fun c5 => ?_) (fun c5 => ?_)
          · replace hw := hw.2.1 c5
            refine z_lst (ps := [0, 1]) (lv' := [(0, .ref t0), (1, .int (qI x1))]) (st' := []) rfl rfl ?_
            exact hB54 _ ih x1 tz sp hw
          · replace hw := hw.2.2 c5
            refine z_aload_n C 0 rfl rfl dX3_listSpots_34 ?_
            refine z_get C iX3_listSpots_X3 0 rfl rfl 1 (by decide) (List.mem_of_getElem? (i := 3) rfl) rfl rfl dX3_listSpots_35 ?_
            refine z_aload_n C 0 rfl rfl dX3_listSpots_38 ?_
            refine z_get C iX3_listSpots_X3 0 rfl rfl 2 (by decide) (List.mem_of_getElem? (i := 1) rfl) rfl rfl dX3_listSpots_39 ?_
            refine z_iload_n C 1 rfl rfl dX3_listSpots_42 ?_
            refine z_iast C 1 rfl (by decide) hw.1 (fun g6 => [(t0, .inr (3, [.long pn, .ref t1, .int (qI tz), .ref t2, .ref t3, .int (qI ts)])), (t1, qA (E 0) 12 g6), (t2, qA (E 0) 49152 rs), (t3, qA (E 0) 12 so)]) (fun _ => rfl) dX3_listSpots_43 (fun g6 eg6 => ?_)
            replace hw := hw.2 g6 eg6
            refine z_aload_n C 0 rfl rfl dX3_listSpots_44 ?_
            refine z_dup C rfl dX3_listSpots_45 ?_
            refine z_get C iX3_listSpots_X3 0 rfl rfl 2 (by decide) (List.mem_of_getElem? (i := 1) rfl) rfl rfl dX3_listSpots_46 ?_
            refine z_iconst C dX3_listSpots_49 ?_
            refine z_iadd C dX3_listSpots_50 ?_
            refine z_name (fun v7 ev7 => ?_)
            replace hw := hw v7 ev7
            refine z_put (ty := .int) (ws' := [(t0, .inr (3, [.long pn, .ref t1, .int (qI v7), .ref t2, .ref t3, .int (qI ts)])), (t1, qA (E 0) 12 g6), (t2, qA (E 0) 49152 rs), (t3, qA (E 0) 12 so)]) C iX3_listSpots_X3 tyX3 tyX3_ok nmX3 0 rfl rfl 2 (by decide) (List.mem_of_getElem? (i := 1) rfl) rfl rfl (by decide +kernel) rfl rfl (Nat.le_of_ble_eq_true rfl) rfl dX3_listSpots_51 ?_
            refine z_lst (ps := [0, 1]) (lv' := [(0, .ref t0), (1, .int (qI x1))]) (st' := []) rfl rfl ?_
            exact hB54 _ ih x1 v7 g6 hw
  unfold wp_X3_listSpots at hw
  show qZ X 0 0 [(t0, .inr (3, [.long pn, .ref t1, .int (qI tz), .ref t2, .ref t3, .int (qI ts)])), (t1, qA (E 0) 12 sp), (t2, qA (E 0) 49152 rs), (t3, qA (E 0) 12 so)] 0 [(0, .ref t0)] []
  refine z_aload_n C 0 rfl rfl dX3_listSpots_0 ?_
  refine z_iconst C dX3_listSpots_1 ?_
  refine z_put (ty := .int) (ws' := [(t0, .inr (3, [.long pn, .ref t1, .int (qI (0 : Int)), .ref t2, .ref t3, .int (qI ts)])), (t1, qA (E 0) 12 sp), (t2, qA (E 0) 49152 rs), (t3, qA (E 0) 12 so)]) C iX3_listSpots_X3 tyX3 tyX3_ok nmX3 0 rfl rfl 2 (by decide) (List.mem_of_getElem? (i := 1) rfl) rfl rfl (by decide +kernel) rfl rfl (Nat.le_of_ble_eq_true rfl) rfl dX3_listSpots_2 ?_
  refine z_iconst C dX3_listSpots_5 ?_
  refine z_istore_n C rfl (by decide) rfl dX3_listSpots_6 ?_
  refine z_lst (ps := [1, 0]) (lv' := [(0, .ref t0), (1, .int (qI (0 : Int)))]) (st' := []) rfl rfl ?_
  obtain ⟨n8, hw⟩ := hw
  exact hB7 n8 (0 : Int) (0 : Int) sp hw
def wp_X3_travelBy (x1 : Int) (x2 : Int) (x3 : Int) (sp : Nat → Int) (rs : Nat → Int) (Φ : Int → Prop) : Prop := ((0 ≤ x3 ∧ x3 < 12) ∧ (∀ v1 : Int, v1 = sp (x3).toNat → wp_X4_way x2 v1 (fun (r2 : Int) => (∀ v3 : Int, v3 = qshl (1 : Int) x3 → (∀ v4 : Int, v4 = qxor v3 (-1 : Int) → (∀ v5 : Int, v5 = qand x1 v4 → ((0 ≤ ((v5 * (12 : Int)) + x3) ∧ ((v5 * (12 : Int)) + x3) < 49152) ∧ (∀ v6 : Int, v6 = rs (((v5 * (12 : Int)) + x3)).toNat → Φ (r2 + v6)))))))))
theorem iX3_travelBy_X3 : ∀ w ∈ wsX30, w ∈ wsX3_travelBy := fun w h => List.mem_cons_of_mem _ (List.mem_append_right _ (h))
set_option maxHeartbeats 4000000 in
set_option maxRecDepth 100000 in
theorem c_X3_travelBy (l : Launch) (D : va_G) (E : Nat → ClassId) (t0 t1 t2 t3 : Nat) (pn : Int64) (tz : Int) (ts : Int) (sp : Nat → Int) (rs : Nat → Int) (so : Nat → Int) (x1 : Int) (x2 : Int) (x3 : Int) {Φ : Int → Prop} (hw : wp_X3_travelBy x1 x2 x3 sp rs Φ) : qRO l D E qF0 yX3_travelBy wsX3_travelBy 2 42 [(t0, .inr (3, [.long pn, .ref t1, .int (qI tz), .ref t2, .ref t3, .int (qI ts)])), (t1, qA (E 0) 12 sp), (t2, qA (E 0) 49152 rs), (t3, qA (E 0) 12 so)] [.ref t0, .int (qI x1), .int (qI x2), .int (qI x3)] qeI (fun r => Φ r) := by
  refine qRO_int (nL := 4) (own := RX3) qF0_ok (by decide) rfl rfl (Nat.le_of_ble_eq_true rfl) (fun X C hend => ?_)
  unfold wp_X3_travelBy at hw
  show qZ X 0 0 [(t0, .inr (3, [.long pn, .ref t1, .int (qI tz), .ref t2, .ref t3, .int (qI ts)])), (t1, qA (E 0) 12 sp), (t2, qA (E 0) 49152 rs), (t3, qA (E 0) 12 so)] 0 [(0, .ref t0), (1, .int (qI x1)), (2, .int (qI x2)), (3, .int (qI x3))] []
  refine z_iload_n C 2 rfl rfl dX3_travelBy_0 ?_
  refine z_aload_n C 0 rfl rfl dX3_travelBy_1 ?_
  refine z_get C iX3_travelBy_X3 0 rfl rfl 1 (by decide) (List.mem_of_getElem? (i := 1) rfl) rfl rfl dX3_travelBy_2 ?_
  refine z_iload_n C 3 rfl rfl dX3_travelBy_5 ?_
  refine z_iald C 1 rfl (by decide) hw.1 dX3_travelBy_6 ?_
  replace hw := hw.2
  refine z_name (fun v1 ev1 => ?_)
  replace hw := hw v1 ev1
  refine z_callSN (n := 2) C (c_X4_way l D E   x2 v1 hw) qF0_ok (fun _ _ _ => trivial) gX3_travelBy_X4_way_n57 rfl (List.mem_of_getElem? (i := 3) rfl) (List.mem_of_getElem? (i := 4) rfl) (host := RX4) (by decide +kernel) (by decide +kernel) ⟨(Nat.le_of_ble_eq_true rfl), (Nat.le_of_ble_eq_true rfl)⟩ rfl [] rfl rfl (Nat.le_of_ble_eq_true rfl) dX3_travelBy_7 (fun r2 hw => ?_)
  show qZ X 0 0 [(t0, .inr (3, [.long pn, .ref t1, .int (qI tz), .ref t2, .ref t3, .int (qI ts)])), (t1, qA (E 0) 12 sp), (t2, qA (E 0) 49152 rs), (t3, qA (E 0) 12 so)] _ _ [.int (qI r2)]
  refine z_aload_n C 0 rfl rfl dX3_travelBy_10 ?_
  refine z_get C iX3_travelBy_X3 0 rfl rfl 3 (by decide) (List.mem_of_getElem? (i := 2) rfl) rfl rfl dX3_travelBy_11 ?_
  refine z_iload_n C 1 rfl rfl dX3_travelBy_14 ?_
  refine z_iconst C dX3_travelBy_15 ?_
  refine z_iload_n C 3 rfl rfl dX3_travelBy_16 ?_
  refine z_ishl C dX3_travelBy_17 ?_
  refine z_name (fun v3 ev3 => ?_)
  replace hw := hw v3 ev3
  refine z_iconst C dX3_travelBy_18 ?_
  refine z_ixor C dX3_travelBy_19 ?_
  refine z_name (fun v4 ev4 => ?_)
  replace hw := hw v4 ev4
  refine z_iand C dX3_travelBy_20 ?_
  refine z_name (fun v5 ev5 => ?_)
  replace hw := hw v5 ev5
  refine z_bipush C (by decide +kernel) dX3_travelBy_21 ?_
  refine z_imul C dX3_travelBy_23 ?_
  refine z_iload_n C 3 rfl rfl dX3_travelBy_24 ?_
  refine z_iadd C dX3_travelBy_25 ?_
  refine z_iald C 2 rfl (by decide) hw.1 dX3_travelBy_26 ?_
  replace hw := hw.2
  refine z_name (fun v6 ev6 => ?_)
  replace hw := hw v6 ev6
  refine z_iadd C dX3_travelBy_27 ?_
  exact hend 28 _ (r2 + v6) dX3_travelBy_28 hw
def wp_X3_bestStep_55 (Φ : Int → Prop) (K8 : Int → Int → Int → Prop) (x1 : Int) (x2 : Int) (x3 : Int) (x4 : Int) (x5 : Int) (tz : Int) (sp : Nat → Int) (rs : Nat → Int) : Prop := (∀ v1 : Int, v1 = x5 + (1 : Int) → K8 x3 x4 v1)
def wp_X3_bestStep_48 (Φ : Int → Prop) (K8 : Int → Int → Int → Prop) (x1 : Int) (x2 : Int) (x5 : Int) (x6 : Int) (tz : Int) (sp : Nat → Int) (rs : Nat → Int) : Prop := wp_X3_bestStep_55 Φ K8 x1 x2 x5 x6 x5 tz sp rs
def wp_X3_bestStep_8 (Φ : Int → Prop)  (x1 : Int) (x2 : Int) (tz : Int) (sp : Nat → Int) (rs : Nat → Int) : Nat → Int → Int → Int → Prop
  | 0, _, _, _ => False
  | n9 + 1, x3, x4, x5 => ((qR x5 ∧ qR tz) ∧ (tz ≤ x5 → Φ x3) ∧ (¬ (tz ≤ x5) → (∀ v3 : Int, v3 = qshr x1 x5 → (∀ v4 : Int, v4 = qand v3 (1 : Int) → ((qR v4 ∧ qR (1 : Int)) ∧ (¬ v4 = (1 : Int) → wp_X3_bestStep_55 Φ (wp_X3_bestStep_8 Φ  x1 x2 tz sp rs n9) x1 x2 x3 x4 x5 tz sp rs) ∧ (¬ (¬ v4 = (1 : Int)) → wp_X3_travelBy x1 x2 x5 sp rs (fun (r6 : Int) => (qR x3 ∧ (x3 < (0 : Int) → wp_X3_bestStep_48 Φ (wp_X3_bestStep_8 Φ  x1 x2 tz sp rs n9) x1 x2 x5 r6 tz sp rs) ∧ (¬ (x3 < (0 : Int)) → ((qR r6 ∧ qR x4) ∧ (x4 ≤ r6 → wp_X3_bestStep_55 Φ (wp_X3_bestStep_8 Φ  x1 x2 tz sp rs n9) x1 x2 x3 x4 x5 tz sp rs) ∧ (¬ (x4 ≤ r6) → wp_X3_bestStep_48 Φ (wp_X3_bestStep_8 Φ  x1 x2 tz sp rs n9) x1 x2 x5 r6 tz sp rs)))))))))))
def wp_X3_bestStep (x1 : Int) (x2 : Int) (tz : Int) (sp : Nat → Int) (rs : Nat → Int) (Φ : Int → Prop) : Prop := ∃ n : Nat, wp_X3_bestStep_8 Φ  x1 x2 tz sp rs n (-1 : Int) (0 : Int) (0 : Int)
theorem iX3_bestStep_X3 : ∀ w ∈ wsX30, w ∈ wsX3_bestStep := fun w h => List.mem_cons_of_mem _ (List.mem_append_right _ (h))
set_option maxHeartbeats 4000000 in
set_option maxRecDepth 100000 in
theorem c_X3_bestStep (l : Launch) (D : va_G) (E : Nat → ClassId) (t0 t1 t2 t3 : Nat) (pn : Int64) (tz : Int) (ts : Int) (sp : Nat → Int) (rs : Nat → Int) (so : Nat → Int) (x1 : Int) (x2 : Int) {Φ : Int → Prop} (hw : wp_X3_bestStep x1 x2 tz sp rs Φ) : qRO l D E qF0 yX3_bestStep wsX3_bestStep 3 65 [(t0, .inr (3, [.long pn, .ref t1, .int (qI tz), .ref t2, .ref t3, .int (qI ts)])), (t1, qA (E 0) 12 sp), (t2, qA (E 0) 49152 rs), (t3, qA (E 0) 12 so)] [.ref t0, .int (qI x1), .int (qI x2)] qeI (fun r => Φ r) := by
  refine qRO_int (nL := 7) (own := RX3) qF0_ok (by decide) rfl rfl (Nat.le_of_ble_eq_true rfl) (fun X C hend => ?_)
  have hB55 : ∀ x1 : Int, ∀ x2 : Int, ∀ K8 : Int → Int → Int → Prop, (∀ (x3 : Int) (x4 : Int) (x5 : Int), K8 x3 x4 x5 → qZ X 0 0 [(t0, .inr (3, [.long pn, .ref t1, .int (qI tz), .ref t2, .ref t3, .int (qI ts)])), (t1, qA (E 0) 12 sp), (t2, qA (E 0) 49152 rs), (t3, qA (E 0) 12 so)] 8 [(0, .ref t0), (1, .int (qI x1)), (2, .int (qI x2)), (3, .int (qI x3)), (4, .int (qI x4)), (5, .int (qI x5))] []) → ∀ x3 : Int, ∀ x4 : Int, ∀ x5 : Int, wp_X3_bestStep_55 Φ K8 x1 x2 x3 x4 x5 tz sp rs → qZ X 0 0 [(t0, .inr (3, [.long pn, .ref t1, .int (qI tz), .ref t2, .ref t3, .int (qI ts)])), (t1, qA (E 0) 12 sp), (t2, qA (E 0) 49152 rs), (t3, qA (E 0) 12 so)] 55 [(0, .ref t0), (1, .int (qI x1)), (2, .int (qI x2)), (3, .int (qI x3)), (4, .int (qI x4)), (5, .int (qI x5))] [] := by
    intro x1 x2 K8 hK8 x3 x4 x5 hw
    unfold wp_X3_bestStep_55 at hw
    obtain ⟨v1, ev1⟩ : ∃ v1 : Int, v1 = x5 + (1 : Int) := ⟨_, rfl⟩
    replace hw := hw v1 ev1
    refine z_iinc C 5 rfl (by decide) v1 ev1 rfl dX3_bestStep_55 ?_
    refine z_goto (tgt := 8) C (by decide) dX3_bestStep_58 ?_
    refine z_lst (ps := [1, 2, 3, 4, 5, 0]) (lv' := [(0, .ref t0), (1, .int (qI x1)), (2, .int (qI x2)), (3, .int (qI x3)), (4, .int (qI x4)), (5, .int (qI v1))]) (st' := []) rfl rfl ?_
    exact hK8 x3 x4 v1 hw
  have hB48 : ∀ x1 : Int, ∀ x2 : Int, ∀ K8 : Int → Int → Int → Prop, (∀ (x3 : Int) (x4 : Int) (x5 : Int), K8 x3 x4 x5 → qZ X 0 0 [(t0, .inr (3, [.long pn, .ref t1, .int (qI tz), .ref t2, .ref t3, .int (qI ts)])), (t1, qA (E 0) 12 sp), (t2, qA (E 0) 49152 rs), (t3, qA (E 0) 12 so)] 8 [(0, .ref t0), (1, .int (qI x1)), (2, .int (qI x2)), (3, .int (qI x3)), (4, .int (qI x4)), (5, .int (qI x5))] []) → ∀ x5 : Int, ∀ x6 : Int, wp_X3_bestStep_48 Φ K8 x1 x2 x5 x6 tz sp rs → qZ X 0 0 [(t0, .inr (3, [.long pn, .ref t1, .int (qI tz), .ref t2, .ref t3, .int (qI ts)])), (t1, qA (E 0) 12 sp), (t2, qA (E 0) 49152 rs), (t3, qA (E 0) 12 so)] 48 [(0, .ref t0), (1, .int (qI x1)), (2, .int (qI x2)), (5, .int (qI x5)), (6, .int (qI x6))] [] := by
    intro x1 x2 K8 hK8 x5 x6 hw
    unfold wp_X3_bestStep_48 at hw
    refine z_iload C 3 rfl dX3_bestStep_48 ?_
    refine z_istore_n C rfl (by decide) rfl dX3_bestStep_50 ?_
    refine z_iload C 5 rfl dX3_bestStep_51 ?_
    refine z_istore C (by decide) rfl dX3_bestStep_53 ?_
    refine z_lst (ps := [2, 3, 4, 1, 0, 5]) (lv' := [(0, .ref t0), (1, .int (qI x1)), (2, .int (qI x2)), (3, .int (qI x5)), (4, .int (qI x6)), (5, .int (qI x5))]) (st' := []) rfl rfl ?_
    exact hB55 x1 x2 _ hK8 x5 x6 x5 hw
  have hB8 : ∀ x1 : Int, ∀ x2 : Int, ∀ n8 : Nat, ∀ x3 : Int, ∀ x4 : Int, ∀ x5 : Int, wp_X3_bestStep_8 Φ  x1 x2 tz sp rs n8 x3 x4 x5 → qZ X 0 0 [(t0, .inr (3, [.long pn, .ref t1, .int (qI tz), .ref t2, .ref t3, .int (qI ts)])), (t1, qA (E 0) 12 sp), (t2, qA (E 0) 49152 rs), (t3, qA (E 0) 12 so)] 8 [(0, .ref t0), (1, .int (qI x1)), (2, .int (qI x2)), (3, .int (qI x3)), (4, .int (qI x4)), (5, .int (qI x5))] [] := by
    intro x1 x2 n8
    induction n8 with
    | zero =>
      intro x3 x4 x5 hw
      exact hw.elim
    | succ n9 ih =>
      intro x3 x4 x5 hw
      unfold wp_X3_bestStep_8 at hw
      refine z_iload C 5 rfl dX3_bestStep_8 ?_
      refine z_aload_n C 0 rfl rfl dX3_bestStep_10 ?_
      refine z_get C iX3_bestStep_X3 0 rfl rfl 2 (by decide) (List.mem_of_getElem? (i := 1) rfl) rfl rfl dX3_bestStep_11 ?_
      refine z_icmp_ge (tgt := 61) C hw.1 (by decide) dX3_bestStep_14 (fun c2 => ?_) (fun c2 => ?_)
      · replace hw := hw.2.1 c2
        refine z_iload_n C 3 rfl rfl dX3_bestStep_61 ?_
        exact hend 62 _ x3 dX3_bestStep_62 hw
      · replace hw := hw.2.2 c2
        refine z_iload_n C 1 rfl rfl dX3_bestStep_17 ?_
        refine z_iload C 5 rfl dX3_bestStep_18 ?_
        refine z_ishr C dX3_bestStep_20 ?_
        refine z_name (fun v3 ev3 => ?_)
        replace hw := hw v3 ev3
        refine z_iconst C dX3_bestStep_21 ?_
        refine z_iand C dX3_bestStep_22 ?_
        refine z_name (fun v4 ev4 => ?_)
        replace hw := hw v4 ev4
        refine z_iconst C dX3_bestStep_23 ?_
        refine z_icmp_ne (tgt := 55) C hw.1 (by decide) dX3_bestStep_24 (fun c5 => ?_) (fun c5 => ?_)
        · replace hw := hw.2.1 c5
          refine z_lst (ps := [0, 1, 2, 3, 4, 5]) (lv' := [(0, .ref t0), (1, .int (qI x1)), (2, .int (qI x2)), (3, .int (qI x3)), (4, .int (qI x4)), (5, .int (qI x5))]) (st' := []) rfl rfl ?_
          exact hB55 x1 x2 _ ih x3 x4 x5 hw
        · replace hw := hw.2.2 c5
          refine z_aload_n C 0 rfl rfl dX3_bestStep_27 ?_
          refine z_iload_n C 1 rfl rfl dX3_bestStep_28 ?_
          refine z_iload_n C 2 rfl rfl dX3_bestStep_29 ?_
          refine z_iload C 5 rfl dX3_bestStep_30 ?_
          refine z_callV (n := 3) C (c_X3_travelBy l D E t0 t1 t2 t3 pn tz ts sp rs so x1 x2 x5 hw) qF0_ok (fun _ _ _ => trivial) gX3_bestStep_X3_travelBy rfl (by decide +kernel) ⟨(Nat.le_of_ble_eq_true rfl), (Nat.le_of_ble_eq_true rfl)⟩ rfl 0 rfl rfl [0, 1, 2, 3] rfl rfl (Nat.le_of_ble_eq_true rfl) dX3_bestStep_32 (fun r6 hw => ?_)
          show qZ X 0 0 [(t0, .inr (3, [.long pn, .ref t1, .int (qI tz), .ref t2, .ref t3, .int (qI ts)])), (t1, qA (E 0) 12 sp), (t2, qA (E 0) 49152 rs), (t3, qA (E 0) 12 so)] _ _ [.int (qI r6)]
          refine z_istore C (by decide) rfl dX3_bestStep_35 ?_
          refine z_iload_n C 4 rfl rfl dX3_bestStep_37 ?_
          refine z_if_lt (tgt := 48) C hw.1 (by decide) dX3_bestStep_38 (fun c7 => ?_) (fun c7 => ?_)
          · replace hw := hw.2.1 c7
            refine z_lst (ps := [1, 2, 3, 6, 0]) (lv' := [(0, .ref t0), (1, .int (qI x1)), (2, .int (qI x2)), (5, .int (qI x5)), (6, .int (qI r6))]) (st' := []) rfl rfl ?_
            exact hB48 x1 x2 _ ih x5 r6 hw
          · replace hw := hw.2.2 c7
            refine z_iload C 0 rfl dX3_bestStep_41 ?_
            refine z_iload C 5 rfl dX3_bestStep_43 ?_
            refine z_icmp_ge (tgt := 55) C hw.1 (by decide) dX3_bestStep_45 (fun c8 => ?_) (fun c8 => ?_)
            · replace hw := hw.2.1 c8
              refine z_lst (ps := [1, 2, 3, 4, 5, 6]) (lv' := [(0, .ref t0), (1, .int (qI x1)), (2, .int (qI x2)), (3, .int (qI x3)), (4, .int (qI x4)), (5, .int (qI x5))]) (st' := []) rfl rfl ?_
              exact hB55 x1 x2 _ ih x3 x4 x5 hw
            · replace hw := hw.2.2 c8
              refine z_lst (ps := [1, 2, 3, 6, 0]) (lv' := [(0, .ref t0), (1, .int (qI x1)), (2, .int (qI x2)), (5, .int (qI x5)), (6, .int (qI r6))]) (st' := []) rfl rfl ?_
              exact hB48 x1 x2 _ ih x5 r6 hw
  unfold wp_X3_bestStep at hw
  show qZ X 0 0 [(t0, .inr (3, [.long pn, .ref t1, .int (qI tz), .ref t2, .ref t3, .int (qI ts)])), (t1, qA (E 0) 12 sp), (t2, qA (E 0) 49152 rs), (t3, qA (E 0) 12 so)] 0 [(0, .ref t0), (1, .int (qI x1)), (2, .int (qI x2))] []
  refine z_iconst C dX3_bestStep_0 ?_
  refine z_istore_n C rfl (by decide) rfl dX3_bestStep_1 ?_
  refine z_iconst C dX3_bestStep_2 ?_
  refine z_istore C (by decide) rfl dX3_bestStep_3 ?_
  refine z_iconst C dX3_bestStep_5 ?_
  refine z_istore C (by decide) rfl dX3_bestStep_6 ?_
  refine z_lst (ps := [3, 4, 5, 2, 1, 0]) (lv' := [(0, .ref t0), (1, .int (qI x1)), (2, .int (qI x2)), (3, .int (qI (-1 : Int))), (4, .int (qI (0 : Int))), (5, .int (qI (0 : Int)))]) (st' := []) rfl rfl ?_
  obtain ⟨n8, hw⟩ := hw
  exact hB8 x1 x2 n8 (-1 : Int) (0 : Int) (0 : Int) hw
def wp_X3_leastFrom_22 (Φ : Int → Prop)  (k0 : Int) : Prop := Φ k0
def wp_X3_leastFrom (x1 : Int) (x2 : Int) (tz : Int) (sp : Nat → Int) (rs : Nat → Int) (Φ : Int → Prop) : Prop := wp_X3_bestStep x1 x2 tz sp rs (fun (r1 : Int) => (qR r1 ∧ ((0 : Int) ≤ r1 → wp_X3_travelBy x1 x2 r1 sp rs (fun (r3 : Int) => wp_X3_leastFrom_22 Φ  r3)) ∧ (¬ ((0 : Int) ≤ r1) → wp_X3_leastFrom_22 Φ  (0 : Int))))
set_option maxHeartbeats 4000000 in
set_option maxRecDepth 100000 in
theorem c_X3_leastFrom (l : Launch) (D : va_G) (E : Nat → ClassId) (t0 t1 t2 t3 : Nat) (pn : Int64) (tz : Int) (ts : Int) (sp : Nat → Int) (rs : Nat → Int) (so : Nat → Int) (x1 : Int) (x2 : Int) {Φ : Int → Prop} (hw : wp_X3_leastFrom x1 x2 tz sp rs Φ) : qRO l D E qF0 yX3_leastFrom wsX3_leastFrom 4 91 [(t0, .inr (3, [.long pn, .ref t1, .int (qI tz), .ref t2, .ref t3, .int (qI ts)])), (t1, qA (E 0) 12 sp), (t2, qA (E 0) 49152 rs), (t3, qA (E 0) 12 so)] [.ref t0, .int (qI x1), .int (qI x2)] qeI (fun r => Φ r) := by
  refine qRO_int (nL := 4) (own := RX3) qF0_ok (by decide) rfl rfl (Nat.le_of_ble_eq_true rfl) (fun X C hend => ?_)
  have hB22 : ∀ k0 : Int, wp_X3_leastFrom_22 Φ  k0 → qZ X 0 0 [(t0, .inr (3, [.long pn, .ref t1, .int (qI tz), .ref t2, .ref t3, .int (qI ts)])), (t1, qA (E 0) 12 sp), (t2, qA (E 0) 49152 rs), (t3, qA (E 0) 12 so)] 22 [] [.int (qI k0)] := by
    intro k0 hw
    unfold wp_X3_leastFrom_22 at hw
    exact hend 22 _ k0 dX3_leastFrom_22 hw
  unfold wp_X3_leastFrom at hw
  show qZ X 0 0 [(t0, .inr (3, [.long pn, .ref t1, .int (qI tz), .ref t2, .ref t3, .int (qI ts)])), (t1, qA (E 0) 12 sp), (t2, qA (E 0) 49152 rs), (t3, qA (E 0) 12 so)] 0 [(0, .ref t0), (1, .int (qI x1)), (2, .int (qI x2))] []
  refine z_aload_n C 0 rfl rfl dX3_leastFrom_0 ?_
  refine z_iload_n C 1 rfl rfl dX3_leastFrom_1 ?_
  refine z_iload_n C 2 rfl rfl dX3_leastFrom_2 ?_
  refine z_callV (n := 2) C (c_X3_bestStep l D E t0 t1 t2 t3 pn tz ts sp rs so x1 x2 hw) qF0_ok (fun _ _ _ => trivial) gX3_leastFrom_X3_bestStep rfl (by decide +kernel) ⟨(Nat.le_of_ble_eq_true rfl), (Nat.le_of_ble_eq_true rfl)⟩ rfl 0 rfl rfl [0, 1, 2, 3] rfl rfl (Nat.le_of_ble_eq_true rfl) dX3_leastFrom_3 (fun r1 hw => ?_)
  show qZ X 0 0 [(t0, .inr (3, [.long pn, .ref t1, .int (qI tz), .ref t2, .ref t3, .int (qI ts)])), (t1, qA (E 0) 12 sp), (t2, qA (E 0) 49152 rs), (t3, qA (E 0) 12 so)] _ _ [.int (qI r1)]
  refine z_istore_n C rfl (by decide) rfl dX3_leastFrom_6 ?_
  refine z_iload_n C 0 rfl rfl dX3_leastFrom_7 ?_
  refine z_if_ge (tgt := 15) C hw.1 (by decide) dX3_leastFrom_8 (fun c2 => ?_) (fun c2 => ?_)
  · replace hw := hw.2.1 c2
    refine z_aload_n C 1 rfl rfl dX3_leastFrom_15 ?_
    refine z_iload_n C 2 rfl rfl dX3_leastFrom_16 ?_
    refine z_iload_n C 3 rfl rfl dX3_leastFrom_17 ?_
    refine z_iload_n C 0 rfl rfl dX3_leastFrom_18 ?_
    refine z_callV (n := 3) C (c_X3_travelBy l D E t0 t1 t2 t3 pn tz ts sp rs so x1 x2 r1 hw) qF0_ok (fun _ _ _ => trivial) gX3_leastFrom_X3_travelBy rfl (by decide +kernel) ⟨(Nat.le_of_ble_eq_true rfl), (Nat.le_of_ble_eq_true rfl)⟩ rfl 0 rfl rfl [0, 1, 2, 3] rfl rfl (Nat.le_of_ble_eq_true rfl) dX3_leastFrom_19 (fun r3 hw => ?_)
    show qZ X 0 0 [(t0, .inr (3, [.long pn, .ref t1, .int (qI tz), .ref t2, .ref t3, .int (qI ts)])), (t1, qA (E 0) 12 sp), (t2, qA (E 0) 49152 rs), (t3, qA (E 0) 12 so)] _ _ [.int (qI r3)]
    refine z_lst (ps := []) (lv' := []) (st' := [.int (qI r3)]) rfl rfl ?_
    exact hB22 r3 hw
  · replace hw := hw.2.2 c2
    refine z_iconst C dX3_leastFrom_11 ?_
    refine z_goto (tgt := 22) C (by decide) dX3_leastFrom_12 ?_
    refine z_lst (ps := []) (lv' := []) (st' := [.int (qI (0 : Int))]) rfl rfl ?_
    exact hB22 (0 : Int) hw
def wp_X3_fillRest_52 (Φ : (Nat → Int) → Prop) (K2 : Int → (Nat → Int) → Prop) (K14 : Int → (Nat → Int) → Prop) (x1 : Int) (x2 : Int) (tz : Int) (sp : Nat → Int) (rs : Nat → Int) : Prop := (∀ v1 : Int, v1 = x2 + (1 : Int) → K14 v1 rs)
def wp_X3_fillRest_14 (Φ : (Nat → Int) → Prop) (K2 : Int → (Nat → Int) → Prop) (x1 : Int) (tz : Int) (sp : Nat → Int) : Nat → Int → (Nat → Int) → Prop
  | 0, _, _ => False
  | n9 + 1, x2, rs => ((qR x2 ∧ qR tz) ∧ (tz ≤ x2 → (∀ v3 : Int, v3 = x1 + (1 : Int) → K2 v3 rs)) ∧ (¬ (tz ≤ x2) → (∀ v4 : Int, v4 = qshr x1 x2 → (∀ v5 : Int, v5 = qand v4 (1 : Int) → (qR v5 ∧ (¬ v5 = (0 : Int) → wp_X3_fillRest_52 Φ K2 (wp_X3_fillRest_14 Φ K2 x1 tz sp n9) x1 x2 tz sp rs) ∧ (¬ (¬ v5 = (0 : Int)) → ((0 ≤ x2 ∧ x2 < 12) ∧ (∀ v7 : Int, v7 = sp (x2).toNat → wp_X3_leastFrom x1 v7 tz sp rs (fun (r8 : Int) => ((0 ≤ ((x1 * (12 : Int)) + x2) ∧ ((x1 * (12 : Int)) + x2) < 49152) ∧ ∀ g9 : Nat → Int, g9 = qU rs (((x1 * (12 : Int)) + x2)).toNat r8 → wp_X3_fillRest_52 Φ K2 (wp_X3_fillRest_14 Φ K2 x1 tz sp n9) x1 x2 tz sp g9))))))))))
def wp_X3_fillRest_2 (Φ : (Nat → Int) → Prop)  (tz : Int) (sp : Nat → Int) : Nat → Int → (Nat → Int) → Prop
  | 0, _, _ => False
  | n9 + 1, x1, rs => (∀ v10 : Int, v10 = qshl (1 : Int) tz → ((qR x1 ∧ qR v10) ∧ (v10 ≤ x1 → Φ rs) ∧ (¬ (v10 ≤ x1) → ∃ n : Nat, wp_X3_fillRest_14 Φ (wp_X3_fillRest_2 Φ  tz sp n9) x1 tz sp n (0 : Int) rs)))
def wp_X3_fillRest  (tz : Int) (sp : Nat → Int) (rs : Nat → Int) (Φ : (Nat → Int) → Prop) : Prop := ∃ n : Nat, wp_X3_fillRest_2 Φ  tz sp n (0 : Int) rs
theorem iX3_fillRest_X3 : ∀ w ∈ wsX30, w ∈ wsX3_fillRest := fun w h => List.mem_cons_of_mem _ (List.mem_append_right _ (h))
set_option maxHeartbeats 4000000 in
set_option maxRecDepth 100000 in
theorem c_X3_fillRest (l : Launch) (D : va_G) (E : Nat → ClassId) (t0 t1 t2 t3 : Nat) (pn : Int64) (tz : Int) (ts : Int) (sp : Nat → Int) (rs : Nat → Int) (so : Nat → Int)  {Φ : (Nat → Int) → Prop} (hw : wp_X3_fillRest  tz sp rs Φ) : qRW (σ := (Nat → Int)) l D E qF0 yX3_fillRest wsX3_fillRest 5 114 [(t0, .inr (3, [.long pn, .ref t1, .int (qI tz), .ref t2, .ref t3, .int (qI ts)])), (t1, qA (E 0) 12 sp), (t2, qA (E 0) 49152 rs), (t3, qA (E 0) 12 so)] [.ref t0] qeV (fun u => [(t0, .inr (3, [.long pn, .ref t1, .int (qI tz), .ref t2, .ref t3, .int (qI ts)])), (t1, qA (E 0) 12 sp), (t2, qA (E 0) 49152 u), (t3, qA (E 0) 12 so)]) (fun r u => Φ u) := by
  refine qRW_void (nL := 3) (own := RX3) qF0_ok (by decide) rfl rfl (Nat.le_of_ble_eq_true rfl) (fun X C hend => ?_)
  have hB52 : ∀ K2 : Int → (Nat → Int) → Prop, (∀ (x1 : Int) (rs : Nat → Int), K2 x1 rs → qZ X 0 0 [(t0, .inr (3, [.long pn, .ref t1, .int (qI tz), .ref t2, .ref t3, .int (qI ts)])), (t1, qA (E 0) 12 sp), (t2, qA (E 0) 49152 rs), (t3, qA (E 0) 12 so)] 2 [(0, .ref t0), (1, .int (qI x1))] []) → ∀ x1 : Int, ∀ K14 : Int → (Nat → Int) → Prop, (∀ (x2 : Int) (rs : Nat → Int), K14 x2 rs → qZ X 0 0 [(t0, .inr (3, [.long pn, .ref t1, .int (qI tz), .ref t2, .ref t3, .int (qI ts)])), (t1, qA (E 0) 12 sp), (t2, qA (E 0) 49152 rs), (t3, qA (E 0) 12 so)] 14 [(0, .ref t0), (1, .int (qI x1)), (2, .int (qI x2))] []) → ∀ x2 : Int, ∀ rs : Nat → Int, wp_X3_fillRest_52 Φ K2 K14 x1 x2 tz sp rs → qZ X 0 0 [(t0, .inr (3, [.long pn, .ref t1, .int (qI tz), .ref t2, .ref t3, .int (qI ts)])), (t1, qA (E 0) 12 sp), (t2, qA (E 0) 49152 rs), (t3, qA (E 0) 12 so)] 52 [(0, .ref t0), (1, .int (qI x1)), (2, .int (qI x2))] [] := by
    intro K2 hK2 x1 K14 hK14 x2 rs hw
    unfold wp_X3_fillRest_52 at hw
    obtain ⟨v1, ev1⟩ : ∃ v1 : Int, v1 = x2 + (1 : Int) := ⟨_, rfl⟩
    replace hw := hw v1 ev1
    refine z_iinc C 2 rfl (by decide) v1 ev1 rfl dX3_fillRest_52 ?_
    refine z_goto (tgt := 14) C (by decide) dX3_fillRest_55 ?_
    refine z_lst (ps := [1, 2, 0]) (lv' := [(0, .ref t0), (1, .int (qI x1)), (2, .int (qI v1))]) (st' := []) rfl rfl ?_
    exact hK14 v1 rs hw
  have hB14 : ∀ K2 : Int → (Nat → Int) → Prop, (∀ (x1 : Int) (rs : Nat → Int), K2 x1 rs → qZ X 0 0 [(t0, .inr (3, [.long pn, .ref t1, .int (qI tz), .ref t2, .ref t3, .int (qI ts)])), (t1, qA (E 0) 12 sp), (t2, qA (E 0) 49152 rs), (t3, qA (E 0) 12 so)] 2 [(0, .ref t0), (1, .int (qI x1))] []) → ∀ x1 : Int, ∀ n8 : Nat, ∀ x2 : Int, ∀ rs : Nat → Int, wp_X3_fillRest_14 Φ K2 x1 tz sp n8 x2 rs → qZ X 0 0 [(t0, .inr (3, [.long pn, .ref t1, .int (qI tz), .ref t2, .ref t3, .int (qI ts)])), (t1, qA (E 0) 12 sp), (t2, qA (E 0) 49152 rs), (t3, qA (E 0) 12 so)] 14 [(0, .ref t0), (1, .int (qI x1)), (2, .int (qI x2))] [] := by
    intro K2 hK2 x1 n8
    induction n8 with
    | zero =>
      intro x2 rs hw
      exact hw.elim
    | succ n9 ih =>
      intro x2 rs hw
      unfold wp_X3_fillRest_14 at hw
      refine z_iload_n C 2 rfl rfl dX3_fillRest_14 ?_
      refine z_aload_n C 0 rfl rfl dX3_fillRest_15 ?_
      refine z_get C iX3_fillRest_X3 0 rfl rfl 2 (by decide) (List.mem_of_getElem? (i := 1) rfl) rfl rfl dX3_fillRest_16 ?_
      refine z_icmp_ge (tgt := 58) C hw.1 (by decide) dX3_fillRest_19 (fun c2 => ?_) (fun c2 => ?_)
      · replace hw := hw.2.1 c2
        obtain ⟨v3, ev3⟩ : ∃ v3 : Int, v3 = x1 + (1 : Int) := ⟨_, rfl⟩
        replace hw := hw v3 ev3
        refine z_iinc C 1 rfl (by decide) v3 ev3 rfl dX3_fillRest_58 ?_
        refine z_goto (tgt := 2) C (by decide) dX3_fillRest_61 ?_
        refine z_lst (ps := [1, 0]) (lv' := [(0, .ref t0), (1, .int (qI v3))]) (st' := []) rfl rfl ?_
        exact hK2 v3 rs hw
      · replace hw := hw.2.2 c2
        refine z_iload_n C 1 rfl rfl dX3_fillRest_22 ?_
        refine z_iload_n C 2 rfl rfl dX3_fillRest_23 ?_
        refine z_ishr C dX3_fillRest_24 ?_
        refine z_name (fun v4 ev4 => ?_)
        replace hw := hw v4 ev4
        refine z_iconst C dX3_fillRest_25 ?_
        refine z_iand C dX3_fillRest_26 ?_
        refine z_name (fun v5 ev5 => ?_)
        replace hw := hw v5 ev5
        refine z_if_ne (tgt := 52) C hw.1 (by decide) dX3_fillRest_27 (fun c6 => ?_) (fun c6 => ?_)
        · replace hw := hw.2.1 c6
          refine z_lst (ps := [0, 1, 2]) (lv' := [(0, .ref t0), (1, .int (qI x1)), (2, .int (qI x2))]) (st' := []) rfl rfl ?_
          exact hB52 _ hK2 x1 _ ih x2 rs hw
        · replace hw := hw.2.2 c6
          refine z_aload_n C 0 rfl rfl dX3_fillRest_30 ?_
          refine z_get C iX3_fillRest_X3 0 rfl rfl 3 (by decide) (List.mem_of_getElem? (i := 2) rfl) rfl rfl dX3_fillRest_31 ?_
          refine z_iload_n C 1 rfl rfl dX3_fillRest_34 ?_
          refine z_bipush C (by decide +kernel) dX3_fillRest_35 ?_
          refine z_imul C dX3_fillRest_37 ?_
          refine z_iload_n C 2 rfl rfl dX3_fillRest_38 ?_
          refine z_iadd C dX3_fillRest_39 ?_
          refine z_aload_n C 0 rfl rfl dX3_fillRest_40 ?_
          refine z_iload_n C 1 rfl rfl dX3_fillRest_41 ?_
          refine z_aload_n C 0 rfl rfl dX3_fillRest_42 ?_
          refine z_get C iX3_fillRest_X3 0 rfl rfl 1 (by decide) (List.mem_of_getElem? (i := 3) rfl) rfl rfl dX3_fillRest_43 ?_
          refine z_iload_n C 2 rfl rfl dX3_fillRest_46 ?_
          refine z_iald C 1 rfl (by decide) hw.1 dX3_fillRest_47 ?_
          replace hw := hw.2
          refine z_name (fun v7 ev7 => ?_)
          replace hw := hw v7 ev7
          refine z_callV (n := 2) C (c_X3_leastFrom l D E t0 t1 t2 t3 pn tz ts sp rs so x1 v7 hw) qF0_ok (fun _ _ _ => trivial) gX3_fillRest_X3_leastFrom rfl (by decide +kernel) ⟨(Nat.le_of_ble_eq_true rfl), (Nat.le_of_ble_eq_true rfl)⟩ rfl 0 rfl rfl [0, 1, 2, 3] rfl rfl (Nat.le_of_ble_eq_true rfl) dX3_fillRest_48 (fun r8 hw => ?_)
          show qZ X 0 0 [(t0, .inr (3, [.long pn, .ref t1, .int (qI tz), .ref t2, .ref t3, .int (qI ts)])), (t1, qA (E 0) 12 sp), (t2, qA (E 0) 49152 rs), (t3, qA (E 0) 12 so)] _ _ [.int (qI r8), .int (qI ((x1 * (12 : Int)) + x2)), .ref t2]
          refine z_iast C 2 rfl (by decide) hw.1 (fun g9 => [(t0, .inr (3, [.long pn, .ref t1, .int (qI tz), .ref t2, .ref t3, .int (qI ts)])), (t1, qA (E 0) 12 sp), (t2, qA (E 0) 49152 g9), (t3, qA (E 0) 12 so)]) (fun _ => rfl) dX3_fillRest_51 (fun g9 eg9 => ?_)
          replace hw := hw.2 g9 eg9
          refine z_lst (ps := [0, 1, 2]) (lv' := [(0, .ref t0), (1, .int (qI x1)), (2, .int (qI x2))]) (st' := []) rfl rfl ?_
          exact hB52 _ hK2 x1 _ ih x2 g9 hw
  have hB2 : ∀ n8 : Nat, ∀ x1 : Int, ∀ rs : Nat → Int, wp_X3_fillRest_2 Φ  tz sp n8 x1 rs → qZ X 0 0 [(t0, .inr (3, [.long pn, .ref t1, .int (qI tz), .ref t2, .ref t3, .int (qI ts)])), (t1, qA (E 0) 12 sp), (t2, qA (E 0) 49152 rs), (t3, qA (E 0) 12 so)] 2 [(0, .ref t0), (1, .int (qI x1))] [] := by
    intro n8
    induction n8 with
    | zero =>
      intro x1 rs hw
      exact hw.elim
    | succ n9 ih =>
      intro x1 rs hw
      unfold wp_X3_fillRest_2 at hw
      refine z_iload_n C 1 rfl rfl dX3_fillRest_2 ?_
      refine z_iconst C dX3_fillRest_3 ?_
      refine z_aload_n C 0 rfl rfl dX3_fillRest_4 ?_
      refine z_get C iX3_fillRest_X3 0 rfl rfl 2 (by decide) (List.mem_of_getElem? (i := 1) rfl) rfl rfl dX3_fillRest_5 ?_
      refine z_ishl C dX3_fillRest_8 ?_
      refine z_name (fun v10 ev10 => ?_)
      replace hw := hw v10 ev10
      refine z_icmp_ge (tgt := 64) C hw.1 (by decide) dX3_fillRest_9 (fun c11 => ?_) (fun c11 => ?_)
      · replace hw := hw.2.1 c11
        exact hend 64 _ () rs dX3_fillRest_64 hw
      · replace hw := hw.2.2 c11
        refine z_iconst C dX3_fillRest_12 ?_
        refine z_istore_n C rfl (by decide) rfl dX3_fillRest_13 ?_
        refine z_lst (ps := [1, 2, 0]) (lv' := [(0, .ref t0), (1, .int (qI x1)), (2, .int (qI (0 : Int)))]) (st' := []) rfl rfl ?_
        obtain ⟨n8, hw⟩ := hw
        exact hB14 _ ih x1 n8 (0 : Int) rs hw
  unfold wp_X3_fillRest at hw
  show qZ X 0 0 [(t0, .inr (3, [.long pn, .ref t1, .int (qI tz), .ref t2, .ref t3, .int (qI ts)])), (t1, qA (E 0) 12 sp), (t2, qA (E 0) 49152 rs), (t3, qA (E 0) 12 so)] 0 [(0, .ref t0)] []
  refine z_iconst C dX3_fillRest_0 ?_
  refine z_istore_n C rfl (by decide) rfl dX3_fillRest_1 ?_
  refine z_lst (ps := [1, 0]) (lv' := [(0, .ref t0), (1, .int (qI (0 : Int)))]) (st' := []) rfl rfl ?_
  obtain ⟨n8, hw⟩ := hw
  exact hB2 n8 (0 : Int) rs hw
def wp_X3_follow_18 (Φ : Int → (Nat → Int) → Prop)  (tz : Int) (sp : Nat → Int) (rs : Nat → Int) : Nat → Int → Int → Int → Int → (Nat → Int) → Prop
  | 0, _, _, _, _, _ => False
  | n9 + 1, x1, x2, x3, ts, so => ((qR x3 ∧ qR tz) ∧ (tz ≤ x3 → Φ ts so) ∧ (¬ (tz ≤ x3) → wp_X3_bestStep x2 x1 tz sp rs (fun (r2 : Int) => (qR r2 ∧ ((0 : Int) ≤ r2 → ((0 ≤ r2 ∧ r2 < 12) ∧ (∀ v4 : Int, v4 = sp (r2).toNat → ((0 ≤ x3 ∧ x3 < 12) ∧ ∀ g5 : Nat → Int, g5 = qU so (x3).toNat v4 → ((0 ≤ r2 ∧ r2 < 12) ∧ (∀ v6 : Int, v6 = sp (r2).toNat → wp_X4_way x1 v6 (fun (r7 : Int) => (∀ v8 : Int, v8 = (ts + r7) → ((0 ≤ r2 ∧ r2 < 12) ∧ (∀ v9 : Int, v9 = sp (r2).toNat → (∀ v10 : Int, v10 = qshl (1 : Int) r2 → (∀ v11 : Int, v11 = qxor v10 (-1 : Int) → (∀ v12 : Int, v12 = qand x2 v11 → (∀ v13 : Int, v13 = x3 + (1 : Int) → wp_X3_follow_18 Φ  tz sp rs n9 v9 v12 v13 v8 g5)))))))))))))) ∧ (¬ ((0 : Int) ≤ r2) → Φ ts so)))))
def wp_X3_follow  (tz : Int) (ts : Int) (sp : Nat → Int) (rs : Nat → Int) (so : Nat → Int) (Φ : Int → (Nat → Int) → Prop) : Prop := (∀ v14 : Int, v14 = qshl (1 : Int) tz → (∀ v15 : Int, v15 = (v14 - (1 : Int)) → ∃ n : Nat, wp_X3_follow_18 Φ  tz sp rs n (0 : Int) v15 (0 : Int) (0 : Int) so))
theorem iX3_follow_X3 : ∀ w ∈ wsX30, w ∈ wsX3_follow := fun w h => List.mem_cons_of_mem _ (List.mem_append_right _ (h))
set_option maxHeartbeats 4000000 in
set_option maxRecDepth 100000 in
theorem c_X3_follow (l : Launch) (D : va_G) (E : Nat → ClassId) (t0 t1 t2 t3 : Nat) (pn : Int64) (tz : Int) (ts : Int) (sp : Nat → Int) (rs : Nat → Int) (so : Nat → Int)  {Φ : Int → (Nat → Int) → Prop} (hw : wp_X3_follow  tz ts sp rs so Φ) : qRW (σ := (Int) × (Nat → Int)) l D E qF0 yX3_follow wsX3_follow 4 91 [(t0, .inr (3, [.long pn, .ref t1, .int (qI tz), .ref t2, .ref t3, .int (qI ts)])), (t1, qA (E 0) 12 sp), (t2, qA (E 0) 49152 rs), (t3, qA (E 0) 12 so)] [.ref t0] qeV (fun u => [(t0, .inr (3, [.long pn, .ref t1, .int (qI tz), .ref t2, .ref t3, .int (qI u.1)])), (t1, qA (E 0) 12 sp), (t2, qA (E 0) 49152 rs), (t3, qA (E 0) 12 u.2)]) (fun r u => Φ u.1 u.2) := by
  refine qRW_void (nL := 5) (own := RX3) qF0_ok (by decide) rfl rfl (Nat.le_of_ble_eq_true rfl) (fun X C hend => ?_)
  have hB18 : ∀ n8 : Nat, ∀ x1 : Int, ∀ x2 : Int, ∀ x3 : Int, ∀ ts : Int, ∀ so : Nat → Int, wp_X3_follow_18 Φ  tz sp rs n8 x1 x2 x3 ts so → qZ X 0 0 [(t0, .inr (3, [.long pn, .ref t1, .int (qI tz), .ref t2, .ref t3, .int (qI ts)])), (t1, qA (E 0) 12 sp), (t2, qA (E 0) 49152 rs), (t3, qA (E 0) 12 so)] 18 [(0, .ref t0), (1, .int (qI x1)), (2, .int (qI x2)), (3, .int (qI x3))] [] := by
    intro n8
    induction n8 with
    | zero =>
      intro x1 x2 x3 ts so hw
      exact hw.elim
    | succ n9 ih =>
      intro x1 x2 x3 ts so hw
      unfold wp_X3_follow_18 at hw
      refine z_iload_n C 3 rfl rfl dX3_follow_18 ?_
      refine z_aload_n C 0 rfl rfl dX3_follow_19 ?_
      refine z_get C iX3_follow_X3 0 rfl rfl 2 (by decide) (List.mem_of_getElem? (i := 2) rfl) rfl rfl dX3_follow_20 ?_
      refine z_icmp_ge (tgt := 96) C hw.1 (by decide) dX3_follow_23 (fun c1 => ?_) (fun c1 => ?_)
      · replace hw := hw.2.1 c1
        exact hend 96 _ () (ts, so) dX3_follow_96 hw
      · replace hw := hw.2.2 c1
        refine z_aload_n C 0 rfl rfl dX3_follow_26 ?_
        refine z_iload_n C 2 rfl rfl dX3_follow_27 ?_
        refine z_iload_n C 1 rfl rfl dX3_follow_28 ?_
        refine z_callV (n := 2) C (c_X3_bestStep l D E t0 t1 t2 t3 pn tz ts sp rs so x2 x1 hw) qF0_ok (fun _ _ _ => trivial) gX3_follow_X3_bestStep rfl (by decide +kernel) ⟨(Nat.le_of_ble_eq_true rfl), (Nat.le_of_ble_eq_true rfl)⟩ rfl 0 rfl rfl [0, 1, 2, 3] rfl rfl (Nat.le_of_ble_eq_true rfl) dX3_follow_29 (fun r2 hw => ?_)
        show qZ X 0 0 [(t0, .inr (3, [.long pn, .ref t1, .int (qI tz), .ref t2, .ref t3, .int (qI ts)])), (t1, qA (E 0) 12 sp), (t2, qA (E 0) 49152 rs), (t3, qA (E 0) 12 so)] _ _ [.int (qI r2)]
        refine z_istore C (by decide) rfl dX3_follow_32 ?_
        refine z_iload C 0 rfl dX3_follow_34 ?_
        refine z_if_ge (tgt := 40) C hw.1 (by decide) dX3_follow_36 (fun c3 => ?_) (fun c3 => ?_)
        · replace hw := hw.2.1 c3
          refine z_aload_n C 1 rfl rfl dX3_follow_40 ?_
          refine z_get C iX3_follow_X3 0 rfl rfl 4 (by decide) (List.mem_of_getElem? (i := 3) rfl) rfl rfl dX3_follow_41 ?_
          refine z_iload_n C 4 rfl rfl dX3_follow_44 ?_
          refine z_aload_n C 1 rfl rfl dX3_follow_45 ?_
          refine z_get C iX3_follow_X3 0 rfl rfl 1 (by decide) (List.mem_of_getElem? (i := 4) rfl) rfl rfl dX3_follow_46 ?_
          refine z_iload C 0 rfl dX3_follow_49 ?_
          refine z_iald C 1 rfl (by decide) hw.1 dX3_follow_51 ?_
          replace hw := hw.2
          refine z_name (fun v4 ev4 => ?_)
          replace hw := hw v4 ev4
          refine z_iast C 3 rfl (by decide) hw.1 (fun g5 => [(t0, .inr (3, [.long pn, .ref t1, .int (qI tz), .ref t2, .ref t3, .int (qI ts)])), (t1, qA (E 0) 12 sp), (t2, qA (E 0) 49152 rs), (t3, qA (E 0) 12 g5)]) (fun _ => rfl) dX3_follow_52 (fun g5 eg5 => ?_)
          replace hw := hw.2 g5 eg5
          refine z_aload_n C 1 rfl rfl dX3_follow_53 ?_
          refine z_dup C rfl dX3_follow_54 ?_
          refine z_get C iX3_follow_X3 0 rfl rfl 5 (by decide) (List.mem_of_getElem? (i := 1) rfl) rfl rfl dX3_follow_55 ?_
          refine z_iload_n C 2 rfl rfl dX3_follow_58 ?_
          refine z_aload_n C 1 rfl rfl dX3_follow_59 ?_
          refine z_get C iX3_follow_X3 0 rfl rfl 1 (by decide) (List.mem_of_getElem? (i := 4) rfl) rfl rfl dX3_follow_60 ?_
          refine z_iload C 0 rfl dX3_follow_63 ?_
          refine z_iald C 1 rfl (by decide) hw.1 dX3_follow_65 ?_
          replace hw := hw.2
          refine z_name (fun v6 ev6 => ?_)
          replace hw := hw v6 ev6
          refine z_callSN (n := 2) C (c_X4_way l D E   x1 v6 hw) qF0_ok (fun _ _ _ => trivial) gX3_follow_X4_way_n57 rfl (List.mem_of_getElem? (i := 15) rfl) (List.mem_of_getElem? (i := 16) rfl) (host := RX4) (by decide +kernel) (by decide +kernel) ⟨(Nat.le_of_ble_eq_true rfl), (Nat.le_of_ble_eq_true rfl)⟩ rfl [] rfl rfl (Nat.le_of_ble_eq_true rfl) dX3_follow_66 (fun r7 hw => ?_)
          show qZ X 0 0 [(t0, .inr (3, [.long pn, .ref t1, .int (qI tz), .ref t2, .ref t3, .int (qI ts)])), (t1, qA (E 0) 12 sp), (t2, qA (E 0) 49152 rs), (t3, qA (E 0) 12 g5)] _ _ [.int (qI r7), .int (qI ts), .ref t0]
          refine z_iadd C dX3_follow_69 ?_
          refine z_name (fun v8 ev8 => ?_)
          replace hw := hw v8 ev8
          refine z_put (ty := .int) (ws' := [(t0, .inr (3, [.long pn, .ref t1, .int (qI tz), .ref t2, .ref t3, .int (qI v8)])), (t1, qA (E 0) 12 sp), (t2, qA (E 0) 49152 rs), (t3, qA (E 0) 12 g5)]) C iX3_follow_X3 tyX3 tyX3_ok nmX3 0 rfl rfl 5 (by decide) (List.mem_of_getElem? (i := 1) rfl) rfl rfl (by decide +kernel) rfl rfl (Nat.le_of_ble_eq_true rfl) rfl dX3_follow_70 ?_
          refine z_aload_n C 1 rfl rfl dX3_follow_73 ?_
          refine z_get C iX3_follow_X3 0 rfl rfl 1 (by decide) (List.mem_of_getElem? (i := 4) rfl) rfl rfl dX3_follow_74 ?_
          refine z_iload C 0 rfl dX3_follow_77 ?_
          refine z_iald C 1 rfl (by decide) hw.1 dX3_follow_79 ?_
          replace hw := hw.2
          refine z_name (fun v9 ev9 => ?_)
          replace hw := hw v9 ev9
          refine z_istore_n C rfl (by decide) rfl dX3_follow_80 ?_
          refine z_iload_n C 3 rfl rfl dX3_follow_81 ?_
          refine z_iconst C dX3_follow_82 ?_
          refine z_iload C 1 rfl dX3_follow_83 ?_
          refine z_ishl C dX3_follow_85 ?_
          refine z_name (fun v10 ev10 => ?_)
          replace hw := hw v10 ev10
          refine z_iconst C dX3_follow_86 ?_
          refine z_ixor C dX3_follow_87 ?_
          refine z_name (fun v11 ev11 => ?_)
          replace hw := hw v11 ev11
          refine z_iand C dX3_follow_88 ?_
          refine z_name (fun v12 ev12 => ?_)
          replace hw := hw v12 ev12
          refine z_istore_n C rfl (by decide) rfl dX3_follow_89 ?_
          obtain ⟨v13, ev13⟩ : ∃ v13 : Int, v13 = x3 + (1 : Int) := ⟨_, rfl⟩
          replace hw := hw v13 ev13
          refine z_iinc C 4 rfl (by decide) v13 ev13 rfl dX3_follow_90 ?_
          refine z_goto (tgt := 18) C (by decide) dX3_follow_93 ?_
          refine z_lst (ps := [4, 2, 1, 0]) (lv' := [(0, .ref t0), (1, .int (qI v9)), (2, .int (qI v12)), (3, .int (qI v13))]) (st' := []) rfl rfl ?_
          exact ih v9 v12 v13 v8 g5 hw
        · replace hw := hw.2.2 c3
          exact hend 39 _ () (ts, so) dX3_follow_39 hw
  unfold wp_X3_follow at hw
  show qZ X 0 0 [(t0, .inr (3, [.long pn, .ref t1, .int (qI tz), .ref t2, .ref t3, .int (qI ts)])), (t1, qA (E 0) 12 sp), (t2, qA (E 0) 49152 rs), (t3, qA (E 0) 12 so)] 0 [(0, .ref t0)] []
  refine z_aload_n C 0 rfl rfl dX3_follow_0 ?_
  refine z_iconst C dX3_follow_1 ?_
  refine z_put (ty := .int) (ws' := [(t0, .inr (3, [.long pn, .ref t1, .int (qI tz), .ref t2, .ref t3, .int (qI (0 : Int))])), (t1, qA (E 0) 12 sp), (t2, qA (E 0) 49152 rs), (t3, qA (E 0) 12 so)]) C iX3_follow_X3 tyX3 tyX3_ok nmX3 0 rfl rfl 5 (by decide) (List.mem_of_getElem? (i := 1) rfl) rfl rfl (by decide +kernel) rfl rfl (Nat.le_of_ble_eq_true rfl) rfl dX3_follow_2 ?_
  refine z_iconst C dX3_follow_5 ?_
  refine z_istore_n C rfl (by decide) rfl dX3_follow_6 ?_
  refine z_iconst C dX3_follow_7 ?_
  refine z_aload_n C 1 rfl rfl dX3_follow_8 ?_
  refine z_get C iX3_follow_X3 0 rfl rfl 2 (by decide) (List.mem_of_getElem? (i := 2) rfl) rfl rfl dX3_follow_9 ?_
  refine z_ishl C dX3_follow_12 ?_
  refine z_name (fun v14 ev14 => ?_)
  replace hw := hw v14 ev14
  refine z_iconst C dX3_follow_13 ?_
  refine z_isub C dX3_follow_14 ?_
  refine z_name (fun v15 ev15 => ?_)
  replace hw := hw v15 ev15
  refine z_istore_n C rfl (by decide) rfl dX3_follow_15 ?_
  refine z_iconst C dX3_follow_16 ?_
  refine z_istore_n C rfl (by decide) rfl dX3_follow_17 ?_
  refine z_lst (ps := [3, 2, 1, 0]) (lv' := [(0, .ref t0), (1, .int (qI (0 : Int))), (2, .int (qI v15)), (3, .int (qI (0 : Int)))]) (st' := []) rfl rfl ?_
  obtain ⟨n8, hw⟩ := hw
  exact hB18 n8 (0 : Int) v15 (0 : Int) (0 : Int) so hw
def wp_X3_plan (x1 : Int64) (pn : Int64) (tz : Int) (ts : Int) (sp : Nat → Int) (rs : Nat → Int) (so : Nat → Int) (Φ : Int64 → Int → Int → (Nat → Int) → (Nat → Int) → (Nat → Int) → Prop) : Prop := (∀ v1 : Int, v1 = qlcmp x1 pn → (qR v1 ∧ (¬ v1 = (0 : Int) → wp_X3_listSpots x1 tz sp (fun (g4 : Int) (g5 : Nat → Int) => wp_X3_fillRest g4 g5 rs (fun (g7 : Nat → Int) => wp_X3_follow g4 ts g5 g7 so (fun (g9 : Int) (g10 : Nat → Int) => Φ x1 g4 g9 g5 g7 g10)))) ∧ (¬ (¬ v1 = (0 : Int)) → Φ pn tz ts sp rs so)))
theorem iX3_plan_X3 : ∀ w ∈ wsX30, w ∈ wsX3_plan := fun w h => List.mem_cons_of_mem _ (List.mem_append_right _ (h))
set_option maxHeartbeats 4000000 in
set_option maxRecDepth 100000 in
theorem c_X3_plan (l : Launch) (D : va_G) (E : Nat → ClassId) (t0 t1 t2 t3 : Nat) (pn : Int64) (tz : Int) (ts : Int) (sp : Nat → Int) (rs : Nat → Int) (so : Nat → Int) (x1 : Int64) {Φ : Int64 → Int → Int → (Nat → Int) → (Nat → Int) → (Nat → Int) → Prop} (hw : wp_X3_plan x1 pn tz ts sp rs so Φ) : qRW (σ := (Int64) × (Int) × (Int) × (Nat → Int) × (Nat → Int) × (Nat → Int)) l D E qF0 yX3_plan wsX3_plan 6 136 [(t0, .inr (3, [.long pn, .ref t1, .int (qI tz), .ref t2, .ref t3, .int (qI ts)])), (t1, qA (E 0) 12 sp), (t2, qA (E 0) 49152 rs), (t3, qA (E 0) 12 so)] [.ref t0, .long x1] qeV (fun u => [(t0, .inr (3, [.long u.1, .ref t1, .int (qI u.2.1), .ref t2, .ref t3, .int (qI u.2.2.1)])), (t1, qA (E 0) 12 u.2.2.2.1), (t2, qA (E 0) 49152 u.2.2.2.2.1), (t3, qA (E 0) 12 u.2.2.2.2.2)]) (fun r u => Φ u.1 u.2.1 u.2.2.1 u.2.2.2.1 u.2.2.2.2.1 u.2.2.2.2.2) := by
  refine qRW_void (nL := 3) (own := RX3) qF0_ok (by decide) rfl rfl (Nat.le_of_ble_eq_true rfl) (fun X C hend => ?_)
  unfold wp_X3_plan at hw
  show qZ X 0 0 [(t0, .inr (3, [.long pn, .ref t1, .int (qI tz), .ref t2, .ref t3, .int (qI ts)])), (t1, qA (E 0) 12 sp), (t2, qA (E 0) 49152 rs), (t3, qA (E 0) 12 so)] 0 [(0, .ref t0), (1, .long x1)] []
  refine z_lload_n C 1 rfl rfl dX3_plan_0 ?_
  refine z_aload_n C 0 rfl rfl dX3_plan_1 ?_
  refine z_get C iX3_plan_X3 0 rfl rfl 0 (by decide) (List.mem_of_getElem? (i := 1) rfl) rfl rfl dX3_plan_2 ?_
  refine z_lcmp C dX3_plan_5 ?_
  refine z_name (fun v1 ev1 => ?_)
  replace hw := hw v1 ev1
  refine z_if_ne (tgt := 10) C hw.1 (by decide) dX3_plan_6 (fun c2 => ?_) (fun c2 => ?_)
  · replace hw := hw.2.1 c2
    refine z_aload_n C 0 rfl rfl dX3_plan_10 ?_
    refine z_lload_n C 1 rfl rfl dX3_plan_11 ?_
    refine z_put (ty := .long) (ws' := [(t0, .inr (3, [.long x1, .ref t1, .int (qI tz), .ref t2, .ref t3, .int (qI ts)])), (t1, qA (E 0) 12 sp), (t2, qA (E 0) 49152 rs), (t3, qA (E 0) 12 so)]) C iX3_plan_X3 tyX3 tyX3_ok nmX3 0 rfl rfl 0 (by decide) (List.mem_of_getElem? (i := 1) rfl) rfl rfl (by decide +kernel) rfl rfl (Nat.le_of_ble_eq_true rfl) rfl dX3_plan_12 ?_
    refine z_aload_n C 0 rfl rfl dX3_plan_15 ?_
    refine z_callVW (n := 0) C (c_X3_listSpots l D E t0 t1 t2 t3 x1 tz ts sp rs so  hw) qF0_ok (fun _ _ _ => trivial) gX3_plan_X3_listSpots rfl (by decide +kernel) ⟨(Nat.le_of_ble_eq_true rfl), (Nat.le_of_ble_eq_true rfl)⟩ rfl 0 rfl rfl [0, 1, 2, 3] [] (wr := []) rfl rfl rfl rfl (by decide) [0, 1, 2, 3] rfl (fun u9 => [(t0, .inr (3, [.long x1, .ref t1, .int (qI u9.1), .ref t2, .ref t3, .int (qI ts)])), (t1, qA (E 0) 12 u9.2), (t2, qA (E 0) 49152 rs), (t3, qA (E 0) 12 so)]) (fun _ => rfl) rfl (Nat.le_of_ble_eq_true rfl) dX3_plan_16 (fun r3 u9 hw => ?_)
    obtain ⟨g4, g5⟩ := u9
    refine z_ws (ws' := [(t0, .inr (3, [.long x1, .ref t1, .int (qI g4), .ref t2, .ref t3, .int (qI ts)])), (t1, qA (E 0) 12 g5), (t2, qA (E 0) 49152 rs), (t3, qA (E 0) 12 so)]) rfl ?_
    try dsimp only at hw
    show qZ X 0 0 [(t0, .inr (3, [.long x1, .ref t1, .int (qI g4), .ref t2, .ref t3, .int (qI ts)])), (t1, qA (E 0) 12 g5), (t2, qA (E 0) 49152 rs), (t3, qA (E 0) 12 so)] _ _ []
    refine z_aload_n C 0 rfl rfl dX3_plan_19 ?_
    refine z_callVW (n := 0) C (c_X3_fillRest l D E t0 t1 t2 t3 x1 g4 ts g5 rs so  hw) qF0_ok (fun _ _ _ => trivial) gX3_plan_X3_fillRest rfl (by decide +kernel) ⟨(Nat.le_of_ble_eq_true rfl), (Nat.le_of_ble_eq_true rfl)⟩ rfl 0 rfl rfl [0, 1, 2, 3] [] (wr := []) rfl rfl rfl rfl (by decide) [0, 1, 2, 3] rfl (fun u9 => [(t0, .inr (3, [.long x1, .ref t1, .int (qI g4), .ref t2, .ref t3, .int (qI ts)])), (t1, qA (E 0) 12 g5), (t2, qA (E 0) 49152 u9), (t3, qA (E 0) 12 so)]) (fun _ => rfl) rfl (Nat.le_of_ble_eq_true rfl) dX3_plan_20 (fun r6 u9 hw => ?_)
    obtain ⟨g7, rfl⟩ : ∃ z, z = u9 := ⟨_, rfl⟩
    refine z_ws (ws' := [(t0, .inr (3, [.long x1, .ref t1, .int (qI g4), .ref t2, .ref t3, .int (qI ts)])), (t1, qA (E 0) 12 g5), (t2, qA (E 0) 49152 g7), (t3, qA (E 0) 12 so)]) rfl ?_
    try dsimp only at hw
    show qZ X 0 0 [(t0, .inr (3, [.long x1, .ref t1, .int (qI g4), .ref t2, .ref t3, .int (qI ts)])), (t1, qA (E 0) 12 g5), (t2, qA (E 0) 49152 g7), (t3, qA (E 0) 12 so)] _ _ []
    refine z_aload_n C 0 rfl rfl dX3_plan_23 ?_
    refine z_callVW (n := 0) C (c_X3_follow l D E t0 t1 t2 t3 x1 g4 ts g5 g7 so  hw) qF0_ok (fun _ _ _ => trivial) gX3_plan_X3_follow rfl (by decide +kernel) ⟨(Nat.le_of_ble_eq_true rfl), (Nat.le_of_ble_eq_true rfl)⟩ rfl 0 rfl rfl [0, 1, 2, 3] [] (wr := []) rfl rfl rfl rfl (by decide) [0, 1, 2, 3] rfl (fun u9 => [(t0, .inr (3, [.long x1, .ref t1, .int (qI g4), .ref t2, .ref t3, .int (qI u9.1)])), (t1, qA (E 0) 12 g5), (t2, qA (E 0) 49152 g7), (t3, qA (E 0) 12 u9.2)]) (fun _ => rfl) rfl (Nat.le_of_ble_eq_true rfl) dX3_plan_24 (fun r8 u9 hw => ?_)
    obtain ⟨g9, g10⟩ := u9
    refine z_ws (ws' := [(t0, .inr (3, [.long x1, .ref t1, .int (qI g4), .ref t2, .ref t3, .int (qI g9)])), (t1, qA (E 0) 12 g5), (t2, qA (E 0) 49152 g7), (t3, qA (E 0) 12 g10)]) rfl ?_
    try dsimp only at hw
    show qZ X 0 0 [(t0, .inr (3, [.long x1, .ref t1, .int (qI g4), .ref t2, .ref t3, .int (qI g9)])), (t1, qA (E 0) 12 g5), (t2, qA (E 0) 49152 g7), (t3, qA (E 0) 12 g10)] _ _ []
    exact hend 27 _ () (x1, g4, g9, g5, g7, g10) dX3_plan_27 hw
  · replace hw := hw.2.2 c2
    exact hend 9 _ () (pn, tz, ts, sp, rs, so) dX3_plan_9 hw
