def wp_X5_set_29 (Φ : Int → Int → Int → (Nat → Int) → (Nat → Int) → Prop)  (th : Int) (sm : Int) (ms : Nat → Int) (mv : Nat → Int) : Prop := Φ (-1 : Int) th sm ms mv
def wp_X5_set (x1 : Int) (x2 : Int) (th : Int) (sm : Int) (ms : Nat → Int) (mv : Nat → Int) (Φ : Int → Int → Int → (Nat → Int) → (Nat → Int) → Prop) : Prop := wp_X5_in x1 (0 : Int) (5 : Int) (fun (r1 : Int) => (qR r1 ∧ (r1 = (0 : Int) → wp_X5_set_29 Φ  (0 : Int) sm ms mv) ∧ (¬ (r1 = (0 : Int)) → wp_X5_leastOf x1 (fun (r3 : Int) => wp_X5_mostOf x1 (fun (r4 : Int) => wp_X5_in x2 r3 r4 (fun (r5 : Int) => (qR r5 ∧ (¬ r5 = (0 : Int) → wp_X5_act sm ms mv (fun (g8 : Int) (g9 : Nat → Int) => ((0 ≤ ((0 : Int) + x1) ∧ ((0 : Int) + x1) < 635) ∧ (∀ v10 : Int, v10 = ms (((0 : Int) + x1)).toNat → ((0 ≤ ((0 : Int) + x1) ∧ ((0 : Int) + x1) < 635) ∧ ∀ g11 : Nat → Int, g11 = qU ms (((0 : Int) + x1)).toNat x2 → Φ v10 (0 : Int) g8 g11 g9))))) ∧ (¬ (¬ r5 = (0 : Int)) → wp_X5_set_29 Φ  (0 : Int) sm ms mv))))))))
theorem iX5_set_X5 : ∀ w ∈ wsX50, w ∈ wsX5_set := fun w h => List.mem_cons_of_mem _ (List.mem_append_right _ (h))
set_option maxHeartbeats 4000000 in
set_option maxRecDepth 100000 in
theorem c_X5_set (l : Launch) (D : va_G) (E : Nat → ClassId) (m0 m1 m2 m3 m4 m5 m6 m7 : Nat) (th : Int) (sm : Int) (le : Int) (tk : Int) (fr : Int) (ti : Int) (fa : Int) (ms : Nat → Int) (ma : Nat → Int) (mv : Nat → Int) (mt : Nat → Int) (mn : Nat → Int) (ml : Nat → Int) (mr : Nat → Int) (x1 : Int) (x2 : Int) {Φ : Int → Int → Int → (Nat → Int) → (Nat → Int) → Prop} (hw : wp_X5_set x1 x2 th sm ms mv Φ) : qRW (σ := (Int) × (Int) × (Nat → Int) × (Nat → Int)) l D E qF0 yX5_set wsX5_set 1 22 [(m0, .inr (5, [.int (qI th), .ref m1, .ref m2, .ref m3, .int (qI sm), .ref m4, .int (qI le), .ref m5, .ref m6, .ref m7, .int (qI tk), .int (qI fr), .int (qI ti), .int (qI fa)])), (m1, qA (E 0) 635 ms), (m2, qA (E 0) 635 ma), (m3, qA (E 0) 3175 mv), (m4, qA (E 0) 140 mt), (m5, qA (E 0) 2 mn), (m6, qA (E 0) 64 ml), (m7, qA (E 0) 49152 mr)] [.ref m0, .int (qI x1), .int (qI x2)] qeI (fun u => [(m0, .inr (5, [.int (qI u.1), .ref m1, .ref m2, .ref m3, .int (qI u.2.1), .ref m4, .int (qI le), .ref m5, .ref m6, .ref m7, .int (qI tk), .int (qI fr), .int (qI ti), .int (qI fa)])), (m1, qA (E 0) 635 u.2.2.1), (m2, qA (E 0) 635 ma), (m3, qA (E 0) 3175 u.2.2.2), (m4, qA (E 0) 140 mt), (m5, qA (E 0) 2 mn), (m6, qA (E 0) 64 ml), (m7, qA (E 0) 49152 mr)]) (fun r u => Φ r u.1 u.2.1 u.2.2.1 u.2.2.2) := by
  refine qRW_int (nL := 4) (own := RX5) qF0_ok (by decide) rfl rfl (Nat.le_of_ble_eq_true rfl) (fun X C hend => ?_)
  have hB29 : ∀ th : Int, ∀ sm : Int, ∀ ms : Nat → Int, ∀ mv : Nat → Int, wp_X5_set_29 Φ  th sm ms mv → qZ X 0 0 [(m0, .inr (5, [.int (qI th), .ref m1, .ref m2, .ref m3, .int (qI sm), .ref m4, .int (qI le), .ref m5, .ref m6, .ref m7, .int (qI tk), .int (qI fr), .int (qI ti), .int (qI fa)])), (m1, qA (E 0) 635 ms), (m2, qA (E 0) 635 ma), (m3, qA (E 0) 3175 mv), (m4, qA (E 0) 140 mt), (m5, qA (E 0) 2 mn), (m6, qA (E 0) 64 ml), (m7, qA (E 0) 49152 mr)] 29 [] [] := by
    intro th sm ms mv hw
    unfold wp_X5_set_29 at hw
    refine z_iconst C dX5_set_29 ?_
    exact hend 30 _ (-1 : Int) (th, sm, ms, mv) dX5_set_30 hw
  unfold wp_X5_set at hw
  show qZ X 0 0 [(m0, .inr (5, [.int (qI th), .ref m1, .ref m2, .ref m3, .int (qI sm), .ref m4, .int (qI le), .ref m5, .ref m6, .ref m7, .int (qI tk), .int (qI fr), .int (qI ti), .int (qI fa)])), (m1, qA (E 0) 635 ms), (m2, qA (E 0) 635 ma), (m3, qA (E 0) 3175 mv), (m4, qA (E 0) 140 mt), (m5, qA (E 0) 2 mn), (m6, qA (E 0) 64 ml), (m7, qA (E 0) 49152 mr)] 0 [(0, .ref m0), (1, .int (qI x1)), (2, .int (qI x2))] []
  refine z_aload_n C 0 rfl rfl dX5_set_0 ?_
  refine z_iconst C dX5_set_1 ?_
  refine z_put (ty := .int) (ws' := [(m0, .inr (5, [.int (qI (0 : Int)), .ref m1, .ref m2, .ref m3, .int (qI sm), .ref m4, .int (qI le), .ref m5, .ref m6, .ref m7, .int (qI tk), .int (qI fr), .int (qI ti), .int (qI fa)])), (m1, qA (E 0) 635 ms), (m2, qA (E 0) 635 ma), (m3, qA (E 0) 3175 mv), (m4, qA (E 0) 140 mt), (m5, qA (E 0) 2 mn), (m6, qA (E 0) 64 ml), (m7, qA (E 0) 49152 mr)]) C iX5_set_X5 tyX5 tyX5_ok nmX5 0 rfl rfl 0 (by decide) (List.mem_of_getElem? (i := 1) rfl) rfl rfl (by decide +kernel) rfl rfl (Nat.le_of_ble_eq_true rfl) rfl dX5_set_2 ?_
  refine z_iload_n C 1 rfl rfl dX5_set_5 ?_
  refine z_iconst C dX5_set_6 ?_
  refine z_iconst C dX5_set_7 ?_
  refine z_callS (n := 3) C (c_X5_in l D E   x1 (0 : Int) (5 : Int) hw) qF0_ok (fun _ _ _ => trivial) gX5_set_X5_in rfl (by decide +kernel) ⟨(Nat.le_of_ble_eq_true rfl), (Nat.le_of_ble_eq_true rfl)⟩ rfl [] rfl rfl (Nat.le_of_ble_eq_true rfl) dX5_set_8 (fun r1 hw => ?_)
  show qZ X 0 0 [(m0, .inr (5, [.int (qI (0 : Int)), .ref m1, .ref m2, .ref m3, .int (qI sm), .ref m4, .int (qI le), .ref m5, .ref m6, .ref m7, .int (qI tk), .int (qI fr), .int (qI ti), .int (qI fa)])), (m1, qA (E 0) 635 ms), (m2, qA (E 0) 635 ma), (m3, qA (E 0) 3175 mv), (m4, qA (E 0) 140 mt), (m5, qA (E 0) 2 mn), (m6, qA (E 0) 64 ml), (m7, qA (E 0) 49152 mr)] _ _ [.int (qI r1)]
  refine z_if_eq (tgt := 29) C hw.1 (by decide) dX5_set_11 (fun c2 => ?_) (fun c2 => ?_)
  · replace hw := hw.2.1 c2
    refine z_lst (ps := []) (lv' := []) (st' := []) rfl rfl ?_
    exact hB29 (0 : Int) sm ms mv hw
  · replace hw := hw.2.2 c2
    refine z_iload_n C 2 rfl rfl dX5_set_14 ?_
    refine z_iload_n C 1 rfl rfl dX5_set_15 ?_
    refine z_callS (n := 1) C (c_X5_leastOf l D E   x1 hw) qF0_ok (fun _ _ _ => trivial) gX5_set_X5_leastOf rfl (by decide +kernel) ⟨(Nat.le_of_ble_eq_true rfl), (Nat.le_of_ble_eq_true rfl)⟩ rfl [] rfl rfl (Nat.le_of_ble_eq_true rfl) dX5_set_16 (fun r3 hw => ?_)
    show qZ X 0 0 [(m0, .inr (5, [.int (qI (0 : Int)), .ref m1, .ref m2, .ref m3, .int (qI sm), .ref m4, .int (qI le), .ref m5, .ref m6, .ref m7, .int (qI tk), .int (qI fr), .int (qI ti), .int (qI fa)])), (m1, qA (E 0) 635 ms), (m2, qA (E 0) 635 ma), (m3, qA (E 0) 3175 mv), (m4, qA (E 0) 140 mt), (m5, qA (E 0) 2 mn), (m6, qA (E 0) 64 ml), (m7, qA (E 0) 49152 mr)] _ _ [.int (qI r3), .int (qI x2)]
    refine z_iload_n C 1 rfl rfl dX5_set_19 ?_
    refine z_callS (n := 1) C (c_X5_mostOf l D E   x1 hw) qF0_ok (fun _ _ _ => trivial) gX5_set_X5_mostOf rfl (by decide +kernel) ⟨(Nat.le_of_ble_eq_true rfl), (Nat.le_of_ble_eq_true rfl)⟩ rfl [] rfl rfl (Nat.le_of_ble_eq_true rfl) dX5_set_20 (fun r4 hw => ?_)
    show qZ X 0 0 [(m0, .inr (5, [.int (qI (0 : Int)), .ref m1, .ref m2, .ref m3, .int (qI sm), .ref m4, .int (qI le), .ref m5, .ref m6, .ref m7, .int (qI tk), .int (qI fr), .int (qI ti), .int (qI fa)])), (m1, qA (E 0) 635 ms), (m2, qA (E 0) 635 ma), (m3, qA (E 0) 3175 mv), (m4, qA (E 0) 140 mt), (m5, qA (E 0) 2 mn), (m6, qA (E 0) 64 ml), (m7, qA (E 0) 49152 mr)] _ _ [.int (qI r4), .int (qI r3), .int (qI x2)]
    refine z_callS (n := 3) C (c_X5_in l D E   x2 r3 r4 hw) qF0_ok (fun _ _ _ => trivial) gX5_set_X5_in rfl (by decide +kernel) ⟨(Nat.le_of_ble_eq_true rfl), (Nat.le_of_ble_eq_true rfl)⟩ rfl [] rfl rfl (Nat.le_of_ble_eq_true rfl) dX5_set_23 (fun r5 hw => ?_)
    show qZ X 0 0 [(m0, .inr (5, [.int (qI (0 : Int)), .ref m1, .ref m2, .ref m3, .int (qI sm), .ref m4, .int (qI le), .ref m5, .ref m6, .ref m7, .int (qI tk), .int (qI fr), .int (qI ti), .int (qI fa)])), (m1, qA (E 0) 635 ms), (m2, qA (E 0) 635 ma), (m3, qA (E 0) 3175 mv), (m4, qA (E 0) 140 mt), (m5, qA (E 0) 2 mn), (m6, qA (E 0) 64 ml), (m7, qA (E 0) 49152 mr)] _ _ [.int (qI r5)]
    refine z_if_ne (tgt := 31) C hw.1 (by decide) dX5_set_26 (fun c6 => ?_) (fun c6 => ?_)
    · replace hw := hw.2.1 c6
      refine z_aload_n C 0 rfl rfl dX5_set_31 ?_
      refine z_callVW (n := 0) C (c_X5_act l D E m0 m1 m2 m3 m4 m5 m6 m7 (0 : Int) sm le tk fr ti fa ms ma mv mt mn ml mr  hw) qF0_ok (fun _ _ _ => trivial) gX5_set_X5_act rfl (by decide +kernel) ⟨(Nat.le_of_ble_eq_true rfl), (Nat.le_of_ble_eq_true rfl)⟩ rfl 0 rfl rfl [0, 1, 2, 3, 4, 5, 6, 7] [] (wr := []) rfl rfl rfl rfl (by decide) [0, 1, 2, 3, 4, 5, 6, 7] rfl (fun u9 => [(m0, .inr (5, [.int (qI (0 : Int)), .ref m1, .ref m2, .ref m3, .int (qI u9.1), .ref m4, .int (qI le), .ref m5, .ref m6, .ref m7, .int (qI tk), .int (qI fr), .int (qI ti), .int (qI fa)])), (m1, qA (E 0) 635 ms), (m2, qA (E 0) 635 ma), (m3, qA (E 0) 3175 u9.2), (m4, qA (E 0) 140 mt), (m5, qA (E 0) 2 mn), (m6, qA (E 0) 64 ml), (m7, qA (E 0) 49152 mr)]) (fun _ => rfl) rfl (Nat.le_of_ble_eq_true rfl) dX5_set_32 (fun r7 u9 hw => ?_)
      obtain ⟨g8, g9⟩ := u9
      refine z_ws (ws' := [(m0, .inr (5, [.int (qI (0 : Int)), .ref m1, .ref m2, .ref m3, .int (qI g8), .ref m4, .int (qI le), .ref m5, .ref m6, .ref m7, .int (qI tk), .int (qI fr), .int (qI ti), .int (qI fa)])), (m1, qA (E 0) 635 ms), (m2, qA (E 0) 635 ma), (m3, qA (E 0) 3175 g9), (m4, qA (E 0) 140 mt), (m5, qA (E 0) 2 mn), (m6, qA (E 0) 64 ml), (m7, qA (E 0) 49152 mr)]) rfl ?_
      try dsimp only at hw
      show qZ X 0 0 [(m0, .inr (5, [.int (qI (0 : Int)), .ref m1, .ref m2, .ref m3, .int (qI g8), .ref m4, .int (qI le), .ref m5, .ref m6, .ref m7, .int (qI tk), .int (qI fr), .int (qI ti), .int (qI fa)])), (m1, qA (E 0) 635 ms), (m2, qA (E 0) 635 ma), (m3, qA (E 0) 3175 g9), (m4, qA (E 0) 140 mt), (m5, qA (E 0) 2 mn), (m6, qA (E 0) 64 ml), (m7, qA (E 0) 49152 mr)] _ _ []
      refine z_aload_n C 0 rfl rfl dX5_set_35 ?_
      refine z_get C iX5_set_X5 0 rfl rfl 1 (by decide) (List.mem_of_getElem? (i := 2) rfl) rfl rfl dX5_set_36 ?_
      refine z_iconst C dX5_set_39 ?_
      refine z_iload_n C 1 rfl rfl dX5_set_40 ?_
      refine z_iadd C dX5_set_41 ?_
      refine z_iald C 1 rfl (by decide) hw.1 dX5_set_42 ?_
      replace hw := hw.2
      refine z_name (fun v10 ev10 => ?_)
      replace hw := hw v10 ev10
      refine z_istore_n C rfl (by decide) rfl dX5_set_43 ?_
      refine z_aload_n C 1 rfl rfl dX5_set_44 ?_
      refine z_get C iX5_set_X5 0 rfl rfl 1 (by decide) (List.mem_of_getElem? (i := 2) rfl) rfl rfl dX5_set_45 ?_
      refine z_iconst C dX5_set_48 ?_
      refine z_iload_n C 2 rfl rfl dX5_set_49 ?_
      refine z_iadd C dX5_set_50 ?_
      refine z_iload_n C 3 rfl rfl dX5_set_51 ?_
      refine z_iast C 1 rfl (by decide) hw.1 (fun g11 => [(m0, .inr (5, [.int (qI (0 : Int)), .ref m1, .ref m2, .ref m3, .int (qI g8), .ref m4, .int (qI le), .ref m5, .ref m6, .ref m7, .int (qI tk), .int (qI fr), .int (qI ti), .int (qI fa)])), (m1, qA (E 0) 635 g11), (m2, qA (E 0) 635 ma), (m3, qA (E 0) 3175 g9), (m4, qA (E 0) 140 mt), (m5, qA (E 0) 2 mn), (m6, qA (E 0) 64 ml), (m7, qA (E 0) 49152 mr)]) (fun _ => rfl) dX5_set_52 (fun g11 eg11 => ?_)
      replace hw := hw.2 g11 eg11
      refine z_iload_n C 0 rfl rfl dX5_set_53 ?_
      exact hend 54 _ v10 ((0 : Int), g8, g11, g9) dX5_set_54 hw
    · replace hw := hw.2.2 c6
      refine z_lst (ps := []) (lv' := []) (st' := []) rfl rfl ?_
      exact hB29 (0 : Int) sm ms mv hw
def wp_X5_setPhosphor (x1 : Int) (x2 : Int) (th : Int) (sm : Int) (ms : Nat → Int) (mv : Nat → Int) (Φ : Int → Int → Int → (Nat → Int) → (Nat → Int) → Prop) : Prop := wp_X5_kindCode x1 x2 (fun (r1 : Int) => (qR r1 ∧ ((0 : Int) ≤ r1 → wp_X5_act sm ms mv (fun (g4 : Int) (g5 : Nat → Int) => wp_X5_kindNow x1 x2 ms (fun (r6 : Int) (g7 : Nat → Int) => Φ r6 (0 : Int) g4 g7 g5))) ∧ (¬ ((0 : Int) ≤ r1) → Φ r1 (0 : Int) sm ms mv)))
theorem iX5_setPhosphor_X5 : ∀ w ∈ wsX50, w ∈ wsX5_setPhosphor := fun w h => List.mem_cons_of_mem _ (List.mem_append_right _ (h))
set_option maxHeartbeats 4000000 in
set_option maxRecDepth 100000 in
theorem c_X5_setPhosphor (l : Launch) (D : va_G) (E : Nat → ClassId) (m0 m1 m2 m3 m4 m5 m6 m7 : Nat) (th : Int) (sm : Int) (le : Int) (tk : Int) (fr : Int) (ti : Int) (fa : Int) (ms : Nat → Int) (ma : Nat → Int) (mv : Nat → Int) (mt : Nat → Int) (mn : Nat → Int) (ml : Nat → Int) (mr : Nat → Int) (x1 : Int) (x2 : Int) {Φ : Int → Int → Int → (Nat → Int) → (Nat → Int) → Prop} (hw : wp_X5_setPhosphor x1 x2 th sm ms mv Φ) : qRW (σ := (Int) × (Int) × (Nat → Int) × (Nat → Int)) l D E qF0 yX5_setPhosphor wsX5_setPhosphor 3 64 [(m0, .inr (5, [.int (qI th), .ref m1, .ref m2, .ref m3, .int (qI sm), .ref m4, .int (qI le), .ref m5, .ref m6, .ref m7, .int (qI tk), .int (qI fr), .int (qI ti), .int (qI fa)])), (m1, qA (E 0) 635 ms), (m2, qA (E 0) 635 ma), (m3, qA (E 0) 3175 mv), (m4, qA (E 0) 140 mt), (m5, qA (E 0) 2 mn), (m6, qA (E 0) 64 ml), (m7, qA (E 0) 49152 mr)] [.ref m0, .int (qI x1), .int (qI x2)] qeI (fun u => [(m0, .inr (5, [.int (qI u.1), .ref m1, .ref m2, .ref m3, .int (qI u.2.1), .ref m4, .int (qI le), .ref m5, .ref m6, .ref m7, .int (qI tk), .int (qI fr), .int (qI ti), .int (qI fa)])), (m1, qA (E 0) 635 u.2.2.1), (m2, qA (E 0) 635 ma), (m3, qA (E 0) 3175 u.2.2.2), (m4, qA (E 0) 140 mt), (m5, qA (E 0) 2 mn), (m6, qA (E 0) 64 ml), (m7, qA (E 0) 49152 mr)]) (fun r u => Φ r u.1 u.2.1 u.2.2.1 u.2.2.2) := by
  refine qRW_int (nL := 4) (own := RX5) qF0_ok (by decide) rfl rfl (Nat.le_of_ble_eq_true rfl) (fun X C hend => ?_)
  unfold wp_X5_setPhosphor at hw
  show qZ X 0 0 [(m0, .inr (5, [.int (qI th), .ref m1, .ref m2, .ref m3, .int (qI sm), .ref m4, .int (qI le), .ref m5, .ref m6, .ref m7, .int (qI tk), .int (qI fr), .int (qI ti), .int (qI fa)])), (m1, qA (E 0) 635 ms), (m2, qA (E 0) 635 ma), (m3, qA (E 0) 3175 mv), (m4, qA (E 0) 140 mt), (m5, qA (E 0) 2 mn), (m6, qA (E 0) 64 ml), (m7, qA (E 0) 49152 mr)] 0 [(0, .ref m0), (1, .int (qI x1)), (2, .int (qI x2))] []
  refine z_aload_n C 0 rfl rfl dX5_setPhosphor_0 ?_
  refine z_iconst C dX5_setPhosphor_1 ?_
  refine z_put (ty := .int) (ws' := [(m0, .inr (5, [.int (qI (0 : Int)), .ref m1, .ref m2, .ref m3, .int (qI sm), .ref m4, .int (qI le), .ref m5, .ref m6, .ref m7, .int (qI tk), .int (qI fr), .int (qI ti), .int (qI fa)])), (m1, qA (E 0) 635 ms), (m2, qA (E 0) 635 ma), (m3, qA (E 0) 3175 mv), (m4, qA (E 0) 140 mt), (m5, qA (E 0) 2 mn), (m6, qA (E 0) 64 ml), (m7, qA (E 0) 49152 mr)]) C iX5_setPhosphor_X5 tyX5 tyX5_ok nmX5 0 rfl rfl 0 (by decide) (List.mem_of_getElem? (i := 1) rfl) rfl rfl (by decide +kernel) rfl rfl (Nat.le_of_ble_eq_true rfl) rfl dX5_setPhosphor_2 ?_
  refine z_aload_n C 0 rfl rfl dX5_setPhosphor_5 ?_
  refine z_iload_n C 1 rfl rfl dX5_setPhosphor_6 ?_
  refine z_iload_n C 2 rfl rfl dX5_setPhosphor_7 ?_
  refine z_callV (n := 2) C (c_X5_kindCode l D E m0 m1 m2 m3 m4 m5 m6 m7 (0 : Int) sm le tk fr ti fa ms ma mv mt mn ml mr x1 x2 hw) qF0_ok (fun _ _ _ => trivial) gX5_setPhosphor_X5_kindCode rfl (by decide +kernel) ⟨(Nat.le_of_ble_eq_true rfl), (Nat.le_of_ble_eq_true rfl)⟩ rfl 0 rfl rfl [0, 1, 2, 3, 4, 5, 6, 7] rfl rfl (Nat.le_of_ble_eq_true rfl) dX5_setPhosphor_8 (fun r1 hw => ?_)
  show qZ X 0 0 [(m0, .inr (5, [.int (qI (0 : Int)), .ref m1, .ref m2, .ref m3, .int (qI sm), .ref m4, .int (qI le), .ref m5, .ref m6, .ref m7, .int (qI tk), .int (qI fr), .int (qI ti), .int (qI fa)])), (m1, qA (E 0) 635 ms), (m2, qA (E 0) 635 ma), (m3, qA (E 0) 3175 mv), (m4, qA (E 0) 140 mt), (m5, qA (E 0) 2 mn), (m6, qA (E 0) 64 ml), (m7, qA (E 0) 49152 mr)] _ _ [.int (qI r1)]
  refine z_istore_n C rfl (by decide) rfl dX5_setPhosphor_11 ?_
  refine z_iload_n C 0 rfl rfl dX5_setPhosphor_12 ?_
  refine z_if_ge (tgt := 18) C hw.1 (by decide) dX5_setPhosphor_13 (fun c2 => ?_) (fun c2 => ?_)
  · replace hw := hw.2.1 c2
    refine z_aload_n C 1 rfl rfl dX5_setPhosphor_18 ?_
    refine z_callVW (n := 0) C (c_X5_act l D E m0 m1 m2 m3 m4 m5 m6 m7 (0 : Int) sm le tk fr ti fa ms ma mv mt mn ml mr  hw) qF0_ok (fun _ _ _ => trivial) gX5_setPhosphor_X5_act rfl (by decide +kernel) ⟨(Nat.le_of_ble_eq_true rfl), (Nat.le_of_ble_eq_true rfl)⟩ rfl 0 rfl rfl [0, 1, 2, 3, 4, 5, 6, 7] [] (wr := []) rfl rfl rfl rfl (by decide) [0, 1, 2, 3, 4, 5, 6, 7] rfl (fun u9 => [(m0, .inr (5, [.int (qI (0 : Int)), .ref m1, .ref m2, .ref m3, .int (qI u9.1), .ref m4, .int (qI le), .ref m5, .ref m6, .ref m7, .int (qI tk), .int (qI fr), .int (qI ti), .int (qI fa)])), (m1, qA (E 0) 635 ms), (m2, qA (E 0) 635 ma), (m3, qA (E 0) 3175 u9.2), (m4, qA (E 0) 140 mt), (m5, qA (E 0) 2 mn), (m6, qA (E 0) 64 ml), (m7, qA (E 0) 49152 mr)]) (fun _ => rfl) rfl (Nat.le_of_ble_eq_true rfl) dX5_setPhosphor_19 (fun r3 u9 hw => ?_)
    obtain ⟨g4, g5⟩ := u9
    refine z_ws (ws' := [(m0, .inr (5, [.int (qI (0 : Int)), .ref m1, .ref m2, .ref m3, .int (qI g4), .ref m4, .int (qI le), .ref m5, .ref m6, .ref m7, .int (qI tk), .int (qI fr), .int (qI ti), .int (qI fa)])), (m1, qA (E 0) 635 ms), (m2, qA (E 0) 635 ma), (m3, qA (E 0) 3175 g5), (m4, qA (E 0) 140 mt), (m5, qA (E 0) 2 mn), (m6, qA (E 0) 64 ml), (m7, qA (E 0) 49152 mr)]) rfl ?_
    try dsimp only at hw
    show qZ X 0 0 [(m0, .inr (5, [.int (qI (0 : Int)), .ref m1, .ref m2, .ref m3, .int (qI g4), .ref m4, .int (qI le), .ref m5, .ref m6, .ref m7, .int (qI tk), .int (qI fr), .int (qI ti), .int (qI fa)])), (m1, qA (E 0) 635 ms), (m2, qA (E 0) 635 ma), (m3, qA (E 0) 3175 g5), (m4, qA (E 0) 140 mt), (m5, qA (E 0) 2 mn), (m6, qA (E 0) 64 ml), (m7, qA (E 0) 49152 mr)] _ _ []
    refine z_aload_n C 1 rfl rfl dX5_setPhosphor_22 ?_
    refine z_iload_n C 2 rfl rfl dX5_setPhosphor_23 ?_
    refine z_iload_n C 3 rfl rfl dX5_setPhosphor_24 ?_
    refine z_callVW (n := 2) C (c_X5_kindNow l D E m0 m1 m2 m3 m4 m5 m6 m7 (0 : Int) g4 le tk fr ti fa ms ma g5 mt mn ml mr x1 x2 hw) qF0_ok (fun _ _ _ => trivial) gX5_setPhosphor_X5_kindNow rfl (by decide +kernel) ⟨(Nat.le_of_ble_eq_true rfl), (Nat.le_of_ble_eq_true rfl)⟩ rfl 0 rfl rfl [0, 1, 2, 3, 4, 5, 6, 7] [] (wr := []) rfl rfl rfl rfl (by decide) [0, 1, 2, 3, 4, 5, 6, 7] rfl (fun u9 => [(m0, .inr (5, [.int (qI (0 : Int)), .ref m1, .ref m2, .ref m3, .int (qI g4), .ref m4, .int (qI le), .ref m5, .ref m6, .ref m7, .int (qI tk), .int (qI fr), .int (qI ti), .int (qI fa)])), (m1, qA (E 0) 635 u9), (m2, qA (E 0) 635 ma), (m3, qA (E 0) 3175 g5), (m4, qA (E 0) 140 mt), (m5, qA (E 0) 2 mn), (m6, qA (E 0) 64 ml), (m7, qA (E 0) 49152 mr)]) (fun _ => rfl) rfl (Nat.le_of_ble_eq_true rfl) dX5_setPhosphor_25 (fun r6 u9 hw => ?_)
    obtain ⟨g7, rfl⟩ : ∃ z, z = u9 := ⟨_, rfl⟩
    refine z_ws (ws' := [(m0, .inr (5, [.int (qI (0 : Int)), .ref m1, .ref m2, .ref m3, .int (qI g4), .ref m4, .int (qI le), .ref m5, .ref m6, .ref m7, .int (qI tk), .int (qI fr), .int (qI ti), .int (qI fa)])), (m1, qA (E 0) 635 g7), (m2, qA (E 0) 635 ma), (m3, qA (E 0) 3175 g5), (m4, qA (E 0) 140 mt), (m5, qA (E 0) 2 mn), (m6, qA (E 0) 64 ml), (m7, qA (E 0) 49152 mr)]) rfl ?_
    try dsimp only at hw
    show qZ X 0 0 [(m0, .inr (5, [.int (qI (0 : Int)), .ref m1, .ref m2, .ref m3, .int (qI g4), .ref m4, .int (qI le), .ref m5, .ref m6, .ref m7, .int (qI tk), .int (qI fr), .int (qI ti), .int (qI fa)])), (m1, qA (E 0) 635 g7), (m2, qA (E 0) 635 ma), (m3, qA (E 0) 3175 g5), (m4, qA (E 0) 140 mt), (m5, qA (E 0) 2 mn), (m6, qA (E 0) 64 ml), (m7, qA (E 0) 49152 mr)] _ _ [.int (qI r6)]
    exact hend 28 _ r6 ((0 : Int), g4, g7, g5) dX5_setPhosphor_28 hw
  · replace hw := hw.2.2 c2
    refine z_iload_n C 0 rfl rfl dX5_setPhosphor_16 ?_
    exact hend 17 _ r1 ((0 : Int), sm, ms, mv) dX5_setPhosphor_17 hw
def wp_X5_light (x1 : Int) (th : Int) (sm : Int) (ms : Nat → Int) (mv : Nat → Int) (Φ : Int → Int → Int → (Nat → Int) → (Nat → Int) → Prop) : Prop := wp_X5_lightCode x1 ms (fun (r1 : Int) => (qR r1 ∧ ((0 : Int) ≤ r1 → wp_X5_act sm ms mv (fun (g4 : Int) (g5 : Nat → Int) => wp_X5_lightNow x1 ms (fun (r6 : Int) (g7 : Nat → Int) => Φ r6 (0 : Int) g4 g7 g5))) ∧ (¬ ((0 : Int) ≤ r1) → Φ r1 (0 : Int) sm ms mv)))
theorem iX5_light_X5 : ∀ w ∈ wsX50, w ∈ wsX5_light := fun w h => List.mem_cons_of_mem _ (List.mem_append_right _ (h))
set_option maxHeartbeats 4000000 in
set_option maxRecDepth 100000 in
theorem c_X5_light (l : Launch) (D : va_G) (E : Nat → ClassId) (m0 m1 m2 m3 m4 m5 m6 m7 : Nat) (th : Int) (sm : Int) (le : Int) (tk : Int) (fr : Int) (ti : Int) (fa : Int) (ms : Nat → Int) (ma : Nat → Int) (mv : Nat → Int) (mt : Nat → Int) (mn : Nat → Int) (ml : Nat → Int) (mr : Nat → Int) (x1 : Int) {Φ : Int → Int → Int → (Nat → Int) → (Nat → Int) → Prop} (hw : wp_X5_light x1 th sm ms mv Φ) : qRW (σ := (Int) × (Int) × (Nat → Int) × (Nat → Int)) l D E qF0 yX5_light wsX5_light 3 65 [(m0, .inr (5, [.int (qI th), .ref m1, .ref m2, .ref m3, .int (qI sm), .ref m4, .int (qI le), .ref m5, .ref m6, .ref m7, .int (qI tk), .int (qI fr), .int (qI ti), .int (qI fa)])), (m1, qA (E 0) 635 ms), (m2, qA (E 0) 635 ma), (m3, qA (E 0) 3175 mv), (m4, qA (E 0) 140 mt), (m5, qA (E 0) 2 mn), (m6, qA (E 0) 64 ml), (m7, qA (E 0) 49152 mr)] [.ref m0, .int (qI x1)] qeI (fun u => [(m0, .inr (5, [.int (qI u.1), .ref m1, .ref m2, .ref m3, .int (qI u.2.1), .ref m4, .int (qI le), .ref m5, .ref m6, .ref m7, .int (qI tk), .int (qI fr), .int (qI ti), .int (qI fa)])), (m1, qA (E 0) 635 u.2.2.1), (m2, qA (E 0) 635 ma), (m3, qA (E 0) 3175 u.2.2.2), (m4, qA (E 0) 140 mt), (m5, qA (E 0) 2 mn), (m6, qA (E 0) 64 ml), (m7, qA (E 0) 49152 mr)]) (fun r u => Φ r u.1 u.2.1 u.2.2.1 u.2.2.2) := by
  refine qRW_int (nL := 3) (own := RX5) qF0_ok (by decide) rfl rfl (Nat.le_of_ble_eq_true rfl) (fun X C hend => ?_)
  unfold wp_X5_light at hw
  show qZ X 0 0 [(m0, .inr (5, [.int (qI th), .ref m1, .ref m2, .ref m3, .int (qI sm), .ref m4, .int (qI le), .ref m5, .ref m6, .ref m7, .int (qI tk), .int (qI fr), .int (qI ti), .int (qI fa)])), (m1, qA (E 0) 635 ms), (m2, qA (E 0) 635 ma), (m3, qA (E 0) 3175 mv), (m4, qA (E 0) 140 mt), (m5, qA (E 0) 2 mn), (m6, qA (E 0) 64 ml), (m7, qA (E 0) 49152 mr)] 0 [(0, .ref m0), (1, .int (qI x1))] []
  refine z_aload_n C 0 rfl rfl dX5_light_0 ?_
  refine z_iconst C dX5_light_1 ?_
  refine z_put (ty := .int) (ws' := [(m0, .inr (5, [.int (qI (0 : Int)), .ref m1, .ref m2, .ref m3, .int (qI sm), .ref m4, .int (qI le), .ref m5, .ref m6, .ref m7, .int (qI tk), .int (qI fr), .int (qI ti), .int (qI fa)])), (m1, qA (E 0) 635 ms), (m2, qA (E 0) 635 ma), (m3, qA (E 0) 3175 mv), (m4, qA (E 0) 140 mt), (m5, qA (E 0) 2 mn), (m6, qA (E 0) 64 ml), (m7, qA (E 0) 49152 mr)]) C iX5_light_X5 tyX5 tyX5_ok nmX5 0 rfl rfl 0 (by decide) (List.mem_of_getElem? (i := 1) rfl) rfl rfl (by decide +kernel) rfl rfl (Nat.le_of_ble_eq_true rfl) rfl dX5_light_2 ?_
  refine z_aload_n C 0 rfl rfl dX5_light_5 ?_
  refine z_iload_n C 1 rfl rfl dX5_light_6 ?_
  refine z_callV (n := 1) C (c_X5_lightCode l D E m0 m1 m2 m3 m4 m5 m6 m7 (0 : Int) sm le tk fr ti fa ms ma mv mt mn ml mr x1 hw) qF0_ok (fun _ _ _ => trivial) gX5_light_X5_lightCode rfl (by decide +kernel) ⟨(Nat.le_of_ble_eq_true rfl), (Nat.le_of_ble_eq_true rfl)⟩ rfl 0 rfl rfl [0, 1, 2, 3, 4, 5, 6, 7] rfl rfl (Nat.le_of_ble_eq_true rfl) dX5_light_7 (fun r1 hw => ?_)
  show qZ X 0 0 [(m0, .inr (5, [.int (qI (0 : Int)), .ref m1, .ref m2, .ref m3, .int (qI sm), .ref m4, .int (qI le), .ref m5, .ref m6, .ref m7, .int (qI tk), .int (qI fr), .int (qI ti), .int (qI fa)])), (m1, qA (E 0) 635 ms), (m2, qA (E 0) 635 ma), (m3, qA (E 0) 3175 mv), (m4, qA (E 0) 140 mt), (m5, qA (E 0) 2 mn), (m6, qA (E 0) 64 ml), (m7, qA (E 0) 49152 mr)] _ _ [.int (qI r1)]
  refine z_istore_n C rfl (by decide) rfl dX5_light_10 ?_
  refine z_iload_n C 0 rfl rfl dX5_light_11 ?_
  refine z_if_ge (tgt := 17) C hw.1 (by decide) dX5_light_12 (fun c2 => ?_) (fun c2 => ?_)
  · replace hw := hw.2.1 c2
    refine z_aload_n C 1 rfl rfl dX5_light_17 ?_
    refine z_callVW (n := 0) C (c_X5_act l D E m0 m1 m2 m3 m4 m5 m6 m7 (0 : Int) sm le tk fr ti fa ms ma mv mt mn ml mr  hw) qF0_ok (fun _ _ _ => trivial) gX5_light_X5_act rfl (by decide +kernel) ⟨(Nat.le_of_ble_eq_true rfl), (Nat.le_of_ble_eq_true rfl)⟩ rfl 0 rfl rfl [0, 1, 2, 3, 4, 5, 6, 7] [] (wr := []) rfl rfl rfl rfl (by decide) [0, 1, 2, 3, 4, 5, 6, 7] rfl (fun u9 => [(m0, .inr (5, [.int (qI (0 : Int)), .ref m1, .ref m2, .ref m3, .int (qI u9.1), .ref m4, .int (qI le), .ref m5, .ref m6, .ref m7, .int (qI tk), .int (qI fr), .int (qI ti), .int (qI fa)])), (m1, qA (E 0) 635 ms), (m2, qA (E 0) 635 ma), (m3, qA (E 0) 3175 u9.2), (m4, qA (E 0) 140 mt), (m5, qA (E 0) 2 mn), (m6, qA (E 0) 64 ml), (m7, qA (E 0) 49152 mr)]) (fun _ => rfl) rfl (Nat.le_of_ble_eq_true rfl) dX5_light_18 (fun r3 u9 hw => ?_)
    obtain ⟨g4, g5⟩ := u9
    refine z_ws (ws' := [(m0, .inr (5, [.int (qI (0 : Int)), .ref m1, .ref m2, .ref m3, .int (qI g4), .ref m4, .int (qI le), .ref m5, .ref m6, .ref m7, .int (qI tk), .int (qI fr), .int (qI ti), .int (qI fa)])), (m1, qA (E 0) 635 ms), (m2, qA (E 0) 635 ma), (m3, qA (E 0) 3175 g5), (m4, qA (E 0) 140 mt), (m5, qA (E 0) 2 mn), (m6, qA (E 0) 64 ml), (m7, qA (E 0) 49152 mr)]) rfl ?_
    try dsimp only at hw
    show qZ X 0 0 [(m0, .inr (5, [.int (qI (0 : Int)), .ref m1, .ref m2, .ref m3, .int (qI g4), .ref m4, .int (qI le), .ref m5, .ref m6, .ref m7, .int (qI tk), .int (qI fr), .int (qI ti), .int (qI fa)])), (m1, qA (E 0) 635 ms), (m2, qA (E 0) 635 ma), (m3, qA (E 0) 3175 g5), (m4, qA (E 0) 140 mt), (m5, qA (E 0) 2 mn), (m6, qA (E 0) 64 ml), (m7, qA (E 0) 49152 mr)] _ _ []
    refine z_aload_n C 1 rfl rfl dX5_light_21 ?_
    refine z_iload_n C 2 rfl rfl dX5_light_22 ?_
    refine z_callVW (n := 1) C (c_X5_lightNow l D E m0 m1 m2 m3 m4 m5 m6 m7 (0 : Int) g4 le tk fr ti fa ms ma g5 mt mn ml mr x1 hw) qF0_ok (fun _ _ _ => trivial) gX5_light_X5_lightNow rfl (by decide +kernel) ⟨(Nat.le_of_ble_eq_true rfl), (Nat.le_of_ble_eq_true rfl)⟩ rfl 0 rfl rfl [0, 1, 2, 3, 4, 5, 6, 7] [] (wr := []) rfl rfl rfl rfl (by decide) [0, 1, 2, 3, 4, 5, 6, 7] rfl (fun u9 => [(m0, .inr (5, [.int (qI (0 : Int)), .ref m1, .ref m2, .ref m3, .int (qI g4), .ref m4, .int (qI le), .ref m5, .ref m6, .ref m7, .int (qI tk), .int (qI fr), .int (qI ti), .int (qI fa)])), (m1, qA (E 0) 635 u9), (m2, qA (E 0) 635 ma), (m3, qA (E 0) 3175 g5), (m4, qA (E 0) 140 mt), (m5, qA (E 0) 2 mn), (m6, qA (E 0) 64 ml), (m7, qA (E 0) 49152 mr)]) (fun _ => rfl) rfl (Nat.le_of_ble_eq_true rfl) dX5_light_23 (fun r6 u9 hw => ?_)
    obtain ⟨g7, rfl⟩ : ∃ z, z = u9 := ⟨_, rfl⟩
    refine z_ws (ws' := [(m0, .inr (5, [.int (qI (0 : Int)), .ref m1, .ref m2, .ref m3, .int (qI g4), .ref m4, .int (qI le), .ref m5, .ref m6, .ref m7, .int (qI tk), .int (qI fr), .int (qI ti), .int (qI fa)])), (m1, qA (E 0) 635 g7), (m2, qA (E 0) 635 ma), (m3, qA (E 0) 3175 g5), (m4, qA (E 0) 140 mt), (m5, qA (E 0) 2 mn), (m6, qA (E 0) 64 ml), (m7, qA (E 0) 49152 mr)]) rfl ?_
    try dsimp only at hw
    show qZ X 0 0 [(m0, .inr (5, [.int (qI (0 : Int)), .ref m1, .ref m2, .ref m3, .int (qI g4), .ref m4, .int (qI le), .ref m5, .ref m6, .ref m7, .int (qI tk), .int (qI fr), .int (qI ti), .int (qI fa)])), (m1, qA (E 0) 635 g7), (m2, qA (E 0) 635 ma), (m3, qA (E 0) 3175 g5), (m4, qA (E 0) 140 mt), (m5, qA (E 0) 2 mn), (m6, qA (E 0) 64 ml), (m7, qA (E 0) 49152 mr)] _ _ [.int (qI r6)]
    exact hend 26 _ r6 ((0 : Int), g4, g7, g5) dX5_light_26 hw
  · replace hw := hw.2.2 c2
    refine z_iload_n C 0 rfl rfl dX5_light_15 ?_
    exact hend 16 _ r1 ((0 : Int), sm, ms, mv) dX5_light_16 hw
def wp_X5_darken (x1 : Int) (th : Int) (sm : Int) (ms : Nat → Int) (mv : Nat → Int) (Φ : Int → Int → Int → (Nat → Int) → (Nat → Int) → Prop) : Prop := wp_X5_darkCode x1 ms (fun (r1 : Int) => (qR r1 ∧ ((0 : Int) ≤ r1 → wp_X5_act sm ms mv (fun (g4 : Int) (g5 : Nat → Int) => wp_X5_darkNow x1 ms (fun (r6 : Int) (g7 : Nat → Int) => Φ r6 (0 : Int) g4 g7 g5))) ∧ (¬ ((0 : Int) ≤ r1) → Φ r1 (0 : Int) sm ms mv)))
theorem iX5_darken_X5 : ∀ w ∈ wsX50, w ∈ wsX5_darken := fun w h => List.mem_cons_of_mem _ (List.mem_append_right _ (h))
set_option maxHeartbeats 4000000 in
set_option maxRecDepth 100000 in
theorem c_X5_darken (l : Launch) (D : va_G) (E : Nat → ClassId) (m0 m1 m2 m3 m4 m5 m6 m7 : Nat) (th : Int) (sm : Int) (le : Int) (tk : Int) (fr : Int) (ti : Int) (fa : Int) (ms : Nat → Int) (ma : Nat → Int) (mv : Nat → Int) (mt : Nat → Int) (mn : Nat → Int) (ml : Nat → Int) (mr : Nat → Int) (x1 : Int) {Φ : Int → Int → Int → (Nat → Int) → (Nat → Int) → Prop} (hw : wp_X5_darken x1 th sm ms mv Φ) : qRW (σ := (Int) × (Int) × (Nat → Int) × (Nat → Int)) l D E qF0 yX5_darken wsX5_darken 3 67 [(m0, .inr (5, [.int (qI th), .ref m1, .ref m2, .ref m3, .int (qI sm), .ref m4, .int (qI le), .ref m5, .ref m6, .ref m7, .int (qI tk), .int (qI fr), .int (qI ti), .int (qI fa)])), (m1, qA (E 0) 635 ms), (m2, qA (E 0) 635 ma), (m3, qA (E 0) 3175 mv), (m4, qA (E 0) 140 mt), (m5, qA (E 0) 2 mn), (m6, qA (E 0) 64 ml), (m7, qA (E 0) 49152 mr)] [.ref m0, .int (qI x1)] qeI (fun u => [(m0, .inr (5, [.int (qI u.1), .ref m1, .ref m2, .ref m3, .int (qI u.2.1), .ref m4, .int (qI le), .ref m5, .ref m6, .ref m7, .int (qI tk), .int (qI fr), .int (qI ti), .int (qI fa)])), (m1, qA (E 0) 635 u.2.2.1), (m2, qA (E 0) 635 ma), (m3, qA (E 0) 3175 u.2.2.2), (m4, qA (E 0) 140 mt), (m5, qA (E 0) 2 mn), (m6, qA (E 0) 64 ml), (m7, qA (E 0) 49152 mr)]) (fun r u => Φ r u.1 u.2.1 u.2.2.1 u.2.2.2) := by
  refine qRW_int (nL := 3) (own := RX5) qF0_ok (by decide) rfl rfl (Nat.le_of_ble_eq_true rfl) (fun X C hend => ?_)
  unfold wp_X5_darken at hw
  show qZ X 0 0 [(m0, .inr (5, [.int (qI th), .ref m1, .ref m2, .ref m3, .int (qI sm), .ref m4, .int (qI le), .ref m5, .ref m6, .ref m7, .int (qI tk), .int (qI fr), .int (qI ti), .int (qI fa)])), (m1, qA (E 0) 635 ms), (m2, qA (E 0) 635 ma), (m3, qA (E 0) 3175 mv), (m4, qA (E 0) 140 mt), (m5, qA (E 0) 2 mn), (m6, qA (E 0) 64 ml), (m7, qA (E 0) 49152 mr)] 0 [(0, .ref m0), (1, .int (qI x1))] []
  refine z_aload_n C 0 rfl rfl dX5_darken_0 ?_
  refine z_iconst C dX5_darken_1 ?_
  refine z_put (ty := .int) (ws' := [(m0, .inr (5, [.int (qI (0 : Int)), .ref m1, .ref m2, .ref m3, .int (qI sm), .ref m4, .int (qI le), .ref m5, .ref m6, .ref m7, .int (qI tk), .int (qI fr), .int (qI ti), .int (qI fa)])), (m1, qA (E 0) 635 ms), (m2, qA (E 0) 635 ma), (m3, qA (E 0) 3175 mv), (m4, qA (E 0) 140 mt), (m5, qA (E 0) 2 mn), (m6, qA (E 0) 64 ml), (m7, qA (E 0) 49152 mr)]) C iX5_darken_X5 tyX5 tyX5_ok nmX5 0 rfl rfl 0 (by decide) (List.mem_of_getElem? (i := 1) rfl) rfl rfl (by decide +kernel) rfl rfl (Nat.le_of_ble_eq_true rfl) rfl dX5_darken_2 ?_
  refine z_aload_n C 0 rfl rfl dX5_darken_5 ?_
  refine z_iload_n C 1 rfl rfl dX5_darken_6 ?_
  refine z_callV (n := 1) C (c_X5_darkCode l D E m0 m1 m2 m3 m4 m5 m6 m7 (0 : Int) sm le tk fr ti fa ms ma mv mt mn ml mr x1 hw) qF0_ok (fun _ _ _ => trivial) gX5_darken_X5_darkCode rfl (by decide +kernel) ⟨(Nat.le_of_ble_eq_true rfl), (Nat.le_of_ble_eq_true rfl)⟩ rfl 0 rfl rfl [0, 1, 2, 3, 4, 5, 6, 7] rfl rfl (Nat.le_of_ble_eq_true rfl) dX5_darken_7 (fun r1 hw => ?_)
  show qZ X 0 0 [(m0, .inr (5, [.int (qI (0 : Int)), .ref m1, .ref m2, .ref m3, .int (qI sm), .ref m4, .int (qI le), .ref m5, .ref m6, .ref m7, .int (qI tk), .int (qI fr), .int (qI ti), .int (qI fa)])), (m1, qA (E 0) 635 ms), (m2, qA (E 0) 635 ma), (m3, qA (E 0) 3175 mv), (m4, qA (E 0) 140 mt), (m5, qA (E 0) 2 mn), (m6, qA (E 0) 64 ml), (m7, qA (E 0) 49152 mr)] _ _ [.int (qI r1)]
  refine z_istore_n C rfl (by decide) rfl dX5_darken_10 ?_
  refine z_iload_n C 0 rfl rfl dX5_darken_11 ?_
  refine z_if_ge (tgt := 17) C hw.1 (by decide) dX5_darken_12 (fun c2 => ?_) (fun c2 => ?_)
  · replace hw := hw.2.1 c2
    refine z_aload_n C 1 rfl rfl dX5_darken_17 ?_
    refine z_callVW (n := 0) C (c_X5_act l D E m0 m1 m2 m3 m4 m5 m6 m7 (0 : Int) sm le tk fr ti fa ms ma mv mt mn ml mr  hw) qF0_ok (fun _ _ _ => trivial) gX5_darken_X5_act rfl (by decide +kernel) ⟨(Nat.le_of_ble_eq_true rfl), (Nat.le_of_ble_eq_true rfl)⟩ rfl 0 rfl rfl [0, 1, 2, 3, 4, 5, 6, 7] [] (wr := []) rfl rfl rfl rfl (by decide) [0, 1, 2, 3, 4, 5, 6, 7] rfl (fun u9 => [(m0, .inr (5, [.int (qI (0 : Int)), .ref m1, .ref m2, .ref m3, .int (qI u9.1), .ref m4, .int (qI le), .ref m5, .ref m6, .ref m7, .int (qI tk), .int (qI fr), .int (qI ti), .int (qI fa)])), (m1, qA (E 0) 635 ms), (m2, qA (E 0) 635 ma), (m3, qA (E 0) 3175 u9.2), (m4, qA (E 0) 140 mt), (m5, qA (E 0) 2 mn), (m6, qA (E 0) 64 ml), (m7, qA (E 0) 49152 mr)]) (fun _ => rfl) rfl (Nat.le_of_ble_eq_true rfl) dX5_darken_18 (fun r3 u9 hw => ?_)
    obtain ⟨g4, g5⟩ := u9
    refine z_ws (ws' := [(m0, .inr (5, [.int (qI (0 : Int)), .ref m1, .ref m2, .ref m3, .int (qI g4), .ref m4, .int (qI le), .ref m5, .ref m6, .ref m7, .int (qI tk), .int (qI fr), .int (qI ti), .int (qI fa)])), (m1, qA (E 0) 635 ms), (m2, qA (E 0) 635 ma), (m3, qA (E 0) 3175 g5), (m4, qA (E 0) 140 mt), (m5, qA (E 0) 2 mn), (m6, qA (E 0) 64 ml), (m7, qA (E 0) 49152 mr)]) rfl ?_
    try dsimp only at hw
    show qZ X 0 0 [(m0, .inr (5, [.int (qI (0 : Int)), .ref m1, .ref m2, .ref m3, .int (qI g4), .ref m4, .int (qI le), .ref m5, .ref m6, .ref m7, .int (qI tk), .int (qI fr), .int (qI ti), .int (qI fa)])), (m1, qA (E 0) 635 ms), (m2, qA (E 0) 635 ma), (m3, qA (E 0) 3175 g5), (m4, qA (E 0) 140 mt), (m5, qA (E 0) 2 mn), (m6, qA (E 0) 64 ml), (m7, qA (E 0) 49152 mr)] _ _ []
    refine z_aload_n C 1 rfl rfl dX5_darken_21 ?_
    refine z_iload_n C 2 rfl rfl dX5_darken_22 ?_
    refine z_callVW (n := 1) C (c_X5_darkNow l D E m0 m1 m2 m3 m4 m5 m6 m7 (0 : Int) g4 le tk fr ti fa ms ma g5 mt mn ml mr x1 hw) qF0_ok (fun _ _ _ => trivial) gX5_darken_X5_darkNow rfl (by decide +kernel) ⟨(Nat.le_of_ble_eq_true rfl), (Nat.le_of_ble_eq_true rfl)⟩ rfl 0 rfl rfl [0, 1, 2, 3, 4, 5, 6, 7] [] (wr := []) rfl rfl rfl rfl (by decide) [0, 1, 2, 3, 4, 5, 6, 7] rfl (fun u9 => [(m0, .inr (5, [.int (qI (0 : Int)), .ref m1, .ref m2, .ref m3, .int (qI g4), .ref m4, .int (qI le), .ref m5, .ref m6, .ref m7, .int (qI tk), .int (qI fr), .int (qI ti), .int (qI fa)])), (m1, qA (E 0) 635 u9), (m2, qA (E 0) 635 ma), (m3, qA (E 0) 3175 g5), (m4, qA (E 0) 140 mt), (m5, qA (E 0) 2 mn), (m6, qA (E 0) 64 ml), (m7, qA (E 0) 49152 mr)]) (fun _ => rfl) rfl (Nat.le_of_ble_eq_true rfl) dX5_darken_23 (fun r6 u9 hw => ?_)
    obtain ⟨g7, rfl⟩ : ∃ z, z = u9 := ⟨_, rfl⟩
    refine z_ws (ws' := [(m0, .inr (5, [.int (qI (0 : Int)), .ref m1, .ref m2, .ref m3, .int (qI g4), .ref m4, .int (qI le), .ref m5, .ref m6, .ref m7, .int (qI tk), .int (qI fr), .int (qI ti), .int (qI fa)])), (m1, qA (E 0) 635 g7), (m2, qA (E 0) 635 ma), (m3, qA (E 0) 3175 g5), (m4, qA (E 0) 140 mt), (m5, qA (E 0) 2 mn), (m6, qA (E 0) 64 ml), (m7, qA (E 0) 49152 mr)]) rfl ?_
    try dsimp only at hw
    show qZ X 0 0 [(m0, .inr (5, [.int (qI (0 : Int)), .ref m1, .ref m2, .ref m3, .int (qI g4), .ref m4, .int (qI le), .ref m5, .ref m6, .ref m7, .int (qI tk), .int (qI fr), .int (qI ti), .int (qI fa)])), (m1, qA (E 0) 635 g7), (m2, qA (E 0) 635 ma), (m3, qA (E 0) 3175 g5), (m4, qA (E 0) 140 mt), (m5, qA (E 0) 2 mn), (m6, qA (E 0) 64 ml), (m7, qA (E 0) 49152 mr)] _ _ [.int (qI r6)]
    exact hend 26 _ r6 ((0 : Int), g4, g7, g5) dX5_darken_26 hw
  · replace hw := hw.2.2 c2
    refine z_iload_n C 0 rfl rfl dX5_darken_15 ?_
    exact hend 16 _ r1 ((0 : Int), sm, ms, mv) dX5_darken_16 hw
def wp_X5_exchange (x1 : Int) (x2 : Int) (th : Int) (sm : Int) (ms : Nat → Int) (mv : Nat → Int) (ml : Nat → Int) (Φ : Int → Int → Int → (Nat → Int) → (Nat → Int) → (Nat → Int) → Prop) : Prop := wp_X5_swapCode x1 x2 ms (fun (r1 : Int) => (qR r1 ∧ ((0 : Int) ≤ r1 → wp_X5_act sm ms mv (fun (g4 : Int) (g5 : Nat → Int) => wp_X5_swapNow x1 x2 ms ml (fun (r6 : Int) (g7 : Nat → Int) (g8 : Nat → Int) => Φ r6 (0 : Int) g4 g7 g5 g8))) ∧ (¬ ((0 : Int) ≤ r1) → Φ r1 (0 : Int) sm ms mv ml)))
theorem iX5_exchange_X5 : ∀ w ∈ wsX50, w ∈ wsX5_exchange := fun w h => List.mem_cons_of_mem _ (List.mem_append_right _ (h))
set_option maxHeartbeats 4000000 in
set_option maxRecDepth 100000 in
theorem c_X5_exchange (l : Launch) (D : va_G) (E : Nat → ClassId) (m0 m1 m2 m3 m4 m5 m6 m7 : Nat) (th : Int) (sm : Int) (le : Int) (tk : Int) (fr : Int) (ti : Int) (fa : Int) (ms : Nat → Int) (ma : Nat → Int) (mv : Nat → Int) (mt : Nat → Int) (mn : Nat → Int) (ml : Nat → Int) (mr : Nat → Int) (x1 : Int) (x2 : Int) {Φ : Int → Int → Int → (Nat → Int) → (Nat → Int) → (Nat → Int) → Prop} (hw : wp_X5_exchange x1 x2 th sm ms mv ml Φ) : qRW (σ := (Int) × (Int) × (Nat → Int) × (Nat → Int) × (Nat → Int)) l D E qF0 yX5_exchange wsX5_exchange 5 108 [(m0, .inr (5, [.int (qI th), .ref m1, .ref m2, .ref m3, .int (qI sm), .ref m4, .int (qI le), .ref m5, .ref m6, .ref m7, .int (qI tk), .int (qI fr), .int (qI ti), .int (qI fa)])), (m1, qA (E 0) 635 ms), (m2, qA (E 0) 635 ma), (m3, qA (E 0) 3175 mv), (m4, qA (E 0) 140 mt), (m5, qA (E 0) 2 mn), (m6, qA (E 0) 64 ml), (m7, qA (E 0) 49152 mr)] [.ref m0, .int (qI x1), .int (qI x2)] qeI (fun u => [(m0, .inr (5, [.int (qI u.1), .ref m1, .ref m2, .ref m3, .int (qI u.2.1), .ref m4, .int (qI le), .ref m5, .ref m6, .ref m7, .int (qI tk), .int (qI fr), .int (qI ti), .int (qI fa)])), (m1, qA (E 0) 635 u.2.2.1), (m2, qA (E 0) 635 ma), (m3, qA (E 0) 3175 u.2.2.2.1), (m4, qA (E 0) 140 mt), (m5, qA (E 0) 2 mn), (m6, qA (E 0) 64 u.2.2.2.2), (m7, qA (E 0) 49152 mr)]) (fun r u => Φ r u.1 u.2.1 u.2.2.1 u.2.2.2.1 u.2.2.2.2) := by
  refine qRW_int (nL := 4) (own := RX5) qF0_ok (by decide) rfl rfl (Nat.le_of_ble_eq_true rfl) (fun X C hend => ?_)
  unfold wp_X5_exchange at hw
  show qZ X 0 0 [(m0, .inr (5, [.int (qI th), .ref m1, .ref m2, .ref m3, .int (qI sm), .ref m4, .int (qI le), .ref m5, .ref m6, .ref m7, .int (qI tk), .int (qI fr), .int (qI ti), .int (qI fa)])), (m1, qA (E 0) 635 ms), (m2, qA (E 0) 635 ma), (m3, qA (E 0) 3175 mv), (m4, qA (E 0) 140 mt), (m5, qA (E 0) 2 mn), (m6, qA (E 0) 64 ml), (m7, qA (E 0) 49152 mr)] 0 [(0, .ref m0), (1, .int (qI x1)), (2, .int (qI x2))] []
  refine z_aload_n C 0 rfl rfl dX5_exchange_0 ?_
  refine z_iconst C dX5_exchange_1 ?_
  refine z_put (ty := .int) (ws' := [(m0, .inr (5, [.int (qI (0 : Int)), .ref m1, .ref m2, .ref m3, .int (qI sm), .ref m4, .int (qI le), .ref m5, .ref m6, .ref m7, .int (qI tk), .int (qI fr), .int (qI ti), .int (qI fa)])), (m1, qA (E 0) 635 ms), (m2, qA (E 0) 635 ma), (m3, qA (E 0) 3175 mv), (m4, qA (E 0) 140 mt), (m5, qA (E 0) 2 mn), (m6, qA (E 0) 64 ml), (m7, qA (E 0) 49152 mr)]) C iX5_exchange_X5 tyX5 tyX5_ok nmX5 0 rfl rfl 0 (by decide) (List.mem_of_getElem? (i := 1) rfl) rfl rfl (by decide +kernel) rfl rfl (Nat.le_of_ble_eq_true rfl) rfl dX5_exchange_2 ?_
  refine z_aload_n C 0 rfl rfl dX5_exchange_5 ?_
  refine z_iload_n C 1 rfl rfl dX5_exchange_6 ?_
  refine z_iload_n C 2 rfl rfl dX5_exchange_7 ?_
  refine z_callV (n := 2) C (c_X5_swapCode l D E m0 m1 m2 m3 m4 m5 m6 m7 (0 : Int) sm le tk fr ti fa ms ma mv mt mn ml mr x1 x2 hw) qF0_ok (fun _ _ _ => trivial) gX5_exchange_X5_swapCode rfl (by decide +kernel) ⟨(Nat.le_of_ble_eq_true rfl), (Nat.le_of_ble_eq_true rfl)⟩ rfl 0 rfl rfl [0, 1, 2, 3, 4, 5, 6, 7] rfl rfl (Nat.le_of_ble_eq_true rfl) dX5_exchange_8 (fun r1 hw => ?_)
  show qZ X 0 0 [(m0, .inr (5, [.int (qI (0 : Int)), .ref m1, .ref m2, .ref m3, .int (qI sm), .ref m4, .int (qI le), .ref m5, .ref m6, .ref m7, .int (qI tk), .int (qI fr), .int (qI ti), .int (qI fa)])), (m1, qA (E 0) 635 ms), (m2, qA (E 0) 635 ma), (m3, qA (E 0) 3175 mv), (m4, qA (E 0) 140 mt), (m5, qA (E 0) 2 mn), (m6, qA (E 0) 64 ml), (m7, qA (E 0) 49152 mr)] _ _ [.int (qI r1)]
  refine z_istore_n C rfl (by decide) rfl dX5_exchange_11 ?_
  refine z_iload_n C 0 rfl rfl dX5_exchange_12 ?_
  refine z_if_ge (tgt := 18) C hw.1 (by decide) dX5_exchange_13 (fun c2 => ?_) (fun c2 => ?_)
  · replace hw := hw.2.1 c2
    refine z_aload_n C 1 rfl rfl dX5_exchange_18 ?_
    refine z_callVW (n := 0) C (c_X5_act l D E m0 m1 m2 m3 m4 m5 m6 m7 (0 : Int) sm le tk fr ti fa ms ma mv mt mn ml mr  hw) qF0_ok (fun _ _ _ => trivial) gX5_exchange_X5_act rfl (by decide +kernel) ⟨(Nat.le_of_ble_eq_true rfl), (Nat.le_of_ble_eq_true rfl)⟩ rfl 0 rfl rfl [0, 1, 2, 3, 4, 5, 6, 7] [] (wr := []) rfl rfl rfl rfl (by decide) [0, 1, 2, 3, 4, 5, 6, 7] rfl (fun u9 => [(m0, .inr (5, [.int (qI (0 : Int)), .ref m1, .ref m2, .ref m3, .int (qI u9.1), .ref m4, .int (qI le), .ref m5, .ref m6, .ref m7, .int (qI tk), .int (qI fr), .int (qI ti), .int (qI fa)])), (m1, qA (E 0) 635 ms), (m2, qA (E 0) 635 ma), (m3, qA (E 0) 3175 u9.2), (m4, qA (E 0) 140 mt), (m5, qA (E 0) 2 mn), (m6, qA (E 0) 64 ml), (m7, qA (E 0) 49152 mr)]) (fun _ => rfl) rfl (Nat.le_of_ble_eq_true rfl) dX5_exchange_19 (fun r3 u9 hw => ?_)
    obtain ⟨g4, g5⟩ := u9
    refine z_ws (ws' := [(m0, .inr (5, [.int (qI (0 : Int)), .ref m1, .ref m2, .ref m3, .int (qI g4), .ref m4, .int (qI le), .ref m5, .ref m6, .ref m7, .int (qI tk), .int (qI fr), .int (qI ti), .int (qI fa)])), (m1, qA (E 0) 635 ms), (m2, qA (E 0) 635 ma), (m3, qA (E 0) 3175 g5), (m4, qA (E 0) 140 mt), (m5, qA (E 0) 2 mn), (m6, qA (E 0) 64 ml), (m7, qA (E 0) 49152 mr)]) rfl ?_
    try dsimp only at hw
    show qZ X 0 0 [(m0, .inr (5, [.int (qI (0 : Int)), .ref m1, .ref m2, .ref m3, .int (qI g4), .ref m4, .int (qI le), .ref m5, .ref m6, .ref m7, .int (qI tk), .int (qI fr), .int (qI ti), .int (qI fa)])), (m1, qA (E 0) 635 ms), (m2, qA (E 0) 635 ma), (m3, qA (E 0) 3175 g5), (m4, qA (E 0) 140 mt), (m5, qA (E 0) 2 mn), (m6, qA (E 0) 64 ml), (m7, qA (E 0) 49152 mr)] _ _ []
    refine z_aload_n C 1 rfl rfl dX5_exchange_22 ?_
    refine z_iload_n C 2 rfl rfl dX5_exchange_23 ?_
    refine z_iload_n C 3 rfl rfl dX5_exchange_24 ?_
    refine z_callVW (n := 2) C (c_X5_swapNow l D E m0 m1 m2 m3 m4 m5 m6 m7 (0 : Int) g4 le tk fr ti fa ms ma g5 mt mn ml mr x1 x2 hw) qF0_ok (fun _ _ _ => trivial) gX5_exchange_X5_swapNow rfl (by decide +kernel) ⟨(Nat.le_of_ble_eq_true rfl), (Nat.le_of_ble_eq_true rfl)⟩ rfl 0 rfl rfl [0, 1, 2, 3, 4, 5, 6, 7] [] (wr := []) rfl rfl rfl rfl (by decide) [0, 1, 2, 3, 4, 5, 6, 7] rfl (fun u9 => [(m0, .inr (5, [.int (qI (0 : Int)), .ref m1, .ref m2, .ref m3, .int (qI g4), .ref m4, .int (qI le), .ref m5, .ref m6, .ref m7, .int (qI tk), .int (qI fr), .int (qI ti), .int (qI fa)])), (m1, qA (E 0) 635 u9.1), (m2, qA (E 0) 635 ma), (m3, qA (E 0) 3175 g5), (m4, qA (E 0) 140 mt), (m5, qA (E 0) 2 mn), (m6, qA (E 0) 64 u9.2), (m7, qA (E 0) 49152 mr)]) (fun _ => rfl) rfl (Nat.le_of_ble_eq_true rfl) dX5_exchange_25 (fun r6 u9 hw => ?_)
    obtain ⟨g7, g8⟩ := u9
    refine z_ws (ws' := [(m0, .inr (5, [.int (qI (0 : Int)), .ref m1, .ref m2, .ref m3, .int (qI g4), .ref m4, .int (qI le), .ref m5, .ref m6, .ref m7, .int (qI tk), .int (qI fr), .int (qI ti), .int (qI fa)])), (m1, qA (E 0) 635 g7), (m2, qA (E 0) 635 ma), (m3, qA (E 0) 3175 g5), (m4, qA (E 0) 140 mt), (m5, qA (E 0) 2 mn), (m6, qA (E 0) 64 g8), (m7, qA (E 0) 49152 mr)]) rfl ?_
    try dsimp only at hw
    show qZ X 0 0 [(m0, .inr (5, [.int (qI (0 : Int)), .ref m1, .ref m2, .ref m3, .int (qI g4), .ref m4, .int (qI le), .ref m5, .ref m6, .ref m7, .int (qI tk), .int (qI fr), .int (qI ti), .int (qI fa)])), (m1, qA (E 0) 635 g7), (m2, qA (E 0) 635 ma), (m3, qA (E 0) 3175 g5), (m4, qA (E 0) 140 mt), (m5, qA (E 0) 2 mn), (m6, qA (E 0) 64 g8), (m7, qA (E 0) 49152 mr)] _ _ [.int (qI r6)]
    exact hend 28 _ r6 ((0 : Int), g4, g7, g5, g8) dX5_exchange_28 hw
  · replace hw := hw.2.2 c2
    refine z_iload_n C 0 rfl rfl dX5_exchange_16 ?_
    exact hend 17 _ r1 ((0 : Int), sm, ms, mv, ml) dX5_exchange_17 hw
def wp_X5_sort (x1 : Int) (th : Int) (sm : Int) (ms : Nat → Int) (mv : Nat → Int) (ml : Nat → Int) (Φ : Int → Int → Int → (Nat → Int) → (Nat → Int) → (Nat → Int) → Prop) : Prop := wp_X5_sortCode x1 (fun (r1 : Int) => (qR r1 ∧ ((0 : Int) ≤ r1 → wp_X5_act sm ms mv (fun (g4 : Int) (g5 : Nat → Int) => wp_X5_sortNow x1 ms ml (fun (r6 : Int) (g7 : Nat → Int) (g8 : Nat → Int) => Φ r6 (0 : Int) g4 g7 g5 g8))) ∧ (¬ ((0 : Int) ≤ r1) → Φ r1 (0 : Int) sm ms mv ml)))
theorem iX5_sort_X5 : ∀ w ∈ wsX50, w ∈ wsX5_sort := fun w h => List.mem_cons_of_mem _ (List.mem_append_right _ (h))
set_option maxHeartbeats 4000000 in
set_option maxRecDepth 100000 in
theorem c_X5_sort (l : Launch) (D : va_G) (E : Nat → ClassId) (m0 m1 m2 m3 m4 m5 m6 m7 : Nat) (th : Int) (sm : Int) (le : Int) (tk : Int) (fr : Int) (ti : Int) (fa : Int) (ms : Nat → Int) (ma : Nat → Int) (mv : Nat → Int) (mt : Nat → Int) (mn : Nat → Int) (ml : Nat → Int) (mr : Nat → Int) (x1 : Int) {Φ : Int → Int → Int → (Nat → Int) → (Nat → Int) → (Nat → Int) → Prop} (hw : wp_X5_sort x1 th sm ms mv ml Φ) : qRW (σ := (Int) × (Int) × (Nat → Int) × (Nat → Int) × (Nat → Int)) l D E qF0 yX5_sort wsX5_sort 5 113 [(m0, .inr (5, [.int (qI th), .ref m1, .ref m2, .ref m3, .int (qI sm), .ref m4, .int (qI le), .ref m5, .ref m6, .ref m7, .int (qI tk), .int (qI fr), .int (qI ti), .int (qI fa)])), (m1, qA (E 0) 635 ms), (m2, qA (E 0) 635 ma), (m3, qA (E 0) 3175 mv), (m4, qA (E 0) 140 mt), (m5, qA (E 0) 2 mn), (m6, qA (E 0) 64 ml), (m7, qA (E 0) 49152 mr)] [.ref m0, .int (qI x1)] qeI (fun u => [(m0, .inr (5, [.int (qI u.1), .ref m1, .ref m2, .ref m3, .int (qI u.2.1), .ref m4, .int (qI le), .ref m5, .ref m6, .ref m7, .int (qI tk), .int (qI fr), .int (qI ti), .int (qI fa)])), (m1, qA (E 0) 635 u.2.2.1), (m2, qA (E 0) 635 ma), (m3, qA (E 0) 3175 u.2.2.2.1), (m4, qA (E 0) 140 mt), (m5, qA (E 0) 2 mn), (m6, qA (E 0) 64 u.2.2.2.2), (m7, qA (E 0) 49152 mr)]) (fun r u => Φ r u.1 u.2.1 u.2.2.1 u.2.2.2.1 u.2.2.2.2) := by
  refine qRW_int (nL := 3) (own := RX5) qF0_ok (by decide) rfl rfl (Nat.le_of_ble_eq_true rfl) (fun X C hend => ?_)
  unfold wp_X5_sort at hw
  show qZ X 0 0 [(m0, .inr (5, [.int (qI th), .ref m1, .ref m2, .ref m3, .int (qI sm), .ref m4, .int (qI le), .ref m5, .ref m6, .ref m7, .int (qI tk), .int (qI fr), .int (qI ti), .int (qI fa)])), (m1, qA (E 0) 635 ms), (m2, qA (E 0) 635 ma), (m3, qA (E 0) 3175 mv), (m4, qA (E 0) 140 mt), (m5, qA (E 0) 2 mn), (m6, qA (E 0) 64 ml), (m7, qA (E 0) 49152 mr)] 0 [(0, .ref m0), (1, .int (qI x1))] []
  refine z_aload_n C 0 rfl rfl dX5_sort_0 ?_
  refine z_iconst C dX5_sort_1 ?_
  refine z_put (ty := .int) (ws' := [(m0, .inr (5, [.int (qI (0 : Int)), .ref m1, .ref m2, .ref m3, .int (qI sm), .ref m4, .int (qI le), .ref m5, .ref m6, .ref m7, .int (qI tk), .int (qI fr), .int (qI ti), .int (qI fa)])), (m1, qA (E 0) 635 ms), (m2, qA (E 0) 635 ma), (m3, qA (E 0) 3175 mv), (m4, qA (E 0) 140 mt), (m5, qA (E 0) 2 mn), (m6, qA (E 0) 64 ml), (m7, qA (E 0) 49152 mr)]) C iX5_sort_X5 tyX5 tyX5_ok nmX5 0 rfl rfl 0 (by decide) (List.mem_of_getElem? (i := 1) rfl) rfl rfl (by decide +kernel) rfl rfl (Nat.le_of_ble_eq_true rfl) rfl dX5_sort_2 ?_
  refine z_aload_n C 0 rfl rfl dX5_sort_5 ?_
  refine z_iload_n C 1 rfl rfl dX5_sort_6 ?_
  refine z_callV (n := 1) C (c_X5_sortCode l D E m0 m1 m2 m3 m4 m5 m6 m7 (0 : Int) sm le tk fr ti fa ms ma mv mt mn ml mr x1 hw) qF0_ok (fun _ _ _ => trivial) gX5_sort_X5_sortCode rfl (by decide +kernel) ⟨(Nat.le_of_ble_eq_true rfl), (Nat.le_of_ble_eq_true rfl)⟩ rfl 0 rfl rfl [0, 1, 2, 3, 4, 5, 6, 7] rfl rfl (Nat.le_of_ble_eq_true rfl) dX5_sort_7 (fun r1 hw => ?_)
  show qZ X 0 0 [(m0, .inr (5, [.int (qI (0 : Int)), .ref m1, .ref m2, .ref m3, .int (qI sm), .ref m4, .int (qI le), .ref m5, .ref m6, .ref m7, .int (qI tk), .int (qI fr), .int (qI ti), .int (qI fa)])), (m1, qA (E 0) 635 ms), (m2, qA (E 0) 635 ma), (m3, qA (E 0) 3175 mv), (m4, qA (E 0) 140 mt), (m5, qA (E 0) 2 mn), (m6, qA (E 0) 64 ml), (m7, qA (E 0) 49152 mr)] _ _ [.int (qI r1)]
  refine z_istore_n C rfl (by decide) rfl dX5_sort_10 ?_
  refine z_iload_n C 0 rfl rfl dX5_sort_11 ?_
  refine z_if_ge (tgt := 17) C hw.1 (by decide) dX5_sort_12 (fun c2 => ?_) (fun c2 => ?_)
  · replace hw := hw.2.1 c2
    refine z_aload_n C 1 rfl rfl dX5_sort_17 ?_
    refine z_callVW (n := 0) C (c_X5_act l D E m0 m1 m2 m3 m4 m5 m6 m7 (0 : Int) sm le tk fr ti fa ms ma mv mt mn ml mr  hw) qF0_ok (fun _ _ _ => trivial) gX5_sort_X5_act rfl (by decide +kernel) ⟨(Nat.le_of_ble_eq_true rfl), (Nat.le_of_ble_eq_true rfl)⟩ rfl 0 rfl rfl [0, 1, 2, 3, 4, 5, 6, 7] [] (wr := []) rfl rfl rfl rfl (by decide) [0, 1, 2, 3, 4, 5, 6, 7] rfl (fun u9 => [(m0, .inr (5, [.int (qI (0 : Int)), .ref m1, .ref m2, .ref m3, .int (qI u9.1), .ref m4, .int (qI le), .ref m5, .ref m6, .ref m7, .int (qI tk), .int (qI fr), .int (qI ti), .int (qI fa)])), (m1, qA (E 0) 635 ms), (m2, qA (E 0) 635 ma), (m3, qA (E 0) 3175 u9.2), (m4, qA (E 0) 140 mt), (m5, qA (E 0) 2 mn), (m6, qA (E 0) 64 ml), (m7, qA (E 0) 49152 mr)]) (fun _ => rfl) rfl (Nat.le_of_ble_eq_true rfl) dX5_sort_18 (fun r3 u9 hw => ?_)
    obtain ⟨g4, g5⟩ := u9
    refine z_ws (ws' := [(m0, .inr (5, [.int (qI (0 : Int)), .ref m1, .ref m2, .ref m3, .int (qI g4), .ref m4, .int (qI le), .ref m5, .ref m6, .ref m7, .int (qI tk), .int (qI fr), .int (qI ti), .int (qI fa)])), (m1, qA (E 0) 635 ms), (m2, qA (E 0) 635 ma), (m3, qA (E 0) 3175 g5), (m4, qA (E 0) 140 mt), (m5, qA (E 0) 2 mn), (m6, qA (E 0) 64 ml), (m7, qA (E 0) 49152 mr)]) rfl ?_
    try dsimp only at hw
    show qZ X 0 0 [(m0, .inr (5, [.int (qI (0 : Int)), .ref m1, .ref m2, .ref m3, .int (qI g4), .ref m4, .int (qI le), .ref m5, .ref m6, .ref m7, .int (qI tk), .int (qI fr), .int (qI ti), .int (qI fa)])), (m1, qA (E 0) 635 ms), (m2, qA (E 0) 635 ma), (m3, qA (E 0) 3175 g5), (m4, qA (E 0) 140 mt), (m5, qA (E 0) 2 mn), (m6, qA (E 0) 64 ml), (m7, qA (E 0) 49152 mr)] _ _ []
    refine z_aload_n C 1 rfl rfl dX5_sort_21 ?_
    refine z_iload_n C 2 rfl rfl dX5_sort_22 ?_
    refine z_callVW (n := 1) C (c_X5_sortNow l D E m0 m1 m2 m3 m4 m5 m6 m7 (0 : Int) g4 le tk fr ti fa ms ma g5 mt mn ml mr x1 hw) qF0_ok (fun _ _ _ => trivial) gX5_sort_X5_sortNow rfl (by decide +kernel) ⟨(Nat.le_of_ble_eq_true rfl), (Nat.le_of_ble_eq_true rfl)⟩ rfl 0 rfl rfl [0, 1, 2, 3, 4, 5, 6, 7] [] (wr := []) rfl rfl rfl rfl (by decide) [0, 1, 2, 3, 4, 5, 6, 7] rfl (fun u9 => [(m0, .inr (5, [.int (qI (0 : Int)), .ref m1, .ref m2, .ref m3, .int (qI g4), .ref m4, .int (qI le), .ref m5, .ref m6, .ref m7, .int (qI tk), .int (qI fr), .int (qI ti), .int (qI fa)])), (m1, qA (E 0) 635 u9.1), (m2, qA (E 0) 635 ma), (m3, qA (E 0) 3175 g5), (m4, qA (E 0) 140 mt), (m5, qA (E 0) 2 mn), (m6, qA (E 0) 64 u9.2), (m7, qA (E 0) 49152 mr)]) (fun _ => rfl) rfl (Nat.le_of_ble_eq_true rfl) dX5_sort_23 (fun r6 u9 hw => ?_)
    obtain ⟨g7, g8⟩ := u9
    refine z_ws (ws' := [(m0, .inr (5, [.int (qI (0 : Int)), .ref m1, .ref m2, .ref m3, .int (qI g4), .ref m4, .int (qI le), .ref m5, .ref m6, .ref m7, .int (qI tk), .int (qI fr), .int (qI ti), .int (qI fa)])), (m1, qA (E 0) 635 g7), (m2, qA (E 0) 635 ma), (m3, qA (E 0) 3175 g5), (m4, qA (E 0) 140 mt), (m5, qA (E 0) 2 mn), (m6, qA (E 0) 64 g8), (m7, qA (E 0) 49152 mr)]) rfl ?_
    try dsimp only at hw
    show qZ X 0 0 [(m0, .inr (5, [.int (qI (0 : Int)), .ref m1, .ref m2, .ref m3, .int (qI g4), .ref m4, .int (qI le), .ref m5, .ref m6, .ref m7, .int (qI tk), .int (qI fr), .int (qI ti), .int (qI fa)])), (m1, qA (E 0) 635 g7), (m2, qA (E 0) 635 ma), (m3, qA (E 0) 3175 g5), (m4, qA (E 0) 140 mt), (m5, qA (E 0) 2 mn), (m6, qA (E 0) 64 g8), (m7, qA (E 0) 49152 mr)] _ _ [.int (qI r6)]
    exact hend 26 _ r6 ((0 : Int), g4, g7, g5, g8) dX5_sort_26 hw
  · replace hw := hw.2.2 c2
    refine z_iload_n C 0 rfl rfl dX5_sort_15 ?_
    exact hend 16 _ r1 ((0 : Int), sm, ms, mv, ml) dX5_sort_16 hw
def wp_X5_draw_26 (Φ : Int → Int → Int → (Nat → Int) → (Nat → Int) → Prop)  (th : Int) (sm : Int) (ms : Nat → Int) (mv : Nat → Int) : Prop := Φ (-1 : Int) th sm ms mv
def wp_X5_draw (x1 : Int) (x2 : Int) (x3 : Int) (th : Int) (sm : Int) (ms : Nat → Int) (mv : Nat → Int) (Φ : Int → Int → Int → (Nat → Int) → (Nat → Int) → Prop) : Prop := wp_X5_isBit x1 (fun (r1 : Int) => (qR r1 ∧ (r1 = (0 : Int) → wp_X5_draw_26 Φ  (0 : Int) sm ms mv) ∧ (¬ (r1 = (0 : Int)) → wp_X5_isSpot x2 (fun (r3 : Int) => (qR r3 ∧ (r3 = (0 : Int) → wp_X5_draw_26 Φ  (0 : Int) sm ms mv) ∧ (¬ (r3 = (0 : Int)) → wp_X5_isBit x3 (fun (r5 : Int) => (qR r5 ∧ (¬ r5 = (0 : Int) → wp_X5_act sm ms mv (fun (g8 : Int) (g9 : Nat → Int) => wp_X5_drawNow x1 x2 x3 ms (fun (r10 : Int) (g11 : Nat → Int) => Φ r10 (0 : Int) g8 g11 g9))) ∧ (¬ (¬ r5 = (0 : Int)) → wp_X5_draw_26 Φ  (0 : Int) sm ms mv)))))))))
theorem iX5_draw_X5 : ∀ w ∈ wsX50, w ∈ wsX5_draw := fun w h => List.mem_cons_of_mem _ (List.mem_append_right _ (h))
set_option maxHeartbeats 4000000 in
set_option maxRecDepth 100000 in
theorem c_X5_draw (l : Launch) (D : va_G) (E : Nat → ClassId) (m0 m1 m2 m3 m4 m5 m6 m7 : Nat) (th : Int) (sm : Int) (le : Int) (tk : Int) (fr : Int) (ti : Int) (fa : Int) (ms : Nat → Int) (ma : Nat → Int) (mv : Nat → Int) (mt : Nat → Int) (mn : Nat → Int) (ml : Nat → Int) (mr : Nat → Int) (x1 : Int) (x2 : Int) (x3 : Int) {Φ : Int → Int → Int → (Nat → Int) → (Nat → Int) → Prop} (hw : wp_X5_draw x1 x2 x3 th sm ms mv Φ) : qRW (σ := (Int) × (Int) × (Nat → Int) × (Nat → Int)) l D E qF0 yX5_draw wsX5_draw 2 46 [(m0, .inr (5, [.int (qI th), .ref m1, .ref m2, .ref m3, .int (qI sm), .ref m4, .int (qI le), .ref m5, .ref m6, .ref m7, .int (qI tk), .int (qI fr), .int (qI ti), .int (qI fa)])), (m1, qA (E 0) 635 ms), (m2, qA (E 0) 635 ma), (m3, qA (E 0) 3175 mv), (m4, qA (E 0) 140 mt), (m5, qA (E 0) 2 mn), (m6, qA (E 0) 64 ml), (m7, qA (E 0) 49152 mr)] [.ref m0, .int (qI x1), .int (qI x2), .int (qI x3)] qeI (fun u => [(m0, .inr (5, [.int (qI u.1), .ref m1, .ref m2, .ref m3, .int (qI u.2.1), .ref m4, .int (qI le), .ref m5, .ref m6, .ref m7, .int (qI tk), .int (qI fr), .int (qI ti), .int (qI fa)])), (m1, qA (E 0) 635 u.2.2.1), (m2, qA (E 0) 635 ma), (m3, qA (E 0) 3175 u.2.2.2), (m4, qA (E 0) 140 mt), (m5, qA (E 0) 2 mn), (m6, qA (E 0) 64 ml), (m7, qA (E 0) 49152 mr)]) (fun r u => Φ r u.1 u.2.1 u.2.2.1 u.2.2.2) := by
  refine qRW_int (nL := 4) (own := RX5) qF0_ok (by decide) rfl rfl (Nat.le_of_ble_eq_true rfl) (fun X C hend => ?_)
  have hB26 : ∀ th : Int, ∀ sm : Int, ∀ ms : Nat → Int, ∀ mv : Nat → Int, wp_X5_draw_26 Φ  th sm ms mv → qZ X 0 0 [(m0, .inr (5, [.int (qI th), .ref m1, .ref m2, .ref m3, .int (qI sm), .ref m4, .int (qI le), .ref m5, .ref m6, .ref m7, .int (qI tk), .int (qI fr), .int (qI ti), .int (qI fa)])), (m1, qA (E 0) 635 ms), (m2, qA (E 0) 635 ma), (m3, qA (E 0) 3175 mv), (m4, qA (E 0) 140 mt), (m5, qA (E 0) 2 mn), (m6, qA (E 0) 64 ml), (m7, qA (E 0) 49152 mr)] 26 [] [] := by
    intro th sm ms mv hw
    unfold wp_X5_draw_26 at hw
    refine z_iconst C dX5_draw_26 ?_
    exact hend 27 _ (-1 : Int) (th, sm, ms, mv) dX5_draw_27 hw
  unfold wp_X5_draw at hw
  show qZ X 0 0 [(m0, .inr (5, [.int (qI th), .ref m1, .ref m2, .ref m3, .int (qI sm), .ref m4, .int (qI le), .ref m5, .ref m6, .ref m7, .int (qI tk), .int (qI fr), .int (qI ti), .int (qI fa)])), (m1, qA (E 0) 635 ms), (m2, qA (E 0) 635 ma), (m3, qA (E 0) 3175 mv), (m4, qA (E 0) 140 mt), (m5, qA (E 0) 2 mn), (m6, qA (E 0) 64 ml), (m7, qA (E 0) 49152 mr)] 0 [(0, .ref m0), (1, .int (qI x1)), (2, .int (qI x2)), (3, .int (qI x3))] []
  refine z_aload_n C 0 rfl rfl dX5_draw_0 ?_
  refine z_iconst C dX5_draw_1 ?_
  refine z_put (ty := .int) (ws' := [(m0, .inr (5, [.int (qI (0 : Int)), .ref m1, .ref m2, .ref m3, .int (qI sm), .ref m4, .int (qI le), .ref m5, .ref m6, .ref m7, .int (qI tk), .int (qI fr), .int (qI ti), .int (qI fa)])), (m1, qA (E 0) 635 ms), (m2, qA (E 0) 635 ma), (m3, qA (E 0) 3175 mv), (m4, qA (E 0) 140 mt), (m5, qA (E 0) 2 mn), (m6, qA (E 0) 64 ml), (m7, qA (E 0) 49152 mr)]) C iX5_draw_X5 tyX5 tyX5_ok nmX5 0 rfl rfl 0 (by decide) (List.mem_of_getElem? (i := 1) rfl) rfl rfl (by decide +kernel) rfl rfl (Nat.le_of_ble_eq_true rfl) rfl dX5_draw_2 ?_
  refine z_iload_n C 1 rfl rfl dX5_draw_5 ?_
  refine z_callS (n := 1) C (c_X5_isBit l D E   x1 hw) qF0_ok (fun _ _ _ => trivial) gX5_draw_X5_isBit rfl (by decide +kernel) ⟨(Nat.le_of_ble_eq_true rfl), (Nat.le_of_ble_eq_true rfl)⟩ rfl [] rfl rfl (Nat.le_of_ble_eq_true rfl) dX5_draw_6 (fun r1 hw => ?_)
  show qZ X 0 0 [(m0, .inr (5, [.int (qI (0 : Int)), .ref m1, .ref m2, .ref m3, .int (qI sm), .ref m4, .int (qI le), .ref m5, .ref m6, .ref m7, .int (qI tk), .int (qI fr), .int (qI ti), .int (qI fa)])), (m1, qA (E 0) 635 ms), (m2, qA (E 0) 635 ma), (m3, qA (E 0) 3175 mv), (m4, qA (E 0) 140 mt), (m5, qA (E 0) 2 mn), (m6, qA (E 0) 64 ml), (m7, qA (E 0) 49152 mr)] _ _ [.int (qI r1)]
  refine z_if_eq (tgt := 26) C hw.1 (by decide) dX5_draw_9 (fun c2 => ?_) (fun c2 => ?_)
  · replace hw := hw.2.1 c2
    refine z_lst (ps := []) (lv' := []) (st' := []) rfl rfl ?_
    exact hB26 (0 : Int) sm ms mv hw
  · replace hw := hw.2.2 c2
    refine z_iload_n C 2 rfl rfl dX5_draw_12 ?_
    refine z_callS (n := 1) C (c_X5_isSpot l D E   x2 hw) qF0_ok (fun _ _ _ => trivial) gX5_draw_X5_isSpot rfl (by decide +kernel) ⟨(Nat.le_of_ble_eq_true rfl), (Nat.le_of_ble_eq_true rfl)⟩ rfl [] rfl rfl (Nat.le_of_ble_eq_true rfl) dX5_draw_13 (fun r3 hw => ?_)
    show qZ X 0 0 [(m0, .inr (5, [.int (qI (0 : Int)), .ref m1, .ref m2, .ref m3, .int (qI sm), .ref m4, .int (qI le), .ref m5, .ref m6, .ref m7, .int (qI tk), .int (qI fr), .int (qI ti), .int (qI fa)])), (m1, qA (E 0) 635 ms), (m2, qA (E 0) 635 ma), (m3, qA (E 0) 3175 mv), (m4, qA (E 0) 140 mt), (m5, qA (E 0) 2 mn), (m6, qA (E 0) 64 ml), (m7, qA (E 0) 49152 mr)] _ _ [.int (qI r3)]
    refine z_if_eq (tgt := 26) C hw.1 (by decide) dX5_draw_16 (fun c4 => ?_) (fun c4 => ?_)
    · replace hw := hw.2.1 c4
      refine z_lst (ps := []) (lv' := []) (st' := []) rfl rfl ?_
      exact hB26 (0 : Int) sm ms mv hw
    · replace hw := hw.2.2 c4
      refine z_iload_n C 3 rfl rfl dX5_draw_19 ?_
      refine z_callS (n := 1) C (c_X5_isBit l D E   x3 hw) qF0_ok (fun _ _ _ => trivial) gX5_draw_X5_isBit rfl (by decide +kernel) ⟨(Nat.le_of_ble_eq_true rfl), (Nat.le_of_ble_eq_true rfl)⟩ rfl [] rfl rfl (Nat.le_of_ble_eq_true rfl) dX5_draw_20 (fun r5 hw => ?_)
      show qZ X 0 0 [(m0, .inr (5, [.int (qI (0 : Int)), .ref m1, .ref m2, .ref m3, .int (qI sm), .ref m4, .int (qI le), .ref m5, .ref m6, .ref m7, .int (qI tk), .int (qI fr), .int (qI ti), .int (qI fa)])), (m1, qA (E 0) 635 ms), (m2, qA (E 0) 635 ma), (m3, qA (E 0) 3175 mv), (m4, qA (E 0) 140 mt), (m5, qA (E 0) 2 mn), (m6, qA (E 0) 64 ml), (m7, qA (E 0) 49152 mr)] _ _ [.int (qI r5)]
      refine z_if_ne (tgt := 28) C hw.1 (by decide) dX5_draw_23 (fun c6 => ?_) (fun c6 => ?_)
      · replace hw := hw.2.1 c6
        refine z_aload_n C 0 rfl rfl dX5_draw_28 ?_
        refine z_callVW (n := 0) C (c_X5_act l D E m0 m1 m2 m3 m4 m5 m6 m7 (0 : Int) sm le tk fr ti fa ms ma mv mt mn ml mr  hw) qF0_ok (fun _ _ _ => trivial) gX5_draw_X5_act rfl (by decide +kernel) ⟨(Nat.le_of_ble_eq_true rfl), (Nat.le_of_ble_eq_true rfl)⟩ rfl 0 rfl rfl [0, 1, 2, 3, 4, 5, 6, 7] [] (wr := []) rfl rfl rfl rfl (by decide) [0, 1, 2, 3, 4, 5, 6, 7] rfl (fun u9 => [(m0, .inr (5, [.int (qI (0 : Int)), .ref m1, .ref m2, .ref m3, .int (qI u9.1), .ref m4, .int (qI le), .ref m5, .ref m6, .ref m7, .int (qI tk), .int (qI fr), .int (qI ti), .int (qI fa)])), (m1, qA (E 0) 635 ms), (m2, qA (E 0) 635 ma), (m3, qA (E 0) 3175 u9.2), (m4, qA (E 0) 140 mt), (m5, qA (E 0) 2 mn), (m6, qA (E 0) 64 ml), (m7, qA (E 0) 49152 mr)]) (fun _ => rfl) rfl (Nat.le_of_ble_eq_true rfl) dX5_draw_29 (fun r7 u9 hw => ?_)
        obtain ⟨g8, g9⟩ := u9
        refine z_ws (ws' := [(m0, .inr (5, [.int (qI (0 : Int)), .ref m1, .ref m2, .ref m3, .int (qI g8), .ref m4, .int (qI le), .ref m5, .ref m6, .ref m7, .int (qI tk), .int (qI fr), .int (qI ti), .int (qI fa)])), (m1, qA (E 0) 635 ms), (m2, qA (E 0) 635 ma), (m3, qA (E 0) 3175 g9), (m4, qA (E 0) 140 mt), (m5, qA (E 0) 2 mn), (m6, qA (E 0) 64 ml), (m7, qA (E 0) 49152 mr)]) rfl ?_
        try dsimp only at hw
        show qZ X 0 0 [(m0, .inr (5, [.int (qI (0 : Int)), .ref m1, .ref m2, .ref m3, .int (qI g8), .ref m4, .int (qI le), .ref m5, .ref m6, .ref m7, .int (qI tk), .int (qI fr), .int (qI ti), .int (qI fa)])), (m1, qA (E 0) 635 ms), (m2, qA (E 0) 635 ma), (m3, qA (E 0) 3175 g9), (m4, qA (E 0) 140 mt), (m5, qA (E 0) 2 mn), (m6, qA (E 0) 64 ml), (m7, qA (E 0) 49152 mr)] _ _ []
        refine z_aload_n C 0 rfl rfl dX5_draw_32 ?_
        refine z_iload_n C 1 rfl rfl dX5_draw_33 ?_
        refine z_iload_n C 2 rfl rfl dX5_draw_34 ?_
        refine z_iload_n C 3 rfl rfl dX5_draw_35 ?_
        refine z_callVW (n := 3) C (c_X5_drawNow l D E m0 m1 m2 m3 m4 m5 m6 m7 (0 : Int) g8 le tk fr ti fa ms ma g9 mt mn ml mr x1 x2 x3 hw) qF0_ok (fun _ _ _ => trivial) gX5_draw_X5_drawNow rfl (by decide +kernel) ⟨(Nat.le_of_ble_eq_true rfl), (Nat.le_of_ble_eq_true rfl)⟩ rfl 0 rfl rfl [0, 1, 2, 3, 4, 5, 6, 7] [] (wr := []) rfl rfl rfl rfl (by decide) [0, 1, 2, 3, 4, 5, 6, 7] rfl (fun u9 => [(m0, .inr (5, [.int (qI (0 : Int)), .ref m1, .ref m2, .ref m3, .int (qI g8), .ref m4, .int (qI le), .ref m5, .ref m6, .ref m7, .int (qI tk), .int (qI fr), .int (qI ti), .int (qI fa)])), (m1, qA (E 0) 635 u9), (m2, qA (E 0) 635 ma), (m3, qA (E 0) 3175 g9), (m4, qA (E 0) 140 mt), (m5, qA (E 0) 2 mn), (m6, qA (E 0) 64 ml), (m7, qA (E 0) 49152 mr)]) (fun _ => rfl) rfl (Nat.le_of_ble_eq_true rfl) dX5_draw_36 (fun r10 u9 hw => ?_)
        obtain ⟨g11, rfl⟩ : ∃ z, z = u9 := ⟨_, rfl⟩
        refine z_ws (ws' := [(m0, .inr (5, [.int (qI (0 : Int)), .ref m1, .ref m2, .ref m3, .int (qI g8), .ref m4, .int (qI le), .ref m5, .ref m6, .ref m7, .int (qI tk), .int (qI fr), .int (qI ti), .int (qI fa)])), (m1, qA (E 0) 635 g11), (m2, qA (E 0) 635 ma), (m3, qA (E 0) 3175 g9), (m4, qA (E 0) 140 mt), (m5, qA (E 0) 2 mn), (m6, qA (E 0) 64 ml), (m7, qA (E 0) 49152 mr)]) rfl ?_
        try dsimp only at hw
        show qZ X 0 0 [(m0, .inr (5, [.int (qI (0 : Int)), .ref m1, .ref m2, .ref m3, .int (qI g8), .ref m4, .int (qI le), .ref m5, .ref m6, .ref m7, .int (qI tk), .int (qI fr), .int (qI ti), .int (qI fa)])), (m1, qA (E 0) 635 g11), (m2, qA (E 0) 635 ma), (m3, qA (E 0) 3175 g9), (m4, qA (E 0) 140 mt), (m5, qA (E 0) 2 mn), (m6, qA (E 0) 64 ml), (m7, qA (E 0) 49152 mr)] _ _ [.int (qI r10)]
        exact hend 39 _ r10 ((0 : Int), g8, g11, g9) dX5_draw_39 hw
      · replace hw := hw.2.2 c6
        refine z_lst (ps := []) (lv' := []) (st' := []) rfl rfl ?_
        exact hB26 (0 : Int) sm ms mv hw
def wp_X5_take_30 (Φ : Int → Int → Int → (Nat → Int) → (Nat → Int) → Prop)  (x1 : Int) (th : Int) (sm : Int) (mv : Nat → Int) : Nat → Int → (Nat → Int) → Prop
  | 0, _, _ => False
  | n9 + 1, x2, ms => ((qR x2 ∧ qR (211 : Int)) ∧ ((211 : Int) ≤ x2 → ((0 ≤ (6 : Int) ∧ (6 : Int) < 635) ∧ (∀ v2 : Int, v2 = ms ((6 : Int)).toNat → Φ v2 th sm ms mv))) ∧ (¬ ((211 : Int) ≤ x2) → wp_X5_slotAt x1 (fun (r3 : Int) => ((0 ≤ x2 ∧ x2 < 635) ∧ (∀ v4 : Int, v4 = ms (x2).toNat → ((0 ≤ ((r3 + (1 : Int)) + x2) ∧ ((r3 + (1 : Int)) + x2) < 635) ∧ ∀ g5 : Nat → Int, g5 = qU ms (((r3 + (1 : Int)) + x2)).toNat v4 → (∀ v6 : Int, v6 = x2 + (1 : Int) → wp_X5_take_30 Φ  x1 th sm mv n9 v6 g5)))))))
def wp_X5_take (x1 : Int) (th : Int) (sm : Int) (ms : Nat → Int) (mv : Nat → Int) (Φ : Int → Int → Int → (Nat → Int) → (Nat → Int) → Prop) : Prop := wp_X5_isBit x1 (fun (r7 : Int) => (qR r7 ∧ (¬ r7 = (0 : Int) → wp_X5_act sm ms mv (fun (g10 : Int) (g11 : Nat → Int) => wp_X5_slotAt x1 (fun (r12 : Int) => ((0 ≤ r12 ∧ r12 < 635) ∧ ∀ g13 : Nat → Int, g13 = qU ms (r12).toNat (1 : Int) → ∃ n : Nat, wp_X5_take_30 Φ  x1 (0 : Int) g10 g11 n (0 : Int) g13)))) ∧ (¬ (¬ r7 = (0 : Int)) → Φ (-1 : Int) (0 : Int) sm ms mv)))
theorem iX5_take_X5 : ∀ w ∈ wsX50, w ∈ wsX5_take := fun w h => List.mem_cons_of_mem _ (List.mem_append_right _ (h))
set_option maxHeartbeats 4000000 in
set_option maxRecDepth 100000 in
theorem c_X5_take (l : Launch) (D : va_G) (E : Nat → ClassId) (m0 m1 m2 m3 m4 m5 m6 m7 : Nat) (th : Int) (sm : Int) (le : Int) (tk : Int) (fr : Int) (ti : Int) (fa : Int) (ms : Nat → Int) (ma : Nat → Int) (mv : Nat → Int) (mt : Nat → Int) (mn : Nat → Int) (ml : Nat → Int) (mr : Nat → Int) (x1 : Int) {Φ : Int → Int → Int → (Nat → Int) → (Nat → Int) → Prop} (hw : wp_X5_take x1 th sm ms mv Φ) : qRW (σ := (Int) × (Int) × (Nat → Int) × (Nat → Int)) l D E qF0 yX5_take wsX5_take 2 42 [(m0, .inr (5, [.int (qI th), .ref m1, .ref m2, .ref m3, .int (qI sm), .ref m4, .int (qI le), .ref m5, .ref m6, .ref m7, .int (qI tk), .int (qI fr), .int (qI ti), .int (qI fa)])), (m1, qA (E 0) 635 ms), (m2, qA (E 0) 635 ma), (m3, qA (E 0) 3175 mv), (m4, qA (E 0) 140 mt), (m5, qA (E 0) 2 mn), (m6, qA (E 0) 64 ml), (m7, qA (E 0) 49152 mr)] [.ref m0, .int (qI x1)] qeI (fun u => [(m0, .inr (5, [.int (qI u.1), .ref m1, .ref m2, .ref m3, .int (qI u.2.1), .ref m4, .int (qI le), .ref m5, .ref m6, .ref m7, .int (qI tk), .int (qI fr), .int (qI ti), .int (qI fa)])), (m1, qA (E 0) 635 u.2.2.1), (m2, qA (E 0) 635 ma), (m3, qA (E 0) 3175 u.2.2.2), (m4, qA (E 0) 140 mt), (m5, qA (E 0) 2 mn), (m6, qA (E 0) 64 ml), (m7, qA (E 0) 49152 mr)]) (fun r u => Φ r u.1 u.2.1 u.2.2.1 u.2.2.2) := by
  refine qRW_int (nL := 3) (own := RX5) qF0_ok (by decide) rfl rfl (Nat.le_of_ble_eq_true rfl) (fun X C hend => ?_)
  have hB30 : ∀ x1 : Int, ∀ th : Int, ∀ sm : Int, ∀ mv : Nat → Int, ∀ n8 : Nat, ∀ x2 : Int, ∀ ms : Nat → Int, wp_X5_take_30 Φ  x1 th sm mv n8 x2 ms → qZ X 0 0 [(m0, .inr (5, [.int (qI th), .ref m1, .ref m2, .ref m3, .int (qI sm), .ref m4, .int (qI le), .ref m5, .ref m6, .ref m7, .int (qI tk), .int (qI fr), .int (qI ti), .int (qI fa)])), (m1, qA (E 0) 635 ms), (m2, qA (E 0) 635 ma), (m3, qA (E 0) 3175 mv), (m4, qA (E 0) 140 mt), (m5, qA (E 0) 2 mn), (m6, qA (E 0) 64 ml), (m7, qA (E 0) 49152 mr)] 30 [(0, .ref m0), (1, .int (qI x1)), (2, .int (qI x2))] [] := by
    intro x1 th sm mv n8
    induction n8 with
    | zero =>
      intro x2 ms hw
      exact hw.elim
    | succ n9 ih =>
      intro x2 ms hw
      unfold wp_X5_take_30 at hw
      refine z_iload_n C 2 rfl rfl dX5_take_30 ?_
      refine z_sipush C (by decide +kernel) dX5_take_31 ?_
      refine z_icmp_ge (tgt := 62) C hw.1 (by decide) dX5_take_34 (fun c1 => ?_) (fun c1 => ?_)
      · replace hw := hw.2.1 c1
        refine z_aload_n C 0 rfl rfl dX5_take_62 ?_
        refine z_get C iX5_take_X5 0 rfl rfl 1 (by decide) (List.mem_of_getElem? (i := 2) rfl) rfl rfl dX5_take_63 ?_
        refine z_bipush C (by decide +kernel) dX5_take_66 ?_
        refine z_iald C 1 rfl (by decide) hw.1 dX5_take_68 ?_
        replace hw := hw.2
        refine z_name (fun v2 ev2 => ?_)
        replace hw := hw v2 ev2
        exact hend 69 _ v2 (th, sm, ms, mv) dX5_take_69 hw
      · replace hw := hw.2.2 c1
        refine z_aload_n C 0 rfl rfl dX5_take_37 ?_
        refine z_get C iX5_take_X5 0 rfl rfl 1 (by decide) (List.mem_of_getElem? (i := 2) rfl) rfl rfl dX5_take_38 ?_
        refine z_iload_n C 1 rfl rfl dX5_take_41 ?_
        refine z_callS (n := 1) C (c_X5_slotAt l D E   x1 hw) qF0_ok (fun _ _ _ => trivial) gX5_take_X5_slotAt rfl (by decide +kernel) ⟨(Nat.le_of_ble_eq_true rfl), (Nat.le_of_ble_eq_true rfl)⟩ rfl [] rfl rfl (Nat.le_of_ble_eq_true rfl) dX5_take_42 (fun r3 hw => ?_)
        show qZ X 0 0 [(m0, .inr (5, [.int (qI th), .ref m1, .ref m2, .ref m3, .int (qI sm), .ref m4, .int (qI le), .ref m5, .ref m6, .ref m7, .int (qI tk), .int (qI fr), .int (qI ti), .int (qI fa)])), (m1, qA (E 0) 635 ms), (m2, qA (E 0) 635 ma), (m3, qA (E 0) 3175 mv), (m4, qA (E 0) 140 mt), (m5, qA (E 0) 2 mn), (m6, qA (E 0) 64 ml), (m7, qA (E 0) 49152 mr)] _ _ [.int (qI r3), .ref m1]
        refine z_iconst C dX5_take_45 ?_
        refine z_iadd C dX5_take_46 ?_
        refine z_iload_n C 2 rfl rfl dX5_take_47 ?_
        refine z_iadd C dX5_take_48 ?_
        refine z_aload_n C 0 rfl rfl dX5_take_49 ?_
        refine z_get C iX5_take_X5 0 rfl rfl 1 (by decide) (List.mem_of_getElem? (i := 2) rfl) rfl rfl dX5_take_50 ?_
        refine z_iload_n C 2 rfl rfl dX5_take_53 ?_
        refine z_iald C 1 rfl (by decide) hw.1 dX5_take_54 ?_
        replace hw := hw.2
        refine z_name (fun v4 ev4 => ?_)
        replace hw := hw v4 ev4
        refine z_iast C 1 rfl (by decide) hw.1 (fun g5 => [(m0, .inr (5, [.int (qI th), .ref m1, .ref m2, .ref m3, .int (qI sm), .ref m4, .int (qI le), .ref m5, .ref m6, .ref m7, .int (qI tk), .int (qI fr), .int (qI ti), .int (qI fa)])), (m1, qA (E 0) 635 g5), (m2, qA (E 0) 635 ma), (m3, qA (E 0) 3175 mv), (m4, qA (E 0) 140 mt), (m5, qA (E 0) 2 mn), (m6, qA (E 0) 64 ml), (m7, qA (E 0) 49152 mr)]) (fun _ => rfl) dX5_take_55 (fun g5 eg5 => ?_)
        replace hw := hw.2 g5 eg5
        obtain ⟨v6, ev6⟩ : ∃ v6 : Int, v6 = x2 + (1 : Int) := ⟨_, rfl⟩
        replace hw := hw v6 ev6
        refine z_iinc C 2 rfl (by decide) v6 ev6 rfl dX5_take_56 ?_
        refine z_goto (tgt := 30) C (by decide) dX5_take_59 ?_
        refine z_lst (ps := [1, 2, 0]) (lv' := [(0, .ref m0), (1, .int (qI x1)), (2, .int (qI v6))]) (st' := []) rfl rfl ?_
        exact ih v6 g5 hw
  unfold wp_X5_take at hw
  show qZ X 0 0 [(m0, .inr (5, [.int (qI th), .ref m1, .ref m2, .ref m3, .int (qI sm), .ref m4, .int (qI le), .ref m5, .ref m6, .ref m7, .int (qI tk), .int (qI fr), .int (qI ti), .int (qI fa)])), (m1, qA (E 0) 635 ms), (m2, qA (E 0) 635 ma), (m3, qA (E 0) 3175 mv), (m4, qA (E 0) 140 mt), (m5, qA (E 0) 2 mn), (m6, qA (E 0) 64 ml), (m7, qA (E 0) 49152 mr)] 0 [(0, .ref m0), (1, .int (qI x1))] []
  refine z_aload_n C 0 rfl rfl dX5_take_0 ?_
  refine z_iconst C dX5_take_1 ?_
  refine z_put (ty := .int) (ws' := [(m0, .inr (5, [.int (qI (0 : Int)), .ref m1, .ref m2, .ref m3, .int (qI sm), .ref m4, .int (qI le), .ref m5, .ref m6, .ref m7, .int (qI tk), .int (qI fr), .int (qI ti), .int (qI fa)])), (m1, qA (E 0) 635 ms), (m2, qA (E 0) 635 ma), (m3, qA (E 0) 3175 mv), (m4, qA (E 0) 140 mt), (m5, qA (E 0) 2 mn), (m6, qA (E 0) 64 ml), (m7, qA (E 0) 49152 mr)]) C iX5_take_X5 tyX5 tyX5_ok nmX5 0 rfl rfl 0 (by decide) (List.mem_of_getElem? (i := 1) rfl) rfl rfl (by decide +kernel) rfl rfl (Nat.le_of_ble_eq_true rfl) rfl dX5_take_2 ?_
  refine z_iload_n C 1 rfl rfl dX5_take_5 ?_
  refine z_callS (n := 1) C (c_X5_isBit l D E   x1 hw) qF0_ok (fun _ _ _ => trivial) gX5_take_X5_isBit rfl (by decide +kernel) ⟨(Nat.le_of_ble_eq_true rfl), (Nat.le_of_ble_eq_true rfl)⟩ rfl [] rfl rfl (Nat.le_of_ble_eq_true rfl) dX5_take_6 (fun r7 hw => ?_)
  show qZ X 0 0 [(m0, .inr (5, [.int (qI (0 : Int)), .ref m1, .ref m2, .ref m3, .int (qI sm), .ref m4, .int (qI le), .ref m5, .ref m6, .ref m7, .int (qI tk), .int (qI fr), .int (qI ti), .int (qI fa)])), (m1, qA (E 0) 635 ms), (m2, qA (E 0) 635 ma), (m3, qA (E 0) 3175 mv), (m4, qA (E 0) 140 mt), (m5, qA (E 0) 2 mn), (m6, qA (E 0) 64 ml), (m7, qA (E 0) 49152 mr)] _ _ [.int (qI r7)]
  refine z_if_ne (tgt := 14) C hw.1 (by decide) dX5_take_9 (fun c8 => ?_) (fun c8 => ?_)
  · replace hw := hw.2.1 c8
    refine z_aload_n C 0 rfl rfl dX5_take_14 ?_
    refine z_callVW (n := 0) C (c_X5_act l D E m0 m1 m2 m3 m4 m5 m6 m7 (0 : Int) sm le tk fr ti fa ms ma mv mt mn ml mr  hw) qF0_ok (fun _ _ _ => trivial) gX5_take_X5_act rfl (by decide +kernel) ⟨(Nat.le_of_ble_eq_true rfl), (Nat.le_of_ble_eq_true rfl)⟩ rfl 0 rfl rfl [0, 1, 2, 3, 4, 5, 6, 7] [] (wr := []) rfl rfl rfl rfl (by decide) [0, 1, 2, 3, 4, 5, 6, 7] rfl (fun u9 => [(m0, .inr (5, [.int (qI (0 : Int)), .ref m1, .ref m2, .ref m3, .int (qI u9.1), .ref m4, .int (qI le), .ref m5, .ref m6, .ref m7, .int (qI tk), .int (qI fr), .int (qI ti), .int (qI fa)])), (m1, qA (E 0) 635 ms), (m2, qA (E 0) 635 ma), (m3, qA (E 0) 3175 u9.2), (m4, qA (E 0) 140 mt), (m5, qA (E 0) 2 mn), (m6, qA (E 0) 64 ml), (m7, qA (E 0) 49152 mr)]) (fun _ => rfl) rfl (Nat.le_of_ble_eq_true rfl) dX5_take_15 (fun r9 u9 hw => ?_)
    obtain ⟨g10, g11⟩ := u9
    refine z_ws (ws' := [(m0, .inr (5, [.int (qI (0 : Int)), .ref m1, .ref m2, .ref m3, .int (qI g10), .ref m4, .int (qI le), .ref m5, .ref m6, .ref m7, .int (qI tk), .int (qI fr), .int (qI ti), .int (qI fa)])), (m1, qA (E 0) 635 ms), (m2, qA (E 0) 635 ma), (m3, qA (E 0) 3175 g11), (m4, qA (E 0) 140 mt), (m5, qA (E 0) 2 mn), (m6, qA (E 0) 64 ml), (m7, qA (E 0) 49152 mr)]) rfl ?_
    try dsimp only at hw
    show qZ X 0 0 [(m0, .inr (5, [.int (qI (0 : Int)), .ref m1, .ref m2, .ref m3, .int (qI g10), .ref m4, .int (qI le), .ref m5, .ref m6, .ref m7, .int (qI tk), .int (qI fr), .int (qI ti), .int (qI fa)])), (m1, qA (E 0) 635 ms), (m2, qA (E 0) 635 ma), (m3, qA (E 0) 3175 g11), (m4, qA (E 0) 140 mt), (m5, qA (E 0) 2 mn), (m6, qA (E 0) 64 ml), (m7, qA (E 0) 49152 mr)] _ _ []
    refine z_aload_n C 0 rfl rfl dX5_take_18 ?_
    refine z_get C iX5_take_X5 0 rfl rfl 1 (by decide) (List.mem_of_getElem? (i := 2) rfl) rfl rfl dX5_take_19 ?_
    refine z_iload_n C 1 rfl rfl dX5_take_22 ?_
    refine z_callS (n := 1) C (c_X5_slotAt l D E   x1 hw) qF0_ok (fun _ _ _ => trivial) gX5_take_X5_slotAt rfl (by decide +kernel) ⟨(Nat.le_of_ble_eq_true rfl), (Nat.le_of_ble_eq_true rfl)⟩ rfl [] rfl rfl (Nat.le_of_ble_eq_true rfl) dX5_take_23 (fun r12 hw => ?_)
    show qZ X 0 0 [(m0, .inr (5, [.int (qI (0 : Int)), .ref m1, .ref m2, .ref m3, .int (qI g10), .ref m4, .int (qI le), .ref m5, .ref m6, .ref m7, .int (qI tk), .int (qI fr), .int (qI ti), .int (qI fa)])), (m1, qA (E 0) 635 ms), (m2, qA (E 0) 635 ma), (m3, qA (E 0) 3175 g11), (m4, qA (E 0) 140 mt), (m5, qA (E 0) 2 mn), (m6, qA (E 0) 64 ml), (m7, qA (E 0) 49152 mr)] _ _ [.int (qI r12), .ref m1]
    refine z_iconst C dX5_take_26 ?_
    refine z_iast C 1 rfl (by decide) hw.1 (fun g13 => [(m0, .inr (5, [.int (qI (0 : Int)), .ref m1, .ref m2, .ref m3, .int (qI g10), .ref m4, .int (qI le), .ref m5, .ref m6, .ref m7, .int (qI tk), .int (qI fr), .int (qI ti), .int (qI fa)])), (m1, qA (E 0) 635 g13), (m2, qA (E 0) 635 ma), (m3, qA (E 0) 3175 g11), (m4, qA (E 0) 140 mt), (m5, qA (E 0) 2 mn), (m6, qA (E 0) 64 ml), (m7, qA (E 0) 49152 mr)]) (fun _ => rfl) dX5_take_27 (fun g13 eg13 => ?_)
    replace hw := hw.2 g13 eg13
    refine z_iconst C dX5_take_28 ?_
    refine z_istore_n C rfl (by decide) rfl dX5_take_29 ?_
    refine z_lst (ps := [1, 2, 0]) (lv' := [(0, .ref m0), (1, .int (qI x1)), (2, .int (qI (0 : Int)))]) (st' := []) rfl rfl ?_
    obtain ⟨n8, hw⟩ := hw
    exact hB30 x1 (0 : Int) g10 g11 n8 (0 : Int) g13 hw
  · replace hw := hw.2.2 c8
    refine z_iconst C dX5_take_12 ?_
    exact hend 13 _ (-1 : Int) ((0 : Int), sm, ms, mv) dX5_take_13 hw
def wp_X5_restore_35 (Φ : Int → Int → Int → (Nat → Int) → (Nat → Int) → Prop)  (x1 : Int) (th : Int) (sm : Int) (mv : Nat → Int) : Nat → Int → (Nat → Int) → Prop
  | 0, _, _ => False
  | n9 + 1, x2, ms => ((qR x2 ∧ qR (211 : Int)) ∧ ((211 : Int) ≤ x2 → ((0 ≤ (6 : Int) ∧ (6 : Int) < 635) ∧ (∀ v2 : Int, v2 = ms ((6 : Int)).toNat → Φ v2 th sm ms mv))) ∧ (¬ ((211 : Int) ≤ x2) → wp_X5_slotAt x1 (fun (r3 : Int) => ((0 ≤ ((r3 + (1 : Int)) + x2) ∧ ((r3 + (1 : Int)) + x2) < 635) ∧ (∀ v4 : Int, v4 = ms (((r3 + (1 : Int)) + x2)).toNat → ((0 ≤ x2 ∧ x2 < 635) ∧ ∀ g5 : Nat → Int, g5 = qU ms (x2).toNat v4 → (∀ v6 : Int, v6 = x2 + (1 : Int) → wp_X5_restore_35 Φ  x1 th sm mv n9 v6 g5)))))))
def wp_X5_restore (x1 : Int) (th : Int) (sm : Int) (ms : Nat → Int) (mv : Nat → Int) (Φ : Int → Int → Int → (Nat → Int) → (Nat → Int) → Prop) : Prop := wp_X5_isBit x1 (fun (r7 : Int) => (qR r7 ∧ (¬ r7 = (0 : Int) → wp_X5_slotAt x1 (fun (r9 : Int) => ((0 ≤ r9 ∧ r9 < 635) ∧ (∀ v10 : Int, v10 = ms (r9).toNat → (qR v10 ∧ (¬ v10 = (0 : Int) → wp_X5_act sm ms mv (fun (g13 : Int) (g14 : Nat → Int) => ∃ n : Nat, wp_X5_restore_35 Φ  x1 (0 : Int) g13 g14 n (0 : Int) ms)) ∧ (¬ (¬ v10 = (0 : Int)) → Φ (-2 : Int) (0 : Int) sm ms mv)))))) ∧ (¬ (¬ r7 = (0 : Int)) → Φ (-1 : Int) (0 : Int) sm ms mv)))
theorem iX5_restore_X5 : ∀ w ∈ wsX50, w ∈ wsX5_restore := fun w h => List.mem_cons_of_mem _ (List.mem_append_right _ (h))
set_option maxHeartbeats 4000000 in
set_option maxRecDepth 100000 in
theorem c_X5_restore (l : Launch) (D : va_G) (E : Nat → ClassId) (m0 m1 m2 m3 m4 m5 m6 m7 : Nat) (th : Int) (sm : Int) (le : Int) (tk : Int) (fr : Int) (ti : Int) (fa : Int) (ms : Nat → Int) (ma : Nat → Int) (mv : Nat → Int) (mt : Nat → Int) (mn : Nat → Int) (ml : Nat → Int) (mr : Nat → Int) (x1 : Int) {Φ : Int → Int → Int → (Nat → Int) → (Nat → Int) → Prop} (hw : wp_X5_restore x1 th sm ms mv Φ) : qRW (σ := (Int) × (Int) × (Nat → Int) × (Nat → Int)) l D E qF0 yX5_restore wsX5_restore 2 42 [(m0, .inr (5, [.int (qI th), .ref m1, .ref m2, .ref m3, .int (qI sm), .ref m4, .int (qI le), .ref m5, .ref m6, .ref m7, .int (qI tk), .int (qI fr), .int (qI ti), .int (qI fa)])), (m1, qA (E 0) 635 ms), (m2, qA (E 0) 635 ma), (m3, qA (E 0) 3175 mv), (m4, qA (E 0) 140 mt), (m5, qA (E 0) 2 mn), (m6, qA (E 0) 64 ml), (m7, qA (E 0) 49152 mr)] [.ref m0, .int (qI x1)] qeI (fun u => [(m0, .inr (5, [.int (qI u.1), .ref m1, .ref m2, .ref m3, .int (qI u.2.1), .ref m4, .int (qI le), .ref m5, .ref m6, .ref m7, .int (qI tk), .int (qI fr), .int (qI ti), .int (qI fa)])), (m1, qA (E 0) 635 u.2.2.1), (m2, qA (E 0) 635 ma), (m3, qA (E 0) 3175 u.2.2.2), (m4, qA (E 0) 140 mt), (m5, qA (E 0) 2 mn), (m6, qA (E 0) 64 ml), (m7, qA (E 0) 49152 mr)]) (fun r u => Φ r u.1 u.2.1 u.2.2.1 u.2.2.2) := by
  refine qRW_int (nL := 3) (own := RX5) qF0_ok (by decide) rfl rfl (Nat.le_of_ble_eq_true rfl) (fun X C hend => ?_)
  have hB35 : ∀ x1 : Int, ∀ th : Int, ∀ sm : Int, ∀ mv : Nat → Int, ∀ n8 : Nat, ∀ x2 : Int, ∀ ms : Nat → Int, wp_X5_restore_35 Φ  x1 th sm mv n8 x2 ms → qZ X 0 0 [(m0, .inr (5, [.int (qI th), .ref m1, .ref m2, .ref m3, .int (qI sm), .ref m4, .int (qI le), .ref m5, .ref m6, .ref m7, .int (qI tk), .int (qI fr), .int (qI ti), .int (qI fa)])), (m1, qA (E 0) 635 ms), (m2, qA (E 0) 635 ma), (m3, qA (E 0) 3175 mv), (m4, qA (E 0) 140 mt), (m5, qA (E 0) 2 mn), (m6, qA (E 0) 64 ml), (m7, qA (E 0) 49152 mr)] 35 [(0, .ref m0), (1, .int (qI x1)), (2, .int (qI x2))] [] := by
    intro x1 th sm mv n8
    induction n8 with
    | zero =>
      intro x2 ms hw
      exact hw.elim
    | succ n9 ih =>
      intro x2 ms hw
      unfold wp_X5_restore_35 at hw
      refine z_iload_n C 2 rfl rfl dX5_restore_35 ?_
      refine z_sipush C (by decide +kernel) dX5_restore_36 ?_
      refine z_icmp_ge (tgt := 67) C hw.1 (by decide) dX5_restore_39 (fun c1 => ?_) (fun c1 => ?_)
      · replace hw := hw.2.1 c1
        refine z_aload_n C 0 rfl rfl dX5_restore_67 ?_
        refine z_get C iX5_restore_X5 0 rfl rfl 1 (by decide) (List.mem_of_getElem? (i := 2) rfl) rfl rfl dX5_restore_68 ?_
        refine z_bipush C (by decide +kernel) dX5_restore_71 ?_
        refine z_iald C 1 rfl (by decide) hw.1 dX5_restore_73 ?_
        replace hw := hw.2
        refine z_name (fun v2 ev2 => ?_)
        replace hw := hw v2 ev2
        exact hend 74 _ v2 (th, sm, ms, mv) dX5_restore_74 hw
      · replace hw := hw.2.2 c1
        refine z_aload_n C 0 rfl rfl dX5_restore_42 ?_
        refine z_get C iX5_restore_X5 0 rfl rfl 1 (by decide) (List.mem_of_getElem? (i := 2) rfl) rfl rfl dX5_restore_43 ?_
        refine z_iload_n C 2 rfl rfl dX5_restore_46 ?_
        refine z_aload_n C 0 rfl rfl dX5_restore_47 ?_
        refine z_get C iX5_restore_X5 0 rfl rfl 1 (by decide) (List.mem_of_getElem? (i := 2) rfl) rfl rfl dX5_restore_48 ?_
        refine z_iload_n C 1 rfl rfl dX5_restore_51 ?_
        refine z_callS (n := 1) C (c_X5_slotAt l D E   x1 hw) qF0_ok (fun _ _ _ => trivial) gX5_restore_X5_slotAt rfl (by decide +kernel) ⟨(Nat.le_of_ble_eq_true rfl), (Nat.le_of_ble_eq_true rfl)⟩ rfl [] rfl rfl (Nat.le_of_ble_eq_true rfl) dX5_restore_52 (fun r3 hw => ?_)
        show qZ X 0 0 [(m0, .inr (5, [.int (qI th), .ref m1, .ref m2, .ref m3, .int (qI sm), .ref m4, .int (qI le), .ref m5, .ref m6, .ref m7, .int (qI tk), .int (qI fr), .int (qI ti), .int (qI fa)])), (m1, qA (E 0) 635 ms), (m2, qA (E 0) 635 ma), (m3, qA (E 0) 3175 mv), (m4, qA (E 0) 140 mt), (m5, qA (E 0) 2 mn), (m6, qA (E 0) 64 ml), (m7, qA (E 0) 49152 mr)] _ _ [.int (qI r3), .ref m1, .int (qI x2), .ref m1]
        refine z_iconst C dX5_restore_55 ?_
        refine z_iadd C dX5_restore_56 ?_
        refine z_iload_n C 2 rfl rfl dX5_restore_57 ?_
        refine z_iadd C dX5_restore_58 ?_
        refine z_iald C 1 rfl (by decide) hw.1 dX5_restore_59 ?_
        replace hw := hw.2
        refine z_name (fun v4 ev4 => ?_)
        replace hw := hw v4 ev4
        refine z_iast C 1 rfl (by decide) hw.1 (fun g5 => [(m0, .inr (5, [.int (qI th), .ref m1, .ref m2, .ref m3, .int (qI sm), .ref m4, .int (qI le), .ref m5, .ref m6, .ref m7, .int (qI tk), .int (qI fr), .int (qI ti), .int (qI fa)])), (m1, qA (E 0) 635 g5), (m2, qA (E 0) 635 ma), (m3, qA (E 0) 3175 mv), (m4, qA (E 0) 140 mt), (m5, qA (E 0) 2 mn), (m6, qA (E 0) 64 ml), (m7, qA (E 0) 49152 mr)]) (fun _ => rfl) dX5_restore_60 (fun g5 eg5 => ?_)
        replace hw := hw.2 g5 eg5
        obtain ⟨v6, ev6⟩ : ∃ v6 : Int, v6 = x2 + (1 : Int) := ⟨_, rfl⟩
        replace hw := hw v6 ev6
        refine z_iinc C 2 rfl (by decide) v6 ev6 rfl dX5_restore_61 ?_
        refine z_goto (tgt := 35) C (by decide) dX5_restore_64 ?_
        refine z_lst (ps := [1, 2, 0]) (lv' := [(0, .ref m0), (1, .int (qI x1)), (2, .int (qI v6))]) (st' := []) rfl rfl ?_
        exact ih v6 g5 hw
  unfold wp_X5_restore at hw
  show qZ X 0 0 [(m0, .inr (5, [.int (qI th), .ref m1, .ref m2, .ref m3, .int (qI sm), .ref m4, .int (qI le), .ref m5, .ref m6, .ref m7, .int (qI tk), .int (qI fr), .int (qI ti), .int (qI fa)])), (m1, qA (E 0) 635 ms), (m2, qA (E 0) 635 ma), (m3, qA (E 0) 3175 mv), (m4, qA (E 0) 140 mt), (m5, qA (E 0) 2 mn), (m6, qA (E 0) 64 ml), (m7, qA (E 0) 49152 mr)] 0 [(0, .ref m0), (1, .int (qI x1))] []
  refine z_aload_n C 0 rfl rfl dX5_restore_0 ?_
  refine z_iconst C dX5_restore_1 ?_
  refine z_put (ty := .int) (ws' := [(m0, .inr (5, [.int (qI (0 : Int)), .ref m1, .ref m2, .ref m3, .int (qI sm), .ref m4, .int (qI le), .ref m5, .ref m6, .ref m7, .int (qI tk), .int (qI fr), .int (qI ti), .int (qI fa)])), (m1, qA (E 0) 635 ms), (m2, qA (E 0) 635 ma), (m3, qA (E 0) 3175 mv), (m4, qA (E 0) 140 mt), (m5, qA (E 0) 2 mn), (m6, qA (E 0) 64 ml), (m7, qA (E 0) 49152 mr)]) C iX5_restore_X5 tyX5 tyX5_ok nmX5 0 rfl rfl 0 (by decide) (List.mem_of_getElem? (i := 1) rfl) rfl rfl (by decide +kernel) rfl rfl (Nat.le_of_ble_eq_true rfl) rfl dX5_restore_2 ?_
  refine z_iload_n C 1 rfl rfl dX5_restore_5 ?_
  refine z_callS (n := 1) C (c_X5_isBit l D E   x1 hw) qF0_ok (fun _ _ _ => trivial) gX5_restore_X5_isBit rfl (by decide +kernel) ⟨(Nat.le_of_ble_eq_true rfl), (Nat.le_of_ble_eq_true rfl)⟩ rfl [] rfl rfl (Nat.le_of_ble_eq_true rfl) dX5_restore_6 (fun r7 hw => ?_)
  show qZ X 0 0 [(m0, .inr (5, [.int (qI (0 : Int)), .ref m1, .ref m2, .ref m3, .int (qI sm), .ref m4, .int (qI le), .ref m5, .ref m6, .ref m7, .int (qI tk), .int (qI fr), .int (qI ti), .int (qI fa)])), (m1, qA (E 0) 635 ms), (m2, qA (E 0) 635 ma), (m3, qA (E 0) 3175 mv), (m4, qA (E 0) 140 mt), (m5, qA (E 0) 2 mn), (m6, qA (E 0) 64 ml), (m7, qA (E 0) 49152 mr)] _ _ [.int (qI r7)]
  refine z_if_ne (tgt := 14) C hw.1 (by decide) dX5_restore_9 (fun c8 => ?_) (fun c8 => ?_)
  · replace hw := hw.2.1 c8
    refine z_aload_n C 0 rfl rfl dX5_restore_14 ?_
    refine z_get C iX5_restore_X5 0 rfl rfl 1 (by decide) (List.mem_of_getElem? (i := 2) rfl) rfl rfl dX5_restore_15 ?_
    refine z_iload_n C 1 rfl rfl dX5_restore_18 ?_
    refine z_callS (n := 1) C (c_X5_slotAt l D E   x1 hw) qF0_ok (fun _ _ _ => trivial) gX5_restore_X5_slotAt rfl (by decide +kernel) ⟨(Nat.le_of_ble_eq_true rfl), (Nat.le_of_ble_eq_true rfl)⟩ rfl [] rfl rfl (Nat.le_of_ble_eq_true rfl) dX5_restore_19 (fun r9 hw => ?_)
    show qZ X 0 0 [(m0, .inr (5, [.int (qI (0 : Int)), .ref m1, .ref m2, .ref m3, .int (qI sm), .ref m4, .int (qI le), .ref m5, .ref m6, .ref m7, .int (qI tk), .int (qI fr), .int (qI ti), .int (qI fa)])), (m1, qA (E 0) 635 ms), (m2, qA (E 0) 635 ma), (m3, qA (E 0) 3175 mv), (m4, qA (E 0) 140 mt), (m5, qA (E 0) 2 mn), (m6, qA (E 0) 64 ml), (m7, qA (E 0) 49152 mr)] _ _ [.int (qI r9), .ref m1]
    refine z_iald C 1 rfl (by decide) hw.1 dX5_restore_22 ?_
    replace hw := hw.2
    refine z_name (fun v10 ev10 => ?_)
    replace hw := hw v10 ev10
    refine z_if_ne (tgt := 29) C hw.1 (by decide) dX5_restore_23 (fun c11 => ?_) (fun c11 => ?_)
    · replace hw := hw.2.1 c11
      refine z_aload_n C 0 rfl rfl dX5_restore_29 ?_
      refine z_callVW (n := 0) C (c_X5_act l D E m0 m1 m2 m3 m4 m5 m6 m7 (0 : Int) sm le tk fr ti fa ms ma mv mt mn ml mr  hw) qF0_ok (fun _ _ _ => trivial) gX5_restore_X5_act rfl (by decide +kernel) ⟨(Nat.le_of_ble_eq_true rfl), (Nat.le_of_ble_eq_true rfl)⟩ rfl 0 rfl rfl [0, 1, 2, 3, 4, 5, 6, 7] [] (wr := []) rfl rfl rfl rfl (by decide) [0, 1, 2, 3, 4, 5, 6, 7] rfl (fun u9 => [(m0, .inr (5, [.int (qI (0 : Int)), .ref m1, .ref m2, .ref m3, .int (qI u9.1), .ref m4, .int (qI le), .ref m5, .ref m6, .ref m7, .int (qI tk), .int (qI fr), .int (qI ti), .int (qI fa)])), (m1, qA (E 0) 635 ms), (m2, qA (E 0) 635 ma), (m3, qA (E 0) 3175 u9.2), (m4, qA (E 0) 140 mt), (m5, qA (E 0) 2 mn), (m6, qA (E 0) 64 ml), (m7, qA (E 0) 49152 mr)]) (fun _ => rfl) rfl (Nat.le_of_ble_eq_true rfl) dX5_restore_30 (fun r12 u9 hw => ?_)
      obtain ⟨g13, g14⟩ := u9
      refine z_ws (ws' := [(m0, .inr (5, [.int (qI (0 : Int)), .ref m1, .ref m2, .ref m3, .int (qI g13), .ref m4, .int (qI le), .ref m5, .ref m6, .ref m7, .int (qI tk), .int (qI fr), .int (qI ti), .int (qI fa)])), (m1, qA (E 0) 635 ms), (m2, qA (E 0) 635 ma), (m3, qA (E 0) 3175 g14), (m4, qA (E 0) 140 mt), (m5, qA (E 0) 2 mn), (m6, qA (E 0) 64 ml), (m7, qA (E 0) 49152 mr)]) rfl ?_
      try dsimp only at hw
      show qZ X 0 0 [(m0, .inr (5, [.int (qI (0 : Int)), .ref m1, .ref m2, .ref m3, .int (qI g13), .ref m4, .int (qI le), .ref m5, .ref m6, .ref m7, .int (qI tk), .int (qI fr), .int (qI ti), .int (qI fa)])), (m1, qA (E 0) 635 ms), (m2, qA (E 0) 635 ma), (m3, qA (E 0) 3175 g14), (m4, qA (E 0) 140 mt), (m5, qA (E 0) 2 mn), (m6, qA (E 0) 64 ml), (m7, qA (E 0) 49152 mr)] _ _ []
      refine z_iconst C dX5_restore_33 ?_
      refine z_istore_n C rfl (by decide) rfl dX5_restore_34 ?_
      refine z_lst (ps := [1, 2, 0]) (lv' := [(0, .ref m0), (1, .int (qI x1)), (2, .int (qI (0 : Int)))]) (st' := []) rfl rfl ?_
      obtain ⟨n8, hw⟩ := hw
      exact hB35 x1 (0 : Int) g13 g14 n8 (0 : Int) ms hw
    · replace hw := hw.2.2 c11
      refine z_bipush C (by decide +kernel) dX5_restore_26 ?_
      exact hend 28 _ (-2 : Int) ((0 : Int), sm, ms, mv) dX5_restore_28 hw
  · replace hw := hw.2.2 c8
    refine z_iconst C dX5_restore_12 ?_
    exact hend 13 _ (-1 : Int) ((0 : Int), sm, ms, mv) dX5_restore_13 hw
def wp_X5_undo_27 (Φ : Int → Int → Int → (Nat → Int) → Prop)  (th : Int) (sm : Int) (mv : Nat → Int) : Nat → Int → (Nat → Int) → Prop
  | 0, _, _ => False
  | n9 + 1, x1, ms => ((qR x1 ∧ qR (635 : Int)) ∧ ((635 : Int) ≤ x1 → Φ sm th sm ms) ∧ (¬ ((635 : Int) ≤ x1) → ((0 ≤ (((635 : Int) * sm) + x1) ∧ (((635 : Int) * sm) + x1) < 3175) ∧ (∀ v2 : Int, v2 = mv ((((635 : Int) * sm) + x1)).toNat → ((0 ≤ x1 ∧ x1 < 635) ∧ ∀ g3 : Nat → Int, g3 = qU ms (x1).toNat v2 → (∀ v4 : Int, v4 = x1 + (1 : Int) → wp_X5_undo_27 Φ  th sm mv n9 v4 g3))))))
def wp_X5_undo  (th : Int) (sm : Int) (ms : Nat → Int) (mv : Nat → Int) (Φ : Int → Int → Int → (Nat → Int) → Prop) : Prop := (qR sm ∧ (¬ sm = (0 : Int) → (∀ v6 : Int, v6 = (sm - (1 : Int)) → ∃ n : Nat, wp_X5_undo_27 Φ  (0 : Int) v6 mv n (0 : Int) ms)) ∧ (¬ (¬ sm = (0 : Int)) → Φ (-2 : Int) (0 : Int) sm ms))
theorem iX5_undo_X5 : ∀ w ∈ wsX50, w ∈ wsX5_undo := fun w h => List.mem_cons_of_mem _ (List.mem_append_right _ (h))
set_option maxHeartbeats 4000000 in
set_option maxRecDepth 100000 in
theorem c_X5_undo (l : Launch) (D : va_G) (E : Nat → ClassId) (m0 m1 m2 m3 m4 m5 m6 m7 : Nat) (th : Int) (sm : Int) (le : Int) (tk : Int) (fr : Int) (ti : Int) (fa : Int) (ms : Nat → Int) (ma : Nat → Int) (mv : Nat → Int) (mt : Nat → Int) (mn : Nat → Int) (ml : Nat → Int) (mr : Nat → Int)  {Φ : Int → Int → Int → (Nat → Int) → Prop} (hw : wp_X5_undo  th sm ms mv Φ) : qRW (σ := (Int) × (Int) × (Nat → Int)) l D E qF0 yX5_undo wsX5_undo 0 0 [(m0, .inr (5, [.int (qI th), .ref m1, .ref m2, .ref m3, .int (qI sm), .ref m4, .int (qI le), .ref m5, .ref m6, .ref m7, .int (qI tk), .int (qI fr), .int (qI ti), .int (qI fa)])), (m1, qA (E 0) 635 ms), (m2, qA (E 0) 635 ma), (m3, qA (E 0) 3175 mv), (m4, qA (E 0) 140 mt), (m5, qA (E 0) 2 mn), (m6, qA (E 0) 64 ml), (m7, qA (E 0) 49152 mr)] [.ref m0] qeI (fun u => [(m0, .inr (5, [.int (qI u.1), .ref m1, .ref m2, .ref m3, .int (qI u.2.1), .ref m4, .int (qI le), .ref m5, .ref m6, .ref m7, .int (qI tk), .int (qI fr), .int (qI ti), .int (qI fa)])), (m1, qA (E 0) 635 u.2.2), (m2, qA (E 0) 635 ma), (m3, qA (E 0) 3175 mv), (m4, qA (E 0) 140 mt), (m5, qA (E 0) 2 mn), (m6, qA (E 0) 64 ml), (m7, qA (E 0) 49152 mr)]) (fun r u => Φ r u.1 u.2.1 u.2.2) := by
  refine qRW_int (nL := 2) (own := RX5) qF0_ok (by decide) rfl rfl (Nat.le_of_ble_eq_true rfl) (fun X C hend => ?_)
  have hB27 : ∀ th : Int, ∀ sm : Int, ∀ n8 : Nat, ∀ x1 : Int, ∀ ms : Nat → Int, wp_X5_undo_27 Φ  th sm mv n8 x1 ms → qZ X 0 0 [(m0, .inr (5, [.int (qI th), .ref m1, .ref m2, .ref m3, .int (qI sm), .ref m4, .int (qI le), .ref m5, .ref m6, .ref m7, .int (qI tk), .int (qI fr), .int (qI ti), .int (qI fa)])), (m1, qA (E 0) 635 ms), (m2, qA (E 0) 635 ma), (m3, qA (E 0) 3175 mv), (m4, qA (E 0) 140 mt), (m5, qA (E 0) 2 mn), (m6, qA (E 0) 64 ml), (m7, qA (E 0) 49152 mr)] 27 [(0, .ref m0), (1, .int (qI x1))] [] := by
    intro th sm n8
    induction n8 with
    | zero =>
      intro x1 ms hw
      exact hw.elim
    | succ n9 ih =>
      intro x1 ms hw
      unfold wp_X5_undo_27 at hw
      refine z_iload_n C 1 rfl rfl dX5_undo_27 ?_
      refine z_sipush C (by decide +kernel) dX5_undo_28 ?_
      refine z_icmp_ge (tgt := 61) C hw.1 (by decide) dX5_undo_31 (fun c1 => ?_) (fun c1 => ?_)
      · replace hw := hw.2.1 c1
        refine z_aload_n C 0 rfl rfl dX5_undo_61 ?_
        refine z_get C iX5_undo_X5 0 rfl rfl 4 (by decide) (List.mem_of_getElem? (i := 2) rfl) rfl rfl dX5_undo_62 ?_
        exact hend 65 _ sm (th, sm, ms) dX5_undo_65 hw
      · replace hw := hw.2.2 c1
        refine z_aload_n C 0 rfl rfl dX5_undo_34 ?_
        refine z_get C iX5_undo_X5 0 rfl rfl 1 (by decide) (List.mem_of_getElem? (i := 3) rfl) rfl rfl dX5_undo_35 ?_
        refine z_iload_n C 1 rfl rfl dX5_undo_38 ?_
        refine z_aload_n C 0 rfl rfl dX5_undo_39 ?_
        refine z_get C iX5_undo_X5 0 rfl rfl 3 (by decide) (List.mem_of_getElem? (i := 4) rfl) rfl rfl dX5_undo_40 ?_
        refine z_sipush C (by decide +kernel) dX5_undo_43 ?_
        refine z_aload_n C 0 rfl rfl dX5_undo_46 ?_
        refine z_get C iX5_undo_X5 0 rfl rfl 4 (by decide) (List.mem_of_getElem? (i := 2) rfl) rfl rfl dX5_undo_47 ?_
        refine z_imul C dX5_undo_50 ?_
        refine z_iload_n C 1 rfl rfl dX5_undo_51 ?_
        refine z_iadd C dX5_undo_52 ?_
        refine z_iald C 3 rfl (by decide) hw.1 dX5_undo_53 ?_
        replace hw := hw.2
        refine z_name (fun v2 ev2 => ?_)
        replace hw := hw v2 ev2
        refine z_iast C 1 rfl (by decide) hw.1 (fun g3 => [(m0, .inr (5, [.int (qI th), .ref m1, .ref m2, .ref m3, .int (qI sm), .ref m4, .int (qI le), .ref m5, .ref m6, .ref m7, .int (qI tk), .int (qI fr), .int (qI ti), .int (qI fa)])), (m1, qA (E 0) 635 g3), (m2, qA (E 0) 635 ma), (m3, qA (E 0) 3175 mv), (m4, qA (E 0) 140 mt), (m5, qA (E 0) 2 mn), (m6, qA (E 0) 64 ml), (m7, qA (E 0) 49152 mr)]) (fun _ => rfl) dX5_undo_54 (fun g3 eg3 => ?_)
        replace hw := hw.2 g3 eg3
        obtain ⟨v4, ev4⟩ : ∃ v4 : Int, v4 = x1 + (1 : Int) := ⟨_, rfl⟩
        replace hw := hw v4 ev4
        refine z_iinc C 1 rfl (by decide) v4 ev4 rfl dX5_undo_55 ?_
        refine z_goto (tgt := 27) C (by decide) dX5_undo_58 ?_
        refine z_lst (ps := [1, 0]) (lv' := [(0, .ref m0), (1, .int (qI v4))]) (st' := []) rfl rfl ?_
        exact ih v4 g3 hw
  unfold wp_X5_undo at hw
  show qZ X 0 0 [(m0, .inr (5, [.int (qI th), .ref m1, .ref m2, .ref m3, .int (qI sm), .ref m4, .int (qI le), .ref m5, .ref m6, .ref m7, .int (qI tk), .int (qI fr), .int (qI ti), .int (qI fa)])), (m1, qA (E 0) 635 ms), (m2, qA (E 0) 635 ma), (m3, qA (E 0) 3175 mv), (m4, qA (E 0) 140 mt), (m5, qA (E 0) 2 mn), (m6, qA (E 0) 64 ml), (m7, qA (E 0) 49152 mr)] 0 [(0, .ref m0)] []
  refine z_aload_n C 0 rfl rfl dX5_undo_0 ?_
  refine z_iconst C dX5_undo_1 ?_
  refine z_put (ty := .int) (ws' := [(m0, .inr (5, [.int (qI (0 : Int)), .ref m1, .ref m2, .ref m3, .int (qI sm), .ref m4, .int (qI le), .ref m5, .ref m6, .ref m7, .int (qI tk), .int (qI fr), .int (qI ti), .int (qI fa)])), (m1, qA (E 0) 635 ms), (m2, qA (E 0) 635 ma), (m3, qA (E 0) 3175 mv), (m4, qA (E 0) 140 mt), (m5, qA (E 0) 2 mn), (m6, qA (E 0) 64 ml), (m7, qA (E 0) 49152 mr)]) C iX5_undo_X5 tyX5 tyX5_ok nmX5 0 rfl rfl 0 (by decide) (List.mem_of_getElem? (i := 1) rfl) rfl rfl (by decide +kernel) rfl rfl (Nat.le_of_ble_eq_true rfl) rfl dX5_undo_2 ?_
  refine z_aload_n C 0 rfl rfl dX5_undo_5 ?_
  refine z_get C iX5_undo_X5 0 rfl rfl 4 (by decide) (List.mem_of_getElem? (i := 2) rfl) rfl rfl dX5_undo_6 ?_
  refine z_if_ne (tgt := 15) C hw.1 (by decide) dX5_undo_9 (fun c5 => ?_) (fun c5 => ?_)
  · replace hw := hw.2.1 c5
    refine z_aload_n C 0 rfl rfl dX5_undo_15 ?_
    refine z_dup C rfl dX5_undo_16 ?_
    refine z_get C iX5_undo_X5 0 rfl rfl 4 (by decide) (List.mem_of_getElem? (i := 2) rfl) rfl rfl dX5_undo_17 ?_
    refine z_iconst C dX5_undo_20 ?_
    refine z_isub C dX5_undo_21 ?_
    refine z_name (fun v6 ev6 => ?_)
    replace hw := hw v6 ev6
    refine z_put (ty := .int) (ws' := [(m0, .inr (5, [.int (qI (0 : Int)), .ref m1, .ref m2, .ref m3, .int (qI v6), .ref m4, .int (qI le), .ref m5, .ref m6, .ref m7, .int (qI tk), .int (qI fr), .int (qI ti), .int (qI fa)])), (m1, qA (E 0) 635 ms), (m2, qA (E 0) 635 ma), (m3, qA (E 0) 3175 mv), (m4, qA (E 0) 140 mt), (m5, qA (E 0) 2 mn), (m6, qA (E 0) 64 ml), (m7, qA (E 0) 49152 mr)]) C iX5_undo_X5 tyX5 tyX5_ok nmX5 0 rfl rfl 4 (by decide) (List.mem_of_getElem? (i := 2) rfl) rfl rfl (by decide +kernel) rfl rfl (Nat.le_of_ble_eq_true rfl) rfl dX5_undo_22 ?_
    refine z_iconst C dX5_undo_25 ?_
    refine z_istore_n C rfl (by decide) rfl dX5_undo_26 ?_
    refine z_lst (ps := [1, 0]) (lv' := [(0, .ref m0), (1, .int (qI (0 : Int)))]) (st' := []) rfl rfl ?_
    obtain ⟨n8, hw⟩ := hw
    exact hB27 (0 : Int) v6 n8 (0 : Int) ms hw
  · replace hw := hw.2.2 c5
    refine z_bipush C (by decide +kernel) dX5_undo_12 ?_
    exact hend 14 _ (-2 : Int) ((0 : Int), sm, ms) dX5_undo_14 hw
def wp_X5_append (x1 : Int) (th : Int) (le : Int) (mt : Nat → Int) (Φ : Int → Int → Int → (Nat → Int) → Prop) : Prop := wp_X5_in x1 (1 : Int) (255 : Int) (fun (r1 : Int) => (qR r1 ∧ (¬ r1 = (0 : Int) → ((qR le ∧ qR (140 : Int)) ∧ (¬ le = (140 : Int) → ((0 ≤ le ∧ le < 140) ∧ ∀ g4 : Nat → Int, g4 = qU mt (le).toNat x1 → (∀ v5 : Int, v5 = (le + (1 : Int)) → Φ v5 (0 : Int) v5 g4))) ∧ (¬ (¬ le = (140 : Int)) → Φ (-3 : Int) (0 : Int) le mt))) ∧ (¬ (¬ r1 = (0 : Int)) → Φ (-1 : Int) (0 : Int) le mt)))
theorem iX5_append_X5 : ∀ w ∈ wsX50, w ∈ wsX5_append := fun w h => List.mem_cons_of_mem _ (List.mem_append_right _ (h))
set_option maxHeartbeats 4000000 in
set_option maxRecDepth 100000 in
theorem c_X5_append (l : Launch) (D : va_G) (E : Nat → ClassId) (m0 m1 m2 m3 m4 m5 m6 m7 : Nat) (th : Int) (sm : Int) (le : Int) (tk : Int) (fr : Int) (ti : Int) (fa : Int) (ms : Nat → Int) (ma : Nat → Int) (mv : Nat → Int) (mt : Nat → Int) (mn : Nat → Int) (ml : Nat → Int) (mr : Nat → Int) (x1 : Int) {Φ : Int → Int → Int → (Nat → Int) → Prop} (hw : wp_X5_append x1 th le mt Φ) : qRW (σ := (Int) × (Int) × (Nat → Int)) l D E qF0 yX5_append wsX5_append 1 22 [(m0, .inr (5, [.int (qI th), .ref m1, .ref m2, .ref m3, .int (qI sm), .ref m4, .int (qI le), .ref m5, .ref m6, .ref m7, .int (qI tk), .int (qI fr), .int (qI ti), .int (qI fa)])), (m1, qA (E 0) 635 ms), (m2, qA (E 0) 635 ma), (m3, qA (E 0) 3175 mv), (m4, qA (E 0) 140 mt), (m5, qA (E 0) 2 mn), (m6, qA (E 0) 64 ml), (m7, qA (E 0) 49152 mr)] [.ref m0, .int (qI x1)] qeI (fun u => [(m0, .inr (5, [.int (qI u.1), .ref m1, .ref m2, .ref m3, .int (qI sm), .ref m4, .int (qI u.2.1), .ref m5, .ref m6, .ref m7, .int (qI tk), .int (qI fr), .int (qI ti), .int (qI fa)])), (m1, qA (E 0) 635 ms), (m2, qA (E 0) 635 ma), (m3, qA (E 0) 3175 mv), (m4, qA (E 0) 140 u.2.2), (m5, qA (E 0) 2 mn), (m6, qA (E 0) 64 ml), (m7, qA (E 0) 49152 mr)]) (fun r u => Φ r u.1 u.2.1 u.2.2) := by
  refine qRW_int (nL := 2) (own := RX5) qF0_ok (by decide) rfl rfl (Nat.le_of_ble_eq_true rfl) (fun X C hend => ?_)
  unfold wp_X5_append at hw
  show qZ X 0 0 [(m0, .inr (5, [.int (qI th), .ref m1, .ref m2, .ref m3, .int (qI sm), .ref m4, .int (qI le), .ref m5, .ref m6, .ref m7, .int (qI tk), .int (qI fr), .int (qI ti), .int (qI fa)])), (m1, qA (E 0) 635 ms), (m2, qA (E 0) 635 ma), (m3, qA (E 0) 3175 mv), (m4, qA (E 0) 140 mt), (m5, qA (E 0) 2 mn), (m6, qA (E 0) 64 ml), (m7, qA (E 0) 49152 mr)] 0 [(0, .ref m0), (1, .int (qI x1))] []
  refine z_aload_n C 0 rfl rfl dX5_append_0 ?_
  refine z_iconst C dX5_append_1 ?_
  refine z_put (ty := .int) (ws' := [(m0, .inr (5, [.int (qI (0 : Int)), .ref m1, .ref m2, .ref m3, .int (qI sm), .ref m4, .int (qI le), .ref m5, .ref m6, .ref m7, .int (qI tk), .int (qI fr), .int (qI ti), .int (qI fa)])), (m1, qA (E 0) 635 ms), (m2, qA (E 0) 635 ma), (m3, qA (E 0) 3175 mv), (m4, qA (E 0) 140 mt), (m5, qA (E 0) 2 mn), (m6, qA (E 0) 64 ml), (m7, qA (E 0) 49152 mr)]) C iX5_append_X5 tyX5 tyX5_ok nmX5 0 rfl rfl 0 (by decide) (List.mem_of_getElem? (i := 1) rfl) rfl rfl (by decide +kernel) rfl rfl (Nat.le_of_ble_eq_true rfl) rfl dX5_append_2 ?_
  refine z_iload_n C 1 rfl rfl dX5_append_5 ?_
  refine z_iconst C dX5_append_6 ?_
  refine z_sipush C (by decide +kernel) dX5_append_7 ?_
  refine z_callS (n := 3) C (c_X5_in l D E   x1 (1 : Int) (255 : Int) hw) qF0_ok (fun _ _ _ => trivial) gX5_append_X5_in rfl (by decide +kernel) ⟨(Nat.le_of_ble_eq_true rfl), (Nat.le_of_ble_eq_true rfl)⟩ rfl [] rfl rfl (Nat.le_of_ble_eq_true rfl) dX5_append_10 (fun r1 hw => ?_)
  show qZ X 0 0 [(m0, .inr (5, [.int (qI (0 : Int)), .ref m1, .ref m2, .ref m3, .int (qI sm), .ref m4, .int (qI le), .ref m5, .ref m6, .ref m7, .int (qI tk), .int (qI fr), .int (qI ti), .int (qI fa)])), (m1, qA (E 0) 635 ms), (m2, qA (E 0) 635 ma), (m3, qA (E 0) 3175 mv), (m4, qA (E 0) 140 mt), (m5, qA (E 0) 2 mn), (m6, qA (E 0) 64 ml), (m7, qA (E 0) 49152 mr)] _ _ [.int (qI r1)]
  refine z_if_ne (tgt := 18) C hw.1 (by decide) dX5_append_13 (fun c2 => ?_) (fun c2 => ?_)
  · replace hw := hw.2.1 c2
    refine z_aload_n C 0 rfl rfl dX5_append_18 ?_
    refine z_get C iX5_append_X5 0 rfl rfl 6 (by decide) (List.mem_of_getElem? (i := 2) rfl) rfl rfl dX5_append_19 ?_
    refine z_sipush C (by decide +kernel) dX5_append_22 ?_
    refine z_icmp_ne (tgt := 31) C hw.1 (by decide) dX5_append_25 (fun c3 => ?_) (fun c3 => ?_)
    · replace hw := hw.2.1 c3
      refine z_aload_n C 0 rfl rfl dX5_append_31 ?_
      refine z_get C iX5_append_X5 0 rfl rfl 5 (by decide) (List.mem_of_getElem? (i := 3) rfl) rfl rfl dX5_append_32 ?_
      refine z_aload_n C 0 rfl rfl dX5_append_35 ?_
      refine z_get C iX5_append_X5 0 rfl rfl 6 (by decide) (List.mem_of_getElem? (i := 2) rfl) rfl rfl dX5_append_36 ?_
      refine z_iload_n C 1 rfl rfl dX5_append_39 ?_
      refine z_iast C 4 rfl (by decide) hw.1 (fun g4 => [(m0, .inr (5, [.int (qI (0 : Int)), .ref m1, .ref m2, .ref m3, .int (qI sm), .ref m4, .int (qI le), .ref m5, .ref m6, .ref m7, .int (qI tk), .int (qI fr), .int (qI ti), .int (qI fa)])), (m1, qA (E 0) 635 ms), (m2, qA (E 0) 635 ma), (m3, qA (E 0) 3175 mv), (m4, qA (E 0) 140 g4), (m5, qA (E 0) 2 mn), (m6, qA (E 0) 64 ml), (m7, qA (E 0) 49152 mr)]) (fun _ => rfl) dX5_append_40 (fun g4 eg4 => ?_)
      replace hw := hw.2 g4 eg4
      refine z_aload_n C 0 rfl rfl dX5_append_41 ?_
      refine z_dup C rfl dX5_append_42 ?_
      refine z_get C iX5_append_X5 0 rfl rfl 6 (by decide) (List.mem_of_getElem? (i := 2) rfl) rfl rfl dX5_append_43 ?_
      refine z_iconst C dX5_append_46 ?_
      refine z_iadd C dX5_append_47 ?_
      refine z_name (fun v5 ev5 => ?_)
      replace hw := hw v5 ev5
      refine z_put (ty := .int) (ws' := [(m0, .inr (5, [.int (qI (0 : Int)), .ref m1, .ref m2, .ref m3, .int (qI sm), .ref m4, .int (qI v5), .ref m5, .ref m6, .ref m7, .int (qI tk), .int (qI fr), .int (qI ti), .int (qI fa)])), (m1, qA (E 0) 635 ms), (m2, qA (E 0) 635 ma), (m3, qA (E 0) 3175 mv), (m4, qA (E 0) 140 g4), (m5, qA (E 0) 2 mn), (m6, qA (E 0) 64 ml), (m7, qA (E 0) 49152 mr)]) C iX5_append_X5 tyX5 tyX5_ok nmX5 0 rfl rfl 6 (by decide) (List.mem_of_getElem? (i := 2) rfl) rfl rfl (by decide +kernel) rfl rfl (Nat.le_of_ble_eq_true rfl) rfl dX5_append_48 ?_
      refine z_aload_n C 0 rfl rfl dX5_append_51 ?_
      refine z_get C iX5_append_X5 0 rfl rfl 6 (by decide) (List.mem_of_getElem? (i := 2) rfl) rfl rfl dX5_append_52 ?_
      exact hend 55 _ v5 ((0 : Int), v5, g4) dX5_append_55 hw
    · replace hw := hw.2.2 c3
      refine z_bipush C (by decide +kernel) dX5_append_28 ?_
      exact hend 30 _ (-3 : Int) ((0 : Int), le, mt) dX5_append_30 hw
  · replace hw := hw.2.2 c2
    refine z_iconst C dX5_append_16 ?_
    exact hend 17 _ (-1 : Int) ((0 : Int), le, mt) dX5_append_17 hw
def wp_X5_clearText  (th : Int) (le : Int) (Φ : Int → Int → Int → Prop) : Prop := Φ le (0 : Int) (0 : Int)
theorem iX5_clearText_X5 : ∀ w ∈ wsX50, w ∈ wsX5_clearText := fun w h => List.mem_cons_of_mem _ (List.mem_append_right _ (h))
set_option maxHeartbeats 4000000 in
set_option maxRecDepth 100000 in
theorem c_X5_clearText (l : Launch) (D : va_G) (E : Nat → ClassId) (m0 m1 m2 m3 m4 m5 m6 m7 : Nat) (th : Int) (sm : Int) (le : Int) (tk : Int) (fr : Int) (ti : Int) (fa : Int) (ms : Nat → Int) (ma : Nat → Int) (mv : Nat → Int) (mt : Nat → Int) (mn : Nat → Int) (ml : Nat → Int) (mr : Nat → Int)  {Φ : Int → Int → Int → Prop} (hw : wp_X5_clearText  th le Φ) : qRW (σ := (Int) × (Int)) l D E qF0 yX5_clearText wsX5_clearText 0 0 [(m0, .inr (5, [.int (qI th), .ref m1, .ref m2, .ref m3, .int (qI sm), .ref m4, .int (qI le), .ref m5, .ref m6, .ref m7, .int (qI tk), .int (qI fr), .int (qI ti), .int (qI fa)])), (m1, qA (E 0) 635 ms), (m2, qA (E 0) 635 ma), (m3, qA (E 0) 3175 mv), (m4, qA (E 0) 140 mt), (m5, qA (E 0) 2 mn), (m6, qA (E 0) 64 ml), (m7, qA (E 0) 49152 mr)] [.ref m0] qeI (fun u => [(m0, .inr (5, [.int (qI u.1), .ref m1, .ref m2, .ref m3, .int (qI sm), .ref m4, .int (qI u.2), .ref m5, .ref m6, .ref m7, .int (qI tk), .int (qI fr), .int (qI ti), .int (qI fa)])), (m1, qA (E 0) 635 ms), (m2, qA (E 0) 635 ma), (m3, qA (E 0) 3175 mv), (m4, qA (E 0) 140 mt), (m5, qA (E 0) 2 mn), (m6, qA (E 0) 64 ml), (m7, qA (E 0) 49152 mr)]) (fun r u => Φ r u.1 u.2) := by
  refine qRW_int (nL := 2) (own := RX5) qF0_ok (by decide) rfl rfl (Nat.le_of_ble_eq_true rfl) (fun X C hend => ?_)
  unfold wp_X5_clearText at hw
  show qZ X 0 0 [(m0, .inr (5, [.int (qI th), .ref m1, .ref m2, .ref m3, .int (qI sm), .ref m4, .int (qI le), .ref m5, .ref m6, .ref m7, .int (qI tk), .int (qI fr), .int (qI ti), .int (qI fa)])), (m1, qA (E 0) 635 ms), (m2, qA (E 0) 635 ma), (m3, qA (E 0) 3175 mv), (m4, qA (E 0) 140 mt), (m5, qA (E 0) 2 mn), (m6, qA (E 0) 64 ml), (m7, qA (E 0) 49152 mr)] 0 [(0, .ref m0)] []
  refine z_aload_n C 0 rfl rfl dX5_clearText_0 ?_
  refine z_iconst C dX5_clearText_1 ?_
  refine z_put (ty := .int) (ws' := [(m0, .inr (5, [.int (qI (0 : Int)), .ref m1, .ref m2, .ref m3, .int (qI sm), .ref m4, .int (qI le), .ref m5, .ref m6, .ref m7, .int (qI tk), .int (qI fr), .int (qI ti), .int (qI fa)])), (m1, qA (E 0) 635 ms), (m2, qA (E 0) 635 ma), (m3, qA (E 0) 3175 mv), (m4, qA (E 0) 140 mt), (m5, qA (E 0) 2 mn), (m6, qA (E 0) 64 ml), (m7, qA (E 0) 49152 mr)]) C iX5_clearText_X5 tyX5 tyX5_ok nmX5 0 rfl rfl 0 (by decide) (List.mem_of_getElem? (i := 1) rfl) rfl rfl (by decide +kernel) rfl rfl (Nat.le_of_ble_eq_true rfl) rfl dX5_clearText_2 ?_
  refine z_aload_n C 0 rfl rfl dX5_clearText_5 ?_
  refine z_get C iX5_clearText_X5 0 rfl rfl 6 (by decide) (List.mem_of_getElem? (i := 2) rfl) rfl rfl dX5_clearText_6 ?_
  refine z_istore_n C rfl (by decide) rfl dX5_clearText_9 ?_
  refine z_aload_n C 1 rfl rfl dX5_clearText_10 ?_
  refine z_iconst C dX5_clearText_11 ?_
  refine z_put (ty := .int) (ws' := [(m0, .inr (5, [.int (qI (0 : Int)), .ref m1, .ref m2, .ref m3, .int (qI sm), .ref m4, .int (qI (0 : Int)), .ref m5, .ref m6, .ref m7, .int (qI tk), .int (qI fr), .int (qI ti), .int (qI fa)])), (m1, qA (E 0) 635 ms), (m2, qA (E 0) 635 ma), (m3, qA (E 0) 3175 mv), (m4, qA (E 0) 140 mt), (m5, qA (E 0) 2 mn), (m6, qA (E 0) 64 ml), (m7, qA (E 0) 49152 mr)]) C iX5_clearText_X5 tyX5 tyX5_ok nmX5 0 rfl rfl 6 (by decide) (List.mem_of_getElem? (i := 2) rfl) rfl rfl (by decide +kernel) rfl rfl (Nat.le_of_ble_eq_true rfl) rfl dX5_clearText_12 ?_
  refine z_iload_n C 0 rfl rfl dX5_clearText_15 ?_
  exact hend 16 _ le ((0 : Int), (0 : Int)) dX5_clearText_16 hw
def wp_X5_travel_6 (Φ : Int → Prop)  (ms : Nat → Int) : Nat → Int → Int → Int → Prop
  | 0, _, _, _ => False
  | n9 + 1, x1, x2, x3 => ((0 ≤ (6 : Int) ∧ (6 : Int) < 635) ∧ (∀ v1 : Int, v1 = ms ((6 : Int)).toNat → ((qR x3 ∧ qR v1) ∧ (v1 ≤ x3 → Φ x1) ∧ (¬ (v1 ≤ x3) → wp_X5_spotAt x3 ms (fun (r3 : Int) => wp_X5_way x2 r3 (fun (r4 : Int) => (∀ v5 : Int, v5 = (x1 + r4) → wp_X5_spotAt x3 ms (fun (r6 : Int) => (∀ v7 : Int, v7 = x3 + (1 : Int) → wp_X5_travel_6 Φ  ms n9 v5 r6 v7)))))))))
def wp_X5_travel  (ms : Nat → Int) (Φ : Int → Prop) : Prop := ∃ n : Nat, wp_X5_travel_6 Φ  ms n (0 : Int) (0 : Int) (0 : Int)
theorem iX5_travel_X5 : ∀ w ∈ wsX50, w ∈ wsX5_travel := fun w h => List.mem_cons_of_mem _ (List.mem_append_right _ (h))
set_option maxHeartbeats 4000000 in
set_option maxRecDepth 100000 in
theorem c_X5_travel (l : Launch) (D : va_G) (E : Nat → ClassId) (m0 m1 m2 m3 m4 m5 m6 m7 : Nat) (th : Int) (sm : Int) (le : Int) (tk : Int) (fr : Int) (ti : Int) (fa : Int) (ms : Nat → Int) (ma : Nat → Int) (mv : Nat → Int) (mt : Nat → Int) (mn : Nat → Int) (ml : Nat → Int) (mr : Nat → Int)  {Φ : Int → Prop} (hw : wp_X5_travel  ms Φ) : qRO l D E qF0 yX5_travel wsX5_travel 2 41 [(m0, .inr (5, [.int (qI th), .ref m1, .ref m2, .ref m3, .int (qI sm), .ref m4, .int (qI le), .ref m5, .ref m6, .ref m7, .int (qI tk), .int (qI fr), .int (qI ti), .int (qI fa)])), (m1, qA (E 0) 635 ms), (m2, qA (E 0) 635 ma), (m3, qA (E 0) 3175 mv), (m4, qA (E 0) 140 mt), (m5, qA (E 0) 2 mn), (m6, qA (E 0) 64 ml), (m7, qA (E 0) 49152 mr)] [.ref m0] qeI (fun r => Φ r) := by
  refine qRO_int (nL := 4) (own := RX5) qF0_ok (by decide) rfl rfl (Nat.le_of_ble_eq_true rfl) (fun X C hend => ?_)
  have hB6 : ∀ n8 : Nat, ∀ x1 : Int, ∀ x2 : Int, ∀ x3 : Int, wp_X5_travel_6 Φ  ms n8 x1 x2 x3 → qZ X 0 0 [(m0, .inr (5, [.int (qI th), .ref m1, .ref m2, .ref m3, .int (qI sm), .ref m4, .int (qI le), .ref m5, .ref m6, .ref m7, .int (qI tk), .int (qI fr), .int (qI ti), .int (qI fa)])), (m1, qA (E 0) 635 ms), (m2, qA (E 0) 635 ma), (m3, qA (E 0) 3175 mv), (m4, qA (E 0) 140 mt), (m5, qA (E 0) 2 mn), (m6, qA (E 0) 64 ml), (m7, qA (E 0) 49152 mr)] 6 [(0, .ref m0), (1, .int (qI x1)), (2, .int (qI x2)), (3, .int (qI x3))] [] := by
    intro n8
    induction n8 with
    | zero =>
      intro x1 x2 x3 hw
      exact hw.elim
    | succ n9 ih =>
      intro x1 x2 x3 hw
      unfold wp_X5_travel_6 at hw
      refine z_iload_n C 3 rfl rfl dX5_travel_6 ?_
      refine z_aload_n C 0 rfl rfl dX5_travel_7 ?_
      refine z_get C iX5_travel_X5 0 rfl rfl 1 (by decide) (List.mem_of_getElem? (i := 1) rfl) rfl rfl dX5_travel_8 ?_
      refine z_bipush C (by decide +kernel) dX5_travel_11 ?_
      refine z_iald C 1 rfl (by decide) hw.1 dX5_travel_13 ?_
      replace hw := hw.2
      refine z_name (fun v1 ev1 => ?_)
      replace hw := hw v1 ev1
      refine z_icmp_ge (tgt := 41) C hw.1 (by decide) dX5_travel_14 (fun c2 => ?_) (fun c2 => ?_)
      · replace hw := hw.2.1 c2
        refine z_iload_n C 1 rfl rfl dX5_travel_41 ?_
        exact hend 42 _ x1 dX5_travel_42 hw
      · replace hw := hw.2.2 c2
        refine z_iload_n C 1 rfl rfl dX5_travel_17 ?_
        refine z_iload_n C 2 rfl rfl dX5_travel_18 ?_
        refine z_aload_n C 0 rfl rfl dX5_travel_19 ?_
        refine z_iload_n C 3 rfl rfl dX5_travel_20 ?_
        refine z_callV (n := 1) C (c_X5_spotAt l D E m0 m1 m2 m3 m4 m5 m6 m7 th sm le tk fr ti fa ms ma mv mt mn ml mr x3 hw) qF0_ok (fun _ _ _ => trivial) gX5_travel_X5_spotAt rfl (by decide +kernel) ⟨(Nat.le_of_ble_eq_true rfl), (Nat.le_of_ble_eq_true rfl)⟩ rfl 0 rfl rfl [0, 1, 2, 3, 4, 5, 6, 7] rfl rfl (Nat.le_of_ble_eq_true rfl) dX5_travel_21 (fun r3 hw => ?_)
        show qZ X 0 0 [(m0, .inr (5, [.int (qI th), .ref m1, .ref m2, .ref m3, .int (qI sm), .ref m4, .int (qI le), .ref m5, .ref m6, .ref m7, .int (qI tk), .int (qI fr), .int (qI ti), .int (qI fa)])), (m1, qA (E 0) 635 ms), (m2, qA (E 0) 635 ma), (m3, qA (E 0) 3175 mv), (m4, qA (E 0) 140 mt), (m5, qA (E 0) 2 mn), (m6, qA (E 0) 64 ml), (m7, qA (E 0) 49152 mr)] _ _ [.int (qI r3), .int (qI x2), .int (qI x1)]
        refine z_callS (n := 2) C (c_X5_way l D E   x2 r3 hw) qF0_ok (fun _ _ _ => trivial) gX5_travel_X5_way rfl (by decide +kernel) ⟨(Nat.le_of_ble_eq_true rfl), (Nat.le_of_ble_eq_true rfl)⟩ rfl [] rfl rfl (Nat.le_of_ble_eq_true rfl) dX5_travel_24 (fun r4 hw => ?_)
        show qZ X 0 0 [(m0, .inr (5, [.int (qI th), .ref m1, .ref m2, .ref m3, .int (qI sm), .ref m4, .int (qI le), .ref m5, .ref m6, .ref m7, .int (qI tk), .int (qI fr), .int (qI ti), .int (qI fa)])), (m1, qA (E 0) 635 ms), (m2, qA (E 0) 635 ma), (m3, qA (E 0) 3175 mv), (m4, qA (E 0) 140 mt), (m5, qA (E 0) 2 mn), (m6, qA (E 0) 64 ml), (m7, qA (E 0) 49152 mr)] _ _ [.int (qI r4), .int (qI x1)]
        refine z_iadd C dX5_travel_27 ?_
        refine z_name (fun v5 ev5 => ?_)
        replace hw := hw v5 ev5
        refine z_istore_n C rfl (by decide) rfl dX5_travel_28 ?_
        refine z_aload_n C 1 rfl rfl dX5_travel_29 ?_
        refine z_iload_n C 3 rfl rfl dX5_travel_30 ?_
        refine z_callV (n := 1) C (c_X5_spotAt l D E m0 m1 m2 m3 m4 m5 m6 m7 th sm le tk fr ti fa ms ma mv mt mn ml mr x3 hw) qF0_ok (fun _ _ _ => trivial) gX5_travel_X5_spotAt rfl (by decide +kernel) ⟨(Nat.le_of_ble_eq_true rfl), (Nat.le_of_ble_eq_true rfl)⟩ rfl 0 rfl rfl [0, 1, 2, 3, 4, 5, 6, 7] rfl rfl (Nat.le_of_ble_eq_true rfl) dX5_travel_31 (fun r6 hw => ?_)
        show qZ X 0 0 [(m0, .inr (5, [.int (qI th), .ref m1, .ref m2, .ref m3, .int (qI sm), .ref m4, .int (qI le), .ref m5, .ref m6, .ref m7, .int (qI tk), .int (qI fr), .int (qI ti), .int (qI fa)])), (m1, qA (E 0) 635 ms), (m2, qA (E 0) 635 ma), (m3, qA (E 0) 3175 mv), (m4, qA (E 0) 140 mt), (m5, qA (E 0) 2 mn), (m6, qA (E 0) 64 ml), (m7, qA (E 0) 49152 mr)] _ _ [.int (qI r6)]
        refine z_istore_n C rfl (by decide) rfl dX5_travel_34 ?_
        obtain ⟨v7, ev7⟩ : ∃ v7 : Int, v7 = x3 + (1 : Int) := ⟨_, rfl⟩
        replace hw := hw v7 ev7
        refine z_iinc C 3 rfl (by decide) v7 ev7 rfl dX5_travel_35 ?_
        refine z_goto (tgt := 6) C (by decide) dX5_travel_38 ?_
        refine z_lst (ps := [3, 2, 1, 0]) (lv' := [(0, .ref m0), (1, .int (qI v5)), (2, .int (qI r6)), (3, .int (qI v7))]) (st' := []) rfl rfl ?_
        exact ih v5 r6 v7 hw
  unfold wp_X5_travel at hw
  show qZ X 0 0 [(m0, .inr (5, [.int (qI th), .ref m1, .ref m2, .ref m3, .int (qI sm), .ref m4, .int (qI le), .ref m5, .ref m6, .ref m7, .int (qI tk), .int (qI fr), .int (qI ti), .int (qI fa)])), (m1, qA (E 0) 635 ms), (m2, qA (E 0) 635 ma), (m3, qA (E 0) 3175 mv), (m4, qA (E 0) 140 mt), (m5, qA (E 0) 2 mn), (m6, qA (E 0) 64 ml), (m7, qA (E 0) 49152 mr)] 0 [(0, .ref m0)] []
  refine z_iconst C dX5_travel_0 ?_
  refine z_istore_n C rfl (by decide) rfl dX5_travel_1 ?_
  refine z_iconst C dX5_travel_2 ?_
  refine z_istore_n C rfl (by decide) rfl dX5_travel_3 ?_
  refine z_iconst C dX5_travel_4 ?_
  refine z_istore_n C rfl (by decide) rfl dX5_travel_5 ?_
  refine z_lst (ps := [3, 2, 1, 0]) (lv' := [(0, .ref m0), (1, .int (qI (0 : Int))), (2, .int (qI (0 : Int))), (3, .int (qI (0 : Int)))]) (st' := []) rfl rfl ?_
  obtain ⟨n8, hw⟩ := hw
  exact hB6 n8 (0 : Int) (0 : Int) (0 : Int) hw
def wp_X5_seenBy_39 (Φ : Int → Prop) (K4 : Int → Int → Prop) (x1 : Int) (x3 : Int) (k0 : Int) (k1 : Int) (ms : Nat → Int) (ml : Nat → Int) : Prop := (∀ v1 : Int, v1 = (k0 + k1) → (∀ v2 : Int, v2 = x3 + (1 : Int) → K4 v1 v2))
def wp_X5_seenBy_38 (Φ : Int → Prop) (K4 : Int → Int → Prop) (x1 : Int) (x3 : Int) (k0 : Int) (ms : Nat → Int) (ml : Nat → Int) : Prop := wp_X5_seenBy_39 Φ K4 x1 x3 k0 (0 : Int) ms ml
def wp_X5_seenBy_34 (Φ : Int → Prop) (K4 : Int → Int → Prop) (x1 : Int) (x3 : Int) (k0 : Int) (ms : Nat → Int) (ml : Nat → Int) : Prop := wp_X5_seenBy_39 Φ K4 x1 x3 k0 (1 : Int) ms ml
def wp_X5_seenBy_4 (Φ : Int → Prop)  (x1 : Int) (ms : Nat → Int) (ml : Nat → Int) : Nat → Int → Int → Prop
  | 0, _, _ => False
  | n9 + 1, x2, x3 => ((qR x3 ∧ qR (64 : Int)) ∧ ((64 : Int) ≤ x3 → Φ x2) ∧ (¬ ((64 : Int) ≤ x3) → (qR x1 ∧ (¬ x1 = (0 : Int) → wp_X5_isShotNow x3 ms ml (fun (r5 : Int) => (qR r5 ∧ (r5 = (0 : Int) → wp_X5_seenBy_38 Φ (wp_X5_seenBy_4 Φ  x1 ms ml n9) x1 x3 x2 ms ml) ∧ (¬ (r5 = (0 : Int)) → wp_X5_seenBy_34 Φ (wp_X5_seenBy_4 Φ  x1 ms ml n9) x1 x3 x2 ms ml)))) ∧ (¬ (¬ x1 = (0 : Int)) → wp_X5_isEyed x3 ms ml (fun (r7 : Int) => (qR r7 ∧ (r7 = (0 : Int) → wp_X5_seenBy_38 Φ (wp_X5_seenBy_4 Φ  x1 ms ml n9) x1 x3 x2 ms ml) ∧ (¬ (r7 = (0 : Int)) → wp_X5_seenBy_34 Φ (wp_X5_seenBy_4 Φ  x1 ms ml n9) x1 x3 x2 ms ml)))))))
def wp_X5_seenBy (x1 : Int) (ms : Nat → Int) (ml : Nat → Int) (Φ : Int → Prop) : Prop := ∃ n : Nat, wp_X5_seenBy_4 Φ  x1 ms ml n (0 : Int) (0 : Int)
set_option maxHeartbeats 4000000 in
set_option maxRecDepth 100000 in
theorem c_X5_seenBy (l : Launch) (D : va_G) (E : Nat → ClassId) (m0 m1 m2 m3 m4 m5 m6 m7 : Nat) (th : Int) (sm : Int) (le : Int) (tk : Int) (fr : Int) (ti : Int) (fa : Int) (ms : Nat → Int) (ma : Nat → Int) (mv : Nat → Int) (mt : Nat → Int) (mn : Nat → Int) (ml : Nat → Int) (mr : Nat → Int) (x1 : Int) {Φ : Int → Prop} (hw : wp_X5_seenBy x1 ms ml Φ) : qRO l D E qF0 yX5_seenBy wsX5_seenBy 6 136 [(m0, .inr (5, [.int (qI th), .ref m1, .ref m2, .ref m3, .int (qI sm), .ref m4, .int (qI le), .ref m5, .ref m6, .ref m7, .int (qI tk), .int (qI fr), .int (qI ti), .int (qI fa)])), (m1, qA (E 0) 635 ms), (m2, qA (E 0) 635 ma), (m3, qA (E 0) 3175 mv), (m4, qA (E 0) 140 mt), (m5, qA (E 0) 2 mn), (m6, qA (E 0) 64 ml), (m7, qA (E 0) 49152 mr)] [.ref m0, .int (qI x1)] qeI (fun r => Φ r) := by
  refine qRO_int (nL := 4) (own := RX5) qF0_ok (by decide) rfl rfl (Nat.le_of_ble_eq_true rfl) (fun X C hend => ?_)
  have hB39 : ∀ x1 : Int, ∀ K4 : Int → Int → Prop, (∀ (x2 : Int) (x3 : Int), K4 x2 x3 → qZ X 0 0 [(m0, .inr (5, [.int (qI th), .ref m1, .ref m2, .ref m3, .int (qI sm), .ref m4, .int (qI le), .ref m5, .ref m6, .ref m7, .int (qI tk), .int (qI fr), .int (qI ti), .int (qI fa)])), (m1, qA (E 0) 635 ms), (m2, qA (E 0) 635 ma), (m3, qA (E 0) 3175 mv), (m4, qA (E 0) 140 mt), (m5, qA (E 0) 2 mn), (m6, qA (E 0) 64 ml), (m7, qA (E 0) 49152 mr)] 4 [(0, .ref m0), (1, .int (qI x1)), (2, .int (qI x2)), (3, .int (qI x3))] []) → ∀ x3 : Int, ∀ k0 : Int, ∀ k1 : Int, wp_X5_seenBy_39 Φ K4 x1 x3 k0 k1 ms ml → qZ X 0 0 [(m0, .inr (5, [.int (qI th), .ref m1, .ref m2, .ref m3, .int (qI sm), .ref m4, .int (qI le), .ref m5, .ref m6, .ref m7, .int (qI tk), .int (qI fr), .int (qI ti), .int (qI fa)])), (m1, qA (E 0) 635 ms), (m2, qA (E 0) 635 ma), (m3, qA (E 0) 3175 mv), (m4, qA (E 0) 140 mt), (m5, qA (E 0) 2 mn), (m6, qA (E 0) 64 ml), (m7, qA (E 0) 49152 mr)] 39 [(0, .ref m0), (1, .int (qI x1)), (3, .int (qI x3))] [.int (qI k1), .int (qI k0)] := by
    intro x1 K4 hK4 x3 k0 k1 hw
    unfold wp_X5_seenBy_39 at hw
    refine z_iadd C dX5_seenBy_39 ?_
    refine z_name (fun v1 ev1 => ?_)
    replace hw := hw v1 ev1
    refine z_istore_n C rfl (by decide) rfl dX5_seenBy_40 ?_
    obtain ⟨v2, ev2⟩ : ∃ v2 : Int, v2 = x3 + (1 : Int) := ⟨_, rfl⟩
    replace hw := hw v2 ev2
    refine z_iinc C 3 rfl (by decide) v2 ev2 rfl dX5_seenBy_41 ?_
    refine z_goto (tgt := 4) C (by decide) dX5_seenBy_44 ?_
    refine z_lst (ps := [2, 3, 1, 0]) (lv' := [(0, .ref m0), (1, .int (qI x1)), (2, .int (qI v1)), (3, .int (qI v2))]) (st' := []) rfl rfl ?_
    exact hK4 v1 v2 hw
  have hB38 : ∀ x1 : Int, ∀ K4 : Int → Int → Prop, (∀ (x2 : Int) (x3 : Int), K4 x2 x3 → qZ X 0 0 [(m0, .inr (5, [.int (qI th), .ref m1, .ref m2, .ref m3, .int (qI sm), .ref m4, .int (qI le), .ref m5, .ref m6, .ref m7, .int (qI tk), .int (qI fr), .int (qI ti), .int (qI fa)])), (m1, qA (E 0) 635 ms), (m2, qA (E 0) 635 ma), (m3, qA (E 0) 3175 mv), (m4, qA (E 0) 140 mt), (m5, qA (E 0) 2 mn), (m6, qA (E 0) 64 ml), (m7, qA (E 0) 49152 mr)] 4 [(0, .ref m0), (1, .int (qI x1)), (2, .int (qI x2)), (3, .int (qI x3))] []) → ∀ x3 : Int, ∀ k0 : Int, wp_X5_seenBy_38 Φ K4 x1 x3 k0 ms ml → qZ X 0 0 [(m0, .inr (5, [.int (qI th), .ref m1, .ref m2, .ref m3, .int (qI sm), .ref m4, .int (qI le), .ref m5, .ref m6, .ref m7, .int (qI tk), .int (qI fr), .int (qI ti), .int (qI fa)])), (m1, qA (E 0) 635 ms), (m2, qA (E 0) 635 ma), (m3, qA (E 0) 3175 mv), (m4, qA (E 0) 140 mt), (m5, qA (E 0) 2 mn), (m6, qA (E 0) 64 ml), (m7, qA (E 0) 49152 mr)] 38 [(0, .ref m0), (1, .int (qI x1)), (3, .int (qI x3))] [.int (qI k0)] := by
    intro x1 K4 hK4 x3 k0 hw
    unfold wp_X5_seenBy_38 at hw
    refine z_iconst C dX5_seenBy_38 ?_
    refine z_lst (ps := [0, 1, 2]) (lv' := [(0, .ref m0), (1, .int (qI x1)), (3, .int (qI x3))]) (st' := [.int (qI (0 : Int)), .int (qI k0)]) rfl rfl ?_
    exact hB39 x1 _ hK4 x3 k0 (0 : Int) hw
  have hB34 : ∀ x1 : Int, ∀ K4 : Int → Int → Prop, (∀ (x2 : Int) (x3 : Int), K4 x2 x3 → qZ X 0 0 [(m0, .inr (5, [.int (qI th), .ref m1, .ref m2, .ref m3, .int (qI sm), .ref m4, .int (qI le), .ref m5, .ref m6, .ref m7, .int (qI tk), .int (qI fr), .int (qI ti), .int (qI fa)])), (m1, qA (E 0) 635 ms), (m2, qA (E 0) 635 ma), (m3, qA (E 0) 3175 mv), (m4, qA (E 0) 140 mt), (m5, qA (E 0) 2 mn), (m6, qA (E 0) 64 ml), (m7, qA (E 0) 49152 mr)] 4 [(0, .ref m0), (1, .int (qI x1)), (2, .int (qI x2)), (3, .int (qI x3))] []) → ∀ x3 : Int, ∀ k0 : Int, wp_X5_seenBy_34 Φ K4 x1 x3 k0 ms ml → qZ X 0 0 [(m0, .inr (5, [.int (qI th), .ref m1, .ref m2, .ref m3, .int (qI sm), .ref m4, .int (qI le), .ref m5, .ref m6, .ref m7, .int (qI tk), .int (qI fr), .int (qI ti), .int (qI fa)])), (m1, qA (E 0) 635 ms), (m2, qA (E 0) 635 ma), (m3, qA (E 0) 3175 mv), (m4, qA (E 0) 140 mt), (m5, qA (E 0) 2 mn), (m6, qA (E 0) 64 ml), (m7, qA (E 0) 49152 mr)] 34 [(0, .ref m0), (1, .int (qI x1)), (3, .int (qI x3))] [.int (qI k0)] := by
    intro x1 K4 hK4 x3 k0 hw
    unfold wp_X5_seenBy_34 at hw
    refine z_iconst C dX5_seenBy_34 ?_
    refine z_goto (tgt := 39) C (by decide) dX5_seenBy_35 ?_
    refine z_lst (ps := [0, 1, 2]) (lv' := [(0, .ref m0), (1, .int (qI x1)), (3, .int (qI x3))]) (st' := [.int (qI (1 : Int)), .int (qI k0)]) rfl rfl ?_
    exact hB39 x1 _ hK4 x3 k0 (1 : Int) hw
  have hB4 : ∀ x1 : Int, ∀ n8 : Nat, ∀ x2 : Int, ∀ x3 : Int, wp_X5_seenBy_4 Φ  x1 ms ml n8 x2 x3 → qZ X 0 0 [(m0, .inr (5, [.int (qI th), .ref m1, .ref m2, .ref m3, .int (qI sm), .ref m4, .int (qI le), .ref m5, .ref m6, .ref m7, .int (qI tk), .int (qI fr), .int (qI ti), .int (qI fa)])), (m1, qA (E 0) 635 ms), (m2, qA (E 0) 635 ma), (m3, qA (E 0) 3175 mv), (m4, qA (E 0) 140 mt), (m5, qA (E 0) 2 mn), (m6, qA (E 0) 64 ml), (m7, qA (E 0) 49152 mr)] 4 [(0, .ref m0), (1, .int (qI x1)), (2, .int (qI x2)), (3, .int (qI x3))] [] := by
    intro x1 n8
    induction n8 with
    | zero =>
      intro x2 x3 hw
      exact hw.elim
    | succ n9 ih =>
      intro x2 x3 hw
      unfold wp_X5_seenBy_4 at hw
      refine z_iload_n C 3 rfl rfl dX5_seenBy_4 ?_
      refine z_bipush C (by decide +kernel) dX5_seenBy_5 ?_
      refine z_icmp_ge (tgt := 47) C hw.1 (by decide) dX5_seenBy_7 (fun c3 => ?_) (fun c3 => ?_)
      · replace hw := hw.2.1 c3
        refine z_iload_n C 2 rfl rfl dX5_seenBy_47 ?_
        exact hend 48 _ x2 dX5_seenBy_48 hw
      · replace hw := hw.2.2 c3
        refine z_iload_n C 2 rfl rfl dX5_seenBy_10 ?_
        refine z_iload_n C 1 rfl rfl dX5_seenBy_11 ?_
        refine z_if_ne (tgt := 26) C hw.1 (by decide) dX5_seenBy_12 (fun c4 => ?_) (fun c4 => ?_)
        · replace hw := hw.2.1 c4
          refine z_aload_n C 0 rfl rfl dX5_seenBy_26 ?_
          refine z_iload_n C 3 rfl rfl dX5_seenBy_27 ?_
          refine z_callV (n := 1) C (c_X5_isShotNow l D E m0 m1 m2 m3 m4 m5 m6 m7 th sm le tk fr ti fa ms ma mv mt mn ml mr x3 hw) qF0_ok (fun _ _ _ => trivial) gX5_seenBy_X5_isShotNow rfl (by decide +kernel) ⟨(Nat.le_of_ble_eq_true rfl), (Nat.le_of_ble_eq_true rfl)⟩ rfl 0 rfl rfl [0, 1, 2, 3, 4, 5, 6, 7] rfl rfl (Nat.le_of_ble_eq_true rfl) dX5_seenBy_28 (fun r5 hw => ?_)
          show qZ X 0 0 [(m0, .inr (5, [.int (qI th), .ref m1, .ref m2, .ref m3, .int (qI sm), .ref m4, .int (qI le), .ref m5, .ref m6, .ref m7, .int (qI tk), .int (qI fr), .int (qI ti), .int (qI fa)])), (m1, qA (E 0) 635 ms), (m2, qA (E 0) 635 ma), (m3, qA (E 0) 3175 mv), (m4, qA (E 0) 140 mt), (m5, qA (E 0) 2 mn), (m6, qA (E 0) 64 ml), (m7, qA (E 0) 49152 mr)] _ _ [.int (qI r5), .int (qI x2)]
          refine z_if_eq (tgt := 38) C hw.1 (by decide) dX5_seenBy_31 (fun c6 => ?_) (fun c6 => ?_)
          · replace hw := hw.2.1 c6
            refine z_lst (ps := [0, 1, 3]) (lv' := [(0, .ref m0), (1, .int (qI x1)), (3, .int (qI x3))]) (st' := [.int (qI x2)]) rfl rfl ?_
            exact hB38 x1 _ ih x3 x2 hw
          · replace hw := hw.2.2 c6
            refine z_lst (ps := [0, 1, 3]) (lv' := [(0, .ref m0), (1, .int (qI x1)), (3, .int (qI x3))]) (st' := [.int (qI x2)]) rfl rfl ?_
            exact hB34 x1 _ ih x3 x2 hw
        · replace hw := hw.2.2 c4
          refine z_aload_n C 0 rfl rfl dX5_seenBy_15 ?_
          refine z_iload_n C 3 rfl rfl dX5_seenBy_16 ?_
          refine z_callV (n := 1) C (c_X5_isEyed l D E m0 m1 m2 m3 m4 m5 m6 m7 th sm le tk fr ti fa ms ma mv mt mn ml mr x3 hw) qF0_ok (fun _ _ _ => trivial) gX5_seenBy_X5_isEyed rfl (by decide +kernel) ⟨(Nat.le_of_ble_eq_true rfl), (Nat.le_of_ble_eq_true rfl)⟩ rfl 0 rfl rfl [0, 1, 2, 3, 4, 5, 6, 7] rfl rfl (Nat.le_of_ble_eq_true rfl) dX5_seenBy_17 (fun r7 hw => ?_)
          show qZ X 0 0 [(m0, .inr (5, [.int (qI th), .ref m1, .ref m2, .ref m3, .int (qI sm), .ref m4, .int (qI le), .ref m5, .ref m6, .ref m7, .int (qI tk), .int (qI fr), .int (qI ti), .int (qI fa)])), (m1, qA (E 0) 635 ms), (m2, qA (E 0) 635 ma), (m3, qA (E 0) 3175 mv), (m4, qA (E 0) 140 mt), (m5, qA (E 0) 2 mn), (m6, qA (E 0) 64 ml), (m7, qA (E 0) 49152 mr)] _ _ [.int (qI r7), .int (qI x2)]
          refine z_if_eq (tgt := 38) C hw.1 (by decide) dX5_seenBy_20 (fun c8 => ?_) (fun c8 => ?_)
          · replace hw := hw.2.1 c8
            refine z_lst (ps := [0, 1, 3]) (lv' := [(0, .ref m0), (1, .int (qI x1)), (3, .int (qI x3))]) (st' := [.int (qI x2)]) rfl rfl ?_
            exact hB38 x1 _ ih x3 x2 hw
          · replace hw := hw.2.2 c8
            refine z_goto (tgt := 34) C (by decide) dX5_seenBy_23 ?_
            refine z_lst (ps := [0, 1, 3]) (lv' := [(0, .ref m0), (1, .int (qI x1)), (3, .int (qI x3))]) (st' := [.int (qI x2)]) rfl rfl ?_
            exact hB34 x1 _ ih x3 x2 hw
  unfold wp_X5_seenBy at hw
  show qZ X 0 0 [(m0, .inr (5, [.int (qI th), .ref m1, .ref m2, .ref m3, .int (qI sm), .ref m4, .int (qI le), .ref m5, .ref m6, .ref m7, .int (qI tk), .int (qI fr), .int (qI ti), .int (qI fa)])), (m1, qA (E 0) 635 ms), (m2, qA (E 0) 635 ma), (m3, qA (E 0) 3175 mv), (m4, qA (E 0) 140 mt), (m5, qA (E 0) 2 mn), (m6, qA (E 0) 64 ml), (m7, qA (E 0) 49152 mr)] 0 [(0, .ref m0), (1, .int (qI x1))] []
  refine z_iconst C dX5_seenBy_0 ?_
  refine z_istore_n C rfl (by decide) rfl dX5_seenBy_1 ?_
  refine z_iconst C dX5_seenBy_2 ?_
  refine z_istore_n C rfl (by decide) rfl dX5_seenBy_3 ?_
  refine z_lst (ps := [2, 3, 1, 0]) (lv' := [(0, .ref m0), (1, .int (qI x1)), (2, .int (qI (0 : Int))), (3, .int (qI (0 : Int)))]) (st' := []) rfl rfl ?_
  obtain ⟨n8, hw⟩ := hw
  exact hB4 x1 n8 (0 : Int) (0 : Int) hw
def wp_X5_wrongBy_25 (Φ : Int → Prop) (K4 : Int → Int → Prop) (x1 : Int) (x3 : Int) (k0 : Int) (k1 : Int) (ms : Nat → Int) (ml : Nat → Int) : Prop := (∀ v1 : Int, v1 = (k0 + k1) → (∀ v2 : Int, v2 = x3 + (1 : Int) → K4 v1 v2))
def wp_X5_wrongBy_4 (Φ : Int → Prop)  (x1 : Int) (ms : Nat → Int) (ml : Nat → Int) : Nat → Int → Int → Prop
  | 0, _, _ => False
  | n9 + 1, x2, x3 => ((qR x3 ∧ qR (64 : Int)) ∧ ((64 : Int) ≤ x3 → Φ x2) ∧ (¬ ((64 : Int) ≤ x3) → wp_X5_isWrong x3 x1 ms ml (fun (r4 : Int) => (qR r4 ∧ (r4 = (0 : Int) → wp_X5_wrongBy_25 Φ (wp_X5_wrongBy_4 Φ  x1 ms ml n9) x1 x3 x2 (0 : Int) ms ml) ∧ (¬ (r4 = (0 : Int)) → wp_X5_wrongBy_25 Φ (wp_X5_wrongBy_4 Φ  x1 ms ml n9) x1 x3 x2 (1 : Int) ms ml)))))
def wp_X5_wrongBy (x1 : Int) (ms : Nat → Int) (ml : Nat → Int) (Φ : Int → Prop) : Prop := ∃ n : Nat, wp_X5_wrongBy_4 Φ  x1 ms ml n (0 : Int) (0 : Int)
set_option maxHeartbeats 4000000 in
set_option maxRecDepth 100000 in
theorem c_X5_wrongBy (l : Launch) (D : va_G) (E : Nat → ClassId) (m0 m1 m2 m3 m4 m5 m6 m7 : Nat) (th : Int) (sm : Int) (le : Int) (tk : Int) (fr : Int) (ti : Int) (fa : Int) (ms : Nat → Int) (ma : Nat → Int) (mv : Nat → Int) (mt : Nat → Int) (mn : Nat → Int) (ml : Nat → Int) (mr : Nat → Int) (x1 : Int) {Φ : Int → Prop} (hw : wp_X5_wrongBy x1 ms ml Φ) : qRO l D E qF0 yX5_wrongBy wsX5_wrongBy 7 158 [(m0, .inr (5, [.int (qI th), .ref m1, .ref m2, .ref m3, .int (qI sm), .ref m4, .int (qI le), .ref m5, .ref m6, .ref m7, .int (qI tk), .int (qI fr), .int (qI ti), .int (qI fa)])), (m1, qA (E 0) 635 ms), (m2, qA (E 0) 635 ma), (m3, qA (E 0) 3175 mv), (m4, qA (E 0) 140 mt), (m5, qA (E 0) 2 mn), (m6, qA (E 0) 64 ml), (m7, qA (E 0) 49152 mr)] [.ref m0, .int (qI x1)] qeI (fun r => Φ r) := by
  refine qRO_int (nL := 4) (own := RX5) qF0_ok (by decide) rfl rfl (Nat.le_of_ble_eq_true rfl) (fun X C hend => ?_)
  have hB25 : ∀ x1 : Int, ∀ K4 : Int → Int → Prop, (∀ (x2 : Int) (x3 : Int), K4 x2 x3 → qZ X 0 0 [(m0, .inr (5, [.int (qI th), .ref m1, .ref m2, .ref m3, .int (qI sm), .ref m4, .int (qI le), .ref m5, .ref m6, .ref m7, .int (qI tk), .int (qI fr), .int (qI ti), .int (qI fa)])), (m1, qA (E 0) 635 ms), (m2, qA (E 0) 635 ma), (m3, qA (E 0) 3175 mv), (m4, qA (E 0) 140 mt), (m5, qA (E 0) 2 mn), (m6, qA (E 0) 64 ml), (m7, qA (E 0) 49152 mr)] 4 [(0, .ref m0), (1, .int (qI x1)), (2, .int (qI x2)), (3, .int (qI x3))] []) → ∀ x3 : Int, ∀ k0 : Int, ∀ k1 : Int, wp_X5_wrongBy_25 Φ K4 x1 x3 k0 k1 ms ml → qZ X 0 0 [(m0, .inr (5, [.int (qI th), .ref m1, .ref m2, .ref m3, .int (qI sm), .ref m4, .int (qI le), .ref m5, .ref m6, .ref m7, .int (qI tk), .int (qI fr), .int (qI ti), .int (qI fa)])), (m1, qA (E 0) 635 ms), (m2, qA (E 0) 635 ma), (m3, qA (E 0) 3175 mv), (m4, qA (E 0) 140 mt), (m5, qA (E 0) 2 mn), (m6, qA (E 0) 64 ml), (m7, qA (E 0) 49152 mr)] 25 [(0, .ref m0), (1, .int (qI x1)), (3, .int (qI x3))] [.int (qI k1), .int (qI k0)] := by
    intro x1 K4 hK4 x3 k0 k1 hw
    unfold wp_X5_wrongBy_25 at hw
    refine z_iadd C dX5_wrongBy_25 ?_
    refine z_name (fun v1 ev1 => ?_)
    replace hw := hw v1 ev1
    refine z_istore_n C rfl (by decide) rfl dX5_wrongBy_26 ?_
    obtain ⟨v2, ev2⟩ : ∃ v2 : Int, v2 = x3 + (1 : Int) := ⟨_, rfl⟩
    replace hw := hw v2 ev2
    refine z_iinc C 3 rfl (by decide) v2 ev2 rfl dX5_wrongBy_27 ?_
    refine z_goto (tgt := 4) C (by decide) dX5_wrongBy_30 ?_
    refine z_lst (ps := [2, 3, 1, 0]) (lv' := [(0, .ref m0), (1, .int (qI x1)), (2, .int (qI v1)), (3, .int (qI v2))]) (st' := []) rfl rfl ?_
    exact hK4 v1 v2 hw
  have hB4 : ∀ x1 : Int, ∀ n8 : Nat, ∀ x2 : Int, ∀ x3 : Int, wp_X5_wrongBy_4 Φ  x1 ms ml n8 x2 x3 → qZ X 0 0 [(m0, .inr (5, [.int (qI th), .ref m1, .ref m2, .ref m3, .int (qI sm), .ref m4, .int (qI le), .ref m5, .ref m6, .ref m7, .int (qI tk), .int (qI fr), .int (qI ti), .int (qI fa)])), (m1, qA (E 0) 635 ms), (m2, qA (E 0) 635 ma), (m3, qA (E 0) 3175 mv), (m4, qA (E 0) 140 mt), (m5, qA (E 0) 2 mn), (m6, qA (E 0) 64 ml), (m7, qA (E 0) 49152 mr)] 4 [(0, .ref m0), (1, .int (qI x1)), (2, .int (qI x2)), (3, .int (qI x3))] [] := by
    intro x1 n8
    induction n8 with
    | zero =>
      intro x2 x3 hw
      exact hw.elim
    | succ n9 ih =>
      intro x2 x3 hw
      unfold wp_X5_wrongBy_4 at hw
      refine z_iload_n C 3 rfl rfl dX5_wrongBy_4 ?_
      refine z_bipush C (by decide +kernel) dX5_wrongBy_5 ?_
      refine z_icmp_ge (tgt := 33) C hw.1 (by decide) dX5_wrongBy_7 (fun c3 => ?_) (fun c3 => ?_)
      · replace hw := hw.2.1 c3
        refine z_iload_n C 2 rfl rfl dX5_wrongBy_33 ?_
        exact hend 34 _ x2 dX5_wrongBy_34 hw
      · replace hw := hw.2.2 c3
        refine z_iload_n C 2 rfl rfl dX5_wrongBy_10 ?_
        refine z_aload_n C 0 rfl rfl dX5_wrongBy_11 ?_
        refine z_iload_n C 3 rfl rfl dX5_wrongBy_12 ?_
        refine z_iload_n C 1 rfl rfl dX5_wrongBy_13 ?_
        refine z_callV (n := 2) C (c_X5_isWrong l D E m0 m1 m2 m3 m4 m5 m6 m7 th sm le tk fr ti fa ms ma mv mt mn ml mr x3 x1 hw) qF0_ok (fun _ _ _ => trivial) gX5_wrongBy_X5_isWrong rfl (by decide +kernel) ⟨(Nat.le_of_ble_eq_true rfl), (Nat.le_of_ble_eq_true rfl)⟩ rfl 0 rfl rfl [0, 1, 2, 3, 4, 5, 6, 7] rfl rfl (Nat.le_of_ble_eq_true rfl) dX5_wrongBy_14 (fun r4 hw => ?_)
        show qZ X 0 0 [(m0, .inr (5, [.int (qI th), .ref m1, .ref m2, .ref m3, .int (qI sm), .ref m4, .int (qI le), .ref m5, .ref m6, .ref m7, .int (qI tk), .int (qI fr), .int (qI ti), .int (qI fa)])), (m1, qA (E 0) 635 ms), (m2, qA (E 0) 635 ma), (m3, qA (E 0) 3175 mv), (m4, qA (E 0) 140 mt), (m5, qA (E 0) 2 mn), (m6, qA (E 0) 64 ml), (m7, qA (E 0) 49152 mr)] _ _ [.int (qI r4), .int (qI x2)]
        refine z_if_eq (tgt := 24) C hw.1 (by decide) dX5_wrongBy_17 (fun c5 => ?_) (fun c5 => ?_)
        · replace hw := hw.2.1 c5
          refine z_iconst C dX5_wrongBy_24 ?_
          refine z_lst (ps := [0, 1, 3]) (lv' := [(0, .ref m0), (1, .int (qI x1)), (3, .int (qI x3))]) (st' := [.int (qI (0 : Int)), .int (qI x2)]) rfl rfl ?_
          exact hB25 x1 _ ih x3 x2 (0 : Int) hw
        · replace hw := hw.2.2 c5
          refine z_iconst C dX5_wrongBy_20 ?_
          refine z_goto (tgt := 25) C (by decide) dX5_wrongBy_21 ?_
          refine z_lst (ps := [0, 1, 3]) (lv' := [(0, .ref m0), (1, .int (qI x1)), (3, .int (qI x3))]) (st' := [.int (qI (1 : Int)), .int (qI x2)]) rfl rfl ?_
          exact hB25 x1 _ ih x3 x2 (1 : Int) hw
  unfold wp_X5_wrongBy at hw
  show qZ X 0 0 [(m0, .inr (5, [.int (qI th), .ref m1, .ref m2, .ref m3, .int (qI sm), .ref m4, .int (qI le), .ref m5, .ref m6, .ref m7, .int (qI tk), .int (qI fr), .int (qI ti), .int (qI fa)])), (m1, qA (E 0) 635 ms), (m2, qA (E 0) 635 ma), (m3, qA (E 0) 3175 mv), (m4, qA (E 0) 140 mt), (m5, qA (E 0) 2 mn), (m6, qA (E 0) 64 ml), (m7, qA (E 0) 49152 mr)] 0 [(0, .ref m0), (1, .int (qI x1))] []
  refine z_iconst C dX5_wrongBy_0 ?_
  refine z_istore_n C rfl (by decide) rfl dX5_wrongBy_1 ?_
  refine z_iconst C dX5_wrongBy_2 ?_
  refine z_istore_n C rfl (by decide) rfl dX5_wrongBy_3 ?_
  refine z_lst (ps := [2, 3, 1, 0]) (lv' := [(0, .ref m0), (1, .int (qI x1)), (2, .int (qI (0 : Int))), (3, .int (qI (0 : Int)))]) (st' := []) rfl rfl ?_
  obtain ⟨n8, hw⟩ := hw
  exact hB4 x1 n8 (0 : Int) (0 : Int) hw
def wp_X5_lastLit_31 (Φ : Int → Prop) (K5 : Int → Int → Prop) (x2 : Int) (k0 : Int) (ml : Nat → Int) : Prop := (∀ v1 : Int, v1 = x2 + (1 : Int) → K5 k0 v1)
def wp_X5_lastLit_5 (Φ : Int → Prop)  (ml : Nat → Int) : Nat → Int → Int → Prop
  | 0, _, _ => False
  | n9 + 1, x1, x2 => ((qR x2 ∧ qR (64 : Int)) ∧ ((64 : Int) ≤ x2 → Φ x1) ∧ (¬ ((64 : Int) ≤ x2) → ((0 ≤ x2 ∧ x2 < 64) ∧ (∀ v3 : Int, v3 = ml (x2).toNat → ((qR v3 ∧ qR x1) ∧ (v3 ≤ x1 → wp_X5_lastLit_31 Φ (wp_X5_lastLit_5 Φ  ml n9) x2 x1 ml) ∧ (¬ (v3 ≤ x1) → ((0 ≤ x2 ∧ x2 < 64) ∧ (∀ v5 : Int, v5 = ml (x2).toNat → wp_X5_lastLit_31 Φ (wp_X5_lastLit_5 Φ  ml n9) x2 v5 ml))))))))
def wp_X5_lastLit  (ml : Nat → Int) (Φ : Int → Prop) : Prop := ∃ n : Nat, wp_X5_lastLit_5 Φ  ml n (-9 : Int) (0 : Int)
theorem iX5_lastLit_X5 : ∀ w ∈ wsX50, w ∈ wsX5_lastLit := fun w h => List.mem_cons_of_mem _ (List.mem_append_right _ (h))
set_option maxHeartbeats 4000000 in
set_option maxRecDepth 100000 in
theorem c_X5_lastLit (l : Launch) (D : va_G) (E : Nat → ClassId) (m0 m1 m2 m3 m4 m5 m6 m7 : Nat) (th : Int) (sm : Int) (le : Int) (tk : Int) (fr : Int) (ti : Int) (fa : Int) (ms : Nat → Int) (ma : Nat → Int) (mv : Nat → Int) (mt : Nat → Int) (mn : Nat → Int) (ml : Nat → Int) (mr : Nat → Int)  {Φ : Int → Prop} (hw : wp_X5_lastLit  ml Φ) : qRO l D E qF0 yX5_lastLit wsX5_lastLit 0 0 [(m0, .inr (5, [.int (qI th), .ref m1, .ref m2, .ref m3, .int (qI sm), .ref m4, .int (qI le), .ref m5, .ref m6, .ref m7, .int (qI tk), .int (qI fr), .int (qI ti), .int (qI fa)])), (m1, qA (E 0) 635 ms), (m2, qA (E 0) 635 ma), (m3, qA (E 0) 3175 mv), (m4, qA (E 0) 140 mt), (m5, qA (E 0) 2 mn), (m6, qA (E 0) 64 ml), (m7, qA (E 0) 49152 mr)] [.ref m0] qeI (fun r => Φ r) := by
  refine qRO_int (nL := 3) (own := RX5) qF0_ok (by decide) rfl rfl (Nat.le_of_ble_eq_true rfl) (fun X C hend => ?_)
  have hB31 : ∀ K5 : Int → Int → Prop, (∀ (x1 : Int) (x2 : Int), K5 x1 x2 → qZ X 0 0 [(m0, .inr (5, [.int (qI th), .ref m1, .ref m2, .ref m3, .int (qI sm), .ref m4, .int (qI le), .ref m5, .ref m6, .ref m7, .int (qI tk), .int (qI fr), .int (qI ti), .int (qI fa)])), (m1, qA (E 0) 635 ms), (m2, qA (E 0) 635 ma), (m3, qA (E 0) 3175 mv), (m4, qA (E 0) 140 mt), (m5, qA (E 0) 2 mn), (m6, qA (E 0) 64 ml), (m7, qA (E 0) 49152 mr)] 5 [(0, .ref m0), (1, .int (qI x1)), (2, .int (qI x2))] []) → ∀ x2 : Int, ∀ k0 : Int, wp_X5_lastLit_31 Φ K5 x2 k0 ml → qZ X 0 0 [(m0, .inr (5, [.int (qI th), .ref m1, .ref m2, .ref m3, .int (qI sm), .ref m4, .int (qI le), .ref m5, .ref m6, .ref m7, .int (qI tk), .int (qI fr), .int (qI ti), .int (qI fa)])), (m1, qA (E 0) 635 ms), (m2, qA (E 0) 635 ma), (m3, qA (E 0) 3175 mv), (m4, qA (E 0) 140 mt), (m5, qA (E 0) 2 mn), (m6, qA (E 0) 64 ml), (m7, qA (E 0) 49152 mr)] 31 [(0, .ref m0), (2, .int (qI x2))] [.int (qI k0)] := by
    intro K5 hK5 x2 k0 hw
    unfold wp_X5_lastLit_31 at hw
    refine z_istore_n C rfl (by decide) rfl dX5_lastLit_31 ?_
    obtain ⟨v1, ev1⟩ : ∃ v1 : Int, v1 = x2 + (1 : Int) := ⟨_, rfl⟩
    replace hw := hw v1 ev1
    refine z_iinc C 2 rfl (by decide) v1 ev1 rfl dX5_lastLit_32 ?_
    refine z_goto (tgt := 5) C (by decide) dX5_lastLit_35 ?_
    refine z_lst (ps := [2, 1, 0]) (lv' := [(0, .ref m0), (1, .int (qI k0)), (2, .int (qI v1))]) (st' := []) rfl rfl ?_
    exact hK5 k0 v1 hw
  have hB5 : ∀ n8 : Nat, ∀ x1 : Int, ∀ x2 : Int, wp_X5_lastLit_5 Φ  ml n8 x1 x2 → qZ X 0 0 [(m0, .inr (5, [.int (qI th), .ref m1, .ref m2, .ref m3, .int (qI sm), .ref m4, .int (qI le), .ref m5, .ref m6, .ref m7, .int (qI tk), .int (qI fr), .int (qI ti), .int (qI fa)])), (m1, qA (E 0) 635 ms), (m2, qA (E 0) 635 ma), (m3, qA (E 0) 3175 mv), (m4, qA (E 0) 140 mt), (m5, qA (E 0) 2 mn), (m6, qA (E 0) 64 ml), (m7, qA (E 0) 49152 mr)] 5 [(0, .ref m0), (1, .int (qI x1)), (2, .int (qI x2))] [] := by
    intro n8
    induction n8 with
    | zero =>
      intro x1 x2 hw
      exact hw.elim
    | succ n9 ih =>
      intro x1 x2 hw
      unfold wp_X5_lastLit_5 at hw
      refine z_iload_n C 2 rfl rfl dX5_lastLit_5 ?_
      refine z_bipush C (by decide +kernel) dX5_lastLit_6 ?_
      refine z_icmp_ge (tgt := 38) C hw.1 (by decide) dX5_lastLit_8 (fun c2 => ?_) (fun c2 => ?_)
      · replace hw := hw.2.1 c2
        refine z_iload_n C 1 rfl rfl dX5_lastLit_38 ?_
        exact hend 39 _ x1 dX5_lastLit_39 hw
      · replace hw := hw.2.2 c2
        refine z_aload_n C 0 rfl rfl dX5_lastLit_11 ?_
        refine z_get C iX5_lastLit_X5 0 rfl rfl 8 (by decide) (List.mem_of_getElem? (i := 1) rfl) rfl rfl dX5_lastLit_12 ?_
        refine z_iload_n C 2 rfl rfl dX5_lastLit_15 ?_
        refine z_iald C 6 rfl (by decide) hw.1 dX5_lastLit_16 ?_
        replace hw := hw.2
        refine z_name (fun v3 ev3 => ?_)
        replace hw := hw v3 ev3
        refine z_iload_n C 1 rfl rfl dX5_lastLit_17 ?_
        refine z_icmp_le (tgt := 30) C hw.1 (by decide) dX5_lastLit_18 (fun c4 => ?_) (fun c4 => ?_)
        · replace hw := hw.2.1 c4
          refine z_iload_n C 1 rfl rfl dX5_lastLit_30 ?_
          refine z_lst (ps := [0, 2]) (lv' := [(0, .ref m0), (2, .int (qI x2))]) (st' := [.int (qI x1)]) rfl rfl ?_
          exact hB31 _ ih x2 x1 hw
        · replace hw := hw.2.2 c4
          refine z_aload_n C 0 rfl rfl dX5_lastLit_21 ?_
          refine z_get C iX5_lastLit_X5 0 rfl rfl 8 (by decide) (List.mem_of_getElem? (i := 1) rfl) rfl rfl dX5_lastLit_22 ?_
          refine z_iload_n C 2 rfl rfl dX5_lastLit_25 ?_
          refine z_iald C 6 rfl (by decide) hw.1 dX5_lastLit_26 ?_
          replace hw := hw.2
          refine z_name (fun v5 ev5 => ?_)
          replace hw := hw v5 ev5
          refine z_goto (tgt := 31) C (by decide) dX5_lastLit_27 ?_
          refine z_lst (ps := [0, 2]) (lv' := [(0, .ref m0), (2, .int (qI x2))]) (st' := [.int (qI v5)]) rfl rfl ?_
          exact hB31 _ ih x2 v5 hw
  unfold wp_X5_lastLit at hw
  show qZ X 0 0 [(m0, .inr (5, [.int (qI th), .ref m1, .ref m2, .ref m3, .int (qI sm), .ref m4, .int (qI le), .ref m5, .ref m6, .ref m7, .int (qI tk), .int (qI fr), .int (qI ti), .int (qI fa)])), (m1, qA (E 0) 635 ms), (m2, qA (E 0) 635 ma), (m3, qA (E 0) 3175 mv), (m4, qA (E 0) 140 mt), (m5, qA (E 0) 2 mn), (m6, qA (E 0) 64 ml), (m7, qA (E 0) 49152 mr)] 0 [(0, .ref m0)] []
  refine z_bipush C (by decide +kernel) dX5_lastLit_0 ?_
  refine z_istore_n C rfl (by decide) rfl dX5_lastLit_2 ?_
  refine z_iconst C dX5_lastLit_3 ?_
  refine z_istore_n C rfl (by decide) rfl dX5_lastLit_4 ?_
  refine z_lst (ps := [2, 1, 0]) (lv' := [(0, .ref m0), (1, .int (qI (-9 : Int))), (2, .int (qI (0 : Int)))]) (st' := []) rfl rfl ?_
  obtain ⟨n8, hw⟩ := hw
  exact hB5 n8 (-9 : Int) (0 : Int) hw
def wp_X5_count (x1 : Int) (th : Int) (sm : Int) (le : Int) (ms : Nat → Int) (ml : Nat → Int) (Φ : Int → Int → (Nat → Int) → Prop) : Prop := wp_X5_in x1 (13 : Int) (18 : Int) (fun (r1 : Int) => (qR r1 ∧ (r1 = (0 : Int) → wp_X5_litMany ms ml (fun (r3 : Int) (g4 : Nat → Int) => (qR x1 ∧ ((x1 < (0 : Int) ∨ (12 : Int) < x1) → Φ (-1 : Int) (0 : Int) g4) ∧ (x1 = (0 : Int) → ((0 ≤ (6 : Int) ∧ (6 : Int) < 635) ∧ (∀ v5 : Int, v5 = ms ((6 : Int)).toNat → Φ v5 (0 : Int) g4))) ∧ (x1 = (1 : Int) → Φ r3 (0 : Int) g4) ∧ (x1 = (2 : Int) → wp_X5_inPicture (x1 - (2 : Int)) ms (fun (r6 : Int) => Φ r6 (0 : Int) g4)) ∧ (x1 = (3 : Int) → wp_X5_inPicture (x1 - (2 : Int)) ms (fun (r7 : Int) => Φ r7 (0 : Int) g4)) ∧ (x1 = (4 : Int) → wp_X5_seenBy (x1 - (4 : Int)) ms g4 (fun (r8 : Int) => Φ r8 (0 : Int) g4)) ∧ (x1 = (5 : Int) → wp_X5_seenBy (x1 - (4 : Int)) ms g4 (fun (r9 : Int) => Φ r9 (0 : Int) g4)) ∧ (x1 = (6 : Int) → wp_X5_wrongBy (x1 - (6 : Int)) ms g4 (fun (r10 : Int) => Φ r10 (0 : Int) g4)) ∧ (x1 = (7 : Int) → wp_X5_wrongBy (x1 - (6 : Int)) ms g4 (fun (r11 : Int) => Φ r11 (0 : Int) g4)) ∧ (x1 = (8 : Int) → wp_X5_travel ms (fun (r12 : Int) => Φ r12 (0 : Int) g4)) ∧ (x1 = (9 : Int) → wp_X5_lastLit g4 (fun (r13 : Int) => Φ r13 (0 : Int) g4)) ∧ (x1 = (10 : Int) → wp_X5_slotAt (0 : Int) (fun (r14 : Int) => ((0 ≤ r14 ∧ r14 < 635) ∧ (∀ v15 : Int, v15 = ms (r14).toNat → wp_X5_slotAt (1 : Int) (fun (r16 : Int) => ((0 ≤ r16 ∧ r16 < 635) ∧ (∀ v17 : Int, v17 = ms (r16).toNat → Φ (v15 + v17) (0 : Int) g4))))))) ∧ (x1 = (11 : Int) → Φ sm (0 : Int) g4) ∧ (x1 = (12 : Int) → Φ le (0 : Int) g4)))) ∧ (¬ (r1 = (0 : Int)) → ((0 ≤ (((0 : Int) + x1) - (13 : Int)) ∧ (((0 : Int) + x1) - (13 : Int)) < 635) ∧ (∀ v19 : Int, v19 = ms ((((0 : Int) + x1) - (13 : Int))).toNat → Φ v19 (0 : Int) ml)))))
theorem iX5_count_X5 : ∀ w ∈ wsX50, w ∈ wsX5_count := fun w h => List.mem_cons_of_mem _ (List.mem_append_right _ (h))
set_option maxHeartbeats 4000000 in
set_option maxRecDepth 100000 in
theorem c_X5_count (l : Launch) (D : va_G) (E : Nat → ClassId) (m0 m1 m2 m3 m4 m5 m6 m7 : Nat) (th : Int) (sm : Int) (le : Int) (tk : Int) (fr : Int) (ti : Int) (fa : Int) (ms : Nat → Int) (ma : Nat → Int) (mv : Nat → Int) (mt : Nat → Int) (mn : Nat → Int) (ml : Nat → Int) (mr : Nat → Int) (x1 : Int) {Φ : Int → Int → (Nat → Int) → Prop} (hw : wp_X5_count x1 th sm le ms ml Φ) : qRW (σ := (Int) × (Nat → Int)) l D E qF0 yX5_count wsX5_count 8 181 [(m0, .inr (5, [.int (qI th), .ref m1, .ref m2, .ref m3, .int (qI sm), .ref m4, .int (qI le), .ref m5, .ref m6, .ref m7, .int (qI tk), .int (qI fr), .int (qI ti), .int (qI fa)])), (m1, qA (E 0) 635 ms), (m2, qA (E 0) 635 ma), (m3, qA (E 0) 3175 mv), (m4, qA (E 0) 140 mt), (m5, qA (E 0) 2 mn), (m6, qA (E 0) 64 ml), (m7, qA (E 0) 49152 mr)] [.ref m0, .int (qI x1)] qeI (fun u => [(m0, .inr (5, [.int (qI u.1), .ref m1, .ref m2, .ref m3, .int (qI sm), .ref m4, .int (qI le), .ref m5, .ref m6, .ref m7, .int (qI tk), .int (qI fr), .int (qI ti), .int (qI fa)])), (m1, qA (E 0) 635 ms), (m2, qA (E 0) 635 ma), (m3, qA (E 0) 3175 mv), (m4, qA (E 0) 140 mt), (m5, qA (E 0) 2 mn), (m6, qA (E 0) 64 u.2), (m7, qA (E 0) 49152 mr)]) (fun r u => Φ r u.1 u.2) := by
  refine qRW_int (nL := 3) (own := RX5) qF0_ok (by decide) rfl rfl (Nat.le_of_ble_eq_true rfl) (fun X C hend => ?_)
  unfold wp_X5_count at hw
  show qZ X 0 0 [(m0, .inr (5, [.int (qI th), .ref m1, .ref m2, .ref m3, .int (qI sm), .ref m4, .int (qI le), .ref m5, .ref m6, .ref m7, .int (qI tk), .int (qI fr), .int (qI ti), .int (qI fa)])), (m1, qA (E 0) 635 ms), (m2, qA (E 0) 635 ma), (m3, qA (E 0) 3175 mv), (m4, qA (E 0) 140 mt), (m5, qA (E 0) 2 mn), (m6, qA (E 0) 64 ml), (m7, qA (E 0) 49152 mr)] 0 [(0, .ref m0), (1, .int (qI x1))] []
  refine z_aload_n C 0 rfl rfl dX5_count_0 ?_
  refine z_iconst C dX5_count_1 ?_
  refine z_put (ty := .int) (ws' := [(m0, .inr (5, [.int (qI (0 : Int)), .ref m1, .ref m2, .ref m3, .int (qI sm), .ref m4, .int (qI le), .ref m5, .ref m6, .ref m7, .int (qI tk), .int (qI fr), .int (qI ti), .int (qI fa)])), (m1, qA (E 0) 635 ms), (m2, qA (E 0) 635 ma), (m3, qA (E 0) 3175 mv), (m4, qA (E 0) 140 mt), (m5, qA (E 0) 2 mn), (m6, qA (E 0) 64 ml), (m7, qA (E 0) 49152 mr)]) C iX5_count_X5 tyX5 tyX5_ok nmX5 0 rfl rfl 0 (by decide) (List.mem_of_getElem? (i := 1) rfl) rfl rfl (by decide +kernel) rfl rfl (Nat.le_of_ble_eq_true rfl) rfl dX5_count_2 ?_
  refine z_iload_n C 1 rfl rfl dX5_count_5 ?_
  refine z_bipush C (by decide +kernel) dX5_count_6 ?_
  refine z_bipush C (by decide +kernel) dX5_count_8 ?_
  refine z_callS (n := 3) C (c_X5_in l D E   x1 (13 : Int) (18 : Int) hw) qF0_ok (fun _ _ _ => trivial) gX5_count_X5_in rfl (by decide +kernel) ⟨(Nat.le_of_ble_eq_true rfl), (Nat.le_of_ble_eq_true rfl)⟩ rfl [] rfl rfl (Nat.le_of_ble_eq_true rfl) dX5_count_10 (fun r1 hw => ?_)
  show qZ X 0 0 [(m0, .inr (5, [.int (qI (0 : Int)), .ref m1, .ref m2, .ref m3, .int (qI sm), .ref m4, .int (qI le), .ref m5, .ref m6, .ref m7, .int (qI tk), .int (qI fr), .int (qI ti), .int (qI fa)])), (m1, qA (E 0) 635 ms), (m2, qA (E 0) 635 ma), (m3, qA (E 0) 3175 mv), (m4, qA (E 0) 140 mt), (m5, qA (E 0) 2 mn), (m6, qA (E 0) 64 ml), (m7, qA (E 0) 49152 mr)] _ _ [.int (qI r1)]
  refine z_if_eq (tgt := 28) C hw.1 (by decide) dX5_count_13 (fun c2 => ?_) (fun c2 => ?_)
  · replace hw := hw.2.1 c2
    refine z_aload_n C 0 rfl rfl dX5_count_28 ?_
    refine z_callVW (n := 0) C (c_X5_litMany l D E m0 m1 m2 m3 m4 m5 m6 m7 (0 : Int) sm le tk fr ti fa ms ma mv mt mn ml mr  hw) qF0_ok (fun _ _ _ => trivial) gX5_count_X5_litMany rfl (by decide +kernel) ⟨(Nat.le_of_ble_eq_true rfl), (Nat.le_of_ble_eq_true rfl)⟩ rfl 0 rfl rfl [0, 1, 2, 3, 4, 5, 6, 7] [] (wr := []) rfl rfl rfl rfl (by decide) [0, 1, 2, 3, 4, 5, 6, 7] rfl (fun u9 => [(m0, .inr (5, [.int (qI (0 : Int)), .ref m1, .ref m2, .ref m3, .int (qI sm), .ref m4, .int (qI le), .ref m5, .ref m6, .ref m7, .int (qI tk), .int (qI fr), .int (qI ti), .int (qI fa)])), (m1, qA (E 0) 635 ms), (m2, qA (E 0) 635 ma), (m3, qA (E 0) 3175 mv), (m4, qA (E 0) 140 mt), (m5, qA (E 0) 2 mn), (m6, qA (E 0) 64 u9), (m7, qA (E 0) 49152 mr)]) (fun _ => rfl) rfl (Nat.le_of_ble_eq_true rfl) dX5_count_29 (fun r3 u9 hw => ?_)
    obtain ⟨g4, rfl⟩ : ∃ z, z = u9 := ⟨_, rfl⟩
    refine z_ws (ws' := [(m0, .inr (5, [.int (qI (0 : Int)), .ref m1, .ref m2, .ref m3, .int (qI sm), .ref m4, .int (qI le), .ref m5, .ref m6, .ref m7, .int (qI tk), .int (qI fr), .int (qI ti), .int (qI fa)])), (m1, qA (E 0) 635 ms), (m2, qA (E 0) 635 ma), (m3, qA (E 0) 3175 mv), (m4, qA (E 0) 140 mt), (m5, qA (E 0) 2 mn), (m6, qA (E 0) 64 g4), (m7, qA (E 0) 49152 mr)]) rfl ?_
    try dsimp only at hw
    show qZ X 0 0 [(m0, .inr (5, [.int (qI (0 : Int)), .ref m1, .ref m2, .ref m3, .int (qI sm), .ref m4, .int (qI le), .ref m5, .ref m6, .ref m7, .int (qI tk), .int (qI fr), .int (qI ti), .int (qI fa)])), (m1, qA (E 0) 635 ms), (m2, qA (E 0) 635 ma), (m3, qA (E 0) 3175 mv), (m4, qA (E 0) 140 mt), (m5, qA (E 0) 2 mn), (m6, qA (E 0) 64 g4), (m7, qA (E 0) 49152 mr)] _ _ [.int (qI r3)]
    refine z_istore_n C rfl (by decide) rfl dX5_count_32 ?_
    refine z_iload_n C 2 rfl rfl dX5_count_33 ?_
    rcases (show (x1 < (0 : Int) ∨ (12 : Int) < x1) ∨ x1 = (0 : Int) ∨ x1 = (1 : Int) ∨ x1 = (2 : Int) ∨ x1 = (3 : Int) ∨ x1 = (4 : Int) ∨ x1 = (5 : Int) ∨ x1 = (6 : Int) ∨ x1 = (7 : Int) ∨ x1 = (8 : Int) ∨ x1 = (9 : Int) ∨ x1 = (10 : Int) ∨ x1 = (11 : Int) ∨ x1 = (12 : Int) by omega) with c18 | c18 | c18 | c18 | c18 | c18 | c18 | c18 | c18 | c18 | c18 | c18 | c18 | c18
    · refine z_swOut (tgt := 175) C hw.1 c18 (by decide) dX5_count_34 ?_
      replace hw := hw.2.1 c18
      refine z_iconst C dX5_count_175 ?_
      exact hend 176 _ (-1 : Int) ((0 : Int), g4) dX5_count_176 hw
    · refine z_swIn (off := (66 : Int)) (tgt := 100) C hw.1 (by omega) (by omega) (by rw [c18]; rfl) (by decide) dX5_count_34 ?_
      replace hw := hw.2.2.1 c18
      refine z_aload_n C 1 rfl rfl dX5_count_100 ?_
      refine z_get C iX5_count_X5 0 rfl rfl 1 (by decide) (List.mem_of_getElem? (i := 2) rfl) rfl rfl dX5_count_101 ?_
      refine z_bipush C (by decide +kernel) dX5_count_104 ?_
      refine z_iald C 1 rfl (by decide) hw.1 dX5_count_106 ?_
      replace hw := hw.2
      refine z_name (fun v5 ev5 => ?_)
      replace hw := hw v5 ev5
      exact hend 107 _ v5 ((0 : Int), g4) dX5_count_107 hw
    · refine z_swIn (off := (74 : Int)) (tgt := 108) C hw.1 (by omega) (by omega) (by rw [c18]; rfl) (by decide) dX5_count_34 ?_
      replace hw := hw.2.2.2.1 c18
      refine z_iload_n C 0 rfl rfl dX5_count_108 ?_
      exact hend 109 _ r3 ((0 : Int), g4) dX5_count_109 hw
    · refine z_swIn (off := (76 : Int)) (tgt := 110) C hw.1 (by omega) (by omega) (by rw [c18]; rfl) (by decide) dX5_count_34 ?_
      replace hw := hw.2.2.2.2.1 c18
      refine z_aload_n C 1 rfl rfl dX5_count_110 ?_
      refine z_iload_n C 2 rfl rfl dX5_count_111 ?_
      refine z_iconst C dX5_count_112 ?_
      refine z_isub C dX5_count_113 ?_
      refine z_callV (n := 1) C (c_X5_inPicture l D E m0 m1 m2 m3 m4 m5 m6 m7 (0 : Int) sm le tk fr ti fa ms ma mv mt mn g4 mr (x1 - (2 : Int)) hw) qF0_ok (fun _ _ _ => trivial) gX5_count_X5_inPicture rfl (by decide +kernel) ⟨(Nat.le_of_ble_eq_true rfl), (Nat.le_of_ble_eq_true rfl)⟩ rfl 0 rfl rfl [0, 1, 2, 3, 4, 5, 6, 7] rfl rfl (Nat.le_of_ble_eq_true rfl) dX5_count_114 (fun r6 hw => ?_)
      show qZ X 0 0 [(m0, .inr (5, [.int (qI (0 : Int)), .ref m1, .ref m2, .ref m3, .int (qI sm), .ref m4, .int (qI le), .ref m5, .ref m6, .ref m7, .int (qI tk), .int (qI fr), .int (qI ti), .int (qI fa)])), (m1, qA (E 0) 635 ms), (m2, qA (E 0) 635 ma), (m3, qA (E 0) 3175 mv), (m4, qA (E 0) 140 mt), (m5, qA (E 0) 2 mn), (m6, qA (E 0) 64 g4), (m7, qA (E 0) 49152 mr)] _ _ [.int (qI r6)]
      exact hend 117 _ r6 ((0 : Int), g4) dX5_count_117 hw
    · refine z_swIn (off := (76 : Int)) (tgt := 110) C hw.1 (by omega) (by omega) (by rw [c18]; rfl) (by decide) dX5_count_34 ?_
      replace hw := hw.2.2.2.2.2.1 c18
      refine z_aload_n C 1 rfl rfl dX5_count_110 ?_
      refine z_iload_n C 2 rfl rfl dX5_count_111 ?_
      refine z_iconst C dX5_count_112 ?_
      refine z_isub C dX5_count_113 ?_
      refine z_callV (n := 1) C (c_X5_inPicture l D E m0 m1 m2 m3 m4 m5 m6 m7 (0 : Int) sm le tk fr ti fa ms ma mv mt mn g4 mr (x1 - (2 : Int)) hw) qF0_ok (fun _ _ _ => trivial) gX5_count_X5_inPicture rfl (by decide +kernel) ⟨(Nat.le_of_ble_eq_true rfl), (Nat.le_of_ble_eq_true rfl)⟩ rfl 0 rfl rfl [0, 1, 2, 3, 4, 5, 6, 7] rfl rfl (Nat.le_of_ble_eq_true rfl) dX5_count_114 (fun r7 hw => ?_)
      show qZ X 0 0 [(m0, .inr (5, [.int (qI (0 : Int)), .ref m1, .ref m2, .ref m3, .int (qI sm), .ref m4, .int (qI le), .ref m5, .ref m6, .ref m7, .int (qI tk), .int (qI fr), .int (qI ti), .int (qI fa)])), (m1, qA (E 0) 635 ms), (m2, qA (E 0) 635 ma), (m3, qA (E 0) 3175 mv), (m4, qA (E 0) 140 mt), (m5, qA (E 0) 2 mn), (m6, qA (E 0) 64 g4), (m7, qA (E 0) 49152 mr)] _ _ [.int (qI r7)]
      exact hend 117 _ r7 ((0 : Int), g4) dX5_count_117 hw
    · refine z_swIn (off := (84 : Int)) (tgt := 118) C hw.1 (by omega) (by omega) (by rw [c18]; rfl) (by decide) dX5_count_34 ?_
      replace hw := hw.2.2.2.2.2.2.1 c18
      refine z_aload_n C 1 rfl rfl dX5_count_118 ?_
      refine z_iload_n C 2 rfl rfl dX5_count_119 ?_
      refine z_iconst C dX5_count_120 ?_
      refine z_isub C dX5_count_121 ?_
      refine z_callV (n := 1) C (c_X5_seenBy l D E m0 m1 m2 m3 m4 m5 m6 m7 (0 : Int) sm le tk fr ti fa ms ma mv mt mn g4 mr (x1 - (4 : Int)) hw) qF0_ok (fun _ _ _ => trivial) gX5_count_X5_seenBy rfl (by decide +kernel) ⟨(Nat.le_of_ble_eq_true rfl), (Nat.le_of_ble_eq_true rfl)⟩ rfl 0 rfl rfl [0, 1, 2, 3, 4, 5, 6, 7] rfl rfl (Nat.le_of_ble_eq_true rfl) dX5_count_122 (fun r8 hw => ?_)
      show qZ X 0 0 [(m0, .inr (5, [.int (qI (0 : Int)), .ref m1, .ref m2, .ref m3, .int (qI sm), .ref m4, .int (qI le), .ref m5, .ref m6, .ref m7, .int (qI tk), .int (qI fr), .int (qI ti), .int (qI fa)])), (m1, qA (E 0) 635 ms), (m2, qA (E 0) 635 ma), (m3, qA (E 0) 3175 mv), (m4, qA (E 0) 140 mt), (m5, qA (E 0) 2 mn), (m6, qA (E 0) 64 g4), (m7, qA (E 0) 49152 mr)] _ _ [.int (qI r8)]
      exact hend 125 _ r8 ((0 : Int), g4) dX5_count_125 hw
    · refine z_swIn (off := (84 : Int)) (tgt := 118) C hw.1 (by omega) (by omega) (by rw [c18]; rfl) (by decide) dX5_count_34 ?_
      replace hw := hw.2.2.2.2.2.2.2.1 c18
      refine z_aload_n C 1 rfl rfl dX5_count_118 ?_
      refine z_iload_n C 2 rfl rfl dX5_count_119 ?_
      refine z_iconst C dX5_count_120 ?_
      refine z_isub C dX5_count_121 ?_
      refine z_callV (n := 1) C (c_X5_seenBy l D E m0 m1 m2 m3 m4 m5 m6 m7 (0 : Int) sm le tk fr ti fa ms ma mv mt mn g4 mr (x1 - (4 : Int)) hw) qF0_ok (fun _ _ _ => trivial) gX5_count_X5_seenBy rfl (by decide +kernel) ⟨(Nat.le_of_ble_eq_true rfl), (Nat.le_of_ble_eq_true rfl)⟩ rfl 0 rfl rfl [0, 1, 2, 3, 4, 5, 6, 7] rfl rfl (Nat.le_of_ble_eq_true rfl) dX5_count_122 (fun r9 hw => ?_)
      show qZ X 0 0 [(m0, .inr (5, [.int (qI (0 : Int)), .ref m1, .ref m2, .ref m3, .int (qI sm), .ref m4, .int (qI le), .ref m5, .ref m6, .ref m7, .int (qI tk), .int (qI fr), .int (qI ti), .int (qI fa)])), (m1, qA (E 0) 635 ms), (m2, qA (E 0) 635 ma), (m3, qA (E 0) 3175 mv), (m4, qA (E 0) 140 mt), (m5, qA (E 0) 2 mn), (m6, qA (E 0) 64 g4), (m7, qA (E 0) 49152 mr)] _ _ [.int (qI r9)]
      exact hend 125 _ r9 ((0 : Int), g4) dX5_count_125 hw
    · refine z_swIn (off := (92 : Int)) (tgt := 126) C hw.1 (by omega) (by omega) (by rw [c18]; rfl) (by decide) dX5_count_34 ?_
      replace hw := hw.2.2.2.2.2.2.2.2.1 c18
      refine z_aload_n C 1 rfl rfl dX5_count_126 ?_
      refine z_iload_n C 2 rfl rfl dX5_count_127 ?_
      refine z_bipush C (by decide +kernel) dX5_count_128 ?_
      refine z_isub C dX5_count_130 ?_
      refine z_callV (n := 1) C (c_X5_wrongBy l D E m0 m1 m2 m3 m4 m5 m6 m7 (0 : Int) sm le tk fr ti fa ms ma mv mt mn g4 mr (x1 - (6 : Int)) hw) qF0_ok (fun _ _ _ => trivial) gX5_count_X5_wrongBy rfl (by decide +kernel) ⟨(Nat.le_of_ble_eq_true rfl), (Nat.le_of_ble_eq_true rfl)⟩ rfl 0 rfl rfl [0, 1, 2, 3, 4, 5, 6, 7] rfl rfl (Nat.le_of_ble_eq_true rfl) dX5_count_131 (fun r10 hw => ?_)
      show qZ X 0 0 [(m0, .inr (5, [.int (qI (0 : Int)), .ref m1, .ref m2, .ref m3, .int (qI sm), .ref m4, .int (qI le), .ref m5, .ref m6, .ref m7, .int (qI tk), .int (qI fr), .int (qI ti), .int (qI fa)])), (m1, qA (E 0) 635 ms), (m2, qA (E 0) 635 ma), (m3, qA (E 0) 3175 mv), (m4, qA (E 0) 140 mt), (m5, qA (E 0) 2 mn), (m6, qA (E 0) 64 g4), (m7, qA (E 0) 49152 mr)] _ _ [.int (qI r10)]
      exact hend 134 _ r10 ((0 : Int), g4) dX5_count_134 hw
    · refine z_swIn (off := (92 : Int)) (tgt := 126) C hw.1 (by omega) (by omega) (by rw [c18]; rfl) (by decide) dX5_count_34 ?_
      replace hw := hw.2.2.2.2.2.2.2.2.2.1 c18
      refine z_aload_n C 1 rfl rfl dX5_count_126 ?_
      refine z_iload_n C 2 rfl rfl dX5_count_127 ?_
      refine z_bipush C (by decide +kernel) dX5_count_128 ?_
      refine z_isub C dX5_count_130 ?_
      refine z_callV (n := 1) C (c_X5_wrongBy l D E m0 m1 m2 m3 m4 m5 m6 m7 (0 : Int) sm le tk fr ti fa ms ma mv mt mn g4 mr (x1 - (6 : Int)) hw) qF0_ok (fun _ _ _ => trivial) gX5_count_X5_wrongBy rfl (by decide +kernel) ⟨(Nat.le_of_ble_eq_true rfl), (Nat.le_of_ble_eq_true rfl)⟩ rfl 0 rfl rfl [0, 1, 2, 3, 4, 5, 6, 7] rfl rfl (Nat.le_of_ble_eq_true rfl) dX5_count_131 (fun r11 hw => ?_)
      show qZ X 0 0 [(m0, .inr (5, [.int (qI (0 : Int)), .ref m1, .ref m2, .ref m3, .int (qI sm), .ref m4, .int (qI le), .ref m5, .ref m6, .ref m7, .int (qI tk), .int (qI fr), .int (qI ti), .int (qI fa)])), (m1, qA (E 0) 635 ms), (m2, qA (E 0) 635 ma), (m3, qA (E 0) 3175 mv), (m4, qA (E 0) 140 mt), (m5, qA (E 0) 2 mn), (m6, qA (E 0) 64 g4), (m7, qA (E 0) 49152 mr)] _ _ [.int (qI r11)]
      exact hend 134 _ r11 ((0 : Int), g4) dX5_count_134 hw
    · refine z_swIn (off := (101 : Int)) (tgt := 135) C hw.1 (by omega) (by omega) (by rw [c18]; rfl) (by decide) dX5_count_34 ?_
      replace hw := hw.2.2.2.2.2.2.2.2.2.2.1 c18
      refine z_aload_n C 1 rfl rfl dX5_count_135 ?_
      refine z_callV (n := 0) C (c_X5_travel l D E m0 m1 m2 m3 m4 m5 m6 m7 (0 : Int) sm le tk fr ti fa ms ma mv mt mn g4 mr  hw) qF0_ok (fun _ _ _ => trivial) gX5_count_X5_travel rfl (by decide +kernel) ⟨(Nat.le_of_ble_eq_true rfl), (Nat.le_of_ble_eq_true rfl)⟩ rfl 0 rfl rfl [0, 1, 2, 3, 4, 5, 6, 7] rfl rfl (Nat.le_of_ble_eq_true rfl) dX5_count_136 (fun r12 hw => ?_)
      show qZ X 0 0 [(m0, .inr (5, [.int (qI (0 : Int)), .ref m1, .ref m2, .ref m3, .int (qI sm), .ref m4, .int (qI le), .ref m5, .ref m6, .ref m7, .int (qI tk), .int (qI fr), .int (qI ti), .int (qI fa)])), (m1, qA (E 0) 635 ms), (m2, qA (E 0) 635 ma), (m3, qA (E 0) 3175 mv), (m4, qA (E 0) 140 mt), (m5, qA (E 0) 2 mn), (m6, qA (E 0) 64 g4), (m7, qA (E 0) 49152 mr)] _ _ [.int (qI r12)]
      exact hend 139 _ r12 ((0 : Int), g4) dX5_count_139 hw
    · refine z_swIn (off := (106 : Int)) (tgt := 140) C hw.1 (by omega) (by omega) (by rw [c18]; rfl) (by decide) dX5_count_34 ?_
      replace hw := hw.2.2.2.2.2.2.2.2.2.2.2.1 c18
      refine z_aload_n C 1 rfl rfl dX5_count_140 ?_
      refine z_callV (n := 0) C (c_X5_lastLit l D E m0 m1 m2 m3 m4 m5 m6 m7 (0 : Int) sm le tk fr ti fa ms ma mv mt mn g4 mr  hw) qF0_ok (fun _ _ _ => trivial) gX5_count_X5_lastLit rfl (by decide +kernel) ⟨(Nat.le_of_ble_eq_true rfl), (Nat.le_of_ble_eq_true rfl)⟩ rfl 0 rfl rfl [0, 1, 2, 3, 4, 5, 6, 7] rfl rfl (Nat.le_of_ble_eq_true rfl) dX5_count_141 (fun r13 hw => ?_)
      show qZ X 0 0 [(m0, .inr (5, [.int (qI (0 : Int)), .ref m1, .ref m2, .ref m3, .int (qI sm), .ref m4, .int (qI le), .ref m5, .ref m6, .ref m7, .int (qI tk), .int (qI fr), .int (qI ti), .int (qI fa)])), (m1, qA (E 0) 635 ms), (m2, qA (E 0) 635 ma), (m3, qA (E 0) 3175 mv), (m4, qA (E 0) 140 mt), (m5, qA (E 0) 2 mn), (m6, qA (E 0) 64 g4), (m7, qA (E 0) 49152 mr)] _ _ [.int (qI r13)]
      exact hend 144 _ r13 ((0 : Int), g4) dX5_count_144 hw
    · refine z_swIn (off := (111 : Int)) (tgt := 145) C hw.1 (by omega) (by omega) (by rw [c18]; rfl) (by decide) dX5_count_34 ?_
      replace hw := hw.2.2.2.2.2.2.2.2.2.2.2.2.1 c18
      refine z_aload_n C 1 rfl rfl dX5_count_145 ?_
      refine z_get C iX5_count_X5 0 rfl rfl 1 (by decide) (List.mem_of_getElem? (i := 2) rfl) rfl rfl dX5_count_146 ?_
      refine z_iconst C dX5_count_149 ?_
      refine z_callS (n := 1) C (c_X5_slotAt l D E   (0 : Int) hw) qF0_ok (fun _ _ _ => trivial) gX5_count_X5_slotAt rfl (by decide +kernel) ⟨(Nat.le_of_ble_eq_true rfl), (Nat.le_of_ble_eq_true rfl)⟩ rfl [] rfl rfl (Nat.le_of_ble_eq_true rfl) dX5_count_150 (fun r14 hw => ?_)
      show qZ X 0 0 [(m0, .inr (5, [.int (qI (0 : Int)), .ref m1, .ref m2, .ref m3, .int (qI sm), .ref m4, .int (qI le), .ref m5, .ref m6, .ref m7, .int (qI tk), .int (qI fr), .int (qI ti), .int (qI fa)])), (m1, qA (E 0) 635 ms), (m2, qA (E 0) 635 ma), (m3, qA (E 0) 3175 mv), (m4, qA (E 0) 140 mt), (m5, qA (E 0) 2 mn), (m6, qA (E 0) 64 g4), (m7, qA (E 0) 49152 mr)] _ _ [.int (qI r14), .ref m1]
      refine z_iald C 1 rfl (by decide) hw.1 dX5_count_153 ?_
      replace hw := hw.2
      refine z_name (fun v15 ev15 => ?_)
      replace hw := hw v15 ev15
      refine z_aload_n C 1 rfl rfl dX5_count_154 ?_
      refine z_get C iX5_count_X5 0 rfl rfl 1 (by decide) (List.mem_of_getElem? (i := 2) rfl) rfl rfl dX5_count_155 ?_
      refine z_iconst C dX5_count_158 ?_
      refine z_callS (n := 1) C (c_X5_slotAt l D E   (1 : Int) hw) qF0_ok (fun _ _ _ => trivial) gX5_count_X5_slotAt rfl (by decide +kernel) ⟨(Nat.le_of_ble_eq_true rfl), (Nat.le_of_ble_eq_true rfl)⟩ rfl [] rfl rfl (Nat.le_of_ble_eq_true rfl) dX5_count_159 (fun r16 hw => ?_)
      show qZ X 0 0 [(m0, .inr (5, [.int (qI (0 : Int)), .ref m1, .ref m2, .ref m3, .int (qI sm), .ref m4, .int (qI le), .ref m5, .ref m6, .ref m7, .int (qI tk), .int (qI fr), .int (qI ti), .int (qI fa)])), (m1, qA (E 0) 635 ms), (m2, qA (E 0) 635 ma), (m3, qA (E 0) 3175 mv), (m4, qA (E 0) 140 mt), (m5, qA (E 0) 2 mn), (m6, qA (E 0) 64 g4), (m7, qA (E 0) 49152 mr)] _ _ [.int (qI r16), .ref m1, .int (qI v15)]
      refine z_iald C 1 rfl (by decide) hw.1 dX5_count_162 ?_
      replace hw := hw.2
      refine z_name (fun v17 ev17 => ?_)
      replace hw := hw v17 ev17
      refine z_iadd C dX5_count_163 ?_
      exact hend 164 _ (v15 + v17) ((0 : Int), g4) dX5_count_164 hw
    · refine z_swIn (off := (131 : Int)) (tgt := 165) C hw.1 (by omega) (by omega) (by rw [c18]; rfl) (by decide) dX5_count_34 ?_
      replace hw := hw.2.2.2.2.2.2.2.2.2.2.2.2.2.1 c18
      refine z_aload_n C 1 rfl rfl dX5_count_165 ?_
      refine z_get C iX5_count_X5 0 rfl rfl 4 (by decide) (List.mem_of_getElem? (i := 3) rfl) rfl rfl dX5_count_166 ?_
      exact hend 169 _ sm ((0 : Int), g4) dX5_count_169 hw
    · refine z_swIn (off := (136 : Int)) (tgt := 170) C hw.1 (by omega) (by omega) (by rw [c18]; rfl) (by decide) dX5_count_34 ?_
      replace hw := hw.2.2.2.2.2.2.2.2.2.2.2.2.2.2 c18
      refine z_aload_n C 1 rfl rfl dX5_count_170 ?_
      refine z_get C iX5_count_X5 0 rfl rfl 6 (by decide) (List.mem_of_getElem? (i := 4) rfl) rfl rfl dX5_count_171 ?_
      exact hend 174 _ le ((0 : Int), g4) dX5_count_174 hw
  · replace hw := hw.2.2 c2
    refine z_aload_n C 0 rfl rfl dX5_count_16 ?_
    refine z_get C iX5_count_X5 0 rfl rfl 1 (by decide) (List.mem_of_getElem? (i := 2) rfl) rfl rfl dX5_count_17 ?_
    refine z_iconst C dX5_count_20 ?_
    refine z_iload_n C 1 rfl rfl dX5_count_21 ?_
    refine z_iadd C dX5_count_22 ?_
    refine z_bipush C (by decide +kernel) dX5_count_23 ?_
    refine z_isub C dX5_count_25 ?_
    refine z_iald C 1 rfl (by decide) hw.1 dX5_count_26 ?_
    replace hw := hw.2
    refine z_name (fun v19 ev19 => ?_)
    replace hw := hw v19 ev19
    exact hend 27 _ v19 ((0 : Int), ml) dX5_count_27 hw
def wp_X5_flickerOf_53 (Φ : Int → Prop) (K8 : Int → Int → Int → Prop) (x1 : Int) (x2 : Int) (x4 : Int) (k0 : Int) (ms : Nat → Int) (ml : Nat → Int) : Prop := (∀ v1 : Int, v1 = x4 + (1 : Int) → K8 x2 k0 v1)
def wp_X5_flickerOf_40 (Φ : Int → Prop) (K8 : Int → Int → Int → Prop) (x1 : Int) (x3 : Int) (x4 : Int) (x5 : Int) (k0 : Int) (ms : Nat → Int) (ml : Nat → Int) : Prop := ((qR x5 ∧ qR x3) ∧ (x5 ≤ x3 → wp_X5_flickerOf_53 Φ K8 x1 k0 x4 x3 ms ml) ∧ (¬ (x5 ≤ x3) → wp_X5_flickerOf_53 Φ K8 x1 k0 x4 x5 ms ml))
def wp_X5_flickerOf_8 (Φ : Int → Prop)  (x1 : Int) (ms : Nat → Int) (ml : Nat → Int) : Nat → Int → Int → Int → Prop
  | 0, _, _, _ => False
  | n9 + 1, x2, x3, x4 => ((0 ≤ (0 : Int) ∧ (0 : Int) < 635) ∧ (∀ v3 : Int, v3 = ms ((0 : Int)).toNat → ((qR x4 ∧ qR v3) ∧ (v3 ≤ x4 → Φ (x3 - x2)) ∧ (¬ (v3 ≤ x4) → wp_X5_brightnessAt x1 x4 ms ml (fun (r5 : Int) => ((qR r5 ∧ qR x2) ∧ (x2 ≤ r5 → wp_X5_flickerOf_40 Φ (wp_X5_flickerOf_8 Φ  x1 ms ml n9) x1 x3 x4 r5 x2 ms ml) ∧ (¬ (x2 ≤ r5) → wp_X5_flickerOf_40 Φ (wp_X5_flickerOf_8 Φ  x1 ms ml n9) x1 x3 x4 r5 r5 ms ml)))))))
def wp_X5_flickerOf (x1 : Int) (ms : Nat → Int) (ml : Nat → Int) (Φ : Int → Prop) : Prop := ∃ n : Nat, wp_X5_flickerOf_8 Φ  x1 ms ml n (100 : Int) (0 : Int) (0 : Int)
theorem iX5_flickerOf_X5 : ∀ w ∈ wsX50, w ∈ wsX5_flickerOf := fun w h => List.mem_cons_of_mem _ (List.mem_append_right _ (h))
set_option maxHeartbeats 4000000 in
set_option maxRecDepth 100000 in
theorem c_X5_flickerOf (l : Launch) (D : va_G) (E : Nat → ClassId) (m0 m1 m2 m3 m4 m5 m6 m7 : Nat) (th : Int) (sm : Int) (le : Int) (tk : Int) (fr : Int) (ti : Int) (fa : Int) (ms : Nat → Int) (ma : Nat → Int) (mv : Nat → Int) (mt : Nat → Int) (mn : Nat → Int) (ml : Nat → Int) (mr : Nat → Int) (x1 : Int) {Φ : Int → Prop} (hw : wp_X5_flickerOf x1 ms ml Φ) : qRO l D E qF0 yX5_flickerOf wsX5_flickerOf 3 67 [(m0, .inr (5, [.int (qI th), .ref m1, .ref m2, .ref m3, .int (qI sm), .ref m4, .int (qI le), .ref m5, .ref m6, .ref m7, .int (qI tk), .int (qI fr), .int (qI ti), .int (qI fa)])), (m1, qA (E 0) 635 ms), (m2, qA (E 0) 635 ma), (m3, qA (E 0) 3175 mv), (m4, qA (E 0) 140 mt), (m5, qA (E 0) 2 mn), (m6, qA (E 0) 64 ml), (m7, qA (E 0) 49152 mr)] [.ref m0, .int (qI x1)] qeI (fun r => Φ r) := by
  refine qRO_int (nL := 6) (own := RX5) qF0_ok (by decide) rfl rfl (Nat.le_of_ble_eq_true rfl) (fun X C hend => ?_)
  have hB53 : ∀ x1 : Int, ∀ K8 : Int → Int → Int → Prop, (∀ (x2 : Int) (x3 : Int) (x4 : Int), K8 x2 x3 x4 → qZ X 0 0 [(m0, .inr (5, [.int (qI th), .ref m1, .ref m2, .ref m3, .int (qI sm), .ref m4, .int (qI le), .ref m5, .ref m6, .ref m7, .int (qI tk), .int (qI fr), .int (qI ti), .int (qI fa)])), (m1, qA (E 0) 635 ms), (m2, qA (E 0) 635 ma), (m3, qA (E 0) 3175 mv), (m4, qA (E 0) 140 mt), (m5, qA (E 0) 2 mn), (m6, qA (E 0) 64 ml), (m7, qA (E 0) 49152 mr)] 8 [(0, .ref m0), (1, .int (qI x1)), (2, .int (qI x2)), (3, .int (qI x3)), (4, .int (qI x4))] []) → ∀ x2 : Int, ∀ x4 : Int, ∀ k0 : Int, wp_X5_flickerOf_53 Φ K8 x1 x2 x4 k0 ms ml → qZ X 0 0 [(m0, .inr (5, [.int (qI th), .ref m1, .ref m2, .ref m3, .int (qI sm), .ref m4, .int (qI le), .ref m5, .ref m6, .ref m7, .int (qI tk), .int (qI fr), .int (qI ti), .int (qI fa)])), (m1, qA (E 0) 635 ms), (m2, qA (E 0) 635 ma), (m3, qA (E 0) 3175 mv), (m4, qA (E 0) 140 mt), (m5, qA (E 0) 2 mn), (m6, qA (E 0) 64 ml), (m7, qA (E 0) 49152 mr)] 53 [(0, .ref m0), (1, .int (qI x1)), (2, .int (qI x2)), (4, .int (qI x4))] [.int (qI k0)] := by
    intro x1 K8 hK8 x2 x4 k0 hw
    unfold wp_X5_flickerOf_53 at hw
    refine z_istore_n C rfl (by decide) rfl dX5_flickerOf_53 ?_
    obtain ⟨v1, ev1⟩ : ∃ v1 : Int, v1 = x4 + (1 : Int) := ⟨_, rfl⟩
    replace hw := hw v1 ev1
    refine z_iinc C 4 rfl (by decide) v1 ev1 rfl dX5_flickerOf_54 ?_
    refine z_goto (tgt := 8) C (by decide) dX5_flickerOf_57 ?_
    refine z_lst (ps := [2, 3, 4, 1, 0]) (lv' := [(0, .ref m0), (1, .int (qI x1)), (2, .int (qI x2)), (3, .int (qI k0)), (4, .int (qI v1))]) (st' := []) rfl rfl ?_
    exact hK8 x2 k0 v1 hw
  have hB40 : ∀ x1 : Int, ∀ K8 : Int → Int → Int → Prop, (∀ (x2 : Int) (x3 : Int) (x4 : Int), K8 x2 x3 x4 → qZ X 0 0 [(m0, .inr (5, [.int (qI th), .ref m1, .ref m2, .ref m3, .int (qI sm), .ref m4, .int (qI le), .ref m5, .ref m6, .ref m7, .int (qI tk), .int (qI fr), .int (qI ti), .int (qI fa)])), (m1, qA (E 0) 635 ms), (m2, qA (E 0) 635 ma), (m3, qA (E 0) 3175 mv), (m4, qA (E 0) 140 mt), (m5, qA (E 0) 2 mn), (m6, qA (E 0) 64 ml), (m7, qA (E 0) 49152 mr)] 8 [(0, .ref m0), (1, .int (qI x1)), (2, .int (qI x2)), (3, .int (qI x3)), (4, .int (qI x4))] []) → ∀ x3 : Int, ∀ x4 : Int, ∀ x5 : Int, ∀ k0 : Int, wp_X5_flickerOf_40 Φ K8 x1 x3 x4 x5 k0 ms ml → qZ X 0 0 [(m0, .inr (5, [.int (qI th), .ref m1, .ref m2, .ref m3, .int (qI sm), .ref m4, .int (qI le), .ref m5, .ref m6, .ref m7, .int (qI tk), .int (qI fr), .int (qI ti), .int (qI fa)])), (m1, qA (E 0) 635 ms), (m2, qA (E 0) 635 ma), (m3, qA (E 0) 3175 mv), (m4, qA (E 0) 140 mt), (m5, qA (E 0) 2 mn), (m6, qA (E 0) 64 ml), (m7, qA (E 0) 49152 mr)] 40 [(0, .ref m0), (1, .int (qI x1)), (3, .int (qI x3)), (4, .int (qI x4)), (5, .int (qI x5))] [.int (qI k0)] := by
    intro x1 K8 hK8 x3 x4 x5 k0 hw
    unfold wp_X5_flickerOf_40 at hw
    refine z_istore_n C rfl (by decide) rfl dX5_flickerOf_40 ?_
    refine z_iload C 5 rfl dX5_flickerOf_41 ?_
    refine z_iload_n C 3 rfl rfl dX5_flickerOf_43 ?_
    refine z_icmp_le (tgt := 52) C hw.1 (by decide) dX5_flickerOf_44 (fun c2 => ?_) (fun c2 => ?_)
    · replace hw := hw.2.1 c2
      refine z_iload_n C 3 rfl rfl dX5_flickerOf_52 ?_
      refine z_lst (ps := [1, 2, 0, 4]) (lv' := [(0, .ref m0), (1, .int (qI x1)), (2, .int (qI k0)), (4, .int (qI x4))]) (st' := [.int (qI x3)]) rfl rfl ?_
      exact hB53 x1 _ hK8 k0 x4 x3 hw
    · replace hw := hw.2.2 c2
      refine z_iload C 5 rfl dX5_flickerOf_47 ?_
      refine z_goto (tgt := 53) C (by decide) dX5_flickerOf_49 ?_
      refine z_lst (ps := [1, 2, 0, 4]) (lv' := [(0, .ref m0), (1, .int (qI x1)), (2, .int (qI k0)), (4, .int (qI x4))]) (st' := [.int (qI x5)]) rfl rfl ?_
      exact hB53 x1 _ hK8 k0 x4 x5 hw
  have hB8 : ∀ x1 : Int, ∀ n8 : Nat, ∀ x2 : Int, ∀ x3 : Int, ∀ x4 : Int, wp_X5_flickerOf_8 Φ  x1 ms ml n8 x2 x3 x4 → qZ X 0 0 [(m0, .inr (5, [.int (qI th), .ref m1, .ref m2, .ref m3, .int (qI sm), .ref m4, .int (qI le), .ref m5, .ref m6, .ref m7, .int (qI tk), .int (qI fr), .int (qI ti), .int (qI fa)])), (m1, qA (E 0) 635 ms), (m2, qA (E 0) 635 ma), (m3, qA (E 0) 3175 mv), (m4, qA (E 0) 140 mt), (m5, qA (E 0) 2 mn), (m6, qA (E 0) 64 ml), (m7, qA (E 0) 49152 mr)] 8 [(0, .ref m0), (1, .int (qI x1)), (2, .int (qI x2)), (3, .int (qI x3)), (4, .int (qI x4))] [] := by
    intro x1 n8
    induction n8 with
    | zero =>
      intro x2 x3 x4 hw
      exact hw.elim
    | succ n9 ih =>
      intro x2 x3 x4 hw
      unfold wp_X5_flickerOf_8 at hw
      refine z_iload C 4 rfl dX5_flickerOf_8 ?_
      refine z_aload_n C 0 rfl rfl dX5_flickerOf_10 ?_
      refine z_get C iX5_flickerOf_X5 0 rfl rfl 1 (by decide) (List.mem_of_getElem? (i := 1) rfl) rfl rfl dX5_flickerOf_11 ?_
      refine z_iconst C dX5_flickerOf_14 ?_
      refine z_iald C 1 rfl (by decide) hw.1 dX5_flickerOf_15 ?_
      replace hw := hw.2
      refine z_name (fun v3 ev3 => ?_)
      replace hw := hw v3 ev3
      refine z_icmp_ge (tgt := 60) C hw.1 (by decide) dX5_flickerOf_16 (fun c4 => ?_) (fun c4 => ?_)
      · replace hw := hw.2.1 c4
        refine z_iload_n C 3 rfl rfl dX5_flickerOf_60 ?_
        refine z_iload_n C 2 rfl rfl dX5_flickerOf_61 ?_
        refine z_isub C dX5_flickerOf_62 ?_
        exact hend 63 _ (x3 - x2) dX5_flickerOf_63 hw
      · replace hw := hw.2.2 c4
        refine z_aload_n C 0 rfl rfl dX5_flickerOf_19 ?_
        refine z_iload_n C 1 rfl rfl dX5_flickerOf_20 ?_
        refine z_iload C 4 rfl dX5_flickerOf_21 ?_
        refine z_callV (n := 2) C (c_X5_brightnessAt l D E m0 m1 m2 m3 m4 m5 m6 m7 th sm le tk fr ti fa ms ma mv mt mn ml mr x1 x4 hw) qF0_ok (fun _ _ _ => trivial) gX5_flickerOf_X5_brightnessAt rfl (by decide +kernel) ⟨(Nat.le_of_ble_eq_true rfl), (Nat.le_of_ble_eq_true rfl)⟩ rfl 0 rfl rfl [0, 1, 2, 3, 4, 5, 6, 7] rfl rfl (Nat.le_of_ble_eq_true rfl) dX5_flickerOf_23 (fun r5 hw => ?_)
        show qZ X 0 0 [(m0, .inr (5, [.int (qI th), .ref m1, .ref m2, .ref m3, .int (qI sm), .ref m4, .int (qI le), .ref m5, .ref m6, .ref m7, .int (qI tk), .int (qI fr), .int (qI ti), .int (qI fa)])), (m1, qA (E 0) 635 ms), (m2, qA (E 0) 635 ma), (m3, qA (E 0) 3175 mv), (m4, qA (E 0) 140 mt), (m5, qA (E 0) 2 mn), (m6, qA (E 0) 64 ml), (m7, qA (E 0) 49152 mr)] _ _ [.int (qI r5)]
        refine z_istore C (by decide) rfl dX5_flickerOf_26 ?_
        refine z_iload C 0 rfl dX5_flickerOf_28 ?_
        refine z_iload_n C 3 rfl rfl dX5_flickerOf_30 ?_
        refine z_icmp_ge (tgt := 39) C hw.1 (by decide) dX5_flickerOf_31 (fun c6 => ?_) (fun c6 => ?_)
        · replace hw := hw.2.1 c6
          refine z_iload_n C 3 rfl rfl dX5_flickerOf_39 ?_
          refine z_lst (ps := [1, 2, 4, 5, 0]) (lv' := [(0, .ref m0), (1, .int (qI x1)), (3, .int (qI x3)), (4, .int (qI x4)), (5, .int (qI r5))]) (st' := [.int (qI x2)]) rfl rfl ?_
          exact hB40 x1 _ ih x3 x4 r5 x2 hw
        · replace hw := hw.2.2 c6
          refine z_iload C 0 rfl dX5_flickerOf_34 ?_
          refine z_goto (tgt := 40) C (by decide) dX5_flickerOf_36 ?_
          refine z_lst (ps := [1, 2, 4, 5, 0]) (lv' := [(0, .ref m0), (1, .int (qI x1)), (3, .int (qI x3)), (4, .int (qI x4)), (5, .int (qI r5))]) (st' := [.int (qI r5)]) rfl rfl ?_
          exact hB40 x1 _ ih x3 x4 r5 r5 hw
  unfold wp_X5_flickerOf at hw
  show qZ X 0 0 [(m0, .inr (5, [.int (qI th), .ref m1, .ref m2, .ref m3, .int (qI sm), .ref m4, .int (qI le), .ref m5, .ref m6, .ref m7, .int (qI tk), .int (qI fr), .int (qI ti), .int (qI fa)])), (m1, qA (E 0) 635 ms), (m2, qA (E 0) 635 ma), (m3, qA (E 0) 3175 mv), (m4, qA (E 0) 140 mt), (m5, qA (E 0) 2 mn), (m6, qA (E 0) 64 ml), (m7, qA (E 0) 49152 mr)] 0 [(0, .ref m0), (1, .int (qI x1))] []
  refine z_bipush C (by decide +kernel) dX5_flickerOf_0 ?_
  refine z_istore_n C rfl (by decide) rfl dX5_flickerOf_2 ?_
  refine z_iconst C dX5_flickerOf_3 ?_
  refine z_istore_n C rfl (by decide) rfl dX5_flickerOf_4 ?_
  refine z_iconst C dX5_flickerOf_5 ?_
  refine z_istore C (by decide) rfl dX5_flickerOf_6 ?_
  refine z_lst (ps := [3, 4, 2, 1, 0]) (lv' := [(0, .ref m0), (1, .int (qI x1)), (2, .int (qI (100 : Int))), (3, .int (qI (0 : Int))), (4, .int (qI (0 : Int)))]) (st' := []) rfl rfl ?_
  obtain ⟨n8, hw⟩ := hw
  exact hB8 x1 n8 (100 : Int) (0 : Int) (0 : Int) hw
def wp_X5_spot_196 (Φ : Int → Int → (Nat → Int) → Prop)  (k0 : Int) (th : Int) (ml : Nat → Int) : Prop := Φ k0 th ml
def wp_X5_spot_151 (Φ : Int → Int → (Nat → Int) → Prop)  (k0 : Int) (th : Int) (ml : Nat → Int) : Prop := Φ k0 th ml
def wp_X5_spot_137 (Φ : Int → Int → (Nat → Int) → Prop)  (k0 : Int) (th : Int) (ml : Nat → Int) : Prop := Φ k0 th ml
def wp_X5_spot_22 (Φ : Int → Int → (Nat → Int) → Prop)  (th : Int) (ml : Nat → Int) : Prop := Φ (-1 : Int) th ml
def wp_X5_spot (x1 : Int) (x2 : Int) (th : Int) (ms : Nat → Int) (ml : Nat → Int) (Φ : Int → Int → (Nat → Int) → Prop) : Prop := wp_X5_isSpot x1 (fun (r1 : Int) => (qR r1 ∧ (r1 = (0 : Int) → wp_X5_spot_22 Φ  (0 : Int) ml) ∧ (¬ (r1 = (0 : Int)) → wp_X5_in x2 (0 : Int) (9 : Int) (fun (r3 : Int) => (qR r3 ∧ (¬ r3 = (0 : Int) → wp_X5_beam ms ml (fun (g6 : Nat → Int) => (qR x2 ∧ ((x2 < (0 : Int) ∨ (8 : Int) < x2) → ((0 ≤ x1 ∧ x1 < 64) ∧ (∀ v7 : Int, v7 = g6 (x1).toNat → ((qR v7 ∧ qR (-9 : Int)) ∧ (¬ v7 = (-9 : Int) → wp_X5_flickerOf x1 ms g6 (fun (r9 : Int) => wp_X5_spot_196 Φ  r9 (0 : Int) g6)) ∧ (¬ (¬ v7 = (-9 : Int)) → wp_X5_spot_196 Φ  (0 : Int) (0 : Int) g6))))) ∧ (x2 = (0 : Int) → ((0 ≤ ((19 : Int) + x1) ∧ ((19 : Int) + x1) < 635) ∧ (∀ v10 : Int, v10 = ms (((19 : Int) + x1)).toNat → Φ v10 (0 : Int) g6))) ∧ (x2 = (1 : Int) → ((0 ≤ ((83 : Int) + x1) ∧ ((83 : Int) + x1) < 635) ∧ (∀ v11 : Int, v11 = ms (((83 : Int) + x1)).toNat → Φ v11 (0 : Int) g6))) ∧ (x2 = (2 : Int) → ((0 ≤ ((147 : Int) + x1) ∧ ((147 : Int) + x1) < 635) ∧ (∀ v12 : Int, v12 = ms (((147 : Int) + x1)).toNat → Φ v12 (0 : Int) g6))) ∧ (x2 = (3 : Int) → wp_X5_positionOf x1 ms (fun (r13 : Int) => Φ r13 (0 : Int) g6)) ∧ (x2 = (4 : Int) → ((0 ≤ x1 ∧ x1 < 64) ∧ (∀ v14 : Int, v14 = g6 (x1).toNat → Φ v14 (0 : Int) g6))) ∧ (x2 = (5 : Int) → wp_X5_isEyed x1 ms g6 (fun (r15 : Int) => (qR r15 ∧ (r15 = (0 : Int) → wp_X5_spot_137 Φ  (0 : Int) (0 : Int) g6) ∧ (¬ (r15 = (0 : Int)) → wp_X5_spot_137 Φ  (1 : Int) (0 : Int) g6)))) ∧ (x2 = (6 : Int) → wp_X5_isShotNow x1 ms g6 (fun (r17 : Int) => (qR r17 ∧ (r17 = (0 : Int) → wp_X5_spot_151 Φ  (0 : Int) (0 : Int) g6) ∧ (¬ (r17 = (0 : Int)) → wp_X5_spot_151 Φ  (1 : Int) (0 : Int) g6)))) ∧ (x2 = (7 : Int) → wp_X5_eyeMean x1 ms g6 (fun (r19 : Int) => Φ r19 (0 : Int) g6)) ∧ (x2 = (8 : Int) → ((0 ≤ (3 : Int) ∧ (3 : Int) < 635) ∧ (∀ v20 : Int, v20 = ms ((3 : Int)).toNat → ((0 ≤ (4 : Int) ∧ (4 : Int) < 635) ∧ (∀ v21 : Int, v21 = ms ((4 : Int)).toNat → wp_X5_shutterMean x1 v20 v21 ms g6 (fun (r22 : Int) => Φ r22 (0 : Int) g6))))))))) ∧ (¬ (¬ r3 = (0 : Int)) → wp_X5_spot_22 Φ  (0 : Int) ml))))))
theorem iX5_spot_X5 : ∀ w ∈ wsX50, w ∈ wsX5_spot := fun w h => List.mem_cons_of_mem _ (List.mem_append_right _ (h))
set_option maxHeartbeats 4000000 in
set_option maxRecDepth 100000 in
theorem c_X5_spot (l : Launch) (D : va_G) (E : Nat → ClassId) (m0 m1 m2 m3 m4 m5 m6 m7 : Nat) (th : Int) (sm : Int) (le : Int) (tk : Int) (fr : Int) (ti : Int) (fa : Int) (ms : Nat → Int) (ma : Nat → Int) (mv : Nat → Int) (mt : Nat → Int) (mn : Nat → Int) (ml : Nat → Int) (mr : Nat → Int) (x1 : Int) (x2 : Int) {Φ : Int → Int → (Nat → Int) → Prop} (hw : wp_X5_spot x1 x2 th ms ml Φ) : qRW (σ := (Int) × (Nat → Int)) l D E qF0 yX5_spot wsX5_spot 6 136 [(m0, .inr (5, [.int (qI th), .ref m1, .ref m2, .ref m3, .int (qI sm), .ref m4, .int (qI le), .ref m5, .ref m6, .ref m7, .int (qI tk), .int (qI fr), .int (qI ti), .int (qI fa)])), (m1, qA (E 0) 635 ms), (m2, qA (E 0) 635 ma), (m3, qA (E 0) 3175 mv), (m4, qA (E 0) 140 mt), (m5, qA (E 0) 2 mn), (m6, qA (E 0) 64 ml), (m7, qA (E 0) 49152 mr)] [.ref m0, .int (qI x1), .int (qI x2)] qeI (fun u => [(m0, .inr (5, [.int (qI u.1), .ref m1, .ref m2, .ref m3, .int (qI sm), .ref m4, .int (qI le), .ref m5, .ref m6, .ref m7, .int (qI tk), .int (qI fr), .int (qI ti), .int (qI fa)])), (m1, qA (E 0) 635 ms), (m2, qA (E 0) 635 ma), (m3, qA (E 0) 3175 mv), (m4, qA (E 0) 140 mt), (m5, qA (E 0) 2 mn), (m6, qA (E 0) 64 u.2), (m7, qA (E 0) 49152 mr)]) (fun r u => Φ r u.1 u.2) := by
  refine qRW_int (nL := 3) (own := RX5) qF0_ok (by decide) rfl rfl (Nat.le_of_ble_eq_true rfl) (fun X C hend => ?_)
  have hB196 : ∀ k0 : Int, ∀ th : Int, ∀ ml : Nat → Int, wp_X5_spot_196 Φ  k0 th ml → qZ X 0 0 [(m0, .inr (5, [.int (qI th), .ref m1, .ref m2, .ref m3, .int (qI sm), .ref m4, .int (qI le), .ref m5, .ref m6, .ref m7, .int (qI tk), .int (qI fr), .int (qI ti), .int (qI fa)])), (m1, qA (E 0) 635 ms), (m2, qA (E 0) 635 ma), (m3, qA (E 0) 3175 mv), (m4, qA (E 0) 140 mt), (m5, qA (E 0) 2 mn), (m6, qA (E 0) 64 ml), (m7, qA (E 0) 49152 mr)] 196 [] [.int (qI k0)] := by
    intro k0 th ml hw
    unfold wp_X5_spot_196 at hw
    exact hend 196 _ k0 (th, ml) dX5_spot_196 hw
  have hB151 : ∀ k0 : Int, ∀ th : Int, ∀ ml : Nat → Int, wp_X5_spot_151 Φ  k0 th ml → qZ X 0 0 [(m0, .inr (5, [.int (qI th), .ref m1, .ref m2, .ref m3, .int (qI sm), .ref m4, .int (qI le), .ref m5, .ref m6, .ref m7, .int (qI tk), .int (qI fr), .int (qI ti), .int (qI fa)])), (m1, qA (E 0) 635 ms), (m2, qA (E 0) 635 ma), (m3, qA (E 0) 3175 mv), (m4, qA (E 0) 140 mt), (m5, qA (E 0) 2 mn), (m6, qA (E 0) 64 ml), (m7, qA (E 0) 49152 mr)] 151 [] [.int (qI k0)] := by
    intro k0 th ml hw
    unfold wp_X5_spot_151 at hw
    exact hend 151 _ k0 (th, ml) dX5_spot_151 hw
  have hB137 : ∀ k0 : Int, ∀ th : Int, ∀ ml : Nat → Int, wp_X5_spot_137 Φ  k0 th ml → qZ X 0 0 [(m0, .inr (5, [.int (qI th), .ref m1, .ref m2, .ref m3, .int (qI sm), .ref m4, .int (qI le), .ref m5, .ref m6, .ref m7, .int (qI tk), .int (qI fr), .int (qI ti), .int (qI fa)])), (m1, qA (E 0) 635 ms), (m2, qA (E 0) 635 ma), (m3, qA (E 0) 3175 mv), (m4, qA (E 0) 140 mt), (m5, qA (E 0) 2 mn), (m6, qA (E 0) 64 ml), (m7, qA (E 0) 49152 mr)] 137 [] [.int (qI k0)] := by
    intro k0 th ml hw
    unfold wp_X5_spot_137 at hw
    exact hend 137 _ k0 (th, ml) dX5_spot_137 hw
  have hB22 : ∀ th : Int, ∀ ml : Nat → Int, wp_X5_spot_22 Φ  th ml → qZ X 0 0 [(m0, .inr (5, [.int (qI th), .ref m1, .ref m2, .ref m3, .int (qI sm), .ref m4, .int (qI le), .ref m5, .ref m6, .ref m7, .int (qI tk), .int (qI fr), .int (qI ti), .int (qI fa)])), (m1, qA (E 0) 635 ms), (m2, qA (E 0) 635 ma), (m3, qA (E 0) 3175 mv), (m4, qA (E 0) 140 mt), (m5, qA (E 0) 2 mn), (m6, qA (E 0) 64 ml), (m7, qA (E 0) 49152 mr)] 22 [] [] := by
    intro th ml hw
    unfold wp_X5_spot_22 at hw
    refine z_iconst C dX5_spot_22 ?_
    exact hend 23 _ (-1 : Int) (th, ml) dX5_spot_23 hw
  unfold wp_X5_spot at hw
  show qZ X 0 0 [(m0, .inr (5, [.int (qI th), .ref m1, .ref m2, .ref m3, .int (qI sm), .ref m4, .int (qI le), .ref m5, .ref m6, .ref m7, .int (qI tk), .int (qI fr), .int (qI ti), .int (qI fa)])), (m1, qA (E 0) 635 ms), (m2, qA (E 0) 635 ma), (m3, qA (E 0) 3175 mv), (m4, qA (E 0) 140 mt), (m5, qA (E 0) 2 mn), (m6, qA (E 0) 64 ml), (m7, qA (E 0) 49152 mr)] 0 [(0, .ref m0), (1, .int (qI x1)), (2, .int (qI x2))] []
  refine z_aload_n C 0 rfl rfl dX5_spot_0 ?_
  refine z_iconst C dX5_spot_1 ?_
  refine z_put (ty := .int) (ws' := [(m0, .inr (5, [.int (qI (0 : Int)), .ref m1, .ref m2, .ref m3, .int (qI sm), .ref m4, .int (qI le), .ref m5, .ref m6, .ref m7, .int (qI tk), .int (qI fr), .int (qI ti), .int (qI fa)])), (m1, qA (E 0) 635 ms), (m2, qA (E 0) 635 ma), (m3, qA (E 0) 3175 mv), (m4, qA (E 0) 140 mt), (m5, qA (E 0) 2 mn), (m6, qA (E 0) 64 ml), (m7, qA (E 0) 49152 mr)]) C iX5_spot_X5 tyX5 tyX5_ok nmX5 0 rfl rfl 0 (by decide) (List.mem_of_getElem? (i := 1) rfl) rfl rfl (by decide +kernel) rfl rfl (Nat.le_of_ble_eq_true rfl) rfl dX5_spot_2 ?_
  refine z_iload_n C 1 rfl rfl dX5_spot_5 ?_
  refine z_callS (n := 1) C (c_X5_isSpot l D E   x1 hw) qF0_ok (fun _ _ _ => trivial) gX5_spot_X5_isSpot rfl (by decide +kernel) ⟨(Nat.le_of_ble_eq_true rfl), (Nat.le_of_ble_eq_true rfl)⟩ rfl [] rfl rfl (Nat.le_of_ble_eq_true rfl) dX5_spot_6 (fun r1 hw => ?_)
  show qZ X 0 0 [(m0, .inr (5, [.int (qI (0 : Int)), .ref m1, .ref m2, .ref m3, .int (qI sm), .ref m4, .int (qI le), .ref m5, .ref m6, .ref m7, .int (qI tk), .int (qI fr), .int (qI ti), .int (qI fa)])), (m1, qA (E 0) 635 ms), (m2, qA (E 0) 635 ma), (m3, qA (E 0) 3175 mv), (m4, qA (E 0) 140 mt), (m5, qA (E 0) 2 mn), (m6, qA (E 0) 64 ml), (m7, qA (E 0) 49152 mr)] _ _ [.int (qI r1)]
  refine z_if_eq (tgt := 22) C hw.1 (by decide) dX5_spot_9 (fun c2 => ?_) (fun c2 => ?_)
  · replace hw := hw.2.1 c2
    refine z_lst (ps := []) (lv' := []) (st' := []) rfl rfl ?_
    exact hB22 (0 : Int) ml hw
  · replace hw := hw.2.2 c2
    refine z_iload_n C 2 rfl rfl dX5_spot_12 ?_
    refine z_iconst C dX5_spot_13 ?_
    refine z_bipush C (by decide +kernel) dX5_spot_14 ?_
    refine z_callS (n := 3) C (c_X5_in l D E   x2 (0 : Int) (9 : Int) hw) qF0_ok (fun _ _ _ => trivial) gX5_spot_X5_in rfl (by decide +kernel) ⟨(Nat.le_of_ble_eq_true rfl), (Nat.le_of_ble_eq_true rfl)⟩ rfl [] rfl rfl (Nat.le_of_ble_eq_true rfl) dX5_spot_16 (fun r3 hw => ?_)
    show qZ X 0 0 [(m0, .inr (5, [.int (qI (0 : Int)), .ref m1, .ref m2, .ref m3, .int (qI sm), .ref m4, .int (qI le), .ref m5, .ref m6, .ref m7, .int (qI tk), .int (qI fr), .int (qI ti), .int (qI fa)])), (m1, qA (E 0) 635 ms), (m2, qA (E 0) 635 ma), (m3, qA (E 0) 3175 mv), (m4, qA (E 0) 140 mt), (m5, qA (E 0) 2 mn), (m6, qA (E 0) 64 ml), (m7, qA (E 0) 49152 mr)] _ _ [.int (qI r3)]
    refine z_if_ne (tgt := 24) C hw.1 (by decide) dX5_spot_19 (fun c4 => ?_) (fun c4 => ?_)
    · replace hw := hw.2.1 c4
      refine z_aload_n C 0 rfl rfl dX5_spot_24 ?_
      refine z_callVW (n := 0) C (c_X5_beam l D E m0 m1 m2 m3 m4 m5 m6 m7 (0 : Int) sm le tk fr ti fa ms ma mv mt mn ml mr  hw) qF0_ok (fun _ _ _ => trivial) gX5_spot_X5_beam rfl (by decide +kernel) ⟨(Nat.le_of_ble_eq_true rfl), (Nat.le_of_ble_eq_true rfl)⟩ rfl 0 rfl rfl [0, 1, 2, 3, 4, 5, 6, 7] [] (wr := []) rfl rfl rfl rfl (by decide) [0, 1, 2, 3, 4, 5, 6, 7] rfl (fun u9 => [(m0, .inr (5, [.int (qI (0 : Int)), .ref m1, .ref m2, .ref m3, .int (qI sm), .ref m4, .int (qI le), .ref m5, .ref m6, .ref m7, .int (qI tk), .int (qI fr), .int (qI ti), .int (qI fa)])), (m1, qA (E 0) 635 ms), (m2, qA (E 0) 635 ma), (m3, qA (E 0) 3175 mv), (m4, qA (E 0) 140 mt), (m5, qA (E 0) 2 mn), (m6, qA (E 0) 64 u9), (m7, qA (E 0) 49152 mr)]) (fun _ => rfl) rfl (Nat.le_of_ble_eq_true rfl) dX5_spot_25 (fun r5 u9 hw => ?_)
      obtain ⟨g6, rfl⟩ : ∃ z, z = u9 := ⟨_, rfl⟩
      refine z_ws (ws' := [(m0, .inr (5, [.int (qI (0 : Int)), .ref m1, .ref m2, .ref m3, .int (qI sm), .ref m4, .int (qI le), .ref m5, .ref m6, .ref m7, .int (qI tk), .int (qI fr), .int (qI ti), .int (qI fa)])), (m1, qA (E 0) 635 ms), (m2, qA (E 0) 635 ma), (m3, qA (E 0) 3175 mv), (m4, qA (E 0) 140 mt), (m5, qA (E 0) 2 mn), (m6, qA (E 0) 64 g6), (m7, qA (E 0) 49152 mr)]) rfl ?_
      try dsimp only at hw
      show qZ X 0 0 [(m0, .inr (5, [.int (qI (0 : Int)), .ref m1, .ref m2, .ref m3, .int (qI sm), .ref m4, .int (qI le), .ref m5, .ref m6, .ref m7, .int (qI tk), .int (qI fr), .int (qI ti), .int (qI fa)])), (m1, qA (E 0) 635 ms), (m2, qA (E 0) 635 ma), (m3, qA (E 0) 3175 mv), (m4, qA (E 0) 140 mt), (m5, qA (E 0) 2 mn), (m6, qA (E 0) 64 g6), (m7, qA (E 0) 49152 mr)] _ _ []
      refine z_iload_n C 2 rfl rfl dX5_spot_28 ?_
      rcases (show (x2 < (0 : Int) ∨ (8 : Int) < x2) ∨ x2 = (0 : Int) ∨ x2 = (1 : Int) ∨ x2 = (2 : Int) ∨ x2 = (3 : Int) ∨ x2 = (4 : Int) ∨ x2 = (5 : Int) ∨ x2 = (6 : Int) ∨ x2 = (7 : Int) ∨ x2 = (8 : Int) by omega) with c23 | c23 | c23 | c23 | c23 | c23 | c23 | c23 | c23 | c23
      · refine z_swOut (tgt := 176) C hw.1 c23 (by decide) dX5_spot_29 ?_
        replace hw := hw.2.1 c23
        refine z_aload_n C 0 rfl rfl dX5_spot_176 ?_
        refine z_get C iX5_spot_X5 0 rfl rfl 8 (by decide) (List.mem_of_getElem? (i := 3) rfl) rfl rfl dX5_spot_177 ?_
        refine z_iload_n C 1 rfl rfl dX5_spot_180 ?_
        refine z_iald C 6 rfl (by decide) hw.1 dX5_spot_181 ?_
        replace hw := hw.2
        refine z_name (fun v7 ev7 => ?_)
        replace hw := hw v7 ev7
        refine z_bipush C (by decide +kernel) dX5_spot_182 ?_
        refine z_icmp_ne (tgt := 191) C hw.1 (by decide) dX5_spot_184 (fun c8 => ?_) (fun c8 => ?_)
        · replace hw := hw.2.1 c8
          refine z_aload_n C 0 rfl rfl dX5_spot_191 ?_
          refine z_iload_n C 1 rfl rfl dX5_spot_192 ?_
          refine z_callV (n := 1) C (c_X5_flickerOf l D E m0 m1 m2 m3 m4 m5 m6 m7 (0 : Int) sm le tk fr ti fa ms ma mv mt mn g6 mr x1 hw) qF0_ok (fun _ _ _ => trivial) gX5_spot_X5_flickerOf rfl (by decide +kernel) ⟨(Nat.le_of_ble_eq_true rfl), (Nat.le_of_ble_eq_true rfl)⟩ rfl 0 rfl rfl [0, 1, 2, 3, 4, 5, 6, 7] rfl rfl (Nat.le_of_ble_eq_true rfl) dX5_spot_193 (fun r9 hw => ?_)
          show qZ X 0 0 [(m0, .inr (5, [.int (qI (0 : Int)), .ref m1, .ref m2, .ref m3, .int (qI sm), .ref m4, .int (qI le), .ref m5, .ref m6, .ref m7, .int (qI tk), .int (qI fr), .int (qI ti), .int (qI fa)])), (m1, qA (E 0) 635 ms), (m2, qA (E 0) 635 ma), (m3, qA (E 0) 3175 mv), (m4, qA (E 0) 140 mt), (m5, qA (E 0) 2 mn), (m6, qA (E 0) 64 g6), (m7, qA (E 0) 49152 mr)] _ _ [.int (qI r9)]
          refine z_lst (ps := []) (lv' := []) (st' := [.int (qI r9)]) rfl rfl ?_
          exact hB196 r9 (0 : Int) g6 hw
        · replace hw := hw.2.2 c8
          refine z_iconst C dX5_spot_187 ?_
          refine z_goto (tgt := 196) C (by decide) dX5_spot_188 ?_
          refine z_lst (ps := []) (lv' := []) (st' := [.int (qI (0 : Int))]) rfl rfl ?_
          exact hB196 (0 : Int) (0 : Int) g6 hw
      · refine z_swIn (off := (51 : Int)) (tgt := 80) C hw.1 (by omega) (by omega) (by rw [c23]; rfl) (by decide) dX5_spot_29 ?_
        replace hw := hw.2.2.1 c23
        refine z_aload_n C 0 rfl rfl dX5_spot_80 ?_
        refine z_get C iX5_spot_X5 0 rfl rfl 1 (by decide) (List.mem_of_getElem? (i := 2) rfl) rfl rfl dX5_spot_81 ?_
        refine z_bipush C (by decide +kernel) dX5_spot_84 ?_
        refine z_iload_n C 1 rfl rfl dX5_spot_86 ?_
        refine z_iadd C dX5_spot_87 ?_
        refine z_iald C 1 rfl (by decide) hw.1 dX5_spot_88 ?_
        replace hw := hw.2
        refine z_name (fun v10 ev10 => ?_)
        replace hw := hw v10 ev10
        exact hend 89 _ v10 ((0 : Int), g6) dX5_spot_89 hw
      · refine z_swIn (off := (61 : Int)) (tgt := 90) C hw.1 (by omega) (by omega) (by rw [c23]; rfl) (by decide) dX5_spot_29 ?_
        replace hw := hw.2.2.2.1 c23
        refine z_aload_n C 0 rfl rfl dX5_spot_90 ?_
        refine z_get C iX5_spot_X5 0 rfl rfl 1 (by decide) (List.mem_of_getElem? (i := 2) rfl) rfl rfl dX5_spot_91 ?_
        refine z_bipush C (by decide +kernel) dX5_spot_94 ?_
        refine z_iload_n C 1 rfl rfl dX5_spot_96 ?_
        refine z_iadd C dX5_spot_97 ?_
        refine z_iald C 1 rfl (by decide) hw.1 dX5_spot_98 ?_
        replace hw := hw.2
        refine z_name (fun v11 ev11 => ?_)
        replace hw := hw v11 ev11
        exact hend 99 _ v11 ((0 : Int), g6) dX5_spot_99 hw
      · refine z_swIn (off := (71 : Int)) (tgt := 100) C hw.1 (by omega) (by omega) (by rw [c23]; rfl) (by decide) dX5_spot_29 ?_
        replace hw := hw.2.2.2.2.1 c23
        refine z_aload_n C 0 rfl rfl dX5_spot_100 ?_
        refine z_get C iX5_spot_X5 0 rfl rfl 1 (by decide) (List.mem_of_getElem? (i := 2) rfl) rfl rfl dX5_spot_101 ?_
        refine z_sipush C (by decide +kernel) dX5_spot_104 ?_
        refine z_iload_n C 1 rfl rfl dX5_spot_107 ?_
        refine z_iadd C dX5_spot_108 ?_
        refine z_iald C 1 rfl (by decide) hw.1 dX5_spot_109 ?_
        replace hw := hw.2
        refine z_name (fun v12 ev12 => ?_)
        replace hw := hw v12 ev12
        exact hend 110 _ v12 ((0 : Int), g6) dX5_spot_110 hw
      · refine z_swIn (off := (82 : Int)) (tgt := 111) C hw.1 (by omega) (by omega) (by rw [c23]; rfl) (by decide) dX5_spot_29 ?_
        replace hw := hw.2.2.2.2.2.1 c23
        refine z_aload_n C 0 rfl rfl dX5_spot_111 ?_
        refine z_iload_n C 1 rfl rfl dX5_spot_112 ?_
        refine z_callV (n := 1) C (c_X5_positionOf l D E m0 m1 m2 m3 m4 m5 m6 m7 (0 : Int) sm le tk fr ti fa ms ma mv mt mn g6 mr x1 hw) qF0_ok (fun _ _ _ => trivial) gX5_spot_X5_positionOf rfl (by decide +kernel) ⟨(Nat.le_of_ble_eq_true rfl), (Nat.le_of_ble_eq_true rfl)⟩ rfl 0 rfl rfl [0, 1, 2, 3, 4, 5, 6, 7] rfl rfl (Nat.le_of_ble_eq_true rfl) dX5_spot_113 (fun r13 hw => ?_)
        show qZ X 0 0 [(m0, .inr (5, [.int (qI (0 : Int)), .ref m1, .ref m2, .ref m3, .int (qI sm), .ref m4, .int (qI le), .ref m5, .ref m6, .ref m7, .int (qI tk), .int (qI fr), .int (qI ti), .int (qI fa)])), (m1, qA (E 0) 635 ms), (m2, qA (E 0) 635 ma), (m3, qA (E 0) 3175 mv), (m4, qA (E 0) 140 mt), (m5, qA (E 0) 2 mn), (m6, qA (E 0) 64 g6), (m7, qA (E 0) 49152 mr)] _ _ [.int (qI r13)]
        exact hend 116 _ r13 ((0 : Int), g6) dX5_spot_116 hw
      · refine z_swIn (off := (88 : Int)) (tgt := 117) C hw.1 (by omega) (by omega) (by rw [c23]; rfl) (by decide) dX5_spot_29 ?_
        replace hw := hw.2.2.2.2.2.2.1 c23
        refine z_aload_n C 0 rfl rfl dX5_spot_117 ?_
        refine z_get C iX5_spot_X5 0 rfl rfl 8 (by decide) (List.mem_of_getElem? (i := 3) rfl) rfl rfl dX5_spot_118 ?_
        refine z_iload_n C 1 rfl rfl dX5_spot_121 ?_
        refine z_iald C 6 rfl (by decide) hw.1 dX5_spot_122 ?_
        replace hw := hw.2
        refine z_name (fun v14 ev14 => ?_)
        replace hw := hw v14 ev14
        exact hend 123 _ v14 ((0 : Int), g6) dX5_spot_123 hw
      · refine z_swIn (off := (95 : Int)) (tgt := 124) C hw.1 (by omega) (by omega) (by rw [c23]; rfl) (by decide) dX5_spot_29 ?_
        replace hw := hw.2.2.2.2.2.2.2.1 c23
        refine z_aload_n C 0 rfl rfl dX5_spot_124 ?_
        refine z_iload_n C 1 rfl rfl dX5_spot_125 ?_
        refine z_callV (n := 1) C (c_X5_isEyed l D E m0 m1 m2 m3 m4 m5 m6 m7 (0 : Int) sm le tk fr ti fa ms ma mv mt mn g6 mr x1 hw) qF0_ok (fun _ _ _ => trivial) gX5_spot_X5_isEyed rfl (by decide +kernel) ⟨(Nat.le_of_ble_eq_true rfl), (Nat.le_of_ble_eq_true rfl)⟩ rfl 0 rfl rfl [0, 1, 2, 3, 4, 5, 6, 7] rfl rfl (Nat.le_of_ble_eq_true rfl) dX5_spot_126 (fun r15 hw => ?_)
        show qZ X 0 0 [(m0, .inr (5, [.int (qI (0 : Int)), .ref m1, .ref m2, .ref m3, .int (qI sm), .ref m4, .int (qI le), .ref m5, .ref m6, .ref m7, .int (qI tk), .int (qI fr), .int (qI ti), .int (qI fa)])), (m1, qA (E 0) 635 ms), (m2, qA (E 0) 635 ma), (m3, qA (E 0) 3175 mv), (m4, qA (E 0) 140 mt), (m5, qA (E 0) 2 mn), (m6, qA (E 0) 64 g6), (m7, qA (E 0) 49152 mr)] _ _ [.int (qI r15)]
        refine z_if_eq (tgt := 136) C hw.1 (by decide) dX5_spot_129 (fun c16 => ?_) (fun c16 => ?_)
        · replace hw := hw.2.1 c16
          refine z_iconst C dX5_spot_136 ?_
          refine z_lst (ps := []) (lv' := []) (st' := [.int (qI (0 : Int))]) rfl rfl ?_
          exact hB137 (0 : Int) (0 : Int) g6 hw
        · replace hw := hw.2.2 c16
          refine z_iconst C dX5_spot_132 ?_
          refine z_goto (tgt := 137) C (by decide) dX5_spot_133 ?_
          refine z_lst (ps := []) (lv' := []) (st' := [.int (qI (1 : Int))]) rfl rfl ?_
          exact hB137 (1 : Int) (0 : Int) g6 hw
      · refine z_swIn (off := (109 : Int)) (tgt := 138) C hw.1 (by omega) (by omega) (by rw [c23]; rfl) (by decide) dX5_spot_29 ?_
        replace hw := hw.2.2.2.2.2.2.2.2.1 c23
        refine z_aload_n C 0 rfl rfl dX5_spot_138 ?_
        refine z_iload_n C 1 rfl rfl dX5_spot_139 ?_
        refine z_callV (n := 1) C (c_X5_isShotNow l D E m0 m1 m2 m3 m4 m5 m6 m7 (0 : Int) sm le tk fr ti fa ms ma mv mt mn g6 mr x1 hw) qF0_ok (fun _ _ _ => trivial) gX5_spot_X5_isShotNow rfl (by decide +kernel) ⟨(Nat.le_of_ble_eq_true rfl), (Nat.le_of_ble_eq_true rfl)⟩ rfl 0 rfl rfl [0, 1, 2, 3, 4, 5, 6, 7] rfl rfl (Nat.le_of_ble_eq_true rfl) dX5_spot_140 (fun r17 hw => ?_)
        show qZ X 0 0 [(m0, .inr (5, [.int (qI (0 : Int)), .ref m1, .ref m2, .ref m3, .int (qI sm), .ref m4, .int (qI le), .ref m5, .ref m6, .ref m7, .int (qI tk), .int (qI fr), .int (qI ti), .int (qI fa)])), (m1, qA (E 0) 635 ms), (m2, qA (E 0) 635 ma), (m3, qA (E 0) 3175 mv), (m4, qA (E 0) 140 mt), (m5, qA (E 0) 2 mn), (m6, qA (E 0) 64 g6), (m7, qA (E 0) 49152 mr)] _ _ [.int (qI r17)]
        refine z_if_eq (tgt := 150) C hw.1 (by decide) dX5_spot_143 (fun c18 => ?_) (fun c18 => ?_)
        · replace hw := hw.2.1 c18
          refine z_iconst C dX5_spot_150 ?_
          refine z_lst (ps := []) (lv' := []) (st' := [.int (qI (0 : Int))]) rfl rfl ?_
          exact hB151 (0 : Int) (0 : Int) g6 hw
        · replace hw := hw.2.2 c18
          refine z_iconst C dX5_spot_146 ?_
          refine z_goto (tgt := 151) C (by decide) dX5_spot_147 ?_
          refine z_lst (ps := []) (lv' := []) (st' := [.int (qI (1 : Int))]) rfl rfl ?_
          exact hB151 (1 : Int) (0 : Int) g6 hw
      · refine z_swIn (off := (123 : Int)) (tgt := 152) C hw.1 (by omega) (by omega) (by rw [c23]; rfl) (by decide) dX5_spot_29 ?_
        replace hw := hw.2.2.2.2.2.2.2.2.2.1 c23
        refine z_aload_n C 0 rfl rfl dX5_spot_152 ?_
        refine z_iload_n C 1 rfl rfl dX5_spot_153 ?_
        refine z_callV (n := 1) C (c_X5_eyeMean l D E m0 m1 m2 m3 m4 m5 m6 m7 (0 : Int) sm le tk fr ti fa ms ma mv mt mn g6 mr x1 hw) qF0_ok (fun _ _ _ => trivial) gX5_spot_X5_eyeMean rfl (by decide +kernel) ⟨(Nat.le_of_ble_eq_true rfl), (Nat.le_of_ble_eq_true rfl)⟩ rfl 0 rfl rfl [0, 1, 2, 3, 4, 5, 6, 7] rfl rfl (Nat.le_of_ble_eq_true rfl) dX5_spot_154 (fun r19 hw => ?_)
        show qZ X 0 0 [(m0, .inr (5, [.int (qI (0 : Int)), .ref m1, .ref m2, .ref m3, .int (qI sm), .ref m4, .int (qI le), .ref m5, .ref m6, .ref m7, .int (qI tk), .int (qI fr), .int (qI ti), .int (qI fa)])), (m1, qA (E 0) 635 ms), (m2, qA (E 0) 635 ma), (m3, qA (E 0) 3175 mv), (m4, qA (E 0) 140 mt), (m5, qA (E 0) 2 mn), (m6, qA (E 0) 64 g6), (m7, qA (E 0) 49152 mr)] _ _ [.int (qI r19)]
        exact hend 157 _ r19 ((0 : Int), g6) dX5_spot_157 hw
      · refine z_swIn (off := (129 : Int)) (tgt := 158) C hw.1 (by omega) (by omega) (by rw [c23]; rfl) (by decide) dX5_spot_29 ?_
        replace hw := hw.2.2.2.2.2.2.2.2.2.2 c23
        refine z_aload_n C 0 rfl rfl dX5_spot_158 ?_
        refine z_iload_n C 1 rfl rfl dX5_spot_159 ?_
        refine z_aload_n C 0 rfl rfl dX5_spot_160 ?_
        refine z_get C iX5_spot_X5 0 rfl rfl 1 (by decide) (List.mem_of_getElem? (i := 2) rfl) rfl rfl dX5_spot_161 ?_
        refine z_iconst C dX5_spot_164 ?_
        refine z_iald C 1 rfl (by decide) hw.1 dX5_spot_165 ?_
        replace hw := hw.2
        refine z_name (fun v20 ev20 => ?_)
        replace hw := hw v20 ev20
        refine z_aload_n C 0 rfl rfl dX5_spot_166 ?_
        refine z_get C iX5_spot_X5 0 rfl rfl 1 (by decide) (List.mem_of_getElem? (i := 2) rfl) rfl rfl dX5_spot_167 ?_
        refine z_iconst C dX5_spot_170 ?_
        refine z_iald C 1 rfl (by decide) hw.1 dX5_spot_171 ?_
        replace hw := hw.2
        refine z_name (fun v21 ev21 => ?_)
        replace hw := hw v21 ev21
        refine z_callV (n := 3) C (c_X5_shutterMean l D E m0 m1 m2 m3 m4 m5 m6 m7 (0 : Int) sm le tk fr ti fa ms ma mv mt mn g6 mr x1 v20 v21 hw) qF0_ok (fun _ _ _ => trivial) gX5_spot_X5_shutterMean rfl (by decide +kernel) ⟨(Nat.le_of_ble_eq_true rfl), (Nat.le_of_ble_eq_true rfl)⟩ rfl 0 rfl rfl [0, 1, 2, 3, 4, 5, 6, 7] rfl rfl (Nat.le_of_ble_eq_true rfl) dX5_spot_172 (fun r22 hw => ?_)
        show qZ X 0 0 [(m0, .inr (5, [.int (qI (0 : Int)), .ref m1, .ref m2, .ref m3, .int (qI sm), .ref m4, .int (qI le), .ref m5, .ref m6, .ref m7, .int (qI tk), .int (qI fr), .int (qI ti), .int (qI fa)])), (m1, qA (E 0) 635 ms), (m2, qA (E 0) 635 ma), (m3, qA (E 0) 3175 mv), (m4, qA (E 0) 140 mt), (m5, qA (E 0) 2 mn), (m6, qA (E 0) 64 g6), (m7, qA (E 0) 49152 mr)] _ _ [.int (qI r22)]
        exact hend 175 _ r22 ((0 : Int), g6) dX5_spot_175 hw
    · replace hw := hw.2.2 c4
      refine z_lst (ps := []) (lv' := []) (st' := []) rfl rfl ?_
      exact hB22 (0 : Int) ml hw
def wp_X5_at_34 (Φ : Int → Int → Prop)  (k0 : Int) (th : Int) : Prop := Φ k0 th
def wp_X5_at (x1 : Int) (th : Int) (ms : Nat → Int) (Φ : Int → Int → Prop) : Prop := (qR x1 ∧ ((0 : Int) ≤ x1 → ((0 ≤ (6 : Int) ∧ (6 : Int) < 635) ∧ (∀ v2 : Int, v2 = ms ((6 : Int)).toNat → ((qR x1 ∧ qR v2) ∧ (v2 ≤ x1 → wp_X5_at_34 Φ  (-9 : Int) (0 : Int)) ∧ (¬ (v2 ≤ x1) → wp_X5_spotAt x1 ms (fun (r4 : Int) => wp_X5_at_34 Φ  r4 (0 : Int))))))) ∧ (¬ ((0 : Int) ≤ x1) → wp_X5_at_34 Φ  (-1 : Int) (0 : Int)))
theorem iX5_at_X5 : ∀ w ∈ wsX50, w ∈ wsX5_at := fun w h => List.mem_cons_of_mem _ (List.mem_append_right _ (h))
set_option maxHeartbeats 4000000 in
set_option maxRecDepth 100000 in
theorem c_X5_at (l : Launch) (D : va_G) (E : Nat → ClassId) (m0 m1 m2 m3 m4 m5 m6 m7 : Nat) (th : Int) (sm : Int) (le : Int) (tk : Int) (fr : Int) (ti : Int) (fa : Int) (ms : Nat → Int) (ma : Nat → Int) (mv : Nat → Int) (mt : Nat → Int) (mn : Nat → Int) (ml : Nat → Int) (mr : Nat → Int) (x1 : Int) {Φ : Int → Int → Prop} (hw : wp_X5_at x1 th ms Φ) : qRW (σ := (Int)) l D E qF0 yX5_at wsX5_at 1 21 [(m0, .inr (5, [.int (qI th), .ref m1, .ref m2, .ref m3, .int (qI sm), .ref m4, .int (qI le), .ref m5, .ref m6, .ref m7, .int (qI tk), .int (qI fr), .int (qI ti), .int (qI fa)])), (m1, qA (E 0) 635 ms), (m2, qA (E 0) 635 ma), (m3, qA (E 0) 3175 mv), (m4, qA (E 0) 140 mt), (m5, qA (E 0) 2 mn), (m6, qA (E 0) 64 ml), (m7, qA (E 0) 49152 mr)] [.ref m0, .int (qI x1)] qeI (fun u => [(m0, .inr (5, [.int (qI u), .ref m1, .ref m2, .ref m3, .int (qI sm), .ref m4, .int (qI le), .ref m5, .ref m6, .ref m7, .int (qI tk), .int (qI fr), .int (qI ti), .int (qI fa)])), (m1, qA (E 0) 635 ms), (m2, qA (E 0) 635 ma), (m3, qA (E 0) 3175 mv), (m4, qA (E 0) 140 mt), (m5, qA (E 0) 2 mn), (m6, qA (E 0) 64 ml), (m7, qA (E 0) 49152 mr)]) (fun r u => Φ r u) := by
  refine qRW_int (nL := 2) (own := RX5) qF0_ok (by decide) rfl rfl (Nat.le_of_ble_eq_true rfl) (fun X C hend => ?_)
  have hB34 : ∀ k0 : Int, ∀ th : Int, wp_X5_at_34 Φ  k0 th → qZ X 0 0 [(m0, .inr (5, [.int (qI th), .ref m1, .ref m2, .ref m3, .int (qI sm), .ref m4, .int (qI le), .ref m5, .ref m6, .ref m7, .int (qI tk), .int (qI fr), .int (qI ti), .int (qI fa)])), (m1, qA (E 0) 635 ms), (m2, qA (E 0) 635 ma), (m3, qA (E 0) 3175 mv), (m4, qA (E 0) 140 mt), (m5, qA (E 0) 2 mn), (m6, qA (E 0) 64 ml), (m7, qA (E 0) 49152 mr)] 34 [] [.int (qI k0)] := by
    intro k0 th hw
    unfold wp_X5_at_34 at hw
    exact hend 34 _ k0 th dX5_at_34 hw
  unfold wp_X5_at at hw
  show qZ X 0 0 [(m0, .inr (5, [.int (qI th), .ref m1, .ref m2, .ref m3, .int (qI sm), .ref m4, .int (qI le), .ref m5, .ref m6, .ref m7, .int (qI tk), .int (qI fr), .int (qI ti), .int (qI fa)])), (m1, qA (E 0) 635 ms), (m2, qA (E 0) 635 ma), (m3, qA (E 0) 3175 mv), (m4, qA (E 0) 140 mt), (m5, qA (E 0) 2 mn), (m6, qA (E 0) 64 ml), (m7, qA (E 0) 49152 mr)] 0 [(0, .ref m0), (1, .int (qI x1))] []
  refine z_aload_n C 0 rfl rfl dX5_at_0 ?_
  refine z_iconst C dX5_at_1 ?_
  refine z_put (ty := .int) (ws' := [(m0, .inr (5, [.int (qI (0 : Int)), .ref m1, .ref m2, .ref m3, .int (qI sm), .ref m4, .int (qI le), .ref m5, .ref m6, .ref m7, .int (qI tk), .int (qI fr), .int (qI ti), .int (qI fa)])), (m1, qA (E 0) 635 ms), (m2, qA (E 0) 635 ma), (m3, qA (E 0) 3175 mv), (m4, qA (E 0) 140 mt), (m5, qA (E 0) 2 mn), (m6, qA (E 0) 64 ml), (m7, qA (E 0) 49152 mr)]) C iX5_at_X5 tyX5 tyX5_ok nmX5 0 rfl rfl 0 (by decide) (List.mem_of_getElem? (i := 1) rfl) rfl rfl (by decide +kernel) rfl rfl (Nat.le_of_ble_eq_true rfl) rfl dX5_at_2 ?_
  refine z_iload_n C 1 rfl rfl dX5_at_5 ?_
  refine z_if_ge (tgt := 13) C hw.1 (by decide) dX5_at_6 (fun c1 => ?_) (fun c1 => ?_)
  · replace hw := hw.2.1 c1
    refine z_iload_n C 1 rfl rfl dX5_at_13 ?_
    refine z_aload_n C 0 rfl rfl dX5_at_14 ?_
    refine z_get C iX5_at_X5 0 rfl rfl 1 (by decide) (List.mem_of_getElem? (i := 2) rfl) rfl rfl dX5_at_15 ?_
    refine z_bipush C (by decide +kernel) dX5_at_18 ?_
    refine z_iald C 1 rfl (by decide) hw.1 dX5_at_20 ?_
    replace hw := hw.2
    refine z_name (fun v2 ev2 => ?_)
    replace hw := hw v2 ev2
    refine z_icmp_ge (tgt := 32) C hw.1 (by decide) dX5_at_21 (fun c3 => ?_) (fun c3 => ?_)
    · replace hw := hw.2.1 c3
      refine z_bipush C (by decide +kernel) dX5_at_32 ?_
      refine z_lst (ps := []) (lv' := []) (st' := [.int (qI (-9 : Int))]) rfl rfl ?_
      exact hB34 (-9 : Int) (0 : Int) hw
    · replace hw := hw.2.2 c3
      refine z_aload_n C 0 rfl rfl dX5_at_24 ?_
      refine z_iload_n C 1 rfl rfl dX5_at_25 ?_
      refine z_callV (n := 1) C (c_X5_spotAt l D E m0 m1 m2 m3 m4 m5 m6 m7 (0 : Int) sm le tk fr ti fa ms ma mv mt mn ml mr x1 hw) qF0_ok (fun _ _ _ => trivial) gX5_at_X5_spotAt rfl (by decide +kernel) ⟨(Nat.le_of_ble_eq_true rfl), (Nat.le_of_ble_eq_true rfl)⟩ rfl 0 rfl rfl [0, 1, 2, 3, 4, 5, 6, 7] rfl rfl (Nat.le_of_ble_eq_true rfl) dX5_at_26 (fun r4 hw => ?_)
      show qZ X 0 0 [(m0, .inr (5, [.int (qI (0 : Int)), .ref m1, .ref m2, .ref m3, .int (qI sm), .ref m4, .int (qI le), .ref m5, .ref m6, .ref m7, .int (qI tk), .int (qI fr), .int (qI ti), .int (qI fa)])), (m1, qA (E 0) 635 ms), (m2, qA (E 0) 635 ma), (m3, qA (E 0) 3175 mv), (m4, qA (E 0) 140 mt), (m5, qA (E 0) 2 mn), (m6, qA (E 0) 64 ml), (m7, qA (E 0) 49152 mr)] _ _ [.int (qI r4)]
      refine z_goto (tgt := 34) C (by decide) dX5_at_29 ?_
      refine z_lst (ps := []) (lv' := []) (st' := [.int (qI r4)]) rfl rfl ?_
      exact hB34 r4 (0 : Int) hw
  · replace hw := hw.2.2 c1
    refine z_iconst C dX5_at_9 ?_
    refine z_goto (tgt := 34) C (by decide) dX5_at_10 ?_
    refine z_lst (ps := []) (lv' := []) (st' := [.int (qI (-1 : Int))]) rfl rfl ?_
    exact hB34 (-1 : Int) (0 : Int) hw
def wp_X5_brightness_28 (Φ : Int → Int → (Nat → Int) → Prop)  (th : Int) (ml : Nat → Int) : Prop := Φ (-1 : Int) th ml
def wp_X5_brightness (x1 : Int) (x2 : Int) (th : Int) (ms : Nat → Int) (ml : Nat → Int) (Φ : Int → Int → (Nat → Int) → Prop) : Prop := wp_X5_isSpot x1 (fun (r1 : Int) => (qR r1 ∧ (r1 = (0 : Int) → wp_X5_brightness_28 Φ  (0 : Int) ml) ∧ (¬ (r1 = (0 : Int)) → ((0 ≤ (0 : Int) ∧ (0 : Int) < 635) ∧ (∀ v3 : Int, v3 = ms ((0 : Int)).toNat → wp_X5_in x2 (0 : Int) (v3 - (1 : Int)) (fun (r4 : Int) => (qR r4 ∧ (¬ r4 = (0 : Int) → wp_X5_beam ms ml (fun (g7 : Nat → Int) => wp_X5_brightnessAt x1 x2 ms g7 (fun (r8 : Int) => Φ r8 (0 : Int) g7))) ∧ (¬ (¬ r4 = (0 : Int)) → wp_X5_brightness_28 Φ  (0 : Int) ml))))))))
theorem iX5_brightness_X5 : ∀ w ∈ wsX50, w ∈ wsX5_brightness := fun w h => List.mem_cons_of_mem _ (List.mem_append_right _ (h))
set_option maxHeartbeats 4000000 in
set_option maxRecDepth 100000 in
theorem c_X5_brightness (l : Launch) (D : va_G) (E : Nat → ClassId) (m0 m1 m2 m3 m4 m5 m6 m7 : Nat) (th : Int) (sm : Int) (le : Int) (tk : Int) (fr : Int) (ti : Int) (fa : Int) (ms : Nat → Int) (ma : Nat → Int) (mv : Nat → Int) (mt : Nat → Int) (mn : Nat → Int) (ml : Nat → Int) (mr : Nat → Int) (x1 : Int) (x2 : Int) {Φ : Int → Int → (Nat → Int) → Prop} (hw : wp_X5_brightness x1 x2 th ms ml Φ) : qRW (σ := (Int) × (Nat → Int)) l D E qF0 yX5_brightness wsX5_brightness 3 67 [(m0, .inr (5, [.int (qI th), .ref m1, .ref m2, .ref m3, .int (qI sm), .ref m4, .int (qI le), .ref m5, .ref m6, .ref m7, .int (qI tk), .int (qI fr), .int (qI ti), .int (qI fa)])), (m1, qA (E 0) 635 ms), (m2, qA (E 0) 635 ma), (m3, qA (E 0) 3175 mv), (m4, qA (E 0) 140 mt), (m5, qA (E 0) 2 mn), (m6, qA (E 0) 64 ml), (m7, qA (E 0) 49152 mr)] [.ref m0, .int (qI x1), .int (qI x2)] qeI (fun u => [(m0, .inr (5, [.int (qI u.1), .ref m1, .ref m2, .ref m3, .int (qI sm), .ref m4, .int (qI le), .ref m5, .ref m6, .ref m7, .int (qI tk), .int (qI fr), .int (qI ti), .int (qI fa)])), (m1, qA (E 0) 635 ms), (m2, qA (E 0) 635 ma), (m3, qA (E 0) 3175 mv), (m4, qA (E 0) 140 mt), (m5, qA (E 0) 2 mn), (m6, qA (E 0) 64 u.2), (m7, qA (E 0) 49152 mr)]) (fun r u => Φ r u.1 u.2) := by
  refine qRW_int (nL := 3) (own := RX5) qF0_ok (by decide) rfl rfl (Nat.le_of_ble_eq_true rfl) (fun X C hend => ?_)
  have hB28 : ∀ th : Int, ∀ ml : Nat → Int, wp_X5_brightness_28 Φ  th ml → qZ X 0 0 [(m0, .inr (5, [.int (qI th), .ref m1, .ref m2, .ref m3, .int (qI sm), .ref m4, .int (qI le), .ref m5, .ref m6, .ref m7, .int (qI tk), .int (qI fr), .int (qI ti), .int (qI fa)])), (m1, qA (E 0) 635 ms), (m2, qA (E 0) 635 ma), (m3, qA (E 0) 3175 mv), (m4, qA (E 0) 140 mt), (m5, qA (E 0) 2 mn), (m6, qA (E 0) 64 ml), (m7, qA (E 0) 49152 mr)] 28 [] [] := by
    intro th ml hw
    unfold wp_X5_brightness_28 at hw
    refine z_iconst C dX5_brightness_28 ?_
    exact hend 29 _ (-1 : Int) (th, ml) dX5_brightness_29 hw
  unfold wp_X5_brightness at hw
  show qZ X 0 0 [(m0, .inr (5, [.int (qI th), .ref m1, .ref m2, .ref m3, .int (qI sm), .ref m4, .int (qI le), .ref m5, .ref m6, .ref m7, .int (qI tk), .int (qI fr), .int (qI ti), .int (qI fa)])), (m1, qA (E 0) 635 ms), (m2, qA (E 0) 635 ma), (m3, qA (E 0) 3175 mv), (m4, qA (E 0) 140 mt), (m5, qA (E 0) 2 mn), (m6, qA (E 0) 64 ml), (m7, qA (E 0) 49152 mr)] 0 [(0, .ref m0), (1, .int (qI x1)), (2, .int (qI x2))] []
  refine z_aload_n C 0 rfl rfl dX5_brightness_0 ?_
  refine z_iconst C dX5_brightness_1 ?_
  refine z_put (ty := .int) (ws' := [(m0, .inr (5, [.int (qI (0 : Int)), .ref m1, .ref m2, .ref m3, .int (qI sm), .ref m4, .int (qI le), .ref m5, .ref m6, .ref m7, .int (qI tk), .int (qI fr), .int (qI ti), .int (qI fa)])), (m1, qA (E 0) 635 ms), (m2, qA (E 0) 635 ma), (m3, qA (E 0) 3175 mv), (m4, qA (E 0) 140 mt), (m5, qA (E 0) 2 mn), (m6, qA (E 0) 64 ml), (m7, qA (E 0) 49152 mr)]) C iX5_brightness_X5 tyX5 tyX5_ok nmX5 0 rfl rfl 0 (by decide) (List.mem_of_getElem? (i := 1) rfl) rfl rfl (by decide +kernel) rfl rfl (Nat.le_of_ble_eq_true rfl) rfl dX5_brightness_2 ?_
  refine z_iload_n C 1 rfl rfl dX5_brightness_5 ?_
  refine z_callS (n := 1) C (c_X5_isSpot l D E   x1 hw) qF0_ok (fun _ _ _ => trivial) gX5_brightness_X5_isSpot rfl (by decide +kernel) ⟨(Nat.le_of_ble_eq_true rfl), (Nat.le_of_ble_eq_true rfl)⟩ rfl [] rfl rfl (Nat.le_of_ble_eq_true rfl) dX5_brightness_6 (fun r1 hw => ?_)
  show qZ X 0 0 [(m0, .inr (5, [.int (qI (0 : Int)), .ref m1, .ref m2, .ref m3, .int (qI sm), .ref m4, .int (qI le), .ref m5, .ref m6, .ref m7, .int (qI tk), .int (qI fr), .int (qI ti), .int (qI fa)])), (m1, qA (E 0) 635 ms), (m2, qA (E 0) 635 ma), (m3, qA (E 0) 3175 mv), (m4, qA (E 0) 140 mt), (m5, qA (E 0) 2 mn), (m6, qA (E 0) 64 ml), (m7, qA (E 0) 49152 mr)] _ _ [.int (qI r1)]
  refine z_if_eq (tgt := 28) C hw.1 (by decide) dX5_brightness_9 (fun c2 => ?_) (fun c2 => ?_)
  · replace hw := hw.2.1 c2
    refine z_lst (ps := []) (lv' := []) (st' := []) rfl rfl ?_
    exact hB28 (0 : Int) ml hw
  · replace hw := hw.2.2 c2
    refine z_iload_n C 2 rfl rfl dX5_brightness_12 ?_
    refine z_iconst C dX5_brightness_13 ?_
    refine z_aload_n C 0 rfl rfl dX5_brightness_14 ?_
    refine z_get C iX5_brightness_X5 0 rfl rfl 1 (by decide) (List.mem_of_getElem? (i := 2) rfl) rfl rfl dX5_brightness_15 ?_
    refine z_iconst C dX5_brightness_18 ?_
    refine z_iald C 1 rfl (by decide) hw.1 dX5_brightness_19 ?_
    replace hw := hw.2
    refine z_name (fun v3 ev3 => ?_)
    replace hw := hw v3 ev3
    refine z_iconst C dX5_brightness_20 ?_
    refine z_isub C dX5_brightness_21 ?_
    refine z_callS (n := 3) C (c_X5_in l D E   x2 (0 : Int) (v3 - (1 : Int)) hw) qF0_ok (fun _ _ _ => trivial) gX5_brightness_X5_in rfl (by decide +kernel) ⟨(Nat.le_of_ble_eq_true rfl), (Nat.le_of_ble_eq_true rfl)⟩ rfl [] rfl rfl (Nat.le_of_ble_eq_true rfl) dX5_brightness_22 (fun r4 hw => ?_)
    show qZ X 0 0 [(m0, .inr (5, [.int (qI (0 : Int)), .ref m1, .ref m2, .ref m3, .int (qI sm), .ref m4, .int (qI le), .ref m5, .ref m6, .ref m7, .int (qI tk), .int (qI fr), .int (qI ti), .int (qI fa)])), (m1, qA (E 0) 635 ms), (m2, qA (E 0) 635 ma), (m3, qA (E 0) 3175 mv), (m4, qA (E 0) 140 mt), (m5, qA (E 0) 2 mn), (m6, qA (E 0) 64 ml), (m7, qA (E 0) 49152 mr)] _ _ [.int (qI r4)]
    refine z_if_ne (tgt := 30) C hw.1 (by decide) dX5_brightness_25 (fun c5 => ?_) (fun c5 => ?_)
    · replace hw := hw.2.1 c5
      refine z_aload_n C 0 rfl rfl dX5_brightness_30 ?_
      refine z_callVW (n := 0) C (c_X5_beam l D E m0 m1 m2 m3 m4 m5 m6 m7 (0 : Int) sm le tk fr ti fa ms ma mv mt mn ml mr  hw) qF0_ok (fun _ _ _ => trivial) gX5_brightness_X5_beam rfl (by decide +kernel) ⟨(Nat.le_of_ble_eq_true rfl), (Nat.le_of_ble_eq_true rfl)⟩ rfl 0 rfl rfl [0, 1, 2, 3, 4, 5, 6, 7] [] (wr := []) rfl rfl rfl rfl (by decide) [0, 1, 2, 3, 4, 5, 6, 7] rfl (fun u9 => [(m0, .inr (5, [.int (qI (0 : Int)), .ref m1, .ref m2, .ref m3, .int (qI sm), .ref m4, .int (qI le), .ref m5, .ref m6, .ref m7, .int (qI tk), .int (qI fr), .int (qI ti), .int (qI fa)])), (m1, qA (E 0) 635 ms), (m2, qA (E 0) 635 ma), (m3, qA (E 0) 3175 mv), (m4, qA (E 0) 140 mt), (m5, qA (E 0) 2 mn), (m6, qA (E 0) 64 u9), (m7, qA (E 0) 49152 mr)]) (fun _ => rfl) rfl (Nat.le_of_ble_eq_true rfl) dX5_brightness_31 (fun r6 u9 hw => ?_)
      obtain ⟨g7, rfl⟩ : ∃ z, z = u9 := ⟨_, rfl⟩
      refine z_ws (ws' := [(m0, .inr (5, [.int (qI (0 : Int)), .ref m1, .ref m2, .ref m3, .int (qI sm), .ref m4, .int (qI le), .ref m5, .ref m6, .ref m7, .int (qI tk), .int (qI fr), .int (qI ti), .int (qI fa)])), (m1, qA (E 0) 635 ms), (m2, qA (E 0) 635 ma), (m3, qA (E 0) 3175 mv), (m4, qA (E 0) 140 mt), (m5, qA (E 0) 2 mn), (m6, qA (E 0) 64 g7), (m7, qA (E 0) 49152 mr)]) rfl ?_
      try dsimp only at hw
      show qZ X 0 0 [(m0, .inr (5, [.int (qI (0 : Int)), .ref m1, .ref m2, .ref m3, .int (qI sm), .ref m4, .int (qI le), .ref m5, .ref m6, .ref m7, .int (qI tk), .int (qI fr), .int (qI ti), .int (qI fa)])), (m1, qA (E 0) 635 ms), (m2, qA (E 0) 635 ma), (m3, qA (E 0) 3175 mv), (m4, qA (E 0) 140 mt), (m5, qA (E 0) 2 mn), (m6, qA (E 0) 64 g7), (m7, qA (E 0) 49152 mr)] _ _ []
      refine z_aload_n C 0 rfl rfl dX5_brightness_34 ?_
      refine z_iload_n C 1 rfl rfl dX5_brightness_35 ?_
      refine z_iload_n C 2 rfl rfl dX5_brightness_36 ?_
      refine z_callV (n := 2) C (c_X5_brightnessAt l D E m0 m1 m2 m3 m4 m5 m6 m7 (0 : Int) sm le tk fr ti fa ms ma mv mt mn g7 mr x1 x2 hw) qF0_ok (fun _ _ _ => trivial) gX5_brightness_X5_brightnessAt rfl (by decide +kernel) ⟨(Nat.le_of_ble_eq_true rfl), (Nat.le_of_ble_eq_true rfl)⟩ rfl 0 rfl rfl [0, 1, 2, 3, 4, 5, 6, 7] rfl rfl (Nat.le_of_ble_eq_true rfl) dX5_brightness_37 (fun r8 hw => ?_)
      show qZ X 0 0 [(m0, .inr (5, [.int (qI (0 : Int)), .ref m1, .ref m2, .ref m3, .int (qI sm), .ref m4, .int (qI le), .ref m5, .ref m6, .ref m7, .int (qI tk), .int (qI fr), .int (qI ti), .int (qI fa)])), (m1, qA (E 0) 635 ms), (m2, qA (E 0) 635 ma), (m3, qA (E 0) 3175 mv), (m4, qA (E 0) 140 mt), (m5, qA (E 0) 2 mn), (m6, qA (E 0) 64 g7), (m7, qA (E 0) 49152 mr)] _ _ [.int (qI r8)]
      exact hend 40 _ r8 ((0 : Int), g7) dX5_brightness_40 hw
    · replace hw := hw.2.2 c5
      refine z_lst (ps := []) (lv' := []) (st' := []) rfl rfl ?_
      exact hB28 (0 : Int) ml hw
def wp_X5_firstWrong_20 (Φ : Int → Int → (Nat → Int) → Prop)  (x1 : Int) (th : Int) (ms : Nat → Int) (ml : Nat → Int) : Nat → Int → Prop
  | 0, _ => False
  | n9 + 1, x2 => ((qR x2 ∧ qR (64 : Int)) ∧ ((64 : Int) ≤ x2 → Φ (-9 : Int) th ml) ∧ (¬ ((64 : Int) ≤ x2) → wp_X5_isWrong x2 x1 ms ml (fun (r2 : Int) => (qR r2 ∧ (r2 = (0 : Int) → (∀ v4 : Int, v4 = x2 + (1 : Int) → wp_X5_firstWrong_20 Φ  x1 th ms ml n9 v4)) ∧ (¬ (r2 = (0 : Int)) → Φ x2 th ml)))))
def wp_X5_firstWrong (x1 : Int) (th : Int) (ms : Nat → Int) (ml : Nat → Int) (Φ : Int → Int → (Nat → Int) → Prop) : Prop := wp_X5_isBit x1 (fun (r5 : Int) => (qR r5 ∧ (¬ r5 = (0 : Int) → wp_X5_beam ms ml (fun (g8 : Nat → Int) => ∃ n : Nat, wp_X5_firstWrong_20 Φ  x1 (0 : Int) ms g8 n (0 : Int))) ∧ (¬ (¬ r5 = (0 : Int)) → Φ (-1 : Int) (0 : Int) ml)))
theorem iX5_firstWrong_X5 : ∀ w ∈ wsX50, w ∈ wsX5_firstWrong := fun w h => List.mem_cons_of_mem _ (List.mem_append_right _ (h))
set_option maxHeartbeats 4000000 in
set_option maxRecDepth 100000 in
theorem c_X5_firstWrong (l : Launch) (D : va_G) (E : Nat → ClassId) (m0 m1 m2 m3 m4 m5 m6 m7 : Nat) (th : Int) (sm : Int) (le : Int) (tk : Int) (fr : Int) (ti : Int) (fa : Int) (ms : Nat → Int) (ma : Nat → Int) (mv : Nat → Int) (mt : Nat → Int) (mn : Nat → Int) (ml : Nat → Int) (mr : Nat → Int) (x1 : Int) {Φ : Int → Int → (Nat → Int) → Prop} (hw : wp_X5_firstWrong x1 th ms ml Φ) : qRW (σ := (Int) × (Nat → Int)) l D E qF0 yX5_firstWrong wsX5_firstWrong 7 158 [(m0, .inr (5, [.int (qI th), .ref m1, .ref m2, .ref m3, .int (qI sm), .ref m4, .int (qI le), .ref m5, .ref m6, .ref m7, .int (qI tk), .int (qI fr), .int (qI ti), .int (qI fa)])), (m1, qA (E 0) 635 ms), (m2, qA (E 0) 635 ma), (m3, qA (E 0) 3175 mv), (m4, qA (E 0) 140 mt), (m5, qA (E 0) 2 mn), (m6, qA (E 0) 64 ml), (m7, qA (E 0) 49152 mr)] [.ref m0, .int (qI x1)] qeI (fun u => [(m0, .inr (5, [.int (qI u.1), .ref m1, .ref m2, .ref m3, .int (qI sm), .ref m4, .int (qI le), .ref m5, .ref m6, .ref m7, .int (qI tk), .int (qI fr), .int (qI ti), .int (qI fa)])), (m1, qA (E 0) 635 ms), (m2, qA (E 0) 635 ma), (m3, qA (E 0) 3175 mv), (m4, qA (E 0) 140 mt), (m5, qA (E 0) 2 mn), (m6, qA (E 0) 64 u.2), (m7, qA (E 0) 49152 mr)]) (fun r u => Φ r u.1 u.2) := by
  refine qRW_int (nL := 3) (own := RX5) qF0_ok (by decide) rfl rfl (Nat.le_of_ble_eq_true rfl) (fun X C hend => ?_)
  have hB20 : ∀ x1 : Int, ∀ th : Int, ∀ ml : Nat → Int, ∀ n8 : Nat, ∀ x2 : Int, wp_X5_firstWrong_20 Φ  x1 th ms ml n8 x2 → qZ X 0 0 [(m0, .inr (5, [.int (qI th), .ref m1, .ref m2, .ref m3, .int (qI sm), .ref m4, .int (qI le), .ref m5, .ref m6, .ref m7, .int (qI tk), .int (qI fr), .int (qI ti), .int (qI fa)])), (m1, qA (E 0) 635 ms), (m2, qA (E 0) 635 ma), (m3, qA (E 0) 3175 mv), (m4, qA (E 0) 140 mt), (m5, qA (E 0) 2 mn), (m6, qA (E 0) 64 ml), (m7, qA (E 0) 49152 mr)] 20 [(0, .ref m0), (1, .int (qI x1)), (2, .int (qI x2))] [] := by
    intro x1 th ml n8
    induction n8 with
    | zero =>
      intro x2 hw
      exact hw.elim
    | succ n9 ih =>
      intro x2 hw
      unfold wp_X5_firstWrong_20 at hw
      refine z_iload_n C 2 rfl rfl dX5_firstWrong_20 ?_
      refine z_bipush C (by decide +kernel) dX5_firstWrong_21 ?_
      refine z_icmp_ge (tgt := 43) C hw.1 (by decide) dX5_firstWrong_23 (fun c1 => ?_) (fun c1 => ?_)
      · replace hw := hw.2.1 c1
        refine z_bipush C (by decide +kernel) dX5_firstWrong_43 ?_
        exact hend 45 _ (-9 : Int) (th, ml) dX5_firstWrong_45 hw
      · replace hw := hw.2.2 c1
        refine z_aload_n C 0 rfl rfl dX5_firstWrong_26 ?_
        refine z_iload_n C 2 rfl rfl dX5_firstWrong_27 ?_
        refine z_iload_n C 1 rfl rfl dX5_firstWrong_28 ?_
        refine z_callV (n := 2) C (c_X5_isWrong l D E m0 m1 m2 m3 m4 m5 m6 m7 th sm le tk fr ti fa ms ma mv mt mn ml mr x2 x1 hw) qF0_ok (fun _ _ _ => trivial) gX5_firstWrong_X5_isWrong rfl (by decide +kernel) ⟨(Nat.le_of_ble_eq_true rfl), (Nat.le_of_ble_eq_true rfl)⟩ rfl 0 rfl rfl [0, 1, 2, 3, 4, 5, 6, 7] rfl rfl (Nat.le_of_ble_eq_true rfl) dX5_firstWrong_29 (fun r2 hw => ?_)
        show qZ X 0 0 [(m0, .inr (5, [.int (qI th), .ref m1, .ref m2, .ref m3, .int (qI sm), .ref m4, .int (qI le), .ref m5, .ref m6, .ref m7, .int (qI tk), .int (qI fr), .int (qI ti), .int (qI fa)])), (m1, qA (E 0) 635 ms), (m2, qA (E 0) 635 ma), (m3, qA (E 0) 3175 mv), (m4, qA (E 0) 140 mt), (m5, qA (E 0) 2 mn), (m6, qA (E 0) 64 ml), (m7, qA (E 0) 49152 mr)] _ _ [.int (qI r2)]
        refine z_if_eq (tgt := 37) C hw.1 (by decide) dX5_firstWrong_32 (fun c3 => ?_) (fun c3 => ?_)
        · replace hw := hw.2.1 c3
          obtain ⟨v4, ev4⟩ : ∃ v4 : Int, v4 = x2 + (1 : Int) := ⟨_, rfl⟩
          replace hw := hw v4 ev4
          refine z_iinc C 2 rfl (by decide) v4 ev4 rfl dX5_firstWrong_37 ?_
          refine z_goto (tgt := 20) C (by decide) dX5_firstWrong_40 ?_
          refine z_lst (ps := [1, 2, 0]) (lv' := [(0, .ref m0), (1, .int (qI x1)), (2, .int (qI v4))]) (st' := []) rfl rfl ?_
          exact ih v4 hw
        · replace hw := hw.2.2 c3
          refine z_iload_n C 2 rfl rfl dX5_firstWrong_35 ?_
          exact hend 36 _ x2 (th, ml) dX5_firstWrong_36 hw
  unfold wp_X5_firstWrong at hw
  show qZ X 0 0 [(m0, .inr (5, [.int (qI th), .ref m1, .ref m2, .ref m3, .int (qI sm), .ref m4, .int (qI le), .ref m5, .ref m6, .ref m7, .int (qI tk), .int (qI fr), .int (qI ti), .int (qI fa)])), (m1, qA (E 0) 635 ms), (m2, qA (E 0) 635 ma), (m3, qA (E 0) 3175 mv), (m4, qA (E 0) 140 mt), (m5, qA (E 0) 2 mn), (m6, qA (E 0) 64 ml), (m7, qA (E 0) 49152 mr)] 0 [(0, .ref m0), (1, .int (qI x1))] []
  refine z_aload_n C 0 rfl rfl dX5_firstWrong_0 ?_
  refine z_iconst C dX5_firstWrong_1 ?_
  refine z_put (ty := .int) (ws' := [(m0, .inr (5, [.int (qI (0 : Int)), .ref m1, .ref m2, .ref m3, .int (qI sm), .ref m4, .int (qI le), .ref m5, .ref m6, .ref m7, .int (qI tk), .int (qI fr), .int (qI ti), .int (qI fa)])), (m1, qA (E 0) 635 ms), (m2, qA (E 0) 635 ma), (m3, qA (E 0) 3175 mv), (m4, qA (E 0) 140 mt), (m5, qA (E 0) 2 mn), (m6, qA (E 0) 64 ml), (m7, qA (E 0) 49152 mr)]) C iX5_firstWrong_X5 tyX5 tyX5_ok nmX5 0 rfl rfl 0 (by decide) (List.mem_of_getElem? (i := 1) rfl) rfl rfl (by decide +kernel) rfl rfl (Nat.le_of_ble_eq_true rfl) rfl dX5_firstWrong_2 ?_
  refine z_iload_n C 1 rfl rfl dX5_firstWrong_5 ?_
  refine z_callS (n := 1) C (c_X5_isBit l D E   x1 hw) qF0_ok (fun _ _ _ => trivial) gX5_firstWrong_X5_isBit rfl (by decide +kernel) ⟨(Nat.le_of_ble_eq_true rfl), (Nat.le_of_ble_eq_true rfl)⟩ rfl [] rfl rfl (Nat.le_of_ble_eq_true rfl) dX5_firstWrong_6 (fun r5 hw => ?_)
  show qZ X 0 0 [(m0, .inr (5, [.int (qI (0 : Int)), .ref m1, .ref m2, .ref m3, .int (qI sm), .ref m4, .int (qI le), .ref m5, .ref m6, .ref m7, .int (qI tk), .int (qI fr), .int (qI ti), .int (qI fa)])), (m1, qA (E 0) 635 ms), (m2, qA (E 0) 635 ma), (m3, qA (E 0) 3175 mv), (m4, qA (E 0) 140 mt), (m5, qA (E 0) 2 mn), (m6, qA (E 0) 64 ml), (m7, qA (E 0) 49152 mr)] _ _ [.int (qI r5)]
  refine z_if_ne (tgt := 14) C hw.1 (by decide) dX5_firstWrong_9 (fun c6 => ?_) (fun c6 => ?_)
  · replace hw := hw.2.1 c6
    refine z_aload_n C 0 rfl rfl dX5_firstWrong_14 ?_
    refine z_callVW (n := 0) C (c_X5_beam l D E m0 m1 m2 m3 m4 m5 m6 m7 (0 : Int) sm le tk fr ti fa ms ma mv mt mn ml mr  hw) qF0_ok (fun _ _ _ => trivial) gX5_firstWrong_X5_beam rfl (by decide +kernel) ⟨(Nat.le_of_ble_eq_true rfl), (Nat.le_of_ble_eq_true rfl)⟩ rfl 0 rfl rfl [0, 1, 2, 3, 4, 5, 6, 7] [] (wr := []) rfl rfl rfl rfl (by decide) [0, 1, 2, 3, 4, 5, 6, 7] rfl (fun u9 => [(m0, .inr (5, [.int (qI (0 : Int)), .ref m1, .ref m2, .ref m3, .int (qI sm), .ref m4, .int (qI le), .ref m5, .ref m6, .ref m7, .int (qI tk), .int (qI fr), .int (qI ti), .int (qI fa)])), (m1, qA (E 0) 635 ms), (m2, qA (E 0) 635 ma), (m3, qA (E 0) 3175 mv), (m4, qA (E 0) 140 mt), (m5, qA (E 0) 2 mn), (m6, qA (E 0) 64 u9), (m7, qA (E 0) 49152 mr)]) (fun _ => rfl) rfl (Nat.le_of_ble_eq_true rfl) dX5_firstWrong_15 (fun r7 u9 hw => ?_)
    obtain ⟨g8, rfl⟩ : ∃ z, z = u9 := ⟨_, rfl⟩
    refine z_ws (ws' := [(m0, .inr (5, [.int (qI (0 : Int)), .ref m1, .ref m2, .ref m3, .int (qI sm), .ref m4, .int (qI le), .ref m5, .ref m6, .ref m7, .int (qI tk), .int (qI fr), .int (qI ti), .int (qI fa)])), (m1, qA (E 0) 635 ms), (m2, qA (E 0) 635 ma), (m3, qA (E 0) 3175 mv), (m4, qA (E 0) 140 mt), (m5, qA (E 0) 2 mn), (m6, qA (E 0) 64 g8), (m7, qA (E 0) 49152 mr)]) rfl ?_
    try dsimp only at hw
    show qZ X 0 0 [(m0, .inr (5, [.int (qI (0 : Int)), .ref m1, .ref m2, .ref m3, .int (qI sm), .ref m4, .int (qI le), .ref m5, .ref m6, .ref m7, .int (qI tk), .int (qI fr), .int (qI ti), .int (qI fa)])), (m1, qA (E 0) 635 ms), (m2, qA (E 0) 635 ma), (m3, qA (E 0) 3175 mv), (m4, qA (E 0) 140 mt), (m5, qA (E 0) 2 mn), (m6, qA (E 0) 64 g8), (m7, qA (E 0) 49152 mr)] _ _ []
    refine z_iconst C dX5_firstWrong_18 ?_
    refine z_istore_n C rfl (by decide) rfl dX5_firstWrong_19 ?_
    refine z_lst (ps := [1, 2, 0]) (lv' := [(0, .ref m0), (1, .int (qI x1)), (2, .int (qI (0 : Int)))]) (st' := []) rfl rfl ?_
    obtain ⟨n8, hw⟩ := hw
    exact hB20 x1 (0 : Int) g8 n8 (0 : Int) hw
  · replace hw := hw.2.2 c6
    refine z_iconst C dX5_firstWrong_12 ?_
    exact hend 13 _ (-1 : Int) ((0 : Int), ml) dX5_firstWrong_13 hw
def wp_X5_bestStart_101 (Φ : Int → Int → (Nat → Int) → Prop)  (k0 : Int) (th : Int) (ml : Nat → Int) : Prop := Φ k0 th ml
def wp_X5_bestStart_85 (Φ : Int → Int → (Nat → Int) → Prop) (K35 : Int → Int → Int → Prop) (x1 : Int) (x2 : Int) (x4 : Int) (k0 : Int) (th : Int) (ms : Nat → Int) (ml : Nat → Int) : Prop := (∀ v1 : Int, v1 = x4 + (1 : Int) → K35 x2 k0 v1)
def wp_X5_bestStart_72 (Φ : Int → Int → (Nat → Int) → Prop) (K35 : Int → Int → Int → Prop) (x1 : Int) (x3 : Int) (x4 : Int) (x5 : Int) (k0 : Int) (th : Int) (ms : Nat → Int) (ml : Nat → Int) : Prop := ((qR x5 ∧ qR x3) ∧ (x3 ≤ x5 → wp_X5_bestStart_85 Φ K35 x1 k0 x4 x3 th ms ml) ∧ (¬ (x3 ≤ x5) → wp_X5_bestStart_85 Φ K35 x1 k0 x4 x5 th ms ml))
def wp_X5_bestStart_35 (Φ : Int → Int → (Nat → Int) → Prop)  (x1 : Int) (th : Int) (ms : Nat → Int) (ml : Nat → Int) : Nat → Int → Int → Int → Prop
  | 0, _, _, _ => False
  | n9 + 1, x2, x3, x4 => ((0 ≤ (0 : Int) ∧ (0 : Int) < 635) ∧ (∀ v3 : Int, v3 = ms ((0 : Int)).toNat → ((qR x4 ∧ qR v3) ∧ (v3 ≤ x4 → (qR x1 ∧ (¬ x1 = (0 : Int) → wp_X5_bestStart_101 Φ  x3 th ml) ∧ (¬ (¬ x1 = (0 : Int)) → wp_X5_bestStart_101 Φ  x2 th ml))) ∧ (¬ (v3 ≤ x4) → ((0 ≤ (4 : Int) ∧ (4 : Int) < 635) ∧ (∀ v6 : Int, v6 = ms ((4 : Int)).toNat → wp_X5_wrongFor x4 v6 ms ml (fun (r7 : Int) => ((qR r7 ∧ qR x3) ∧ (x3 ≤ r7 → wp_X5_bestStart_72 Φ (wp_X5_bestStart_35 Φ  x1 th ms ml n9) x1 x3 x4 r7 x2 th ms ml) ∧ (¬ (x3 ≤ r7) → wp_X5_bestStart_72 Φ (wp_X5_bestStart_35 Φ  x1 th ms ml n9) x1 x3 x4 r7 x4 th ms ml)))))))))
def wp_X5_bestStart (x1 : Int) (th : Int) (ms : Nat → Int) (ml : Nat → Int) (Φ : Int → Int → (Nat → Int) → Prop) : Prop := wp_X5_isBit x1 (fun (r9 : Int) => (qR r9 ∧ (¬ r9 = (0 : Int) → wp_X5_beam ms ml (fun (g12 : Nat → Int) => ((0 ≤ (4 : Int) ∧ (4 : Int) < 635) ∧ (∀ v13 : Int, v13 = ms ((4 : Int)).toNat → wp_X5_wrongFor (0 : Int) v13 ms g12 (fun (r14 : Int) => ∃ n : Nat, wp_X5_bestStart_35 Φ  x1 (0 : Int) ms g12 n (0 : Int) r14 (1 : Int)))))) ∧ (¬ (¬ r9 = (0 : Int)) → Φ (-1 : Int) (0 : Int) ml)))
theorem iX5_bestStart_X5 : ∀ w ∈ wsX50, w ∈ wsX5_bestStart := fun w h => List.mem_cons_of_mem _ (List.mem_append_right _ (h))
set_option maxHeartbeats 4000000 in
set_option maxRecDepth 100000 in
theorem c_X5_bestStart (l : Launch) (D : va_G) (E : Nat → ClassId) (m0 m1 m2 m3 m4 m5 m6 m7 : Nat) (th : Int) (sm : Int) (le : Int) (tk : Int) (fr : Int) (ti : Int) (fa : Int) (ms : Nat → Int) (ma : Nat → Int) (mv : Nat → Int) (mt : Nat → Int) (mn : Nat → Int) (ml : Nat → Int) (mr : Nat → Int) (x1 : Int) {Φ : Int → Int → (Nat → Int) → Prop} (hw : wp_X5_bestStart x1 th ms ml Φ) : qRW (σ := (Int) × (Nat → Int)) l D E qF0 yX5_bestStart wsX5_bestStart 6 139 [(m0, .inr (5, [.int (qI th), .ref m1, .ref m2, .ref m3, .int (qI sm), .ref m4, .int (qI le), .ref m5, .ref m6, .ref m7, .int (qI tk), .int (qI fr), .int (qI ti), .int (qI fa)])), (m1, qA (E 0) 635 ms), (m2, qA (E 0) 635 ma), (m3, qA (E 0) 3175 mv), (m4, qA (E 0) 140 mt), (m5, qA (E 0) 2 mn), (m6, qA (E 0) 64 ml), (m7, qA (E 0) 49152 mr)] [.ref m0, .int (qI x1)] qeI (fun u => [(m0, .inr (5, [.int (qI u.1), .ref m1, .ref m2, .ref m3, .int (qI sm), .ref m4, .int (qI le), .ref m5, .ref m6, .ref m7, .int (qI tk), .int (qI fr), .int (qI ti), .int (qI fa)])), (m1, qA (E 0) 635 ms), (m2, qA (E 0) 635 ma), (m3, qA (E 0) 3175 mv), (m4, qA (E 0) 140 mt), (m5, qA (E 0) 2 mn), (m6, qA (E 0) 64 u.2), (m7, qA (E 0) 49152 mr)]) (fun r u => Φ r u.1 u.2) := by
  refine qRW_int (nL := 6) (own := RX5) qF0_ok (by decide) rfl rfl (Nat.le_of_ble_eq_true rfl) (fun X C hend => ?_)
  have hB101 : ∀ k0 : Int, ∀ th : Int, ∀ ml : Nat → Int, wp_X5_bestStart_101 Φ  k0 th ml → qZ X 0 0 [(m0, .inr (5, [.int (qI th), .ref m1, .ref m2, .ref m3, .int (qI sm), .ref m4, .int (qI le), .ref m5, .ref m6, .ref m7, .int (qI tk), .int (qI fr), .int (qI ti), .int (qI fa)])), (m1, qA (E 0) 635 ms), (m2, qA (E 0) 635 ma), (m3, qA (E 0) 3175 mv), (m4, qA (E 0) 140 mt), (m5, qA (E 0) 2 mn), (m6, qA (E 0) 64 ml), (m7, qA (E 0) 49152 mr)] 101 [] [.int (qI k0)] := by
    intro k0 th ml hw
    unfold wp_X5_bestStart_101 at hw
    exact hend 101 _ k0 (th, ml) dX5_bestStart_101 hw
  have hB85 : ∀ x1 : Int, ∀ th : Int, ∀ ml : Nat → Int, ∀ K35 : Int → Int → Int → Prop, (∀ (x2 : Int) (x3 : Int) (x4 : Int), K35 x2 x3 x4 → qZ X 0 0 [(m0, .inr (5, [.int (qI th), .ref m1, .ref m2, .ref m3, .int (qI sm), .ref m4, .int (qI le), .ref m5, .ref m6, .ref m7, .int (qI tk), .int (qI fr), .int (qI ti), .int (qI fa)])), (m1, qA (E 0) 635 ms), (m2, qA (E 0) 635 ma), (m3, qA (E 0) 3175 mv), (m4, qA (E 0) 140 mt), (m5, qA (E 0) 2 mn), (m6, qA (E 0) 64 ml), (m7, qA (E 0) 49152 mr)] 35 [(0, .ref m0), (1, .int (qI x1)), (2, .int (qI x2)), (3, .int (qI x3)), (4, .int (qI x4))] []) → ∀ x2 : Int, ∀ x4 : Int, ∀ k0 : Int, wp_X5_bestStart_85 Φ K35 x1 x2 x4 k0 th ms ml → qZ X 0 0 [(m0, .inr (5, [.int (qI th), .ref m1, .ref m2, .ref m3, .int (qI sm), .ref m4, .int (qI le), .ref m5, .ref m6, .ref m7, .int (qI tk), .int (qI fr), .int (qI ti), .int (qI fa)])), (m1, qA (E 0) 635 ms), (m2, qA (E 0) 635 ma), (m3, qA (E 0) 3175 mv), (m4, qA (E 0) 140 mt), (m5, qA (E 0) 2 mn), (m6, qA (E 0) 64 ml), (m7, qA (E 0) 49152 mr)] 85 [(0, .ref m0), (1, .int (qI x1)), (2, .int (qI x2)), (4, .int (qI x4))] [.int (qI k0)] := by
    intro x1 th ml K35 hK35 x2 x4 k0 hw
    unfold wp_X5_bestStart_85 at hw
    refine z_istore_n C rfl (by decide) rfl dX5_bestStart_85 ?_
    obtain ⟨v1, ev1⟩ : ∃ v1 : Int, v1 = x4 + (1 : Int) := ⟨_, rfl⟩
    replace hw := hw v1 ev1
    refine z_iinc C 4 rfl (by decide) v1 ev1 rfl dX5_bestStart_86 ?_
    refine z_goto (tgt := 35) C (by decide) dX5_bestStart_89 ?_
    refine z_lst (ps := [2, 3, 4, 1, 0]) (lv' := [(0, .ref m0), (1, .int (qI x1)), (2, .int (qI x2)), (3, .int (qI k0)), (4, .int (qI v1))]) (st' := []) rfl rfl ?_
    exact hK35 x2 k0 v1 hw
  have hB72 : ∀ x1 : Int, ∀ th : Int, ∀ ml : Nat → Int, ∀ K35 : Int → Int → Int → Prop, (∀ (x2 : Int) (x3 : Int) (x4 : Int), K35 x2 x3 x4 → qZ X 0 0 [(m0, .inr (5, [.int (qI th), .ref m1, .ref m2, .ref m3, .int (qI sm), .ref m4, .int (qI le), .ref m5, .ref m6, .ref m7, .int (qI tk), .int (qI fr), .int (qI ti), .int (qI fa)])), (m1, qA (E 0) 635 ms), (m2, qA (E 0) 635 ma), (m3, qA (E 0) 3175 mv), (m4, qA (E 0) 140 mt), (m5, qA (E 0) 2 mn), (m6, qA (E 0) 64 ml), (m7, qA (E 0) 49152 mr)] 35 [(0, .ref m0), (1, .int (qI x1)), (2, .int (qI x2)), (3, .int (qI x3)), (4, .int (qI x4))] []) → ∀ x3 : Int, ∀ x4 : Int, ∀ x5 : Int, ∀ k0 : Int, wp_X5_bestStart_72 Φ K35 x1 x3 x4 x5 k0 th ms ml → qZ X 0 0 [(m0, .inr (5, [.int (qI th), .ref m1, .ref m2, .ref m3, .int (qI sm), .ref m4, .int (qI le), .ref m5, .ref m6, .ref m7, .int (qI tk), .int (qI fr), .int (qI ti), .int (qI fa)])), (m1, qA (E 0) 635 ms), (m2, qA (E 0) 635 ma), (m3, qA (E 0) 3175 mv), (m4, qA (E 0) 140 mt), (m5, qA (E 0) 2 mn), (m6, qA (E 0) 64 ml), (m7, qA (E 0) 49152 mr)] 72 [(0, .ref m0), (1, .int (qI x1)), (3, .int (qI x3)), (4, .int (qI x4)), (5, .int (qI x5))] [.int (qI k0)] := by
    intro x1 th ml K35 hK35 x3 x4 x5 k0 hw
    unfold wp_X5_bestStart_72 at hw
    refine z_istore_n C rfl (by decide) rfl dX5_bestStart_72 ?_
    refine z_iload C 5 rfl dX5_bestStart_73 ?_
    refine z_iload_n C 3 rfl rfl dX5_bestStart_75 ?_
    refine z_icmp_ge (tgt := 84) C hw.1 (by decide) dX5_bestStart_76 (fun c2 => ?_) (fun c2 => ?_)
    · replace hw := hw.2.1 c2
      refine z_iload_n C 3 rfl rfl dX5_bestStart_84 ?_
      refine z_lst (ps := [1, 2, 0, 4]) (lv' := [(0, .ref m0), (1, .int (qI x1)), (2, .int (qI k0)), (4, .int (qI x4))]) (st' := [.int (qI x3)]) rfl rfl ?_
      exact hB85 x1 th ml _ hK35 k0 x4 x3 hw
    · replace hw := hw.2.2 c2
      refine z_iload C 5 rfl dX5_bestStart_79 ?_
      refine z_goto (tgt := 85) C (by decide) dX5_bestStart_81 ?_
      refine z_lst (ps := [1, 2, 0, 4]) (lv' := [(0, .ref m0), (1, .int (qI x1)), (2, .int (qI k0)), (4, .int (qI x4))]) (st' := [.int (qI x5)]) rfl rfl ?_
      exact hB85 x1 th ml _ hK35 k0 x4 x5 hw
  have hB35 : ∀ x1 : Int, ∀ th : Int, ∀ ml : Nat → Int, ∀ n8 : Nat, ∀ x2 : Int, ∀ x3 : Int, ∀ x4 : Int, wp_X5_bestStart_35 Φ  x1 th ms ml n8 x2 x3 x4 → qZ X 0 0 [(m0, .inr (5, [.int (qI th), .ref m1, .ref m2, .ref m3, .int (qI sm), .ref m4, .int (qI le), .ref m5, .ref m6, .ref m7, .int (qI tk), .int (qI fr), .int (qI ti), .int (qI fa)])), (m1, qA (E 0) 635 ms), (m2, qA (E 0) 635 ma), (m3, qA (E 0) 3175 mv), (m4, qA (E 0) 140 mt), (m5, qA (E 0) 2 mn), (m6, qA (E 0) 64 ml), (m7, qA (E 0) 49152 mr)] 35 [(0, .ref m0), (1, .int (qI x1)), (2, .int (qI x2)), (3, .int (qI x3)), (4, .int (qI x4))] [] := by
    intro x1 th ml n8
    induction n8 with
    | zero =>
      intro x2 x3 x4 hw
      exact hw.elim
    | succ n9 ih =>
      intro x2 x3 x4 hw
      unfold wp_X5_bestStart_35 at hw
      refine z_iload C 4 rfl dX5_bestStart_35 ?_
      refine z_aload_n C 0 rfl rfl dX5_bestStart_37 ?_
      refine z_get C iX5_bestStart_X5 0 rfl rfl 1 (by decide) (List.mem_of_getElem? (i := 2) rfl) rfl rfl dX5_bestStart_38 ?_
      refine z_iconst C dX5_bestStart_41 ?_
      refine z_iald C 1 rfl (by decide) hw.1 dX5_bestStart_42 ?_
      replace hw := hw.2
      refine z_name (fun v3 ev3 => ?_)
      replace hw := hw v3 ev3
      refine z_icmp_ge (tgt := 92) C hw.1 (by decide) dX5_bestStart_43 (fun c4 => ?_) (fun c4 => ?_)
      · replace hw := hw.2.1 c4
        refine z_iload_n C 1 rfl rfl dX5_bestStart_92 ?_
        refine z_if_ne (tgt := 100) C hw.1 (by decide) dX5_bestStart_93 (fun c5 => ?_) (fun c5 => ?_)
        · replace hw := hw.2.1 c5
          refine z_iload_n C 3 rfl rfl dX5_bestStart_100 ?_
          refine z_lst (ps := []) (lv' := []) (st' := [.int (qI x3)]) rfl rfl ?_
          exact hB101 x3 th ml hw
        · replace hw := hw.2.2 c5
          refine z_iload_n C 2 rfl rfl dX5_bestStart_96 ?_
          refine z_goto (tgt := 101) C (by decide) dX5_bestStart_97 ?_
          refine z_lst (ps := []) (lv' := []) (st' := [.int (qI x2)]) rfl rfl ?_
          exact hB101 x2 th ml hw
      · replace hw := hw.2.2 c4
        refine z_aload_n C 0 rfl rfl dX5_bestStart_46 ?_
        refine z_iload C 4 rfl dX5_bestStart_47 ?_
        refine z_aload_n C 0 rfl rfl dX5_bestStart_49 ?_
        refine z_get C iX5_bestStart_X5 0 rfl rfl 1 (by decide) (List.mem_of_getElem? (i := 2) rfl) rfl rfl dX5_bestStart_50 ?_
        refine z_iconst C dX5_bestStart_53 ?_
        refine z_iald C 1 rfl (by decide) hw.1 dX5_bestStart_54 ?_
        replace hw := hw.2
        refine z_name (fun v6 ev6 => ?_)
        replace hw := hw v6 ev6
        refine z_callV (n := 2) C (c_X5_wrongFor l D E m0 m1 m2 m3 m4 m5 m6 m7 th sm le tk fr ti fa ms ma mv mt mn ml mr x4 v6 hw) qF0_ok (fun _ _ _ => trivial) gX5_bestStart_X5_wrongFor rfl (by decide +kernel) ⟨(Nat.le_of_ble_eq_true rfl), (Nat.le_of_ble_eq_true rfl)⟩ rfl 0 rfl rfl [0, 1, 2, 3, 4, 5, 6, 7] rfl rfl (Nat.le_of_ble_eq_true rfl) dX5_bestStart_55 (fun r7 hw => ?_)
        show qZ X 0 0 [(m0, .inr (5, [.int (qI th), .ref m1, .ref m2, .ref m3, .int (qI sm), .ref m4, .int (qI le), .ref m5, .ref m6, .ref m7, .int (qI tk), .int (qI fr), .int (qI ti), .int (qI fa)])), (m1, qA (E 0) 635 ms), (m2, qA (E 0) 635 ma), (m3, qA (E 0) 3175 mv), (m4, qA (E 0) 140 mt), (m5, qA (E 0) 2 mn), (m6, qA (E 0) 64 ml), (m7, qA (E 0) 49152 mr)] _ _ [.int (qI r7)]
        refine z_istore C (by decide) rfl dX5_bestStart_58 ?_
        refine z_iload C 0 rfl dX5_bestStart_60 ?_
        refine z_iload_n C 4 rfl rfl dX5_bestStart_62 ?_
        refine z_icmp_ge (tgt := 71) C hw.1 (by decide) dX5_bestStart_63 (fun c8 => ?_) (fun c8 => ?_)
        · replace hw := hw.2.1 c8
          refine z_iload_n C 3 rfl rfl dX5_bestStart_71 ?_
          refine z_lst (ps := [1, 2, 4, 5, 0]) (lv' := [(0, .ref m0), (1, .int (qI x1)), (3, .int (qI x3)), (4, .int (qI x4)), (5, .int (qI r7))]) (st' := [.int (qI x2)]) rfl rfl ?_
          exact hB72 x1 th ml _ ih x3 x4 r7 x2 hw
        · replace hw := hw.2.2 c8
          refine z_iload C 5 rfl dX5_bestStart_66 ?_
          refine z_goto (tgt := 72) C (by decide) dX5_bestStart_68 ?_
          refine z_lst (ps := [1, 2, 4, 5, 0]) (lv' := [(0, .ref m0), (1, .int (qI x1)), (3, .int (qI x3)), (4, .int (qI x4)), (5, .int (qI r7))]) (st' := [.int (qI x4)]) rfl rfl ?_
          exact hB72 x1 th ml _ ih x3 x4 r7 x4 hw
  unfold wp_X5_bestStart at hw
  show qZ X 0 0 [(m0, .inr (5, [.int (qI th), .ref m1, .ref m2, .ref m3, .int (qI sm), .ref m4, .int (qI le), .ref m5, .ref m6, .ref m7, .int (qI tk), .int (qI fr), .int (qI ti), .int (qI fa)])), (m1, qA (E 0) 635 ms), (m2, qA (E 0) 635 ma), (m3, qA (E 0) 3175 mv), (m4, qA (E 0) 140 mt), (m5, qA (E 0) 2 mn), (m6, qA (E 0) 64 ml), (m7, qA (E 0) 49152 mr)] 0 [(0, .ref m0), (1, .int (qI x1))] []
  refine z_aload_n C 0 rfl rfl dX5_bestStart_0 ?_
  refine z_iconst C dX5_bestStart_1 ?_
  refine z_put (ty := .int) (ws' := [(m0, .inr (5, [.int (qI (0 : Int)), .ref m1, .ref m2, .ref m3, .int (qI sm), .ref m4, .int (qI le), .ref m5, .ref m6, .ref m7, .int (qI tk), .int (qI fr), .int (qI ti), .int (qI fa)])), (m1, qA (E 0) 635 ms), (m2, qA (E 0) 635 ma), (m3, qA (E 0) 3175 mv), (m4, qA (E 0) 140 mt), (m5, qA (E 0) 2 mn), (m6, qA (E 0) 64 ml), (m7, qA (E 0) 49152 mr)]) C iX5_bestStart_X5 tyX5 tyX5_ok nmX5 0 rfl rfl 0 (by decide) (List.mem_of_getElem? (i := 1) rfl) rfl rfl (by decide +kernel) rfl rfl (Nat.le_of_ble_eq_true rfl) rfl dX5_bestStart_2 ?_
  refine z_iload_n C 1 rfl rfl dX5_bestStart_5 ?_
  refine z_callS (n := 1) C (c_X5_isBit l D E   x1 hw) qF0_ok (fun _ _ _ => trivial) gX5_bestStart_X5_isBit rfl (by decide +kernel) ⟨(Nat.le_of_ble_eq_true rfl), (Nat.le_of_ble_eq_true rfl)⟩ rfl [] rfl rfl (Nat.le_of_ble_eq_true rfl) dX5_bestStart_6 (fun r9 hw => ?_)
  show qZ X 0 0 [(m0, .inr (5, [.int (qI (0 : Int)), .ref m1, .ref m2, .ref m3, .int (qI sm), .ref m4, .int (qI le), .ref m5, .ref m6, .ref m7, .int (qI tk), .int (qI fr), .int (qI ti), .int (qI fa)])), (m1, qA (E 0) 635 ms), (m2, qA (E 0) 635 ma), (m3, qA (E 0) 3175 mv), (m4, qA (E 0) 140 mt), (m5, qA (E 0) 2 mn), (m6, qA (E 0) 64 ml), (m7, qA (E 0) 49152 mr)] _ _ [.int (qI r9)]
  refine z_if_ne (tgt := 14) C hw.1 (by decide) dX5_bestStart_9 (fun c10 => ?_) (fun c10 => ?_)
  · replace hw := hw.2.1 c10
    refine z_aload_n C 0 rfl rfl dX5_bestStart_14 ?_
    refine z_callVW (n := 0) C (c_X5_beam l D E m0 m1 m2 m3 m4 m5 m6 m7 (0 : Int) sm le tk fr ti fa ms ma mv mt mn ml mr  hw) qF0_ok (fun _ _ _ => trivial) gX5_bestStart_X5_beam rfl (by decide +kernel) ⟨(Nat.le_of_ble_eq_true rfl), (Nat.le_of_ble_eq_true rfl)⟩ rfl 0 rfl rfl [0, 1, 2, 3, 4, 5, 6, 7] [] (wr := []) rfl rfl rfl rfl (by decide) [0, 1, 2, 3, 4, 5, 6, 7] rfl (fun u9 => [(m0, .inr (5, [.int (qI (0 : Int)), .ref m1, .ref m2, .ref m3, .int (qI sm), .ref m4, .int (qI le), .ref m5, .ref m6, .ref m7, .int (qI tk), .int (qI fr), .int (qI ti), .int (qI fa)])), (m1, qA (E 0) 635 ms), (m2, qA (E 0) 635 ma), (m3, qA (E 0) 3175 mv), (m4, qA (E 0) 140 mt), (m5, qA (E 0) 2 mn), (m6, qA (E 0) 64 u9), (m7, qA (E 0) 49152 mr)]) (fun _ => rfl) rfl (Nat.le_of_ble_eq_true rfl) dX5_bestStart_15 (fun r11 u9 hw => ?_)
    obtain ⟨g12, rfl⟩ : ∃ z, z = u9 := ⟨_, rfl⟩
    refine z_ws (ws' := [(m0, .inr (5, [.int (qI (0 : Int)), .ref m1, .ref m2, .ref m3, .int (qI sm), .ref m4, .int (qI le), .ref m5, .ref m6, .ref m7, .int (qI tk), .int (qI fr), .int (qI ti), .int (qI fa)])), (m1, qA (E 0) 635 ms), (m2, qA (E 0) 635 ma), (m3, qA (E 0) 3175 mv), (m4, qA (E 0) 140 mt), (m5, qA (E 0) 2 mn), (m6, qA (E 0) 64 g12), (m7, qA (E 0) 49152 mr)]) rfl ?_
    try dsimp only at hw
    show qZ X 0 0 [(m0, .inr (5, [.int (qI (0 : Int)), .ref m1, .ref m2, .ref m3, .int (qI sm), .ref m4, .int (qI le), .ref m5, .ref m6, .ref m7, .int (qI tk), .int (qI fr), .int (qI ti), .int (qI fa)])), (m1, qA (E 0) 635 ms), (m2, qA (E 0) 635 ma), (m3, qA (E 0) 3175 mv), (m4, qA (E 0) 140 mt), (m5, qA (E 0) 2 mn), (m6, qA (E 0) 64 g12), (m7, qA (E 0) 49152 mr)] _ _ []
    refine z_iconst C dX5_bestStart_18 ?_
    refine z_istore_n C rfl (by decide) rfl dX5_bestStart_19 ?_
    refine z_aload_n C 1 rfl rfl dX5_bestStart_20 ?_
    refine z_iconst C dX5_bestStart_21 ?_
    refine z_aload_n C 1 rfl rfl dX5_bestStart_22 ?_
    refine z_get C iX5_bestStart_X5 0 rfl rfl 1 (by decide) (List.mem_of_getElem? (i := 2) rfl) rfl rfl dX5_bestStart_23 ?_
    refine z_iconst C dX5_bestStart_26 ?_
    refine z_iald C 1 rfl (by decide) hw.1 dX5_bestStart_27 ?_
    replace hw := hw.2
    refine z_name (fun v13 ev13 => ?_)
    replace hw := hw v13 ev13
    refine z_callV (n := 2) C (c_X5_wrongFor l D E m0 m1 m2 m3 m4 m5 m6 m7 (0 : Int) sm le tk fr ti fa ms ma mv mt mn g12 mr (0 : Int) v13 hw) qF0_ok (fun _ _ _ => trivial) gX5_bestStart_X5_wrongFor rfl (by decide +kernel) ⟨(Nat.le_of_ble_eq_true rfl), (Nat.le_of_ble_eq_true rfl)⟩ rfl 0 rfl rfl [0, 1, 2, 3, 4, 5, 6, 7] rfl rfl (Nat.le_of_ble_eq_true rfl) dX5_bestStart_28 (fun r14 hw => ?_)
    show qZ X 0 0 [(m0, .inr (5, [.int (qI (0 : Int)), .ref m1, .ref m2, .ref m3, .int (qI sm), .ref m4, .int (qI le), .ref m5, .ref m6, .ref m7, .int (qI tk), .int (qI fr), .int (qI ti), .int (qI fa)])), (m1, qA (E 0) 635 ms), (m2, qA (E 0) 635 ma), (m3, qA (E 0) 3175 mv), (m4, qA (E 0) 140 mt), (m5, qA (E 0) 2 mn), (m6, qA (E 0) 64 g12), (m7, qA (E 0) 49152 mr)] _ _ [.int (qI r14)]
    refine z_istore_n C rfl (by decide) rfl dX5_bestStart_31 ?_
    refine z_iconst C dX5_bestStart_32 ?_
    refine z_istore C (by decide) rfl dX5_bestStart_33 ?_
    refine z_lst (ps := [3, 4, 2, 1, 0]) (lv' := [(0, .ref m0), (1, .int (qI x1)), (2, .int (qI (0 : Int))), (3, .int (qI r14)), (4, .int (qI (1 : Int)))]) (st' := []) rfl rfl ?_
    obtain ⟨n8, hw⟩ := hw
    exact hB35 x1 (0 : Int) g12 n8 (0 : Int) r14 (1 : Int) hw
  · replace hw := hw.2.2 c10
    refine z_iconst C dX5_bestStart_12 ?_
    exact hend 13 _ (-1 : Int) ((0 : Int), ml) dX5_bestStart_13 hw
def wp_X5_reckonWays_124 (Φ : (Nat → Int) → Prop) (K14 : Int → (Nat → Int) → Prop) (K20 : Int → (Nat → Int) → Prop) (K49 : Int → Int → Prop) (x1 : Int) (x2 : Int) (x3 : Int) (x5 : Int) (k0 : Int) (ms : Nat → Int) (mr : Nat → Int) : Prop := (∀ v1 : Int, v1 = x5 + (1 : Int) → K49 k0 v1)
def wp_X5_reckonWays_108 (Φ : (Nat → Int) → Prop) (K14 : Int → (Nat → Int) → Prop) (K20 : Int → (Nat → Int) → Prop) (K49 : Int → Int → Prop) (x1 : Int) (x2 : Int) (x3 : Int) (x4 : Int) (x5 : Int) (k0 : Int) (ms : Nat → Int) (mr : Nat → Int) : Prop := ((qR k0 ∧ qR x4) ∧ (x4 ≤ k0 → wp_X5_reckonWays_124 Φ K14 K20 K49 x1 x2 x3 x5 x4 ms mr) ∧ (¬ (x4 ≤ k0) → wp_X5_reckonWays_124 Φ K14 K20 K49 x1 x2 x3 x5 k0 ms mr))
def wp_X5_reckonWays_49 (Φ : (Nat → Int) → Prop) (K14 : Int → (Nat → Int) → Prop) (K20 : Int → (Nat → Int) → Prop) (x1 : Int) (x2 : Int) (x3 : Int) (ms : Nat → Int) (mr : Nat → Int) : Nat → Int → Int → Prop
  | 0, _, _ => False
  | n9 + 1, x4, x5 => ((0 ≤ (6 : Int) ∧ (6 : Int) < 635) ∧ (∀ v3 : Int, v3 = ms ((6 : Int)).toNat → ((qR x5 ∧ qR v3) ∧ (v3 ≤ x5 → ((0 ≤ (((12 : Int) * x2) + x3) ∧ (((12 : Int) * x2) + x3) < 49152) ∧ ∀ g5 : Nat → Int, g5 = qU mr ((((12 : Int) * x2) + x3)).toNat x4 → (∀ v6 : Int, v6 = x3 + (1 : Int) → K20 v6 g5))) ∧ (¬ (v3 ≤ x5) → (∀ v7 : Int, v7 = qshr x2 x5 → (∀ v8 : Int, v8 = qand v7 (1 : Int) → ((qR v8 ∧ qR (1 : Int)) ∧ (¬ v8 = (1 : Int) → wp_X5_spotAt x3 ms (fun (r10 : Int) => wp_X5_spotAt x5 ms (fun (r11 : Int) => wp_X5_way r10 r11 (fun (r12 : Int) => (∀ v13 : Int, v13 = qshl (1 : Int) x5 → (∀ v14 : Int, v14 = qor x2 v13 → ((0 ≤ (((12 : Int) * v14) + x5) ∧ (((12 : Int) * v14) + x5) < 49152) ∧ (∀ v15 : Int, v15 = mr ((((12 : Int) * v14) + x5)).toNat → wp_X5_reckonWays_108 Φ K14 K20 (wp_X5_reckonWays_49 Φ K14 K20 x1 x2 x3 ms mr n9) x1 x2 x3 x4 x5 (r12 + v15) ms mr)))))))) ∧ (¬ (¬ v8 = (1 : Int)) → wp_X5_reckonWays_108 Φ K14 K20 (wp_X5_reckonWays_49 Φ K14 K20 x1 x2 x3 ms mr n9) x1 x2 x3 x4 x5 (100000 : Int) ms mr))))))))
def wp_X5_reckonWays_44 (Φ : (Nat → Int) → Prop) (K14 : Int → (Nat → Int) → Prop) (K20 : Int → (Nat → Int) → Prop) (x1 : Int) (x2 : Int) (x3 : Int) (k0 : Int) (ms : Nat → Int) (mr : Nat → Int) : Prop := ∃ n : Nat, wp_X5_reckonWays_49 Φ K14 K20 x1 x2 x3 ms mr n k0 (0 : Int)
def wp_X5_reckonWays_20 (Φ : (Nat → Int) → Prop) (K14 : Int → (Nat → Int) → Prop) (x1 : Int) (x2 : Int) (ms : Nat → Int) : Nat → Int → (Nat → Int) → Prop
  | 0, _, _ => False
  | n9 + 1, x3, mr => ((0 ≤ (6 : Int) ∧ (6 : Int) < 635) ∧ (∀ v16 : Int, v16 = ms ((6 : Int)).toNat → ((qR x3 ∧ qR v16) ∧ (v16 ≤ x3 → (∀ v18 : Int, v18 = x2 + (-1 : Int) → K14 v18 mr)) ∧ (¬ (v16 ≤ x3) → ((qR x2 ∧ qR (x1 - (1 : Int))) ∧ (¬ x2 = (x1 - (1 : Int)) → wp_X5_reckonWays_44 Φ K14 (wp_X5_reckonWays_20 Φ K14 x1 x2 ms n9) x1 x2 x3 (100000 : Int) ms mr) ∧ (¬ (¬ x2 = (x1 - (1 : Int))) → wp_X5_reckonWays_44 Φ K14 (wp_X5_reckonWays_20 Φ K14 x1 x2 ms n9) x1 x2 x3 (0 : Int) ms mr))))))
def wp_X5_reckonWays_14 (Φ : (Nat → Int) → Prop)  (x1 : Int) (ms : Nat → Int) : Nat → Int → (Nat → Int) → Prop
  | 0, _, _ => False
  | n9 + 1, x2, mr => (qR x2 ∧ (x2 ≤ (0 : Int) → Φ mr) ∧ (¬ (x2 ≤ (0 : Int)) → ∃ n : Nat, wp_X5_reckonWays_20 Φ (wp_X5_reckonWays_14 Φ  x1 ms n9) x1 x2 ms n (0 : Int) mr))
def wp_X5_reckonWays  (ms : Nat → Int) (mr : Nat → Int) (Φ : (Nat → Int) → Prop) : Prop := ((0 ≤ (6 : Int) ∧ (6 : Int) < 635) ∧ (∀ v21 : Int, v21 = ms ((6 : Int)).toNat → (∀ v22 : Int, v22 = qshl (1 : Int) v21 → (∀ v23 : Int, v23 = (v22 - (1 : Int)) → ∃ n : Nat, wp_X5_reckonWays_14 Φ  v22 ms n v23 mr))))
theorem iX5_reckonWays_X5 : ∀ w ∈ wsX50, w ∈ wsX5_reckonWays := fun w h => List.mem_cons_of_mem _ (List.mem_append_right _ (h))
set_option maxHeartbeats 4000000 in
set_option maxRecDepth 100000 in
theorem c_X5_reckonWays (l : Launch) (D : va_G) (E : Nat → ClassId) (m0 m1 m2 m3 m4 m5 m6 m7 : Nat) (th : Int) (sm : Int) (le : Int) (tk : Int) (fr : Int) (ti : Int) (fa : Int) (ms : Nat → Int) (ma : Nat → Int) (mv : Nat → Int) (mt : Nat → Int) (mn : Nat → Int) (ml : Nat → Int) (mr : Nat → Int)  {Φ : (Nat → Int) → Prop} (hw : wp_X5_reckonWays  ms mr Φ) : qRW (σ := (Nat → Int)) l D E qF0 yX5_reckonWays wsX5_reckonWays 2 41 [(m0, .inr (5, [.int (qI th), .ref m1, .ref m2, .ref m3, .int (qI sm), .ref m4, .int (qI le), .ref m5, .ref m6, .ref m7, .int (qI tk), .int (qI fr), .int (qI ti), .int (qI fa)])), (m1, qA (E 0) 635 ms), (m2, qA (E 0) 635 ma), (m3, qA (E 0) 3175 mv), (m4, qA (E 0) 140 mt), (m5, qA (E 0) 2 mn), (m6, qA (E 0) 64 ml), (m7, qA (E 0) 49152 mr)] [.ref m0] qeV (fun u => [(m0, .inr (5, [.int (qI th), .ref m1, .ref m2, .ref m3, .int (qI sm), .ref m4, .int (qI le), .ref m5, .ref m6, .ref m7, .int (qI tk), .int (qI fr), .int (qI ti), .int (qI fa)])), (m1, qA (E 0) 635 ms), (m2, qA (E 0) 635 ma), (m3, qA (E 0) 3175 mv), (m4, qA (E 0) 140 mt), (m5, qA (E 0) 2 mn), (m6, qA (E 0) 64 ml), (m7, qA (E 0) 49152 u)]) (fun r u => Φ u) := by
  refine qRW_void (nL := 7) (own := RX5) qF0_ok (by decide) rfl rfl (Nat.le_of_ble_eq_true rfl) (fun X C hend => ?_)
  have hB124 : ∀ x1 : Int, ∀ K14 : Int → (Nat → Int) → Prop, (∀ (x2 : Int) (mr : Nat → Int), K14 x2 mr → qZ X 0 0 [(m0, .inr (5, [.int (qI th), .ref m1, .ref m2, .ref m3, .int (qI sm), .ref m4, .int (qI le), .ref m5, .ref m6, .ref m7, .int (qI tk), .int (qI fr), .int (qI ti), .int (qI fa)])), (m1, qA (E 0) 635 ms), (m2, qA (E 0) 635 ma), (m3, qA (E 0) 3175 mv), (m4, qA (E 0) 140 mt), (m5, qA (E 0) 2 mn), (m6, qA (E 0) 64 ml), (m7, qA (E 0) 49152 mr)] 14 [(0, .ref m0), (1, .int (qI x1)), (2, .int (qI x2))] []) → ∀ x2 : Int, ∀ K20 : Int → (Nat → Int) → Prop, (∀ (x3 : Int) (mr : Nat → Int), K20 x3 mr → qZ X 0 0 [(m0, .inr (5, [.int (qI th), .ref m1, .ref m2, .ref m3, .int (qI sm), .ref m4, .int (qI le), .ref m5, .ref m6, .ref m7, .int (qI tk), .int (qI fr), .int (qI ti), .int (qI fa)])), (m1, qA (E 0) 635 ms), (m2, qA (E 0) 635 ma), (m3, qA (E 0) 3175 mv), (m4, qA (E 0) 140 mt), (m5, qA (E 0) 2 mn), (m6, qA (E 0) 64 ml), (m7, qA (E 0) 49152 mr)] 20 [(0, .ref m0), (1, .int (qI x1)), (2, .int (qI x2)), (3, .int (qI x3))] []) → ∀ x3 : Int, ∀ mr : Nat → Int, ∀ K49 : Int → Int → Prop, (∀ (x4 : Int) (x5 : Int), K49 x4 x5 → qZ X 0 0 [(m0, .inr (5, [.int (qI th), .ref m1, .ref m2, .ref m3, .int (qI sm), .ref m4, .int (qI le), .ref m5, .ref m6, .ref m7, .int (qI tk), .int (qI fr), .int (qI ti), .int (qI fa)])), (m1, qA (E 0) 635 ms), (m2, qA (E 0) 635 ma), (m3, qA (E 0) 3175 mv), (m4, qA (E 0) 140 mt), (m5, qA (E 0) 2 mn), (m6, qA (E 0) 64 ml), (m7, qA (E 0) 49152 mr)] 49 [(0, .ref m0), (1, .int (qI x1)), (2, .int (qI x2)), (3, .int (qI x3)), (4, .int (qI x4)), (5, .int (qI x5))] []) → ∀ x5 : Int, ∀ k0 : Int, wp_X5_reckonWays_124 Φ K14 K20 K49 x1 x2 x3 x5 k0 ms mr → qZ X 0 0 [(m0, .inr (5, [.int (qI th), .ref m1, .ref m2, .ref m3, .int (qI sm), .ref m4, .int (qI le), .ref m5, .ref m6, .ref m7, .int (qI tk), .int (qI fr), .int (qI ti), .int (qI fa)])), (m1, qA (E 0) 635 ms), (m2, qA (E 0) 635 ma), (m3, qA (E 0) 3175 mv), (m4, qA (E 0) 140 mt), (m5, qA (E 0) 2 mn), (m6, qA (E 0) 64 ml), (m7, qA (E 0) 49152 mr)] 124 [(0, .ref m0), (1, .int (qI x1)), (2, .int (qI x2)), (3, .int (qI x3)), (5, .int (qI x5))] [.int (qI k0)] := by
    intro x1 K14 hK14 x2 K20 hK20 x3 mr K49 hK49 x5 k0 hw
    unfold wp_X5_reckonWays_124 at hw
    refine z_istore C (by decide) rfl dX5_reckonWays_124 ?_
    obtain ⟨v1, ev1⟩ : ∃ v1 : Int, v1 = x5 + (1 : Int) := ⟨_, rfl⟩
    replace hw := hw v1 ev1
    refine z_iinc C 5 rfl (by decide) v1 ev1 rfl dX5_reckonWays_126 ?_
    refine z_goto (tgt := 49) C (by decide) dX5_reckonWays_129 ?_
    refine z_lst (ps := [2, 3, 4, 5, 1, 0]) (lv' := [(0, .ref m0), (1, .int (qI x1)), (2, .int (qI x2)), (3, .int (qI x3)), (4, .int (qI k0)), (5, .int (qI v1))]) (st' := []) rfl rfl ?_
    exact hK49 k0 v1 hw
  have hB108 : ∀ x1 : Int, ∀ K14 : Int → (Nat → Int) → Prop, (∀ (x2 : Int) (mr : Nat → Int), K14 x2 mr → qZ X 0 0 [(m0, .inr (5, [.int (qI th), .ref m1, .ref m2, .ref m3, .int (qI sm), .ref m4, .int (qI le), .ref m5, .ref m6, .ref m7, .int (qI tk), .int (qI fr), .int (qI ti), .int (qI fa)])), (m1, qA (E 0) 635 ms), (m2, qA (E 0) 635 ma), (m3, qA (E 0) 3175 mv), (m4, qA (E 0) 140 mt), (m5, qA (E 0) 2 mn), (m6, qA (E 0) 64 ml), (m7, qA (E 0) 49152 mr)] 14 [(0, .ref m0), (1, .int (qI x1)), (2, .int (qI x2))] []) → ∀ x2 : Int, ∀ K20 : Int → (Nat → Int) → Prop, (∀ (x3 : Int) (mr : Nat → Int), K20 x3 mr → qZ X 0 0 [(m0, .inr (5, [.int (qI th), .ref m1, .ref m2, .ref m3, .int (qI sm), .ref m4, .int (qI le), .ref m5, .ref m6, .ref m7, .int (qI tk), .int (qI fr), .int (qI ti), .int (qI fa)])), (m1, qA (E 0) 635 ms), (m2, qA (E 0) 635 ma), (m3, qA (E 0) 3175 mv), (m4, qA (E 0) 140 mt), (m5, qA (E 0) 2 mn), (m6, qA (E 0) 64 ml), (m7, qA (E 0) 49152 mr)] 20 [(0, .ref m0), (1, .int (qI x1)), (2, .int (qI x2)), (3, .int (qI x3))] []) → ∀ x3 : Int, ∀ mr : Nat → Int, ∀ K49 : Int → Int → Prop, (∀ (x4 : Int) (x5 : Int), K49 x4 x5 → qZ X 0 0 [(m0, .inr (5, [.int (qI th), .ref m1, .ref m2, .ref m3, .int (qI sm), .ref m4, .int (qI le), .ref m5, .ref m6, .ref m7, .int (qI tk), .int (qI fr), .int (qI ti), .int (qI fa)])), (m1, qA (E 0) 635 ms), (m2, qA (E 0) 635 ma), (m3, qA (E 0) 3175 mv), (m4, qA (E 0) 140 mt), (m5, qA (E 0) 2 mn), (m6, qA (E 0) 64 ml), (m7, qA (E 0) 49152 mr)] 49 [(0, .ref m0), (1, .int (qI x1)), (2, .int (qI x2)), (3, .int (qI x3)), (4, .int (qI x4)), (5, .int (qI x5))] []) → ∀ x4 : Int, ∀ x5 : Int, ∀ k0 : Int, wp_X5_reckonWays_108 Φ K14 K20 K49 x1 x2 x3 x4 x5 k0 ms mr → qZ X 0 0 [(m0, .inr (5, [.int (qI th), .ref m1, .ref m2, .ref m3, .int (qI sm), .ref m4, .int (qI le), .ref m5, .ref m6, .ref m7, .int (qI tk), .int (qI fr), .int (qI ti), .int (qI fa)])), (m1, qA (E 0) 635 ms), (m2, qA (E 0) 635 ma), (m3, qA (E 0) 3175 mv), (m4, qA (E 0) 140 mt), (m5, qA (E 0) 2 mn), (m6, qA (E 0) 64 ml), (m7, qA (E 0) 49152 mr)] 108 [(0, .ref m0), (1, .int (qI x1)), (2, .int (qI x2)), (3, .int (qI x3)), (4, .int (qI x4)), (5, .int (qI x5))] [.int (qI k0)] := by
    intro x1 K14 hK14 x2 K20 hK20 x3 mr K49 hK49 x4 x5 k0 hw
    unfold wp_X5_reckonWays_108 at hw
    refine z_istore C (by decide) rfl dX5_reckonWays_108 ?_
    refine z_iload C 0 rfl dX5_reckonWays_110 ?_
    refine z_iload C 5 rfl dX5_reckonWays_112 ?_
    refine z_icmp_ge (tgt := 122) C hw.1 (by decide) dX5_reckonWays_114 (fun c2 => ?_) (fun c2 => ?_)
    · replace hw := hw.2.1 c2
      refine z_iload C 5 rfl dX5_reckonWays_122 ?_
      refine z_lst (ps := [1, 2, 3, 4, 6]) (lv' := [(0, .ref m0), (1, .int (qI x1)), (2, .int (qI x2)), (3, .int (qI x3)), (5, .int (qI x5))]) (st' := [.int (qI x4)]) rfl rfl ?_
      exact hB124 x1 _ hK14 x2 _ hK20 x3 mr _ hK49 x5 x4 hw
    · replace hw := hw.2.2 c2
      refine z_iload C 0 rfl dX5_reckonWays_117 ?_
      refine z_goto (tgt := 124) C (by decide) dX5_reckonWays_119 ?_
      refine z_lst (ps := [1, 2, 3, 4, 6]) (lv' := [(0, .ref m0), (1, .int (qI x1)), (2, .int (qI x2)), (3, .int (qI x3)), (5, .int (qI x5))]) (st' := [.int (qI k0)]) rfl rfl ?_
      exact hB124 x1 _ hK14 x2 _ hK20 x3 mr _ hK49 x5 k0 hw
  have hB49 : ∀ x1 : Int, ∀ K14 : Int → (Nat → Int) → Prop, (∀ (x2 : Int) (mr : Nat → Int), K14 x2 mr → qZ X 0 0 [(m0, .inr (5, [.int (qI th), .ref m1, .ref m2, .ref m3, .int (qI sm), .ref m4, .int (qI le), .ref m5, .ref m6, .ref m7, .int (qI tk), .int (qI fr), .int (qI ti), .int (qI fa)])), (m1, qA (E 0) 635 ms), (m2, qA (E 0) 635 ma), (m3, qA (E 0) 3175 mv), (m4, qA (E 0) 140 mt), (m5, qA (E 0) 2 mn), (m6, qA (E 0) 64 ml), (m7, qA (E 0) 49152 mr)] 14 [(0, .ref m0), (1, .int (qI x1)), (2, .int (qI x2))] []) → ∀ x2 : Int, ∀ K20 : Int → (Nat → Int) → Prop, (∀ (x3 : Int) (mr : Nat → Int), K20 x3 mr → qZ X 0 0 [(m0, .inr (5, [.int (qI th), .ref m1, .ref m2, .ref m3, .int (qI sm), .ref m4, .int (qI le), .ref m5, .ref m6, .ref m7, .int (qI tk), .int (qI fr), .int (qI ti), .int (qI fa)])), (m1, qA (E 0) 635 ms), (m2, qA (E 0) 635 ma), (m3, qA (E 0) 3175 mv), (m4, qA (E 0) 140 mt), (m5, qA (E 0) 2 mn), (m6, qA (E 0) 64 ml), (m7, qA (E 0) 49152 mr)] 20 [(0, .ref m0), (1, .int (qI x1)), (2, .int (qI x2)), (3, .int (qI x3))] []) → ∀ x3 : Int, ∀ mr : Nat → Int, ∀ n8 : Nat, ∀ x4 : Int, ∀ x5 : Int, wp_X5_reckonWays_49 Φ K14 K20 x1 x2 x3 ms mr n8 x4 x5 → qZ X 0 0 [(m0, .inr (5, [.int (qI th), .ref m1, .ref m2, .ref m3, .int (qI sm), .ref m4, .int (qI le), .ref m5, .ref m6, .ref m7, .int (qI tk), .int (qI fr), .int (qI ti), .int (qI fa)])), (m1, qA (E 0) 635 ms), (m2, qA (E 0) 635 ma), (m3, qA (E 0) 3175 mv), (m4, qA (E 0) 140 mt), (m5, qA (E 0) 2 mn), (m6, qA (E 0) 64 ml), (m7, qA (E 0) 49152 mr)] 49 [(0, .ref m0), (1, .int (qI x1)), (2, .int (qI x2)), (3, .int (qI x3)), (4, .int (qI x4)), (5, .int (qI x5))] [] := by
    intro x1 K14 hK14 x2 K20 hK20 x3 mr n8
    induction n8 with
    | zero =>
      intro x4 x5 hw
      exact hw.elim
    | succ n9 ih =>
      intro x4 x5 hw
      unfold wp_X5_reckonWays_49 at hw
      refine z_iload C 5 rfl dX5_reckonWays_49 ?_
      refine z_aload_n C 0 rfl rfl dX5_reckonWays_51 ?_
      refine z_get C iX5_reckonWays_X5 0 rfl rfl 1 (by decide) (List.mem_of_getElem? (i := 1) rfl) rfl rfl dX5_reckonWays_52 ?_
      refine z_bipush C (by decide +kernel) dX5_reckonWays_55 ?_
      refine z_iald C 1 rfl (by decide) hw.1 dX5_reckonWays_57 ?_
      replace hw := hw.2
      refine z_name (fun v3 ev3 => ?_)
      replace hw := hw v3 ev3
      refine z_icmp_ge (tgt := 132) C hw.1 (by decide) dX5_reckonWays_58 (fun c4 => ?_) (fun c4 => ?_)
      · replace hw := hw.2.1 c4
        refine z_aload_n C 0 rfl rfl dX5_reckonWays_132 ?_
        refine z_get C iX5_reckonWays_X5 0 rfl rfl 9 (by decide) (List.mem_of_getElem? (i := 3) rfl) rfl rfl dX5_reckonWays_133 ?_
        refine z_bipush C (by decide +kernel) dX5_reckonWays_136 ?_
        refine z_iload_n C 2 rfl rfl dX5_reckonWays_138 ?_
        refine z_imul C dX5_reckonWays_139 ?_
        refine z_iload_n C 3 rfl rfl dX5_reckonWays_140 ?_
        refine z_iadd C dX5_reckonWays_141 ?_
        refine z_iload C 4 rfl dX5_reckonWays_142 ?_
        refine z_iast C 7 rfl (by decide) hw.1 (fun g5 => [(m0, .inr (5, [.int (qI th), .ref m1, .ref m2, .ref m3, .int (qI sm), .ref m4, .int (qI le), .ref m5, .ref m6, .ref m7, .int (qI tk), .int (qI fr), .int (qI ti), .int (qI fa)])), (m1, qA (E 0) 635 ms), (m2, qA (E 0) 635 ma), (m3, qA (E 0) 3175 mv), (m4, qA (E 0) 140 mt), (m5, qA (E 0) 2 mn), (m6, qA (E 0) 64 ml), (m7, qA (E 0) 49152 g5)]) (fun _ => rfl) dX5_reckonWays_144 (fun g5 eg5 => ?_)
        replace hw := hw.2 g5 eg5
        obtain ⟨v6, ev6⟩ : ∃ v6 : Int, v6 = x3 + (1 : Int) := ⟨_, rfl⟩
        replace hw := hw v6 ev6
        refine z_iinc C 3 rfl (by decide) v6 ev6 rfl dX5_reckonWays_145 ?_
        refine z_goto (tgt := 20) C (by decide) dX5_reckonWays_148 ?_
        refine z_lst (ps := [1, 2, 3, 0]) (lv' := [(0, .ref m0), (1, .int (qI x1)), (2, .int (qI x2)), (3, .int (qI v6))]) (st' := []) rfl rfl ?_
        exact hK20 v6 g5 hw
      · replace hw := hw.2.2 c4
        refine z_iload_n C 2 rfl rfl dX5_reckonWays_61 ?_
        refine z_iload C 5 rfl dX5_reckonWays_62 ?_
        refine z_ishr C dX5_reckonWays_64 ?_
        refine z_name (fun v7 ev7 => ?_)
        replace hw := hw v7 ev7
        refine z_iconst C dX5_reckonWays_65 ?_
        refine z_iand C dX5_reckonWays_66 ?_
        refine z_name (fun v8 ev8 => ?_)
        replace hw := hw v8 ev8
        refine z_iconst C dX5_reckonWays_67 ?_
        refine z_icmp_ne (tgt := 76) C hw.1 (by decide) dX5_reckonWays_68 (fun c9 => ?_) (fun c9 => ?_)
        · replace hw := hw.2.1 c9
          refine z_aload_n C 0 rfl rfl dX5_reckonWays_76 ?_
          refine z_iload_n C 3 rfl rfl dX5_reckonWays_77 ?_
          refine z_callV (n := 1) C (c_X5_spotAt l D E m0 m1 m2 m3 m4 m5 m6 m7 th sm le tk fr ti fa ms ma mv mt mn ml mr x3 hw) qF0_ok (fun _ _ _ => trivial) gX5_reckonWays_X5_spotAt rfl (by decide +kernel) ⟨(Nat.le_of_ble_eq_true rfl), (Nat.le_of_ble_eq_true rfl)⟩ rfl 0 rfl rfl [0, 1, 2, 3, 4, 5, 6, 7] rfl rfl (Nat.le_of_ble_eq_true rfl) dX5_reckonWays_78 (fun r10 hw => ?_)
          show qZ X 0 0 [(m0, .inr (5, [.int (qI th), .ref m1, .ref m2, .ref m3, .int (qI sm), .ref m4, .int (qI le), .ref m5, .ref m6, .ref m7, .int (qI tk), .int (qI fr), .int (qI ti), .int (qI fa)])), (m1, qA (E 0) 635 ms), (m2, qA (E 0) 635 ma), (m3, qA (E 0) 3175 mv), (m4, qA (E 0) 140 mt), (m5, qA (E 0) 2 mn), (m6, qA (E 0) 64 ml), (m7, qA (E 0) 49152 mr)] _ _ [.int (qI r10)]
          refine z_aload_n C 0 rfl rfl dX5_reckonWays_81 ?_
          refine z_iload C 5 rfl dX5_reckonWays_82 ?_
          refine z_callV (n := 1) C (c_X5_spotAt l D E m0 m1 m2 m3 m4 m5 m6 m7 th sm le tk fr ti fa ms ma mv mt mn ml mr x5 hw) qF0_ok (fun _ _ _ => trivial) gX5_reckonWays_X5_spotAt rfl (by decide +kernel) ⟨(Nat.le_of_ble_eq_true rfl), (Nat.le_of_ble_eq_true rfl)⟩ rfl 0 rfl rfl [0, 1, 2, 3, 4, 5, 6, 7] rfl rfl (Nat.le_of_ble_eq_true rfl) dX5_reckonWays_84 (fun r11 hw => ?_)
          show qZ X 0 0 [(m0, .inr (5, [.int (qI th), .ref m1, .ref m2, .ref m3, .int (qI sm), .ref m4, .int (qI le), .ref m5, .ref m6, .ref m7, .int (qI tk), .int (qI fr), .int (qI ti), .int (qI fa)])), (m1, qA (E 0) 635 ms), (m2, qA (E 0) 635 ma), (m3, qA (E 0) 3175 mv), (m4, qA (E 0) 140 mt), (m5, qA (E 0) 2 mn), (m6, qA (E 0) 64 ml), (m7, qA (E 0) 49152 mr)] _ _ [.int (qI r11), .int (qI r10)]
          refine z_callS (n := 2) C (c_X5_way l D E   r10 r11 hw) qF0_ok (fun _ _ _ => trivial) gX5_reckonWays_X5_way rfl (by decide +kernel) ⟨(Nat.le_of_ble_eq_true rfl), (Nat.le_of_ble_eq_true rfl)⟩ rfl [] rfl rfl (Nat.le_of_ble_eq_true rfl) dX5_reckonWays_87 (fun r12 hw => ?_)
          show qZ X 0 0 [(m0, .inr (5, [.int (qI th), .ref m1, .ref m2, .ref m3, .int (qI sm), .ref m4, .int (qI le), .ref m5, .ref m6, .ref m7, .int (qI tk), .int (qI fr), .int (qI ti), .int (qI fa)])), (m1, qA (E 0) 635 ms), (m2, qA (E 0) 635 ma), (m3, qA (E 0) 3175 mv), (m4, qA (E 0) 140 mt), (m5, qA (E 0) 2 mn), (m6, qA (E 0) 64 ml), (m7, qA (E 0) 49152 mr)] _ _ [.int (qI r12)]
          refine z_aload_n C 0 rfl rfl dX5_reckonWays_90 ?_
          refine z_get C iX5_reckonWays_X5 0 rfl rfl 9 (by decide) (List.mem_of_getElem? (i := 3) rfl) rfl rfl dX5_reckonWays_91 ?_
          refine z_bipush C (by decide +kernel) dX5_reckonWays_94 ?_
          refine z_iload_n C 2 rfl rfl dX5_reckonWays_96 ?_
          refine z_iconst C dX5_reckonWays_97 ?_
          refine z_iload C 5 rfl dX5_reckonWays_98 ?_
          refine z_ishl C dX5_reckonWays_100 ?_
          refine z_name (fun v13 ev13 => ?_)
          replace hw := hw v13 ev13
          refine z_ior C dX5_reckonWays_101 ?_
          refine z_name (fun v14 ev14 => ?_)
          replace hw := hw v14 ev14
          refine z_imul C dX5_reckonWays_102 ?_
          refine z_iload C 5 rfl dX5_reckonWays_103 ?_
          refine z_iadd C dX5_reckonWays_105 ?_
          refine z_iald C 7 rfl (by decide) hw.1 dX5_reckonWays_106 ?_
          replace hw := hw.2
          refine z_name (fun v15 ev15 => ?_)
          replace hw := hw v15 ev15
          refine z_iadd C dX5_reckonWays_107 ?_
          refine z_lst (ps := [0, 1, 2, 3, 4, 5]) (lv' := [(0, .ref m0), (1, .int (qI x1)), (2, .int (qI x2)), (3, .int (qI x3)), (4, .int (qI x4)), (5, .int (qI x5))]) (st' := [.int (qI (r12 + v15))]) rfl rfl ?_
          exact hB108 x1 _ hK14 x2 _ hK20 x3 mr _ ih x4 x5 (r12 + v15) hw
        · replace hw := hw.2.2 c9
          refine z_ldc (v := (100000 : Int)) C (List.mem_of_getElem? (i := 2) rfl) dX5_reckonWays_71 ?_
          refine z_goto (tgt := 108) C (by decide) dX5_reckonWays_73 ?_
          refine z_lst (ps := [0, 1, 2, 3, 4, 5]) (lv' := [(0, .ref m0), (1, .int (qI x1)), (2, .int (qI x2)), (3, .int (qI x3)), (4, .int (qI x4)), (5, .int (qI x5))]) (st' := [.int (qI (100000 : Int))]) rfl rfl ?_
          exact hB108 x1 _ hK14 x2 _ hK20 x3 mr _ ih x4 x5 (100000 : Int) hw
  have hB44 : ∀ x1 : Int, ∀ K14 : Int → (Nat → Int) → Prop, (∀ (x2 : Int) (mr : Nat → Int), K14 x2 mr → qZ X 0 0 [(m0, .inr (5, [.int (qI th), .ref m1, .ref m2, .ref m3, .int (qI sm), .ref m4, .int (qI le), .ref m5, .ref m6, .ref m7, .int (qI tk), .int (qI fr), .int (qI ti), .int (qI fa)])), (m1, qA (E 0) 635 ms), (m2, qA (E 0) 635 ma), (m3, qA (E 0) 3175 mv), (m4, qA (E 0) 140 mt), (m5, qA (E 0) 2 mn), (m6, qA (E 0) 64 ml), (m7, qA (E 0) 49152 mr)] 14 [(0, .ref m0), (1, .int (qI x1)), (2, .int (qI x2))] []) → ∀ x2 : Int, ∀ K20 : Int → (Nat → Int) → Prop, (∀ (x3 : Int) (mr : Nat → Int), K20 x3 mr → qZ X 0 0 [(m0, .inr (5, [.int (qI th), .ref m1, .ref m2, .ref m3, .int (qI sm), .ref m4, .int (qI le), .ref m5, .ref m6, .ref m7, .int (qI tk), .int (qI fr), .int (qI ti), .int (qI fa)])), (m1, qA (E 0) 635 ms), (m2, qA (E 0) 635 ma), (m3, qA (E 0) 3175 mv), (m4, qA (E 0) 140 mt), (m5, qA (E 0) 2 mn), (m6, qA (E 0) 64 ml), (m7, qA (E 0) 49152 mr)] 20 [(0, .ref m0), (1, .int (qI x1)), (2, .int (qI x2)), (3, .int (qI x3))] []) → ∀ x3 : Int, ∀ k0 : Int, ∀ mr : Nat → Int, wp_X5_reckonWays_44 Φ K14 K20 x1 x2 x3 k0 ms mr → qZ X 0 0 [(m0, .inr (5, [.int (qI th), .ref m1, .ref m2, .ref m3, .int (qI sm), .ref m4, .int (qI le), .ref m5, .ref m6, .ref m7, .int (qI tk), .int (qI fr), .int (qI ti), .int (qI fa)])), (m1, qA (E 0) 635 ms), (m2, qA (E 0) 635 ma), (m3, qA (E 0) 3175 mv), (m4, qA (E 0) 140 mt), (m5, qA (E 0) 2 mn), (m6, qA (E 0) 64 ml), (m7, qA (E 0) 49152 mr)] 44 [(0, .ref m0), (1, .int (qI x1)), (2, .int (qI x2)), (3, .int (qI x3))] [.int (qI k0)] := by
    intro x1 K14 hK14 x2 K20 hK20 x3 k0 mr hw
    unfold wp_X5_reckonWays_44 at hw
    refine z_istore C (by decide) rfl dX5_reckonWays_44 ?_
    refine z_iconst C dX5_reckonWays_46 ?_
    refine z_istore C (by decide) rfl dX5_reckonWays_47 ?_
    refine z_lst (ps := [2, 3, 4, 5, 1, 0]) (lv' := [(0, .ref m0), (1, .int (qI x1)), (2, .int (qI x2)), (3, .int (qI x3)), (4, .int (qI k0)), (5, .int (qI (0 : Int)))]) (st' := []) rfl rfl ?_
    obtain ⟨n8, hw⟩ := hw
    exact hB49 x1 _ hK14 x2 _ hK20 x3 mr n8 k0 (0 : Int) hw
  have hB20 : ∀ x1 : Int, ∀ K14 : Int → (Nat → Int) → Prop, (∀ (x2 : Int) (mr : Nat → Int), K14 x2 mr → qZ X 0 0 [(m0, .inr (5, [.int (qI th), .ref m1, .ref m2, .ref m3, .int (qI sm), .ref m4, .int (qI le), .ref m5, .ref m6, .ref m7, .int (qI tk), .int (qI fr), .int (qI ti), .int (qI fa)])), (m1, qA (E 0) 635 ms), (m2, qA (E 0) 635 ma), (m3, qA (E 0) 3175 mv), (m4, qA (E 0) 140 mt), (m5, qA (E 0) 2 mn), (m6, qA (E 0) 64 ml), (m7, qA (E 0) 49152 mr)] 14 [(0, .ref m0), (1, .int (qI x1)), (2, .int (qI x2))] []) → ∀ x2 : Int, ∀ n8 : Nat, ∀ x3 : Int, ∀ mr : Nat → Int, wp_X5_reckonWays_20 Φ K14 x1 x2 ms n8 x3 mr → qZ X 0 0 [(m0, .inr (5, [.int (qI th), .ref m1, .ref m2, .ref m3, .int (qI sm), .ref m4, .int (qI le), .ref m5, .ref m6, .ref m7, .int (qI tk), .int (qI fr), .int (qI ti), .int (qI fa)])), (m1, qA (E 0) 635 ms), (m2, qA (E 0) 635 ma), (m3, qA (E 0) 3175 mv), (m4, qA (E 0) 140 mt), (m5, qA (E 0) 2 mn), (m6, qA (E 0) 64 ml), (m7, qA (E 0) 49152 mr)] 20 [(0, .ref m0), (1, .int (qI x1)), (2, .int (qI x2)), (3, .int (qI x3))] [] := by
    intro x1 K14 hK14 x2 n8
    induction n8 with
    | zero =>
      intro x3 mr hw
      exact hw.elim
    | succ n9 ih =>
      intro x3 mr hw
      unfold wp_X5_reckonWays_20 at hw
      refine z_iload_n C 3 rfl rfl dX5_reckonWays_20 ?_
      refine z_aload_n C 0 rfl rfl dX5_reckonWays_21 ?_
      refine z_get C iX5_reckonWays_X5 0 rfl rfl 1 (by decide) (List.mem_of_getElem? (i := 1) rfl) rfl rfl dX5_reckonWays_22 ?_
      refine z_bipush C (by decide +kernel) dX5_reckonWays_25 ?_
      refine z_iald C 1 rfl (by decide) hw.1 dX5_reckonWays_27 ?_
      replace hw := hw.2
      refine z_name (fun v16 ev16 => ?_)
      replace hw := hw v16 ev16
      refine z_icmp_ge (tgt := 151) C hw.1 (by decide) dX5_reckonWays_28 (fun c17 => ?_) (fun c17 => ?_)
      · replace hw := hw.2.1 c17
        obtain ⟨v18, ev18⟩ : ∃ v18 : Int, v18 = x2 + (-1 : Int) := ⟨_, rfl⟩
        replace hw := hw v18 ev18
        refine z_iinc C 2 rfl (by decide) v18 ev18 rfl dX5_reckonWays_151 ?_
        refine z_goto (tgt := 14) C (by decide) dX5_reckonWays_154 ?_
        refine z_lst (ps := [1, 2, 0]) (lv' := [(0, .ref m0), (1, .int (qI x1)), (2, .int (qI v18))]) (st' := []) rfl rfl ?_
        exact hK14 v18 mr hw
      · replace hw := hw.2.2 c17
        refine z_iload_n C 2 rfl rfl dX5_reckonWays_31 ?_
        refine z_iload_n C 1 rfl rfl dX5_reckonWays_32 ?_
        refine z_iconst C dX5_reckonWays_33 ?_
        refine z_isub C dX5_reckonWays_34 ?_
        refine z_icmp_ne (tgt := 42) C hw.1 (by decide) dX5_reckonWays_35 (fun c19 => ?_) (fun c19 => ?_)
        · replace hw := hw.2.1 c19
          refine z_ldc (v := (100000 : Int)) C (List.mem_of_getElem? (i := 2) rfl) dX5_reckonWays_42 ?_
          refine z_lst (ps := [0, 1, 2, 3]) (lv' := [(0, .ref m0), (1, .int (qI x1)), (2, .int (qI x2)), (3, .int (qI x3))]) (st' := [.int (qI (100000 : Int))]) rfl rfl ?_
          exact hB44 x1 _ hK14 x2 _ ih x3 (100000 : Int) mr hw
        · replace hw := hw.2.2 c19
          refine z_iconst C dX5_reckonWays_38 ?_
          refine z_goto (tgt := 44) C (by decide) dX5_reckonWays_39 ?_
          refine z_lst (ps := [0, 1, 2, 3]) (lv' := [(0, .ref m0), (1, .int (qI x1)), (2, .int (qI x2)), (3, .int (qI x3))]) (st' := [.int (qI (0 : Int))]) rfl rfl ?_
          exact hB44 x1 _ hK14 x2 _ ih x3 (0 : Int) mr hw
  have hB14 : ∀ x1 : Int, ∀ n8 : Nat, ∀ x2 : Int, ∀ mr : Nat → Int, wp_X5_reckonWays_14 Φ  x1 ms n8 x2 mr → qZ X 0 0 [(m0, .inr (5, [.int (qI th), .ref m1, .ref m2, .ref m3, .int (qI sm), .ref m4, .int (qI le), .ref m5, .ref m6, .ref m7, .int (qI tk), .int (qI fr), .int (qI ti), .int (qI fa)])), (m1, qA (E 0) 635 ms), (m2, qA (E 0) 635 ma), (m3, qA (E 0) 3175 mv), (m4, qA (E 0) 140 mt), (m5, qA (E 0) 2 mn), (m6, qA (E 0) 64 ml), (m7, qA (E 0) 49152 mr)] 14 [(0, .ref m0), (1, .int (qI x1)), (2, .int (qI x2))] [] := by
    intro x1 n8
    induction n8 with
    | zero =>
      intro x2 mr hw
      exact hw.elim
    | succ n9 ih =>
      intro x2 mr hw
      unfold wp_X5_reckonWays_14 at hw
      refine z_iload_n C 2 rfl rfl dX5_reckonWays_14 ?_
      refine z_if_le (tgt := 157) C hw.1 (by decide) dX5_reckonWays_15 (fun c20 => ?_) (fun c20 => ?_)
      · replace hw := hw.2.1 c20
        exact hend 157 _ () mr dX5_reckonWays_157 hw
      · replace hw := hw.2.2 c20
        refine z_iconst C dX5_reckonWays_18 ?_
        refine z_istore_n C rfl (by decide) rfl dX5_reckonWays_19 ?_
        refine z_lst (ps := [1, 2, 3, 0]) (lv' := [(0, .ref m0), (1, .int (qI x1)), (2, .int (qI x2)), (3, .int (qI (0 : Int)))]) (st' := []) rfl rfl ?_
        obtain ⟨n8, hw⟩ := hw
        exact hB20 x1 _ ih x2 n8 (0 : Int) mr hw
  unfold wp_X5_reckonWays at hw
  show qZ X 0 0 [(m0, .inr (5, [.int (qI th), .ref m1, .ref m2, .ref m3, .int (qI sm), .ref m4, .int (qI le), .ref m5, .ref m6, .ref m7, .int (qI tk), .int (qI fr), .int (qI ti), .int (qI fa)])), (m1, qA (E 0) 635 ms), (m2, qA (E 0) 635 ma), (m3, qA (E 0) 3175 mv), (m4, qA (E 0) 140 mt), (m5, qA (E 0) 2 mn), (m6, qA (E 0) 64 ml), (m7, qA (E 0) 49152 mr)] 0 [(0, .ref m0)] []
  refine z_iconst C dX5_reckonWays_0 ?_
  refine z_aload_n C 0 rfl rfl dX5_reckonWays_1 ?_
  refine z_get C iX5_reckonWays_X5 0 rfl rfl 1 (by decide) (List.mem_of_getElem? (i := 1) rfl) rfl rfl dX5_reckonWays_2 ?_
  refine z_bipush C (by decide +kernel) dX5_reckonWays_5 ?_
  refine z_iald C 1 rfl (by decide) hw.1 dX5_reckonWays_7 ?_
  replace hw := hw.2
  refine z_name (fun v21 ev21 => ?_)
  replace hw := hw v21 ev21
  refine z_ishl C dX5_reckonWays_8 ?_
  refine z_name (fun v22 ev22 => ?_)
  replace hw := hw v22 ev22
  refine z_istore_n C rfl (by decide) rfl dX5_reckonWays_9 ?_
  refine z_iload_n C 0 rfl rfl dX5_reckonWays_10 ?_
  refine z_iconst C dX5_reckonWays_11 ?_
  refine z_isub C dX5_reckonWays_12 ?_
  refine z_name (fun v23 ev23 => ?_)
  replace hw := hw v23 ev23
  refine z_istore_n C rfl (by decide) rfl dX5_reckonWays_13 ?_
  refine z_lst (ps := [2, 1, 0]) (lv' := [(0, .ref m0), (1, .int (qI v22)), (2, .int (qI v23))]) (st' := []) rfl rfl ?_
  obtain ⟨n8, hw⟩ := hw
  exact hB14 v22 n8 v23 mr hw
def wp_X5_leastTravel_210 (Φ : Int → Int → (Nat → Int) → Prop) (K40 : Int → Int → Int → Int → Prop) (x1 : Int) (x4 : Int) (x5 : Int) (x6 : Int) (k0 : Int) (th : Int) (ms : Nat → Int) (mr : Nat → Int) : Prop := wp_X5_spotAt x6 ms (fun (r1 : Int) => (∀ v2 : Int, v2 = qshl (1 : Int) x6 → (∀ v3 : Int, v3 = qor x4 v2 → ((qR x5 ∧ qR x1) ∧ (¬ x5 = x1 → (∀ v5 : Int, v5 = x5 + (1 : Int) → K40 k0 r1 v3 v5)) ∧ (¬ (¬ x5 = x1) → Φ r1 th mr)))))
def wp_X5_leastTravel_191 (Φ : Int → Int → (Nat → Int) → Prop) (K40 : Int → Int → Int → Int → Prop) (K63 : Int → Int → Int → Prop) (x1 : Int) (x2 : Int) (x3 : Int) (x4 : Int) (x5 : Int) (x6 : Int) (x8 : Int) (k0 : Int) (th : Int) (ms : Nat → Int) (mr : Nat → Int) : Prop := (∀ v6 : Int, v6 = x8 + (1 : Int) → K63 x6 k0 v6)
def wp_X5_leastTravel_177 (Φ : Int → Int → (Nat → Int) → Prop) (K40 : Int → Int → Int → Int → Prop) (K63 : Int → Int → Int → Prop) (x1 : Int) (x2 : Int) (x3 : Int) (x4 : Int) (x5 : Int) (x7 : Int) (x8 : Int) (x9 : Int) (x10 : Int) (k0 : Int) (th : Int) (ms : Nat → Int) (mr : Nat → Int) : Prop := (qR x10 ∧ (x10 = (0 : Int) → wp_X5_leastTravel_191 Φ K40 K63 x1 x2 x3 x4 x5 k0 x8 x7 th ms mr) ∧ (¬ (x10 = (0 : Int)) → wp_X5_leastTravel_191 Φ K40 K63 x1 x2 x3 x4 x5 k0 x8 x9 th ms mr))
def wp_X5_leastTravel_163 (Φ : Int → Int → (Nat → Int) → Prop) (K40 : Int → Int → Int → Int → Prop) (K63 : Int → Int → Int → Prop) (x1 : Int) (x2 : Int) (x3 : Int) (x4 : Int) (x5 : Int) (x6 : Int) (x7 : Int) (x8 : Int) (x9 : Int) (k0 : Int) (th : Int) (ms : Nat → Int) (mr : Nat → Int) : Prop := (qR k0 ∧ (k0 = (0 : Int) → wp_X5_leastTravel_177 Φ K40 K63 x1 x2 x3 x4 x5 x7 x8 x9 k0 x6 th ms mr) ∧ (¬ (k0 = (0 : Int)) → wp_X5_leastTravel_177 Φ K40 K63 x1 x2 x3 x4 x5 x7 x8 x9 k0 x8 th ms mr))
def wp_X5_leastTravel_162 (Φ : Int → Int → (Nat → Int) → Prop) (K40 : Int → Int → Int → Int → Prop) (K63 : Int → Int → Int → Prop) (x1 : Int) (x2 : Int) (x3 : Int) (x4 : Int) (x5 : Int) (x6 : Int) (x7 : Int) (x8 : Int) (x9 : Int) (th : Int) (ms : Nat → Int) (mr : Nat → Int) : Prop := wp_X5_leastTravel_163 Φ K40 K63 x1 x2 x3 x4 x5 x6 x7 x8 x9 (0 : Int) th ms mr
def wp_X5_leastTravel_158 (Φ : Int → Int → (Nat → Int) → Prop) (K40 : Int → Int → Int → Int → Prop) (K63 : Int → Int → Int → Prop) (x1 : Int) (x2 : Int) (x3 : Int) (x4 : Int) (x5 : Int) (x6 : Int) (x7 : Int) (x8 : Int) (x9 : Int) (th : Int) (ms : Nat → Int) (mr : Nat → Int) : Prop := wp_X5_leastTravel_163 Φ K40 K63 x1 x2 x3 x4 x5 x6 x7 x8 x9 (1 : Int) th ms mr
def wp_X5_leastTravel_120 (Φ : Int → Int → (Nat → Int) → Prop) (K40 : Int → Int → Int → Int → Prop) (K63 : Int → Int → Int → Prop) (x1 : Int) (x2 : Int) (x3 : Int) (x4 : Int) (x5 : Int) (x6 : Int) (x7 : Int) (x8 : Int) (k0 : Int) (th : Int) (ms : Nat → Int) (mr : Nat → Int) : Prop := ((qR k0 ∧ qR x7) ∧ (k0 < x7 → wp_X5_leastTravel_158 Φ K40 K63 x1 x2 x3 x4 x5 x6 x7 x8 k0 th ms mr) ∧ (¬ (k0 < x7) → ((qR k0 ∧ qR x7) ∧ (¬ k0 = x7 → wp_X5_leastTravel_162 Φ K40 K63 x1 x2 x3 x4 x5 x6 x7 x8 k0 th ms mr) ∧ (¬ (¬ k0 = x7) → ((qR k0 ∧ qR (100000 : Int)) ∧ ((100000 : Int) ≤ k0 → wp_X5_leastTravel_162 Φ K40 K63 x1 x2 x3 x4 x5 x6 x7 x8 k0 th ms mr) ∧ (¬ ((100000 : Int) ≤ k0) → wp_X5_spotAt x8 ms (fun (r12 : Int) => wp_X5_spotAt x6 ms (fun (r13 : Int) => ((qR r12 ∧ qR r13) ∧ (r13 ≤ r12 → wp_X5_leastTravel_162 Φ K40 K63 x1 x2 x3 x4 x5 x6 x7 x8 k0 th ms mr) ∧ (¬ (r13 ≤ r12) → wp_X5_leastTravel_158 Φ K40 K63 x1 x2 x3 x4 x5 x6 x7 x8 k0 th ms mr))))))))))
def wp_X5_leastTravel_63 (Φ : Int → Int → (Nat → Int) → Prop) (K40 : Int → Int → Int → Int → Prop) (x1 : Int) (x2 : Int) (x3 : Int) (x4 : Int) (x5 : Int) (th : Int) (ms : Nat → Int) (mr : Nat → Int) : Nat → Int → Int → Int → Prop
  | 0, _, _, _ => False
  | n9 + 1, x6, x7, x8 => ((0 ≤ (6 : Int) ∧ (6 : Int) < 635) ∧ (∀ v15 : Int, v15 = ms ((6 : Int)).toNat → ((qR x8 ∧ qR v15) ∧ (v15 ≤ x8 → (qR x5 ∧ (¬ x5 = (0 : Int) → wp_X5_leastTravel_210 Φ K40 x1 x4 x5 x6 x2 th ms mr) ∧ (¬ (¬ x5 = (0 : Int)) → wp_X5_leastTravel_210 Φ K40 x1 x4 x5 x6 x7 th ms mr))) ∧ (¬ (v15 ≤ x8) → (∀ v18 : Int, v18 = qshr x4 x8 → (∀ v19 : Int, v19 = qand v18 (1 : Int) → ((qR v19 ∧ qR (1 : Int)) ∧ (¬ v19 = (1 : Int) → wp_X5_spotAt x8 ms (fun (r21 : Int) => wp_X5_way x3 r21 (fun (r22 : Int) => (∀ v23 : Int, v23 = qshl (1 : Int) x8 → (∀ v24 : Int, v24 = qor x4 v23 → ((0 ≤ (((12 : Int) * v24) + x8) ∧ (((12 : Int) * v24) + x8) < 49152) ∧ (∀ v25 : Int, v25 = mr ((((12 : Int) * v24) + x8)).toNat → wp_X5_leastTravel_120 Φ K40 (wp_X5_leastTravel_63 Φ K40 x1 x2 x3 x4 x5 th ms mr n9) x1 x2 x3 x4 x5 x6 x7 x8 (r22 + v25) th ms mr))))))) ∧ (¬ (¬ v19 = (1 : Int)) → wp_X5_leastTravel_120 Φ K40 (wp_X5_leastTravel_63 Φ K40 x1 x2 x3 x4 x5 th ms mr n9) x1 x2 x3 x4 x5 x6 x7 x8 (100000 : Int) th ms mr))))))))
def wp_X5_leastTravel_40 (Φ : Int → Int → (Nat → Int) → Prop)  (x1 : Int) (th : Int) (ms : Nat → Int) (mr : Nat → Int) : Nat → Int → Int → Int → Int → Prop
  | 0, _, _, _, _ => False
  | n9 + 1, x2, x3, x4, x5 => ((0 ≤ (6 : Int) ∧ (6 : Int) < 635) ∧ (∀ v26 : Int, v26 = ms ((6 : Int)).toNat → ((qR x5 ∧ qR v26) ∧ (v26 ≤ x5 → Φ x2 th mr) ∧ (¬ (v26 ≤ x5) → ∃ n : Nat, wp_X5_leastTravel_63 Φ (wp_X5_leastTravel_40 Φ  x1 th ms mr n9) x1 x2 x3 x4 x5 th ms mr n (-9 : Int) (100000 : Int) (0 : Int)))))
def wp_X5_leastTravel (x1 : Int) (th : Int) (ms : Nat → Int) (mr : Nat → Int) (Φ : Int → Int → (Nat → Int) → Prop) : Prop := ((qR x1 ∧ qR (-1 : Int)) ∧ ((-1 : Int) ≤ x1 → ((0 ≤ (6 : Int) ∧ (6 : Int) < 635) ∧ (∀ v29 : Int, v29 = ms ((6 : Int)).toNat → ((qR x1 ∧ qR v29) ∧ (x1 < v29 → wp_X5_reckonWays ms mr (fun (g32 : Nat → Int) => ∃ n : Nat, wp_X5_leastTravel_40 Φ  x1 (0 : Int) ms g32 n (0 : Int) (0 : Int) (0 : Int) (0 : Int))) ∧ (¬ (x1 < v29) → Φ (-9 : Int) (0 : Int) mr))))) ∧ (¬ ((-1 : Int) ≤ x1) → Φ (-1 : Int) (0 : Int) mr))
theorem iX5_leastTravel_X5 : ∀ w ∈ wsX50, w ∈ wsX5_leastTravel := fun w h => List.mem_cons_of_mem _ (List.mem_append_right _ (h))
set_option maxHeartbeats 4000000 in
set_option maxRecDepth 100000 in
theorem c_X5_leastTravel (l : Launch) (D : va_G) (E : Nat → ClassId) (m0 m1 m2 m3 m4 m5 m6 m7 : Nat) (th : Int) (sm : Int) (le : Int) (tk : Int) (fr : Int) (ti : Int) (fa : Int) (ms : Nat → Int) (ma : Nat → Int) (mv : Nat → Int) (mt : Nat → Int) (mn : Nat → Int) (ml : Nat → Int) (mr : Nat → Int) (x1 : Int) {Φ : Int → Int → (Nat → Int) → Prop} (hw : wp_X5_leastTravel x1 th ms mr Φ) : qRW (σ := (Int) × (Nat → Int)) l D E qF0 yX5_leastTravel wsX5_leastTravel 3 67 [(m0, .inr (5, [.int (qI th), .ref m1, .ref m2, .ref m3, .int (qI sm), .ref m4, .int (qI le), .ref m5, .ref m6, .ref m7, .int (qI tk), .int (qI fr), .int (qI ti), .int (qI fa)])), (m1, qA (E 0) 635 ms), (m2, qA (E 0) 635 ma), (m3, qA (E 0) 3175 mv), (m4, qA (E 0) 140 mt), (m5, qA (E 0) 2 mn), (m6, qA (E 0) 64 ml), (m7, qA (E 0) 49152 mr)] [.ref m0, .int (qI x1)] qeI (fun u => [(m0, .inr (5, [.int (qI u.1), .ref m1, .ref m2, .ref m3, .int (qI sm), .ref m4, .int (qI le), .ref m5, .ref m6, .ref m7, .int (qI tk), .int (qI fr), .int (qI ti), .int (qI fa)])), (m1, qA (E 0) 635 ms), (m2, qA (E 0) 635 ma), (m3, qA (E 0) 3175 mv), (m4, qA (E 0) 140 mt), (m5, qA (E 0) 2 mn), (m6, qA (E 0) 64 ml), (m7, qA (E 0) 49152 u.2)]) (fun r u => Φ r u.1 u.2) := by
  refine qRW_int (nL := 11) (own := RX5) qF0_ok (by decide) rfl rfl (Nat.le_of_ble_eq_true rfl) (fun X C hend => ?_)
  have hB210 : ∀ x1 : Int, ∀ th : Int, ∀ mr : Nat → Int, ∀ K40 : Int → Int → Int → Int → Prop, (∀ (x2 : Int) (x3 : Int) (x4 : Int) (x5 : Int), K40 x2 x3 x4 x5 → qZ X 0 0 [(m0, .inr (5, [.int (qI th), .ref m1, .ref m2, .ref m3, .int (qI sm), .ref m4, .int (qI le), .ref m5, .ref m6, .ref m7, .int (qI tk), .int (qI fr), .int (qI ti), .int (qI fa)])), (m1, qA (E 0) 635 ms), (m2, qA (E 0) 635 ma), (m3, qA (E 0) 3175 mv), (m4, qA (E 0) 140 mt), (m5, qA (E 0) 2 mn), (m6, qA (E 0) 64 ml), (m7, qA (E 0) 49152 mr)] 40 [(0, .ref m0), (1, .int (qI x1)), (2, .int (qI x2)), (3, .int (qI x3)), (4, .int (qI x4)), (5, .int (qI x5))] []) → ∀ x4 : Int, ∀ x5 : Int, ∀ x6 : Int, ∀ k0 : Int, wp_X5_leastTravel_210 Φ K40 x1 x4 x5 x6 k0 th ms mr → qZ X 0 0 [(m0, .inr (5, [.int (qI th), .ref m1, .ref m2, .ref m3, .int (qI sm), .ref m4, .int (qI le), .ref m5, .ref m6, .ref m7, .int (qI tk), .int (qI fr), .int (qI ti), .int (qI fa)])), (m1, qA (E 0) 635 ms), (m2, qA (E 0) 635 ma), (m3, qA (E 0) 3175 mv), (m4, qA (E 0) 140 mt), (m5, qA (E 0) 2 mn), (m6, qA (E 0) 64 ml), (m7, qA (E 0) 49152 mr)] 210 [(0, .ref m0), (1, .int (qI x1)), (4, .int (qI x4)), (5, .int (qI x5)), (6, .int (qI x6))] [.int (qI k0)] := by
    intro x1 th mr K40 hK40 x4 x5 x6 k0 hw
    unfold wp_X5_leastTravel_210 at hw
    refine z_istore_n C rfl (by decide) rfl dX5_leastTravel_210 ?_
    refine z_aload_n C 1 rfl rfl dX5_leastTravel_211 ?_
    refine z_iload C 5 rfl dX5_leastTravel_212 ?_
    refine z_callV (n := 1) C (c_X5_spotAt l D E m0 m1 m2 m3 m4 m5 m6 m7 th sm le tk fr ti fa ms ma mv mt mn ml mr x6 hw) qF0_ok (fun _ _ _ => trivial) gX5_leastTravel_X5_spotAt rfl (by decide +kernel) ⟨(Nat.le_of_ble_eq_true rfl), (Nat.le_of_ble_eq_true rfl)⟩ rfl 0 rfl rfl [0, 1, 2, 3, 4, 5, 6, 7] rfl rfl (Nat.le_of_ble_eq_true rfl) dX5_leastTravel_214 (fun r1 hw => ?_)
    show qZ X 0 0 [(m0, .inr (5, [.int (qI th), .ref m1, .ref m2, .ref m3, .int (qI sm), .ref m4, .int (qI le), .ref m5, .ref m6, .ref m7, .int (qI tk), .int (qI fr), .int (qI ti), .int (qI fa)])), (m1, qA (E 0) 635 ms), (m2, qA (E 0) 635 ma), (m3, qA (E 0) 3175 mv), (m4, qA (E 0) 140 mt), (m5, qA (E 0) 2 mn), (m6, qA (E 0) 64 ml), (m7, qA (E 0) 49152 mr)] _ _ [.int (qI r1)]
    refine z_istore_n C rfl (by decide) rfl dX5_leastTravel_217 ?_
    refine z_iload C 4 rfl dX5_leastTravel_218 ?_
    refine z_iconst C dX5_leastTravel_220 ?_
    refine z_iload C 6 rfl dX5_leastTravel_221 ?_
    refine z_ishl C dX5_leastTravel_223 ?_
    refine z_name (fun v2 ev2 => ?_)
    replace hw := hw v2 ev2
    refine z_ior C dX5_leastTravel_224 ?_
    refine z_name (fun v3 ev3 => ?_)
    replace hw := hw v3 ev3
    refine z_istore C (by decide) rfl dX5_leastTravel_225 ?_
    refine z_iload C 5 rfl dX5_leastTravel_227 ?_
    refine z_iload_n C 4 rfl rfl dX5_leastTravel_229 ?_
    refine z_icmp_ne (tgt := 235) C hw.1 (by decide) dX5_leastTravel_230 (fun c4 => ?_) (fun c4 => ?_)
    · replace hw := hw.2.1 c4
      obtain ⟨v5, ev5⟩ : ∃ v5 : Int, v5 = x5 + (1 : Int) := ⟨_, rfl⟩
      replace hw := hw v5 ev5
      refine z_iinc C 5 rfl (by decide) v5 ev5 rfl dX5_leastTravel_235 ?_
      refine z_goto (tgt := 40) C (by decide) dX5_leastTravel_238 ?_
      refine z_lst (ps := [4, 5, 3, 2, 1, 0]) (lv' := [(0, .ref m0), (1, .int (qI x1)), (2, .int (qI k0)), (3, .int (qI r1)), (4, .int (qI v3)), (5, .int (qI v5))]) (st' := []) rfl rfl ?_
      exact hK40 k0 r1 v3 v5 hw
    · replace hw := hw.2.2 c4
      refine z_iload_n C 1 rfl rfl dX5_leastTravel_233 ?_
      exact hend 234 _ r1 (th, mr) dX5_leastTravel_234 hw
  have hB191 : ∀ x1 : Int, ∀ th : Int, ∀ mr : Nat → Int, ∀ K40 : Int → Int → Int → Int → Prop, (∀ (x2 : Int) (x3 : Int) (x4 : Int) (x5 : Int), K40 x2 x3 x4 x5 → qZ X 0 0 [(m0, .inr (5, [.int (qI th), .ref m1, .ref m2, .ref m3, .int (qI sm), .ref m4, .int (qI le), .ref m5, .ref m6, .ref m7, .int (qI tk), .int (qI fr), .int (qI ti), .int (qI fa)])), (m1, qA (E 0) 635 ms), (m2, qA (E 0) 635 ma), (m3, qA (E 0) 3175 mv), (m4, qA (E 0) 140 mt), (m5, qA (E 0) 2 mn), (m6, qA (E 0) 64 ml), (m7, qA (E 0) 49152 mr)] 40 [(0, .ref m0), (1, .int (qI x1)), (2, .int (qI x2)), (3, .int (qI x3)), (4, .int (qI x4)), (5, .int (qI x5))] []) → ∀ x2 : Int, ∀ x3 : Int, ∀ x4 : Int, ∀ x5 : Int, ∀ K63 : Int → Int → Int → Prop, (∀ (x6 : Int) (x7 : Int) (x8 : Int), K63 x6 x7 x8 → qZ X 0 0 [(m0, .inr (5, [.int (qI th), .ref m1, .ref m2, .ref m3, .int (qI sm), .ref m4, .int (qI le), .ref m5, .ref m6, .ref m7, .int (qI tk), .int (qI fr), .int (qI ti), .int (qI fa)])), (m1, qA (E 0) 635 ms), (m2, qA (E 0) 635 ma), (m3, qA (E 0) 3175 mv), (m4, qA (E 0) 140 mt), (m5, qA (E 0) 2 mn), (m6, qA (E 0) 64 ml), (m7, qA (E 0) 49152 mr)] 63 [(0, .ref m0), (1, .int (qI x1)), (2, .int (qI x2)), (3, .int (qI x3)), (4, .int (qI x4)), (5, .int (qI x5)), (6, .int (qI x6)), (7, .int (qI x7)), (8, .int (qI x8))] []) → ∀ x6 : Int, ∀ x8 : Int, ∀ k0 : Int, wp_X5_leastTravel_191 Φ K40 K63 x1 x2 x3 x4 x5 x6 x8 k0 th ms mr → qZ X 0 0 [(m0, .inr (5, [.int (qI th), .ref m1, .ref m2, .ref m3, .int (qI sm), .ref m4, .int (qI le), .ref m5, .ref m6, .ref m7, .int (qI tk), .int (qI fr), .int (qI ti), .int (qI fa)])), (m1, qA (E 0) 635 ms), (m2, qA (E 0) 635 ma), (m3, qA (E 0) 3175 mv), (m4, qA (E 0) 140 mt), (m5, qA (E 0) 2 mn), (m6, qA (E 0) 64 ml), (m7, qA (E 0) 49152 mr)] 191 [(0, .ref m0), (1, .int (qI x1)), (2, .int (qI x2)), (3, .int (qI x3)), (4, .int (qI x4)), (5, .int (qI x5)), (6, .int (qI x6)), (8, .int (qI x8))] [.int (qI k0)] := by
    intro x1 th mr K40 hK40 x2 x3 x4 x5 K63 hK63 x6 x8 k0 hw
    unfold wp_X5_leastTravel_191 at hw
    refine z_istore C (by decide) rfl dX5_leastTravel_191 ?_
    obtain ⟨v6, ev6⟩ : ∃ v6 : Int, v6 = x8 + (1 : Int) := ⟨_, rfl⟩
    replace hw := hw v6 ev6
    refine z_iinc C 8 rfl (by decide) v6 ev6 rfl dX5_leastTravel_193 ?_
    refine z_goto (tgt := 63) C (by decide) dX5_leastTravel_196 ?_
    refine z_lst (ps := [2, 3, 4, 5, 6, 7, 8, 1, 0]) (lv' := [(0, .ref m0), (1, .int (qI x1)), (2, .int (qI x2)), (3, .int (qI x3)), (4, .int (qI x4)), (5, .int (qI x5)), (6, .int (qI x6)), (7, .int (qI k0)), (8, .int (qI v6))]) (st' := []) rfl rfl ?_
    exact hK63 x6 k0 v6 hw
  have hB177 : ∀ x1 : Int, ∀ th : Int, ∀ mr : Nat → Int, ∀ K40 : Int → Int → Int → Int → Prop, (∀ (x2 : Int) (x3 : Int) (x4 : Int) (x5 : Int), K40 x2 x3 x4 x5 → qZ X 0 0 [(m0, .inr (5, [.int (qI th), .ref m1, .ref m2, .ref m3, .int (qI sm), .ref m4, .int (qI le), .ref m5, .ref m6, .ref m7, .int (qI tk), .int (qI fr), .int (qI ti), .int (qI fa)])), (m1, qA (E 0) 635 ms), (m2, qA (E 0) 635 ma), (m3, qA (E 0) 3175 mv), (m4, qA (E 0) 140 mt), (m5, qA (E 0) 2 mn), (m6, qA (E 0) 64 ml), (m7, qA (E 0) 49152 mr)] 40 [(0, .ref m0), (1, .int (qI x1)), (2, .int (qI x2)), (3, .int (qI x3)), (4, .int (qI x4)), (5, .int (qI x5))] []) → ∀ x2 : Int, ∀ x3 : Int, ∀ x4 : Int, ∀ x5 : Int, ∀ K63 : Int → Int → Int → Prop, (∀ (x6 : Int) (x7 : Int) (x8 : Int), K63 x6 x7 x8 → qZ X 0 0 [(m0, .inr (5, [.int (qI th), .ref m1, .ref m2, .ref m3, .int (qI sm), .ref m4, .int (qI le), .ref m5, .ref m6, .ref m7, .int (qI tk), .int (qI fr), .int (qI ti), .int (qI fa)])), (m1, qA (E 0) 635 ms), (m2, qA (E 0) 635 ma), (m3, qA (E 0) 3175 mv), (m4, qA (E 0) 140 mt), (m5, qA (E 0) 2 mn), (m6, qA (E 0) 64 ml), (m7, qA (E 0) 49152 mr)] 63 [(0, .ref m0), (1, .int (qI x1)), (2, .int (qI x2)), (3, .int (qI x3)), (4, .int (qI x4)), (5, .int (qI x5)), (6, .int (qI x6)), (7, .int (qI x7)), (8, .int (qI x8))] []) → ∀ x7 : Int, ∀ x8 : Int, ∀ x9 : Int, ∀ x10 : Int, ∀ k0 : Int, wp_X5_leastTravel_177 Φ K40 K63 x1 x2 x3 x4 x5 x7 x8 x9 x10 k0 th ms mr → qZ X 0 0 [(m0, .inr (5, [.int (qI th), .ref m1, .ref m2, .ref m3, .int (qI sm), .ref m4, .int (qI le), .ref m5, .ref m6, .ref m7, .int (qI tk), .int (qI fr), .int (qI ti), .int (qI fa)])), (m1, qA (E 0) 635 ms), (m2, qA (E 0) 635 ma), (m3, qA (E 0) 3175 mv), (m4, qA (E 0) 140 mt), (m5, qA (E 0) 2 mn), (m6, qA (E 0) 64 ml), (m7, qA (E 0) 49152 mr)] 177 [(0, .ref m0), (1, .int (qI x1)), (2, .int (qI x2)), (3, .int (qI x3)), (4, .int (qI x4)), (5, .int (qI x5)), (7, .int (qI x7)), (8, .int (qI x8)), (9, .int (qI x9)), (10, .int (qI x10))] [.int (qI k0)] := by
    intro x1 th mr K40 hK40 x2 x3 x4 x5 K63 hK63 x7 x8 x9 x10 k0 hw
    unfold wp_X5_leastTravel_177 at hw
    refine z_istore C (by decide) rfl dX5_leastTravel_177 ?_
    refine z_iload C 10 rfl dX5_leastTravel_179 ?_
    refine z_if_eq (tgt := 189) C hw.1 (by decide) dX5_leastTravel_181 (fun c7 => ?_) (fun c7 => ?_)
    · replace hw := hw.2.1 c7
      refine z_iload C 7 rfl dX5_leastTravel_189 ?_
      refine z_lst (ps := [1, 2, 3, 4, 5, 6, 0, 8]) (lv' := [(0, .ref m0), (1, .int (qI x1)), (2, .int (qI x2)), (3, .int (qI x3)), (4, .int (qI x4)), (5, .int (qI x5)), (6, .int (qI k0)), (8, .int (qI x8))]) (st' := [.int (qI x7)]) rfl rfl ?_
      exact hB191 x1 th mr _ hK40 x2 x3 x4 x5 _ hK63 k0 x8 x7 hw
    · replace hw := hw.2.2 c7
      refine z_iload C 9 rfl dX5_leastTravel_184 ?_
      refine z_goto (tgt := 191) C (by decide) dX5_leastTravel_186 ?_
      refine z_lst (ps := [1, 2, 3, 4, 5, 6, 0, 8]) (lv' := [(0, .ref m0), (1, .int (qI x1)), (2, .int (qI x2)), (3, .int (qI x3)), (4, .int (qI x4)), (5, .int (qI x5)), (6, .int (qI k0)), (8, .int (qI x8))]) (st' := [.int (qI x9)]) rfl rfl ?_
      exact hB191 x1 th mr _ hK40 x2 x3 x4 x5 _ hK63 k0 x8 x9 hw
  have hB163 : ∀ x1 : Int, ∀ th : Int, ∀ mr : Nat → Int, ∀ K40 : Int → Int → Int → Int → Prop, (∀ (x2 : Int) (x3 : Int) (x4 : Int) (x5 : Int), K40 x2 x3 x4 x5 → qZ X 0 0 [(m0, .inr (5, [.int (qI th), .ref m1, .ref m2, .ref m3, .int (qI sm), .ref m4, .int (qI le), .ref m5, .ref m6, .ref m7, .int (qI tk), .int (qI fr), .int (qI ti), .int (qI fa)])), (m1, qA (E 0) 635 ms), (m2, qA (E 0) 635 ma), (m3, qA (E 0) 3175 mv), (m4, qA (E 0) 140 mt), (m5, qA (E 0) 2 mn), (m6, qA (E 0) 64 ml), (m7, qA (E 0) 49152 mr)] 40 [(0, .ref m0), (1, .int (qI x1)), (2, .int (qI x2)), (3, .int (qI x3)), (4, .int (qI x4)), (5, .int (qI x5))] []) → ∀ x2 : Int, ∀ x3 : Int, ∀ x4 : Int, ∀ x5 : Int, ∀ K63 : Int → Int → Int → Prop, (∀ (x6 : Int) (x7 : Int) (x8 : Int), K63 x6 x7 x8 → qZ X 0 0 [(m0, .inr (5, [.int (qI th), .ref m1, .ref m2, .ref m3, .int (qI sm), .ref m4, .int (qI le), .ref m5, .ref m6, .ref m7, .int (qI tk), .int (qI fr), .int (qI ti), .int (qI fa)])), (m1, qA (E 0) 635 ms), (m2, qA (E 0) 635 ma), (m3, qA (E 0) 3175 mv), (m4, qA (E 0) 140 mt), (m5, qA (E 0) 2 mn), (m6, qA (E 0) 64 ml), (m7, qA (E 0) 49152 mr)] 63 [(0, .ref m0), (1, .int (qI x1)), (2, .int (qI x2)), (3, .int (qI x3)), (4, .int (qI x4)), (5, .int (qI x5)), (6, .int (qI x6)), (7, .int (qI x7)), (8, .int (qI x8))] []) → ∀ x6 : Int, ∀ x7 : Int, ∀ x8 : Int, ∀ x9 : Int, ∀ k0 : Int, wp_X5_leastTravel_163 Φ K40 K63 x1 x2 x3 x4 x5 x6 x7 x8 x9 k0 th ms mr → qZ X 0 0 [(m0, .inr (5, [.int (qI th), .ref m1, .ref m2, .ref m3, .int (qI sm), .ref m4, .int (qI le), .ref m5, .ref m6, .ref m7, .int (qI tk), .int (qI fr), .int (qI ti), .int (qI fa)])), (m1, qA (E 0) 635 ms), (m2, qA (E 0) 635 ma), (m3, qA (E 0) 3175 mv), (m4, qA (E 0) 140 mt), (m5, qA (E 0) 2 mn), (m6, qA (E 0) 64 ml), (m7, qA (E 0) 49152 mr)] 163 [(0, .ref m0), (1, .int (qI x1)), (2, .int (qI x2)), (3, .int (qI x3)), (4, .int (qI x4)), (5, .int (qI x5)), (6, .int (qI x6)), (7, .int (qI x7)), (8, .int (qI x8)), (9, .int (qI x9))] [.int (qI k0)] := by
    intro x1 th mr K40 hK40 x2 x3 x4 x5 K63 hK63 x6 x7 x8 x9 k0 hw
    unfold wp_X5_leastTravel_163 at hw
    refine z_istore C (by decide) rfl dX5_leastTravel_163 ?_
    refine z_iload C 0 rfl dX5_leastTravel_165 ?_
    refine z_if_eq (tgt := 175) C hw.1 (by decide) dX5_leastTravel_167 (fun c8 => ?_) (fun c8 => ?_)
    · replace hw := hw.2.1 c8
      refine z_iload C 7 rfl dX5_leastTravel_175 ?_
      refine z_lst (ps := [1, 2, 3, 4, 5, 6, 8, 9, 10, 0]) (lv' := [(0, .ref m0), (1, .int (qI x1)), (2, .int (qI x2)), (3, .int (qI x3)), (4, .int (qI x4)), (5, .int (qI x5)), (7, .int (qI x7)), (8, .int (qI x8)), (9, .int (qI x9)), (10, .int (qI k0))]) (st' := [.int (qI x6)]) rfl rfl ?_
      exact hB177 x1 th mr _ hK40 x2 x3 x4 x5 _ hK63 x7 x8 x9 k0 x6 hw
    · replace hw := hw.2.2 c8
      refine z_iload C 9 rfl dX5_leastTravel_170 ?_
      refine z_goto (tgt := 177) C (by decide) dX5_leastTravel_172 ?_
      refine z_lst (ps := [1, 2, 3, 4, 5, 6, 8, 9, 10, 0]) (lv' := [(0, .ref m0), (1, .int (qI x1)), (2, .int (qI x2)), (3, .int (qI x3)), (4, .int (qI x4)), (5, .int (qI x5)), (7, .int (qI x7)), (8, .int (qI x8)), (9, .int (qI x9)), (10, .int (qI k0))]) (st' := [.int (qI x8)]) rfl rfl ?_
      exact hB177 x1 th mr _ hK40 x2 x3 x4 x5 _ hK63 x7 x8 x9 k0 x8 hw
  have hB162 : ∀ x1 : Int, ∀ th : Int, ∀ mr : Nat → Int, ∀ K40 : Int → Int → Int → Int → Prop, (∀ (x2 : Int) (x3 : Int) (x4 : Int) (x5 : Int), K40 x2 x3 x4 x5 → qZ X 0 0 [(m0, .inr (5, [.int (qI th), .ref m1, .ref m2, .ref m3, .int (qI sm), .ref m4, .int (qI le), .ref m5, .ref m6, .ref m7, .int (qI tk), .int (qI fr), .int (qI ti), .int (qI fa)])), (m1, qA (E 0) 635 ms), (m2, qA (E 0) 635 ma), (m3, qA (E 0) 3175 mv), (m4, qA (E 0) 140 mt), (m5, qA (E 0) 2 mn), (m6, qA (E 0) 64 ml), (m7, qA (E 0) 49152 mr)] 40 [(0, .ref m0), (1, .int (qI x1)), (2, .int (qI x2)), (3, .int (qI x3)), (4, .int (qI x4)), (5, .int (qI x5))] []) → ∀ x2 : Int, ∀ x3 : Int, ∀ x4 : Int, ∀ x5 : Int, ∀ K63 : Int → Int → Int → Prop, (∀ (x6 : Int) (x7 : Int) (x8 : Int), K63 x6 x7 x8 → qZ X 0 0 [(m0, .inr (5, [.int (qI th), .ref m1, .ref m2, .ref m3, .int (qI sm), .ref m4, .int (qI le), .ref m5, .ref m6, .ref m7, .int (qI tk), .int (qI fr), .int (qI ti), .int (qI fa)])), (m1, qA (E 0) 635 ms), (m2, qA (E 0) 635 ma), (m3, qA (E 0) 3175 mv), (m4, qA (E 0) 140 mt), (m5, qA (E 0) 2 mn), (m6, qA (E 0) 64 ml), (m7, qA (E 0) 49152 mr)] 63 [(0, .ref m0), (1, .int (qI x1)), (2, .int (qI x2)), (3, .int (qI x3)), (4, .int (qI x4)), (5, .int (qI x5)), (6, .int (qI x6)), (7, .int (qI x7)), (8, .int (qI x8))] []) → ∀ x6 : Int, ∀ x7 : Int, ∀ x8 : Int, ∀ x9 : Int, wp_X5_leastTravel_162 Φ K40 K63 x1 x2 x3 x4 x5 x6 x7 x8 x9 th ms mr → qZ X 0 0 [(m0, .inr (5, [.int (qI th), .ref m1, .ref m2, .ref m3, .int (qI sm), .ref m4, .int (qI le), .ref m5, .ref m6, .ref m7, .int (qI tk), .int (qI fr), .int (qI ti), .int (qI fa)])), (m1, qA (E 0) 635 ms), (m2, qA (E 0) 635 ma), (m3, qA (E 0) 3175 mv), (m4, qA (E 0) 140 mt), (m5, qA (E 0) 2 mn), (m6, qA (E 0) 64 ml), (m7, qA (E 0) 49152 mr)] 162 [(0, .ref m0), (1, .int (qI x1)), (2, .int (qI x2)), (3, .int (qI x3)), (4, .int (qI x4)), (5, .int (qI x5)), (6, .int (qI x6)), (7, .int (qI x7)), (8, .int (qI x8)), (9, .int (qI x9))] [] := by
    intro x1 th mr K40 hK40 x2 x3 x4 x5 K63 hK63 x6 x7 x8 x9 hw
    unfold wp_X5_leastTravel_162 at hw
    refine z_iconst C dX5_leastTravel_162 ?_
    refine z_lst (ps := [0, 1, 2, 3, 4, 5, 6, 7, 8, 9]) (lv' := [(0, .ref m0), (1, .int (qI x1)), (2, .int (qI x2)), (3, .int (qI x3)), (4, .int (qI x4)), (5, .int (qI x5)), (6, .int (qI x6)), (7, .int (qI x7)), (8, .int (qI x8)), (9, .int (qI x9))]) (st' := [.int (qI (0 : Int))]) rfl rfl ?_
    exact hB163 x1 th mr _ hK40 x2 x3 x4 x5 _ hK63 x6 x7 x8 x9 (0 : Int) hw
  have hB158 : ∀ x1 : Int, ∀ th : Int, ∀ mr : Nat → Int, ∀ K40 : Int → Int → Int → Int → Prop, (∀ (x2 : Int) (x3 : Int) (x4 : Int) (x5 : Int), K40 x2 x3 x4 x5 → qZ X 0 0 [(m0, .inr (5, [.int (qI th), .ref m1, .ref m2, .ref m3, .int (qI sm), .ref m4, .int (qI le), .ref m5, .ref m6, .ref m7, .int (qI tk), .int (qI fr), .int (qI ti), .int (qI fa)])), (m1, qA (E 0) 635 ms), (m2, qA (E 0) 635 ma), (m3, qA (E 0) 3175 mv), (m4, qA (E 0) 140 mt), (m5, qA (E 0) 2 mn), (m6, qA (E 0) 64 ml), (m7, qA (E 0) 49152 mr)] 40 [(0, .ref m0), (1, .int (qI x1)), (2, .int (qI x2)), (3, .int (qI x3)), (4, .int (qI x4)), (5, .int (qI x5))] []) → ∀ x2 : Int, ∀ x3 : Int, ∀ x4 : Int, ∀ x5 : Int, ∀ K63 : Int → Int → Int → Prop, (∀ (x6 : Int) (x7 : Int) (x8 : Int), K63 x6 x7 x8 → qZ X 0 0 [(m0, .inr (5, [.int (qI th), .ref m1, .ref m2, .ref m3, .int (qI sm), .ref m4, .int (qI le), .ref m5, .ref m6, .ref m7, .int (qI tk), .int (qI fr), .int (qI ti), .int (qI fa)])), (m1, qA (E 0) 635 ms), (m2, qA (E 0) 635 ma), (m3, qA (E 0) 3175 mv), (m4, qA (E 0) 140 mt), (m5, qA (E 0) 2 mn), (m6, qA (E 0) 64 ml), (m7, qA (E 0) 49152 mr)] 63 [(0, .ref m0), (1, .int (qI x1)), (2, .int (qI x2)), (3, .int (qI x3)), (4, .int (qI x4)), (5, .int (qI x5)), (6, .int (qI x6)), (7, .int (qI x7)), (8, .int (qI x8))] []) → ∀ x6 : Int, ∀ x7 : Int, ∀ x8 : Int, ∀ x9 : Int, wp_X5_leastTravel_158 Φ K40 K63 x1 x2 x3 x4 x5 x6 x7 x8 x9 th ms mr → qZ X 0 0 [(m0, .inr (5, [.int (qI th), .ref m1, .ref m2, .ref m3, .int (qI sm), .ref m4, .int (qI le), .ref m5, .ref m6, .ref m7, .int (qI tk), .int (qI fr), .int (qI ti), .int (qI fa)])), (m1, qA (E 0) 635 ms), (m2, qA (E 0) 635 ma), (m3, qA (E 0) 3175 mv), (m4, qA (E 0) 140 mt), (m5, qA (E 0) 2 mn), (m6, qA (E 0) 64 ml), (m7, qA (E 0) 49152 mr)] 158 [(0, .ref m0), (1, .int (qI x1)), (2, .int (qI x2)), (3, .int (qI x3)), (4, .int (qI x4)), (5, .int (qI x5)), (6, .int (qI x6)), (7, .int (qI x7)), (8, .int (qI x8)), (9, .int (qI x9))] [] := by
    intro x1 th mr K40 hK40 x2 x3 x4 x5 K63 hK63 x6 x7 x8 x9 hw
    unfold wp_X5_leastTravel_158 at hw
    refine z_iconst C dX5_leastTravel_158 ?_
    refine z_goto (tgt := 163) C (by decide) dX5_leastTravel_159 ?_
    refine z_lst (ps := [0, 1, 2, 3, 4, 5, 6, 7, 8, 9]) (lv' := [(0, .ref m0), (1, .int (qI x1)), (2, .int (qI x2)), (3, .int (qI x3)), (4, .int (qI x4)), (5, .int (qI x5)), (6, .int (qI x6)), (7, .int (qI x7)), (8, .int (qI x8)), (9, .int (qI x9))]) (st' := [.int (qI (1 : Int))]) rfl rfl ?_
    exact hB163 x1 th mr _ hK40 x2 x3 x4 x5 _ hK63 x6 x7 x8 x9 (1 : Int) hw
  have hB120 : ∀ x1 : Int, ∀ th : Int, ∀ mr : Nat → Int, ∀ K40 : Int → Int → Int → Int → Prop, (∀ (x2 : Int) (x3 : Int) (x4 : Int) (x5 : Int), K40 x2 x3 x4 x5 → qZ X 0 0 [(m0, .inr (5, [.int (qI th), .ref m1, .ref m2, .ref m3, .int (qI sm), .ref m4, .int (qI le), .ref m5, .ref m6, .ref m7, .int (qI tk), .int (qI fr), .int (qI ti), .int (qI fa)])), (m1, qA (E 0) 635 ms), (m2, qA (E 0) 635 ma), (m3, qA (E 0) 3175 mv), (m4, qA (E 0) 140 mt), (m5, qA (E 0) 2 mn), (m6, qA (E 0) 64 ml), (m7, qA (E 0) 49152 mr)] 40 [(0, .ref m0), (1, .int (qI x1)), (2, .int (qI x2)), (3, .int (qI x3)), (4, .int (qI x4)), (5, .int (qI x5))] []) → ∀ x2 : Int, ∀ x3 : Int, ∀ x4 : Int, ∀ x5 : Int, ∀ K63 : Int → Int → Int → Prop, (∀ (x6 : Int) (x7 : Int) (x8 : Int), K63 x6 x7 x8 → qZ X 0 0 [(m0, .inr (5, [.int (qI th), .ref m1, .ref m2, .ref m3, .int (qI sm), .ref m4, .int (qI le), .ref m5, .ref m6, .ref m7, .int (qI tk), .int (qI fr), .int (qI ti), .int (qI fa)])), (m1, qA (E 0) 635 ms), (m2, qA (E 0) 635 ma), (m3, qA (E 0) 3175 mv), (m4, qA (E 0) 140 mt), (m5, qA (E 0) 2 mn), (m6, qA (E 0) 64 ml), (m7, qA (E 0) 49152 mr)] 63 [(0, .ref m0), (1, .int (qI x1)), (2, .int (qI x2)), (3, .int (qI x3)), (4, .int (qI x4)), (5, .int (qI x5)), (6, .int (qI x6)), (7, .int (qI x7)), (8, .int (qI x8))] []) → ∀ x6 : Int, ∀ x7 : Int, ∀ x8 : Int, ∀ k0 : Int, wp_X5_leastTravel_120 Φ K40 K63 x1 x2 x3 x4 x5 x6 x7 x8 k0 th ms mr → qZ X 0 0 [(m0, .inr (5, [.int (qI th), .ref m1, .ref m2, .ref m3, .int (qI sm), .ref m4, .int (qI le), .ref m5, .ref m6, .ref m7, .int (qI tk), .int (qI fr), .int (qI ti), .int (qI fa)])), (m1, qA (E 0) 635 ms), (m2, qA (E 0) 635 ma), (m3, qA (E 0) 3175 mv), (m4, qA (E 0) 140 mt), (m5, qA (E 0) 2 mn), (m6, qA (E 0) 64 ml), (m7, qA (E 0) 49152 mr)] 120 [(0, .ref m0), (1, .int (qI x1)), (2, .int (qI x2)), (3, .int (qI x3)), (4, .int (qI x4)), (5, .int (qI x5)), (6, .int (qI x6)), (7, .int (qI x7)), (8, .int (qI x8))] [.int (qI k0)] := by
    intro x1 th mr K40 hK40 x2 x3 x4 x5 K63 hK63 x6 x7 x8 k0 hw
    unfold wp_X5_leastTravel_120 at hw
    refine z_istore C (by decide) rfl dX5_leastTravel_120 ?_
    refine z_iload C 0 rfl dX5_leastTravel_122 ?_
    refine z_iload C 8 rfl dX5_leastTravel_124 ?_
    refine z_icmp_lt (tgt := 158) C hw.1 (by decide) dX5_leastTravel_126 (fun c9 => ?_) (fun c9 => ?_)
    · replace hw := hw.2.1 c9
      refine z_lst (ps := [1, 2, 3, 4, 5, 6, 7, 8, 9, 0]) (lv' := [(0, .ref m0), (1, .int (qI x1)), (2, .int (qI x2)), (3, .int (qI x3)), (4, .int (qI x4)), (5, .int (qI x5)), (6, .int (qI x6)), (7, .int (qI x7)), (8, .int (qI x8)), (9, .int (qI k0))]) (st' := []) rfl rfl ?_
      exact hB158 x1 th mr _ hK40 x2 x3 x4 x5 _ hK63 x6 x7 x8 k0 hw
    · replace hw := hw.2.2 c9
      refine z_iload C 0 rfl dX5_leastTravel_129 ?_
      refine z_iload C 8 rfl dX5_leastTravel_131 ?_
      refine z_icmp_ne (tgt := 162) C hw.1 (by decide) dX5_leastTravel_133 (fun c10 => ?_) (fun c10 => ?_)
      · replace hw := hw.2.1 c10
        refine z_lst (ps := [1, 2, 3, 4, 5, 6, 7, 8, 9, 0]) (lv' := [(0, .ref m0), (1, .int (qI x1)), (2, .int (qI x2)), (3, .int (qI x3)), (4, .int (qI x4)), (5, .int (qI x5)), (6, .int (qI x6)), (7, .int (qI x7)), (8, .int (qI x8)), (9, .int (qI k0))]) (st' := []) rfl rfl ?_
        exact hB162 x1 th mr _ hK40 x2 x3 x4 x5 _ hK63 x6 x7 x8 k0 hw
      · replace hw := hw.2.2 c10
        refine z_iload C 0 rfl dX5_leastTravel_136 ?_
        refine z_ldc (v := (100000 : Int)) C (List.mem_of_getElem? (i := 3) rfl) dX5_leastTravel_138 ?_
        refine z_icmp_ge (tgt := 162) C hw.1 (by decide) dX5_leastTravel_140 (fun c11 => ?_) (fun c11 => ?_)
        · replace hw := hw.2.1 c11
          refine z_lst (ps := [1, 2, 3, 4, 5, 6, 7, 8, 9, 0]) (lv' := [(0, .ref m0), (1, .int (qI x1)), (2, .int (qI x2)), (3, .int (qI x3)), (4, .int (qI x4)), (5, .int (qI x5)), (6, .int (qI x6)), (7, .int (qI x7)), (8, .int (qI x8)), (9, .int (qI k0))]) (st' := []) rfl rfl ?_
          exact hB162 x1 th mr _ hK40 x2 x3 x4 x5 _ hK63 x6 x7 x8 k0 hw
        · replace hw := hw.2.2 c11
          refine z_aload_n C 1 rfl rfl dX5_leastTravel_143 ?_
          refine z_iload C 9 rfl dX5_leastTravel_144 ?_
          refine z_callV (n := 1) C (c_X5_spotAt l D E m0 m1 m2 m3 m4 m5 m6 m7 th sm le tk fr ti fa ms ma mv mt mn ml mr x8 hw) qF0_ok (fun _ _ _ => trivial) gX5_leastTravel_X5_spotAt rfl (by decide +kernel) ⟨(Nat.le_of_ble_eq_true rfl), (Nat.le_of_ble_eq_true rfl)⟩ rfl 0 rfl rfl [0, 1, 2, 3, 4, 5, 6, 7] rfl rfl (Nat.le_of_ble_eq_true rfl) dX5_leastTravel_146 (fun r12 hw => ?_)
          show qZ X 0 0 [(m0, .inr (5, [.int (qI th), .ref m1, .ref m2, .ref m3, .int (qI sm), .ref m4, .int (qI le), .ref m5, .ref m6, .ref m7, .int (qI tk), .int (qI fr), .int (qI ti), .int (qI fa)])), (m1, qA (E 0) 635 ms), (m2, qA (E 0) 635 ma), (m3, qA (E 0) 3175 mv), (m4, qA (E 0) 140 mt), (m5, qA (E 0) 2 mn), (m6, qA (E 0) 64 ml), (m7, qA (E 0) 49152 mr)] _ _ [.int (qI r12)]
          refine z_aload_n C 1 rfl rfl dX5_leastTravel_149 ?_
          refine z_iload C 7 rfl dX5_leastTravel_150 ?_
          refine z_callV (n := 1) C (c_X5_spotAt l D E m0 m1 m2 m3 m4 m5 m6 m7 th sm le tk fr ti fa ms ma mv mt mn ml mr x6 hw) qF0_ok (fun _ _ _ => trivial) gX5_leastTravel_X5_spotAt rfl (by decide +kernel) ⟨(Nat.le_of_ble_eq_true rfl), (Nat.le_of_ble_eq_true rfl)⟩ rfl 0 rfl rfl [0, 1, 2, 3, 4, 5, 6, 7] rfl rfl (Nat.le_of_ble_eq_true rfl) dX5_leastTravel_152 (fun r13 hw => ?_)
          show qZ X 0 0 [(m0, .inr (5, [.int (qI th), .ref m1, .ref m2, .ref m3, .int (qI sm), .ref m4, .int (qI le), .ref m5, .ref m6, .ref m7, .int (qI tk), .int (qI fr), .int (qI ti), .int (qI fa)])), (m1, qA (E 0) 635 ms), (m2, qA (E 0) 635 ma), (m3, qA (E 0) 3175 mv), (m4, qA (E 0) 140 mt), (m5, qA (E 0) 2 mn), (m6, qA (E 0) 64 ml), (m7, qA (E 0) 49152 mr)] _ _ [.int (qI r13), .int (qI r12)]
          refine z_icmp_ge (tgt := 162) C hw.1 (by decide) dX5_leastTravel_155 (fun c14 => ?_) (fun c14 => ?_)
          · replace hw := hw.2.1 c14
            refine z_lst (ps := [1, 2, 3, 4, 5, 6, 7, 8, 9, 0]) (lv' := [(0, .ref m0), (1, .int (qI x1)), (2, .int (qI x2)), (3, .int (qI x3)), (4, .int (qI x4)), (5, .int (qI x5)), (6, .int (qI x6)), (7, .int (qI x7)), (8, .int (qI x8)), (9, .int (qI k0))]) (st' := []) rfl rfl ?_
            exact hB162 x1 th mr _ hK40 x2 x3 x4 x5 _ hK63 x6 x7 x8 k0 hw
          · replace hw := hw.2.2 c14
            refine z_lst (ps := [1, 2, 3, 4, 5, 6, 7, 8, 9, 0]) (lv' := [(0, .ref m0), (1, .int (qI x1)), (2, .int (qI x2)), (3, .int (qI x3)), (4, .int (qI x4)), (5, .int (qI x5)), (6, .int (qI x6)), (7, .int (qI x7)), (8, .int (qI x8)), (9, .int (qI k0))]) (st' := []) rfl rfl ?_
            exact hB158 x1 th mr _ hK40 x2 x3 x4 x5 _ hK63 x6 x7 x8 k0 hw
  have hB63 : ∀ x1 : Int, ∀ th : Int, ∀ mr : Nat → Int, ∀ K40 : Int → Int → Int → Int → Prop, (∀ (x2 : Int) (x3 : Int) (x4 : Int) (x5 : Int), K40 x2 x3 x4 x5 → qZ X 0 0 [(m0, .inr (5, [.int (qI th), .ref m1, .ref m2, .ref m3, .int (qI sm), .ref m4, .int (qI le), .ref m5, .ref m6, .ref m7, .int (qI tk), .int (qI fr), .int (qI ti), .int (qI fa)])), (m1, qA (E 0) 635 ms), (m2, qA (E 0) 635 ma), (m3, qA (E 0) 3175 mv), (m4, qA (E 0) 140 mt), (m5, qA (E 0) 2 mn), (m6, qA (E 0) 64 ml), (m7, qA (E 0) 49152 mr)] 40 [(0, .ref m0), (1, .int (qI x1)), (2, .int (qI x2)), (3, .int (qI x3)), (4, .int (qI x4)), (5, .int (qI x5))] []) → ∀ x2 : Int, ∀ x3 : Int, ∀ x4 : Int, ∀ x5 : Int, ∀ n8 : Nat, ∀ x6 : Int, ∀ x7 : Int, ∀ x8 : Int, wp_X5_leastTravel_63 Φ K40 x1 x2 x3 x4 x5 th ms mr n8 x6 x7 x8 → qZ X 0 0 [(m0, .inr (5, [.int (qI th), .ref m1, .ref m2, .ref m3, .int (qI sm), .ref m4, .int (qI le), .ref m5, .ref m6, .ref m7, .int (qI tk), .int (qI fr), .int (qI ti), .int (qI fa)])), (m1, qA (E 0) 635 ms), (m2, qA (E 0) 635 ma), (m3, qA (E 0) 3175 mv), (m4, qA (E 0) 140 mt), (m5, qA (E 0) 2 mn), (m6, qA (E 0) 64 ml), (m7, qA (E 0) 49152 mr)] 63 [(0, .ref m0), (1, .int (qI x1)), (2, .int (qI x2)), (3, .int (qI x3)), (4, .int (qI x4)), (5, .int (qI x5)), (6, .int (qI x6)), (7, .int (qI x7)), (8, .int (qI x8))] [] := by
    intro x1 th mr K40 hK40 x2 x3 x4 x5 n8
    induction n8 with
    | zero =>
      intro x6 x7 x8 hw
      exact hw.elim
    | succ n9 ih =>
      intro x6 x7 x8 hw
      unfold wp_X5_leastTravel_63 at hw
      refine z_iload C 8 rfl dX5_leastTravel_63 ?_
      refine z_aload_n C 0 rfl rfl dX5_leastTravel_65 ?_
      refine z_get C iX5_leastTravel_X5 0 rfl rfl 1 (by decide) (List.mem_of_getElem? (i := 2) rfl) rfl rfl dX5_leastTravel_66 ?_
      refine z_bipush C (by decide +kernel) dX5_leastTravel_69 ?_
      refine z_iald C 1 rfl (by decide) hw.1 dX5_leastTravel_71 ?_
      replace hw := hw.2
      refine z_name (fun v15 ev15 => ?_)
      replace hw := hw v15 ev15
      refine z_icmp_ge (tgt := 199) C hw.1 (by decide) dX5_leastTravel_72 (fun c16 => ?_) (fun c16 => ?_)
      · replace hw := hw.2.1 c16
        refine z_iload C 5 rfl dX5_leastTravel_199 ?_
        refine z_if_ne (tgt := 209) C hw.1 (by decide) dX5_leastTravel_201 (fun c17 => ?_) (fun c17 => ?_)
        · replace hw := hw.2.1 c17
          refine z_iload_n C 2 rfl rfl dX5_leastTravel_209 ?_
          refine z_lst (ps := [0, 1, 4, 5, 6]) (lv' := [(0, .ref m0), (1, .int (qI x1)), (4, .int (qI x4)), (5, .int (qI x5)), (6, .int (qI x6))]) (st' := [.int (qI x2)]) rfl rfl ?_
          exact hB210 x1 th mr _ hK40 x4 x5 x6 x2 hw
        · replace hw := hw.2.2 c17
          refine z_iload C 7 rfl dX5_leastTravel_204 ?_
          refine z_goto (tgt := 210) C (by decide) dX5_leastTravel_206 ?_
          refine z_lst (ps := [0, 1, 4, 5, 6]) (lv' := [(0, .ref m0), (1, .int (qI x1)), (4, .int (qI x4)), (5, .int (qI x5)), (6, .int (qI x6))]) (st' := [.int (qI x7)]) rfl rfl ?_
          exact hB210 x1 th mr _ hK40 x4 x5 x6 x7 hw
      · replace hw := hw.2.2 c16
        refine z_iload C 4 rfl dX5_leastTravel_75 ?_
        refine z_iload C 8 rfl dX5_leastTravel_77 ?_
        refine z_ishr C dX5_leastTravel_79 ?_
        refine z_name (fun v18 ev18 => ?_)
        replace hw := hw v18 ev18
        refine z_iconst C dX5_leastTravel_80 ?_
        refine z_iand C dX5_leastTravel_81 ?_
        refine z_name (fun v19 ev19 => ?_)
        replace hw := hw v19 ev19
        refine z_iconst C dX5_leastTravel_82 ?_
        refine z_icmp_ne (tgt := 91) C hw.1 (by decide) dX5_leastTravel_83 (fun c20 => ?_) (fun c20 => ?_)
        · replace hw := hw.2.1 c20
          refine z_iload_n C 3 rfl rfl dX5_leastTravel_91 ?_
          refine z_aload_n C 0 rfl rfl dX5_leastTravel_92 ?_
          refine z_iload C 8 rfl dX5_leastTravel_93 ?_
          refine z_callV (n := 1) C (c_X5_spotAt l D E m0 m1 m2 m3 m4 m5 m6 m7 th sm le tk fr ti fa ms ma mv mt mn ml mr x8 hw) qF0_ok (fun _ _ _ => trivial) gX5_leastTravel_X5_spotAt rfl (by decide +kernel) ⟨(Nat.le_of_ble_eq_true rfl), (Nat.le_of_ble_eq_true rfl)⟩ rfl 0 rfl rfl [0, 1, 2, 3, 4, 5, 6, 7] rfl rfl (Nat.le_of_ble_eq_true rfl) dX5_leastTravel_95 (fun r21 hw => ?_)
          show qZ X 0 0 [(m0, .inr (5, [.int (qI th), .ref m1, .ref m2, .ref m3, .int (qI sm), .ref m4, .int (qI le), .ref m5, .ref m6, .ref m7, .int (qI tk), .int (qI fr), .int (qI ti), .int (qI fa)])), (m1, qA (E 0) 635 ms), (m2, qA (E 0) 635 ma), (m3, qA (E 0) 3175 mv), (m4, qA (E 0) 140 mt), (m5, qA (E 0) 2 mn), (m6, qA (E 0) 64 ml), (m7, qA (E 0) 49152 mr)] _ _ [.int (qI r21), .int (qI x3)]
          refine z_callS (n := 2) C (c_X5_way l D E   x3 r21 hw) qF0_ok (fun _ _ _ => trivial) gX5_leastTravel_X5_way rfl (by decide +kernel) ⟨(Nat.le_of_ble_eq_true rfl), (Nat.le_of_ble_eq_true rfl)⟩ rfl [] rfl rfl (Nat.le_of_ble_eq_true rfl) dX5_leastTravel_98 (fun r22 hw => ?_)
          show qZ X 0 0 [(m0, .inr (5, [.int (qI th), .ref m1, .ref m2, .ref m3, .int (qI sm), .ref m4, .int (qI le), .ref m5, .ref m6, .ref m7, .int (qI tk), .int (qI fr), .int (qI ti), .int (qI fa)])), (m1, qA (E 0) 635 ms), (m2, qA (E 0) 635 ma), (m3, qA (E 0) 3175 mv), (m4, qA (E 0) 140 mt), (m5, qA (E 0) 2 mn), (m6, qA (E 0) 64 ml), (m7, qA (E 0) 49152 mr)] _ _ [.int (qI r22)]
          refine z_aload_n C 0 rfl rfl dX5_leastTravel_101 ?_
          refine z_get C iX5_leastTravel_X5 0 rfl rfl 9 (by decide) (List.mem_of_getElem? (i := 4) rfl) rfl rfl dX5_leastTravel_102 ?_
          refine z_bipush C (by decide +kernel) dX5_leastTravel_105 ?_
          refine z_iload C 4 rfl dX5_leastTravel_107 ?_
          refine z_iconst C dX5_leastTravel_109 ?_
          refine z_iload C 8 rfl dX5_leastTravel_110 ?_
          refine z_ishl C dX5_leastTravel_112 ?_
          refine z_name (fun v23 ev23 => ?_)
          replace hw := hw v23 ev23
          refine z_ior C dX5_leastTravel_113 ?_
          refine z_name (fun v24 ev24 => ?_)
          replace hw := hw v24 ev24
          refine z_imul C dX5_leastTravel_114 ?_
          refine z_iload C 8 rfl dX5_leastTravel_115 ?_
          refine z_iadd C dX5_leastTravel_117 ?_
          refine z_iald C 7 rfl (by decide) hw.1 dX5_leastTravel_118 ?_
          replace hw := hw.2
          refine z_name (fun v25 ev25 => ?_)
          replace hw := hw v25 ev25
          refine z_iadd C dX5_leastTravel_119 ?_
          refine z_lst (ps := [0, 1, 2, 3, 4, 5, 6, 7, 8]) (lv' := [(0, .ref m0), (1, .int (qI x1)), (2, .int (qI x2)), (3, .int (qI x3)), (4, .int (qI x4)), (5, .int (qI x5)), (6, .int (qI x6)), (7, .int (qI x7)), (8, .int (qI x8))]) (st' := [.int (qI (r22 + v25))]) rfl rfl ?_
          exact hB120 x1 th mr _ hK40 x2 x3 x4 x5 _ ih x6 x7 x8 (r22 + v25) hw
        · replace hw := hw.2.2 c20
          refine z_ldc (v := (100000 : Int)) C (List.mem_of_getElem? (i := 3) rfl) dX5_leastTravel_86 ?_
          refine z_goto (tgt := 120) C (by decide) dX5_leastTravel_88 ?_
          refine z_lst (ps := [0, 1, 2, 3, 4, 5, 6, 7, 8]) (lv' := [(0, .ref m0), (1, .int (qI x1)), (2, .int (qI x2)), (3, .int (qI x3)), (4, .int (qI x4)), (5, .int (qI x5)), (6, .int (qI x6)), (7, .int (qI x7)), (8, .int (qI x8))]) (st' := [.int (qI (100000 : Int))]) rfl rfl ?_
          exact hB120 x1 th mr _ hK40 x2 x3 x4 x5 _ ih x6 x7 x8 (100000 : Int) hw
  have hB40 : ∀ x1 : Int, ∀ th : Int, ∀ mr : Nat → Int, ∀ n8 : Nat, ∀ x2 : Int, ∀ x3 : Int, ∀ x4 : Int, ∀ x5 : Int, wp_X5_leastTravel_40 Φ  x1 th ms mr n8 x2 x3 x4 x5 → qZ X 0 0 [(m0, .inr (5, [.int (qI th), .ref m1, .ref m2, .ref m3, .int (qI sm), .ref m4, .int (qI le), .ref m5, .ref m6, .ref m7, .int (qI tk), .int (qI fr), .int (qI ti), .int (qI fa)])), (m1, qA (E 0) 635 ms), (m2, qA (E 0) 635 ma), (m3, qA (E 0) 3175 mv), (m4, qA (E 0) 140 mt), (m5, qA (E 0) 2 mn), (m6, qA (E 0) 64 ml), (m7, qA (E 0) 49152 mr)] 40 [(0, .ref m0), (1, .int (qI x1)), (2, .int (qI x2)), (3, .int (qI x3)), (4, .int (qI x4)), (5, .int (qI x5))] [] := by
    intro x1 th mr n8
    induction n8 with
    | zero =>
      intro x2 x3 x4 x5 hw
      exact hw.elim
    | succ n9 ih =>
      intro x2 x3 x4 x5 hw
      unfold wp_X5_leastTravel_40 at hw
      refine z_iload C 5 rfl dX5_leastTravel_40 ?_
      refine z_aload_n C 0 rfl rfl dX5_leastTravel_42 ?_
      refine z_get C iX5_leastTravel_X5 0 rfl rfl 1 (by decide) (List.mem_of_getElem? (i := 2) rfl) rfl rfl dX5_leastTravel_43 ?_
      refine z_bipush C (by decide +kernel) dX5_leastTravel_46 ?_
      refine z_iald C 1 rfl (by decide) hw.1 dX5_leastTravel_48 ?_
      replace hw := hw.2
      refine z_name (fun v26 ev26 => ?_)
      replace hw := hw v26 ev26
      refine z_icmp_ge (tgt := 241) C hw.1 (by decide) dX5_leastTravel_49 (fun c27 => ?_) (fun c27 => ?_)
      · replace hw := hw.2.1 c27
        refine z_iload_n C 2 rfl rfl dX5_leastTravel_241 ?_
        exact hend 242 _ x2 (th, mr) dX5_leastTravel_242 hw
      · replace hw := hw.2.2 c27
        refine z_bipush C (by decide +kernel) dX5_leastTravel_52 ?_
        refine z_istore C (by decide) rfl dX5_leastTravel_54 ?_
        refine z_ldc (v := (100000 : Int)) C (List.mem_of_getElem? (i := 3) rfl) dX5_leastTravel_56 ?_
        refine z_istore C (by decide) rfl dX5_leastTravel_58 ?_
        refine z_iconst C dX5_leastTravel_60 ?_
        refine z_istore C (by decide) rfl dX5_leastTravel_61 ?_
        refine z_lst (ps := [3, 4, 5, 6, 7, 8, 2, 1, 0]) (lv' := [(0, .ref m0), (1, .int (qI x1)), (2, .int (qI x2)), (3, .int (qI x3)), (4, .int (qI x4)), (5, .int (qI x5)), (6, .int (qI (-9 : Int))), (7, .int (qI (100000 : Int))), (8, .int (qI (0 : Int)))]) (st' := []) rfl rfl ?_
        obtain ⟨n8, hw⟩ := hw
        exact hB63 x1 th mr _ ih x2 x3 x4 x5 n8 (-9 : Int) (100000 : Int) (0 : Int) hw
  unfold wp_X5_leastTravel at hw
  show qZ X 0 0 [(m0, .inr (5, [.int (qI th), .ref m1, .ref m2, .ref m3, .int (qI sm), .ref m4, .int (qI le), .ref m5, .ref m6, .ref m7, .int (qI tk), .int (qI fr), .int (qI ti), .int (qI fa)])), (m1, qA (E 0) 635 ms), (m2, qA (E 0) 635 ma), (m3, qA (E 0) 3175 mv), (m4, qA (E 0) 140 mt), (m5, qA (E 0) 2 mn), (m6, qA (E 0) 64 ml), (m7, qA (E 0) 49152 mr)] 0 [(0, .ref m0), (1, .int (qI x1))] []
  refine z_aload_n C 0 rfl rfl dX5_leastTravel_0 ?_
  refine z_iconst C dX5_leastTravel_1 ?_
  refine z_put (ty := .int) (ws' := [(m0, .inr (5, [.int (qI (0 : Int)), .ref m1, .ref m2, .ref m3, .int (qI sm), .ref m4, .int (qI le), .ref m5, .ref m6, .ref m7, .int (qI tk), .int (qI fr), .int (qI ti), .int (qI fa)])), (m1, qA (E 0) 635 ms), (m2, qA (E 0) 635 ma), (m3, qA (E 0) 3175 mv), (m4, qA (E 0) 140 mt), (m5, qA (E 0) 2 mn), (m6, qA (E 0) 64 ml), (m7, qA (E 0) 49152 mr)]) C iX5_leastTravel_X5 tyX5 tyX5_ok nmX5 0 rfl rfl 0 (by decide) (List.mem_of_getElem? (i := 1) rfl) rfl rfl (by decide +kernel) rfl rfl (Nat.le_of_ble_eq_true rfl) rfl dX5_leastTravel_2 ?_
  refine z_iload_n C 1 rfl rfl dX5_leastTravel_5 ?_
  refine z_iconst C dX5_leastTravel_6 ?_
  refine z_icmp_ge (tgt := 12) C hw.1 (by decide) dX5_leastTravel_7 (fun c28 => ?_) (fun c28 => ?_)
  · replace hw := hw.2.1 c28
    refine z_iload_n C 1 rfl rfl dX5_leastTravel_12 ?_
    refine z_aload_n C 0 rfl rfl dX5_leastTravel_13 ?_
    refine z_get C iX5_leastTravel_X5 0 rfl rfl 1 (by decide) (List.mem_of_getElem? (i := 2) rfl) rfl rfl dX5_leastTravel_14 ?_
    refine z_bipush C (by decide +kernel) dX5_leastTravel_17 ?_
    refine z_iald C 1 rfl (by decide) hw.1 dX5_leastTravel_19 ?_
    replace hw := hw.2
    refine z_name (fun v29 ev29 => ?_)
    replace hw := hw v29 ev29
    refine z_icmp_lt (tgt := 26) C hw.1 (by decide) dX5_leastTravel_20 (fun c30 => ?_) (fun c30 => ?_)
    · replace hw := hw.2.1 c30
      refine z_aload_n C 0 rfl rfl dX5_leastTravel_26 ?_
      refine z_callVW (n := 0) C (c_X5_reckonWays l D E m0 m1 m2 m3 m4 m5 m6 m7 (0 : Int) sm le tk fr ti fa ms ma mv mt mn ml mr  hw) qF0_ok (fun _ _ _ => trivial) gX5_leastTravel_X5_reckonWays rfl (by decide +kernel) ⟨(Nat.le_of_ble_eq_true rfl), (Nat.le_of_ble_eq_true rfl)⟩ rfl 0 rfl rfl [0, 1, 2, 3, 4, 5, 6, 7] [] (wr := []) rfl rfl rfl rfl (by decide) [0, 1, 2, 3, 4, 5, 6, 7] rfl (fun u9 => [(m0, .inr (5, [.int (qI (0 : Int)), .ref m1, .ref m2, .ref m3, .int (qI sm), .ref m4, .int (qI le), .ref m5, .ref m6, .ref m7, .int (qI tk), .int (qI fr), .int (qI ti), .int (qI fa)])), (m1, qA (E 0) 635 ms), (m2, qA (E 0) 635 ma), (m3, qA (E 0) 3175 mv), (m4, qA (E 0) 140 mt), (m5, qA (E 0) 2 mn), (m6, qA (E 0) 64 ml), (m7, qA (E 0) 49152 u9)]) (fun _ => rfl) rfl (Nat.le_of_ble_eq_true rfl) dX5_leastTravel_27 (fun r31 u9 hw => ?_)
      obtain ⟨g32, rfl⟩ : ∃ z, z = u9 := ⟨_, rfl⟩
      refine z_ws (ws' := [(m0, .inr (5, [.int (qI (0 : Int)), .ref m1, .ref m2, .ref m3, .int (qI sm), .ref m4, .int (qI le), .ref m5, .ref m6, .ref m7, .int (qI tk), .int (qI fr), .int (qI ti), .int (qI fa)])), (m1, qA (E 0) 635 ms), (m2, qA (E 0) 635 ma), (m3, qA (E 0) 3175 mv), (m4, qA (E 0) 140 mt), (m5, qA (E 0) 2 mn), (m6, qA (E 0) 64 ml), (m7, qA (E 0) 49152 g32)]) rfl ?_
      try dsimp only at hw
      show qZ X 0 0 [(m0, .inr (5, [.int (qI (0 : Int)), .ref m1, .ref m2, .ref m3, .int (qI sm), .ref m4, .int (qI le), .ref m5, .ref m6, .ref m7, .int (qI tk), .int (qI fr), .int (qI ti), .int (qI fa)])), (m1, qA (E 0) 635 ms), (m2, qA (E 0) 635 ma), (m3, qA (E 0) 3175 mv), (m4, qA (E 0) 140 mt), (m5, qA (E 0) 2 mn), (m6, qA (E 0) 64 ml), (m7, qA (E 0) 49152 g32)] _ _ []
      refine z_iconst C dX5_leastTravel_30 ?_
      refine z_istore_n C rfl (by decide) rfl dX5_leastTravel_31 ?_
      refine z_iconst C dX5_leastTravel_32 ?_
      refine z_istore_n C rfl (by decide) rfl dX5_leastTravel_33 ?_
      refine z_iconst C dX5_leastTravel_34 ?_
      refine z_istore C (by decide) rfl dX5_leastTravel_35 ?_
      refine z_iconst C dX5_leastTravel_37 ?_
      refine z_istore C (by decide) rfl dX5_leastTravel_38 ?_
      refine z_lst (ps := [4, 5, 3, 2, 1, 0]) (lv' := [(0, .ref m0), (1, .int (qI x1)), (2, .int (qI (0 : Int))), (3, .int (qI (0 : Int))), (4, .int (qI (0 : Int))), (5, .int (qI (0 : Int)))]) (st' := []) rfl rfl ?_
      obtain ⟨n8, hw⟩ := hw
      exact hB40 x1 (0 : Int) g32 n8 (0 : Int) (0 : Int) (0 : Int) (0 : Int) hw
    · replace hw := hw.2.2 c30
      refine z_bipush C (by decide +kernel) dX5_leastTravel_23 ?_
      exact hend 25 _ (-9 : Int) ((0 : Int), mr) dX5_leastTravel_25 hw
  · replace hw := hw.2.2 c28
    refine z_iconst C dX5_leastTravel_10 ?_
    exact hend 11 _ (-1 : Int) ((0 : Int), mr) dX5_leastTravel_11 hw
def wp_X5_longest_12 (Φ : Int → Int → (Nat → Int) → Prop)  (th : Int) (ms : Nat → Int) (ml : Nat → Int) : Nat → Int → Prop
  | 0, _ => False
  | n9 + 1, x1 => (qR x1 ∧ (x1 ≤ (0 : Int) → Φ (-9 : Int) th ml) ∧ (¬ (x1 ≤ (0 : Int)) → ((0 ≤ (3 : Int) ∧ (3 : Int) < 635) ∧ (∀ v2 : Int, v2 = ms ((3 : Int)).toNat → wp_X5_wrongFor v2 x1 ms ml (fun (r3 : Int) => (qR r3 ∧ (¬ r3 = (0 : Int) → (∀ v5 : Int, v5 = x1 + (-1 : Int) → wp_X5_longest_12 Φ  th ms ml n9 v5)) ∧ (¬ (¬ r3 = (0 : Int)) → Φ x1 th ml)))))))
def wp_X5_longest  (th : Int) (ms : Nat → Int) (ml : Nat → Int) (Φ : Int → Int → (Nat → Int) → Prop) : Prop := wp_X5_beam ms ml (fun (g7 : Nat → Int) => ∃ n : Nat, wp_X5_longest_12 Φ  (0 : Int) ms g7 n (50 : Int))
theorem iX5_longest_X5 : ∀ w ∈ wsX50, w ∈ wsX5_longest := fun w h => List.mem_cons_of_mem _ (List.mem_append_right _ (h))
set_option maxHeartbeats 4000000 in
set_option maxRecDepth 100000 in
theorem c_X5_longest (l : Launch) (D : va_G) (E : Nat → ClassId) (m0 m1 m2 m3 m4 m5 m6 m7 : Nat) (th : Int) (sm : Int) (le : Int) (tk : Int) (fr : Int) (ti : Int) (fa : Int) (ms : Nat → Int) (ma : Nat → Int) (mv : Nat → Int) (mt : Nat → Int) (mn : Nat → Int) (ml : Nat → Int) (mr : Nat → Int)  {Φ : Int → Int → (Nat → Int) → Prop} (hw : wp_X5_longest  th ms ml Φ) : qRW (σ := (Int) × (Nat → Int)) l D E qF0 yX5_longest wsX5_longest 6 139 [(m0, .inr (5, [.int (qI th), .ref m1, .ref m2, .ref m3, .int (qI sm), .ref m4, .int (qI le), .ref m5, .ref m6, .ref m7, .int (qI tk), .int (qI fr), .int (qI ti), .int (qI fa)])), (m1, qA (E 0) 635 ms), (m2, qA (E 0) 635 ma), (m3, qA (E 0) 3175 mv), (m4, qA (E 0) 140 mt), (m5, qA (E 0) 2 mn), (m6, qA (E 0) 64 ml), (m7, qA (E 0) 49152 mr)] [.ref m0] qeI (fun u => [(m0, .inr (5, [.int (qI u.1), .ref m1, .ref m2, .ref m3, .int (qI sm), .ref m4, .int (qI le), .ref m5, .ref m6, .ref m7, .int (qI tk), .int (qI fr), .int (qI ti), .int (qI fa)])), (m1, qA (E 0) 635 ms), (m2, qA (E 0) 635 ma), (m3, qA (E 0) 3175 mv), (m4, qA (E 0) 140 mt), (m5, qA (E 0) 2 mn), (m6, qA (E 0) 64 u.2), (m7, qA (E 0) 49152 mr)]) (fun r u => Φ r u.1 u.2) := by
  refine qRW_int (nL := 2) (own := RX5) qF0_ok (by decide) rfl rfl (Nat.le_of_ble_eq_true rfl) (fun X C hend => ?_)
  have hB12 : ∀ th : Int, ∀ ml : Nat → Int, ∀ n8 : Nat, ∀ x1 : Int, wp_X5_longest_12 Φ  th ms ml n8 x1 → qZ X 0 0 [(m0, .inr (5, [.int (qI th), .ref m1, .ref m2, .ref m3, .int (qI sm), .ref m4, .int (qI le), .ref m5, .ref m6, .ref m7, .int (qI tk), .int (qI fr), .int (qI ti), .int (qI fa)])), (m1, qA (E 0) 635 ms), (m2, qA (E 0) 635 ma), (m3, qA (E 0) 3175 mv), (m4, qA (E 0) 140 mt), (m5, qA (E 0) 2 mn), (m6, qA (E 0) 64 ml), (m7, qA (E 0) 49152 mr)] 12 [(0, .ref m0), (1, .int (qI x1))] [] := by
    intro th ml n8
    induction n8 with
    | zero =>
      intro x1 hw
      exact hw.elim
    | succ n9 ih =>
      intro x1 hw
      unfold wp_X5_longest_12 at hw
      refine z_iload_n C 1 rfl rfl dX5_longest_12 ?_
      refine z_if_le (tgt := 38) C hw.1 (by decide) dX5_longest_13 (fun c1 => ?_) (fun c1 => ?_)
      · replace hw := hw.2.1 c1
        refine z_bipush C (by decide +kernel) dX5_longest_38 ?_
        exact hend 40 _ (-9 : Int) (th, ml) dX5_longest_40 hw
      · replace hw := hw.2.2 c1
        refine z_aload_n C 0 rfl rfl dX5_longest_16 ?_
        refine z_aload_n C 0 rfl rfl dX5_longest_17 ?_
        refine z_get C iX5_longest_X5 0 rfl rfl 1 (by decide) (List.mem_of_getElem? (i := 2) rfl) rfl rfl dX5_longest_18 ?_
        refine z_iconst C dX5_longest_21 ?_
        refine z_iald C 1 rfl (by decide) hw.1 dX5_longest_22 ?_
        replace hw := hw.2
        refine z_name (fun v2 ev2 => ?_)
        replace hw := hw v2 ev2
        refine z_iload_n C 1 rfl rfl dX5_longest_23 ?_
        refine z_callV (n := 2) C (c_X5_wrongFor l D E m0 m1 m2 m3 m4 m5 m6 m7 th sm le tk fr ti fa ms ma mv mt mn ml mr v2 x1 hw) qF0_ok (fun _ _ _ => trivial) gX5_longest_X5_wrongFor rfl (by decide +kernel) ⟨(Nat.le_of_ble_eq_true rfl), (Nat.le_of_ble_eq_true rfl)⟩ rfl 0 rfl rfl [0, 1, 2, 3, 4, 5, 6, 7] rfl rfl (Nat.le_of_ble_eq_true rfl) dX5_longest_24 (fun r3 hw => ?_)
        show qZ X 0 0 [(m0, .inr (5, [.int (qI th), .ref m1, .ref m2, .ref m3, .int (qI sm), .ref m4, .int (qI le), .ref m5, .ref m6, .ref m7, .int (qI tk), .int (qI fr), .int (qI ti), .int (qI fa)])), (m1, qA (E 0) 635 ms), (m2, qA (E 0) 635 ma), (m3, qA (E 0) 3175 mv), (m4, qA (E 0) 140 mt), (m5, qA (E 0) 2 mn), (m6, qA (E 0) 64 ml), (m7, qA (E 0) 49152 mr)] _ _ [.int (qI r3)]
        refine z_if_ne (tgt := 32) C hw.1 (by decide) dX5_longest_27 (fun c4 => ?_) (fun c4 => ?_)
        · replace hw := hw.2.1 c4
          obtain ⟨v5, ev5⟩ : ∃ v5 : Int, v5 = x1 + (-1 : Int) := ⟨_, rfl⟩
          replace hw := hw v5 ev5
          refine z_iinc C 1 rfl (by decide) v5 ev5 rfl dX5_longest_32 ?_
          refine z_goto (tgt := 12) C (by decide) dX5_longest_35 ?_
          refine z_lst (ps := [1, 0]) (lv' := [(0, .ref m0), (1, .int (qI v5))]) (st' := []) rfl rfl ?_
          exact ih v5 hw
        · replace hw := hw.2.2 c4
          refine z_iload_n C 1 rfl rfl dX5_longest_30 ?_
          exact hend 31 _ x1 (th, ml) dX5_longest_31 hw
  unfold wp_X5_longest at hw
  show qZ X 0 0 [(m0, .inr (5, [.int (qI th), .ref m1, .ref m2, .ref m3, .int (qI sm), .ref m4, .int (qI le), .ref m5, .ref m6, .ref m7, .int (qI tk), .int (qI fr), .int (qI ti), .int (qI fa)])), (m1, qA (E 0) 635 ms), (m2, qA (E 0) 635 ma), (m3, qA (E 0) 3175 mv), (m4, qA (E 0) 140 mt), (m5, qA (E 0) 2 mn), (m6, qA (E 0) 64 ml), (m7, qA (E 0) 49152 mr)] 0 [(0, .ref m0)] []
  refine z_aload_n C 0 rfl rfl dX5_longest_0 ?_
  refine z_iconst C dX5_longest_1 ?_
  refine z_put (ty := .int) (ws' := [(m0, .inr (5, [.int (qI (0 : Int)), .ref m1, .ref m2, .ref m3, .int (qI sm), .ref m4, .int (qI le), .ref m5, .ref m6, .ref m7, .int (qI tk), .int (qI fr), .int (qI ti), .int (qI fa)])), (m1, qA (E 0) 635 ms), (m2, qA (E 0) 635 ma), (m3, qA (E 0) 3175 mv), (m4, qA (E 0) 140 mt), (m5, qA (E 0) 2 mn), (m6, qA (E 0) 64 ml), (m7, qA (E 0) 49152 mr)]) C iX5_longest_X5 tyX5 tyX5_ok nmX5 0 rfl rfl 0 (by decide) (List.mem_of_getElem? (i := 1) rfl) rfl rfl (by decide +kernel) rfl rfl (Nat.le_of_ble_eq_true rfl) rfl dX5_longest_2 ?_
  refine z_aload_n C 0 rfl rfl dX5_longest_5 ?_
  refine z_callVW (n := 0) C (c_X5_beam l D E m0 m1 m2 m3 m4 m5 m6 m7 (0 : Int) sm le tk fr ti fa ms ma mv mt mn ml mr  hw) qF0_ok (fun _ _ _ => trivial) gX5_longest_X5_beam rfl (by decide +kernel) ⟨(Nat.le_of_ble_eq_true rfl), (Nat.le_of_ble_eq_true rfl)⟩ rfl 0 rfl rfl [0, 1, 2, 3, 4, 5, 6, 7] [] (wr := []) rfl rfl rfl rfl (by decide) [0, 1, 2, 3, 4, 5, 6, 7] rfl (fun u9 => [(m0, .inr (5, [.int (qI (0 : Int)), .ref m1, .ref m2, .ref m3, .int (qI sm), .ref m4, .int (qI le), .ref m5, .ref m6, .ref m7, .int (qI tk), .int (qI fr), .int (qI ti), .int (qI fa)])), (m1, qA (E 0) 635 ms), (m2, qA (E 0) 635 ma), (m3, qA (E 0) 3175 mv), (m4, qA (E 0) 140 mt), (m5, qA (E 0) 2 mn), (m6, qA (E 0) 64 u9), (m7, qA (E 0) 49152 mr)]) (fun _ => rfl) rfl (Nat.le_of_ble_eq_true rfl) dX5_longest_6 (fun r6 u9 hw => ?_)
  obtain ⟨g7, rfl⟩ : ∃ z, z = u9 := ⟨_, rfl⟩
  refine z_ws (ws' := [(m0, .inr (5, [.int (qI (0 : Int)), .ref m1, .ref m2, .ref m3, .int (qI sm), .ref m4, .int (qI le), .ref m5, .ref m6, .ref m7, .int (qI tk), .int (qI fr), .int (qI ti), .int (qI fa)])), (m1, qA (E 0) 635 ms), (m2, qA (E 0) 635 ma), (m3, qA (E 0) 3175 mv), (m4, qA (E 0) 140 mt), (m5, qA (E 0) 2 mn), (m6, qA (E 0) 64 g7), (m7, qA (E 0) 49152 mr)]) rfl ?_
  try dsimp only at hw
  show qZ X 0 0 [(m0, .inr (5, [.int (qI (0 : Int)), .ref m1, .ref m2, .ref m3, .int (qI sm), .ref m4, .int (qI le), .ref m5, .ref m6, .ref m7, .int (qI tk), .int (qI fr), .int (qI ti), .int (qI fa)])), (m1, qA (E 0) 635 ms), (m2, qA (E 0) 635 ma), (m3, qA (E 0) 3175 mv), (m4, qA (E 0) 140 mt), (m5, qA (E 0) 2 mn), (m6, qA (E 0) 64 g7), (m7, qA (E 0) 49152 mr)] _ _ []
  refine z_bipush C (by decide +kernel) dX5_longest_9 ?_
  refine z_istore_n C rfl (by decide) rfl dX5_longest_11 ?_
  refine z_lst (ps := [1, 0]) (lv' := [(0, .ref m0), (1, .int (qI (50 : Int)))]) (st' := []) rfl rfl ?_
  obtain ⟨n8, hw⟩ := hw
  exact hB12 (0 : Int) g7 n8 (50 : Int) hw
def wp_X5_ticks_28 (Φ : Int → Int → Prop)  (x1 : Int) (x2 : Int) (th : Int) : Nat → Int → Prop
  | 0, _ => False
  | n9 + 1, x3 => wp_X5_fading x1 x3 (fun (r1 : Int) => ((qR r1 ∧ qR x2) ∧ (r1 < x2 → Φ x3 th) ∧ (¬ (r1 < x2) → (∀ v3 : Int, v3 = x3 + (1 : Int) → wp_X5_ticks_28 Φ  x1 x2 th n9 v3))))
def wp_X5_ticks_24 (Φ : Int → Int → Prop)  (th : Int) : Prop := Φ (-1 : Int) th
def wp_X5_ticks (x1 : Int) (x2 : Int) (th : Int) (Φ : Int → Int → Prop) : Prop := wp_X5_in x1 (0 : Int) (3 : Int) (fun (r4 : Int) => (qR r4 ∧ (r4 = (0 : Int) → wp_X5_ticks_24 Φ  (0 : Int)) ∧ (¬ (r4 = (0 : Int)) → wp_X5_in x2 (1 : Int) (100 : Int) (fun (r6 : Int) => (qR r6 ∧ (¬ r6 = (0 : Int) → ∃ n : Nat, wp_X5_ticks_28 Φ  x1 x2 (0 : Int) n (0 : Int)) ∧ (¬ (¬ r6 = (0 : Int)) → wp_X5_ticks_24 Φ  (0 : Int)))))))
theorem iX5_ticks_X5 : ∀ w ∈ wsX50, w ∈ wsX5_ticks := fun w h => List.mem_cons_of_mem _ (List.mem_append_right _ (h))
set_option maxHeartbeats 4000000 in
set_option maxRecDepth 100000 in
theorem c_X5_ticks (l : Launch) (D : va_G) (E : Nat → ClassId) (m0 m1 m2 m3 m4 m5 m6 m7 : Nat) (th : Int) (sm : Int) (le : Int) (tk : Int) (fr : Int) (ti : Int) (fa : Int) (ms : Nat → Int) (ma : Nat → Int) (mv : Nat → Int) (mt : Nat → Int) (mn : Nat → Int) (ml : Nat → Int) (mr : Nat → Int) (x1 : Int) (x2 : Int) {Φ : Int → Int → Prop} (hw : wp_X5_ticks x1 x2 th Φ) : qRW (σ := (Int)) l D E qF0 yX5_ticks wsX5_ticks 2 44 [(m0, .inr (5, [.int (qI th), .ref m1, .ref m2, .ref m3, .int (qI sm), .ref m4, .int (qI le), .ref m5, .ref m6, .ref m7, .int (qI tk), .int (qI fr), .int (qI ti), .int (qI fa)])), (m1, qA (E 0) 635 ms), (m2, qA (E 0) 635 ma), (m3, qA (E 0) 3175 mv), (m4, qA (E 0) 140 mt), (m5, qA (E 0) 2 mn), (m6, qA (E 0) 64 ml), (m7, qA (E 0) 49152 mr)] [.ref m0, .int (qI x1), .int (qI x2)] qeI (fun u => [(m0, .inr (5, [.int (qI u), .ref m1, .ref m2, .ref m3, .int (qI sm), .ref m4, .int (qI le), .ref m5, .ref m6, .ref m7, .int (qI tk), .int (qI fr), .int (qI ti), .int (qI fa)])), (m1, qA (E 0) 635 ms), (m2, qA (E 0) 635 ma), (m3, qA (E 0) 3175 mv), (m4, qA (E 0) 140 mt), (m5, qA (E 0) 2 mn), (m6, qA (E 0) 64 ml), (m7, qA (E 0) 49152 mr)]) (fun r u => Φ r u) := by
  refine qRW_int (nL := 4) (own := RX5) qF0_ok (by decide) rfl rfl (Nat.le_of_ble_eq_true rfl) (fun X C hend => ?_)
  have hB28 : ∀ x1 : Int, ∀ x2 : Int, ∀ th : Int, ∀ n8 : Nat, ∀ x3 : Int, wp_X5_ticks_28 Φ  x1 x2 th n8 x3 → qZ X 0 0 [(m0, .inr (5, [.int (qI th), .ref m1, .ref m2, .ref m3, .int (qI sm), .ref m4, .int (qI le), .ref m5, .ref m6, .ref m7, .int (qI tk), .int (qI fr), .int (qI ti), .int (qI fa)])), (m1, qA (E 0) 635 ms), (m2, qA (E 0) 635 ma), (m3, qA (E 0) 3175 mv), (m4, qA (E 0) 140 mt), (m5, qA (E 0) 2 mn), (m6, qA (E 0) 64 ml), (m7, qA (E 0) 49152 mr)] 28 [(1, .int (qI x1)), (2, .int (qI x2)), (3, .int (qI x3))] [] := by
    intro x1 x2 th n8
    induction n8 with
    | zero =>
      intro x3 hw
      exact hw.elim
    | succ n9 ih =>
      intro x3 hw
      unfold wp_X5_ticks_28 at hw
      refine z_iload_n C 0 rfl rfl dX5_ticks_28 ?_
      refine z_iload_n C 2 rfl rfl dX5_ticks_29 ?_
      refine z_callS (n := 2) C (c_X5_fading l D E   x1 x3 hw) qF0_ok (fun _ _ _ => trivial) gX5_ticks_X5_fading rfl (by decide +kernel) ⟨(Nat.le_of_ble_eq_true rfl), (Nat.le_of_ble_eq_true rfl)⟩ rfl [] rfl rfl (Nat.le_of_ble_eq_true rfl) dX5_ticks_30 (fun r1 hw => ?_)
      show qZ X 0 0 [(m0, .inr (5, [.int (qI th), .ref m1, .ref m2, .ref m3, .int (qI sm), .ref m4, .int (qI le), .ref m5, .ref m6, .ref m7, .int (qI tk), .int (qI fr), .int (qI ti), .int (qI fa)])), (m1, qA (E 0) 635 ms), (m2, qA (E 0) 635 ma), (m3, qA (E 0) 3175 mv), (m4, qA (E 0) 140 mt), (m5, qA (E 0) 2 mn), (m6, qA (E 0) 64 ml), (m7, qA (E 0) 49152 mr)] _ _ [.int (qI r1)]
      refine z_iload_n C 1 rfl rfl dX5_ticks_33 ?_
      refine z_icmp_lt (tgt := 43) C hw.1 (by decide) dX5_ticks_34 (fun c2 => ?_) (fun c2 => ?_)
      · replace hw := hw.2.1 c2
        refine z_iload_n C 2 rfl rfl dX5_ticks_43 ?_
        exact hend 44 _ x3 th dX5_ticks_44 hw
      · replace hw := hw.2.2 c2
        obtain ⟨v3, ev3⟩ : ∃ v3 : Int, v3 = x3 + (1 : Int) := ⟨_, rfl⟩
        replace hw := hw v3 ev3
        refine z_iinc C 2 rfl (by decide) v3 ev3 rfl dX5_ticks_37 ?_
        refine z_goto (tgt := 28) C (by decide) dX5_ticks_40 ?_
        refine z_lst (ps := [1, 2, 0]) (lv' := [(1, .int (qI x1)), (2, .int (qI x2)), (3, .int (qI v3))]) (st' := []) rfl rfl ?_
        exact ih v3 hw
  have hB24 : ∀ th : Int, wp_X5_ticks_24 Φ  th → qZ X 0 0 [(m0, .inr (5, [.int (qI th), .ref m1, .ref m2, .ref m3, .int (qI sm), .ref m4, .int (qI le), .ref m5, .ref m6, .ref m7, .int (qI tk), .int (qI fr), .int (qI ti), .int (qI fa)])), (m1, qA (E 0) 635 ms), (m2, qA (E 0) 635 ma), (m3, qA (E 0) 3175 mv), (m4, qA (E 0) 140 mt), (m5, qA (E 0) 2 mn), (m6, qA (E 0) 64 ml), (m7, qA (E 0) 49152 mr)] 24 [] [] := by
    intro th hw
    unfold wp_X5_ticks_24 at hw
    refine z_iconst C dX5_ticks_24 ?_
    exact hend 25 _ (-1 : Int) th dX5_ticks_25 hw
  unfold wp_X5_ticks at hw
  show qZ X 0 0 [(m0, .inr (5, [.int (qI th), .ref m1, .ref m2, .ref m3, .int (qI sm), .ref m4, .int (qI le), .ref m5, .ref m6, .ref m7, .int (qI tk), .int (qI fr), .int (qI ti), .int (qI fa)])), (m1, qA (E 0) 635 ms), (m2, qA (E 0) 635 ma), (m3, qA (E 0) 3175 mv), (m4, qA (E 0) 140 mt), (m5, qA (E 0) 2 mn), (m6, qA (E 0) 64 ml), (m7, qA (E 0) 49152 mr)] 0 [(0, .ref m0), (1, .int (qI x1)), (2, .int (qI x2))] []
  refine z_aload_n C 0 rfl rfl dX5_ticks_0 ?_
  refine z_iconst C dX5_ticks_1 ?_
  refine z_put (ty := .int) (ws' := [(m0, .inr (5, [.int (qI (0 : Int)), .ref m1, .ref m2, .ref m3, .int (qI sm), .ref m4, .int (qI le), .ref m5, .ref m6, .ref m7, .int (qI tk), .int (qI fr), .int (qI ti), .int (qI fa)])), (m1, qA (E 0) 635 ms), (m2, qA (E 0) 635 ma), (m3, qA (E 0) 3175 mv), (m4, qA (E 0) 140 mt), (m5, qA (E 0) 2 mn), (m6, qA (E 0) 64 ml), (m7, qA (E 0) 49152 mr)]) C iX5_ticks_X5 tyX5 tyX5_ok nmX5 0 rfl rfl 0 (by decide) (List.mem_of_getElem? (i := 1) rfl) rfl rfl (by decide +kernel) rfl rfl (Nat.le_of_ble_eq_true rfl) rfl dX5_ticks_2 ?_
  refine z_iload_n C 1 rfl rfl dX5_ticks_5 ?_
  refine z_iconst C dX5_ticks_6 ?_
  refine z_iconst C dX5_ticks_7 ?_
  refine z_callS (n := 3) C (c_X5_in l D E   x1 (0 : Int) (3 : Int) hw) qF0_ok (fun _ _ _ => trivial) gX5_ticks_X5_in rfl (by decide +kernel) ⟨(Nat.le_of_ble_eq_true rfl), (Nat.le_of_ble_eq_true rfl)⟩ rfl [] rfl rfl (Nat.le_of_ble_eq_true rfl) dX5_ticks_8 (fun r4 hw => ?_)
  show qZ X 0 0 [(m0, .inr (5, [.int (qI (0 : Int)), .ref m1, .ref m2, .ref m3, .int (qI sm), .ref m4, .int (qI le), .ref m5, .ref m6, .ref m7, .int (qI tk), .int (qI fr), .int (qI ti), .int (qI fa)])), (m1, qA (E 0) 635 ms), (m2, qA (E 0) 635 ma), (m3, qA (E 0) 3175 mv), (m4, qA (E 0) 140 mt), (m5, qA (E 0) 2 mn), (m6, qA (E 0) 64 ml), (m7, qA (E 0) 49152 mr)] _ _ [.int (qI r4)]
  refine z_if_eq (tgt := 24) C hw.1 (by decide) dX5_ticks_11 (fun c5 => ?_) (fun c5 => ?_)
  · replace hw := hw.2.1 c5
    refine z_lst (ps := []) (lv' := []) (st' := []) rfl rfl ?_
    exact hB24 (0 : Int) hw
  · replace hw := hw.2.2 c5
    refine z_iload_n C 2 rfl rfl dX5_ticks_14 ?_
    refine z_iconst C dX5_ticks_15 ?_
    refine z_bipush C (by decide +kernel) dX5_ticks_16 ?_
    refine z_callS (n := 3) C (c_X5_in l D E   x2 (1 : Int) (100 : Int) hw) qF0_ok (fun _ _ _ => trivial) gX5_ticks_X5_in rfl (by decide +kernel) ⟨(Nat.le_of_ble_eq_true rfl), (Nat.le_of_ble_eq_true rfl)⟩ rfl [] rfl rfl (Nat.le_of_ble_eq_true rfl) dX5_ticks_18 (fun r6 hw => ?_)
    show qZ X 0 0 [(m0, .inr (5, [.int (qI (0 : Int)), .ref m1, .ref m2, .ref m3, .int (qI sm), .ref m4, .int (qI le), .ref m5, .ref m6, .ref m7, .int (qI tk), .int (qI fr), .int (qI ti), .int (qI fa)])), (m1, qA (E 0) 635 ms), (m2, qA (E 0) 635 ma), (m3, qA (E 0) 3175 mv), (m4, qA (E 0) 140 mt), (m5, qA (E 0) 2 mn), (m6, qA (E 0) 64 ml), (m7, qA (E 0) 49152 mr)] _ _ [.int (qI r6)]
    refine z_if_ne (tgt := 26) C hw.1 (by decide) dX5_ticks_21 (fun c7 => ?_) (fun c7 => ?_)
    · replace hw := hw.2.1 c7
      refine z_iconst C dX5_ticks_26 ?_
      refine z_istore_n C rfl (by decide) rfl dX5_ticks_27 ?_
      refine z_lst (ps := [2, 3, 0]) (lv' := [(1, .int (qI x1)), (2, .int (qI x2)), (3, .int (qI (0 : Int)))]) (st' := []) rfl rfl ?_
      obtain ⟨n8, hw⟩ := hw
      exact hB28 x1 x2 (0 : Int) n8 (0 : Int) hw
    · replace hw := hw.2.2 c7
      refine z_lst (ps := []) (lv' := []) (st' := []) rfl rfl ?_
      exact hB24 (0 : Int) hw
def wp_X5_shortestPeriod_36 (Φ : Int → Int → Prop)  (k0 : Int) (th : Int) : Prop := Φ k0 th
def wp_X5_shortestPeriod  (th : Int) (ms : Nat → Int) (Φ : Int → Int → Prop) : Prop := wp_X5_lastTick ms (fun (r1 : Int) => (∀ v2 : Int, v2 = (r1 + (1 : Int)) → ((qR v2 ∧ qR (8 : Int)) ∧ ((8 : Int) ≤ v2 → ((qR v2 ∧ qR (200 : Int)) ∧ (v2 ≤ (200 : Int) → wp_X5_shortestPeriod_36 Φ  v2 (0 : Int)) ∧ (¬ (v2 ≤ (200 : Int)) → wp_X5_shortestPeriod_36 Φ  (-9 : Int) (0 : Int)))) ∧ (¬ ((8 : Int) ≤ v2) → wp_X5_shortestPeriod_36 Φ  (8 : Int) (0 : Int)))))
theorem iX5_shortestPeriod_X5 : ∀ w ∈ wsX50, w ∈ wsX5_shortestPeriod := fun w h => List.mem_cons_of_mem _ (List.mem_append_right _ (h))
set_option maxHeartbeats 4000000 in
set_option maxRecDepth 100000 in
theorem c_X5_shortestPeriod (l : Launch) (D : va_G) (E : Nat → ClassId) (m0 m1 m2 m3 m4 m5 m6 m7 : Nat) (th : Int) (sm : Int) (le : Int) (tk : Int) (fr : Int) (ti : Int) (fa : Int) (ms : Nat → Int) (ma : Nat → Int) (mv : Nat → Int) (mt : Nat → Int) (mn : Nat → Int) (ml : Nat → Int) (mr : Nat → Int)  {Φ : Int → Int → Prop} (hw : wp_X5_shortestPeriod  th ms Φ) : qRW (σ := (Int)) l D E qF0 yX5_shortestPeriod wsX5_shortestPeriod 3 64 [(m0, .inr (5, [.int (qI th), .ref m1, .ref m2, .ref m3, .int (qI sm), .ref m4, .int (qI le), .ref m5, .ref m6, .ref m7, .int (qI tk), .int (qI fr), .int (qI ti), .int (qI fa)])), (m1, qA (E 0) 635 ms), (m2, qA (E 0) 635 ma), (m3, qA (E 0) 3175 mv), (m4, qA (E 0) 140 mt), (m5, qA (E 0) 2 mn), (m6, qA (E 0) 64 ml), (m7, qA (E 0) 49152 mr)] [.ref m0] qeI (fun u => [(m0, .inr (5, [.int (qI u), .ref m1, .ref m2, .ref m3, .int (qI sm), .ref m4, .int (qI le), .ref m5, .ref m6, .ref m7, .int (qI tk), .int (qI fr), .int (qI ti), .int (qI fa)])), (m1, qA (E 0) 635 ms), (m2, qA (E 0) 635 ma), (m3, qA (E 0) 3175 mv), (m4, qA (E 0) 140 mt), (m5, qA (E 0) 2 mn), (m6, qA (E 0) 64 ml), (m7, qA (E 0) 49152 mr)]) (fun r u => Φ r u) := by
  refine qRW_int (nL := 2) (own := RX5) qF0_ok (by decide) rfl rfl (Nat.le_of_ble_eq_true rfl) (fun X C hend => ?_)
  have hB36 : ∀ k0 : Int, ∀ th : Int, wp_X5_shortestPeriod_36 Φ  k0 th → qZ X 0 0 [(m0, .inr (5, [.int (qI th), .ref m1, .ref m2, .ref m3, .int (qI sm), .ref m4, .int (qI le), .ref m5, .ref m6, .ref m7, .int (qI tk), .int (qI fr), .int (qI ti), .int (qI fa)])), (m1, qA (E 0) 635 ms), (m2, qA (E 0) 635 ma), (m3, qA (E 0) 3175 mv), (m4, qA (E 0) 140 mt), (m5, qA (E 0) 2 mn), (m6, qA (E 0) 64 ml), (m7, qA (E 0) 49152 mr)] 36 [] [.int (qI k0)] := by
    intro k0 th hw
    unfold wp_X5_shortestPeriod_36 at hw
    exact hend 36 _ k0 th dX5_shortestPeriod_36 hw
  unfold wp_X5_shortestPeriod at hw
  show qZ X 0 0 [(m0, .inr (5, [.int (qI th), .ref m1, .ref m2, .ref m3, .int (qI sm), .ref m4, .int (qI le), .ref m5, .ref m6, .ref m7, .int (qI tk), .int (qI fr), .int (qI ti), .int (qI fa)])), (m1, qA (E 0) 635 ms), (m2, qA (E 0) 635 ma), (m3, qA (E 0) 3175 mv), (m4, qA (E 0) 140 mt), (m5, qA (E 0) 2 mn), (m6, qA (E 0) 64 ml), (m7, qA (E 0) 49152 mr)] 0 [(0, .ref m0)] []
  refine z_aload_n C 0 rfl rfl dX5_shortestPeriod_0 ?_
  refine z_iconst C dX5_shortestPeriod_1 ?_
  refine z_put (ty := .int) (ws' := [(m0, .inr (5, [.int (qI (0 : Int)), .ref m1, .ref m2, .ref m3, .int (qI sm), .ref m4, .int (qI le), .ref m5, .ref m6, .ref m7, .int (qI tk), .int (qI fr), .int (qI ti), .int (qI fa)])), (m1, qA (E 0) 635 ms), (m2, qA (E 0) 635 ma), (m3, qA (E 0) 3175 mv), (m4, qA (E 0) 140 mt), (m5, qA (E 0) 2 mn), (m6, qA (E 0) 64 ml), (m7, qA (E 0) 49152 mr)]) C iX5_shortestPeriod_X5 tyX5 tyX5_ok nmX5 0 rfl rfl 0 (by decide) (List.mem_of_getElem? (i := 1) rfl) rfl rfl (by decide +kernel) rfl rfl (Nat.le_of_ble_eq_true rfl) rfl dX5_shortestPeriod_2 ?_
  refine z_aload_n C 0 rfl rfl dX5_shortestPeriod_5 ?_
  refine z_callV (n := 0) C (c_X5_lastTick l D E m0 m1 m2 m3 m4 m5 m6 m7 (0 : Int) sm le tk fr ti fa ms ma mv mt mn ml mr  hw) qF0_ok (fun _ _ _ => trivial) gX5_shortestPeriod_X5_lastTick rfl (by decide +kernel) ⟨(Nat.le_of_ble_eq_true rfl), (Nat.le_of_ble_eq_true rfl)⟩ rfl 0 rfl rfl [0, 1, 2, 3, 4, 5, 6, 7] rfl rfl (Nat.le_of_ble_eq_true rfl) dX5_shortestPeriod_6 (fun r1 hw => ?_)
  show qZ X 0 0 [(m0, .inr (5, [.int (qI (0 : Int)), .ref m1, .ref m2, .ref m3, .int (qI sm), .ref m4, .int (qI le), .ref m5, .ref m6, .ref m7, .int (qI tk), .int (qI fr), .int (qI ti), .int (qI fa)])), (m1, qA (E 0) 635 ms), (m2, qA (E 0) 635 ma), (m3, qA (E 0) 3175 mv), (m4, qA (E 0) 140 mt), (m5, qA (E 0) 2 mn), (m6, qA (E 0) 64 ml), (m7, qA (E 0) 49152 mr)] _ _ [.int (qI r1)]
  refine z_iconst C dX5_shortestPeriod_9 ?_
  refine z_iadd C dX5_shortestPeriod_10 ?_
  refine z_name (fun v2 ev2 => ?_)
  replace hw := hw v2 ev2
  refine z_istore_n C rfl (by decide) rfl dX5_shortestPeriod_11 ?_
  refine z_iload_n C 0 rfl rfl dX5_shortestPeriod_12 ?_
  refine z_bipush C (by decide +kernel) dX5_shortestPeriod_13 ?_
  refine z_icmp_ge (tgt := 23) C hw.1 (by decide) dX5_shortestPeriod_15 (fun c3 => ?_) (fun c3 => ?_)
  · replace hw := hw.2.1 c3
    refine z_iload_n C 0 rfl rfl dX5_shortestPeriod_23 ?_
    refine z_sipush C (by decide +kernel) dX5_shortestPeriod_24 ?_
    refine z_icmp_le (tgt := 35) C hw.1 (by decide) dX5_shortestPeriod_27 (fun c4 => ?_) (fun c4 => ?_)
    · replace hw := hw.2.1 c4
      refine z_iload_n C 0 rfl rfl dX5_shortestPeriod_35 ?_
      refine z_lst (ps := []) (lv' := []) (st' := [.int (qI v2)]) rfl rfl ?_
      exact hB36 v2 (0 : Int) hw
    · replace hw := hw.2.2 c4
      refine z_bipush C (by decide +kernel) dX5_shortestPeriod_30 ?_
      refine z_goto (tgt := 36) C (by decide) dX5_shortestPeriod_32 ?_
      refine z_lst (ps := []) (lv' := []) (st' := [.int (qI (-9 : Int))]) rfl rfl ?_
      exact hB36 (-9 : Int) (0 : Int) hw
  · replace hw := hw.2.2 c3
    refine z_bipush C (by decide +kernel) dX5_shortestPeriod_18 ?_
    refine z_goto (tgt := 36) C (by decide) dX5_shortestPeriod_20 ?_
    refine z_lst (ps := []) (lv' := []) (st' := [.int (qI (8 : Int))]) rfl rfl ?_
    exact hB36 (8 : Int) (0 : Int) hw
