def wp_X4_isSpot_15 (Φ : Int → Prop)  (k0 : Int) : Prop := ((k0 = 0 ∨ k0 = 1) ∧ Φ k0)
def wp_X4_isSpot_14 (Φ : Int → Prop)   : Prop := wp_X4_isSpot_15 Φ  (0 : Int)
def wp_X4_isSpot (x0 : Int)  (Φ : Int → Prop) : Prop := (qR x0 ∧ (x0 < (0 : Int) → wp_X4_isSpot_14 Φ  ) ∧ (¬ (x0 < (0 : Int)) → ((qR x0 ∧ qR (64 : Int)) ∧ ((64 : Int) ≤ x0 → wp_X4_isSpot_14 Φ  ) ∧ (¬ ((64 : Int) ≤ x0) → wp_X4_isSpot_15 Φ  (1 : Int)))))
set_option maxHeartbeats 4000000 in
set_option maxRecDepth 100000 in
theorem c_X4_isSpot (l : Launch) (D : va_G) (E : Nat → ClassId)   (x0 : Int) {Φ : Int → Prop} (hw : wp_X4_isSpot x0  Φ) : qRO l D E qF0 yX4_isSpot wsX4_isSpot 0 0 [] [.int (qI x0)] qeI (fun r => Φ r) := by
  refine qRO_bool (nL := 1) (own := RX4) qF0_ok (by decide) rfl rfl (Nat.le_of_ble_eq_true rfl) (fun X C hend => ?_)
  have hB15 : ∀ k0 : Int, wp_X4_isSpot_15 Φ  k0 → qZ X 0 0 [] 15 [] [.int (qI k0)] := by
    intro k0 hw
    unfold wp_X4_isSpot_15 at hw
    exact hend 15 _ k0 dX4_isSpot_15 hw.1 hw.2
  have hB14 :  wp_X4_isSpot_14 Φ   → qZ X 0 0 [] 14 [] [] := by
    intro  hw
    unfold wp_X4_isSpot_14 at hw
    refine z_iconst C dX4_isSpot_14 ?_
    refine z_lst (ps := []) (lv' := []) (st' := [.int (qI (0 : Int))]) rfl rfl ?_
    exact hB15 (0 : Int) hw
  unfold wp_X4_isSpot at hw
  show qZ X 0 0 [] 0 [(0, .int (qI x0))] []
  refine z_iload_n C 0 rfl rfl dX4_isSpot_0 ?_
  refine z_if_lt (tgt := 14) C hw.1 (by decide) dX4_isSpot_1 (fun c1 => ?_) (fun c1 => ?_)
  · replace hw := hw.2.1 c1
    refine z_lst (ps := []) (lv' := []) (st' := []) rfl rfl ?_
    exact hB14  hw
  · replace hw := hw.2.2 c1
    refine z_iload_n C 0 rfl rfl dX4_isSpot_4 ?_
    refine z_bipush C (by decide +kernel) dX4_isSpot_5 ?_
    refine z_icmp_ge (tgt := 14) C hw.1 (by decide) dX4_isSpot_7 (fun c2 => ?_) (fun c2 => ?_)
    · replace hw := hw.2.1 c2
      refine z_lst (ps := []) (lv' := []) (st' := []) rfl rfl ?_
      exact hB14  hw
    · replace hw := hw.2.2 c2
      refine z_iconst C dX4_isSpot_10 ?_
      refine z_goto (tgt := 15) C (by decide) dX4_isSpot_11 ?_
      refine z_lst (ps := []) (lv' := []) (st' := [.int (qI (1 : Int))]) rfl rfl ?_
      exact hB15 (1 : Int) hw
def wp_X4_isPhosphor_14 (Φ : Int → Prop)  (k0 : Int) : Prop := ((k0 = 0 ∨ k0 = 1) ∧ Φ k0)
def wp_X4_isPhosphor_13 (Φ : Int → Prop)   : Prop := wp_X4_isPhosphor_14 Φ  (0 : Int)
def wp_X4_isPhosphor (x0 : Int)  (Φ : Int → Prop) : Prop := (qR x0 ∧ (x0 < (0 : Int) → wp_X4_isPhosphor_13 Φ  ) ∧ (¬ (x0 < (0 : Int)) → ((qR x0 ∧ qR (4 : Int)) ∧ ((4 : Int) ≤ x0 → wp_X4_isPhosphor_13 Φ  ) ∧ (¬ ((4 : Int) ≤ x0) → wp_X4_isPhosphor_14 Φ  (1 : Int)))))
set_option maxHeartbeats 4000000 in
set_option maxRecDepth 100000 in
theorem c_X4_isPhosphor (l : Launch) (D : va_G) (E : Nat → ClassId)   (x0 : Int) {Φ : Int → Prop} (hw : wp_X4_isPhosphor x0  Φ) : qRO l D E qF0 yX4_isPhosphor wsX4_isPhosphor 0 0 [] [.int (qI x0)] qeI (fun r => Φ r) := by
  refine qRO_bool (nL := 1) (own := RX4) qF0_ok (by decide) rfl rfl (Nat.le_of_ble_eq_true rfl) (fun X C hend => ?_)
  have hB14 : ∀ k0 : Int, wp_X4_isPhosphor_14 Φ  k0 → qZ X 0 0 [] 14 [] [.int (qI k0)] := by
    intro k0 hw
    unfold wp_X4_isPhosphor_14 at hw
    exact hend 14 _ k0 dX4_isPhosphor_14 hw.1 hw.2
  have hB13 :  wp_X4_isPhosphor_13 Φ   → qZ X 0 0 [] 13 [] [] := by
    intro  hw
    unfold wp_X4_isPhosphor_13 at hw
    refine z_iconst C dX4_isPhosphor_13 ?_
    refine z_lst (ps := []) (lv' := []) (st' := [.int (qI (0 : Int))]) rfl rfl ?_
    exact hB14 (0 : Int) hw
  unfold wp_X4_isPhosphor at hw
  show qZ X 0 0 [] 0 [(0, .int (qI x0))] []
  refine z_iload_n C 0 rfl rfl dX4_isPhosphor_0 ?_
  refine z_if_lt (tgt := 13) C hw.1 (by decide) dX4_isPhosphor_1 (fun c1 => ?_) (fun c1 => ?_)
  · replace hw := hw.2.1 c1
    refine z_lst (ps := []) (lv' := []) (st' := []) rfl rfl ?_
    exact hB13  hw
  · replace hw := hw.2.2 c1
    refine z_iload_n C 0 rfl rfl dX4_isPhosphor_4 ?_
    refine z_iconst C dX4_isPhosphor_5 ?_
    refine z_icmp_ge (tgt := 13) C hw.1 (by decide) dX4_isPhosphor_6 (fun c2 => ?_) (fun c2 => ?_)
    · replace hw := hw.2.1 c2
      refine z_lst (ps := []) (lv' := []) (st' := []) rfl rfl ?_
      exact hB13  hw
    · replace hw := hw.2.2 c2
      refine z_iconst C dX4_isPhosphor_9 ?_
      refine z_goto (tgt := 14) C (by decide) dX4_isPhosphor_10 ?_
      refine z_lst (ps := []) (lv' := []) (st' := [.int (qI (1 : Int))]) rfl rfl ?_
      exact hB14 (1 : Int) hw
def wp_X4_way (x0 : Int) (x1 : Int)  (Φ : Int → Prop) : Prop := (qP x0 (8 : Int) ∧ (∀ v1 : Int, v1 = x0 / (8 : Int) → (qP x1 (8 : Int) ∧ (∀ v2 : Int, v2 = x1 / (8 : Int) → (qR (v1 - v2) ∧ (∀ v3 : Int, v3 = (if 0 ≤ (v1 - v2) then (v1 - v2) else 0 - (v1 - v2)) → (qP x0 (8 : Int) ∧ (∀ v4 : Int, v4 = x0 % (8 : Int) → (qP x1 (8 : Int) ∧ (∀ v5 : Int, v5 = x1 % (8 : Int) → (qR (v4 - v5) ∧ (∀ v6 : Int, v6 = (if 0 ≤ (v4 - v5) then (v4 - v5) else 0 - (v4 - v5)) → Φ (v3 + v6)))))))))))))
set_option maxHeartbeats 4000000 in
set_option maxRecDepth 100000 in
theorem c_X4_way (l : Launch) (D : va_G) (E : Nat → ClassId)   (x0 : Int) (x1 : Int) {Φ : Int → Prop} (hw : wp_X4_way x0 x1  Φ) : qRO l D E qF0 yX4_way wsX4_way 1 21 [] [.int (qI x0), .int (qI x1)] qeI (fun r => Φ r) := by
  refine qRO_int (nL := 2) (own := RX4) qF0_ok (by decide) rfl rfl (Nat.le_of_ble_eq_true rfl) (fun X C hend => ?_)
  unfold wp_X4_way at hw
  show qZ X 0 0 [] 0 [(0, .int (qI x0)), (1, .int (qI x1))] []
  refine z_iload_n C 0 rfl rfl dX4_way_0 ?_
  refine z_bipush C (by decide +kernel) dX4_way_1 ?_
  refine z_idiv C hw.1 dX4_way_3 ?_
  replace hw := hw.2
  refine z_name (fun v1 ev1 => ?_)
  replace hw := hw v1 ev1
  refine z_iload_n C 1 rfl rfl dX4_way_4 ?_
  refine z_bipush C (by decide +kernel) dX4_way_5 ?_
  refine z_idiv C hw.1 dX4_way_7 ?_
  replace hw := hw.2
  refine z_name (fun v2 ev2 => ?_)
  replace hw := hw v2 ev2
  refine z_isub C dX4_way_8 ?_
  refine z_mabs C hw.1 (List.mem_of_getElem? (i := 1) rfl) (List.mem_of_getElem? (i := 2) rfl) (List.mem_of_getElem? (i := 3) rfl) (List.mem_of_getElem? (i := 4) rfl) (Nat.le_of_ble_eq_true rfl) (Nat.le_of_ble_eq_true rfl) dX4_way_9 ?_
  replace hw := hw.2
  refine z_name (fun v3 ev3 => ?_)
  replace hw := hw v3 ev3
  refine z_iload_n C 0 rfl rfl dX4_way_12 ?_
  refine z_bipush C (by decide +kernel) dX4_way_13 ?_
  refine z_irem C hw.1 dX4_way_15 ?_
  replace hw := hw.2
  refine z_name (fun v4 ev4 => ?_)
  replace hw := hw v4 ev4
  refine z_iload_n C 1 rfl rfl dX4_way_16 ?_
  refine z_bipush C (by decide +kernel) dX4_way_17 ?_
  refine z_irem C hw.1 dX4_way_19 ?_
  replace hw := hw.2
  refine z_name (fun v5 ev5 => ?_)
  replace hw := hw v5 ev5
  refine z_isub C dX4_way_20 ?_
  refine z_mabs C hw.1 (List.mem_of_getElem? (i := 1) rfl) (List.mem_of_getElem? (i := 2) rfl) (List.mem_of_getElem? (i := 3) rfl) (List.mem_of_getElem? (i := 4) rfl) (Nat.le_of_ble_eq_true rfl) (Nat.le_of_ble_eq_true rfl) dX4_way_21 ?_
  replace hw := hw.2
  refine z_name (fun v6 ev6 => ?_)
  replace hw := hw v6 ev6
  refine z_iadd C dX4_way_24 ?_
  exact hend 25 _ (v3 + v6) dX4_way_25 hw
def wp_X4_bit (x0 : Int64) (x2 : Int)  (Φ : Int → Prop) : Prop := (∀ v1 : Int, v1 = (((x0 : Int64).toUInt64 >>> ((qI x2).toInt64.toUInt64 &&& Int64.toUInt64 63)).toInt64).toInt32.toInt → (∀ v2 : Int, v2 = qand v1 (1 : Int) → Φ v2))
set_option maxHeartbeats 4000000 in
set_option maxRecDepth 100000 in
theorem c_X4_bit (l : Launch) (D : va_G) (E : Nat → ClassId)   (x0 : Int64) (x2 : Int) {Φ : Int → Prop} (hw : wp_X4_bit x0 x2  Φ) : qRO l D E qF0 yX4_bit wsX4_bit 0 0 [] [.long x0, .int (qI x2)] qeI (fun r => Φ r) := by
  refine qRO_int (nL := 3) (own := RX4) qF0_ok (by decide) rfl rfl (Nat.le_of_ble_eq_true rfl) (fun X C hend => ?_)
  unfold wp_X4_bit at hw
  show qZ X 0 0 [] 0 [(0, .long x0), (2, .int (qI x2))] []
  refine z_lload_n C 0 rfl rfl dX4_bit_0 ?_
  refine z_iload_n C 1 rfl rfl dX4_bit_1 ?_
  refine z_lushr C dX4_bit_2 ?_
  refine z_l2i C dX4_bit_3 ?_
  refine z_name (fun v1 ev1 => ?_)
  replace hw := hw v1 ev1
  refine z_iconst C dX4_bit_4 ?_
  refine z_iand C dX4_bit_5 ?_
  refine z_name (fun v2 ev2 => ?_)
  replace hw := hw v2 ev2
  exact hend 6 _ v2 dX4_bit_6 hw
def wp_X4_firstOf_2 (Φ : Int → Prop)  (x0 : Int64) : Nat → Int → Prop
  | 0, _ => False
  | n9 + 1, x2 => ((qR x2 ∧ qR (64 : Int)) ∧ ((64 : Int) ≤ x2 → Φ (-9 : Int)) ∧ (¬ ((64 : Int) ≤ x2) → wp_X4_bit x0 x2 (fun (r2 : Int) => ((qR r2 ∧ qR (1 : Int)) ∧ (¬ r2 = (1 : Int) → (∀ v4 : Int, v4 = x2 + (1 : Int) → wp_X4_firstOf_2 Φ  x0 n9 v4)) ∧ (¬ (¬ r2 = (1 : Int)) → Φ x2)))))
def wp_X4_firstOf (x0 : Int64)  (Φ : Int → Prop) : Prop := ∃ n : Nat, wp_X4_firstOf_2 Φ  x0 n (0 : Int)
set_option maxHeartbeats 4000000 in
set_option maxRecDepth 100000 in
theorem c_X4_firstOf (l : Launch) (D : va_G) (E : Nat → ClassId)   (x0 : Int64) {Φ : Int → Prop} (hw : wp_X4_firstOf x0  Φ) : qRO l D E qF0 yX4_firstOf wsX4_firstOf 1 22 [] [.long x0] qeI (fun r => Φ r) := by
  refine qRO_int (nL := 3) (own := RX4) qF0_ok (by decide) rfl rfl (Nat.le_of_ble_eq_true rfl) (fun X C hend => ?_)
  have hB2 : ∀ x0 : Int64, ∀ n8 : Nat, ∀ x2 : Int, wp_X4_firstOf_2 Φ  x0 n8 x2 → qZ X 0 0 [] 2 [(0, .long x0), (2, .int (qI x2))] [] := by
    intro x0 n8
    induction n8 with
    | zero =>
      intro x2 hw
      exact hw.elim
    | succ n9 ih =>
      intro x2 hw
      unfold wp_X4_firstOf_2 at hw
      refine z_iload_n C 1 rfl rfl dX4_firstOf_2 ?_
      refine z_bipush C (by decide +kernel) dX4_firstOf_3 ?_
      refine z_icmp_ge (tgt := 25) C hw.1 (by decide) dX4_firstOf_5 (fun c1 => ?_) (fun c1 => ?_)
      · replace hw := hw.2.1 c1
        refine z_bipush C (by decide +kernel) dX4_firstOf_25 ?_
        exact hend 27 _ (-9 : Int) dX4_firstOf_27 hw
      · replace hw := hw.2.2 c1
        refine z_lload_n C 0 rfl rfl dX4_firstOf_8 ?_
        refine z_iload_n C 1 rfl rfl dX4_firstOf_9 ?_
        refine z_callS (n := 2) C (c_X4_bit l D E   x0 x2 hw) qF0_ok (fun _ _ _ => trivial) gX4_firstOf_X4_bit rfl (by decide +kernel) ⟨(Nat.le_of_ble_eq_true rfl), (Nat.le_of_ble_eq_true rfl)⟩ rfl [] rfl rfl (Nat.le_of_ble_eq_true rfl) dX4_firstOf_10 (fun r2 hw => ?_)
        show qZ X 0 0 [] _ _ [.int (qI r2)]
        refine z_iconst C dX4_firstOf_13 ?_
        refine z_icmp_ne (tgt := 19) C hw.1 (by decide) dX4_firstOf_14 (fun c3 => ?_) (fun c3 => ?_)
        · replace hw := hw.2.1 c3
          obtain ⟨v4, ev4⟩ : ∃ v4 : Int, v4 = x2 + (1 : Int) := ⟨_, rfl⟩
          replace hw := hw v4 ev4
          refine z_iinc C 1 rfl (by decide) v4 ev4 rfl dX4_firstOf_19 ?_
          refine z_goto (tgt := 2) C (by decide) dX4_firstOf_22 ?_
          refine z_lst (ps := [1, 0]) (lv' := [(0, .long x0), (2, .int (qI v4))]) (st' := []) rfl rfl ?_
          exact ih v4 hw
        · replace hw := hw.2.2 c3
          refine z_iload_n C 1 rfl rfl dX4_firstOf_17 ?_
          exact hend 18 _ x2 dX4_firstOf_18 hw
  unfold wp_X4_firstOf at hw
  show qZ X 0 0 [] 0 [(0, .long x0)] []
  refine z_iconst C dX4_firstOf_0 ?_
  refine z_istore_n C rfl (by decide) rfl dX4_firstOf_1 ?_
  refine z_lst (ps := [1, 0]) (lv' := [(0, .long x0), (2, .int (qI (0 : Int)))]) (st' := []) rfl rfl ?_
  obtain ⟨n8, hw⟩ := hw
  exact hB2 x0 n8 (0 : Int) hw
def wp_X4_glow_80 (Φ : Int → Prop)  (k0 : Int) : Prop := Φ k0
def wp_X4_glow_67 (Φ : Int → Prop)  (k0 : Int) : Prop := Φ k0
def wp_X4_glow (x0 : Int) (x1 : Int)  (Φ : Int → Prop) : Prop := (qR x0 ∧ ((x0 < (0 : Int) ∨ (2 : Int) < x0) → ((qR x1 ∧ qR (8 : Int)) ∧ ((8 : Int) ≤ x1 → wp_X4_glow_80 Φ  (0 : Int)) ∧ (¬ ((8 : Int) ≤ x1) → wp_X4_glow_80 Φ  (100 : Int)))) ∧ (x0 = (0 : Int) → ((qR (0 : Int) ∧ qR ((100 : Int) - ((20 : Int) * x1))) ∧ (∀ v2 : Int, v2 = (if (0 : Int) < ((100 : Int) - ((20 : Int) * x1)) then ((100 : Int) - ((20 : Int) * x1)) else (0 : Int)) → Φ v2))) ∧ (x0 = (1 : Int) → ((qR (0 : Int) ∧ qR ((100 : Int) - ((4 : Int) * x1))) ∧ (∀ v3 : Int, v3 = (if (0 : Int) < ((100 : Int) - ((4 : Int) * x1)) then ((100 : Int) - ((4 : Int) * x1)) else (0 : Int)) → Φ v3))) ∧ (x0 = (2 : Int) → ((qR x1 ∧ qR (35 : Int)) ∧ ((35 : Int) ≤ x1 → wp_X4_glow_67 Φ  (0 : Int)) ∧ (¬ ((35 : Int) ≤ x1) → (qP x1 (5 : Int) ∧ (∀ v5 : Int, v5 = x1 / (5 : Int) → (∀ v6 : Int, v6 = qshr (100 : Int) v5 → wp_X4_glow_67 Φ  v6)))))))
set_option maxHeartbeats 4000000 in
set_option maxRecDepth 100000 in
theorem c_X4_glow (l : Launch) (D : va_G) (E : Nat → ClassId)   (x0 : Int) (x1 : Int) {Φ : Int → Prop} (hw : wp_X4_glow x0 x1  Φ) : qRO l D E qF0 yX4_glow wsX4_glow 1 21 [] [.int (qI x0), .int (qI x1)] qeI (fun r => Φ r) := by
  refine qRO_int (nL := 2) (own := RX4) qF0_ok (by decide) rfl rfl (Nat.le_of_ble_eq_true rfl) (fun X C hend => ?_)
  have hB80 : ∀ k0 : Int, wp_X4_glow_80 Φ  k0 → qZ X 0 0 [] 80 [] [.int (qI k0)] := by
    intro k0 hw
    unfold wp_X4_glow_80 at hw
    exact hend 80 _ k0 dX4_glow_80 hw
  have hB67 : ∀ k0 : Int, wp_X4_glow_67 Φ  k0 → qZ X 0 0 [] 67 [] [.int (qI k0)] := by
    intro k0 hw
    unfold wp_X4_glow_67 at hw
    exact hend 67 _ k0 dX4_glow_67 hw
  unfold wp_X4_glow at hw
  show qZ X 0 0 [] 0 [(0, .int (qI x0)), (1, .int (qI x1))] []
  refine z_iload_n C 0 rfl rfl dX4_glow_0 ?_
  rcases (show (x0 < (0 : Int) ∨ (2 : Int) < x0) ∨ x0 = (0 : Int) ∨ x0 = (1 : Int) ∨ x0 = (2 : Int) by omega) with c7 | c7 | c7 | c7
  · refine z_swOut (tgt := 68) C hw.1 c7 (by decide) dX4_glow_1 ?_
    replace hw := hw.2.1 c7
    refine z_iload_n C 1 rfl rfl dX4_glow_68 ?_
    refine z_bipush C (by decide +kernel) dX4_glow_69 ?_
    refine z_icmp_ge (tgt := 79) C hw.1 (by decide) dX4_glow_71 (fun c1 => ?_) (fun c1 => ?_)
    · replace hw := hw.2.1 c1
      refine z_iconst C dX4_glow_79 ?_
      refine z_lst (ps := []) (lv' := []) (st' := [.int (qI (0 : Int))]) rfl rfl ?_
      exact hB80 (0 : Int) hw
    · replace hw := hw.2.2 c1
      refine z_bipush C (by decide +kernel) dX4_glow_74 ?_
      refine z_goto (tgt := 80) C (by decide) dX4_glow_76 ?_
      refine z_lst (ps := []) (lv' := []) (st' := [.int (qI (100 : Int))]) rfl rfl ?_
      exact hB80 (100 : Int) hw
  · refine z_swIn (off := (27 : Int)) (tgt := 28) C hw.1 (by omega) (by omega) (by rw [c7]; rfl) (by decide) dX4_glow_1 ?_
    replace hw := hw.2.2.1 c7
    refine z_iconst C dX4_glow_28 ?_
    refine z_bipush C (by decide +kernel) dX4_glow_29 ?_
    refine z_bipush C (by decide +kernel) dX4_glow_31 ?_
    refine z_iload_n C 1 rfl rfl dX4_glow_33 ?_
    refine z_imul C dX4_glow_34 ?_
    refine z_isub C dX4_glow_35 ?_
    refine z_mmax C hw.1 (List.mem_of_getElem? (i := 1) rfl) (List.mem_of_getElem? (i := 2) rfl) (List.mem_of_getElem? (i := 3) rfl) (List.mem_of_getElem? (i := 4) rfl) (Nat.le_of_ble_eq_true rfl) (Nat.le_of_ble_eq_true rfl) dX4_glow_36 ?_
    replace hw := hw.2
    refine z_name (fun v2 ev2 => ?_)
    replace hw := hw v2 ev2
    exact hend 39 _ v2 dX4_glow_39 hw
  · refine z_swIn (off := (39 : Int)) (tgt := 40) C hw.1 (by omega) (by omega) (by rw [c7]; rfl) (by decide) dX4_glow_1 ?_
    replace hw := hw.2.2.2.1 c7
    refine z_iconst C dX4_glow_40 ?_
    refine z_bipush C (by decide +kernel) dX4_glow_41 ?_
    refine z_iconst C dX4_glow_43 ?_
    refine z_iload_n C 1 rfl rfl dX4_glow_44 ?_
    refine z_imul C dX4_glow_45 ?_
    refine z_isub C dX4_glow_46 ?_
    refine z_mmax C hw.1 (List.mem_of_getElem? (i := 1) rfl) (List.mem_of_getElem? (i := 2) rfl) (List.mem_of_getElem? (i := 3) rfl) (List.mem_of_getElem? (i := 4) rfl) (Nat.le_of_ble_eq_true rfl) (Nat.le_of_ble_eq_true rfl) dX4_glow_47 ?_
    replace hw := hw.2
    refine z_name (fun v3 ev3 => ?_)
    replace hw := hw v3 ev3
    exact hend 50 _ v3 dX4_glow_50 hw
  · refine z_swIn (off := (50 : Int)) (tgt := 51) C hw.1 (by omega) (by omega) (by rw [c7]; rfl) (by decide) dX4_glow_1 ?_
    replace hw := hw.2.2.2.2 c7
    refine z_iload_n C 1 rfl rfl dX4_glow_51 ?_
    refine z_bipush C (by decide +kernel) dX4_glow_52 ?_
    refine z_icmp_ge (tgt := 66) C hw.1 (by decide) dX4_glow_54 (fun c4 => ?_) (fun c4 => ?_)
    · replace hw := hw.2.1 c4
      refine z_iconst C dX4_glow_66 ?_
      refine z_lst (ps := []) (lv' := []) (st' := [.int (qI (0 : Int))]) rfl rfl ?_
      exact hB67 (0 : Int) hw
    · replace hw := hw.2.2 c4
      refine z_bipush C (by decide +kernel) dX4_glow_57 ?_
      refine z_iload_n C 1 rfl rfl dX4_glow_59 ?_
      refine z_iconst C dX4_glow_60 ?_
      refine z_idiv C hw.1 dX4_glow_61 ?_
      replace hw := hw.2
      refine z_name (fun v5 ev5 => ?_)
      replace hw := hw v5 ev5
      refine z_ishr C dX4_glow_62 ?_
      refine z_name (fun v6 ev6 => ?_)
      replace hw := hw v6 ev6
      refine z_goto (tgt := 67) C (by decide) dX4_glow_63 ?_
      refine z_lst (ps := []) (lv' := []) (st' := [.int (qI v6)]) rfl rfl ?_
      exact hB67 v6 hw
def wp_X4_ticksAbove_24 (Φ : Int → Prop)  (x2 : Int) : Prop := Φ x2
def wp_X4_ticksAbove_2 (Φ : Int → Prop)  (x0 : Int) (x1 : Int) : Nat → Int → Prop
  | 0, _ => False
  | n9 + 1, x2 => ((qR x2 ∧ qR (200 : Int)) ∧ ((200 : Int) ≤ x2 → wp_X4_ticksAbove_24 Φ  x2) ∧ (¬ ((200 : Int) ≤ x2) → wp_X4_glow x0 x2 (fun (r2 : Int) => ((qR r2 ∧ qR x1) ∧ (r2 < x1 → wp_X4_ticksAbove_24 Φ  x2) ∧ (¬ (r2 < x1) → (∀ v4 : Int, v4 = x2 + (1 : Int) → wp_X4_ticksAbove_2 Φ  x0 x1 n9 v4))))))
def wp_X4_ticksAbove (x0 : Int) (x1 : Int)  (Φ : Int → Prop) : Prop := ∃ n : Nat, wp_X4_ticksAbove_2 Φ  x0 x1 n (0 : Int)
set_option maxHeartbeats 4000000 in
set_option maxRecDepth 100000 in
theorem c_X4_ticksAbove (l : Launch) (D : va_G) (E : Nat → ClassId)   (x0 : Int) (x1 : Int) {Φ : Int → Prop} (hw : wp_X4_ticksAbove x0 x1  Φ) : qRO l D E qF0 yX4_ticksAbove wsX4_ticksAbove 2 42 [] [.int (qI x0), .int (qI x1)] qeI (fun r => Φ r) := by
  refine qRO_int (nL := 3) (own := RX4) qF0_ok (by decide) rfl rfl (Nat.le_of_ble_eq_true rfl) (fun X C hend => ?_)
  have hB24 : ∀ x2 : Int, wp_X4_ticksAbove_24 Φ  x2 → qZ X 0 0 [] 24 [(2, .int (qI x2))] [] := by
    intro x2 hw
    unfold wp_X4_ticksAbove_24 at hw
    refine z_iload_n C 0 rfl rfl dX4_ticksAbove_24 ?_
    exact hend 25 _ x2 dX4_ticksAbove_25 hw
  have hB2 : ∀ x0 : Int, ∀ x1 : Int, ∀ n8 : Nat, ∀ x2 : Int, wp_X4_ticksAbove_2 Φ  x0 x1 n8 x2 → qZ X 0 0 [] 2 [(0, .int (qI x0)), (1, .int (qI x1)), (2, .int (qI x2))] [] := by
    intro x0 x1 n8
    induction n8 with
    | zero =>
      intro x2 hw
      exact hw.elim
    | succ n9 ih =>
      intro x2 hw
      unfold wp_X4_ticksAbove_2 at hw
      refine z_iload_n C 2 rfl rfl dX4_ticksAbove_2 ?_
      refine z_sipush C (by decide +kernel) dX4_ticksAbove_3 ?_
      refine z_icmp_ge (tgt := 24) C hw.1 (by decide) dX4_ticksAbove_6 (fun c1 => ?_) (fun c1 => ?_)
      · replace hw := hw.2.1 c1
        refine z_lst (ps := [2]) (lv' := [(2, .int (qI x2))]) (st' := []) rfl rfl ?_
        exact hB24 x2 hw
      · replace hw := hw.2.2 c1
        refine z_iload_n C 0 rfl rfl dX4_ticksAbove_9 ?_
        refine z_iload_n C 2 rfl rfl dX4_ticksAbove_10 ?_
        refine z_callS (n := 2) C (c_X4_glow l D E   x0 x2 hw) qF0_ok (fun _ _ _ => trivial) gX4_ticksAbove_X4_glow rfl (by decide +kernel) ⟨(Nat.le_of_ble_eq_true rfl), (Nat.le_of_ble_eq_true rfl)⟩ rfl [] rfl rfl (Nat.le_of_ble_eq_true rfl) dX4_ticksAbove_11 (fun r2 hw => ?_)
        show qZ X 0 0 [] _ _ [.int (qI r2)]
        refine z_iload_n C 1 rfl rfl dX4_ticksAbove_14 ?_
        refine z_icmp_lt (tgt := 24) C hw.1 (by decide) dX4_ticksAbove_15 (fun c3 => ?_) (fun c3 => ?_)
        · replace hw := hw.2.1 c3
          refine z_lst (ps := [2]) (lv' := [(2, .int (qI x2))]) (st' := []) rfl rfl ?_
          exact hB24 x2 hw
        · replace hw := hw.2.2 c3
          obtain ⟨v4, ev4⟩ : ∃ v4 : Int, v4 = x2 + (1 : Int) := ⟨_, rfl⟩
          replace hw := hw v4 ev4
          refine z_iinc C 2 rfl (by decide) v4 ev4 rfl dX4_ticksAbove_18 ?_
          refine z_goto (tgt := 2) C (by decide) dX4_ticksAbove_21 ?_
          refine z_lst (ps := [1, 2, 0]) (lv' := [(0, .int (qI x0)), (1, .int (qI x1)), (2, .int (qI v4))]) (st' := []) rfl rfl ?_
          exact ih v4 hw
  unfold wp_X4_ticksAbove at hw
  show qZ X 0 0 [] 0 [(0, .int (qI x0)), (1, .int (qI x1))] []
  refine z_iconst C dX4_ticksAbove_0 ?_
  refine z_istore_n C rfl (by decide) rfl dX4_ticksAbove_1 ?_
  refine z_lst (ps := [1, 2, 0]) (lv' := [(0, .int (qI x0)), (1, .int (qI x1)), (2, .int (qI (0 : Int)))]) (st' := []) rfl rfl ?_
  obtain ⟨n8, hw⟩ := hw
  exact hB2 x0 x1 n8 (0 : Int) hw
def wp_X1_positionOf_2 (Φ : Int → Prop)  (x1 : Int) (sz : Int) (od : Nat → Int) : Nat → Int → Prop
  | 0, _ => False
  | n9 + 1, x2 => ((qR x2 ∧ qR sz) ∧ (sz ≤ x2 → Φ (-9 : Int)) ∧ (¬ (sz ≤ x2) → ((0 ≤ x2 ∧ x2 < 12) ∧ (∀ v2 : Int, v2 = od (x2).toNat → ((qR v2 ∧ qR x1) ∧ (¬ v2 = x1 → (∀ v4 : Int, v4 = x2 + (1 : Int) → wp_X1_positionOf_2 Φ  x1 sz od n9 v4)) ∧ (¬ (¬ v2 = x1) → Φ x2))))))
def wp_X1_positionOf (x1 : Int) (sz : Int) (od : Nat → Int) (Φ : Int → Prop) : Prop := ∃ n : Nat, wp_X1_positionOf_2 Φ  x1 sz od n (0 : Int)
theorem iX1_positionOf_X1 : ∀ w ∈ wsX10, w ∈ wsX1_positionOf := fun w h => List.mem_cons_of_mem _ (List.mem_append_right _ (h))
set_option maxHeartbeats 4000000 in
set_option maxRecDepth 100000 in
theorem c_X1_positionOf (l : Launch) (D : va_G) (E : Nat → ClassId) (s0 s1 s2 s3 s4 : Nat) (sz : Int) (ph : Nat → Int) (od : Nat → Int) (pi : Nat → Int64) (se : Nat → Int) (x1 : Int) {Φ : Int → Prop} (hw : wp_X1_positionOf x1 sz od Φ) : qRO l D E qF0 yX1_positionOf wsX1_positionOf 0 0 [(s0, .inr (1, [.ref s1, .ref s2, .int (qI sz), .ref s3, .ref s4])), (s1, qA (E 0) 64 ph), (s2, qA (E 0) 12 od), (s3, qL (E 1) 2 pi), (s4, qA (E 0) 6 se)] [.ref s0, .int (qI x1)] qeI (fun r => Φ r) := by
  refine qRO_int (nL := 3) (own := RX1) qF0_ok (by decide) rfl rfl (Nat.le_of_ble_eq_true rfl) (fun X C hend => ?_)
  have hB2 : ∀ x1 : Int, ∀ n8 : Nat, ∀ x2 : Int, wp_X1_positionOf_2 Φ  x1 sz od n8 x2 → qZ X 0 0 [(s0, .inr (1, [.ref s1, .ref s2, .int (qI sz), .ref s3, .ref s4])), (s1, qA (E 0) 64 ph), (s2, qA (E 0) 12 od), (s3, qL (E 1) 2 pi), (s4, qA (E 0) 6 se)] 2 [(0, .ref s0), (1, .int (qI x1)), (2, .int (qI x2))] [] := by
    intro x1 n8
    induction n8 with
    | zero =>
      intro x2 hw
      exact hw.elim
    | succ n9 ih =>
      intro x2 hw
      unfold wp_X1_positionOf_2 at hw
      refine z_iload_n C 2 rfl rfl dX1_positionOf_2 ?_
      refine z_aload_n C 0 rfl rfl dX1_positionOf_3 ?_
      refine z_get C iX1_positionOf_X1 0 rfl rfl 2 (by decide) (List.mem_of_getElem? (i := 1) rfl) rfl rfl dX1_positionOf_4 ?_
      refine z_icmp_ge (tgt := 28) C hw.1 (by decide) dX1_positionOf_7 (fun c1 => ?_) (fun c1 => ?_)
      · replace hw := hw.2.1 c1
        refine z_bipush C (by decide +kernel) dX1_positionOf_28 ?_
        exact hend 30 _ (-9 : Int) dX1_positionOf_30 hw
      · replace hw := hw.2.2 c1
        refine z_aload_n C 0 rfl rfl dX1_positionOf_10 ?_
        refine z_get C iX1_positionOf_X1 0 rfl rfl 1 (by decide) (List.mem_of_getElem? (i := 2) rfl) rfl rfl dX1_positionOf_11 ?_
        refine z_iload_n C 2 rfl rfl dX1_positionOf_14 ?_
        refine z_iald C 2 rfl (by decide) hw.1 dX1_positionOf_15 ?_
        replace hw := hw.2
        refine z_name (fun v2 ev2 => ?_)
        replace hw := hw v2 ev2
        refine z_iload_n C 1 rfl rfl dX1_positionOf_16 ?_
        refine z_icmp_ne (tgt := 22) C hw.1 (by decide) dX1_positionOf_17 (fun c3 => ?_) (fun c3 => ?_)
        · replace hw := hw.2.1 c3
          obtain ⟨v4, ev4⟩ : ∃ v4 : Int, v4 = x2 + (1 : Int) := ⟨_, rfl⟩
          replace hw := hw v4 ev4
          refine z_iinc C 2 rfl (by decide) v4 ev4 rfl dX1_positionOf_22 ?_
          refine z_goto (tgt := 2) C (by decide) dX1_positionOf_25 ?_
          refine z_lst (ps := [1, 2, 0]) (lv' := [(0, .ref s0), (1, .int (qI x1)), (2, .int (qI v4))]) (st' := []) rfl rfl ?_
          exact ih v4 hw
        · replace hw := hw.2.2 c3
          refine z_iload_n C 2 rfl rfl dX1_positionOf_20 ?_
          exact hend 21 _ x2 dX1_positionOf_21 hw
  unfold wp_X1_positionOf at hw
  show qZ X 0 0 [(s0, .inr (1, [.ref s1, .ref s2, .int (qI sz), .ref s3, .ref s4])), (s1, qA (E 0) 64 ph), (s2, qA (E 0) 12 od), (s3, qL (E 1) 2 pi), (s4, qA (E 0) 6 se)] 0 [(0, .ref s0), (1, .int (qI x1))] []
  refine z_iconst C dX1_positionOf_0 ?_
  refine z_istore_n C rfl (by decide) rfl dX1_positionOf_1 ?_
  refine z_lst (ps := [1, 2, 0]) (lv' := [(0, .ref s0), (1, .int (qI x1)), (2, .int (qI (0 : Int)))]) (st' := []) rfl rfl ?_
  obtain ⟨n8, hw⟩ := hw
  exact hB2 x1 n8 (0 : Int) hw
def wp_X1_arrival_59 (Φ : Int → Prop)  (x2 : Int) : Prop := Φ x2
def wp_X1_arrival_7 (Φ : Int → Prop)  (x1 : Int) (sz : Int) (od : Nat → Int) (se : Nat → Int) : Nat → Int → Int → Int → Prop
  | 0, _, _, _ => False
  | n9 + 1, x2, x3, x4 => ((qR x4 ∧ qR x1) ∧ (x1 < x4 → wp_X1_arrival_59 Φ  x2) ∧ (¬ (x1 < x4) → ((qR x4 ∧ qR sz) ∧ (sz ≤ x4 → wp_X1_arrival_59 Φ  x2) ∧ (¬ (sz ≤ x4) → ((0 ≤ x4 ∧ x4 < 12) ∧ (∀ v3 : Int, v3 = od (x4).toNat → wp_X4_way x3 v3 (fun (r4 : Int) => ((0 ≤ (1 : Int) ∧ (1 : Int) < 6) ∧ (∀ v5 : Int, v5 = se ((1 : Int)).toNat → (∀ v6 : Int, v6 = (x2 + ((r4 * v5) + (1 : Int))) → ((0 ≤ x4 ∧ x4 < 12) ∧ (∀ v7 : Int, v7 = od (x4).toNat → (∀ v8 : Int, v8 = x4 + (1 : Int) → wp_X1_arrival_7 Φ  x1 sz od se n9 v6 v7 v8)))))))))))))
def wp_X1_arrival (x1 : Int) (sz : Int) (od : Nat → Int) (se : Nat → Int) (Φ : Int → Prop) : Prop := ∃ n : Nat, wp_X1_arrival_7 Φ  x1 sz od se n (0 : Int) (0 : Int) (0 : Int)
theorem iX1_arrival_X1 : ∀ w ∈ wsX10, w ∈ wsX1_arrival := fun w h => List.mem_cons_of_mem _ (List.mem_append_right _ (h))
set_option maxHeartbeats 4000000 in
set_option maxRecDepth 100000 in
theorem c_X1_arrival (l : Launch) (D : va_G) (E : Nat → ClassId) (s0 s1 s2 s3 s4 : Nat) (sz : Int) (ph : Nat → Int) (od : Nat → Int) (pi : Nat → Int64) (se : Nat → Int) (x1 : Int) {Φ : Int → Prop} (hw : wp_X1_arrival x1 sz od se Φ) : qRO l D E qF0 yX1_arrival wsX1_arrival 2 42 [(s0, .inr (1, [.ref s1, .ref s2, .int (qI sz), .ref s3, .ref s4])), (s1, qA (E 0) 64 ph), (s2, qA (E 0) 12 od), (s3, qL (E 1) 2 pi), (s4, qA (E 0) 6 se)] [.ref s0, .int (qI x1)] qeI (fun r => Φ r) := by
  refine qRO_int (nL := 5) (own := RX1) qF0_ok (by decide) rfl rfl (Nat.le_of_ble_eq_true rfl) (fun X C hend => ?_)
  have hB59 : ∀ x2 : Int, wp_X1_arrival_59 Φ  x2 → qZ X 0 0 [(s0, .inr (1, [.ref s1, .ref s2, .int (qI sz), .ref s3, .ref s4])), (s1, qA (E 0) 64 ph), (s2, qA (E 0) 12 od), (s3, qL (E 1) 2 pi), (s4, qA (E 0) 6 se)] 59 [(2, .int (qI x2))] [] := by
    intro x2 hw
    unfold wp_X1_arrival_59 at hw
    refine z_iload_n C 0 rfl rfl dX1_arrival_59 ?_
    exact hend 60 _ x2 dX1_arrival_60 hw
  have hB7 : ∀ x1 : Int, ∀ n8 : Nat, ∀ x2 : Int, ∀ x3 : Int, ∀ x4 : Int, wp_X1_arrival_7 Φ  x1 sz od se n8 x2 x3 x4 → qZ X 0 0 [(s0, .inr (1, [.ref s1, .ref s2, .int (qI sz), .ref s3, .ref s4])), (s1, qA (E 0) 64 ph), (s2, qA (E 0) 12 od), (s3, qL (E 1) 2 pi), (s4, qA (E 0) 6 se)] 7 [(0, .ref s0), (1, .int (qI x1)), (2, .int (qI x2)), (3, .int (qI x3)), (4, .int (qI x4))] [] := by
    intro x1 n8
    induction n8 with
    | zero =>
      intro x2 x3 x4 hw
      exact hw.elim
    | succ n9 ih =>
      intro x2 x3 x4 hw
      unfold wp_X1_arrival_7 at hw
      refine z_iload C 4 rfl dX1_arrival_7 ?_
      refine z_iload_n C 1 rfl rfl dX1_arrival_9 ?_
      refine z_icmp_gt (tgt := 59) C hw.1 (by decide) dX1_arrival_10 (fun c1 => ?_) (fun c1 => ?_)
      · replace hw := hw.2.1 c1
        refine z_lst (ps := [2]) (lv' := [(2, .int (qI x2))]) (st' := []) rfl rfl ?_
        exact hB59 x2 hw
      · replace hw := hw.2.2 c1
        refine z_iload C 4 rfl dX1_arrival_13 ?_
        refine z_aload_n C 0 rfl rfl dX1_arrival_15 ?_
        refine z_get C iX1_arrival_X1 0 rfl rfl 2 (by decide) (List.mem_of_getElem? (i := 1) rfl) rfl rfl dX1_arrival_16 ?_
        refine z_icmp_ge (tgt := 59) C hw.1 (by decide) dX1_arrival_19 (fun c2 => ?_) (fun c2 => ?_)
        · replace hw := hw.2.1 c2
          refine z_lst (ps := [2]) (lv' := [(2, .int (qI x2))]) (st' := []) rfl rfl ?_
          exact hB59 x2 hw
        · replace hw := hw.2.2 c2
          refine z_iload_n C 2 rfl rfl dX1_arrival_22 ?_
          refine z_iload_n C 3 rfl rfl dX1_arrival_23 ?_
          refine z_aload_n C 0 rfl rfl dX1_arrival_24 ?_
          refine z_get C iX1_arrival_X1 0 rfl rfl 1 (by decide) (List.mem_of_getElem? (i := 2) rfl) rfl rfl dX1_arrival_25 ?_
          refine z_iload C 4 rfl dX1_arrival_28 ?_
          refine z_iald C 2 rfl (by decide) hw.1 dX1_arrival_30 ?_
          replace hw := hw.2
          refine z_name (fun v3 ev3 => ?_)
          replace hw := hw v3 ev3
          refine z_callSN (n := 2) C (c_X4_way l D E   x3 v3 hw) qF0_ok (fun _ _ _ => trivial) gX1_arrival_X4_way_n68 rfl (List.mem_of_getElem? (i := 4) rfl) (List.mem_of_getElem? (i := 5) rfl) (host := RX4) (by decide +kernel) (by decide +kernel) ⟨(Nat.le_of_ble_eq_true rfl), (Nat.le_of_ble_eq_true rfl)⟩ rfl [] rfl rfl (Nat.le_of_ble_eq_true rfl) dX1_arrival_31 (fun r4 hw => ?_)
          show qZ X 0 0 [(s0, .inr (1, [.ref s1, .ref s2, .int (qI sz), .ref s3, .ref s4])), (s1, qA (E 0) 64 ph), (s2, qA (E 0) 12 od), (s3, qL (E 1) 2 pi), (s4, qA (E 0) 6 se)] _ _ [.int (qI r4), .int (qI x2)]
          refine z_aload_n C 0 rfl rfl dX1_arrival_34 ?_
          refine z_get C iX1_arrival_X1 0 rfl rfl 4 (by decide) (List.mem_of_getElem? (i := 3) rfl) rfl rfl dX1_arrival_35 ?_
          refine z_iconst C dX1_arrival_38 ?_
          refine z_iald C 4 rfl (by decide) hw.1 dX1_arrival_39 ?_
          replace hw := hw.2
          refine z_name (fun v5 ev5 => ?_)
          replace hw := hw v5 ev5
          refine z_imul C dX1_arrival_40 ?_
          refine z_iconst C dX1_arrival_41 ?_
          refine z_iadd C dX1_arrival_42 ?_
          refine z_iadd C dX1_arrival_43 ?_
          refine z_name (fun v6 ev6 => ?_)
          replace hw := hw v6 ev6
          refine z_istore_n C rfl (by decide) rfl dX1_arrival_44 ?_
          refine z_aload_n C 1 rfl rfl dX1_arrival_45 ?_
          refine z_get C iX1_arrival_X1 0 rfl rfl 1 (by decide) (List.mem_of_getElem? (i := 2) rfl) rfl rfl dX1_arrival_46 ?_
          refine z_iload C 4 rfl dX1_arrival_49 ?_
          refine z_iald C 2 rfl (by decide) hw.1 dX1_arrival_51 ?_
          replace hw := hw.2
          refine z_name (fun v7 ev7 => ?_)
          replace hw := hw v7 ev7
          refine z_istore_n C rfl (by decide) rfl dX1_arrival_52 ?_
          obtain ⟨v8, ev8⟩ : ∃ v8 : Int, v8 = x4 + (1 : Int) := ⟨_, rfl⟩
          replace hw := hw v8 ev8
          refine z_iinc C 4 rfl (by decide) v8 ev8 rfl dX1_arrival_53 ?_
          refine z_goto (tgt := 7) C (by decide) dX1_arrival_56 ?_
          refine z_lst (ps := [3, 4, 2, 1, 0]) (lv' := [(0, .ref s0), (1, .int (qI x1)), (2, .int (qI v6)), (3, .int (qI v7)), (4, .int (qI v8))]) (st' := []) rfl rfl ?_
          exact ih v6 v7 v8 hw
  unfold wp_X1_arrival at hw
  show qZ X 0 0 [(s0, .inr (1, [.ref s1, .ref s2, .int (qI sz), .ref s3, .ref s4])), (s1, qA (E 0) 64 ph), (s2, qA (E 0) 12 od), (s3, qL (E 1) 2 pi), (s4, qA (E 0) 6 se)] 0 [(0, .ref s0), (1, .int (qI x1))] []
  refine z_iconst C dX1_arrival_0 ?_
  refine z_istore_n C rfl (by decide) rfl dX1_arrival_1 ?_
  refine z_iconst C dX1_arrival_2 ?_
  refine z_istore_n C rfl (by decide) rfl dX1_arrival_3 ?_
  refine z_iconst C dX1_arrival_4 ?_
  refine z_istore C (by decide) rfl dX1_arrival_5 ?_
  refine z_lst (ps := [3, 4, 2, 1, 0]) (lv' := [(0, .ref s0), (1, .int (qI x1)), (2, .int (qI (0 : Int))), (3, .int (qI (0 : Int))), (4, .int (qI (0 : Int)))]) (st' := []) rfl rfl ?_
  obtain ⟨n8, hw⟩ := hw
  exact hB7 x1 n8 (0 : Int) (0 : Int) (0 : Int) hw
def wp_X1_litSize_30 (Φ : Int → Prop)  (x1 : Int) : Prop := Φ x1
def wp_X1_litSize_2 (Φ : Int → Prop)  (sz : Int) (od : Nat → Int) (se : Nat → Int) : Nat → Int → Prop
  | 0, _ => False
  | n9 + 1, x1 => ((qR x1 ∧ qR sz) ∧ (sz ≤ x1 → wp_X1_litSize_30 Φ  x1) ∧ (¬ (sz ≤ x1) → wp_X1_arrival x1 sz od se (fun (r2 : Int) => ((0 ≤ (0 : Int) ∧ (0 : Int) < 6) ∧ (∀ v3 : Int, v3 = se ((0 : Int)).toNat → ((qR r2 ∧ qR v3) ∧ (v3 ≤ r2 → wp_X1_litSize_30 Φ  x1) ∧ (¬ (v3 ≤ r2) → (∀ v5 : Int, v5 = x1 + (1 : Int) → wp_X1_litSize_2 Φ  sz od se n9 v5))))))))
def wp_X1_litSize  (sz : Int) (od : Nat → Int) (se : Nat → Int) (Φ : Int → Prop) : Prop := ∃ n : Nat, wp_X1_litSize_2 Φ  sz od se n (0 : Int)
theorem iX1_litSize_X1 : ∀ w ∈ wsX10, w ∈ wsX1_litSize := fun w h => List.mem_cons_of_mem _ (List.mem_append_right _ (h))
set_option maxHeartbeats 4000000 in
set_option maxRecDepth 100000 in
theorem c_X1_litSize (l : Launch) (D : va_G) (E : Nat → ClassId) (s0 s1 s2 s3 s4 : Nat) (sz : Int) (ph : Nat → Int) (od : Nat → Int) (pi : Nat → Int64) (se : Nat → Int)  {Φ : Int → Prop} (hw : wp_X1_litSize  sz od se Φ) : qRO l D E qF0 yX1_litSize wsX1_litSize 3 66 [(s0, .inr (1, [.ref s1, .ref s2, .int (qI sz), .ref s3, .ref s4])), (s1, qA (E 0) 64 ph), (s2, qA (E 0) 12 od), (s3, qL (E 1) 2 pi), (s4, qA (E 0) 6 se)] [.ref s0] qeI (fun r => Φ r) := by
  refine qRO_int (nL := 2) (own := RX1) qF0_ok (by decide) rfl rfl (Nat.le_of_ble_eq_true rfl) (fun X C hend => ?_)
  have hB30 : ∀ x1 : Int, wp_X1_litSize_30 Φ  x1 → qZ X 0 0 [(s0, .inr (1, [.ref s1, .ref s2, .int (qI sz), .ref s3, .ref s4])), (s1, qA (E 0) 64 ph), (s2, qA (E 0) 12 od), (s3, qL (E 1) 2 pi), (s4, qA (E 0) 6 se)] 30 [(1, .int (qI x1))] [] := by
    intro x1 hw
    unfold wp_X1_litSize_30 at hw
    refine z_iload_n C 0 rfl rfl dX1_litSize_30 ?_
    exact hend 31 _ x1 dX1_litSize_31 hw
  have hB2 : ∀ n8 : Nat, ∀ x1 : Int, wp_X1_litSize_2 Φ  sz od se n8 x1 → qZ X 0 0 [(s0, .inr (1, [.ref s1, .ref s2, .int (qI sz), .ref s3, .ref s4])), (s1, qA (E 0) 64 ph), (s2, qA (E 0) 12 od), (s3, qL (E 1) 2 pi), (s4, qA (E 0) 6 se)] 2 [(0, .ref s0), (1, .int (qI x1))] [] := by
    intro n8
    induction n8 with
    | zero =>
      intro x1 hw
      exact hw.elim
    | succ n9 ih =>
      intro x1 hw
      unfold wp_X1_litSize_2 at hw
      refine z_iload_n C 1 rfl rfl dX1_litSize_2 ?_
      refine z_aload_n C 0 rfl rfl dX1_litSize_3 ?_
      refine z_get C iX1_litSize_X1 0 rfl rfl 2 (by decide) (List.mem_of_getElem? (i := 1) rfl) rfl rfl dX1_litSize_4 ?_
      refine z_icmp_ge (tgt := 30) C hw.1 (by decide) dX1_litSize_7 (fun c1 => ?_) (fun c1 => ?_)
      · replace hw := hw.2.1 c1
        refine z_lst (ps := [1]) (lv' := [(1, .int (qI x1))]) (st' := []) rfl rfl ?_
        exact hB30 x1 hw
      · replace hw := hw.2.2 c1
        refine z_aload_n C 0 rfl rfl dX1_litSize_10 ?_
        refine z_iload_n C 1 rfl rfl dX1_litSize_11 ?_
        refine z_callV (n := 1) C (c_X1_arrival l D E s0 s1 s2 s3 s4 sz ph od pi se x1 hw) qF0_ok (fun _ _ _ => trivial) gX1_litSize_X1_arrival rfl (by decide +kernel) ⟨(Nat.le_of_ble_eq_true rfl), (Nat.le_of_ble_eq_true rfl)⟩ rfl 0 rfl rfl [0, 1, 2, 3, 4] rfl rfl (Nat.le_of_ble_eq_true rfl) dX1_litSize_12 (fun r2 hw => ?_)
        show qZ X 0 0 [(s0, .inr (1, [.ref s1, .ref s2, .int (qI sz), .ref s3, .ref s4])), (s1, qA (E 0) 64 ph), (s2, qA (E 0) 12 od), (s3, qL (E 1) 2 pi), (s4, qA (E 0) 6 se)] _ _ [.int (qI r2)]
        refine z_aload_n C 0 rfl rfl dX1_litSize_15 ?_
        refine z_get C iX1_litSize_X1 0 rfl rfl 4 (by decide) (List.mem_of_getElem? (i := 2) rfl) rfl rfl dX1_litSize_16 ?_
        refine z_iconst C dX1_litSize_19 ?_
        refine z_iald C 4 rfl (by decide) hw.1 dX1_litSize_20 ?_
        replace hw := hw.2
        refine z_name (fun v3 ev3 => ?_)
        replace hw := hw v3 ev3
        refine z_icmp_ge (tgt := 30) C hw.1 (by decide) dX1_litSize_21 (fun c4 => ?_) (fun c4 => ?_)
        · replace hw := hw.2.1 c4
          refine z_lst (ps := [1]) (lv' := [(1, .int (qI x1))]) (st' := []) rfl rfl ?_
          exact hB30 x1 hw
        · replace hw := hw.2.2 c4
          obtain ⟨v5, ev5⟩ : ∃ v5 : Int, v5 = x1 + (1 : Int) := ⟨_, rfl⟩
          replace hw := hw v5 ev5
          refine z_iinc C 1 rfl (by decide) v5 ev5 rfl dX1_litSize_24 ?_
          refine z_goto (tgt := 2) C (by decide) dX1_litSize_27 ?_
          refine z_lst (ps := [1, 0]) (lv' := [(0, .ref s0), (1, .int (qI v5))]) (st' := []) rfl rfl ?_
          exact ih v5 hw
  unfold wp_X1_litSize at hw
  show qZ X 0 0 [(s0, .inr (1, [.ref s1, .ref s2, .int (qI sz), .ref s3, .ref s4])), (s1, qA (E 0) 64 ph), (s2, qA (E 0) 12 od), (s3, qL (E 1) 2 pi), (s4, qA (E 0) 6 se)] 0 [(0, .ref s0)] []
  refine z_iconst C dX1_litSize_0 ?_
  refine z_istore_n C rfl (by decide) rfl dX1_litSize_1 ?_
  refine z_lst (ps := [1, 0]) (lv' := [(0, .ref s0), (1, .int (qI (0 : Int)))]) (st' := []) rfl rfl ?_
  obtain ⟨n8, hw⟩ := hw
  exact hB2 n8 (0 : Int) hw
def wp_X1_litTick_26 (Φ : Int → Prop)   : Prop := Φ (-9 : Int)
def wp_X1_litTick (x1 : Int) (sz : Int) (od : Nat → Int) (se : Nat → Int) (Φ : Int → Prop) : Prop := wp_X1_positionOf x1 sz od (fun (r1 : Int) => ((qR r1 ∧ qR (-9 : Int)) ∧ (r1 = (-9 : Int) → wp_X1_litTick_26 Φ  ) ∧ (¬ (r1 = (-9 : Int)) → wp_X1_arrival r1 sz od se (fun (r3 : Int) => ((0 ≤ (0 : Int) ∧ (0 : Int) < 6) ∧ (∀ v4 : Int, v4 = se ((0 : Int)).toNat → ((qR r3 ∧ qR v4) ∧ (r3 < v4 → wp_X1_arrival r1 sz od se (fun (r6 : Int) => Φ r6)) ∧ (¬ (r3 < v4) → wp_X1_litTick_26 Φ  ))))))))
theorem iX1_litTick_X1 : ∀ w ∈ wsX10, w ∈ wsX1_litTick := fun w h => List.mem_cons_of_mem _ (List.mem_append_right _ (h))
set_option maxHeartbeats 4000000 in
set_option maxRecDepth 100000 in
theorem c_X1_litTick (l : Launch) (D : va_G) (E : Nat → ClassId) (s0 s1 s2 s3 s4 : Nat) (sz : Int) (ph : Nat → Int) (od : Nat → Int) (pi : Nat → Int64) (se : Nat → Int) (x1 : Int) {Φ : Int → Prop} (hw : wp_X1_litTick x1 sz od se Φ) : qRO l D E qF0 yX1_litTick wsX1_litTick 3 66 [(s0, .inr (1, [.ref s1, .ref s2, .int (qI sz), .ref s3, .ref s4])), (s1, qA (E 0) 64 ph), (s2, qA (E 0) 12 od), (s3, qL (E 1) 2 pi), (s4, qA (E 0) 6 se)] [.ref s0, .int (qI x1)] qeI (fun r => Φ r) := by
  refine qRO_int (nL := 3) (own := RX1) qF0_ok (by decide) rfl rfl (Nat.le_of_ble_eq_true rfl) (fun X C hend => ?_)
  have hB26 :  wp_X1_litTick_26 Φ   → qZ X 0 0 [(s0, .inr (1, [.ref s1, .ref s2, .int (qI sz), .ref s3, .ref s4])), (s1, qA (E 0) 64 ph), (s2, qA (E 0) 12 od), (s3, qL (E 1) 2 pi), (s4, qA (E 0) 6 se)] 26 [] [] := by
    intro  hw
    unfold wp_X1_litTick_26 at hw
    refine z_bipush C (by decide +kernel) dX1_litTick_26 ?_
    exact hend 28 _ (-9 : Int) dX1_litTick_28 hw
  unfold wp_X1_litTick at hw
  show qZ X 0 0 [(s0, .inr (1, [.ref s1, .ref s2, .int (qI sz), .ref s3, .ref s4])), (s1, qA (E 0) 64 ph), (s2, qA (E 0) 12 od), (s3, qL (E 1) 2 pi), (s4, qA (E 0) 6 se)] 0 [(0, .ref s0), (1, .int (qI x1))] []
  refine z_aload_n C 0 rfl rfl dX1_litTick_0 ?_
  refine z_iload_n C 1 rfl rfl dX1_litTick_1 ?_
  refine z_callV (n := 1) C (c_X1_positionOf l D E s0 s1 s2 s3 s4 sz ph od pi se x1 hw) qF0_ok (fun _ _ _ => trivial) gX1_litTick_X1_positionOf rfl (by decide +kernel) ⟨(Nat.le_of_ble_eq_true rfl), (Nat.le_of_ble_eq_true rfl)⟩ rfl 0 rfl rfl [0, 1, 2, 3, 4] rfl rfl (Nat.le_of_ble_eq_true rfl) dX1_litTick_2 (fun r1 hw => ?_)
  show qZ X 0 0 [(s0, .inr (1, [.ref s1, .ref s2, .int (qI sz), .ref s3, .ref s4])), (s1, qA (E 0) 64 ph), (s2, qA (E 0) 12 od), (s3, qL (E 1) 2 pi), (s4, qA (E 0) 6 se)] _ _ [.int (qI r1)]
  refine z_istore_n C rfl (by decide) rfl dX1_litTick_5 ?_
  refine z_iload_n C 0 rfl rfl dX1_litTick_6 ?_
  refine z_bipush C (by decide +kernel) dX1_litTick_7 ?_
  refine z_icmp_eq (tgt := 26) C hw.1 (by decide) dX1_litTick_9 (fun c2 => ?_) (fun c2 => ?_)
  · replace hw := hw.2.1 c2
    refine z_lst (ps := []) (lv' := []) (st' := []) rfl rfl ?_
    exact hB26  hw
  · replace hw := hw.2.2 c2
    refine z_aload_n C 1 rfl rfl dX1_litTick_12 ?_
    refine z_iload_n C 0 rfl rfl dX1_litTick_13 ?_
    refine z_callV (n := 1) C (c_X1_arrival l D E s0 s1 s2 s3 s4 sz ph od pi se r1 hw) qF0_ok (fun _ _ _ => trivial) gX1_litTick_X1_arrival rfl (by decide +kernel) ⟨(Nat.le_of_ble_eq_true rfl), (Nat.le_of_ble_eq_true rfl)⟩ rfl 0 rfl rfl [0, 1, 2, 3, 4] rfl rfl (Nat.le_of_ble_eq_true rfl) dX1_litTick_14 (fun r3 hw => ?_)
    show qZ X 0 0 [(s0, .inr (1, [.ref s1, .ref s2, .int (qI sz), .ref s3, .ref s4])), (s1, qA (E 0) 64 ph), (s2, qA (E 0) 12 od), (s3, qL (E 1) 2 pi), (s4, qA (E 0) 6 se)] _ _ [.int (qI r3)]
    refine z_aload_n C 1 rfl rfl dX1_litTick_17 ?_
    refine z_get C iX1_litTick_X1 0 rfl rfl 4 (by decide) (List.mem_of_getElem? (i := 1) rfl) rfl rfl dX1_litTick_18 ?_
    refine z_iconst C dX1_litTick_21 ?_
    refine z_iald C 4 rfl (by decide) hw.1 dX1_litTick_22 ?_
    replace hw := hw.2
    refine z_name (fun v4 ev4 => ?_)
    replace hw := hw v4 ev4
    refine z_icmp_lt (tgt := 29) C hw.1 (by decide) dX1_litTick_23 (fun c5 => ?_) (fun c5 => ?_)
    · replace hw := hw.2.1 c5
      refine z_aload_n C 1 rfl rfl dX1_litTick_29 ?_
      refine z_iload_n C 0 rfl rfl dX1_litTick_30 ?_
      refine z_callV (n := 1) C (c_X1_arrival l D E s0 s1 s2 s3 s4 sz ph od pi se r1 hw) qF0_ok (fun _ _ _ => trivial) gX1_litTick_X1_arrival rfl (by decide +kernel) ⟨(Nat.le_of_ble_eq_true rfl), (Nat.le_of_ble_eq_true rfl)⟩ rfl 0 rfl rfl [0, 1, 2, 3, 4] rfl rfl (Nat.le_of_ble_eq_true rfl) dX1_litTick_31 (fun r6 hw => ?_)
      show qZ X 0 0 [(s0, .inr (1, [.ref s1, .ref s2, .int (qI sz), .ref s3, .ref s4])), (s1, qA (E 0) 64 ph), (s2, qA (E 0) 12 od), (s3, qL (E 1) 2 pi), (s4, qA (E 0) 6 se)] _ _ [.int (qI r6)]
      exact hend 34 _ r6 dX1_litTick_34 hw
    · replace hw := hw.2.2 c5
      refine z_lst (ps := []) (lv' := []) (st' := []) rfl rfl ?_
      exact hB26  hw
def wp_X1_shine_38 (Φ : Int → Prop)  (k0 : Int) (k1 : Int) : Prop := wp_X4_glow k0 k1 (fun (r1 : Int) => Φ r1)
def wp_X1_shine (x1 : Int) (x2 : Int) (x3 : Int) (ph : Nat → Int) (se : Nat → Int) (Φ : Int → Prop) : Prop := ((qR x2 ∧ qR (-9 : Int)) ∧ (¬ x2 = (-9 : Int) → (∀ v3 : Int, v3 = (x3 - x2) → ((0 ≤ x1 ∧ x1 < 64) ∧ (∀ v4 : Int, v4 = ph (x1).toNat → (qR v3 ∧ ((0 : Int) ≤ v3 → wp_X1_shine_38 Φ  v4 v3) ∧ (¬ ((0 : Int) ≤ v3) → ((0 ≤ (0 : Int) ∧ (0 : Int) < 6) ∧ (∀ v6 : Int, v6 = se ((0 : Int)).toNat → wp_X1_shine_38 Φ  v4 (v3 + v6))))))))) ∧ (¬ (¬ x2 = (-9 : Int)) → Φ (0 : Int)))
theorem iX1_shine_X1 : ∀ w ∈ wsX10, w ∈ wsX1_shine := fun w h => List.mem_cons_of_mem _ (List.mem_append_right _ (h))
set_option maxHeartbeats 4000000 in
set_option maxRecDepth 100000 in
theorem c_X1_shine (l : Launch) (D : va_G) (E : Nat → ClassId) (s0 s1 s2 s3 s4 : Nat) (sz : Int) (ph : Nat → Int) (od : Nat → Int) (pi : Nat → Int64) (se : Nat → Int) (x1 : Int) (x2 : Int) (x3 : Int) {Φ : Int → Prop} (hw : wp_X1_shine x1 x2 x3 ph se Φ) : qRO l D E qF0 yX1_shine wsX1_shine 2 42 [(s0, .inr (1, [.ref s1, .ref s2, .int (qI sz), .ref s3, .ref s4])), (s1, qA (E 0) 64 ph), (s2, qA (E 0) 12 od), (s3, qL (E 1) 2 pi), (s4, qA (E 0) 6 se)] [.ref s0, .int (qI x1), .int (qI x2), .int (qI x3)] qeI (fun r => Φ r) := by
  refine qRO_int (nL := 5) (own := RX1) qF0_ok (by decide) rfl rfl (Nat.le_of_ble_eq_true rfl) (fun X C hend => ?_)
  have hB38 : ∀ k0 : Int, ∀ k1 : Int, wp_X1_shine_38 Φ  k0 k1 → qZ X 0 0 [(s0, .inr (1, [.ref s1, .ref s2, .int (qI sz), .ref s3, .ref s4])), (s1, qA (E 0) 64 ph), (s2, qA (E 0) 12 od), (s3, qL (E 1) 2 pi), (s4, qA (E 0) 6 se)] 38 [] [.int (qI k1), .int (qI k0)] := by
    intro k0 k1 hw
    unfold wp_X1_shine_38 at hw
    refine z_callSN (n := 2) C (c_X4_glow l D E   k0 k1 hw) qF0_ok (fun _ _ _ => trivial) gX1_shine_X4_glow_n86 rfl (List.mem_of_getElem? (i := 3) rfl) (List.mem_of_getElem? (i := 4) rfl) (host := RX4) (by decide +kernel) (by decide +kernel) ⟨(Nat.le_of_ble_eq_true rfl), (Nat.le_of_ble_eq_true rfl)⟩ rfl [] rfl rfl (Nat.le_of_ble_eq_true rfl) dX1_shine_38 (fun r1 hw => ?_)
    show qZ X 0 0 [(s0, .inr (1, [.ref s1, .ref s2, .int (qI sz), .ref s3, .ref s4])), (s1, qA (E 0) 64 ph), (s2, qA (E 0) 12 od), (s3, qL (E 1) 2 pi), (s4, qA (E 0) 6 se)] _ _ [.int (qI r1)]
    exact hend 41 _ r1 dX1_shine_41 hw
  unfold wp_X1_shine at hw
  show qZ X 0 0 [(s0, .inr (1, [.ref s1, .ref s2, .int (qI sz), .ref s3, .ref s4])), (s1, qA (E 0) 64 ph), (s2, qA (E 0) 12 od), (s3, qL (E 1) 2 pi), (s4, qA (E 0) 6 se)] 0 [(0, .ref s0), (1, .int (qI x1)), (2, .int (qI x2)), (3, .int (qI x3))] []
  refine z_iload_n C 2 rfl rfl dX1_shine_0 ?_
  refine z_bipush C (by decide +kernel) dX1_shine_1 ?_
  refine z_icmp_ne (tgt := 8) C hw.1 (by decide) dX1_shine_3 (fun c2 => ?_) (fun c2 => ?_)
  · replace hw := hw.2.1 c2
    refine z_iload_n C 3 rfl rfl dX1_shine_8 ?_
    refine z_iload_n C 2 rfl rfl dX1_shine_9 ?_
    refine z_isub C dX1_shine_10 ?_
    refine z_name (fun v3 ev3 => ?_)
    replace hw := hw v3 ev3
    refine z_istore C (by decide) rfl dX1_shine_11 ?_
    refine z_aload_n C 1 rfl rfl dX1_shine_13 ?_
    refine z_get C iX1_shine_X1 0 rfl rfl 0 (by decide) (List.mem_of_getElem? (i := 1) rfl) rfl rfl dX1_shine_14 ?_
    refine z_iload_n C 2 rfl rfl dX1_shine_17 ?_
    refine z_iald C 1 rfl (by decide) hw.1 dX1_shine_18 ?_
    replace hw := hw.2
    refine z_name (fun v4 ev4 => ?_)
    replace hw := hw v4 ev4
    refine z_iload C 0 rfl dX1_shine_19 ?_
    refine z_if_ge (tgt := 36) C hw.1 (by decide) dX1_shine_21 (fun c5 => ?_) (fun c5 => ?_)
    · replace hw := hw.2.1 c5
      refine z_iload C 0 rfl dX1_shine_36 ?_
      refine z_lst (ps := []) (lv' := []) (st' := [.int (qI v3), .int (qI v4)]) rfl rfl ?_
      exact hB38 v4 v3 hw
    · replace hw := hw.2.2 c5
      refine z_iload C 0 rfl dX1_shine_24 ?_
      refine z_aload_n C 1 rfl rfl dX1_shine_26 ?_
      refine z_get C iX1_shine_X1 0 rfl rfl 4 (by decide) (List.mem_of_getElem? (i := 2) rfl) rfl rfl dX1_shine_27 ?_
      refine z_iconst C dX1_shine_30 ?_
      refine z_iald C 4 rfl (by decide) hw.1 dX1_shine_31 ?_
      replace hw := hw.2
      refine z_name (fun v6 ev6 => ?_)
      replace hw := hw v6 ev6
      refine z_iadd C dX1_shine_32 ?_
      refine z_goto (tgt := 38) C (by decide) dX1_shine_33 ?_
      refine z_lst (ps := []) (lv' := []) (st' := [.int (qI (v3 + v6)), .int (qI v4)]) rfl rfl ?_
      exact hB38 v4 (v3 + v6) hw
  · replace hw := hw.2.2 c2
    refine z_iconst C dX1_shine_6 ?_
    exact hend 7 _ (0 : Int) dX1_shine_7 hw
def wp_X1_next_19 (Φ : Int → Prop)  (k0 : Int) : Prop := Φ k0
def wp_X1_next (x1 : Int) (se : Nat → Int) (Φ : Int → Prop) : Prop := ((0 ≤ (0 : Int) ∧ (0 : Int) < 6) ∧ (∀ v1 : Int, v1 = se ((0 : Int)).toNat → ((qR (x1 + (1 : Int)) ∧ qR v1) ∧ (v1 ≤ (x1 + (1 : Int)) → wp_X1_next_19 Φ  (0 : Int)) ∧ (¬ (v1 ≤ (x1 + (1 : Int))) → wp_X1_next_19 Φ  (x1 + (1 : Int))))))
theorem iX1_next_X1 : ∀ w ∈ wsX10, w ∈ wsX1_next := fun w h => List.mem_cons_of_mem _ (List.mem_append_right _ (h))
set_option maxHeartbeats 4000000 in
set_option maxRecDepth 100000 in
theorem c_X1_next (l : Launch) (D : va_G) (E : Nat → ClassId) (s0 s1 s2 s3 s4 : Nat) (sz : Int) (ph : Nat → Int) (od : Nat → Int) (pi : Nat → Int64) (se : Nat → Int) (x1 : Int) {Φ : Int → Prop} (hw : wp_X1_next x1 se Φ) : qRO l D E qF0 yX1_next wsX1_next 0 0 [(s0, .inr (1, [.ref s1, .ref s2, .int (qI sz), .ref s3, .ref s4])), (s1, qA (E 0) 64 ph), (s2, qA (E 0) 12 od), (s3, qL (E 1) 2 pi), (s4, qA (E 0) 6 se)] [.ref s0, .int (qI x1)] qeI (fun r => Φ r) := by
  refine qRO_int (nL := 2) (own := RX1) qF0_ok (by decide) rfl rfl (Nat.le_of_ble_eq_true rfl) (fun X C hend => ?_)
  have hB19 : ∀ k0 : Int, wp_X1_next_19 Φ  k0 → qZ X 0 0 [(s0, .inr (1, [.ref s1, .ref s2, .int (qI sz), .ref s3, .ref s4])), (s1, qA (E 0) 64 ph), (s2, qA (E 0) 12 od), (s3, qL (E 1) 2 pi), (s4, qA (E 0) 6 se)] 19 [] [.int (qI k0)] := by
    intro k0 hw
    unfold wp_X1_next_19 at hw
    exact hend 19 _ k0 dX1_next_19 hw
  unfold wp_X1_next at hw
  show qZ X 0 0 [(s0, .inr (1, [.ref s1, .ref s2, .int (qI sz), .ref s3, .ref s4])), (s1, qA (E 0) 64 ph), (s2, qA (E 0) 12 od), (s3, qL (E 1) 2 pi), (s4, qA (E 0) 6 se)] 0 [(0, .ref s0), (1, .int (qI x1))] []
  refine z_iload_n C 1 rfl rfl dX1_next_0 ?_
  refine z_iconst C dX1_next_1 ?_
  refine z_iadd C dX1_next_2 ?_
  refine z_aload_n C 0 rfl rfl dX1_next_3 ?_
  refine z_get C iX1_next_X1 0 rfl rfl 4 (by decide) (List.mem_of_getElem? (i := 1) rfl) rfl rfl dX1_next_4 ?_
  refine z_iconst C dX1_next_7 ?_
  refine z_iald C 4 rfl (by decide) hw.1 dX1_next_8 ?_
  replace hw := hw.2
  refine z_name (fun v1 ev1 => ?_)
  replace hw := hw v1 ev1
  refine z_icmp_ge (tgt := 18) C hw.1 (by decide) dX1_next_9 (fun c2 => ?_) (fun c2 => ?_)
  · replace hw := hw.2.1 c2
    refine z_iconst C dX1_next_18 ?_
    refine z_lst (ps := []) (lv' := []) (st' := [.int (qI (0 : Int))]) rfl rfl ?_
    exact hB19 (0 : Int) hw
  · replace hw := hw.2.2 c2
    refine z_iload_n C 1 rfl rfl dX1_next_12 ?_
    refine z_iconst C dX1_next_13 ?_
    refine z_iadd C dX1_next_14 ?_
    refine z_goto (tgt := 19) C (by decide) dX1_next_15 ?_
    refine z_lst (ps := []) (lv' := []) (st' := [.int (qI (x1 + (1 : Int)))]) rfl rfl ?_
    exact hB19 (x1 + (1 : Int)) hw
def wp_X1_startInFrame_23 (Φ : Int → Prop)  (k0 : Int) : Prop := Φ k0
def wp_X1_startInFrame  (se : Nat → Int) (Φ : Int → Prop) : Prop := ((0 ≤ (0 : Int) ∧ (0 : Int) < 6) ∧ (∀ v1 : Int, v1 = se ((0 : Int)).toNat → (qR v1 ∧ (v1 ≤ (0 : Int) → wp_X1_startInFrame_23 Φ  (0 : Int)) ∧ (¬ (v1 ≤ (0 : Int)) → ((0 ≤ (3 : Int) ∧ (3 : Int) < 6) ∧ (∀ v3 : Int, v3 = se ((3 : Int)).toNat → (qP v3 v1 ∧ (∀ v4 : Int, v4 = v3 % v1 → wp_X1_startInFrame_23 Φ  v4))))))))
theorem iX1_startInFrame_X1 : ∀ w ∈ wsX10, w ∈ wsX1_startInFrame := fun w h => List.mem_cons_of_mem _ (List.mem_append_right _ (h))
set_option maxHeartbeats 4000000 in
set_option maxRecDepth 100000 in
theorem c_X1_startInFrame (l : Launch) (D : va_G) (E : Nat → ClassId) (s0 s1 s2 s3 s4 : Nat) (sz : Int) (ph : Nat → Int) (od : Nat → Int) (pi : Nat → Int64) (se : Nat → Int)  {Φ : Int → Prop} (hw : wp_X1_startInFrame  se Φ) : qRO l D E qF0 yX1_startInFrame wsX1_startInFrame 0 0 [(s0, .inr (1, [.ref s1, .ref s2, .int (qI sz), .ref s3, .ref s4])), (s1, qA (E 0) 64 ph), (s2, qA (E 0) 12 od), (s3, qL (E 1) 2 pi), (s4, qA (E 0) 6 se)] [.ref s0] qeI (fun r => Φ r) := by
  refine qRO_int (nL := 2) (own := RX1) qF0_ok (by decide) rfl rfl (Nat.le_of_ble_eq_true rfl) (fun X C hend => ?_)
  have hB23 : ∀ k0 : Int, wp_X1_startInFrame_23 Φ  k0 → qZ X 0 0 [(s0, .inr (1, [.ref s1, .ref s2, .int (qI sz), .ref s3, .ref s4])), (s1, qA (E 0) 64 ph), (s2, qA (E 0) 12 od), (s3, qL (E 1) 2 pi), (s4, qA (E 0) 6 se)] 23 [] [.int (qI k0)] := by
    intro k0 hw
    unfold wp_X1_startInFrame_23 at hw
    exact hend 23 _ k0 dX1_startInFrame_23 hw
  unfold wp_X1_startInFrame at hw
  show qZ X 0 0 [(s0, .inr (1, [.ref s1, .ref s2, .int (qI sz), .ref s3, .ref s4])), (s1, qA (E 0) 64 ph), (s2, qA (E 0) 12 od), (s3, qL (E 1) 2 pi), (s4, qA (E 0) 6 se)] 0 [(0, .ref s0)] []
  refine z_aload_n C 0 rfl rfl dX1_startInFrame_0 ?_
  refine z_get C iX1_startInFrame_X1 0 rfl rfl 4 (by decide) (List.mem_of_getElem? (i := 1) rfl) rfl rfl dX1_startInFrame_1 ?_
  refine z_iconst C dX1_startInFrame_4 ?_
  refine z_iald C 4 rfl (by decide) hw.1 dX1_startInFrame_5 ?_
  replace hw := hw.2
  refine z_name (fun v1 ev1 => ?_)
  replace hw := hw v1 ev1
  refine z_istore_n C rfl (by decide) rfl dX1_startInFrame_6 ?_
  refine z_iload_n C 0 rfl rfl dX1_startInFrame_7 ?_
  refine z_if_le (tgt := 22) C hw.1 (by decide) dX1_startInFrame_8 (fun c2 => ?_) (fun c2 => ?_)
  · replace hw := hw.2.1 c2
    refine z_iconst C dX1_startInFrame_22 ?_
    refine z_lst (ps := []) (lv' := []) (st' := [.int (qI (0 : Int))]) rfl rfl ?_
    exact hB23 (0 : Int) hw
  · replace hw := hw.2.2 c2
    refine z_aload_n C 1 rfl rfl dX1_startInFrame_11 ?_
    refine z_get C iX1_startInFrame_X1 0 rfl rfl 4 (by decide) (List.mem_of_getElem? (i := 1) rfl) rfl rfl dX1_startInFrame_12 ?_
    refine z_iconst C dX1_startInFrame_15 ?_
    refine z_iald C 4 rfl (by decide) hw.1 dX1_startInFrame_16 ?_
    replace hw := hw.2
    refine z_name (fun v3 ev3 => ?_)
    replace hw := hw v3 ev3
    refine z_iload_n C 0 rfl rfl dX1_startInFrame_17 ?_
    refine z_irem C hw.1 dX1_startInFrame_18 ?_
    replace hw := hw.2
    refine z_name (fun v4 ev4 => ?_)
    replace hw := hw v4 ev4
    refine z_goto (tgt := 23) C (by decide) dX1_startInFrame_19 ?_
    refine z_lst (ps := []) (lv' := []) (st' := [.int (qI v4)]) rfl rfl ?_
    exact hB23 v4 hw
def wp_X1_mean_11 (Φ : Int → Prop)  (k0 : Int) : Prop := Φ k0
def wp_X1_mean (x0 : Int) (x1 : Int)  (Φ : Int → Prop) : Prop := (qR x1 ∧ (x1 ≤ (0 : Int) → wp_X1_mean_11 Φ  (0 : Int)) ∧ (¬ (x1 ≤ (0 : Int)) → (qP x0 x1 ∧ (∀ v2 : Int, v2 = x0 / x1 → wp_X1_mean_11 Φ  v2))))
set_option maxHeartbeats 4000000 in
set_option maxRecDepth 100000 in
theorem c_X1_mean (l : Launch) (D : va_G) (E : Nat → ClassId)   (x0 : Int) (x1 : Int) {Φ : Int → Prop} (hw : wp_X1_mean x0 x1  Φ) : qRO l D E qF0 yX1_mean wsX1_mean 0 0 [] [.int (qI x0), .int (qI x1)] qeI (fun r => Φ r) := by
  refine qRO_int (nL := 2) (own := RX1) qF0_ok (by decide) rfl rfl (Nat.le_of_ble_eq_true rfl) (fun X C hend => ?_)
  have hB11 : ∀ k0 : Int, wp_X1_mean_11 Φ  k0 → qZ X 0 0 [] 11 [] [.int (qI k0)] := by
    intro k0 hw
    unfold wp_X1_mean_11 at hw
    exact hend 11 _ k0 dX1_mean_11 hw
  unfold wp_X1_mean at hw
  show qZ X 0 0 [] 0 [(0, .int (qI x0)), (1, .int (qI x1))] []
  refine z_iload_n C 1 rfl rfl dX1_mean_0 ?_
  refine z_if_le (tgt := 10) C hw.1 (by decide) dX1_mean_1 (fun c1 => ?_) (fun c1 => ?_)
  · replace hw := hw.2.1 c1
    refine z_iconst C dX1_mean_10 ?_
    refine z_lst (ps := []) (lv' := []) (st' := [.int (qI (0 : Int))]) rfl rfl ?_
    exact hB11 (0 : Int) hw
  · replace hw := hw.2.2 c1
    refine z_iload_n C 0 rfl rfl dX1_mean_4 ?_
    refine z_iload_n C 1 rfl rfl dX1_mean_5 ?_
    refine z_idiv C hw.1 dX1_mean_6 ?_
    replace hw := hw.2
    refine z_name (fun v2 ev2 => ?_)
    replace hw := hw v2 ev2
    refine z_goto (tgt := 11) C (by decide) dX1_mean_7 ?_
    refine z_lst (ps := []) (lv' := []) (st' := [.int (qI v2)]) rfl rfl ?_
    exact hB11 v2 hw
def wp_X1_sumOver_16 (Φ : Int → Prop)  (x1 : Int) (x3 : Int) (x4 : Int) (ph : Nat → Int) (se : Nat → Int) : Nat → Int → Int → Int → Prop
  | 0, _, _, _ => False
  | n9 + 1, x5, x6, x7 => ((qR x7 ∧ qR x3) ∧ (x3 ≤ x7 → Φ x5) ∧ (¬ (x3 ≤ x7) → wp_X1_shine x1 x4 x6 ph se (fun (r2 : Int) => (∀ v3 : Int, v3 = (x5 + r2) → wp_X1_next x6 se (fun (r4 : Int) => (∀ v5 : Int, v5 = x7 + (1 : Int) → wp_X1_sumOver_16 Φ  x1 x3 x4 ph se n9 v3 r4 v5))))))
def wp_X1_sumOver (x1 : Int) (x2 : Int) (x3 : Int) (sz : Int) (ph : Nat → Int) (od : Nat → Int) (se : Nat → Int) (Φ : Int → Prop) : Prop := wp_X1_litTick x1 sz od se (fun (r6 : Int) => ∃ n : Nat, wp_X1_sumOver_16 Φ  x1 x3 r6 ph se n (0 : Int) x2 (0 : Int))
set_option maxHeartbeats 4000000 in
set_option maxRecDepth 100000 in
theorem c_X1_sumOver (l : Launch) (D : va_G) (E : Nat → ClassId) (s0 s1 s2 s3 s4 : Nat) (sz : Int) (ph : Nat → Int) (od : Nat → Int) (pi : Nat → Int64) (se : Nat → Int) (x1 : Int) (x2 : Int) (x3 : Int) {Φ : Int → Prop} (hw : wp_X1_sumOver x1 x2 x3 sz ph od se Φ) : qRO l D E qF0 yX1_sumOver wsX1_sumOver 4 88 [(s0, .inr (1, [.ref s1, .ref s2, .int (qI sz), .ref s3, .ref s4])), (s1, qA (E 0) 64 ph), (s2, qA (E 0) 12 od), (s3, qL (E 1) 2 pi), (s4, qA (E 0) 6 se)] [.ref s0, .int (qI x1), .int (qI x2), .int (qI x3)] qeI (fun r => Φ r) := by
  refine qRO_int (nL := 8) (own := RX1) qF0_ok (by decide) rfl rfl (Nat.le_of_ble_eq_true rfl) (fun X C hend => ?_)
  have hB16 : ∀ x1 : Int, ∀ x3 : Int, ∀ x4 : Int, ∀ n8 : Nat, ∀ x5 : Int, ∀ x6 : Int, ∀ x7 : Int, wp_X1_sumOver_16 Φ  x1 x3 x4 ph se n8 x5 x6 x7 → qZ X 0 0 [(s0, .inr (1, [.ref s1, .ref s2, .int (qI sz), .ref s3, .ref s4])), (s1, qA (E 0) 64 ph), (s2, qA (E 0) 12 od), (s3, qL (E 1) 2 pi), (s4, qA (E 0) 6 se)] 16 [(0, .ref s0), (1, .int (qI x1)), (3, .int (qI x3)), (4, .int (qI x4)), (5, .int (qI x5)), (6, .int (qI x6)), (7, .int (qI x7))] [] := by
    intro x1 x3 x4 n8
    induction n8 with
    | zero =>
      intro x5 x6 x7 hw
      exact hw.elim
    | succ n9 ih =>
      intro x5 x6 x7 hw
      unfold wp_X1_sumOver_16 at hw
      refine z_iload C 6 rfl dX1_sumOver_16 ?_
      refine z_iload_n C 2 rfl rfl dX1_sumOver_18 ?_
      refine z_icmp_ge (tgt := 50) C hw.1 (by decide) dX1_sumOver_19 (fun c1 => ?_) (fun c1 => ?_)
      · replace hw := hw.2.1 c1
        refine z_iload C 4 rfl dX1_sumOver_50 ?_
        exact hend 52 _ x5 dX1_sumOver_52 hw
      · replace hw := hw.2.2 c1
        refine z_iload C 4 rfl dX1_sumOver_22 ?_
        refine z_aload_n C 0 rfl rfl dX1_sumOver_24 ?_
        refine z_iload_n C 1 rfl rfl dX1_sumOver_25 ?_
        refine z_iload C 3 rfl dX1_sumOver_26 ?_
        refine z_iload C 5 rfl dX1_sumOver_28 ?_
        refine z_callV (n := 3) C (c_X1_shine l D E s0 s1 s2 s3 s4 sz ph od pi se x1 x4 x6 hw) qF0_ok (fun _ _ _ => trivial) gX1_sumOver_X1_shine rfl (by decide +kernel) ⟨(Nat.le_of_ble_eq_true rfl), (Nat.le_of_ble_eq_true rfl)⟩ rfl 0 rfl rfl [0, 1, 2, 3, 4] rfl rfl (Nat.le_of_ble_eq_true rfl) dX1_sumOver_30 (fun r2 hw => ?_)
        show qZ X 0 0 [(s0, .inr (1, [.ref s1, .ref s2, .int (qI sz), .ref s3, .ref s4])), (s1, qA (E 0) 64 ph), (s2, qA (E 0) 12 od), (s3, qL (E 1) 2 pi), (s4, qA (E 0) 6 se)] _ _ [.int (qI r2), .int (qI x5)]
        refine z_iadd C dX1_sumOver_33 ?_
        refine z_name (fun v3 ev3 => ?_)
        replace hw := hw v3 ev3
        refine z_istore C (by decide) rfl dX1_sumOver_34 ?_
        refine z_aload_n C 1 rfl rfl dX1_sumOver_36 ?_
        refine z_iload C 5 rfl dX1_sumOver_37 ?_
        refine z_callV (n := 1) C (c_X1_next l D E s0 s1 s2 s3 s4 sz ph od pi se x6 hw) qF0_ok (fun _ _ _ => trivial) gX1_sumOver_X1_next rfl (by decide +kernel) ⟨(Nat.le_of_ble_eq_true rfl), (Nat.le_of_ble_eq_true rfl)⟩ rfl 0 rfl rfl [0, 1, 2, 3, 4] rfl rfl (Nat.le_of_ble_eq_true rfl) dX1_sumOver_39 (fun r4 hw => ?_)
        show qZ X 0 0 [(s0, .inr (1, [.ref s1, .ref s2, .int (qI sz), .ref s3, .ref s4])), (s1, qA (E 0) 64 ph), (s2, qA (E 0) 12 od), (s3, qL (E 1) 2 pi), (s4, qA (E 0) 6 se)] _ _ [.int (qI r4)]
        refine z_istore C (by decide) rfl dX1_sumOver_42 ?_
        obtain ⟨v5, ev5⟩ : ∃ v5 : Int, v5 = x7 + (1 : Int) := ⟨_, rfl⟩
        replace hw := hw v5 ev5
        refine z_iinc C 6 rfl (by decide) v5 ev5 rfl dX1_sumOver_44 ?_
        refine z_goto (tgt := 16) C (by decide) dX1_sumOver_47 ?_
        refine z_lst (ps := [3, 4, 5, 6, 2, 1, 0]) (lv' := [(0, .ref s0), (1, .int (qI x1)), (3, .int (qI x3)), (4, .int (qI x4)), (5, .int (qI v3)), (6, .int (qI r4)), (7, .int (qI v5))]) (st' := []) rfl rfl ?_
        exact ih v3 r4 v5 hw
  unfold wp_X1_sumOver at hw
  show qZ X 0 0 [(s0, .inr (1, [.ref s1, .ref s2, .int (qI sz), .ref s3, .ref s4])), (s1, qA (E 0) 64 ph), (s2, qA (E 0) 12 od), (s3, qL (E 1) 2 pi), (s4, qA (E 0) 6 se)] 0 [(0, .ref s0), (1, .int (qI x1)), (2, .int (qI x2)), (3, .int (qI x3))] []
  refine z_aload_n C 0 rfl rfl dX1_sumOver_0 ?_
  refine z_iload_n C 1 rfl rfl dX1_sumOver_1 ?_
  refine z_callV (n := 1) C (c_X1_litTick l D E s0 s1 s2 s3 s4 sz ph od pi se x1 hw) qF0_ok (fun _ _ _ => trivial) gX1_sumOver_X1_litTick rfl (by decide +kernel) ⟨(Nat.le_of_ble_eq_true rfl), (Nat.le_of_ble_eq_true rfl)⟩ rfl 0 rfl rfl [0, 1, 2, 3, 4] rfl rfl (Nat.le_of_ble_eq_true rfl) dX1_sumOver_2 (fun r6 hw => ?_)
  show qZ X 0 0 [(s0, .inr (1, [.ref s1, .ref s2, .int (qI sz), .ref s3, .ref s4])), (s1, qA (E 0) 64 ph), (s2, qA (E 0) 12 od), (s3, qL (E 1) 2 pi), (s4, qA (E 0) 6 se)] _ _ [.int (qI r6)]
  refine z_istore C (by decide) rfl dX1_sumOver_5 ?_
  refine z_iconst C dX1_sumOver_7 ?_
  refine z_istore C (by decide) rfl dX1_sumOver_8 ?_
  refine z_iload_n C 4 rfl rfl dX1_sumOver_10 ?_
  refine z_istore C (by decide) rfl dX1_sumOver_11 ?_
  refine z_iconst C dX1_sumOver_13 ?_
  refine z_istore C (by decide) rfl dX1_sumOver_14 ?_
  refine z_lst (ps := [4, 5, 7, 3, 2, 1, 0]) (lv' := [(0, .ref s0), (1, .int (qI x1)), (3, .int (qI x3)), (4, .int (qI r6)), (5, .int (qI (0 : Int))), (6, .int (qI x2)), (7, .int (qI (0 : Int)))]) (st' := []) rfl rfl ?_
  obtain ⟨n8, hw⟩ := hw
  exact hB16 x1 x3 r6 n8 (0 : Int) x2 (0 : Int) hw
def wp_X1_eyeMean (x1 : Int) (sz : Int) (ph : Nat → Int) (od : Nat → Int) (se : Nat → Int) (Φ : Int → Prop) : Prop := ((0 ≤ (0 : Int) ∧ (0 : Int) < 6) ∧ (∀ v1 : Int, v1 = se ((0 : Int)).toNat → wp_X1_sumOver x1 (0 : Int) v1 sz ph od se (fun (r2 : Int) => ((0 ≤ (0 : Int) ∧ (0 : Int) < 6) ∧ (∀ v3 : Int, v3 = se ((0 : Int)).toNat → wp_X1_mean r2 v3 (fun (r4 : Int) => Φ r4))))))
theorem iX1_eyeMean_X1 : ∀ w ∈ wsX10, w ∈ wsX1_eyeMean := fun w h => List.mem_cons_of_mem _ (List.mem_append_right _ (h))
set_option maxHeartbeats 4000000 in
set_option maxRecDepth 100000 in
theorem c_X1_eyeMean (l : Launch) (D : va_G) (E : Nat → ClassId) (s0 s1 s2 s3 s4 : Nat) (sz : Int) (ph : Nat → Int) (od : Nat → Int) (pi : Nat → Int64) (se : Nat → Int) (x1 : Int) {Φ : Int → Prop} (hw : wp_X1_eyeMean x1 sz ph od se Φ) : qRO l D E qF0 yX1_eyeMean wsX1_eyeMean 5 115 [(s0, .inr (1, [.ref s1, .ref s2, .int (qI sz), .ref s3, .ref s4])), (s1, qA (E 0) 64 ph), (s2, qA (E 0) 12 od), (s3, qL (E 1) 2 pi), (s4, qA (E 0) 6 se)] [.ref s0, .int (qI x1)] qeI (fun r => Φ r) := by
  refine qRO_int (nL := 2) (own := RX1) qF0_ok (by decide) rfl rfl (Nat.le_of_ble_eq_true rfl) (fun X C hend => ?_)
  unfold wp_X1_eyeMean at hw
  show qZ X 0 0 [(s0, .inr (1, [.ref s1, .ref s2, .int (qI sz), .ref s3, .ref s4])), (s1, qA (E 0) 64 ph), (s2, qA (E 0) 12 od), (s3, qL (E 1) 2 pi), (s4, qA (E 0) 6 se)] 0 [(0, .ref s0), (1, .int (qI x1))] []
  refine z_aload_n C 0 rfl rfl dX1_eyeMean_0 ?_
  refine z_iload_n C 1 rfl rfl dX1_eyeMean_1 ?_
  refine z_iconst C dX1_eyeMean_2 ?_
  refine z_aload_n C 0 rfl rfl dX1_eyeMean_3 ?_
  refine z_get C iX1_eyeMean_X1 0 rfl rfl 4 (by decide) (List.mem_of_getElem? (i := 1) rfl) rfl rfl dX1_eyeMean_4 ?_
  refine z_iconst C dX1_eyeMean_7 ?_
  refine z_iald C 4 rfl (by decide) hw.1 dX1_eyeMean_8 ?_
  replace hw := hw.2
  refine z_name (fun v1 ev1 => ?_)
  replace hw := hw v1 ev1
  refine z_callV (n := 3) C (c_X1_sumOver l D E s0 s1 s2 s3 s4 sz ph od pi se x1 (0 : Int) v1 hw) qF0_ok (fun _ _ _ => trivial) gX1_eyeMean_X1_sumOver rfl (by decide +kernel) ⟨(Nat.le_of_ble_eq_true rfl), (Nat.le_of_ble_eq_true rfl)⟩ rfl 0 rfl rfl [0, 1, 2, 3, 4] rfl rfl (Nat.le_of_ble_eq_true rfl) dX1_eyeMean_9 (fun r2 hw => ?_)
  show qZ X 0 0 [(s0, .inr (1, [.ref s1, .ref s2, .int (qI sz), .ref s3, .ref s4])), (s1, qA (E 0) 64 ph), (s2, qA (E 0) 12 od), (s3, qL (E 1) 2 pi), (s4, qA (E 0) 6 se)] _ _ [.int (qI r2)]
  refine z_aload_n C 0 rfl rfl dX1_eyeMean_12 ?_
  refine z_get C iX1_eyeMean_X1 0 rfl rfl 4 (by decide) (List.mem_of_getElem? (i := 1) rfl) rfl rfl dX1_eyeMean_13 ?_
  refine z_iconst C dX1_eyeMean_16 ?_
  refine z_iald C 4 rfl (by decide) hw.1 dX1_eyeMean_17 ?_
  replace hw := hw.2
  refine z_name (fun v3 ev3 => ?_)
  replace hw := hw v3 ev3
  refine z_callS (n := 2) C (c_X1_mean l D E   r2 v3 hw) qF0_ok (fun _ _ _ => trivial) gX1_eyeMean_X1_mean rfl (by decide +kernel) ⟨(Nat.le_of_ble_eq_true rfl), (Nat.le_of_ble_eq_true rfl)⟩ rfl [] rfl rfl (Nat.le_of_ble_eq_true rfl) dX1_eyeMean_18 (fun r4 hw => ?_)
  show qZ X 0 0 [(s0, .inr (1, [.ref s1, .ref s2, .int (qI sz), .ref s3, .ref s4])), (s1, qA (E 0) 64 ph), (s2, qA (E 0) 12 od), (s3, qL (E 1) 2 pi), (s4, qA (E 0) 6 se)] _ _ [.int (qI r4)]
  exact hend 21 _ r4 dX1_eyeMean_21 hw
def wp_X1_shutterMean (x1 : Int) (x2 : Int) (sz : Int) (ph : Nat → Int) (od : Nat → Int) (se : Nat → Int) (Φ : Int → Prop) : Prop := wp_X1_startInFrame se (fun (r1 : Int) => wp_X1_sumOver x1 r1 x2 sz ph od se (fun (r2 : Int) => wp_X1_mean r2 x2 (fun (r3 : Int) => Φ r3)))
set_option maxHeartbeats 4000000 in
set_option maxRecDepth 100000 in
theorem c_X1_shutterMean (l : Launch) (D : va_G) (E : Nat → ClassId) (s0 s1 s2 s3 s4 : Nat) (sz : Int) (ph : Nat → Int) (od : Nat → Int) (pi : Nat → Int64) (se : Nat → Int) (x1 : Int) (x2 : Int) {Φ : Int → Prop} (hw : wp_X1_shutterMean x1 x2 sz ph od se Φ) : qRO l D E qF0 yX1_shutterMean wsX1_shutterMean 5 115 [(s0, .inr (1, [.ref s1, .ref s2, .int (qI sz), .ref s3, .ref s4])), (s1, qA (E 0) 64 ph), (s2, qA (E 0) 12 od), (s3, qL (E 1) 2 pi), (s4, qA (E 0) 6 se)] [.ref s0, .int (qI x1), .int (qI x2)] qeI (fun r => Φ r) := by
  refine qRO_int (nL := 3) (own := RX1) qF0_ok (by decide) rfl rfl (Nat.le_of_ble_eq_true rfl) (fun X C hend => ?_)
  unfold wp_X1_shutterMean at hw
  show qZ X 0 0 [(s0, .inr (1, [.ref s1, .ref s2, .int (qI sz), .ref s3, .ref s4])), (s1, qA (E 0) 64 ph), (s2, qA (E 0) 12 od), (s3, qL (E 1) 2 pi), (s4, qA (E 0) 6 se)] 0 [(0, .ref s0), (1, .int (qI x1)), (2, .int (qI x2))] []
  refine z_aload_n C 0 rfl rfl dX1_shutterMean_0 ?_
  refine z_iload_n C 1 rfl rfl dX1_shutterMean_1 ?_
  refine z_aload_n C 0 rfl rfl dX1_shutterMean_2 ?_
  refine z_callV (n := 0) C (c_X1_startInFrame l D E s0 s1 s2 s3 s4 sz ph od pi se  hw) qF0_ok (fun _ _ _ => trivial) gX1_shutterMean_X1_startInFrame rfl (by decide +kernel) ⟨(Nat.le_of_ble_eq_true rfl), (Nat.le_of_ble_eq_true rfl)⟩ rfl 0 rfl rfl [0, 1, 2, 3, 4] rfl rfl (Nat.le_of_ble_eq_true rfl) dX1_shutterMean_3 (fun r1 hw => ?_)
  show qZ X 0 0 [(s0, .inr (1, [.ref s1, .ref s2, .int (qI sz), .ref s3, .ref s4])), (s1, qA (E 0) 64 ph), (s2, qA (E 0) 12 od), (s3, qL (E 1) 2 pi), (s4, qA (E 0) 6 se)] _ _ [.int (qI r1), .int (qI x1), .ref s0]
  refine z_iload_n C 2 rfl rfl dX1_shutterMean_6 ?_
  refine z_callV (n := 3) C (c_X1_sumOver l D E s0 s1 s2 s3 s4 sz ph od pi se x1 r1 x2 hw) qF0_ok (fun _ _ _ => trivial) gX1_shutterMean_X1_sumOver rfl (by decide +kernel) ⟨(Nat.le_of_ble_eq_true rfl), (Nat.le_of_ble_eq_true rfl)⟩ rfl 0 rfl rfl [0, 1, 2, 3, 4] rfl rfl (Nat.le_of_ble_eq_true rfl) dX1_shutterMean_7 (fun r2 hw => ?_)
  show qZ X 0 0 [(s0, .inr (1, [.ref s1, .ref s2, .int (qI sz), .ref s3, .ref s4])), (s1, qA (E 0) 64 ph), (s2, qA (E 0) 12 od), (s3, qL (E 1) 2 pi), (s4, qA (E 0) 6 se)] _ _ [.int (qI r2)]
  refine z_iload_n C 2 rfl rfl dX1_shutterMean_10 ?_
  refine z_callS (n := 2) C (c_X1_mean l D E   r2 x2 hw) qF0_ok (fun _ _ _ => trivial) gX1_shutterMean_X1_mean rfl (by decide +kernel) ⟨(Nat.le_of_ble_eq_true rfl), (Nat.le_of_ble_eq_true rfl)⟩ rfl [] rfl rfl (Nat.le_of_ble_eq_true rfl) dX1_shutterMean_11 (fun r3 hw => ?_)
  show qZ X 0 0 [(s0, .inr (1, [.ref s1, .ref s2, .int (qI sz), .ref s3, .ref s4])), (s1, qA (E 0) 64 ph), (s2, qA (E 0) 12 od), (s3, qL (E 1) 2 pi), (s4, qA (E 0) 6 se)] _ _ [.int (qI r3)]
  exact hend 14 _ r3 dX1_shutterMean_14 hw
def wp_X1_flicker_20 (Φ : Int → Prop)  (x1 : Int) (x2 : Int) (ph : Nat → Int) (se : Nat → Int) : Nat → Int → Int → Int → Prop
  | 0, _, _, _ => False
  | n9 + 1, x3, x4, x5 => ((0 ≤ (0 : Int) ∧ (0 : Int) < 6) ∧ (∀ v1 : Int, v1 = se ((0 : Int)).toNat → ((qR x5 ∧ qR v1) ∧ (v1 ≤ x5 → Φ (x3 - x4)) ∧ (¬ (v1 ≤ x5) → wp_X1_shine x1 x2 x5 ph se (fun (r3 : Int) => ((qR x3 ∧ qR r3) ∧ (∀ v4 : Int, v4 = (if x3 < r3 then r3 else x3) → ((qR x4 ∧ qR r3) ∧ (∀ v5 : Int, v5 = (if r3 < x4 then r3 else x4) → (∀ v6 : Int, v6 = x5 + (1 : Int) → wp_X1_flicker_20 Φ  x1 x2 ph se n9 v4 v5 v6))))))))))
def wp_X1_flicker (x1 : Int) (sz : Int) (ph : Nat → Int) (od : Nat → Int) (se : Nat → Int) (Φ : Int → Prop) : Prop := wp_X1_litTick x1 sz od se (fun (r7 : Int) => wp_X1_shine x1 r7 (0 : Int) ph se (fun (r8 : Int) => ∃ n : Nat, wp_X1_flicker_20 Φ  x1 r7 ph se n r8 r8 (1 : Int)))
theorem iX1_flicker_X1 : ∀ w ∈ wsX10, w ∈ wsX1_flicker := fun w h => List.mem_cons_of_mem _ (List.mem_append_right _ (h))
set_option maxHeartbeats 4000000 in
set_option maxRecDepth 100000 in
theorem c_X1_flicker (l : Launch) (D : va_G) (E : Nat → ClassId) (s0 s1 s2 s3 s4 : Nat) (sz : Int) (ph : Nat → Int) (od : Nat → Int) (pi : Nat → Int64) (se : Nat → Int) (x1 : Int) {Φ : Int → Prop} (hw : wp_X1_flicker x1 sz ph od se Φ) : qRO l D E qF0 yX1_flicker wsX1_flicker 4 88 [(s0, .inr (1, [.ref s1, .ref s2, .int (qI sz), .ref s3, .ref s4])), (s1, qA (E 0) 64 ph), (s2, qA (E 0) 12 od), (s3, qL (E 1) 2 pi), (s4, qA (E 0) 6 se)] [.ref s0, .int (qI x1)] qeI (fun r => Φ r) := by
  refine qRO_int (nL := 7) (own := RX1) qF0_ok (by decide) rfl rfl (Nat.le_of_ble_eq_true rfl) (fun X C hend => ?_)
  have hB20 : ∀ x1 : Int, ∀ x2 : Int, ∀ n8 : Nat, ∀ x3 : Int, ∀ x4 : Int, ∀ x5 : Int, wp_X1_flicker_20 Φ  x1 x2 ph se n8 x3 x4 x5 → qZ X 0 0 [(s0, .inr (1, [.ref s1, .ref s2, .int (qI sz), .ref s3, .ref s4])), (s1, qA (E 0) 64 ph), (s2, qA (E 0) 12 od), (s3, qL (E 1) 2 pi), (s4, qA (E 0) 6 se)] 20 [(0, .ref s0), (1, .int (qI x1)), (2, .int (qI x2)), (3, .int (qI x3)), (4, .int (qI x4)), (5, .int (qI x5))] [] := by
    intro x1 x2 n8
    induction n8 with
    | zero =>
      intro x3 x4 x5 hw
      exact hw.elim
    | succ n9 ih =>
      intro x3 x4 x5 hw
      unfold wp_X1_flicker_20 at hw
      refine z_iload C 5 rfl dX1_flicker_20 ?_
      refine z_aload_n C 0 rfl rfl dX1_flicker_22 ?_
      refine z_get C iX1_flicker_X1 0 rfl rfl 4 (by decide) (List.mem_of_getElem? (i := 1) rfl) rfl rfl dX1_flicker_23 ?_
      refine z_iconst C dX1_flicker_26 ?_
      refine z_iald C 4 rfl (by decide) hw.1 dX1_flicker_27 ?_
      replace hw := hw.2
      refine z_name (fun v1 ev1 => ?_)
      replace hw := hw v1 ev1
      refine z_icmp_ge (tgt := 63) C hw.1 (by decide) dX1_flicker_28 (fun c2 => ?_) (fun c2 => ?_)
      · replace hw := hw.2.1 c2
        refine z_iload_n C 3 rfl rfl dX1_flicker_63 ?_
        refine z_iload C 4 rfl dX1_flicker_64 ?_
        refine z_isub C dX1_flicker_66 ?_
        exact hend 67 _ (x3 - x4) dX1_flicker_67 hw
      · replace hw := hw.2.2 c2
        refine z_aload_n C 0 rfl rfl dX1_flicker_31 ?_
        refine z_iload_n C 1 rfl rfl dX1_flicker_32 ?_
        refine z_iload_n C 2 rfl rfl dX1_flicker_33 ?_
        refine z_iload C 5 rfl dX1_flicker_34 ?_
        refine z_callV (n := 3) C (c_X1_shine l D E s0 s1 s2 s3 s4 sz ph od pi se x1 x2 x5 hw) qF0_ok (fun _ _ _ => trivial) gX1_flicker_X1_shine rfl (by decide +kernel) ⟨(Nat.le_of_ble_eq_true rfl), (Nat.le_of_ble_eq_true rfl)⟩ rfl 0 rfl rfl [0, 1, 2, 3, 4] rfl rfl (Nat.le_of_ble_eq_true rfl) dX1_flicker_36 (fun r3 hw => ?_)
        show qZ X 0 0 [(s0, .inr (1, [.ref s1, .ref s2, .int (qI sz), .ref s3, .ref s4])), (s1, qA (E 0) 64 ph), (s2, qA (E 0) 12 od), (s3, qL (E 1) 2 pi), (s4, qA (E 0) 6 se)] _ _ [.int (qI r3)]
        refine z_istore C (by decide) rfl dX1_flicker_39 ?_
        refine z_iload_n C 4 rfl rfl dX1_flicker_41 ?_
        refine z_iload C 0 rfl dX1_flicker_42 ?_
        refine z_mmax C hw.1 (List.mem_of_getElem? (i := 2) rfl) (List.mem_of_getElem? (i := 3) rfl) (List.mem_of_getElem? (i := 4) rfl) (List.mem_of_getElem? (i := 5) rfl) (Nat.le_of_ble_eq_true rfl) (Nat.le_of_ble_eq_true rfl) dX1_flicker_44 ?_
        replace hw := hw.2
        refine z_name (fun v4 ev4 => ?_)
        replace hw := hw v4 ev4
        refine z_istore_n C rfl (by decide) rfl dX1_flicker_47 ?_
        refine z_iload C 5 rfl dX1_flicker_48 ?_
        refine z_iload C 1 rfl dX1_flicker_50 ?_
        refine z_mmin C hw.1 (List.mem_of_getElem? (i := 6) rfl) (List.mem_of_getElem? (i := 7) rfl) (List.mem_of_getElem? (i := 4) rfl) (List.mem_of_getElem? (i := 8) rfl) (Nat.le_of_ble_eq_true rfl) (Nat.le_of_ble_eq_true rfl) dX1_flicker_52 ?_
        replace hw := hw.2
        refine z_name (fun v5 ev5 => ?_)
        replace hw := hw v5 ev5
        refine z_istore C (by decide) rfl dX1_flicker_55 ?_
        obtain ⟨v6, ev6⟩ : ∃ v6 : Int, v6 = x5 + (1 : Int) := ⟨_, rfl⟩
        replace hw := hw v6 ev6
        refine z_iinc C 6 rfl (by decide) v6 ev6 rfl dX1_flicker_57 ?_
        refine z_goto (tgt := 20) C (by decide) dX1_flicker_60 ?_
        refine z_lst (ps := [4, 5, 6, 2, 1, 0]) (lv' := [(0, .ref s0), (1, .int (qI x1)), (2, .int (qI x2)), (3, .int (qI v4)), (4, .int (qI v5)), (5, .int (qI v6))]) (st' := []) rfl rfl ?_
        exact ih v4 v5 v6 hw
  unfold wp_X1_flicker at hw
  show qZ X 0 0 [(s0, .inr (1, [.ref s1, .ref s2, .int (qI sz), .ref s3, .ref s4])), (s1, qA (E 0) 64 ph), (s2, qA (E 0) 12 od), (s3, qL (E 1) 2 pi), (s4, qA (E 0) 6 se)] 0 [(0, .ref s0), (1, .int (qI x1))] []
  refine z_aload_n C 0 rfl rfl dX1_flicker_0 ?_
  refine z_iload_n C 1 rfl rfl dX1_flicker_1 ?_
  refine z_callV (n := 1) C (c_X1_litTick l D E s0 s1 s2 s3 s4 sz ph od pi se x1 hw) qF0_ok (fun _ _ _ => trivial) gX1_flicker_X1_litTick rfl (by decide +kernel) ⟨(Nat.le_of_ble_eq_true rfl), (Nat.le_of_ble_eq_true rfl)⟩ rfl 0 rfl rfl [0, 1, 2, 3, 4] rfl rfl (Nat.le_of_ble_eq_true rfl) dX1_flicker_2 (fun r7 hw => ?_)
  show qZ X 0 0 [(s0, .inr (1, [.ref s1, .ref s2, .int (qI sz), .ref s3, .ref s4])), (s1, qA (E 0) 64 ph), (s2, qA (E 0) 12 od), (s3, qL (E 1) 2 pi), (s4, qA (E 0) 6 se)] _ _ [.int (qI r7)]
  refine z_istore_n C rfl (by decide) rfl dX1_flicker_5 ?_
  refine z_aload_n C 1 rfl rfl dX1_flicker_6 ?_
  refine z_iload_n C 2 rfl rfl dX1_flicker_7 ?_
  refine z_iload_n C 0 rfl rfl dX1_flicker_8 ?_
  refine z_iconst C dX1_flicker_9 ?_
  refine z_callV (n := 3) C (c_X1_shine l D E s0 s1 s2 s3 s4 sz ph od pi se x1 r7 (0 : Int) hw) qF0_ok (fun _ _ _ => trivial) gX1_flicker_X1_shine rfl (by decide +kernel) ⟨(Nat.le_of_ble_eq_true rfl), (Nat.le_of_ble_eq_true rfl)⟩ rfl 0 rfl rfl [0, 1, 2, 3, 4] rfl rfl (Nat.le_of_ble_eq_true rfl) dX1_flicker_10 (fun r8 hw => ?_)
  show qZ X 0 0 [(s0, .inr (1, [.ref s1, .ref s2, .int (qI sz), .ref s3, .ref s4])), (s1, qA (E 0) 64 ph), (s2, qA (E 0) 12 od), (s3, qL (E 1) 2 pi), (s4, qA (E 0) 6 se)] _ _ [.int (qI r8)]
  refine z_istore_n C rfl (by decide) rfl dX1_flicker_13 ?_
  refine z_iload_n C 0 rfl rfl dX1_flicker_14 ?_
  refine z_istore C (by decide) rfl dX1_flicker_15 ?_
  refine z_iconst C dX1_flicker_17 ?_
  refine z_istore C (by decide) rfl dX1_flicker_18 ?_
  refine z_lst (ps := [4, 5, 3, 2, 1, 0]) (lv' := [(0, .ref s0), (1, .int (qI x1)), (2, .int (qI r7)), (3, .int (qI r8)), (4, .int (qI r8)), (5, .int (qI (1 : Int)))]) (st' := []) rfl rfl ?_
  obtain ⟨n8, hw⟩ := hw
  exact hB20 x1 r7 n8 r8 r8 (1 : Int) hw
def wp_X1_seen_50 (Φ : Int64 → Prop) (K6 : Int64 → Int → Prop) (x1 : Int) (x2 : Int) (x3 : Int) (x4 : Int64) (x6 : Int) (sz : Int) (ph : Nat → Int) (od : Nat → Int) (se : Nat → Int) : Prop := (∀ v1 : Int, v1 = x6 + (1 : Int) → K6 x4 v1)
def wp_X1_seen_6 (Φ : Int64 → Prop)  (x1 : Int) (x2 : Int) (x3 : Int) (sz : Int) (ph : Nat → Int) (od : Nat → Int) (se : Nat → Int) : Nat → Int64 → Int → Prop
  | 0, _, _ => False
  | n9 + 1, x4, x6 => ((qR x6 ∧ qR sz) ∧ (sz ≤ x6 → Φ x4) ∧ (¬ (sz ≤ x6) → ((0 ≤ x6 ∧ x6 < 12) ∧ (∀ v3 : Int, v3 = od (x6).toNat → wp_X1_sumOver v3 x1 x2 sz ph od se (fun (r4 : Int) => wp_X1_mean r4 x2 (fun (r5 : Int) => ((qR r5 ∧ qR x3) ∧ (r5 < x3 → wp_X1_seen_50 Φ (wp_X1_seen_6 Φ  x1 x2 x3 sz ph od se n9) x1 x2 x3 x4 x6 sz ph od se) ∧ (¬ (r5 < x3) → ((0 ≤ x6 ∧ x6 < 12) ∧ (∀ v7 : Int, v7 = od (x6).toNat → (∀ v8 : Int64, v8 = (x4 ||| (((1 : Int64) : Int64) <<< ((qI v7).toInt64 &&& 63))) → wp_X1_seen_50 Φ (wp_X1_seen_6 Φ  x1 x2 x3 sz ph od se n9) x1 x2 x3 v8 x6 sz ph od se)))))))))))
def wp_X1_seen (x1 : Int) (x2 : Int) (x3 : Int) (sz : Int) (ph : Nat → Int) (od : Nat → Int) (se : Nat → Int) (Φ : Int64 → Prop) : Prop := ∃ n : Nat, wp_X1_seen_6 Φ  x1 x2 x3 sz ph od se n (0 : Int64) (0 : Int)
theorem iX1_seen_X1 : ∀ w ∈ wsX10, w ∈ wsX1_seen := fun w h => List.mem_cons_of_mem _ (List.mem_append_right _ (h))
set_option maxHeartbeats 4000000 in
set_option maxRecDepth 100000 in
theorem c_X1_seen (l : Launch) (D : va_G) (E : Nat → ClassId) (s0 s1 s2 s3 s4 : Nat) (sz : Int) (ph : Nat → Int) (od : Nat → Int) (pi : Nat → Int64) (se : Nat → Int) (x1 : Int) (x2 : Int) (x3 : Int) {Φ : Int64 → Prop} (hw : wp_X1_seen x1 x2 x3 sz ph od se Φ) : qRO l D E qF0 yX1_seen wsX1_seen 5 115 [(s0, .inr (1, [.ref s1, .ref s2, .int (qI sz), .ref s3, .ref s4])), (s1, qA (E 0) 64 ph), (s2, qA (E 0) 12 od), (s3, qL (E 1) 2 pi), (s4, qA (E 0) 6 se)] [.ref s0, .int (qI x1), .int (qI x2), .int (qI x3)] qeL (fun r => Φ r) := by
  refine qRO_long (nL := 7) (own := RX1) qF0_ok (by decide) rfl rfl (Nat.le_of_ble_eq_true rfl) (fun X C hend => ?_)
  have hB50 : ∀ x1 : Int, ∀ x2 : Int, ∀ x3 : Int, ∀ K6 : Int64 → Int → Prop, (∀ (x4 : Int64) (x6 : Int), K6 x4 x6 → qZ X 0 0 [(s0, .inr (1, [.ref s1, .ref s2, .int (qI sz), .ref s3, .ref s4])), (s1, qA (E 0) 64 ph), (s2, qA (E 0) 12 od), (s3, qL (E 1) 2 pi), (s4, qA (E 0) 6 se)] 6 [(0, .ref s0), (1, .int (qI x1)), (2, .int (qI x2)), (3, .int (qI x3)), (4, .long x4), (6, .int (qI x6))] []) → ∀ x4 : Int64, ∀ x6 : Int, wp_X1_seen_50 Φ K6 x1 x2 x3 x4 x6 sz ph od se → qZ X 0 0 [(s0, .inr (1, [.ref s1, .ref s2, .int (qI sz), .ref s3, .ref s4])), (s1, qA (E 0) 64 ph), (s2, qA (E 0) 12 od), (s3, qL (E 1) 2 pi), (s4, qA (E 0) 6 se)] 50 [(0, .ref s0), (1, .int (qI x1)), (2, .int (qI x2)), (3, .int (qI x3)), (4, .long x4), (6, .int (qI x6))] [] := by
    intro x1 x2 x3 K6 hK6 x4 x6 hw
    unfold wp_X1_seen_50 at hw
    obtain ⟨v1, ev1⟩ : ∃ v1 : Int, v1 = x6 + (1 : Int) := ⟨_, rfl⟩
    replace hw := hw v1 ev1
    refine z_iinc C 5 rfl (by decide) v1 ev1 rfl dX1_seen_50 ?_
    refine z_goto (tgt := 6) C (by decide) dX1_seen_53 ?_
    refine z_lst (ps := [1, 2, 3, 4, 5, 0]) (lv' := [(0, .ref s0), (1, .int (qI x1)), (2, .int (qI x2)), (3, .int (qI x3)), (4, .long x4), (6, .int (qI v1))]) (st' := []) rfl rfl ?_
    exact hK6 x4 v1 hw
  have hB6 : ∀ x1 : Int, ∀ x2 : Int, ∀ x3 : Int, ∀ n8 : Nat, ∀ x4 : Int64, ∀ x6 : Int, wp_X1_seen_6 Φ  x1 x2 x3 sz ph od se n8 x4 x6 → qZ X 0 0 [(s0, .inr (1, [.ref s1, .ref s2, .int (qI sz), .ref s3, .ref s4])), (s1, qA (E 0) 64 ph), (s2, qA (E 0) 12 od), (s3, qL (E 1) 2 pi), (s4, qA (E 0) 6 se)] 6 [(0, .ref s0), (1, .int (qI x1)), (2, .int (qI x2)), (3, .int (qI x3)), (4, .long x4), (6, .int (qI x6))] [] := by
    intro x1 x2 x3 n8
    induction n8 with
    | zero =>
      intro x4 x6 hw
      exact hw.elim
    | succ n9 ih =>
      intro x4 x6 hw
      unfold wp_X1_seen_6 at hw
      refine z_iload C 5 rfl dX1_seen_6 ?_
      refine z_aload_n C 0 rfl rfl dX1_seen_8 ?_
      refine z_get C iX1_seen_X1 0 rfl rfl 2 (by decide) (List.mem_of_getElem? (i := 1) rfl) rfl rfl dX1_seen_9 ?_
      refine z_icmp_ge (tgt := 56) C hw.1 (by decide) dX1_seen_12 (fun c2 => ?_) (fun c2 => ?_)
      · replace hw := hw.2.1 c2
        refine z_lload C 4 rfl dX1_seen_56 ?_
        exact hend 58 _ x4 dX1_seen_58 hw
      · replace hw := hw.2.2 c2
        refine z_aload_n C 0 rfl rfl dX1_seen_15 ?_
        refine z_aload_n C 0 rfl rfl dX1_seen_16 ?_
        refine z_get C iX1_seen_X1 0 rfl rfl 1 (by decide) (List.mem_of_getElem? (i := 2) rfl) rfl rfl dX1_seen_17 ?_
        refine z_iload C 5 rfl dX1_seen_20 ?_
        refine z_iald C 2 rfl (by decide) hw.1 dX1_seen_22 ?_
        replace hw := hw.2
        refine z_name (fun v3 ev3 => ?_)
        replace hw := hw v3 ev3
        refine z_iload_n C 1 rfl rfl dX1_seen_23 ?_
        refine z_iload_n C 2 rfl rfl dX1_seen_24 ?_
        refine z_callV (n := 3) C (c_X1_sumOver l D E s0 s1 s2 s3 s4 sz ph od pi se v3 x1 x2 hw) qF0_ok (fun _ _ _ => trivial) gX1_seen_X1_sumOver rfl (by decide +kernel) ⟨(Nat.le_of_ble_eq_true rfl), (Nat.le_of_ble_eq_true rfl)⟩ rfl 0 rfl rfl [0, 1, 2, 3, 4] rfl rfl (Nat.le_of_ble_eq_true rfl) dX1_seen_25 (fun r4 hw => ?_)
        show qZ X 0 0 [(s0, .inr (1, [.ref s1, .ref s2, .int (qI sz), .ref s3, .ref s4])), (s1, qA (E 0) 64 ph), (s2, qA (E 0) 12 od), (s3, qL (E 1) 2 pi), (s4, qA (E 0) 6 se)] _ _ [.int (qI r4)]
        refine z_iload_n C 2 rfl rfl dX1_seen_28 ?_
        refine z_callS (n := 2) C (c_X1_mean l D E   r4 x2 hw) qF0_ok (fun _ _ _ => trivial) gX1_seen_X1_mean rfl (by decide +kernel) ⟨(Nat.le_of_ble_eq_true rfl), (Nat.le_of_ble_eq_true rfl)⟩ rfl [] rfl rfl (Nat.le_of_ble_eq_true rfl) dX1_seen_29 (fun r5 hw => ?_)
        show qZ X 0 0 [(s0, .inr (1, [.ref s1, .ref s2, .int (qI sz), .ref s3, .ref s4])), (s1, qA (E 0) 64 ph), (s2, qA (E 0) 12 od), (s3, qL (E 1) 2 pi), (s4, qA (E 0) 6 se)] _ _ [.int (qI r5)]
        refine z_iload_n C 3 rfl rfl dX1_seen_32 ?_
        refine z_icmp_lt (tgt := 50) C hw.1 (by decide) dX1_seen_33 (fun c6 => ?_) (fun c6 => ?_)
        · replace hw := hw.2.1 c6
          refine z_lst (ps := [0, 1, 2, 3, 4, 5]) (lv' := [(0, .ref s0), (1, .int (qI x1)), (2, .int (qI x2)), (3, .int (qI x3)), (4, .long x4), (6, .int (qI x6))]) (st' := []) rfl rfl ?_
          exact hB50 x1 x2 x3 _ ih x4 x6 hw
        · replace hw := hw.2.2 c6
          refine z_lload C 4 rfl dX1_seen_36 ?_
          refine z_lconst (v := (1 : Int64)) C (by decide +kernel) dX1_seen_38 ?_
          refine z_aload_n C 0 rfl rfl dX1_seen_39 ?_
          refine z_get C iX1_seen_X1 0 rfl rfl 1 (by decide) (List.mem_of_getElem? (i := 2) rfl) rfl rfl dX1_seen_40 ?_
          refine z_iload C 5 rfl dX1_seen_43 ?_
          refine z_iald C 2 rfl (by decide) hw.1 dX1_seen_45 ?_
          replace hw := hw.2
          refine z_name (fun v7 ev7 => ?_)
          replace hw := hw v7 ev7
          refine z_lshl C dX1_seen_46 ?_
          refine z_lor C dX1_seen_47 ?_
          refine z_nameL (fun v8 ev8 => ?_)
          replace hw := hw v8 ev8
          refine z_lstore C (by decide) rfl dX1_seen_48 ?_
          refine z_lst (ps := [1, 2, 3, 4, 0, 5]) (lv' := [(0, .ref s0), (1, .int (qI x1)), (2, .int (qI x2)), (3, .int (qI x3)), (4, .long v8), (6, .int (qI x6))]) (st' := []) rfl rfl ?_
          exact hB50 x1 x2 x3 _ ih v8 x6 hw
  unfold wp_X1_seen at hw
  show qZ X 0 0 [(s0, .inr (1, [.ref s1, .ref s2, .int (qI sz), .ref s3, .ref s4])), (s1, qA (E 0) 64 ph), (s2, qA (E 0) 12 od), (s3, qL (E 1) 2 pi), (s4, qA (E 0) 6 se)] 0 [(0, .ref s0), (1, .int (qI x1)), (2, .int (qI x2)), (3, .int (qI x3))] []
  refine z_lconst (v := (0 : Int64)) C (by decide +kernel) dX1_seen_0 ?_
  refine z_lstore C (by decide) rfl dX1_seen_1 ?_
  refine z_iconst C dX1_seen_3 ?_
  refine z_istore C (by decide) rfl dX1_seen_4 ?_
  refine z_lst (ps := [2, 3, 4, 5, 1, 0]) (lv' := [(0, .ref s0), (1, .int (qI x1)), (2, .int (qI x2)), (3, .int (qI x3)), (4, .long (0 : Int64)), (6, .int (qI (0 : Int)))]) (st' := []) rfl rfl ?_
  obtain ⟨n8, hw⟩ := hw
  exact hB6 x1 x2 x3 n8 (0 : Int64) (0 : Int) hw
def wp_X1_seenByEye  (sz : Int) (ph : Nat → Int) (od : Nat → Int) (se : Nat → Int) (Φ : Int64 → Prop) : Prop := ((0 ≤ (0 : Int) ∧ (0 : Int) < 6) ∧ (∀ v1 : Int, v1 = se ((0 : Int)).toNat → ((0 ≤ (2 : Int) ∧ (2 : Int) < 6) ∧ (∀ v2 : Int, v2 = se ((2 : Int)).toNat → wp_X1_seen (0 : Int) v1 v2 sz ph od se (fun (r3 : Int64) => Φ r3)))))
theorem iX1_seenByEye_X1 : ∀ w ∈ wsX10, w ∈ wsX1_seenByEye := fun w h => List.mem_cons_of_mem _ (List.mem_append_right _ (h))
set_option maxHeartbeats 4000000 in
set_option maxRecDepth 100000 in
theorem c_X1_seenByEye (l : Launch) (D : va_G) (E : Nat → ClassId) (s0 s1 s2 s3 s4 : Nat) (sz : Int) (ph : Nat → Int) (od : Nat → Int) (pi : Nat → Int64) (se : Nat → Int)  {Φ : Int64 → Prop} (hw : wp_X1_seenByEye  sz ph od se Φ) : qRO l D E qF0 yX1_seenByEye wsX1_seenByEye 6 141 [(s0, .inr (1, [.ref s1, .ref s2, .int (qI sz), .ref s3, .ref s4])), (s1, qA (E 0) 64 ph), (s2, qA (E 0) 12 od), (s3, qL (E 1) 2 pi), (s4, qA (E 0) 6 se)] [.ref s0] qeL (fun r => Φ r) := by
  refine qRO_long (nL := 1) (own := RX1) qF0_ok (by decide) rfl rfl (Nat.le_of_ble_eq_true rfl) (fun X C hend => ?_)
  unfold wp_X1_seenByEye at hw
  show qZ X 0 0 [(s0, .inr (1, [.ref s1, .ref s2, .int (qI sz), .ref s3, .ref s4])), (s1, qA (E 0) 64 ph), (s2, qA (E 0) 12 od), (s3, qL (E 1) 2 pi), (s4, qA (E 0) 6 se)] 0 [(0, .ref s0)] []
  refine z_aload_n C 0 rfl rfl dX1_seenByEye_0 ?_
  refine z_iconst C dX1_seenByEye_1 ?_
  refine z_aload_n C 0 rfl rfl dX1_seenByEye_2 ?_
  refine z_get C iX1_seenByEye_X1 0 rfl rfl 4 (by decide) (List.mem_of_getElem? (i := 1) rfl) rfl rfl dX1_seenByEye_3 ?_
  refine z_iconst C dX1_seenByEye_6 ?_
  refine z_iald C 4 rfl (by decide) hw.1 dX1_seenByEye_7 ?_
  replace hw := hw.2
  refine z_name (fun v1 ev1 => ?_)
  replace hw := hw v1 ev1
  refine z_aload_n C 0 rfl rfl dX1_seenByEye_8 ?_
  refine z_get C iX1_seenByEye_X1 0 rfl rfl 4 (by decide) (List.mem_of_getElem? (i := 1) rfl) rfl rfl dX1_seenByEye_9 ?_
  refine z_iconst C dX1_seenByEye_12 ?_
  refine z_iald C 4 rfl (by decide) hw.1 dX1_seenByEye_13 ?_
  replace hw := hw.2
  refine z_name (fun v2 ev2 => ?_)
  replace hw := hw v2 ev2
  refine z_callV (n := 3) C (c_X1_seen l D E s0 s1 s2 s3 s4 sz ph od pi se (0 : Int) v1 v2 hw) qF0_ok (fun _ _ _ => trivial) gX1_seenByEye_X1_seen rfl (by decide +kernel) ⟨(Nat.le_of_ble_eq_true rfl), (Nat.le_of_ble_eq_true rfl)⟩ rfl 0 rfl rfl [0, 1, 2, 3, 4] rfl rfl (Nat.le_of_ble_eq_true rfl) dX1_seenByEye_14 (fun r3 hw => ?_)
  show qZ X 0 0 [(s0, .inr (1, [.ref s1, .ref s2, .int (qI sz), .ref s3, .ref s4])), (s1, qA (E 0) 64 ph), (s2, qA (E 0) 12 od), (s3, qL (E 1) 2 pi), (s4, qA (E 0) 6 se)] _ _ [.long r3]
  exact hend 17 _ r3 dX1_seenByEye_17 hw
def wp_X1_seenByShutter (x1 : Int) (sz : Int) (ph : Nat → Int) (od : Nat → Int) (se : Nat → Int) (Φ : Int64 → Prop) : Prop := wp_X1_startInFrame se (fun (r1 : Int) => ((0 ≤ (5 : Int) ∧ (5 : Int) < 6) ∧ (∀ v2 : Int, v2 = se ((5 : Int)).toNat → wp_X1_seen r1 x1 v2 sz ph od se (fun (r3 : Int64) => Φ r3))))
theorem iX1_seenByShutter_X1 : ∀ w ∈ wsX10, w ∈ wsX1_seenByShutter := fun w h => List.mem_cons_of_mem _ (List.mem_append_right _ (h))
set_option maxHeartbeats 4000000 in
set_option maxRecDepth 100000 in
theorem c_X1_seenByShutter (l : Launch) (D : va_G) (E : Nat → ClassId) (s0 s1 s2 s3 s4 : Nat) (sz : Int) (ph : Nat → Int) (od : Nat → Int) (pi : Nat → Int64) (se : Nat → Int) (x1 : Int) {Φ : Int64 → Prop} (hw : wp_X1_seenByShutter x1 sz ph od se Φ) : qRO l D E qF0 yX1_seenByShutter wsX1_seenByShutter 6 141 [(s0, .inr (1, [.ref s1, .ref s2, .int (qI sz), .ref s3, .ref s4])), (s1, qA (E 0) 64 ph), (s2, qA (E 0) 12 od), (s3, qL (E 1) 2 pi), (s4, qA (E 0) 6 se)] [.ref s0, .int (qI x1)] qeL (fun r => Φ r) := by
  refine qRO_long (nL := 2) (own := RX1) qF0_ok (by decide) rfl rfl (Nat.le_of_ble_eq_true rfl) (fun X C hend => ?_)
  unfold wp_X1_seenByShutter at hw
  show qZ X 0 0 [(s0, .inr (1, [.ref s1, .ref s2, .int (qI sz), .ref s3, .ref s4])), (s1, qA (E 0) 64 ph), (s2, qA (E 0) 12 od), (s3, qL (E 1) 2 pi), (s4, qA (E 0) 6 se)] 0 [(0, .ref s0), (1, .int (qI x1))] []
  refine z_aload_n C 0 rfl rfl dX1_seenByShutter_0 ?_
  refine z_aload_n C 0 rfl rfl dX1_seenByShutter_1 ?_
  refine z_callV (n := 0) C (c_X1_startInFrame l D E s0 s1 s2 s3 s4 sz ph od pi se  hw) qF0_ok (fun _ _ _ => trivial) gX1_seenByShutter_X1_startInFrame rfl (by decide +kernel) ⟨(Nat.le_of_ble_eq_true rfl), (Nat.le_of_ble_eq_true rfl)⟩ rfl 0 rfl rfl [0, 1, 2, 3, 4] rfl rfl (Nat.le_of_ble_eq_true rfl) dX1_seenByShutter_2 (fun r1 hw => ?_)
  show qZ X 0 0 [(s0, .inr (1, [.ref s1, .ref s2, .int (qI sz), .ref s3, .ref s4])), (s1, qA (E 0) 64 ph), (s2, qA (E 0) 12 od), (s3, qL (E 1) 2 pi), (s4, qA (E 0) 6 se)] _ _ [.int (qI r1), .ref s0]
  refine z_iload_n C 1 rfl rfl dX1_seenByShutter_5 ?_
  refine z_aload_n C 0 rfl rfl dX1_seenByShutter_6 ?_
  refine z_get C iX1_seenByShutter_X1 0 rfl rfl 4 (by decide) (List.mem_of_getElem? (i := 1) rfl) rfl rfl dX1_seenByShutter_7 ?_
  refine z_iconst C dX1_seenByShutter_10 ?_
  refine z_iald C 4 rfl (by decide) hw.1 dX1_seenByShutter_11 ?_
  replace hw := hw.2
  refine z_name (fun v2 ev2 => ?_)
  replace hw := hw v2 ev2
  refine z_callV (n := 3) C (c_X1_seen l D E s0 s1 s2 s3 s4 sz ph od pi se r1 x1 v2 hw) qF0_ok (fun _ _ _ => trivial) gX1_seenByShutter_X1_seen rfl (by decide +kernel) ⟨(Nat.le_of_ble_eq_true rfl), (Nat.le_of_ble_eq_true rfl)⟩ rfl 0 rfl rfl [0, 1, 2, 3, 4] rfl rfl (Nat.le_of_ble_eq_true rfl) dX1_seenByShutter_12 (fun r3 hw => ?_)
  show qZ X 0 0 [(s0, .inr (1, [.ref s1, .ref s2, .int (qI sz), .ref s3, .ref s4])), (s1, qA (E 0) 64 ph), (s2, qA (E 0) 12 od), (s3, qL (E 1) 2 pi), (s4, qA (E 0) 6 se)] _ _ [.long r3]
  exact hend 15 _ r3 dX1_seenByShutter_15 hw
def wp_X1_wrong (x1 : Int) (x2 : Int64) (pi : Nat → Int64) (Φ : Int64 → Prop) : Prop := ((0 ≤ x1 ∧ x1 < 2) ∧ (∀ v1 : Int64, v1 = pi (x1).toNat → Φ (v1 ^^^ x2)))
theorem iX1_wrong_X1 : ∀ w ∈ wsX10, w ∈ wsX1_wrong := fun w h => List.mem_cons_of_mem _ (List.mem_append_right _ (h))
set_option maxHeartbeats 4000000 in
set_option maxRecDepth 100000 in
theorem c_X1_wrong (l : Launch) (D : va_G) (E : Nat → ClassId) (s0 s1 s2 s3 s4 : Nat) (sz : Int) (ph : Nat → Int) (od : Nat → Int) (pi : Nat → Int64) (se : Nat → Int) (x1 : Int) (x2 : Int64) {Φ : Int64 → Prop} (hw : wp_X1_wrong x1 x2 pi Φ) : qRO l D E qF0 yX1_wrong wsX1_wrong 0 0 [(s0, .inr (1, [.ref s1, .ref s2, .int (qI sz), .ref s3, .ref s4])), (s1, qA (E 0) 64 ph), (s2, qA (E 0) 12 od), (s3, qL (E 1) 2 pi), (s4, qA (E 0) 6 se)] [.ref s0, .int (qI x1), .long x2] qeL (fun r => Φ r) := by
  refine qRO_long (nL := 4) (own := RX1) qF0_ok (by decide) rfl rfl (Nat.le_of_ble_eq_true rfl) (fun X C hend => ?_)
  unfold wp_X1_wrong at hw
  show qZ X 0 0 [(s0, .inr (1, [.ref s1, .ref s2, .int (qI sz), .ref s3, .ref s4])), (s1, qA (E 0) 64 ph), (s2, qA (E 0) 12 od), (s3, qL (E 1) 2 pi), (s4, qA (E 0) 6 se)] 0 [(0, .ref s0), (1, .int (qI x1)), (2, .long x2)] []
  refine z_aload_n C 0 rfl rfl dX1_wrong_0 ?_
  refine z_get C iX1_wrong_X1 0 rfl rfl 3 (by decide) (List.mem_of_getElem? (i := 1) rfl) rfl rfl dX1_wrong_1 ?_
  refine z_iload_n C 1 rfl rfl dX1_wrong_4 ?_
  refine z_lald C 3 rfl (by decide) hw.1 dX1_wrong_5 ?_
  replace hw := hw.2
  refine z_nameL (fun v1 ev1 => ?_)
  replace hw := hw v1 ev1
  refine z_lload_n C 2 rfl rfl dX1_wrong_6 ?_
  refine z_lxor C dX1_wrong_7 ?_
  exact hend 8 _ (v1 ^^^ x2) dX1_wrong_8 hw
def wp_X1_spotsOfOrder_4 (Φ : Int64 → Prop)  (sz : Int) (od : Nat → Int) : Nat → Int64 → Int → Prop
  | 0, _, _ => False
  | n9 + 1, x1, x3 => ((qR x3 ∧ qR sz) ∧ (sz ≤ x3 → Φ x1) ∧ (¬ (sz ≤ x3) → ((0 ≤ x3 ∧ x3 < 12) ∧ (∀ v2 : Int, v2 = od (x3).toNat → (∀ v3 : Int64, v3 = (x1 ||| (((1 : Int64) : Int64) <<< ((qI v2).toInt64 &&& 63))) → (∀ v4 : Int, v4 = x3 + (1 : Int) → wp_X1_spotsOfOrder_4 Φ  sz od n9 v3 v4))))))
def wp_X1_spotsOfOrder  (sz : Int) (od : Nat → Int) (Φ : Int64 → Prop) : Prop := ∃ n : Nat, wp_X1_spotsOfOrder_4 Φ  sz od n (0 : Int64) (0 : Int)
theorem iX1_spotsOfOrder_X1 : ∀ w ∈ wsX10, w ∈ wsX1_spotsOfOrder := fun w h => List.mem_cons_of_mem _ (List.mem_append_right _ (h))
set_option maxHeartbeats 4000000 in
set_option maxRecDepth 100000 in
theorem c_X1_spotsOfOrder (l : Launch) (D : va_G) (E : Nat → ClassId) (s0 s1 s2 s3 s4 : Nat) (sz : Int) (ph : Nat → Int) (od : Nat → Int) (pi : Nat → Int64) (se : Nat → Int)  {Φ : Int64 → Prop} (hw : wp_X1_spotsOfOrder  sz od Φ) : qRO l D E qF0 yX1_spotsOfOrder wsX1_spotsOfOrder 0 0 [(s0, .inr (1, [.ref s1, .ref s2, .int (qI sz), .ref s3, .ref s4])), (s1, qA (E 0) 64 ph), (s2, qA (E 0) 12 od), (s3, qL (E 1) 2 pi), (s4, qA (E 0) 6 se)] [.ref s0] qeL (fun r => Φ r) := by
  refine qRO_long (nL := 4) (own := RX1) qF0_ok (by decide) rfl rfl (Nat.le_of_ble_eq_true rfl) (fun X C hend => ?_)
  have hB4 : ∀ n8 : Nat, ∀ x1 : Int64, ∀ x3 : Int, wp_X1_spotsOfOrder_4 Φ  sz od n8 x1 x3 → qZ X 0 0 [(s0, .inr (1, [.ref s1, .ref s2, .int (qI sz), .ref s3, .ref s4])), (s1, qA (E 0) 64 ph), (s2, qA (E 0) 12 od), (s3, qL (E 1) 2 pi), (s4, qA (E 0) 6 se)] 4 [(0, .ref s0), (1, .long x1), (3, .int (qI x3))] [] := by
    intro n8
    induction n8 with
    | zero =>
      intro x1 x3 hw
      exact hw.elim
    | succ n9 ih =>
      intro x1 x3 hw
      unfold wp_X1_spotsOfOrder_4 at hw
      refine z_iload_n C 2 rfl rfl dX1_spotsOfOrder_4 ?_
      refine z_aload_n C 0 rfl rfl dX1_spotsOfOrder_5 ?_
      refine z_get C iX1_spotsOfOrder_X1 0 rfl rfl 2 (by decide) (List.mem_of_getElem? (i := 1) rfl) rfl rfl dX1_spotsOfOrder_6 ?_
      refine z_icmp_ge (tgt := 29) C hw.1 (by decide) dX1_spotsOfOrder_9 (fun c1 => ?_) (fun c1 => ?_)
      · replace hw := hw.2.1 c1
        refine z_lload_n C 1 rfl rfl dX1_spotsOfOrder_29 ?_
        exact hend 30 _ x1 dX1_spotsOfOrder_30 hw
      · replace hw := hw.2.2 c1
        refine z_lload_n C 1 rfl rfl dX1_spotsOfOrder_12 ?_
        refine z_lconst (v := (1 : Int64)) C (by decide +kernel) dX1_spotsOfOrder_13 ?_
        refine z_aload_n C 0 rfl rfl dX1_spotsOfOrder_14 ?_
        refine z_get C iX1_spotsOfOrder_X1 0 rfl rfl 1 (by decide) (List.mem_of_getElem? (i := 2) rfl) rfl rfl dX1_spotsOfOrder_15 ?_
        refine z_iload_n C 2 rfl rfl dX1_spotsOfOrder_18 ?_
        refine z_iald C 2 rfl (by decide) hw.1 dX1_spotsOfOrder_19 ?_
        replace hw := hw.2
        refine z_name (fun v2 ev2 => ?_)
        replace hw := hw v2 ev2
        refine z_lshl C dX1_spotsOfOrder_20 ?_
        refine z_lor C dX1_spotsOfOrder_21 ?_
        refine z_nameL (fun v3 ev3 => ?_)
        replace hw := hw v3 ev3
        refine z_lstore_n C rfl (by decide) rfl dX1_spotsOfOrder_22 ?_
        obtain ⟨v4, ev4⟩ : ∃ v4 : Int, v4 = x3 + (1 : Int) := ⟨_, rfl⟩
        replace hw := hw v4 ev4
        refine z_iinc C 2 rfl (by decide) v4 ev4 rfl dX1_spotsOfOrder_23 ?_
        refine z_goto (tgt := 4) C (by decide) dX1_spotsOfOrder_26 ?_
        refine z_lst (ps := [2, 1, 0]) (lv' := [(0, .ref s0), (1, .long v3), (3, .int (qI v4))]) (st' := []) rfl rfl ?_
        exact ih v3 v4 hw
  unfold wp_X1_spotsOfOrder at hw
  show qZ X 0 0 [(s0, .inr (1, [.ref s1, .ref s2, .int (qI sz), .ref s3, .ref s4])), (s1, qA (E 0) 64 ph), (s2, qA (E 0) 12 od), (s3, qL (E 1) 2 pi), (s4, qA (E 0) 6 se)] 0 [(0, .ref s0)] []
  refine z_lconst (v := (0 : Int64)) C (by decide +kernel) dX1_spotsOfOrder_0 ?_
  refine z_lstore_n C rfl (by decide) rfl dX1_spotsOfOrder_1 ?_
  refine z_iconst C dX1_spotsOfOrder_2 ?_
  refine z_istore_n C rfl (by decide) rfl dX1_spotsOfOrder_3 ?_
  refine z_lst (ps := [2, 1, 0]) (lv' := [(0, .ref s0), (1, .long (0 : Int64)), (3, .int (qI (0 : Int)))]) (st' := []) rfl rfl ?_
  obtain ⟨n8, hw⟩ := hw
  exact hB4 n8 (0 : Int64) (0 : Int) hw
def wp_X1_sumOfWays_6 (Φ : Int → Prop)  (sz : Int) (od : Nat → Int) : Nat → Int → Int → Int → Prop
  | 0, _, _, _ => False
  | n9 + 1, x1, x2, x3 => ((qR x3 ∧ qR sz) ∧ (sz ≤ x3 → Φ x1) ∧ (¬ (sz ≤ x3) → ((0 ≤ x3 ∧ x3 < 12) ∧ (∀ v2 : Int, v2 = od (x3).toNat → wp_X4_way x2 v2 (fun (r3 : Int) => (∀ v4 : Int, v4 = (x1 + r3) → ((0 ≤ x3 ∧ x3 < 12) ∧ (∀ v5 : Int, v5 = od (x3).toNat → (∀ v6 : Int, v6 = x3 + (1 : Int) → wp_X1_sumOfWays_6 Φ  sz od n9 v4 v5 v6)))))))))
def wp_X1_sumOfWays  (sz : Int) (od : Nat → Int) (Φ : Int → Prop) : Prop := ∃ n : Nat, wp_X1_sumOfWays_6 Φ  sz od n (0 : Int) (0 : Int) (0 : Int)
theorem iX1_sumOfWays_X1 : ∀ w ∈ wsX10, w ∈ wsX1_sumOfWays := fun w h => List.mem_cons_of_mem _ (List.mem_append_right _ (h))
set_option maxHeartbeats 4000000 in
set_option maxRecDepth 100000 in
theorem c_X1_sumOfWays (l : Launch) (D : va_G) (E : Nat → ClassId) (s0 s1 s2 s3 s4 : Nat) (sz : Int) (ph : Nat → Int) (od : Nat → Int) (pi : Nat → Int64) (se : Nat → Int)  {Φ : Int → Prop} (hw : wp_X1_sumOfWays  sz od Φ) : qRO l D E qF0 yX1_sumOfWays wsX1_sumOfWays 2 42 [(s0, .inr (1, [.ref s1, .ref s2, .int (qI sz), .ref s3, .ref s4])), (s1, qA (E 0) 64 ph), (s2, qA (E 0) 12 od), (s3, qL (E 1) 2 pi), (s4, qA (E 0) 6 se)] [.ref s0] qeI (fun r => Φ r) := by
  refine qRO_int (nL := 4) (own := RX1) qF0_ok (by decide) rfl rfl (Nat.le_of_ble_eq_true rfl) (fun X C hend => ?_)
  have hB6 : ∀ n8 : Nat, ∀ x1 : Int, ∀ x2 : Int, ∀ x3 : Int, wp_X1_sumOfWays_6 Φ  sz od n8 x1 x2 x3 → qZ X 0 0 [(s0, .inr (1, [.ref s1, .ref s2, .int (qI sz), .ref s3, .ref s4])), (s1, qA (E 0) 64 ph), (s2, qA (E 0) 12 od), (s3, qL (E 1) 2 pi), (s4, qA (E 0) 6 se)] 6 [(0, .ref s0), (1, .int (qI x1)), (2, .int (qI x2)), (3, .int (qI x3))] [] := by
    intro n8
    induction n8 with
    | zero =>
      intro x1 x2 x3 hw
      exact hw.elim
    | succ n9 ih =>
      intro x1 x2 x3 hw
      unfold wp_X1_sumOfWays_6 at hw
      refine z_iload_n C 3 rfl rfl dX1_sumOfWays_6 ?_
      refine z_aload_n C 0 rfl rfl dX1_sumOfWays_7 ?_
      refine z_get C iX1_sumOfWays_X1 0 rfl rfl 2 (by decide) (List.mem_of_getElem? (i := 1) rfl) rfl rfl dX1_sumOfWays_8 ?_
      refine z_icmp_ge (tgt := 40) C hw.1 (by decide) dX1_sumOfWays_11 (fun c1 => ?_) (fun c1 => ?_)
      · replace hw := hw.2.1 c1
        refine z_iload_n C 1 rfl rfl dX1_sumOfWays_40 ?_
        exact hend 41 _ x1 dX1_sumOfWays_41 hw
      · replace hw := hw.2.2 c1
        refine z_iload_n C 1 rfl rfl dX1_sumOfWays_14 ?_
        refine z_iload_n C 2 rfl rfl dX1_sumOfWays_15 ?_
        refine z_aload_n C 0 rfl rfl dX1_sumOfWays_16 ?_
        refine z_get C iX1_sumOfWays_X1 0 rfl rfl 1 (by decide) (List.mem_of_getElem? (i := 2) rfl) rfl rfl dX1_sumOfWays_17 ?_
        refine z_iload_n C 3 rfl rfl dX1_sumOfWays_20 ?_
        refine z_iald C 2 rfl (by decide) hw.1 dX1_sumOfWays_21 ?_
        replace hw := hw.2
        refine z_name (fun v2 ev2 => ?_)
        replace hw := hw v2 ev2
        refine z_callSN (n := 2) C (c_X4_way l D E   x2 v2 hw) qF0_ok (fun _ _ _ => trivial) gX1_sumOfWays_X4_way_n68 rfl (List.mem_of_getElem? (i := 3) rfl) (List.mem_of_getElem? (i := 4) rfl) (host := RX4) (by decide +kernel) (by decide +kernel) ⟨(Nat.le_of_ble_eq_true rfl), (Nat.le_of_ble_eq_true rfl)⟩ rfl [] rfl rfl (Nat.le_of_ble_eq_true rfl) dX1_sumOfWays_22 (fun r3 hw => ?_)
        show qZ X 0 0 [(s0, .inr (1, [.ref s1, .ref s2, .int (qI sz), .ref s3, .ref s4])), (s1, qA (E 0) 64 ph), (s2, qA (E 0) 12 od), (s3, qL (E 1) 2 pi), (s4, qA (E 0) 6 se)] _ _ [.int (qI r3), .int (qI x1)]
        refine z_iadd C dX1_sumOfWays_25 ?_
        refine z_name (fun v4 ev4 => ?_)
        replace hw := hw v4 ev4
        refine z_istore_n C rfl (by decide) rfl dX1_sumOfWays_26 ?_
        refine z_aload_n C 1 rfl rfl dX1_sumOfWays_27 ?_
        refine z_get C iX1_sumOfWays_X1 0 rfl rfl 1 (by decide) (List.mem_of_getElem? (i := 2) rfl) rfl rfl dX1_sumOfWays_28 ?_
        refine z_iload_n C 3 rfl rfl dX1_sumOfWays_31 ?_
        refine z_iald C 2 rfl (by decide) hw.1 dX1_sumOfWays_32 ?_
        replace hw := hw.2
        refine z_name (fun v5 ev5 => ?_)
        replace hw := hw v5 ev5
        refine z_istore_n C rfl (by decide) rfl dX1_sumOfWays_33 ?_
        obtain ⟨v6, ev6⟩ : ∃ v6 : Int, v6 = x3 + (1 : Int) := ⟨_, rfl⟩
        replace hw := hw v6 ev6
        refine z_iinc C 3 rfl (by decide) v6 ev6 rfl dX1_sumOfWays_34 ?_
        refine z_goto (tgt := 6) C (by decide) dX1_sumOfWays_37 ?_
        refine z_lst (ps := [3, 2, 1, 0]) (lv' := [(0, .ref s0), (1, .int (qI v4)), (2, .int (qI v5)), (3, .int (qI v6))]) (st' := []) rfl rfl ?_
        exact ih v4 v5 v6 hw
  unfold wp_X1_sumOfWays at hw
  show qZ X 0 0 [(s0, .inr (1, [.ref s1, .ref s2, .int (qI sz), .ref s3, .ref s4])), (s1, qA (E 0) 64 ph), (s2, qA (E 0) 12 od), (s3, qL (E 1) 2 pi), (s4, qA (E 0) 6 se)] 0 [(0, .ref s0)] []
  refine z_iconst C dX1_sumOfWays_0 ?_
  refine z_istore_n C rfl (by decide) rfl dX1_sumOfWays_1 ?_
  refine z_iconst C dX1_sumOfWays_2 ?_
  refine z_istore_n C rfl (by decide) rfl dX1_sumOfWays_3 ?_
  refine z_iconst C dX1_sumOfWays_4 ?_
  refine z_istore_n C rfl (by decide) rfl dX1_sumOfWays_5 ?_
  refine z_lst (ps := [3, 2, 1, 0]) (lv' := [(0, .ref s0), (1, .int (qI (0 : Int))), (2, .int (qI (0 : Int))), (3, .int (qI (0 : Int)))]) (st' := []) rfl rfl ?_
  obtain ⟨n8, hw⟩ := hw
  exact hB6 n8 (0 : Int) (0 : Int) (0 : Int) hw
