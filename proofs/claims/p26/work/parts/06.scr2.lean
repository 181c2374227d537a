def wp_J13_bitCount_95d88 (x0 : Int64)  (Φ : Int → Prop) : Prop := (∀ v1 : Int64, v1 = (x0 - (((x0 : Int64).toUInt64 >>> ((qI (1 : Int)).toInt64.toUInt64 &&& Int64.toUInt64 63)).toInt64 &&& (6148914691236517205 : Int64))) → (∀ v2 : Int64, v2 = ((v1 &&& (3689348814741910323 : Int64)) + (((v1 : Int64).toUInt64 >>> ((qI (2 : Int)).toInt64.toUInt64 &&& Int64.toUInt64 63)).toInt64 &&& (3689348814741910323 : Int64))) → (∀ v3 : Int64, v3 = ((v2 + ((v2 : Int64).toUInt64 >>> ((qI (4 : Int)).toInt64.toUInt64 &&& Int64.toUInt64 63)).toInt64) &&& (1085102592571150095 : Int64)) → (∀ v4 : Int64, v4 = (v3 + ((v3 : Int64).toUInt64 >>> ((qI (8 : Int)).toInt64.toUInt64 &&& Int64.toUInt64 63)).toInt64) → (∀ v5 : Int64, v5 = (v4 + ((v4 : Int64).toUInt64 >>> ((qI (16 : Int)).toInt64.toUInt64 &&& Int64.toUInt64 63)).toInt64) → (∀ v6 : Int64, v6 = (v5 + ((v5 : Int64).toUInt64 >>> ((qI (32 : Int)).toInt64.toUInt64 &&& Int64.toUInt64 63)).toInt64) → (∀ v7 : Int, v7 = (v6).toInt32.toInt → (∀ v8 : Int, v8 = qand v7 (127 : Int) → Φ v8))))))))
set_option maxHeartbeats 4000000 in
set_option maxRecDepth 100000 in
theorem c_J13_bitCount_95d88 (l : Launch) (D : va_G) (E : Nat → ClassId)   (x0 : Int64) {Φ : Int → Prop} (hw : wp_J13_bitCount_95d88 x0  Φ) : qRO l D E qF0 yJ13_bitCount_95d88 wsJ13_bitCount_95d88 0 0 [] [.long x0] qeI (fun r => Φ r) := by
  refine qRO_int (nL := 2) (own := RJ13) qF0_ok (by decide) rfl rfl (Nat.le_of_ble_eq_true rfl) (fun X C hend => ?_)
  unfold wp_J13_bitCount_95d88 at hw
  show qZ X 0 0 [] 0 [(0, .long x0)] []
  refine z_lload_n C 0 rfl rfl dJ13_bitCount_95d88_0 ?_
  refine z_lload_n C 0 rfl rfl dJ13_bitCount_95d88_1 ?_
  refine z_iconst C dJ13_bitCount_95d88_2 ?_
  refine z_lushr C dJ13_bitCount_95d88_3 ?_
  refine z_ldc2 (v := (6148914691236517205 : Int64)) C (List.mem_of_getElem? (i := 1) rfl) dJ13_bitCount_95d88_4 ?_
  refine z_land C dJ13_bitCount_95d88_7 ?_
  refine z_lsub C dJ13_bitCount_95d88_8 ?_
  refine z_nameL (fun v1 ev1 => ?_)
  replace hw := hw v1 ev1
  refine z_lstore_n C rfl (by decide) rfl dJ13_bitCount_95d88_9 ?_
  refine z_lload_n C 0 rfl rfl dJ13_bitCount_95d88_10 ?_
  refine z_ldc2 (v := (3689348814741910323 : Int64)) C (List.mem_of_getElem? (i := 2) rfl) dJ13_bitCount_95d88_11 ?_
  refine z_land C dJ13_bitCount_95d88_14 ?_
  refine z_lload_n C 0 rfl rfl dJ13_bitCount_95d88_15 ?_
  refine z_iconst C dJ13_bitCount_95d88_16 ?_
  refine z_lushr C dJ13_bitCount_95d88_17 ?_
  refine z_ldc2 (v := (3689348814741910323 : Int64)) C (List.mem_of_getElem? (i := 2) rfl) dJ13_bitCount_95d88_18 ?_
  refine z_land C dJ13_bitCount_95d88_21 ?_
  refine z_ladd C dJ13_bitCount_95d88_22 ?_
  refine z_nameL (fun v2 ev2 => ?_)
  replace hw := hw v2 ev2
  refine z_lstore_n C rfl (by decide) rfl dJ13_bitCount_95d88_23 ?_
  refine z_lload_n C 0 rfl rfl dJ13_bitCount_95d88_24 ?_
  refine z_lload_n C 0 rfl rfl dJ13_bitCount_95d88_25 ?_
  refine z_iconst C dJ13_bitCount_95d88_26 ?_
  refine z_lushr C dJ13_bitCount_95d88_27 ?_
  refine z_ladd C dJ13_bitCount_95d88_28 ?_
  refine z_ldc2 (v := (1085102592571150095 : Int64)) C (List.mem_of_getElem? (i := 3) rfl) dJ13_bitCount_95d88_29 ?_
  refine z_land C dJ13_bitCount_95d88_32 ?_
  refine z_nameL (fun v3 ev3 => ?_)
  replace hw := hw v3 ev3
  refine z_lstore_n C rfl (by decide) rfl dJ13_bitCount_95d88_33 ?_
  refine z_lload_n C 0 rfl rfl dJ13_bitCount_95d88_34 ?_
  refine z_lload_n C 0 rfl rfl dJ13_bitCount_95d88_35 ?_
  refine z_bipush C (by decide +kernel) dJ13_bitCount_95d88_36 ?_
  refine z_lushr C dJ13_bitCount_95d88_38 ?_
  refine z_ladd C dJ13_bitCount_95d88_39 ?_
  refine z_nameL (fun v4 ev4 => ?_)
  replace hw := hw v4 ev4
  refine z_lstore_n C rfl (by decide) rfl dJ13_bitCount_95d88_40 ?_
  refine z_lload_n C 0 rfl rfl dJ13_bitCount_95d88_41 ?_
  refine z_lload_n C 0 rfl rfl dJ13_bitCount_95d88_42 ?_
  refine z_bipush C (by decide +kernel) dJ13_bitCount_95d88_43 ?_
  refine z_lushr C dJ13_bitCount_95d88_45 ?_
  refine z_ladd C dJ13_bitCount_95d88_46 ?_
  refine z_nameL (fun v5 ev5 => ?_)
  replace hw := hw v5 ev5
  refine z_lstore_n C rfl (by decide) rfl dJ13_bitCount_95d88_47 ?_
  refine z_lload_n C 0 rfl rfl dJ13_bitCount_95d88_48 ?_
  refine z_lload_n C 0 rfl rfl dJ13_bitCount_95d88_49 ?_
  refine z_bipush C (by decide +kernel) dJ13_bitCount_95d88_50 ?_
  refine z_lushr C dJ13_bitCount_95d88_52 ?_
  refine z_ladd C dJ13_bitCount_95d88_53 ?_
  refine z_nameL (fun v6 ev6 => ?_)
  replace hw := hw v6 ev6
  refine z_lstore_n C rfl (by decide) rfl dJ13_bitCount_95d88_54 ?_
  refine z_lload_n C 0 rfl rfl dJ13_bitCount_95d88_55 ?_
  refine z_l2i C dJ13_bitCount_95d88_56 ?_
  refine z_name (fun v7 ev7 => ?_)
  replace hw := hw v7 ev7
  refine z_bipush C (by decide +kernel) dJ13_bitCount_95d88_57 ?_
  refine z_iand C dJ13_bitCount_95d88_59 ?_
  refine z_name (fun v8 ev8 => ?_)
  replace hw := hw v8 ev8
  exact hend 60 _ v8 dJ13_bitCount_95d88_60 hw
def wp_X1_copyFrom  (sz : Int) (ph : Nat → Int) (od : Nat → Int) (pi : Nat → Int64) (se : Nat → Int) (szo : Int) (pho : Nat → Int) (odo : Nat → Int) (pio : Nat → Int64) (seo : Nat → Int) (Φ : Int → (Nat → Int) → (Nat → Int) → (Nat → Int64) → (Nat → Int) → Prop) : Prop := Φ szo pho odo pio seo
theorem iX1_copyFrom_X1 : ∀ w ∈ wsX10, w ∈ wsX1_copyFrom := fun w h => List.mem_cons_of_mem _ (List.mem_append_right _ (h))
set_option maxHeartbeats 4000000 in
set_option maxRecDepth 100000 in
theorem c_X1_copyFrom (l : Launch) (D : va_G) (E : Nat → ClassId) (s0 s1 s2 s3 s4 o0 o1 o2 o3 o4 : Nat) (sz : Int) (ph : Nat → Int) (od : Nat → Int) (pi : Nat → Int64) (se : Nat → Int) (szo : Int) (pho : Nat → Int) (odo : Nat → Int) (pio : Nat → Int64) (seo : Nat → Int)  {Φ : Int → (Nat → Int) → (Nat → Int) → (Nat → Int64) → (Nat → Int) → Prop} (hw : wp_X1_copyFrom  sz ph od pi se szo pho odo pio seo Φ) : qRW (σ := (Int) × (Nat → Int) × (Nat → Int) × (Nat → Int64) × (Nat → Int)) l D E qF0 yX1_copyFrom wsX1_copyFrom 1 40 [(s0, .inr (1, [.ref s1, .ref s2, .int (qI sz), .ref s3, .ref s4])), (s1, qA (E 0) 64 ph), (s2, qA (E 0) 12 od), (s3, qL (E 1) 2 pi), (s4, qA (E 0) 6 se), (o0, .inr (1, [.ref o1, .ref o2, .int (qI szo), .ref o3, .ref o4])), (o1, qA (E 0) 64 pho), (o2, qA (E 0) 12 odo), (o3, qL (E 1) 2 pio), (o4, qA (E 0) 6 seo)] [.ref s0, .ref o0] qeV (fun u => [(s0, .inr (1, [.ref s1, .ref s2, .int (qI u.1), .ref s3, .ref s4])), (s1, qA (E 0) 64 u.2.1), (s2, qA (E 0) 12 u.2.2.1), (s3, qL (E 1) 2 u.2.2.2.1), (s4, qA (E 0) 6 u.2.2.2.2), (o0, .inr (1, [.ref o1, .ref o2, .int (qI szo), .ref o3, .ref o4])), (o1, qA (E 0) 64 pho), (o2, qA (E 0) 12 odo), (o3, qL (E 1) 2 pio), (o4, qA (E 0) 6 seo)]) (fun r u => Φ u.1 u.2.1 u.2.2.1 u.2.2.2.1 u.2.2.2.2) := by
  refine qRW_void (nL := 2) (own := RX1) qF0_ok (by decide) rfl rfl (Nat.le_of_ble_eq_true rfl) (fun X C hend => ?_)
  unfold wp_X1_copyFrom at hw
  show qZ X 0 0 [(s0, .inr (1, [.ref s1, .ref s2, .int (qI sz), .ref s3, .ref s4])), (s1, qA (E 0) 64 ph), (s2, qA (E 0) 12 od), (s3, qL (E 1) 2 pi), (s4, qA (E 0) 6 se), (o0, .inr (1, [.ref o1, .ref o2, .int (qI szo), .ref o3, .ref o4])), (o1, qA (E 0) 64 pho), (o2, qA (E 0) 12 odo), (o3, qL (E 1) 2 pio), (o4, qA (E 0) 6 seo)] 0 [(0, .ref s0), (1, .ref o0)] []
  refine z_aload_n C 1 rfl rfl dX1_copyFrom_0 ?_
  refine z_get C iX1_copyFrom_X1 5 rfl rfl 0 (by decide) (List.mem_of_getElem? (i := 1) rfl) rfl rfl dX1_copyFrom_1 ?_
  refine z_iconst C dX1_copyFrom_4 ?_
  refine z_aload_n C 0 rfl rfl dX1_copyFrom_5 ?_
  refine z_get C iX1_copyFrom_X1 0 rfl rfl 0 (by decide) (List.mem_of_getElem? (i := 1) rfl) rfl rfl dX1_copyFrom_6 ?_
  refine z_iconst C dX1_copyFrom_9 ?_
  refine z_bipush C (by decide +kernel) dX1_copyFrom_10 ?_
  refine z_copyi (ws' := [(s0, .inr (1, [.ref s1, .ref s2, .int (qI sz), .ref s3, .ref s4])), (s1, qA (E 0) 64 pho), (s2, qA (E 0) 12 od), (s3, qL (E 1) 2 pi), (s4, qA (E 0) 6 se), (o0, .inr (1, [.ref o1, .ref o2, .int (qI szo), .ref o3, .ref o4])), (o1, qA (E 0) 64 pho), (o2, qA (E 0) 12 odo), (o3, qL (E 1) 2 pio), (o4, qA (E 0) 6 seo)]) C 6 1 rfl rfl (by decide) (List.mem_of_getElem? (i := 2) rfl) (List.mem_of_getElem? (i := 3) rfl) (List.mem_of_getElem? (i := 4) rfl) (List.mem_of_getElem? (i := 5) rfl) rfl (Nat.le_of_ble_eq_true rfl) (Nat.le_of_ble_eq_true rfl) dX1_copyFrom_12 ?_
  refine z_aload_n C 1 rfl rfl dX1_copyFrom_15 ?_
  refine z_get C iX1_copyFrom_X1 5 rfl rfl 1 (by decide) (List.mem_of_getElem? (i := 6) rfl) rfl rfl dX1_copyFrom_16 ?_
  refine z_iconst C dX1_copyFrom_19 ?_
  refine z_aload_n C 0 rfl rfl dX1_copyFrom_20 ?_
  refine z_get C iX1_copyFrom_X1 0 rfl rfl 1 (by decide) (List.mem_of_getElem? (i := 6) rfl) rfl rfl dX1_copyFrom_21 ?_
  refine z_iconst C dX1_copyFrom_24 ?_
  refine z_bipush C (by decide +kernel) dX1_copyFrom_25 ?_
  refine z_copyi (ws' := [(s0, .inr (1, [.ref s1, .ref s2, .int (qI sz), .ref s3, .ref s4])), (s1, qA (E 0) 64 pho), (s2, qA (E 0) 12 odo), (s3, qL (E 1) 2 pi), (s4, qA (E 0) 6 se), (o0, .inr (1, [.ref o1, .ref o2, .int (qI szo), .ref o3, .ref o4])), (o1, qA (E 0) 64 pho), (o2, qA (E 0) 12 odo), (o3, qL (E 1) 2 pio), (o4, qA (E 0) 6 seo)]) C 7 2 rfl rfl (by decide) (List.mem_of_getElem? (i := 2) rfl) (List.mem_of_getElem? (i := 3) rfl) (List.mem_of_getElem? (i := 4) rfl) (List.mem_of_getElem? (i := 5) rfl) rfl (Nat.le_of_ble_eq_true rfl) (Nat.le_of_ble_eq_true rfl) dX1_copyFrom_27 ?_
  refine z_aload_n C 0 rfl rfl dX1_copyFrom_30 ?_
  refine z_aload_n C 1 rfl rfl dX1_copyFrom_31 ?_
  refine z_get C iX1_copyFrom_X1 5 rfl rfl 2 (by decide) (List.mem_of_getElem? (i := 7) rfl) rfl rfl dX1_copyFrom_32 ?_
  refine z_put (ty := .int) (ws' := [(s0, .inr (1, [.ref s1, .ref s2, .int (qI szo), .ref s3, .ref s4])), (s1, qA (E 0) 64 pho), (s2, qA (E 0) 12 odo), (s3, qL (E 1) 2 pi), (s4, qA (E 0) 6 se), (o0, .inr (1, [.ref o1, .ref o2, .int (qI szo), .ref o3, .ref o4])), (o1, qA (E 0) 64 pho), (o2, qA (E 0) 12 odo), (o3, qL (E 1) 2 pio), (o4, qA (E 0) 6 seo)]) C iX1_copyFrom_X1 tyX1 tyX1_ok nmX1 0 rfl rfl 2 (by decide) (List.mem_of_getElem? (i := 7) rfl) rfl rfl (by decide +kernel) rfl rfl (Nat.le_of_ble_eq_true rfl) rfl dX1_copyFrom_35 ?_
  refine z_aload_n C 1 rfl rfl dX1_copyFrom_38 ?_
  refine z_get C iX1_copyFrom_X1 5 rfl rfl 3 (by decide) (List.mem_of_getElem? (i := 8) rfl) rfl rfl dX1_copyFrom_39 ?_
  refine z_iconst C dX1_copyFrom_42 ?_
  refine z_aload_n C 0 rfl rfl dX1_copyFrom_43 ?_
  refine z_get C iX1_copyFrom_X1 0 rfl rfl 3 (by decide) (List.mem_of_getElem? (i := 8) rfl) rfl rfl dX1_copyFrom_44 ?_
  refine z_iconst C dX1_copyFrom_47 ?_
  refine z_iconst C dX1_copyFrom_48 ?_
  refine z_copyl (ws' := [(s0, .inr (1, [.ref s1, .ref s2, .int (qI szo), .ref s3, .ref s4])), (s1, qA (E 0) 64 pho), (s2, qA (E 0) 12 odo), (s3, qL (E 1) 2 pio), (s4, qA (E 0) 6 se), (o0, .inr (1, [.ref o1, .ref o2, .int (qI szo), .ref o3, .ref o4])), (o1, qA (E 0) 64 pho), (o2, qA (E 0) 12 odo), (o3, qL (E 1) 2 pio), (o4, qA (E 0) 6 seo)]) C 8 3 rfl rfl (by decide) (List.mem_of_getElem? (i := 2) rfl) (List.mem_of_getElem? (i := 3) rfl) (List.mem_of_getElem? (i := 4) rfl) (List.mem_of_getElem? (i := 5) rfl) rfl (Nat.le_of_ble_eq_true rfl) (Nat.le_of_ble_eq_true rfl) dX1_copyFrom_49 ?_
  refine z_aload_n C 1 rfl rfl dX1_copyFrom_52 ?_
  refine z_get C iX1_copyFrom_X1 5 rfl rfl 4 (by decide) (List.mem_of_getElem? (i := 9) rfl) rfl rfl dX1_copyFrom_53 ?_
  refine z_iconst C dX1_copyFrom_56 ?_
  refine z_aload_n C 0 rfl rfl dX1_copyFrom_57 ?_
  refine z_get C iX1_copyFrom_X1 0 rfl rfl 4 (by decide) (List.mem_of_getElem? (i := 9) rfl) rfl rfl dX1_copyFrom_58 ?_
  refine z_iconst C dX1_copyFrom_61 ?_
  refine z_bipush C (by decide +kernel) dX1_copyFrom_62 ?_
  refine z_copyi (ws' := [(s0, .inr (1, [.ref s1, .ref s2, .int (qI szo), .ref s3, .ref s4])), (s1, qA (E 0) 64 pho), (s2, qA (E 0) 12 odo), (s3, qL (E 1) 2 pio), (s4, qA (E 0) 6 seo), (o0, .inr (1, [.ref o1, .ref o2, .int (qI szo), .ref o3, .ref o4])), (o1, qA (E 0) 64 pho), (o2, qA (E 0) 12 odo), (o3, qL (E 1) 2 pio), (o4, qA (E 0) 6 seo)]) C 9 4 rfl rfl (by decide) (List.mem_of_getElem? (i := 2) rfl) (List.mem_of_getElem? (i := 3) rfl) (List.mem_of_getElem? (i := 4) rfl) (List.mem_of_getElem? (i := 5) rfl) rfl (Nat.le_of_ble_eq_true rfl) (Nat.le_of_ble_eq_true rfl) dX1_copyFrom_64 ?_
  exact hend 67 _ () (szo, pho, odo, pio, seo) dX1_copyFrom_67 hw
def wp_X1_putPhosphor_14 (Φ : Int → (Nat → Int) → Prop)  (ph : Nat → Int) : Prop := Φ (-1 : Int) ph
def wp_X1_putPhosphor (x1 : Int) (x2 : Int) (ph : Nat → Int) (Φ : Int → (Nat → Int) → Prop) : Prop := wp_X4_isSpot x1 (fun (r1 : Int) => (qR r1 ∧ (r1 = (0 : Int) → wp_X1_putPhosphor_14 Φ  ph) ∧ (¬ (r1 = (0 : Int)) → wp_X4_isPhosphor x2 (fun (r3 : Int) => (qR r3 ∧ (¬ r3 = (0 : Int) → ((0 ≤ x1 ∧ x1 < 64) ∧ (∀ v5 : Int, v5 = ph (x1).toNat → ((0 ≤ x1 ∧ x1 < 64) ∧ ∀ g6 : Nat → Int, g6 = qU ph (x1).toNat x2 → Φ v5 g6)))) ∧ (¬ (¬ r3 = (0 : Int)) → wp_X1_putPhosphor_14 Φ  ph))))))
theorem iX1_putPhosphor_X1 : ∀ w ∈ wsX10, w ∈ wsX1_putPhosphor := fun w h => List.mem_cons_of_mem _ (List.mem_append_right _ (h))
set_option maxHeartbeats 4000000 in
set_option maxRecDepth 100000 in
theorem c_X1_putPhosphor (l : Launch) (D : va_G) (E : Nat → ClassId) (s0 s1 s2 s3 s4 : Nat) (sz : Int) (ph : Nat → Int) (od : Nat → Int) (pi : Nat → Int64) (se : Nat → Int) (x1 : Int) (x2 : Int) {Φ : Int → (Nat → Int) → Prop} (hw : wp_X1_putPhosphor x1 x2 ph Φ) : qRW (σ := (Nat → Int)) l D E qF0 yX1_putPhosphor wsX1_putPhosphor 1 20 [(s0, .inr (1, [.ref s1, .ref s2, .int (qI sz), .ref s3, .ref s4])), (s1, qA (E 0) 64 ph), (s2, qA (E 0) 12 od), (s3, qL (E 1) 2 pi), (s4, qA (E 0) 6 se)] [.ref s0, .int (qI x1), .int (qI x2)] qeI (fun u => [(s0, .inr (1, [.ref s1, .ref s2, .int (qI sz), .ref s3, .ref s4])), (s1, qA (E 0) 64 u), (s2, qA (E 0) 12 od), (s3, qL (E 1) 2 pi), (s4, qA (E 0) 6 se)]) (fun r u => Φ r u) := by
  refine qRW_int (nL := 4) (own := RX1) qF0_ok (by decide) rfl rfl (Nat.le_of_ble_eq_true rfl) (fun X C hend => ?_)
  have hB14 : ∀ ph : Nat → Int, wp_X1_putPhosphor_14 Φ  ph → qZ X 0 0 [(s0, .inr (1, [.ref s1, .ref s2, .int (qI sz), .ref s3, .ref s4])), (s1, qA (E 0) 64 ph), (s2, qA (E 0) 12 od), (s3, qL (E 1) 2 pi), (s4, qA (E 0) 6 se)] 14 [] [] := by
    intro ph hw
    unfold wp_X1_putPhosphor_14 at hw
    refine z_iconst C dX1_putPhosphor_14 ?_
    exact hend 15 _ (-1 : Int) ph dX1_putPhosphor_15 hw
  unfold wp_X1_putPhosphor at hw
  show qZ X 0 0 [(s0, .inr (1, [.ref s1, .ref s2, .int (qI sz), .ref s3, .ref s4])), (s1, qA (E 0) 64 ph), (s2, qA (E 0) 12 od), (s3, qL (E 1) 2 pi), (s4, qA (E 0) 6 se)] 0 [(0, .ref s0), (1, .int (qI x1)), (2, .int (qI x2))] []
  refine z_iload_n C 1 rfl rfl dX1_putPhosphor_0 ?_
  refine z_callSN (n := 1) C (c_X4_isSpot l D E   x1 hw) qF0_ok (fun _ _ _ => trivial) gX1_putPhosphor_X4_isSpot_n41 rfl (List.mem_of_getElem? (i := 2) rfl) (List.mem_of_getElem? (i := 3) rfl) (host := RX4) (by decide +kernel) (by decide +kernel) ⟨(Nat.le_of_ble_eq_true rfl), (Nat.le_of_ble_eq_true rfl)⟩ rfl [] rfl rfl (Nat.le_of_ble_eq_true rfl) dX1_putPhosphor_1 (fun r1 hw => ?_)
  show qZ X 0 0 [(s0, .inr (1, [.ref s1, .ref s2, .int (qI sz), .ref s3, .ref s4])), (s1, qA (E 0) 64 ph), (s2, qA (E 0) 12 od), (s3, qL (E 1) 2 pi), (s4, qA (E 0) 6 se)] _ _ [.int (qI r1)]
  refine z_if_eq (tgt := 14) C hw.1 (by decide) dX1_putPhosphor_4 (fun c2 => ?_) (fun c2 => ?_)
  · replace hw := hw.2.1 c2
    refine z_lst (ps := []) (lv' := []) (st' := []) rfl rfl ?_
    exact hB14 ph hw
  · replace hw := hw.2.2 c2
    refine z_iload_n C 2 rfl rfl dX1_putPhosphor_7 ?_
    refine z_callSN (n := 1) C (c_X4_isPhosphor l D E   x2 hw) qF0_ok (fun _ _ _ => trivial) gX1_putPhosphor_X4_isPhosphor_n45 rfl (List.mem_of_getElem? (i := 5) rfl) (List.mem_of_getElem? (i := 3) rfl) (host := RX4) (by decide +kernel) (by decide +kernel) ⟨(Nat.le_of_ble_eq_true rfl), (Nat.le_of_ble_eq_true rfl)⟩ rfl [] rfl rfl (Nat.le_of_ble_eq_true rfl) dX1_putPhosphor_8 (fun r3 hw => ?_)
    show qZ X 0 0 [(s0, .inr (1, [.ref s1, .ref s2, .int (qI sz), .ref s3, .ref s4])), (s1, qA (E 0) 64 ph), (s2, qA (E 0) 12 od), (s3, qL (E 1) 2 pi), (s4, qA (E 0) 6 se)] _ _ [.int (qI r3)]
    refine z_if_ne (tgt := 16) C hw.1 (by decide) dX1_putPhosphor_11 (fun c4 => ?_) (fun c4 => ?_)
    · replace hw := hw.2.1 c4
      refine z_aload_n C 0 rfl rfl dX1_putPhosphor_16 ?_
      refine z_get C iX1_putPhosphor_X1 0 rfl rfl 0 (by decide) (List.mem_of_getElem? (i := 1) rfl) rfl rfl dX1_putPhosphor_17 ?_
      refine z_iload_n C 1 rfl rfl dX1_putPhosphor_20 ?_
      refine z_iald C 1 rfl (by decide) hw.1 dX1_putPhosphor_21 ?_
      replace hw := hw.2
      refine z_name (fun v5 ev5 => ?_)
      replace hw := hw v5 ev5
      refine z_istore_n C rfl (by decide) rfl dX1_putPhosphor_22 ?_
      refine z_aload_n C 1 rfl rfl dX1_putPhosphor_23 ?_
      refine z_get C iX1_putPhosphor_X1 0 rfl rfl 0 (by decide) (List.mem_of_getElem? (i := 1) rfl) rfl rfl dX1_putPhosphor_24 ?_
      refine z_iload_n C 2 rfl rfl dX1_putPhosphor_27 ?_
      refine z_iload_n C 3 rfl rfl dX1_putPhosphor_28 ?_
      refine z_iast C 1 rfl (by decide) hw.1 (fun g6 => [(s0, .inr (1, [.ref s1, .ref s2, .int (qI sz), .ref s3, .ref s4])), (s1, qA (E 0) 64 g6), (s2, qA (E 0) 12 od), (s3, qL (E 1) 2 pi), (s4, qA (E 0) 6 se)]) (fun _ => rfl) dX1_putPhosphor_29 (fun g6 eg6 => ?_)
      replace hw := hw.2 g6 eg6
      refine z_iload_n C 0 rfl rfl dX1_putPhosphor_30 ?_
      exact hend 31 _ v5 g6 dX1_putPhosphor_31 hw
    · replace hw := hw.2.2 c4
      refine z_lst (ps := []) (lv' := []) (st' := []) rfl rfl ?_
      exact hB14 ph hw
def wp_X1_addSpot (x1 : Int) (sz : Int) (od : Nat → Int) (Φ : Int → Int → (Nat → Int) → Prop) : Prop := wp_X4_isSpot x1 (fun (r1 : Int) => (qR r1 ∧ (¬ r1 = (0 : Int) → wp_X1_positionOf x1 sz od (fun (r3 : Int) => ((qR r3 ∧ qR (-9 : Int)) ∧ (r3 = (-9 : Int) → ((qR sz ∧ qR (12 : Int)) ∧ (sz < (12 : Int) → ((0 ≤ sz ∧ sz < 12) ∧ ∀ g6 : Nat → Int, g6 = qU od (sz).toNat x1 → (∀ v7 : Int, v7 = (sz + (1 : Int)) → Φ (v7 - (1 : Int)) v7 g6))) ∧ (¬ (sz < (12 : Int)) → Φ (-3 : Int) sz od))) ∧ (¬ (r3 = (-9 : Int)) → Φ (-2 : Int) sz od)))) ∧ (¬ (¬ r1 = (0 : Int)) → Φ (-1 : Int) sz od)))
theorem iX1_addSpot_X1 : ∀ w ∈ wsX10, w ∈ wsX1_addSpot := fun w h => List.mem_cons_of_mem _ (List.mem_append_right _ (h))
set_option maxHeartbeats 4000000 in
set_option maxRecDepth 100000 in
theorem c_X1_addSpot (l : Launch) (D : va_G) (E : Nat → ClassId) (s0 s1 s2 s3 s4 : Nat) (sz : Int) (ph : Nat → Int) (od : Nat → Int) (pi : Nat → Int64) (se : Nat → Int) (x1 : Int) {Φ : Int → Int → (Nat → Int) → Prop} (hw : wp_X1_addSpot x1 sz od Φ) : qRW (σ := (Int) × (Nat → Int)) l D E qF0 yX1_addSpot wsX1_addSpot 1 22 [(s0, .inr (1, [.ref s1, .ref s2, .int (qI sz), .ref s3, .ref s4])), (s1, qA (E 0) 64 ph), (s2, qA (E 0) 12 od), (s3, qL (E 1) 2 pi), (s4, qA (E 0) 6 se)] [.ref s0, .int (qI x1)] qeI (fun u => [(s0, .inr (1, [.ref s1, .ref s2, .int (qI u.1), .ref s3, .ref s4])), (s1, qA (E 0) 64 ph), (s2, qA (E 0) 12 u.2), (s3, qL (E 1) 2 pi), (s4, qA (E 0) 6 se)]) (fun r u => Φ r u.1 u.2) := by
  refine qRW_int (nL := 2) (own := RX1) qF0_ok (by decide) rfl rfl (Nat.le_of_ble_eq_true rfl) (fun X C hend => ?_)
  unfold wp_X1_addSpot at hw
  show qZ X 0 0 [(s0, .inr (1, [.ref s1, .ref s2, .int (qI sz), .ref s3, .ref s4])), (s1, qA (E 0) 64 ph), (s2, qA (E 0) 12 od), (s3, qL (E 1) 2 pi), (s4, qA (E 0) 6 se)] 0 [(0, .ref s0), (1, .int (qI x1))] []
  refine z_iload_n C 1 rfl rfl dX1_addSpot_0 ?_
  refine z_callSN (n := 1) C (c_X4_isSpot l D E   x1 hw) qF0_ok (fun _ _ _ => trivial) gX1_addSpot_X4_isSpot_n41 rfl (List.mem_of_getElem? (i := 3) rfl) (List.mem_of_getElem? (i := 4) rfl) (host := RX4) (by decide +kernel) (by decide +kernel) ⟨(Nat.le_of_ble_eq_true rfl), (Nat.le_of_ble_eq_true rfl)⟩ rfl [] rfl rfl (Nat.le_of_ble_eq_true rfl) dX1_addSpot_1 (fun r1 hw => ?_)
  show qZ X 0 0 [(s0, .inr (1, [.ref s1, .ref s2, .int (qI sz), .ref s3, .ref s4])), (s1, qA (E 0) 64 ph), (s2, qA (E 0) 12 od), (s3, qL (E 1) 2 pi), (s4, qA (E 0) 6 se)] _ _ [.int (qI r1)]
  refine z_if_ne (tgt := 9) C hw.1 (by decide) dX1_addSpot_4 (fun c2 => ?_) (fun c2 => ?_)
  · replace hw := hw.2.1 c2
    refine z_aload_n C 0 rfl rfl dX1_addSpot_9 ?_
    refine z_iload_n C 1 rfl rfl dX1_addSpot_10 ?_
    refine z_callV (n := 1) C (c_X1_positionOf l D E s0 s1 s2 s3 s4 sz ph od pi se x1 hw) qF0_ok (fun _ _ _ => trivial) gX1_addSpot_X1_positionOf rfl (by decide +kernel) ⟨(Nat.le_of_ble_eq_true rfl), (Nat.le_of_ble_eq_true rfl)⟩ rfl 0 rfl rfl [0, 1, 2, 3, 4] rfl rfl (Nat.le_of_ble_eq_true rfl) dX1_addSpot_11 (fun r3 hw => ?_)
    show qZ X 0 0 [(s0, .inr (1, [.ref s1, .ref s2, .int (qI sz), .ref s3, .ref s4])), (s1, qA (E 0) 64 ph), (s2, qA (E 0) 12 od), (s3, qL (E 1) 2 pi), (s4, qA (E 0) 6 se)] _ _ [.int (qI r3)]
    refine z_bipush C (by decide +kernel) dX1_addSpot_14 ?_
    refine z_icmp_eq (tgt := 22) C hw.1 (by decide) dX1_addSpot_16 (fun c4 => ?_) (fun c4 => ?_)
    · replace hw := hw.2.1 c4
      refine z_aload_n C 0 rfl rfl dX1_addSpot_22 ?_
      refine z_get C iX1_addSpot_X1 0 rfl rfl 2 (by decide) (List.mem_of_getElem? (i := 1) rfl) rfl rfl dX1_addSpot_23 ?_
      refine z_bipush C (by decide +kernel) dX1_addSpot_26 ?_
      refine z_icmp_lt (tgt := 34) C hw.1 (by decide) dX1_addSpot_28 (fun c5 => ?_) (fun c5 => ?_)
      · replace hw := hw.2.1 c5
        refine z_aload_n C 0 rfl rfl dX1_addSpot_34 ?_
        refine z_get C iX1_addSpot_X1 0 rfl rfl 1 (by decide) (List.mem_of_getElem? (i := 2) rfl) rfl rfl dX1_addSpot_35 ?_
        refine z_aload_n C 0 rfl rfl dX1_addSpot_38 ?_
        refine z_get C iX1_addSpot_X1 0 rfl rfl 2 (by decide) (List.mem_of_getElem? (i := 1) rfl) rfl rfl dX1_addSpot_39 ?_
        refine z_iload_n C 1 rfl rfl dX1_addSpot_42 ?_
        refine z_iast C 2 rfl (by decide) hw.1 (fun g6 => [(s0, .inr (1, [.ref s1, .ref s2, .int (qI sz), .ref s3, .ref s4])), (s1, qA (E 0) 64 ph), (s2, qA (E 0) 12 g6), (s3, qL (E 1) 2 pi), (s4, qA (E 0) 6 se)]) (fun _ => rfl) dX1_addSpot_43 (fun g6 eg6 => ?_)
        replace hw := hw.2 g6 eg6
        refine z_aload_n C 0 rfl rfl dX1_addSpot_44 ?_
        refine z_dup C rfl dX1_addSpot_45 ?_
        refine z_get C iX1_addSpot_X1 0 rfl rfl 2 (by decide) (List.mem_of_getElem? (i := 1) rfl) rfl rfl dX1_addSpot_46 ?_
        refine z_iconst C dX1_addSpot_49 ?_
        refine z_iadd C dX1_addSpot_50 ?_
        refine z_name (fun v7 ev7 => ?_)
        replace hw := hw v7 ev7
        refine z_put (ty := .int) (ws' := [(s0, .inr (1, [.ref s1, .ref s2, .int (qI v7), .ref s3, .ref s4])), (s1, qA (E 0) 64 ph), (s2, qA (E 0) 12 g6), (s3, qL (E 1) 2 pi), (s4, qA (E 0) 6 se)]) C iX1_addSpot_X1 tyX1 tyX1_ok nmX1 0 rfl rfl 2 (by decide) (List.mem_of_getElem? (i := 1) rfl) rfl rfl (by decide +kernel) rfl rfl (Nat.le_of_ble_eq_true rfl) rfl dX1_addSpot_51 ?_
        refine z_aload_n C 0 rfl rfl dX1_addSpot_54 ?_
        refine z_get C iX1_addSpot_X1 0 rfl rfl 2 (by decide) (List.mem_of_getElem? (i := 1) rfl) rfl rfl dX1_addSpot_55 ?_
        refine z_iconst C dX1_addSpot_58 ?_
        refine z_isub C dX1_addSpot_59 ?_
        exact hend 60 _ (v7 - (1 : Int)) (v7, g6) dX1_addSpot_60 hw
      · replace hw := hw.2.2 c5
        refine z_bipush C (by decide +kernel) dX1_addSpot_31 ?_
        exact hend 33 _ (-3 : Int) (sz, od) dX1_addSpot_33 hw
    · replace hw := hw.2.2 c4
      refine z_bipush C (by decide +kernel) dX1_addSpot_19 ?_
      exact hend 21 _ (-2 : Int) (sz, od) dX1_addSpot_21 hw
  · replace hw := hw.2.2 c2
    refine z_iconst C dX1_addSpot_7 ?_
    exact hend 8 _ (-1 : Int) (sz, od) dX1_addSpot_8 hw
def wp_X1_removeSpot_28 (Φ : Int → Int → (Nat → Int) → Prop)  (x2 : Int) (sz : Int) : Nat → Int → (Nat → Int) → Prop
  | 0, _, _ => False
  | n9 + 1, x3, od => ((qR x3 ∧ qR sz) ∧ (sz ≤ x3 → (∀ v2 : Int, v2 = (sz - (1 : Int)) → Φ x2 v2 od)) ∧ (¬ (sz ≤ x3) → ((0 ≤ x3 ∧ x3 < 12) ∧ (∀ v3 : Int, v3 = od (x3).toNat → ((0 ≤ (x3 - (1 : Int)) ∧ (x3 - (1 : Int)) < 12) ∧ ∀ g4 : Nat → Int, g4 = qU od ((x3 - (1 : Int))).toNat v3 → (∀ v5 : Int, v5 = x3 + (1 : Int) → wp_X1_removeSpot_28 Φ  x2 sz n9 v5 g4))))))
def wp_X1_removeSpot (x1 : Int) (sz : Int) (od : Nat → Int) (Φ : Int → Int → (Nat → Int) → Prop) : Prop := wp_X4_isSpot x1 (fun (r6 : Int) => (qR r6 ∧ (¬ r6 = (0 : Int) → wp_X1_positionOf x1 sz od (fun (r8 : Int) => ((qR r8 ∧ qR (-9 : Int)) ∧ (¬ r8 = (-9 : Int) → (∀ v10 : Int, v10 = (r8 + (1 : Int)) → ∃ n : Nat, wp_X1_removeSpot_28 Φ  r8 sz n v10 od)) ∧ (¬ (¬ r8 = (-9 : Int)) → Φ (-2 : Int) sz od)))) ∧ (¬ (¬ r6 = (0 : Int)) → Φ (-1 : Int) sz od)))
theorem iX1_removeSpot_X1 : ∀ w ∈ wsX10, w ∈ wsX1_removeSpot := fun w h => List.mem_cons_of_mem _ (List.mem_append_right _ (h))
set_option maxHeartbeats 4000000 in
set_option maxRecDepth 100000 in
theorem c_X1_removeSpot (l : Launch) (D : va_G) (E : Nat → ClassId) (s0 s1 s2 s3 s4 : Nat) (sz : Int) (ph : Nat → Int) (od : Nat → Int) (pi : Nat → Int64) (se : Nat → Int) (x1 : Int) {Φ : Int → Int → (Nat → Int) → Prop} (hw : wp_X1_removeSpot x1 sz od Φ) : qRW (σ := (Int) × (Nat → Int)) l D E qF0 yX1_removeSpot wsX1_removeSpot 1 22 [(s0, .inr (1, [.ref s1, .ref s2, .int (qI sz), .ref s3, .ref s4])), (s1, qA (E 0) 64 ph), (s2, qA (E 0) 12 od), (s3, qL (E 1) 2 pi), (s4, qA (E 0) 6 se)] [.ref s0, .int (qI x1)] qeI (fun u => [(s0, .inr (1, [.ref s1, .ref s2, .int (qI u.1), .ref s3, .ref s4])), (s1, qA (E 0) 64 ph), (s2, qA (E 0) 12 u.2), (s3, qL (E 1) 2 pi), (s4, qA (E 0) 6 se)]) (fun r u => Φ r u.1 u.2) := by
  refine qRW_int (nL := 4) (own := RX1) qF0_ok (by decide) rfl rfl (Nat.le_of_ble_eq_true rfl) (fun X C hend => ?_)
  have hB28 : ∀ x2 : Int, ∀ sz : Int, ∀ n8 : Nat, ∀ x3 : Int, ∀ od : Nat → Int, wp_X1_removeSpot_28 Φ  x2 sz n8 x3 od → qZ X 0 0 [(s0, .inr (1, [.ref s1, .ref s2, .int (qI sz), .ref s3, .ref s4])), (s1, qA (E 0) 64 ph), (s2, qA (E 0) 12 od), (s3, qL (E 1) 2 pi), (s4, qA (E 0) 6 se)] 28 [(0, .ref s0), (2, .int (qI x2)), (3, .int (qI x3))] [] := by
    intro x2 sz n8
    induction n8 with
    | zero =>
      intro x3 od hw
      exact hw.elim
    | succ n9 ih =>
      intro x3 od hw
      unfold wp_X1_removeSpot_28 at hw
      refine z_iload_n C 2 rfl rfl dX1_removeSpot_28 ?_
      refine z_aload_n C 0 rfl rfl dX1_removeSpot_29 ?_
      refine z_get C iX1_removeSpot_X1 0 rfl rfl 2 (by decide) (List.mem_of_getElem? (i := 1) rfl) rfl rfl dX1_removeSpot_30 ?_
      refine z_icmp_ge (tgt := 56) C hw.1 (by decide) dX1_removeSpot_33 (fun c1 => ?_) (fun c1 => ?_)
      · replace hw := hw.2.1 c1
        refine z_aload_n C 0 rfl rfl dX1_removeSpot_56 ?_
        refine z_dup C rfl dX1_removeSpot_57 ?_
        refine z_get C iX1_removeSpot_X1 0 rfl rfl 2 (by decide) (List.mem_of_getElem? (i := 1) rfl) rfl rfl dX1_removeSpot_58 ?_
        refine z_iconst C dX1_removeSpot_61 ?_
        refine z_isub C dX1_removeSpot_62 ?_
        refine z_name (fun v2 ev2 => ?_)
        replace hw := hw v2 ev2
        refine z_put (ty := .int) (ws' := [(s0, .inr (1, [.ref s1, .ref s2, .int (qI v2), .ref s3, .ref s4])), (s1, qA (E 0) 64 ph), (s2, qA (E 0) 12 od), (s3, qL (E 1) 2 pi), (s4, qA (E 0) 6 se)]) C iX1_removeSpot_X1 tyX1 tyX1_ok nmX1 0 rfl rfl 2 (by decide) (List.mem_of_getElem? (i := 1) rfl) rfl rfl (by decide +kernel) rfl rfl (Nat.le_of_ble_eq_true rfl) rfl dX1_removeSpot_63 ?_
        refine z_iload_n C 1 rfl rfl dX1_removeSpot_66 ?_
        exact hend 67 _ x2 (v2, od) dX1_removeSpot_67 hw
      · replace hw := hw.2.2 c1
        refine z_aload_n C 0 rfl rfl dX1_removeSpot_36 ?_
        refine z_get C iX1_removeSpot_X1 0 rfl rfl 1 (by decide) (List.mem_of_getElem? (i := 2) rfl) rfl rfl dX1_removeSpot_37 ?_
        refine z_iload_n C 2 rfl rfl dX1_removeSpot_40 ?_
        refine z_iconst C dX1_removeSpot_41 ?_
        refine z_isub C dX1_removeSpot_42 ?_
        refine z_aload_n C 0 rfl rfl dX1_removeSpot_43 ?_
        refine z_get C iX1_removeSpot_X1 0 rfl rfl 1 (by decide) (List.mem_of_getElem? (i := 2) rfl) rfl rfl dX1_removeSpot_44 ?_
        refine z_iload_n C 2 rfl rfl dX1_removeSpot_47 ?_
        refine z_iald C 2 rfl (by decide) hw.1 dX1_removeSpot_48 ?_
        replace hw := hw.2
        refine z_name (fun v3 ev3 => ?_)
        replace hw := hw v3 ev3
        refine z_iast C 2 rfl (by decide) hw.1 (fun g4 => [(s0, .inr (1, [.ref s1, .ref s2, .int (qI sz), .ref s3, .ref s4])), (s1, qA (E 0) 64 ph), (s2, qA (E 0) 12 g4), (s3, qL (E 1) 2 pi), (s4, qA (E 0) 6 se)]) (fun _ => rfl) dX1_removeSpot_49 (fun g4 eg4 => ?_)
        replace hw := hw.2 g4 eg4
        obtain ⟨v5, ev5⟩ : ∃ v5 : Int, v5 = x3 + (1 : Int) := ⟨_, rfl⟩
        replace hw := hw v5 ev5
        refine z_iinc C 2 rfl (by decide) v5 ev5 rfl dX1_removeSpot_50 ?_
        refine z_goto (tgt := 28) C (by decide) dX1_removeSpot_53 ?_
        refine z_lst (ps := [1, 2, 0]) (lv' := [(0, .ref s0), (2, .int (qI x2)), (3, .int (qI v5))]) (st' := []) rfl rfl ?_
        exact ih v5 g4 hw
  unfold wp_X1_removeSpot at hw
  show qZ X 0 0 [(s0, .inr (1, [.ref s1, .ref s2, .int (qI sz), .ref s3, .ref s4])), (s1, qA (E 0) 64 ph), (s2, qA (E 0) 12 od), (s3, qL (E 1) 2 pi), (s4, qA (E 0) 6 se)] 0 [(0, .ref s0), (1, .int (qI x1))] []
  refine z_iload_n C 1 rfl rfl dX1_removeSpot_0 ?_
  refine z_callSN (n := 1) C (c_X4_isSpot l D E   x1 hw) qF0_ok (fun _ _ _ => trivial) gX1_removeSpot_X4_isSpot_n41 rfl (List.mem_of_getElem? (i := 3) rfl) (List.mem_of_getElem? (i := 4) rfl) (host := RX4) (by decide +kernel) (by decide +kernel) ⟨(Nat.le_of_ble_eq_true rfl), (Nat.le_of_ble_eq_true rfl)⟩ rfl [] rfl rfl (Nat.le_of_ble_eq_true rfl) dX1_removeSpot_1 (fun r6 hw => ?_)
  show qZ X 0 0 [(s0, .inr (1, [.ref s1, .ref s2, .int (qI sz), .ref s3, .ref s4])), (s1, qA (E 0) 64 ph), (s2, qA (E 0) 12 od), (s3, qL (E 1) 2 pi), (s4, qA (E 0) 6 se)] _ _ [.int (qI r6)]
  refine z_if_ne (tgt := 9) C hw.1 (by decide) dX1_removeSpot_4 (fun c7 => ?_) (fun c7 => ?_)
  · replace hw := hw.2.1 c7
    refine z_aload_n C 0 rfl rfl dX1_removeSpot_9 ?_
    refine z_iload_n C 1 rfl rfl dX1_removeSpot_10 ?_
    refine z_callV (n := 1) C (c_X1_positionOf l D E s0 s1 s2 s3 s4 sz ph od pi se x1 hw) qF0_ok (fun _ _ _ => trivial) gX1_removeSpot_X1_positionOf rfl (by decide +kernel) ⟨(Nat.le_of_ble_eq_true rfl), (Nat.le_of_ble_eq_true rfl)⟩ rfl 0 rfl rfl [0, 1, 2, 3, 4] rfl rfl (Nat.le_of_ble_eq_true rfl) dX1_removeSpot_11 (fun r8 hw => ?_)
    show qZ X 0 0 [(s0, .inr (1, [.ref s1, .ref s2, .int (qI sz), .ref s3, .ref s4])), (s1, qA (E 0) 64 ph), (s2, qA (E 0) 12 od), (s3, qL (E 1) 2 pi), (s4, qA (E 0) 6 se)] _ _ [.int (qI r8)]
    refine z_istore_n C rfl (by decide) rfl dX1_removeSpot_14 ?_
    refine z_iload_n C 0 rfl rfl dX1_removeSpot_15 ?_
    refine z_bipush C (by decide +kernel) dX1_removeSpot_16 ?_
    refine z_icmp_ne (tgt := 24) C hw.1 (by decide) dX1_removeSpot_18 (fun c9 => ?_) (fun c9 => ?_)
    · replace hw := hw.2.1 c9
      refine z_iload_n C 0 rfl rfl dX1_removeSpot_24 ?_
      refine z_iconst C dX1_removeSpot_25 ?_
      refine z_iadd C dX1_removeSpot_26 ?_
      refine z_name (fun v10 ev10 => ?_)
      replace hw := hw v10 ev10
      refine z_istore_n C rfl (by decide) rfl dX1_removeSpot_27 ?_
      refine z_lst (ps := [2, 1, 0]) (lv' := [(0, .ref s0), (2, .int (qI r8)), (3, .int (qI v10))]) (st' := []) rfl rfl ?_
      obtain ⟨n8, hw⟩ := hw
      exact hB28 r8 sz n8 v10 od hw
    · replace hw := hw.2.2 c9
      refine z_bipush C (by decide +kernel) dX1_removeSpot_21 ?_
      exact hend 23 _ (-2 : Int) (sz, od) dX1_removeSpot_23 hw
  · replace hw := hw.2.2 c7
    refine z_iconst C dX1_removeSpot_7 ?_
    exact hend 8 _ (-1 : Int) (sz, od) dX1_removeSpot_8 hw
def wp_X1_swap (x1 : Int) (x2 : Int) (od : Nat → Int) (Φ : (Nat → Int) → Prop) : Prop := ((0 ≤ x1 ∧ x1 < 12) ∧ (∀ v1 : Int, v1 = od (x1).toNat → ((0 ≤ x2 ∧ x2 < 12) ∧ (∀ v2 : Int, v2 = od (x2).toNat → ((0 ≤ x1 ∧ x1 < 12) ∧ ∀ g3 : Nat → Int, g3 = qU od (x1).toNat v2 → ((0 ≤ x2 ∧ x2 < 12) ∧ ∀ g4 : Nat → Int, g4 = qU g3 (x2).toNat v1 → Φ g4))))))
theorem iX1_swap_X1 : ∀ w ∈ wsX10, w ∈ wsX1_swap := fun w h => List.mem_cons_of_mem _ (List.mem_append_right _ (h))
set_option maxHeartbeats 4000000 in
set_option maxRecDepth 100000 in
theorem c_X1_swap (l : Launch) (D : va_G) (E : Nat → ClassId) (s0 s1 s2 s3 s4 : Nat) (sz : Int) (ph : Nat → Int) (od : Nat → Int) (pi : Nat → Int64) (se : Nat → Int) (x1 : Int) (x2 : Int) {Φ : (Nat → Int) → Prop} (hw : wp_X1_swap x1 x2 od Φ) : qRW (σ := (Nat → Int)) l D E qF0 yX1_swap wsX1_swap 0 0 [(s0, .inr (1, [.ref s1, .ref s2, .int (qI sz), .ref s3, .ref s4])), (s1, qA (E 0) 64 ph), (s2, qA (E 0) 12 od), (s3, qL (E 1) 2 pi), (s4, qA (E 0) 6 se)] [.ref s0, .int (qI x1), .int (qI x2)] qeV (fun u => [(s0, .inr (1, [.ref s1, .ref s2, .int (qI sz), .ref s3, .ref s4])), (s1, qA (E 0) 64 ph), (s2, qA (E 0) 12 u), (s3, qL (E 1) 2 pi), (s4, qA (E 0) 6 se)]) (fun r u => Φ u) := by
  refine qRW_void (nL := 4) (own := RX1) qF0_ok (by decide) rfl rfl (Nat.le_of_ble_eq_true rfl) (fun X C hend => ?_)
  unfold wp_X1_swap at hw
  show qZ X 0 0 [(s0, .inr (1, [.ref s1, .ref s2, .int (qI sz), .ref s3, .ref s4])), (s1, qA (E 0) 64 ph), (s2, qA (E 0) 12 od), (s3, qL (E 1) 2 pi), (s4, qA (E 0) 6 se)] 0 [(0, .ref s0), (1, .int (qI x1)), (2, .int (qI x2))] []
  refine z_aload_n C 0 rfl rfl dX1_swap_0 ?_
  refine z_get C iX1_swap_X1 0 rfl rfl 1 (by decide) (List.mem_of_getElem? (i := 1) rfl) rfl rfl dX1_swap_1 ?_
  refine z_iload_n C 1 rfl rfl dX1_swap_4 ?_
  refine z_iald C 2 rfl (by decide) hw.1 dX1_swap_5 ?_
  replace hw := hw.2
  refine z_name (fun v1 ev1 => ?_)
  replace hw := hw v1 ev1
  refine z_istore_n C rfl (by decide) rfl dX1_swap_6 ?_
  refine z_aload_n C 1 rfl rfl dX1_swap_7 ?_
  refine z_get C iX1_swap_X1 0 rfl rfl 1 (by decide) (List.mem_of_getElem? (i := 1) rfl) rfl rfl dX1_swap_8 ?_
  refine z_iload_n C 2 rfl rfl dX1_swap_11 ?_
  refine z_aload_n C 1 rfl rfl dX1_swap_12 ?_
  refine z_get C iX1_swap_X1 0 rfl rfl 1 (by decide) (List.mem_of_getElem? (i := 1) rfl) rfl rfl dX1_swap_13 ?_
  refine z_iload_n C 3 rfl rfl dX1_swap_16 ?_
  refine z_iald C 2 rfl (by decide) hw.1 dX1_swap_17 ?_
  replace hw := hw.2
  refine z_name (fun v2 ev2 => ?_)
  replace hw := hw v2 ev2
  refine z_iast C 2 rfl (by decide) hw.1 (fun g3 => [(s0, .inr (1, [.ref s1, .ref s2, .int (qI sz), .ref s3, .ref s4])), (s1, qA (E 0) 64 ph), (s2, qA (E 0) 12 g3), (s3, qL (E 1) 2 pi), (s4, qA (E 0) 6 se)]) (fun _ => rfl) dX1_swap_18 (fun g3 eg3 => ?_)
  replace hw := hw.2 g3 eg3
  refine z_aload_n C 1 rfl rfl dX1_swap_19 ?_
  refine z_get C iX1_swap_X1 0 rfl rfl 1 (by decide) (List.mem_of_getElem? (i := 1) rfl) rfl rfl dX1_swap_20 ?_
  refine z_iload_n C 3 rfl rfl dX1_swap_23 ?_
  refine z_iload_n C 0 rfl rfl dX1_swap_24 ?_
  refine z_iast C 2 rfl (by decide) hw.1 (fun g4 => [(s0, .inr (1, [.ref s1, .ref s2, .int (qI sz), .ref s3, .ref s4])), (s1, qA (E 0) 64 ph), (s2, qA (E 0) 12 g4), (s3, qL (E 1) 2 pi), (s4, qA (E 0) 6 se)]) (fun _ => rfl) dX1_swap_25 (fun g4 eg4 => ?_)
  replace hw := hw.2 g4 eg4
  exact hend 26 _ () g4 dX1_swap_26 hw
def wp_X1_swapPositions_24 (Φ : Int → (Nat → Int) → Prop)  (od : Nat → Int) : Prop := Φ (-1 : Int) od
def wp_X1_swapPositions (x1 : Int) (x2 : Int) (sz : Int) (od : Nat → Int) (se : Nat → Int) (Φ : Int → (Nat → Int) → Prop) : Prop := (qR x1 ∧ (x1 < (0 : Int) → wp_X1_swapPositions_24 Φ  od) ∧ (¬ (x1 < (0 : Int)) → ((qR x1 ∧ qR sz) ∧ (sz ≤ x1 → wp_X1_swapPositions_24 Φ  od) ∧ (¬ (sz ≤ x1) → (qR x2 ∧ (x2 < (0 : Int) → wp_X1_swapPositions_24 Φ  od) ∧ (¬ (x2 < (0 : Int)) → ((qR x2 ∧ qR sz) ∧ (x2 < sz → wp_X1_swap x1 x2 od (fun (g6 : Nat → Int) => wp_X1_litSize sz g6 se (fun (r7 : Int) => Φ r7 g6))) ∧ (¬ (x2 < sz) → wp_X1_swapPositions_24 Φ  od))))))))
theorem iX1_swapPositions_X1 : ∀ w ∈ wsX10, w ∈ wsX1_swapPositions := fun w h => List.mem_cons_of_mem _ (List.mem_append_right _ (h))
set_option maxHeartbeats 4000000 in
set_option maxRecDepth 100000 in
theorem c_X1_swapPositions (l : Launch) (D : va_G) (E : Nat → ClassId) (s0 s1 s2 s3 s4 : Nat) (sz : Int) (ph : Nat → Int) (od : Nat → Int) (pi : Nat → Int64) (se : Nat → Int) (x1 : Int) (x2 : Int) {Φ : Int → (Nat → Int) → Prop} (hw : wp_X1_swapPositions x1 x2 sz od se Φ) : qRW (σ := (Nat → Int)) l D E qF0 yX1_swapPositions wsX1_swapPositions 4 87 [(s0, .inr (1, [.ref s1, .ref s2, .int (qI sz), .ref s3, .ref s4])), (s1, qA (E 0) 64 ph), (s2, qA (E 0) 12 od), (s3, qL (E 1) 2 pi), (s4, qA (E 0) 6 se)] [.ref s0, .int (qI x1), .int (qI x2)] qeI (fun u => [(s0, .inr (1, [.ref s1, .ref s2, .int (qI sz), .ref s3, .ref s4])), (s1, qA (E 0) 64 ph), (s2, qA (E 0) 12 u), (s3, qL (E 1) 2 pi), (s4, qA (E 0) 6 se)]) (fun r u => Φ r u) := by
  refine qRW_int (nL := 3) (own := RX1) qF0_ok (by decide) rfl rfl (Nat.le_of_ble_eq_true rfl) (fun X C hend => ?_)
  have hB24 : ∀ od : Nat → Int, wp_X1_swapPositions_24 Φ  od → qZ X 0 0 [(s0, .inr (1, [.ref s1, .ref s2, .int (qI sz), .ref s3, .ref s4])), (s1, qA (E 0) 64 ph), (s2, qA (E 0) 12 od), (s3, qL (E 1) 2 pi), (s4, qA (E 0) 6 se)] 24 [] [] := by
    intro od hw
    unfold wp_X1_swapPositions_24 at hw
    refine z_iconst C dX1_swapPositions_24 ?_
    exact hend 25 _ (-1 : Int) od dX1_swapPositions_25 hw
  unfold wp_X1_swapPositions at hw
  show qZ X 0 0 [(s0, .inr (1, [.ref s1, .ref s2, .int (qI sz), .ref s3, .ref s4])), (s1, qA (E 0) 64 ph), (s2, qA (E 0) 12 od), (s3, qL (E 1) 2 pi), (s4, qA (E 0) 6 se)] 0 [(0, .ref s0), (1, .int (qI x1)), (2, .int (qI x2))] []
  refine z_iload_n C 1 rfl rfl dX1_swapPositions_0 ?_
  refine z_if_lt (tgt := 24) C hw.1 (by decide) dX1_swapPositions_1 (fun c1 => ?_) (fun c1 => ?_)
  · replace hw := hw.2.1 c1
    refine z_lst (ps := []) (lv' := []) (st' := []) rfl rfl ?_
    exact hB24 od hw
  · replace hw := hw.2.2 c1
    refine z_iload_n C 1 rfl rfl dX1_swapPositions_4 ?_
    refine z_aload_n C 0 rfl rfl dX1_swapPositions_5 ?_
    refine z_get C iX1_swapPositions_X1 0 rfl rfl 2 (by decide) (List.mem_of_getElem? (i := 1) rfl) rfl rfl dX1_swapPositions_6 ?_
    refine z_icmp_ge (tgt := 24) C hw.1 (by decide) dX1_swapPositions_9 (fun c2 => ?_) (fun c2 => ?_)
    · replace hw := hw.2.1 c2
      refine z_lst (ps := []) (lv' := []) (st' := []) rfl rfl ?_
      exact hB24 od hw
    · replace hw := hw.2.2 c2
      refine z_iload_n C 2 rfl rfl dX1_swapPositions_12 ?_
      refine z_if_lt (tgt := 24) C hw.1 (by decide) dX1_swapPositions_13 (fun c3 => ?_) (fun c3 => ?_)
      · replace hw := hw.2.1 c3
        refine z_lst (ps := []) (lv' := []) (st' := []) rfl rfl ?_
        exact hB24 od hw
      · replace hw := hw.2.2 c3
        refine z_iload_n C 2 rfl rfl dX1_swapPositions_16 ?_
        refine z_aload_n C 0 rfl rfl dX1_swapPositions_17 ?_
        refine z_get C iX1_swapPositions_X1 0 rfl rfl 2 (by decide) (List.mem_of_getElem? (i := 1) rfl) rfl rfl dX1_swapPositions_18 ?_
        refine z_icmp_lt (tgt := 26) C hw.1 (by decide) dX1_swapPositions_21 (fun c4 => ?_) (fun c4 => ?_)
        · replace hw := hw.2.1 c4
          refine z_aload_n C 0 rfl rfl dX1_swapPositions_26 ?_
          refine z_iload_n C 1 rfl rfl dX1_swapPositions_27 ?_
          refine z_iload_n C 2 rfl rfl dX1_swapPositions_28 ?_
          refine z_callVW (n := 2) C (c_X1_swap l D E s0 s1 s2 s3 s4 sz ph od pi se x1 x2 hw) qF0_ok (fun _ _ _ => trivial) gX1_swapPositions_X1_swap rfl (by decide +kernel) ⟨(Nat.le_of_ble_eq_true rfl), (Nat.le_of_ble_eq_true rfl)⟩ rfl 0 rfl rfl [0, 1, 2, 3, 4] [] (wr := []) rfl rfl rfl rfl (by decide) [0, 1, 2, 3, 4] rfl (fun u9 => [(s0, .inr (1, [.ref s1, .ref s2, .int (qI sz), .ref s3, .ref s4])), (s1, qA (E 0) 64 ph), (s2, qA (E 0) 12 u9), (s3, qL (E 1) 2 pi), (s4, qA (E 0) 6 se)]) (fun _ => rfl) rfl (Nat.le_of_ble_eq_true rfl) dX1_swapPositions_29 (fun r5 u9 hw => ?_)
          obtain ⟨g6, rfl⟩ : ∃ z, z = u9 := ⟨_, rfl⟩
          refine z_ws (ws' := [(s0, .inr (1, [.ref s1, .ref s2, .int (qI sz), .ref s3, .ref s4])), (s1, qA (E 0) 64 ph), (s2, qA (E 0) 12 g6), (s3, qL (E 1) 2 pi), (s4, qA (E 0) 6 se)]) rfl ?_
          try dsimp only at hw
          show qZ X 0 0 [(s0, .inr (1, [.ref s1, .ref s2, .int (qI sz), .ref s3, .ref s4])), (s1, qA (E 0) 64 ph), (s2, qA (E 0) 12 g6), (s3, qL (E 1) 2 pi), (s4, qA (E 0) 6 se)] _ _ []
          refine z_aload_n C 0 rfl rfl dX1_swapPositions_32 ?_
          refine z_callV (n := 0) C (c_X1_litSize l D E s0 s1 s2 s3 s4 sz ph g6 pi se  hw) qF0_ok (fun _ _ _ => trivial) gX1_swapPositions_X1_litSize rfl (by decide +kernel) ⟨(Nat.le_of_ble_eq_true rfl), (Nat.le_of_ble_eq_true rfl)⟩ rfl 0 rfl rfl [0, 1, 2, 3, 4] rfl rfl (Nat.le_of_ble_eq_true rfl) dX1_swapPositions_33 (fun r7 hw => ?_)
          show qZ X 0 0 [(s0, .inr (1, [.ref s1, .ref s2, .int (qI sz), .ref s3, .ref s4])), (s1, qA (E 0) 64 ph), (s2, qA (E 0) 12 g6), (s3, qL (E 1) 2 pi), (s4, qA (E 0) 6 se)] _ _ [.int (qI r7)]
          exact hend 36 _ r7 g6 dX1_swapPositions_36 hw
        · replace hw := hw.2.2 c4
          refine z_lst (ps := []) (lv' := []) (st' := []) rfl rfl ?_
          exact hB24 od hw
def wp_X1_rank (x1 : Int) (x2 : Int) (x3 : Int) (ph : Nat → Int) (pi : Nat → Int64) (Φ : Int → Prop) : Prop := (qR x1 ∧ ((x1 < (0 : Int) ∨ (2 : Int) < x1) → wp_X4_way x3 x2 (fun (r1 : Int) => Φ ((r1 * (64 : Int)) + x2))) ∧ (x1 = (0 : Int) → Φ x2) ∧ (x1 = (1 : Int) → ((0 ≤ (1 : Int) ∧ (1 : Int) < 2) ∧ (∀ v2 : Int64, v2 = pi ((1 : Int)).toNat → wp_X4_bit v2 x2 (fun (r3 : Int) => wp_X4_way (0 : Int) x2 (fun (r4 : Int) => Φ ((((r3 * (15 : Int)) + r4) * (64 : Int)) + x2)))))) ∧ (x1 = (2 : Int) → ((0 ≤ x2 ∧ x2 < 64) ∧ (∀ v5 : Int, v5 = ph (x2).toNat → wp_X4_ticksAbove v5 (1 : Int) (fun (r6 : Int) => Φ ((r6 * (64 : Int)) + x2))))))
theorem iX1_rank_X1 : ∀ w ∈ wsX10, w ∈ wsX1_rank := fun w h => List.mem_cons_of_mem _ (List.mem_append_right _ (h))
set_option maxHeartbeats 4000000 in
set_option maxRecDepth 100000 in
theorem c_X1_rank (l : Launch) (D : va_G) (E : Nat → ClassId) (s0 s1 s2 s3 s4 : Nat) (sz : Int) (ph : Nat → Int) (od : Nat → Int) (pi : Nat → Int64) (se : Nat → Int) (x1 : Int) (x2 : Int) (x3 : Int) {Φ : Int → Prop} (hw : wp_X1_rank x1 x2 x3 ph pi Φ) : qRO l D E qF0 yX1_rank wsX1_rank 3 64 [(s0, .inr (1, [.ref s1, .ref s2, .int (qI sz), .ref s3, .ref s4])), (s1, qA (E 0) 64 ph), (s2, qA (E 0) 12 od), (s3, qL (E 1) 2 pi), (s4, qA (E 0) 6 se)] [.ref s0, .int (qI x1), .int (qI x2), .int (qI x3)] qeI (fun r => Φ r) := by
  refine qRO_int (nL := 4) (own := RX1) qF0_ok (by decide) rfl rfl (Nat.le_of_ble_eq_true rfl) (fun X C hend => ?_)
  unfold wp_X1_rank at hw
  show qZ X 0 0 [(s0, .inr (1, [.ref s1, .ref s2, .int (qI sz), .ref s3, .ref s4])), (s1, qA (E 0) 64 ph), (s2, qA (E 0) 12 od), (s3, qL (E 1) 2 pi), (s4, qA (E 0) 6 se)] 0 [(0, .ref s0), (1, .int (qI x1)), (2, .int (qI x2)), (3, .int (qI x3))] []
  refine z_iload_n C 1 rfl rfl dX1_rank_0 ?_
  rcases (show (x1 < (0 : Int) ∨ (2 : Int) < x1) ∨ x1 = (0 : Int) ∨ x1 = (1 : Int) ∨ x1 = (2 : Int) by omega) with c7 | c7 | c7 | c7
  · refine z_swOut (tgt := 71) C hw.1 c7 (by decide) dX1_rank_1 ?_
    replace hw := hw.2.1 c7
    refine z_iload_n C 3 rfl rfl dX1_rank_71 ?_
    refine z_iload_n C 2 rfl rfl dX1_rank_72 ?_
    refine z_callSN (n := 2) C (c_X4_way l D E   x3 x2 hw) qF0_ok (fun _ _ _ => trivial) gX1_rank_X4_way_n68 rfl (List.mem_of_getElem? (i := 6) rfl) (List.mem_of_getElem? (i := 4) rfl) (host := RX4) (by decide +kernel) (by decide +kernel) ⟨(Nat.le_of_ble_eq_true rfl), (Nat.le_of_ble_eq_true rfl)⟩ rfl [] rfl rfl (Nat.le_of_ble_eq_true rfl) dX1_rank_73 (fun r1 hw => ?_)
    show qZ X 0 0 [(s0, .inr (1, [.ref s1, .ref s2, .int (qI sz), .ref s3, .ref s4])), (s1, qA (E 0) 64 ph), (s2, qA (E 0) 12 od), (s3, qL (E 1) 2 pi), (s4, qA (E 0) 6 se)] _ _ [.int (qI r1)]
    refine z_bipush C (by decide +kernel) dX1_rank_76 ?_
    refine z_imul C dX1_rank_78 ?_
    refine z_iload_n C 2 rfl rfl dX1_rank_79 ?_
    refine z_iadd C dX1_rank_80 ?_
    exact hend 81 _ ((r1 * (64 : Int)) + x2) dX1_rank_81 hw
  · refine z_swIn (off := (27 : Int)) (tgt := 28) C hw.1 (by omega) (by omega) (by rw [c7]; rfl) (by decide) dX1_rank_1 ?_
    replace hw := hw.2.2.1 c7
    refine z_iload_n C 2 rfl rfl dX1_rank_28 ?_
    exact hend 29 _ x2 dX1_rank_29 hw
  · refine z_swIn (off := (29 : Int)) (tgt := 30) C hw.1 (by omega) (by omega) (by rw [c7]; rfl) (by decide) dX1_rank_1 ?_
    replace hw := hw.2.2.2.1 c7
    refine z_aload_n C 0 rfl rfl dX1_rank_30 ?_
    refine z_get C iX1_rank_X1 0 rfl rfl 3 (by decide) (List.mem_of_getElem? (i := 1) rfl) rfl rfl dX1_rank_31 ?_
    refine z_iconst C dX1_rank_34 ?_
    refine z_lald C 3 rfl (by decide) hw.1 dX1_rank_35 ?_
    replace hw := hw.2
    refine z_nameL (fun v2 ev2 => ?_)
    replace hw := hw v2 ev2
    refine z_iload_n C 2 rfl rfl dX1_rank_36 ?_
    refine z_callSN (n := 2) C (c_X4_bit l D E   v2 x2 hw) qF0_ok (fun _ _ _ => trivial) gX1_rank_X4_bit_n64 rfl (List.mem_of_getElem? (i := 3) rfl) (List.mem_of_getElem? (i := 4) rfl) (host := RX4) (by decide +kernel) (by decide +kernel) ⟨(Nat.le_of_ble_eq_true rfl), (Nat.le_of_ble_eq_true rfl)⟩ rfl [] rfl rfl (Nat.le_of_ble_eq_true rfl) dX1_rank_37 (fun r3 hw => ?_)
    show qZ X 0 0 [(s0, .inr (1, [.ref s1, .ref s2, .int (qI sz), .ref s3, .ref s4])), (s1, qA (E 0) 64 ph), (s2, qA (E 0) 12 od), (s3, qL (E 1) 2 pi), (s4, qA (E 0) 6 se)] _ _ [.int (qI r3)]
    refine z_bipush C (by decide +kernel) dX1_rank_40 ?_
    refine z_imul C dX1_rank_42 ?_
    refine z_iconst C dX1_rank_43 ?_
    refine z_iload_n C 2 rfl rfl dX1_rank_44 ?_
    refine z_callSN (n := 2) C (c_X4_way l D E   (0 : Int) x2 hw) qF0_ok (fun _ _ _ => trivial) gX1_rank_X4_way_n68 rfl (List.mem_of_getElem? (i := 6) rfl) (List.mem_of_getElem? (i := 4) rfl) (host := RX4) (by decide +kernel) (by decide +kernel) ⟨(Nat.le_of_ble_eq_true rfl), (Nat.le_of_ble_eq_true rfl)⟩ rfl [] rfl rfl (Nat.le_of_ble_eq_true rfl) dX1_rank_45 (fun r4 hw => ?_)
    show qZ X 0 0 [(s0, .inr (1, [.ref s1, .ref s2, .int (qI sz), .ref s3, .ref s4])), (s1, qA (E 0) 64 ph), (s2, qA (E 0) 12 od), (s3, qL (E 1) 2 pi), (s4, qA (E 0) 6 se)] _ _ [.int (qI r4), .int (qI (r3 * (15 : Int)))]
    refine z_iadd C dX1_rank_48 ?_
    refine z_bipush C (by decide +kernel) dX1_rank_49 ?_
    refine z_imul C dX1_rank_51 ?_
    refine z_iload_n C 2 rfl rfl dX1_rank_52 ?_
    refine z_iadd C dX1_rank_53 ?_
    exact hend 54 _ ((((r3 * (15 : Int)) + r4) * (64 : Int)) + x2) dX1_rank_54 hw
  · refine z_swIn (off := (54 : Int)) (tgt := 55) C hw.1 (by omega) (by omega) (by rw [c7]; rfl) (by decide) dX1_rank_1 ?_
    replace hw := hw.2.2.2.2 c7
    refine z_aload_n C 0 rfl rfl dX1_rank_55 ?_
    refine z_get C iX1_rank_X1 0 rfl rfl 0 (by decide) (List.mem_of_getElem? (i := 2) rfl) rfl rfl dX1_rank_56 ?_
    refine z_iload_n C 2 rfl rfl dX1_rank_59 ?_
    refine z_iald C 1 rfl (by decide) hw.1 dX1_rank_60 ?_
    replace hw := hw.2
    refine z_name (fun v5 ev5 => ?_)
    replace hw := hw v5 ev5
    refine z_iconst C dX1_rank_61 ?_
    refine z_callSN (n := 2) C (c_X4_ticksAbove l D E   v5 (1 : Int) hw) qF0_ok (fun _ _ _ => trivial) gX1_rank_X4_ticksAbove_n72 rfl (List.mem_of_getElem? (i := 12) rfl) (List.mem_of_getElem? (i := 4) rfl) (host := RX4) (by decide +kernel) (by decide +kernel) ⟨(Nat.le_of_ble_eq_true rfl), (Nat.le_of_ble_eq_true rfl)⟩ rfl [] rfl rfl (Nat.le_of_ble_eq_true rfl) dX1_rank_62 (fun r6 hw => ?_)
    show qZ X 0 0 [(s0, .inr (1, [.ref s1, .ref s2, .int (qI sz), .ref s3, .ref s4])), (s1, qA (E 0) 64 ph), (s2, qA (E 0) 12 od), (s3, qL (E 1) 2 pi), (s4, qA (E 0) 6 se)] _ _ [.int (qI r6)]
    refine z_bipush C (by decide +kernel) dX1_rank_65 ?_
    refine z_imul C dX1_rank_67 ?_
    refine z_iload_n C 2 rfl rfl dX1_rank_68 ?_
    refine z_iadd C dX1_rank_69 ?_
    exact hend 70 _ ((r6 * (64 : Int)) + x2) dX1_rank_70 hw
def wp_X1_arrange_73 (Φ : Int → (Nat → Int) → Prop) (K15 : Int → Int → (Nat → Int) → Prop) (K31 : Int → Int → Prop) (x1 : Int) (x2 : Int) (x3 : Int) (x4 : Int) (x5 : Int) (sz : Int) (ph : Nat → Int) (od : Nat → Int) (pi : Nat → Int64) (se : Nat → Int) : Prop := (∀ v1 : Int, v1 = x5 + (1 : Int) → K31 x4 v1)
def wp_X1_arrange_31 (Φ : Int → (Nat → Int) → Prop) (K15 : Int → Int → (Nat → Int) → Prop) (x1 : Int) (x2 : Int) (x3 : Int) (sz : Int) (ph : Nat → Int) (od : Nat → Int) (pi : Nat → Int64) (se : Nat → Int) : Nat → Int → Int → Prop
  | 0, _, _ => False
  | n9 + 1, x4, x5 => ((qR x5 ∧ qR sz) ∧ (sz ≤ x5 → wp_X1_swap x3 x4 od (fun (g4 : Nat → Int) => ((0 ≤ x3 ∧ x3 < 12) ∧ (∀ v5 : Int, v5 = g4 (x3).toNat → (∀ v6 : Int, v6 = x3 + (1 : Int) → K15 v5 v6 g4))))) ∧ (¬ (sz ≤ x5) → ((0 ≤ x5 ∧ x5 < 12) ∧ (∀ v7 : Int, v7 = od (x5).toNat → wp_X1_rank x1 v7 x2 ph pi (fun (r8 : Int) => ((0 ≤ x4 ∧ x4 < 12) ∧ (∀ v9 : Int, v9 = od (x4).toNat → wp_X1_rank x1 v9 x2 ph pi (fun (r10 : Int) => ((qR r8 ∧ qR r10) ∧ (r10 ≤ r8 → wp_X1_arrange_73 Φ K15 (wp_X1_arrange_31 Φ K15 x1 x2 x3 sz ph od pi se n9) x1 x2 x3 x4 x5 sz ph od pi se) ∧ (¬ (r10 ≤ r8) → wp_X1_arrange_73 Φ K15 (wp_X1_arrange_31 Φ K15 x1 x2 x3 sz ph od pi se n9) x1 x2 x3 x5 x5 sz ph od pi se))))))))))
def wp_X1_arrange_15 (Φ : Int → (Nat → Int) → Prop)  (x1 : Int) (sz : Int) (ph : Nat → Int) (pi : Nat → Int64) (se : Nat → Int) : Nat → Int → Int → (Nat → Int) → Prop
  | 0, _, _, _ => False
  | n9 + 1, x2, x3, od => ((qR x3 ∧ qR sz) ∧ (sz ≤ x3 → wp_X1_litSize sz od se (fun (r13 : Int) => Φ r13 od)) ∧ (¬ (sz ≤ x3) → (∀ v14 : Int, v14 = (x3 + (1 : Int)) → ∃ n : Nat, wp_X1_arrange_31 Φ (wp_X1_arrange_15 Φ  x1 sz ph pi se n9) x1 x2 x3 sz ph od pi se n x3 v14)))
def wp_X1_arrange_9 (Φ : Int → (Nat → Int) → Prop)  (od : Nat → Int) : Prop := Φ (-1 : Int) od
def wp_X1_arrange (x1 : Int) (sz : Int) (ph : Nat → Int) (od : Nat → Int) (pi : Nat → Int64) (se : Nat → Int) (Φ : Int → (Nat → Int) → Prop) : Prop := (qR x1 ∧ (x1 < (0 : Int) → wp_X1_arrange_9 Φ  od) ∧ (¬ (x1 < (0 : Int)) → ((qR x1 ∧ qR (3 : Int)) ∧ (x1 ≤ (3 : Int) → ∃ n : Nat, wp_X1_arrange_15 Φ  x1 sz ph pi se n (0 : Int) (0 : Int) od) ∧ (¬ (x1 ≤ (3 : Int)) → wp_X1_arrange_9 Φ  od))))
theorem iX1_arrange_X1 : ∀ w ∈ wsX10, w ∈ wsX1_arrange := fun w h => List.mem_cons_of_mem _ (List.mem_append_right _ (h))
set_option maxHeartbeats 4000000 in
set_option maxRecDepth 100000 in
theorem c_X1_arrange (l : Launch) (D : va_G) (E : Nat → ClassId) (s0 s1 s2 s3 s4 : Nat) (sz : Int) (ph : Nat → Int) (od : Nat → Int) (pi : Nat → Int64) (se : Nat → Int) (x1 : Int) {Φ : Int → (Nat → Int) → Prop} (hw : wp_X1_arrange x1 sz ph od pi se Φ) : qRW (σ := (Nat → Int)) l D E qF0 yX1_arrange wsX1_arrange 4 87 [(s0, .inr (1, [.ref s1, .ref s2, .int (qI sz), .ref s3, .ref s4])), (s1, qA (E 0) 64 ph), (s2, qA (E 0) 12 od), (s3, qL (E 1) 2 pi), (s4, qA (E 0) 6 se)] [.ref s0, .int (qI x1)] qeI (fun u => [(s0, .inr (1, [.ref s1, .ref s2, .int (qI sz), .ref s3, .ref s4])), (s1, qA (E 0) 64 ph), (s2, qA (E 0) 12 u), (s3, qL (E 1) 2 pi), (s4, qA (E 0) 6 se)]) (fun r u => Φ r u) := by
  refine qRW_int (nL := 6) (own := RX1) qF0_ok (by decide) rfl rfl (Nat.le_of_ble_eq_true rfl) (fun X C hend => ?_)
  have hB73 : ∀ x1 : Int, ∀ K15 : Int → Int → (Nat → Int) → Prop, (∀ (x2 : Int) (x3 : Int) (od : Nat → Int), K15 x2 x3 od → qZ X 0 0 [(s0, .inr (1, [.ref s1, .ref s2, .int (qI sz), .ref s3, .ref s4])), (s1, qA (E 0) 64 ph), (s2, qA (E 0) 12 od), (s3, qL (E 1) 2 pi), (s4, qA (E 0) 6 se)] 15 [(0, .ref s0), (1, .int (qI x1)), (2, .int (qI x2)), (3, .int (qI x3))] []) → ∀ x2 : Int, ∀ x3 : Int, ∀ od : Nat → Int, ∀ K31 : Int → Int → Prop, (∀ (x4 : Int) (x5 : Int), K31 x4 x5 → qZ X 0 0 [(s0, .inr (1, [.ref s1, .ref s2, .int (qI sz), .ref s3, .ref s4])), (s1, qA (E 0) 64 ph), (s2, qA (E 0) 12 od), (s3, qL (E 1) 2 pi), (s4, qA (E 0) 6 se)] 31 [(0, .ref s0), (1, .int (qI x1)), (2, .int (qI x2)), (3, .int (qI x3)), (4, .int (qI x4)), (5, .int (qI x5))] []) → ∀ x4 : Int, ∀ x5 : Int, wp_X1_arrange_73 Φ K15 K31 x1 x2 x3 x4 x5 sz ph od pi se → qZ X 0 0 [(s0, .inr (1, [.ref s1, .ref s2, .int (qI sz), .ref s3, .ref s4])), (s1, qA (E 0) 64 ph), (s2, qA (E 0) 12 od), (s3, qL (E 1) 2 pi), (s4, qA (E 0) 6 se)] 73 [(0, .ref s0), (1, .int (qI x1)), (2, .int (qI x2)), (3, .int (qI x3)), (4, .int (qI x4)), (5, .int (qI x5))] [] := by
    intro x1 K15 hK15 x2 x3 od K31 hK31 x4 x5 hw
    unfold wp_X1_arrange_73 at hw
    obtain ⟨v1, ev1⟩ : ∃ v1 : Int, v1 = x5 + (1 : Int) := ⟨_, rfl⟩
    replace hw := hw v1 ev1
    refine z_iinc C 5 rfl (by decide) v1 ev1 rfl dX1_arrange_73 ?_
    refine z_goto (tgt := 31) C (by decide) dX1_arrange_76 ?_
    refine z_lst (ps := [1, 2, 3, 4, 5, 0]) (lv' := [(0, .ref s0), (1, .int (qI x1)), (2, .int (qI x2)), (3, .int (qI x3)), (4, .int (qI x4)), (5, .int (qI v1))]) (st' := []) rfl rfl ?_
    exact hK31 x4 v1 hw
  have hB31 : ∀ x1 : Int, ∀ K15 : Int → Int → (Nat → Int) → Prop, (∀ (x2 : Int) (x3 : Int) (od : Nat → Int), K15 x2 x3 od → qZ X 0 0 [(s0, .inr (1, [.ref s1, .ref s2, .int (qI sz), .ref s3, .ref s4])), (s1, qA (E 0) 64 ph), (s2, qA (E 0) 12 od), (s3, qL (E 1) 2 pi), (s4, qA (E 0) 6 se)] 15 [(0, .ref s0), (1, .int (qI x1)), (2, .int (qI x2)), (3, .int (qI x3))] []) → ∀ x2 : Int, ∀ x3 : Int, ∀ od : Nat → Int, ∀ n8 : Nat, ∀ x4 : Int, ∀ x5 : Int, wp_X1_arrange_31 Φ K15 x1 x2 x3 sz ph od pi se n8 x4 x5 → qZ X 0 0 [(s0, .inr (1, [.ref s1, .ref s2, .int (qI sz), .ref s3, .ref s4])), (s1, qA (E 0) 64 ph), (s2, qA (E 0) 12 od), (s3, qL (E 1) 2 pi), (s4, qA (E 0) 6 se)] 31 [(0, .ref s0), (1, .int (qI x1)), (2, .int (qI x2)), (3, .int (qI x3)), (4, .int (qI x4)), (5, .int (qI x5))] [] := by
    intro x1 K15 hK15 x2 x3 od n8
    induction n8 with
    | zero =>
      intro x4 x5 hw
      exact hw.elim
    | succ n9 ih =>
      intro x4 x5 hw
      unfold wp_X1_arrange_31 at hw
      refine z_iload C 5 rfl dX1_arrange_31 ?_
      refine z_aload_n C 0 rfl rfl dX1_arrange_33 ?_
      refine z_get C iX1_arrange_X1 0 rfl rfl 2 (by decide) (List.mem_of_getElem? (i := 1) rfl) rfl rfl dX1_arrange_34 ?_
      refine z_icmp_ge (tgt := 79) C hw.1 (by decide) dX1_arrange_37 (fun c2 => ?_) (fun c2 => ?_)
      · replace hw := hw.2.1 c2
        refine z_aload_n C 0 rfl rfl dX1_arrange_79 ?_
        refine z_iload_n C 3 rfl rfl dX1_arrange_80 ?_
        refine z_iload C 4 rfl dX1_arrange_81 ?_
        refine z_callVW (n := 2) C (c_X1_swap l D E s0 s1 s2 s3 s4 sz ph od pi se x3 x4 hw) qF0_ok (fun _ _ _ => trivial) gX1_arrange_X1_swap rfl (by decide +kernel) ⟨(Nat.le_of_ble_eq_true rfl), (Nat.le_of_ble_eq_true rfl)⟩ rfl 0 rfl rfl [0, 1, 2, 3, 4] [] (wr := []) rfl rfl rfl rfl (by decide) [0, 1, 2, 3, 4] rfl (fun u9 => [(s0, .inr (1, [.ref s1, .ref s2, .int (qI sz), .ref s3, .ref s4])), (s1, qA (E 0) 64 ph), (s2, qA (E 0) 12 u9), (s3, qL (E 1) 2 pi), (s4, qA (E 0) 6 se)]) (fun _ => rfl) rfl (Nat.le_of_ble_eq_true rfl) dX1_arrange_83 (fun r3 u9 hw => ?_)
        obtain ⟨g4, rfl⟩ : ∃ z, z = u9 := ⟨_, rfl⟩
        refine z_ws (ws' := [(s0, .inr (1, [.ref s1, .ref s2, .int (qI sz), .ref s3, .ref s4])), (s1, qA (E 0) 64 ph), (s2, qA (E 0) 12 g4), (s3, qL (E 1) 2 pi), (s4, qA (E 0) 6 se)]) rfl ?_
        try dsimp only at hw
        show qZ X 0 0 [(s0, .inr (1, [.ref s1, .ref s2, .int (qI sz), .ref s3, .ref s4])), (s1, qA (E 0) 64 ph), (s2, qA (E 0) 12 g4), (s3, qL (E 1) 2 pi), (s4, qA (E 0) 6 se)] _ _ []
        refine z_aload_n C 0 rfl rfl dX1_arrange_86 ?_
        refine z_get C iX1_arrange_X1 0 rfl rfl 1 (by decide) (List.mem_of_getElem? (i := 2) rfl) rfl rfl dX1_arrange_87 ?_
        refine z_iload_n C 3 rfl rfl dX1_arrange_90 ?_
        refine z_iald C 2 rfl (by decide) hw.1 dX1_arrange_91 ?_
        replace hw := hw.2
        refine z_name (fun v5 ev5 => ?_)
        replace hw := hw v5 ev5
        refine z_istore_n C rfl (by decide) rfl dX1_arrange_92 ?_
        obtain ⟨v6, ev6⟩ : ∃ v6 : Int, v6 = x3 + (1 : Int) := ⟨_, rfl⟩
        replace hw := hw v6 ev6
        refine z_iinc C 3 rfl (by decide) v6 ev6 rfl dX1_arrange_93 ?_
        refine z_goto (tgt := 15) C (by decide) dX1_arrange_96 ?_
        refine z_lst (ps := [2, 3, 1, 0]) (lv' := [(0, .ref s0), (1, .int (qI x1)), (2, .int (qI v5)), (3, .int (qI v6))]) (st' := []) rfl rfl ?_
        exact hK15 v5 v6 g4 hw
      · replace hw := hw.2.2 c2
        refine z_aload_n C 0 rfl rfl dX1_arrange_40 ?_
        refine z_iload_n C 1 rfl rfl dX1_arrange_41 ?_
        refine z_aload_n C 0 rfl rfl dX1_arrange_42 ?_
        refine z_get C iX1_arrange_X1 0 rfl rfl 1 (by decide) (List.mem_of_getElem? (i := 2) rfl) rfl rfl dX1_arrange_43 ?_
        refine z_iload C 5 rfl dX1_arrange_46 ?_
        refine z_iald C 2 rfl (by decide) hw.1 dX1_arrange_48 ?_
        replace hw := hw.2
        refine z_name (fun v7 ev7 => ?_)
        replace hw := hw v7 ev7
        refine z_iload_n C 2 rfl rfl dX1_arrange_49 ?_
        refine z_callV (n := 3) C (c_X1_rank l D E s0 s1 s2 s3 s4 sz ph od pi se x1 v7 x2 hw) qF0_ok (fun _ _ _ => trivial) gX1_arrange_X1_rank rfl (by decide +kernel) ⟨(Nat.le_of_ble_eq_true rfl), (Nat.le_of_ble_eq_true rfl)⟩ rfl 0 rfl rfl [0, 1, 2, 3, 4] rfl rfl (Nat.le_of_ble_eq_true rfl) dX1_arrange_50 (fun r8 hw => ?_)
        show qZ X 0 0 [(s0, .inr (1, [.ref s1, .ref s2, .int (qI sz), .ref s3, .ref s4])), (s1, qA (E 0) 64 ph), (s2, qA (E 0) 12 od), (s3, qL (E 1) 2 pi), (s4, qA (E 0) 6 se)] _ _ [.int (qI r8)]
        refine z_aload_n C 0 rfl rfl dX1_arrange_53 ?_
        refine z_iload_n C 1 rfl rfl dX1_arrange_54 ?_
        refine z_aload_n C 0 rfl rfl dX1_arrange_55 ?_
        refine z_get C iX1_arrange_X1 0 rfl rfl 1 (by decide) (List.mem_of_getElem? (i := 2) rfl) rfl rfl dX1_arrange_56 ?_
        refine z_iload C 4 rfl dX1_arrange_59 ?_
        refine z_iald C 2 rfl (by decide) hw.1 dX1_arrange_61 ?_
        replace hw := hw.2
        refine z_name (fun v9 ev9 => ?_)
        replace hw := hw v9 ev9
        refine z_iload_n C 2 rfl rfl dX1_arrange_62 ?_
        refine z_callV (n := 3) C (c_X1_rank l D E s0 s1 s2 s3 s4 sz ph od pi se x1 v9 x2 hw) qF0_ok (fun _ _ _ => trivial) gX1_arrange_X1_rank rfl (by decide +kernel) ⟨(Nat.le_of_ble_eq_true rfl), (Nat.le_of_ble_eq_true rfl)⟩ rfl 0 rfl rfl [0, 1, 2, 3, 4] rfl rfl (Nat.le_of_ble_eq_true rfl) dX1_arrange_63 (fun r10 hw => ?_)
        show qZ X 0 0 [(s0, .inr (1, [.ref s1, .ref s2, .int (qI sz), .ref s3, .ref s4])), (s1, qA (E 0) 64 ph), (s2, qA (E 0) 12 od), (s3, qL (E 1) 2 pi), (s4, qA (E 0) 6 se)] _ _ [.int (qI r10), .int (qI r8)]
        refine z_icmp_ge (tgt := 73) C hw.1 (by decide) dX1_arrange_66 (fun c11 => ?_) (fun c11 => ?_)
        · replace hw := hw.2.1 c11
          refine z_lst (ps := [0, 1, 2, 3, 4, 5]) (lv' := [(0, .ref s0), (1, .int (qI x1)), (2, .int (qI x2)), (3, .int (qI x3)), (4, .int (qI x4)), (5, .int (qI x5))]) (st' := []) rfl rfl ?_
          exact hB73 x1 _ hK15 x2 x3 od _ ih x4 x5 hw
        · replace hw := hw.2.2 c11
          refine z_iload C 5 rfl dX1_arrange_69 ?_
          refine z_istore C (by decide) rfl dX1_arrange_71 ?_
          refine z_lst (ps := [1, 2, 3, 4, 0, 5]) (lv' := [(0, .ref s0), (1, .int (qI x1)), (2, .int (qI x2)), (3, .int (qI x3)), (4, .int (qI x5)), (5, .int (qI x5))]) (st' := []) rfl rfl ?_
          exact hB73 x1 _ hK15 x2 x3 od _ ih x5 x5 hw
  have hB15 : ∀ x1 : Int, ∀ n8 : Nat, ∀ x2 : Int, ∀ x3 : Int, ∀ od : Nat → Int, wp_X1_arrange_15 Φ  x1 sz ph pi se n8 x2 x3 od → qZ X 0 0 [(s0, .inr (1, [.ref s1, .ref s2, .int (qI sz), .ref s3, .ref s4])), (s1, qA (E 0) 64 ph), (s2, qA (E 0) 12 od), (s3, qL (E 1) 2 pi), (s4, qA (E 0) 6 se)] 15 [(0, .ref s0), (1, .int (qI x1)), (2, .int (qI x2)), (3, .int (qI x3))] [] := by
    intro x1 n8
    induction n8 with
    | zero =>
      intro x2 x3 od hw
      exact hw.elim
    | succ n9 ih =>
      intro x2 x3 od hw
      unfold wp_X1_arrange_15 at hw
      refine z_iload_n C 3 rfl rfl dX1_arrange_15 ?_
      refine z_aload_n C 0 rfl rfl dX1_arrange_16 ?_
      refine z_get C iX1_arrange_X1 0 rfl rfl 2 (by decide) (List.mem_of_getElem? (i := 1) rfl) rfl rfl dX1_arrange_17 ?_
      refine z_icmp_ge (tgt := 99) C hw.1 (by decide) dX1_arrange_20 (fun c12 => ?_) (fun c12 => ?_)
      · replace hw := hw.2.1 c12
        refine z_aload_n C 0 rfl rfl dX1_arrange_99 ?_
        refine z_callV (n := 0) C (c_X1_litSize l D E s0 s1 s2 s3 s4 sz ph od pi se  hw) qF0_ok (fun _ _ _ => trivial) gX1_arrange_X1_litSize rfl (by decide +kernel) ⟨(Nat.le_of_ble_eq_true rfl), (Nat.le_of_ble_eq_true rfl)⟩ rfl 0 rfl rfl [0, 1, 2, 3, 4] rfl rfl (Nat.le_of_ble_eq_true rfl) dX1_arrange_100 (fun r13 hw => ?_)
        show qZ X 0 0 [(s0, .inr (1, [.ref s1, .ref s2, .int (qI sz), .ref s3, .ref s4])), (s1, qA (E 0) 64 ph), (s2, qA (E 0) 12 od), (s3, qL (E 1) 2 pi), (s4, qA (E 0) 6 se)] _ _ [.int (qI r13)]
        exact hend 103 _ r13 od dX1_arrange_103 hw
      · replace hw := hw.2.2 c12
        refine z_iload_n C 3 rfl rfl dX1_arrange_23 ?_
        refine z_istore C (by decide) rfl dX1_arrange_24 ?_
        refine z_iload_n C 4 rfl rfl dX1_arrange_26 ?_
        refine z_iconst C dX1_arrange_27 ?_
        refine z_iadd C dX1_arrange_28 ?_
        refine z_name (fun v14 ev14 => ?_)
        replace hw := hw v14 ev14
        refine z_istore C (by decide) rfl dX1_arrange_29 ?_
        refine z_lst (ps := [2, 3, 4, 5, 1, 0]) (lv' := [(0, .ref s0), (1, .int (qI x1)), (2, .int (qI x2)), (3, .int (qI x3)), (4, .int (qI x3)), (5, .int (qI v14))]) (st' := []) rfl rfl ?_
        obtain ⟨n8, hw⟩ := hw
        exact hB31 x1 _ ih x2 x3 od n8 x3 v14 hw
  have hB9 : ∀ od : Nat → Int, wp_X1_arrange_9 Φ  od → qZ X 0 0 [(s0, .inr (1, [.ref s1, .ref s2, .int (qI sz), .ref s3, .ref s4])), (s1, qA (E 0) 64 ph), (s2, qA (E 0) 12 od), (s3, qL (E 1) 2 pi), (s4, qA (E 0) 6 se)] 9 [] [] := by
    intro od hw
    unfold wp_X1_arrange_9 at hw
    refine z_iconst C dX1_arrange_9 ?_
    exact hend 10 _ (-1 : Int) od dX1_arrange_10 hw
  unfold wp_X1_arrange at hw
  show qZ X 0 0 [(s0, .inr (1, [.ref s1, .ref s2, .int (qI sz), .ref s3, .ref s4])), (s1, qA (E 0) 64 ph), (s2, qA (E 0) 12 od), (s3, qL (E 1) 2 pi), (s4, qA (E 0) 6 se)] 0 [(0, .ref s0), (1, .int (qI x1))] []
  refine z_iload_n C 1 rfl rfl dX1_arrange_0 ?_
  refine z_if_lt (tgt := 9) C hw.1 (by decide) dX1_arrange_1 (fun c15 => ?_) (fun c15 => ?_)
  · replace hw := hw.2.1 c15
    refine z_lst (ps := []) (lv' := []) (st' := []) rfl rfl ?_
    exact hB9 od hw
  · replace hw := hw.2.2 c15
    refine z_iload_n C 1 rfl rfl dX1_arrange_4 ?_
    refine z_iconst C dX1_arrange_5 ?_
    refine z_icmp_le (tgt := 11) C hw.1 (by decide) dX1_arrange_6 (fun c16 => ?_) (fun c16 => ?_)
    · replace hw := hw.2.1 c16
      refine z_iconst C dX1_arrange_11 ?_
      refine z_istore_n C rfl (by decide) rfl dX1_arrange_12 ?_
      refine z_iconst C dX1_arrange_13 ?_
      refine z_istore_n C rfl (by decide) rfl dX1_arrange_14 ?_
      refine z_lst (ps := [2, 3, 1, 0]) (lv' := [(0, .ref s0), (1, .int (qI x1)), (2, .int (qI (0 : Int))), (3, .int (qI (0 : Int)))]) (st' := []) rfl rfl ?_
      obtain ⟨n8, hw⟩ := hw
      exact hB15 x1 n8 (0 : Int) (0 : Int) od hw
    · replace hw := hw.2.2 c16
      refine z_lst (ps := []) (lv' := []) (st' := []) rfl rfl ?_
      exact hB9 od hw
def wp_X1_paint_63 (Φ : Int → (Nat → Int64) → Prop)  (x1 : Int) (pi : Nat → Int64) : Prop := ((0 ≤ x1 ∧ x1 < 2) ∧ (∀ v1 : Int64, v1 = pi (x1).toNat → wp_J13_bitCount_95d88 v1 (fun (r2 : Int) => Φ r2 pi)))
def wp_X1_paint_25 (Φ : Int → (Nat → Int64) → Prop)  (pi : Nat → Int64) : Prop := Φ (-1 : Int) pi
def wp_X1_paint (x1 : Int) (x2 : Int) (x3 : Int) (pi : Nat → Int64) (Φ : Int → (Nat → Int64) → Prop) : Prop := (qR x1 ∧ (x1 < (0 : Int) → wp_X1_paint_25 Φ  pi) ∧ (¬ (x1 < (0 : Int)) → ((qR x1 ∧ qR (2 : Int)) ∧ ((2 : Int) ≤ x1 → wp_X1_paint_25 Φ  pi) ∧ (¬ ((2 : Int) ≤ x1) → wp_X4_isSpot x2 (fun (r5 : Int) => (qR r5 ∧ (r5 = (0 : Int) → wp_X1_paint_25 Φ  pi) ∧ (¬ (r5 = (0 : Int)) → (qR x3 ∧ (x3 < (0 : Int) → wp_X1_paint_25 Φ  pi) ∧ (¬ (x3 < (0 : Int)) → ((qR x3 ∧ qR (1 : Int)) ∧ (x3 ≤ (1 : Int) → ((qR x3 ∧ qR (1 : Int)) ∧ (¬ x3 = (1 : Int) → ((0 ≤ x1 ∧ x1 < 2) ∧ (∀ v10 : Int64, v10 = pi (x1).toNat → ((0 ≤ x1 ∧ x1 < 2) ∧ ∀ g11 : Nat → Int64, g11 = qUL pi (x1).toNat (v10 &&& ((((1 : Int64) : Int64) <<< ((qI x2).toInt64 &&& 63)) ^^^ (-1 : Int64))) → wp_X1_paint_63 Φ  x1 g11)))) ∧ (¬ (¬ x3 = (1 : Int)) → ((0 ≤ x1 ∧ x1 < 2) ∧ (∀ v12 : Int64, v12 = pi (x1).toNat → ((0 ≤ x1 ∧ x1 < 2) ∧ ∀ g13 : Nat → Int64, g13 = qUL pi (x1).toNat (v12 ||| (((1 : Int64) : Int64) <<< ((qI x2).toInt64 &&& 63))) → wp_X1_paint_63 Φ  x1 g13)))))) ∧ (¬ (x3 ≤ (1 : Int)) → wp_X1_paint_25 Φ  pi)))))))))))
theorem iX1_paint_X1 : ∀ w ∈ wsX10, w ∈ wsX1_paint := fun w h => List.mem_cons_of_mem _ (List.mem_append_right _ (h))
set_option maxHeartbeats 4000000 in
set_option maxRecDepth 100000 in
theorem c_X1_paint (l : Launch) (D : va_G) (E : Nat → ClassId) (s0 s1 s2 s3 s4 : Nat) (sz : Int) (ph : Nat → Int) (od : Nat → Int) (pi : Nat → Int64) (se : Nat → Int) (x1 : Int) (x2 : Int) (x3 : Int) {Φ : Int → (Nat → Int64) → Prop} (hw : wp_X1_paint x1 x2 x3 pi Φ) : qRW (σ := (Nat → Int64)) l D E qF0 yX1_paint wsX1_paint 1 21 [(s0, .inr (1, [.ref s1, .ref s2, .int (qI sz), .ref s3, .ref s4])), (s1, qA (E 0) 64 ph), (s2, qA (E 0) 12 od), (s3, qL (E 1) 2 pi), (s4, qA (E 0) 6 se)] [.ref s0, .int (qI x1), .int (qI x2), .int (qI x3)] qeI (fun u => [(s0, .inr (1, [.ref s1, .ref s2, .int (qI sz), .ref s3, .ref s4])), (s1, qA (E 0) 64 ph), (s2, qA (E 0) 12 od), (s3, qL (E 1) 2 u), (s4, qA (E 0) 6 se)]) (fun r u => Φ r u) := by
  refine qRW_int (nL := 4) (own := RX1) qF0_ok (by decide) rfl rfl (Nat.le_of_ble_eq_true rfl) (fun X C hend => ?_)
  have hB63 : ∀ x1 : Int, ∀ pi : Nat → Int64, wp_X1_paint_63 Φ  x1 pi → qZ X 0 0 [(s0, .inr (1, [.ref s1, .ref s2, .int (qI sz), .ref s3, .ref s4])), (s1, qA (E 0) 64 ph), (s2, qA (E 0) 12 od), (s3, qL (E 1) 2 pi), (s4, qA (E 0) 6 se)] 63 [(0, .ref s0), (1, .int (qI x1))] [] := by
    intro x1 pi hw
    unfold wp_X1_paint_63 at hw
    refine z_aload_n C 0 rfl rfl dX1_paint_63 ?_
    refine z_get C iX1_paint_X1 0 rfl rfl 3 (by decide) (List.mem_of_getElem? (i := 1) rfl) rfl rfl dX1_paint_64 ?_
    refine z_iload_n C 1 rfl rfl dX1_paint_67 ?_
    refine z_lald C 3 rfl (by decide) hw.1 dX1_paint_68 ?_
    replace hw := hw.2
    refine z_nameL (fun v1 ev1 => ?_)
    replace hw := hw v1 ev1
    refine z_callS (n := 1) C (c_J13_bitCount_95d88 l D E   v1 hw) qF0_ok (fun _ _ _ => trivial) gX1_paint_J13_bitCount_95d88 rfl (by decide +kernel) ⟨(Nat.le_of_ble_eq_true rfl), (Nat.le_of_ble_eq_true rfl)⟩ rfl [] rfl rfl (Nat.le_of_ble_eq_true rfl) dX1_paint_69 (fun r2 hw => ?_)
    show qZ X 0 0 [(s0, .inr (1, [.ref s1, .ref s2, .int (qI sz), .ref s3, .ref s4])), (s1, qA (E 0) 64 ph), (s2, qA (E 0) 12 od), (s3, qL (E 1) 2 pi), (s4, qA (E 0) 6 se)] _ _ [.int (qI r2)]
    exact hend 72 _ r2 pi dX1_paint_72 hw
  have hB25 : ∀ pi : Nat → Int64, wp_X1_paint_25 Φ  pi → qZ X 0 0 [(s0, .inr (1, [.ref s1, .ref s2, .int (qI sz), .ref s3, .ref s4])), (s1, qA (E 0) 64 ph), (s2, qA (E 0) 12 od), (s3, qL (E 1) 2 pi), (s4, qA (E 0) 6 se)] 25 [] [] := by
    intro pi hw
    unfold wp_X1_paint_25 at hw
    refine z_iconst C dX1_paint_25 ?_
    exact hend 26 _ (-1 : Int) pi dX1_paint_26 hw
  unfold wp_X1_paint at hw
  show qZ X 0 0 [(s0, .inr (1, [.ref s1, .ref s2, .int (qI sz), .ref s3, .ref s4])), (s1, qA (E 0) 64 ph), (s2, qA (E 0) 12 od), (s3, qL (E 1) 2 pi), (s4, qA (E 0) 6 se)] 0 [(0, .ref s0), (1, .int (qI x1)), (2, .int (qI x2)), (3, .int (qI x3))] []
  refine z_iload_n C 1 rfl rfl dX1_paint_0 ?_
  refine z_if_lt (tgt := 25) C hw.1 (by decide) dX1_paint_1 (fun c3 => ?_) (fun c3 => ?_)
  · replace hw := hw.2.1 c3
    refine z_lst (ps := []) (lv' := []) (st' := []) rfl rfl ?_
    exact hB25 pi hw
  · replace hw := hw.2.2 c3
    refine z_iload_n C 1 rfl rfl dX1_paint_4 ?_
    refine z_iconst C dX1_paint_5 ?_
    refine z_icmp_ge (tgt := 25) C hw.1 (by decide) dX1_paint_6 (fun c4 => ?_) (fun c4 => ?_)
    · replace hw := hw.2.1 c4
      refine z_lst (ps := []) (lv' := []) (st' := []) rfl rfl ?_
      exact hB25 pi hw
    · replace hw := hw.2.2 c4
      refine z_iload_n C 2 rfl rfl dX1_paint_9 ?_
      refine z_callSN (n := 1) C (c_X4_isSpot l D E   x2 hw) qF0_ok (fun _ _ _ => trivial) gX1_paint_X4_isSpot_n41 rfl (List.mem_of_getElem? (i := 3) rfl) (List.mem_of_getElem? (i := 4) rfl) (host := RX4) (by decide +kernel) (by decide +kernel) ⟨(Nat.le_of_ble_eq_true rfl), (Nat.le_of_ble_eq_true rfl)⟩ rfl [] rfl rfl (Nat.le_of_ble_eq_true rfl) dX1_paint_10 (fun r5 hw => ?_)
      show qZ X 0 0 [(s0, .inr (1, [.ref s1, .ref s2, .int (qI sz), .ref s3, .ref s4])), (s1, qA (E 0) 64 ph), (s2, qA (E 0) 12 od), (s3, qL (E 1) 2 pi), (s4, qA (E 0) 6 se)] _ _ [.int (qI r5)]
      refine z_if_eq (tgt := 25) C hw.1 (by decide) dX1_paint_13 (fun c6 => ?_) (fun c6 => ?_)
      · replace hw := hw.2.1 c6
        refine z_lst (ps := []) (lv' := []) (st' := []) rfl rfl ?_
        exact hB25 pi hw
      · replace hw := hw.2.2 c6
        refine z_iload_n C 3 rfl rfl dX1_paint_16 ?_
        refine z_if_lt (tgt := 25) C hw.1 (by decide) dX1_paint_17 (fun c7 => ?_) (fun c7 => ?_)
        · replace hw := hw.2.1 c7
          refine z_lst (ps := []) (lv' := []) (st' := []) rfl rfl ?_
          exact hB25 pi hw
        · replace hw := hw.2.2 c7
          refine z_iload_n C 3 rfl rfl dX1_paint_20 ?_
          refine z_iconst C dX1_paint_21 ?_
          refine z_icmp_le (tgt := 27) C hw.1 (by decide) dX1_paint_22 (fun c8 => ?_) (fun c8 => ?_)
          · replace hw := hw.2.1 c8
            refine z_iload_n C 3 rfl rfl dX1_paint_27 ?_
            refine z_iconst C dX1_paint_28 ?_
            refine z_icmp_ne (tgt := 47) C hw.1 (by decide) dX1_paint_29 (fun c9 => ?_) (fun c9 => ?_)
            · replace hw := hw.2.1 c9
              refine z_aload_n C 0 rfl rfl dX1_paint_47 ?_
              refine z_get C iX1_paint_X1 0 rfl rfl 3 (by decide) (List.mem_of_getElem? (i := 1) rfl) rfl rfl dX1_paint_48 ?_
              refine z_iload_n C 1 rfl rfl dX1_paint_51 ?_
              refine z_dup2 C rfl rfl dX1_paint_52 ?_
              refine z_lald C 3 rfl (by decide) hw.1 dX1_paint_53 ?_
              replace hw := hw.2
              refine z_nameL (fun v10 ev10 => ?_)
              replace hw := hw v10 ev10
              refine z_lconst (v := (1 : Int64)) C (by decide +kernel) dX1_paint_54 ?_
              refine z_iload_n C 2 rfl rfl dX1_paint_55 ?_
              refine z_lshl C dX1_paint_56 ?_
              refine z_ldc2 (v := (-1 : Int64)) C (List.mem_of_getElem? (i := 2) rfl) dX1_paint_57 ?_
              refine z_lxor C dX1_paint_60 ?_
              refine z_land C dX1_paint_61 ?_
              refine z_last C 3 rfl (by decide) hw.1 (fun g11 => [(s0, .inr (1, [.ref s1, .ref s2, .int (qI sz), .ref s3, .ref s4])), (s1, qA (E 0) 64 ph), (s2, qA (E 0) 12 od), (s3, qL (E 1) 2 g11), (s4, qA (E 0) 6 se)]) (fun _ => rfl) dX1_paint_62 (fun g11 eg11 => ?_)
              replace hw := hw.2 g11 eg11
              refine z_lst (ps := [0, 1]) (lv' := [(0, .ref s0), (1, .int (qI x1))]) (st' := []) rfl rfl ?_
              exact hB63 x1 g11 hw
            · replace hw := hw.2.2 c9
              refine z_aload_n C 0 rfl rfl dX1_paint_32 ?_
              refine z_get C iX1_paint_X1 0 rfl rfl 3 (by decide) (List.mem_of_getElem? (i := 1) rfl) rfl rfl dX1_paint_33 ?_
              refine z_iload_n C 1 rfl rfl dX1_paint_36 ?_
              refine z_dup2 C rfl rfl dX1_paint_37 ?_
              refine z_lald C 3 rfl (by decide) hw.1 dX1_paint_38 ?_
              replace hw := hw.2
              refine z_nameL (fun v12 ev12 => ?_)
              replace hw := hw v12 ev12
              refine z_lconst (v := (1 : Int64)) C (by decide +kernel) dX1_paint_39 ?_
              refine z_iload_n C 2 rfl rfl dX1_paint_40 ?_
              refine z_lshl C dX1_paint_41 ?_
              refine z_lor C dX1_paint_42 ?_
              refine z_last C 3 rfl (by decide) hw.1 (fun g13 => [(s0, .inr (1, [.ref s1, .ref s2, .int (qI sz), .ref s3, .ref s4])), (s1, qA (E 0) 64 ph), (s2, qA (E 0) 12 od), (s3, qL (E 1) 2 g13), (s4, qA (E 0) 6 se)]) (fun _ => rfl) dX1_paint_43 (fun g13 eg13 => ?_)
              replace hw := hw.2 g13 eg13
              refine z_goto (tgt := 63) C (by decide) dX1_paint_44 ?_
              refine z_lst (ps := [0, 1]) (lv' := [(0, .ref s0), (1, .int (qI x1))]) (st' := []) rfl rfl ?_
              exact hB63 x1 g13 hw
          · replace hw := hw.2.2 c8
            refine z_lst (ps := []) (lv' := []) (st' := []) rfl rfl ?_
            exact hB25 pi hw
def wp_X1_countSeen_155 (Φ : (Nat → Int) → Prop)  (wa : Nat → Int) : Prop := Φ wa
def wp_X1_countSeen_117 (Φ : (Nat → Int) → Prop) (K75 : Int → Int → Int → (Nat → Int) → Prop) (x1 : Int) (x3 : Int) (x4 : Int) (x5 : Int) (x6 : Int) (x7 : Int) (x8 : Int) (ph : Nat → Int) (se : Nat → Int) (wa : Nat → Int) : Prop := wp_X1_shine x1 x5 x7 ph se (fun (r1 : Int) => wp_X1_shine x1 x5 x8 ph se (fun (r2 : Int) => (∀ v3 : Int, v3 = (x6 + (r1 - r2)) → wp_X1_next x7 se (fun (r4 : Int) => (∀ v5 : Int, v5 = x8 + (1 : Int) → K75 v3 r4 v5 wa)))))
def wp_X1_countSeen_75 (Φ : (Nat → Int) → Prop)  (x1 : Int) (x3 : Int) (x4 : Int) (x5 : Int) (ph : Nat → Int) (se : Nat → Int) : Nat → Int → Int → Int → (Nat → Int) → Prop
  | 0, _, _, _, _ => False
  | n9 + 1, x6, x7, x8, wa => ((0 ≤ (0 : Int) ∧ (0 : Int) < 6) ∧ (∀ v6 : Int, v6 = se ((0 : Int)).toNat → ((qR x8 ∧ qR v6) ∧ (v6 ≤ x8 → wp_X1_countSeen_155 Φ  wa) ∧ (¬ (v6 ≤ x8) → ((qR x8 ∧ qR (200 : Int)) ∧ ((200 : Int) ≤ x8 → wp_X1_countSeen_155 Φ  wa) ∧ (¬ ((200 : Int) ≤ x8) → wp_X1_mean x6 x4 (fun (r9 : Int) => ((0 ≤ (5 : Int) ∧ (5 : Int) < 6) ∧ (∀ v10 : Int, v10 = se ((5 : Int)).toNat → ((qR r9 ∧ qR v10) ∧ (r9 < v10 → wp_X1_countSeen_117 Φ (wp_X1_countSeen_75 Φ  x1 x3 x4 x5 ph se n9) x1 x3 x4 x5 x6 x7 x8 ph se wa) ∧ (¬ (r9 < v10) → ((0 ≤ x8 ∧ x8 < 200) ∧ (∀ v12 : Int, v12 = wa (x8).toNat → ((0 ≤ x8 ∧ x8 < 200) ∧ ∀ g13 : Nat → Int, g13 = qU wa (x8).toNat (v12 + x3) → wp_X1_countSeen_117 Φ (wp_X1_countSeen_75 Φ  x1 x3 x4 x5 ph se n9) x1 x3 x4 x5 x6 x7 x8 ph se g13))))))))))))))
def wp_X1_countSeen_51 (Φ : (Nat → Int) → Prop)  (x1 : Int) (x3 : Int) (x4 : Int) (x5 : Int) (x6 : Int) (ph : Nat → Int) (se : Nat → Int) (wa : Nat → Int) : Nat → Int → Int → Prop
  | 0, _, _ => False
  | n9 + 1, x7, x8 => ((qR x8 ∧ qR x4) ∧ (x4 ≤ x8 → ∃ n : Nat, wp_X1_countSeen_75 Φ  x1 x3 x4 x5 ph se n x6 x7 (0 : Int) wa) ∧ (¬ (x4 ≤ x8) → wp_X1_next x7 se (fun (r15 : Int) => (∀ v16 : Int, v16 = x8 + (1 : Int) → wp_X1_countSeen_51 Φ  x1 x3 x4 x5 x6 ph se wa n9 r15 v16))))
def wp_X1_countSeen_19 (Φ : (Nat → Int) → Prop)  (x1 : Int) (k0 : Int) (sz : Int) (ph : Nat → Int) (od : Nat → Int) (se : Nat → Int) (wa : Nat → Int) : Prop := ((0 ≤ (4 : Int) ∧ (4 : Int) < 6) ∧ (∀ v17 : Int, v17 = se ((4 : Int)).toNat → wp_X1_litTick x1 sz od se (fun (r18 : Int) => wp_X1_sumOver x1 (0 : Int) v17 sz ph od se (fun (r19 : Int) => ∃ n : Nat, wp_X1_countSeen_51 Φ  x1 k0 v17 r18 r19 ph se wa n (0 : Int) (0 : Int)))))
def wp_X1_countSeen (x1 : Int) (sz : Int) (ph : Nat → Int) (od : Nat → Int) (pi : Nat → Int64) (se : Nat → Int) (wa : Nat → Int) (Φ : (Nat → Int) → Prop) : Prop := ((0 ≤ (1 : Int) ∧ (1 : Int) < 2) ∧ (∀ v20 : Int64, v20 = pi ((1 : Int)).toNat → wp_X4_bit v20 x1 (fun (r21 : Int) => ((qR r21 ∧ qR (1 : Int)) ∧ (¬ r21 = (1 : Int) → wp_X1_countSeen_19 Φ  x1 (1 : Int) sz ph od se wa) ∧ (¬ (¬ r21 = (1 : Int)) → wp_X1_countSeen_19 Φ  x1 (-1 : Int) sz ph od se wa)))))
theorem iX1_countSeen_X1 : ∀ w ∈ wsX10, w ∈ wsX1_countSeen := fun w h => List.mem_cons_of_mem _ (List.mem_append_right _ (h))
set_option maxHeartbeats 4000000 in
set_option maxRecDepth 100000 in
theorem c_X1_countSeen (l : Launch) (D : va_G) (E : Nat → ClassId) (s0 s1 s2 s3 s4 w0 : Nat) (sz : Int) (ph : Nat → Int) (od : Nat → Int) (pi : Nat → Int64) (se : Nat → Int) (wa : Nat → Int) (x1 : Int) {Φ : (Nat → Int) → Prop} (hw : wp_X1_countSeen x1 sz ph od pi se wa Φ) : qRW (σ := (Nat → Int)) l D E qF0 yX1_countSeen wsX1_countSeen 5 115 [(s0, .inr (1, [.ref s1, .ref s2, .int (qI sz), .ref s3, .ref s4])), (s1, qA (E 0) 64 ph), (s2, qA (E 0) 12 od), (s3, qL (E 1) 2 pi), (s4, qA (E 0) 6 se), (w0, qA (E 0) 200 wa)] [.ref s0, .int (qI x1), .ref w0] qeV (fun u => [(s0, .inr (1, [.ref s1, .ref s2, .int (qI sz), .ref s3, .ref s4])), (s1, qA (E 0) 64 ph), (s2, qA (E 0) 12 od), (s3, qL (E 1) 2 pi), (s4, qA (E 0) 6 se), (w0, qA (E 0) 200 u)]) (fun r u => Φ u) := by
  refine qRW_void (nL := 9) (own := RX1) qF0_ok (by decide) rfl rfl (Nat.le_of_ble_eq_true rfl) (fun X C hend => ?_)
  have hB155 : ∀ wa : Nat → Int, wp_X1_countSeen_155 Φ  wa → qZ X 0 0 [(s0, .inr (1, [.ref s1, .ref s2, .int (qI sz), .ref s3, .ref s4])), (s1, qA (E 0) 64 ph), (s2, qA (E 0) 12 od), (s3, qL (E 1) 2 pi), (s4, qA (E 0) 6 se), (w0, qA (E 0) 200 wa)] 155 [] [] := by
    intro wa hw
    unfold wp_X1_countSeen_155 at hw
    exact hend 155 _ () wa dX1_countSeen_155 hw
  have hB117 : ∀ x1 : Int, ∀ x3 : Int, ∀ x4 : Int, ∀ x5 : Int, ∀ K75 : Int → Int → Int → (Nat → Int) → Prop, (∀ (x6 : Int) (x7 : Int) (x8 : Int) (wa : Nat → Int), K75 x6 x7 x8 wa → qZ X 0 0 [(s0, .inr (1, [.ref s1, .ref s2, .int (qI sz), .ref s3, .ref s4])), (s1, qA (E 0) 64 ph), (s2, qA (E 0) 12 od), (s3, qL (E 1) 2 pi), (s4, qA (E 0) 6 se), (w0, qA (E 0) 200 wa)] 75 [(0, .ref s0), (1, .int (qI x1)), (2, .ref w0), (3, .int (qI x3)), (4, .int (qI x4)), (5, .int (qI x5)), (6, .int (qI x6)), (7, .int (qI x7)), (8, .int (qI x8))] []) → ∀ x6 : Int, ∀ x7 : Int, ∀ x8 : Int, ∀ wa : Nat → Int, wp_X1_countSeen_117 Φ K75 x1 x3 x4 x5 x6 x7 x8 ph se wa → qZ X 0 0 [(s0, .inr (1, [.ref s1, .ref s2, .int (qI sz), .ref s3, .ref s4])), (s1, qA (E 0) 64 ph), (s2, qA (E 0) 12 od), (s3, qL (E 1) 2 pi), (s4, qA (E 0) 6 se), (w0, qA (E 0) 200 wa)] 117 [(0, .ref s0), (1, .int (qI x1)), (2, .ref w0), (3, .int (qI x3)), (4, .int (qI x4)), (5, .int (qI x5)), (6, .int (qI x6)), (7, .int (qI x7)), (8, .int (qI x8))] [] := by
    intro x1 x3 x4 x5 K75 hK75 x6 x7 x8 wa hw
    unfold wp_X1_countSeen_117 at hw
    refine z_iload C 6 rfl dX1_countSeen_117 ?_
    refine z_aload_n C 0 rfl rfl dX1_countSeen_119 ?_
    refine z_iload_n C 1 rfl rfl dX1_countSeen_120 ?_
    refine z_iload C 5 rfl dX1_countSeen_121 ?_
    refine z_iload C 7 rfl dX1_countSeen_123 ?_
    refine z_callV (n := 3) C (c_X1_shine l D E s0 s1 s2 s3 s4 sz ph od pi se x1 x5 x7 hw) qF0_ok (fun _ _ _ => trivial) gX1_countSeen_X1_shine rfl (by decide +kernel) ⟨(Nat.le_of_ble_eq_true rfl), (Nat.le_of_ble_eq_true rfl)⟩ rfl 0 rfl rfl [0, 1, 2, 3, 4] rfl rfl (Nat.le_of_ble_eq_true rfl) dX1_countSeen_125 (fun r1 hw => ?_)
    show qZ X 0 0 [(s0, .inr (1, [.ref s1, .ref s2, .int (qI sz), .ref s3, .ref s4])), (s1, qA (E 0) 64 ph), (s2, qA (E 0) 12 od), (s3, qL (E 1) 2 pi), (s4, qA (E 0) 6 se), (w0, qA (E 0) 200 wa)] _ _ [.int (qI r1), .int (qI x6)]
    refine z_aload_n C 0 rfl rfl dX1_countSeen_128 ?_
    refine z_iload_n C 1 rfl rfl dX1_countSeen_129 ?_
    refine z_iload C 5 rfl dX1_countSeen_130 ?_
    refine z_iload C 8 rfl dX1_countSeen_132 ?_
    refine z_callV (n := 3) C (c_X1_shine l D E s0 s1 s2 s3 s4 sz ph od pi se x1 x5 x8 hw) qF0_ok (fun _ _ _ => trivial) gX1_countSeen_X1_shine rfl (by decide +kernel) ⟨(Nat.le_of_ble_eq_true rfl), (Nat.le_of_ble_eq_true rfl)⟩ rfl 0 rfl rfl [0, 1, 2, 3, 4] rfl rfl (Nat.le_of_ble_eq_true rfl) dX1_countSeen_134 (fun r2 hw => ?_)
    show qZ X 0 0 [(s0, .inr (1, [.ref s1, .ref s2, .int (qI sz), .ref s3, .ref s4])), (s1, qA (E 0) 64 ph), (s2, qA (E 0) 12 od), (s3, qL (E 1) 2 pi), (s4, qA (E 0) 6 se), (w0, qA (E 0) 200 wa)] _ _ [.int (qI r2), .int (qI r1), .int (qI x6)]
    refine z_isub C dX1_countSeen_137 ?_
    refine z_iadd C dX1_countSeen_138 ?_
    refine z_name (fun v3 ev3 => ?_)
    replace hw := hw v3 ev3
    refine z_istore C (by decide) rfl dX1_countSeen_139 ?_
    refine z_aload_n C 1 rfl rfl dX1_countSeen_141 ?_
    refine z_iload C 7 rfl dX1_countSeen_142 ?_
    refine z_callV (n := 1) C (c_X1_next l D E s0 s1 s2 s3 s4 sz ph od pi se x7 hw) qF0_ok (fun _ _ _ => trivial) gX1_countSeen_X1_next rfl (by decide +kernel) ⟨(Nat.le_of_ble_eq_true rfl), (Nat.le_of_ble_eq_true rfl)⟩ rfl 0 rfl rfl [0, 1, 2, 3, 4] rfl rfl (Nat.le_of_ble_eq_true rfl) dX1_countSeen_144 (fun r4 hw => ?_)
    show qZ X 0 0 [(s0, .inr (1, [.ref s1, .ref s2, .int (qI sz), .ref s3, .ref s4])), (s1, qA (E 0) 64 ph), (s2, qA (E 0) 12 od), (s3, qL (E 1) 2 pi), (s4, qA (E 0) 6 se), (w0, qA (E 0) 200 wa)] _ _ [.int (qI r4)]
    refine z_istore C (by decide) rfl dX1_countSeen_147 ?_
    obtain ⟨v5, ev5⟩ : ∃ v5 : Int, v5 = x8 + (1 : Int) := ⟨_, rfl⟩
    replace hw := hw v5 ev5
    refine z_iinc C 8 rfl (by decide) v5 ev5 rfl dX1_countSeen_149 ?_
    refine z_goto (tgt := 75) C (by decide) dX1_countSeen_152 ?_
    refine z_lst (ps := [3, 4, 5, 6, 7, 8, 2, 1, 0]) (lv' := [(0, .ref s0), (1, .int (qI x1)), (2, .ref w0), (3, .int (qI x3)), (4, .int (qI x4)), (5, .int (qI x5)), (6, .int (qI v3)), (7, .int (qI r4)), (8, .int (qI v5))]) (st' := []) rfl rfl ?_
    exact hK75 v3 r4 v5 wa hw
  have hB75 : ∀ x1 : Int, ∀ x3 : Int, ∀ x4 : Int, ∀ x5 : Int, ∀ n8 : Nat, ∀ x6 : Int, ∀ x7 : Int, ∀ x8 : Int, ∀ wa : Nat → Int, wp_X1_countSeen_75 Φ  x1 x3 x4 x5 ph se n8 x6 x7 x8 wa → qZ X 0 0 [(s0, .inr (1, [.ref s1, .ref s2, .int (qI sz), .ref s3, .ref s4])), (s1, qA (E 0) 64 ph), (s2, qA (E 0) 12 od), (s3, qL (E 1) 2 pi), (s4, qA (E 0) 6 se), (w0, qA (E 0) 200 wa)] 75 [(0, .ref s0), (1, .int (qI x1)), (2, .ref w0), (3, .int (qI x3)), (4, .int (qI x4)), (5, .int (qI x5)), (6, .int (qI x6)), (7, .int (qI x7)), (8, .int (qI x8))] [] := by
    intro x1 x3 x4 x5 n8
    induction n8 with
    | zero =>
      intro x6 x7 x8 wa hw
      exact hw.elim
    | succ n9 ih =>
      intro x6 x7 x8 wa hw
      unfold wp_X1_countSeen_75 at hw
      refine z_iload C 8 rfl dX1_countSeen_75 ?_
      refine z_aload_n C 0 rfl rfl dX1_countSeen_77 ?_
      refine z_get C iX1_countSeen_X1 0 rfl rfl 4 (by decide) (List.mem_of_getElem? (i := 2) rfl) rfl rfl dX1_countSeen_78 ?_
      refine z_iconst C dX1_countSeen_81 ?_
      refine z_iald C 4 rfl (by decide) hw.1 dX1_countSeen_82 ?_
      replace hw := hw.2
      refine z_name (fun v6 ev6 => ?_)
      replace hw := hw v6 ev6
      refine z_icmp_ge (tgt := 155) C hw.1 (by decide) dX1_countSeen_83 (fun c7 => ?_) (fun c7 => ?_)
      · replace hw := hw.2.1 c7
        refine z_lst (ps := []) (lv' := []) (st' := []) rfl rfl ?_
        exact hB155 wa hw
      · replace hw := hw.2.2 c7
        refine z_iload C 8 rfl dX1_countSeen_86 ?_
        refine z_aload_n C 2 rfl rfl dX1_countSeen_88 ?_
        refine z_alen (t0 := 0) (v := (200 : Int)) C 5 rfl rfl rfl dX1_countSeen_89 ?_
        refine z_icmp_ge (tgt := 155) C hw.1 (by decide) dX1_countSeen_90 (fun c8 => ?_) (fun c8 => ?_)
        · replace hw := hw.2.1 c8
          refine z_lst (ps := []) (lv' := []) (st' := []) rfl rfl ?_
          exact hB155 wa hw
        · replace hw := hw.2.2 c8
          refine z_iload C 6 rfl dX1_countSeen_93 ?_
          refine z_iload C 4 rfl dX1_countSeen_95 ?_
          refine z_callS (n := 2) C (c_X1_mean l D E   x6 x4 hw) qF0_ok (fun _ _ _ => trivial) gX1_countSeen_X1_mean rfl (by decide +kernel) ⟨(Nat.le_of_ble_eq_true rfl), (Nat.le_of_ble_eq_true rfl)⟩ rfl [] rfl rfl (Nat.le_of_ble_eq_true rfl) dX1_countSeen_97 (fun r9 hw => ?_)
          show qZ X 0 0 [(s0, .inr (1, [.ref s1, .ref s2, .int (qI sz), .ref s3, .ref s4])), (s1, qA (E 0) 64 ph), (s2, qA (E 0) 12 od), (s3, qL (E 1) 2 pi), (s4, qA (E 0) 6 se), (w0, qA (E 0) 200 wa)] _ _ [.int (qI r9)]
          refine z_aload_n C 0 rfl rfl dX1_countSeen_100 ?_
          refine z_get C iX1_countSeen_X1 0 rfl rfl 4 (by decide) (List.mem_of_getElem? (i := 2) rfl) rfl rfl dX1_countSeen_101 ?_
          refine z_iconst C dX1_countSeen_104 ?_
          refine z_iald C 4 rfl (by decide) hw.1 dX1_countSeen_105 ?_
          replace hw := hw.2
          refine z_name (fun v10 ev10 => ?_)
          replace hw := hw v10 ev10
          refine z_icmp_lt (tgt := 117) C hw.1 (by decide) dX1_countSeen_106 (fun c11 => ?_) (fun c11 => ?_)
          · replace hw := hw.2.1 c11
            refine z_lst (ps := [0, 1, 2, 3, 4, 5, 6, 7, 8]) (lv' := [(0, .ref s0), (1, .int (qI x1)), (2, .ref w0), (3, .int (qI x3)), (4, .int (qI x4)), (5, .int (qI x5)), (6, .int (qI x6)), (7, .int (qI x7)), (8, .int (qI x8))]) (st' := []) rfl rfl ?_
            exact hB117 x1 x3 x4 x5 _ ih x6 x7 x8 wa hw
          · replace hw := hw.2.2 c11
            refine z_aload_n C 2 rfl rfl dX1_countSeen_109 ?_
            refine z_iload C 8 rfl dX1_countSeen_110 ?_
            refine z_dup2 C rfl rfl dX1_countSeen_112 ?_
            refine z_iald C 5 rfl (by decide) hw.1 dX1_countSeen_113 ?_
            replace hw := hw.2
            refine z_name (fun v12 ev12 => ?_)
            replace hw := hw v12 ev12
            refine z_iload_n C 3 rfl rfl dX1_countSeen_114 ?_
            refine z_iadd C dX1_countSeen_115 ?_
            refine z_iast C 5 rfl (by decide) hw.1 (fun g13 => [(s0, .inr (1, [.ref s1, .ref s2, .int (qI sz), .ref s3, .ref s4])), (s1, qA (E 0) 64 ph), (s2, qA (E 0) 12 od), (s3, qL (E 1) 2 pi), (s4, qA (E 0) 6 se), (w0, qA (E 0) 200 g13)]) (fun _ => rfl) dX1_countSeen_116 (fun g13 eg13 => ?_)
            replace hw := hw.2 g13 eg13
            refine z_lst (ps := [0, 1, 2, 3, 4, 5, 6, 7, 8]) (lv' := [(0, .ref s0), (1, .int (qI x1)), (2, .ref w0), (3, .int (qI x3)), (4, .int (qI x4)), (5, .int (qI x5)), (6, .int (qI x6)), (7, .int (qI x7)), (8, .int (qI x8))]) (st' := []) rfl rfl ?_
            exact hB117 x1 x3 x4 x5 _ ih x6 x7 x8 g13 hw
  have hB51 : ∀ x1 : Int, ∀ x3 : Int, ∀ x4 : Int, ∀ x5 : Int, ∀ x6 : Int, ∀ wa : Nat → Int, ∀ n8 : Nat, ∀ x7 : Int, ∀ x8 : Int, wp_X1_countSeen_51 Φ  x1 x3 x4 x5 x6 ph se wa n8 x7 x8 → qZ X 0 0 [(s0, .inr (1, [.ref s1, .ref s2, .int (qI sz), .ref s3, .ref s4])), (s1, qA (E 0) 64 ph), (s2, qA (E 0) 12 od), (s3, qL (E 1) 2 pi), (s4, qA (E 0) 6 se), (w0, qA (E 0) 200 wa)] 51 [(0, .ref s0), (1, .int (qI x1)), (2, .ref w0), (3, .int (qI x3)), (4, .int (qI x4)), (5, .int (qI x5)), (6, .int (qI x6)), (7, .int (qI x7)), (8, .int (qI x8))] [] := by
    intro x1 x3 x4 x5 x6 wa n8
    induction n8 with
    | zero =>
      intro x7 x8 hw
      exact hw.elim
    | succ n9 ih =>
      intro x7 x8 hw
      unfold wp_X1_countSeen_51 at hw
      refine z_iload C 8 rfl dX1_countSeen_51 ?_
      refine z_iload C 4 rfl dX1_countSeen_53 ?_
      refine z_icmp_ge (tgt := 72) C hw.1 (by decide) dX1_countSeen_55 (fun c14 => ?_) (fun c14 => ?_)
      · replace hw := hw.2.1 c14
        refine z_iconst C dX1_countSeen_72 ?_
        refine z_istore C (by decide) rfl dX1_countSeen_73 ?_
        refine z_lst (ps := [1, 2, 3, 4, 5, 6, 7, 8, 0]) (lv' := [(0, .ref s0), (1, .int (qI x1)), (2, .ref w0), (3, .int (qI x3)), (4, .int (qI x4)), (5, .int (qI x5)), (6, .int (qI x6)), (7, .int (qI x7)), (8, .int (qI (0 : Int)))]) (st' := []) rfl rfl ?_
        obtain ⟨n8, hw⟩ := hw
        exact hB75 x1 x3 x4 x5 n8 x6 x7 (0 : Int) wa hw
      · replace hw := hw.2.2 c14
        refine z_aload_n C 0 rfl rfl dX1_countSeen_58 ?_
        refine z_iload C 7 rfl dX1_countSeen_59 ?_
        refine z_callV (n := 1) C (c_X1_next l D E s0 s1 s2 s3 s4 sz ph od pi se x7 hw) qF0_ok (fun _ _ _ => trivial) gX1_countSeen_X1_next rfl (by decide +kernel) ⟨(Nat.le_of_ble_eq_true rfl), (Nat.le_of_ble_eq_true rfl)⟩ rfl 0 rfl rfl [0, 1, 2, 3, 4] rfl rfl (Nat.le_of_ble_eq_true rfl) dX1_countSeen_61 (fun r15 hw => ?_)
        show qZ X 0 0 [(s0, .inr (1, [.ref s1, .ref s2, .int (qI sz), .ref s3, .ref s4])), (s1, qA (E 0) 64 ph), (s2, qA (E 0) 12 od), (s3, qL (E 1) 2 pi), (s4, qA (E 0) 6 se), (w0, qA (E 0) 200 wa)] _ _ [.int (qI r15)]
        refine z_istore C (by decide) rfl dX1_countSeen_64 ?_
        obtain ⟨v16, ev16⟩ : ∃ v16 : Int, v16 = x8 + (1 : Int) := ⟨_, rfl⟩
        replace hw := hw v16 ev16
        refine z_iinc C 8 rfl (by decide) v16 ev16 rfl dX1_countSeen_66 ?_
        refine z_goto (tgt := 51) C (by decide) dX1_countSeen_69 ?_
        refine z_lst (ps := [2, 3, 4, 5, 6, 7, 8, 1, 0]) (lv' := [(0, .ref s0), (1, .int (qI x1)), (2, .ref w0), (3, .int (qI x3)), (4, .int (qI x4)), (5, .int (qI x5)), (6, .int (qI x6)), (7, .int (qI r15)), (8, .int (qI v16))]) (st' := []) rfl rfl ?_
        exact ih r15 v16 hw
  have hB19 : ∀ x1 : Int, ∀ k0 : Int, ∀ wa : Nat → Int, wp_X1_countSeen_19 Φ  x1 k0 sz ph od se wa → qZ X 0 0 [(s0, .inr (1, [.ref s1, .ref s2, .int (qI sz), .ref s3, .ref s4])), (s1, qA (E 0) 64 ph), (s2, qA (E 0) 12 od), (s3, qL (E 1) 2 pi), (s4, qA (E 0) 6 se), (w0, qA (E 0) 200 wa)] 19 [(0, .ref s0), (1, .int (qI x1)), (2, .ref w0)] [.int (qI k0)] := by
    intro x1 k0 wa hw
    unfold wp_X1_countSeen_19 at hw
    refine z_istore_n C rfl (by decide) rfl dX1_countSeen_19 ?_
    refine z_aload_n C 1 rfl rfl dX1_countSeen_20 ?_
    refine z_get C iX1_countSeen_X1 0 rfl rfl 4 (by decide) (List.mem_of_getElem? (i := 2) rfl) rfl rfl dX1_countSeen_21 ?_
    refine z_iconst C dX1_countSeen_24 ?_
    refine z_iald C 4 rfl (by decide) hw.1 dX1_countSeen_25 ?_
    replace hw := hw.2
    refine z_name (fun v17 ev17 => ?_)
    replace hw := hw v17 ev17
    refine z_istore C (by decide) rfl dX1_countSeen_26 ?_
    refine z_aload_n C 2 rfl rfl dX1_countSeen_28 ?_
    refine z_iload_n C 3 rfl rfl dX1_countSeen_29 ?_
    refine z_callV (n := 1) C (c_X1_litTick l D E s0 s1 s2 s3 s4 sz ph od pi se x1 hw) qF0_ok (fun _ _ _ => trivial) gX1_countSeen_X1_litTick rfl (by decide +kernel) ⟨(Nat.le_of_ble_eq_true rfl), (Nat.le_of_ble_eq_true rfl)⟩ rfl 0 rfl rfl [0, 1, 2, 3, 4] rfl rfl (Nat.le_of_ble_eq_true rfl) dX1_countSeen_30 (fun r18 hw => ?_)
    show qZ X 0 0 [(s0, .inr (1, [.ref s1, .ref s2, .int (qI sz), .ref s3, .ref s4])), (s1, qA (E 0) 64 ph), (s2, qA (E 0) 12 od), (s3, qL (E 1) 2 pi), (s4, qA (E 0) 6 se), (w0, qA (E 0) 200 wa)] _ _ [.int (qI r18)]
    refine z_istore C (by decide) rfl dX1_countSeen_33 ?_
    refine z_aload_n C 3 rfl rfl dX1_countSeen_35 ?_
    refine z_iload_n C 4 rfl rfl dX1_countSeen_36 ?_
    refine z_iconst C dX1_countSeen_37 ?_
    refine z_iload C 1 rfl dX1_countSeen_38 ?_
    refine z_callV (n := 3) C (c_X1_sumOver l D E s0 s1 s2 s3 s4 sz ph od pi se x1 (0 : Int) v17 hw) qF0_ok (fun _ _ _ => trivial) gX1_countSeen_X1_sumOver rfl (by decide +kernel) ⟨(Nat.le_of_ble_eq_true rfl), (Nat.le_of_ble_eq_true rfl)⟩ rfl 0 rfl rfl [0, 1, 2, 3, 4] rfl rfl (Nat.le_of_ble_eq_true rfl) dX1_countSeen_40 (fun r19 hw => ?_)
    show qZ X 0 0 [(s0, .inr (1, [.ref s1, .ref s2, .int (qI sz), .ref s3, .ref s4])), (s1, qA (E 0) 64 ph), (s2, qA (E 0) 12 od), (s3, qL (E 1) 2 pi), (s4, qA (E 0) 6 se), (w0, qA (E 0) 200 wa)] _ _ [.int (qI r19)]
    refine z_istore C (by decide) rfl dX1_countSeen_43 ?_
    refine z_iconst C dX1_countSeen_45 ?_
    refine z_istore C (by decide) rfl dX1_countSeen_46 ?_
    refine z_iconst C dX1_countSeen_48 ?_
    refine z_istore C (by decide) rfl dX1_countSeen_49 ?_
    refine z_lst (ps := [6, 7, 8, 5, 4, 3, 2, 1, 0]) (lv' := [(0, .ref s0), (1, .int (qI x1)), (2, .ref w0), (3, .int (qI k0)), (4, .int (qI v17)), (5, .int (qI r18)), (6, .int (qI r19)), (7, .int (qI (0 : Int))), (8, .int (qI (0 : Int)))]) (st' := []) rfl rfl ?_
    obtain ⟨n8, hw⟩ := hw
    exact hB51 x1 k0 v17 r18 r19 wa n8 (0 : Int) (0 : Int) hw
  unfold wp_X1_countSeen at hw
  show qZ X 0 0 [(s0, .inr (1, [.ref s1, .ref s2, .int (qI sz), .ref s3, .ref s4])), (s1, qA (E 0) 64 ph), (s2, qA (E 0) 12 od), (s3, qL (E 1) 2 pi), (s4, qA (E 0) 6 se), (w0, qA (E 0) 200 wa)] 0 [(0, .ref s0), (1, .int (qI x1)), (2, .ref w0)] []
  refine z_aload_n C 0 rfl rfl dX1_countSeen_0 ?_
  refine z_get C iX1_countSeen_X1 0 rfl rfl 3 (by decide) (List.mem_of_getElem? (i := 1) rfl) rfl rfl dX1_countSeen_1 ?_
  refine z_iconst C dX1_countSeen_4 ?_
  refine z_lald C 3 rfl (by decide) hw.1 dX1_countSeen_5 ?_
  replace hw := hw.2
  refine z_nameL (fun v20 ev20 => ?_)
  replace hw := hw v20 ev20
  refine z_iload_n C 1 rfl rfl dX1_countSeen_6 ?_
  refine z_callSN (n := 2) C (c_X4_bit l D E   v20 x1 hw) qF0_ok (fun _ _ _ => trivial) gX1_countSeen_X4_bit_n64 rfl (List.mem_of_getElem? (i := 3) rfl) (List.mem_of_getElem? (i := 4) rfl) (host := RX4) (by decide +kernel) (by decide +kernel) ⟨(Nat.le_of_ble_eq_true rfl), (Nat.le_of_ble_eq_true rfl)⟩ rfl [] rfl rfl (Nat.le_of_ble_eq_true rfl) dX1_countSeen_7 (fun r21 hw => ?_)
  show qZ X 0 0 [(s0, .inr (1, [.ref s1, .ref s2, .int (qI sz), .ref s3, .ref s4])), (s1, qA (E 0) 64 ph), (s2, qA (E 0) 12 od), (s3, qL (E 1) 2 pi), (s4, qA (E 0) 6 se), (w0, qA (E 0) 200 wa)] _ _ [.int (qI r21)]
  refine z_iconst C dX1_countSeen_10 ?_
  refine z_icmp_ne (tgt := 18) C hw.1 (by decide) dX1_countSeen_11 (fun c22 => ?_) (fun c22 => ?_)
  · replace hw := hw.2.1 c22
    refine z_iconst C dX1_countSeen_18 ?_
    refine z_lst (ps := [0, 1, 2]) (lv' := [(0, .ref s0), (1, .int (qI x1)), (2, .ref w0)]) (st' := [.int (qI (1 : Int))]) rfl rfl ?_
    exact hB19 x1 (1 : Int) wa hw
  · replace hw := hw.2.2 c22
    refine z_iconst C dX1_countSeen_14 ?_
    refine z_goto (tgt := 19) C (by decide) dX1_countSeen_15 ?_
    refine z_lst (ps := [0, 1, 2]) (lv' := [(0, .ref s0), (1, .int (qI x1)), (2, .ref w0)]) (st' := [.int (qI (-1 : Int))]) rfl rfl ?_
    exact hB19 x1 (-1 : Int) wa hw
def wp_J7_fill_53178_5 (Φ : (Nat → Int) → Prop)  (x1 : Int) (x3 : Int) : Nat → Int → (Nat → Int) → Prop
  | 0, _, _ => False
  | n9 + 1, x2, wa => ((qR x2 ∧ qR x3) ∧ (x3 ≤ x2 → Φ wa) ∧ (¬ (x3 ≤ x2) → ((0 ≤ x2 ∧ x2 < 200) ∧ ∀ g2 : Nat → Int, g2 = qU wa (x2).toNat x1 → (∀ v3 : Int, v3 = x2 + (1 : Int) → wp_J7_fill_53178_5 Φ  x1 x3 n9 v3 g2))))
def wp_J7_fill_53178 (x1 : Int) (wa : Nat → Int) (Φ : (Nat → Int) → Prop) : Prop := ∃ n : Nat, wp_J7_fill_53178_5 Φ  x1 (200 : Int) n (0 : Int) wa
set_option maxHeartbeats 4000000 in
set_option maxRecDepth 100000 in
theorem c_J7_fill_53178 (l : Launch) (D : va_G) (E : Nat → ClassId) (w0 : Nat) (wa : Nat → Int) (x1 : Int) {Φ : (Nat → Int) → Prop} (hw : wp_J7_fill_53178 x1 wa Φ) : qRW (σ := (Nat → Int)) l D E qF0 yJ7_fill_53178 wsJ7_fill_53178 0 0 [(w0, qA (E 0) 200 wa)] [.ref w0, .int (qI x1)] qeV (fun u => [(w0, qA (E 0) 200 u)]) (fun r u => Φ u) := by
  refine qRW_void (nL := 4) (own := RJ7) qF0_ok (by decide) rfl rfl (Nat.le_of_ble_eq_true rfl) (fun X C hend => ?_)
  have hB5 : ∀ x1 : Int, ∀ x3 : Int, ∀ n8 : Nat, ∀ x2 : Int, ∀ wa : Nat → Int, wp_J7_fill_53178_5 Φ  x1 x3 n8 x2 wa → qZ X 0 0 [(w0, qA (E 0) 200 wa)] 5 [(0, .ref w0), (1, .int (qI x1)), (2, .int (qI x2)), (3, .int (qI x3))] [] := by
    intro x1 x3 n8
    induction n8 with
    | zero =>
      intro x2 wa hw
      exact hw.elim
    | succ n9 ih =>
      intro x2 wa hw
      unfold wp_J7_fill_53178_5 at hw
      refine z_iload_n C 2 rfl rfl dJ7_fill_53178_5 ?_
      refine z_iload_n C 3 rfl rfl dJ7_fill_53178_6 ?_
      refine z_icmp_ge (tgt := 20) C hw.1 (by decide) dJ7_fill_53178_7 (fun c1 => ?_) (fun c1 => ?_)
      · replace hw := hw.2.1 c1
        exact hend 20 _ () wa dJ7_fill_53178_20 hw
      · replace hw := hw.2.2 c1
        refine z_aload_n C 0 rfl rfl dJ7_fill_53178_10 ?_
        refine z_iload_n C 2 rfl rfl dJ7_fill_53178_11 ?_
        refine z_iload_n C 1 rfl rfl dJ7_fill_53178_12 ?_
        refine z_iast C 0 rfl (by decide) hw.1 (fun g2 => [(w0, qA (E 0) 200 g2)]) (fun _ => rfl) dJ7_fill_53178_13 (fun g2 eg2 => ?_)
        replace hw := hw.2 g2 eg2
        obtain ⟨v3, ev3⟩ : ∃ v3 : Int, v3 = x2 + (1 : Int) := ⟨_, rfl⟩
        replace hw := hw v3 ev3
        refine z_iinc C 2 rfl (by decide) v3 ev3 rfl dJ7_fill_53178_14 ?_
        refine z_goto (tgt := 5) C (by decide) dJ7_fill_53178_17 ?_
        refine z_lst (ps := [1, 2, 0, 3]) (lv' := [(0, .ref w0), (1, .int (qI x1)), (2, .int (qI v3)), (3, .int (qI x3))]) (st' := []) rfl rfl ?_
        exact ih v3 g2 hw
  unfold wp_J7_fill_53178 at hw
  show qZ X 0 0 [(w0, qA (E 0) 200 wa)] 0 [(0, .ref w0), (1, .int (qI x1))] []
  refine z_iconst C dJ7_fill_53178_0 ?_
  refine z_istore_n C rfl (by decide) rfl dJ7_fill_53178_1 ?_
  refine z_aload_n C 1 rfl rfl dJ7_fill_53178_2 ?_
  refine z_alen (t0 := 0) (v := (200 : Int)) C 0 rfl rfl rfl dJ7_fill_53178_3 ?_
  refine z_istore_n C rfl (by decide) rfl dJ7_fill_53178_4 ?_
  refine z_lst (ps := [2, 3, 1, 0]) (lv' := [(0, .ref w0), (1, .int (qI x1)), (2, .int (qI (0 : Int))), (3, .int (qI (200 : Int)))]) (st' := []) rfl rfl ?_
  obtain ⟨n8, hw⟩ := hw
  exact hB5 x1 (200 : Int) n8 (0 : Int) wa hw
def wp_X1_countWrong_15 (Φ : (Nat → Int) → Prop)  (sz : Int) (ph : Nat → Int) (od : Nat → Int) (pi : Nat → Int64) (se : Nat → Int) : Nat → Int → (Nat → Int) → Prop
  | 0, _, _ => False
  | n9 + 1, x2, wa => ((qR x2 ∧ qR sz) ∧ (sz ≤ x2 → Φ wa) ∧ (¬ (sz ≤ x2) → ((0 ≤ x2 ∧ x2 < 12) ∧ (∀ v2 : Int, v2 = od (x2).toNat → wp_X1_countSeen v2 sz ph od pi se wa (fun (g4 : Nat → Int) => (∀ v5 : Int, v5 = x2 + (1 : Int) → wp_X1_countWrong_15 Φ  sz ph od pi se n9 v5 g4))))))
def wp_X1_countWrong  (sz : Int) (ph : Nat → Int) (od : Nat → Int) (pi : Nat → Int64) (se : Nat → Int) (wa : Nat → Int) (Φ : (Nat → Int) → Prop) : Prop := ((0 ≤ (1 : Int) ∧ (1 : Int) < 2) ∧ (∀ v6 : Int64, v6 = pi ((1 : Int)).toNat → wp_J13_bitCount_95d88 v6 (fun (r7 : Int) => wp_J7_fill_53178 r7 wa (fun (g9 : Nat → Int) => ∃ n : Nat, wp_X1_countWrong_15 Φ  sz ph od pi se n (0 : Int) g9))))
theorem iX1_countWrong_X1 : ∀ w ∈ wsX10, w ∈ wsX1_countWrong := fun w h => List.mem_cons_of_mem _ (List.mem_append_right _ (h))
set_option maxHeartbeats 4000000 in
set_option maxRecDepth 100000 in
theorem c_X1_countWrong (l : Launch) (D : va_G) (E : Nat → ClassId) (s0 s1 s2 s3 s4 w0 : Nat) (sz : Int) (ph : Nat → Int) (od : Nat → Int) (pi : Nat → Int64) (se : Nat → Int) (wa : Nat → Int)  {Φ : (Nat → Int) → Prop} (hw : wp_X1_countWrong  sz ph od pi se wa Φ) : qRW (σ := (Nat → Int)) l D E qF0 yX1_countWrong wsX1_countWrong 6 143 [(s0, .inr (1, [.ref s1, .ref s2, .int (qI sz), .ref s3, .ref s4])), (s1, qA (E 0) 64 ph), (s2, qA (E 0) 12 od), (s3, qL (E 1) 2 pi), (s4, qA (E 0) 6 se), (w0, qA (E 0) 200 wa)] [.ref s0, .ref w0] qeV (fun u => [(s0, .inr (1, [.ref s1, .ref s2, .int (qI sz), .ref s3, .ref s4])), (s1, qA (E 0) 64 ph), (s2, qA (E 0) 12 od), (s3, qL (E 1) 2 pi), (s4, qA (E 0) 6 se), (w0, qA (E 0) 200 u)]) (fun r u => Φ u) := by
  refine qRW_void (nL := 3) (own := RX1) qF0_ok (by decide) rfl rfl (Nat.le_of_ble_eq_true rfl) (fun X C hend => ?_)
  have hB15 : ∀ n8 : Nat, ∀ x2 : Int, ∀ wa : Nat → Int, wp_X1_countWrong_15 Φ  sz ph od pi se n8 x2 wa → qZ X 0 0 [(s0, .inr (1, [.ref s1, .ref s2, .int (qI sz), .ref s3, .ref s4])), (s1, qA (E 0) 64 ph), (s2, qA (E 0) 12 od), (s3, qL (E 1) 2 pi), (s4, qA (E 0) 6 se), (w0, qA (E 0) 200 wa)] 15 [(0, .ref s0), (1, .ref w0), (2, .int (qI x2))] [] := by
    intro n8
    induction n8 with
    | zero =>
      intro x2 wa hw
      exact hw.elim
    | succ n9 ih =>
      intro x2 wa hw
      unfold wp_X1_countWrong_15 at hw
      refine z_iload_n C 2 rfl rfl dX1_countWrong_15 ?_
      refine z_aload_n C 0 rfl rfl dX1_countWrong_16 ?_
      refine z_get C iX1_countWrong_X1 0 rfl rfl 2 (by decide) (List.mem_of_getElem? (i := 2) rfl) rfl rfl dX1_countWrong_17 ?_
      refine z_icmp_ge (tgt := 40) C hw.1 (by decide) dX1_countWrong_20 (fun c1 => ?_) (fun c1 => ?_)
      · replace hw := hw.2.1 c1
        exact hend 40 _ () wa dX1_countWrong_40 hw
      · replace hw := hw.2.2 c1
        refine z_aload_n C 0 rfl rfl dX1_countWrong_23 ?_
        refine z_aload_n C 0 rfl rfl dX1_countWrong_24 ?_
        refine z_get C iX1_countWrong_X1 0 rfl rfl 1 (by decide) (List.mem_of_getElem? (i := 3) rfl) rfl rfl dX1_countWrong_25 ?_
        refine z_iload_n C 2 rfl rfl dX1_countWrong_28 ?_
        refine z_iald C 2 rfl (by decide) hw.1 dX1_countWrong_29 ?_
        replace hw := hw.2
        refine z_name (fun v2 ev2 => ?_)
        replace hw := hw v2 ev2
        refine z_aload_n C 1 rfl rfl dX1_countWrong_30 ?_
        refine z_callVW (n := 2) C (c_X1_countSeen l D E s0 s1 s2 s3 s4 w0 sz ph od pi se wa v2 hw) qF0_ok (fun _ _ _ => trivial) gX1_countWrong_X1_countSeen rfl (by decide +kernel) ⟨(Nat.le_of_ble_eq_true rfl), (Nat.le_of_ble_eq_true rfl)⟩ rfl 0 rfl rfl [0, 1, 2, 3, 4, 5] [] (wr := []) rfl rfl rfl rfl (by decide) [0, 1, 2, 3, 4, 5] rfl (fun u9 => [(s0, .inr (1, [.ref s1, .ref s2, .int (qI sz), .ref s3, .ref s4])), (s1, qA (E 0) 64 ph), (s2, qA (E 0) 12 od), (s3, qL (E 1) 2 pi), (s4, qA (E 0) 6 se), (w0, qA (E 0) 200 u9)]) (fun _ => rfl) rfl (Nat.le_of_ble_eq_true rfl) dX1_countWrong_31 (fun r3 u9 hw => ?_)
        obtain ⟨g4, rfl⟩ : ∃ z, z = u9 := ⟨_, rfl⟩
        refine z_ws (ws' := [(s0, .inr (1, [.ref s1, .ref s2, .int (qI sz), .ref s3, .ref s4])), (s1, qA (E 0) 64 ph), (s2, qA (E 0) 12 od), (s3, qL (E 1) 2 pi), (s4, qA (E 0) 6 se), (w0, qA (E 0) 200 g4)]) rfl ?_
        try dsimp only at hw
        show qZ X 0 0 [(s0, .inr (1, [.ref s1, .ref s2, .int (qI sz), .ref s3, .ref s4])), (s1, qA (E 0) 64 ph), (s2, qA (E 0) 12 od), (s3, qL (E 1) 2 pi), (s4, qA (E 0) 6 se), (w0, qA (E 0) 200 g4)] _ _ []
        obtain ⟨v5, ev5⟩ : ∃ v5 : Int, v5 = x2 + (1 : Int) := ⟨_, rfl⟩
        replace hw := hw v5 ev5
        refine z_iinc C 2 rfl (by decide) v5 ev5 rfl dX1_countWrong_34 ?_
        refine z_goto (tgt := 15) C (by decide) dX1_countWrong_37 ?_
        refine z_lst (ps := [1, 2, 0]) (lv' := [(0, .ref s0), (1, .ref w0), (2, .int (qI v5))]) (st' := []) rfl rfl ?_
        exact ih v5 g4 hw
  unfold wp_X1_countWrong at hw
  show qZ X 0 0 [(s0, .inr (1, [.ref s1, .ref s2, .int (qI sz), .ref s3, .ref s4])), (s1, qA (E 0) 64 ph), (s2, qA (E 0) 12 od), (s3, qL (E 1) 2 pi), (s4, qA (E 0) 6 se), (w0, qA (E 0) 200 wa)] 0 [(0, .ref s0), (1, .ref w0)] []
  refine z_aload_n C 1 rfl rfl dX1_countWrong_0 ?_
  refine z_aload_n C 0 rfl rfl dX1_countWrong_1 ?_
  refine z_get C iX1_countWrong_X1 0 rfl rfl 3 (by decide) (List.mem_of_getElem? (i := 1) rfl) rfl rfl dX1_countWrong_2 ?_
  refine z_iconst C dX1_countWrong_5 ?_
  refine z_lald C 3 rfl (by decide) hw.1 dX1_countWrong_6 ?_
  replace hw := hw.2
  refine z_nameL (fun v6 ev6 => ?_)
  replace hw := hw v6 ev6
  refine z_callS (n := 1) C (c_J13_bitCount_95d88 l D E   v6 hw) qF0_ok (fun _ _ _ => trivial) gX1_countWrong_J13_bitCount_95d88 rfl (by decide +kernel) ⟨(Nat.le_of_ble_eq_true rfl), (Nat.le_of_ble_eq_true rfl)⟩ rfl [] rfl rfl (Nat.le_of_ble_eq_true rfl) dX1_countWrong_7 (fun r7 hw => ?_)
  show qZ X 0 0 [(s0, .inr (1, [.ref s1, .ref s2, .int (qI sz), .ref s3, .ref s4])), (s1, qA (E 0) 64 ph), (s2, qA (E 0) 12 od), (s3, qL (E 1) 2 pi), (s4, qA (E 0) 6 se), (w0, qA (E 0) 200 wa)] _ _ [.int (qI r7), .ref w0]
  refine z_callSW (n := 2) C (c_J7_fill_53178 l D E w0 wa r7 hw) qF0_ok (fun _ _ _ => trivial) gX1_countWrong_J7_fill_53178 rfl (by decide +kernel) ⟨(Nat.le_of_ble_eq_true rfl), (Nat.le_of_ble_eq_true rfl)⟩ rfl [5] [0, 1, 2, 3, 4] (wr := [(s0, .inr (1, [.ref s1, .ref s2, .int (qI sz), .ref s3, .ref s4])), (s1, qA (E 0) 64 ph), (s2, qA (E 0) 12 od), (s3, qL (E 1) 2 pi), (s4, qA (E 0) 6 se)]) rfl rfl rfl rfl (by decide) [0, 1, 2, 3, 4, 5] rfl (fun u9 => [(s0, .inr (1, [.ref s1, .ref s2, .int (qI sz), .ref s3, .ref s4])), (s1, qA (E 0) 64 ph), (s2, qA (E 0) 12 od), (s3, qL (E 1) 2 pi), (s4, qA (E 0) 6 se), (w0, qA (E 0) 200 u9)]) (fun _ => rfl) rfl (Nat.le_of_ble_eq_true rfl) dX1_countWrong_10 (fun r8 u9 hw => ?_)
  obtain ⟨g9, rfl⟩ : ∃ z, z = u9 := ⟨_, rfl⟩
  refine z_ws (ws' := [(s0, .inr (1, [.ref s1, .ref s2, .int (qI sz), .ref s3, .ref s4])), (s1, qA (E 0) 64 ph), (s2, qA (E 0) 12 od), (s3, qL (E 1) 2 pi), (s4, qA (E 0) 6 se), (w0, qA (E 0) 200 g9)]) rfl ?_
  try dsimp only at hw
  show qZ X 0 0 [(s0, .inr (1, [.ref s1, .ref s2, .int (qI sz), .ref s3, .ref s4])), (s1, qA (E 0) 64 ph), (s2, qA (E 0) 12 od), (s3, qL (E 1) 2 pi), (s4, qA (E 0) 6 se), (w0, qA (E 0) 200 g9)] _ _ []
  refine z_iconst C dX1_countWrong_13 ?_
  refine z_istore_n C rfl (by decide) rfl dX1_countWrong_14 ?_
  refine z_lst (ps := [1, 2, 0]) (lv' := [(0, .ref s0), (1, .ref w0), (2, .int (qI (0 : Int)))]) (st' := []) rfl rfl ?_
  obtain ⟨n8, hw⟩ := hw
  exact hB15 n8 (0 : Int) g9 hw
