def wp_X5_in_15 (Φ : Int → Prop)  (k0 : Int) : Prop := ((k0 = 0 ∨ k0 = 1) ∧ Φ k0)
def wp_X5_in_14 (Φ : Int → Prop)   : Prop := wp_X5_in_15 Φ  (0 : Int)
def wp_X5_in (x0 : Int) (x1 : Int) (x2 : Int)  (Φ : Int → Prop) : Prop := ((qR x0 ∧ qR x1) ∧ (x0 < x1 → wp_X5_in_14 Φ  ) ∧ (¬ (x0 < x1) → ((qR x0 ∧ qR x2) ∧ (x2 < x0 → wp_X5_in_14 Φ  ) ∧ (¬ (x2 < x0) → wp_X5_in_15 Φ  (1 : Int)))))
set_option maxHeartbeats 4000000 in
set_option maxRecDepth 100000 in
theorem c_X5_in (l : Launch) (D : va_G) (E : Nat → ClassId)   (x0 : Int) (x1 : Int) (x2 : Int) {Φ : Int → Prop} (hw : wp_X5_in x0 x1 x2  Φ) : qRO l D E qF0 yX5_in wsX5_in 0 0 [] [.int (qI x0), .int (qI x1), .int (qI x2)] qeI (fun r => Φ r) := by
  refine qRO_bool (nL := 3) (own := RX5) qF0_ok (by decide) rfl rfl (Nat.le_of_ble_eq_true rfl) (fun X C hend => ?_)
  have hB15 : ∀ k0 : Int, wp_X5_in_15 Φ  k0 → qZ X 0 0 [] 15 [] [.int (qI k0)] := by
    intro k0 hw
    unfold wp_X5_in_15 at hw
    exact hend 15 _ k0 dX5_in_15 hw.1 hw.2
  have hB14 :  wp_X5_in_14 Φ   → qZ X 0 0 [] 14 [] [] := by
    intro  hw
    unfold wp_X5_in_14 at hw
    refine z_iconst C dX5_in_14 ?_
    refine z_lst (ps := []) (lv' := []) (st' := [.int (qI (0 : Int))]) rfl rfl ?_
    exact hB15 (0 : Int) hw
  unfold wp_X5_in at hw
  show qZ X 0 0 [] 0 [(0, .int (qI x0)), (1, .int (qI x1)), (2, .int (qI x2))] []
  refine z_iload_n C 0 rfl rfl dX5_in_0 ?_
  refine z_iload_n C 1 rfl rfl dX5_in_1 ?_
  refine z_icmp_lt (tgt := 14) C hw.1 (by decide) dX5_in_2 (fun c1 => ?_) (fun c1 => ?_)
  · replace hw := hw.2.1 c1
    refine z_lst (ps := []) (lv' := []) (st' := []) rfl rfl ?_
    exact hB14  hw
  · replace hw := hw.2.2 c1
    refine z_iload_n C 0 rfl rfl dX5_in_5 ?_
    refine z_iload_n C 2 rfl rfl dX5_in_6 ?_
    refine z_icmp_gt (tgt := 14) C hw.1 (by decide) dX5_in_7 (fun c2 => ?_) (fun c2 => ?_)
    · replace hw := hw.2.1 c2
      refine z_lst (ps := []) (lv' := []) (st' := []) rfl rfl ?_
      exact hB14  hw
    · replace hw := hw.2.2 c2
      refine z_iconst C dX5_in_10 ?_
      refine z_goto (tgt := 15) C (by decide) dX5_in_11 ?_
      refine z_lst (ps := []) (lv' := []) (st' := [.int (qI (1 : Int))]) rfl rfl ?_
      exact hB15 (1 : Int) hw
def wp_X5_isSpot (x0 : Int)  (Φ : Int → Prop) : Prop := wp_X5_in x0 (0 : Int) (63 : Int) (fun (r1 : Int) => ((r1 = 0 ∨ r1 = 1) ∧ Φ r1))
set_option maxHeartbeats 4000000 in
set_option maxRecDepth 100000 in
theorem c_X5_isSpot (l : Launch) (D : va_G) (E : Nat → ClassId)   (x0 : Int) {Φ : Int → Prop} (hw : wp_X5_isSpot x0  Φ) : qRO l D E qF0 yX5_isSpot wsX5_isSpot 1 22 [] [.int (qI x0)] qeI (fun r => Φ r) := by
  refine qRO_bool (nL := 1) (own := RX5) qF0_ok (by decide) rfl rfl (Nat.le_of_ble_eq_true rfl) (fun X C hend => ?_)
  unfold wp_X5_isSpot at hw
  show qZ X 0 0 [] 0 [(0, .int (qI x0))] []
  refine z_iload_n C 0 rfl rfl dX5_isSpot_0 ?_
  refine z_iconst C dX5_isSpot_1 ?_
  refine z_bipush C (by decide +kernel) dX5_isSpot_2 ?_
  refine z_callS (n := 3) C (c_X5_in l D E   x0 (0 : Int) (63 : Int) hw) qF0_ok (fun _ _ _ => trivial) gX5_isSpot_X5_in rfl (by decide +kernel) ⟨(Nat.le_of_ble_eq_true rfl), (Nat.le_of_ble_eq_true rfl)⟩ rfl [] rfl rfl (Nat.le_of_ble_eq_true rfl) dX5_isSpot_4 (fun r1 hw => ?_)
  show qZ X 0 0 [] _ _ [.int (qI r1)]
  exact hend 7 _ r1 dX5_isSpot_7 hw.1 hw.2
def wp_X5_isBit (x0 : Int)  (Φ : Int → Prop) : Prop := wp_X5_in x0 (0 : Int) (1 : Int) (fun (r1 : Int) => ((r1 = 0 ∨ r1 = 1) ∧ Φ r1))
set_option maxHeartbeats 4000000 in
set_option maxRecDepth 100000 in
theorem c_X5_isBit (l : Launch) (D : va_G) (E : Nat → ClassId)   (x0 : Int) {Φ : Int → Prop} (hw : wp_X5_isBit x0  Φ) : qRO l D E qF0 yX5_isBit wsX5_isBit 1 22 [] [.int (qI x0)] qeI (fun r => Φ r) := by
  refine qRO_bool (nL := 1) (own := RX5) qF0_ok (by decide) rfl rfl (Nat.le_of_ble_eq_true rfl) (fun X C hend => ?_)
  unfold wp_X5_isBit at hw
  show qZ X 0 0 [] 0 [(0, .int (qI x0))] []
  refine z_iload_n C 0 rfl rfl dX5_isBit_0 ?_
  refine z_iconst C dX5_isBit_1 ?_
  refine z_iconst C dX5_isBit_2 ?_
  refine z_callS (n := 3) C (c_X5_in l D E   x0 (0 : Int) (1 : Int) hw) qF0_ok (fun _ _ _ => trivial) gX5_isBit_X5_in rfl (by decide +kernel) ⟨(Nat.le_of_ble_eq_true rfl), (Nat.le_of_ble_eq_true rfl)⟩ rfl [] rfl rfl (Nat.le_of_ble_eq_true rfl) dX5_isBit_3 (fun r1 hw => ?_)
  show qZ X 0 0 [] _ _ [.int (qI r1)]
  exact hend 6 _ r1 dX5_isBit_6 hw.1 hw.2
def wp_X5_size_10 (Φ : Int → Prop)  (k0 : Int) : Prop := Φ k0
def wp_X5_size (x0 : Int)  (Φ : Int → Prop) : Prop := (qR x0 ∧ ((0 : Int) ≤ x0 → wp_X5_size_10 Φ  x0) ∧ (¬ ((0 : Int) ≤ x0) → wp_X5_size_10 Φ  (-x0)))
set_option maxHeartbeats 4000000 in
set_option maxRecDepth 100000 in
theorem c_X5_size (l : Launch) (D : va_G) (E : Nat → ClassId)   (x0 : Int) {Φ : Int → Prop} (hw : wp_X5_size x0  Φ) : qRO l D E qF0 yX5_size wsX5_size 0 0 [] [.int (qI x0)] qeI (fun r => Φ r) := by
  refine qRO_int (nL := 1) (own := RX5) qF0_ok (by decide) rfl rfl (Nat.le_of_ble_eq_true rfl) (fun X C hend => ?_)
  have hB10 : ∀ k0 : Int, wp_X5_size_10 Φ  k0 → qZ X 0 0 [] 10 [] [.int (qI k0)] := by
    intro k0 hw
    unfold wp_X5_size_10 at hw
    exact hend 10 _ k0 dX5_size_10 hw
  unfold wp_X5_size at hw
  show qZ X 0 0 [] 0 [(0, .int (qI x0))] []
  refine z_iload_n C 0 rfl rfl dX5_size_0 ?_
  refine z_if_ge (tgt := 9) C hw.1 (by decide) dX5_size_1 (fun c1 => ?_) (fun c1 => ?_)
  · replace hw := hw.2.1 c1
    refine z_iload_n C 0 rfl rfl dX5_size_9 ?_
    refine z_lst (ps := []) (lv' := []) (st' := [.int (qI x0)]) rfl rfl ?_
    exact hB10 x0 hw
  · replace hw := hw.2.2 c1
    refine z_iload_n C 0 rfl rfl dX5_size_4 ?_
    refine z_ineg C dX5_size_5 ?_
    refine z_goto (tgt := 10) C (by decide) dX5_size_6 ?_
    refine z_lst (ps := []) (lv' := []) (st' := [.int (qI (-x0))]) rfl rfl ?_
    exact hB10 (-x0) hw
def wp_X5_act_51 (Φ : Int → (Nat → Int) → Prop)  (sm : Int) (ms : Nat → Int) : Nat → Int → (Nat → Int) → Prop
  | 0, _, _ => False
  | n9 + 1, x1, mv => ((qR x1 ∧ qR (635 : Int)) ∧ ((635 : Int) ≤ x1 → (∀ v2 : Int, v2 = (sm + (1 : Int)) → Φ v2 mv)) ∧ (¬ ((635 : Int) ≤ x1) → ((0 ≤ x1 ∧ x1 < 635) ∧ (∀ v3 : Int, v3 = ms (x1).toNat → ((0 ≤ (((635 : Int) * sm) + x1) ∧ (((635 : Int) * sm) + x1) < 3175) ∧ ∀ g4 : Nat → Int, g4 = qU mv ((((635 : Int) * sm) + x1)).toNat v3 → (∀ v5 : Int, v5 = x1 + (1 : Int) → wp_X5_act_51 Φ  sm ms n9 v5 g4))))))
def wp_X5_act_49 (Φ : Int → (Nat → Int) → Prop)  (sm : Int) (ms : Nat → Int) (mv : Nat → Int) : Prop := ∃ n : Nat, wp_X5_act_51 Φ  sm ms n (0 : Int) mv
def wp_X5_act_10 (Φ : Int → (Nat → Int) → Prop)  (sm : Int) (ms : Nat → Int) : Nat → Int → (Nat → Int) → Prop
  | 0, _, _ => False
  | n9 + 1, x1, mv => ((qR x1 ∧ qR (2540 : Int)) ∧ ((2540 : Int) ≤ x1 → (∀ v7 : Int, v7 = (sm - (1 : Int)) → wp_X5_act_49 Φ  v7 ms mv)) ∧ (¬ ((2540 : Int) ≤ x1) → ((0 ≤ (x1 + (635 : Int)) ∧ (x1 + (635 : Int)) < 3175) ∧ (∀ v8 : Int, v8 = mv ((x1 + (635 : Int))).toNat → ((0 ≤ x1 ∧ x1 < 3175) ∧ ∀ g9 : Nat → Int, g9 = qU mv (x1).toNat v8 → (∀ v10 : Int, v10 = x1 + (1 : Int) → wp_X5_act_10 Φ  sm ms n9 v10 g9))))))
def wp_X5_act  (sm : Int) (ms : Nat → Int) (mv : Nat → Int) (Φ : Int → (Nat → Int) → Prop) : Prop := ((qR sm ∧ qR (5 : Int)) ∧ (¬ sm = (5 : Int) → wp_X5_act_49 Φ  sm ms mv) ∧ (¬ (¬ sm = (5 : Int)) → ∃ n : Nat, wp_X5_act_10 Φ  sm ms n (0 : Int) mv))
theorem iX5_act_X5 : ∀ w ∈ wsX50, w ∈ wsX5_act := fun w h => List.mem_cons_of_mem _ (List.mem_append_right _ (h))
set_option maxHeartbeats 4000000 in
set_option maxRecDepth 100000 in
theorem c_X5_act (l : Launch) (D : va_G) (E : Nat → ClassId) (m0 m1 m2 m3 m4 m5 m6 m7 : Nat) (th : Int) (sm : Int) (le : Int) (tk : Int) (fr : Int) (ti : Int) (fa : Int) (ms : Nat → Int) (ma : Nat → Int) (mv : Nat → Int) (mt : Nat → Int) (mn : Nat → Int) (ml : Nat → Int) (mr : Nat → Int)  {Φ : Int → (Nat → Int) → Prop} (hw : wp_X5_act  sm ms mv Φ) : qRW (σ := (Int) × (Nat → Int)) l D E qF0 yX5_act wsX5_act 0 0 [(m0, .inr (5, [.int (qI th), .ref m1, .ref m2, .ref m3, .int (qI sm), .ref m4, .int (qI le), .ref m5, .ref m6, .ref m7, .int (qI tk), .int (qI fr), .int (qI ti), .int (qI fa)])), (m1, qA (E 0) 635 ms), (m2, qA (E 0) 635 ma), (m3, qA (E 0) 3175 mv), (m4, qA (E 0) 140 mt), (m5, qA (E 0) 2 mn), (m6, qA (E 0) 64 ml), (m7, qA (E 0) 49152 mr)] [.ref m0] qeV (fun u => [(m0, .inr (5, [.int (qI th), .ref m1, .ref m2, .ref m3, .int (qI u.1), .ref m4, .int (qI le), .ref m5, .ref m6, .ref m7, .int (qI tk), .int (qI fr), .int (qI ti), .int (qI fa)])), (m1, qA (E 0) 635 ms), (m2, qA (E 0) 635 ma), (m3, qA (E 0) 3175 u.2), (m4, qA (E 0) 140 mt), (m5, qA (E 0) 2 mn), (m6, qA (E 0) 64 ml), (m7, qA (E 0) 49152 mr)]) (fun r u => Φ u.1 u.2) := by
  refine qRW_void (nL := 2) (own := RX5) qF0_ok (by decide) rfl rfl (Nat.le_of_ble_eq_true rfl) (fun X C hend => ?_)
  have hB51 : ∀ sm : Int, ∀ n8 : Nat, ∀ x1 : Int, ∀ mv : Nat → Int, wp_X5_act_51 Φ  sm ms n8 x1 mv → qZ X 0 0 [(m0, .inr (5, [.int (qI th), .ref m1, .ref m2, .ref m3, .int (qI sm), .ref m4, .int (qI le), .ref m5, .ref m6, .ref m7, .int (qI tk), .int (qI fr), .int (qI ti), .int (qI fa)])), (m1, qA (E 0) 635 ms), (m2, qA (E 0) 635 ma), (m3, qA (E 0) 3175 mv), (m4, qA (E 0) 140 mt), (m5, qA (E 0) 2 mn), (m6, qA (E 0) 64 ml), (m7, qA (E 0) 49152 mr)] 51 [(0, .ref m0), (1, .int (qI x1))] [] := by
    intro sm n8
    induction n8 with
    | zero =>
      intro x1 mv hw
      exact hw.elim
    | succ n9 ih =>
      intro x1 mv hw
      unfold wp_X5_act_51 at hw
      refine z_iload_n C 1 rfl rfl dX5_act_51 ?_
      refine z_sipush C (by decide +kernel) dX5_act_52 ?_
      refine z_icmp_ge (tgt := 85) C hw.1 (by decide) dX5_act_55 (fun c1 => ?_) (fun c1 => ?_)
      · replace hw := hw.2.1 c1
        refine z_aload_n C 0 rfl rfl dX5_act_85 ?_
        refine z_dup C rfl dX5_act_86 ?_
        refine z_get C iX5_act_X5 0 rfl rfl 4 (by decide) (List.mem_of_getElem? (i := 1) rfl) rfl rfl dX5_act_87 ?_
        refine z_iconst C dX5_act_90 ?_
        refine z_iadd C dX5_act_91 ?_
        refine z_name (fun v2 ev2 => ?_)
        replace hw := hw v2 ev2
        refine z_put (ty := .int) (ws' := [(m0, .inr (5, [.int (qI th), .ref m1, .ref m2, .ref m3, .int (qI v2), .ref m4, .int (qI le), .ref m5, .ref m6, .ref m7, .int (qI tk), .int (qI fr), .int (qI ti), .int (qI fa)])), (m1, qA (E 0) 635 ms), (m2, qA (E 0) 635 ma), (m3, qA (E 0) 3175 mv), (m4, qA (E 0) 140 mt), (m5, qA (E 0) 2 mn), (m6, qA (E 0) 64 ml), (m7, qA (E 0) 49152 mr)]) C iX5_act_X5 tyX5 tyX5_ok nmX5 0 rfl rfl 4 (by decide) (List.mem_of_getElem? (i := 1) rfl) rfl rfl (by decide +kernel) rfl rfl (Nat.le_of_ble_eq_true rfl) rfl dX5_act_92 ?_
        exact hend 95 _ () (v2, mv) dX5_act_95 hw
      · replace hw := hw.2.2 c1
        refine z_aload_n C 0 rfl rfl dX5_act_58 ?_
        refine z_get C iX5_act_X5 0 rfl rfl 3 (by decide) (List.mem_of_getElem? (i := 2) rfl) rfl rfl dX5_act_59 ?_
        refine z_sipush C (by decide +kernel) dX5_act_62 ?_
        refine z_aload_n C 0 rfl rfl dX5_act_65 ?_
        refine z_get C iX5_act_X5 0 rfl rfl 4 (by decide) (List.mem_of_getElem? (i := 1) rfl) rfl rfl dX5_act_66 ?_
        refine z_imul C dX5_act_69 ?_
        refine z_iload_n C 1 rfl rfl dX5_act_70 ?_
        refine z_iadd C dX5_act_71 ?_
        refine z_aload_n C 0 rfl rfl dX5_act_72 ?_
        refine z_get C iX5_act_X5 0 rfl rfl 1 (by decide) (List.mem_of_getElem? (i := 3) rfl) rfl rfl dX5_act_73 ?_
        refine z_iload_n C 1 rfl rfl dX5_act_76 ?_
        refine z_iald C 1 rfl (by decide) hw.1 dX5_act_77 ?_
        replace hw := hw.2
        refine z_name (fun v3 ev3 => ?_)
        replace hw := hw v3 ev3
        refine z_iast C 3 rfl (by decide) hw.1 (fun g4 => [(m0, .inr (5, [.int (qI th), .ref m1, .ref m2, .ref m3, .int (qI sm), .ref m4, .int (qI le), .ref m5, .ref m6, .ref m7, .int (qI tk), .int (qI fr), .int (qI ti), .int (qI fa)])), (m1, qA (E 0) 635 ms), (m2, qA (E 0) 635 ma), (m3, qA (E 0) 3175 g4), (m4, qA (E 0) 140 mt), (m5, qA (E 0) 2 mn), (m6, qA (E 0) 64 ml), (m7, qA (E 0) 49152 mr)]) (fun _ => rfl) dX5_act_78 (fun g4 eg4 => ?_)
        replace hw := hw.2 g4 eg4
        obtain ⟨v5, ev5⟩ : ∃ v5 : Int, v5 = x1 + (1 : Int) := ⟨_, rfl⟩
        replace hw := hw v5 ev5
        refine z_iinc C 1 rfl (by decide) v5 ev5 rfl dX5_act_79 ?_
        refine z_goto (tgt := 51) C (by decide) dX5_act_82 ?_
        refine z_lst (ps := [1, 0]) (lv' := [(0, .ref m0), (1, .int (qI v5))]) (st' := []) rfl rfl ?_
        exact ih v5 g4 hw
  have hB49 : ∀ sm : Int, ∀ mv : Nat → Int, wp_X5_act_49 Φ  sm ms mv → qZ X 0 0 [(m0, .inr (5, [.int (qI th), .ref m1, .ref m2, .ref m3, .int (qI sm), .ref m4, .int (qI le), .ref m5, .ref m6, .ref m7, .int (qI tk), .int (qI fr), .int (qI ti), .int (qI fa)])), (m1, qA (E 0) 635 ms), (m2, qA (E 0) 635 ma), (m3, qA (E 0) 3175 mv), (m4, qA (E 0) 140 mt), (m5, qA (E 0) 2 mn), (m6, qA (E 0) 64 ml), (m7, qA (E 0) 49152 mr)] 49 [(0, .ref m0)] [] := by
    intro sm mv hw
    unfold wp_X5_act_49 at hw
    refine z_iconst C dX5_act_49 ?_
    refine z_istore_n C rfl (by decide) rfl dX5_act_50 ?_
    refine z_lst (ps := [1, 0]) (lv' := [(0, .ref m0), (1, .int (qI (0 : Int)))]) (st' := []) rfl rfl ?_
    obtain ⟨n8, hw⟩ := hw
    exact hB51 sm n8 (0 : Int) mv hw
  have hB10 : ∀ sm : Int, ∀ n8 : Nat, ∀ x1 : Int, ∀ mv : Nat → Int, wp_X5_act_10 Φ  sm ms n8 x1 mv → qZ X 0 0 [(m0, .inr (5, [.int (qI th), .ref m1, .ref m2, .ref m3, .int (qI sm), .ref m4, .int (qI le), .ref m5, .ref m6, .ref m7, .int (qI tk), .int (qI fr), .int (qI ti), .int (qI fa)])), (m1, qA (E 0) 635 ms), (m2, qA (E 0) 635 ma), (m3, qA (E 0) 3175 mv), (m4, qA (E 0) 140 mt), (m5, qA (E 0) 2 mn), (m6, qA (E 0) 64 ml), (m7, qA (E 0) 49152 mr)] 10 [(0, .ref m0), (1, .int (qI x1))] [] := by
    intro sm n8
    induction n8 with
    | zero =>
      intro x1 mv hw
      exact hw.elim
    | succ n9 ih =>
      intro x1 mv hw
      unfold wp_X5_act_10 at hw
      refine z_iload_n C 1 rfl rfl dX5_act_10 ?_
      refine z_sipush C (by decide +kernel) dX5_act_11 ?_
      refine z_icmp_ge (tgt := 39) C hw.1 (by decide) dX5_act_14 (fun c6 => ?_) (fun c6 => ?_)
      · replace hw := hw.2.1 c6
        refine z_aload_n C 0 rfl rfl dX5_act_39 ?_
        refine z_dup C rfl dX5_act_40 ?_
        refine z_get C iX5_act_X5 0 rfl rfl 4 (by decide) (List.mem_of_getElem? (i := 1) rfl) rfl rfl dX5_act_41 ?_
        refine z_iconst C dX5_act_44 ?_
        refine z_isub C dX5_act_45 ?_
        refine z_name (fun v7 ev7 => ?_)
        replace hw := hw v7 ev7
        refine z_put (ty := .int) (ws' := [(m0, .inr (5, [.int (qI th), .ref m1, .ref m2, .ref m3, .int (qI v7), .ref m4, .int (qI le), .ref m5, .ref m6, .ref m7, .int (qI tk), .int (qI fr), .int (qI ti), .int (qI fa)])), (m1, qA (E 0) 635 ms), (m2, qA (E 0) 635 ma), (m3, qA (E 0) 3175 mv), (m4, qA (E 0) 140 mt), (m5, qA (E 0) 2 mn), (m6, qA (E 0) 64 ml), (m7, qA (E 0) 49152 mr)]) C iX5_act_X5 tyX5 tyX5_ok nmX5 0 rfl rfl 4 (by decide) (List.mem_of_getElem? (i := 1) rfl) rfl rfl (by decide +kernel) rfl rfl (Nat.le_of_ble_eq_true rfl) rfl dX5_act_46 ?_
        refine z_lst (ps := [0]) (lv' := [(0, .ref m0)]) (st' := []) rfl rfl ?_
        exact hB49 v7 mv hw
      · replace hw := hw.2.2 c6
        refine z_aload_n C 0 rfl rfl dX5_act_17 ?_
        refine z_get C iX5_act_X5 0 rfl rfl 3 (by decide) (List.mem_of_getElem? (i := 2) rfl) rfl rfl dX5_act_18 ?_
        refine z_iload_n C 1 rfl rfl dX5_act_21 ?_
        refine z_aload_n C 0 rfl rfl dX5_act_22 ?_
        refine z_get C iX5_act_X5 0 rfl rfl 3 (by decide) (List.mem_of_getElem? (i := 2) rfl) rfl rfl dX5_act_23 ?_
        refine z_iload_n C 1 rfl rfl dX5_act_26 ?_
        refine z_sipush C (by decide +kernel) dX5_act_27 ?_
        refine z_iadd C dX5_act_30 ?_
        refine z_iald C 3 rfl (by decide) hw.1 dX5_act_31 ?_
        replace hw := hw.2
        refine z_name (fun v8 ev8 => ?_)
        replace hw := hw v8 ev8
        refine z_iast C 3 rfl (by decide) hw.1 (fun g9 => [(m0, .inr (5, [.int (qI th), .ref m1, .ref m2, .ref m3, .int (qI sm), .ref m4, .int (qI le), .ref m5, .ref m6, .ref m7, .int (qI tk), .int (qI fr), .int (qI ti), .int (qI fa)])), (m1, qA (E 0) 635 ms), (m2, qA (E 0) 635 ma), (m3, qA (E 0) 3175 g9), (m4, qA (E 0) 140 mt), (m5, qA (E 0) 2 mn), (m6, qA (E 0) 64 ml), (m7, qA (E 0) 49152 mr)]) (fun _ => rfl) dX5_act_32 (fun g9 eg9 => ?_)
        replace hw := hw.2 g9 eg9
        obtain ⟨v10, ev10⟩ : ∃ v10 : Int, v10 = x1 + (1 : Int) := ⟨_, rfl⟩
        replace hw := hw v10 ev10
        refine z_iinc C 1 rfl (by decide) v10 ev10 rfl dX5_act_33 ?_
        refine z_goto (tgt := 10) C (by decide) dX5_act_36 ?_
        refine z_lst (ps := [1, 0]) (lv' := [(0, .ref m0), (1, .int (qI v10))]) (st' := []) rfl rfl ?_
        exact ih v10 g9 hw
  unfold wp_X5_act at hw
  show qZ X 0 0 [(m0, .inr (5, [.int (qI th), .ref m1, .ref m2, .ref m3, .int (qI sm), .ref m4, .int (qI le), .ref m5, .ref m6, .ref m7, .int (qI tk), .int (qI fr), .int (qI ti), .int (qI fa)])), (m1, qA (E 0) 635 ms), (m2, qA (E 0) 635 ma), (m3, qA (E 0) 3175 mv), (m4, qA (E 0) 140 mt), (m5, qA (E 0) 2 mn), (m6, qA (E 0) 64 ml), (m7, qA (E 0) 49152 mr)] 0 [(0, .ref m0)] []
  refine z_aload_n C 0 rfl rfl dX5_act_0 ?_
  refine z_get C iX5_act_X5 0 rfl rfl 4 (by decide) (List.mem_of_getElem? (i := 1) rfl) rfl rfl dX5_act_1 ?_
  refine z_iconst C dX5_act_4 ?_
  refine z_icmp_ne (tgt := 49) C hw.1 (by decide) dX5_act_5 (fun c11 => ?_) (fun c11 => ?_)
  · replace hw := hw.2.1 c11
    refine z_lst (ps := [0]) (lv' := [(0, .ref m0)]) (st' := []) rfl rfl ?_
    exact hB49 sm mv hw
  · replace hw := hw.2.2 c11
    refine z_iconst C dX5_act_8 ?_
    refine z_istore_n C rfl (by decide) rfl dX5_act_9 ?_
    refine z_lst (ps := [1, 0]) (lv' := [(0, .ref m0), (1, .int (qI (0 : Int)))]) (st' := []) rfl rfl ?_
    obtain ⟨n8, hw⟩ := hw
    exact hB10 sm n8 (0 : Int) mv hw
def wp_X5_way (x0 : Int) (x1 : Int)  (Φ : Int → Prop) : Prop := (qP x0 (8 : Int) ∧ (∀ v1 : Int, v1 = x0 / (8 : Int) → (qP x1 (8 : Int) ∧ (∀ v2 : Int, v2 = x1 / (8 : Int) → wp_X5_size (v1 - v2) (fun (r3 : Int) => (qP x0 (8 : Int) ∧ (∀ v4 : Int, v4 = x0 % (8 : Int) → (qP x1 (8 : Int) ∧ (∀ v5 : Int, v5 = x1 % (8 : Int) → wp_X5_size (v4 - v5) (fun (r6 : Int) => Φ (r3 + r6)))))))))))
set_option maxHeartbeats 4000000 in
set_option maxRecDepth 100000 in
theorem c_X5_way (l : Launch) (D : va_G) (E : Nat → ClassId)   (x0 : Int) (x1 : Int) {Φ : Int → Prop} (hw : wp_X5_way x0 x1  Φ) : qRO l D E qF0 yX5_way wsX5_way 1 20 [] [.int (qI x0), .int (qI x1)] qeI (fun r => Φ r) := by
  refine qRO_int (nL := 2) (own := RX5) qF0_ok (by decide) rfl rfl (Nat.le_of_ble_eq_true rfl) (fun X C hend => ?_)
  unfold wp_X5_way at hw
  show qZ X 0 0 [] 0 [(0, .int (qI x0)), (1, .int (qI x1))] []
  refine z_iload_n C 0 rfl rfl dX5_way_0 ?_
  refine z_bipush C (by decide +kernel) dX5_way_1 ?_
  refine z_idiv C hw.1 dX5_way_3 ?_
  replace hw := hw.2
  refine z_name (fun v1 ev1 => ?_)
  replace hw := hw v1 ev1
  refine z_iload_n C 1 rfl rfl dX5_way_4 ?_
  refine z_bipush C (by decide +kernel) dX5_way_5 ?_
  refine z_idiv C hw.1 dX5_way_7 ?_
  replace hw := hw.2
  refine z_name (fun v2 ev2 => ?_)
  replace hw := hw v2 ev2
  refine z_isub C dX5_way_8 ?_
  refine z_callS (n := 1) C (c_X5_size l D E   (v1 - v2) hw) qF0_ok (fun _ _ _ => trivial) gX5_way_X5_size rfl (by decide +kernel) ⟨(Nat.le_of_ble_eq_true rfl), (Nat.le_of_ble_eq_true rfl)⟩ rfl [] rfl rfl (Nat.le_of_ble_eq_true rfl) dX5_way_9 (fun r3 hw => ?_)
  show qZ X 0 0 [] _ _ [.int (qI r3)]
  refine z_iload_n C 0 rfl rfl dX5_way_12 ?_
  refine z_bipush C (by decide +kernel) dX5_way_13 ?_
  refine z_irem C hw.1 dX5_way_15 ?_
  replace hw := hw.2
  refine z_name (fun v4 ev4 => ?_)
  replace hw := hw v4 ev4
  refine z_iload_n C 1 rfl rfl dX5_way_16 ?_
  refine z_bipush C (by decide +kernel) dX5_way_17 ?_
  refine z_irem C hw.1 dX5_way_19 ?_
  replace hw := hw.2
  refine z_name (fun v5 ev5 => ?_)
  replace hw := hw v5 ev5
  refine z_isub C dX5_way_20 ?_
  refine z_callS (n := 1) C (c_X5_size l D E   (v4 - v5) hw) qF0_ok (fun _ _ _ => trivial) gX5_way_X5_size rfl (by decide +kernel) ⟨(Nat.le_of_ble_eq_true rfl), (Nat.le_of_ble_eq_true rfl)⟩ rfl [] rfl rfl (Nat.le_of_ble_eq_true rfl) dX5_way_21 (fun r6 hw => ?_)
  show qZ X 0 0 [] _ _ [.int (qI r6), .int (qI r3)]
  refine z_iadd C dX5_way_24 ?_
  exact hend 25 _ (r3 + r6) dX5_way_25 hw
def wp_X5_halved_24 (Φ : Int → Prop)  (x1 : Int) : Prop := Φ x1
def wp_X5_halved_5 (Φ : Int → Prop)  (x0 : Int) : Nat → Int → Int → Prop
  | 0, _, _ => False
  | n9 + 1, x1, x2 => ((qR x2 ∧ qR x0) ∧ (x0 ≤ x2 → wp_X5_halved_24 Φ  x1) ∧ (¬ (x0 ≤ x2) → (qR x1 ∧ (x1 ≤ (0 : Int) → wp_X5_halved_24 Φ  x1) ∧ (¬ (x1 ≤ (0 : Int)) → (qP x1 (2 : Int) ∧ (∀ v3 : Int, v3 = x1 / (2 : Int) → (∀ v4 : Int, v4 = x2 + (1 : Int) → wp_X5_halved_5 Φ  x0 n9 v3 v4)))))))
def wp_X5_halved (x0 : Int)  (Φ : Int → Prop) : Prop := ∃ n : Nat, wp_X5_halved_5 Φ  x0 n (100 : Int) (0 : Int)
set_option maxHeartbeats 4000000 in
set_option maxRecDepth 100000 in
theorem c_X5_halved (l : Launch) (D : va_G) (E : Nat → ClassId)   (x0 : Int) {Φ : Int → Prop} (hw : wp_X5_halved x0  Φ) : qRO l D E qF0 yX5_halved wsX5_halved 0 0 [] [.int (qI x0)] qeI (fun r => Φ r) := by
  refine qRO_int (nL := 3) (own := RX5) qF0_ok (by decide) rfl rfl (Nat.le_of_ble_eq_true rfl) (fun X C hend => ?_)
  have hB24 : ∀ x1 : Int, wp_X5_halved_24 Φ  x1 → qZ X 0 0 [] 24 [(1, .int (qI x1))] [] := by
    intro x1 hw
    unfold wp_X5_halved_24 at hw
    refine z_iload_n C 0 rfl rfl dX5_halved_24 ?_
    exact hend 25 _ x1 dX5_halved_25 hw
  have hB5 : ∀ x0 : Int, ∀ n8 : Nat, ∀ x1 : Int, ∀ x2 : Int, wp_X5_halved_5 Φ  x0 n8 x1 x2 → qZ X 0 0 [] 5 [(0, .int (qI x0)), (1, .int (qI x1)), (2, .int (qI x2))] [] := by
    intro x0 n8
    induction n8 with
    | zero =>
      intro x1 x2 hw
      exact hw.elim
    | succ n9 ih =>
      intro x1 x2 hw
      unfold wp_X5_halved_5 at hw
      refine z_iload_n C 2 rfl rfl dX5_halved_5 ?_
      refine z_iload_n C 0 rfl rfl dX5_halved_6 ?_
      refine z_icmp_ge (tgt := 24) C hw.1 (by decide) dX5_halved_7 (fun c1 => ?_) (fun c1 => ?_)
      · replace hw := hw.2.1 c1
        refine z_lst (ps := [1]) (lv' := [(1, .int (qI x1))]) (st' := []) rfl rfl ?_
        exact hB24 x1 hw
      · replace hw := hw.2.2 c1
        refine z_iload_n C 1 rfl rfl dX5_halved_10 ?_
        refine z_if_le (tgt := 24) C hw.1 (by decide) dX5_halved_11 (fun c2 => ?_) (fun c2 => ?_)
        · replace hw := hw.2.1 c2
          refine z_lst (ps := [1]) (lv' := [(1, .int (qI x1))]) (st' := []) rfl rfl ?_
          exact hB24 x1 hw
        · replace hw := hw.2.2 c2
          refine z_iload_n C 1 rfl rfl dX5_halved_14 ?_
          refine z_iconst C dX5_halved_15 ?_
          refine z_idiv C hw.1 dX5_halved_16 ?_
          replace hw := hw.2
          refine z_name (fun v3 ev3 => ?_)
          replace hw := hw v3 ev3
          refine z_istore_n C rfl (by decide) rfl dX5_halved_17 ?_
          obtain ⟨v4, ev4⟩ : ∃ v4 : Int, v4 = x2 + (1 : Int) := ⟨_, rfl⟩
          replace hw := hw v4 ev4
          refine z_iinc C 2 rfl (by decide) v4 ev4 rfl dX5_halved_18 ?_
          refine z_goto (tgt := 5) C (by decide) dX5_halved_21 ?_
          refine z_lst (ps := [2, 1, 0]) (lv' := [(0, .int (qI x0)), (1, .int (qI v3)), (2, .int (qI v4))]) (st' := []) rfl rfl ?_
          exact ih v3 v4 hw
  unfold wp_X5_halved at hw
  show qZ X 0 0 [] 0 [(0, .int (qI x0))] []
  refine z_bipush C (by decide +kernel) dX5_halved_0 ?_
  refine z_istore_n C rfl (by decide) rfl dX5_halved_2 ?_
  refine z_iconst C dX5_halved_3 ?_
  refine z_istore_n C rfl (by decide) rfl dX5_halved_4 ?_
  refine z_lst (ps := [2, 1, 0]) (lv' := [(0, .int (qI x0)), (1, .int (qI (100 : Int))), (2, .int (qI (0 : Int)))]) (st' := []) rfl rfl ?_
  obtain ⟨n8, hw⟩ := hw
  exact hB5 x0 n8 (100 : Int) (0 : Int) hw
def wp_X5_fading_81 (Φ : Int → Prop)  (k0 : Int) : Prop := Φ k0
def wp_X5_fading_72 (Φ : Int → Prop)  (x2 : Int) : Prop := (qR x2 ∧ ((0 : Int) ≤ x2 → wp_X5_fading_81 Φ  x2) ∧ (¬ ((0 : Int) ≤ x2) → wp_X5_fading_81 Φ  (0 : Int)))
def wp_X5_fading_71 (Φ : Int → Prop)  (k0 : Int) : Prop := wp_X5_fading_72 Φ  k0
def wp_X5_fading (x0 : Int) (x1 : Int)  (Φ : Int → Prop) : Prop := (qR x0 ∧ ((x0 < (0 : Int) ∨ (2 : Int) < x0) → ((qR x1 ∧ qR (8 : Int)) ∧ ((8 : Int) ≤ x1 → wp_X5_fading_71 Φ  (0 : Int)) ∧ (¬ ((8 : Int) ≤ x1) → wp_X5_fading_71 Φ  (100 : Int)))) ∧ (x0 = (0 : Int) → (∀ v3 : Int, v3 = ((100 : Int) - ((20 : Int) * x1)) → wp_X5_fading_72 Φ  v3)) ∧ (x0 = (1 : Int) → (∀ v4 : Int, v4 = ((100 : Int) - ((4 : Int) * x1)) → wp_X5_fading_72 Φ  v4)) ∧ (x0 = (2 : Int) → (qP x1 (5 : Int) ∧ (∀ v5 : Int, v5 = x1 / (5 : Int) → wp_X5_halved v5 (fun (r6 : Int) => wp_X5_fading_72 Φ  r6)))))
set_option maxHeartbeats 4000000 in
set_option maxRecDepth 100000 in
theorem c_X5_fading (l : Launch) (D : va_G) (E : Nat → ClassId)   (x0 : Int) (x1 : Int) {Φ : Int → Prop} (hw : wp_X5_fading x0 x1  Φ) : qRO l D E qF0 yX5_fading wsX5_fading 1 22 [] [.int (qI x0), .int (qI x1)] qeI (fun r => Φ r) := by
  refine qRO_int (nL := 3) (own := RX5) qF0_ok (by decide) rfl rfl (Nat.le_of_ble_eq_true rfl) (fun X C hend => ?_)
  have hB81 : ∀ k0 : Int, wp_X5_fading_81 Φ  k0 → qZ X 0 0 [] 81 [] [.int (qI k0)] := by
    intro k0 hw
    unfold wp_X5_fading_81 at hw
    exact hend 81 _ k0 dX5_fading_81 hw
  have hB72 : ∀ x2 : Int, wp_X5_fading_72 Φ  x2 → qZ X 0 0 [] 72 [(2, .int (qI x2))] [] := by
    intro x2 hw
    unfold wp_X5_fading_72 at hw
    refine z_iload_n C 0 rfl rfl dX5_fading_72 ?_
    refine z_if_ge (tgt := 80) C hw.1 (by decide) dX5_fading_73 (fun c1 => ?_) (fun c1 => ?_)
    · replace hw := hw.2.1 c1
      refine z_iload_n C 0 rfl rfl dX5_fading_80 ?_
      refine z_lst (ps := []) (lv' := []) (st' := [.int (qI x2)]) rfl rfl ?_
      exact hB81 x2 hw
    · replace hw := hw.2.2 c1
      refine z_iconst C dX5_fading_76 ?_
      refine z_goto (tgt := 81) C (by decide) dX5_fading_77 ?_
      refine z_lst (ps := []) (lv' := []) (st' := [.int (qI (0 : Int))]) rfl rfl ?_
      exact hB81 (0 : Int) hw
  have hB71 : ∀ k0 : Int, wp_X5_fading_71 Φ  k0 → qZ X 0 0 [] 71 [] [.int (qI k0)] := by
    intro k0 hw
    unfold wp_X5_fading_71 at hw
    refine z_istore_n C rfl (by decide) rfl dX5_fading_71 ?_
    refine z_lst (ps := [0]) (lv' := [(2, .int (qI k0))]) (st' := []) rfl rfl ?_
    exact hB72 k0 hw
  unfold wp_X5_fading at hw
  show qZ X 0 0 [] 0 [(0, .int (qI x0)), (1, .int (qI x1))] []
  refine z_iload_n C 0 rfl rfl dX5_fading_0 ?_
  rcases (show (x0 < (0 : Int) ∨ (2 : Int) < x0) ∨ x0 = (0 : Int) ∨ x0 = (1 : Int) ∨ x0 = (2 : Int) by omega) with c7 | c7 | c7 | c7
  · refine z_swOut (tgt := 59) C hw.1 c7 (by decide) dX5_fading_1 ?_
    replace hw := hw.2.1 c7
    refine z_iload_n C 1 rfl rfl dX5_fading_59 ?_
    refine z_bipush C (by decide +kernel) dX5_fading_60 ?_
    refine z_icmp_ge (tgt := 70) C hw.1 (by decide) dX5_fading_62 (fun c2 => ?_) (fun c2 => ?_)
    · replace hw := hw.2.1 c2
      refine z_iconst C dX5_fading_70 ?_
      refine z_lst (ps := []) (lv' := []) (st' := [.int (qI (0 : Int))]) rfl rfl ?_
      exact hB71 (0 : Int) hw
    · replace hw := hw.2.2 c2
      refine z_bipush C (by decide +kernel) dX5_fading_65 ?_
      refine z_goto (tgt := 71) C (by decide) dX5_fading_67 ?_
      refine z_lst (ps := []) (lv' := []) (st' := [.int (qI (100 : Int))]) rfl rfl ?_
      exact hB71 (100 : Int) hw
  · refine z_swIn (off := (27 : Int)) (tgt := 28) C hw.1 (by omega) (by omega) (by rw [c7]; rfl) (by decide) dX5_fading_1 ?_
    replace hw := hw.2.2.1 c7
    refine z_bipush C (by decide +kernel) dX5_fading_28 ?_
    refine z_bipush C (by decide +kernel) dX5_fading_30 ?_
    refine z_iload_n C 1 rfl rfl dX5_fading_32 ?_
    refine z_imul C dX5_fading_33 ?_
    refine z_isub C dX5_fading_34 ?_
    refine z_name (fun v3 ev3 => ?_)
    replace hw := hw v3 ev3
    refine z_istore_n C rfl (by decide) rfl dX5_fading_35 ?_
    refine z_goto (tgt := 72) C (by decide) dX5_fading_36 ?_
    refine z_lst (ps := [0]) (lv' := [(2, .int (qI v3))]) (st' := []) rfl rfl ?_
    exact hB72 v3 hw
  · refine z_swIn (off := (38 : Int)) (tgt := 39) C hw.1 (by omega) (by omega) (by rw [c7]; rfl) (by decide) dX5_fading_1 ?_
    replace hw := hw.2.2.2.1 c7
    refine z_bipush C (by decide +kernel) dX5_fading_39 ?_
    refine z_iconst C dX5_fading_41 ?_
    refine z_iload_n C 1 rfl rfl dX5_fading_42 ?_
    refine z_imul C dX5_fading_43 ?_
    refine z_isub C dX5_fading_44 ?_
    refine z_name (fun v4 ev4 => ?_)
    replace hw := hw v4 ev4
    refine z_istore_n C rfl (by decide) rfl dX5_fading_45 ?_
    refine z_goto (tgt := 72) C (by decide) dX5_fading_46 ?_
    refine z_lst (ps := [0]) (lv' := [(2, .int (qI v4))]) (st' := []) rfl rfl ?_
    exact hB72 v4 hw
  · refine z_swIn (off := (48 : Int)) (tgt := 49) C hw.1 (by omega) (by omega) (by rw [c7]; rfl) (by decide) dX5_fading_1 ?_
    replace hw := hw.2.2.2.2 c7
    refine z_iload_n C 1 rfl rfl dX5_fading_49 ?_
    refine z_iconst C dX5_fading_50 ?_
    refine z_idiv C hw.1 dX5_fading_51 ?_
    replace hw := hw.2
    refine z_name (fun v5 ev5 => ?_)
    replace hw := hw v5 ev5
    refine z_callS (n := 1) C (c_X5_halved l D E   v5 hw) qF0_ok (fun _ _ _ => trivial) gX5_fading_X5_halved rfl (by decide +kernel) ⟨(Nat.le_of_ble_eq_true rfl), (Nat.le_of_ble_eq_true rfl)⟩ rfl [] rfl rfl (Nat.le_of_ble_eq_true rfl) dX5_fading_52 (fun r6 hw => ?_)
    show qZ X 0 0 [] _ _ [.int (qI r6)]
    refine z_istore_n C rfl (by decide) rfl dX5_fading_55 ?_
    refine z_goto (tgt := 72) C (by decide) dX5_fading_56 ?_
    refine z_lst (ps := [0]) (lv' := [(2, .int (qI r6))]) (st' := []) rfl rfl ?_
    exact hB72 r6 hw
def wp_X5_spotAt (x1 : Int) (ms : Nat → Int) (Φ : Int → Prop) : Prop := ((0 ≤ ((7 : Int) + x1) ∧ ((7 : Int) + x1) < 635) ∧ (∀ v1 : Int, v1 = ms (((7 : Int) + x1)).toNat → Φ v1))
theorem iX5_spotAt_X5 : ∀ w ∈ wsX50, w ∈ wsX5_spotAt := fun w h => List.mem_cons_of_mem _ (List.mem_append_right _ (h))
set_option maxHeartbeats 4000000 in
set_option maxRecDepth 100000 in
theorem c_X5_spotAt (l : Launch) (D : va_G) (E : Nat → ClassId) (m0 m1 m2 m3 m4 m5 m6 m7 : Nat) (th : Int) (sm : Int) (le : Int) (tk : Int) (fr : Int) (ti : Int) (fa : Int) (ms : Nat → Int) (ma : Nat → Int) (mv : Nat → Int) (mt : Nat → Int) (mn : Nat → Int) (ml : Nat → Int) (mr : Nat → Int) (x1 : Int) {Φ : Int → Prop} (hw : wp_X5_spotAt x1 ms Φ) : qRO l D E qF0 yX5_spotAt wsX5_spotAt 0 0 [(m0, .inr (5, [.int (qI th), .ref m1, .ref m2, .ref m3, .int (qI sm), .ref m4, .int (qI le), .ref m5, .ref m6, .ref m7, .int (qI tk), .int (qI fr), .int (qI ti), .int (qI fa)])), (m1, qA (E 0) 635 ms), (m2, qA (E 0) 635 ma), (m3, qA (E 0) 3175 mv), (m4, qA (E 0) 140 mt), (m5, qA (E 0) 2 mn), (m6, qA (E 0) 64 ml), (m7, qA (E 0) 49152 mr)] [.ref m0, .int (qI x1)] qeI (fun r => Φ r) := by
  refine qRO_int (nL := 2) (own := RX5) qF0_ok (by decide) rfl rfl (Nat.le_of_ble_eq_true rfl) (fun X C hend => ?_)
  unfold wp_X5_spotAt at hw
  show qZ X 0 0 [(m0, .inr (5, [.int (qI th), .ref m1, .ref m2, .ref m3, .int (qI sm), .ref m4, .int (qI le), .ref m5, .ref m6, .ref m7, .int (qI tk), .int (qI fr), .int (qI ti), .int (qI fa)])), (m1, qA (E 0) 635 ms), (m2, qA (E 0) 635 ma), (m3, qA (E 0) 3175 mv), (m4, qA (E 0) 140 mt), (m5, qA (E 0) 2 mn), (m6, qA (E 0) 64 ml), (m7, qA (E 0) 49152 mr)] 0 [(0, .ref m0), (1, .int (qI x1))] []
  refine z_aload_n C 0 rfl rfl dX5_spotAt_0 ?_
  refine z_get C iX5_spotAt_X5 0 rfl rfl 1 (by decide) (List.mem_of_getElem? (i := 1) rfl) rfl rfl dX5_spotAt_1 ?_
  refine z_bipush C (by decide +kernel) dX5_spotAt_4 ?_
  refine z_iload_n C 1 rfl rfl dX5_spotAt_6 ?_
  refine z_iadd C dX5_spotAt_7 ?_
  refine z_iald C 1 rfl (by decide) hw.1 dX5_spotAt_8 ?_
  replace hw := hw.2
  refine z_name (fun v1 ev1 => ?_)
  replace hw := hw v1 ev1
  exact hend 9 _ v1 dX5_spotAt_9 hw
def wp_X5_lastTick_6 (Φ : Int → Prop)  (ms : Nat → Int) : Nat → Int → Int → Int → Prop
  | 0, _, _, _ => False
  | n9 + 1, x1, x2, x3 => ((0 ≤ (6 : Int) ∧ (6 : Int) < 635) ∧ (∀ v1 : Int, v1 = ms ((6 : Int)).toNat → ((qR x3 ∧ qR v1) ∧ (v1 ≤ x3 → Φ x1) ∧ (¬ (v1 ≤ x3) → wp_X5_spotAt x3 ms (fun (r3 : Int) => wp_X5_way x2 r3 (fun (r4 : Int) => ((0 ≤ (1 : Int) ∧ (1 : Int) < 635) ∧ (∀ v5 : Int, v5 = ms ((1 : Int)).toNat → (∀ v6 : Int, v6 = (x1 + ((r4 * v5) + (1 : Int))) → wp_X5_spotAt x3 ms (fun (r7 : Int) => (∀ v8 : Int, v8 = x3 + (1 : Int) → wp_X5_lastTick_6 Φ  ms n9 v6 r7 v8)))))))))))
def wp_X5_lastTick  (ms : Nat → Int) (Φ : Int → Prop) : Prop := ∃ n : Nat, wp_X5_lastTick_6 Φ  ms n (0 : Int) (0 : Int) (0 : Int)
theorem iX5_lastTick_X5 : ∀ w ∈ wsX50, w ∈ wsX5_lastTick := fun w h => List.mem_cons_of_mem _ (List.mem_append_right _ (h))
set_option maxHeartbeats 4000000 in
set_option maxRecDepth 100000 in
theorem c_X5_lastTick (l : Launch) (D : va_G) (E : Nat → ClassId) (m0 m1 m2 m3 m4 m5 m6 m7 : Nat) (th : Int) (sm : Int) (le : Int) (tk : Int) (fr : Int) (ti : Int) (fa : Int) (ms : Nat → Int) (ma : Nat → Int) (mv : Nat → Int) (mt : Nat → Int) (mn : Nat → Int) (ml : Nat → Int) (mr : Nat → Int)  {Φ : Int → Prop} (hw : wp_X5_lastTick  ms Φ) : qRO l D E qF0 yX5_lastTick wsX5_lastTick 2 41 [(m0, .inr (5, [.int (qI th), .ref m1, .ref m2, .ref m3, .int (qI sm), .ref m4, .int (qI le), .ref m5, .ref m6, .ref m7, .int (qI tk), .int (qI fr), .int (qI ti), .int (qI fa)])), (m1, qA (E 0) 635 ms), (m2, qA (E 0) 635 ma), (m3, qA (E 0) 3175 mv), (m4, qA (E 0) 140 mt), (m5, qA (E 0) 2 mn), (m6, qA (E 0) 64 ml), (m7, qA (E 0) 49152 mr)] [.ref m0] qeI (fun r => Φ r) := by
  refine qRO_int (nL := 4) (own := RX5) qF0_ok (by decide) rfl rfl (Nat.le_of_ble_eq_true rfl) (fun X C hend => ?_)
  have hB6 : ∀ n8 : Nat, ∀ x1 : Int, ∀ x2 : Int, ∀ x3 : Int, wp_X5_lastTick_6 Φ  ms n8 x1 x2 x3 → qZ X 0 0 [(m0, .inr (5, [.int (qI th), .ref m1, .ref m2, .ref m3, .int (qI sm), .ref m4, .int (qI le), .ref m5, .ref m6, .ref m7, .int (qI tk), .int (qI fr), .int (qI ti), .int (qI fa)])), (m1, qA (E 0) 635 ms), (m2, qA (E 0) 635 ma), (m3, qA (E 0) 3175 mv), (m4, qA (E 0) 140 mt), (m5, qA (E 0) 2 mn), (m6, qA (E 0) 64 ml), (m7, qA (E 0) 49152 mr)] 6 [(0, .ref m0), (1, .int (qI x1)), (2, .int (qI x2)), (3, .int (qI x3))] [] := by
    intro n8
    induction n8 with
    | zero =>
      intro x1 x2 x3 hw
      exact hw.elim
    | succ n9 ih =>
      intro x1 x2 x3 hw
      unfold wp_X5_lastTick_6 at hw
      refine z_iload_n C 3 rfl rfl dX5_lastTick_6 ?_
      refine z_aload_n C 0 rfl rfl dX5_lastTick_7 ?_
      refine z_get C iX5_lastTick_X5 0 rfl rfl 1 (by decide) (List.mem_of_getElem? (i := 1) rfl) rfl rfl dX5_lastTick_8 ?_
      refine z_bipush C (by decide +kernel) dX5_lastTick_11 ?_
      refine z_iald C 1 rfl (by decide) hw.1 dX5_lastTick_13 ?_
      replace hw := hw.2
      refine z_name (fun v1 ev1 => ?_)
      replace hw := hw v1 ev1
      refine z_icmp_ge (tgt := 50) C hw.1 (by decide) dX5_lastTick_14 (fun c2 => ?_) (fun c2 => ?_)
      · replace hw := hw.2.1 c2
        refine z_iload_n C 1 rfl rfl dX5_lastTick_50 ?_
        exact hend 51 _ x1 dX5_lastTick_51 hw
      · replace hw := hw.2.2 c2
        refine z_iload_n C 1 rfl rfl dX5_lastTick_17 ?_
        refine z_iload_n C 2 rfl rfl dX5_lastTick_18 ?_
        refine z_aload_n C 0 rfl rfl dX5_lastTick_19 ?_
        refine z_iload_n C 3 rfl rfl dX5_lastTick_20 ?_
        refine z_callV (n := 1) C (c_X5_spotAt l D E m0 m1 m2 m3 m4 m5 m6 m7 th sm le tk fr ti fa ms ma mv mt mn ml mr x3 hw) qF0_ok (fun _ _ _ => trivial) gX5_lastTick_X5_spotAt rfl (by decide +kernel) ⟨(Nat.le_of_ble_eq_true rfl), (Nat.le_of_ble_eq_true rfl)⟩ rfl 0 rfl rfl [0, 1, 2, 3, 4, 5, 6, 7] rfl rfl (Nat.le_of_ble_eq_true rfl) dX5_lastTick_21 (fun r3 hw => ?_)
        show qZ X 0 0 [(m0, .inr (5, [.int (qI th), .ref m1, .ref m2, .ref m3, .int (qI sm), .ref m4, .int (qI le), .ref m5, .ref m6, .ref m7, .int (qI tk), .int (qI fr), .int (qI ti), .int (qI fa)])), (m1, qA (E 0) 635 ms), (m2, qA (E 0) 635 ma), (m3, qA (E 0) 3175 mv), (m4, qA (E 0) 140 mt), (m5, qA (E 0) 2 mn), (m6, qA (E 0) 64 ml), (m7, qA (E 0) 49152 mr)] _ _ [.int (qI r3), .int (qI x2), .int (qI x1)]
        refine z_callS (n := 2) C (c_X5_way l D E   x2 r3 hw) qF0_ok (fun _ _ _ => trivial) gX5_lastTick_X5_way rfl (by decide +kernel) ⟨(Nat.le_of_ble_eq_true rfl), (Nat.le_of_ble_eq_true rfl)⟩ rfl [] rfl rfl (Nat.le_of_ble_eq_true rfl) dX5_lastTick_24 (fun r4 hw => ?_)
        show qZ X 0 0 [(m0, .inr (5, [.int (qI th), .ref m1, .ref m2, .ref m3, .int (qI sm), .ref m4, .int (qI le), .ref m5, .ref m6, .ref m7, .int (qI tk), .int (qI fr), .int (qI ti), .int (qI fa)])), (m1, qA (E 0) 635 ms), (m2, qA (E 0) 635 ma), (m3, qA (E 0) 3175 mv), (m4, qA (E 0) 140 mt), (m5, qA (E 0) 2 mn), (m6, qA (E 0) 64 ml), (m7, qA (E 0) 49152 mr)] _ _ [.int (qI r4), .int (qI x1)]
        refine z_aload_n C 0 rfl rfl dX5_lastTick_27 ?_
        refine z_get C iX5_lastTick_X5 0 rfl rfl 1 (by decide) (List.mem_of_getElem? (i := 1) rfl) rfl rfl dX5_lastTick_28 ?_
        refine z_iconst C dX5_lastTick_31 ?_
        refine z_iald C 1 rfl (by decide) hw.1 dX5_lastTick_32 ?_
        replace hw := hw.2
        refine z_name (fun v5 ev5 => ?_)
        replace hw := hw v5 ev5
        refine z_imul C dX5_lastTick_33 ?_
        refine z_iconst C dX5_lastTick_34 ?_
        refine z_iadd C dX5_lastTick_35 ?_
        refine z_iadd C dX5_lastTick_36 ?_
        refine z_name (fun v6 ev6 => ?_)
        replace hw := hw v6 ev6
        refine z_istore_n C rfl (by decide) rfl dX5_lastTick_37 ?_
        refine z_aload_n C 1 rfl rfl dX5_lastTick_38 ?_
        refine z_iload_n C 3 rfl rfl dX5_lastTick_39 ?_
        refine z_callV (n := 1) C (c_X5_spotAt l D E m0 m1 m2 m3 m4 m5 m6 m7 th sm le tk fr ti fa ms ma mv mt mn ml mr x3 hw) qF0_ok (fun _ _ _ => trivial) gX5_lastTick_X5_spotAt rfl (by decide +kernel) ⟨(Nat.le_of_ble_eq_true rfl), (Nat.le_of_ble_eq_true rfl)⟩ rfl 0 rfl rfl [0, 1, 2, 3, 4, 5, 6, 7] rfl rfl (Nat.le_of_ble_eq_true rfl) dX5_lastTick_40 (fun r7 hw => ?_)
        show qZ X 0 0 [(m0, .inr (5, [.int (qI th), .ref m1, .ref m2, .ref m3, .int (qI sm), .ref m4, .int (qI le), .ref m5, .ref m6, .ref m7, .int (qI tk), .int (qI fr), .int (qI ti), .int (qI fa)])), (m1, qA (E 0) 635 ms), (m2, qA (E 0) 635 ma), (m3, qA (E 0) 3175 mv), (m4, qA (E 0) 140 mt), (m5, qA (E 0) 2 mn), (m6, qA (E 0) 64 ml), (m7, qA (E 0) 49152 mr)] _ _ [.int (qI r7)]
        refine z_istore_n C rfl (by decide) rfl dX5_lastTick_43 ?_
        obtain ⟨v8, ev8⟩ : ∃ v8 : Int, v8 = x3 + (1 : Int) := ⟨_, rfl⟩
        replace hw := hw v8 ev8
        refine z_iinc C 3 rfl (by decide) v8 ev8 rfl dX5_lastTick_44 ?_
        refine z_goto (tgt := 6) C (by decide) dX5_lastTick_47 ?_
        refine z_lst (ps := [3, 2, 1, 0]) (lv' := [(0, .ref m0), (1, .int (qI v6)), (2, .int (qI r7)), (3, .int (qI v8))]) (st' := []) rfl rfl ?_
        exact ih v6 r7 v8 hw
  unfold wp_X5_lastTick at hw
  show qZ X 0 0 [(m0, .inr (5, [.int (qI th), .ref m1, .ref m2, .ref m3, .int (qI sm), .ref m4, .int (qI le), .ref m5, .ref m6, .ref m7, .int (qI tk), .int (qI fr), .int (qI ti), .int (qI fa)])), (m1, qA (E 0) 635 ms), (m2, qA (E 0) 635 ma), (m3, qA (E 0) 3175 mv), (m4, qA (E 0) 140 mt), (m5, qA (E 0) 2 mn), (m6, qA (E 0) 64 ml), (m7, qA (E 0) 49152 mr)] 0 [(0, .ref m0)] []
  refine z_iconst C dX5_lastTick_0 ?_
  refine z_istore_n C rfl (by decide) rfl dX5_lastTick_1 ?_
  refine z_iconst C dX5_lastTick_2 ?_
  refine z_istore_n C rfl (by decide) rfl dX5_lastTick_3 ?_
  refine z_iconst C dX5_lastTick_4 ?_
  refine z_istore_n C rfl (by decide) rfl dX5_lastTick_5 ?_
  refine z_lst (ps := [3, 2, 1, 0]) (lv' := [(0, .ref m0), (1, .int (qI (0 : Int))), (2, .int (qI (0 : Int))), (3, .int (qI (0 : Int)))]) (st' := []) rfl rfl ?_
  obtain ⟨n8, hw⟩ := hw
  exact hB6 n8 (0 : Int) (0 : Int) (0 : Int) hw
def wp_X5_beam_87 (Φ : (Nat → Int) → Prop) (K28 : Int → Int → Int → (Nat → Int) → Prop) (x1 : Int) (x2 : Int) (x3 : Int) (k1 : Int) (k2 : Int) (ms : Nat → Int) (ml : Nat → Int) : Prop := ((0 ≤ k1 ∧ k1 < 64) ∧ ∀ g1 : Nat → Int, g1 = qU ml (k1).toNat k2 → (∀ v2 : Int, v2 = x3 + (1 : Int) → K28 x1 x2 v2 g1))
def wp_X5_beam_28 (Φ : (Nat → Int) → Prop)  (ms : Nat → Int) : Nat → Int → Int → Int → (Nat → Int) → Prop
  | 0, _, _, _, _ => False
  | n9 + 1, x1, x2, x3, ml => ((0 ≤ (6 : Int) ∧ (6 : Int) < 635) ∧ (∀ v3 : Int, v3 = ms ((6 : Int)).toNat → ((qR x3 ∧ qR v3) ∧ (v3 ≤ x3 → Φ ml) ∧ (¬ (v3 ≤ x3) → wp_X5_spotAt x3 ms (fun (r5 : Int) => wp_X5_way x2 r5 (fun (r6 : Int) => ((0 ≤ (1 : Int) ∧ (1 : Int) < 635) ∧ (∀ v7 : Int, v7 = ms ((1 : Int)).toNat → (∀ v8 : Int, v8 = (x1 + ((r6 * v7) + (1 : Int))) → wp_X5_spotAt x3 ms (fun (r9 : Int) => ((0 ≤ (0 : Int) ∧ (0 : Int) < 635) ∧ (∀ v10 : Int, v10 = ms ((0 : Int)).toNat → ((qR v8 ∧ qR v10) ∧ (v10 ≤ v8 → wp_X5_beam_87 Φ (wp_X5_beam_28 Φ  ms n9) v8 r9 x3 r9 (-9 : Int) ms ml) ∧ (¬ (v10 ≤ v8) → wp_X5_beam_87 Φ (wp_X5_beam_28 Φ  ms n9) v8 r9 x3 r9 v8 ms ml))))))))))))))
def wp_X5_beam_2 (Φ : (Nat → Int) → Prop)  (ms : Nat → Int) : Nat → Int → (Nat → Int) → Prop
  | 0, _, _ => False
  | n9 + 1, x1, ml => ((qR x1 ∧ qR (64 : Int)) ∧ ((64 : Int) ≤ x1 → ∃ n : Nat, wp_X5_beam_28 Φ  ms n (0 : Int) (0 : Int) (0 : Int) ml) ∧ (¬ ((64 : Int) ≤ x1) → ((0 ≤ x1 ∧ x1 < 64) ∧ ∀ g13 : Nat → Int, g13 = qU ml (x1).toNat (-9 : Int) → (∀ v14 : Int, v14 = x1 + (1 : Int) → wp_X5_beam_2 Φ  ms n9 v14 g13))))
def wp_X5_beam  (ms : Nat → Int) (ml : Nat → Int) (Φ : (Nat → Int) → Prop) : Prop := ∃ n : Nat, wp_X5_beam_2 Φ  ms n (0 : Int) ml
theorem iX5_beam_X5 : ∀ w ∈ wsX50, w ∈ wsX5_beam := fun w h => List.mem_cons_of_mem _ (List.mem_append_right _ (h))
set_option maxHeartbeats 4000000 in
set_option maxRecDepth 100000 in
theorem c_X5_beam (l : Launch) (D : va_G) (E : Nat → ClassId) (m0 m1 m2 m3 m4 m5 m6 m7 : Nat) (th : Int) (sm : Int) (le : Int) (tk : Int) (fr : Int) (ti : Int) (fa : Int) (ms : Nat → Int) (ma : Nat → Int) (mv : Nat → Int) (mt : Nat → Int) (mn : Nat → Int) (ml : Nat → Int) (mr : Nat → Int)  {Φ : (Nat → Int) → Prop} (hw : wp_X5_beam  ms ml Φ) : qRW (σ := (Nat → Int)) l D E qF0 yX5_beam wsX5_beam 2 41 [(m0, .inr (5, [.int (qI th), .ref m1, .ref m2, .ref m3, .int (qI sm), .ref m4, .int (qI le), .ref m5, .ref m6, .ref m7, .int (qI tk), .int (qI fr), .int (qI ti), .int (qI fa)])), (m1, qA (E 0) 635 ms), (m2, qA (E 0) 635 ma), (m3, qA (E 0) 3175 mv), (m4, qA (E 0) 140 mt), (m5, qA (E 0) 2 mn), (m6, qA (E 0) 64 ml), (m7, qA (E 0) 49152 mr)] [.ref m0] qeV (fun u => [(m0, .inr (5, [.int (qI th), .ref m1, .ref m2, .ref m3, .int (qI sm), .ref m4, .int (qI le), .ref m5, .ref m6, .ref m7, .int (qI tk), .int (qI fr), .int (qI ti), .int (qI fa)])), (m1, qA (E 0) 635 ms), (m2, qA (E 0) 635 ma), (m3, qA (E 0) 3175 mv), (m4, qA (E 0) 140 mt), (m5, qA (E 0) 2 mn), (m6, qA (E 0) 64 u), (m7, qA (E 0) 49152 mr)]) (fun r u => Φ u) := by
  refine qRW_void (nL := 4) (own := RX5) qF0_ok (by decide) rfl rfl (Nat.le_of_ble_eq_true rfl) (fun X C hend => ?_)
  have hB87 : ∀ K28 : Int → Int → Int → (Nat → Int) → Prop, (∀ (x1 : Int) (x2 : Int) (x3 : Int) (ml : Nat → Int), K28 x1 x2 x3 ml → qZ X 0 0 [(m0, .inr (5, [.int (qI th), .ref m1, .ref m2, .ref m3, .int (qI sm), .ref m4, .int (qI le), .ref m5, .ref m6, .ref m7, .int (qI tk), .int (qI fr), .int (qI ti), .int (qI fa)])), (m1, qA (E 0) 635 ms), (m2, qA (E 0) 635 ma), (m3, qA (E 0) 3175 mv), (m4, qA (E 0) 140 mt), (m5, qA (E 0) 2 mn), (m6, qA (E 0) 64 ml), (m7, qA (E 0) 49152 mr)] 28 [(0, .ref m0), (1, .int (qI x1)), (2, .int (qI x2)), (3, .int (qI x3))] []) → ∀ x1 : Int, ∀ x2 : Int, ∀ x3 : Int, ∀ k1 : Int, ∀ k2 : Int, ∀ ml : Nat → Int, wp_X5_beam_87 Φ K28 x1 x2 x3 k1 k2 ms ml → qZ X 0 0 [(m0, .inr (5, [.int (qI th), .ref m1, .ref m2, .ref m3, .int (qI sm), .ref m4, .int (qI le), .ref m5, .ref m6, .ref m7, .int (qI tk), .int (qI fr), .int (qI ti), .int (qI fa)])), (m1, qA (E 0) 635 ms), (m2, qA (E 0) 635 ma), (m3, qA (E 0) 3175 mv), (m4, qA (E 0) 140 mt), (m5, qA (E 0) 2 mn), (m6, qA (E 0) 64 ml), (m7, qA (E 0) 49152 mr)] 87 [(0, .ref m0), (1, .int (qI x1)), (2, .int (qI x2)), (3, .int (qI x3))] [.int (qI k2), .int (qI k1), .ref m6] := by
    intro K28 hK28 x1 x2 x3 k1 k2 ml hw
    unfold wp_X5_beam_87 at hw
    refine z_iast C 6 rfl (by decide) hw.1 (fun g1 => [(m0, .inr (5, [.int (qI th), .ref m1, .ref m2, .ref m3, .int (qI sm), .ref m4, .int (qI le), .ref m5, .ref m6, .ref m7, .int (qI tk), .int (qI fr), .int (qI ti), .int (qI fa)])), (m1, qA (E 0) 635 ms), (m2, qA (E 0) 635 ma), (m3, qA (E 0) 3175 mv), (m4, qA (E 0) 140 mt), (m5, qA (E 0) 2 mn), (m6, qA (E 0) 64 g1), (m7, qA (E 0) 49152 mr)]) (fun _ => rfl) dX5_beam_87 (fun g1 eg1 => ?_)
    replace hw := hw.2 g1 eg1
    obtain ⟨v2, ev2⟩ : ∃ v2 : Int, v2 = x3 + (1 : Int) := ⟨_, rfl⟩
    replace hw := hw v2 ev2
    refine z_iinc C 3 rfl (by decide) v2 ev2 rfl dX5_beam_88 ?_
    refine z_goto (tgt := 28) C (by decide) dX5_beam_91 ?_
    refine z_lst (ps := [1, 2, 3, 0]) (lv' := [(0, .ref m0), (1, .int (qI x1)), (2, .int (qI x2)), (3, .int (qI v2))]) (st' := []) rfl rfl ?_
    exact hK28 x1 x2 v2 g1 hw
  have hB28 : ∀ n8 : Nat, ∀ x1 : Int, ∀ x2 : Int, ∀ x3 : Int, ∀ ml : Nat → Int, wp_X5_beam_28 Φ  ms n8 x1 x2 x3 ml → qZ X 0 0 [(m0, .inr (5, [.int (qI th), .ref m1, .ref m2, .ref m3, .int (qI sm), .ref m4, .int (qI le), .ref m5, .ref m6, .ref m7, .int (qI tk), .int (qI fr), .int (qI ti), .int (qI fa)])), (m1, qA (E 0) 635 ms), (m2, qA (E 0) 635 ma), (m3, qA (E 0) 3175 mv), (m4, qA (E 0) 140 mt), (m5, qA (E 0) 2 mn), (m6, qA (E 0) 64 ml), (m7, qA (E 0) 49152 mr)] 28 [(0, .ref m0), (1, .int (qI x1)), (2, .int (qI x2)), (3, .int (qI x3))] [] := by
    intro n8
    induction n8 with
    | zero =>
      intro x1 x2 x3 ml hw
      exact hw.elim
    | succ n9 ih =>
      intro x1 x2 x3 ml hw
      unfold wp_X5_beam_28 at hw
      refine z_iload_n C 3 rfl rfl dX5_beam_28 ?_
      refine z_aload_n C 0 rfl rfl dX5_beam_29 ?_
      refine z_get C iX5_beam_X5 0 rfl rfl 1 (by decide) (List.mem_of_getElem? (i := 2) rfl) rfl rfl dX5_beam_30 ?_
      refine z_bipush C (by decide +kernel) dX5_beam_33 ?_
      refine z_iald C 1 rfl (by decide) hw.1 dX5_beam_35 ?_
      replace hw := hw.2
      refine z_name (fun v3 ev3 => ?_)
      replace hw := hw v3 ev3
      refine z_icmp_ge (tgt := 94) C hw.1 (by decide) dX5_beam_36 (fun c4 => ?_) (fun c4 => ?_)
      · replace hw := hw.2.1 c4
        exact hend 94 _ () ml dX5_beam_94 hw
      · replace hw := hw.2.2 c4
        refine z_iload_n C 1 rfl rfl dX5_beam_39 ?_
        refine z_iload_n C 2 rfl rfl dX5_beam_40 ?_
        refine z_aload_n C 0 rfl rfl dX5_beam_41 ?_
        refine z_iload_n C 3 rfl rfl dX5_beam_42 ?_
        refine z_callV (n := 1) C (c_X5_spotAt l D E m0 m1 m2 m3 m4 m5 m6 m7 th sm le tk fr ti fa ms ma mv mt mn ml mr x3 hw) qF0_ok (fun _ _ _ => trivial) gX5_beam_X5_spotAt rfl (by decide +kernel) ⟨(Nat.le_of_ble_eq_true rfl), (Nat.le_of_ble_eq_true rfl)⟩ rfl 0 rfl rfl [0, 1, 2, 3, 4, 5, 6, 7] rfl rfl (Nat.le_of_ble_eq_true rfl) dX5_beam_43 (fun r5 hw => ?_)
        show qZ X 0 0 [(m0, .inr (5, [.int (qI th), .ref m1, .ref m2, .ref m3, .int (qI sm), .ref m4, .int (qI le), .ref m5, .ref m6, .ref m7, .int (qI tk), .int (qI fr), .int (qI ti), .int (qI fa)])), (m1, qA (E 0) 635 ms), (m2, qA (E 0) 635 ma), (m3, qA (E 0) 3175 mv), (m4, qA (E 0) 140 mt), (m5, qA (E 0) 2 mn), (m6, qA (E 0) 64 ml), (m7, qA (E 0) 49152 mr)] _ _ [.int (qI r5), .int (qI x2), .int (qI x1)]
        refine z_callS (n := 2) C (c_X5_way l D E   x2 r5 hw) qF0_ok (fun _ _ _ => trivial) gX5_beam_X5_way rfl (by decide +kernel) ⟨(Nat.le_of_ble_eq_true rfl), (Nat.le_of_ble_eq_true rfl)⟩ rfl [] rfl rfl (Nat.le_of_ble_eq_true rfl) dX5_beam_46 (fun r6 hw => ?_)
        show qZ X 0 0 [(m0, .inr (5, [.int (qI th), .ref m1, .ref m2, .ref m3, .int (qI sm), .ref m4, .int (qI le), .ref m5, .ref m6, .ref m7, .int (qI tk), .int (qI fr), .int (qI ti), .int (qI fa)])), (m1, qA (E 0) 635 ms), (m2, qA (E 0) 635 ma), (m3, qA (E 0) 3175 mv), (m4, qA (E 0) 140 mt), (m5, qA (E 0) 2 mn), (m6, qA (E 0) 64 ml), (m7, qA (E 0) 49152 mr)] _ _ [.int (qI r6), .int (qI x1)]
        refine z_aload_n C 0 rfl rfl dX5_beam_49 ?_
        refine z_get C iX5_beam_X5 0 rfl rfl 1 (by decide) (List.mem_of_getElem? (i := 2) rfl) rfl rfl dX5_beam_50 ?_
        refine z_iconst C dX5_beam_53 ?_
        refine z_iald C 1 rfl (by decide) hw.1 dX5_beam_54 ?_
        replace hw := hw.2
        refine z_name (fun v7 ev7 => ?_)
        replace hw := hw v7 ev7
        refine z_imul C dX5_beam_55 ?_
        refine z_iconst C dX5_beam_56 ?_
        refine z_iadd C dX5_beam_57 ?_
        refine z_iadd C dX5_beam_58 ?_
        refine z_name (fun v8 ev8 => ?_)
        replace hw := hw v8 ev8
        refine z_istore_n C rfl (by decide) rfl dX5_beam_59 ?_
        refine z_aload_n C 1 rfl rfl dX5_beam_60 ?_
        refine z_iload_n C 3 rfl rfl dX5_beam_61 ?_
        refine z_callV (n := 1) C (c_X5_spotAt l D E m0 m1 m2 m3 m4 m5 m6 m7 th sm le tk fr ti fa ms ma mv mt mn ml mr x3 hw) qF0_ok (fun _ _ _ => trivial) gX5_beam_X5_spotAt rfl (by decide +kernel) ⟨(Nat.le_of_ble_eq_true rfl), (Nat.le_of_ble_eq_true rfl)⟩ rfl 0 rfl rfl [0, 1, 2, 3, 4, 5, 6, 7] rfl rfl (Nat.le_of_ble_eq_true rfl) dX5_beam_62 (fun r9 hw => ?_)
        show qZ X 0 0 [(m0, .inr (5, [.int (qI th), .ref m1, .ref m2, .ref m3, .int (qI sm), .ref m4, .int (qI le), .ref m5, .ref m6, .ref m7, .int (qI tk), .int (qI fr), .int (qI ti), .int (qI fa)])), (m1, qA (E 0) 635 ms), (m2, qA (E 0) 635 ma), (m3, qA (E 0) 3175 mv), (m4, qA (E 0) 140 mt), (m5, qA (E 0) 2 mn), (m6, qA (E 0) 64 ml), (m7, qA (E 0) 49152 mr)] _ _ [.int (qI r9)]
        refine z_istore_n C rfl (by decide) rfl dX5_beam_65 ?_
        refine z_aload_n C 2 rfl rfl dX5_beam_66 ?_
        refine z_get C iX5_beam_X5 0 rfl rfl 8 (by decide) (List.mem_of_getElem? (i := 1) rfl) rfl rfl dX5_beam_67 ?_
        refine z_iload_n C 0 rfl rfl dX5_beam_70 ?_
        refine z_iload_n C 1 rfl rfl dX5_beam_71 ?_
        refine z_aload_n C 2 rfl rfl dX5_beam_72 ?_
        refine z_get C iX5_beam_X5 0 rfl rfl 1 (by decide) (List.mem_of_getElem? (i := 2) rfl) rfl rfl dX5_beam_73 ?_
        refine z_iconst C dX5_beam_76 ?_
        refine z_iald C 1 rfl (by decide) hw.1 dX5_beam_77 ?_
        replace hw := hw.2
        refine z_name (fun v10 ev10 => ?_)
        replace hw := hw v10 ev10
        refine z_icmp_ge (tgt := 85) C hw.1 (by decide) dX5_beam_78 (fun c11 => ?_) (fun c11 => ?_)
        · replace hw := hw.2.1 c11
          refine z_bipush C (by decide +kernel) dX5_beam_85 ?_
          refine z_lst (ps := [2, 1, 0, 3]) (lv' := [(0, .ref m0), (1, .int (qI v8)), (2, .int (qI r9)), (3, .int (qI x3))]) (st' := [.int (qI (-9 : Int)), .int (qI r9), .ref m6]) rfl rfl ?_
          exact hB87 _ ih v8 r9 x3 r9 (-9 : Int) ml hw
        · replace hw := hw.2.2 c11
          refine z_iload_n C 1 rfl rfl dX5_beam_81 ?_
          refine z_goto (tgt := 87) C (by decide) dX5_beam_82 ?_
          refine z_lst (ps := [2, 1, 0, 3]) (lv' := [(0, .ref m0), (1, .int (qI v8)), (2, .int (qI r9)), (3, .int (qI x3))]) (st' := [.int (qI v8), .int (qI r9), .ref m6]) rfl rfl ?_
          exact hB87 _ ih v8 r9 x3 r9 v8 ml hw
  have hB2 : ∀ n8 : Nat, ∀ x1 : Int, ∀ ml : Nat → Int, wp_X5_beam_2 Φ  ms n8 x1 ml → qZ X 0 0 [(m0, .inr (5, [.int (qI th), .ref m1, .ref m2, .ref m3, .int (qI sm), .ref m4, .int (qI le), .ref m5, .ref m6, .ref m7, .int (qI tk), .int (qI fr), .int (qI ti), .int (qI fa)])), (m1, qA (E 0) 635 ms), (m2, qA (E 0) 635 ma), (m3, qA (E 0) 3175 mv), (m4, qA (E 0) 140 mt), (m5, qA (E 0) 2 mn), (m6, qA (E 0) 64 ml), (m7, qA (E 0) 49152 mr)] 2 [(0, .ref m0), (1, .int (qI x1))] [] := by
    intro n8
    induction n8 with
    | zero =>
      intro x1 ml hw
      exact hw.elim
    | succ n9 ih =>
      intro x1 ml hw
      unfold wp_X5_beam_2 at hw
      refine z_iload_n C 1 rfl rfl dX5_beam_2 ?_
      refine z_bipush C (by decide +kernel) dX5_beam_3 ?_
      refine z_icmp_ge (tgt := 22) C hw.1 (by decide) dX5_beam_5 (fun c12 => ?_) (fun c12 => ?_)
      · replace hw := hw.2.1 c12
        refine z_iconst C dX5_beam_22 ?_
        refine z_istore_n C rfl (by decide) rfl dX5_beam_23 ?_
        refine z_iconst C dX5_beam_24 ?_
        refine z_istore_n C rfl (by decide) rfl dX5_beam_25 ?_
        refine z_iconst C dX5_beam_26 ?_
        refine z_istore_n C rfl (by decide) rfl dX5_beam_27 ?_
        refine z_lst (ps := [3, 2, 1, 0]) (lv' := [(0, .ref m0), (1, .int (qI (0 : Int))), (2, .int (qI (0 : Int))), (3, .int (qI (0 : Int)))]) (st' := []) rfl rfl ?_
        obtain ⟨n8, hw⟩ := hw
        exact hB28 n8 (0 : Int) (0 : Int) (0 : Int) ml hw
      · replace hw := hw.2.2 c12
        refine z_aload_n C 0 rfl rfl dX5_beam_8 ?_
        refine z_get C iX5_beam_X5 0 rfl rfl 8 (by decide) (List.mem_of_getElem? (i := 1) rfl) rfl rfl dX5_beam_9 ?_
        refine z_iload_n C 1 rfl rfl dX5_beam_12 ?_
        refine z_bipush C (by decide +kernel) dX5_beam_13 ?_
        refine z_iast C 6 rfl (by decide) hw.1 (fun g13 => [(m0, .inr (5, [.int (qI th), .ref m1, .ref m2, .ref m3, .int (qI sm), .ref m4, .int (qI le), .ref m5, .ref m6, .ref m7, .int (qI tk), .int (qI fr), .int (qI ti), .int (qI fa)])), (m1, qA (E 0) 635 ms), (m2, qA (E 0) 635 ma), (m3, qA (E 0) 3175 mv), (m4, qA (E 0) 140 mt), (m5, qA (E 0) 2 mn), (m6, qA (E 0) 64 g13), (m7, qA (E 0) 49152 mr)]) (fun _ => rfl) dX5_beam_15 (fun g13 eg13 => ?_)
        replace hw := hw.2 g13 eg13
        obtain ⟨v14, ev14⟩ : ∃ v14 : Int, v14 = x1 + (1 : Int) := ⟨_, rfl⟩
        replace hw := hw v14 ev14
        refine z_iinc C 1 rfl (by decide) v14 ev14 rfl dX5_beam_16 ?_
        refine z_goto (tgt := 2) C (by decide) dX5_beam_19 ?_
        refine z_lst (ps := [1, 0]) (lv' := [(0, .ref m0), (1, .int (qI v14))]) (st' := []) rfl rfl ?_
        exact ih v14 g13 hw
  unfold wp_X5_beam at hw
  show qZ X 0 0 [(m0, .inr (5, [.int (qI th), .ref m1, .ref m2, .ref m3, .int (qI sm), .ref m4, .int (qI le), .ref m5, .ref m6, .ref m7, .int (qI tk), .int (qI fr), .int (qI ti), .int (qI fa)])), (m1, qA (E 0) 635 ms), (m2, qA (E 0) 635 ma), (m3, qA (E 0) 3175 mv), (m4, qA (E 0) 140 mt), (m5, qA (E 0) 2 mn), (m6, qA (E 0) 64 ml), (m7, qA (E 0) 49152 mr)] 0 [(0, .ref m0)] []
  refine z_iconst C dX5_beam_0 ?_
  refine z_istore_n C rfl (by decide) rfl dX5_beam_1 ?_
  refine z_lst (ps := [1, 0]) (lv' := [(0, .ref m0), (1, .int (qI (0 : Int)))]) (st' := []) rfl rfl ?_
  obtain ⟨n8, hw⟩ := hw
  exact hB2 n8 (0 : Int) ml hw
def wp_X5_brightnessAt_47 (Φ : Int → Prop)  (k0 : Int) (k1 : Int) : Prop := wp_X5_fading k0 k1 (fun (r1 : Int) => Φ r1)
def wp_X5_brightnessAt (x1 : Int) (x2 : Int) (ms : Nat → Int) (ml : Nat → Int) (Φ : Int → Prop) : Prop := ((0 ≤ x1 ∧ x1 < 64) ∧ (∀ v2 : Int, v2 = ml (x1).toNat → ((qR v2 ∧ qR (-9 : Int)) ∧ (¬ v2 = (-9 : Int) → ((0 ≤ x1 ∧ x1 < 64) ∧ (∀ v4 : Int, v4 = ml (x1).toNat → (∀ v5 : Int, v5 = (x2 - v4) → ((0 ≤ ((19 : Int) + x1) ∧ ((19 : Int) + x1) < 635) ∧ (∀ v6 : Int, v6 = ms (((19 : Int) + x1)).toNat → (qR v5 ∧ ((0 : Int) ≤ v5 → wp_X5_brightnessAt_47 Φ  v6 v5) ∧ (¬ ((0 : Int) ≤ v5) → ((0 ≤ (0 : Int) ∧ (0 : Int) < 635) ∧ (∀ v8 : Int, v8 = ms ((0 : Int)).toNat → wp_X5_brightnessAt_47 Φ  v6 (v5 + v8))))))))))) ∧ (¬ (¬ v2 = (-9 : Int)) → Φ (0 : Int)))))
theorem iX5_brightnessAt_X5 : ∀ w ∈ wsX50, w ∈ wsX5_brightnessAt := fun w h => List.mem_cons_of_mem _ (List.mem_append_right _ (h))
set_option maxHeartbeats 4000000 in
set_option maxRecDepth 100000 in
theorem c_X5_brightnessAt (l : Launch) (D : va_G) (E : Nat → ClassId) (m0 m1 m2 m3 m4 m5 m6 m7 : Nat) (th : Int) (sm : Int) (le : Int) (tk : Int) (fr : Int) (ti : Int) (fa : Int) (ms : Nat → Int) (ma : Nat → Int) (mv : Nat → Int) (mt : Nat → Int) (mn : Nat → Int) (ml : Nat → Int) (mr : Nat → Int) (x1 : Int) (x2 : Int) {Φ : Int → Prop} (hw : wp_X5_brightnessAt x1 x2 ms ml Φ) : qRO l D E qF0 yX5_brightnessAt wsX5_brightnessAt 2 44 [(m0, .inr (5, [.int (qI th), .ref m1, .ref m2, .ref m3, .int (qI sm), .ref m4, .int (qI le), .ref m5, .ref m6, .ref m7, .int (qI tk), .int (qI fr), .int (qI ti), .int (qI fa)])), (m1, qA (E 0) 635 ms), (m2, qA (E 0) 635 ma), (m3, qA (E 0) 3175 mv), (m4, qA (E 0) 140 mt), (m5, qA (E 0) 2 mn), (m6, qA (E 0) 64 ml), (m7, qA (E 0) 49152 mr)] [.ref m0, .int (qI x1), .int (qI x2)] qeI (fun r => Φ r) := by
  refine qRO_int (nL := 4) (own := RX5) qF0_ok (by decide) rfl rfl (Nat.le_of_ble_eq_true rfl) (fun X C hend => ?_)
  have hB47 : ∀ k0 : Int, ∀ k1 : Int, wp_X5_brightnessAt_47 Φ  k0 k1 → qZ X 0 0 [(m0, .inr (5, [.int (qI th), .ref m1, .ref m2, .ref m3, .int (qI sm), .ref m4, .int (qI le), .ref m5, .ref m6, .ref m7, .int (qI tk), .int (qI fr), .int (qI ti), .int (qI fa)])), (m1, qA (E 0) 635 ms), (m2, qA (E 0) 635 ma), (m3, qA (E 0) 3175 mv), (m4, qA (E 0) 140 mt), (m5, qA (E 0) 2 mn), (m6, qA (E 0) 64 ml), (m7, qA (E 0) 49152 mr)] 47 [] [.int (qI k1), .int (qI k0)] := by
    intro k0 k1 hw
    unfold wp_X5_brightnessAt_47 at hw
    refine z_callS (n := 2) C (c_X5_fading l D E   k0 k1 hw) qF0_ok (fun _ _ _ => trivial) gX5_brightnessAt_X5_fading rfl (by decide +kernel) ⟨(Nat.le_of_ble_eq_true rfl), (Nat.le_of_ble_eq_true rfl)⟩ rfl [] rfl rfl (Nat.le_of_ble_eq_true rfl) dX5_brightnessAt_47 (fun r1 hw => ?_)
    show qZ X 0 0 [(m0, .inr (5, [.int (qI th), .ref m1, .ref m2, .ref m3, .int (qI sm), .ref m4, .int (qI le), .ref m5, .ref m6, .ref m7, .int (qI tk), .int (qI fr), .int (qI ti), .int (qI fa)])), (m1, qA (E 0) 635 ms), (m2, qA (E 0) 635 ma), (m3, qA (E 0) 3175 mv), (m4, qA (E 0) 140 mt), (m5, qA (E 0) 2 mn), (m6, qA (E 0) 64 ml), (m7, qA (E 0) 49152 mr)] _ _ [.int (qI r1)]
    exact hend 50 _ r1 dX5_brightnessAt_50 hw
  unfold wp_X5_brightnessAt at hw
  show qZ X 0 0 [(m0, .inr (5, [.int (qI th), .ref m1, .ref m2, .ref m3, .int (qI sm), .ref m4, .int (qI le), .ref m5, .ref m6, .ref m7, .int (qI tk), .int (qI fr), .int (qI ti), .int (qI fa)])), (m1, qA (E 0) 635 ms), (m2, qA (E 0) 635 ma), (m3, qA (E 0) 3175 mv), (m4, qA (E 0) 140 mt), (m5, qA (E 0) 2 mn), (m6, qA (E 0) 64 ml), (m7, qA (E 0) 49152 mr)] 0 [(0, .ref m0), (1, .int (qI x1)), (2, .int (qI x2))] []
  refine z_aload_n C 0 rfl rfl dX5_brightnessAt_0 ?_
  refine z_get C iX5_brightnessAt_X5 0 rfl rfl 8 (by decide) (List.mem_of_getElem? (i := 1) rfl) rfl rfl dX5_brightnessAt_1 ?_
  refine z_iload_n C 1 rfl rfl dX5_brightnessAt_4 ?_
  refine z_iald C 6 rfl (by decide) hw.1 dX5_brightnessAt_5 ?_
  replace hw := hw.2
  refine z_name (fun v2 ev2 => ?_)
  replace hw := hw v2 ev2
  refine z_bipush C (by decide +kernel) dX5_brightnessAt_6 ?_
  refine z_icmp_ne (tgt := 13) C hw.1 (by decide) dX5_brightnessAt_8 (fun c3 => ?_) (fun c3 => ?_)
  · replace hw := hw.2.1 c3
    refine z_iload_n C 2 rfl rfl dX5_brightnessAt_13 ?_
    refine z_aload_n C 0 rfl rfl dX5_brightnessAt_14 ?_
    refine z_get C iX5_brightnessAt_X5 0 rfl rfl 8 (by decide) (List.mem_of_getElem? (i := 1) rfl) rfl rfl dX5_brightnessAt_15 ?_
    refine z_iload_n C 1 rfl rfl dX5_brightnessAt_18 ?_
    refine z_iald C 6 rfl (by decide) hw.1 dX5_brightnessAt_19 ?_
    replace hw := hw.2
    refine z_name (fun v4 ev4 => ?_)
    replace hw := hw v4 ev4
    refine z_isub C dX5_brightnessAt_20 ?_
    refine z_name (fun v5 ev5 => ?_)
    replace hw := hw v5 ev5
    refine z_istore_n C rfl (by decide) rfl dX5_brightnessAt_21 ?_
    refine z_aload_n C 1 rfl rfl dX5_brightnessAt_22 ?_
    refine z_get C iX5_brightnessAt_X5 0 rfl rfl 1 (by decide) (List.mem_of_getElem? (i := 2) rfl) rfl rfl dX5_brightnessAt_23 ?_
    refine z_bipush C (by decide +kernel) dX5_brightnessAt_26 ?_
    refine z_iload_n C 2 rfl rfl dX5_brightnessAt_28 ?_
    refine z_iadd C dX5_brightnessAt_29 ?_
    refine z_iald C 1 rfl (by decide) hw.1 dX5_brightnessAt_30 ?_
    replace hw := hw.2
    refine z_name (fun v6 ev6 => ?_)
    replace hw := hw v6 ev6
    refine z_iload_n C 0 rfl rfl dX5_brightnessAt_31 ?_
    refine z_if_ge (tgt := 46) C hw.1 (by decide) dX5_brightnessAt_32 (fun c7 => ?_) (fun c7 => ?_)
    · replace hw := hw.2.1 c7
      refine z_iload_n C 0 rfl rfl dX5_brightnessAt_46 ?_
      refine z_lst (ps := []) (lv' := []) (st' := [.int (qI v5), .int (qI v6)]) rfl rfl ?_
      exact hB47 v6 v5 hw
    · replace hw := hw.2.2 c7
      refine z_iload_n C 0 rfl rfl dX5_brightnessAt_35 ?_
      refine z_aload_n C 1 rfl rfl dX5_brightnessAt_36 ?_
      refine z_get C iX5_brightnessAt_X5 0 rfl rfl 1 (by decide) (List.mem_of_getElem? (i := 2) rfl) rfl rfl dX5_brightnessAt_37 ?_
      refine z_iconst C dX5_brightnessAt_40 ?_
      refine z_iald C 1 rfl (by decide) hw.1 dX5_brightnessAt_41 ?_
      replace hw := hw.2
      refine z_name (fun v8 ev8 => ?_)
      replace hw := hw v8 ev8
      refine z_iadd C dX5_brightnessAt_42 ?_
      refine z_goto (tgt := 47) C (by decide) dX5_brightnessAt_43 ?_
      refine z_lst (ps := []) (lv' := []) (st' := [.int (qI (v5 + v8)), .int (qI v6)]) rfl rfl ?_
      exact hB47 v6 (v5 + v8) hw
  · replace hw := hw.2.2 c3
    refine z_iconst C dX5_brightnessAt_11 ?_
    exact hend 12 _ (0 : Int) dX5_brightnessAt_12 hw
def wp_X5_eyeMean_4 (Φ : Int → Prop)  (x1 : Int) (ms : Nat → Int) (ml : Nat → Int) : Nat → Int → Int → Prop
  | 0, _, _ => False
  | n9 + 1, x2, x3 => ((0 ≤ (0 : Int) ∧ (0 : Int) < 635) ∧ (∀ v1 : Int, v1 = ms ((0 : Int)).toNat → ((qR x3 ∧ qR v1) ∧ (v1 ≤ x3 → ((0 ≤ (0 : Int) ∧ (0 : Int) < 635) ∧ (∀ v3 : Int, v3 = ms ((0 : Int)).toNat → (qP x2 v3 ∧ (∀ v4 : Int, v4 = x2 / v3 → Φ v4))))) ∧ (¬ (v1 ≤ x3) → wp_X5_brightnessAt x1 x3 ms ml (fun (r5 : Int) => (∀ v6 : Int, v6 = (x2 + r5) → (∀ v7 : Int, v7 = x3 + (1 : Int) → wp_X5_eyeMean_4 Φ  x1 ms ml n9 v6 v7)))))))
def wp_X5_eyeMean (x1 : Int) (ms : Nat → Int) (ml : Nat → Int) (Φ : Int → Prop) : Prop := ∃ n : Nat, wp_X5_eyeMean_4 Φ  x1 ms ml n (0 : Int) (0 : Int)
theorem iX5_eyeMean_X5 : ∀ w ∈ wsX50, w ∈ wsX5_eyeMean := fun w h => List.mem_cons_of_mem _ (List.mem_append_right _ (h))
set_option maxHeartbeats 4000000 in
set_option maxRecDepth 100000 in
theorem c_X5_eyeMean (l : Launch) (D : va_G) (E : Nat → ClassId) (m0 m1 m2 m3 m4 m5 m6 m7 : Nat) (th : Int) (sm : Int) (le : Int) (tk : Int) (fr : Int) (ti : Int) (fa : Int) (ms : Nat → Int) (ma : Nat → Int) (mv : Nat → Int) (mt : Nat → Int) (mn : Nat → Int) (ml : Nat → Int) (mr : Nat → Int) (x1 : Int) {Φ : Int → Prop} (hw : wp_X5_eyeMean x1 ms ml Φ) : qRO l D E qF0 yX5_eyeMean wsX5_eyeMean 3 67 [(m0, .inr (5, [.int (qI th), .ref m1, .ref m2, .ref m3, .int (qI sm), .ref m4, .int (qI le), .ref m5, .ref m6, .ref m7, .int (qI tk), .int (qI fr), .int (qI ti), .int (qI fa)])), (m1, qA (E 0) 635 ms), (m2, qA (E 0) 635 ma), (m3, qA (E 0) 3175 mv), (m4, qA (E 0) 140 mt), (m5, qA (E 0) 2 mn), (m6, qA (E 0) 64 ml), (m7, qA (E 0) 49152 mr)] [.ref m0, .int (qI x1)] qeI (fun r => Φ r) := by
  refine qRO_int (nL := 4) (own := RX5) qF0_ok (by decide) rfl rfl (Nat.le_of_ble_eq_true rfl) (fun X C hend => ?_)
  have hB4 : ∀ x1 : Int, ∀ n8 : Nat, ∀ x2 : Int, ∀ x3 : Int, wp_X5_eyeMean_4 Φ  x1 ms ml n8 x2 x3 → qZ X 0 0 [(m0, .inr (5, [.int (qI th), .ref m1, .ref m2, .ref m3, .int (qI sm), .ref m4, .int (qI le), .ref m5, .ref m6, .ref m7, .int (qI tk), .int (qI fr), .int (qI ti), .int (qI fa)])), (m1, qA (E 0) 635 ms), (m2, qA (E 0) 635 ma), (m3, qA (E 0) 3175 mv), (m4, qA (E 0) 140 mt), (m5, qA (E 0) 2 mn), (m6, qA (E 0) 64 ml), (m7, qA (E 0) 49152 mr)] 4 [(0, .ref m0), (1, .int (qI x1)), (2, .int (qI x2)), (3, .int (qI x3))] [] := by
    intro x1 n8
    induction n8 with
    | zero =>
      intro x2 x3 hw
      exact hw.elim
    | succ n9 ih =>
      intro x2 x3 hw
      unfold wp_X5_eyeMean_4 at hw
      refine z_iload_n C 3 rfl rfl dX5_eyeMean_4 ?_
      refine z_aload_n C 0 rfl rfl dX5_eyeMean_5 ?_
      refine z_get C iX5_eyeMean_X5 0 rfl rfl 1 (by decide) (List.mem_of_getElem? (i := 1) rfl) rfl rfl dX5_eyeMean_6 ?_
      refine z_iconst C dX5_eyeMean_9 ?_
      refine z_iald C 1 rfl (by decide) hw.1 dX5_eyeMean_10 ?_
      replace hw := hw.2
      refine z_name (fun v1 ev1 => ?_)
      replace hw := hw v1 ev1
      refine z_icmp_ge (tgt := 29) C hw.1 (by decide) dX5_eyeMean_11 (fun c2 => ?_) (fun c2 => ?_)
      · replace hw := hw.2.1 c2
        refine z_iload_n C 2 rfl rfl dX5_eyeMean_29 ?_
        refine z_aload_n C 0 rfl rfl dX5_eyeMean_30 ?_
        refine z_get C iX5_eyeMean_X5 0 rfl rfl 1 (by decide) (List.mem_of_getElem? (i := 1) rfl) rfl rfl dX5_eyeMean_31 ?_
        refine z_iconst C dX5_eyeMean_34 ?_
        refine z_iald C 1 rfl (by decide) hw.1 dX5_eyeMean_35 ?_
        replace hw := hw.2
        refine z_name (fun v3 ev3 => ?_)
        replace hw := hw v3 ev3
        refine z_idiv C hw.1 dX5_eyeMean_36 ?_
        replace hw := hw.2
        refine z_name (fun v4 ev4 => ?_)
        replace hw := hw v4 ev4
        exact hend 37 _ v4 dX5_eyeMean_37 hw
      · replace hw := hw.2.2 c2
        refine z_iload_n C 2 rfl rfl dX5_eyeMean_14 ?_
        refine z_aload_n C 0 rfl rfl dX5_eyeMean_15 ?_
        refine z_iload_n C 1 rfl rfl dX5_eyeMean_16 ?_
        refine z_iload_n C 3 rfl rfl dX5_eyeMean_17 ?_
        refine z_callV (n := 2) C (c_X5_brightnessAt l D E m0 m1 m2 m3 m4 m5 m6 m7 th sm le tk fr ti fa ms ma mv mt mn ml mr x1 x3 hw) qF0_ok (fun _ _ _ => trivial) gX5_eyeMean_X5_brightnessAt rfl (by decide +kernel) ⟨(Nat.le_of_ble_eq_true rfl), (Nat.le_of_ble_eq_true rfl)⟩ rfl 0 rfl rfl [0, 1, 2, 3, 4, 5, 6, 7] rfl rfl (Nat.le_of_ble_eq_true rfl) dX5_eyeMean_18 (fun r5 hw => ?_)
        show qZ X 0 0 [(m0, .inr (5, [.int (qI th), .ref m1, .ref m2, .ref m3, .int (qI sm), .ref m4, .int (qI le), .ref m5, .ref m6, .ref m7, .int (qI tk), .int (qI fr), .int (qI ti), .int (qI fa)])), (m1, qA (E 0) 635 ms), (m2, qA (E 0) 635 ma), (m3, qA (E 0) 3175 mv), (m4, qA (E 0) 140 mt), (m5, qA (E 0) 2 mn), (m6, qA (E 0) 64 ml), (m7, qA (E 0) 49152 mr)] _ _ [.int (qI r5), .int (qI x2)]
        refine z_iadd C dX5_eyeMean_21 ?_
        refine z_name (fun v6 ev6 => ?_)
        replace hw := hw v6 ev6
        refine z_istore_n C rfl (by decide) rfl dX5_eyeMean_22 ?_
        obtain ⟨v7, ev7⟩ : ∃ v7 : Int, v7 = x3 + (1 : Int) := ⟨_, rfl⟩
        replace hw := hw v7 ev7
        refine z_iinc C 3 rfl (by decide) v7 ev7 rfl dX5_eyeMean_23 ?_
        refine z_goto (tgt := 4) C (by decide) dX5_eyeMean_26 ?_
        refine z_lst (ps := [2, 3, 1, 0]) (lv' := [(0, .ref m0), (1, .int (qI x1)), (2, .int (qI v6)), (3, .int (qI v7))]) (st' := []) rfl rfl ?_
        exact ih v6 v7 hw
  unfold wp_X5_eyeMean at hw
  show qZ X 0 0 [(m0, .inr (5, [.int (qI th), .ref m1, .ref m2, .ref m3, .int (qI sm), .ref m4, .int (qI le), .ref m5, .ref m6, .ref m7, .int (qI tk), .int (qI fr), .int (qI ti), .int (qI fa)])), (m1, qA (E 0) 635 ms), (m2, qA (E 0) 635 ma), (m3, qA (E 0) 3175 mv), (m4, qA (E 0) 140 mt), (m5, qA (E 0) 2 mn), (m6, qA (E 0) 64 ml), (m7, qA (E 0) 49152 mr)] 0 [(0, .ref m0), (1, .int (qI x1))] []
  refine z_iconst C dX5_eyeMean_0 ?_
  refine z_istore_n C rfl (by decide) rfl dX5_eyeMean_1 ?_
  refine z_iconst C dX5_eyeMean_2 ?_
  refine z_istore_n C rfl (by decide) rfl dX5_eyeMean_3 ?_
  refine z_lst (ps := [2, 3, 1, 0]) (lv' := [(0, .ref m0), (1, .int (qI x1)), (2, .int (qI (0 : Int))), (3, .int (qI (0 : Int)))]) (st' := []) rfl rfl ?_
  obtain ⟨n8, hw⟩ := hw
  exact hB4 x1 n8 (0 : Int) (0 : Int) hw
def wp_X5_shutterMean_6 (Φ : Int → Prop)  (x1 : Int) (x2 : Int) (x3 : Int) (ms : Nat → Int) (ml : Nat → Int) : Nat → Int → Int → Prop
  | 0, _, _ => False
  | n9 + 1, x4, x5 => ((qR x5 ∧ qR x3) ∧ (x3 ≤ x5 → (qP x4 x3 ∧ (∀ v2 : Int, v2 = x4 / x3 → Φ v2))) ∧ (¬ (x3 ≤ x5) → ((0 ≤ (0 : Int) ∧ (0 : Int) < 635) ∧ (∀ v3 : Int, v3 = ms ((0 : Int)).toNat → (qP (x2 + x5) v3 ∧ (∀ v4 : Int, v4 = (x2 + x5) % v3 → wp_X5_brightnessAt x1 v4 ms ml (fun (r5 : Int) => (∀ v6 : Int, v6 = (x4 + r5) → (∀ v7 : Int, v7 = x5 + (1 : Int) → wp_X5_shutterMean_6 Φ  x1 x2 x3 ms ml n9 v6 v7)))))))))
def wp_X5_shutterMean (x1 : Int) (x2 : Int) (x3 : Int) (ms : Nat → Int) (ml : Nat → Int) (Φ : Int → Prop) : Prop := ∃ n : Nat, wp_X5_shutterMean_6 Φ  x1 x2 x3 ms ml n (0 : Int) (0 : Int)
theorem iX5_shutterMean_X5 : ∀ w ∈ wsX50, w ∈ wsX5_shutterMean := fun w h => List.mem_cons_of_mem _ (List.mem_append_right _ (h))
set_option maxHeartbeats 4000000 in
set_option maxRecDepth 100000 in
theorem c_X5_shutterMean (l : Launch) (D : va_G) (E : Nat → ClassId) (m0 m1 m2 m3 m4 m5 m6 m7 : Nat) (th : Int) (sm : Int) (le : Int) (tk : Int) (fr : Int) (ti : Int) (fa : Int) (ms : Nat → Int) (ma : Nat → Int) (mv : Nat → Int) (mt : Nat → Int) (mn : Nat → Int) (ml : Nat → Int) (mr : Nat → Int) (x1 : Int) (x2 : Int) (x3 : Int) {Φ : Int → Prop} (hw : wp_X5_shutterMean x1 x2 x3 ms ml Φ) : qRO l D E qF0 yX5_shutterMean wsX5_shutterMean 3 67 [(m0, .inr (5, [.int (qI th), .ref m1, .ref m2, .ref m3, .int (qI sm), .ref m4, .int (qI le), .ref m5, .ref m6, .ref m7, .int (qI tk), .int (qI fr), .int (qI ti), .int (qI fa)])), (m1, qA (E 0) 635 ms), (m2, qA (E 0) 635 ma), (m3, qA (E 0) 3175 mv), (m4, qA (E 0) 140 mt), (m5, qA (E 0) 2 mn), (m6, qA (E 0) 64 ml), (m7, qA (E 0) 49152 mr)] [.ref m0, .int (qI x1), .int (qI x2), .int (qI x3)] qeI (fun r => Φ r) := by
  refine qRO_int (nL := 6) (own := RX5) qF0_ok (by decide) rfl rfl (Nat.le_of_ble_eq_true rfl) (fun X C hend => ?_)
  have hB6 : ∀ x1 : Int, ∀ x2 : Int, ∀ x3 : Int, ∀ n8 : Nat, ∀ x4 : Int, ∀ x5 : Int, wp_X5_shutterMean_6 Φ  x1 x2 x3 ms ml n8 x4 x5 → qZ X 0 0 [(m0, .inr (5, [.int (qI th), .ref m1, .ref m2, .ref m3, .int (qI sm), .ref m4, .int (qI le), .ref m5, .ref m6, .ref m7, .int (qI tk), .int (qI fr), .int (qI ti), .int (qI fa)])), (m1, qA (E 0) 635 ms), (m2, qA (E 0) 635 ma), (m3, qA (E 0) 3175 mv), (m4, qA (E 0) 140 mt), (m5, qA (E 0) 2 mn), (m6, qA (E 0) 64 ml), (m7, qA (E 0) 49152 mr)] 6 [(0, .ref m0), (1, .int (qI x1)), (2, .int (qI x2)), (3, .int (qI x3)), (4, .int (qI x4)), (5, .int (qI x5))] [] := by
    intro x1 x2 x3 n8
    induction n8 with
    | zero =>
      intro x4 x5 hw
      exact hw.elim
    | succ n9 ih =>
      intro x4 x5 hw
      unfold wp_X5_shutterMean_6 at hw
      refine z_iload C 5 rfl dX5_shutterMean_6 ?_
      refine z_iload_n C 3 rfl rfl dX5_shutterMean_8 ?_
      refine z_icmp_ge (tgt := 39) C hw.1 (by decide) dX5_shutterMean_9 (fun c1 => ?_) (fun c1 => ?_)
      · replace hw := hw.2.1 c1
        refine z_iload C 4 rfl dX5_shutterMean_39 ?_
        refine z_iload_n C 3 rfl rfl dX5_shutterMean_41 ?_
        refine z_idiv C hw.1 dX5_shutterMean_42 ?_
        replace hw := hw.2
        refine z_name (fun v2 ev2 => ?_)
        replace hw := hw v2 ev2
        exact hend 43 _ v2 dX5_shutterMean_43 hw
      · replace hw := hw.2.2 c1
        refine z_iload C 4 rfl dX5_shutterMean_12 ?_
        refine z_aload_n C 0 rfl rfl dX5_shutterMean_14 ?_
        refine z_iload_n C 1 rfl rfl dX5_shutterMean_15 ?_
        refine z_iload_n C 2 rfl rfl dX5_shutterMean_16 ?_
        refine z_iload C 5 rfl dX5_shutterMean_17 ?_
        refine z_iadd C dX5_shutterMean_19 ?_
        refine z_aload_n C 0 rfl rfl dX5_shutterMean_20 ?_
        refine z_get C iX5_shutterMean_X5 0 rfl rfl 1 (by decide) (List.mem_of_getElem? (i := 1) rfl) rfl rfl dX5_shutterMean_21 ?_
        refine z_iconst C dX5_shutterMean_24 ?_
        refine z_iald C 1 rfl (by decide) hw.1 dX5_shutterMean_25 ?_
        replace hw := hw.2
        refine z_name (fun v3 ev3 => ?_)
        replace hw := hw v3 ev3
        refine z_irem C hw.1 dX5_shutterMean_26 ?_
        replace hw := hw.2
        refine z_name (fun v4 ev4 => ?_)
        replace hw := hw v4 ev4
        refine z_callV (n := 2) C (c_X5_brightnessAt l D E m0 m1 m2 m3 m4 m5 m6 m7 th sm le tk fr ti fa ms ma mv mt mn ml mr x1 v4 hw) qF0_ok (fun _ _ _ => trivial) gX5_shutterMean_X5_brightnessAt rfl (by decide +kernel) ⟨(Nat.le_of_ble_eq_true rfl), (Nat.le_of_ble_eq_true rfl)⟩ rfl 0 rfl rfl [0, 1, 2, 3, 4, 5, 6, 7] rfl rfl (Nat.le_of_ble_eq_true rfl) dX5_shutterMean_27 (fun r5 hw => ?_)
        show qZ X 0 0 [(m0, .inr (5, [.int (qI th), .ref m1, .ref m2, .ref m3, .int (qI sm), .ref m4, .int (qI le), .ref m5, .ref m6, .ref m7, .int (qI tk), .int (qI fr), .int (qI ti), .int (qI fa)])), (m1, qA (E 0) 635 ms), (m2, qA (E 0) 635 ma), (m3, qA (E 0) 3175 mv), (m4, qA (E 0) 140 mt), (m5, qA (E 0) 2 mn), (m6, qA (E 0) 64 ml), (m7, qA (E 0) 49152 mr)] _ _ [.int (qI r5), .int (qI x4)]
        refine z_iadd C dX5_shutterMean_30 ?_
        refine z_name (fun v6 ev6 => ?_)
        replace hw := hw v6 ev6
        refine z_istore C (by decide) rfl dX5_shutterMean_31 ?_
        obtain ⟨v7, ev7⟩ : ∃ v7 : Int, v7 = x5 + (1 : Int) := ⟨_, rfl⟩
        replace hw := hw v7 ev7
        refine z_iinc C 5 rfl (by decide) v7 ev7 rfl dX5_shutterMean_33 ?_
        refine z_goto (tgt := 6) C (by decide) dX5_shutterMean_36 ?_
        refine z_lst (ps := [2, 3, 4, 5, 1, 0]) (lv' := [(0, .ref m0), (1, .int (qI x1)), (2, .int (qI x2)), (3, .int (qI x3)), (4, .int (qI v6)), (5, .int (qI v7))]) (st' := []) rfl rfl ?_
        exact ih v6 v7 hw
  unfold wp_X5_shutterMean at hw
  show qZ X 0 0 [(m0, .inr (5, [.int (qI th), .ref m1, .ref m2, .ref m3, .int (qI sm), .ref m4, .int (qI le), .ref m5, .ref m6, .ref m7, .int (qI tk), .int (qI fr), .int (qI ti), .int (qI fa)])), (m1, qA (E 0) 635 ms), (m2, qA (E 0) 635 ma), (m3, qA (E 0) 3175 mv), (m4, qA (E 0) 140 mt), (m5, qA (E 0) 2 mn), (m6, qA (E 0) 64 ml), (m7, qA (E 0) 49152 mr)] 0 [(0, .ref m0), (1, .int (qI x1)), (2, .int (qI x2)), (3, .int (qI x3))] []
  refine z_iconst C dX5_shutterMean_0 ?_
  refine z_istore C (by decide) rfl dX5_shutterMean_1 ?_
  refine z_iconst C dX5_shutterMean_3 ?_
  refine z_istore C (by decide) rfl dX5_shutterMean_4 ?_
  refine z_lst (ps := [2, 3, 4, 5, 1, 0]) (lv' := [(0, .ref m0), (1, .int (qI x1)), (2, .int (qI x2)), (3, .int (qI x3)), (4, .int (qI (0 : Int))), (5, .int (qI (0 : Int)))]) (st' := []) rfl rfl ?_
  obtain ⟨n8, hw⟩ := hw
  exact hB6 x1 x2 x3 n8 (0 : Int) (0 : Int) hw
def wp_X5_isEyed_30 (Φ : Int → Prop)  (k0 : Int) : Prop := ((k0 = 0 ∨ k0 = 1) ∧ Φ k0)
def wp_X5_isEyed_29 (Φ : Int → Prop)   : Prop := wp_X5_isEyed_30 Φ  (0 : Int)
def wp_X5_isEyed (x1 : Int) (ms : Nat → Int) (ml : Nat → Int) (Φ : Int → Prop) : Prop := ((0 ≤ x1 ∧ x1 < 64) ∧ (∀ v1 : Int, v1 = ml (x1).toNat → ((qR v1 ∧ qR (-9 : Int)) ∧ (v1 = (-9 : Int) → wp_X5_isEyed_29 Φ  ) ∧ (¬ (v1 = (-9 : Int)) → wp_X5_eyeMean x1 ms ml (fun (r3 : Int) => ((0 ≤ (2 : Int) ∧ (2 : Int) < 635) ∧ (∀ v4 : Int, v4 = ms ((2 : Int)).toNat → ((qR r3 ∧ qR v4) ∧ (r3 < v4 → wp_X5_isEyed_29 Φ  ) ∧ (¬ (r3 < v4) → wp_X5_isEyed_30 Φ  (1 : Int))))))))))
theorem iX5_isEyed_X5 : ∀ w ∈ wsX50, w ∈ wsX5_isEyed := fun w h => List.mem_cons_of_mem _ (List.mem_append_right _ (h))
set_option maxHeartbeats 4000000 in
set_option maxRecDepth 100000 in
theorem c_X5_isEyed (l : Launch) (D : va_G) (E : Nat → ClassId) (m0 m1 m2 m3 m4 m5 m6 m7 : Nat) (th : Int) (sm : Int) (le : Int) (tk : Int) (fr : Int) (ti : Int) (fa : Int) (ms : Nat → Int) (ma : Nat → Int) (mv : Nat → Int) (mt : Nat → Int) (mn : Nat → Int) (ml : Nat → Int) (mr : Nat → Int) (x1 : Int) {Φ : Int → Prop} (hw : wp_X5_isEyed x1 ms ml Φ) : qRO l D E qF0 yX5_isEyed wsX5_isEyed 4 90 [(m0, .inr (5, [.int (qI th), .ref m1, .ref m2, .ref m3, .int (qI sm), .ref m4, .int (qI le), .ref m5, .ref m6, .ref m7, .int (qI tk), .int (qI fr), .int (qI ti), .int (qI fa)])), (m1, qA (E 0) 635 ms), (m2, qA (E 0) 635 ma), (m3, qA (E 0) 3175 mv), (m4, qA (E 0) 140 mt), (m5, qA (E 0) 2 mn), (m6, qA (E 0) 64 ml), (m7, qA (E 0) 49152 mr)] [.ref m0, .int (qI x1)] qeI (fun r => Φ r) := by
  refine qRO_bool (nL := 2) (own := RX5) qF0_ok (by decide) rfl rfl (Nat.le_of_ble_eq_true rfl) (fun X C hend => ?_)
  have hB30 : ∀ k0 : Int, wp_X5_isEyed_30 Φ  k0 → qZ X 0 0 [(m0, .inr (5, [.int (qI th), .ref m1, .ref m2, .ref m3, .int (qI sm), .ref m4, .int (qI le), .ref m5, .ref m6, .ref m7, .int (qI tk), .int (qI fr), .int (qI ti), .int (qI fa)])), (m1, qA (E 0) 635 ms), (m2, qA (E 0) 635 ma), (m3, qA (E 0) 3175 mv), (m4, qA (E 0) 140 mt), (m5, qA (E 0) 2 mn), (m6, qA (E 0) 64 ml), (m7, qA (E 0) 49152 mr)] 30 [] [.int (qI k0)] := by
    intro k0 hw
    unfold wp_X5_isEyed_30 at hw
    exact hend 30 _ k0 dX5_isEyed_30 hw.1 hw.2
  have hB29 :  wp_X5_isEyed_29 Φ   → qZ X 0 0 [(m0, .inr (5, [.int (qI th), .ref m1, .ref m2, .ref m3, .int (qI sm), .ref m4, .int (qI le), .ref m5, .ref m6, .ref m7, .int (qI tk), .int (qI fr), .int (qI ti), .int (qI fa)])), (m1, qA (E 0) 635 ms), (m2, qA (E 0) 635 ma), (m3, qA (E 0) 3175 mv), (m4, qA (E 0) 140 mt), (m5, qA (E 0) 2 mn), (m6, qA (E 0) 64 ml), (m7, qA (E 0) 49152 mr)] 29 [] [] := by
    intro  hw
    unfold wp_X5_isEyed_29 at hw
    refine z_iconst C dX5_isEyed_29 ?_
    refine z_lst (ps := []) (lv' := []) (st' := [.int (qI (0 : Int))]) rfl rfl ?_
    exact hB30 (0 : Int) hw
  unfold wp_X5_isEyed at hw
  show qZ X 0 0 [(m0, .inr (5, [.int (qI th), .ref m1, .ref m2, .ref m3, .int (qI sm), .ref m4, .int (qI le), .ref m5, .ref m6, .ref m7, .int (qI tk), .int (qI fr), .int (qI ti), .int (qI fa)])), (m1, qA (E 0) 635 ms), (m2, qA (E 0) 635 ma), (m3, qA (E 0) 3175 mv), (m4, qA (E 0) 140 mt), (m5, qA (E 0) 2 mn), (m6, qA (E 0) 64 ml), (m7, qA (E 0) 49152 mr)] 0 [(0, .ref m0), (1, .int (qI x1))] []
  refine z_aload_n C 0 rfl rfl dX5_isEyed_0 ?_
  refine z_get C iX5_isEyed_X5 0 rfl rfl 8 (by decide) (List.mem_of_getElem? (i := 1) rfl) rfl rfl dX5_isEyed_1 ?_
  refine z_iload_n C 1 rfl rfl dX5_isEyed_4 ?_
  refine z_iald C 6 rfl (by decide) hw.1 dX5_isEyed_5 ?_
  replace hw := hw.2
  refine z_name (fun v1 ev1 => ?_)
  replace hw := hw v1 ev1
  refine z_bipush C (by decide +kernel) dX5_isEyed_6 ?_
  refine z_icmp_eq (tgt := 29) C hw.1 (by decide) dX5_isEyed_8 (fun c2 => ?_) (fun c2 => ?_)
  · replace hw := hw.2.1 c2
    refine z_lst (ps := []) (lv' := []) (st' := []) rfl rfl ?_
    exact hB29  hw
  · replace hw := hw.2.2 c2
    refine z_aload_n C 0 rfl rfl dX5_isEyed_11 ?_
    refine z_iload_n C 1 rfl rfl dX5_isEyed_12 ?_
    refine z_callV (n := 1) C (c_X5_eyeMean l D E m0 m1 m2 m3 m4 m5 m6 m7 th sm le tk fr ti fa ms ma mv mt mn ml mr x1 hw) qF0_ok (fun _ _ _ => trivial) gX5_isEyed_X5_eyeMean rfl (by decide +kernel) ⟨(Nat.le_of_ble_eq_true rfl), (Nat.le_of_ble_eq_true rfl)⟩ rfl 0 rfl rfl [0, 1, 2, 3, 4, 5, 6, 7] rfl rfl (Nat.le_of_ble_eq_true rfl) dX5_isEyed_13 (fun r3 hw => ?_)
    show qZ X 0 0 [(m0, .inr (5, [.int (qI th), .ref m1, .ref m2, .ref m3, .int (qI sm), .ref m4, .int (qI le), .ref m5, .ref m6, .ref m7, .int (qI tk), .int (qI fr), .int (qI ti), .int (qI fa)])), (m1, qA (E 0) 635 ms), (m2, qA (E 0) 635 ma), (m3, qA (E 0) 3175 mv), (m4, qA (E 0) 140 mt), (m5, qA (E 0) 2 mn), (m6, qA (E 0) 64 ml), (m7, qA (E 0) 49152 mr)] _ _ [.int (qI r3)]
    refine z_aload_n C 0 rfl rfl dX5_isEyed_16 ?_
    refine z_get C iX5_isEyed_X5 0 rfl rfl 1 (by decide) (List.mem_of_getElem? (i := 2) rfl) rfl rfl dX5_isEyed_17 ?_
    refine z_iconst C dX5_isEyed_20 ?_
    refine z_iald C 1 rfl (by decide) hw.1 dX5_isEyed_21 ?_
    replace hw := hw.2
    refine z_name (fun v4 ev4 => ?_)
    replace hw := hw v4 ev4
    refine z_icmp_lt (tgt := 29) C hw.1 (by decide) dX5_isEyed_22 (fun c5 => ?_) (fun c5 => ?_)
    · replace hw := hw.2.1 c5
      refine z_lst (ps := []) (lv' := []) (st' := []) rfl rfl ?_
      exact hB29  hw
    · replace hw := hw.2.2 c5
      refine z_iconst C dX5_isEyed_25 ?_
      refine z_goto (tgt := 30) C (by decide) dX5_isEyed_26 ?_
      refine z_lst (ps := []) (lv' := []) (st' := [.int (qI (1 : Int))]) rfl rfl ?_
      exact hB30 (1 : Int) hw
def wp_X5_isShot_32 (Φ : Int → Prop)  (k0 : Int) : Prop := ((k0 = 0 ∨ k0 = 1) ∧ Φ k0)
def wp_X5_isShot_31 (Φ : Int → Prop)   : Prop := wp_X5_isShot_32 Φ  (0 : Int)
def wp_X5_isShot (x1 : Int) (x2 : Int) (x3 : Int) (ms : Nat → Int) (ml : Nat → Int) (Φ : Int → Prop) : Prop := ((0 ≤ x1 ∧ x1 < 64) ∧ (∀ v1 : Int, v1 = ml (x1).toNat → ((qR v1 ∧ qR (-9 : Int)) ∧ (v1 = (-9 : Int) → wp_X5_isShot_31 Φ  ) ∧ (¬ (v1 = (-9 : Int)) → wp_X5_shutterMean x1 x2 x3 ms ml (fun (r3 : Int) => ((0 ≤ (5 : Int) ∧ (5 : Int) < 635) ∧ (∀ v4 : Int, v4 = ms ((5 : Int)).toNat → ((qR r3 ∧ qR v4) ∧ (r3 < v4 → wp_X5_isShot_31 Φ  ) ∧ (¬ (r3 < v4) → wp_X5_isShot_32 Φ  (1 : Int))))))))))
theorem iX5_isShot_X5 : ∀ w ∈ wsX50, w ∈ wsX5_isShot := fun w h => List.mem_cons_of_mem _ (List.mem_append_right _ (h))
set_option maxHeartbeats 4000000 in
set_option maxRecDepth 100000 in
theorem c_X5_isShot (l : Launch) (D : va_G) (E : Nat → ClassId) (m0 m1 m2 m3 m4 m5 m6 m7 : Nat) (th : Int) (sm : Int) (le : Int) (tk : Int) (fr : Int) (ti : Int) (fa : Int) (ms : Nat → Int) (ma : Nat → Int) (mv : Nat → Int) (mt : Nat → Int) (mn : Nat → Int) (ml : Nat → Int) (mr : Nat → Int) (x1 : Int) (x2 : Int) (x3 : Int) {Φ : Int → Prop} (hw : wp_X5_isShot x1 x2 x3 ms ml Φ) : qRO l D E qF0 yX5_isShot wsX5_isShot 4 92 [(m0, .inr (5, [.int (qI th), .ref m1, .ref m2, .ref m3, .int (qI sm), .ref m4, .int (qI le), .ref m5, .ref m6, .ref m7, .int (qI tk), .int (qI fr), .int (qI ti), .int (qI fa)])), (m1, qA (E 0) 635 ms), (m2, qA (E 0) 635 ma), (m3, qA (E 0) 3175 mv), (m4, qA (E 0) 140 mt), (m5, qA (E 0) 2 mn), (m6, qA (E 0) 64 ml), (m7, qA (E 0) 49152 mr)] [.ref m0, .int (qI x1), .int (qI x2), .int (qI x3)] qeI (fun r => Φ r) := by
  refine qRO_bool (nL := 4) (own := RX5) qF0_ok (by decide) rfl rfl (Nat.le_of_ble_eq_true rfl) (fun X C hend => ?_)
  have hB32 : ∀ k0 : Int, wp_X5_isShot_32 Φ  k0 → qZ X 0 0 [(m0, .inr (5, [.int (qI th), .ref m1, .ref m2, .ref m3, .int (qI sm), .ref m4, .int (qI le), .ref m5, .ref m6, .ref m7, .int (qI tk), .int (qI fr), .int (qI ti), .int (qI fa)])), (m1, qA (E 0) 635 ms), (m2, qA (E 0) 635 ma), (m3, qA (E 0) 3175 mv), (m4, qA (E 0) 140 mt), (m5, qA (E 0) 2 mn), (m6, qA (E 0) 64 ml), (m7, qA (E 0) 49152 mr)] 32 [] [.int (qI k0)] := by
    intro k0 hw
    unfold wp_X5_isShot_32 at hw
    exact hend 32 _ k0 dX5_isShot_32 hw.1 hw.2
  have hB31 :  wp_X5_isShot_31 Φ   → qZ X 0 0 [(m0, .inr (5, [.int (qI th), .ref m1, .ref m2, .ref m3, .int (qI sm), .ref m4, .int (qI le), .ref m5, .ref m6, .ref m7, .int (qI tk), .int (qI fr), .int (qI ti), .int (qI fa)])), (m1, qA (E 0) 635 ms), (m2, qA (E 0) 635 ma), (m3, qA (E 0) 3175 mv), (m4, qA (E 0) 140 mt), (m5, qA (E 0) 2 mn), (m6, qA (E 0) 64 ml), (m7, qA (E 0) 49152 mr)] 31 [] [] := by
    intro  hw
    unfold wp_X5_isShot_31 at hw
    refine z_iconst C dX5_isShot_31 ?_
    refine z_lst (ps := []) (lv' := []) (st' := [.int (qI (0 : Int))]) rfl rfl ?_
    exact hB32 (0 : Int) hw
  unfold wp_X5_isShot at hw
  show qZ X 0 0 [(m0, .inr (5, [.int (qI th), .ref m1, .ref m2, .ref m3, .int (qI sm), .ref m4, .int (qI le), .ref m5, .ref m6, .ref m7, .int (qI tk), .int (qI fr), .int (qI ti), .int (qI fa)])), (m1, qA (E 0) 635 ms), (m2, qA (E 0) 635 ma), (m3, qA (E 0) 3175 mv), (m4, qA (E 0) 140 mt), (m5, qA (E 0) 2 mn), (m6, qA (E 0) 64 ml), (m7, qA (E 0) 49152 mr)] 0 [(0, .ref m0), (1, .int (qI x1)), (2, .int (qI x2)), (3, .int (qI x3))] []
  refine z_aload_n C 0 rfl rfl dX5_isShot_0 ?_
  refine z_get C iX5_isShot_X5 0 rfl rfl 8 (by decide) (List.mem_of_getElem? (i := 1) rfl) rfl rfl dX5_isShot_1 ?_
  refine z_iload_n C 1 rfl rfl dX5_isShot_4 ?_
  refine z_iald C 6 rfl (by decide) hw.1 dX5_isShot_5 ?_
  replace hw := hw.2
  refine z_name (fun v1 ev1 => ?_)
  replace hw := hw v1 ev1
  refine z_bipush C (by decide +kernel) dX5_isShot_6 ?_
  refine z_icmp_eq (tgt := 31) C hw.1 (by decide) dX5_isShot_8 (fun c2 => ?_) (fun c2 => ?_)
  · replace hw := hw.2.1 c2
    refine z_lst (ps := []) (lv' := []) (st' := []) rfl rfl ?_
    exact hB31  hw
  · replace hw := hw.2.2 c2
    refine z_aload_n C 0 rfl rfl dX5_isShot_11 ?_
    refine z_iload_n C 1 rfl rfl dX5_isShot_12 ?_
    refine z_iload_n C 2 rfl rfl dX5_isShot_13 ?_
    refine z_iload_n C 3 rfl rfl dX5_isShot_14 ?_
    refine z_callV (n := 3) C (c_X5_shutterMean l D E m0 m1 m2 m3 m4 m5 m6 m7 th sm le tk fr ti fa ms ma mv mt mn ml mr x1 x2 x3 hw) qF0_ok (fun _ _ _ => trivial) gX5_isShot_X5_shutterMean rfl (by decide +kernel) ⟨(Nat.le_of_ble_eq_true rfl), (Nat.le_of_ble_eq_true rfl)⟩ rfl 0 rfl rfl [0, 1, 2, 3, 4, 5, 6, 7] rfl rfl (Nat.le_of_ble_eq_true rfl) dX5_isShot_15 (fun r3 hw => ?_)
    show qZ X 0 0 [(m0, .inr (5, [.int (qI th), .ref m1, .ref m2, .ref m3, .int (qI sm), .ref m4, .int (qI le), .ref m5, .ref m6, .ref m7, .int (qI tk), .int (qI fr), .int (qI ti), .int (qI fa)])), (m1, qA (E 0) 635 ms), (m2, qA (E 0) 635 ma), (m3, qA (E 0) 3175 mv), (m4, qA (E 0) 140 mt), (m5, qA (E 0) 2 mn), (m6, qA (E 0) 64 ml), (m7, qA (E 0) 49152 mr)] _ _ [.int (qI r3)]
    refine z_aload_n C 0 rfl rfl dX5_isShot_18 ?_
    refine z_get C iX5_isShot_X5 0 rfl rfl 1 (by decide) (List.mem_of_getElem? (i := 2) rfl) rfl rfl dX5_isShot_19 ?_
    refine z_iconst C dX5_isShot_22 ?_
    refine z_iald C 1 rfl (by decide) hw.1 dX5_isShot_23 ?_
    replace hw := hw.2
    refine z_name (fun v4 ev4 => ?_)
    replace hw := hw v4 ev4
    refine z_icmp_lt (tgt := 31) C hw.1 (by decide) dX5_isShot_24 (fun c5 => ?_) (fun c5 => ?_)
    · replace hw := hw.2.1 c5
      refine z_lst (ps := []) (lv' := []) (st' := []) rfl rfl ?_
      exact hB31  hw
    · replace hw := hw.2.2 c5
      refine z_iconst C dX5_isShot_27 ?_
      refine z_goto (tgt := 32) C (by decide) dX5_isShot_28 ?_
      refine z_lst (ps := []) (lv' := []) (st' := [.int (qI (1 : Int))]) rfl rfl ?_
      exact hB32 (1 : Int) hw
def wp_X5_isShotNow (x1 : Int) (ms : Nat → Int) (ml : Nat → Int) (Φ : Int → Prop) : Prop := ((0 ≤ (3 : Int) ∧ (3 : Int) < 635) ∧ (∀ v1 : Int, v1 = ms ((3 : Int)).toNat → ((0 ≤ (4 : Int) ∧ (4 : Int) < 635) ∧ (∀ v2 : Int, v2 = ms ((4 : Int)).toNat → wp_X5_isShot x1 v1 v2 ms ml (fun (r3 : Int) => ((r3 = 0 ∨ r3 = 1) ∧ Φ r3))))))
theorem iX5_isShotNow_X5 : ∀ w ∈ wsX50, w ∈ wsX5_isShotNow := fun w h => List.mem_cons_of_mem _ (List.mem_append_right _ (h))
set_option maxHeartbeats 4000000 in
set_option maxRecDepth 100000 in
theorem c_X5_isShotNow (l : Launch) (D : va_G) (E : Nat → ClassId) (m0 m1 m2 m3 m4 m5 m6 m7 : Nat) (th : Int) (sm : Int) (le : Int) (tk : Int) (fr : Int) (ti : Int) (fa : Int) (ms : Nat → Int) (ma : Nat → Int) (mv : Nat → Int) (mt : Nat → Int) (mn : Nat → Int) (ml : Nat → Int) (mr : Nat → Int) (x1 : Int) {Φ : Int → Prop} (hw : wp_X5_isShotNow x1 ms ml Φ) : qRO l D E qF0 yX5_isShotNow wsX5_isShotNow 5 115 [(m0, .inr (5, [.int (qI th), .ref m1, .ref m2, .ref m3, .int (qI sm), .ref m4, .int (qI le), .ref m5, .ref m6, .ref m7, .int (qI tk), .int (qI fr), .int (qI ti), .int (qI fa)])), (m1, qA (E 0) 635 ms), (m2, qA (E 0) 635 ma), (m3, qA (E 0) 3175 mv), (m4, qA (E 0) 140 mt), (m5, qA (E 0) 2 mn), (m6, qA (E 0) 64 ml), (m7, qA (E 0) 49152 mr)] [.ref m0, .int (qI x1)] qeI (fun r => Φ r) := by
  refine qRO_bool (nL := 2) (own := RX5) qF0_ok (by decide) rfl rfl (Nat.le_of_ble_eq_true rfl) (fun X C hend => ?_)
  unfold wp_X5_isShotNow at hw
  show qZ X 0 0 [(m0, .inr (5, [.int (qI th), .ref m1, .ref m2, .ref m3, .int (qI sm), .ref m4, .int (qI le), .ref m5, .ref m6, .ref m7, .int (qI tk), .int (qI fr), .int (qI ti), .int (qI fa)])), (m1, qA (E 0) 635 ms), (m2, qA (E 0) 635 ma), (m3, qA (E 0) 3175 mv), (m4, qA (E 0) 140 mt), (m5, qA (E 0) 2 mn), (m6, qA (E 0) 64 ml), (m7, qA (E 0) 49152 mr)] 0 [(0, .ref m0), (1, .int (qI x1))] []
  refine z_aload_n C 0 rfl rfl dX5_isShotNow_0 ?_
  refine z_iload_n C 1 rfl rfl dX5_isShotNow_1 ?_
  refine z_aload_n C 0 rfl rfl dX5_isShotNow_2 ?_
  refine z_get C iX5_isShotNow_X5 0 rfl rfl 1 (by decide) (List.mem_of_getElem? (i := 1) rfl) rfl rfl dX5_isShotNow_3 ?_
  refine z_iconst C dX5_isShotNow_6 ?_
  refine z_iald C 1 rfl (by decide) hw.1 dX5_isShotNow_7 ?_
  replace hw := hw.2
  refine z_name (fun v1 ev1 => ?_)
  replace hw := hw v1 ev1
  refine z_aload_n C 0 rfl rfl dX5_isShotNow_8 ?_
  refine z_get C iX5_isShotNow_X5 0 rfl rfl 1 (by decide) (List.mem_of_getElem? (i := 1) rfl) rfl rfl dX5_isShotNow_9 ?_
  refine z_iconst C dX5_isShotNow_12 ?_
  refine z_iald C 1 rfl (by decide) hw.1 dX5_isShotNow_13 ?_
  replace hw := hw.2
  refine z_name (fun v2 ev2 => ?_)
  replace hw := hw v2 ev2
  refine z_callV (n := 3) C (c_X5_isShot l D E m0 m1 m2 m3 m4 m5 m6 m7 th sm le tk fr ti fa ms ma mv mt mn ml mr x1 v1 v2 hw) qF0_ok (fun _ _ _ => trivial) gX5_isShotNow_X5_isShot rfl (by decide +kernel) ⟨(Nat.le_of_ble_eq_true rfl), (Nat.le_of_ble_eq_true rfl)⟩ rfl 0 rfl rfl [0, 1, 2, 3, 4, 5, 6, 7] rfl rfl (Nat.le_of_ble_eq_true rfl) dX5_isShotNow_14 (fun r3 hw => ?_)
  show qZ X 0 0 [(m0, .inr (5, [.int (qI th), .ref m1, .ref m2, .ref m3, .int (qI sm), .ref m4, .int (qI le), .ref m5, .ref m6, .ref m7, .int (qI tk), .int (qI fr), .int (qI ti), .int (qI fa)])), (m1, qA (E 0) 635 ms), (m2, qA (E 0) 635 ma), (m3, qA (E 0) 3175 mv), (m4, qA (E 0) 140 mt), (m5, qA (E 0) 2 mn), (m6, qA (E 0) 64 ml), (m7, qA (E 0) 49152 mr)] _ _ [.int (qI r3)]
  exact hend 17 _ r3 dX5_isShotNow_17 hw.1 hw.2
def wp_X5_wrongFor_49 (Φ : Int → Prop) (K5 : Int → Int → Prop) (x1 : Int) (x2 : Int) (x4 : Int) (k0 : Int) (k1 : Int) (ms : Nat → Int) (ml : Nat → Int) : Prop := (∀ v1 : Int, v1 = (k0 + k1) → (∀ v2 : Int, v2 = x4 + (1 : Int) → K5 v1 v2))
def wp_X5_wrongFor_41 (Φ : Int → Prop) (K5 : Int → Int → Prop) (x1 : Int) (x2 : Int) (x4 : Int) (k0 : Int) (k1 : Int) (k2 : Int) (ms : Nat → Int) (ml : Nat → Int) : Prop := ((qR k1 ∧ qR k2) ∧ (¬ k1 = k2 → wp_X5_wrongFor_49 Φ K5 x1 x2 x4 k0 (1 : Int) ms ml) ∧ (¬ (¬ k1 = k2) → wp_X5_wrongFor_49 Φ K5 x1 x2 x4 k0 (0 : Int) ms ml))
def wp_X5_wrongFor_5 (Φ : Int → Prop)  (x1 : Int) (x2 : Int) (ms : Nat → Int) (ml : Nat → Int) : Nat → Int → Int → Prop
  | 0, _, _ => False
  | n9 + 1, x3, x4 => ((qR x4 ∧ qR (64 : Int)) ∧ ((64 : Int) ≤ x4 → Φ x3) ∧ (¬ ((64 : Int) ≤ x4) → wp_X5_isShot x4 x1 x2 ms ml (fun (r5 : Int) => ((0 ≤ ((147 : Int) + x4) ∧ ((147 : Int) + x4) < 635) ∧ (∀ v6 : Int, v6 = ms (((147 : Int) + x4)).toNat → ((qR v6 ∧ qR (1 : Int)) ∧ (¬ v6 = (1 : Int) → wp_X5_wrongFor_41 Φ (wp_X5_wrongFor_5 Φ  x1 x2 ms ml n9) x1 x2 x4 x3 r5 (0 : Int) ms ml) ∧ (¬ (¬ v6 = (1 : Int)) → wp_X5_wrongFor_41 Φ (wp_X5_wrongFor_5 Φ  x1 x2 ms ml n9) x1 x2 x4 x3 r5 (1 : Int) ms ml)))))))
def wp_X5_wrongFor (x1 : Int) (x2 : Int) (ms : Nat → Int) (ml : Nat → Int) (Φ : Int → Prop) : Prop := ∃ n : Nat, wp_X5_wrongFor_5 Φ  x1 x2 ms ml n (0 : Int) (0 : Int)
theorem iX5_wrongFor_X5 : ∀ w ∈ wsX50, w ∈ wsX5_wrongFor := fun w h => List.mem_cons_of_mem _ (List.mem_append_right _ (h))
set_option maxHeartbeats 4000000 in
set_option maxRecDepth 100000 in
theorem c_X5_wrongFor (l : Launch) (D : va_G) (E : Nat → ClassId) (m0 m1 m2 m3 m4 m5 m6 m7 : Nat) (th : Int) (sm : Int) (le : Int) (tk : Int) (fr : Int) (ti : Int) (fa : Int) (ms : Nat → Int) (ma : Nat → Int) (mv : Nat → Int) (mt : Nat → Int) (mn : Nat → Int) (ml : Nat → Int) (mr : Nat → Int) (x1 : Int) (x2 : Int) {Φ : Int → Prop} (hw : wp_X5_wrongFor x1 x2 ms ml Φ) : qRO l D E qF0 yX5_wrongFor wsX5_wrongFor 5 115 [(m0, .inr (5, [.int (qI th), .ref m1, .ref m2, .ref m3, .int (qI sm), .ref m4, .int (qI le), .ref m5, .ref m6, .ref m7, .int (qI tk), .int (qI fr), .int (qI ti), .int (qI fa)])), (m1, qA (E 0) 635 ms), (m2, qA (E 0) 635 ma), (m3, qA (E 0) 3175 mv), (m4, qA (E 0) 140 mt), (m5, qA (E 0) 2 mn), (m6, qA (E 0) 64 ml), (m7, qA (E 0) 49152 mr)] [.ref m0, .int (qI x1), .int (qI x2)] qeI (fun r => Φ r) := by
  refine qRO_int (nL := 5) (own := RX5) qF0_ok (by decide) rfl rfl (Nat.le_of_ble_eq_true rfl) (fun X C hend => ?_)
  have hB49 : ∀ x1 : Int, ∀ x2 : Int, ∀ K5 : Int → Int → Prop, (∀ (x3 : Int) (x4 : Int), K5 x3 x4 → qZ X 0 0 [(m0, .inr (5, [.int (qI th), .ref m1, .ref m2, .ref m3, .int (qI sm), .ref m4, .int (qI le), .ref m5, .ref m6, .ref m7, .int (qI tk), .int (qI fr), .int (qI ti), .int (qI fa)])), (m1, qA (E 0) 635 ms), (m2, qA (E 0) 635 ma), (m3, qA (E 0) 3175 mv), (m4, qA (E 0) 140 mt), (m5, qA (E 0) 2 mn), (m6, qA (E 0) 64 ml), (m7, qA (E 0) 49152 mr)] 5 [(0, .ref m0), (1, .int (qI x1)), (2, .int (qI x2)), (3, .int (qI x3)), (4, .int (qI x4))] []) → ∀ x4 : Int, ∀ k0 : Int, ∀ k1 : Int, wp_X5_wrongFor_49 Φ K5 x1 x2 x4 k0 k1 ms ml → qZ X 0 0 [(m0, .inr (5, [.int (qI th), .ref m1, .ref m2, .ref m3, .int (qI sm), .ref m4, .int (qI le), .ref m5, .ref m6, .ref m7, .int (qI tk), .int (qI fr), .int (qI ti), .int (qI fa)])), (m1, qA (E 0) 635 ms), (m2, qA (E 0) 635 ma), (m3, qA (E 0) 3175 mv), (m4, qA (E 0) 140 mt), (m5, qA (E 0) 2 mn), (m6, qA (E 0) 64 ml), (m7, qA (E 0) 49152 mr)] 49 [(0, .ref m0), (1, .int (qI x1)), (2, .int (qI x2)), (4, .int (qI x4))] [.int (qI k1), .int (qI k0)] := by
    intro x1 x2 K5 hK5 x4 k0 k1 hw
    unfold wp_X5_wrongFor_49 at hw
    refine z_iadd C dX5_wrongFor_49 ?_
    refine z_name (fun v1 ev1 => ?_)
    replace hw := hw v1 ev1
    refine z_istore_n C rfl (by decide) rfl dX5_wrongFor_50 ?_
    obtain ⟨v2, ev2⟩ : ∃ v2 : Int, v2 = x4 + (1 : Int) := ⟨_, rfl⟩
    replace hw := hw v2 ev2
    refine z_iinc C 4 rfl (by decide) v2 ev2 rfl dX5_wrongFor_51 ?_
    refine z_goto (tgt := 5) C (by decide) dX5_wrongFor_54 ?_
    refine z_lst (ps := [2, 3, 4, 1, 0]) (lv' := [(0, .ref m0), (1, .int (qI x1)), (2, .int (qI x2)), (3, .int (qI v1)), (4, .int (qI v2))]) (st' := []) rfl rfl ?_
    exact hK5 v1 v2 hw
  have hB41 : ∀ x1 : Int, ∀ x2 : Int, ∀ K5 : Int → Int → Prop, (∀ (x3 : Int) (x4 : Int), K5 x3 x4 → qZ X 0 0 [(m0, .inr (5, [.int (qI th), .ref m1, .ref m2, .ref m3, .int (qI sm), .ref m4, .int (qI le), .ref m5, .ref m6, .ref m7, .int (qI tk), .int (qI fr), .int (qI ti), .int (qI fa)])), (m1, qA (E 0) 635 ms), (m2, qA (E 0) 635 ma), (m3, qA (E 0) 3175 mv), (m4, qA (E 0) 140 mt), (m5, qA (E 0) 2 mn), (m6, qA (E 0) 64 ml), (m7, qA (E 0) 49152 mr)] 5 [(0, .ref m0), (1, .int (qI x1)), (2, .int (qI x2)), (3, .int (qI x3)), (4, .int (qI x4))] []) → ∀ x4 : Int, ∀ k0 : Int, ∀ k1 : Int, ∀ k2 : Int, wp_X5_wrongFor_41 Φ K5 x1 x2 x4 k0 k1 k2 ms ml → qZ X 0 0 [(m0, .inr (5, [.int (qI th), .ref m1, .ref m2, .ref m3, .int (qI sm), .ref m4, .int (qI le), .ref m5, .ref m6, .ref m7, .int (qI tk), .int (qI fr), .int (qI ti), .int (qI fa)])), (m1, qA (E 0) 635 ms), (m2, qA (E 0) 635 ma), (m3, qA (E 0) 3175 mv), (m4, qA (E 0) 140 mt), (m5, qA (E 0) 2 mn), (m6, qA (E 0) 64 ml), (m7, qA (E 0) 49152 mr)] 41 [(0, .ref m0), (1, .int (qI x1)), (2, .int (qI x2)), (4, .int (qI x4))] [.int (qI k2), .int (qI k1), .int (qI k0)] := by
    intro x1 x2 K5 hK5 x4 k0 k1 k2 hw
    unfold wp_X5_wrongFor_41 at hw
    refine z_icmp_ne (tgt := 48) C hw.1 (by decide) dX5_wrongFor_41 (fun c3 => ?_) (fun c3 => ?_)
    · replace hw := hw.2.1 c3
      refine z_iconst C dX5_wrongFor_48 ?_
      refine z_lst (ps := [0, 1, 2, 3]) (lv' := [(0, .ref m0), (1, .int (qI x1)), (2, .int (qI x2)), (4, .int (qI x4))]) (st' := [.int (qI (1 : Int)), .int (qI k0)]) rfl rfl ?_
      exact hB49 x1 x2 _ hK5 x4 k0 (1 : Int) hw
    · replace hw := hw.2.2 c3
      refine z_iconst C dX5_wrongFor_44 ?_
      refine z_goto (tgt := 49) C (by decide) dX5_wrongFor_45 ?_
      refine z_lst (ps := [0, 1, 2, 3]) (lv' := [(0, .ref m0), (1, .int (qI x1)), (2, .int (qI x2)), (4, .int (qI x4))]) (st' := [.int (qI (0 : Int)), .int (qI k0)]) rfl rfl ?_
      exact hB49 x1 x2 _ hK5 x4 k0 (0 : Int) hw
  have hB5 : ∀ x1 : Int, ∀ x2 : Int, ∀ n8 : Nat, ∀ x3 : Int, ∀ x4 : Int, wp_X5_wrongFor_5 Φ  x1 x2 ms ml n8 x3 x4 → qZ X 0 0 [(m0, .inr (5, [.int (qI th), .ref m1, .ref m2, .ref m3, .int (qI sm), .ref m4, .int (qI le), .ref m5, .ref m6, .ref m7, .int (qI tk), .int (qI fr), .int (qI ti), .int (qI fa)])), (m1, qA (E 0) 635 ms), (m2, qA (E 0) 635 ma), (m3, qA (E 0) 3175 mv), (m4, qA (E 0) 140 mt), (m5, qA (E 0) 2 mn), (m6, qA (E 0) 64 ml), (m7, qA (E 0) 49152 mr)] 5 [(0, .ref m0), (1, .int (qI x1)), (2, .int (qI x2)), (3, .int (qI x3)), (4, .int (qI x4))] [] := by
    intro x1 x2 n8
    induction n8 with
    | zero =>
      intro x3 x4 hw
      exact hw.elim
    | succ n9 ih =>
      intro x3 x4 hw
      unfold wp_X5_wrongFor_5 at hw
      refine z_iload C 4 rfl dX5_wrongFor_5 ?_
      refine z_bipush C (by decide +kernel) dX5_wrongFor_7 ?_
      refine z_icmp_ge (tgt := 57) C hw.1 (by decide) dX5_wrongFor_9 (fun c4 => ?_) (fun c4 => ?_)
      · replace hw := hw.2.1 c4
        refine z_iload_n C 3 rfl rfl dX5_wrongFor_57 ?_
        exact hend 58 _ x3 dX5_wrongFor_58 hw
      · replace hw := hw.2.2 c4
        refine z_iload_n C 3 rfl rfl dX5_wrongFor_12 ?_
        refine z_aload_n C 0 rfl rfl dX5_wrongFor_13 ?_
        refine z_iload C 4 rfl dX5_wrongFor_14 ?_
        refine z_iload_n C 1 rfl rfl dX5_wrongFor_16 ?_
        refine z_iload_n C 2 rfl rfl dX5_wrongFor_17 ?_
        refine z_callV (n := 3) C (c_X5_isShot l D E m0 m1 m2 m3 m4 m5 m6 m7 th sm le tk fr ti fa ms ma mv mt mn ml mr x4 x1 x2 hw) qF0_ok (fun _ _ _ => trivial) gX5_wrongFor_X5_isShot rfl (by decide +kernel) ⟨(Nat.le_of_ble_eq_true rfl), (Nat.le_of_ble_eq_true rfl)⟩ rfl 0 rfl rfl [0, 1, 2, 3, 4, 5, 6, 7] rfl rfl (Nat.le_of_ble_eq_true rfl) dX5_wrongFor_18 (fun r5 hw => ?_)
        show qZ X 0 0 [(m0, .inr (5, [.int (qI th), .ref m1, .ref m2, .ref m3, .int (qI sm), .ref m4, .int (qI le), .ref m5, .ref m6, .ref m7, .int (qI tk), .int (qI fr), .int (qI ti), .int (qI fa)])), (m1, qA (E 0) 635 ms), (m2, qA (E 0) 635 ma), (m3, qA (E 0) 3175 mv), (m4, qA (E 0) 140 mt), (m5, qA (E 0) 2 mn), (m6, qA (E 0) 64 ml), (m7, qA (E 0) 49152 mr)] _ _ [.int (qI r5), .int (qI x3)]
        refine z_aload_n C 0 rfl rfl dX5_wrongFor_21 ?_
        refine z_get C iX5_wrongFor_X5 0 rfl rfl 1 (by decide) (List.mem_of_getElem? (i := 1) rfl) rfl rfl dX5_wrongFor_22 ?_
        refine z_sipush C (by decide +kernel) dX5_wrongFor_25 ?_
        refine z_iload C 4 rfl dX5_wrongFor_28 ?_
        refine z_iadd C dX5_wrongFor_30 ?_
        refine z_iald C 1 rfl (by decide) hw.1 dX5_wrongFor_31 ?_
        replace hw := hw.2
        refine z_name (fun v6 ev6 => ?_)
        replace hw := hw v6 ev6
        refine z_iconst C dX5_wrongFor_32 ?_
        refine z_icmp_ne (tgt := 40) C hw.1 (by decide) dX5_wrongFor_33 (fun c7 => ?_) (fun c7 => ?_)
        · replace hw := hw.2.1 c7
          refine z_iconst C dX5_wrongFor_40 ?_
          refine z_lst (ps := [0, 1, 2, 4]) (lv' := [(0, .ref m0), (1, .int (qI x1)), (2, .int (qI x2)), (4, .int (qI x4))]) (st' := [.int (qI (0 : Int)), .int (qI r5), .int (qI x3)]) rfl rfl ?_
          exact hB41 x1 x2 _ ih x4 x3 r5 (0 : Int) hw
        · replace hw := hw.2.2 c7
          refine z_iconst C dX5_wrongFor_36 ?_
          refine z_goto (tgt := 41) C (by decide) dX5_wrongFor_37 ?_
          refine z_lst (ps := [0, 1, 2, 4]) (lv' := [(0, .ref m0), (1, .int (qI x1)), (2, .int (qI x2)), (4, .int (qI x4))]) (st' := [.int (qI (1 : Int)), .int (qI r5), .int (qI x3)]) rfl rfl ?_
          exact hB41 x1 x2 _ ih x4 x3 r5 (1 : Int) hw
  unfold wp_X5_wrongFor at hw
  show qZ X 0 0 [(m0, .inr (5, [.int (qI th), .ref m1, .ref m2, .ref m3, .int (qI sm), .ref m4, .int (qI le), .ref m5, .ref m6, .ref m7, .int (qI tk), .int (qI fr), .int (qI ti), .int (qI fa)])), (m1, qA (E 0) 635 ms), (m2, qA (E 0) 635 ma), (m3, qA (E 0) 3175 mv), (m4, qA (E 0) 140 mt), (m5, qA (E 0) 2 mn), (m6, qA (E 0) 64 ml), (m7, qA (E 0) 49152 mr)] 0 [(0, .ref m0), (1, .int (qI x1)), (2, .int (qI x2))] []
  refine z_iconst C dX5_wrongFor_0 ?_
  refine z_istore_n C rfl (by decide) rfl dX5_wrongFor_1 ?_
  refine z_iconst C dX5_wrongFor_2 ?_
  refine z_istore C (by decide) rfl dX5_wrongFor_3 ?_
  refine z_lst (ps := [2, 3, 4, 1, 0]) (lv' := [(0, .ref m0), (1, .int (qI x1)), (2, .int (qI x2)), (3, .int (qI (0 : Int))), (4, .int (qI (0 : Int)))]) (st' := []) rfl rfl ?_
  obtain ⟨n8, hw⟩ := hw
  exact hB5 x1 x2 n8 (0 : Int) (0 : Int) hw
def wp_X5_isWrong_70 (Φ : Int → Prop)  (k0 : Int) : Prop := ((k0 = 0 ∨ k0 = 1) ∧ Φ k0)
def wp_X5_isWrong_62 (Φ : Int → Prop)  (k0 : Int) (k1 : Int) : Prop := ((qR k0 ∧ qR k1) ∧ (k0 = k1 → wp_X5_isWrong_70 Φ  (0 : Int)) ∧ (¬ (k0 = k1) → wp_X5_isWrong_70 Φ  (1 : Int)))
def wp_X5_isWrong_27 (Φ : Int → Prop)  (k0 : Int) (k1 : Int) : Prop := ((qR k0 ∧ qR k1) ∧ (k0 = k1 → wp_X5_isWrong_70 Φ  (0 : Int)) ∧ (¬ (k0 = k1) → wp_X5_isWrong_70 Φ  (1 : Int)))
def wp_X5_isWrong (x1 : Int) (x2 : Int) (ms : Nat → Int) (ml : Nat → Int) (Φ : Int → Prop) : Prop := (qR x2 ∧ (¬ x2 = (0 : Int) → wp_X5_isShotNow x1 ms ml (fun (r4 : Int) => ((0 ≤ ((147 : Int) + x1) ∧ ((147 : Int) + x1) < 635) ∧ (∀ v5 : Int, v5 = ms (((147 : Int) + x1)).toNat → ((qR v5 ∧ qR (1 : Int)) ∧ (¬ v5 = (1 : Int) → wp_X5_isWrong_62 Φ  r4 (0 : Int)) ∧ (¬ (¬ v5 = (1 : Int)) → wp_X5_isWrong_62 Φ  r4 (1 : Int))))))) ∧ (¬ (¬ x2 = (0 : Int)) → wp_X5_isEyed x1 ms ml (fun (r7 : Int) => ((0 ≤ ((83 : Int) + x1) ∧ ((83 : Int) + x1) < 635) ∧ (∀ v8 : Int, v8 = ms (((83 : Int) + x1)).toNat → ((qR v8 ∧ qR (1 : Int)) ∧ (¬ v8 = (1 : Int) → wp_X5_isWrong_27 Φ  r7 (0 : Int)) ∧ (¬ (¬ v8 = (1 : Int)) → wp_X5_isWrong_27 Φ  r7 (1 : Int))))))))
theorem iX5_isWrong_X5 : ∀ w ∈ wsX50, w ∈ wsX5_isWrong := fun w h => List.mem_cons_of_mem _ (List.mem_append_right _ (h))
set_option maxHeartbeats 4000000 in
set_option maxRecDepth 100000 in
theorem c_X5_isWrong (l : Launch) (D : va_G) (E : Nat → ClassId) (m0 m1 m2 m3 m4 m5 m6 m7 : Nat) (th : Int) (sm : Int) (le : Int) (tk : Int) (fr : Int) (ti : Int) (fa : Int) (ms : Nat → Int) (ma : Nat → Int) (mv : Nat → Int) (mt : Nat → Int) (mn : Nat → Int) (ml : Nat → Int) (mr : Nat → Int) (x1 : Int) (x2 : Int) {Φ : Int → Prop} (hw : wp_X5_isWrong x1 x2 ms ml Φ) : qRO l D E qF0 yX5_isWrong wsX5_isWrong 6 136 [(m0, .inr (5, [.int (qI th), .ref m1, .ref m2, .ref m3, .int (qI sm), .ref m4, .int (qI le), .ref m5, .ref m6, .ref m7, .int (qI tk), .int (qI fr), .int (qI ti), .int (qI fa)])), (m1, qA (E 0) 635 ms), (m2, qA (E 0) 635 ma), (m3, qA (E 0) 3175 mv), (m4, qA (E 0) 140 mt), (m5, qA (E 0) 2 mn), (m6, qA (E 0) 64 ml), (m7, qA (E 0) 49152 mr)] [.ref m0, .int (qI x1), .int (qI x2)] qeI (fun r => Φ r) := by
  refine qRO_bool (nL := 3) (own := RX5) qF0_ok (by decide) rfl rfl (Nat.le_of_ble_eq_true rfl) (fun X C hend => ?_)
  have hB70 : ∀ k0 : Int, wp_X5_isWrong_70 Φ  k0 → qZ X 0 0 [(m0, .inr (5, [.int (qI th), .ref m1, .ref m2, .ref m3, .int (qI sm), .ref m4, .int (qI le), .ref m5, .ref m6, .ref m7, .int (qI tk), .int (qI fr), .int (qI ti), .int (qI fa)])), (m1, qA (E 0) 635 ms), (m2, qA (E 0) 635 ma), (m3, qA (E 0) 3175 mv), (m4, qA (E 0) 140 mt), (m5, qA (E 0) 2 mn), (m6, qA (E 0) 64 ml), (m7, qA (E 0) 49152 mr)] 70 [] [.int (qI k0)] := by
    intro k0 hw
    unfold wp_X5_isWrong_70 at hw
    exact hend 70 _ k0 dX5_isWrong_70 hw.1 hw.2
  have hB62 : ∀ k0 : Int, ∀ k1 : Int, wp_X5_isWrong_62 Φ  k0 k1 → qZ X 0 0 [(m0, .inr (5, [.int (qI th), .ref m1, .ref m2, .ref m3, .int (qI sm), .ref m4, .int (qI le), .ref m5, .ref m6, .ref m7, .int (qI tk), .int (qI fr), .int (qI ti), .int (qI fa)])), (m1, qA (E 0) 635 ms), (m2, qA (E 0) 635 ma), (m3, qA (E 0) 3175 mv), (m4, qA (E 0) 140 mt), (m5, qA (E 0) 2 mn), (m6, qA (E 0) 64 ml), (m7, qA (E 0) 49152 mr)] 62 [] [.int (qI k1), .int (qI k0)] := by
    intro k0 k1 hw
    unfold wp_X5_isWrong_62 at hw
    refine z_icmp_eq (tgt := 69) C hw.1 (by decide) dX5_isWrong_62 (fun c1 => ?_) (fun c1 => ?_)
    · replace hw := hw.2.1 c1
      refine z_iconst C dX5_isWrong_69 ?_
      refine z_lst (ps := []) (lv' := []) (st' := [.int (qI (0 : Int))]) rfl rfl ?_
      exact hB70 (0 : Int) hw
    · replace hw := hw.2.2 c1
      refine z_iconst C dX5_isWrong_65 ?_
      refine z_goto (tgt := 70) C (by decide) dX5_isWrong_66 ?_
      refine z_lst (ps := []) (lv' := []) (st' := [.int (qI (1 : Int))]) rfl rfl ?_
      exact hB70 (1 : Int) hw
  have hB27 : ∀ k0 : Int, ∀ k1 : Int, wp_X5_isWrong_27 Φ  k0 k1 → qZ X 0 0 [(m0, .inr (5, [.int (qI th), .ref m1, .ref m2, .ref m3, .int (qI sm), .ref m4, .int (qI le), .ref m5, .ref m6, .ref m7, .int (qI tk), .int (qI fr), .int (qI ti), .int (qI fa)])), (m1, qA (E 0) 635 ms), (m2, qA (E 0) 635 ma), (m3, qA (E 0) 3175 mv), (m4, qA (E 0) 140 mt), (m5, qA (E 0) 2 mn), (m6, qA (E 0) 64 ml), (m7, qA (E 0) 49152 mr)] 27 [] [.int (qI k1), .int (qI k0)] := by
    intro k0 k1 hw
    unfold wp_X5_isWrong_27 at hw
    refine z_icmp_eq (tgt := 34) C hw.1 (by decide) dX5_isWrong_27 (fun c2 => ?_) (fun c2 => ?_)
    · replace hw := hw.2.1 c2
      refine z_iconst C dX5_isWrong_34 ?_
      refine z_goto (tgt := 70) C (by decide) dX5_isWrong_35 ?_
      refine z_lst (ps := []) (lv' := []) (st' := [.int (qI (0 : Int))]) rfl rfl ?_
      exact hB70 (0 : Int) hw
    · replace hw := hw.2.2 c2
      refine z_iconst C dX5_isWrong_30 ?_
      refine z_goto (tgt := 70) C (by decide) dX5_isWrong_31 ?_
      refine z_lst (ps := []) (lv' := []) (st' := [.int (qI (1 : Int))]) rfl rfl ?_
      exact hB70 (1 : Int) hw
  unfold wp_X5_isWrong at hw
  show qZ X 0 0 [(m0, .inr (5, [.int (qI th), .ref m1, .ref m2, .ref m3, .int (qI sm), .ref m4, .int (qI le), .ref m5, .ref m6, .ref m7, .int (qI tk), .int (qI fr), .int (qI ti), .int (qI fa)])), (m1, qA (E 0) 635 ms), (m2, qA (E 0) 635 ma), (m3, qA (E 0) 3175 mv), (m4, qA (E 0) 140 mt), (m5, qA (E 0) 2 mn), (m6, qA (E 0) 64 ml), (m7, qA (E 0) 49152 mr)] 0 [(0, .ref m0), (1, .int (qI x1)), (2, .int (qI x2))] []
  refine z_iload_n C 2 rfl rfl dX5_isWrong_0 ?_
  refine z_if_ne (tgt := 38) C hw.1 (by decide) dX5_isWrong_1 (fun c3 => ?_) (fun c3 => ?_)
  · replace hw := hw.2.1 c3
    refine z_aload_n C 0 rfl rfl dX5_isWrong_38 ?_
    refine z_iload_n C 1 rfl rfl dX5_isWrong_39 ?_
    refine z_callV (n := 1) C (c_X5_isShotNow l D E m0 m1 m2 m3 m4 m5 m6 m7 th sm le tk fr ti fa ms ma mv mt mn ml mr x1 hw) qF0_ok (fun _ _ _ => trivial) gX5_isWrong_X5_isShotNow rfl (by decide +kernel) ⟨(Nat.le_of_ble_eq_true rfl), (Nat.le_of_ble_eq_true rfl)⟩ rfl 0 rfl rfl [0, 1, 2, 3, 4, 5, 6, 7] rfl rfl (Nat.le_of_ble_eq_true rfl) dX5_isWrong_40 (fun r4 hw => ?_)
    show qZ X 0 0 [(m0, .inr (5, [.int (qI th), .ref m1, .ref m2, .ref m3, .int (qI sm), .ref m4, .int (qI le), .ref m5, .ref m6, .ref m7, .int (qI tk), .int (qI fr), .int (qI ti), .int (qI fa)])), (m1, qA (E 0) 635 ms), (m2, qA (E 0) 635 ma), (m3, qA (E 0) 3175 mv), (m4, qA (E 0) 140 mt), (m5, qA (E 0) 2 mn), (m6, qA (E 0) 64 ml), (m7, qA (E 0) 49152 mr)] _ _ [.int (qI r4)]
    refine z_aload_n C 0 rfl rfl dX5_isWrong_43 ?_
    refine z_get C iX5_isWrong_X5 0 rfl rfl 1 (by decide) (List.mem_of_getElem? (i := 1) rfl) rfl rfl dX5_isWrong_44 ?_
    refine z_sipush C (by decide +kernel) dX5_isWrong_47 ?_
    refine z_iload_n C 1 rfl rfl dX5_isWrong_50 ?_
    refine z_iadd C dX5_isWrong_51 ?_
    refine z_iald C 1 rfl (by decide) hw.1 dX5_isWrong_52 ?_
    replace hw := hw.2
    refine z_name (fun v5 ev5 => ?_)
    replace hw := hw v5 ev5
    refine z_iconst C dX5_isWrong_53 ?_
    refine z_icmp_ne (tgt := 61) C hw.1 (by decide) dX5_isWrong_54 (fun c6 => ?_) (fun c6 => ?_)
    · replace hw := hw.2.1 c6
      refine z_iconst C dX5_isWrong_61 ?_
      refine z_lst (ps := []) (lv' := []) (st' := [.int (qI (0 : Int)), .int (qI r4)]) rfl rfl ?_
      exact hB62 r4 (0 : Int) hw
    · replace hw := hw.2.2 c6
      refine z_iconst C dX5_isWrong_57 ?_
      refine z_goto (tgt := 62) C (by decide) dX5_isWrong_58 ?_
      refine z_lst (ps := []) (lv' := []) (st' := [.int (qI (1 : Int)), .int (qI r4)]) rfl rfl ?_
      exact hB62 r4 (1 : Int) hw
  · replace hw := hw.2.2 c3
    refine z_aload_n C 0 rfl rfl dX5_isWrong_4 ?_
    refine z_iload_n C 1 rfl rfl dX5_isWrong_5 ?_
    refine z_callV (n := 1) C (c_X5_isEyed l D E m0 m1 m2 m3 m4 m5 m6 m7 th sm le tk fr ti fa ms ma mv mt mn ml mr x1 hw) qF0_ok (fun _ _ _ => trivial) gX5_isWrong_X5_isEyed rfl (by decide +kernel) ⟨(Nat.le_of_ble_eq_true rfl), (Nat.le_of_ble_eq_true rfl)⟩ rfl 0 rfl rfl [0, 1, 2, 3, 4, 5, 6, 7] rfl rfl (Nat.le_of_ble_eq_true rfl) dX5_isWrong_6 (fun r7 hw => ?_)
    show qZ X 0 0 [(m0, .inr (5, [.int (qI th), .ref m1, .ref m2, .ref m3, .int (qI sm), .ref m4, .int (qI le), .ref m5, .ref m6, .ref m7, .int (qI tk), .int (qI fr), .int (qI ti), .int (qI fa)])), (m1, qA (E 0) 635 ms), (m2, qA (E 0) 635 ma), (m3, qA (E 0) 3175 mv), (m4, qA (E 0) 140 mt), (m5, qA (E 0) 2 mn), (m6, qA (E 0) 64 ml), (m7, qA (E 0) 49152 mr)] _ _ [.int (qI r7)]
    refine z_aload_n C 0 rfl rfl dX5_isWrong_9 ?_
    refine z_get C iX5_isWrong_X5 0 rfl rfl 1 (by decide) (List.mem_of_getElem? (i := 1) rfl) rfl rfl dX5_isWrong_10 ?_
    refine z_bipush C (by decide +kernel) dX5_isWrong_13 ?_
    refine z_iload_n C 1 rfl rfl dX5_isWrong_15 ?_
    refine z_iadd C dX5_isWrong_16 ?_
    refine z_iald C 1 rfl (by decide) hw.1 dX5_isWrong_17 ?_
    replace hw := hw.2
    refine z_name (fun v8 ev8 => ?_)
    replace hw := hw v8 ev8
    refine z_iconst C dX5_isWrong_18 ?_
    refine z_icmp_ne (tgt := 26) C hw.1 (by decide) dX5_isWrong_19 (fun c9 => ?_) (fun c9 => ?_)
    · replace hw := hw.2.1 c9
      refine z_iconst C dX5_isWrong_26 ?_
      refine z_lst (ps := []) (lv' := []) (st' := [.int (qI (0 : Int)), .int (qI r7)]) rfl rfl ?_
      exact hB27 r7 (0 : Int) hw
    · replace hw := hw.2.2 c9
      refine z_iconst C dX5_isWrong_22 ?_
      refine z_goto (tgt := 27) C (by decide) dX5_isWrong_23 ?_
      refine z_lst (ps := []) (lv' := []) (st' := [.int (qI (1 : Int)), .int (qI r7)]) rfl rfl ?_
      exact hB27 r7 (1 : Int) hw
def wp_X5_litMany_31 (Φ : Int → (Nat → Int) → Prop) (K8 : Int → Int → Prop) (x2 : Int) (k0 : Int) (k1 : Int) (ml : Nat → Int) : Prop := (∀ v1 : Int, v1 = (k0 + k1) → (∀ v2 : Int, v2 = x2 + (1 : Int) → K8 v1 v2))
def wp_X5_litMany_8 (Φ : Int → (Nat → Int) → Prop)  (ml : Nat → Int) : Nat → Int → Int → Prop
  | 0, _, _ => False
  | n9 + 1, x1, x2 => ((qR x2 ∧ qR (64 : Int)) ∧ ((64 : Int) ≤ x2 → Φ x1 ml) ∧ (¬ ((64 : Int) ≤ x2) → ((0 ≤ x2 ∧ x2 < 64) ∧ (∀ v4 : Int, v4 = ml (x2).toNat → ((qR v4 ∧ qR (-9 : Int)) ∧ (¬ v4 = (-9 : Int) → wp_X5_litMany_31 Φ (wp_X5_litMany_8 Φ  ml n9) x2 x1 (1 : Int) ml) ∧ (¬ (¬ v4 = (-9 : Int)) → wp_X5_litMany_31 Φ (wp_X5_litMany_8 Φ  ml n9) x2 x1 (0 : Int) ml))))))
def wp_X5_litMany  (ms : Nat → Int) (ml : Nat → Int) (Φ : Int → (Nat → Int) → Prop) : Prop := wp_X5_beam ms ml (fun (g7 : Nat → Int) => ∃ n : Nat, wp_X5_litMany_8 Φ  g7 n (0 : Int) (0 : Int))
theorem iX5_litMany_X5 : ∀ w ∈ wsX50, w ∈ wsX5_litMany := fun w h => List.mem_cons_of_mem _ (List.mem_append_right _ (h))
set_option maxHeartbeats 4000000 in
set_option maxRecDepth 100000 in
theorem c_X5_litMany (l : Launch) (D : va_G) (E : Nat → ClassId) (m0 m1 m2 m3 m4 m5 m6 m7 : Nat) (th : Int) (sm : Int) (le : Int) (tk : Int) (fr : Int) (ti : Int) (fa : Int) (ms : Nat → Int) (ma : Nat → Int) (mv : Nat → Int) (mt : Nat → Int) (mn : Nat → Int) (ml : Nat → Int) (mr : Nat → Int)  {Φ : Int → (Nat → Int) → Prop} (hw : wp_X5_litMany  ms ml Φ) : qRW (σ := (Nat → Int)) l D E qF0 yX5_litMany wsX5_litMany 3 64 [(m0, .inr (5, [.int (qI th), .ref m1, .ref m2, .ref m3, .int (qI sm), .ref m4, .int (qI le), .ref m5, .ref m6, .ref m7, .int (qI tk), .int (qI fr), .int (qI ti), .int (qI fa)])), (m1, qA (E 0) 635 ms), (m2, qA (E 0) 635 ma), (m3, qA (E 0) 3175 mv), (m4, qA (E 0) 140 mt), (m5, qA (E 0) 2 mn), (m6, qA (E 0) 64 ml), (m7, qA (E 0) 49152 mr)] [.ref m0] qeI (fun u => [(m0, .inr (5, [.int (qI th), .ref m1, .ref m2, .ref m3, .int (qI sm), .ref m4, .int (qI le), .ref m5, .ref m6, .ref m7, .int (qI tk), .int (qI fr), .int (qI ti), .int (qI fa)])), (m1, qA (E 0) 635 ms), (m2, qA (E 0) 635 ma), (m3, qA (E 0) 3175 mv), (m4, qA (E 0) 140 mt), (m5, qA (E 0) 2 mn), (m6, qA (E 0) 64 u), (m7, qA (E 0) 49152 mr)]) (fun r u => Φ r u) := by
  refine qRW_int (nL := 3) (own := RX5) qF0_ok (by decide) rfl rfl (Nat.le_of_ble_eq_true rfl) (fun X C hend => ?_)
  have hB31 : ∀ ml : Nat → Int, ∀ K8 : Int → Int → Prop, (∀ (x1 : Int) (x2 : Int), K8 x1 x2 → qZ X 0 0 [(m0, .inr (5, [.int (qI th), .ref m1, .ref m2, .ref m3, .int (qI sm), .ref m4, .int (qI le), .ref m5, .ref m6, .ref m7, .int (qI tk), .int (qI fr), .int (qI ti), .int (qI fa)])), (m1, qA (E 0) 635 ms), (m2, qA (E 0) 635 ma), (m3, qA (E 0) 3175 mv), (m4, qA (E 0) 140 mt), (m5, qA (E 0) 2 mn), (m6, qA (E 0) 64 ml), (m7, qA (E 0) 49152 mr)] 8 [(0, .ref m0), (1, .int (qI x1)), (2, .int (qI x2))] []) → ∀ x2 : Int, ∀ k0 : Int, ∀ k1 : Int, wp_X5_litMany_31 Φ K8 x2 k0 k1 ml → qZ X 0 0 [(m0, .inr (5, [.int (qI th), .ref m1, .ref m2, .ref m3, .int (qI sm), .ref m4, .int (qI le), .ref m5, .ref m6, .ref m7, .int (qI tk), .int (qI fr), .int (qI ti), .int (qI fa)])), (m1, qA (E 0) 635 ms), (m2, qA (E 0) 635 ma), (m3, qA (E 0) 3175 mv), (m4, qA (E 0) 140 mt), (m5, qA (E 0) 2 mn), (m6, qA (E 0) 64 ml), (m7, qA (E 0) 49152 mr)] 31 [(0, .ref m0), (2, .int (qI x2))] [.int (qI k1), .int (qI k0)] := by
    intro ml K8 hK8 x2 k0 k1 hw
    unfold wp_X5_litMany_31 at hw
    refine z_iadd C dX5_litMany_31 ?_
    refine z_name (fun v1 ev1 => ?_)
    replace hw := hw v1 ev1
    refine z_istore_n C rfl (by decide) rfl dX5_litMany_32 ?_
    obtain ⟨v2, ev2⟩ : ∃ v2 : Int, v2 = x2 + (1 : Int) := ⟨_, rfl⟩
    replace hw := hw v2 ev2
    refine z_iinc C 2 rfl (by decide) v2 ev2 rfl dX5_litMany_33 ?_
    refine z_goto (tgt := 8) C (by decide) dX5_litMany_36 ?_
    refine z_lst (ps := [2, 1, 0]) (lv' := [(0, .ref m0), (1, .int (qI v1)), (2, .int (qI v2))]) (st' := []) rfl rfl ?_
    exact hK8 v1 v2 hw
  have hB8 : ∀ ml : Nat → Int, ∀ n8 : Nat, ∀ x1 : Int, ∀ x2 : Int, wp_X5_litMany_8 Φ  ml n8 x1 x2 → qZ X 0 0 [(m0, .inr (5, [.int (qI th), .ref m1, .ref m2, .ref m3, .int (qI sm), .ref m4, .int (qI le), .ref m5, .ref m6, .ref m7, .int (qI tk), .int (qI fr), .int (qI ti), .int (qI fa)])), (m1, qA (E 0) 635 ms), (m2, qA (E 0) 635 ma), (m3, qA (E 0) 3175 mv), (m4, qA (E 0) 140 mt), (m5, qA (E 0) 2 mn), (m6, qA (E 0) 64 ml), (m7, qA (E 0) 49152 mr)] 8 [(0, .ref m0), (1, .int (qI x1)), (2, .int (qI x2))] [] := by
    intro ml n8
    induction n8 with
    | zero =>
      intro x1 x2 hw
      exact hw.elim
    | succ n9 ih =>
      intro x1 x2 hw
      unfold wp_X5_litMany_8 at hw
      refine z_iload_n C 2 rfl rfl dX5_litMany_8 ?_
      refine z_bipush C (by decide +kernel) dX5_litMany_9 ?_
      refine z_icmp_ge (tgt := 39) C hw.1 (by decide) dX5_litMany_11 (fun c3 => ?_) (fun c3 => ?_)
      · replace hw := hw.2.1 c3
        refine z_iload_n C 1 rfl rfl dX5_litMany_39 ?_
        exact hend 40 _ x1 ml dX5_litMany_40 hw
      · replace hw := hw.2.2 c3
        refine z_iload_n C 1 rfl rfl dX5_litMany_14 ?_
        refine z_aload_n C 0 rfl rfl dX5_litMany_15 ?_
        refine z_get C iX5_litMany_X5 0 rfl rfl 8 (by decide) (List.mem_of_getElem? (i := 1) rfl) rfl rfl dX5_litMany_16 ?_
        refine z_iload_n C 2 rfl rfl dX5_litMany_19 ?_
        refine z_iald C 6 rfl (by decide) hw.1 dX5_litMany_20 ?_
        replace hw := hw.2
        refine z_name (fun v4 ev4 => ?_)
        replace hw := hw v4 ev4
        refine z_bipush C (by decide +kernel) dX5_litMany_21 ?_
        refine z_icmp_ne (tgt := 30) C hw.1 (by decide) dX5_litMany_23 (fun c5 => ?_) (fun c5 => ?_)
        · replace hw := hw.2.1 c5
          refine z_iconst C dX5_litMany_30 ?_
          refine z_lst (ps := [0, 2]) (lv' := [(0, .ref m0), (2, .int (qI x2))]) (st' := [.int (qI (1 : Int)), .int (qI x1)]) rfl rfl ?_
          exact hB31 ml _ ih x2 x1 (1 : Int) hw
        · replace hw := hw.2.2 c5
          refine z_iconst C dX5_litMany_26 ?_
          refine z_goto (tgt := 31) C (by decide) dX5_litMany_27 ?_
          refine z_lst (ps := [0, 2]) (lv' := [(0, .ref m0), (2, .int (qI x2))]) (st' := [.int (qI (0 : Int)), .int (qI x1)]) rfl rfl ?_
          exact hB31 ml _ ih x2 x1 (0 : Int) hw
  unfold wp_X5_litMany at hw
  show qZ X 0 0 [(m0, .inr (5, [.int (qI th), .ref m1, .ref m2, .ref m3, .int (qI sm), .ref m4, .int (qI le), .ref m5, .ref m6, .ref m7, .int (qI tk), .int (qI fr), .int (qI ti), .int (qI fa)])), (m1, qA (E 0) 635 ms), (m2, qA (E 0) 635 ma), (m3, qA (E 0) 3175 mv), (m4, qA (E 0) 140 mt), (m5, qA (E 0) 2 mn), (m6, qA (E 0) 64 ml), (m7, qA (E 0) 49152 mr)] 0 [(0, .ref m0)] []
  refine z_aload_n C 0 rfl rfl dX5_litMany_0 ?_
  refine z_callVW (n := 0) C (c_X5_beam l D E m0 m1 m2 m3 m4 m5 m6 m7 th sm le tk fr ti fa ms ma mv mt mn ml mr  hw) qF0_ok (fun _ _ _ => trivial) gX5_litMany_X5_beam rfl (by decide +kernel) ⟨(Nat.le_of_ble_eq_true rfl), (Nat.le_of_ble_eq_true rfl)⟩ rfl 0 rfl rfl [0, 1, 2, 3, 4, 5, 6, 7] [] (wr := []) rfl rfl rfl rfl (by decide) [0, 1, 2, 3, 4, 5, 6, 7] rfl (fun u9 => [(m0, .inr (5, [.int (qI th), .ref m1, .ref m2, .ref m3, .int (qI sm), .ref m4, .int (qI le), .ref m5, .ref m6, .ref m7, .int (qI tk), .int (qI fr), .int (qI ti), .int (qI fa)])), (m1, qA (E 0) 635 ms), (m2, qA (E 0) 635 ma), (m3, qA (E 0) 3175 mv), (m4, qA (E 0) 140 mt), (m5, qA (E 0) 2 mn), (m6, qA (E 0) 64 u9), (m7, qA (E 0) 49152 mr)]) (fun _ => rfl) rfl (Nat.le_of_ble_eq_true rfl) dX5_litMany_1 (fun r6 u9 hw => ?_)
  obtain ⟨g7, rfl⟩ : ∃ z, z = u9 := ⟨_, rfl⟩
  refine z_ws (ws' := [(m0, .inr (5, [.int (qI th), .ref m1, .ref m2, .ref m3, .int (qI sm), .ref m4, .int (qI le), .ref m5, .ref m6, .ref m7, .int (qI tk), .int (qI fr), .int (qI ti), .int (qI fa)])), (m1, qA (E 0) 635 ms), (m2, qA (E 0) 635 ma), (m3, qA (E 0) 3175 mv), (m4, qA (E 0) 140 mt), (m5, qA (E 0) 2 mn), (m6, qA (E 0) 64 g7), (m7, qA (E 0) 49152 mr)]) rfl ?_
  try dsimp only at hw
  show qZ X 0 0 [(m0, .inr (5, [.int (qI th), .ref m1, .ref m2, .ref m3, .int (qI sm), .ref m4, .int (qI le), .ref m5, .ref m6, .ref m7, .int (qI tk), .int (qI fr), .int (qI ti), .int (qI fa)])), (m1, qA (E 0) 635 ms), (m2, qA (E 0) 635 ma), (m3, qA (E 0) 3175 mv), (m4, qA (E 0) 140 mt), (m5, qA (E 0) 2 mn), (m6, qA (E 0) 64 g7), (m7, qA (E 0) 49152 mr)] _ _ []
  refine z_iconst C dX5_litMany_4 ?_
  refine z_istore_n C rfl (by decide) rfl dX5_litMany_5 ?_
  refine z_iconst C dX5_litMany_6 ?_
  refine z_istore_n C rfl (by decide) rfl dX5_litMany_7 ?_
  refine z_lst (ps := [2, 1, 0]) (lv' := [(0, .ref m0), (1, .int (qI (0 : Int))), (2, .int (qI (0 : Int)))]) (st' := []) rfl rfl ?_
  obtain ⟨n8, hw⟩ := hw
  exact hB8 g7 n8 (0 : Int) (0 : Int) hw
def wp_X5_leastOf_19 (Φ : Int → Prop)  (k0 : Int) : Prop := Φ k0
def wp_X5_leastOf (x0 : Int)  (Φ : Int → Prop) : Prop := (qR x0 ∧ (¬ x0 = (0 : Int) → ((qR x0 ∧ qR (3 : Int)) ∧ (¬ x0 = (3 : Int) → wp_X5_leastOf_19 Φ  (1 : Int)) ∧ (¬ (¬ x0 = (3 : Int)) → wp_X5_leastOf_19 Φ  (0 : Int)))) ∧ (¬ (¬ x0 = (0 : Int)) → wp_X5_leastOf_19 Φ  (8 : Int)))
set_option maxHeartbeats 4000000 in
set_option maxRecDepth 100000 in
theorem c_X5_leastOf (l : Launch) (D : va_G) (E : Nat → ClassId)   (x0 : Int) {Φ : Int → Prop} (hw : wp_X5_leastOf x0  Φ) : qRO l D E qF0 yX5_leastOf wsX5_leastOf 0 0 [] [.int (qI x0)] qeI (fun r => Φ r) := by
  refine qRO_int (nL := 1) (own := RX5) qF0_ok (by decide) rfl rfl (Nat.le_of_ble_eq_true rfl) (fun X C hend => ?_)
  have hB19 : ∀ k0 : Int, wp_X5_leastOf_19 Φ  k0 → qZ X 0 0 [] 19 [] [.int (qI k0)] := by
    intro k0 hw
    unfold wp_X5_leastOf_19 at hw
    exact hend 19 _ k0 dX5_leastOf_19 hw
  unfold wp_X5_leastOf at hw
  show qZ X 0 0 [] 0 [(0, .int (qI x0))] []
  refine z_iload_n C 0 rfl rfl dX5_leastOf_0 ?_
  refine z_if_ne (tgt := 9) C hw.1 (by decide) dX5_leastOf_1 (fun c1 => ?_) (fun c1 => ?_)
  · replace hw := hw.2.1 c1
    refine z_iload_n C 0 rfl rfl dX5_leastOf_9 ?_
    refine z_iconst C dX5_leastOf_10 ?_
    refine z_icmp_ne (tgt := 18) C hw.1 (by decide) dX5_leastOf_11 (fun c2 => ?_) (fun c2 => ?_)
    · replace hw := hw.2.1 c2
      refine z_iconst C dX5_leastOf_18 ?_
      refine z_lst (ps := []) (lv' := []) (st' := [.int (qI (1 : Int))]) rfl rfl ?_
      exact hB19 (1 : Int) hw
    · replace hw := hw.2.2 c2
      refine z_iconst C dX5_leastOf_14 ?_
      refine z_goto (tgt := 19) C (by decide) dX5_leastOf_15 ?_
      refine z_lst (ps := []) (lv' := []) (st' := [.int (qI (0 : Int))]) rfl rfl ?_
      exact hB19 (0 : Int) hw
  · replace hw := hw.2.2 c1
    refine z_bipush C (by decide +kernel) dX5_leastOf_4 ?_
    refine z_goto (tgt := 19) C (by decide) dX5_leastOf_6 ?_
    refine z_lst (ps := []) (lv' := []) (st' := [.int (qI (8 : Int))]) rfl rfl ?_
    exact hB19 (8 : Int) hw
def wp_X5_mostOf_42 (Φ : Int → Prop)  (k0 : Int) : Prop := Φ k0
def wp_X5_mostOf (x0 : Int)  (Φ : Int → Prop) : Prop := (qR x0 ∧ (¬ x0 = (0 : Int) → ((qR x0 ∧ qR (1 : Int)) ∧ (¬ x0 = (1 : Int) → ((qR x0 ∧ qR (3 : Int)) ∧ (¬ x0 = (3 : Int) → ((qR x0 ∧ qR (4 : Int)) ∧ (¬ x0 = (4 : Int) → wp_X5_mostOf_42 Φ  (100 : Int)) ∧ (¬ (¬ x0 = (4 : Int)) → wp_X5_mostOf_42 Φ  (50 : Int)))) ∧ (¬ (¬ x0 = (3 : Int)) → wp_X5_mostOf_42 Φ  (199 : Int)))) ∧ (¬ (¬ x0 = (1 : Int)) → wp_X5_mostOf_42 Φ  (4 : Int)))) ∧ (¬ (¬ x0 = (0 : Int)) → wp_X5_mostOf_42 Φ  (200 : Int)))
set_option maxHeartbeats 4000000 in
set_option maxRecDepth 100000 in
theorem c_X5_mostOf (l : Launch) (D : va_G) (E : Nat → ClassId)   (x0 : Int) {Φ : Int → Prop} (hw : wp_X5_mostOf x0  Φ) : qRO l D E qF0 yX5_mostOf wsX5_mostOf 0 0 [] [.int (qI x0)] qeI (fun r => Φ r) := by
  refine qRO_int (nL := 1) (own := RX5) qF0_ok (by decide) rfl rfl (Nat.le_of_ble_eq_true rfl) (fun X C hend => ?_)
  have hB42 : ∀ k0 : Int, wp_X5_mostOf_42 Φ  k0 → qZ X 0 0 [] 42 [] [.int (qI k0)] := by
    intro k0 hw
    unfold wp_X5_mostOf_42 at hw
    exact hend 42 _ k0 dX5_mostOf_42 hw
  unfold wp_X5_mostOf at hw
  show qZ X 0 0 [] 0 [(0, .int (qI x0))] []
  refine z_iload_n C 0 rfl rfl dX5_mostOf_0 ?_
  refine z_if_ne (tgt := 10) C hw.1 (by decide) dX5_mostOf_1 (fun c1 => ?_) (fun c1 => ?_)
  · replace hw := hw.2.1 c1
    refine z_iload_n C 0 rfl rfl dX5_mostOf_10 ?_
    refine z_iconst C dX5_mostOf_11 ?_
    refine z_icmp_ne (tgt := 19) C hw.1 (by decide) dX5_mostOf_12 (fun c2 => ?_) (fun c2 => ?_)
    · replace hw := hw.2.1 c2
      refine z_iload_n C 0 rfl rfl dX5_mostOf_19 ?_
      refine z_iconst C dX5_mostOf_20 ?_
      refine z_icmp_ne (tgt := 30) C hw.1 (by decide) dX5_mostOf_21 (fun c3 => ?_) (fun c3 => ?_)
      · replace hw := hw.2.1 c3
        refine z_iload_n C 0 rfl rfl dX5_mostOf_30 ?_
        refine z_iconst C dX5_mostOf_31 ?_
        refine z_icmp_ne (tgt := 40) C hw.1 (by decide) dX5_mostOf_32 (fun c4 => ?_) (fun c4 => ?_)
        · replace hw := hw.2.1 c4
          refine z_bipush C (by decide +kernel) dX5_mostOf_40 ?_
          refine z_lst (ps := []) (lv' := []) (st' := [.int (qI (100 : Int))]) rfl rfl ?_
          exact hB42 (100 : Int) hw
        · replace hw := hw.2.2 c4
          refine z_bipush C (by decide +kernel) dX5_mostOf_35 ?_
          refine z_goto (tgt := 42) C (by decide) dX5_mostOf_37 ?_
          refine z_lst (ps := []) (lv' := []) (st' := [.int (qI (50 : Int))]) rfl rfl ?_
          exact hB42 (50 : Int) hw
      · replace hw := hw.2.2 c3
        refine z_sipush C (by decide +kernel) dX5_mostOf_24 ?_
        refine z_goto (tgt := 42) C (by decide) dX5_mostOf_27 ?_
        refine z_lst (ps := []) (lv' := []) (st' := [.int (qI (199 : Int))]) rfl rfl ?_
        exact hB42 (199 : Int) hw
    · replace hw := hw.2.2 c2
      refine z_iconst C dX5_mostOf_15 ?_
      refine z_goto (tgt := 42) C (by decide) dX5_mostOf_16 ?_
      refine z_lst (ps := []) (lv' := []) (st' := [.int (qI (4 : Int))]) rfl rfl ?_
      exact hB42 (4 : Int) hw
  · replace hw := hw.2.2 c1
    refine z_sipush C (by decide +kernel) dX5_mostOf_4 ?_
    refine z_goto (tgt := 42) C (by decide) dX5_mostOf_7 ?_
    refine z_lst (ps := []) (lv' := []) (st' := [.int (qI (200 : Int))]) rfl rfl ?_
    exact hB42 (200 : Int) hw
def wp_X5_kindCode_21 (Φ : Int → Prop)  (k0 : Int) : Prop := Φ k0
def wp_X5_kindCode_20 (Φ : Int → Prop)   : Prop := wp_X5_kindCode_21 Φ  (-1 : Int)
def wp_X5_kindCode (x1 : Int) (x2 : Int)  (Φ : Int → Prop) : Prop := wp_X5_isSpot x1 (fun (r1 : Int) => (qR r1 ∧ (r1 = (0 : Int) → wp_X5_kindCode_20 Φ  ) ∧ (¬ (r1 = (0 : Int)) → wp_X5_in x2 (0 : Int) (3 : Int) (fun (r3 : Int) => (qR r3 ∧ (r3 = (0 : Int) → wp_X5_kindCode_20 Φ  ) ∧ (¬ (r3 = (0 : Int)) → wp_X5_kindCode_21 Φ  (0 : Int)))))))
set_option maxHeartbeats 4000000 in
set_option maxRecDepth 100000 in
theorem c_X5_kindCode (l : Launch) (D : va_G) (E : Nat → ClassId) (m0 m1 m2 m3 m4 m5 m6 m7 : Nat) (th : Int) (sm : Int) (le : Int) (tk : Int) (fr : Int) (ti : Int) (fa : Int) (ms : Nat → Int) (ma : Nat → Int) (mv : Nat → Int) (mt : Nat → Int) (mn : Nat → Int) (ml : Nat → Int) (mr : Nat → Int) (x1 : Int) (x2 : Int) {Φ : Int → Prop} (hw : wp_X5_kindCode x1 x2  Φ) : qRO l D E qF0 yX5_kindCode wsX5_kindCode 2 42 [(m0, .inr (5, [.int (qI th), .ref m1, .ref m2, .ref m3, .int (qI sm), .ref m4, .int (qI le), .ref m5, .ref m6, .ref m7, .int (qI tk), .int (qI fr), .int (qI ti), .int (qI fa)])), (m1, qA (E 0) 635 ms), (m2, qA (E 0) 635 ma), (m3, qA (E 0) 3175 mv), (m4, qA (E 0) 140 mt), (m5, qA (E 0) 2 mn), (m6, qA (E 0) 64 ml), (m7, qA (E 0) 49152 mr)] [.ref m0, .int (qI x1), .int (qI x2)] qeI (fun r => Φ r) := by
  refine qRO_int (nL := 3) (own := RX5) qF0_ok (by decide) rfl rfl (Nat.le_of_ble_eq_true rfl) (fun X C hend => ?_)
  have hB21 : ∀ k0 : Int, wp_X5_kindCode_21 Φ  k0 → qZ X 0 0 [(m0, .inr (5, [.int (qI th), .ref m1, .ref m2, .ref m3, .int (qI sm), .ref m4, .int (qI le), .ref m5, .ref m6, .ref m7, .int (qI tk), .int (qI fr), .int (qI ti), .int (qI fa)])), (m1, qA (E 0) 635 ms), (m2, qA (E 0) 635 ma), (m3, qA (E 0) 3175 mv), (m4, qA (E 0) 140 mt), (m5, qA (E 0) 2 mn), (m6, qA (E 0) 64 ml), (m7, qA (E 0) 49152 mr)] 21 [] [.int (qI k0)] := by
    intro k0 hw
    unfold wp_X5_kindCode_21 at hw
    exact hend 21 _ k0 dX5_kindCode_21 hw
  have hB20 :  wp_X5_kindCode_20 Φ   → qZ X 0 0 [(m0, .inr (5, [.int (qI th), .ref m1, .ref m2, .ref m3, .int (qI sm), .ref m4, .int (qI le), .ref m5, .ref m6, .ref m7, .int (qI tk), .int (qI fr), .int (qI ti), .int (qI fa)])), (m1, qA (E 0) 635 ms), (m2, qA (E 0) 635 ma), (m3, qA (E 0) 3175 mv), (m4, qA (E 0) 140 mt), (m5, qA (E 0) 2 mn), (m6, qA (E 0) 64 ml), (m7, qA (E 0) 49152 mr)] 20 [] [] := by
    intro  hw
    unfold wp_X5_kindCode_20 at hw
    refine z_iconst C dX5_kindCode_20 ?_
    refine z_lst (ps := []) (lv' := []) (st' := [.int (qI (-1 : Int))]) rfl rfl ?_
    exact hB21 (-1 : Int) hw
  unfold wp_X5_kindCode at hw
  show qZ X 0 0 [(m0, .inr (5, [.int (qI th), .ref m1, .ref m2, .ref m3, .int (qI sm), .ref m4, .int (qI le), .ref m5, .ref m6, .ref m7, .int (qI tk), .int (qI fr), .int (qI ti), .int (qI fa)])), (m1, qA (E 0) 635 ms), (m2, qA (E 0) 635 ma), (m3, qA (E 0) 3175 mv), (m4, qA (E 0) 140 mt), (m5, qA (E 0) 2 mn), (m6, qA (E 0) 64 ml), (m7, qA (E 0) 49152 mr)] 0 [(0, .ref m0), (1, .int (qI x1)), (2, .int (qI x2))] []
  refine z_iload_n C 1 rfl rfl dX5_kindCode_0 ?_
  refine z_callS (n := 1) C (c_X5_isSpot l D E   x1 hw) qF0_ok (fun _ _ _ => trivial) gX5_kindCode_X5_isSpot rfl (by decide +kernel) ⟨(Nat.le_of_ble_eq_true rfl), (Nat.le_of_ble_eq_true rfl)⟩ rfl [] rfl rfl (Nat.le_of_ble_eq_true rfl) dX5_kindCode_1 (fun r1 hw => ?_)
  show qZ X 0 0 [(m0, .inr (5, [.int (qI th), .ref m1, .ref m2, .ref m3, .int (qI sm), .ref m4, .int (qI le), .ref m5, .ref m6, .ref m7, .int (qI tk), .int (qI fr), .int (qI ti), .int (qI fa)])), (m1, qA (E 0) 635 ms), (m2, qA (E 0) 635 ma), (m3, qA (E 0) 3175 mv), (m4, qA (E 0) 140 mt), (m5, qA (E 0) 2 mn), (m6, qA (E 0) 64 ml), (m7, qA (E 0) 49152 mr)] _ _ [.int (qI r1)]
  refine z_if_eq (tgt := 20) C hw.1 (by decide) dX5_kindCode_4 (fun c2 => ?_) (fun c2 => ?_)
  · replace hw := hw.2.1 c2
    refine z_lst (ps := []) (lv' := []) (st' := []) rfl rfl ?_
    exact hB20  hw
  · replace hw := hw.2.2 c2
    refine z_iload_n C 2 rfl rfl dX5_kindCode_7 ?_
    refine z_iconst C dX5_kindCode_8 ?_
    refine z_iconst C dX5_kindCode_9 ?_
    refine z_callS (n := 3) C (c_X5_in l D E   x2 (0 : Int) (3 : Int) hw) qF0_ok (fun _ _ _ => trivial) gX5_kindCode_X5_in rfl (by decide +kernel) ⟨(Nat.le_of_ble_eq_true rfl), (Nat.le_of_ble_eq_true rfl)⟩ rfl [] rfl rfl (Nat.le_of_ble_eq_true rfl) dX5_kindCode_10 (fun r3 hw => ?_)
    show qZ X 0 0 [(m0, .inr (5, [.int (qI th), .ref m1, .ref m2, .ref m3, .int (qI sm), .ref m4, .int (qI le), .ref m5, .ref m6, .ref m7, .int (qI tk), .int (qI fr), .int (qI ti), .int (qI fa)])), (m1, qA (E 0) 635 ms), (m2, qA (E 0) 635 ma), (m3, qA (E 0) 3175 mv), (m4, qA (E 0) 140 mt), (m5, qA (E 0) 2 mn), (m6, qA (E 0) 64 ml), (m7, qA (E 0) 49152 mr)] _ _ [.int (qI r3)]
    refine z_if_eq (tgt := 20) C hw.1 (by decide) dX5_kindCode_13 (fun c4 => ?_) (fun c4 => ?_)
    · replace hw := hw.2.1 c4
      refine z_lst (ps := []) (lv' := []) (st' := []) rfl rfl ?_
      exact hB20  hw
    · replace hw := hw.2.2 c4
      refine z_iconst C dX5_kindCode_16 ?_
      refine z_goto (tgt := 21) C (by decide) dX5_kindCode_17 ?_
      refine z_lst (ps := []) (lv' := []) (st' := [.int (qI (0 : Int))]) rfl rfl ?_
      exact hB21 (0 : Int) hw
def wp_X5_kindNow (x1 : Int) (x2 : Int) (ms : Nat → Int) (Φ : Int → (Nat → Int) → Prop) : Prop := ((0 ≤ ((19 : Int) + x1) ∧ ((19 : Int) + x1) < 635) ∧ (∀ v1 : Int, v1 = ms (((19 : Int) + x1)).toNat → ((0 ≤ ((19 : Int) + x1) ∧ ((19 : Int) + x1) < 635) ∧ ∀ g2 : Nat → Int, g2 = qU ms (((19 : Int) + x1)).toNat x2 → Φ v1 g2)))
theorem iX5_kindNow_X5 : ∀ w ∈ wsX50, w ∈ wsX5_kindNow := fun w h => List.mem_cons_of_mem _ (List.mem_append_right _ (h))
set_option maxHeartbeats 4000000 in
set_option maxRecDepth 100000 in
theorem c_X5_kindNow (l : Launch) (D : va_G) (E : Nat → ClassId) (m0 m1 m2 m3 m4 m5 m6 m7 : Nat) (th : Int) (sm : Int) (le : Int) (tk : Int) (fr : Int) (ti : Int) (fa : Int) (ms : Nat → Int) (ma : Nat → Int) (mv : Nat → Int) (mt : Nat → Int) (mn : Nat → Int) (ml : Nat → Int) (mr : Nat → Int) (x1 : Int) (x2 : Int) {Φ : Int → (Nat → Int) → Prop} (hw : wp_X5_kindNow x1 x2 ms Φ) : qRW (σ := (Nat → Int)) l D E qF0 yX5_kindNow wsX5_kindNow 0 0 [(m0, .inr (5, [.int (qI th), .ref m1, .ref m2, .ref m3, .int (qI sm), .ref m4, .int (qI le), .ref m5, .ref m6, .ref m7, .int (qI tk), .int (qI fr), .int (qI ti), .int (qI fa)])), (m1, qA (E 0) 635 ms), (m2, qA (E 0) 635 ma), (m3, qA (E 0) 3175 mv), (m4, qA (E 0) 140 mt), (m5, qA (E 0) 2 mn), (m6, qA (E 0) 64 ml), (m7, qA (E 0) 49152 mr)] [.ref m0, .int (qI x1), .int (qI x2)] qeI (fun u => [(m0, .inr (5, [.int (qI th), .ref m1, .ref m2, .ref m3, .int (qI sm), .ref m4, .int (qI le), .ref m5, .ref m6, .ref m7, .int (qI tk), .int (qI fr), .int (qI ti), .int (qI fa)])), (m1, qA (E 0) 635 u), (m2, qA (E 0) 635 ma), (m3, qA (E 0) 3175 mv), (m4, qA (E 0) 140 mt), (m5, qA (E 0) 2 mn), (m6, qA (E 0) 64 ml), (m7, qA (E 0) 49152 mr)]) (fun r u => Φ r u) := by
  refine qRW_int (nL := 4) (own := RX5) qF0_ok (by decide) rfl rfl (Nat.le_of_ble_eq_true rfl) (fun X C hend => ?_)
  unfold wp_X5_kindNow at hw
  show qZ X 0 0 [(m0, .inr (5, [.int (qI th), .ref m1, .ref m2, .ref m3, .int (qI sm), .ref m4, .int (qI le), .ref m5, .ref m6, .ref m7, .int (qI tk), .int (qI fr), .int (qI ti), .int (qI fa)])), (m1, qA (E 0) 635 ms), (m2, qA (E 0) 635 ma), (m3, qA (E 0) 3175 mv), (m4, qA (E 0) 140 mt), (m5, qA (E 0) 2 mn), (m6, qA (E 0) 64 ml), (m7, qA (E 0) 49152 mr)] 0 [(0, .ref m0), (1, .int (qI x1)), (2, .int (qI x2))] []
  refine z_aload_n C 0 rfl rfl dX5_kindNow_0 ?_
  refine z_get C iX5_kindNow_X5 0 rfl rfl 1 (by decide) (List.mem_of_getElem? (i := 1) rfl) rfl rfl dX5_kindNow_1 ?_
  refine z_bipush C (by decide +kernel) dX5_kindNow_4 ?_
  refine z_iload_n C 1 rfl rfl dX5_kindNow_6 ?_
  refine z_iadd C dX5_kindNow_7 ?_
  refine z_iald C 1 rfl (by decide) hw.1 dX5_kindNow_8 ?_
  replace hw := hw.2
  refine z_name (fun v1 ev1 => ?_)
  replace hw := hw v1 ev1
  refine z_istore_n C rfl (by decide) rfl dX5_kindNow_9 ?_
  refine z_aload_n C 1 rfl rfl dX5_kindNow_10 ?_
  refine z_get C iX5_kindNow_X5 0 rfl rfl 1 (by decide) (List.mem_of_getElem? (i := 1) rfl) rfl rfl dX5_kindNow_11 ?_
  refine z_bipush C (by decide +kernel) dX5_kindNow_14 ?_
  refine z_iload_n C 2 rfl rfl dX5_kindNow_16 ?_
  refine z_iadd C dX5_kindNow_17 ?_
  refine z_iload_n C 3 rfl rfl dX5_kindNow_18 ?_
  refine z_iast C 1 rfl (by decide) hw.1 (fun g2 => [(m0, .inr (5, [.int (qI th), .ref m1, .ref m2, .ref m3, .int (qI sm), .ref m4, .int (qI le), .ref m5, .ref m6, .ref m7, .int (qI tk), .int (qI fr), .int (qI ti), .int (qI fa)])), (m1, qA (E 0) 635 g2), (m2, qA (E 0) 635 ma), (m3, qA (E 0) 3175 mv), (m4, qA (E 0) 140 mt), (m5, qA (E 0) 2 mn), (m6, qA (E 0) 64 ml), (m7, qA (E 0) 49152 mr)]) (fun _ => rfl) dX5_kindNow_19 (fun g2 eg2 => ?_)
  replace hw := hw.2 g2 eg2
  refine z_iload_n C 0 rfl rfl dX5_kindNow_20 ?_
  exact hend 21 _ v1 g2 dX5_kindNow_21 hw
def wp_X5_positionOf_30 (Φ : Int → Prop) (K5 : Int → Int → Prop) (x1 : Int) (x3 : Int) (k0 : Int) (ms : Nat → Int) : Prop := (∀ v1 : Int, v1 = x3 + (1 : Int) → K5 k0 v1)
def wp_X5_positionOf_5 (Φ : Int → Prop)  (x1 : Int) (ms : Nat → Int) : Nat → Int → Int → Prop
  | 0, _, _ => False
  | n9 + 1, x2, x3 => ((0 ≤ (6 : Int) ∧ (6 : Int) < 635) ∧ (∀ v2 : Int, v2 = ms ((6 : Int)).toNat → ((qR x3 ∧ qR v2) ∧ (v2 ≤ x3 → Φ x2) ∧ (¬ (v2 ≤ x3) → wp_X5_spotAt x3 ms (fun (r4 : Int) => ((qR r4 ∧ qR x1) ∧ (¬ r4 = x1 → wp_X5_positionOf_30 Φ (wp_X5_positionOf_5 Φ  x1 ms n9) x1 x3 x2 ms) ∧ (¬ (¬ r4 = x1) → wp_X5_positionOf_30 Φ (wp_X5_positionOf_5 Φ  x1 ms n9) x1 x3 x3 ms)))))))
def wp_X5_positionOf (x1 : Int) (ms : Nat → Int) (Φ : Int → Prop) : Prop := ∃ n : Nat, wp_X5_positionOf_5 Φ  x1 ms n (-9 : Int) (0 : Int)
theorem iX5_positionOf_X5 : ∀ w ∈ wsX50, w ∈ wsX5_positionOf := fun w h => List.mem_cons_of_mem _ (List.mem_append_right _ (h))
set_option maxHeartbeats 4000000 in
set_option maxRecDepth 100000 in
theorem c_X5_positionOf (l : Launch) (D : va_G) (E : Nat → ClassId) (m0 m1 m2 m3 m4 m5 m6 m7 : Nat) (th : Int) (sm : Int) (le : Int) (tk : Int) (fr : Int) (ti : Int) (fa : Int) (ms : Nat → Int) (ma : Nat → Int) (mv : Nat → Int) (mt : Nat → Int) (mn : Nat → Int) (ml : Nat → Int) (mr : Nat → Int) (x1 : Int) {Φ : Int → Prop} (hw : wp_X5_positionOf x1 ms Φ) : qRO l D E qF0 yX5_positionOf wsX5_positionOf 1 21 [(m0, .inr (5, [.int (qI th), .ref m1, .ref m2, .ref m3, .int (qI sm), .ref m4, .int (qI le), .ref m5, .ref m6, .ref m7, .int (qI tk), .int (qI fr), .int (qI ti), .int (qI fa)])), (m1, qA (E 0) 635 ms), (m2, qA (E 0) 635 ma), (m3, qA (E 0) 3175 mv), (m4, qA (E 0) 140 mt), (m5, qA (E 0) 2 mn), (m6, qA (E 0) 64 ml), (m7, qA (E 0) 49152 mr)] [.ref m0, .int (qI x1)] qeI (fun r => Φ r) := by
  refine qRO_int (nL := 4) (own := RX5) qF0_ok (by decide) rfl rfl (Nat.le_of_ble_eq_true rfl) (fun X C hend => ?_)
  have hB30 : ∀ x1 : Int, ∀ K5 : Int → Int → Prop, (∀ (x2 : Int) (x3 : Int), K5 x2 x3 → qZ X 0 0 [(m0, .inr (5, [.int (qI th), .ref m1, .ref m2, .ref m3, .int (qI sm), .ref m4, .int (qI le), .ref m5, .ref m6, .ref m7, .int (qI tk), .int (qI fr), .int (qI ti), .int (qI fa)])), (m1, qA (E 0) 635 ms), (m2, qA (E 0) 635 ma), (m3, qA (E 0) 3175 mv), (m4, qA (E 0) 140 mt), (m5, qA (E 0) 2 mn), (m6, qA (E 0) 64 ml), (m7, qA (E 0) 49152 mr)] 5 [(0, .ref m0), (1, .int (qI x1)), (2, .int (qI x2)), (3, .int (qI x3))] []) → ∀ x3 : Int, ∀ k0 : Int, wp_X5_positionOf_30 Φ K5 x1 x3 k0 ms → qZ X 0 0 [(m0, .inr (5, [.int (qI th), .ref m1, .ref m2, .ref m3, .int (qI sm), .ref m4, .int (qI le), .ref m5, .ref m6, .ref m7, .int (qI tk), .int (qI fr), .int (qI ti), .int (qI fa)])), (m1, qA (E 0) 635 ms), (m2, qA (E 0) 635 ma), (m3, qA (E 0) 3175 mv), (m4, qA (E 0) 140 mt), (m5, qA (E 0) 2 mn), (m6, qA (E 0) 64 ml), (m7, qA (E 0) 49152 mr)] 30 [(0, .ref m0), (1, .int (qI x1)), (3, .int (qI x3))] [.int (qI k0)] := by
    intro x1 K5 hK5 x3 k0 hw
    unfold wp_X5_positionOf_30 at hw
    refine z_istore_n C rfl (by decide) rfl dX5_positionOf_30 ?_
    obtain ⟨v1, ev1⟩ : ∃ v1 : Int, v1 = x3 + (1 : Int) := ⟨_, rfl⟩
    replace hw := hw v1 ev1
    refine z_iinc C 3 rfl (by decide) v1 ev1 rfl dX5_positionOf_31 ?_
    refine z_goto (tgt := 5) C (by decide) dX5_positionOf_34 ?_
    refine z_lst (ps := [2, 3, 1, 0]) (lv' := [(0, .ref m0), (1, .int (qI x1)), (2, .int (qI k0)), (3, .int (qI v1))]) (st' := []) rfl rfl ?_
    exact hK5 k0 v1 hw
  have hB5 : ∀ x1 : Int, ∀ n8 : Nat, ∀ x2 : Int, ∀ x3 : Int, wp_X5_positionOf_5 Φ  x1 ms n8 x2 x3 → qZ X 0 0 [(m0, .inr (5, [.int (qI th), .ref m1, .ref m2, .ref m3, .int (qI sm), .ref m4, .int (qI le), .ref m5, .ref m6, .ref m7, .int (qI tk), .int (qI fr), .int (qI ti), .int (qI fa)])), (m1, qA (E 0) 635 ms), (m2, qA (E 0) 635 ma), (m3, qA (E 0) 3175 mv), (m4, qA (E 0) 140 mt), (m5, qA (E 0) 2 mn), (m6, qA (E 0) 64 ml), (m7, qA (E 0) 49152 mr)] 5 [(0, .ref m0), (1, .int (qI x1)), (2, .int (qI x2)), (3, .int (qI x3))] [] := by
    intro x1 n8
    induction n8 with
    | zero =>
      intro x2 x3 hw
      exact hw.elim
    | succ n9 ih =>
      intro x2 x3 hw
      unfold wp_X5_positionOf_5 at hw
      refine z_iload_n C 3 rfl rfl dX5_positionOf_5 ?_
      refine z_aload_n C 0 rfl rfl dX5_positionOf_6 ?_
      refine z_get C iX5_positionOf_X5 0 rfl rfl 1 (by decide) (List.mem_of_getElem? (i := 1) rfl) rfl rfl dX5_positionOf_7 ?_
      refine z_bipush C (by decide +kernel) dX5_positionOf_10 ?_
      refine z_iald C 1 rfl (by decide) hw.1 dX5_positionOf_12 ?_
      replace hw := hw.2
      refine z_name (fun v2 ev2 => ?_)
      replace hw := hw v2 ev2
      refine z_icmp_ge (tgt := 37) C hw.1 (by decide) dX5_positionOf_13 (fun c3 => ?_) (fun c3 => ?_)
      · replace hw := hw.2.1 c3
        refine z_iload_n C 2 rfl rfl dX5_positionOf_37 ?_
        exact hend 38 _ x2 dX5_positionOf_38 hw
      · replace hw := hw.2.2 c3
        refine z_aload_n C 0 rfl rfl dX5_positionOf_16 ?_
        refine z_iload_n C 3 rfl rfl dX5_positionOf_17 ?_
        refine z_callV (n := 1) C (c_X5_spotAt l D E m0 m1 m2 m3 m4 m5 m6 m7 th sm le tk fr ti fa ms ma mv mt mn ml mr x3 hw) qF0_ok (fun _ _ _ => trivial) gX5_positionOf_X5_spotAt rfl (by decide +kernel) ⟨(Nat.le_of_ble_eq_true rfl), (Nat.le_of_ble_eq_true rfl)⟩ rfl 0 rfl rfl [0, 1, 2, 3, 4, 5, 6, 7] rfl rfl (Nat.le_of_ble_eq_true rfl) dX5_positionOf_18 (fun r4 hw => ?_)
        show qZ X 0 0 [(m0, .inr (5, [.int (qI th), .ref m1, .ref m2, .ref m3, .int (qI sm), .ref m4, .int (qI le), .ref m5, .ref m6, .ref m7, .int (qI tk), .int (qI fr), .int (qI ti), .int (qI fa)])), (m1, qA (E 0) 635 ms), (m2, qA (E 0) 635 ma), (m3, qA (E 0) 3175 mv), (m4, qA (E 0) 140 mt), (m5, qA (E 0) 2 mn), (m6, qA (E 0) 64 ml), (m7, qA (E 0) 49152 mr)] _ _ [.int (qI r4)]
        refine z_iload_n C 1 rfl rfl dX5_positionOf_21 ?_
        refine z_icmp_ne (tgt := 29) C hw.1 (by decide) dX5_positionOf_22 (fun c5 => ?_) (fun c5 => ?_)
        · replace hw := hw.2.1 c5
          refine z_iload_n C 2 rfl rfl dX5_positionOf_29 ?_
          refine z_lst (ps := [0, 1, 3]) (lv' := [(0, .ref m0), (1, .int (qI x1)), (3, .int (qI x3))]) (st' := [.int (qI x2)]) rfl rfl ?_
          exact hB30 x1 _ ih x3 x2 hw
        · replace hw := hw.2.2 c5
          refine z_iload_n C 3 rfl rfl dX5_positionOf_25 ?_
          refine z_goto (tgt := 30) C (by decide) dX5_positionOf_26 ?_
          refine z_lst (ps := [0, 1, 3]) (lv' := [(0, .ref m0), (1, .int (qI x1)), (3, .int (qI x3))]) (st' := [.int (qI x3)]) rfl rfl ?_
          exact hB30 x1 _ ih x3 x3 hw
  unfold wp_X5_positionOf at hw
  show qZ X 0 0 [(m0, .inr (5, [.int (qI th), .ref m1, .ref m2, .ref m3, .int (qI sm), .ref m4, .int (qI le), .ref m5, .ref m6, .ref m7, .int (qI tk), .int (qI fr), .int (qI ti), .int (qI fa)])), (m1, qA (E 0) 635 ms), (m2, qA (E 0) 635 ma), (m3, qA (E 0) 3175 mv), (m4, qA (E 0) 140 mt), (m5, qA (E 0) 2 mn), (m6, qA (E 0) 64 ml), (m7, qA (E 0) 49152 mr)] 0 [(0, .ref m0), (1, .int (qI x1))] []
  refine z_bipush C (by decide +kernel) dX5_positionOf_0 ?_
  refine z_istore_n C rfl (by decide) rfl dX5_positionOf_2 ?_
  refine z_iconst C dX5_positionOf_3 ?_
  refine z_istore_n C rfl (by decide) rfl dX5_positionOf_4 ?_
  refine z_lst (ps := [2, 3, 1, 0]) (lv' := [(0, .ref m0), (1, .int (qI x1)), (2, .int (qI (-9 : Int))), (3, .int (qI (0 : Int)))]) (st' := []) rfl rfl ?_
  obtain ⟨n8, hw⟩ := hw
  exact hB5 x1 n8 (-9 : Int) (0 : Int) hw
def wp_X5_lightCode_44 (Φ : Int → Prop)  (k0 : Int) : Prop := Φ k0
def wp_X5_lightCode (x1 : Int) (ms : Nat → Int) (Φ : Int → Prop) : Prop := wp_X5_isSpot x1 (fun (r1 : Int) => (qR r1 ∧ (¬ r1 = (0 : Int) → wp_X5_positionOf x1 ms (fun (r3 : Int) => ((qR r3 ∧ qR (-9 : Int)) ∧ (r3 = (-9 : Int) → ((0 ≤ (6 : Int) ∧ (6 : Int) < 635) ∧ (∀ v5 : Int, v5 = ms ((6 : Int)).toNat → ((qR v5 ∧ qR (12 : Int)) ∧ (¬ v5 = (12 : Int) → wp_X5_lightCode_44 Φ  (0 : Int)) ∧ (¬ (¬ v5 = (12 : Int)) → wp_X5_lightCode_44 Φ  (-3 : Int)))))) ∧ (¬ (r3 = (-9 : Int)) → wp_X5_lightCode_44 Φ  (-2 : Int))))) ∧ (¬ (¬ r1 = (0 : Int)) → wp_X5_lightCode_44 Φ  (-1 : Int))))
theorem iX5_lightCode_X5 : ∀ w ∈ wsX50, w ∈ wsX5_lightCode := fun w h => List.mem_cons_of_mem _ (List.mem_append_right _ (h))
set_option maxHeartbeats 4000000 in
set_option maxRecDepth 100000 in
theorem c_X5_lightCode (l : Launch) (D : va_G) (E : Nat → ClassId) (m0 m1 m2 m3 m4 m5 m6 m7 : Nat) (th : Int) (sm : Int) (le : Int) (tk : Int) (fr : Int) (ti : Int) (fa : Int) (ms : Nat → Int) (ma : Nat → Int) (mv : Nat → Int) (mt : Nat → Int) (mn : Nat → Int) (ml : Nat → Int) (mr : Nat → Int) (x1 : Int) {Φ : Int → Prop} (hw : wp_X5_lightCode x1 ms Φ) : qRO l D E qF0 yX5_lightCode wsX5_lightCode 2 44 [(m0, .inr (5, [.int (qI th), .ref m1, .ref m2, .ref m3, .int (qI sm), .ref m4, .int (qI le), .ref m5, .ref m6, .ref m7, .int (qI tk), .int (qI fr), .int (qI ti), .int (qI fa)])), (m1, qA (E 0) 635 ms), (m2, qA (E 0) 635 ma), (m3, qA (E 0) 3175 mv), (m4, qA (E 0) 140 mt), (m5, qA (E 0) 2 mn), (m6, qA (E 0) 64 ml), (m7, qA (E 0) 49152 mr)] [.ref m0, .int (qI x1)] qeI (fun r => Φ r) := by
  refine qRO_int (nL := 2) (own := RX5) qF0_ok (by decide) rfl rfl (Nat.le_of_ble_eq_true rfl) (fun X C hend => ?_)
  have hB44 : ∀ k0 : Int, wp_X5_lightCode_44 Φ  k0 → qZ X 0 0 [(m0, .inr (5, [.int (qI th), .ref m1, .ref m2, .ref m3, .int (qI sm), .ref m4, .int (qI le), .ref m5, .ref m6, .ref m7, .int (qI tk), .int (qI fr), .int (qI ti), .int (qI fa)])), (m1, qA (E 0) 635 ms), (m2, qA (E 0) 635 ma), (m3, qA (E 0) 3175 mv), (m4, qA (E 0) 140 mt), (m5, qA (E 0) 2 mn), (m6, qA (E 0) 64 ml), (m7, qA (E 0) 49152 mr)] 44 [] [.int (qI k0)] := by
    intro k0 hw
    unfold wp_X5_lightCode_44 at hw
    exact hend 44 _ k0 dX5_lightCode_44 hw
  unfold wp_X5_lightCode at hw
  show qZ X 0 0 [(m0, .inr (5, [.int (qI th), .ref m1, .ref m2, .ref m3, .int (qI sm), .ref m4, .int (qI le), .ref m5, .ref m6, .ref m7, .int (qI tk), .int (qI fr), .int (qI ti), .int (qI fa)])), (m1, qA (E 0) 635 ms), (m2, qA (E 0) 635 ma), (m3, qA (E 0) 3175 mv), (m4, qA (E 0) 140 mt), (m5, qA (E 0) 2 mn), (m6, qA (E 0) 64 ml), (m7, qA (E 0) 49152 mr)] 0 [(0, .ref m0), (1, .int (qI x1))] []
  refine z_iload_n C 1 rfl rfl dX5_lightCode_0 ?_
  refine z_callS (n := 1) C (c_X5_isSpot l D E   x1 hw) qF0_ok (fun _ _ _ => trivial) gX5_lightCode_X5_isSpot rfl (by decide +kernel) ⟨(Nat.le_of_ble_eq_true rfl), (Nat.le_of_ble_eq_true rfl)⟩ rfl [] rfl rfl (Nat.le_of_ble_eq_true rfl) dX5_lightCode_1 (fun r1 hw => ?_)
  show qZ X 0 0 [(m0, .inr (5, [.int (qI th), .ref m1, .ref m2, .ref m3, .int (qI sm), .ref m4, .int (qI le), .ref m5, .ref m6, .ref m7, .int (qI tk), .int (qI fr), .int (qI ti), .int (qI fa)])), (m1, qA (E 0) 635 ms), (m2, qA (E 0) 635 ma), (m3, qA (E 0) 3175 mv), (m4, qA (E 0) 140 mt), (m5, qA (E 0) 2 mn), (m6, qA (E 0) 64 ml), (m7, qA (E 0) 49152 mr)] _ _ [.int (qI r1)]
  refine z_if_ne (tgt := 11) C hw.1 (by decide) dX5_lightCode_4 (fun c2 => ?_) (fun c2 => ?_)
  · replace hw := hw.2.1 c2
    refine z_aload_n C 0 rfl rfl dX5_lightCode_11 ?_
    refine z_iload_n C 1 rfl rfl dX5_lightCode_12 ?_
    refine z_callV (n := 1) C (c_X5_positionOf l D E m0 m1 m2 m3 m4 m5 m6 m7 th sm le tk fr ti fa ms ma mv mt mn ml mr x1 hw) qF0_ok (fun _ _ _ => trivial) gX5_lightCode_X5_positionOf rfl (by decide +kernel) ⟨(Nat.le_of_ble_eq_true rfl), (Nat.le_of_ble_eq_true rfl)⟩ rfl 0 rfl rfl [0, 1, 2, 3, 4, 5, 6, 7] rfl rfl (Nat.le_of_ble_eq_true rfl) dX5_lightCode_13 (fun r3 hw => ?_)
    show qZ X 0 0 [(m0, .inr (5, [.int (qI th), .ref m1, .ref m2, .ref m3, .int (qI sm), .ref m4, .int (qI le), .ref m5, .ref m6, .ref m7, .int (qI tk), .int (qI fr), .int (qI ti), .int (qI fa)])), (m1, qA (E 0) 635 ms), (m2, qA (E 0) 635 ma), (m3, qA (E 0) 3175 mv), (m4, qA (E 0) 140 mt), (m5, qA (E 0) 2 mn), (m6, qA (E 0) 64 ml), (m7, qA (E 0) 49152 mr)] _ _ [.int (qI r3)]
    refine z_bipush C (by decide +kernel) dX5_lightCode_16 ?_
    refine z_icmp_eq (tgt := 26) C hw.1 (by decide) dX5_lightCode_18 (fun c4 => ?_) (fun c4 => ?_)
    · replace hw := hw.2.1 c4
      refine z_aload_n C 0 rfl rfl dX5_lightCode_26 ?_
      refine z_get C iX5_lightCode_X5 0 rfl rfl 1 (by decide) (List.mem_of_getElem? (i := 1) rfl) rfl rfl dX5_lightCode_27 ?_
      refine z_bipush C (by decide +kernel) dX5_lightCode_30 ?_
      refine z_iald C 1 rfl (by decide) hw.1 dX5_lightCode_32 ?_
      replace hw := hw.2
      refine z_name (fun v5 ev5 => ?_)
      replace hw := hw v5 ev5
      refine z_bipush C (by decide +kernel) dX5_lightCode_33 ?_
      refine z_icmp_ne (tgt := 43) C hw.1 (by decide) dX5_lightCode_35 (fun c6 => ?_) (fun c6 => ?_)
      · replace hw := hw.2.1 c6
        refine z_iconst C dX5_lightCode_43 ?_
        refine z_lst (ps := []) (lv' := []) (st' := [.int (qI (0 : Int))]) rfl rfl ?_
        exact hB44 (0 : Int) hw
      · replace hw := hw.2.2 c6
        refine z_bipush C (by decide +kernel) dX5_lightCode_38 ?_
        refine z_goto (tgt := 44) C (by decide) dX5_lightCode_40 ?_
        refine z_lst (ps := []) (lv' := []) (st' := [.int (qI (-3 : Int))]) rfl rfl ?_
        exact hB44 (-3 : Int) hw
    · replace hw := hw.2.2 c4
      refine z_bipush C (by decide +kernel) dX5_lightCode_21 ?_
      refine z_goto (tgt := 44) C (by decide) dX5_lightCode_23 ?_
      refine z_lst (ps := []) (lv' := []) (st' := [.int (qI (-2 : Int))]) rfl rfl ?_
      exact hB44 (-2 : Int) hw
  · replace hw := hw.2.2 c2
    refine z_iconst C dX5_lightCode_7 ?_
    refine z_goto (tgt := 44) C (by decide) dX5_lightCode_8 ?_
    refine z_lst (ps := []) (lv' := []) (st' := [.int (qI (-1 : Int))]) rfl rfl ?_
    exact hB44 (-1 : Int) hw
def wp_X5_lightNow (x1 : Int) (ms : Nat → Int) (Φ : Int → (Nat → Int) → Prop) : Prop := ((0 ≤ (6 : Int) ∧ (6 : Int) < 635) ∧ (∀ v1 : Int, v1 = ms ((6 : Int)).toNat → ((0 ≤ ((7 : Int) + v1) ∧ ((7 : Int) + v1) < 635) ∧ ∀ g2 : Nat → Int, g2 = qU ms (((7 : Int) + v1)).toNat x1 → ((0 ≤ (6 : Int) ∧ (6 : Int) < 635) ∧ (∀ v3 : Int, v3 = g2 ((6 : Int)).toNat → ((0 ≤ (6 : Int) ∧ (6 : Int) < 635) ∧ ∀ g4 : Nat → Int, g4 = qU g2 ((6 : Int)).toNat (v3 + (1 : Int)) → ((0 ≤ (6 : Int) ∧ (6 : Int) < 635) ∧ (∀ v5 : Int, v5 = g4 ((6 : Int)).toNat → Φ (v5 - (1 : Int)) g4))))))))
theorem iX5_lightNow_X5 : ∀ w ∈ wsX50, w ∈ wsX5_lightNow := fun w h => List.mem_cons_of_mem _ (List.mem_append_right _ (h))
set_option maxHeartbeats 4000000 in
set_option maxRecDepth 100000 in
theorem c_X5_lightNow (l : Launch) (D : va_G) (E : Nat → ClassId) (m0 m1 m2 m3 m4 m5 m6 m7 : Nat) (th : Int) (sm : Int) (le : Int) (tk : Int) (fr : Int) (ti : Int) (fa : Int) (ms : Nat → Int) (ma : Nat → Int) (mv : Nat → Int) (mt : Nat → Int) (mn : Nat → Int) (ml : Nat → Int) (mr : Nat → Int) (x1 : Int) {Φ : Int → (Nat → Int) → Prop} (hw : wp_X5_lightNow x1 ms Φ) : qRW (σ := (Nat → Int)) l D E qF0 yX5_lightNow wsX5_lightNow 0 0 [(m0, .inr (5, [.int (qI th), .ref m1, .ref m2, .ref m3, .int (qI sm), .ref m4, .int (qI le), .ref m5, .ref m6, .ref m7, .int (qI tk), .int (qI fr), .int (qI ti), .int (qI fa)])), (m1, qA (E 0) 635 ms), (m2, qA (E 0) 635 ma), (m3, qA (E 0) 3175 mv), (m4, qA (E 0) 140 mt), (m5, qA (E 0) 2 mn), (m6, qA (E 0) 64 ml), (m7, qA (E 0) 49152 mr)] [.ref m0, .int (qI x1)] qeI (fun u => [(m0, .inr (5, [.int (qI th), .ref m1, .ref m2, .ref m3, .int (qI sm), .ref m4, .int (qI le), .ref m5, .ref m6, .ref m7, .int (qI tk), .int (qI fr), .int (qI ti), .int (qI fa)])), (m1, qA (E 0) 635 u), (m2, qA (E 0) 635 ma), (m3, qA (E 0) 3175 mv), (m4, qA (E 0) 140 mt), (m5, qA (E 0) 2 mn), (m6, qA (E 0) 64 ml), (m7, qA (E 0) 49152 mr)]) (fun r u => Φ r u) := by
  refine qRW_int (nL := 2) (own := RX5) qF0_ok (by decide) rfl rfl (Nat.le_of_ble_eq_true rfl) (fun X C hend => ?_)
  unfold wp_X5_lightNow at hw
  show qZ X 0 0 [(m0, .inr (5, [.int (qI th), .ref m1, .ref m2, .ref m3, .int (qI sm), .ref m4, .int (qI le), .ref m5, .ref m6, .ref m7, .int (qI tk), .int (qI fr), .int (qI ti), .int (qI fa)])), (m1, qA (E 0) 635 ms), (m2, qA (E 0) 635 ma), (m3, qA (E 0) 3175 mv), (m4, qA (E 0) 140 mt), (m5, qA (E 0) 2 mn), (m6, qA (E 0) 64 ml), (m7, qA (E 0) 49152 mr)] 0 [(0, .ref m0), (1, .int (qI x1))] []
  refine z_aload_n C 0 rfl rfl dX5_lightNow_0 ?_
  refine z_get C iX5_lightNow_X5 0 rfl rfl 1 (by decide) (List.mem_of_getElem? (i := 1) rfl) rfl rfl dX5_lightNow_1 ?_
  refine z_bipush C (by decide +kernel) dX5_lightNow_4 ?_
  refine z_aload_n C 0 rfl rfl dX5_lightNow_6 ?_
  refine z_get C iX5_lightNow_X5 0 rfl rfl 1 (by decide) (List.mem_of_getElem? (i := 1) rfl) rfl rfl dX5_lightNow_7 ?_
  refine z_bipush C (by decide +kernel) dX5_lightNow_10 ?_
  refine z_iald C 1 rfl (by decide) hw.1 dX5_lightNow_12 ?_
  replace hw := hw.2
  refine z_name (fun v1 ev1 => ?_)
  replace hw := hw v1 ev1
  refine z_iadd C dX5_lightNow_13 ?_
  refine z_iload_n C 1 rfl rfl dX5_lightNow_14 ?_
  refine z_iast C 1 rfl (by decide) hw.1 (fun g2 => [(m0, .inr (5, [.int (qI th), .ref m1, .ref m2, .ref m3, .int (qI sm), .ref m4, .int (qI le), .ref m5, .ref m6, .ref m7, .int (qI tk), .int (qI fr), .int (qI ti), .int (qI fa)])), (m1, qA (E 0) 635 g2), (m2, qA (E 0) 635 ma), (m3, qA (E 0) 3175 mv), (m4, qA (E 0) 140 mt), (m5, qA (E 0) 2 mn), (m6, qA (E 0) 64 ml), (m7, qA (E 0) 49152 mr)]) (fun _ => rfl) dX5_lightNow_15 (fun g2 eg2 => ?_)
  replace hw := hw.2 g2 eg2
  refine z_aload_n C 0 rfl rfl dX5_lightNow_16 ?_
  refine z_get C iX5_lightNow_X5 0 rfl rfl 1 (by decide) (List.mem_of_getElem? (i := 1) rfl) rfl rfl dX5_lightNow_17 ?_
  refine z_bipush C (by decide +kernel) dX5_lightNow_20 ?_
  refine z_dup2 C rfl rfl dX5_lightNow_22 ?_
  refine z_iald C 1 rfl (by decide) hw.1 dX5_lightNow_23 ?_
  replace hw := hw.2
  refine z_name (fun v3 ev3 => ?_)
  replace hw := hw v3 ev3
  refine z_iconst C dX5_lightNow_24 ?_
  refine z_iadd C dX5_lightNow_25 ?_
  refine z_iast C 1 rfl (by decide) hw.1 (fun g4 => [(m0, .inr (5, [.int (qI th), .ref m1, .ref m2, .ref m3, .int (qI sm), .ref m4, .int (qI le), .ref m5, .ref m6, .ref m7, .int (qI tk), .int (qI fr), .int (qI ti), .int (qI fa)])), (m1, qA (E 0) 635 g4), (m2, qA (E 0) 635 ma), (m3, qA (E 0) 3175 mv), (m4, qA (E 0) 140 mt), (m5, qA (E 0) 2 mn), (m6, qA (E 0) 64 ml), (m7, qA (E 0) 49152 mr)]) (fun _ => rfl) dX5_lightNow_26 (fun g4 eg4 => ?_)
  replace hw := hw.2 g4 eg4
  refine z_aload_n C 0 rfl rfl dX5_lightNow_27 ?_
  refine z_get C iX5_lightNow_X5 0 rfl rfl 1 (by decide) (List.mem_of_getElem? (i := 1) rfl) rfl rfl dX5_lightNow_28 ?_
  refine z_bipush C (by decide +kernel) dX5_lightNow_31 ?_
  refine z_iald C 1 rfl (by decide) hw.1 dX5_lightNow_33 ?_
  replace hw := hw.2
  refine z_name (fun v5 ev5 => ?_)
  replace hw := hw v5 ev5
  refine z_iconst C dX5_lightNow_34 ?_
  refine z_isub C dX5_lightNow_35 ?_
  exact hend 36 _ (v5 - (1 : Int)) g4 dX5_lightNow_36 hw
def wp_X5_darkCode_27 (Φ : Int → Prop)  (k0 : Int) : Prop := Φ k0
def wp_X5_darkCode (x1 : Int) (ms : Nat → Int) (Φ : Int → Prop) : Prop := wp_X5_isSpot x1 (fun (r1 : Int) => (qR r1 ∧ (¬ r1 = (0 : Int) → wp_X5_positionOf x1 ms (fun (r3 : Int) => ((qR r3 ∧ qR (-9 : Int)) ∧ (¬ r3 = (-9 : Int) → wp_X5_darkCode_27 Φ  (0 : Int)) ∧ (¬ (¬ r3 = (-9 : Int)) → wp_X5_darkCode_27 Φ  (-2 : Int))))) ∧ (¬ (¬ r1 = (0 : Int)) → wp_X5_darkCode_27 Φ  (-1 : Int))))
set_option maxHeartbeats 4000000 in
set_option maxRecDepth 100000 in
theorem c_X5_darkCode (l : Launch) (D : va_G) (E : Nat → ClassId) (m0 m1 m2 m3 m4 m5 m6 m7 : Nat) (th : Int) (sm : Int) (le : Int) (tk : Int) (fr : Int) (ti : Int) (fa : Int) (ms : Nat → Int) (ma : Nat → Int) (mv : Nat → Int) (mt : Nat → Int) (mn : Nat → Int) (ml : Nat → Int) (mr : Nat → Int) (x1 : Int) {Φ : Int → Prop} (hw : wp_X5_darkCode x1 ms Φ) : qRO l D E qF0 yX5_darkCode wsX5_darkCode 2 44 [(m0, .inr (5, [.int (qI th), .ref m1, .ref m2, .ref m3, .int (qI sm), .ref m4, .int (qI le), .ref m5, .ref m6, .ref m7, .int (qI tk), .int (qI fr), .int (qI ti), .int (qI fa)])), (m1, qA (E 0) 635 ms), (m2, qA (E 0) 635 ma), (m3, qA (E 0) 3175 mv), (m4, qA (E 0) 140 mt), (m5, qA (E 0) 2 mn), (m6, qA (E 0) 64 ml), (m7, qA (E 0) 49152 mr)] [.ref m0, .int (qI x1)] qeI (fun r => Φ r) := by
  refine qRO_int (nL := 2) (own := RX5) qF0_ok (by decide) rfl rfl (Nat.le_of_ble_eq_true rfl) (fun X C hend => ?_)
  have hB27 : ∀ k0 : Int, wp_X5_darkCode_27 Φ  k0 → qZ X 0 0 [(m0, .inr (5, [.int (qI th), .ref m1, .ref m2, .ref m3, .int (qI sm), .ref m4, .int (qI le), .ref m5, .ref m6, .ref m7, .int (qI tk), .int (qI fr), .int (qI ti), .int (qI fa)])), (m1, qA (E 0) 635 ms), (m2, qA (E 0) 635 ma), (m3, qA (E 0) 3175 mv), (m4, qA (E 0) 140 mt), (m5, qA (E 0) 2 mn), (m6, qA (E 0) 64 ml), (m7, qA (E 0) 49152 mr)] 27 [] [.int (qI k0)] := by
    intro k0 hw
    unfold wp_X5_darkCode_27 at hw
    exact hend 27 _ k0 dX5_darkCode_27 hw
  unfold wp_X5_darkCode at hw
  show qZ X 0 0 [(m0, .inr (5, [.int (qI th), .ref m1, .ref m2, .ref m3, .int (qI sm), .ref m4, .int (qI le), .ref m5, .ref m6, .ref m7, .int (qI tk), .int (qI fr), .int (qI ti), .int (qI fa)])), (m1, qA (E 0) 635 ms), (m2, qA (E 0) 635 ma), (m3, qA (E 0) 3175 mv), (m4, qA (E 0) 140 mt), (m5, qA (E 0) 2 mn), (m6, qA (E 0) 64 ml), (m7, qA (E 0) 49152 mr)] 0 [(0, .ref m0), (1, .int (qI x1))] []
  refine z_iload_n C 1 rfl rfl dX5_darkCode_0 ?_
  refine z_callS (n := 1) C (c_X5_isSpot l D E   x1 hw) qF0_ok (fun _ _ _ => trivial) gX5_darkCode_X5_isSpot rfl (by decide +kernel) ⟨(Nat.le_of_ble_eq_true rfl), (Nat.le_of_ble_eq_true rfl)⟩ rfl [] rfl rfl (Nat.le_of_ble_eq_true rfl) dX5_darkCode_1 (fun r1 hw => ?_)
  show qZ X 0 0 [(m0, .inr (5, [.int (qI th), .ref m1, .ref m2, .ref m3, .int (qI sm), .ref m4, .int (qI le), .ref m5, .ref m6, .ref m7, .int (qI tk), .int (qI fr), .int (qI ti), .int (qI fa)])), (m1, qA (E 0) 635 ms), (m2, qA (E 0) 635 ma), (m3, qA (E 0) 3175 mv), (m4, qA (E 0) 140 mt), (m5, qA (E 0) 2 mn), (m6, qA (E 0) 64 ml), (m7, qA (E 0) 49152 mr)] _ _ [.int (qI r1)]
  refine z_if_ne (tgt := 11) C hw.1 (by decide) dX5_darkCode_4 (fun c2 => ?_) (fun c2 => ?_)
  · replace hw := hw.2.1 c2
    refine z_aload_n C 0 rfl rfl dX5_darkCode_11 ?_
    refine z_iload_n C 1 rfl rfl dX5_darkCode_12 ?_
    refine z_callV (n := 1) C (c_X5_positionOf l D E m0 m1 m2 m3 m4 m5 m6 m7 th sm le tk fr ti fa ms ma mv mt mn ml mr x1 hw) qF0_ok (fun _ _ _ => trivial) gX5_darkCode_X5_positionOf rfl (by decide +kernel) ⟨(Nat.le_of_ble_eq_true rfl), (Nat.le_of_ble_eq_true rfl)⟩ rfl 0 rfl rfl [0, 1, 2, 3, 4, 5, 6, 7] rfl rfl (Nat.le_of_ble_eq_true rfl) dX5_darkCode_13 (fun r3 hw => ?_)
    show qZ X 0 0 [(m0, .inr (5, [.int (qI th), .ref m1, .ref m2, .ref m3, .int (qI sm), .ref m4, .int (qI le), .ref m5, .ref m6, .ref m7, .int (qI tk), .int (qI fr), .int (qI ti), .int (qI fa)])), (m1, qA (E 0) 635 ms), (m2, qA (E 0) 635 ma), (m3, qA (E 0) 3175 mv), (m4, qA (E 0) 140 mt), (m5, qA (E 0) 2 mn), (m6, qA (E 0) 64 ml), (m7, qA (E 0) 49152 mr)] _ _ [.int (qI r3)]
    refine z_bipush C (by decide +kernel) dX5_darkCode_16 ?_
    refine z_icmp_ne (tgt := 26) C hw.1 (by decide) dX5_darkCode_18 (fun c4 => ?_) (fun c4 => ?_)
    · replace hw := hw.2.1 c4
      refine z_iconst C dX5_darkCode_26 ?_
      refine z_lst (ps := []) (lv' := []) (st' := [.int (qI (0 : Int))]) rfl rfl ?_
      exact hB27 (0 : Int) hw
    · replace hw := hw.2.2 c4
      refine z_bipush C (by decide +kernel) dX5_darkCode_21 ?_
      refine z_goto (tgt := 27) C (by decide) dX5_darkCode_23 ?_
      refine z_lst (ps := []) (lv' := []) (st' := [.int (qI (-2 : Int))]) rfl rfl ?_
      exact hB27 (-2 : Int) hw
  · replace hw := hw.2.2 c2
    refine z_iconst C dX5_darkCode_7 ?_
    refine z_goto (tgt := 27) C (by decide) dX5_darkCode_8 ?_
    refine z_lst (ps := []) (lv' := []) (st' := [.int (qI (-1 : Int))]) rfl rfl ?_
    exact hB27 (-1 : Int) hw
def wp_X5_darkNow_19 (Φ : Int → (Nat → Int) → Prop)  (x2 : Int) : Nat → Int → (Nat → Int) → Prop
  | 0, _, _ => False
  | n9 + 1, x3, ms => ((0 ≤ (6 : Int) ∧ (6 : Int) < 635) ∧ (∀ v1 : Int, v1 = ms ((6 : Int)).toNat → ((qR x3 ∧ qR v1) ∧ (v1 ≤ x3 → Φ x2 ms) ∧ (¬ (v1 ≤ x3) → ((0 ≤ (((7 : Int) + x3) + (1 : Int)) ∧ (((7 : Int) + x3) + (1 : Int)) < 635) ∧ (∀ v3 : Int, v3 = ms ((((7 : Int) + x3) + (1 : Int))).toNat → ((0 ≤ ((7 : Int) + x3) ∧ ((7 : Int) + x3) < 635) ∧ ∀ g4 : Nat → Int, g4 = qU ms (((7 : Int) + x3)).toNat v3 → (∀ v5 : Int, v5 = x3 + (1 : Int) → wp_X5_darkNow_19 Φ  x2 n9 v5 g4))))))))
def wp_X5_darkNow (x1 : Int) (ms : Nat → Int) (Φ : Int → (Nat → Int) → Prop) : Prop := wp_X5_positionOf x1 ms (fun (r6 : Int) => ((0 ≤ (6 : Int) ∧ (6 : Int) < 635) ∧ (∀ v7 : Int, v7 = ms ((6 : Int)).toNat → ((0 ≤ (6 : Int) ∧ (6 : Int) < 635) ∧ ∀ g8 : Nat → Int, g8 = qU ms ((6 : Int)).toNat (v7 - (1 : Int)) → ∃ n : Nat, wp_X5_darkNow_19 Φ  r6 n r6 g8))))
theorem iX5_darkNow_X5 : ∀ w ∈ wsX50, w ∈ wsX5_darkNow := fun w h => List.mem_cons_of_mem _ (List.mem_append_right _ (h))
set_option maxHeartbeats 4000000 in
set_option maxRecDepth 100000 in
theorem c_X5_darkNow (l : Launch) (D : va_G) (E : Nat → ClassId) (m0 m1 m2 m3 m4 m5 m6 m7 : Nat) (th : Int) (sm : Int) (le : Int) (tk : Int) (fr : Int) (ti : Int) (fa : Int) (ms : Nat → Int) (ma : Nat → Int) (mv : Nat → Int) (mt : Nat → Int) (mn : Nat → Int) (ml : Nat → Int) (mr : Nat → Int) (x1 : Int) {Φ : Int → (Nat → Int) → Prop} (hw : wp_X5_darkNow x1 ms Φ) : qRW (σ := (Nat → Int)) l D E qF0 yX5_darkNow wsX5_darkNow 2 44 [(m0, .inr (5, [.int (qI th), .ref m1, .ref m2, .ref m3, .int (qI sm), .ref m4, .int (qI le), .ref m5, .ref m6, .ref m7, .int (qI tk), .int (qI fr), .int (qI ti), .int (qI fa)])), (m1, qA (E 0) 635 ms), (m2, qA (E 0) 635 ma), (m3, qA (E 0) 3175 mv), (m4, qA (E 0) 140 mt), (m5, qA (E 0) 2 mn), (m6, qA (E 0) 64 ml), (m7, qA (E 0) 49152 mr)] [.ref m0, .int (qI x1)] qeI (fun u => [(m0, .inr (5, [.int (qI th), .ref m1, .ref m2, .ref m3, .int (qI sm), .ref m4, .int (qI le), .ref m5, .ref m6, .ref m7, .int (qI tk), .int (qI fr), .int (qI ti), .int (qI fa)])), (m1, qA (E 0) 635 u), (m2, qA (E 0) 635 ma), (m3, qA (E 0) 3175 mv), (m4, qA (E 0) 140 mt), (m5, qA (E 0) 2 mn), (m6, qA (E 0) 64 ml), (m7, qA (E 0) 49152 mr)]) (fun r u => Φ r u) := by
  refine qRW_int (nL := 4) (own := RX5) qF0_ok (by decide) rfl rfl (Nat.le_of_ble_eq_true rfl) (fun X C hend => ?_)
  have hB19 : ∀ x2 : Int, ∀ n8 : Nat, ∀ x3 : Int, ∀ ms : Nat → Int, wp_X5_darkNow_19 Φ  x2 n8 x3 ms → qZ X 0 0 [(m0, .inr (5, [.int (qI th), .ref m1, .ref m2, .ref m3, .int (qI sm), .ref m4, .int (qI le), .ref m5, .ref m6, .ref m7, .int (qI tk), .int (qI fr), .int (qI ti), .int (qI fa)])), (m1, qA (E 0) 635 ms), (m2, qA (E 0) 635 ma), (m3, qA (E 0) 3175 mv), (m4, qA (E 0) 140 mt), (m5, qA (E 0) 2 mn), (m6, qA (E 0) 64 ml), (m7, qA (E 0) 49152 mr)] 19 [(0, .ref m0), (2, .int (qI x2)), (3, .int (qI x3))] [] := by
    intro x2 n8
    induction n8 with
    | zero =>
      intro x3 ms hw
      exact hw.elim
    | succ n9 ih =>
      intro x3 ms hw
      unfold wp_X5_darkNow_19 at hw
      refine z_iload_n C 2 rfl rfl dX5_darkNow_19 ?_
      refine z_aload_n C 0 rfl rfl dX5_darkNow_20 ?_
      refine z_get C iX5_darkNow_X5 0 rfl rfl 1 (by decide) (List.mem_of_getElem? (i := 1) rfl) rfl rfl dX5_darkNow_21 ?_
      refine z_bipush C (by decide +kernel) dX5_darkNow_24 ?_
      refine z_iald C 1 rfl (by decide) hw.1 dX5_darkNow_26 ?_
      replace hw := hw.2
      refine z_name (fun v1 ev1 => ?_)
      replace hw := hw v1 ev1
      refine z_icmp_ge (tgt := 56) C hw.1 (by decide) dX5_darkNow_27 (fun c2 => ?_) (fun c2 => ?_)
      · replace hw := hw.2.1 c2
        refine z_iload_n C 1 rfl rfl dX5_darkNow_56 ?_
        exact hend 57 _ x2 ms dX5_darkNow_57 hw
      · replace hw := hw.2.2 c2
        refine z_aload_n C 0 rfl rfl dX5_darkNow_30 ?_
        refine z_get C iX5_darkNow_X5 0 rfl rfl 1 (by decide) (List.mem_of_getElem? (i := 1) rfl) rfl rfl dX5_darkNow_31 ?_
        refine z_bipush C (by decide +kernel) dX5_darkNow_34 ?_
        refine z_iload_n C 2 rfl rfl dX5_darkNow_36 ?_
        refine z_iadd C dX5_darkNow_37 ?_
        refine z_aload_n C 0 rfl rfl dX5_darkNow_38 ?_
        refine z_get C iX5_darkNow_X5 0 rfl rfl 1 (by decide) (List.mem_of_getElem? (i := 1) rfl) rfl rfl dX5_darkNow_39 ?_
        refine z_bipush C (by decide +kernel) dX5_darkNow_42 ?_
        refine z_iload_n C 2 rfl rfl dX5_darkNow_44 ?_
        refine z_iadd C dX5_darkNow_45 ?_
        refine z_iconst C dX5_darkNow_46 ?_
        refine z_iadd C dX5_darkNow_47 ?_
        refine z_iald C 1 rfl (by decide) hw.1 dX5_darkNow_48 ?_
        replace hw := hw.2
        refine z_name (fun v3 ev3 => ?_)
        replace hw := hw v3 ev3
        refine z_iast C 1 rfl (by decide) hw.1 (fun g4 => [(m0, .inr (5, [.int (qI th), .ref m1, .ref m2, .ref m3, .int (qI sm), .ref m4, .int (qI le), .ref m5, .ref m6, .ref m7, .int (qI tk), .int (qI fr), .int (qI ti), .int (qI fa)])), (m1, qA (E 0) 635 g4), (m2, qA (E 0) 635 ma), (m3, qA (E 0) 3175 mv), (m4, qA (E 0) 140 mt), (m5, qA (E 0) 2 mn), (m6, qA (E 0) 64 ml), (m7, qA (E 0) 49152 mr)]) (fun _ => rfl) dX5_darkNow_49 (fun g4 eg4 => ?_)
        replace hw := hw.2 g4 eg4
        obtain ⟨v5, ev5⟩ : ∃ v5 : Int, v5 = x3 + (1 : Int) := ⟨_, rfl⟩
        replace hw := hw v5 ev5
        refine z_iinc C 2 rfl (by decide) v5 ev5 rfl dX5_darkNow_50 ?_
        refine z_goto (tgt := 19) C (by decide) dX5_darkNow_53 ?_
        refine z_lst (ps := [1, 2, 0]) (lv' := [(0, .ref m0), (2, .int (qI x2)), (3, .int (qI v5))]) (st' := []) rfl rfl ?_
        exact ih v5 g4 hw
  unfold wp_X5_darkNow at hw
  show qZ X 0 0 [(m0, .inr (5, [.int (qI th), .ref m1, .ref m2, .ref m3, .int (qI sm), .ref m4, .int (qI le), .ref m5, .ref m6, .ref m7, .int (qI tk), .int (qI fr), .int (qI ti), .int (qI fa)])), (m1, qA (E 0) 635 ms), (m2, qA (E 0) 635 ma), (m3, qA (E 0) 3175 mv), (m4, qA (E 0) 140 mt), (m5, qA (E 0) 2 mn), (m6, qA (E 0) 64 ml), (m7, qA (E 0) 49152 mr)] 0 [(0, .ref m0), (1, .int (qI x1))] []
  refine z_aload_n C 0 rfl rfl dX5_darkNow_0 ?_
  refine z_iload_n C 1 rfl rfl dX5_darkNow_1 ?_
  refine z_callV (n := 1) C (c_X5_positionOf l D E m0 m1 m2 m3 m4 m5 m6 m7 th sm le tk fr ti fa ms ma mv mt mn ml mr x1 hw) qF0_ok (fun _ _ _ => trivial) gX5_darkNow_X5_positionOf rfl (by decide +kernel) ⟨(Nat.le_of_ble_eq_true rfl), (Nat.le_of_ble_eq_true rfl)⟩ rfl 0 rfl rfl [0, 1, 2, 3, 4, 5, 6, 7] rfl rfl (Nat.le_of_ble_eq_true rfl) dX5_darkNow_2 (fun r6 hw => ?_)
  show qZ X 0 0 [(m0, .inr (5, [.int (qI th), .ref m1, .ref m2, .ref m3, .int (qI sm), .ref m4, .int (qI le), .ref m5, .ref m6, .ref m7, .int (qI tk), .int (qI fr), .int (qI ti), .int (qI fa)])), (m1, qA (E 0) 635 ms), (m2, qA (E 0) 635 ma), (m3, qA (E 0) 3175 mv), (m4, qA (E 0) 140 mt), (m5, qA (E 0) 2 mn), (m6, qA (E 0) 64 ml), (m7, qA (E 0) 49152 mr)] _ _ [.int (qI r6)]
  refine z_istore_n C rfl (by decide) rfl dX5_darkNow_5 ?_
  refine z_aload_n C 1 rfl rfl dX5_darkNow_6 ?_
  refine z_get C iX5_darkNow_X5 0 rfl rfl 1 (by decide) (List.mem_of_getElem? (i := 1) rfl) rfl rfl dX5_darkNow_7 ?_
  refine z_bipush C (by decide +kernel) dX5_darkNow_10 ?_
  refine z_dup2 C rfl rfl dX5_darkNow_12 ?_
  refine z_iald C 1 rfl (by decide) hw.1 dX5_darkNow_13 ?_
  replace hw := hw.2
  refine z_name (fun v7 ev7 => ?_)
  replace hw := hw v7 ev7
  refine z_iconst C dX5_darkNow_14 ?_
  refine z_isub C dX5_darkNow_15 ?_
  refine z_iast C 1 rfl (by decide) hw.1 (fun g8 => [(m0, .inr (5, [.int (qI th), .ref m1, .ref m2, .ref m3, .int (qI sm), .ref m4, .int (qI le), .ref m5, .ref m6, .ref m7, .int (qI tk), .int (qI fr), .int (qI ti), .int (qI fa)])), (m1, qA (E 0) 635 g8), (m2, qA (E 0) 635 ma), (m3, qA (E 0) 3175 mv), (m4, qA (E 0) 140 mt), (m5, qA (E 0) 2 mn), (m6, qA (E 0) 64 ml), (m7, qA (E 0) 49152 mr)]) (fun _ => rfl) dX5_darkNow_16 (fun g8 eg8 => ?_)
  replace hw := hw.2 g8 eg8
  refine z_iload_n C 0 rfl rfl dX5_darkNow_17 ?_
  refine z_istore_n C rfl (by decide) rfl dX5_darkNow_18 ?_
  refine z_lst (ps := [2, 1, 0]) (lv' := [(0, .ref m0), (2, .int (qI r6)), (3, .int (qI r6))]) (st' := []) rfl rfl ?_
  obtain ⟨n8, hw⟩ := hw
  exact hB19 r6 n8 r6 g8 hw
def wp_X5_swapCode_39 (Φ : Int → Prop)  (k0 : Int) : Prop := Φ k0
def wp_X5_swapCode_38 (Φ : Int → Prop)   : Prop := wp_X5_swapCode_39 Φ  (-1 : Int)
def wp_X5_swapCode (x1 : Int) (x2 : Int) (ms : Nat → Int) (Φ : Int → Prop) : Prop := ((0 ≤ (6 : Int) ∧ (6 : Int) < 635) ∧ (∀ v1 : Int, v1 = ms ((6 : Int)).toNat → wp_X5_in x1 (0 : Int) (v1 - (1 : Int)) (fun (r2 : Int) => (qR r2 ∧ (r2 = (0 : Int) → wp_X5_swapCode_38 Φ  ) ∧ (¬ (r2 = (0 : Int)) → ((0 ≤ (6 : Int) ∧ (6 : Int) < 635) ∧ (∀ v4 : Int, v4 = ms ((6 : Int)).toNat → wp_X5_in x2 (0 : Int) (v4 - (1 : Int)) (fun (r5 : Int) => (qR r5 ∧ (r5 = (0 : Int) → wp_X5_swapCode_38 Φ  ) ∧ (¬ (r5 = (0 : Int)) → wp_X5_swapCode_39 Φ  (0 : Int)))))))))))
theorem iX5_swapCode_X5 : ∀ w ∈ wsX50, w ∈ wsX5_swapCode := fun w h => List.mem_cons_of_mem _ (List.mem_append_right _ (h))
set_option maxHeartbeats 4000000 in
set_option maxRecDepth 100000 in
theorem c_X5_swapCode (l : Launch) (D : va_G) (E : Nat → ClassId) (m0 m1 m2 m3 m4 m5 m6 m7 : Nat) (th : Int) (sm : Int) (le : Int) (tk : Int) (fr : Int) (ti : Int) (fa : Int) (ms : Nat → Int) (ma : Nat → Int) (mv : Nat → Int) (mt : Nat → Int) (mn : Nat → Int) (ml : Nat → Int) (mr : Nat → Int) (x1 : Int) (x2 : Int) {Φ : Int → Prop} (hw : wp_X5_swapCode x1 x2 ms Φ) : qRO l D E qF0 yX5_swapCode wsX5_swapCode 1 22 [(m0, .inr (5, [.int (qI th), .ref m1, .ref m2, .ref m3, .int (qI sm), .ref m4, .int (qI le), .ref m5, .ref m6, .ref m7, .int (qI tk), .int (qI fr), .int (qI ti), .int (qI fa)])), (m1, qA (E 0) 635 ms), (m2, qA (E 0) 635 ma), (m3, qA (E 0) 3175 mv), (m4, qA (E 0) 140 mt), (m5, qA (E 0) 2 mn), (m6, qA (E 0) 64 ml), (m7, qA (E 0) 49152 mr)] [.ref m0, .int (qI x1), .int (qI x2)] qeI (fun r => Φ r) := by
  refine qRO_int (nL := 3) (own := RX5) qF0_ok (by decide) rfl rfl (Nat.le_of_ble_eq_true rfl) (fun X C hend => ?_)
  have hB39 : ∀ k0 : Int, wp_X5_swapCode_39 Φ  k0 → qZ X 0 0 [(m0, .inr (5, [.int (qI th), .ref m1, .ref m2, .ref m3, .int (qI sm), .ref m4, .int (qI le), .ref m5, .ref m6, .ref m7, .int (qI tk), .int (qI fr), .int (qI ti), .int (qI fa)])), (m1, qA (E 0) 635 ms), (m2, qA (E 0) 635 ma), (m3, qA (E 0) 3175 mv), (m4, qA (E 0) 140 mt), (m5, qA (E 0) 2 mn), (m6, qA (E 0) 64 ml), (m7, qA (E 0) 49152 mr)] 39 [] [.int (qI k0)] := by
    intro k0 hw
    unfold wp_X5_swapCode_39 at hw
    exact hend 39 _ k0 dX5_swapCode_39 hw
  have hB38 :  wp_X5_swapCode_38 Φ   → qZ X 0 0 [(m0, .inr (5, [.int (qI th), .ref m1, .ref m2, .ref m3, .int (qI sm), .ref m4, .int (qI le), .ref m5, .ref m6, .ref m7, .int (qI tk), .int (qI fr), .int (qI ti), .int (qI fa)])), (m1, qA (E 0) 635 ms), (m2, qA (E 0) 635 ma), (m3, qA (E 0) 3175 mv), (m4, qA (E 0) 140 mt), (m5, qA (E 0) 2 mn), (m6, qA (E 0) 64 ml), (m7, qA (E 0) 49152 mr)] 38 [] [] := by
    intro  hw
    unfold wp_X5_swapCode_38 at hw
    refine z_iconst C dX5_swapCode_38 ?_
    refine z_lst (ps := []) (lv' := []) (st' := [.int (qI (-1 : Int))]) rfl rfl ?_
    exact hB39 (-1 : Int) hw
  unfold wp_X5_swapCode at hw
  show qZ X 0 0 [(m0, .inr (5, [.int (qI th), .ref m1, .ref m2, .ref m3, .int (qI sm), .ref m4, .int (qI le), .ref m5, .ref m6, .ref m7, .int (qI tk), .int (qI fr), .int (qI ti), .int (qI fa)])), (m1, qA (E 0) 635 ms), (m2, qA (E 0) 635 ma), (m3, qA (E 0) 3175 mv), (m4, qA (E 0) 140 mt), (m5, qA (E 0) 2 mn), (m6, qA (E 0) 64 ml), (m7, qA (E 0) 49152 mr)] 0 [(0, .ref m0), (1, .int (qI x1)), (2, .int (qI x2))] []
  refine z_iload_n C 1 rfl rfl dX5_swapCode_0 ?_
  refine z_iconst C dX5_swapCode_1 ?_
  refine z_aload_n C 0 rfl rfl dX5_swapCode_2 ?_
  refine z_get C iX5_swapCode_X5 0 rfl rfl 1 (by decide) (List.mem_of_getElem? (i := 1) rfl) rfl rfl dX5_swapCode_3 ?_
  refine z_bipush C (by decide +kernel) dX5_swapCode_6 ?_
  refine z_iald C 1 rfl (by decide) hw.1 dX5_swapCode_8 ?_
  replace hw := hw.2
  refine z_name (fun v1 ev1 => ?_)
  replace hw := hw v1 ev1
  refine z_iconst C dX5_swapCode_9 ?_
  refine z_isub C dX5_swapCode_10 ?_
  refine z_callS (n := 3) C (c_X5_in l D E   x1 (0 : Int) (v1 - (1 : Int)) hw) qF0_ok (fun _ _ _ => trivial) gX5_swapCode_X5_in rfl (by decide +kernel) ⟨(Nat.le_of_ble_eq_true rfl), (Nat.le_of_ble_eq_true rfl)⟩ rfl [] rfl rfl (Nat.le_of_ble_eq_true rfl) dX5_swapCode_11 (fun r2 hw => ?_)
  show qZ X 0 0 [(m0, .inr (5, [.int (qI th), .ref m1, .ref m2, .ref m3, .int (qI sm), .ref m4, .int (qI le), .ref m5, .ref m6, .ref m7, .int (qI tk), .int (qI fr), .int (qI ti), .int (qI fa)])), (m1, qA (E 0) 635 ms), (m2, qA (E 0) 635 ma), (m3, qA (E 0) 3175 mv), (m4, qA (E 0) 140 mt), (m5, qA (E 0) 2 mn), (m6, qA (E 0) 64 ml), (m7, qA (E 0) 49152 mr)] _ _ [.int (qI r2)]
  refine z_if_eq (tgt := 38) C hw.1 (by decide) dX5_swapCode_14 (fun c3 => ?_) (fun c3 => ?_)
  · replace hw := hw.2.1 c3
    refine z_lst (ps := []) (lv' := []) (st' := []) rfl rfl ?_
    exact hB38  hw
  · replace hw := hw.2.2 c3
    refine z_iload_n C 2 rfl rfl dX5_swapCode_17 ?_
    refine z_iconst C dX5_swapCode_18 ?_
    refine z_aload_n C 0 rfl rfl dX5_swapCode_19 ?_
    refine z_get C iX5_swapCode_X5 0 rfl rfl 1 (by decide) (List.mem_of_getElem? (i := 1) rfl) rfl rfl dX5_swapCode_20 ?_
    refine z_bipush C (by decide +kernel) dX5_swapCode_23 ?_
    refine z_iald C 1 rfl (by decide) hw.1 dX5_swapCode_25 ?_
    replace hw := hw.2
    refine z_name (fun v4 ev4 => ?_)
    replace hw := hw v4 ev4
    refine z_iconst C dX5_swapCode_26 ?_
    refine z_isub C dX5_swapCode_27 ?_
    refine z_callS (n := 3) C (c_X5_in l D E   x2 (0 : Int) (v4 - (1 : Int)) hw) qF0_ok (fun _ _ _ => trivial) gX5_swapCode_X5_in rfl (by decide +kernel) ⟨(Nat.le_of_ble_eq_true rfl), (Nat.le_of_ble_eq_true rfl)⟩ rfl [] rfl rfl (Nat.le_of_ble_eq_true rfl) dX5_swapCode_28 (fun r5 hw => ?_)
    show qZ X 0 0 [(m0, .inr (5, [.int (qI th), .ref m1, .ref m2, .ref m3, .int (qI sm), .ref m4, .int (qI le), .ref m5, .ref m6, .ref m7, .int (qI tk), .int (qI fr), .int (qI ti), .int (qI fa)])), (m1, qA (E 0) 635 ms), (m2, qA (E 0) 635 ma), (m3, qA (E 0) 3175 mv), (m4, qA (E 0) 140 mt), (m5, qA (E 0) 2 mn), (m6, qA (E 0) 64 ml), (m7, qA (E 0) 49152 mr)] _ _ [.int (qI r5)]
    refine z_if_eq (tgt := 38) C hw.1 (by decide) dX5_swapCode_31 (fun c6 => ?_) (fun c6 => ?_)
    · replace hw := hw.2.1 c6
      refine z_lst (ps := []) (lv' := []) (st' := []) rfl rfl ?_
      exact hB38  hw
    · replace hw := hw.2.2 c6
      refine z_iconst C dX5_swapCode_34 ?_
      refine z_goto (tgt := 39) C (by decide) dX5_swapCode_35 ?_
      refine z_lst (ps := []) (lv' := []) (st' := [.int (qI (0 : Int))]) rfl rfl ?_
      exact hB39 (0 : Int) hw
def wp_X5_changePlaces (x1 : Int) (x2 : Int) (ms : Nat → Int) (Φ : (Nat → Int) → Prop) : Prop := ((0 ≤ ((7 : Int) + x1) ∧ ((7 : Int) + x1) < 635) ∧ (∀ v1 : Int, v1 = ms (((7 : Int) + x1)).toNat → ((0 ≤ ((7 : Int) + x2) ∧ ((7 : Int) + x2) < 635) ∧ (∀ v2 : Int, v2 = ms (((7 : Int) + x2)).toNat → ((0 ≤ ((7 : Int) + x1) ∧ ((7 : Int) + x1) < 635) ∧ ∀ g3 : Nat → Int, g3 = qU ms (((7 : Int) + x1)).toNat v2 → ((0 ≤ ((7 : Int) + x2) ∧ ((7 : Int) + x2) < 635) ∧ ∀ g4 : Nat → Int, g4 = qU g3 (((7 : Int) + x2)).toNat v1 → Φ g4))))))
theorem iX5_changePlaces_X5 : ∀ w ∈ wsX50, w ∈ wsX5_changePlaces := fun w h => List.mem_cons_of_mem _ (List.mem_append_right _ (h))
set_option maxHeartbeats 4000000 in
set_option maxRecDepth 100000 in
theorem c_X5_changePlaces (l : Launch) (D : va_G) (E : Nat → ClassId) (m0 m1 m2 m3 m4 m5 m6 m7 : Nat) (th : Int) (sm : Int) (le : Int) (tk : Int) (fr : Int) (ti : Int) (fa : Int) (ms : Nat → Int) (ma : Nat → Int) (mv : Nat → Int) (mt : Nat → Int) (mn : Nat → Int) (ml : Nat → Int) (mr : Nat → Int) (x1 : Int) (x2 : Int) {Φ : (Nat → Int) → Prop} (hw : wp_X5_changePlaces x1 x2 ms Φ) : qRW (σ := (Nat → Int)) l D E qF0 yX5_changePlaces wsX5_changePlaces 0 0 [(m0, .inr (5, [.int (qI th), .ref m1, .ref m2, .ref m3, .int (qI sm), .ref m4, .int (qI le), .ref m5, .ref m6, .ref m7, .int (qI tk), .int (qI fr), .int (qI ti), .int (qI fa)])), (m1, qA (E 0) 635 ms), (m2, qA (E 0) 635 ma), (m3, qA (E 0) 3175 mv), (m4, qA (E 0) 140 mt), (m5, qA (E 0) 2 mn), (m6, qA (E 0) 64 ml), (m7, qA (E 0) 49152 mr)] [.ref m0, .int (qI x1), .int (qI x2)] qeV (fun u => [(m0, .inr (5, [.int (qI th), .ref m1, .ref m2, .ref m3, .int (qI sm), .ref m4, .int (qI le), .ref m5, .ref m6, .ref m7, .int (qI tk), .int (qI fr), .int (qI ti), .int (qI fa)])), (m1, qA (E 0) 635 u), (m2, qA (E 0) 635 ma), (m3, qA (E 0) 3175 mv), (m4, qA (E 0) 140 mt), (m5, qA (E 0) 2 mn), (m6, qA (E 0) 64 ml), (m7, qA (E 0) 49152 mr)]) (fun r u => Φ u) := by
  refine qRW_void (nL := 4) (own := RX5) qF0_ok (by decide) rfl rfl (Nat.le_of_ble_eq_true rfl) (fun X C hend => ?_)
  unfold wp_X5_changePlaces at hw
  show qZ X 0 0 [(m0, .inr (5, [.int (qI th), .ref m1, .ref m2, .ref m3, .int (qI sm), .ref m4, .int (qI le), .ref m5, .ref m6, .ref m7, .int (qI tk), .int (qI fr), .int (qI ti), .int (qI fa)])), (m1, qA (E 0) 635 ms), (m2, qA (E 0) 635 ma), (m3, qA (E 0) 3175 mv), (m4, qA (E 0) 140 mt), (m5, qA (E 0) 2 mn), (m6, qA (E 0) 64 ml), (m7, qA (E 0) 49152 mr)] 0 [(0, .ref m0), (1, .int (qI x1)), (2, .int (qI x2))] []
  refine z_aload_n C 0 rfl rfl dX5_changePlaces_0 ?_
  refine z_get C iX5_changePlaces_X5 0 rfl rfl 1 (by decide) (List.mem_of_getElem? (i := 1) rfl) rfl rfl dX5_changePlaces_1 ?_
  refine z_bipush C (by decide +kernel) dX5_changePlaces_4 ?_
  refine z_iload_n C 1 rfl rfl dX5_changePlaces_6 ?_
  refine z_iadd C dX5_changePlaces_7 ?_
  refine z_iald C 1 rfl (by decide) hw.1 dX5_changePlaces_8 ?_
  replace hw := hw.2
  refine z_name (fun v1 ev1 => ?_)
  replace hw := hw v1 ev1
  refine z_istore_n C rfl (by decide) rfl dX5_changePlaces_9 ?_
  refine z_aload_n C 1 rfl rfl dX5_changePlaces_10 ?_
  refine z_get C iX5_changePlaces_X5 0 rfl rfl 1 (by decide) (List.mem_of_getElem? (i := 1) rfl) rfl rfl dX5_changePlaces_11 ?_
  refine z_bipush C (by decide +kernel) dX5_changePlaces_14 ?_
  refine z_iload_n C 2 rfl rfl dX5_changePlaces_16 ?_
  refine z_iadd C dX5_changePlaces_17 ?_
  refine z_aload_n C 1 rfl rfl dX5_changePlaces_18 ?_
  refine z_get C iX5_changePlaces_X5 0 rfl rfl 1 (by decide) (List.mem_of_getElem? (i := 1) rfl) rfl rfl dX5_changePlaces_19 ?_
  refine z_bipush C (by decide +kernel) dX5_changePlaces_22 ?_
  refine z_iload_n C 3 rfl rfl dX5_changePlaces_24 ?_
  refine z_iadd C dX5_changePlaces_25 ?_
  refine z_iald C 1 rfl (by decide) hw.1 dX5_changePlaces_26 ?_
  replace hw := hw.2
  refine z_name (fun v2 ev2 => ?_)
  replace hw := hw v2 ev2
  refine z_iast C 1 rfl (by decide) hw.1 (fun g3 => [(m0, .inr (5, [.int (qI th), .ref m1, .ref m2, .ref m3, .int (qI sm), .ref m4, .int (qI le), .ref m5, .ref m6, .ref m7, .int (qI tk), .int (qI fr), .int (qI ti), .int (qI fa)])), (m1, qA (E 0) 635 g3), (m2, qA (E 0) 635 ma), (m3, qA (E 0) 3175 mv), (m4, qA (E 0) 140 mt), (m5, qA (E 0) 2 mn), (m6, qA (E 0) 64 ml), (m7, qA (E 0) 49152 mr)]) (fun _ => rfl) dX5_changePlaces_27 (fun g3 eg3 => ?_)
  replace hw := hw.2 g3 eg3
  refine z_aload_n C 1 rfl rfl dX5_changePlaces_28 ?_
  refine z_get C iX5_changePlaces_X5 0 rfl rfl 1 (by decide) (List.mem_of_getElem? (i := 1) rfl) rfl rfl dX5_changePlaces_29 ?_
  refine z_bipush C (by decide +kernel) dX5_changePlaces_32 ?_
  refine z_iload_n C 3 rfl rfl dX5_changePlaces_34 ?_
  refine z_iadd C dX5_changePlaces_35 ?_
  refine z_iload_n C 0 rfl rfl dX5_changePlaces_36 ?_
  refine z_iast C 1 rfl (by decide) hw.1 (fun g4 => [(m0, .inr (5, [.int (qI th), .ref m1, .ref m2, .ref m3, .int (qI sm), .ref m4, .int (qI le), .ref m5, .ref m6, .ref m7, .int (qI tk), .int (qI fr), .int (qI ti), .int (qI fa)])), (m1, qA (E 0) 635 g4), (m2, qA (E 0) 635 ma), (m3, qA (E 0) 3175 mv), (m4, qA (E 0) 140 mt), (m5, qA (E 0) 2 mn), (m6, qA (E 0) 64 ml), (m7, qA (E 0) 49152 mr)]) (fun _ => rfl) dX5_changePlaces_37 (fun g4 eg4 => ?_)
  replace hw := hw.2 g4 eg4
  exact hend 38 _ () g4 dX5_changePlaces_38 hw
def wp_X5_swapNow (x1 : Int) (x2 : Int) (ms : Nat → Int) (ml : Nat → Int) (Φ : Int → (Nat → Int) → (Nat → Int) → Prop) : Prop := wp_X5_changePlaces x1 x2 ms (fun (g2 : Nat → Int) => wp_X5_litMany g2 ml (fun (r3 : Int) (g4 : Nat → Int) => Φ r3 g2 g4))
set_option maxHeartbeats 4000000 in
set_option maxRecDepth 100000 in
theorem c_X5_swapNow (l : Launch) (D : va_G) (E : Nat → ClassId) (m0 m1 m2 m3 m4 m5 m6 m7 : Nat) (th : Int) (sm : Int) (le : Int) (tk : Int) (fr : Int) (ti : Int) (fa : Int) (ms : Nat → Int) (ma : Nat → Int) (mv : Nat → Int) (mt : Nat → Int) (mn : Nat → Int) (ml : Nat → Int) (mr : Nat → Int) (x1 : Int) (x2 : Int) {Φ : Int → (Nat → Int) → (Nat → Int) → Prop} (hw : wp_X5_swapNow x1 x2 ms ml Φ) : qRW (σ := (Nat → Int) × (Nat → Int)) l D E qF0 yX5_swapNow wsX5_swapNow 4 86 [(m0, .inr (5, [.int (qI th), .ref m1, .ref m2, .ref m3, .int (qI sm), .ref m4, .int (qI le), .ref m5, .ref m6, .ref m7, .int (qI tk), .int (qI fr), .int (qI ti), .int (qI fa)])), (m1, qA (E 0) 635 ms), (m2, qA (E 0) 635 ma), (m3, qA (E 0) 3175 mv), (m4, qA (E 0) 140 mt), (m5, qA (E 0) 2 mn), (m6, qA (E 0) 64 ml), (m7, qA (E 0) 49152 mr)] [.ref m0, .int (qI x1), .int (qI x2)] qeI (fun u => [(m0, .inr (5, [.int (qI th), .ref m1, .ref m2, .ref m3, .int (qI sm), .ref m4, .int (qI le), .ref m5, .ref m6, .ref m7, .int (qI tk), .int (qI fr), .int (qI ti), .int (qI fa)])), (m1, qA (E 0) 635 u.1), (m2, qA (E 0) 635 ma), (m3, qA (E 0) 3175 mv), (m4, qA (E 0) 140 mt), (m5, qA (E 0) 2 mn), (m6, qA (E 0) 64 u.2), (m7, qA (E 0) 49152 mr)]) (fun r u => Φ r u.1 u.2) := by
  refine qRW_int (nL := 3) (own := RX5) qF0_ok (by decide) rfl rfl (Nat.le_of_ble_eq_true rfl) (fun X C hend => ?_)
  unfold wp_X5_swapNow at hw
  show qZ X 0 0 [(m0, .inr (5, [.int (qI th), .ref m1, .ref m2, .ref m3, .int (qI sm), .ref m4, .int (qI le), .ref m5, .ref m6, .ref m7, .int (qI tk), .int (qI fr), .int (qI ti), .int (qI fa)])), (m1, qA (E 0) 635 ms), (m2, qA (E 0) 635 ma), (m3, qA (E 0) 3175 mv), (m4, qA (E 0) 140 mt), (m5, qA (E 0) 2 mn), (m6, qA (E 0) 64 ml), (m7, qA (E 0) 49152 mr)] 0 [(0, .ref m0), (1, .int (qI x1)), (2, .int (qI x2))] []
  refine z_aload_n C 0 rfl rfl dX5_swapNow_0 ?_
  refine z_iload_n C 1 rfl rfl dX5_swapNow_1 ?_
  refine z_iload_n C 2 rfl rfl dX5_swapNow_2 ?_
  refine z_callVW (n := 2) C (c_X5_changePlaces l D E m0 m1 m2 m3 m4 m5 m6 m7 th sm le tk fr ti fa ms ma mv mt mn ml mr x1 x2 hw) qF0_ok (fun _ _ _ => trivial) gX5_swapNow_X5_changePlaces rfl (by decide +kernel) ⟨(Nat.le_of_ble_eq_true rfl), (Nat.le_of_ble_eq_true rfl)⟩ rfl 0 rfl rfl [0, 1, 2, 3, 4, 5, 6, 7] [] (wr := []) rfl rfl rfl rfl (by decide) [0, 1, 2, 3, 4, 5, 6, 7] rfl (fun u9 => [(m0, .inr (5, [.int (qI th), .ref m1, .ref m2, .ref m3, .int (qI sm), .ref m4, .int (qI le), .ref m5, .ref m6, .ref m7, .int (qI tk), .int (qI fr), .int (qI ti), .int (qI fa)])), (m1, qA (E 0) 635 u9), (m2, qA (E 0) 635 ma), (m3, qA (E 0) 3175 mv), (m4, qA (E 0) 140 mt), (m5, qA (E 0) 2 mn), (m6, qA (E 0) 64 ml), (m7, qA (E 0) 49152 mr)]) (fun _ => rfl) rfl (Nat.le_of_ble_eq_true rfl) dX5_swapNow_3 (fun r1 u9 hw => ?_)
  obtain ⟨g2, rfl⟩ : ∃ z, z = u9 := ⟨_, rfl⟩
  refine z_ws (ws' := [(m0, .inr (5, [.int (qI th), .ref m1, .ref m2, .ref m3, .int (qI sm), .ref m4, .int (qI le), .ref m5, .ref m6, .ref m7, .int (qI tk), .int (qI fr), .int (qI ti), .int (qI fa)])), (m1, qA (E 0) 635 g2), (m2, qA (E 0) 635 ma), (m3, qA (E 0) 3175 mv), (m4, qA (E 0) 140 mt), (m5, qA (E 0) 2 mn), (m6, qA (E 0) 64 ml), (m7, qA (E 0) 49152 mr)]) rfl ?_
  try dsimp only at hw
  show qZ X 0 0 [(m0, .inr (5, [.int (qI th), .ref m1, .ref m2, .ref m3, .int (qI sm), .ref m4, .int (qI le), .ref m5, .ref m6, .ref m7, .int (qI tk), .int (qI fr), .int (qI ti), .int (qI fa)])), (m1, qA (E 0) 635 g2), (m2, qA (E 0) 635 ma), (m3, qA (E 0) 3175 mv), (m4, qA (E 0) 140 mt), (m5, qA (E 0) 2 mn), (m6, qA (E 0) 64 ml), (m7, qA (E 0) 49152 mr)] _ _ []
  refine z_aload_n C 0 rfl rfl dX5_swapNow_6 ?_
  refine z_callVW (n := 0) C (c_X5_litMany l D E m0 m1 m2 m3 m4 m5 m6 m7 th sm le tk fr ti fa g2 ma mv mt mn ml mr  hw) qF0_ok (fun _ _ _ => trivial) gX5_swapNow_X5_litMany rfl (by decide +kernel) ⟨(Nat.le_of_ble_eq_true rfl), (Nat.le_of_ble_eq_true rfl)⟩ rfl 0 rfl rfl [0, 1, 2, 3, 4, 5, 6, 7] [] (wr := []) rfl rfl rfl rfl (by decide) [0, 1, 2, 3, 4, 5, 6, 7] rfl (fun u9 => [(m0, .inr (5, [.int (qI th), .ref m1, .ref m2, .ref m3, .int (qI sm), .ref m4, .int (qI le), .ref m5, .ref m6, .ref m7, .int (qI tk), .int (qI fr), .int (qI ti), .int (qI fa)])), (m1, qA (E 0) 635 g2), (m2, qA (E 0) 635 ma), (m3, qA (E 0) 3175 mv), (m4, qA (E 0) 140 mt), (m5, qA (E 0) 2 mn), (m6, qA (E 0) 64 u9), (m7, qA (E 0) 49152 mr)]) (fun _ => rfl) rfl (Nat.le_of_ble_eq_true rfl) dX5_swapNow_7 (fun r3 u9 hw => ?_)
  obtain ⟨g4, rfl⟩ : ∃ z, z = u9 := ⟨_, rfl⟩
  refine z_ws (ws' := [(m0, .inr (5, [.int (qI th), .ref m1, .ref m2, .ref m3, .int (qI sm), .ref m4, .int (qI le), .ref m5, .ref m6, .ref m7, .int (qI tk), .int (qI fr), .int (qI ti), .int (qI fa)])), (m1, qA (E 0) 635 g2), (m2, qA (E 0) 635 ma), (m3, qA (E 0) 3175 mv), (m4, qA (E 0) 140 mt), (m5, qA (E 0) 2 mn), (m6, qA (E 0) 64 g4), (m7, qA (E 0) 49152 mr)]) rfl ?_
  try dsimp only at hw
  show qZ X 0 0 [(m0, .inr (5, [.int (qI th), .ref m1, .ref m2, .ref m3, .int (qI sm), .ref m4, .int (qI le), .ref m5, .ref m6, .ref m7, .int (qI tk), .int (qI fr), .int (qI ti), .int (qI fa)])), (m1, qA (E 0) 635 g2), (m2, qA (E 0) 635 ma), (m3, qA (E 0) 3175 mv), (m4, qA (E 0) 140 mt), (m5, qA (E 0) 2 mn), (m6, qA (E 0) 64 g4), (m7, qA (E 0) 49152 mr)] _ _ [.int (qI r3)]
  exact hend 10 _ r3 (g2, g4) dX5_swapNow_10 hw
def wp_X5_darkTick_2 (Φ : Int → Prop)  (x0 : Int) : Nat → Int → Prop
  | 0, _ => False
  | n9 + 1, x1 => wp_X5_fading x0 x1 (fun (r1 : Int) => (qR r1 ∧ (r1 ≤ (0 : Int) → Φ x1) ∧ (¬ (r1 ≤ (0 : Int)) → (∀ v3 : Int, v3 = x1 + (1 : Int) → wp_X5_darkTick_2 Φ  x0 n9 v3))))
def wp_X5_darkTick (x0 : Int)  (Φ : Int → Prop) : Prop := ∃ n : Nat, wp_X5_darkTick_2 Φ  x0 n (0 : Int)
set_option maxHeartbeats 4000000 in
set_option maxRecDepth 100000 in
theorem c_X5_darkTick (l : Launch) (D : va_G) (E : Nat → ClassId)   (x0 : Int) {Φ : Int → Prop} (hw : wp_X5_darkTick x0  Φ) : qRO l D E qF0 yX5_darkTick wsX5_darkTick 2 44 [] [.int (qI x0)] qeI (fun r => Φ r) := by
  refine qRO_int (nL := 2) (own := RX5) qF0_ok (by decide) rfl rfl (Nat.le_of_ble_eq_true rfl) (fun X C hend => ?_)
  have hB2 : ∀ x0 : Int, ∀ n8 : Nat, ∀ x1 : Int, wp_X5_darkTick_2 Φ  x0 n8 x1 → qZ X 0 0 [] 2 [(0, .int (qI x0)), (1, .int (qI x1))] [] := by
    intro x0 n8
    induction n8 with
    | zero =>
      intro x1 hw
      exact hw.elim
    | succ n9 ih =>
      intro x1 hw
      unfold wp_X5_darkTick_2 at hw
      refine z_iload_n C 0 rfl rfl dX5_darkTick_2 ?_
      refine z_iload_n C 1 rfl rfl dX5_darkTick_3 ?_
      refine z_callS (n := 2) C (c_X5_fading l D E   x0 x1 hw) qF0_ok (fun _ _ _ => trivial) gX5_darkTick_X5_fading rfl (by decide +kernel) ⟨(Nat.le_of_ble_eq_true rfl), (Nat.le_of_ble_eq_true rfl)⟩ rfl [] rfl rfl (Nat.le_of_ble_eq_true rfl) dX5_darkTick_4 (fun r1 hw => ?_)
      show qZ X 0 0 [] _ _ [.int (qI r1)]
      refine z_if_le (tgt := 16) C hw.1 (by decide) dX5_darkTick_7 (fun c2 => ?_) (fun c2 => ?_)
      · replace hw := hw.2.1 c2
        refine z_iload_n C 1 rfl rfl dX5_darkTick_16 ?_
        exact hend 17 _ x1 dX5_darkTick_17 hw
      · replace hw := hw.2.2 c2
        obtain ⟨v3, ev3⟩ : ∃ v3 : Int, v3 = x1 + (1 : Int) := ⟨_, rfl⟩
        replace hw := hw v3 ev3
        refine z_iinc C 1 rfl (by decide) v3 ev3 rfl dX5_darkTick_10 ?_
        refine z_goto (tgt := 2) C (by decide) dX5_darkTick_13 ?_
        refine z_lst (ps := [1, 0]) (lv' := [(0, .int (qI x0)), (1, .int (qI v3))]) (st' := []) rfl rfl ?_
        exact ih v3 hw
  unfold wp_X5_darkTick at hw
  show qZ X 0 0 [] 0 [(0, .int (qI x0))] []
  refine z_iconst C dX5_darkTick_0 ?_
  refine z_istore_n C rfl (by decide) rfl dX5_darkTick_1 ?_
  refine z_lst (ps := [1, 0]) (lv' := [(0, .int (qI x0)), (1, .int (qI (0 : Int)))]) (st' := []) rfl rfl ?_
  obtain ⟨n8, hw⟩ := hw
  exact hB2 x0 n8 (0 : Int) hw
def wp_X5_keyOf (x1 : Int) (x2 : Int) (x3 : Int) (ms : Nat → Int) (Φ : Int → Prop) : Prop := (qR x1 ∧ ((x1 < (0 : Int) ∨ (2 : Int) < x1) → wp_X5_way x3 x2 (fun (r1 : Int) => Φ (((100 : Int) * r1) + x2))) ∧ (x1 = (0 : Int) → Φ x2) ∧ (x1 = (1 : Int) → ((0 ≤ ((147 : Int) + x2) ∧ ((147 : Int) + x2) < 635) ∧ (∀ v2 : Int, v2 = ms (((147 : Int) + x2)).toNat → wp_X5_way (0 : Int) x2 (fun (r3 : Int) => Φ ((((10000 : Int) * v2) + ((100 : Int) * r3)) + x2))))) ∧ (x1 = (2 : Int) → ((0 ≤ ((19 : Int) + x2) ∧ ((19 : Int) + x2) < 635) ∧ (∀ v4 : Int, v4 = ms (((19 : Int) + x2)).toNat → wp_X5_darkTick v4 (fun (r5 : Int) => Φ (((100 : Int) * r5) + x2))))))
theorem iX5_keyOf_X5 : ∀ w ∈ wsX50, w ∈ wsX5_keyOf := fun w h => List.mem_cons_of_mem _ (List.mem_append_right _ (h))
set_option maxHeartbeats 4000000 in
set_option maxRecDepth 100000 in
theorem c_X5_keyOf (l : Launch) (D : va_G) (E : Nat → ClassId) (m0 m1 m2 m3 m4 m5 m6 m7 : Nat) (th : Int) (sm : Int) (le : Int) (tk : Int) (fr : Int) (ti : Int) (fa : Int) (ms : Nat → Int) (ma : Nat → Int) (mv : Nat → Int) (mt : Nat → Int) (mn : Nat → Int) (ml : Nat → Int) (mr : Nat → Int) (x1 : Int) (x2 : Int) (x3 : Int) {Φ : Int → Prop} (hw : wp_X5_keyOf x1 x2 x3 ms Φ) : qRO l D E qF0 yX5_keyOf wsX5_keyOf 3 65 [(m0, .inr (5, [.int (qI th), .ref m1, .ref m2, .ref m3, .int (qI sm), .ref m4, .int (qI le), .ref m5, .ref m6, .ref m7, .int (qI tk), .int (qI fr), .int (qI ti), .int (qI fa)])), (m1, qA (E 0) 635 ms), (m2, qA (E 0) 635 ma), (m3, qA (E 0) 3175 mv), (m4, qA (E 0) 140 mt), (m5, qA (E 0) 2 mn), (m6, qA (E 0) 64 ml), (m7, qA (E 0) 49152 mr)] [.ref m0, .int (qI x1), .int (qI x2), .int (qI x3)] qeI (fun r => Φ r) := by
  refine qRO_int (nL := 4) (own := RX5) qF0_ok (by decide) rfl rfl (Nat.le_of_ble_eq_true rfl) (fun X C hend => ?_)
  unfold wp_X5_keyOf at hw
  show qZ X 0 0 [(m0, .inr (5, [.int (qI th), .ref m1, .ref m2, .ref m3, .int (qI sm), .ref m4, .int (qI le), .ref m5, .ref m6, .ref m7, .int (qI tk), .int (qI fr), .int (qI ti), .int (qI fa)])), (m1, qA (E 0) 635 ms), (m2, qA (E 0) 635 ma), (m3, qA (E 0) 3175 mv), (m4, qA (E 0) 140 mt), (m5, qA (E 0) 2 mn), (m6, qA (E 0) 64 ml), (m7, qA (E 0) 49152 mr)] 0 [(0, .ref m0), (1, .int (qI x1)), (2, .int (qI x2)), (3, .int (qI x3))] []
  refine z_iload_n C 1 rfl rfl dX5_keyOf_0 ?_
  rcases (show (x1 < (0 : Int) ∨ (2 : Int) < x1) ∨ x1 = (0 : Int) ∨ x1 = (1 : Int) ∨ x1 = (2 : Int) by omega) with c6 | c6 | c6 | c6
  · refine z_swOut (tgt := 74) C hw.1 c6 (by decide) dX5_keyOf_1 ?_
    replace hw := hw.2.1 c6
    refine z_bipush C (by decide +kernel) dX5_keyOf_74 ?_
    refine z_iload_n C 3 rfl rfl dX5_keyOf_76 ?_
    refine z_iload_n C 2 rfl rfl dX5_keyOf_77 ?_
    refine z_callS (n := 2) C (c_X5_way l D E   x3 x2 hw) qF0_ok (fun _ _ _ => trivial) gX5_keyOf_X5_way rfl (by decide +kernel) ⟨(Nat.le_of_ble_eq_true rfl), (Nat.le_of_ble_eq_true rfl)⟩ rfl [] rfl rfl (Nat.le_of_ble_eq_true rfl) dX5_keyOf_78 (fun r1 hw => ?_)
    show qZ X 0 0 [(m0, .inr (5, [.int (qI th), .ref m1, .ref m2, .ref m3, .int (qI sm), .ref m4, .int (qI le), .ref m5, .ref m6, .ref m7, .int (qI tk), .int (qI fr), .int (qI ti), .int (qI fa)])), (m1, qA (E 0) 635 ms), (m2, qA (E 0) 635 ma), (m3, qA (E 0) 3175 mv), (m4, qA (E 0) 140 mt), (m5, qA (E 0) 2 mn), (m6, qA (E 0) 64 ml), (m7, qA (E 0) 49152 mr)] _ _ [.int (qI r1), .int (qI (100 : Int))]
    refine z_imul C dX5_keyOf_81 ?_
    refine z_iload_n C 2 rfl rfl dX5_keyOf_82 ?_
    refine z_iadd C dX5_keyOf_83 ?_
    exact hend 84 _ (((100 : Int) * r1) + x2) dX5_keyOf_84 hw
  · refine z_swIn (off := (27 : Int)) (tgt := 28) C hw.1 (by omega) (by omega) (by rw [c6]; rfl) (by decide) dX5_keyOf_1 ?_
    replace hw := hw.2.2.1 c6
    refine z_iload_n C 2 rfl rfl dX5_keyOf_28 ?_
    exact hend 29 _ x2 dX5_keyOf_29 hw
  · refine z_swIn (off := (29 : Int)) (tgt := 30) C hw.1 (by omega) (by omega) (by rw [c6]; rfl) (by decide) dX5_keyOf_1 ?_
    replace hw := hw.2.2.2.1 c6
    refine z_sipush C (by decide +kernel) dX5_keyOf_30 ?_
    refine z_aload_n C 0 rfl rfl dX5_keyOf_33 ?_
    refine z_get C iX5_keyOf_X5 0 rfl rfl 1 (by decide) (List.mem_of_getElem? (i := 1) rfl) rfl rfl dX5_keyOf_34 ?_
    refine z_sipush C (by decide +kernel) dX5_keyOf_37 ?_
    refine z_iload_n C 2 rfl rfl dX5_keyOf_40 ?_
    refine z_iadd C dX5_keyOf_41 ?_
    refine z_iald C 1 rfl (by decide) hw.1 dX5_keyOf_42 ?_
    replace hw := hw.2
    refine z_name (fun v2 ev2 => ?_)
    replace hw := hw v2 ev2
    refine z_imul C dX5_keyOf_43 ?_
    refine z_bipush C (by decide +kernel) dX5_keyOf_44 ?_
    refine z_iconst C dX5_keyOf_46 ?_
    refine z_iload_n C 2 rfl rfl dX5_keyOf_47 ?_
    refine z_callS (n := 2) C (c_X5_way l D E   (0 : Int) x2 hw) qF0_ok (fun _ _ _ => trivial) gX5_keyOf_X5_way rfl (by decide +kernel) ⟨(Nat.le_of_ble_eq_true rfl), (Nat.le_of_ble_eq_true rfl)⟩ rfl [] rfl rfl (Nat.le_of_ble_eq_true rfl) dX5_keyOf_48 (fun r3 hw => ?_)
    show qZ X 0 0 [(m0, .inr (5, [.int (qI th), .ref m1, .ref m2, .ref m3, .int (qI sm), .ref m4, .int (qI le), .ref m5, .ref m6, .ref m7, .int (qI tk), .int (qI fr), .int (qI ti), .int (qI fa)])), (m1, qA (E 0) 635 ms), (m2, qA (E 0) 635 ma), (m3, qA (E 0) 3175 mv), (m4, qA (E 0) 140 mt), (m5, qA (E 0) 2 mn), (m6, qA (E 0) 64 ml), (m7, qA (E 0) 49152 mr)] _ _ [.int (qI r3), .int (qI (100 : Int)), .int (qI ((10000 : Int) * v2))]
    refine z_imul C dX5_keyOf_51 ?_
    refine z_iadd C dX5_keyOf_52 ?_
    refine z_iload_n C 2 rfl rfl dX5_keyOf_53 ?_
    refine z_iadd C dX5_keyOf_54 ?_
    exact hend 55 _ ((((10000 : Int) * v2) + ((100 : Int) * r3)) + x2) dX5_keyOf_55 hw
  · refine z_swIn (off := (55 : Int)) (tgt := 56) C hw.1 (by omega) (by omega) (by rw [c6]; rfl) (by decide) dX5_keyOf_1 ?_
    replace hw := hw.2.2.2.2 c6
    refine z_bipush C (by decide +kernel) dX5_keyOf_56 ?_
    refine z_aload_n C 0 rfl rfl dX5_keyOf_58 ?_
    refine z_get C iX5_keyOf_X5 0 rfl rfl 1 (by decide) (List.mem_of_getElem? (i := 1) rfl) rfl rfl dX5_keyOf_59 ?_
    refine z_bipush C (by decide +kernel) dX5_keyOf_62 ?_
    refine z_iload_n C 2 rfl rfl dX5_keyOf_64 ?_
    refine z_iadd C dX5_keyOf_65 ?_
    refine z_iald C 1 rfl (by decide) hw.1 dX5_keyOf_66 ?_
    replace hw := hw.2
    refine z_name (fun v4 ev4 => ?_)
    replace hw := hw v4 ev4
    refine z_callS (n := 1) C (c_X5_darkTick l D E   v4 hw) qF0_ok (fun _ _ _ => trivial) gX5_keyOf_X5_darkTick rfl (by decide +kernel) ⟨(Nat.le_of_ble_eq_true rfl), (Nat.le_of_ble_eq_true rfl)⟩ rfl [] rfl rfl (Nat.le_of_ble_eq_true rfl) dX5_keyOf_67 (fun r5 hw => ?_)
    show qZ X 0 0 [(m0, .inr (5, [.int (qI th), .ref m1, .ref m2, .ref m3, .int (qI sm), .ref m4, .int (qI le), .ref m5, .ref m6, .ref m7, .int (qI tk), .int (qI fr), .int (qI ti), .int (qI fa)])), (m1, qA (E 0) 635 ms), (m2, qA (E 0) 635 ma), (m3, qA (E 0) 3175 mv), (m4, qA (E 0) 140 mt), (m5, qA (E 0) 2 mn), (m6, qA (E 0) 64 ml), (m7, qA (E 0) 49152 mr)] _ _ [.int (qI r5), .int (qI (100 : Int))]
    refine z_imul C dX5_keyOf_70 ?_
    refine z_iload_n C 2 rfl rfl dX5_keyOf_71 ?_
    refine z_iadd C dX5_keyOf_72 ?_
    exact hend 73 _ (((100 : Int) * r5) + x2) dX5_keyOf_73 hw
def wp_X5_sortCode_14 (Φ : Int → Prop)  (k0 : Int) : Prop := Φ k0
def wp_X5_sortCode (x1 : Int)  (Φ : Int → Prop) : Prop := wp_X5_in x1 (0 : Int) (3 : Int) (fun (r1 : Int) => (qR r1 ∧ (r1 = (0 : Int) → wp_X5_sortCode_14 Φ  (-1 : Int)) ∧ (¬ (r1 = (0 : Int)) → wp_X5_sortCode_14 Φ  (0 : Int))))
set_option maxHeartbeats 4000000 in
set_option maxRecDepth 100000 in
theorem c_X5_sortCode (l : Launch) (D : va_G) (E : Nat → ClassId) (m0 m1 m2 m3 m4 m5 m6 m7 : Nat) (th : Int) (sm : Int) (le : Int) (tk : Int) (fr : Int) (ti : Int) (fa : Int) (ms : Nat → Int) (ma : Nat → Int) (mv : Nat → Int) (mt : Nat → Int) (mn : Nat → Int) (ml : Nat → Int) (mr : Nat → Int) (x1 : Int) {Φ : Int → Prop} (hw : wp_X5_sortCode x1  Φ) : qRO l D E qF0 yX5_sortCode wsX5_sortCode 1 22 [(m0, .inr (5, [.int (qI th), .ref m1, .ref m2, .ref m3, .int (qI sm), .ref m4, .int (qI le), .ref m5, .ref m6, .ref m7, .int (qI tk), .int (qI fr), .int (qI ti), .int (qI fa)])), (m1, qA (E 0) 635 ms), (m2, qA (E 0) 635 ma), (m3, qA (E 0) 3175 mv), (m4, qA (E 0) 140 mt), (m5, qA (E 0) 2 mn), (m6, qA (E 0) 64 ml), (m7, qA (E 0) 49152 mr)] [.ref m0, .int (qI x1)] qeI (fun r => Φ r) := by
  refine qRO_int (nL := 2) (own := RX5) qF0_ok (by decide) rfl rfl (Nat.le_of_ble_eq_true rfl) (fun X C hend => ?_)
  have hB14 : ∀ k0 : Int, wp_X5_sortCode_14 Φ  k0 → qZ X 0 0 [(m0, .inr (5, [.int (qI th), .ref m1, .ref m2, .ref m3, .int (qI sm), .ref m4, .int (qI le), .ref m5, .ref m6, .ref m7, .int (qI tk), .int (qI fr), .int (qI ti), .int (qI fa)])), (m1, qA (E 0) 635 ms), (m2, qA (E 0) 635 ma), (m3, qA (E 0) 3175 mv), (m4, qA (E 0) 140 mt), (m5, qA (E 0) 2 mn), (m6, qA (E 0) 64 ml), (m7, qA (E 0) 49152 mr)] 14 [] [.int (qI k0)] := by
    intro k0 hw
    unfold wp_X5_sortCode_14 at hw
    exact hend 14 _ k0 dX5_sortCode_14 hw
  unfold wp_X5_sortCode at hw
  show qZ X 0 0 [(m0, .inr (5, [.int (qI th), .ref m1, .ref m2, .ref m3, .int (qI sm), .ref m4, .int (qI le), .ref m5, .ref m6, .ref m7, .int (qI tk), .int (qI fr), .int (qI ti), .int (qI fa)])), (m1, qA (E 0) 635 ms), (m2, qA (E 0) 635 ma), (m3, qA (E 0) 3175 mv), (m4, qA (E 0) 140 mt), (m5, qA (E 0) 2 mn), (m6, qA (E 0) 64 ml), (m7, qA (E 0) 49152 mr)] 0 [(0, .ref m0), (1, .int (qI x1))] []
  refine z_iload_n C 1 rfl rfl dX5_sortCode_0 ?_
  refine z_iconst C dX5_sortCode_1 ?_
  refine z_iconst C dX5_sortCode_2 ?_
  refine z_callS (n := 3) C (c_X5_in l D E   x1 (0 : Int) (3 : Int) hw) qF0_ok (fun _ _ _ => trivial) gX5_sortCode_X5_in rfl (by decide +kernel) ⟨(Nat.le_of_ble_eq_true rfl), (Nat.le_of_ble_eq_true rfl)⟩ rfl [] rfl rfl (Nat.le_of_ble_eq_true rfl) dX5_sortCode_3 (fun r1 hw => ?_)
  show qZ X 0 0 [(m0, .inr (5, [.int (qI th), .ref m1, .ref m2, .ref m3, .int (qI sm), .ref m4, .int (qI le), .ref m5, .ref m6, .ref m7, .int (qI tk), .int (qI fr), .int (qI ti), .int (qI fa)])), (m1, qA (E 0) 635 ms), (m2, qA (E 0) 635 ma), (m3, qA (E 0) 3175 mv), (m4, qA (E 0) 140 mt), (m5, qA (E 0) 2 mn), (m6, qA (E 0) 64 ml), (m7, qA (E 0) 49152 mr)] _ _ [.int (qI r1)]
  refine z_if_eq (tgt := 13) C hw.1 (by decide) dX5_sortCode_6 (fun c2 => ?_) (fun c2 => ?_)
  · replace hw := hw.2.1 c2
    refine z_iconst C dX5_sortCode_13 ?_
    refine z_lst (ps := []) (lv' := []) (st' := [.int (qI (-1 : Int))]) rfl rfl ?_
    exact hB14 (-1 : Int) hw
  · replace hw := hw.2.2 c2
    refine z_iconst C dX5_sortCode_9 ?_
    refine z_goto (tgt := 14) C (by decide) dX5_sortCode_10 ?_
    refine z_lst (ps := []) (lv' := []) (st' := [.int (qI (0 : Int))]) rfl rfl ?_
    exact hB14 (0 : Int) hw
def wp_X5_sortNow_69 (Φ : Int → (Nat → Int) → (Nat → Int) → Prop) (K4 : Int → Int → (Nat → Int) → Prop) (K23 : Int → Int → Prop) (x1 : Int) (x2 : Int) (x3 : Int) (x5 : Int) (k0 : Int) (ms : Nat → Int) (ml : Nat → Int) : Prop := (∀ v1 : Int, v1 = x5 + (1 : Int) → K23 k0 v1)
def wp_X5_sortNow_23 (Φ : Int → (Nat → Int) → (Nat → Int) → Prop) (K4 : Int → Int → (Nat → Int) → Prop) (x1 : Int) (x2 : Int) (x3 : Int) (ms : Nat → Int) (ml : Nat → Int) : Nat → Int → Int → Prop
  | 0, _, _ => False
  | n9 + 1, x4, x5 => ((0 ≤ (6 : Int) ∧ (6 : Int) < 635) ∧ (∀ v2 : Int, v2 = ms ((6 : Int)).toNat → ((qR x5 ∧ qR v2) ∧ (v2 ≤ x5 → wp_X5_changePlaces x3 x4 ms (fun (g5 : Nat → Int) => wp_X5_spotAt x3 g5 (fun (r6 : Int) => (∀ v7 : Int, v7 = x3 + (1 : Int) → K4 r6 v7 g5)))) ∧ (¬ (v2 ≤ x5) → wp_X5_spotAt x5 ms (fun (r8 : Int) => wp_X5_keyOf x1 r8 x2 ms (fun (r9 : Int) => wp_X5_spotAt x4 ms (fun (r10 : Int) => wp_X5_keyOf x1 r10 x2 ms (fun (r11 : Int) => ((qR r9 ∧ qR r11) ∧ (r11 ≤ r9 → wp_X5_sortNow_69 Φ K4 (wp_X5_sortNow_23 Φ K4 x1 x2 x3 ms ml n9) x1 x2 x3 x5 x4 ms ml) ∧ (¬ (r11 ≤ r9) → wp_X5_sortNow_69 Φ K4 (wp_X5_sortNow_23 Φ K4 x1 x2 x3 ms ml n9) x1 x2 x3 x5 x5 ms ml))))))))))
def wp_X5_sortNow_4 (Φ : Int → (Nat → Int) → (Nat → Int) → Prop)  (x1 : Int) (ml : Nat → Int) : Nat → Int → Int → (Nat → Int) → Prop
  | 0, _, _, _ => False
  | n9 + 1, x2, x3, ms => ((0 ≤ (6 : Int) ∧ (6 : Int) < 635) ∧ (∀ v13 : Int, v13 = ms ((6 : Int)).toNat → ((qR x3 ∧ qR v13) ∧ (v13 ≤ x3 → wp_X5_litMany ms ml (fun (r15 : Int) (g16 : Nat → Int) => Φ r15 ms g16)) ∧ (¬ (v13 ≤ x3) → (∀ v17 : Int, v17 = (x3 + (1 : Int)) → ∃ n : Nat, wp_X5_sortNow_23 Φ (wp_X5_sortNow_4 Φ  x1 ml n9) x1 x2 x3 ms ml n x3 v17)))))
def wp_X5_sortNow (x1 : Int) (ms : Nat → Int) (ml : Nat → Int) (Φ : Int → (Nat → Int) → (Nat → Int) → Prop) : Prop := ∃ n : Nat, wp_X5_sortNow_4 Φ  x1 ml n (0 : Int) (0 : Int) ms
theorem iX5_sortNow_X5 : ∀ w ∈ wsX50, w ∈ wsX5_sortNow := fun w h => List.mem_cons_of_mem _ (List.mem_append_right _ (h))
set_option maxHeartbeats 4000000 in
set_option maxRecDepth 100000 in
theorem c_X5_sortNow (l : Launch) (D : va_G) (E : Nat → ClassId) (m0 m1 m2 m3 m4 m5 m6 m7 : Nat) (th : Int) (sm : Int) (le : Int) (tk : Int) (fr : Int) (ti : Int) (fa : Int) (ms : Nat → Int) (ma : Nat → Int) (mv : Nat → Int) (mt : Nat → Int) (mn : Nat → Int) (ml : Nat → Int) (mr : Nat → Int) (x1 : Int) {Φ : Int → (Nat → Int) → (Nat → Int) → Prop} (hw : wp_X5_sortNow x1 ms ml Φ) : qRW (σ := (Nat → Int) × (Nat → Int)) l D E qF0 yX5_sortNow wsX5_sortNow 4 88 [(m0, .inr (5, [.int (qI th), .ref m1, .ref m2, .ref m3, .int (qI sm), .ref m4, .int (qI le), .ref m5, .ref m6, .ref m7, .int (qI tk), .int (qI fr), .int (qI ti), .int (qI fa)])), (m1, qA (E 0) 635 ms), (m2, qA (E 0) 635 ma), (m3, qA (E 0) 3175 mv), (m4, qA (E 0) 140 mt), (m5, qA (E 0) 2 mn), (m6, qA (E 0) 64 ml), (m7, qA (E 0) 49152 mr)] [.ref m0, .int (qI x1)] qeI (fun u => [(m0, .inr (5, [.int (qI th), .ref m1, .ref m2, .ref m3, .int (qI sm), .ref m4, .int (qI le), .ref m5, .ref m6, .ref m7, .int (qI tk), .int (qI fr), .int (qI ti), .int (qI fa)])), (m1, qA (E 0) 635 u.1), (m2, qA (E 0) 635 ma), (m3, qA (E 0) 3175 mv), (m4, qA (E 0) 140 mt), (m5, qA (E 0) 2 mn), (m6, qA (E 0) 64 u.2), (m7, qA (E 0) 49152 mr)]) (fun r u => Φ r u.1 u.2) := by
  refine qRW_int (nL := 6) (own := RX5) qF0_ok (by decide) rfl rfl (Nat.le_of_ble_eq_true rfl) (fun X C hend => ?_)
  have hB69 : ∀ x1 : Int, ∀ ml : Nat → Int, ∀ K4 : Int → Int → (Nat → Int) → Prop, (∀ (x2 : Int) (x3 : Int) (ms : Nat → Int), K4 x2 x3 ms → qZ X 0 0 [(m0, .inr (5, [.int (qI th), .ref m1, .ref m2, .ref m3, .int (qI sm), .ref m4, .int (qI le), .ref m5, .ref m6, .ref m7, .int (qI tk), .int (qI fr), .int (qI ti), .int (qI fa)])), (m1, qA (E 0) 635 ms), (m2, qA (E 0) 635 ma), (m3, qA (E 0) 3175 mv), (m4, qA (E 0) 140 mt), (m5, qA (E 0) 2 mn), (m6, qA (E 0) 64 ml), (m7, qA (E 0) 49152 mr)] 4 [(0, .ref m0), (1, .int (qI x1)), (2, .int (qI x2)), (3, .int (qI x3))] []) → ∀ x2 : Int, ∀ x3 : Int, ∀ ms : Nat → Int, ∀ K23 : Int → Int → Prop, (∀ (x4 : Int) (x5 : Int), K23 x4 x5 → qZ X 0 0 [(m0, .inr (5, [.int (qI th), .ref m1, .ref m2, .ref m3, .int (qI sm), .ref m4, .int (qI le), .ref m5, .ref m6, .ref m7, .int (qI tk), .int (qI fr), .int (qI ti), .int (qI fa)])), (m1, qA (E 0) 635 ms), (m2, qA (E 0) 635 ma), (m3, qA (E 0) 3175 mv), (m4, qA (E 0) 140 mt), (m5, qA (E 0) 2 mn), (m6, qA (E 0) 64 ml), (m7, qA (E 0) 49152 mr)] 23 [(0, .ref m0), (1, .int (qI x1)), (2, .int (qI x2)), (3, .int (qI x3)), (4, .int (qI x4)), (5, .int (qI x5))] []) → ∀ x5 : Int, ∀ k0 : Int, wp_X5_sortNow_69 Φ K4 K23 x1 x2 x3 x5 k0 ms ml → qZ X 0 0 [(m0, .inr (5, [.int (qI th), .ref m1, .ref m2, .ref m3, .int (qI sm), .ref m4, .int (qI le), .ref m5, .ref m6, .ref m7, .int (qI tk), .int (qI fr), .int (qI ti), .int (qI fa)])), (m1, qA (E 0) 635 ms), (m2, qA (E 0) 635 ma), (m3, qA (E 0) 3175 mv), (m4, qA (E 0) 140 mt), (m5, qA (E 0) 2 mn), (m6, qA (E 0) 64 ml), (m7, qA (E 0) 49152 mr)] 69 [(0, .ref m0), (1, .int (qI x1)), (2, .int (qI x2)), (3, .int (qI x3)), (5, .int (qI x5))] [.int (qI k0)] := by
    intro x1 ml K4 hK4 x2 x3 ms K23 hK23 x5 k0 hw
    unfold wp_X5_sortNow_69 at hw
    refine z_istore C (by decide) rfl dX5_sortNow_69 ?_
    obtain ⟨v1, ev1⟩ : ∃ v1 : Int, v1 = x5 + (1 : Int) := ⟨_, rfl⟩
    replace hw := hw v1 ev1
    refine z_iinc C 5 rfl (by decide) v1 ev1 rfl dX5_sortNow_71 ?_
    refine z_goto (tgt := 23) C (by decide) dX5_sortNow_74 ?_
    refine z_lst (ps := [2, 3, 4, 5, 1, 0]) (lv' := [(0, .ref m0), (1, .int (qI x1)), (2, .int (qI x2)), (3, .int (qI x3)), (4, .int (qI k0)), (5, .int (qI v1))]) (st' := []) rfl rfl ?_
    exact hK23 k0 v1 hw
  have hB23 : ∀ x1 : Int, ∀ ml : Nat → Int, ∀ K4 : Int → Int → (Nat → Int) → Prop, (∀ (x2 : Int) (x3 : Int) (ms : Nat → Int), K4 x2 x3 ms → qZ X 0 0 [(m0, .inr (5, [.int (qI th), .ref m1, .ref m2, .ref m3, .int (qI sm), .ref m4, .int (qI le), .ref m5, .ref m6, .ref m7, .int (qI tk), .int (qI fr), .int (qI ti), .int (qI fa)])), (m1, qA (E 0) 635 ms), (m2, qA (E 0) 635 ma), (m3, qA (E 0) 3175 mv), (m4, qA (E 0) 140 mt), (m5, qA (E 0) 2 mn), (m6, qA (E 0) 64 ml), (m7, qA (E 0) 49152 mr)] 4 [(0, .ref m0), (1, .int (qI x1)), (2, .int (qI x2)), (3, .int (qI x3))] []) → ∀ x2 : Int, ∀ x3 : Int, ∀ ms : Nat → Int, ∀ n8 : Nat, ∀ x4 : Int, ∀ x5 : Int, wp_X5_sortNow_23 Φ K4 x1 x2 x3 ms ml n8 x4 x5 → qZ X 0 0 [(m0, .inr (5, [.int (qI th), .ref m1, .ref m2, .ref m3, .int (qI sm), .ref m4, .int (qI le), .ref m5, .ref m6, .ref m7, .int (qI tk), .int (qI fr), .int (qI ti), .int (qI fa)])), (m1, qA (E 0) 635 ms), (m2, qA (E 0) 635 ma), (m3, qA (E 0) 3175 mv), (m4, qA (E 0) 140 mt), (m5, qA (E 0) 2 mn), (m6, qA (E 0) 64 ml), (m7, qA (E 0) 49152 mr)] 23 [(0, .ref m0), (1, .int (qI x1)), (2, .int (qI x2)), (3, .int (qI x3)), (4, .int (qI x4)), (5, .int (qI x5))] [] := by
    intro x1 ml K4 hK4 x2 x3 ms n8
    induction n8 with
    | zero =>
      intro x4 x5 hw
      exact hw.elim
    | succ n9 ih =>
      intro x4 x5 hw
      unfold wp_X5_sortNow_23 at hw
      refine z_iload C 5 rfl dX5_sortNow_23 ?_
      refine z_aload_n C 0 rfl rfl dX5_sortNow_25 ?_
      refine z_get C iX5_sortNow_X5 0 rfl rfl 1 (by decide) (List.mem_of_getElem? (i := 1) rfl) rfl rfl dX5_sortNow_26 ?_
      refine z_bipush C (by decide +kernel) dX5_sortNow_29 ?_
      refine z_iald C 1 rfl (by decide) hw.1 dX5_sortNow_31 ?_
      replace hw := hw.2
      refine z_name (fun v2 ev2 => ?_)
      replace hw := hw v2 ev2
      refine z_icmp_ge (tgt := 77) C hw.1 (by decide) dX5_sortNow_32 (fun c3 => ?_) (fun c3 => ?_)
      · replace hw := hw.2.1 c3
        refine z_aload_n C 0 rfl rfl dX5_sortNow_77 ?_
        refine z_iload_n C 3 rfl rfl dX5_sortNow_78 ?_
        refine z_iload C 4 rfl dX5_sortNow_79 ?_
        refine z_callVW (n := 2) C (c_X5_changePlaces l D E m0 m1 m2 m3 m4 m5 m6 m7 th sm le tk fr ti fa ms ma mv mt mn ml mr x3 x4 hw) qF0_ok (fun _ _ _ => trivial) gX5_sortNow_X5_changePlaces rfl (by decide +kernel) ⟨(Nat.le_of_ble_eq_true rfl), (Nat.le_of_ble_eq_true rfl)⟩ rfl 0 rfl rfl [0, 1, 2, 3, 4, 5, 6, 7] [] (wr := []) rfl rfl rfl rfl (by decide) [0, 1, 2, 3, 4, 5, 6, 7] rfl (fun u9 => [(m0, .inr (5, [.int (qI th), .ref m1, .ref m2, .ref m3, .int (qI sm), .ref m4, .int (qI le), .ref m5, .ref m6, .ref m7, .int (qI tk), .int (qI fr), .int (qI ti), .int (qI fa)])), (m1, qA (E 0) 635 u9), (m2, qA (E 0) 635 ma), (m3, qA (E 0) 3175 mv), (m4, qA (E 0) 140 mt), (m5, qA (E 0) 2 mn), (m6, qA (E 0) 64 ml), (m7, qA (E 0) 49152 mr)]) (fun _ => rfl) rfl (Nat.le_of_ble_eq_true rfl) dX5_sortNow_81 (fun r4 u9 hw => ?_)
        obtain ⟨g5, rfl⟩ : ∃ z, z = u9 := ⟨_, rfl⟩
        refine z_ws (ws' := [(m0, .inr (5, [.int (qI th), .ref m1, .ref m2, .ref m3, .int (qI sm), .ref m4, .int (qI le), .ref m5, .ref m6, .ref m7, .int (qI tk), .int (qI fr), .int (qI ti), .int (qI fa)])), (m1, qA (E 0) 635 g5), (m2, qA (E 0) 635 ma), (m3, qA (E 0) 3175 mv), (m4, qA (E 0) 140 mt), (m5, qA (E 0) 2 mn), (m6, qA (E 0) 64 ml), (m7, qA (E 0) 49152 mr)]) rfl ?_
        try dsimp only at hw
        show qZ X 0 0 [(m0, .inr (5, [.int (qI th), .ref m1, .ref m2, .ref m3, .int (qI sm), .ref m4, .int (qI le), .ref m5, .ref m6, .ref m7, .int (qI tk), .int (qI fr), .int (qI ti), .int (qI fa)])), (m1, qA (E 0) 635 g5), (m2, qA (E 0) 635 ma), (m3, qA (E 0) 3175 mv), (m4, qA (E 0) 140 mt), (m5, qA (E 0) 2 mn), (m6, qA (E 0) 64 ml), (m7, qA (E 0) 49152 mr)] _ _ []
        refine z_aload_n C 0 rfl rfl dX5_sortNow_84 ?_
        refine z_iload_n C 3 rfl rfl dX5_sortNow_85 ?_
        refine z_callV (n := 1) C (c_X5_spotAt l D E m0 m1 m2 m3 m4 m5 m6 m7 th sm le tk fr ti fa g5 ma mv mt mn ml mr x3 hw) qF0_ok (fun _ _ _ => trivial) gX5_sortNow_X5_spotAt rfl (by decide +kernel) ⟨(Nat.le_of_ble_eq_true rfl), (Nat.le_of_ble_eq_true rfl)⟩ rfl 0 rfl rfl [0, 1, 2, 3, 4, 5, 6, 7] rfl rfl (Nat.le_of_ble_eq_true rfl) dX5_sortNow_86 (fun r6 hw => ?_)
        show qZ X 0 0 [(m0, .inr (5, [.int (qI th), .ref m1, .ref m2, .ref m3, .int (qI sm), .ref m4, .int (qI le), .ref m5, .ref m6, .ref m7, .int (qI tk), .int (qI fr), .int (qI ti), .int (qI fa)])), (m1, qA (E 0) 635 g5), (m2, qA (E 0) 635 ma), (m3, qA (E 0) 3175 mv), (m4, qA (E 0) 140 mt), (m5, qA (E 0) 2 mn), (m6, qA (E 0) 64 ml), (m7, qA (E 0) 49152 mr)] _ _ [.int (qI r6)]
        refine z_istore_n C rfl (by decide) rfl dX5_sortNow_89 ?_
        obtain ⟨v7, ev7⟩ : ∃ v7 : Int, v7 = x3 + (1 : Int) := ⟨_, rfl⟩
        replace hw := hw v7 ev7
        refine z_iinc C 3 rfl (by decide) v7 ev7 rfl dX5_sortNow_90 ?_
        refine z_goto (tgt := 4) C (by decide) dX5_sortNow_93 ?_
        refine z_lst (ps := [2, 3, 1, 0]) (lv' := [(0, .ref m0), (1, .int (qI x1)), (2, .int (qI r6)), (3, .int (qI v7))]) (st' := []) rfl rfl ?_
        exact hK4 r6 v7 g5 hw
      · replace hw := hw.2.2 c3
        refine z_aload_n C 0 rfl rfl dX5_sortNow_35 ?_
        refine z_iload_n C 1 rfl rfl dX5_sortNow_36 ?_
        refine z_aload_n C 0 rfl rfl dX5_sortNow_37 ?_
        refine z_iload C 5 rfl dX5_sortNow_38 ?_
        refine z_callV (n := 1) C (c_X5_spotAt l D E m0 m1 m2 m3 m4 m5 m6 m7 th sm le tk fr ti fa ms ma mv mt mn ml mr x5 hw) qF0_ok (fun _ _ _ => trivial) gX5_sortNow_X5_spotAt rfl (by decide +kernel) ⟨(Nat.le_of_ble_eq_true rfl), (Nat.le_of_ble_eq_true rfl)⟩ rfl 0 rfl rfl [0, 1, 2, 3, 4, 5, 6, 7] rfl rfl (Nat.le_of_ble_eq_true rfl) dX5_sortNow_40 (fun r8 hw => ?_)
        show qZ X 0 0 [(m0, .inr (5, [.int (qI th), .ref m1, .ref m2, .ref m3, .int (qI sm), .ref m4, .int (qI le), .ref m5, .ref m6, .ref m7, .int (qI tk), .int (qI fr), .int (qI ti), .int (qI fa)])), (m1, qA (E 0) 635 ms), (m2, qA (E 0) 635 ma), (m3, qA (E 0) 3175 mv), (m4, qA (E 0) 140 mt), (m5, qA (E 0) 2 mn), (m6, qA (E 0) 64 ml), (m7, qA (E 0) 49152 mr)] _ _ [.int (qI r8), .int (qI x1), .ref m0]
        refine z_iload_n C 2 rfl rfl dX5_sortNow_43 ?_
        refine z_callV (n := 3) C (c_X5_keyOf l D E m0 m1 m2 m3 m4 m5 m6 m7 th sm le tk fr ti fa ms ma mv mt mn ml mr x1 r8 x2 hw) qF0_ok (fun _ _ _ => trivial) gX5_sortNow_X5_keyOf rfl (by decide +kernel) ⟨(Nat.le_of_ble_eq_true rfl), (Nat.le_of_ble_eq_true rfl)⟩ rfl 0 rfl rfl [0, 1, 2, 3, 4, 5, 6, 7] rfl rfl (Nat.le_of_ble_eq_true rfl) dX5_sortNow_44 (fun r9 hw => ?_)
        show qZ X 0 0 [(m0, .inr (5, [.int (qI th), .ref m1, .ref m2, .ref m3, .int (qI sm), .ref m4, .int (qI le), .ref m5, .ref m6, .ref m7, .int (qI tk), .int (qI fr), .int (qI ti), .int (qI fa)])), (m1, qA (E 0) 635 ms), (m2, qA (E 0) 635 ma), (m3, qA (E 0) 3175 mv), (m4, qA (E 0) 140 mt), (m5, qA (E 0) 2 mn), (m6, qA (E 0) 64 ml), (m7, qA (E 0) 49152 mr)] _ _ [.int (qI r9)]
        refine z_aload_n C 0 rfl rfl dX5_sortNow_47 ?_
        refine z_iload_n C 1 rfl rfl dX5_sortNow_48 ?_
        refine z_aload_n C 0 rfl rfl dX5_sortNow_49 ?_
        refine z_iload C 4 rfl dX5_sortNow_50 ?_
        refine z_callV (n := 1) C (c_X5_spotAt l D E m0 m1 m2 m3 m4 m5 m6 m7 th sm le tk fr ti fa ms ma mv mt mn ml mr x4 hw) qF0_ok (fun _ _ _ => trivial) gX5_sortNow_X5_spotAt rfl (by decide +kernel) ⟨(Nat.le_of_ble_eq_true rfl), (Nat.le_of_ble_eq_true rfl)⟩ rfl 0 rfl rfl [0, 1, 2, 3, 4, 5, 6, 7] rfl rfl (Nat.le_of_ble_eq_true rfl) dX5_sortNow_52 (fun r10 hw => ?_)
        show qZ X 0 0 [(m0, .inr (5, [.int (qI th), .ref m1, .ref m2, .ref m3, .int (qI sm), .ref m4, .int (qI le), .ref m5, .ref m6, .ref m7, .int (qI tk), .int (qI fr), .int (qI ti), .int (qI fa)])), (m1, qA (E 0) 635 ms), (m2, qA (E 0) 635 ma), (m3, qA (E 0) 3175 mv), (m4, qA (E 0) 140 mt), (m5, qA (E 0) 2 mn), (m6, qA (E 0) 64 ml), (m7, qA (E 0) 49152 mr)] _ _ [.int (qI r10), .int (qI x1), .ref m0, .int (qI r9)]
        refine z_iload_n C 2 rfl rfl dX5_sortNow_55 ?_
        refine z_callV (n := 3) C (c_X5_keyOf l D E m0 m1 m2 m3 m4 m5 m6 m7 th sm le tk fr ti fa ms ma mv mt mn ml mr x1 r10 x2 hw) qF0_ok (fun _ _ _ => trivial) gX5_sortNow_X5_keyOf rfl (by decide +kernel) ⟨(Nat.le_of_ble_eq_true rfl), (Nat.le_of_ble_eq_true rfl)⟩ rfl 0 rfl rfl [0, 1, 2, 3, 4, 5, 6, 7] rfl rfl (Nat.le_of_ble_eq_true rfl) dX5_sortNow_56 (fun r11 hw => ?_)
        show qZ X 0 0 [(m0, .inr (5, [.int (qI th), .ref m1, .ref m2, .ref m3, .int (qI sm), .ref m4, .int (qI le), .ref m5, .ref m6, .ref m7, .int (qI tk), .int (qI fr), .int (qI ti), .int (qI fa)])), (m1, qA (E 0) 635 ms), (m2, qA (E 0) 635 ma), (m3, qA (E 0) 3175 mv), (m4, qA (E 0) 140 mt), (m5, qA (E 0) 2 mn), (m6, qA (E 0) 64 ml), (m7, qA (E 0) 49152 mr)] _ _ [.int (qI r11), .int (qI r9)]
        refine z_icmp_ge (tgt := 67) C hw.1 (by decide) dX5_sortNow_59 (fun c12 => ?_) (fun c12 => ?_)
        · replace hw := hw.2.1 c12
          refine z_iload C 4 rfl dX5_sortNow_67 ?_
          refine z_lst (ps := [0, 1, 2, 3, 5]) (lv' := [(0, .ref m0), (1, .int (qI x1)), (2, .int (qI x2)), (3, .int (qI x3)), (5, .int (qI x5))]) (st' := [.int (qI x4)]) rfl rfl ?_
          exact hB69 x1 ml _ hK4 x2 x3 ms _ ih x5 x4 hw
        · replace hw := hw.2.2 c12
          refine z_iload C 5 rfl dX5_sortNow_62 ?_
          refine z_goto (tgt := 69) C (by decide) dX5_sortNow_64 ?_
          refine z_lst (ps := [0, 1, 2, 3, 5]) (lv' := [(0, .ref m0), (1, .int (qI x1)), (2, .int (qI x2)), (3, .int (qI x3)), (5, .int (qI x5))]) (st' := [.int (qI x5)]) rfl rfl ?_
          exact hB69 x1 ml _ hK4 x2 x3 ms _ ih x5 x5 hw
  have hB4 : ∀ x1 : Int, ∀ ml : Nat → Int, ∀ n8 : Nat, ∀ x2 : Int, ∀ x3 : Int, ∀ ms : Nat → Int, wp_X5_sortNow_4 Φ  x1 ml n8 x2 x3 ms → qZ X 0 0 [(m0, .inr (5, [.int (qI th), .ref m1, .ref m2, .ref m3, .int (qI sm), .ref m4, .int (qI le), .ref m5, .ref m6, .ref m7, .int (qI tk), .int (qI fr), .int (qI ti), .int (qI fa)])), (m1, qA (E 0) 635 ms), (m2, qA (E 0) 635 ma), (m3, qA (E 0) 3175 mv), (m4, qA (E 0) 140 mt), (m5, qA (E 0) 2 mn), (m6, qA (E 0) 64 ml), (m7, qA (E 0) 49152 mr)] 4 [(0, .ref m0), (1, .int (qI x1)), (2, .int (qI x2)), (3, .int (qI x3))] [] := by
    intro x1 ml n8
    induction n8 with
    | zero =>
      intro x2 x3 ms hw
      exact hw.elim
    | succ n9 ih =>
      intro x2 x3 ms hw
      unfold wp_X5_sortNow_4 at hw
      refine z_iload_n C 3 rfl rfl dX5_sortNow_4 ?_
      refine z_aload_n C 0 rfl rfl dX5_sortNow_5 ?_
      refine z_get C iX5_sortNow_X5 0 rfl rfl 1 (by decide) (List.mem_of_getElem? (i := 1) rfl) rfl rfl dX5_sortNow_6 ?_
      refine z_bipush C (by decide +kernel) dX5_sortNow_9 ?_
      refine z_iald C 1 rfl (by decide) hw.1 dX5_sortNow_11 ?_
      replace hw := hw.2
      refine z_name (fun v13 ev13 => ?_)
      replace hw := hw v13 ev13
      refine z_icmp_ge (tgt := 96) C hw.1 (by decide) dX5_sortNow_12 (fun c14 => ?_) (fun c14 => ?_)
      · replace hw := hw.2.1 c14
        refine z_aload_n C 0 rfl rfl dX5_sortNow_96 ?_
        refine z_callVW (n := 0) C (c_X5_litMany l D E m0 m1 m2 m3 m4 m5 m6 m7 th sm le tk fr ti fa ms ma mv mt mn ml mr  hw) qF0_ok (fun _ _ _ => trivial) gX5_sortNow_X5_litMany rfl (by decide +kernel) ⟨(Nat.le_of_ble_eq_true rfl), (Nat.le_of_ble_eq_true rfl)⟩ rfl 0 rfl rfl [0, 1, 2, 3, 4, 5, 6, 7] [] (wr := []) rfl rfl rfl rfl (by decide) [0, 1, 2, 3, 4, 5, 6, 7] rfl (fun u9 => [(m0, .inr (5, [.int (qI th), .ref m1, .ref m2, .ref m3, .int (qI sm), .ref m4, .int (qI le), .ref m5, .ref m6, .ref m7, .int (qI tk), .int (qI fr), .int (qI ti), .int (qI fa)])), (m1, qA (E 0) 635 ms), (m2, qA (E 0) 635 ma), (m3, qA (E 0) 3175 mv), (m4, qA (E 0) 140 mt), (m5, qA (E 0) 2 mn), (m6, qA (E 0) 64 u9), (m7, qA (E 0) 49152 mr)]) (fun _ => rfl) rfl (Nat.le_of_ble_eq_true rfl) dX5_sortNow_97 (fun r15 u9 hw => ?_)
        obtain ⟨g16, rfl⟩ : ∃ z, z = u9 := ⟨_, rfl⟩
        refine z_ws (ws' := [(m0, .inr (5, [.int (qI th), .ref m1, .ref m2, .ref m3, .int (qI sm), .ref m4, .int (qI le), .ref m5, .ref m6, .ref m7, .int (qI tk), .int (qI fr), .int (qI ti), .int (qI fa)])), (m1, qA (E 0) 635 ms), (m2, qA (E 0) 635 ma), (m3, qA (E 0) 3175 mv), (m4, qA (E 0) 140 mt), (m5, qA (E 0) 2 mn), (m6, qA (E 0) 64 g16), (m7, qA (E 0) 49152 mr)]) rfl ?_
        try dsimp only at hw
        show qZ X 0 0 [(m0, .inr (5, [.int (qI th), .ref m1, .ref m2, .ref m3, .int (qI sm), .ref m4, .int (qI le), .ref m5, .ref m6, .ref m7, .int (qI tk), .int (qI fr), .int (qI ti), .int (qI fa)])), (m1, qA (E 0) 635 ms), (m2, qA (E 0) 635 ma), (m3, qA (E 0) 3175 mv), (m4, qA (E 0) 140 mt), (m5, qA (E 0) 2 mn), (m6, qA (E 0) 64 g16), (m7, qA (E 0) 49152 mr)] _ _ [.int (qI r15)]
        exact hend 100 _ r15 (ms, g16) dX5_sortNow_100 hw
      · replace hw := hw.2.2 c14
        refine z_iload_n C 3 rfl rfl dX5_sortNow_15 ?_
        refine z_istore C (by decide) rfl dX5_sortNow_16 ?_
        refine z_iload_n C 4 rfl rfl dX5_sortNow_18 ?_
        refine z_iconst C dX5_sortNow_19 ?_
        refine z_iadd C dX5_sortNow_20 ?_
        refine z_name (fun v17 ev17 => ?_)
        replace hw := hw v17 ev17
        refine z_istore C (by decide) rfl dX5_sortNow_21 ?_
        refine z_lst (ps := [2, 3, 4, 5, 1, 0]) (lv' := [(0, .ref m0), (1, .int (qI x1)), (2, .int (qI x2)), (3, .int (qI x3)), (4, .int (qI x3)), (5, .int (qI v17))]) (st' := []) rfl rfl ?_
        obtain ⟨n8, hw⟩ := hw
        exact hB23 x1 ml _ ih x2 x3 ms n8 x3 v17 hw
  unfold wp_X5_sortNow at hw
  show qZ X 0 0 [(m0, .inr (5, [.int (qI th), .ref m1, .ref m2, .ref m3, .int (qI sm), .ref m4, .int (qI le), .ref m5, .ref m6, .ref m7, .int (qI tk), .int (qI fr), .int (qI ti), .int (qI fa)])), (m1, qA (E 0) 635 ms), (m2, qA (E 0) 635 ma), (m3, qA (E 0) 3175 mv), (m4, qA (E 0) 140 mt), (m5, qA (E 0) 2 mn), (m6, qA (E 0) 64 ml), (m7, qA (E 0) 49152 mr)] 0 [(0, .ref m0), (1, .int (qI x1))] []
  refine z_iconst C dX5_sortNow_0 ?_
  refine z_istore_n C rfl (by decide) rfl dX5_sortNow_1 ?_
  refine z_iconst C dX5_sortNow_2 ?_
  refine z_istore_n C rfl (by decide) rfl dX5_sortNow_3 ?_
  refine z_lst (ps := [2, 3, 1, 0]) (lv' := [(0, .ref m0), (1, .int (qI x1)), (2, .int (qI (0 : Int))), (3, .int (qI (0 : Int)))]) (st' := []) rfl rfl ?_
  obtain ⟨n8, hw⟩ := hw
  exact hB4 x1 ml n8 (0 : Int) (0 : Int) ms hw
def wp_X5_inPicture_27 (Φ : Int → Prop) (K4 : Int → Int → Prop) (x1 : Int) (x3 : Int) (k0 : Int) (k2 : Int) (ms : Nat → Int) : Prop := ((0 ≤ (k2 + x3) ∧ (k2 + x3) < 635) ∧ (∀ v1 : Int, v1 = ms ((k2 + x3)).toNat → (∀ v2 : Int, v2 = (k0 + v1) → (∀ v3 : Int, v3 = x3 + (1 : Int) → K4 v2 v3))))
def wp_X5_inPicture_4 (Φ : Int → Prop)  (x1 : Int) (ms : Nat → Int) : Nat → Int → Int → Prop
  | 0, _, _ => False
  | n9 + 1, x2, x3 => ((qR x3 ∧ qR (64 : Int)) ∧ ((64 : Int) ≤ x3 → Φ x2) ∧ (¬ ((64 : Int) ≤ x3) → (qR x1 ∧ (¬ x1 = (0 : Int) → wp_X5_inPicture_27 Φ (wp_X5_inPicture_4 Φ  x1 ms n9) x1 x3 x2 (147 : Int) ms) ∧ (¬ (¬ x1 = (0 : Int)) → wp_X5_inPicture_27 Φ (wp_X5_inPicture_4 Φ  x1 ms n9) x1 x3 x2 (83 : Int) ms))))
def wp_X5_inPicture (x1 : Int) (ms : Nat → Int) (Φ : Int → Prop) : Prop := ∃ n : Nat, wp_X5_inPicture_4 Φ  x1 ms n (0 : Int) (0 : Int)
theorem iX5_inPicture_X5 : ∀ w ∈ wsX50, w ∈ wsX5_inPicture := fun w h => List.mem_cons_of_mem _ (List.mem_append_right _ (h))
set_option maxHeartbeats 4000000 in
set_option maxRecDepth 100000 in
theorem c_X5_inPicture (l : Launch) (D : va_G) (E : Nat → ClassId) (m0 m1 m2 m3 m4 m5 m6 m7 : Nat) (th : Int) (sm : Int) (le : Int) (tk : Int) (fr : Int) (ti : Int) (fa : Int) (ms : Nat → Int) (ma : Nat → Int) (mv : Nat → Int) (mt : Nat → Int) (mn : Nat → Int) (ml : Nat → Int) (mr : Nat → Int) (x1 : Int) {Φ : Int → Prop} (hw : wp_X5_inPicture x1 ms Φ) : qRO l D E qF0 yX5_inPicture wsX5_inPicture 0 0 [(m0, .inr (5, [.int (qI th), .ref m1, .ref m2, .ref m3, .int (qI sm), .ref m4, .int (qI le), .ref m5, .ref m6, .ref m7, .int (qI tk), .int (qI fr), .int (qI ti), .int (qI fa)])), (m1, qA (E 0) 635 ms), (m2, qA (E 0) 635 ma), (m3, qA (E 0) 3175 mv), (m4, qA (E 0) 140 mt), (m5, qA (E 0) 2 mn), (m6, qA (E 0) 64 ml), (m7, qA (E 0) 49152 mr)] [.ref m0, .int (qI x1)] qeI (fun r => Φ r) := by
  refine qRO_int (nL := 4) (own := RX5) qF0_ok (by decide) rfl rfl (Nat.le_of_ble_eq_true rfl) (fun X C hend => ?_)
  have hB27 : ∀ x1 : Int, ∀ K4 : Int → Int → Prop, (∀ (x2 : Int) (x3 : Int), K4 x2 x3 → qZ X 0 0 [(m0, .inr (5, [.int (qI th), .ref m1, .ref m2, .ref m3, .int (qI sm), .ref m4, .int (qI le), .ref m5, .ref m6, .ref m7, .int (qI tk), .int (qI fr), .int (qI ti), .int (qI fa)])), (m1, qA (E 0) 635 ms), (m2, qA (E 0) 635 ma), (m3, qA (E 0) 3175 mv), (m4, qA (E 0) 140 mt), (m5, qA (E 0) 2 mn), (m6, qA (E 0) 64 ml), (m7, qA (E 0) 49152 mr)] 4 [(0, .ref m0), (1, .int (qI x1)), (2, .int (qI x2)), (3, .int (qI x3))] []) → ∀ x3 : Int, ∀ k0 : Int, ∀ k2 : Int, wp_X5_inPicture_27 Φ K4 x1 x3 k0 k2 ms → qZ X 0 0 [(m0, .inr (5, [.int (qI th), .ref m1, .ref m2, .ref m3, .int (qI sm), .ref m4, .int (qI le), .ref m5, .ref m6, .ref m7, .int (qI tk), .int (qI fr), .int (qI ti), .int (qI fa)])), (m1, qA (E 0) 635 ms), (m2, qA (E 0) 635 ma), (m3, qA (E 0) 3175 mv), (m4, qA (E 0) 140 mt), (m5, qA (E 0) 2 mn), (m6, qA (E 0) 64 ml), (m7, qA (E 0) 49152 mr)] 27 [(0, .ref m0), (1, .int (qI x1)), (3, .int (qI x3))] [.int (qI k2), .ref m1, .int (qI k0)] := by
    intro x1 K4 hK4 x3 k0 k2 hw
    unfold wp_X5_inPicture_27 at hw
    refine z_iload_n C 2 rfl rfl dX5_inPicture_27 ?_
    refine z_iadd C dX5_inPicture_28 ?_
    refine z_iald C 1 rfl (by decide) hw.1 dX5_inPicture_29 ?_
    replace hw := hw.2
    refine z_name (fun v1 ev1 => ?_)
    replace hw := hw v1 ev1
    refine z_iadd C dX5_inPicture_30 ?_
    refine z_name (fun v2 ev2 => ?_)
    replace hw := hw v2 ev2
    refine z_istore_n C rfl (by decide) rfl dX5_inPicture_31 ?_
    obtain ⟨v3, ev3⟩ : ∃ v3 : Int, v3 = x3 + (1 : Int) := ⟨_, rfl⟩
    replace hw := hw v3 ev3
    refine z_iinc C 3 rfl (by decide) v3 ev3 rfl dX5_inPicture_32 ?_
    refine z_goto (tgt := 4) C (by decide) dX5_inPicture_35 ?_
    refine z_lst (ps := [2, 3, 1, 0]) (lv' := [(0, .ref m0), (1, .int (qI x1)), (2, .int (qI v2)), (3, .int (qI v3))]) (st' := []) rfl rfl ?_
    exact hK4 v2 v3 hw
  have hB4 : ∀ x1 : Int, ∀ n8 : Nat, ∀ x2 : Int, ∀ x3 : Int, wp_X5_inPicture_4 Φ  x1 ms n8 x2 x3 → qZ X 0 0 [(m0, .inr (5, [.int (qI th), .ref m1, .ref m2, .ref m3, .int (qI sm), .ref m4, .int (qI le), .ref m5, .ref m6, .ref m7, .int (qI tk), .int (qI fr), .int (qI ti), .int (qI fa)])), (m1, qA (E 0) 635 ms), (m2, qA (E 0) 635 ma), (m3, qA (E 0) 3175 mv), (m4, qA (E 0) 140 mt), (m5, qA (E 0) 2 mn), (m6, qA (E 0) 64 ml), (m7, qA (E 0) 49152 mr)] 4 [(0, .ref m0), (1, .int (qI x1)), (2, .int (qI x2)), (3, .int (qI x3))] [] := by
    intro x1 n8
    induction n8 with
    | zero =>
      intro x2 x3 hw
      exact hw.elim
    | succ n9 ih =>
      intro x2 x3 hw
      unfold wp_X5_inPicture_4 at hw
      refine z_iload_n C 3 rfl rfl dX5_inPicture_4 ?_
      refine z_bipush C (by decide +kernel) dX5_inPicture_5 ?_
      refine z_icmp_ge (tgt := 38) C hw.1 (by decide) dX5_inPicture_7 (fun c4 => ?_) (fun c4 => ?_)
      · replace hw := hw.2.1 c4
        refine z_iload_n C 2 rfl rfl dX5_inPicture_38 ?_
        exact hend 39 _ x2 dX5_inPicture_39 hw
      · replace hw := hw.2.2 c4
        refine z_iload_n C 2 rfl rfl dX5_inPicture_10 ?_
        refine z_aload_n C 0 rfl rfl dX5_inPicture_11 ?_
        refine z_get C iX5_inPicture_X5 0 rfl rfl 1 (by decide) (List.mem_of_getElem? (i := 1) rfl) rfl rfl dX5_inPicture_12 ?_
        refine z_iload_n C 1 rfl rfl dX5_inPicture_15 ?_
        refine z_if_ne (tgt := 24) C hw.1 (by decide) dX5_inPicture_16 (fun c5 => ?_) (fun c5 => ?_)
        · replace hw := hw.2.1 c5
          refine z_sipush C (by decide +kernel) dX5_inPicture_24 ?_
          refine z_lst (ps := [0, 1, 3]) (lv' := [(0, .ref m0), (1, .int (qI x1)), (3, .int (qI x3))]) (st' := [.int (qI (147 : Int)), .ref m1, .int (qI x2)]) rfl rfl ?_
          exact hB27 x1 _ ih x3 x2 (147 : Int) hw
        · replace hw := hw.2.2 c5
          refine z_bipush C (by decide +kernel) dX5_inPicture_19 ?_
          refine z_goto (tgt := 27) C (by decide) dX5_inPicture_21 ?_
          refine z_lst (ps := [0, 1, 3]) (lv' := [(0, .ref m0), (1, .int (qI x1)), (3, .int (qI x3))]) (st' := [.int (qI (83 : Int)), .ref m1, .int (qI x2)]) rfl rfl ?_
          exact hB27 x1 _ ih x3 x2 (83 : Int) hw
  unfold wp_X5_inPicture at hw
  show qZ X 0 0 [(m0, .inr (5, [.int (qI th), .ref m1, .ref m2, .ref m3, .int (qI sm), .ref m4, .int (qI le), .ref m5, .ref m6, .ref m7, .int (qI tk), .int (qI fr), .int (qI ti), .int (qI fa)])), (m1, qA (E 0) 635 ms), (m2, qA (E 0) 635 ma), (m3, qA (E 0) 3175 mv), (m4, qA (E 0) 140 mt), (m5, qA (E 0) 2 mn), (m6, qA (E 0) 64 ml), (m7, qA (E 0) 49152 mr)] 0 [(0, .ref m0), (1, .int (qI x1))] []
  refine z_iconst C dX5_inPicture_0 ?_
  refine z_istore_n C rfl (by decide) rfl dX5_inPicture_1 ?_
  refine z_iconst C dX5_inPicture_2 ?_
  refine z_istore_n C rfl (by decide) rfl dX5_inPicture_3 ?_
  refine z_lst (ps := [2, 3, 1, 0]) (lv' := [(0, .ref m0), (1, .int (qI x1)), (2, .int (qI (0 : Int))), (3, .int (qI (0 : Int)))]) (st' := []) rfl rfl ?_
  obtain ⟨n8, hw⟩ := hw
  exact hB4 x1 n8 (0 : Int) (0 : Int) hw
def wp_X5_drawNow_16 (Φ : Int → (Nat → Int) → Prop)  (x1 : Int) (x2 : Int) (x3 : Int) (k1 : Int) (ms : Nat → Int) : Prop := ((0 ≤ (k1 + x2) ∧ (k1 + x2) < 635) ∧ ∀ g1 : Nat → Int, g1 = qU ms ((k1 + x2)).toNat x3 → wp_X5_inPicture x1 g1 (fun (r2 : Int) => Φ r2 g1))
def wp_X5_drawNow (x1 : Int) (x2 : Int) (x3 : Int) (ms : Nat → Int) (Φ : Int → (Nat → Int) → Prop) : Prop := (qR x1 ∧ (¬ x1 = (0 : Int) → wp_X5_drawNow_16 Φ  x1 x2 x3 (147 : Int) ms) ∧ (¬ (¬ x1 = (0 : Int)) → wp_X5_drawNow_16 Φ  x1 x2 x3 (83 : Int) ms))
theorem iX5_drawNow_X5 : ∀ w ∈ wsX50, w ∈ wsX5_drawNow := fun w h => List.mem_cons_of_mem _ (List.mem_append_right _ (h))
set_option maxHeartbeats 4000000 in
set_option maxRecDepth 100000 in
theorem c_X5_drawNow (l : Launch) (D : va_G) (E : Nat → ClassId) (m0 m1 m2 m3 m4 m5 m6 m7 : Nat) (th : Int) (sm : Int) (le : Int) (tk : Int) (fr : Int) (ti : Int) (fa : Int) (ms : Nat → Int) (ma : Nat → Int) (mv : Nat → Int) (mt : Nat → Int) (mn : Nat → Int) (ml : Nat → Int) (mr : Nat → Int) (x1 : Int) (x2 : Int) (x3 : Int) {Φ : Int → (Nat → Int) → Prop} (hw : wp_X5_drawNow x1 x2 x3 ms Φ) : qRW (σ := (Nat → Int)) l D E qF0 yX5_drawNow wsX5_drawNow 1 23 [(m0, .inr (5, [.int (qI th), .ref m1, .ref m2, .ref m3, .int (qI sm), .ref m4, .int (qI le), .ref m5, .ref m6, .ref m7, .int (qI tk), .int (qI fr), .int (qI ti), .int (qI fa)])), (m1, qA (E 0) 635 ms), (m2, qA (E 0) 635 ma), (m3, qA (E 0) 3175 mv), (m4, qA (E 0) 140 mt), (m5, qA (E 0) 2 mn), (m6, qA (E 0) 64 ml), (m7, qA (E 0) 49152 mr)] [.ref m0, .int (qI x1), .int (qI x2), .int (qI x3)] qeI (fun u => [(m0, .inr (5, [.int (qI th), .ref m1, .ref m2, .ref m3, .int (qI sm), .ref m4, .int (qI le), .ref m5, .ref m6, .ref m7, .int (qI tk), .int (qI fr), .int (qI ti), .int (qI fa)])), (m1, qA (E 0) 635 u), (m2, qA (E 0) 635 ma), (m3, qA (E 0) 3175 mv), (m4, qA (E 0) 140 mt), (m5, qA (E 0) 2 mn), (m6, qA (E 0) 64 ml), (m7, qA (E 0) 49152 mr)]) (fun r u => Φ r u) := by
  refine qRW_int (nL := 4) (own := RX5) qF0_ok (by decide) rfl rfl (Nat.le_of_ble_eq_true rfl) (fun X C hend => ?_)
  have hB16 : ∀ x1 : Int, ∀ x2 : Int, ∀ x3 : Int, ∀ k1 : Int, ∀ ms : Nat → Int, wp_X5_drawNow_16 Φ  x1 x2 x3 k1 ms → qZ X 0 0 [(m0, .inr (5, [.int (qI th), .ref m1, .ref m2, .ref m3, .int (qI sm), .ref m4, .int (qI le), .ref m5, .ref m6, .ref m7, .int (qI tk), .int (qI fr), .int (qI ti), .int (qI fa)])), (m1, qA (E 0) 635 ms), (m2, qA (E 0) 635 ma), (m3, qA (E 0) 3175 mv), (m4, qA (E 0) 140 mt), (m5, qA (E 0) 2 mn), (m6, qA (E 0) 64 ml), (m7, qA (E 0) 49152 mr)] 16 [(0, .ref m0), (1, .int (qI x1)), (2, .int (qI x2)), (3, .int (qI x3))] [.int (qI k1), .ref m1] := by
    intro x1 x2 x3 k1 ms hw
    unfold wp_X5_drawNow_16 at hw
    refine z_iload_n C 2 rfl rfl dX5_drawNow_16 ?_
    refine z_iadd C dX5_drawNow_17 ?_
    refine z_iload_n C 3 rfl rfl dX5_drawNow_18 ?_
    refine z_iast C 1 rfl (by decide) hw.1 (fun g1 => [(m0, .inr (5, [.int (qI th), .ref m1, .ref m2, .ref m3, .int (qI sm), .ref m4, .int (qI le), .ref m5, .ref m6, .ref m7, .int (qI tk), .int (qI fr), .int (qI ti), .int (qI fa)])), (m1, qA (E 0) 635 g1), (m2, qA (E 0) 635 ma), (m3, qA (E 0) 3175 mv), (m4, qA (E 0) 140 mt), (m5, qA (E 0) 2 mn), (m6, qA (E 0) 64 ml), (m7, qA (E 0) 49152 mr)]) (fun _ => rfl) dX5_drawNow_19 (fun g1 eg1 => ?_)
    replace hw := hw.2 g1 eg1
    refine z_aload_n C 0 rfl rfl dX5_drawNow_20 ?_
    refine z_iload_n C 1 rfl rfl dX5_drawNow_21 ?_
    refine z_callV (n := 1) C (c_X5_inPicture l D E m0 m1 m2 m3 m4 m5 m6 m7 th sm le tk fr ti fa g1 ma mv mt mn ml mr x1 hw) qF0_ok (fun _ _ _ => trivial) gX5_drawNow_X5_inPicture rfl (by decide +kernel) ⟨(Nat.le_of_ble_eq_true rfl), (Nat.le_of_ble_eq_true rfl)⟩ rfl 0 rfl rfl [0, 1, 2, 3, 4, 5, 6, 7] rfl rfl (Nat.le_of_ble_eq_true rfl) dX5_drawNow_22 (fun r2 hw => ?_)
    show qZ X 0 0 [(m0, .inr (5, [.int (qI th), .ref m1, .ref m2, .ref m3, .int (qI sm), .ref m4, .int (qI le), .ref m5, .ref m6, .ref m7, .int (qI tk), .int (qI fr), .int (qI ti), .int (qI fa)])), (m1, qA (E 0) 635 g1), (m2, qA (E 0) 635 ma), (m3, qA (E 0) 3175 mv), (m4, qA (E 0) 140 mt), (m5, qA (E 0) 2 mn), (m6, qA (E 0) 64 ml), (m7, qA (E 0) 49152 mr)] _ _ [.int (qI r2)]
    exact hend 25 _ r2 g1 dX5_drawNow_25 hw
  unfold wp_X5_drawNow at hw
  show qZ X 0 0 [(m0, .inr (5, [.int (qI th), .ref m1, .ref m2, .ref m3, .int (qI sm), .ref m4, .int (qI le), .ref m5, .ref m6, .ref m7, .int (qI tk), .int (qI fr), .int (qI ti), .int (qI fa)])), (m1, qA (E 0) 635 ms), (m2, qA (E 0) 635 ma), (m3, qA (E 0) 3175 mv), (m4, qA (E 0) 140 mt), (m5, qA (E 0) 2 mn), (m6, qA (E 0) 64 ml), (m7, qA (E 0) 49152 mr)] 0 [(0, .ref m0), (1, .int (qI x1)), (2, .int (qI x2)), (3, .int (qI x3))] []
  refine z_aload_n C 0 rfl rfl dX5_drawNow_0 ?_
  refine z_get C iX5_drawNow_X5 0 rfl rfl 1 (by decide) (List.mem_of_getElem? (i := 1) rfl) rfl rfl dX5_drawNow_1 ?_
  refine z_iload_n C 1 rfl rfl dX5_drawNow_4 ?_
  refine z_if_ne (tgt := 13) C hw.1 (by decide) dX5_drawNow_5 (fun c3 => ?_) (fun c3 => ?_)
  · replace hw := hw.2.1 c3
    refine z_sipush C (by decide +kernel) dX5_drawNow_13 ?_
    refine z_lst (ps := [0, 1, 2, 3]) (lv' := [(0, .ref m0), (1, .int (qI x1)), (2, .int (qI x2)), (3, .int (qI x3))]) (st' := [.int (qI (147 : Int)), .ref m1]) rfl rfl ?_
    exact hB16 x1 x2 x3 (147 : Int) ms hw
  · replace hw := hw.2.2 c3
    refine z_bipush C (by decide +kernel) dX5_drawNow_8 ?_
    refine z_goto (tgt := 16) C (by decide) dX5_drawNow_10 ?_
    refine z_lst (ps := [0, 1, 2, 3]) (lv' := [(0, .ref m0), (1, .int (qI x1)), (2, .int (qI x2)), (3, .int (qI x3))]) (st' := [.int (qI (83 : Int)), .ref m1]) rfl rfl ?_
    exact hB16 x1 x2 x3 (83 : Int) ms hw
def wp_X5_slotAt (x0 : Int)  (Φ : Int → Prop) : Prop := Φ ((211 : Int) + ((212 : Int) * x0))
set_option maxHeartbeats 4000000 in
set_option maxRecDepth 100000 in
theorem c_X5_slotAt (l : Launch) (D : va_G) (E : Nat → ClassId)   (x0 : Int) {Φ : Int → Prop} (hw : wp_X5_slotAt x0  Φ) : qRO l D E qF0 yX5_slotAt wsX5_slotAt 0 0 [] [.int (qI x0)] qeI (fun r => Φ r) := by
  refine qRO_int (nL := 1) (own := RX5) qF0_ok (by decide) rfl rfl (Nat.le_of_ble_eq_true rfl) (fun X C hend => ?_)
  unfold wp_X5_slotAt at hw
  show qZ X 0 0 [] 0 [(0, .int (qI x0))] []
  refine z_sipush C (by decide +kernel) dX5_slotAt_0 ?_
  refine z_sipush C (by decide +kernel) dX5_slotAt_3 ?_
  refine z_iload_n C 0 rfl rfl dX5_slotAt_6 ?_
  refine z_imul C dX5_slotAt_7 ?_
  refine z_iadd C dX5_slotAt_8 ?_
  exact hend 9 _ ((211 : Int) + ((212 : Int) * x0)) dX5_slotAt_9 hw
