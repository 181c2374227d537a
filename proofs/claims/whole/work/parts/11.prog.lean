def wp_X0_size  (tl : Int) (Φ : Int → Prop) : Prop := Φ tl
theorem iX0_size_X0 : ∀ w ∈ wsX00, w ∈ wsX0_size := fun w h => List.mem_cons_of_mem _ (List.mem_append_right _ (h))
set_option maxHeartbeats 4000000 in
set_option maxRecDepth 100000 in
theorem c_X0_size (l : Launch) (D : va_G) (E : Nat → ClassId) (p0 p1 p2 : Nat) (tl : Int) (pp : Int) (tx : Nat → Int) (nu : Nat → Int)  {Φ : Int → Prop} (hw : wp_X0_size  tl Φ) : qRO l D E qF0 yX0_size wsX0_size 0 0 [(p0, .inr (0, [.ref p1, .int (qI tl), .int (qI pp), .ref p2])), (p1, qA (E 3) 140 tx), (p2, qA (E 0) 2 nu)] [.ref p0] qeI (fun r => Φ r) := by
  refine qRO_int (nL := 1) (own := RX0) qF0_ok (by decide) rfl rfl (Nat.le_of_ble_eq_true rfl) (fun X C hend => ?_)
  unfold wp_X0_size at hw
  show qZ X 0 0 [(p0, .inr (0, [.ref p1, .int (qI tl), .int (qI pp), .ref p2])), (p1, qA (E 3) 140 tx), (p2, qA (E 0) 2 nu)] 0 [(0, .ref p0)] []
  refine z_aload_n C 0 rfl rfl dX0_size_0 ?_
  refine z_get C iX0_size_X0 0 rfl rfl 1 (by decide) (List.mem_of_getElem? (i := 1) rfl) rfl rfl dX0_size_1 ?_
  exact hend 4 _ tl dX0_size_4 hw
def wp_X0_addCharacter_12 (Φ : Int → Int → (Nat → Int) → Prop)  (tl : Int) (tx : Nat → Int) : Prop := Φ (-1 : Int) tl tx
def wp_X0_addCharacter (x1 : Int) (tl : Int) (tx : Nat → Int) (Φ : Int → Int → (Nat → Int) → Prop) : Prop := ((qR x1 ∧ qR (1 : Int)) ∧ (x1 < (1 : Int) → wp_X0_addCharacter_12 Φ  tl tx) ∧ (¬ (x1 < (1 : Int)) → ((qR x1 ∧ qR (255 : Int)) ∧ (x1 ≤ (255 : Int) → ((qR tl ∧ qR (140 : Int)) ∧ (tl < (140 : Int) → ((0 ≤ x1 ∧ x1 < 65536) ∧ ((0 ≤ tl ∧ tl < 140) ∧ (0 ≤ x1 ∧ x1 < 65536) ∧ ∀ g4 : Nat → Int, g4 = qU tx (tl).toNat x1 → (∀ v5 : Int, v5 = (tl + (1 : Int)) → Φ v5 v5 g4)))) ∧ (¬ (tl < (140 : Int)) → Φ (-3 : Int) tl tx))) ∧ (¬ (x1 ≤ (255 : Int)) → wp_X0_addCharacter_12 Φ  tl tx))))
theorem iX0_addCharacter_X0 : ∀ w ∈ wsX00, w ∈ wsX0_addCharacter := fun w h => List.mem_cons_of_mem _ (List.mem_append_right _ (h))
set_option maxHeartbeats 4000000 in
set_option maxRecDepth 100000 in
theorem c_X0_addCharacter (l : Launch) (D : va_G) (E : Nat → ClassId) (p0 p1 p2 : Nat) (tl : Int) (pp : Int) (tx : Nat → Int) (nu : Nat → Int) (x1 : Int) {Φ : Int → Int → (Nat → Int) → Prop} (hw : wp_X0_addCharacter x1 tl tx Φ) : qRW (σ := (Int) × (Nat → Int)) l D E qF0 yX0_addCharacter wsX0_addCharacter 0 0 [(p0, .inr (0, [.ref p1, .int (qI tl), .int (qI pp), .ref p2])), (p1, qA (E 3) 140 tx), (p2, qA (E 0) 2 nu)] [.ref p0, .int (qI x1)] qeI (fun u => [(p0, .inr (0, [.ref p1, .int (qI u.1), .int (qI pp), .ref p2])), (p1, qA (E 3) 140 u.2), (p2, qA (E 0) 2 nu)]) (fun r u => Φ r u.1 u.2) := by
  refine qRW_int (nL := 2) (own := RX0) qF0_ok (by decide) rfl rfl (Nat.le_of_ble_eq_true rfl) (fun X C hend => ?_)
  have hB12 : ∀ tl : Int, ∀ tx : Nat → Int, wp_X0_addCharacter_12 Φ  tl tx → qZ X 0 0 [(p0, .inr (0, [.ref p1, .int (qI tl), .int (qI pp), .ref p2])), (p1, qA (E 3) 140 tx), (p2, qA (E 0) 2 nu)] 12 [] [] := by
    intro tl tx hw
    unfold wp_X0_addCharacter_12 at hw
    refine z_iconst C dX0_addCharacter_12 ?_
    exact hend 13 _ (-1 : Int) (tl, tx) dX0_addCharacter_13 hw
  unfold wp_X0_addCharacter at hw
  show qZ X 0 0 [(p0, .inr (0, [.ref p1, .int (qI tl), .int (qI pp), .ref p2])), (p1, qA (E 3) 140 tx), (p2, qA (E 0) 2 nu)] 0 [(0, .ref p0), (1, .int (qI x1))] []
  refine z_iload_n C 1 rfl rfl dX0_addCharacter_0 ?_
  refine z_iconst C dX0_addCharacter_1 ?_
  refine z_icmp_lt (tgt := 12) C hw.1 (by decide) dX0_addCharacter_2 (fun c1 => ?_) (fun c1 => ?_)
  · replace hw := hw.2.1 c1
    refine z_lst (ps := []) (lv' := []) (st' := []) rfl rfl ?_
    exact hB12 tl tx hw
  · replace hw := hw.2.2 c1
    refine z_iload_n C 1 rfl rfl dX0_addCharacter_5 ?_
    refine z_sipush C (by decide +kernel) dX0_addCharacter_6 ?_
    refine z_icmp_le (tgt := 14) C hw.1 (by decide) dX0_addCharacter_9 (fun c2 => ?_) (fun c2 => ?_)
    · replace hw := hw.2.1 c2
      refine z_aload_n C 0 rfl rfl dX0_addCharacter_14 ?_
      refine z_get C iX0_addCharacter_X0 0 rfl rfl 1 (by decide) (List.mem_of_getElem? (i := 1) rfl) rfl rfl dX0_addCharacter_15 ?_
      refine z_sipush C (by decide +kernel) dX0_addCharacter_18 ?_
      refine z_icmp_lt (tgt := 27) C hw.1 (by decide) dX0_addCharacter_21 (fun c3 => ?_) (fun c3 => ?_)
      · replace hw := hw.2.1 c3
        refine z_aload_n C 0 rfl rfl dX0_addCharacter_27 ?_
        refine z_get C iX0_addCharacter_X0 0 rfl rfl 0 (by decide) (List.mem_of_getElem? (i := 2) rfl) rfl rfl dX0_addCharacter_28 ?_
        refine z_aload_n C 0 rfl rfl dX0_addCharacter_31 ?_
        refine z_get C iX0_addCharacter_X0 0 rfl rfl 1 (by decide) (List.mem_of_getElem? (i := 1) rfl) rfl rfl dX0_addCharacter_32 ?_
        refine z_iload_n C 1 rfl rfl dX0_addCharacter_35 ?_
        refine z_i2c C hw.1 dX0_addCharacter_36 ?_
        replace hw := hw.2
        refine z_cast C 1 rfl (by decide) hw.1 hw.2.1 (fun g4 => [(p0, .inr (0, [.ref p1, .int (qI tl), .int (qI pp), .ref p2])), (p1, qA (E 3) 140 g4), (p2, qA (E 0) 2 nu)]) (fun _ => rfl) dX0_addCharacter_37 (fun g4 eg4 => ?_)
        replace hw := hw.2.2 g4 eg4
        refine z_aload_n C 0 rfl rfl dX0_addCharacter_38 ?_
        refine z_dup C rfl dX0_addCharacter_39 ?_
        refine z_get C iX0_addCharacter_X0 0 rfl rfl 1 (by decide) (List.mem_of_getElem? (i := 1) rfl) rfl rfl dX0_addCharacter_40 ?_
        refine z_iconst C dX0_addCharacter_43 ?_
        refine z_iadd C dX0_addCharacter_44 ?_
        refine z_name (fun v5 ev5 => ?_)
        replace hw := hw v5 ev5
        refine z_put (ty := .int) (ws' := [(p0, .inr (0, [.ref p1, .int (qI v5), .int (qI pp), .ref p2])), (p1, qA (E 3) 140 g4), (p2, qA (E 0) 2 nu)]) C iX0_addCharacter_X0 tyX0 tyX0_ok nmX0 0 rfl rfl 1 (by decide) (List.mem_of_getElem? (i := 1) rfl) rfl rfl (by decide +kernel) rfl rfl (Nat.le_of_ble_eq_true rfl) rfl dX0_addCharacter_45 ?_
        refine z_aload_n C 0 rfl rfl dX0_addCharacter_48 ?_
        refine z_get C iX0_addCharacter_X0 0 rfl rfl 1 (by decide) (List.mem_of_getElem? (i := 1) rfl) rfl rfl dX0_addCharacter_49 ?_
        exact hend 52 _ v5 (v5, g4) dX0_addCharacter_52 hw
      · replace hw := hw.2.2 c3
        refine z_bipush C (by decide +kernel) dX0_addCharacter_24 ?_
        exact hend 26 _ (-3 : Int) (tl, tx) dX0_addCharacter_26 hw
    · replace hw := hw.2.2 c2
      refine z_lst (ps := []) (lv' := []) (st' := []) rfl rfl ?_
      exact hB12 tl tx hw
def wp_X0_empty  (tl : Int) (Φ : Int → Int → Prop) : Prop := Φ tl (0 : Int)
theorem iX0_empty_X0 : ∀ w ∈ wsX00, w ∈ wsX0_empty := fun w h => List.mem_cons_of_mem _ (List.mem_append_right _ (h))
set_option maxHeartbeats 4000000 in
set_option maxRecDepth 100000 in
theorem c_X0_empty (l : Launch) (D : va_G) (E : Nat → ClassId) (p0 p1 p2 : Nat) (tl : Int) (pp : Int) (tx : Nat → Int) (nu : Nat → Int)  {Φ : Int → Int → Prop} (hw : wp_X0_empty  tl Φ) : qRW (σ := (Int)) l D E qF0 yX0_empty wsX0_empty 0 0 [(p0, .inr (0, [.ref p1, .int (qI tl), .int (qI pp), .ref p2])), (p1, qA (E 3) 140 tx), (p2, qA (E 0) 2 nu)] [.ref p0] qeI (fun u => [(p0, .inr (0, [.ref p1, .int (qI u), .int (qI pp), .ref p2])), (p1, qA (E 3) 140 tx), (p2, qA (E 0) 2 nu)]) (fun r u => Φ r u) := by
  refine qRW_int (nL := 2) (own := RX0) qF0_ok (by decide) rfl rfl (Nat.le_of_ble_eq_true rfl) (fun X C hend => ?_)
  unfold wp_X0_empty at hw
  show qZ X 0 0 [(p0, .inr (0, [.ref p1, .int (qI tl), .int (qI pp), .ref p2])), (p1, qA (E 3) 140 tx), (p2, qA (E 0) 2 nu)] 0 [(0, .ref p0)] []
  refine z_aload_n C 0 rfl rfl dX0_empty_0 ?_
  refine z_get C iX0_empty_X0 0 rfl rfl 1 (by decide) (List.mem_of_getElem? (i := 1) rfl) rfl rfl dX0_empty_1 ?_
  refine z_istore_n C rfl (by decide) rfl dX0_empty_4 ?_
  refine z_aload_n C 1 rfl rfl dX0_empty_5 ?_
  refine z_iconst C dX0_empty_6 ?_
  refine z_put (ty := .int) (ws' := [(p0, .inr (0, [.ref p1, .int (qI (0 : Int)), .int (qI pp), .ref p2])), (p1, qA (E 3) 140 tx), (p2, qA (E 0) 2 nu)]) C iX0_empty_X0 tyX0 tyX0_ok nmX0 0 rfl rfl 1 (by decide) (List.mem_of_getElem? (i := 1) rfl) rfl rfl (by decide +kernel) rfl rfl (Nat.le_of_ble_eq_true rfl) rfl dX0_empty_7 ?_
  refine z_iload_n C 0 rfl rfl dX0_empty_10 ?_
  exact hend 11 _ tl (0 : Int) dX0_empty_11 hw
def wp_X0_moveTo_43 (Φ : Int → Prop)  (pp : Int) : Prop := Φ pp
def wp_X0_moveTo_5 (Φ : Int → Prop)  (tl : Int) (tx : Nat → Int) : Nat → Int → Prop
  | 0, _ => False
  | n9 + 1, pp => ((qR pp ∧ qR tl) ∧ (tl ≤ pp → wp_X0_moveTo_43 Φ  pp) ∧ (¬ (tl ≤ pp) → ((0 ≤ pp ∧ pp < 140) ∧ (∀ v2 : Int, v2 = tx (pp).toNat → ((qR v2 ∧ qR (32 : Int)) ∧ (¬ v2 = (32 : Int) → wp_X0_moveTo_43 Φ  pp) ∧ (¬ (¬ v2 = (32 : Int)) → (∀ v4 : Int, v4 = (pp + (1 : Int)) → wp_X0_moveTo_5 Φ  tl tx n9 v4)))))))
def wp_X0_moveTo (x1 : Int) (tl : Int) (pp : Int) (tx : Nat → Int) (Φ : Int → Prop) : Prop := ∃ n : Nat, wp_X0_moveTo_5 Φ  tl tx n x1
theorem iX0_moveTo_X0 : ∀ w ∈ wsX00, w ∈ wsX0_moveTo := fun w h => List.mem_cons_of_mem _ (List.mem_append_right _ (h))
set_option maxHeartbeats 4000000 in
set_option maxRecDepth 100000 in
theorem c_X0_moveTo (l : Launch) (D : va_G) (E : Nat → ClassId) (p0 p1 p2 : Nat) (tl : Int) (pp : Int) (tx : Nat → Int) (nu : Nat → Int) (x1 : Int) {Φ : Int → Prop} (hw : wp_X0_moveTo x1 tl pp tx Φ) : qRW (σ := (Int)) l D E qF0 yX0_moveTo wsX0_moveTo 0 0 [(p0, .inr (0, [.ref p1, .int (qI tl), .int (qI pp), .ref p2])), (p1, qA (E 3) 140 tx), (p2, qA (E 0) 2 nu)] [.ref p0, .int (qI x1)] qeV (fun u => [(p0, .inr (0, [.ref p1, .int (qI tl), .int (qI u), .ref p2])), (p1, qA (E 3) 140 tx), (p2, qA (E 0) 2 nu)]) (fun r u => Φ u) := by
  refine qRW_void (nL := 2) (own := RX0) qF0_ok (by decide) rfl rfl (Nat.le_of_ble_eq_true rfl) (fun X C hend => ?_)
  have hB43 : ∀ pp : Int, wp_X0_moveTo_43 Φ  pp → qZ X 0 0 [(p0, .inr (0, [.ref p1, .int (qI tl), .int (qI pp), .ref p2])), (p1, qA (E 3) 140 tx), (p2, qA (E 0) 2 nu)] 43 [] [] := by
    intro pp hw
    unfold wp_X0_moveTo_43 at hw
    exact hend 43 _ () pp dX0_moveTo_43 hw
  have hB5 : ∀ n8 : Nat, ∀ pp : Int, wp_X0_moveTo_5 Φ  tl tx n8 pp → qZ X 0 0 [(p0, .inr (0, [.ref p1, .int (qI tl), .int (qI pp), .ref p2])), (p1, qA (E 3) 140 tx), (p2, qA (E 0) 2 nu)] 5 [(0, .ref p0)] [] := by
    intro n8
    induction n8 with
    | zero =>
      intro pp hw
      exact hw.elim
    | succ n9 ih =>
      intro pp hw
      unfold wp_X0_moveTo_5 at hw
      refine z_aload_n C 0 rfl rfl dX0_moveTo_5 ?_
      refine z_get C iX0_moveTo_X0 0 rfl rfl 2 (by decide) (List.mem_of_getElem? (i := 1) rfl) rfl rfl dX0_moveTo_6 ?_
      refine z_aload_n C 0 rfl rfl dX0_moveTo_9 ?_
      refine z_get C iX0_moveTo_X0 0 rfl rfl 1 (by decide) (List.mem_of_getElem? (i := 2) rfl) rfl rfl dX0_moveTo_10 ?_
      refine z_icmp_ge (tgt := 43) C hw.1 (by decide) dX0_moveTo_13 (fun c1 => ?_) (fun c1 => ?_)
      · replace hw := hw.2.1 c1
        refine z_lst (ps := []) (lv' := []) (st' := []) rfl rfl ?_
        exact hB43 pp hw
      · replace hw := hw.2.2 c1
        refine z_aload_n C 0 rfl rfl dX0_moveTo_16 ?_
        refine z_get C iX0_moveTo_X0 0 rfl rfl 0 (by decide) (List.mem_of_getElem? (i := 3) rfl) rfl rfl dX0_moveTo_17 ?_
        refine z_aload_n C 0 rfl rfl dX0_moveTo_20 ?_
        refine z_get C iX0_moveTo_X0 0 rfl rfl 2 (by decide) (List.mem_of_getElem? (i := 1) rfl) rfl rfl dX0_moveTo_21 ?_
        refine z_cald C 1 rfl (by decide) hw.1 dX0_moveTo_24 ?_
        replace hw := hw.2
        refine z_name (fun v2 ev2 => ?_)
        replace hw := hw v2 ev2
        refine z_bipush C (by decide +kernel) dX0_moveTo_25 ?_
        refine z_icmp_ne (tgt := 43) C hw.1 (by decide) dX0_moveTo_27 (fun c3 => ?_) (fun c3 => ?_)
        · replace hw := hw.2.1 c3
          refine z_lst (ps := []) (lv' := []) (st' := []) rfl rfl ?_
          exact hB43 pp hw
        · replace hw := hw.2.2 c3
          refine z_aload_n C 0 rfl rfl dX0_moveTo_30 ?_
          refine z_dup C rfl dX0_moveTo_31 ?_
          refine z_get C iX0_moveTo_X0 0 rfl rfl 2 (by decide) (List.mem_of_getElem? (i := 1) rfl) rfl rfl dX0_moveTo_32 ?_
          refine z_iconst C dX0_moveTo_35 ?_
          refine z_iadd C dX0_moveTo_36 ?_
          refine z_name (fun v4 ev4 => ?_)
          replace hw := hw v4 ev4
          refine z_put (ty := .int) (ws' := [(p0, .inr (0, [.ref p1, .int (qI tl), .int (qI v4), .ref p2])), (p1, qA (E 3) 140 tx), (p2, qA (E 0) 2 nu)]) C iX0_moveTo_X0 tyX0 tyX0_ok nmX0 0 rfl rfl 2 (by decide) (List.mem_of_getElem? (i := 1) rfl) rfl rfl (by decide +kernel) rfl rfl (Nat.le_of_ble_eq_true rfl) rfl dX0_moveTo_37 ?_
          refine z_goto (tgt := 5) C (by decide) dX0_moveTo_40 ?_
          refine z_lst (ps := [0]) (lv' := [(0, .ref p0)]) (st' := []) rfl rfl ?_
          exact ih v4 hw
  unfold wp_X0_moveTo at hw
  show qZ X 0 0 [(p0, .inr (0, [.ref p1, .int (qI tl), .int (qI pp), .ref p2])), (p1, qA (E 3) 140 tx), (p2, qA (E 0) 2 nu)] 0 [(0, .ref p0), (1, .int (qI x1))] []
  refine z_aload_n C 0 rfl rfl dX0_moveTo_0 ?_
  refine z_iload_n C 1 rfl rfl dX0_moveTo_1 ?_
  refine z_put (ty := .int) (ws' := [(p0, .inr (0, [.ref p1, .int (qI tl), .int (qI x1), .ref p2])), (p1, qA (E 3) 140 tx), (p2, qA (E 0) 2 nu)]) C iX0_moveTo_X0 tyX0 tyX0_ok nmX0 0 rfl rfl 2 (by decide) (List.mem_of_getElem? (i := 1) rfl) rfl rfl (by decide +kernel) rfl rfl (Nat.le_of_ble_eq_true rfl) rfl dX0_moveTo_2 ?_
  refine z_lst (ps := [0]) (lv' := [(0, .ref p0)]) (st' := []) rfl rfl ?_
  obtain ⟨n8, hw⟩ := hw
  exact hB5 n8 x1 hw
def wp_X0_readNumber_106 (Φ : Int → Int → Prop)  (x1 : Int) (x2 : Int) (tl : Int) (pp : Int) (tx : Nat → Int) : Prop := wp_X0_moveTo x2 tl pp tx (fun (g2 : Int) => Φ x1 g2)
def wp_X0_readNumber_104 (Φ : Int → Int → Prop)  (pp : Int) : Prop := Φ (-1 : Int) pp
def wp_X0_readNumber_68 (Φ : Int → Int → Prop)  (x1 : Int) (x2 : Int) (tl : Int) (pp : Int) (tx : Nat → Int) : Prop := (∀ v3 : Int, v3 = (x2 - pp) → ((qR v3 ∧ qR (1 : Int)) ∧ (v3 < (1 : Int) → wp_X0_readNumber_104 Φ  pp) ∧ (¬ (v3 < (1 : Int)) → ((qR v3 ∧ qR (4 : Int)) ∧ ((4 : Int) < v3 → wp_X0_readNumber_104 Φ  pp) ∧ (¬ ((4 : Int) < v3) → ((qR v3 ∧ qR (1 : Int)) ∧ (v3 ≤ (1 : Int) → wp_X0_readNumber_106 Φ  x1 x2 tl pp tx) ∧ (¬ (v3 ≤ (1 : Int)) → ((0 ≤ pp ∧ pp < 140) ∧ (∀ v7 : Int, v7 = tx (pp).toNat → ((qR v7 ∧ qR (48 : Int)) ∧ (¬ v7 = (48 : Int) → wp_X0_readNumber_106 Φ  x1 x2 tl pp tx) ∧ (¬ (¬ v7 = (48 : Int)) → wp_X0_readNumber_104 Φ  pp)))))))))))
def wp_X0_readNumber_62 (Φ : Int → Int → Prop) (K7 : Int → Int → Prop) (x1 : Int) (x2 : Int) (tl : Int) (pp : Int) (tx : Nat → Int) : Prop := (∀ v9 : Int, v9 = x2 + (1 : Int) → K7 x1 v9)
def wp_X0_readNumber_7 (Φ : Int → Int → Prop)  (tl : Int) (pp : Int) (tx : Nat → Int) : Nat → Int → Int → Prop
  | 0, _, _ => False
  | n9 + 1, x1, x2 => ((qR x2 ∧ qR tl) ∧ (tl ≤ x2 → wp_X0_readNumber_68 Φ  x1 x2 tl pp tx) ∧ (¬ (tl ≤ x2) → ((0 ≤ x2 ∧ x2 < 140) ∧ (∀ v11 : Int, v11 = tx (x2).toNat → ((qR v11 ∧ qR (48 : Int)) ∧ (v11 < (48 : Int) → wp_X0_readNumber_68 Φ  x1 x2 tl pp tx) ∧ (¬ (v11 < (48 : Int)) → ((0 ≤ x2 ∧ x2 < 140) ∧ (∀ v13 : Int, v13 = tx (x2).toNat → ((qR v13 ∧ qR (57 : Int)) ∧ ((57 : Int) < v13 → wp_X0_readNumber_68 Φ  x1 x2 tl pp tx) ∧ (¬ ((57 : Int) < v13) → ((qR (x2 - pp) ∧ qR (4 : Int)) ∧ ((4 : Int) ≤ (x2 - pp) → wp_X0_readNumber_62 Φ (wp_X0_readNumber_7 Φ  tl pp tx n9) x1 x2 tl pp tx) ∧ (¬ ((4 : Int) ≤ (x2 - pp)) → ((0 ≤ x2 ∧ x2 < 140) ∧ (∀ v16 : Int, v16 = tx (x2).toNat → (∀ v17 : Int, v17 = (((x1 * (10 : Int)) + v16) - (48 : Int)) → wp_X0_readNumber_62 Φ (wp_X0_readNumber_7 Φ  tl pp tx n9) v17 x2 tl pp tx)))))))))))))))
def wp_X0_readNumber  (tl : Int) (pp : Int) (tx : Nat → Int) (Φ : Int → Int → Prop) : Prop := ∃ n : Nat, wp_X0_readNumber_7 Φ  tl pp tx n (0 : Int) pp
theorem iX0_readNumber_X0 : ∀ w ∈ wsX00, w ∈ wsX0_readNumber := fun w h => List.mem_cons_of_mem _ (List.mem_append_right _ (h))
set_option maxHeartbeats 4000000 in
set_option maxRecDepth 100000 in
theorem c_X0_readNumber (l : Launch) (D : va_G) (E : Nat → ClassId) (p0 p1 p2 : Nat) (tl : Int) (pp : Int) (tx : Nat → Int) (nu : Nat → Int)  {Φ : Int → Int → Prop} (hw : wp_X0_readNumber  tl pp tx Φ) : qRW (σ := (Int)) l D E qF0 yX0_readNumber wsX0_readNumber 1 21 [(p0, .inr (0, [.ref p1, .int (qI tl), .int (qI pp), .ref p2])), (p1, qA (E 3) 140 tx), (p2, qA (E 0) 2 nu)] [.ref p0] qeI (fun u => [(p0, .inr (0, [.ref p1, .int (qI tl), .int (qI u), .ref p2])), (p1, qA (E 3) 140 tx), (p2, qA (E 0) 2 nu)]) (fun r u => Φ r u) := by
  refine qRW_int (nL := 4) (own := RX0) qF0_ok (by decide) rfl rfl (Nat.le_of_ble_eq_true rfl) (fun X C hend => ?_)
  have hB106 : ∀ x1 : Int, ∀ x2 : Int, ∀ pp : Int, wp_X0_readNumber_106 Φ  x1 x2 tl pp tx → qZ X 0 0 [(p0, .inr (0, [.ref p1, .int (qI tl), .int (qI pp), .ref p2])), (p1, qA (E 3) 140 tx), (p2, qA (E 0) 2 nu)] 106 [(0, .ref p0), (1, .int (qI x1)), (2, .int (qI x2))] [] := by
    intro x1 x2 pp hw
    unfold wp_X0_readNumber_106 at hw
    refine z_aload_n C 0 rfl rfl dX0_readNumber_106 ?_
    refine z_iload_n C 2 rfl rfl dX0_readNumber_107 ?_
    refine z_callVW (n := 1) C (c_X0_moveTo l D E p0 p1 p2 tl pp tx nu x2 hw) qF0_ok (fun _ _ _ => trivial) gX0_readNumber_X0_moveTo rfl (by decide +kernel) ⟨(Nat.le_of_ble_eq_true rfl), (Nat.le_of_ble_eq_true rfl)⟩ rfl 0 rfl rfl [0, 1, 2] [] (wr := []) rfl rfl rfl rfl (by decide) [0, 1, 2] rfl (fun u9 => [(p0, .inr (0, [.ref p1, .int (qI tl), .int (qI u9), .ref p2])), (p1, qA (E 3) 140 tx), (p2, qA (E 0) 2 nu)]) (fun _ => rfl) rfl (Nat.le_of_ble_eq_true rfl) dX0_readNumber_108 (fun r1 u9 hw => ?_)
    obtain ⟨g2, rfl⟩ : ∃ z, z = u9 := ⟨_, rfl⟩
    refine z_ws (ws' := [(p0, .inr (0, [.ref p1, .int (qI tl), .int (qI g2), .ref p2])), (p1, qA (E 3) 140 tx), (p2, qA (E 0) 2 nu)]) rfl ?_
    try dsimp only at hw
    show qZ X 0 0 [(p0, .inr (0, [.ref p1, .int (qI tl), .int (qI g2), .ref p2])), (p1, qA (E 3) 140 tx), (p2, qA (E 0) 2 nu)] _ _ []
    refine z_iload_n C 1 rfl rfl dX0_readNumber_111 ?_
    exact hend 112 _ x1 g2 dX0_readNumber_112 hw
  have hB104 : ∀ pp : Int, wp_X0_readNumber_104 Φ  pp → qZ X 0 0 [(p0, .inr (0, [.ref p1, .int (qI tl), .int (qI pp), .ref p2])), (p1, qA (E 3) 140 tx), (p2, qA (E 0) 2 nu)] 104 [] [] := by
    intro pp hw
    unfold wp_X0_readNumber_104 at hw
    refine z_iconst C dX0_readNumber_104 ?_
    exact hend 105 _ (-1 : Int) pp dX0_readNumber_105 hw
  have hB68 : ∀ x1 : Int, ∀ x2 : Int, ∀ pp : Int, wp_X0_readNumber_68 Φ  x1 x2 tl pp tx → qZ X 0 0 [(p0, .inr (0, [.ref p1, .int (qI tl), .int (qI pp), .ref p2])), (p1, qA (E 3) 140 tx), (p2, qA (E 0) 2 nu)] 68 [(0, .ref p0), (1, .int (qI x1)), (2, .int (qI x2))] [] := by
    intro x1 x2 pp hw
    unfold wp_X0_readNumber_68 at hw
    refine z_iload_n C 2 rfl rfl dX0_readNumber_68 ?_
    refine z_aload_n C 0 rfl rfl dX0_readNumber_69 ?_
    refine z_get C iX0_readNumber_X0 0 rfl rfl 2 (by decide) (List.mem_of_getElem? (i := 1) rfl) rfl rfl dX0_readNumber_70 ?_
    refine z_isub C dX0_readNumber_73 ?_
    refine z_name (fun v3 ev3 => ?_)
    replace hw := hw v3 ev3
    refine z_istore_n C rfl (by decide) rfl dX0_readNumber_74 ?_
    refine z_iload_n C 0 rfl rfl dX0_readNumber_75 ?_
    refine z_iconst C dX0_readNumber_76 ?_
    refine z_icmp_lt (tgt := 104) C hw.1 (by decide) dX0_readNumber_77 (fun c4 => ?_) (fun c4 => ?_)
    · replace hw := hw.2.1 c4
      refine z_lst (ps := []) (lv' := []) (st' := []) rfl rfl ?_
      exact hB104 pp hw
    · replace hw := hw.2.2 c4
      refine z_iload_n C 0 rfl rfl dX0_readNumber_80 ?_
      refine z_iconst C dX0_readNumber_81 ?_
      refine z_icmp_gt (tgt := 104) C hw.1 (by decide) dX0_readNumber_82 (fun c5 => ?_) (fun c5 => ?_)
      · replace hw := hw.2.1 c5
        refine z_lst (ps := []) (lv' := []) (st' := []) rfl rfl ?_
        exact hB104 pp hw
      · replace hw := hw.2.2 c5
        refine z_iload_n C 0 rfl rfl dX0_readNumber_85 ?_
        refine z_iconst C dX0_readNumber_86 ?_
        refine z_icmp_le (tgt := 106) C hw.1 (by decide) dX0_readNumber_87 (fun c6 => ?_) (fun c6 => ?_)
        · replace hw := hw.2.1 c6
          refine z_lst (ps := [1, 2, 3]) (lv' := [(0, .ref p0), (1, .int (qI x1)), (2, .int (qI x2))]) (st' := []) rfl rfl ?_
          exact hB106 x1 x2 pp hw
        · replace hw := hw.2.2 c6
          refine z_aload_n C 1 rfl rfl dX0_readNumber_90 ?_
          refine z_get C iX0_readNumber_X0 0 rfl rfl 0 (by decide) (List.mem_of_getElem? (i := 3) rfl) rfl rfl dX0_readNumber_91 ?_
          refine z_aload_n C 1 rfl rfl dX0_readNumber_94 ?_
          refine z_get C iX0_readNumber_X0 0 rfl rfl 2 (by decide) (List.mem_of_getElem? (i := 1) rfl) rfl rfl dX0_readNumber_95 ?_
          refine z_cald C 1 rfl (by decide) hw.1 dX0_readNumber_98 ?_
          replace hw := hw.2
          refine z_name (fun v7 ev7 => ?_)
          replace hw := hw v7 ev7
          refine z_bipush C (by decide +kernel) dX0_readNumber_99 ?_
          refine z_icmp_ne (tgt := 106) C hw.1 (by decide) dX0_readNumber_101 (fun c8 => ?_) (fun c8 => ?_)
          · replace hw := hw.2.1 c8
            refine z_lst (ps := [1, 2, 3]) (lv' := [(0, .ref p0), (1, .int (qI x1)), (2, .int (qI x2))]) (st' := []) rfl rfl ?_
            exact hB106 x1 x2 pp hw
          · replace hw := hw.2.2 c8
            refine z_lst (ps := []) (lv' := []) (st' := []) rfl rfl ?_
            exact hB104 pp hw
  have hB62 : ∀ pp : Int, ∀ K7 : Int → Int → Prop, (∀ (x1 : Int) (x2 : Int), K7 x1 x2 → qZ X 0 0 [(p0, .inr (0, [.ref p1, .int (qI tl), .int (qI pp), .ref p2])), (p1, qA (E 3) 140 tx), (p2, qA (E 0) 2 nu)] 7 [(0, .ref p0), (1, .int (qI x1)), (2, .int (qI x2))] []) → ∀ x1 : Int, ∀ x2 : Int, wp_X0_readNumber_62 Φ K7 x1 x2 tl pp tx → qZ X 0 0 [(p0, .inr (0, [.ref p1, .int (qI tl), .int (qI pp), .ref p2])), (p1, qA (E 3) 140 tx), (p2, qA (E 0) 2 nu)] 62 [(0, .ref p0), (1, .int (qI x1)), (2, .int (qI x2))] [] := by
    intro pp K7 hK7 x1 x2 hw
    unfold wp_X0_readNumber_62 at hw
    obtain ⟨v9, ev9⟩ : ∃ v9 : Int, v9 = x2 + (1 : Int) := ⟨_, rfl⟩
    replace hw := hw v9 ev9
    refine z_iinc C 2 rfl (by decide) v9 ev9 rfl dX0_readNumber_62 ?_
    refine z_goto (tgt := 7) C (by decide) dX0_readNumber_65 ?_
    refine z_lst (ps := [1, 2, 0]) (lv' := [(0, .ref p0), (1, .int (qI x1)), (2, .int (qI v9))]) (st' := []) rfl rfl ?_
    exact hK7 x1 v9 hw
  have hB7 : ∀ pp : Int, ∀ n8 : Nat, ∀ x1 : Int, ∀ x2 : Int, wp_X0_readNumber_7 Φ  tl pp tx n8 x1 x2 → qZ X 0 0 [(p0, .inr (0, [.ref p1, .int (qI tl), .int (qI pp), .ref p2])), (p1, qA (E 3) 140 tx), (p2, qA (E 0) 2 nu)] 7 [(0, .ref p0), (1, .int (qI x1)), (2, .int (qI x2))] [] := by
    intro pp n8
    induction n8 with
    | zero =>
      intro x1 x2 hw
      exact hw.elim
    | succ n9 ih =>
      intro x1 x2 hw
      unfold wp_X0_readNumber_7 at hw
      refine z_iload_n C 2 rfl rfl dX0_readNumber_7 ?_
      refine z_aload_n C 0 rfl rfl dX0_readNumber_8 ?_
      refine z_get C iX0_readNumber_X0 0 rfl rfl 1 (by decide) (List.mem_of_getElem? (i := 2) rfl) rfl rfl dX0_readNumber_9 ?_
      refine z_icmp_ge (tgt := 68) C hw.1 (by decide) dX0_readNumber_12 (fun c10 => ?_) (fun c10 => ?_)
      · replace hw := hw.2.1 c10
        refine z_lst (ps := [0, 1, 2]) (lv' := [(0, .ref p0), (1, .int (qI x1)), (2, .int (qI x2))]) (st' := []) rfl rfl ?_
        exact hB68 x1 x2 pp hw
      · replace hw := hw.2.2 c10
        refine z_aload_n C 0 rfl rfl dX0_readNumber_15 ?_
        refine z_get C iX0_readNumber_X0 0 rfl rfl 0 (by decide) (List.mem_of_getElem? (i := 3) rfl) rfl rfl dX0_readNumber_16 ?_
        refine z_iload_n C 2 rfl rfl dX0_readNumber_19 ?_
        refine z_cald C 1 rfl (by decide) hw.1 dX0_readNumber_20 ?_
        replace hw := hw.2
        refine z_name (fun v11 ev11 => ?_)
        replace hw := hw v11 ev11
        refine z_bipush C (by decide +kernel) dX0_readNumber_21 ?_
        refine z_icmp_lt (tgt := 68) C hw.1 (by decide) dX0_readNumber_23 (fun c12 => ?_) (fun c12 => ?_)
        · replace hw := hw.2.1 c12
          refine z_lst (ps := [0, 1, 2]) (lv' := [(0, .ref p0), (1, .int (qI x1)), (2, .int (qI x2))]) (st' := []) rfl rfl ?_
          exact hB68 x1 x2 pp hw
        · replace hw := hw.2.2 c12
          refine z_aload_n C 0 rfl rfl dX0_readNumber_26 ?_
          refine z_get C iX0_readNumber_X0 0 rfl rfl 0 (by decide) (List.mem_of_getElem? (i := 3) rfl) rfl rfl dX0_readNumber_27 ?_
          refine z_iload_n C 2 rfl rfl dX0_readNumber_30 ?_
          refine z_cald C 1 rfl (by decide) hw.1 dX0_readNumber_31 ?_
          replace hw := hw.2
          refine z_name (fun v13 ev13 => ?_)
          replace hw := hw v13 ev13
          refine z_bipush C (by decide +kernel) dX0_readNumber_32 ?_
          refine z_icmp_gt (tgt := 68) C hw.1 (by decide) dX0_readNumber_34 (fun c14 => ?_) (fun c14 => ?_)
          · replace hw := hw.2.1 c14
            refine z_lst (ps := [0, 1, 2]) (lv' := [(0, .ref p0), (1, .int (qI x1)), (2, .int (qI x2))]) (st' := []) rfl rfl ?_
            exact hB68 x1 x2 pp hw
          · replace hw := hw.2.2 c14
            refine z_iload_n C 2 rfl rfl dX0_readNumber_37 ?_
            refine z_aload_n C 0 rfl rfl dX0_readNumber_38 ?_
            refine z_get C iX0_readNumber_X0 0 rfl rfl 2 (by decide) (List.mem_of_getElem? (i := 1) rfl) rfl rfl dX0_readNumber_39 ?_
            refine z_isub C dX0_readNumber_42 ?_
            refine z_iconst C dX0_readNumber_43 ?_
            refine z_icmp_ge (tgt := 62) C hw.1 (by decide) dX0_readNumber_44 (fun c15 => ?_) (fun c15 => ?_)
            · replace hw := hw.2.1 c15
              refine z_lst (ps := [0, 1, 2]) (lv' := [(0, .ref p0), (1, .int (qI x1)), (2, .int (qI x2))]) (st' := []) rfl rfl ?_
              exact hB62 pp _ ih x1 x2 hw
            · replace hw := hw.2.2 c15
              refine z_iload_n C 1 rfl rfl dX0_readNumber_47 ?_
              refine z_bipush C (by decide +kernel) dX0_readNumber_48 ?_
              refine z_imul C dX0_readNumber_50 ?_
              refine z_aload_n C 0 rfl rfl dX0_readNumber_51 ?_
              refine z_get C iX0_readNumber_X0 0 rfl rfl 0 (by decide) (List.mem_of_getElem? (i := 3) rfl) rfl rfl dX0_readNumber_52 ?_
              refine z_iload_n C 2 rfl rfl dX0_readNumber_55 ?_
              refine z_cald C 1 rfl (by decide) hw.1 dX0_readNumber_56 ?_
              replace hw := hw.2
              refine z_name (fun v16 ev16 => ?_)
              replace hw := hw v16 ev16
              refine z_iadd C dX0_readNumber_57 ?_
              refine z_bipush C (by decide +kernel) dX0_readNumber_58 ?_
              refine z_isub C dX0_readNumber_60 ?_
              refine z_name (fun v17 ev17 => ?_)
              replace hw := hw v17 ev17
              refine z_istore_n C rfl (by decide) rfl dX0_readNumber_61 ?_
              refine z_lst (ps := [1, 0, 2]) (lv' := [(0, .ref p0), (1, .int (qI v17)), (2, .int (qI x2))]) (st' := []) rfl rfl ?_
              exact hB62 pp _ ih v17 x2 hw
  unfold wp_X0_readNumber at hw
  show qZ X 0 0 [(p0, .inr (0, [.ref p1, .int (qI tl), .int (qI pp), .ref p2])), (p1, qA (E 3) 140 tx), (p2, qA (E 0) 2 nu)] 0 [(0, .ref p0)] []
  refine z_iconst C dX0_readNumber_0 ?_
  refine z_istore_n C rfl (by decide) rfl dX0_readNumber_1 ?_
  refine z_aload_n C 1 rfl rfl dX0_readNumber_2 ?_
  refine z_get C iX0_readNumber_X0 0 rfl rfl 2 (by decide) (List.mem_of_getElem? (i := 1) rfl) rfl rfl dX0_readNumber_3 ?_
  refine z_istore_n C rfl (by decide) rfl dX0_readNumber_6 ?_
  refine z_lst (ps := [2, 1, 0]) (lv' := [(0, .ref p0), (1, .int (qI (0 : Int))), (2, .int (qI pp))]) (st' := []) rfl rfl ?_
  obtain ⟨n8, hw⟩ := hw
  exact hB7 pp n8 (0 : Int) pp hw
def wp_X0_readNumbers_36 (Φ : Int → Int → (Nat → Int) → Prop)  (pp : Int) (nu : Nat → Int) : Prop := (((1 : Int) = 0 ∨ (1 : Int) = 1) ∧ Φ (1 : Int) pp nu)
def wp_X0_readNumbers_2 (Φ : Int → Int → (Nat → Int) → Prop)  (x1 : Int) (tl : Int) (tx : Nat → Int) : Nat → Int → Int → (Nat → Int) → Prop
  | 0, _, _, _ => False
  | n9 + 1, x2, pp, nu => ((qR x2 ∧ qR x1) ∧ (x1 ≤ x2 → wp_X0_readNumbers_36 Φ  pp nu) ∧ (¬ (x1 ≤ x2) → ((qR x2 ∧ qR (2 : Int)) ∧ ((2 : Int) ≤ x2 → wp_X0_readNumbers_36 Φ  pp nu) ∧ (¬ ((2 : Int) ≤ x2) → wp_X0_readNumber tl pp tx (fun (r3 : Int) (g4 : Int) => (qR r3 ∧ ((0 : Int) ≤ r3 → ((0 ≤ x2 ∧ x2 < 2) ∧ ∀ g6 : Nat → Int, g6 = qU nu (x2).toNat r3 → (∀ v7 : Int, v7 = x2 + (1 : Int) → wp_X0_readNumbers_2 Φ  x1 tl tx n9 v7 g4 g6))) ∧ (¬ ((0 : Int) ≤ r3) → (((0 : Int) = 0 ∨ (0 : Int) = 1) ∧ Φ (0 : Int) g4 nu))))))))
def wp_X0_readNumbers (x1 : Int) (tl : Int) (pp : Int) (tx : Nat → Int) (nu : Nat → Int) (Φ : Int → Int → (Nat → Int) → Prop) : Prop := ∃ n : Nat, wp_X0_readNumbers_2 Φ  x1 tl tx n (0 : Int) pp nu
theorem iX0_readNumbers_X0 : ∀ w ∈ wsX00, w ∈ wsX0_readNumbers := fun w h => List.mem_cons_of_mem _ (List.mem_append_right _ (h))
set_option maxHeartbeats 4000000 in
set_option maxRecDepth 100000 in
theorem c_X0_readNumbers (l : Launch) (D : va_G) (E : Nat → ClassId) (p0 p1 p2 : Nat) (tl : Int) (pp : Int) (tx : Nat → Int) (nu : Nat → Int) (x1 : Int) {Φ : Int → Int → (Nat → Int) → Prop} (hw : wp_X0_readNumbers x1 tl pp tx nu Φ) : qRW (σ := (Int) × (Nat → Int)) l D E qF0 yX0_readNumbers wsX0_readNumbers 2 44 [(p0, .inr (0, [.ref p1, .int (qI tl), .int (qI pp), .ref p2])), (p1, qA (E 3) 140 tx), (p2, qA (E 0) 2 nu)] [.ref p0, .int (qI x1)] qeI (fun u => [(p0, .inr (0, [.ref p1, .int (qI tl), .int (qI u.1), .ref p2])), (p1, qA (E 3) 140 tx), (p2, qA (E 0) 2 u.2)]) (fun r u => Φ r u.1 u.2) := by
  refine qRW_bool (nL := 4) (own := RX0) qF0_ok (by decide) rfl rfl (Nat.le_of_ble_eq_true rfl) (fun X C hend => ?_)
  have hB36 : ∀ pp : Int, ∀ nu : Nat → Int, wp_X0_readNumbers_36 Φ  pp nu → qZ X 0 0 [(p0, .inr (0, [.ref p1, .int (qI tl), .int (qI pp), .ref p2])), (p1, qA (E 3) 140 tx), (p2, qA (E 0) 2 nu)] 36 [] [] := by
    intro pp nu hw
    unfold wp_X0_readNumbers_36 at hw
    refine z_iconst C dX0_readNumbers_36 ?_
    exact hend 37 _ (1 : Int) (pp, nu) dX0_readNumbers_37 hw.1 hw.2
  have hB2 : ∀ x1 : Int, ∀ n8 : Nat, ∀ x2 : Int, ∀ pp : Int, ∀ nu : Nat → Int, wp_X0_readNumbers_2 Φ  x1 tl tx n8 x2 pp nu → qZ X 0 0 [(p0, .inr (0, [.ref p1, .int (qI tl), .int (qI pp), .ref p2])), (p1, qA (E 3) 140 tx), (p2, qA (E 0) 2 nu)] 2 [(0, .ref p0), (1, .int (qI x1)), (2, .int (qI x2))] [] := by
    intro x1 n8
    induction n8 with
    | zero =>
      intro x2 pp nu hw
      exact hw.elim
    | succ n9 ih =>
      intro x2 pp nu hw
      unfold wp_X0_readNumbers_2 at hw
      refine z_iload_n C 2 rfl rfl dX0_readNumbers_2 ?_
      refine z_iload_n C 1 rfl rfl dX0_readNumbers_3 ?_
      refine z_icmp_ge (tgt := 36) C hw.1 (by decide) dX0_readNumbers_4 (fun c1 => ?_) (fun c1 => ?_)
      · replace hw := hw.2.1 c1
        refine z_lst (ps := []) (lv' := []) (st' := []) rfl rfl ?_
        exact hB36 pp nu hw
      · replace hw := hw.2.2 c1
        refine z_iload_n C 2 rfl rfl dX0_readNumbers_7 ?_
        refine z_iconst C dX0_readNumbers_8 ?_
        refine z_icmp_ge (tgt := 36) C hw.1 (by decide) dX0_readNumbers_9 (fun c2 => ?_) (fun c2 => ?_)
        · replace hw := hw.2.1 c2
          refine z_lst (ps := []) (lv' := []) (st' := []) rfl rfl ?_
          exact hB36 pp nu hw
        · replace hw := hw.2.2 c2
          refine z_aload_n C 0 rfl rfl dX0_readNumbers_12 ?_
          refine z_callVW (n := 0) C (c_X0_readNumber l D E p0 p1 p2 tl pp tx nu  hw) qF0_ok (fun _ _ _ => trivial) gX0_readNumbers_X0_readNumber rfl (by decide +kernel) ⟨(Nat.le_of_ble_eq_true rfl), (Nat.le_of_ble_eq_true rfl)⟩ rfl 0 rfl rfl [0, 1, 2] [] (wr := []) rfl rfl rfl rfl (by decide) [0, 1, 2] rfl (fun u9 => [(p0, .inr (0, [.ref p1, .int (qI tl), .int (qI u9), .ref p2])), (p1, qA (E 3) 140 tx), (p2, qA (E 0) 2 nu)]) (fun _ => rfl) rfl (Nat.le_of_ble_eq_true rfl) dX0_readNumbers_13 (fun r3 u9 hw => ?_)
          obtain ⟨g4, rfl⟩ : ∃ z, z = u9 := ⟨_, rfl⟩
          refine z_ws (ws' := [(p0, .inr (0, [.ref p1, .int (qI tl), .int (qI g4), .ref p2])), (p1, qA (E 3) 140 tx), (p2, qA (E 0) 2 nu)]) rfl ?_
          try dsimp only at hw
          show qZ X 0 0 [(p0, .inr (0, [.ref p1, .int (qI tl), .int (qI g4), .ref p2])), (p1, qA (E 3) 140 tx), (p2, qA (E 0) 2 nu)] _ _ [.int (qI r3)]
          refine z_istore_n C rfl (by decide) rfl dX0_readNumbers_16 ?_
          refine z_iload_n C 0 rfl rfl dX0_readNumbers_17 ?_
          refine z_if_ge (tgt := 23) C hw.1 (by decide) dX0_readNumbers_18 (fun c5 => ?_) (fun c5 => ?_)
          · replace hw := hw.2.1 c5
            refine z_aload_n C 1 rfl rfl dX0_readNumbers_23 ?_
            refine z_get C iX0_readNumbers_X0 0 rfl rfl 3 (by decide) (List.mem_of_getElem? (i := 1) rfl) rfl rfl dX0_readNumbers_24 ?_
            refine z_iload_n C 3 rfl rfl dX0_readNumbers_27 ?_
            refine z_iload_n C 0 rfl rfl dX0_readNumbers_28 ?_
            refine z_iast C 2 rfl (by decide) hw.1 (fun g6 => [(p0, .inr (0, [.ref p1, .int (qI tl), .int (qI g4), .ref p2])), (p1, qA (E 3) 140 tx), (p2, qA (E 0) 2 g6)]) (fun _ => rfl) dX0_readNumbers_29 (fun g6 eg6 => ?_)
            replace hw := hw.2 g6 eg6
            obtain ⟨v7, ev7⟩ : ∃ v7 : Int, v7 = x2 + (1 : Int) := ⟨_, rfl⟩
            replace hw := hw v7 ev7
            refine z_iinc C 3 rfl (by decide) v7 ev7 rfl dX0_readNumbers_30 ?_
            refine z_goto (tgt := 2) C (by decide) dX0_readNumbers_33 ?_
            refine z_lst (ps := [2, 3, 0]) (lv' := [(0, .ref p0), (1, .int (qI x1)), (2, .int (qI v7))]) (st' := []) rfl rfl ?_
            exact ih v7 g4 g6 hw
          · replace hw := hw.2.2 c5
            refine z_iconst C dX0_readNumbers_21 ?_
            exact hend 22 _ (0 : Int) (g4, nu) dX0_readNumbers_22 hw.1 hw.2
  unfold wp_X0_readNumbers at hw
  show qZ X 0 0 [(p0, .inr (0, [.ref p1, .int (qI tl), .int (qI pp), .ref p2])), (p1, qA (E 3) 140 tx), (p2, qA (E 0) 2 nu)] 0 [(0, .ref p0), (1, .int (qI x1))] []
  refine z_iconst C dX0_readNumbers_0 ?_
  refine z_istore_n C rfl (by decide) rfl dX0_readNumbers_1 ?_
  refine z_lst (ps := [1, 2, 0]) (lv' := [(0, .ref p0), (1, .int (qI x1)), (2, .int (qI (0 : Int)))]) (st' := []) rfl rfl ?_
  obtain ⟨n8, hw⟩ := hw
  exact hB2 x1 n8 (0 : Int) pp nu hw
def wp_X0_readEnd_25 (Φ : Int → Int → Prop)  (pp : Int) : Prop := (((0 : Int) = 0 ∨ (0 : Int) = 1) ∧ Φ (0 : Int) pp)
def wp_X0_readEnd  (tl : Int) (pp : Int) (tx : Nat → Int) (Φ : Int → Int → Prop) : Prop := ((qR pp ∧ qR tl) ∧ (tl ≤ pp → wp_X0_readEnd_25 Φ  pp) ∧ (¬ (tl ≤ pp) → ((0 ≤ pp ∧ pp < 140) ∧ (∀ v2 : Int, v2 = tx (pp).toNat → ((qR v2 ∧ qR (59 : Int)) ∧ (v2 = (59 : Int) → wp_X0_moveTo (pp + (1 : Int)) tl pp tx (fun (g5 : Int) => (((1 : Int) = 0 ∨ (1 : Int) = 1) ∧ Φ (1 : Int) g5))) ∧ (¬ (v2 = (59 : Int)) → wp_X0_readEnd_25 Φ  pp))))))
theorem iX0_readEnd_X0 : ∀ w ∈ wsX00, w ∈ wsX0_readEnd := fun w h => List.mem_cons_of_mem _ (List.mem_append_right _ (h))
set_option maxHeartbeats 4000000 in
set_option maxRecDepth 100000 in
theorem c_X0_readEnd (l : Launch) (D : va_G) (E : Nat → ClassId) (p0 p1 p2 : Nat) (tl : Int) (pp : Int) (tx : Nat → Int) (nu : Nat → Int)  {Φ : Int → Int → Prop} (hw : wp_X0_readEnd  tl pp tx Φ) : qRW (σ := (Int)) l D E qF0 yX0_readEnd wsX0_readEnd 1 21 [(p0, .inr (0, [.ref p1, .int (qI tl), .int (qI pp), .ref p2])), (p1, qA (E 3) 140 tx), (p2, qA (E 0) 2 nu)] [.ref p0] qeI (fun u => [(p0, .inr (0, [.ref p1, .int (qI tl), .int (qI u), .ref p2])), (p1, qA (E 3) 140 tx), (p2, qA (E 0) 2 nu)]) (fun r u => Φ r u) := by
  refine qRW_bool (nL := 1) (own := RX0) qF0_ok (by decide) rfl rfl (Nat.le_of_ble_eq_true rfl) (fun X C hend => ?_)
  have hB25 : ∀ pp : Int, wp_X0_readEnd_25 Φ  pp → qZ X 0 0 [(p0, .inr (0, [.ref p1, .int (qI tl), .int (qI pp), .ref p2])), (p1, qA (E 3) 140 tx), (p2, qA (E 0) 2 nu)] 25 [] [] := by
    intro pp hw
    unfold wp_X0_readEnd_25 at hw
    refine z_iconst C dX0_readEnd_25 ?_
    exact hend 26 _ (0 : Int) pp dX0_readEnd_26 hw.1 hw.2
  unfold wp_X0_readEnd at hw
  show qZ X 0 0 [(p0, .inr (0, [.ref p1, .int (qI tl), .int (qI pp), .ref p2])), (p1, qA (E 3) 140 tx), (p2, qA (E 0) 2 nu)] 0 [(0, .ref p0)] []
  refine z_aload_n C 0 rfl rfl dX0_readEnd_0 ?_
  refine z_get C iX0_readEnd_X0 0 rfl rfl 2 (by decide) (List.mem_of_getElem? (i := 1) rfl) rfl rfl dX0_readEnd_1 ?_
  refine z_aload_n C 0 rfl rfl dX0_readEnd_4 ?_
  refine z_get C iX0_readEnd_X0 0 rfl rfl 1 (by decide) (List.mem_of_getElem? (i := 2) rfl) rfl rfl dX0_readEnd_5 ?_
  refine z_icmp_ge (tgt := 25) C hw.1 (by decide) dX0_readEnd_8 (fun c1 => ?_) (fun c1 => ?_)
  · replace hw := hw.2.1 c1
    refine z_lst (ps := []) (lv' := []) (st' := []) rfl rfl ?_
    exact hB25 pp hw
  · replace hw := hw.2.2 c1
    refine z_aload_n C 0 rfl rfl dX0_readEnd_11 ?_
    refine z_get C iX0_readEnd_X0 0 rfl rfl 0 (by decide) (List.mem_of_getElem? (i := 3) rfl) rfl rfl dX0_readEnd_12 ?_
    refine z_aload_n C 0 rfl rfl dX0_readEnd_15 ?_
    refine z_get C iX0_readEnd_X0 0 rfl rfl 2 (by decide) (List.mem_of_getElem? (i := 1) rfl) rfl rfl dX0_readEnd_16 ?_
    refine z_cald C 1 rfl (by decide) hw.1 dX0_readEnd_19 ?_
    replace hw := hw.2
    refine z_name (fun v2 ev2 => ?_)
    replace hw := hw v2 ev2
    refine z_bipush C (by decide +kernel) dX0_readEnd_20 ?_
    refine z_icmp_eq (tgt := 27) C hw.1 (by decide) dX0_readEnd_22 (fun c3 => ?_) (fun c3 => ?_)
    · replace hw := hw.2.1 c3
      refine z_aload_n C 0 rfl rfl dX0_readEnd_27 ?_
      refine z_aload_n C 0 rfl rfl dX0_readEnd_28 ?_
      refine z_get C iX0_readEnd_X0 0 rfl rfl 2 (by decide) (List.mem_of_getElem? (i := 1) rfl) rfl rfl dX0_readEnd_29 ?_
      refine z_iconst C dX0_readEnd_32 ?_
      refine z_iadd C dX0_readEnd_33 ?_
      refine z_callVW (n := 1) C (c_X0_moveTo l D E p0 p1 p2 tl pp tx nu (pp + (1 : Int)) hw) qF0_ok (fun _ _ _ => trivial) gX0_readEnd_X0_moveTo rfl (by decide +kernel) ⟨(Nat.le_of_ble_eq_true rfl), (Nat.le_of_ble_eq_true rfl)⟩ rfl 0 rfl rfl [0, 1, 2] [] (wr := []) rfl rfl rfl rfl (by decide) [0, 1, 2] rfl (fun u9 => [(p0, .inr (0, [.ref p1, .int (qI tl), .int (qI u9), .ref p2])), (p1, qA (E 3) 140 tx), (p2, qA (E 0) 2 nu)]) (fun _ => rfl) rfl (Nat.le_of_ble_eq_true rfl) dX0_readEnd_34 (fun r4 u9 hw => ?_)
      obtain ⟨g5, rfl⟩ : ∃ z, z = u9 := ⟨_, rfl⟩
      refine z_ws (ws' := [(p0, .inr (0, [.ref p1, .int (qI tl), .int (qI g5), .ref p2])), (p1, qA (E 3) 140 tx), (p2, qA (E 0) 2 nu)]) rfl ?_
      try dsimp only at hw
      show qZ X 0 0 [(p0, .inr (0, [.ref p1, .int (qI tl), .int (qI g5), .ref p2])), (p1, qA (E 3) 140 tx), (p2, qA (E 0) 2 nu)] _ _ []
      refine z_iconst C dX0_readEnd_37 ?_
      exact hend 38 _ (1 : Int) g5 dX0_readEnd_38 hw.1 hw.2
    · replace hw := hw.2.2 c3
      refine z_lst (ps := []) (lv' := []) (st' := []) rfl rfl ?_
      exact hB25 pp hw
def wp_X0_numbersOf_16 (Φ : Int → Prop)  (k0 : Int) : Prop := Φ k0
def wp_X0_numbersOf_11 (Φ : Int → Prop)   : Prop := wp_X0_numbersOf_16 Φ  (2 : Int)
def wp_X0_numbersOf (x0 : Int)  (Φ : Int → Prop) : Prop := ((qR x0 ∧ qR (2 : Int)) ∧ (x0 = (2 : Int) → wp_X0_numbersOf_11 Φ  ) ∧ (¬ (x0 = (2 : Int)) → ((qR x0 ∧ qR (6 : Int)) ∧ (¬ x0 = (6 : Int) → wp_X0_numbersOf_16 Φ  (1 : Int)) ∧ (¬ (¬ x0 = (6 : Int)) → wp_X0_numbersOf_11 Φ  ))))
set_option maxHeartbeats 4000000 in
set_option maxRecDepth 100000 in
theorem c_X0_numbersOf (l : Launch) (D : va_G) (E : Nat → ClassId)   (x0 : Int) {Φ : Int → Prop} (hw : wp_X0_numbersOf x0  Φ) : qRO l D E qF0 yX0_numbersOf wsX0_numbersOf 0 0 [] [.int (qI x0)] qeI (fun r => Φ r) := by
  refine qRO_int (nL := 1) (own := RX0) qF0_ok (by decide) rfl rfl (Nat.le_of_ble_eq_true rfl) (fun X C hend => ?_)
  have hB16 : ∀ k0 : Int, wp_X0_numbersOf_16 Φ  k0 → qZ X 0 0 [] 16 [] [.int (qI k0)] := by
    intro k0 hw
    unfold wp_X0_numbersOf_16 at hw
    exact hend 16 _ k0 dX0_numbersOf_16 hw
  have hB11 :  wp_X0_numbersOf_11 Φ   → qZ X 0 0 [] 11 [] [] := by
    intro  hw
    unfold wp_X0_numbersOf_11 at hw
    refine z_iconst C dX0_numbersOf_11 ?_
    refine z_goto (tgt := 16) C (by decide) dX0_numbersOf_12 ?_
    refine z_lst (ps := []) (lv' := []) (st' := [.int (qI (2 : Int))]) rfl rfl ?_
    exact hB16 (2 : Int) hw
  unfold wp_X0_numbersOf at hw
  show qZ X 0 0 [] 0 [(0, .int (qI x0))] []
  refine z_iload_n C 0 rfl rfl dX0_numbersOf_0 ?_
  refine z_iconst C dX0_numbersOf_1 ?_
  refine z_icmp_eq (tgt := 11) C hw.1 (by decide) dX0_numbersOf_2 (fun c1 => ?_) (fun c1 => ?_)
  · replace hw := hw.2.1 c1
    refine z_lst (ps := []) (lv' := []) (st' := []) rfl rfl ?_
    exact hB11  hw
  · replace hw := hw.2.2 c1
    refine z_iload_n C 0 rfl rfl dX0_numbersOf_5 ?_
    refine z_bipush C (by decide +kernel) dX0_numbersOf_6 ?_
    refine z_icmp_ne (tgt := 15) C hw.1 (by decide) dX0_numbersOf_8 (fun c2 => ?_) (fun c2 => ?_)
    · replace hw := hw.2.1 c2
      refine z_iconst C dX0_numbersOf_15 ?_
      refine z_lst (ps := []) (lv' := []) (st' := [.int (qI (1 : Int))]) rfl rfl ?_
      exact hB16 (1 : Int) hw
    · replace hw := hw.2.2 c2
      refine z_lst (ps := []) (lv' := []) (st' := []) rfl rfl ?_
      exact hB11  hw
def wp_X0_carryOut (x1 : Int) (nu : Nat → Int) (sz : Int) (ph : Nat → Int) (od : Nat → Int) (pi : Nat → Int64) (se : Nat → Int) (Φ : Int → Int → (Nat → Int) → (Nat → Int) → (Nat → Int64) → Prop) : Prop := (qR x1 ∧ ((x1 < (0 : Int) ∨ (5 : Int) < x1) → ((0 ≤ (0 : Int) ∧ (0 : Int) < 2) ∧ (∀ v1 : Int, v1 = nu ((0 : Int)).toNat → ((0 ≤ (1 : Int) ∧ (1 : Int) < 2) ∧ (∀ v2 : Int, v2 = nu ((1 : Int)).toNat → wp_X1_swapPositions v1 v2 sz od se (fun (r3 : Int) (g4 : Nat → Int) => Φ r3 sz ph g4 pi)))))) ∧ (x1 = (0 : Int) → ((0 ≤ (0 : Int) ∧ (0 : Int) < 2) ∧ (∀ v5 : Int, v5 = nu ((0 : Int)).toNat → wp_X1_addSpot v5 sz od (fun (r6 : Int) (g7 : Int) (g8 : Nat → Int) => Φ r6 g7 ph g8 pi)))) ∧ (x1 = (1 : Int) → ((0 ≤ (0 : Int) ∧ (0 : Int) < 2) ∧ (∀ v9 : Int, v9 = nu ((0 : Int)).toNat → wp_X1_removeSpot v9 sz od (fun (r10 : Int) (g11 : Int) (g12 : Nat → Int) => Φ r10 g11 ph g12 pi)))) ∧ (x1 = (2 : Int) → ((0 ≤ (0 : Int) ∧ (0 : Int) < 2) ∧ (∀ v13 : Int, v13 = nu ((0 : Int)).toNat → ((0 ≤ (1 : Int) ∧ (1 : Int) < 2) ∧ (∀ v14 : Int, v14 = nu ((1 : Int)).toNat → wp_X1_putPhosphor v13 v14 ph (fun (r15 : Int) (g16 : Nat → Int) => Φ r15 sz g16 od pi)))))) ∧ (x1 = (3 : Int) → ((0 ≤ (0 : Int) ∧ (0 : Int) < 2) ∧ (∀ v17 : Int, v17 = nu ((0 : Int)).toNat → wp_X1_paint (0 : Int) v17 (1 : Int) pi (fun (r18 : Int) (g19 : Nat → Int64) => Φ r18 sz ph od g19)))) ∧ (x1 = (4 : Int) → ((0 ≤ (0 : Int) ∧ (0 : Int) < 2) ∧ (∀ v20 : Int, v20 = nu ((0 : Int)).toNat → wp_X1_paint (1 : Int) v20 (1 : Int) pi (fun (r21 : Int) (g22 : Nat → Int64) => Φ r21 sz ph od g22)))) ∧ (x1 = (5 : Int) → ((0 ≤ (0 : Int) ∧ (0 : Int) < 2) ∧ (∀ v23 : Int, v23 = nu ((0 : Int)).toNat → wp_X1_arrange v23 sz ph od pi se (fun (r24 : Int) (g25 : Nat → Int) => Φ r24 sz ph g25 pi)))))
theorem iX0_carryOut_X0 : ∀ w ∈ wsX00, w ∈ wsX0_carryOut := fun w h => List.mem_cons_of_mem _ (List.mem_append_left _ (List.mem_append_right _ (h)))
set_option maxHeartbeats 4000000 in
set_option maxRecDepth 100000 in
theorem c_X0_carryOut (l : Launch) (D : va_G) (E : Nat → ClassId) (p0 p1 p2 s0 s1 s2 s3 s4 : Nat) (tl : Int) (pp : Int) (tx : Nat → Int) (nu : Nat → Int) (sz : Int) (ph : Nat → Int) (od : Nat → Int) (pi : Nat → Int64) (se : Nat → Int) (x1 : Int) {Φ : Int → Int → (Nat → Int) → (Nat → Int) → (Nat → Int64) → Prop} (hw : wp_X0_carryOut x1 nu sz ph od pi se Φ) : qRW (σ := (Int) × (Nat → Int) × (Nat → Int) × (Nat → Int64)) l D E qF0 yX0_carryOut wsX0_carryOut 5 112 [(p0, .inr (0, [.ref p1, .int (qI tl), .int (qI pp), .ref p2])), (p1, qA (E 3) 140 tx), (p2, qA (E 0) 2 nu), (s0, .inr (1, [.ref s1, .ref s2, .int (qI sz), .ref s3, .ref s4])), (s1, qA (E 0) 64 ph), (s2, qA (E 0) 12 od), (s3, qL (E 1) 2 pi), (s4, qA (E 0) 6 se)] [.ref p0, .int (qI x1), .ref s0] qeI (fun u => [(p0, .inr (0, [.ref p1, .int (qI tl), .int (qI pp), .ref p2])), (p1, qA (E 3) 140 tx), (p2, qA (E 0) 2 nu), (s0, .inr (1, [.ref s1, .ref s2, .int (qI u.1), .ref s3, .ref s4])), (s1, qA (E 0) 64 u.2.1), (s2, qA (E 0) 12 u.2.2.1), (s3, qL (E 1) 2 u.2.2.2), (s4, qA (E 0) 6 se)]) (fun r u => Φ r u.1 u.2.1 u.2.2.1 u.2.2.2) := by
  refine qRW_int (nL := 3) (own := RX0) qF0_ok (by decide) rfl rfl (Nat.le_of_ble_eq_true rfl) (fun X C hend => ?_)
  unfold wp_X0_carryOut at hw
  show qZ X 0 0 [(p0, .inr (0, [.ref p1, .int (qI tl), .int (qI pp), .ref p2])), (p1, qA (E 3) 140 tx), (p2, qA (E 0) 2 nu), (s0, .inr (1, [.ref s1, .ref s2, .int (qI sz), .ref s3, .ref s4])), (s1, qA (E 0) 64 ph), (s2, qA (E 0) 12 od), (s3, qL (E 1) 2 pi), (s4, qA (E 0) 6 se)] 0 [(0, .ref p0), (1, .int (qI x1)), (2, .ref s0)] []
  refine z_iload_n C 1 rfl rfl dX0_carryOut_0 ?_
  rcases (show (x1 < (0 : Int) ∨ (5 : Int) < x1) ∨ x1 = (0 : Int) ∨ x1 = (1 : Int) ∨ x1 = (2 : Int) ∨ x1 = (3 : Int) ∨ x1 = (4 : Int) ∨ x1 = (5 : Int) by omega) with c26 | c26 | c26 | c26 | c26 | c26 | c26
  · refine z_swOut (tgt := 116) C hw.1 c26 (by decide) dX0_carryOut_1 ?_
    replace hw := hw.2.1 c26
    refine z_aload_n C 2 rfl rfl dX0_carryOut_116 ?_
    refine z_aload_n C 0 rfl rfl dX0_carryOut_117 ?_
    refine z_get C iX0_carryOut_X0 0 rfl rfl 3 (by decide) (List.mem_of_getElem? (i := 1) rfl) rfl rfl dX0_carryOut_118 ?_
    refine z_iconst C dX0_carryOut_121 ?_
    refine z_iald C 2 rfl (by decide) hw.1 dX0_carryOut_122 ?_
    replace hw := hw.2
    refine z_name (fun v1 ev1 => ?_)
    replace hw := hw v1 ev1
    refine z_aload_n C 0 rfl rfl dX0_carryOut_123 ?_
    refine z_get C iX0_carryOut_X0 0 rfl rfl 3 (by decide) (List.mem_of_getElem? (i := 1) rfl) rfl rfl dX0_carryOut_124 ?_
    refine z_iconst C dX0_carryOut_127 ?_
    refine z_iald C 2 rfl (by decide) hw.1 dX0_carryOut_128 ?_
    replace hw := hw.2
    refine z_name (fun v2 ev2 => ?_)
    replace hw := hw v2 ev2
    refine z_callVW (n := 2) C (c_X1_swapPositions l D E s0 s1 s2 s3 s4 sz ph od pi se v1 v2 hw) qF0_ok (fun _ _ _ => trivial) gX0_carryOut_X1_swapPositions rfl (by decide +kernel) ⟨(Nat.le_of_ble_eq_true rfl), (Nat.le_of_ble_eq_true rfl)⟩ rfl 3 rfl rfl [3, 4, 5, 6, 7] [0, 1, 2] (wr := [(p0, .inr (0, [.ref p1, .int (qI tl), .int (qI pp), .ref p2])), (p1, qA (E 3) 140 tx), (p2, qA (E 0) 2 nu)]) rfl rfl rfl rfl (by decide) [0, 1, 2, 3, 4, 5, 6, 7] rfl (fun u9 => [(p0, .inr (0, [.ref p1, .int (qI tl), .int (qI pp), .ref p2])), (p1, qA (E 3) 140 tx), (p2, qA (E 0) 2 nu), (s0, .inr (1, [.ref s1, .ref s2, .int (qI sz), .ref s3, .ref s4])), (s1, qA (E 0) 64 ph), (s2, qA (E 0) 12 u9), (s3, qL (E 1) 2 pi), (s4, qA (E 0) 6 se)]) (fun _ => rfl) rfl (Nat.le_of_ble_eq_true rfl) dX0_carryOut_129 (fun r3 u9 hw => ?_)
    obtain ⟨g4, rfl⟩ : ∃ z, z = u9 := ⟨_, rfl⟩
    refine z_ws (ws' := [(p0, .inr (0, [.ref p1, .int (qI tl), .int (qI pp), .ref p2])), (p1, qA (E 3) 140 tx), (p2, qA (E 0) 2 nu), (s0, .inr (1, [.ref s1, .ref s2, .int (qI sz), .ref s3, .ref s4])), (s1, qA (E 0) 64 ph), (s2, qA (E 0) 12 g4), (s3, qL (E 1) 2 pi), (s4, qA (E 0) 6 se)]) rfl ?_
    try dsimp only at hw
    show qZ X 0 0 [(p0, .inr (0, [.ref p1, .int (qI tl), .int (qI pp), .ref p2])), (p1, qA (E 3) 140 tx), (p2, qA (E 0) 2 nu), (s0, .inr (1, [.ref s1, .ref s2, .int (qI sz), .ref s3, .ref s4])), (s1, qA (E 0) 64 ph), (s2, qA (E 0) 12 g4), (s3, qL (E 1) 2 pi), (s4, qA (E 0) 6 se)] _ _ [.int (qI r3)]
    exact hend 132 _ r3 (sz, ph, g4, pi) dX0_carryOut_132 hw
  · refine z_swIn (off := (39 : Int)) (tgt := 40) C hw.1 (by omega) (by omega) (by rw [c26]; rfl) (by decide) dX0_carryOut_1 ?_
    replace hw := hw.2.2.1 c26
    refine z_aload_n C 2 rfl rfl dX0_carryOut_40 ?_
    refine z_aload_n C 0 rfl rfl dX0_carryOut_41 ?_
    refine z_get C iX0_carryOut_X0 0 rfl rfl 3 (by decide) (List.mem_of_getElem? (i := 1) rfl) rfl rfl dX0_carryOut_42 ?_
    refine z_iconst C dX0_carryOut_45 ?_
    refine z_iald C 2 rfl (by decide) hw.1 dX0_carryOut_46 ?_
    replace hw := hw.2
    refine z_name (fun v5 ev5 => ?_)
    replace hw := hw v5 ev5
    refine z_callVW (n := 1) C (c_X1_addSpot l D E s0 s1 s2 s3 s4 sz ph od pi se v5 hw) qF0_ok (fun _ _ _ => trivial) gX0_carryOut_X1_addSpot rfl (by decide +kernel) ⟨(Nat.le_of_ble_eq_true rfl), (Nat.le_of_ble_eq_true rfl)⟩ rfl 3 rfl rfl [3, 4, 5, 6, 7] [0, 1, 2] (wr := [(p0, .inr (0, [.ref p1, .int (qI tl), .int (qI pp), .ref p2])), (p1, qA (E 3) 140 tx), (p2, qA (E 0) 2 nu)]) rfl rfl rfl rfl (by decide) [0, 1, 2, 3, 4, 5, 6, 7] rfl (fun u9 => [(p0, .inr (0, [.ref p1, .int (qI tl), .int (qI pp), .ref p2])), (p1, qA (E 3) 140 tx), (p2, qA (E 0) 2 nu), (s0, .inr (1, [.ref s1, .ref s2, .int (qI u9.1), .ref s3, .ref s4])), (s1, qA (E 0) 64 ph), (s2, qA (E 0) 12 u9.2), (s3, qL (E 1) 2 pi), (s4, qA (E 0) 6 se)]) (fun _ => rfl) rfl (Nat.le_of_ble_eq_true rfl) dX0_carryOut_47 (fun r6 u9 hw => ?_)
    obtain ⟨g7, g8⟩ := u9
    refine z_ws (ws' := [(p0, .inr (0, [.ref p1, .int (qI tl), .int (qI pp), .ref p2])), (p1, qA (E 3) 140 tx), (p2, qA (E 0) 2 nu), (s0, .inr (1, [.ref s1, .ref s2, .int (qI g7), .ref s3, .ref s4])), (s1, qA (E 0) 64 ph), (s2, qA (E 0) 12 g8), (s3, qL (E 1) 2 pi), (s4, qA (E 0) 6 se)]) rfl ?_
    try dsimp only at hw
    show qZ X 0 0 [(p0, .inr (0, [.ref p1, .int (qI tl), .int (qI pp), .ref p2])), (p1, qA (E 3) 140 tx), (p2, qA (E 0) 2 nu), (s0, .inr (1, [.ref s1, .ref s2, .int (qI g7), .ref s3, .ref s4])), (s1, qA (E 0) 64 ph), (s2, qA (E 0) 12 g8), (s3, qL (E 1) 2 pi), (s4, qA (E 0) 6 se)] _ _ [.int (qI r6)]
    exact hend 50 _ r6 (g7, ph, g8, pi) dX0_carryOut_50 hw
  · refine z_swIn (off := (50 : Int)) (tgt := 51) C hw.1 (by omega) (by omega) (by rw [c26]; rfl) (by decide) dX0_carryOut_1 ?_
    replace hw := hw.2.2.2.1 c26
    refine z_aload_n C 2 rfl rfl dX0_carryOut_51 ?_
    refine z_aload_n C 0 rfl rfl dX0_carryOut_52 ?_
    refine z_get C iX0_carryOut_X0 0 rfl rfl 3 (by decide) (List.mem_of_getElem? (i := 1) rfl) rfl rfl dX0_carryOut_53 ?_
    refine z_iconst C dX0_carryOut_56 ?_
    refine z_iald C 2 rfl (by decide) hw.1 dX0_carryOut_57 ?_
    replace hw := hw.2
    refine z_name (fun v9 ev9 => ?_)
    replace hw := hw v9 ev9
    refine z_callVW (n := 1) C (c_X1_removeSpot l D E s0 s1 s2 s3 s4 sz ph od pi se v9 hw) qF0_ok (fun _ _ _ => trivial) gX0_carryOut_X1_removeSpot rfl (by decide +kernel) ⟨(Nat.le_of_ble_eq_true rfl), (Nat.le_of_ble_eq_true rfl)⟩ rfl 3 rfl rfl [3, 4, 5, 6, 7] [0, 1, 2] (wr := [(p0, .inr (0, [.ref p1, .int (qI tl), .int (qI pp), .ref p2])), (p1, qA (E 3) 140 tx), (p2, qA (E 0) 2 nu)]) rfl rfl rfl rfl (by decide) [0, 1, 2, 3, 4, 5, 6, 7] rfl (fun u9 => [(p0, .inr (0, [.ref p1, .int (qI tl), .int (qI pp), .ref p2])), (p1, qA (E 3) 140 tx), (p2, qA (E 0) 2 nu), (s0, .inr (1, [.ref s1, .ref s2, .int (qI u9.1), .ref s3, .ref s4])), (s1, qA (E 0) 64 ph), (s2, qA (E 0) 12 u9.2), (s3, qL (E 1) 2 pi), (s4, qA (E 0) 6 se)]) (fun _ => rfl) rfl (Nat.le_of_ble_eq_true rfl) dX0_carryOut_58 (fun r10 u9 hw => ?_)
    obtain ⟨g11, g12⟩ := u9
    refine z_ws (ws' := [(p0, .inr (0, [.ref p1, .int (qI tl), .int (qI pp), .ref p2])), (p1, qA (E 3) 140 tx), (p2, qA (E 0) 2 nu), (s0, .inr (1, [.ref s1, .ref s2, .int (qI g11), .ref s3, .ref s4])), (s1, qA (E 0) 64 ph), (s2, qA (E 0) 12 g12), (s3, qL (E 1) 2 pi), (s4, qA (E 0) 6 se)]) rfl ?_
    try dsimp only at hw
    show qZ X 0 0 [(p0, .inr (0, [.ref p1, .int (qI tl), .int (qI pp), .ref p2])), (p1, qA (E 3) 140 tx), (p2, qA (E 0) 2 nu), (s0, .inr (1, [.ref s1, .ref s2, .int (qI g11), .ref s3, .ref s4])), (s1, qA (E 0) 64 ph), (s2, qA (E 0) 12 g12), (s3, qL (E 1) 2 pi), (s4, qA (E 0) 6 se)] _ _ [.int (qI r10)]
    exact hend 61 _ r10 (g11, ph, g12, pi) dX0_carryOut_61 hw
  · refine z_swIn (off := (61 : Int)) (tgt := 62) C hw.1 (by omega) (by omega) (by rw [c26]; rfl) (by decide) dX0_carryOut_1 ?_
    replace hw := hw.2.2.2.2.1 c26
    refine z_aload_n C 2 rfl rfl dX0_carryOut_62 ?_
    refine z_aload_n C 0 rfl rfl dX0_carryOut_63 ?_
    refine z_get C iX0_carryOut_X0 0 rfl rfl 3 (by decide) (List.mem_of_getElem? (i := 1) rfl) rfl rfl dX0_carryOut_64 ?_
    refine z_iconst C dX0_carryOut_67 ?_
    refine z_iald C 2 rfl (by decide) hw.1 dX0_carryOut_68 ?_
    replace hw := hw.2
    refine z_name (fun v13 ev13 => ?_)
    replace hw := hw v13 ev13
    refine z_aload_n C 0 rfl rfl dX0_carryOut_69 ?_
    refine z_get C iX0_carryOut_X0 0 rfl rfl 3 (by decide) (List.mem_of_getElem? (i := 1) rfl) rfl rfl dX0_carryOut_70 ?_
    refine z_iconst C dX0_carryOut_73 ?_
    refine z_iald C 2 rfl (by decide) hw.1 dX0_carryOut_74 ?_
    replace hw := hw.2
    refine z_name (fun v14 ev14 => ?_)
    replace hw := hw v14 ev14
    refine z_callVW (n := 2) C (c_X1_putPhosphor l D E s0 s1 s2 s3 s4 sz ph od pi se v13 v14 hw) qF0_ok (fun _ _ _ => trivial) gX0_carryOut_X1_putPhosphor rfl (by decide +kernel) ⟨(Nat.le_of_ble_eq_true rfl), (Nat.le_of_ble_eq_true rfl)⟩ rfl 3 rfl rfl [3, 4, 5, 6, 7] [0, 1, 2] (wr := [(p0, .inr (0, [.ref p1, .int (qI tl), .int (qI pp), .ref p2])), (p1, qA (E 3) 140 tx), (p2, qA (E 0) 2 nu)]) rfl rfl rfl rfl (by decide) [0, 1, 2, 3, 4, 5, 6, 7] rfl (fun u9 => [(p0, .inr (0, [.ref p1, .int (qI tl), .int (qI pp), .ref p2])), (p1, qA (E 3) 140 tx), (p2, qA (E 0) 2 nu), (s0, .inr (1, [.ref s1, .ref s2, .int (qI sz), .ref s3, .ref s4])), (s1, qA (E 0) 64 u9), (s2, qA (E 0) 12 od), (s3, qL (E 1) 2 pi), (s4, qA (E 0) 6 se)]) (fun _ => rfl) rfl (Nat.le_of_ble_eq_true rfl) dX0_carryOut_75 (fun r15 u9 hw => ?_)
    obtain ⟨g16, rfl⟩ : ∃ z, z = u9 := ⟨_, rfl⟩
    refine z_ws (ws' := [(p0, .inr (0, [.ref p1, .int (qI tl), .int (qI pp), .ref p2])), (p1, qA (E 3) 140 tx), (p2, qA (E 0) 2 nu), (s0, .inr (1, [.ref s1, .ref s2, .int (qI sz), .ref s3, .ref s4])), (s1, qA (E 0) 64 g16), (s2, qA (E 0) 12 od), (s3, qL (E 1) 2 pi), (s4, qA (E 0) 6 se)]) rfl ?_
    try dsimp only at hw
    show qZ X 0 0 [(p0, .inr (0, [.ref p1, .int (qI tl), .int (qI pp), .ref p2])), (p1, qA (E 3) 140 tx), (p2, qA (E 0) 2 nu), (s0, .inr (1, [.ref s1, .ref s2, .int (qI sz), .ref s3, .ref s4])), (s1, qA (E 0) 64 g16), (s2, qA (E 0) 12 od), (s3, qL (E 1) 2 pi), (s4, qA (E 0) 6 se)] _ _ [.int (qI r15)]
    exact hend 78 _ r15 (sz, g16, od, pi) dX0_carryOut_78 hw
  · refine z_swIn (off := (78 : Int)) (tgt := 79) C hw.1 (by omega) (by omega) (by rw [c26]; rfl) (by decide) dX0_carryOut_1 ?_
    replace hw := hw.2.2.2.2.2.1 c26
    refine z_aload_n C 2 rfl rfl dX0_carryOut_79 ?_
    refine z_iconst C dX0_carryOut_80 ?_
    refine z_aload_n C 0 rfl rfl dX0_carryOut_81 ?_
    refine z_get C iX0_carryOut_X0 0 rfl rfl 3 (by decide) (List.mem_of_getElem? (i := 1) rfl) rfl rfl dX0_carryOut_82 ?_
    refine z_iconst C dX0_carryOut_85 ?_
    refine z_iald C 2 rfl (by decide) hw.1 dX0_carryOut_86 ?_
    replace hw := hw.2
    refine z_name (fun v17 ev17 => ?_)
    replace hw := hw v17 ev17
    refine z_iconst C dX0_carryOut_87 ?_
    refine z_callVW (n := 3) C (c_X1_paint l D E s0 s1 s2 s3 s4 sz ph od pi se (0 : Int) v17 (1 : Int) hw) qF0_ok (fun _ _ _ => trivial) gX0_carryOut_X1_paint rfl (by decide +kernel) ⟨(Nat.le_of_ble_eq_true rfl), (Nat.le_of_ble_eq_true rfl)⟩ rfl 3 rfl rfl [3, 4, 5, 6, 7] [0, 1, 2] (wr := [(p0, .inr (0, [.ref p1, .int (qI tl), .int (qI pp), .ref p2])), (p1, qA (E 3) 140 tx), (p2, qA (E 0) 2 nu)]) rfl rfl rfl rfl (by decide) [0, 1, 2, 3, 4, 5, 6, 7] rfl (fun u9 => [(p0, .inr (0, [.ref p1, .int (qI tl), .int (qI pp), .ref p2])), (p1, qA (E 3) 140 tx), (p2, qA (E 0) 2 nu), (s0, .inr (1, [.ref s1, .ref s2, .int (qI sz), .ref s3, .ref s4])), (s1, qA (E 0) 64 ph), (s2, qA (E 0) 12 od), (s3, qL (E 1) 2 u9), (s4, qA (E 0) 6 se)]) (fun _ => rfl) rfl (Nat.le_of_ble_eq_true rfl) dX0_carryOut_88 (fun r18 u9 hw => ?_)
    obtain ⟨g19, rfl⟩ : ∃ z, z = u9 := ⟨_, rfl⟩
    refine z_ws (ws' := [(p0, .inr (0, [.ref p1, .int (qI tl), .int (qI pp), .ref p2])), (p1, qA (E 3) 140 tx), (p2, qA (E 0) 2 nu), (s0, .inr (1, [.ref s1, .ref s2, .int (qI sz), .ref s3, .ref s4])), (s1, qA (E 0) 64 ph), (s2, qA (E 0) 12 od), (s3, qL (E 1) 2 g19), (s4, qA (E 0) 6 se)]) rfl ?_
    try dsimp only at hw
    show qZ X 0 0 [(p0, .inr (0, [.ref p1, .int (qI tl), .int (qI pp), .ref p2])), (p1, qA (E 3) 140 tx), (p2, qA (E 0) 2 nu), (s0, .inr (1, [.ref s1, .ref s2, .int (qI sz), .ref s3, .ref s4])), (s1, qA (E 0) 64 ph), (s2, qA (E 0) 12 od), (s3, qL (E 1) 2 g19), (s4, qA (E 0) 6 se)] _ _ [.int (qI r18)]
    exact hend 91 _ r18 (sz, ph, od, g19) dX0_carryOut_91 hw
  · refine z_swIn (off := (91 : Int)) (tgt := 92) C hw.1 (by omega) (by omega) (by rw [c26]; rfl) (by decide) dX0_carryOut_1 ?_
    replace hw := hw.2.2.2.2.2.2.1 c26
    refine z_aload_n C 2 rfl rfl dX0_carryOut_92 ?_
    refine z_iconst C dX0_carryOut_93 ?_
    refine z_aload_n C 0 rfl rfl dX0_carryOut_94 ?_
    refine z_get C iX0_carryOut_X0 0 rfl rfl 3 (by decide) (List.mem_of_getElem? (i := 1) rfl) rfl rfl dX0_carryOut_95 ?_
    refine z_iconst C dX0_carryOut_98 ?_
    refine z_iald C 2 rfl (by decide) hw.1 dX0_carryOut_99 ?_
    replace hw := hw.2
    refine z_name (fun v20 ev20 => ?_)
    replace hw := hw v20 ev20
    refine z_iconst C dX0_carryOut_100 ?_
    refine z_callVW (n := 3) C (c_X1_paint l D E s0 s1 s2 s3 s4 sz ph od pi se (1 : Int) v20 (1 : Int) hw) qF0_ok (fun _ _ _ => trivial) gX0_carryOut_X1_paint rfl (by decide +kernel) ⟨(Nat.le_of_ble_eq_true rfl), (Nat.le_of_ble_eq_true rfl)⟩ rfl 3 rfl rfl [3, 4, 5, 6, 7] [0, 1, 2] (wr := [(p0, .inr (0, [.ref p1, .int (qI tl), .int (qI pp), .ref p2])), (p1, qA (E 3) 140 tx), (p2, qA (E 0) 2 nu)]) rfl rfl rfl rfl (by decide) [0, 1, 2, 3, 4, 5, 6, 7] rfl (fun u9 => [(p0, .inr (0, [.ref p1, .int (qI tl), .int (qI pp), .ref p2])), (p1, qA (E 3) 140 tx), (p2, qA (E 0) 2 nu), (s0, .inr (1, [.ref s1, .ref s2, .int (qI sz), .ref s3, .ref s4])), (s1, qA (E 0) 64 ph), (s2, qA (E 0) 12 od), (s3, qL (E 1) 2 u9), (s4, qA (E 0) 6 se)]) (fun _ => rfl) rfl (Nat.le_of_ble_eq_true rfl) dX0_carryOut_101 (fun r21 u9 hw => ?_)
    obtain ⟨g22, rfl⟩ : ∃ z, z = u9 := ⟨_, rfl⟩
    refine z_ws (ws' := [(p0, .inr (0, [.ref p1, .int (qI tl), .int (qI pp), .ref p2])), (p1, qA (E 3) 140 tx), (p2, qA (E 0) 2 nu), (s0, .inr (1, [.ref s1, .ref s2, .int (qI sz), .ref s3, .ref s4])), (s1, qA (E 0) 64 ph), (s2, qA (E 0) 12 od), (s3, qL (E 1) 2 g22), (s4, qA (E 0) 6 se)]) rfl ?_
    try dsimp only at hw
    show qZ X 0 0 [(p0, .inr (0, [.ref p1, .int (qI tl), .int (qI pp), .ref p2])), (p1, qA (E 3) 140 tx), (p2, qA (E 0) 2 nu), (s0, .inr (1, [.ref s1, .ref s2, .int (qI sz), .ref s3, .ref s4])), (s1, qA (E 0) 64 ph), (s2, qA (E 0) 12 od), (s3, qL (E 1) 2 g22), (s4, qA (E 0) 6 se)] _ _ [.int (qI r21)]
    exact hend 104 _ r21 (sz, ph, od, g22) dX0_carryOut_104 hw
  · refine z_swIn (off := (104 : Int)) (tgt := 105) C hw.1 (by omega) (by omega) (by rw [c26]; rfl) (by decide) dX0_carryOut_1 ?_
    replace hw := hw.2.2.2.2.2.2.2 c26
    refine z_aload_n C 2 rfl rfl dX0_carryOut_105 ?_
    refine z_aload_n C 0 rfl rfl dX0_carryOut_106 ?_
    refine z_get C iX0_carryOut_X0 0 rfl rfl 3 (by decide) (List.mem_of_getElem? (i := 1) rfl) rfl rfl dX0_carryOut_107 ?_
    refine z_iconst C dX0_carryOut_110 ?_
    refine z_iald C 2 rfl (by decide) hw.1 dX0_carryOut_111 ?_
    replace hw := hw.2
    refine z_name (fun v23 ev23 => ?_)
    replace hw := hw v23 ev23
    refine z_callVW (n := 1) C (c_X1_arrange l D E s0 s1 s2 s3 s4 sz ph od pi se v23 hw) qF0_ok (fun _ _ _ => trivial) gX0_carryOut_X1_arrange rfl (by decide +kernel) ⟨(Nat.le_of_ble_eq_true rfl), (Nat.le_of_ble_eq_true rfl)⟩ rfl 3 rfl rfl [3, 4, 5, 6, 7] [0, 1, 2] (wr := [(p0, .inr (0, [.ref p1, .int (qI tl), .int (qI pp), .ref p2])), (p1, qA (E 3) 140 tx), (p2, qA (E 0) 2 nu)]) rfl rfl rfl rfl (by decide) [0, 1, 2, 3, 4, 5, 6, 7] rfl (fun u9 => [(p0, .inr (0, [.ref p1, .int (qI tl), .int (qI pp), .ref p2])), (p1, qA (E 3) 140 tx), (p2, qA (E 0) 2 nu), (s0, .inr (1, [.ref s1, .ref s2, .int (qI sz), .ref s3, .ref s4])), (s1, qA (E 0) 64 ph), (s2, qA (E 0) 12 u9), (s3, qL (E 1) 2 pi), (s4, qA (E 0) 6 se)]) (fun _ => rfl) rfl (Nat.le_of_ble_eq_true rfl) dX0_carryOut_112 (fun r24 u9 hw => ?_)
    obtain ⟨g25, rfl⟩ : ∃ z, z = u9 := ⟨_, rfl⟩
    refine z_ws (ws' := [(p0, .inr (0, [.ref p1, .int (qI tl), .int (qI pp), .ref p2])), (p1, qA (E 3) 140 tx), (p2, qA (E 0) 2 nu), (s0, .inr (1, [.ref s1, .ref s2, .int (qI sz), .ref s3, .ref s4])), (s1, qA (E 0) 64 ph), (s2, qA (E 0) 12 g25), (s3, qL (E 1) 2 pi), (s4, qA (E 0) 6 se)]) rfl ?_
    try dsimp only at hw
    show qZ X 0 0 [(p0, .inr (0, [.ref p1, .int (qI tl), .int (qI pp), .ref p2])), (p1, qA (E 3) 140 tx), (p2, qA (E 0) 2 nu), (s0, .inr (1, [.ref s1, .ref s2, .int (qI sz), .ref s3, .ref s4])), (s1, qA (E 0) 64 ph), (s2, qA (E 0) 12 g25), (s3, qL (E 1) 2 pi), (s4, qA (E 0) 6 se)] _ _ [.int (qI r24)]
    exact hend 115 _ r24 (sz, ph, g25, pi) dX0_carryOut_115 hw
