def wp_X5_sign_18 (Φ : Int → Prop)  (k0 : Int) : Prop := Φ k0
def wp_X5_sign (x1 : Int) (le : Int) (mt : Nat → Int) (Φ : Int → Prop) : Prop := ((qR x1 ∧ qR le) ∧ (le ≤ x1 → wp_X5_sign_18 Φ  (-1 : Int)) ∧ (¬ (le ≤ x1) → ((0 ≤ x1 ∧ x1 < 140) ∧ (∀ v2 : Int, v2 = mt (x1).toNat → wp_X5_sign_18 Φ  v2))))
theorem iX5_sign_X5 : ∀ w ∈ wsX50, w ∈ wsX5_sign := fun w h => List.mem_cons_of_mem _ (List.mem_append_right _ (h))
set_option maxHeartbeats 4000000 in
set_option maxRecDepth 100000 in
theorem c_X5_sign (l : Launch) (D : va_G) (E : Nat → ClassId) (m0 m1 m2 m3 m4 m5 m6 m7 : Nat) (th : Int) (sm : Int) (le : Int) (tk : Int) (fr : Int) (ti : Int) (fa : Int) (ms : Nat → Int) (ma : Nat → Int) (mv : Nat → Int) (mt : Nat → Int) (mn : Nat → Int) (ml : Nat → Int) (mr : Nat → Int) (x1 : Int) {Φ : Int → Prop} (hw : wp_X5_sign x1 le mt Φ) : qRO l D E qF0 yX5_sign wsX5_sign 0 0 [(m0, .inr (5, [.int (qI th), .ref m1, .ref m2, .ref m3, .int (qI sm), .ref m4, .int (qI le), .ref m5, .ref m6, .ref m7, .int (qI tk), .int (qI fr), .int (qI ti), .int (qI fa)])), (m1, qA (E 0) 635 ms), (m2, qA (E 0) 635 ma), (m3, qA (E 0) 3175 mv), (m4, qA (E 0) 140 mt), (m5, qA (E 0) 2 mn), (m6, qA (E 0) 64 ml), (m7, qA (E 0) 49152 mr)] [.ref m0, .int (qI x1)] qeI (fun r => Φ r) := by
  refine qRO_int (nL := 2) (own := RX5) qF0_ok (by decide) rfl rfl (Nat.le_of_ble_eq_true rfl) (fun X C hend => ?_)
  have hB18 : ∀ k0 : Int, wp_X5_sign_18 Φ  k0 → qZ X 0 0 [(m0, .inr (5, [.int (qI th), .ref m1, .ref m2, .ref m3, .int (qI sm), .ref m4, .int (qI le), .ref m5, .ref m6, .ref m7, .int (qI tk), .int (qI fr), .int (qI ti), .int (qI fa)])), (m1, qA (E 0) 635 ms), (m2, qA (E 0) 635 ma), (m3, qA (E 0) 3175 mv), (m4, qA (E 0) 140 mt), (m5, qA (E 0) 2 mn), (m6, qA (E 0) 64 ml), (m7, qA (E 0) 49152 mr)] 18 [] [.int (qI k0)] := by
    intro k0 hw
    unfold wp_X5_sign_18 at hw
    exact hend 18 _ k0 dX5_sign_18 hw
  unfold wp_X5_sign at hw
  show qZ X 0 0 [(m0, .inr (5, [.int (qI th), .ref m1, .ref m2, .ref m3, .int (qI sm), .ref m4, .int (qI le), .ref m5, .ref m6, .ref m7, .int (qI tk), .int (qI fr), .int (qI ti), .int (qI fa)])), (m1, qA (E 0) 635 ms), (m2, qA (E 0) 635 ma), (m3, qA (E 0) 3175 mv), (m4, qA (E 0) 140 mt), (m5, qA (E 0) 2 mn), (m6, qA (E 0) 64 ml), (m7, qA (E 0) 49152 mr)] 0 [(0, .ref m0), (1, .int (qI x1))] []
  refine z_iload_n C 1 rfl rfl dX5_sign_0 ?_
  refine z_aload_n C 0 rfl rfl dX5_sign_1 ?_
  refine z_get C iX5_sign_X5 0 rfl rfl 6 (by decide) (List.mem_of_getElem? (i := 1) rfl) rfl rfl dX5_sign_2 ?_
  refine z_icmp_ge (tgt := 17) C hw.1 (by decide) dX5_sign_5 (fun c1 => ?_) (fun c1 => ?_)
  · replace hw := hw.2.1 c1
    refine z_iconst C dX5_sign_17 ?_
    refine z_lst (ps := []) (lv' := []) (st' := [.int (qI (-1 : Int))]) rfl rfl ?_
    exact hB18 (-1 : Int) hw
  · replace hw := hw.2.2 c1
    refine z_aload_n C 0 rfl rfl dX5_sign_8 ?_
    refine z_get C iX5_sign_X5 0 rfl rfl 5 (by decide) (List.mem_of_getElem? (i := 2) rfl) rfl rfl dX5_sign_9 ?_
    refine z_iload_n C 1 rfl rfl dX5_sign_12 ?_
    refine z_iald C 4 rfl (by decide) hw.1 dX5_sign_13 ?_
    replace hw := hw.2
    refine z_name (fun v2 ev2 => ?_)
    replace hw := hw v2 ev2
    refine z_goto (tgt := 18) C (by decide) dX5_sign_14 ?_
    refine z_lst (ps := []) (lv' := []) (st' := [.int (qI v2)]) rfl rfl ?_
    exact hB18 v2 hw
def wp_X5_next_195 (Φ : Int → Int → Int → Prop)  (tk : Int) (fr : Int) (ti : Int) : Prop := Φ tk fr ti
def wp_X5_next_191 (Φ : Int → Int → Int → Prop)  (k1 : Int) (k2 : Int) (tk : Int) (fr : Int) (ti : Int) : Prop := (∀ v1 : Int, v1 = (k1 + k2) → wp_X5_next_195 Φ  tk fr v1)
def wp_X5_next_167 (Φ : Int → Int → Int → Prop)  (k1 : Int) (le : Int) (tk : Int) (fr : Int) (ti : Int) : Prop := ((qR fr ∧ qR le) ∧ (le ≤ fr → wp_X5_next_191 Φ  ti (0 : Int) k1 fr ti) ∧ (¬ (le ≤ fr) → wp_X5_next_191 Φ  ti (1 : Int) k1 fr ti))
def wp_X5_next_119 (Φ : Int → Int → Int → Prop)  (le : Int) (tk : Int) (fr : Int) (mt : Nat → Int) : Nat → Int → Prop
  | 0, _ => False
  | n9 + 1, ti => wp_X5_sign ti le mt (fun (r3 : Int) => wp_X5_in r3 (48 : Int) (57 : Int) (fun (r4 : Int) => (qR r4 ∧ (r4 = (0 : Int) → wp_X5_next_195 Φ  tk fr ti) ∧ (¬ (r4 = (0 : Int)) → (∀ v6 : Int, v6 = (ti + (1 : Int)) → wp_X5_next_119 Φ  le tk fr mt n9 v6)))))
def wp_X5_next_65 (Φ : Int → Int → Int → Prop)  (le : Int) (tk : Int) (fr : Int) (mt : Nat → Int) : Nat → Int → Prop
  | 0, _ => False
  | n9 + 1, ti => wp_X5_sign ti le mt (fun (r7 : Int) => wp_X5_in r7 (97 : Int) (122 : Int) (fun (r8 : Int) => (qR r8 ∧ (r8 = (0 : Int) → wp_X5_next_195 Φ  tk fr ti) ∧ (¬ (r8 = (0 : Int)) → (∀ v10 : Int, v10 = (ti + (1 : Int)) → wp_X5_next_65 Φ  le tk fr mt n9 v10)))))
def wp_X5_next_8 (Φ : Int → Int → Int → Prop)  (le : Int) (tk : Int) (ti : Int) (mt : Nat → Int) : Nat → Int → Prop
  | 0, _ => False
  | n9 + 1, fr => wp_X5_sign fr le mt (fun (r11 : Int) => ((qR r11 ∧ qR (32 : Int)) ∧ (¬ r11 = (32 : Int) → wp_X5_sign fr le mt (fun (r13 : Int) => wp_X5_in r13 (97 : Int) (122 : Int) (fun (r14 : Int) => (qR r14 ∧ (r14 = (0 : Int) → wp_X5_sign fr le mt (fun (r16 : Int) => wp_X5_in r16 (48 : Int) (57 : Int) (fun (r17 : Int) => (qR r17 ∧ (r17 = (0 : Int) → ((qR fr ∧ qR le) ∧ (le ≤ fr → wp_X5_next_167 Φ  (0 : Int) le tk fr fr) ∧ (¬ (le ≤ fr) → wp_X5_next_167 Φ  (3 : Int) le tk fr fr))) ∧ (¬ (r17 = (0 : Int)) → ∃ n : Nat, wp_X5_next_119 Φ  le (2 : Int) fr mt n fr))))) ∧ (¬ (r14 = (0 : Int)) → ∃ n : Nat, wp_X5_next_65 Φ  le (1 : Int) fr mt n fr))))) ∧ (¬ (¬ r11 = (32 : Int)) → (∀ v20 : Int, v20 = (fr + (1 : Int)) → wp_X5_next_8 Φ  le tk ti mt n9 v20))))
def wp_X5_next  (le : Int) (tk : Int) (fr : Int) (ti : Int) (mt : Nat → Int) (Φ : Int → Int → Int → Prop) : Prop := ∃ n : Nat, wp_X5_next_8 Φ  le tk ti mt n ti
theorem iX5_next_X5 : ∀ w ∈ wsX50, w ∈ wsX5_next := fun w h => List.mem_cons_of_mem _ (List.mem_append_right _ (h))
set_option maxHeartbeats 4000000 in
set_option maxRecDepth 100000 in
theorem c_X5_next (l : Launch) (D : va_G) (E : Nat → ClassId) (m0 m1 m2 m3 m4 m5 m6 m7 : Nat) (th : Int) (sm : Int) (le : Int) (tk : Int) (fr : Int) (ti : Int) (fa : Int) (ms : Nat → Int) (ma : Nat → Int) (mv : Nat → Int) (mt : Nat → Int) (mn : Nat → Int) (ml : Nat → Int) (mr : Nat → Int)  {Φ : Int → Int → Int → Prop} (hw : wp_X5_next  le tk fr ti mt Φ) : qRW (σ := (Int) × (Int) × (Int)) l D E qF0 yX5_next wsX5_next 1 22 [(m0, .inr (5, [.int (qI th), .ref m1, .ref m2, .ref m3, .int (qI sm), .ref m4, .int (qI le), .ref m5, .ref m6, .ref m7, .int (qI tk), .int (qI fr), .int (qI ti), .int (qI fa)])), (m1, qA (E 0) 635 ms), (m2, qA (E 0) 635 ma), (m3, qA (E 0) 3175 mv), (m4, qA (E 0) 140 mt), (m5, qA (E 0) 2 mn), (m6, qA (E 0) 64 ml), (m7, qA (E 0) 49152 mr)] [.ref m0] qeV (fun u => [(m0, .inr (5, [.int (qI th), .ref m1, .ref m2, .ref m3, .int (qI sm), .ref m4, .int (qI le), .ref m5, .ref m6, .ref m7, .int (qI u.1), .int (qI u.2.1), .int (qI u.2.2), .int (qI fa)])), (m1, qA (E 0) 635 ms), (m2, qA (E 0) 635 ma), (m3, qA (E 0) 3175 mv), (m4, qA (E 0) 140 mt), (m5, qA (E 0) 2 mn), (m6, qA (E 0) 64 ml), (m7, qA (E 0) 49152 mr)]) (fun r u => Φ u.1 u.2.1 u.2.2) := by
  refine qRW_void (nL := 1) (own := RX5) qF0_ok (by decide) rfl rfl (Nat.le_of_ble_eq_true rfl) (fun X C hend => ?_)
  have hB195 : ∀ tk : Int, ∀ fr : Int, ∀ ti : Int, wp_X5_next_195 Φ  tk fr ti → qZ X 0 0 [(m0, .inr (5, [.int (qI th), .ref m1, .ref m2, .ref m3, .int (qI sm), .ref m4, .int (qI le), .ref m5, .ref m6, .ref m7, .int (qI tk), .int (qI fr), .int (qI ti), .int (qI fa)])), (m1, qA (E 0) 635 ms), (m2, qA (E 0) 635 ma), (m3, qA (E 0) 3175 mv), (m4, qA (E 0) 140 mt), (m5, qA (E 0) 2 mn), (m6, qA (E 0) 64 ml), (m7, qA (E 0) 49152 mr)] 195 [] [] := by
    intro tk fr ti hw
    unfold wp_X5_next_195 at hw
    exact hend 195 _ () (tk, fr, ti) dX5_next_195 hw
  have hB191 : ∀ k1 : Int, ∀ k2 : Int, ∀ tk : Int, ∀ fr : Int, ∀ ti : Int, wp_X5_next_191 Φ  k1 k2 tk fr ti → qZ X 0 0 [(m0, .inr (5, [.int (qI th), .ref m1, .ref m2, .ref m3, .int (qI sm), .ref m4, .int (qI le), .ref m5, .ref m6, .ref m7, .int (qI tk), .int (qI fr), .int (qI ti), .int (qI fa)])), (m1, qA (E 0) 635 ms), (m2, qA (E 0) 635 ma), (m3, qA (E 0) 3175 mv), (m4, qA (E 0) 140 mt), (m5, qA (E 0) 2 mn), (m6, qA (E 0) 64 ml), (m7, qA (E 0) 49152 mr)] 191 [] [.int (qI k2), .int (qI k1), .ref m0] := by
    intro k1 k2 tk fr ti hw
    unfold wp_X5_next_191 at hw
    refine z_iadd C dX5_next_191 ?_
    refine z_name (fun v1 ev1 => ?_)
    replace hw := hw v1 ev1
    refine z_put (ty := .int) (ws' := [(m0, .inr (5, [.int (qI th), .ref m1, .ref m2, .ref m3, .int (qI sm), .ref m4, .int (qI le), .ref m5, .ref m6, .ref m7, .int (qI tk), .int (qI fr), .int (qI v1), .int (qI fa)])), (m1, qA (E 0) 635 ms), (m2, qA (E 0) 635 ma), (m3, qA (E 0) 3175 mv), (m4, qA (E 0) 140 mt), (m5, qA (E 0) 2 mn), (m6, qA (E 0) 64 ml), (m7, qA (E 0) 49152 mr)]) C iX5_next_X5 tyX5 tyX5_ok nmX5 0 rfl rfl 12 (by decide) (List.mem_of_getElem? (i := 1) rfl) rfl rfl (by decide +kernel) rfl rfl (Nat.le_of_ble_eq_true rfl) rfl dX5_next_192 ?_
    refine z_lst (ps := []) (lv' := []) (st' := []) rfl rfl ?_
    exact hB195 tk fr v1 hw
  have hB167 : ∀ k1 : Int, ∀ tk : Int, ∀ fr : Int, ∀ ti : Int, wp_X5_next_167 Φ  k1 le tk fr ti → qZ X 0 0 [(m0, .inr (5, [.int (qI th), .ref m1, .ref m2, .ref m3, .int (qI sm), .ref m4, .int (qI le), .ref m5, .ref m6, .ref m7, .int (qI tk), .int (qI fr), .int (qI ti), .int (qI fa)])), (m1, qA (E 0) 635 ms), (m2, qA (E 0) 635 ma), (m3, qA (E 0) 3175 mv), (m4, qA (E 0) 140 mt), (m5, qA (E 0) 2 mn), (m6, qA (E 0) 64 ml), (m7, qA (E 0) 49152 mr)] 167 [(0, .ref m0)] [.int (qI k1), .ref m0] := by
    intro k1 tk fr ti hw
    unfold wp_X5_next_167 at hw
    refine z_put (ty := .int) (ws' := [(m0, .inr (5, [.int (qI th), .ref m1, .ref m2, .ref m3, .int (qI sm), .ref m4, .int (qI le), .ref m5, .ref m6, .ref m7, .int (qI k1), .int (qI fr), .int (qI ti), .int (qI fa)])), (m1, qA (E 0) 635 ms), (m2, qA (E 0) 635 ma), (m3, qA (E 0) 3175 mv), (m4, qA (E 0) 140 mt), (m5, qA (E 0) 2 mn), (m6, qA (E 0) 64 ml), (m7, qA (E 0) 49152 mr)]) C iX5_next_X5 tyX5 tyX5_ok nmX5 0 rfl rfl 10 (by decide) (List.mem_of_getElem? (i := 3) rfl) rfl rfl (by decide +kernel) rfl rfl (Nat.le_of_ble_eq_true rfl) rfl dX5_next_167 ?_
    refine z_aload_n C 0 rfl rfl dX5_next_170 ?_
    refine z_dup C rfl dX5_next_171 ?_
    refine z_get C iX5_next_X5 0 rfl rfl 12 (by decide) (List.mem_of_getElem? (i := 1) rfl) rfl rfl dX5_next_172 ?_
    refine z_aload_n C 0 rfl rfl dX5_next_175 ?_
    refine z_get C iX5_next_X5 0 rfl rfl 11 (by decide) (List.mem_of_getElem? (i := 2) rfl) rfl rfl dX5_next_176 ?_
    refine z_aload_n C 0 rfl rfl dX5_next_179 ?_
    refine z_get C iX5_next_X5 0 rfl rfl 6 (by decide) (List.mem_of_getElem? (i := 4) rfl) rfl rfl dX5_next_180 ?_
    refine z_icmp_ge (tgt := 190) C hw.1 (by decide) dX5_next_183 (fun c2 => ?_) (fun c2 => ?_)
    · replace hw := hw.2.1 c2
      refine z_iconst C dX5_next_190 ?_
      refine z_lst (ps := []) (lv' := []) (st' := [.int (qI (0 : Int)), .int (qI ti), .ref m0]) rfl rfl ?_
      exact hB191 ti (0 : Int) k1 fr ti hw
    · replace hw := hw.2.2 c2
      refine z_iconst C dX5_next_186 ?_
      refine z_goto (tgt := 191) C (by decide) dX5_next_187 ?_
      refine z_lst (ps := []) (lv' := []) (st' := [.int (qI (1 : Int)), .int (qI ti), .ref m0]) rfl rfl ?_
      exact hB191 ti (1 : Int) k1 fr ti hw
  have hB119 : ∀ tk : Int, ∀ fr : Int, ∀ n8 : Nat, ∀ ti : Int, wp_X5_next_119 Φ  le tk fr mt n8 ti → qZ X 0 0 [(m0, .inr (5, [.int (qI th), .ref m1, .ref m2, .ref m3, .int (qI sm), .ref m4, .int (qI le), .ref m5, .ref m6, .ref m7, .int (qI tk), .int (qI fr), .int (qI ti), .int (qI fa)])), (m1, qA (E 0) 635 ms), (m2, qA (E 0) 635 ma), (m3, qA (E 0) 3175 mv), (m4, qA (E 0) 140 mt), (m5, qA (E 0) 2 mn), (m6, qA (E 0) 64 ml), (m7, qA (E 0) 49152 mr)] 119 [(0, .ref m0)] [] := by
    intro tk fr n8
    induction n8 with
    | zero =>
      intro ti hw
      exact hw.elim
    | succ n9 ih =>
      intro ti hw
      unfold wp_X5_next_119 at hw
      refine z_aload_n C 0 rfl rfl dX5_next_119 ?_
      refine z_aload_n C 0 rfl rfl dX5_next_120 ?_
      refine z_get C iX5_next_X5 0 rfl rfl 12 (by decide) (List.mem_of_getElem? (i := 1) rfl) rfl rfl dX5_next_121 ?_
      refine z_callV (n := 1) C (c_X5_sign l D E m0 m1 m2 m3 m4 m5 m6 m7 th sm le tk fr ti fa ms ma mv mt mn ml mr ti hw) qF0_ok (fun _ _ _ => trivial) gX5_next_X5_sign rfl (by decide +kernel) ⟨(Nat.le_of_ble_eq_true rfl), (Nat.le_of_ble_eq_true rfl)⟩ rfl 0 rfl rfl [0, 1, 2, 3, 4, 5, 6, 7] rfl rfl (Nat.le_of_ble_eq_true rfl) dX5_next_124 (fun r3 hw => ?_)
      show qZ X 0 0 [(m0, .inr (5, [.int (qI th), .ref m1, .ref m2, .ref m3, .int (qI sm), .ref m4, .int (qI le), .ref m5, .ref m6, .ref m7, .int (qI tk), .int (qI fr), .int (qI ti), .int (qI fa)])), (m1, qA (E 0) 635 ms), (m2, qA (E 0) 635 ma), (m3, qA (E 0) 3175 mv), (m4, qA (E 0) 140 mt), (m5, qA (E 0) 2 mn), (m6, qA (E 0) 64 ml), (m7, qA (E 0) 49152 mr)] _ _ [.int (qI r3)]
      refine z_bipush C (by decide +kernel) dX5_next_127 ?_
      refine z_bipush C (by decide +kernel) dX5_next_129 ?_
      refine z_callS (n := 3) C (c_X5_in l D E   r3 (48 : Int) (57 : Int) hw) qF0_ok (fun _ _ _ => trivial) gX5_next_X5_in rfl (by decide +kernel) ⟨(Nat.le_of_ble_eq_true rfl), (Nat.le_of_ble_eq_true rfl)⟩ rfl [] rfl rfl (Nat.le_of_ble_eq_true rfl) dX5_next_131 (fun r4 hw => ?_)
      show qZ X 0 0 [(m0, .inr (5, [.int (qI th), .ref m1, .ref m2, .ref m3, .int (qI sm), .ref m4, .int (qI le), .ref m5, .ref m6, .ref m7, .int (qI tk), .int (qI fr), .int (qI ti), .int (qI fa)])), (m1, qA (E 0) 635 ms), (m2, qA (E 0) 635 ma), (m3, qA (E 0) 3175 mv), (m4, qA (E 0) 140 mt), (m5, qA (E 0) 2 mn), (m6, qA (E 0) 64 ml), (m7, qA (E 0) 49152 mr)] _ _ [.int (qI r4)]
      refine z_if_eq (tgt := 195) C hw.1 (by decide) dX5_next_134 (fun c5 => ?_) (fun c5 => ?_)
      · replace hw := hw.2.1 c5
        refine z_lst (ps := []) (lv' := []) (st' := []) rfl rfl ?_
        exact hB195 tk fr ti hw
      · replace hw := hw.2.2 c5
        refine z_aload_n C 0 rfl rfl dX5_next_137 ?_
        refine z_dup C rfl dX5_next_138 ?_
        refine z_get C iX5_next_X5 0 rfl rfl 12 (by decide) (List.mem_of_getElem? (i := 1) rfl) rfl rfl dX5_next_139 ?_
        refine z_iconst C dX5_next_142 ?_
        refine z_iadd C dX5_next_143 ?_
        refine z_name (fun v6 ev6 => ?_)
        replace hw := hw v6 ev6
        refine z_put (ty := .int) (ws' := [(m0, .inr (5, [.int (qI th), .ref m1, .ref m2, .ref m3, .int (qI sm), .ref m4, .int (qI le), .ref m5, .ref m6, .ref m7, .int (qI tk), .int (qI fr), .int (qI v6), .int (qI fa)])), (m1, qA (E 0) 635 ms), (m2, qA (E 0) 635 ma), (m3, qA (E 0) 3175 mv), (m4, qA (E 0) 140 mt), (m5, qA (E 0) 2 mn), (m6, qA (E 0) 64 ml), (m7, qA (E 0) 49152 mr)]) C iX5_next_X5 tyX5 tyX5_ok nmX5 0 rfl rfl 12 (by decide) (List.mem_of_getElem? (i := 1) rfl) rfl rfl (by decide +kernel) rfl rfl (Nat.le_of_ble_eq_true rfl) rfl dX5_next_144 ?_
        refine z_goto (tgt := 119) C (by decide) dX5_next_147 ?_
        refine z_lst (ps := [0]) (lv' := [(0, .ref m0)]) (st' := []) rfl rfl ?_
        exact ih v6 hw
  have hB65 : ∀ tk : Int, ∀ fr : Int, ∀ n8 : Nat, ∀ ti : Int, wp_X5_next_65 Φ  le tk fr mt n8 ti → qZ X 0 0 [(m0, .inr (5, [.int (qI th), .ref m1, .ref m2, .ref m3, .int (qI sm), .ref m4, .int (qI le), .ref m5, .ref m6, .ref m7, .int (qI tk), .int (qI fr), .int (qI ti), .int (qI fa)])), (m1, qA (E 0) 635 ms), (m2, qA (E 0) 635 ma), (m3, qA (E 0) 3175 mv), (m4, qA (E 0) 140 mt), (m5, qA (E 0) 2 mn), (m6, qA (E 0) 64 ml), (m7, qA (E 0) 49152 mr)] 65 [(0, .ref m0)] [] := by
    intro tk fr n8
    induction n8 with
    | zero =>
      intro ti hw
      exact hw.elim
    | succ n9 ih =>
      intro ti hw
      unfold wp_X5_next_65 at hw
      refine z_aload_n C 0 rfl rfl dX5_next_65 ?_
      refine z_aload_n C 0 rfl rfl dX5_next_66 ?_
      refine z_get C iX5_next_X5 0 rfl rfl 12 (by decide) (List.mem_of_getElem? (i := 1) rfl) rfl rfl dX5_next_67 ?_
      refine z_callV (n := 1) C (c_X5_sign l D E m0 m1 m2 m3 m4 m5 m6 m7 th sm le tk fr ti fa ms ma mv mt mn ml mr ti hw) qF0_ok (fun _ _ _ => trivial) gX5_next_X5_sign rfl (by decide +kernel) ⟨(Nat.le_of_ble_eq_true rfl), (Nat.le_of_ble_eq_true rfl)⟩ rfl 0 rfl rfl [0, 1, 2, 3, 4, 5, 6, 7] rfl rfl (Nat.le_of_ble_eq_true rfl) dX5_next_70 (fun r7 hw => ?_)
      show qZ X 0 0 [(m0, .inr (5, [.int (qI th), .ref m1, .ref m2, .ref m3, .int (qI sm), .ref m4, .int (qI le), .ref m5, .ref m6, .ref m7, .int (qI tk), .int (qI fr), .int (qI ti), .int (qI fa)])), (m1, qA (E 0) 635 ms), (m2, qA (E 0) 635 ma), (m3, qA (E 0) 3175 mv), (m4, qA (E 0) 140 mt), (m5, qA (E 0) 2 mn), (m6, qA (E 0) 64 ml), (m7, qA (E 0) 49152 mr)] _ _ [.int (qI r7)]
      refine z_bipush C (by decide +kernel) dX5_next_73 ?_
      refine z_bipush C (by decide +kernel) dX5_next_75 ?_
      refine z_callS (n := 3) C (c_X5_in l D E   r7 (97 : Int) (122 : Int) hw) qF0_ok (fun _ _ _ => trivial) gX5_next_X5_in rfl (by decide +kernel) ⟨(Nat.le_of_ble_eq_true rfl), (Nat.le_of_ble_eq_true rfl)⟩ rfl [] rfl rfl (Nat.le_of_ble_eq_true rfl) dX5_next_77 (fun r8 hw => ?_)
      show qZ X 0 0 [(m0, .inr (5, [.int (qI th), .ref m1, .ref m2, .ref m3, .int (qI sm), .ref m4, .int (qI le), .ref m5, .ref m6, .ref m7, .int (qI tk), .int (qI fr), .int (qI ti), .int (qI fa)])), (m1, qA (E 0) 635 ms), (m2, qA (E 0) 635 ma), (m3, qA (E 0) 3175 mv), (m4, qA (E 0) 140 mt), (m5, qA (E 0) 2 mn), (m6, qA (E 0) 64 ml), (m7, qA (E 0) 49152 mr)] _ _ [.int (qI r8)]
      refine z_if_eq (tgt := 195) C hw.1 (by decide) dX5_next_80 (fun c9 => ?_) (fun c9 => ?_)
      · replace hw := hw.2.1 c9
        refine z_lst (ps := []) (lv' := []) (st' := []) rfl rfl ?_
        exact hB195 tk fr ti hw
      · replace hw := hw.2.2 c9
        refine z_aload_n C 0 rfl rfl dX5_next_83 ?_
        refine z_dup C rfl dX5_next_84 ?_
        refine z_get C iX5_next_X5 0 rfl rfl 12 (by decide) (List.mem_of_getElem? (i := 1) rfl) rfl rfl dX5_next_85 ?_
        refine z_iconst C dX5_next_88 ?_
        refine z_iadd C dX5_next_89 ?_
        refine z_name (fun v10 ev10 => ?_)
        replace hw := hw v10 ev10
        refine z_put (ty := .int) (ws' := [(m0, .inr (5, [.int (qI th), .ref m1, .ref m2, .ref m3, .int (qI sm), .ref m4, .int (qI le), .ref m5, .ref m6, .ref m7, .int (qI tk), .int (qI fr), .int (qI v10), .int (qI fa)])), (m1, qA (E 0) 635 ms), (m2, qA (E 0) 635 ma), (m3, qA (E 0) 3175 mv), (m4, qA (E 0) 140 mt), (m5, qA (E 0) 2 mn), (m6, qA (E 0) 64 ml), (m7, qA (E 0) 49152 mr)]) C iX5_next_X5 tyX5 tyX5_ok nmX5 0 rfl rfl 12 (by decide) (List.mem_of_getElem? (i := 1) rfl) rfl rfl (by decide +kernel) rfl rfl (Nat.le_of_ble_eq_true rfl) rfl dX5_next_90 ?_
        refine z_goto (tgt := 65) C (by decide) dX5_next_93 ?_
        refine z_lst (ps := [0]) (lv' := [(0, .ref m0)]) (st' := []) rfl rfl ?_
        exact ih v10 hw
  have hB8 : ∀ tk : Int, ∀ ti : Int, ∀ n8 : Nat, ∀ fr : Int, wp_X5_next_8 Φ  le tk ti mt n8 fr → qZ X 0 0 [(m0, .inr (5, [.int (qI th), .ref m1, .ref m2, .ref m3, .int (qI sm), .ref m4, .int (qI le), .ref m5, .ref m6, .ref m7, .int (qI tk), .int (qI fr), .int (qI ti), .int (qI fa)])), (m1, qA (E 0) 635 ms), (m2, qA (E 0) 635 ma), (m3, qA (E 0) 3175 mv), (m4, qA (E 0) 140 mt), (m5, qA (E 0) 2 mn), (m6, qA (E 0) 64 ml), (m7, qA (E 0) 49152 mr)] 8 [(0, .ref m0)] [] := by
    intro tk ti n8
    induction n8 with
    | zero =>
      intro fr hw
      exact hw.elim
    | succ n9 ih =>
      intro fr hw
      unfold wp_X5_next_8 at hw
      refine z_aload_n C 0 rfl rfl dX5_next_8 ?_
      refine z_aload_n C 0 rfl rfl dX5_next_9 ?_
      refine z_get C iX5_next_X5 0 rfl rfl 11 (by decide) (List.mem_of_getElem? (i := 2) rfl) rfl rfl dX5_next_10 ?_
      refine z_callV (n := 1) C (c_X5_sign l D E m0 m1 m2 m3 m4 m5 m6 m7 th sm le tk fr ti fa ms ma mv mt mn ml mr fr hw) qF0_ok (fun _ _ _ => trivial) gX5_next_X5_sign rfl (by decide +kernel) ⟨(Nat.le_of_ble_eq_true rfl), (Nat.le_of_ble_eq_true rfl)⟩ rfl 0 rfl rfl [0, 1, 2, 3, 4, 5, 6, 7] rfl rfl (Nat.le_of_ble_eq_true rfl) dX5_next_13 (fun r11 hw => ?_)
      show qZ X 0 0 [(m0, .inr (5, [.int (qI th), .ref m1, .ref m2, .ref m3, .int (qI sm), .ref m4, .int (qI le), .ref m5, .ref m6, .ref m7, .int (qI tk), .int (qI fr), .int (qI ti), .int (qI fa)])), (m1, qA (E 0) 635 ms), (m2, qA (E 0) 635 ma), (m3, qA (E 0) 3175 mv), (m4, qA (E 0) 140 mt), (m5, qA (E 0) 2 mn), (m6, qA (E 0) 64 ml), (m7, qA (E 0) 49152 mr)] _ _ [.int (qI r11)]
      refine z_bipush C (by decide +kernel) dX5_next_16 ?_
      refine z_icmp_ne (tgt := 34) C hw.1 (by decide) dX5_next_18 (fun c12 => ?_) (fun c12 => ?_)
      · replace hw := hw.2.1 c12
        refine z_aload_n C 0 rfl rfl dX5_next_34 ?_
        refine z_aload_n C 0 rfl rfl dX5_next_35 ?_
        refine z_get C iX5_next_X5 0 rfl rfl 11 (by decide) (List.mem_of_getElem? (i := 2) rfl) rfl rfl dX5_next_36 ?_
        refine z_put (ty := .int) (ws' := [(m0, .inr (5, [.int (qI th), .ref m1, .ref m2, .ref m3, .int (qI sm), .ref m4, .int (qI le), .ref m5, .ref m6, .ref m7, .int (qI tk), .int (qI fr), .int (qI fr), .int (qI fa)])), (m1, qA (E 0) 635 ms), (m2, qA (E 0) 635 ma), (m3, qA (E 0) 3175 mv), (m4, qA (E 0) 140 mt), (m5, qA (E 0) 2 mn), (m6, qA (E 0) 64 ml), (m7, qA (E 0) 49152 mr)]) C iX5_next_X5 tyX5 tyX5_ok nmX5 0 rfl rfl 12 (by decide) (List.mem_of_getElem? (i := 1) rfl) rfl rfl (by decide +kernel) rfl rfl (Nat.le_of_ble_eq_true rfl) rfl dX5_next_39 ?_
        refine z_aload_n C 0 rfl rfl dX5_next_42 ?_
        refine z_aload_n C 0 rfl rfl dX5_next_43 ?_
        refine z_get C iX5_next_X5 0 rfl rfl 11 (by decide) (List.mem_of_getElem? (i := 2) rfl) rfl rfl dX5_next_44 ?_
        refine z_callV (n := 1) C (c_X5_sign l D E m0 m1 m2 m3 m4 m5 m6 m7 th sm le tk fr fr fa ms ma mv mt mn ml mr fr hw) qF0_ok (fun _ _ _ => trivial) gX5_next_X5_sign rfl (by decide +kernel) ⟨(Nat.le_of_ble_eq_true rfl), (Nat.le_of_ble_eq_true rfl)⟩ rfl 0 rfl rfl [0, 1, 2, 3, 4, 5, 6, 7] rfl rfl (Nat.le_of_ble_eq_true rfl) dX5_next_47 (fun r13 hw => ?_)
        show qZ X 0 0 [(m0, .inr (5, [.int (qI th), .ref m1, .ref m2, .ref m3, .int (qI sm), .ref m4, .int (qI le), .ref m5, .ref m6, .ref m7, .int (qI tk), .int (qI fr), .int (qI fr), .int (qI fa)])), (m1, qA (E 0) 635 ms), (m2, qA (E 0) 635 ma), (m3, qA (E 0) 3175 mv), (m4, qA (E 0) 140 mt), (m5, qA (E 0) 2 mn), (m6, qA (E 0) 64 ml), (m7, qA (E 0) 49152 mr)] _ _ [.int (qI r13)]
        refine z_bipush C (by decide +kernel) dX5_next_50 ?_
        refine z_bipush C (by decide +kernel) dX5_next_52 ?_
        refine z_callS (n := 3) C (c_X5_in l D E   r13 (97 : Int) (122 : Int) hw) qF0_ok (fun _ _ _ => trivial) gX5_next_X5_in rfl (by decide +kernel) ⟨(Nat.le_of_ble_eq_true rfl), (Nat.le_of_ble_eq_true rfl)⟩ rfl [] rfl rfl (Nat.le_of_ble_eq_true rfl) dX5_next_54 (fun r14 hw => ?_)
        show qZ X 0 0 [(m0, .inr (5, [.int (qI th), .ref m1, .ref m2, .ref m3, .int (qI sm), .ref m4, .int (qI le), .ref m5, .ref m6, .ref m7, .int (qI tk), .int (qI fr), .int (qI fr), .int (qI fa)])), (m1, qA (E 0) 635 ms), (m2, qA (E 0) 635 ma), (m3, qA (E 0) 3175 mv), (m4, qA (E 0) 140 mt), (m5, qA (E 0) 2 mn), (m6, qA (E 0) 64 ml), (m7, qA (E 0) 49152 mr)] _ _ [.int (qI r14)]
        refine z_if_eq (tgt := 96) C hw.1 (by decide) dX5_next_57 (fun c15 => ?_) (fun c15 => ?_)
        · replace hw := hw.2.1 c15
          refine z_aload_n C 0 rfl rfl dX5_next_96 ?_
          refine z_aload_n C 0 rfl rfl dX5_next_97 ?_
          refine z_get C iX5_next_X5 0 rfl rfl 11 (by decide) (List.mem_of_getElem? (i := 2) rfl) rfl rfl dX5_next_98 ?_
          refine z_callV (n := 1) C (c_X5_sign l D E m0 m1 m2 m3 m4 m5 m6 m7 th sm le tk fr fr fa ms ma mv mt mn ml mr fr hw) qF0_ok (fun _ _ _ => trivial) gX5_next_X5_sign rfl (by decide +kernel) ⟨(Nat.le_of_ble_eq_true rfl), (Nat.le_of_ble_eq_true rfl)⟩ rfl 0 rfl rfl [0, 1, 2, 3, 4, 5, 6, 7] rfl rfl (Nat.le_of_ble_eq_true rfl) dX5_next_101 (fun r16 hw => ?_)
          show qZ X 0 0 [(m0, .inr (5, [.int (qI th), .ref m1, .ref m2, .ref m3, .int (qI sm), .ref m4, .int (qI le), .ref m5, .ref m6, .ref m7, .int (qI tk), .int (qI fr), .int (qI fr), .int (qI fa)])), (m1, qA (E 0) 635 ms), (m2, qA (E 0) 635 ma), (m3, qA (E 0) 3175 mv), (m4, qA (E 0) 140 mt), (m5, qA (E 0) 2 mn), (m6, qA (E 0) 64 ml), (m7, qA (E 0) 49152 mr)] _ _ [.int (qI r16)]
          refine z_bipush C (by decide +kernel) dX5_next_104 ?_
          refine z_bipush C (by decide +kernel) dX5_next_106 ?_
          refine z_callS (n := 3) C (c_X5_in l D E   r16 (48 : Int) (57 : Int) hw) qF0_ok (fun _ _ _ => trivial) gX5_next_X5_in rfl (by decide +kernel) ⟨(Nat.le_of_ble_eq_true rfl), (Nat.le_of_ble_eq_true rfl)⟩ rfl [] rfl rfl (Nat.le_of_ble_eq_true rfl) dX5_next_108 (fun r17 hw => ?_)
          show qZ X 0 0 [(m0, .inr (5, [.int (qI th), .ref m1, .ref m2, .ref m3, .int (qI sm), .ref m4, .int (qI le), .ref m5, .ref m6, .ref m7, .int (qI tk), .int (qI fr), .int (qI fr), .int (qI fa)])), (m1, qA (E 0) 635 ms), (m2, qA (E 0) 635 ma), (m3, qA (E 0) 3175 mv), (m4, qA (E 0) 140 mt), (m5, qA (E 0) 2 mn), (m6, qA (E 0) 64 ml), (m7, qA (E 0) 49152 mr)] _ _ [.int (qI r17)]
          refine z_if_eq (tgt := 150) C hw.1 (by decide) dX5_next_111 (fun c18 => ?_) (fun c18 => ?_)
          · replace hw := hw.2.1 c18
            refine z_aload_n C 0 rfl rfl dX5_next_150 ?_
            refine z_aload_n C 0 rfl rfl dX5_next_151 ?_
            refine z_get C iX5_next_X5 0 rfl rfl 11 (by decide) (List.mem_of_getElem? (i := 2) rfl) rfl rfl dX5_next_152 ?_
            refine z_aload_n C 0 rfl rfl dX5_next_155 ?_
            refine z_get C iX5_next_X5 0 rfl rfl 6 (by decide) (List.mem_of_getElem? (i := 4) rfl) rfl rfl dX5_next_156 ?_
            refine z_icmp_ge (tgt := 166) C hw.1 (by decide) dX5_next_159 (fun c19 => ?_) (fun c19 => ?_)
            · replace hw := hw.2.1 c19
              refine z_iconst C dX5_next_166 ?_
              refine z_lst (ps := [0]) (lv' := [(0, .ref m0)]) (st' := [.int (qI (0 : Int)), .ref m0]) rfl rfl ?_
              exact hB167 (0 : Int) tk fr fr hw
            · replace hw := hw.2.2 c19
              refine z_iconst C dX5_next_162 ?_
              refine z_goto (tgt := 167) C (by decide) dX5_next_163 ?_
              refine z_lst (ps := [0]) (lv' := [(0, .ref m0)]) (st' := [.int (qI (3 : Int)), .ref m0]) rfl rfl ?_
              exact hB167 (3 : Int) tk fr fr hw
          · replace hw := hw.2.2 c18
            refine z_aload_n C 0 rfl rfl dX5_next_114 ?_
            refine z_iconst C dX5_next_115 ?_
            refine z_put (ty := .int) (ws' := [(m0, .inr (5, [.int (qI th), .ref m1, .ref m2, .ref m3, .int (qI sm), .ref m4, .int (qI le), .ref m5, .ref m6, .ref m7, .int (qI (2 : Int)), .int (qI fr), .int (qI fr), .int (qI fa)])), (m1, qA (E 0) 635 ms), (m2, qA (E 0) 635 ma), (m3, qA (E 0) 3175 mv), (m4, qA (E 0) 140 mt), (m5, qA (E 0) 2 mn), (m6, qA (E 0) 64 ml), (m7, qA (E 0) 49152 mr)]) C iX5_next_X5 tyX5 tyX5_ok nmX5 0 rfl rfl 10 (by decide) (List.mem_of_getElem? (i := 3) rfl) rfl rfl (by decide +kernel) rfl rfl (Nat.le_of_ble_eq_true rfl) rfl dX5_next_116 ?_
            refine z_lst (ps := [0]) (lv' := [(0, .ref m0)]) (st' := []) rfl rfl ?_
            obtain ⟨n8, hw⟩ := hw
            exact hB119 (2 : Int) fr n8 fr hw
        · replace hw := hw.2.2 c15
          refine z_aload_n C 0 rfl rfl dX5_next_60 ?_
          refine z_iconst C dX5_next_61 ?_
          refine z_put (ty := .int) (ws' := [(m0, .inr (5, [.int (qI th), .ref m1, .ref m2, .ref m3, .int (qI sm), .ref m4, .int (qI le), .ref m5, .ref m6, .ref m7, .int (qI (1 : Int)), .int (qI fr), .int (qI fr), .int (qI fa)])), (m1, qA (E 0) 635 ms), (m2, qA (E 0) 635 ma), (m3, qA (E 0) 3175 mv), (m4, qA (E 0) 140 mt), (m5, qA (E 0) 2 mn), (m6, qA (E 0) 64 ml), (m7, qA (E 0) 49152 mr)]) C iX5_next_X5 tyX5 tyX5_ok nmX5 0 rfl rfl 10 (by decide) (List.mem_of_getElem? (i := 3) rfl) rfl rfl (by decide +kernel) rfl rfl (Nat.le_of_ble_eq_true rfl) rfl dX5_next_62 ?_
          refine z_lst (ps := [0]) (lv' := [(0, .ref m0)]) (st' := []) rfl rfl ?_
          obtain ⟨n8, hw⟩ := hw
          exact hB65 (1 : Int) fr n8 fr hw
      · replace hw := hw.2.2 c12
        refine z_aload_n C 0 rfl rfl dX5_next_21 ?_
        refine z_dup C rfl dX5_next_22 ?_
        refine z_get C iX5_next_X5 0 rfl rfl 11 (by decide) (List.mem_of_getElem? (i := 2) rfl) rfl rfl dX5_next_23 ?_
        refine z_iconst C dX5_next_26 ?_
        refine z_iadd C dX5_next_27 ?_
        refine z_name (fun v20 ev20 => ?_)
        replace hw := hw v20 ev20
        refine z_put (ty := .int) (ws' := [(m0, .inr (5, [.int (qI th), .ref m1, .ref m2, .ref m3, .int (qI sm), .ref m4, .int (qI le), .ref m5, .ref m6, .ref m7, .int (qI tk), .int (qI v20), .int (qI ti), .int (qI fa)])), (m1, qA (E 0) 635 ms), (m2, qA (E 0) 635 ma), (m3, qA (E 0) 3175 mv), (m4, qA (E 0) 140 mt), (m5, qA (E 0) 2 mn), (m6, qA (E 0) 64 ml), (m7, qA (E 0) 49152 mr)]) C iX5_next_X5 tyX5 tyX5_ok nmX5 0 rfl rfl 11 (by decide) (List.mem_of_getElem? (i := 2) rfl) rfl rfl (by decide +kernel) rfl rfl (Nat.le_of_ble_eq_true rfl) rfl dX5_next_28 ?_
        refine z_goto (tgt := 8) C (by decide) dX5_next_31 ?_
        refine z_lst (ps := [0]) (lv' := [(0, .ref m0)]) (st' := []) rfl rfl ?_
        exact ih v20 hw
  unfold wp_X5_next at hw
  show qZ X 0 0 [(m0, .inr (5, [.int (qI th), .ref m1, .ref m2, .ref m3, .int (qI sm), .ref m4, .int (qI le), .ref m5, .ref m6, .ref m7, .int (qI tk), .int (qI fr), .int (qI ti), .int (qI fa)])), (m1, qA (E 0) 635 ms), (m2, qA (E 0) 635 ma), (m3, qA (E 0) 3175 mv), (m4, qA (E 0) 140 mt), (m5, qA (E 0) 2 mn), (m6, qA (E 0) 64 ml), (m7, qA (E 0) 49152 mr)] 0 [(0, .ref m0)] []
  refine z_aload_n C 0 rfl rfl dX5_next_0 ?_
  refine z_aload_n C 0 rfl rfl dX5_next_1 ?_
  refine z_get C iX5_next_X5 0 rfl rfl 12 (by decide) (List.mem_of_getElem? (i := 1) rfl) rfl rfl dX5_next_2 ?_
  refine z_put (ty := .int) (ws' := [(m0, .inr (5, [.int (qI th), .ref m1, .ref m2, .ref m3, .int (qI sm), .ref m4, .int (qI le), .ref m5, .ref m6, .ref m7, .int (qI tk), .int (qI ti), .int (qI ti), .int (qI fa)])), (m1, qA (E 0) 635 ms), (m2, qA (E 0) 635 ma), (m3, qA (E 0) 3175 mv), (m4, qA (E 0) 140 mt), (m5, qA (E 0) 2 mn), (m6, qA (E 0) 64 ml), (m7, qA (E 0) 49152 mr)]) C iX5_next_X5 tyX5 tyX5_ok nmX5 0 rfl rfl 11 (by decide) (List.mem_of_getElem? (i := 2) rfl) rfl rfl (by decide +kernel) rfl rfl (Nat.le_of_ble_eq_true rfl) rfl dX5_next_5 ?_
  refine z_lst (ps := [0]) (lv' := [(0, .ref m0)]) (st' := []) rfl rfl ?_
  obtain ⟨n8, hw⟩ := hw
  exact hB8 tk ti n8 ti hw
def wp_X5_fail_16 (Φ : Int → Prop)  (k1 : Int) (fa : Int) : Prop := Φ k1
def wp_X5_fail (x1 : Int) (fa : Int) (Φ : Int → Prop) : Prop := (qR fa ∧ ((0 : Int) ≤ fa → wp_X5_fail_16 Φ  fa fa) ∧ (¬ ((0 : Int) ≤ fa) → wp_X5_fail_16 Φ  x1 fa))
theorem iX5_fail_X5 : ∀ w ∈ wsX50, w ∈ wsX5_fail := fun w h => List.mem_cons_of_mem _ (List.mem_append_right _ (h))
set_option maxHeartbeats 4000000 in
set_option maxRecDepth 100000 in
theorem c_X5_fail (l : Launch) (D : va_G) (E : Nat → ClassId) (m0 m1 m2 m3 m4 m5 m6 m7 : Nat) (th : Int) (sm : Int) (le : Int) (tk : Int) (fr : Int) (ti : Int) (fa : Int) (ms : Nat → Int) (ma : Nat → Int) (mv : Nat → Int) (mt : Nat → Int) (mn : Nat → Int) (ml : Nat → Int) (mr : Nat → Int) (x1 : Int) {Φ : Int → Prop} (hw : wp_X5_fail x1 fa Φ) : qRW (σ := (Int)) l D E qF0 yX5_fail wsX5_fail 0 0 [(m0, .inr (5, [.int (qI th), .ref m1, .ref m2, .ref m3, .int (qI sm), .ref m4, .int (qI le), .ref m5, .ref m6, .ref m7, .int (qI tk), .int (qI fr), .int (qI ti), .int (qI fa)])), (m1, qA (E 0) 635 ms), (m2, qA (E 0) 635 ma), (m3, qA (E 0) 3175 mv), (m4, qA (E 0) 140 mt), (m5, qA (E 0) 2 mn), (m6, qA (E 0) 64 ml), (m7, qA (E 0) 49152 mr)] [.ref m0, .int (qI x1)] qeV (fun u => [(m0, .inr (5, [.int (qI th), .ref m1, .ref m2, .ref m3, .int (qI sm), .ref m4, .int (qI le), .ref m5, .ref m6, .ref m7, .int (qI tk), .int (qI fr), .int (qI ti), .int (qI u)])), (m1, qA (E 0) 635 ms), (m2, qA (E 0) 635 ma), (m3, qA (E 0) 3175 mv), (m4, qA (E 0) 140 mt), (m5, qA (E 0) 2 mn), (m6, qA (E 0) 64 ml), (m7, qA (E 0) 49152 mr)]) (fun r u => Φ u) := by
  refine qRW_void (nL := 2) (own := RX5) qF0_ok (by decide) rfl rfl (Nat.le_of_ble_eq_true rfl) (fun X C hend => ?_)
  have hB16 : ∀ k1 : Int, ∀ fa : Int, wp_X5_fail_16 Φ  k1 fa → qZ X 0 0 [(m0, .inr (5, [.int (qI th), .ref m1, .ref m2, .ref m3, .int (qI sm), .ref m4, .int (qI le), .ref m5, .ref m6, .ref m7, .int (qI tk), .int (qI fr), .int (qI ti), .int (qI fa)])), (m1, qA (E 0) 635 ms), (m2, qA (E 0) 635 ma), (m3, qA (E 0) 3175 mv), (m4, qA (E 0) 140 mt), (m5, qA (E 0) 2 mn), (m6, qA (E 0) 64 ml), (m7, qA (E 0) 49152 mr)] 16 [] [.int (qI k1), .ref m0] := by
    intro k1 fa hw
    unfold wp_X5_fail_16 at hw
    refine z_put (ty := .int) (ws' := [(m0, .inr (5, [.int (qI th), .ref m1, .ref m2, .ref m3, .int (qI sm), .ref m4, .int (qI le), .ref m5, .ref m6, .ref m7, .int (qI tk), .int (qI fr), .int (qI ti), .int (qI k1)])), (m1, qA (E 0) 635 ms), (m2, qA (E 0) 635 ma), (m3, qA (E 0) 3175 mv), (m4, qA (E 0) 140 mt), (m5, qA (E 0) 2 mn), (m6, qA (E 0) 64 ml), (m7, qA (E 0) 49152 mr)]) C iX5_fail_X5 tyX5 tyX5_ok nmX5 0 rfl rfl 13 (by decide) (List.mem_of_getElem? (i := 1) rfl) rfl rfl (by decide +kernel) rfl rfl (Nat.le_of_ble_eq_true rfl) rfl dX5_fail_16 ?_
    exact hend 19 _ () k1 dX5_fail_19 hw
  unfold wp_X5_fail at hw
  show qZ X 0 0 [(m0, .inr (5, [.int (qI th), .ref m1, .ref m2, .ref m3, .int (qI sm), .ref m4, .int (qI le), .ref m5, .ref m6, .ref m7, .int (qI tk), .int (qI fr), .int (qI ti), .int (qI fa)])), (m1, qA (E 0) 635 ms), (m2, qA (E 0) 635 ma), (m3, qA (E 0) 3175 mv), (m4, qA (E 0) 140 mt), (m5, qA (E 0) 2 mn), (m6, qA (E 0) 64 ml), (m7, qA (E 0) 49152 mr)] 0 [(0, .ref m0), (1, .int (qI x1))] []
  refine z_aload_n C 0 rfl rfl dX5_fail_0 ?_
  refine z_aload_n C 0 rfl rfl dX5_fail_1 ?_
  refine z_get C iX5_fail_X5 0 rfl rfl 13 (by decide) (List.mem_of_getElem? (i := 1) rfl) rfl rfl dX5_fail_2 ?_
  refine z_if_ge (tgt := 12) C hw.1 (by decide) dX5_fail_5 (fun c1 => ?_) (fun c1 => ?_)
  · replace hw := hw.2.1 c1
    refine z_aload_n C 0 rfl rfl dX5_fail_12 ?_
    refine z_get C iX5_fail_X5 0 rfl rfl 13 (by decide) (List.mem_of_getElem? (i := 1) rfl) rfl rfl dX5_fail_13 ?_
    refine z_lst (ps := []) (lv' := []) (st' := [.int (qI fa), .ref m0]) rfl rfl ?_
    exact hB16 fa fa hw
  · replace hw := hw.2.2 c1
    refine z_iload_n C 1 rfl rfl dX5_fail_8 ?_
    refine z_goto (tgt := 16) C (by decide) dX5_fail_9 ?_
    refine z_lst (ps := []) (lv' := []) (st' := [.int (qI x1), .ref m0]) rfl rfl ?_
    exact hB16 x1 fa hw
def wp_X5_spelled_57 (Φ : Int → Prop)  (k0 : Int) : Prop := Φ k0
def wp_X5_spelled (x0 : Int) (x1 : Int) (x2 : Int) (x3 : Int) (x4 : Int) (x5 : Int) (x6 : Int)  (Φ : Int → Prop) : Prop := (qR x0 ∧ (¬ x0 = (0 : Int) → ((qR x0 ∧ qR (1 : Int)) ∧ (¬ x0 = (1 : Int) → ((qR x0 ∧ qR (2 : Int)) ∧ (¬ x0 = (2 : Int) → ((qR x0 ∧ qR (3 : Int)) ∧ (¬ x0 = (3 : Int) → ((qR x0 ∧ qR (4 : Int)) ∧ (¬ x0 = (4 : Int) → ((qR x0 ∧ qR (5 : Int)) ∧ (¬ x0 = (5 : Int) → wp_X5_spelled_57 Φ  (0 : Int)) ∧ (¬ (¬ x0 = (5 : Int)) → wp_X5_spelled_57 Φ  x6))) ∧ (¬ (¬ x0 = (4 : Int)) → wp_X5_spelled_57 Φ  x5))) ∧ (¬ (¬ x0 = (3 : Int)) → wp_X5_spelled_57 Φ  x4))) ∧ (¬ (¬ x0 = (2 : Int)) → wp_X5_spelled_57 Φ  x3))) ∧ (¬ (¬ x0 = (1 : Int)) → wp_X5_spelled_57 Φ  x2))) ∧ (¬ (¬ x0 = (0 : Int)) → wp_X5_spelled_57 Φ  x1))
set_option maxHeartbeats 4000000 in
set_option maxRecDepth 100000 in
theorem c_X5_spelled (l : Launch) (D : va_G) (E : Nat → ClassId)   (x0 : Int) (x1 : Int) (x2 : Int) (x3 : Int) (x4 : Int) (x5 : Int) (x6 : Int) {Φ : Int → Prop} (hw : wp_X5_spelled x0 x1 x2 x3 x4 x5 x6  Φ) : qRO l D E qF0 yX5_spelled wsX5_spelled 0 0 [] [.int (qI x0), .int (qI x1), .int (qI x2), .int (qI x3), .int (qI x4), .int (qI x5), .int (qI x6)] qeI (fun r => Φ r) := by
  refine qRO_int (nL := 7) (own := RX5) qF0_ok (by decide) rfl rfl (Nat.le_of_ble_eq_true rfl) (fun X C hend => ?_)
  have hB57 : ∀ k0 : Int, wp_X5_spelled_57 Φ  k0 → qZ X 0 0 [] 57 [] [.int (qI k0)] := by
    intro k0 hw
    unfold wp_X5_spelled_57 at hw
    exact hend 57 _ k0 dX5_spelled_57 hw
  unfold wp_X5_spelled at hw
  show qZ X 0 0 [] 0 [(0, .int (qI x0)), (1, .int (qI x1)), (2, .int (qI x2)), (3, .int (qI x3)), (4, .int (qI x4)), (5, .int (qI x5)), (6, .int (qI x6))] []
  refine z_iload_n C 0 rfl rfl dX5_spelled_0 ?_
  refine z_if_ne (tgt := 8) C hw.1 (by decide) dX5_spelled_1 (fun c1 => ?_) (fun c1 => ?_)
  · replace hw := hw.2.1 c1
    refine z_iload_n C 0 rfl rfl dX5_spelled_8 ?_
    refine z_iconst C dX5_spelled_9 ?_
    refine z_icmp_ne (tgt := 17) C hw.1 (by decide) dX5_spelled_10 (fun c2 => ?_) (fun c2 => ?_)
    · replace hw := hw.2.1 c2
      refine z_iload_n C 0 rfl rfl dX5_spelled_17 ?_
      refine z_iconst C dX5_spelled_18 ?_
      refine z_icmp_ne (tgt := 26) C hw.1 (by decide) dX5_spelled_19 (fun c3 => ?_) (fun c3 => ?_)
      · replace hw := hw.2.1 c3
        refine z_iload_n C 0 rfl rfl dX5_spelled_26 ?_
        refine z_iconst C dX5_spelled_27 ?_
        refine z_icmp_ne (tgt := 36) C hw.1 (by decide) dX5_spelled_28 (fun c4 => ?_) (fun c4 => ?_)
        · replace hw := hw.2.1 c4
          refine z_iload_n C 0 rfl rfl dX5_spelled_36 ?_
          refine z_iconst C dX5_spelled_37 ?_
          refine z_icmp_ne (tgt := 46) C hw.1 (by decide) dX5_spelled_38 (fun c5 => ?_) (fun c5 => ?_)
          · replace hw := hw.2.1 c5
            refine z_iload_n C 0 rfl rfl dX5_spelled_46 ?_
            refine z_iconst C dX5_spelled_47 ?_
            refine z_icmp_ne (tgt := 56) C hw.1 (by decide) dX5_spelled_48 (fun c6 => ?_) (fun c6 => ?_)
            · replace hw := hw.2.1 c6
              refine z_iconst C dX5_spelled_56 ?_
              refine z_lst (ps := []) (lv' := []) (st' := [.int (qI (0 : Int))]) rfl rfl ?_
              exact hB57 (0 : Int) hw
            · replace hw := hw.2.2 c6
              refine z_iload C 6 rfl dX5_spelled_51 ?_
              refine z_goto (tgt := 57) C (by decide) dX5_spelled_53 ?_
              refine z_lst (ps := []) (lv' := []) (st' := [.int (qI x6)]) rfl rfl ?_
              exact hB57 x6 hw
          · replace hw := hw.2.2 c5
            refine z_iload C 5 rfl dX5_spelled_41 ?_
            refine z_goto (tgt := 57) C (by decide) dX5_spelled_43 ?_
            refine z_lst (ps := []) (lv' := []) (st' := [.int (qI x5)]) rfl rfl ?_
            exact hB57 x5 hw
        · replace hw := hw.2.2 c4
          refine z_iload C 4 rfl dX5_spelled_31 ?_
          refine z_goto (tgt := 57) C (by decide) dX5_spelled_33 ?_
          refine z_lst (ps := []) (lv' := []) (st' := [.int (qI x4)]) rfl rfl ?_
          exact hB57 x4 hw
      · replace hw := hw.2.2 c3
        refine z_iload_n C 3 rfl rfl dX5_spelled_22 ?_
        refine z_goto (tgt := 57) C (by decide) dX5_spelled_23 ?_
        refine z_lst (ps := []) (lv' := []) (st' := [.int (qI x3)]) rfl rfl ?_
        exact hB57 x3 hw
    · replace hw := hw.2.2 c2
      refine z_iload_n C 2 rfl rfl dX5_spelled_13 ?_
      refine z_goto (tgt := 57) C (by decide) dX5_spelled_14 ?_
      refine z_lst (ps := []) (lv' := []) (st' := [.int (qI x2)]) rfl rfl ?_
      exact hB57 x2 hw
  · replace hw := hw.2.2 c1
    refine z_iload_n C 1 rfl rfl dX5_spelled_4 ?_
    refine z_goto (tgt := 57) C (by decide) dX5_spelled_5 ?_
    refine z_lst (ps := []) (lv' := []) (st' := [.int (qI x1)]) rfl rfl ?_
    exact hB57 x1 hw
def wp_X5_letterOf (x0 : Int) (x1 : Int)  (Φ : Int → Prop) : Prop := (qR x0 ∧ ((x0 < (0 : Int) ∨ (5 : Int) < x0) → wp_X5_spelled x1 (115 : Int) (119 : Int) (97 : Int) (112 : Int) (0 : Int) (0 : Int) (fun (r1 : Int) => Φ r1)) ∧ (x0 = (0 : Int) → wp_X5_spelled x1 (108 : Int) (105 : Int) (103 : Int) (104 : Int) (116 : Int) (0 : Int) (fun (r2 : Int) => Φ r2)) ∧ (x0 = (1 : Int) → wp_X5_spelled x1 (100 : Int) (97 : Int) (114 : Int) (107 : Int) (0 : Int) (0 : Int) (fun (r3 : Int) => Φ r3)) ∧ (x0 = (2 : Int) → wp_X5_spelled x1 (107 : Int) (105 : Int) (110 : Int) (100 : Int) (0 : Int) (0 : Int) (fun (r4 : Int) => Φ r4)) ∧ (x0 = (3 : Int) → wp_X5_spelled x1 (100 : Int) (117 : Int) (108 : Int) (108 : Int) (0 : Int) (0 : Int) (fun (r5 : Int) => Φ r5)) ∧ (x0 = (4 : Int) → wp_X5_spelled x1 (115 : Int) (101 : Int) (99 : Int) (114 : Int) (101 : Int) (116 : Int) (fun (r6 : Int) => Φ r6)) ∧ (x0 = (5 : Int) → wp_X5_spelled x1 (115 : Int) (111 : Int) (114 : Int) (116 : Int) (0 : Int) (0 : Int) (fun (r7 : Int) => Φ r7)))
set_option maxHeartbeats 4000000 in
set_option maxRecDepth 100000 in
theorem c_X5_letterOf (l : Launch) (D : va_G) (E : Nat → ClassId)   (x0 : Int) (x1 : Int) {Φ : Int → Prop} (hw : wp_X5_letterOf x0 x1  Φ) : qRO l D E qF0 yX5_letterOf wsX5_letterOf 1 26 [] [.int (qI x0), .int (qI x1)] qeI (fun r => Φ r) := by
  refine qRO_int (nL := 2) (own := RX5) qF0_ok (by decide) rfl rfl (Nat.le_of_ble_eq_true rfl) (fun X C hend => ?_)
  unfold wp_X5_letterOf at hw
  show qZ X 0 0 [] 0 [(0, .int (qI x0)), (1, .int (qI x1))] []
  refine z_iload_n C 0 rfl rfl dX5_letterOf_0 ?_
  rcases (show (x0 < (0 : Int) ∨ (5 : Int) < x0) ∨ x0 = (0 : Int) ∨ x0 = (1 : Int) ∨ x0 = (2 : Int) ∨ x0 = (3 : Int) ∨ x0 = (4 : Int) ∨ x0 = (5 : Int) by omega) with c8 | c8 | c8 | c8 | c8 | c8 | c8
  · refine z_swOut (tgt := 133) C hw.1 c8 (by decide) dX5_letterOf_1 ?_
    replace hw := hw.2.1 c8
    refine z_iload_n C 1 rfl rfl dX5_letterOf_133 ?_
    refine z_bipush C (by decide +kernel) dX5_letterOf_134 ?_
    refine z_bipush C (by decide +kernel) dX5_letterOf_136 ?_
    refine z_bipush C (by decide +kernel) dX5_letterOf_138 ?_
    refine z_bipush C (by decide +kernel) dX5_letterOf_140 ?_
    refine z_iconst C dX5_letterOf_142 ?_
    refine z_iconst C dX5_letterOf_143 ?_
    refine z_callS (n := 7) C (c_X5_spelled l D E   x1 (115 : Int) (119 : Int) (97 : Int) (112 : Int) (0 : Int) (0 : Int) hw) qF0_ok (fun _ _ _ => trivial) gX5_letterOf_X5_spelled rfl (by decide +kernel) ⟨(Nat.le_of_ble_eq_true rfl), (Nat.le_of_ble_eq_true rfl)⟩ rfl [] rfl rfl (Nat.le_of_ble_eq_true rfl) dX5_letterOf_144 (fun r1 hw => ?_)
    show qZ X 0 0 [] _ _ [.int (qI r1)]
    exact hend 147 _ r1 dX5_letterOf_147 hw
  · refine z_swIn (off := (39 : Int)) (tgt := 40) C hw.1 (by omega) (by omega) (by rw [c8]; rfl) (by decide) dX5_letterOf_1 ?_
    replace hw := hw.2.2.1 c8
    refine z_iload_n C 1 rfl rfl dX5_letterOf_40 ?_
    refine z_bipush C (by decide +kernel) dX5_letterOf_41 ?_
    refine z_bipush C (by decide +kernel) dX5_letterOf_43 ?_
    refine z_bipush C (by decide +kernel) dX5_letterOf_45 ?_
    refine z_bipush C (by decide +kernel) dX5_letterOf_47 ?_
    refine z_bipush C (by decide +kernel) dX5_letterOf_49 ?_
    refine z_iconst C dX5_letterOf_51 ?_
    refine z_callS (n := 7) C (c_X5_spelled l D E   x1 (108 : Int) (105 : Int) (103 : Int) (104 : Int) (116 : Int) (0 : Int) hw) qF0_ok (fun _ _ _ => trivial) gX5_letterOf_X5_spelled rfl (by decide +kernel) ⟨(Nat.le_of_ble_eq_true rfl), (Nat.le_of_ble_eq_true rfl)⟩ rfl [] rfl rfl (Nat.le_of_ble_eq_true rfl) dX5_letterOf_52 (fun r2 hw => ?_)
    show qZ X 0 0 [] _ _ [.int (qI r2)]
    exact hend 55 _ r2 dX5_letterOf_55 hw
  · refine z_swIn (off := (55 : Int)) (tgt := 56) C hw.1 (by omega) (by omega) (by rw [c8]; rfl) (by decide) dX5_letterOf_1 ?_
    replace hw := hw.2.2.2.1 c8
    refine z_iload_n C 1 rfl rfl dX5_letterOf_56 ?_
    refine z_bipush C (by decide +kernel) dX5_letterOf_57 ?_
    refine z_bipush C (by decide +kernel) dX5_letterOf_59 ?_
    refine z_bipush C (by decide +kernel) dX5_letterOf_61 ?_
    refine z_bipush C (by decide +kernel) dX5_letterOf_63 ?_
    refine z_iconst C dX5_letterOf_65 ?_
    refine z_iconst C dX5_letterOf_66 ?_
    refine z_callS (n := 7) C (c_X5_spelled l D E   x1 (100 : Int) (97 : Int) (114 : Int) (107 : Int) (0 : Int) (0 : Int) hw) qF0_ok (fun _ _ _ => trivial) gX5_letterOf_X5_spelled rfl (by decide +kernel) ⟨(Nat.le_of_ble_eq_true rfl), (Nat.le_of_ble_eq_true rfl)⟩ rfl [] rfl rfl (Nat.le_of_ble_eq_true rfl) dX5_letterOf_67 (fun r3 hw => ?_)
    show qZ X 0 0 [] _ _ [.int (qI r3)]
    exact hend 70 _ r3 dX5_letterOf_70 hw
  · refine z_swIn (off := (70 : Int)) (tgt := 71) C hw.1 (by omega) (by omega) (by rw [c8]; rfl) (by decide) dX5_letterOf_1 ?_
    replace hw := hw.2.2.2.2.1 c8
    refine z_iload_n C 1 rfl rfl dX5_letterOf_71 ?_
    refine z_bipush C (by decide +kernel) dX5_letterOf_72 ?_
    refine z_bipush C (by decide +kernel) dX5_letterOf_74 ?_
    refine z_bipush C (by decide +kernel) dX5_letterOf_76 ?_
    refine z_bipush C (by decide +kernel) dX5_letterOf_78 ?_
    refine z_iconst C dX5_letterOf_80 ?_
    refine z_iconst C dX5_letterOf_81 ?_
    refine z_callS (n := 7) C (c_X5_spelled l D E   x1 (107 : Int) (105 : Int) (110 : Int) (100 : Int) (0 : Int) (0 : Int) hw) qF0_ok (fun _ _ _ => trivial) gX5_letterOf_X5_spelled rfl (by decide +kernel) ⟨(Nat.le_of_ble_eq_true rfl), (Nat.le_of_ble_eq_true rfl)⟩ rfl [] rfl rfl (Nat.le_of_ble_eq_true rfl) dX5_letterOf_82 (fun r4 hw => ?_)
    show qZ X 0 0 [] _ _ [.int (qI r4)]
    exact hend 85 _ r4 dX5_letterOf_85 hw
  · refine z_swIn (off := (85 : Int)) (tgt := 86) C hw.1 (by omega) (by omega) (by rw [c8]; rfl) (by decide) dX5_letterOf_1 ?_
    replace hw := hw.2.2.2.2.2.1 c8
    refine z_iload_n C 1 rfl rfl dX5_letterOf_86 ?_
    refine z_bipush C (by decide +kernel) dX5_letterOf_87 ?_
    refine z_bipush C (by decide +kernel) dX5_letterOf_89 ?_
    refine z_bipush C (by decide +kernel) dX5_letterOf_91 ?_
    refine z_bipush C (by decide +kernel) dX5_letterOf_93 ?_
    refine z_iconst C dX5_letterOf_95 ?_
    refine z_iconst C dX5_letterOf_96 ?_
    refine z_callS (n := 7) C (c_X5_spelled l D E   x1 (100 : Int) (117 : Int) (108 : Int) (108 : Int) (0 : Int) (0 : Int) hw) qF0_ok (fun _ _ _ => trivial) gX5_letterOf_X5_spelled rfl (by decide +kernel) ⟨(Nat.le_of_ble_eq_true rfl), (Nat.le_of_ble_eq_true rfl)⟩ rfl [] rfl rfl (Nat.le_of_ble_eq_true rfl) dX5_letterOf_97 (fun r5 hw => ?_)
    show qZ X 0 0 [] _ _ [.int (qI r5)]
    exact hend 100 _ r5 dX5_letterOf_100 hw
  · refine z_swIn (off := (100 : Int)) (tgt := 101) C hw.1 (by omega) (by omega) (by rw [c8]; rfl) (by decide) dX5_letterOf_1 ?_
    replace hw := hw.2.2.2.2.2.2.1 c8
    refine z_iload_n C 1 rfl rfl dX5_letterOf_101 ?_
    refine z_bipush C (by decide +kernel) dX5_letterOf_102 ?_
    refine z_bipush C (by decide +kernel) dX5_letterOf_104 ?_
    refine z_bipush C (by decide +kernel) dX5_letterOf_106 ?_
    refine z_bipush C (by decide +kernel) dX5_letterOf_108 ?_
    refine z_bipush C (by decide +kernel) dX5_letterOf_110 ?_
    refine z_bipush C (by decide +kernel) dX5_letterOf_112 ?_
    refine z_callS (n := 7) C (c_X5_spelled l D E   x1 (115 : Int) (101 : Int) (99 : Int) (114 : Int) (101 : Int) (116 : Int) hw) qF0_ok (fun _ _ _ => trivial) gX5_letterOf_X5_spelled rfl (by decide +kernel) ⟨(Nat.le_of_ble_eq_true rfl), (Nat.le_of_ble_eq_true rfl)⟩ rfl [] rfl rfl (Nat.le_of_ble_eq_true rfl) dX5_letterOf_114 (fun r6 hw => ?_)
    show qZ X 0 0 [] _ _ [.int (qI r6)]
    exact hend 117 _ r6 dX5_letterOf_117 hw
  · refine z_swIn (off := (117 : Int)) (tgt := 118) C hw.1 (by omega) (by omega) (by rw [c8]; rfl) (by decide) dX5_letterOf_1 ?_
    replace hw := hw.2.2.2.2.2.2.2 c8
    refine z_iload_n C 1 rfl rfl dX5_letterOf_118 ?_
    refine z_bipush C (by decide +kernel) dX5_letterOf_119 ?_
    refine z_bipush C (by decide +kernel) dX5_letterOf_121 ?_
    refine z_bipush C (by decide +kernel) dX5_letterOf_123 ?_
    refine z_bipush C (by decide +kernel) dX5_letterOf_125 ?_
    refine z_iconst C dX5_letterOf_127 ?_
    refine z_iconst C dX5_letterOf_128 ?_
    refine z_callS (n := 7) C (c_X5_spelled l D E   x1 (115 : Int) (111 : Int) (114 : Int) (116 : Int) (0 : Int) (0 : Int) hw) qF0_ok (fun _ _ _ => trivial) gX5_letterOf_X5_spelled rfl (by decide +kernel) ⟨(Nat.le_of_ble_eq_true rfl), (Nat.le_of_ble_eq_true rfl)⟩ rfl [] rfl rfl (Nat.le_of_ble_eq_true rfl) dX5_letterOf_129 (fun r7 hw => ?_)
    show qZ X 0 0 [] _ _ [.int (qI r7)]
    exact hend 132 _ r7 dX5_letterOf_132 hw
def wp_X5_isWord_68 (Φ : Int → Prop)  (x2 : Int) : Prop := ((x2 = 0 ∨ x2 = 1) ∧ Φ x2)
def wp_X5_isWord_61 (Φ : Int → Prop) (K4 : Int → Int → Prop) (x1 : Int) (x3 : Int) (k0 : Int) (le : Int) (fr : Int) (ti : Int) (mt : Nat → Int) : Prop := (∀ v1 : Int, v1 = x3 + (1 : Int) → K4 k0 v1)
def wp_X5_isWord_53 (Φ : Int → Prop) (K4 : Int → Int → Prop) (x1 : Int) (x3 : Int) (k0 : Int) (k1 : Int) (le : Int) (fr : Int) (ti : Int) (mt : Nat → Int) : Prop := ((qR k0 ∧ qR k1) ∧ (¬ k0 = k1 → wp_X5_isWord_61 Φ K4 x1 x3 (0 : Int) le fr ti mt) ∧ (¬ (¬ k0 = k1) → wp_X5_isWord_61 Φ K4 x1 x3 (1 : Int) le fr ti mt))
def wp_X5_isWord_4 (Φ : Int → Prop)  (x1 : Int) (le : Int) (fr : Int) (ti : Int) (mt : Nat → Int) : Nat → Int → Int → Prop
  | 0, _, _ => False
  | n9 + 1, x2, x3 => ((qR x3 ∧ qR (ti - fr)) ∧ ((ti - fr) < x3 → wp_X5_isWord_68 Φ  x2) ∧ (¬ ((ti - fr) < x3) → (qR x2 ∧ (x2 = (0 : Int) → wp_X5_isWord_68 Φ  x2) ∧ (¬ (x2 = (0 : Int)) → wp_X5_letterOf x1 x3 (fun (r5 : Int) => ((qR x3 ∧ qR (ti - fr)) ∧ ((ti - fr) ≤ x3 → wp_X5_isWord_53 Φ (wp_X5_isWord_4 Φ  x1 le fr ti mt n9) x1 x3 r5 (0 : Int) le fr ti mt) ∧ (¬ ((ti - fr) ≤ x3) → wp_X5_sign (fr + x3) le mt (fun (r7 : Int) => wp_X5_isWord_53 Φ (wp_X5_isWord_4 Φ  x1 le fr ti mt n9) x1 x3 r5 r7 le fr ti mt))))))))
def wp_X5_isWord (x1 : Int) (le : Int) (fr : Int) (ti : Int) (mt : Nat → Int) (Φ : Int → Prop) : Prop := ∃ n : Nat, wp_X5_isWord_4 Φ  x1 le fr ti mt n (1 : Int) (0 : Int)
theorem iX5_isWord_X5 : ∀ w ∈ wsX50, w ∈ wsX5_isWord := fun w h => List.mem_cons_of_mem _ (List.mem_append_right _ (h))
set_option maxHeartbeats 4000000 in
set_option maxRecDepth 100000 in
theorem c_X5_isWord (l : Launch) (D : va_G) (E : Nat → ClassId) (m0 m1 m2 m3 m4 m5 m6 m7 : Nat) (th : Int) (sm : Int) (le : Int) (tk : Int) (fr : Int) (ti : Int) (fa : Int) (ms : Nat → Int) (ma : Nat → Int) (mv : Nat → Int) (mt : Nat → Int) (mn : Nat → Int) (ml : Nat → Int) (mr : Nat → Int) (x1 : Int) {Φ : Int → Prop} (hw : wp_X5_isWord x1 le fr ti mt Φ) : qRO l D E qF0 yX5_isWord wsX5_isWord 2 47 [(m0, .inr (5, [.int (qI th), .ref m1, .ref m2, .ref m3, .int (qI sm), .ref m4, .int (qI le), .ref m5, .ref m6, .ref m7, .int (qI tk), .int (qI fr), .int (qI ti), .int (qI fa)])), (m1, qA (E 0) 635 ms), (m2, qA (E 0) 635 ma), (m3, qA (E 0) 3175 mv), (m4, qA (E 0) 140 mt), (m5, qA (E 0) 2 mn), (m6, qA (E 0) 64 ml), (m7, qA (E 0) 49152 mr)] [.ref m0, .int (qI x1)] qeI (fun r => Φ r) := by
  refine qRO_bool (nL := 4) (own := RX5) qF0_ok (by decide) rfl rfl (Nat.le_of_ble_eq_true rfl) (fun X C hend => ?_)
  have hB68 : ∀ x2 : Int, wp_X5_isWord_68 Φ  x2 → qZ X 0 0 [(m0, .inr (5, [.int (qI th), .ref m1, .ref m2, .ref m3, .int (qI sm), .ref m4, .int (qI le), .ref m5, .ref m6, .ref m7, .int (qI tk), .int (qI fr), .int (qI ti), .int (qI fa)])), (m1, qA (E 0) 635 ms), (m2, qA (E 0) 635 ma), (m3, qA (E 0) 3175 mv), (m4, qA (E 0) 140 mt), (m5, qA (E 0) 2 mn), (m6, qA (E 0) 64 ml), (m7, qA (E 0) 49152 mr)] 68 [(2, .int (qI x2))] [] := by
    intro x2 hw
    unfold wp_X5_isWord_68 at hw
    refine z_iload_n C 0 rfl rfl dX5_isWord_68 ?_
    exact hend 69 _ x2 dX5_isWord_69 hw.1 hw.2
  have hB61 : ∀ x1 : Int, ∀ K4 : Int → Int → Prop, (∀ (x2 : Int) (x3 : Int), K4 x2 x3 → qZ X 0 0 [(m0, .inr (5, [.int (qI th), .ref m1, .ref m2, .ref m3, .int (qI sm), .ref m4, .int (qI le), .ref m5, .ref m6, .ref m7, .int (qI tk), .int (qI fr), .int (qI ti), .int (qI fa)])), (m1, qA (E 0) 635 ms), (m2, qA (E 0) 635 ma), (m3, qA (E 0) 3175 mv), (m4, qA (E 0) 140 mt), (m5, qA (E 0) 2 mn), (m6, qA (E 0) 64 ml), (m7, qA (E 0) 49152 mr)] 4 [(0, .ref m0), (1, .int (qI x1)), (2, .int (qI x2)), (3, .int (qI x3))] []) → ∀ x3 : Int, ∀ k0 : Int, wp_X5_isWord_61 Φ K4 x1 x3 k0 le fr ti mt → qZ X 0 0 [(m0, .inr (5, [.int (qI th), .ref m1, .ref m2, .ref m3, .int (qI sm), .ref m4, .int (qI le), .ref m5, .ref m6, .ref m7, .int (qI tk), .int (qI fr), .int (qI ti), .int (qI fa)])), (m1, qA (E 0) 635 ms), (m2, qA (E 0) 635 ma), (m3, qA (E 0) 3175 mv), (m4, qA (E 0) 140 mt), (m5, qA (E 0) 2 mn), (m6, qA (E 0) 64 ml), (m7, qA (E 0) 49152 mr)] 61 [(0, .ref m0), (1, .int (qI x1)), (3, .int (qI x3))] [.int (qI k0)] := by
    intro x1 K4 hK4 x3 k0 hw
    unfold wp_X5_isWord_61 at hw
    refine z_istore_n C rfl (by decide) rfl dX5_isWord_61 ?_
    obtain ⟨v1, ev1⟩ : ∃ v1 : Int, v1 = x3 + (1 : Int) := ⟨_, rfl⟩
    replace hw := hw v1 ev1
    refine z_iinc C 3 rfl (by decide) v1 ev1 rfl dX5_isWord_62 ?_
    refine z_goto (tgt := 4) C (by decide) dX5_isWord_65 ?_
    refine z_lst (ps := [2, 3, 1, 0]) (lv' := [(0, .ref m0), (1, .int (qI x1)), (2, .int (qI k0)), (3, .int (qI v1))]) (st' := []) rfl rfl ?_
    exact hK4 k0 v1 hw
  have hB53 : ∀ x1 : Int, ∀ K4 : Int → Int → Prop, (∀ (x2 : Int) (x3 : Int), K4 x2 x3 → qZ X 0 0 [(m0, .inr (5, [.int (qI th), .ref m1, .ref m2, .ref m3, .int (qI sm), .ref m4, .int (qI le), .ref m5, .ref m6, .ref m7, .int (qI tk), .int (qI fr), .int (qI ti), .int (qI fa)])), (m1, qA (E 0) 635 ms), (m2, qA (E 0) 635 ma), (m3, qA (E 0) 3175 mv), (m4, qA (E 0) 140 mt), (m5, qA (E 0) 2 mn), (m6, qA (E 0) 64 ml), (m7, qA (E 0) 49152 mr)] 4 [(0, .ref m0), (1, .int (qI x1)), (2, .int (qI x2)), (3, .int (qI x3))] []) → ∀ x3 : Int, ∀ k0 : Int, ∀ k1 : Int, wp_X5_isWord_53 Φ K4 x1 x3 k0 k1 le fr ti mt → qZ X 0 0 [(m0, .inr (5, [.int (qI th), .ref m1, .ref m2, .ref m3, .int (qI sm), .ref m4, .int (qI le), .ref m5, .ref m6, .ref m7, .int (qI tk), .int (qI fr), .int (qI ti), .int (qI fa)])), (m1, qA (E 0) 635 ms), (m2, qA (E 0) 635 ma), (m3, qA (E 0) 3175 mv), (m4, qA (E 0) 140 mt), (m5, qA (E 0) 2 mn), (m6, qA (E 0) 64 ml), (m7, qA (E 0) 49152 mr)] 53 [(0, .ref m0), (1, .int (qI x1)), (3, .int (qI x3))] [.int (qI k1), .int (qI k0)] := by
    intro x1 K4 hK4 x3 k0 k1 hw
    unfold wp_X5_isWord_53 at hw
    refine z_icmp_ne (tgt := 60) C hw.1 (by decide) dX5_isWord_53 (fun c2 => ?_) (fun c2 => ?_)
    · replace hw := hw.2.1 c2
      refine z_iconst C dX5_isWord_60 ?_
      refine z_lst (ps := [0, 1, 2]) (lv' := [(0, .ref m0), (1, .int (qI x1)), (3, .int (qI x3))]) (st' := [.int (qI (0 : Int))]) rfl rfl ?_
      exact hB61 x1 _ hK4 x3 (0 : Int) hw
    · replace hw := hw.2.2 c2
      refine z_iconst C dX5_isWord_56 ?_
      refine z_goto (tgt := 61) C (by decide) dX5_isWord_57 ?_
      refine z_lst (ps := [0, 1, 2]) (lv' := [(0, .ref m0), (1, .int (qI x1)), (3, .int (qI x3))]) (st' := [.int (qI (1 : Int))]) rfl rfl ?_
      exact hB61 x1 _ hK4 x3 (1 : Int) hw
  have hB4 : ∀ x1 : Int, ∀ n8 : Nat, ∀ x2 : Int, ∀ x3 : Int, wp_X5_isWord_4 Φ  x1 le fr ti mt n8 x2 x3 → qZ X 0 0 [(m0, .inr (5, [.int (qI th), .ref m1, .ref m2, .ref m3, .int (qI sm), .ref m4, .int (qI le), .ref m5, .ref m6, .ref m7, .int (qI tk), .int (qI fr), .int (qI ti), .int (qI fa)])), (m1, qA (E 0) 635 ms), (m2, qA (E 0) 635 ma), (m3, qA (E 0) 3175 mv), (m4, qA (E 0) 140 mt), (m5, qA (E 0) 2 mn), (m6, qA (E 0) 64 ml), (m7, qA (E 0) 49152 mr)] 4 [(0, .ref m0), (1, .int (qI x1)), (2, .int (qI x2)), (3, .int (qI x3))] [] := by
    intro x1 n8
    induction n8 with
    | zero =>
      intro x2 x3 hw
      exact hw.elim
    | succ n9 ih =>
      intro x2 x3 hw
      unfold wp_X5_isWord_4 at hw
      refine z_iload_n C 3 rfl rfl dX5_isWord_4 ?_
      refine z_aload_n C 0 rfl rfl dX5_isWord_5 ?_
      refine z_get C iX5_isWord_X5 0 rfl rfl 12 (by decide) (List.mem_of_getElem? (i := 1) rfl) rfl rfl dX5_isWord_6 ?_
      refine z_aload_n C 0 rfl rfl dX5_isWord_9 ?_
      refine z_get C iX5_isWord_X5 0 rfl rfl 11 (by decide) (List.mem_of_getElem? (i := 2) rfl) rfl rfl dX5_isWord_10 ?_
      refine z_isub C dX5_isWord_13 ?_
      refine z_icmp_gt (tgt := 68) C hw.1 (by decide) dX5_isWord_14 (fun c3 => ?_) (fun c3 => ?_)
      · replace hw := hw.2.1 c3
        refine z_lst (ps := [2]) (lv' := [(2, .int (qI x2))]) (st' := []) rfl rfl ?_
        exact hB68 x2 hw
      · replace hw := hw.2.2 c3
        refine z_iload_n C 2 rfl rfl dX5_isWord_17 ?_
        refine z_if_eq (tgt := 68) C hw.1 (by decide) dX5_isWord_18 (fun c4 => ?_) (fun c4 => ?_)
        · replace hw := hw.2.1 c4
          refine z_lst (ps := [2]) (lv' := [(2, .int (qI x2))]) (st' := []) rfl rfl ?_
          exact hB68 x2 hw
        · replace hw := hw.2.2 c4
          refine z_iload_n C 1 rfl rfl dX5_isWord_21 ?_
          refine z_iload_n C 3 rfl rfl dX5_isWord_22 ?_
          refine z_callS (n := 2) C (c_X5_letterOf l D E   x1 x3 hw) qF0_ok (fun _ _ _ => trivial) gX5_isWord_X5_letterOf rfl (by decide +kernel) ⟨(Nat.le_of_ble_eq_true rfl), (Nat.le_of_ble_eq_true rfl)⟩ rfl [] rfl rfl (Nat.le_of_ble_eq_true rfl) dX5_isWord_23 (fun r5 hw => ?_)
          show qZ X 0 0 [(m0, .inr (5, [.int (qI th), .ref m1, .ref m2, .ref m3, .int (qI sm), .ref m4, .int (qI le), .ref m5, .ref m6, .ref m7, .int (qI tk), .int (qI fr), .int (qI ti), .int (qI fa)])), (m1, qA (E 0) 635 ms), (m2, qA (E 0) 635 ma), (m3, qA (E 0) 3175 mv), (m4, qA (E 0) 140 mt), (m5, qA (E 0) 2 mn), (m6, qA (E 0) 64 ml), (m7, qA (E 0) 49152 mr)] _ _ [.int (qI r5)]
          refine z_iload_n C 3 rfl rfl dX5_isWord_26 ?_
          refine z_aload_n C 0 rfl rfl dX5_isWord_27 ?_
          refine z_get C iX5_isWord_X5 0 rfl rfl 12 (by decide) (List.mem_of_getElem? (i := 1) rfl) rfl rfl dX5_isWord_28 ?_
          refine z_aload_n C 0 rfl rfl dX5_isWord_31 ?_
          refine z_get C iX5_isWord_X5 0 rfl rfl 11 (by decide) (List.mem_of_getElem? (i := 2) rfl) rfl rfl dX5_isWord_32 ?_
          refine z_isub C dX5_isWord_35 ?_
          refine z_icmp_ge (tgt := 52) C hw.1 (by decide) dX5_isWord_36 (fun c6 => ?_) (fun c6 => ?_)
          · replace hw := hw.2.1 c6
            refine z_iconst C dX5_isWord_52 ?_
            refine z_lst (ps := [0, 1, 3]) (lv' := [(0, .ref m0), (1, .int (qI x1)), (3, .int (qI x3))]) (st' := [.int (qI (0 : Int)), .int (qI r5)]) rfl rfl ?_
            exact hB53 x1 _ ih x3 r5 (0 : Int) hw
          · replace hw := hw.2.2 c6
            refine z_aload_n C 0 rfl rfl dX5_isWord_39 ?_
            refine z_aload_n C 0 rfl rfl dX5_isWord_40 ?_
            refine z_get C iX5_isWord_X5 0 rfl rfl 11 (by decide) (List.mem_of_getElem? (i := 2) rfl) rfl rfl dX5_isWord_41 ?_
            refine z_iload_n C 3 rfl rfl dX5_isWord_44 ?_
            refine z_iadd C dX5_isWord_45 ?_
            refine z_callV (n := 1) C (c_X5_sign l D E m0 m1 m2 m3 m4 m5 m6 m7 th sm le tk fr ti fa ms ma mv mt mn ml mr (fr + x3) hw) qF0_ok (fun _ _ _ => trivial) gX5_isWord_X5_sign rfl (by decide +kernel) ⟨(Nat.le_of_ble_eq_true rfl), (Nat.le_of_ble_eq_true rfl)⟩ rfl 0 rfl rfl [0, 1, 2, 3, 4, 5, 6, 7] rfl rfl (Nat.le_of_ble_eq_true rfl) dX5_isWord_46 (fun r7 hw => ?_)
            show qZ X 0 0 [(m0, .inr (5, [.int (qI th), .ref m1, .ref m2, .ref m3, .int (qI sm), .ref m4, .int (qI le), .ref m5, .ref m6, .ref m7, .int (qI tk), .int (qI fr), .int (qI ti), .int (qI fa)])), (m1, qA (E 0) 635 ms), (m2, qA (E 0) 635 ma), (m3, qA (E 0) 3175 mv), (m4, qA (E 0) 140 mt), (m5, qA (E 0) 2 mn), (m6, qA (E 0) 64 ml), (m7, qA (E 0) 49152 mr)] _ _ [.int (qI r7), .int (qI r5)]
            refine z_goto (tgt := 53) C (by decide) dX5_isWord_49 ?_
            refine z_lst (ps := [0, 1, 3]) (lv' := [(0, .ref m0), (1, .int (qI x1)), (3, .int (qI x3))]) (st' := [.int (qI r7), .int (qI r5)]) rfl rfl ?_
            exact hB53 x1 _ ih x3 r5 r7 hw
  unfold wp_X5_isWord at hw
  show qZ X 0 0 [(m0, .inr (5, [.int (qI th), .ref m1, .ref m2, .ref m3, .int (qI sm), .ref m4, .int (qI le), .ref m5, .ref m6, .ref m7, .int (qI tk), .int (qI fr), .int (qI ti), .int (qI fa)])), (m1, qA (E 0) 635 ms), (m2, qA (E 0) 635 ma), (m3, qA (E 0) 3175 mv), (m4, qA (E 0) 140 mt), (m5, qA (E 0) 2 mn), (m6, qA (E 0) 64 ml), (m7, qA (E 0) 49152 mr)] 0 [(0, .ref m0), (1, .int (qI x1))] []
  refine z_iconst C dX5_isWord_0 ?_
  refine z_istore_n C rfl (by decide) rfl dX5_isWord_1 ?_
  refine z_iconst C dX5_isWord_2 ?_
  refine z_istore_n C rfl (by decide) rfl dX5_isWord_3 ?_
  refine z_lst (ps := [2, 3, 1, 0]) (lv' := [(0, .ref m0), (1, .int (qI x1)), (2, .int (qI (1 : Int))), (3, .int (qI (0 : Int)))]) (st' := []) rfl rfl ?_
  obtain ⟨n8, hw⟩ := hw
  exact hB4 x1 n8 (1 : Int) (0 : Int) hw
def wp_X5_wordHere_36 (Φ : Int → Prop)  (k0 : Int) : Prop := Φ k0
def wp_X5_wordHere_22 (Φ : Int → Prop)  (x1 : Int) (tk : Int) : Prop := ((qR tk ∧ qR (1 : Int)) ∧ (¬ tk = (1 : Int) → wp_X5_wordHere_36 Φ  (7 : Int)) ∧ (¬ (¬ tk = (1 : Int)) → wp_X5_wordHere_36 Φ  x1))
def wp_X5_wordHere_2 (Φ : Int → Prop)  (le : Int) (tk : Int) (fr : Int) (ti : Int) (mt : Nat → Int) : Nat → Int → Prop
  | 0, _ => False
  | n9 + 1, x1 => ((qR x1 ∧ qR (7 : Int)) ∧ ((7 : Int) ≤ x1 → wp_X5_wordHere_22 Φ  x1 tk) ∧ (¬ ((7 : Int) ≤ x1) → wp_X5_isWord x1 le fr ti mt (fun (r3 : Int) => (qR r3 ∧ (¬ r3 = (0 : Int) → wp_X5_wordHere_22 Φ  x1 tk) ∧ (¬ (¬ r3 = (0 : Int)) → (∀ v5 : Int, v5 = x1 + (1 : Int) → wp_X5_wordHere_2 Φ  le tk fr ti mt n9 v5))))))
def wp_X5_wordHere  (le : Int) (tk : Int) (fr : Int) (ti : Int) (mt : Nat → Int) (Φ : Int → Prop) : Prop := ∃ n : Nat, wp_X5_wordHere_2 Φ  le tk fr ti mt n (0 : Int)
theorem iX5_wordHere_X5 : ∀ w ∈ wsX50, w ∈ wsX5_wordHere := fun w h => List.mem_cons_of_mem _ (List.mem_append_right _ (h))
set_option maxHeartbeats 4000000 in
set_option maxRecDepth 100000 in
theorem c_X5_wordHere (l : Launch) (D : va_G) (E : Nat → ClassId) (m0 m1 m2 m3 m4 m5 m6 m7 : Nat) (th : Int) (sm : Int) (le : Int) (tk : Int) (fr : Int) (ti : Int) (fa : Int) (ms : Nat → Int) (ma : Nat → Int) (mv : Nat → Int) (mt : Nat → Int) (mn : Nat → Int) (ml : Nat → Int) (mr : Nat → Int)  {Φ : Int → Prop} (hw : wp_X5_wordHere  le tk fr ti mt Φ) : qRO l D E qF0 yX5_wordHere wsX5_wordHere 3 70 [(m0, .inr (5, [.int (qI th), .ref m1, .ref m2, .ref m3, .int (qI sm), .ref m4, .int (qI le), .ref m5, .ref m6, .ref m7, .int (qI tk), .int (qI fr), .int (qI ti), .int (qI fa)])), (m1, qA (E 0) 635 ms), (m2, qA (E 0) 635 ma), (m3, qA (E 0) 3175 mv), (m4, qA (E 0) 140 mt), (m5, qA (E 0) 2 mn), (m6, qA (E 0) 64 ml), (m7, qA (E 0) 49152 mr)] [.ref m0] qeI (fun r => Φ r) := by
  refine qRO_int (nL := 2) (own := RX5) qF0_ok (by decide) rfl rfl (Nat.le_of_ble_eq_true rfl) (fun X C hend => ?_)
  have hB36 : ∀ k0 : Int, wp_X5_wordHere_36 Φ  k0 → qZ X 0 0 [(m0, .inr (5, [.int (qI th), .ref m1, .ref m2, .ref m3, .int (qI sm), .ref m4, .int (qI le), .ref m5, .ref m6, .ref m7, .int (qI tk), .int (qI fr), .int (qI ti), .int (qI fa)])), (m1, qA (E 0) 635 ms), (m2, qA (E 0) 635 ma), (m3, qA (E 0) 3175 mv), (m4, qA (E 0) 140 mt), (m5, qA (E 0) 2 mn), (m6, qA (E 0) 64 ml), (m7, qA (E 0) 49152 mr)] 36 [] [.int (qI k0)] := by
    intro k0 hw
    unfold wp_X5_wordHere_36 at hw
    exact hend 36 _ k0 dX5_wordHere_36 hw
  have hB22 : ∀ x1 : Int, wp_X5_wordHere_22 Φ  x1 tk → qZ X 0 0 [(m0, .inr (5, [.int (qI th), .ref m1, .ref m2, .ref m3, .int (qI sm), .ref m4, .int (qI le), .ref m5, .ref m6, .ref m7, .int (qI tk), .int (qI fr), .int (qI ti), .int (qI fa)])), (m1, qA (E 0) 635 ms), (m2, qA (E 0) 635 ma), (m3, qA (E 0) 3175 mv), (m4, qA (E 0) 140 mt), (m5, qA (E 0) 2 mn), (m6, qA (E 0) 64 ml), (m7, qA (E 0) 49152 mr)] 22 [(0, .ref m0), (1, .int (qI x1))] [] := by
    intro x1 hw
    unfold wp_X5_wordHere_22 at hw
    refine z_aload_n C 0 rfl rfl dX5_wordHere_22 ?_
    refine z_get C iX5_wordHere_X5 0 rfl rfl 10 (by decide) (List.mem_of_getElem? (i := 1) rfl) rfl rfl dX5_wordHere_23 ?_
    refine z_iconst C dX5_wordHere_26 ?_
    refine z_icmp_ne (tgt := 34) C hw.1 (by decide) dX5_wordHere_27 (fun c1 => ?_) (fun c1 => ?_)
    · replace hw := hw.2.1 c1
      refine z_bipush C (by decide +kernel) dX5_wordHere_34 ?_
      refine z_lst (ps := []) (lv' := []) (st' := [.int (qI (7 : Int))]) rfl rfl ?_
      exact hB36 (7 : Int) hw
    · replace hw := hw.2.2 c1
      refine z_iload_n C 1 rfl rfl dX5_wordHere_30 ?_
      refine z_goto (tgt := 36) C (by decide) dX5_wordHere_31 ?_
      refine z_lst (ps := []) (lv' := []) (st' := [.int (qI x1)]) rfl rfl ?_
      exact hB36 x1 hw
  have hB2 : ∀ n8 : Nat, ∀ x1 : Int, wp_X5_wordHere_2 Φ  le tk fr ti mt n8 x1 → qZ X 0 0 [(m0, .inr (5, [.int (qI th), .ref m1, .ref m2, .ref m3, .int (qI sm), .ref m4, .int (qI le), .ref m5, .ref m6, .ref m7, .int (qI tk), .int (qI fr), .int (qI ti), .int (qI fa)])), (m1, qA (E 0) 635 ms), (m2, qA (E 0) 635 ma), (m3, qA (E 0) 3175 mv), (m4, qA (E 0) 140 mt), (m5, qA (E 0) 2 mn), (m6, qA (E 0) 64 ml), (m7, qA (E 0) 49152 mr)] 2 [(0, .ref m0), (1, .int (qI x1))] [] := by
    intro n8
    induction n8 with
    | zero =>
      intro x1 hw
      exact hw.elim
    | succ n9 ih =>
      intro x1 hw
      unfold wp_X5_wordHere_2 at hw
      refine z_iload_n C 1 rfl rfl dX5_wordHere_2 ?_
      refine z_bipush C (by decide +kernel) dX5_wordHere_3 ?_
      refine z_icmp_ge (tgt := 22) C hw.1 (by decide) dX5_wordHere_5 (fun c2 => ?_) (fun c2 => ?_)
      · replace hw := hw.2.1 c2
        refine z_lst (ps := [0, 1]) (lv' := [(0, .ref m0), (1, .int (qI x1))]) (st' := []) rfl rfl ?_
        exact hB22 x1 hw
      · replace hw := hw.2.2 c2
        refine z_aload_n C 0 rfl rfl dX5_wordHere_8 ?_
        refine z_iload_n C 1 rfl rfl dX5_wordHere_9 ?_
        refine z_callV (n := 1) C (c_X5_isWord l D E m0 m1 m2 m3 m4 m5 m6 m7 th sm le tk fr ti fa ms ma mv mt mn ml mr x1 hw) qF0_ok (fun _ _ _ => trivial) gX5_wordHere_X5_isWord rfl (by decide +kernel) ⟨(Nat.le_of_ble_eq_true rfl), (Nat.le_of_ble_eq_true rfl)⟩ rfl 0 rfl rfl [0, 1, 2, 3, 4, 5, 6, 7] rfl rfl (Nat.le_of_ble_eq_true rfl) dX5_wordHere_10 (fun r3 hw => ?_)
        show qZ X 0 0 [(m0, .inr (5, [.int (qI th), .ref m1, .ref m2, .ref m3, .int (qI sm), .ref m4, .int (qI le), .ref m5, .ref m6, .ref m7, .int (qI tk), .int (qI fr), .int (qI ti), .int (qI fa)])), (m1, qA (E 0) 635 ms), (m2, qA (E 0) 635 ma), (m3, qA (E 0) 3175 mv), (m4, qA (E 0) 140 mt), (m5, qA (E 0) 2 mn), (m6, qA (E 0) 64 ml), (m7, qA (E 0) 49152 mr)] _ _ [.int (qI r3)]
        refine z_if_ne (tgt := 22) C hw.1 (by decide) dX5_wordHere_13 (fun c4 => ?_) (fun c4 => ?_)
        · replace hw := hw.2.1 c4
          refine z_lst (ps := [0, 1]) (lv' := [(0, .ref m0), (1, .int (qI x1))]) (st' := []) rfl rfl ?_
          exact hB22 x1 hw
        · replace hw := hw.2.2 c4
          obtain ⟨v5, ev5⟩ : ∃ v5 : Int, v5 = x1 + (1 : Int) := ⟨_, rfl⟩
          replace hw := hw v5 ev5
          refine z_iinc C 1 rfl (by decide) v5 ev5 rfl dX5_wordHere_16 ?_
          refine z_goto (tgt := 2) C (by decide) dX5_wordHere_19 ?_
          refine z_lst (ps := [1, 0]) (lv' := [(0, .ref m0), (1, .int (qI v5))]) (st' := []) rfl rfl ?_
          exact ih v5 hw
  unfold wp_X5_wordHere at hw
  show qZ X 0 0 [(m0, .inr (5, [.int (qI th), .ref m1, .ref m2, .ref m3, .int (qI sm), .ref m4, .int (qI le), .ref m5, .ref m6, .ref m7, .int (qI tk), .int (qI fr), .int (qI ti), .int (qI fa)])), (m1, qA (E 0) 635 ms), (m2, qA (E 0) 635 ma), (m3, qA (E 0) 3175 mv), (m4, qA (E 0) 140 mt), (m5, qA (E 0) 2 mn), (m6, qA (E 0) 64 ml), (m7, qA (E 0) 49152 mr)] 0 [(0, .ref m0)] []
  refine z_iconst C dX5_wordHere_0 ?_
  refine z_istore_n C rfl (by decide) rfl dX5_wordHere_1 ?_
  refine z_lst (ps := [1, 0]) (lv' := [(0, .ref m0), (1, .int (qI (0 : Int)))]) (st' := []) rfl rfl ?_
  obtain ⟨n8, hw⟩ := hw
  exact hB2 n8 (0 : Int) hw
def wp_X5_readNumber_63 (Φ : Int → Int → Int → Int → (Nat → Int) → Prop)  (x1 : Int) (le : Int) (tk : Int) (fr : Int) (ti : Int) (fa : Int) (mt : Nat → Int) (mn : Nat → Int) : Nat → Int → Int → Prop
  | 0, _, _ => False
  | n9 + 1, x2, x3 => ((qR x3 ∧ qR ti) ∧ (ti ≤ x3 → ((0 ≤ x1 ∧ x1 < 2) ∧ ∀ g2 : Nat → Int, g2 = qU mn (x1).toNat x2 → wp_X5_next le tk fr ti mt (fun (g4 : Int) (g5 : Int) (g6 : Int) => Φ g4 g5 g6 fa g2))) ∧ (¬ (ti ≤ x3) → wp_X5_sign x3 le mt (fun (r7 : Int) => (∀ v8 : Int, v8 = ((((10 : Int) * x2) + r7) - (48 : Int)) → (∀ v9 : Int, v9 = x3 + (1 : Int) → wp_X5_readNumber_63 Φ  x1 le tk fr ti fa mt mn n9 v8 v9)))))
def wp_X5_readNumber_56 (Φ : Int → Int → Int → Int → (Nat → Int) → Prop)  (x1 : Int) (le : Int) (tk : Int) (fr : Int) (ti : Int) (fa : Int) (mt : Nat → Int) (mn : Nat → Int) : Prop := ∃ n : Nat, wp_X5_readNumber_63 Φ  x1 le tk fr ti fa mt mn n (0 : Int) fr
def wp_X5_readNumber_47 (Φ : Int → Int → Int → Int → (Nat → Int) → Prop)  (tk : Int) (fr : Int) (ti : Int) (fa : Int) (mn : Nat → Int) : Prop := wp_X5_fail fr fa (fun (g11 : Int) => Φ tk fr ti g11 mn)
def wp_X5_readNumber (x1 : Int) (le : Int) (tk : Int) (fr : Int) (ti : Int) (fa : Int) (mt : Nat → Int) (mn : Nat → Int) (Φ : Int → Int → Int → Int → (Nat → Int) → Prop) : Prop := ((qR tk ∧ qR (2 : Int)) ∧ (¬ tk = (2 : Int) → wp_X5_readNumber_47 Φ  tk fr ti fa mn) ∧ (¬ (¬ tk = (2 : Int)) → ((qR (ti - fr) ∧ qR (4 : Int)) ∧ ((4 : Int) < (ti - fr) → wp_X5_readNumber_47 Φ  tk fr ti fa mn) ∧ (¬ ((4 : Int) < (ti - fr)) → ((qR (ti - fr) ∧ qR (1 : Int)) ∧ ((ti - fr) ≤ (1 : Int) → wp_X5_readNumber_56 Φ  x1 le tk fr ti fa mt mn) ∧ (¬ ((ti - fr) ≤ (1 : Int)) → wp_X5_sign fr le mt (fun (r15 : Int) => ((qR r15 ∧ qR (48 : Int)) ∧ (¬ r15 = (48 : Int) → wp_X5_readNumber_56 Φ  x1 le tk fr ti fa mt mn) ∧ (¬ (¬ r15 = (48 : Int)) → wp_X5_readNumber_47 Φ  tk fr ti fa mn)))))))))
theorem iX5_readNumber_X5 : ∀ w ∈ wsX50, w ∈ wsX5_readNumber := fun w h => List.mem_cons_of_mem _ (List.mem_append_right _ (h))
set_option maxHeartbeats 4000000 in
set_option maxRecDepth 100000 in
theorem c_X5_readNumber (l : Launch) (D : va_G) (E : Nat → ClassId) (m0 m1 m2 m3 m4 m5 m6 m7 : Nat) (th : Int) (sm : Int) (le : Int) (tk : Int) (fr : Int) (ti : Int) (fa : Int) (ms : Nat → Int) (ma : Nat → Int) (mv : Nat → Int) (mt : Nat → Int) (mn : Nat → Int) (ml : Nat → Int) (mr : Nat → Int) (x1 : Int) {Φ : Int → Int → Int → Int → (Nat → Int) → Prop} (hw : wp_X5_readNumber x1 le tk fr ti fa mt mn Φ) : qRW (σ := (Int) × (Int) × (Int) × (Int) × (Nat → Int)) l D E qF0 yX5_readNumber wsX5_readNumber 2 42 [(m0, .inr (5, [.int (qI th), .ref m1, .ref m2, .ref m3, .int (qI sm), .ref m4, .int (qI le), .ref m5, .ref m6, .ref m7, .int (qI tk), .int (qI fr), .int (qI ti), .int (qI fa)])), (m1, qA (E 0) 635 ms), (m2, qA (E 0) 635 ma), (m3, qA (E 0) 3175 mv), (m4, qA (E 0) 140 mt), (m5, qA (E 0) 2 mn), (m6, qA (E 0) 64 ml), (m7, qA (E 0) 49152 mr)] [.ref m0, .int (qI x1)] qeV (fun u => [(m0, .inr (5, [.int (qI th), .ref m1, .ref m2, .ref m3, .int (qI sm), .ref m4, .int (qI le), .ref m5, .ref m6, .ref m7, .int (qI u.1), .int (qI u.2.1), .int (qI u.2.2.1), .int (qI u.2.2.2.1)])), (m1, qA (E 0) 635 ms), (m2, qA (E 0) 635 ma), (m3, qA (E 0) 3175 mv), (m4, qA (E 0) 140 mt), (m5, qA (E 0) 2 u.2.2.2.2), (m6, qA (E 0) 64 ml), (m7, qA (E 0) 49152 mr)]) (fun r u => Φ u.1 u.2.1 u.2.2.1 u.2.2.2.1 u.2.2.2.2) := by
  refine qRW_void (nL := 4) (own := RX5) qF0_ok (by decide) rfl rfl (Nat.le_of_ble_eq_true rfl) (fun X C hend => ?_)
  have hB63 : ∀ x1 : Int, ∀ tk : Int, ∀ fr : Int, ∀ ti : Int, ∀ fa : Int, ∀ mn : Nat → Int, ∀ n8 : Nat, ∀ x2 : Int, ∀ x3 : Int, wp_X5_readNumber_63 Φ  x1 le tk fr ti fa mt mn n8 x2 x3 → qZ X 0 0 [(m0, .inr (5, [.int (qI th), .ref m1, .ref m2, .ref m3, .int (qI sm), .ref m4, .int (qI le), .ref m5, .ref m6, .ref m7, .int (qI tk), .int (qI fr), .int (qI ti), .int (qI fa)])), (m1, qA (E 0) 635 ms), (m2, qA (E 0) 635 ma), (m3, qA (E 0) 3175 mv), (m4, qA (E 0) 140 mt), (m5, qA (E 0) 2 mn), (m6, qA (E 0) 64 ml), (m7, qA (E 0) 49152 mr)] 63 [(0, .ref m0), (1, .int (qI x1)), (2, .int (qI x2)), (3, .int (qI x3))] [] := by
    intro x1 tk fr ti fa mn n8
    induction n8 with
    | zero =>
      intro x2 x3 hw
      exact hw.elim
    | succ n9 ih =>
      intro x2 x3 hw
      unfold wp_X5_readNumber_63 at hw
      refine z_iload_n C 3 rfl rfl dX5_readNumber_63 ?_
      refine z_aload_n C 0 rfl rfl dX5_readNumber_64 ?_
      refine z_get C iX5_readNumber_X5 0 rfl rfl 12 (by decide) (List.mem_of_getElem? (i := 2) rfl) rfl rfl dX5_readNumber_65 ?_
      refine z_icmp_ge (tgt := 91) C hw.1 (by decide) dX5_readNumber_68 (fun c1 => ?_) (fun c1 => ?_)
      · replace hw := hw.2.1 c1
        refine z_aload_n C 0 rfl rfl dX5_readNumber_91 ?_
        refine z_get C iX5_readNumber_X5 0 rfl rfl 7 (by decide) (List.mem_of_getElem? (i := 4) rfl) rfl rfl dX5_readNumber_92 ?_
        refine z_iload_n C 1 rfl rfl dX5_readNumber_95 ?_
        refine z_iload_n C 2 rfl rfl dX5_readNumber_96 ?_
        refine z_iast C 5 rfl (by decide) hw.1 (fun g2 => [(m0, .inr (5, [.int (qI th), .ref m1, .ref m2, .ref m3, .int (qI sm), .ref m4, .int (qI le), .ref m5, .ref m6, .ref m7, .int (qI tk), .int (qI fr), .int (qI ti), .int (qI fa)])), (m1, qA (E 0) 635 ms), (m2, qA (E 0) 635 ma), (m3, qA (E 0) 3175 mv), (m4, qA (E 0) 140 mt), (m5, qA (E 0) 2 g2), (m6, qA (E 0) 64 ml), (m7, qA (E 0) 49152 mr)]) (fun _ => rfl) dX5_readNumber_97 (fun g2 eg2 => ?_)
        replace hw := hw.2 g2 eg2
        refine z_aload_n C 0 rfl rfl dX5_readNumber_98 ?_
        refine z_callVW (n := 0) C (c_X5_next l D E m0 m1 m2 m3 m4 m5 m6 m7 th sm le tk fr ti fa ms ma mv mt g2 ml mr  hw) qF0_ok (fun _ _ _ => trivial) gX5_readNumber_X5_next rfl (by decide +kernel) ⟨(Nat.le_of_ble_eq_true rfl), (Nat.le_of_ble_eq_true rfl)⟩ rfl 0 rfl rfl [0, 1, 2, 3, 4, 5, 6, 7] [] (wr := []) rfl rfl rfl rfl (by decide) [0, 1, 2, 3, 4, 5, 6, 7] rfl (fun u9 => [(m0, .inr (5, [.int (qI th), .ref m1, .ref m2, .ref m3, .int (qI sm), .ref m4, .int (qI le), .ref m5, .ref m6, .ref m7, .int (qI u9.1), .int (qI u9.2.1), .int (qI u9.2.2), .int (qI fa)])), (m1, qA (E 0) 635 ms), (m2, qA (E 0) 635 ma), (m3, qA (E 0) 3175 mv), (m4, qA (E 0) 140 mt), (m5, qA (E 0) 2 g2), (m6, qA (E 0) 64 ml), (m7, qA (E 0) 49152 mr)]) (fun _ => rfl) rfl (Nat.le_of_ble_eq_true rfl) dX5_readNumber_99 (fun r3 u9 hw => ?_)
        obtain ⟨g4, g5, g6⟩ := u9
        refine z_ws (ws' := [(m0, .inr (5, [.int (qI th), .ref m1, .ref m2, .ref m3, .int (qI sm), .ref m4, .int (qI le), .ref m5, .ref m6, .ref m7, .int (qI g4), .int (qI g5), .int (qI g6), .int (qI fa)])), (m1, qA (E 0) 635 ms), (m2, qA (E 0) 635 ma), (m3, qA (E 0) 3175 mv), (m4, qA (E 0) 140 mt), (m5, qA (E 0) 2 g2), (m6, qA (E 0) 64 ml), (m7, qA (E 0) 49152 mr)]) rfl ?_
        try dsimp only at hw
        show qZ X 0 0 [(m0, .inr (5, [.int (qI th), .ref m1, .ref m2, .ref m3, .int (qI sm), .ref m4, .int (qI le), .ref m5, .ref m6, .ref m7, .int (qI g4), .int (qI g5), .int (qI g6), .int (qI fa)])), (m1, qA (E 0) 635 ms), (m2, qA (E 0) 635 ma), (m3, qA (E 0) 3175 mv), (m4, qA (E 0) 140 mt), (m5, qA (E 0) 2 g2), (m6, qA (E 0) 64 ml), (m7, qA (E 0) 49152 mr)] _ _ []
        exact hend 102 _ () (g4, g5, g6, fa, g2) dX5_readNumber_102 hw
      · replace hw := hw.2.2 c1
        refine z_bipush C (by decide +kernel) dX5_readNumber_71 ?_
        refine z_iload_n C 2 rfl rfl dX5_readNumber_73 ?_
        refine z_imul C dX5_readNumber_74 ?_
        refine z_aload_n C 0 rfl rfl dX5_readNumber_75 ?_
        refine z_iload_n C 3 rfl rfl dX5_readNumber_76 ?_
        refine z_callV (n := 1) C (c_X5_sign l D E m0 m1 m2 m3 m4 m5 m6 m7 th sm le tk fr ti fa ms ma mv mt mn ml mr x3 hw) qF0_ok (fun _ _ _ => trivial) gX5_readNumber_X5_sign rfl (by decide +kernel) ⟨(Nat.le_of_ble_eq_true rfl), (Nat.le_of_ble_eq_true rfl)⟩ rfl 0 rfl rfl [0, 1, 2, 3, 4, 5, 6, 7] rfl rfl (Nat.le_of_ble_eq_true rfl) dX5_readNumber_77 (fun r7 hw => ?_)
        show qZ X 0 0 [(m0, .inr (5, [.int (qI th), .ref m1, .ref m2, .ref m3, .int (qI sm), .ref m4, .int (qI le), .ref m5, .ref m6, .ref m7, .int (qI tk), .int (qI fr), .int (qI ti), .int (qI fa)])), (m1, qA (E 0) 635 ms), (m2, qA (E 0) 635 ma), (m3, qA (E 0) 3175 mv), (m4, qA (E 0) 140 mt), (m5, qA (E 0) 2 mn), (m6, qA (E 0) 64 ml), (m7, qA (E 0) 49152 mr)] _ _ [.int (qI r7), .int (qI ((10 : Int) * x2))]
        refine z_iadd C dX5_readNumber_80 ?_
        refine z_bipush C (by decide +kernel) dX5_readNumber_81 ?_
        refine z_isub C dX5_readNumber_83 ?_
        refine z_name (fun v8 ev8 => ?_)
        replace hw := hw v8 ev8
        refine z_istore_n C rfl (by decide) rfl dX5_readNumber_84 ?_
        obtain ⟨v9, ev9⟩ : ∃ v9 : Int, v9 = x3 + (1 : Int) := ⟨_, rfl⟩
        replace hw := hw v9 ev9
        refine z_iinc C 3 rfl (by decide) v9 ev9 rfl dX5_readNumber_85 ?_
        refine z_goto (tgt := 63) C (by decide) dX5_readNumber_88 ?_
        refine z_lst (ps := [2, 3, 1, 0]) (lv' := [(0, .ref m0), (1, .int (qI x1)), (2, .int (qI v8)), (3, .int (qI v9))]) (st' := []) rfl rfl ?_
        exact ih v8 v9 hw
  have hB56 : ∀ x1 : Int, ∀ tk : Int, ∀ fr : Int, ∀ ti : Int, ∀ fa : Int, ∀ mn : Nat → Int, wp_X5_readNumber_56 Φ  x1 le tk fr ti fa mt mn → qZ X 0 0 [(m0, .inr (5, [.int (qI th), .ref m1, .ref m2, .ref m3, .int (qI sm), .ref m4, .int (qI le), .ref m5, .ref m6, .ref m7, .int (qI tk), .int (qI fr), .int (qI ti), .int (qI fa)])), (m1, qA (E 0) 635 ms), (m2, qA (E 0) 635 ma), (m3, qA (E 0) 3175 mv), (m4, qA (E 0) 140 mt), (m5, qA (E 0) 2 mn), (m6, qA (E 0) 64 ml), (m7, qA (E 0) 49152 mr)] 56 [(0, .ref m0), (1, .int (qI x1))] [] := by
    intro x1 tk fr ti fa mn hw
    unfold wp_X5_readNumber_56 at hw
    refine z_iconst C dX5_readNumber_56 ?_
    refine z_istore_n C rfl (by decide) rfl dX5_readNumber_57 ?_
    refine z_aload_n C 1 rfl rfl dX5_readNumber_58 ?_
    refine z_get C iX5_readNumber_X5 0 rfl rfl 11 (by decide) (List.mem_of_getElem? (i := 3) rfl) rfl rfl dX5_readNumber_59 ?_
    refine z_istore_n C rfl (by decide) rfl dX5_readNumber_62 ?_
    refine z_lst (ps := [2, 3, 1, 0]) (lv' := [(0, .ref m0), (1, .int (qI x1)), (2, .int (qI (0 : Int))), (3, .int (qI fr))]) (st' := []) rfl rfl ?_
    obtain ⟨n8, hw⟩ := hw
    exact hB63 x1 tk fr ti fa mn n8 (0 : Int) fr hw
  have hB47 : ∀ tk : Int, ∀ fr : Int, ∀ ti : Int, ∀ fa : Int, ∀ mn : Nat → Int, wp_X5_readNumber_47 Φ  tk fr ti fa mn → qZ X 0 0 [(m0, .inr (5, [.int (qI th), .ref m1, .ref m2, .ref m3, .int (qI sm), .ref m4, .int (qI le), .ref m5, .ref m6, .ref m7, .int (qI tk), .int (qI fr), .int (qI ti), .int (qI fa)])), (m1, qA (E 0) 635 ms), (m2, qA (E 0) 635 ma), (m3, qA (E 0) 3175 mv), (m4, qA (E 0) 140 mt), (m5, qA (E 0) 2 mn), (m6, qA (E 0) 64 ml), (m7, qA (E 0) 49152 mr)] 47 [(0, .ref m0)] [] := by
    intro tk fr ti fa mn hw
    unfold wp_X5_readNumber_47 at hw
    refine z_aload_n C 0 rfl rfl dX5_readNumber_47 ?_
    refine z_aload_n C 0 rfl rfl dX5_readNumber_48 ?_
    refine z_get C iX5_readNumber_X5 0 rfl rfl 11 (by decide) (List.mem_of_getElem? (i := 3) rfl) rfl rfl dX5_readNumber_49 ?_
    refine z_callVW (n := 1) C (c_X5_fail l D E m0 m1 m2 m3 m4 m5 m6 m7 th sm le tk fr ti fa ms ma mv mt mn ml mr fr hw) qF0_ok (fun _ _ _ => trivial) gX5_readNumber_X5_fail rfl (by decide +kernel) ⟨(Nat.le_of_ble_eq_true rfl), (Nat.le_of_ble_eq_true rfl)⟩ rfl 0 rfl rfl [0, 1, 2, 3, 4, 5, 6, 7] [] (wr := []) rfl rfl rfl rfl (by decide) [0, 1, 2, 3, 4, 5, 6, 7] rfl (fun u9 => [(m0, .inr (5, [.int (qI th), .ref m1, .ref m2, .ref m3, .int (qI sm), .ref m4, .int (qI le), .ref m5, .ref m6, .ref m7, .int (qI tk), .int (qI fr), .int (qI ti), .int (qI u9)])), (m1, qA (E 0) 635 ms), (m2, qA (E 0) 635 ma), (m3, qA (E 0) 3175 mv), (m4, qA (E 0) 140 mt), (m5, qA (E 0) 2 mn), (m6, qA (E 0) 64 ml), (m7, qA (E 0) 49152 mr)]) (fun _ => rfl) rfl (Nat.le_of_ble_eq_true rfl) dX5_readNumber_52 (fun r10 u9 hw => ?_)
    obtain ⟨g11, rfl⟩ : ∃ z, z = u9 := ⟨_, rfl⟩
    refine z_ws (ws' := [(m0, .inr (5, [.int (qI th), .ref m1, .ref m2, .ref m3, .int (qI sm), .ref m4, .int (qI le), .ref m5, .ref m6, .ref m7, .int (qI tk), .int (qI fr), .int (qI ti), .int (qI g11)])), (m1, qA (E 0) 635 ms), (m2, qA (E 0) 635 ma), (m3, qA (E 0) 3175 mv), (m4, qA (E 0) 140 mt), (m5, qA (E 0) 2 mn), (m6, qA (E 0) 64 ml), (m7, qA (E 0) 49152 mr)]) rfl ?_
    try dsimp only at hw
    show qZ X 0 0 [(m0, .inr (5, [.int (qI th), .ref m1, .ref m2, .ref m3, .int (qI sm), .ref m4, .int (qI le), .ref m5, .ref m6, .ref m7, .int (qI tk), .int (qI fr), .int (qI ti), .int (qI g11)])), (m1, qA (E 0) 635 ms), (m2, qA (E 0) 635 ma), (m3, qA (E 0) 3175 mv), (m4, qA (E 0) 140 mt), (m5, qA (E 0) 2 mn), (m6, qA (E 0) 64 ml), (m7, qA (E 0) 49152 mr)] _ _ []
    exact hend 55 _ () (tk, fr, ti, g11, mn) dX5_readNumber_55 hw
  unfold wp_X5_readNumber at hw
  show qZ X 0 0 [(m0, .inr (5, [.int (qI th), .ref m1, .ref m2, .ref m3, .int (qI sm), .ref m4, .int (qI le), .ref m5, .ref m6, .ref m7, .int (qI tk), .int (qI fr), .int (qI ti), .int (qI fa)])), (m1, qA (E 0) 635 ms), (m2, qA (E 0) 635 ma), (m3, qA (E 0) 3175 mv), (m4, qA (E 0) 140 mt), (m5, qA (E 0) 2 mn), (m6, qA (E 0) 64 ml), (m7, qA (E 0) 49152 mr)] 0 [(0, .ref m0), (1, .int (qI x1))] []
  refine z_aload_n C 0 rfl rfl dX5_readNumber_0 ?_
  refine z_get C iX5_readNumber_X5 0 rfl rfl 10 (by decide) (List.mem_of_getElem? (i := 1) rfl) rfl rfl dX5_readNumber_1 ?_
  refine z_iconst C dX5_readNumber_4 ?_
  refine z_icmp_ne (tgt := 47) C hw.1 (by decide) dX5_readNumber_5 (fun c12 => ?_) (fun c12 => ?_)
  · replace hw := hw.2.1 c12
    refine z_lst (ps := [0]) (lv' := [(0, .ref m0)]) (st' := []) rfl rfl ?_
    exact hB47 tk fr ti fa mn hw
  · replace hw := hw.2.2 c12
    refine z_aload_n C 0 rfl rfl dX5_readNumber_8 ?_
    refine z_get C iX5_readNumber_X5 0 rfl rfl 12 (by decide) (List.mem_of_getElem? (i := 2) rfl) rfl rfl dX5_readNumber_9 ?_
    refine z_aload_n C 0 rfl rfl dX5_readNumber_12 ?_
    refine z_get C iX5_readNumber_X5 0 rfl rfl 11 (by decide) (List.mem_of_getElem? (i := 3) rfl) rfl rfl dX5_readNumber_13 ?_
    refine z_isub C dX5_readNumber_16 ?_
    refine z_iconst C dX5_readNumber_17 ?_
    refine z_icmp_gt (tgt := 47) C hw.1 (by decide) dX5_readNumber_18 (fun c13 => ?_) (fun c13 => ?_)
    · replace hw := hw.2.1 c13
      refine z_lst (ps := [0]) (lv' := [(0, .ref m0)]) (st' := []) rfl rfl ?_
      exact hB47 tk fr ti fa mn hw
    · replace hw := hw.2.2 c13
      refine z_aload_n C 0 rfl rfl dX5_readNumber_21 ?_
      refine z_get C iX5_readNumber_X5 0 rfl rfl 12 (by decide) (List.mem_of_getElem? (i := 2) rfl) rfl rfl dX5_readNumber_22 ?_
      refine z_aload_n C 0 rfl rfl dX5_readNumber_25 ?_
      refine z_get C iX5_readNumber_X5 0 rfl rfl 11 (by decide) (List.mem_of_getElem? (i := 3) rfl) rfl rfl dX5_readNumber_26 ?_
      refine z_isub C dX5_readNumber_29 ?_
      refine z_iconst C dX5_readNumber_30 ?_
      refine z_icmp_le (tgt := 56) C hw.1 (by decide) dX5_readNumber_31 (fun c14 => ?_) (fun c14 => ?_)
      · replace hw := hw.2.1 c14
        refine z_lst (ps := [0, 1]) (lv' := [(0, .ref m0), (1, .int (qI x1))]) (st' := []) rfl rfl ?_
        exact hB56 x1 tk fr ti fa mn hw
      · replace hw := hw.2.2 c14
        refine z_aload_n C 0 rfl rfl dX5_readNumber_34 ?_
        refine z_aload_n C 0 rfl rfl dX5_readNumber_35 ?_
        refine z_get C iX5_readNumber_X5 0 rfl rfl 11 (by decide) (List.mem_of_getElem? (i := 3) rfl) rfl rfl dX5_readNumber_36 ?_
        refine z_callV (n := 1) C (c_X5_sign l D E m0 m1 m2 m3 m4 m5 m6 m7 th sm le tk fr ti fa ms ma mv mt mn ml mr fr hw) qF0_ok (fun _ _ _ => trivial) gX5_readNumber_X5_sign rfl (by decide +kernel) ⟨(Nat.le_of_ble_eq_true rfl), (Nat.le_of_ble_eq_true rfl)⟩ rfl 0 rfl rfl [0, 1, 2, 3, 4, 5, 6, 7] rfl rfl (Nat.le_of_ble_eq_true rfl) dX5_readNumber_39 (fun r15 hw => ?_)
        show qZ X 0 0 [(m0, .inr (5, [.int (qI th), .ref m1, .ref m2, .ref m3, .int (qI sm), .ref m4, .int (qI le), .ref m5, .ref m6, .ref m7, .int (qI tk), .int (qI fr), .int (qI ti), .int (qI fa)])), (m1, qA (E 0) 635 ms), (m2, qA (E 0) 635 ma), (m3, qA (E 0) 3175 mv), (m4, qA (E 0) 140 mt), (m5, qA (E 0) 2 mn), (m6, qA (E 0) 64 ml), (m7, qA (E 0) 49152 mr)] _ _ [.int (qI r15)]
        refine z_bipush C (by decide +kernel) dX5_readNumber_42 ?_
        refine z_icmp_ne (tgt := 56) C hw.1 (by decide) dX5_readNumber_44 (fun c16 => ?_) (fun c16 => ?_)
        · replace hw := hw.2.1 c16
          refine z_lst (ps := [0, 1]) (lv' := [(0, .ref m0), (1, .int (qI x1))]) (st' := []) rfl rfl ?_
          exact hB56 x1 tk fr ti fa mn hw
        · replace hw := hw.2.2 c16
          refine z_lst (ps := [0]) (lv' := [(0, .ref m0)]) (st' := []) rfl rfl ?_
          exact hB47 tk fr ti fa mn hw
def wp_X5_codeOf_88 (Φ : Int → Prop)  (k0 : Int) : Prop := Φ k0
def wp_X5_codeOf (x1 : Int) (x2 : Int) (x3 : Int) (ms : Nat → Int) (Φ : Int → Prop) : Prop := (qR x1 ∧ ((x1 < (0 : Int) ∨ (6 : Int) < x1) → wp_X5_isSpot x2 (fun (r1 : Int) => (qR r1 ∧ (r1 = (0 : Int) → wp_X5_codeOf_88 Φ  (-1 : Int)) ∧ (¬ (r1 = (0 : Int)) → wp_X5_codeOf_88 Φ  (0 : Int))))) ∧ (x1 = (0 : Int) → wp_X5_lightCode x2 ms (fun (r3 : Int) => Φ r3)) ∧ (x1 = (1 : Int) → wp_X5_darkCode x2 ms (fun (r4 : Int) => Φ r4)) ∧ (x1 = (2 : Int) → wp_X5_kindCode x2 x3 (fun (r5 : Int) => Φ r5)) ∧ (x1 = (3 : Int) → wp_X5_isSpot x2 (fun (r6 : Int) => (qR r6 ∧ (r6 = (0 : Int) → wp_X5_codeOf_88 Φ  (-1 : Int)) ∧ (¬ (r6 = (0 : Int)) → wp_X5_codeOf_88 Φ  (0 : Int))))) ∧ (x1 = (4 : Int) → wp_X5_isSpot x2 (fun (r8 : Int) => (qR r8 ∧ (r8 = (0 : Int) → wp_X5_codeOf_88 Φ  (-1 : Int)) ∧ (¬ (r8 = (0 : Int)) → wp_X5_codeOf_88 Φ  (0 : Int))))) ∧ (x1 = (5 : Int) → wp_X5_sortCode x2 (fun (r10 : Int) => Φ r10)) ∧ (x1 = (6 : Int) → wp_X5_swapCode x2 x3 ms (fun (r11 : Int) => Φ r11)))
set_option maxHeartbeats 4000000 in
set_option maxRecDepth 100000 in
theorem c_X5_codeOf (l : Launch) (D : va_G) (E : Nat → ClassId) (m0 m1 m2 m3 m4 m5 m6 m7 : Nat) (th : Int) (sm : Int) (le : Int) (tk : Int) (fr : Int) (ti : Int) (fa : Int) (ms : Nat → Int) (ma : Nat → Int) (mv : Nat → Int) (mt : Nat → Int) (mn : Nat → Int) (ml : Nat → Int) (mr : Nat → Int) (x1 : Int) (x2 : Int) (x3 : Int) {Φ : Int → Prop} (hw : wp_X5_codeOf x1 x2 x3 ms Φ) : qRO l D E qF0 yX5_codeOf wsX5_codeOf 3 65 [(m0, .inr (5, [.int (qI th), .ref m1, .ref m2, .ref m3, .int (qI sm), .ref m4, .int (qI le), .ref m5, .ref m6, .ref m7, .int (qI tk), .int (qI fr), .int (qI ti), .int (qI fa)])), (m1, qA (E 0) 635 ms), (m2, qA (E 0) 635 ma), (m3, qA (E 0) 3175 mv), (m4, qA (E 0) 140 mt), (m5, qA (E 0) 2 mn), (m6, qA (E 0) 64 ml), (m7, qA (E 0) 49152 mr)] [.ref m0, .int (qI x1), .int (qI x2), .int (qI x3)] qeI (fun r => Φ r) := by
  refine qRO_int (nL := 4) (own := RX5) qF0_ok (by decide) rfl rfl (Nat.le_of_ble_eq_true rfl) (fun X C hend => ?_)
  have hB88 : ∀ k0 : Int, wp_X5_codeOf_88 Φ  k0 → qZ X 0 0 [(m0, .inr (5, [.int (qI th), .ref m1, .ref m2, .ref m3, .int (qI sm), .ref m4, .int (qI le), .ref m5, .ref m6, .ref m7, .int (qI tk), .int (qI fr), .int (qI ti), .int (qI fa)])), (m1, qA (E 0) 635 ms), (m2, qA (E 0) 635 ma), (m3, qA (E 0) 3175 mv), (m4, qA (E 0) 140 mt), (m5, qA (E 0) 2 mn), (m6, qA (E 0) 64 ml), (m7, qA (E 0) 49152 mr)] 88 [] [.int (qI k0)] := by
    intro k0 hw
    unfold wp_X5_codeOf_88 at hw
    exact hend 88 _ k0 dX5_codeOf_88 hw
  unfold wp_X5_codeOf at hw
  show qZ X 0 0 [(m0, .inr (5, [.int (qI th), .ref m1, .ref m2, .ref m3, .int (qI sm), .ref m4, .int (qI le), .ref m5, .ref m6, .ref m7, .int (qI tk), .int (qI fr), .int (qI ti), .int (qI fa)])), (m1, qA (E 0) 635 ms), (m2, qA (E 0) 635 ma), (m3, qA (E 0) 3175 mv), (m4, qA (E 0) 140 mt), (m5, qA (E 0) 2 mn), (m6, qA (E 0) 64 ml), (m7, qA (E 0) 49152 mr)] 0 [(0, .ref m0), (1, .int (qI x1)), (2, .int (qI x2)), (3, .int (qI x3))] []
  refine z_iload_n C 1 rfl rfl dX5_codeOf_0 ?_
  rcases (show (x1 < (0 : Int) ∨ (6 : Int) < x1) ∨ x1 = (0 : Int) ∨ x1 = (1 : Int) ∨ x1 = (2 : Int) ∨ x1 = (3 : Int) ∨ x1 = (4 : Int) ∨ x1 = (5 : Int) ∨ x1 = (6 : Int) by omega) with c12 | c12 | c12 | c12 | c12 | c12 | c12 | c12
  · refine z_swOut (tgt := 76) C hw.1 c12 (by decide) dX5_codeOf_1 ?_
    replace hw := hw.2.1 c12
    refine z_iload_n C 2 rfl rfl dX5_codeOf_76 ?_
    refine z_callS (n := 1) C (c_X5_isSpot l D E   x2 hw) qF0_ok (fun _ _ _ => trivial) gX5_codeOf_X5_isSpot rfl (by decide +kernel) ⟨(Nat.le_of_ble_eq_true rfl), (Nat.le_of_ble_eq_true rfl)⟩ rfl [] rfl rfl (Nat.le_of_ble_eq_true rfl) dX5_codeOf_77 (fun r1 hw => ?_)
    show qZ X 0 0 [(m0, .inr (5, [.int (qI th), .ref m1, .ref m2, .ref m3, .int (qI sm), .ref m4, .int (qI le), .ref m5, .ref m6, .ref m7, .int (qI tk), .int (qI fr), .int (qI ti), .int (qI fa)])), (m1, qA (E 0) 635 ms), (m2, qA (E 0) 635 ma), (m3, qA (E 0) 3175 mv), (m4, qA (E 0) 140 mt), (m5, qA (E 0) 2 mn), (m6, qA (E 0) 64 ml), (m7, qA (E 0) 49152 mr)] _ _ [.int (qI r1)]
    refine z_if_eq (tgt := 87) C hw.1 (by decide) dX5_codeOf_80 (fun c2 => ?_) (fun c2 => ?_)
    · replace hw := hw.2.1 c2
      refine z_iconst C dX5_codeOf_87 ?_
      refine z_lst (ps := []) (lv' := []) (st' := [.int (qI (-1 : Int))]) rfl rfl ?_
      exact hB88 (-1 : Int) hw
    · replace hw := hw.2.2 c2
      refine z_iconst C dX5_codeOf_83 ?_
      refine z_goto (tgt := 88) C (by decide) dX5_codeOf_84 ?_
      refine z_lst (ps := []) (lv' := []) (st' := [.int (qI (0 : Int))]) rfl rfl ?_
      exact hB88 (0 : Int) hw
  · refine z_swIn (off := (43 : Int)) (tgt := 44) C hw.1 (by omega) (by omega) (by rw [c12]; rfl) (by decide) dX5_codeOf_1 ?_
    replace hw := hw.2.2.1 c12
    refine z_aload_n C 0 rfl rfl dX5_codeOf_44 ?_
    refine z_iload_n C 2 rfl rfl dX5_codeOf_45 ?_
    refine z_callV (n := 1) C (c_X5_lightCode l D E m0 m1 m2 m3 m4 m5 m6 m7 th sm le tk fr ti fa ms ma mv mt mn ml mr x2 hw) qF0_ok (fun _ _ _ => trivial) gX5_codeOf_X5_lightCode rfl (by decide +kernel) ⟨(Nat.le_of_ble_eq_true rfl), (Nat.le_of_ble_eq_true rfl)⟩ rfl 0 rfl rfl [0, 1, 2, 3, 4, 5, 6, 7] rfl rfl (Nat.le_of_ble_eq_true rfl) dX5_codeOf_46 (fun r3 hw => ?_)
    show qZ X 0 0 [(m0, .inr (5, [.int (qI th), .ref m1, .ref m2, .ref m3, .int (qI sm), .ref m4, .int (qI le), .ref m5, .ref m6, .ref m7, .int (qI tk), .int (qI fr), .int (qI ti), .int (qI fa)])), (m1, qA (E 0) 635 ms), (m2, qA (E 0) 635 ma), (m3, qA (E 0) 3175 mv), (m4, qA (E 0) 140 mt), (m5, qA (E 0) 2 mn), (m6, qA (E 0) 64 ml), (m7, qA (E 0) 49152 mr)] _ _ [.int (qI r3)]
    exact hend 49 _ r3 dX5_codeOf_49 hw
  · refine z_swIn (off := (49 : Int)) (tgt := 50) C hw.1 (by omega) (by omega) (by rw [c12]; rfl) (by decide) dX5_codeOf_1 ?_
    replace hw := hw.2.2.2.1 c12
    refine z_aload_n C 0 rfl rfl dX5_codeOf_50 ?_
    refine z_iload_n C 2 rfl rfl dX5_codeOf_51 ?_
    refine z_callV (n := 1) C (c_X5_darkCode l D E m0 m1 m2 m3 m4 m5 m6 m7 th sm le tk fr ti fa ms ma mv mt mn ml mr x2 hw) qF0_ok (fun _ _ _ => trivial) gX5_codeOf_X5_darkCode rfl (by decide +kernel) ⟨(Nat.le_of_ble_eq_true rfl), (Nat.le_of_ble_eq_true rfl)⟩ rfl 0 rfl rfl [0, 1, 2, 3, 4, 5, 6, 7] rfl rfl (Nat.le_of_ble_eq_true rfl) dX5_codeOf_52 (fun r4 hw => ?_)
    show qZ X 0 0 [(m0, .inr (5, [.int (qI th), .ref m1, .ref m2, .ref m3, .int (qI sm), .ref m4, .int (qI le), .ref m5, .ref m6, .ref m7, .int (qI tk), .int (qI fr), .int (qI ti), .int (qI fa)])), (m1, qA (E 0) 635 ms), (m2, qA (E 0) 635 ma), (m3, qA (E 0) 3175 mv), (m4, qA (E 0) 140 mt), (m5, qA (E 0) 2 mn), (m6, qA (E 0) 64 ml), (m7, qA (E 0) 49152 mr)] _ _ [.int (qI r4)]
    exact hend 55 _ r4 dX5_codeOf_55 hw
  · refine z_swIn (off := (55 : Int)) (tgt := 56) C hw.1 (by omega) (by omega) (by rw [c12]; rfl) (by decide) dX5_codeOf_1 ?_
    replace hw := hw.2.2.2.2.1 c12
    refine z_aload_n C 0 rfl rfl dX5_codeOf_56 ?_
    refine z_iload_n C 2 rfl rfl dX5_codeOf_57 ?_
    refine z_iload_n C 3 rfl rfl dX5_codeOf_58 ?_
    refine z_callV (n := 2) C (c_X5_kindCode l D E m0 m1 m2 m3 m4 m5 m6 m7 th sm le tk fr ti fa ms ma mv mt mn ml mr x2 x3 hw) qF0_ok (fun _ _ _ => trivial) gX5_codeOf_X5_kindCode rfl (by decide +kernel) ⟨(Nat.le_of_ble_eq_true rfl), (Nat.le_of_ble_eq_true rfl)⟩ rfl 0 rfl rfl [0, 1, 2, 3, 4, 5, 6, 7] rfl rfl (Nat.le_of_ble_eq_true rfl) dX5_codeOf_59 (fun r5 hw => ?_)
    show qZ X 0 0 [(m0, .inr (5, [.int (qI th), .ref m1, .ref m2, .ref m3, .int (qI sm), .ref m4, .int (qI le), .ref m5, .ref m6, .ref m7, .int (qI tk), .int (qI fr), .int (qI ti), .int (qI fa)])), (m1, qA (E 0) 635 ms), (m2, qA (E 0) 635 ma), (m3, qA (E 0) 3175 mv), (m4, qA (E 0) 140 mt), (m5, qA (E 0) 2 mn), (m6, qA (E 0) 64 ml), (m7, qA (E 0) 49152 mr)] _ _ [.int (qI r5)]
    exact hend 62 _ r5 dX5_codeOf_62 hw
  · refine z_swIn (off := (75 : Int)) (tgt := 76) C hw.1 (by omega) (by omega) (by rw [c12]; rfl) (by decide) dX5_codeOf_1 ?_
    replace hw := hw.2.2.2.2.2.1 c12
    refine z_iload_n C 2 rfl rfl dX5_codeOf_76 ?_
    refine z_callS (n := 1) C (c_X5_isSpot l D E   x2 hw) qF0_ok (fun _ _ _ => trivial) gX5_codeOf_X5_isSpot rfl (by decide +kernel) ⟨(Nat.le_of_ble_eq_true rfl), (Nat.le_of_ble_eq_true rfl)⟩ rfl [] rfl rfl (Nat.le_of_ble_eq_true rfl) dX5_codeOf_77 (fun r6 hw => ?_)
    show qZ X 0 0 [(m0, .inr (5, [.int (qI th), .ref m1, .ref m2, .ref m3, .int (qI sm), .ref m4, .int (qI le), .ref m5, .ref m6, .ref m7, .int (qI tk), .int (qI fr), .int (qI ti), .int (qI fa)])), (m1, qA (E 0) 635 ms), (m2, qA (E 0) 635 ma), (m3, qA (E 0) 3175 mv), (m4, qA (E 0) 140 mt), (m5, qA (E 0) 2 mn), (m6, qA (E 0) 64 ml), (m7, qA (E 0) 49152 mr)] _ _ [.int (qI r6)]
    refine z_if_eq (tgt := 87) C hw.1 (by decide) dX5_codeOf_80 (fun c7 => ?_) (fun c7 => ?_)
    · replace hw := hw.2.1 c7
      refine z_iconst C dX5_codeOf_87 ?_
      refine z_lst (ps := []) (lv' := []) (st' := [.int (qI (-1 : Int))]) rfl rfl ?_
      exact hB88 (-1 : Int) hw
    · replace hw := hw.2.2 c7
      refine z_iconst C dX5_codeOf_83 ?_
      refine z_goto (tgt := 88) C (by decide) dX5_codeOf_84 ?_
      refine z_lst (ps := []) (lv' := []) (st' := [.int (qI (0 : Int))]) rfl rfl ?_
      exact hB88 (0 : Int) hw
  · refine z_swIn (off := (75 : Int)) (tgt := 76) C hw.1 (by omega) (by omega) (by rw [c12]; rfl) (by decide) dX5_codeOf_1 ?_
    replace hw := hw.2.2.2.2.2.2.1 c12
    refine z_iload_n C 2 rfl rfl dX5_codeOf_76 ?_
    refine z_callS (n := 1) C (c_X5_isSpot l D E   x2 hw) qF0_ok (fun _ _ _ => trivial) gX5_codeOf_X5_isSpot rfl (by decide +kernel) ⟨(Nat.le_of_ble_eq_true rfl), (Nat.le_of_ble_eq_true rfl)⟩ rfl [] rfl rfl (Nat.le_of_ble_eq_true rfl) dX5_codeOf_77 (fun r8 hw => ?_)
    show qZ X 0 0 [(m0, .inr (5, [.int (qI th), .ref m1, .ref m2, .ref m3, .int (qI sm), .ref m4, .int (qI le), .ref m5, .ref m6, .ref m7, .int (qI tk), .int (qI fr), .int (qI ti), .int (qI fa)])), (m1, qA (E 0) 635 ms), (m2, qA (E 0) 635 ma), (m3, qA (E 0) 3175 mv), (m4, qA (E 0) 140 mt), (m5, qA (E 0) 2 mn), (m6, qA (E 0) 64 ml), (m7, qA (E 0) 49152 mr)] _ _ [.int (qI r8)]
    refine z_if_eq (tgt := 87) C hw.1 (by decide) dX5_codeOf_80 (fun c9 => ?_) (fun c9 => ?_)
    · replace hw := hw.2.1 c9
      refine z_iconst C dX5_codeOf_87 ?_
      refine z_lst (ps := []) (lv' := []) (st' := [.int (qI (-1 : Int))]) rfl rfl ?_
      exact hB88 (-1 : Int) hw
    · replace hw := hw.2.2 c9
      refine z_iconst C dX5_codeOf_83 ?_
      refine z_goto (tgt := 88) C (by decide) dX5_codeOf_84 ?_
      refine z_lst (ps := []) (lv' := []) (st' := [.int (qI (0 : Int))]) rfl rfl ?_
      exact hB88 (0 : Int) hw
  · refine z_swIn (off := (62 : Int)) (tgt := 63) C hw.1 (by omega) (by omega) (by rw [c12]; rfl) (by decide) dX5_codeOf_1 ?_
    replace hw := hw.2.2.2.2.2.2.2.1 c12
    refine z_aload_n C 0 rfl rfl dX5_codeOf_63 ?_
    refine z_iload_n C 2 rfl rfl dX5_codeOf_64 ?_
    refine z_callV (n := 1) C (c_X5_sortCode l D E m0 m1 m2 m3 m4 m5 m6 m7 th sm le tk fr ti fa ms ma mv mt mn ml mr x2 hw) qF0_ok (fun _ _ _ => trivial) gX5_codeOf_X5_sortCode rfl (by decide +kernel) ⟨(Nat.le_of_ble_eq_true rfl), (Nat.le_of_ble_eq_true rfl)⟩ rfl 0 rfl rfl [0, 1, 2, 3, 4, 5, 6, 7] rfl rfl (Nat.le_of_ble_eq_true rfl) dX5_codeOf_65 (fun r10 hw => ?_)
    show qZ X 0 0 [(m0, .inr (5, [.int (qI th), .ref m1, .ref m2, .ref m3, .int (qI sm), .ref m4, .int (qI le), .ref m5, .ref m6, .ref m7, .int (qI tk), .int (qI fr), .int (qI ti), .int (qI fa)])), (m1, qA (E 0) 635 ms), (m2, qA (E 0) 635 ma), (m3, qA (E 0) 3175 mv), (m4, qA (E 0) 140 mt), (m5, qA (E 0) 2 mn), (m6, qA (E 0) 64 ml), (m7, qA (E 0) 49152 mr)] _ _ [.int (qI r10)]
    exact hend 68 _ r10 dX5_codeOf_68 hw
  · refine z_swIn (off := (68 : Int)) (tgt := 69) C hw.1 (by omega) (by omega) (by rw [c12]; rfl) (by decide) dX5_codeOf_1 ?_
    replace hw := hw.2.2.2.2.2.2.2.2 c12
    refine z_aload_n C 0 rfl rfl dX5_codeOf_69 ?_
    refine z_iload_n C 2 rfl rfl dX5_codeOf_70 ?_
    refine z_iload_n C 3 rfl rfl dX5_codeOf_71 ?_
    refine z_callV (n := 2) C (c_X5_swapCode l D E m0 m1 m2 m3 m4 m5 m6 m7 th sm le tk fr ti fa ms ma mv mt mn ml mr x2 x3 hw) qF0_ok (fun _ _ _ => trivial) gX5_codeOf_X5_swapCode rfl (by decide +kernel) ⟨(Nat.le_of_ble_eq_true rfl), (Nat.le_of_ble_eq_true rfl)⟩ rfl 0 rfl rfl [0, 1, 2, 3, 4, 5, 6, 7] rfl rfl (Nat.le_of_ble_eq_true rfl) dX5_codeOf_72 (fun r11 hw => ?_)
    show qZ X 0 0 [(m0, .inr (5, [.int (qI th), .ref m1, .ref m2, .ref m3, .int (qI sm), .ref m4, .int (qI le), .ref m5, .ref m6, .ref m7, .int (qI tk), .int (qI fr), .int (qI ti), .int (qI fa)])), (m1, qA (E 0) 635 ms), (m2, qA (E 0) 635 ma), (m3, qA (E 0) 3175 mv), (m4, qA (E 0) 140 mt), (m5, qA (E 0) 2 mn), (m6, qA (E 0) 64 ml), (m7, qA (E 0) 49152 mr)] _ _ [.int (qI r11)]
    exact hend 75 _ r11 dX5_codeOf_75 hw
def wp_X5_carry_87 (Φ : Int → (Nat → Int) → (Nat → Int) → Prop)  (x2 : Int) (k1 : Int) (ms : Nat → Int) (ml : Nat → Int) : Prop := wp_X5_drawNow k1 x2 (1 : Int) ms (fun (r1 : Int) (g2 : Nat → Int) => Φ r1 g2 ml)
def wp_X5_carry (x1 : Int) (x2 : Int) (x3 : Int) (ms : Nat → Int) (ml : Nat → Int) (Φ : Int → (Nat → Int) → (Nat → Int) → Prop) : Prop := (qR x1 ∧ ((x1 < (0 : Int) ∨ (6 : Int) < x1) → ((qR x1 ∧ qR (3 : Int)) ∧ (¬ x1 = (3 : Int) → wp_X5_carry_87 Φ  x2 (1 : Int) ms ml) ∧ (¬ (¬ x1 = (3 : Int)) → wp_X5_carry_87 Φ  x2 (0 : Int) ms ml))) ∧ (x1 = (0 : Int) → wp_X5_lightNow x2 ms (fun (r4 : Int) (g5 : Nat → Int) => Φ r4 g5 ml)) ∧ (x1 = (1 : Int) → wp_X5_darkNow x2 ms (fun (r6 : Int) (g7 : Nat → Int) => Φ r6 g7 ml)) ∧ (x1 = (2 : Int) → wp_X5_kindNow x2 x3 ms (fun (r8 : Int) (g9 : Nat → Int) => Φ r8 g9 ml)) ∧ (x1 = (3 : Int) → ((qR x1 ∧ qR (3 : Int)) ∧ (¬ x1 = (3 : Int) → wp_X5_carry_87 Φ  x2 (1 : Int) ms ml) ∧ (¬ (¬ x1 = (3 : Int)) → wp_X5_carry_87 Φ  x2 (0 : Int) ms ml))) ∧ (x1 = (4 : Int) → ((qR x1 ∧ qR (3 : Int)) ∧ (¬ x1 = (3 : Int) → wp_X5_carry_87 Φ  x2 (1 : Int) ms ml) ∧ (¬ (¬ x1 = (3 : Int)) → wp_X5_carry_87 Φ  x2 (0 : Int) ms ml))) ∧ (x1 = (5 : Int) → wp_X5_sortNow x2 ms ml (fun (r12 : Int) (g13 : Nat → Int) (g14 : Nat → Int) => Φ r12 g13 g14)) ∧ (x1 = (6 : Int) → wp_X5_swapNow x2 x3 ms ml (fun (r15 : Int) (g16 : Nat → Int) (g17 : Nat → Int) => Φ r15 g16 g17)))
set_option maxHeartbeats 4000000 in
set_option maxRecDepth 100000 in
theorem c_X5_carry (l : Launch) (D : va_G) (E : Nat → ClassId) (m0 m1 m2 m3 m4 m5 m6 m7 : Nat) (th : Int) (sm : Int) (le : Int) (tk : Int) (fr : Int) (ti : Int) (fa : Int) (ms : Nat → Int) (ma : Nat → Int) (mv : Nat → Int) (mt : Nat → Int) (mn : Nat → Int) (ml : Nat → Int) (mr : Nat → Int) (x1 : Int) (x2 : Int) (x3 : Int) {Φ : Int → (Nat → Int) → (Nat → Int) → Prop} (hw : wp_X5_carry x1 x2 x3 ms ml Φ) : qRW (σ := (Nat → Int) × (Nat → Int)) l D E qF0 yX5_carry wsX5_carry 5 113 [(m0, .inr (5, [.int (qI th), .ref m1, .ref m2, .ref m3, .int (qI sm), .ref m4, .int (qI le), .ref m5, .ref m6, .ref m7, .int (qI tk), .int (qI fr), .int (qI ti), .int (qI fa)])), (m1, qA (E 0) 635 ms), (m2, qA (E 0) 635 ma), (m3, qA (E 0) 3175 mv), (m4, qA (E 0) 140 mt), (m5, qA (E 0) 2 mn), (m6, qA (E 0) 64 ml), (m7, qA (E 0) 49152 mr)] [.ref m0, .int (qI x1), .int (qI x2), .int (qI x3)] qeI (fun u => [(m0, .inr (5, [.int (qI th), .ref m1, .ref m2, .ref m3, .int (qI sm), .ref m4, .int (qI le), .ref m5, .ref m6, .ref m7, .int (qI tk), .int (qI fr), .int (qI ti), .int (qI fa)])), (m1, qA (E 0) 635 u.1), (m2, qA (E 0) 635 ma), (m3, qA (E 0) 3175 mv), (m4, qA (E 0) 140 mt), (m5, qA (E 0) 2 mn), (m6, qA (E 0) 64 u.2), (m7, qA (E 0) 49152 mr)]) (fun r u => Φ r u.1 u.2) := by
  refine qRW_int (nL := 4) (own := RX5) qF0_ok (by decide) rfl rfl (Nat.le_of_ble_eq_true rfl) (fun X C hend => ?_)
  have hB87 : ∀ x2 : Int, ∀ k1 : Int, ∀ ms : Nat → Int, ∀ ml : Nat → Int, wp_X5_carry_87 Φ  x2 k1 ms ml → qZ X 0 0 [(m0, .inr (5, [.int (qI th), .ref m1, .ref m2, .ref m3, .int (qI sm), .ref m4, .int (qI le), .ref m5, .ref m6, .ref m7, .int (qI tk), .int (qI fr), .int (qI ti), .int (qI fa)])), (m1, qA (E 0) 635 ms), (m2, qA (E 0) 635 ma), (m3, qA (E 0) 3175 mv), (m4, qA (E 0) 140 mt), (m5, qA (E 0) 2 mn), (m6, qA (E 0) 64 ml), (m7, qA (E 0) 49152 mr)] 87 [(2, .int (qI x2))] [.int (qI k1), .ref m0] := by
    intro x2 k1 ms ml hw
    unfold wp_X5_carry_87 at hw
    refine z_iload_n C 0 rfl rfl dX5_carry_87 ?_
    refine z_iconst C dX5_carry_88 ?_
    refine z_callVW (n := 3) C (c_X5_drawNow l D E m0 m1 m2 m3 m4 m5 m6 m7 th sm le tk fr ti fa ms ma mv mt mn ml mr k1 x2 (1 : Int) hw) qF0_ok (fun _ _ _ => trivial) gX5_carry_X5_drawNow rfl (by decide +kernel) ⟨(Nat.le_of_ble_eq_true rfl), (Nat.le_of_ble_eq_true rfl)⟩ rfl 0 rfl rfl [0, 1, 2, 3, 4, 5, 6, 7] [] (wr := []) rfl rfl rfl rfl (by decide) [0, 1, 2, 3, 4, 5, 6, 7] rfl (fun u9 => [(m0, .inr (5, [.int (qI th), .ref m1, .ref m2, .ref m3, .int (qI sm), .ref m4, .int (qI le), .ref m5, .ref m6, .ref m7, .int (qI tk), .int (qI fr), .int (qI ti), .int (qI fa)])), (m1, qA (E 0) 635 u9), (m2, qA (E 0) 635 ma), (m3, qA (E 0) 3175 mv), (m4, qA (E 0) 140 mt), (m5, qA (E 0) 2 mn), (m6, qA (E 0) 64 ml), (m7, qA (E 0) 49152 mr)]) (fun _ => rfl) rfl (Nat.le_of_ble_eq_true rfl) dX5_carry_89 (fun r1 u9 hw => ?_)
    obtain ⟨g2, rfl⟩ : ∃ z, z = u9 := ⟨_, rfl⟩
    refine z_ws (ws' := [(m0, .inr (5, [.int (qI th), .ref m1, .ref m2, .ref m3, .int (qI sm), .ref m4, .int (qI le), .ref m5, .ref m6, .ref m7, .int (qI tk), .int (qI fr), .int (qI ti), .int (qI fa)])), (m1, qA (E 0) 635 g2), (m2, qA (E 0) 635 ma), (m3, qA (E 0) 3175 mv), (m4, qA (E 0) 140 mt), (m5, qA (E 0) 2 mn), (m6, qA (E 0) 64 ml), (m7, qA (E 0) 49152 mr)]) rfl ?_
    try dsimp only at hw
    show qZ X 0 0 [(m0, .inr (5, [.int (qI th), .ref m1, .ref m2, .ref m3, .int (qI sm), .ref m4, .int (qI le), .ref m5, .ref m6, .ref m7, .int (qI tk), .int (qI fr), .int (qI ti), .int (qI fa)])), (m1, qA (E 0) 635 g2), (m2, qA (E 0) 635 ma), (m3, qA (E 0) 3175 mv), (m4, qA (E 0) 140 mt), (m5, qA (E 0) 2 mn), (m6, qA (E 0) 64 ml), (m7, qA (E 0) 49152 mr)] _ _ [.int (qI r1)]
    exact hend 92 _ r1 (g2, ml) dX5_carry_92 hw
  unfold wp_X5_carry at hw
  show qZ X 0 0 [(m0, .inr (5, [.int (qI th), .ref m1, .ref m2, .ref m3, .int (qI sm), .ref m4, .int (qI le), .ref m5, .ref m6, .ref m7, .int (qI tk), .int (qI fr), .int (qI ti), .int (qI fa)])), (m1, qA (E 0) 635 ms), (m2, qA (E 0) 635 ma), (m3, qA (E 0) 3175 mv), (m4, qA (E 0) 140 mt), (m5, qA (E 0) 2 mn), (m6, qA (E 0) 64 ml), (m7, qA (E 0) 49152 mr)] 0 [(0, .ref m0), (1, .int (qI x1)), (2, .int (qI x2)), (3, .int (qI x3))] []
  refine z_iload_n C 1 rfl rfl dX5_carry_0 ?_
  rcases (show (x1 < (0 : Int) ∨ (6 : Int) < x1) ∨ x1 = (0 : Int) ∨ x1 = (1 : Int) ∨ x1 = (2 : Int) ∨ x1 = (3 : Int) ∨ x1 = (4 : Int) ∨ x1 = (5 : Int) ∨ x1 = (6 : Int) by omega) with c18 | c18 | c18 | c18 | c18 | c18 | c18 | c18
  · refine z_swOut (tgt := 76) C hw.1 c18 (by decide) dX5_carry_1 ?_
    replace hw := hw.2.1 c18
    refine z_aload_n C 0 rfl rfl dX5_carry_76 ?_
    refine z_iload_n C 1 rfl rfl dX5_carry_77 ?_
    refine z_iconst C dX5_carry_78 ?_
    refine z_icmp_ne (tgt := 86) C hw.1 (by decide) dX5_carry_79 (fun c3 => ?_) (fun c3 => ?_)
    · replace hw := hw.2.1 c3
      refine z_iconst C dX5_carry_86 ?_
      refine z_lst (ps := [2]) (lv' := [(2, .int (qI x2))]) (st' := [.int (qI (1 : Int)), .ref m0]) rfl rfl ?_
      exact hB87 x2 (1 : Int) ms ml hw
    · replace hw := hw.2.2 c3
      refine z_iconst C dX5_carry_82 ?_
      refine z_goto (tgt := 87) C (by decide) dX5_carry_83 ?_
      refine z_lst (ps := [2]) (lv' := [(2, .int (qI x2))]) (st' := [.int (qI (0 : Int)), .ref m0]) rfl rfl ?_
      exact hB87 x2 (0 : Int) ms ml hw
  · refine z_swIn (off := (43 : Int)) (tgt := 44) C hw.1 (by omega) (by omega) (by rw [c18]; rfl) (by decide) dX5_carry_1 ?_
    replace hw := hw.2.2.1 c18
    refine z_aload_n C 0 rfl rfl dX5_carry_44 ?_
    refine z_iload_n C 2 rfl rfl dX5_carry_45 ?_
    refine z_callVW (n := 1) C (c_X5_lightNow l D E m0 m1 m2 m3 m4 m5 m6 m7 th sm le tk fr ti fa ms ma mv mt mn ml mr x2 hw) qF0_ok (fun _ _ _ => trivial) gX5_carry_X5_lightNow rfl (by decide +kernel) ⟨(Nat.le_of_ble_eq_true rfl), (Nat.le_of_ble_eq_true rfl)⟩ rfl 0 rfl rfl [0, 1, 2, 3, 4, 5, 6, 7] [] (wr := []) rfl rfl rfl rfl (by decide) [0, 1, 2, 3, 4, 5, 6, 7] rfl (fun u9 => [(m0, .inr (5, [.int (qI th), .ref m1, .ref m2, .ref m3, .int (qI sm), .ref m4, .int (qI le), .ref m5, .ref m6, .ref m7, .int (qI tk), .int (qI fr), .int (qI ti), .int (qI fa)])), (m1, qA (E 0) 635 u9), (m2, qA (E 0) 635 ma), (m3, qA (E 0) 3175 mv), (m4, qA (E 0) 140 mt), (m5, qA (E 0) 2 mn), (m6, qA (E 0) 64 ml), (m7, qA (E 0) 49152 mr)]) (fun _ => rfl) rfl (Nat.le_of_ble_eq_true rfl) dX5_carry_46 (fun r4 u9 hw => ?_)
    obtain ⟨g5, rfl⟩ : ∃ z, z = u9 := ⟨_, rfl⟩
    refine z_ws (ws' := [(m0, .inr (5, [.int (qI th), .ref m1, .ref m2, .ref m3, .int (qI sm), .ref m4, .int (qI le), .ref m5, .ref m6, .ref m7, .int (qI tk), .int (qI fr), .int (qI ti), .int (qI fa)])), (m1, qA (E 0) 635 g5), (m2, qA (E 0) 635 ma), (m3, qA (E 0) 3175 mv), (m4, qA (E 0) 140 mt), (m5, qA (E 0) 2 mn), (m6, qA (E 0) 64 ml), (m7, qA (E 0) 49152 mr)]) rfl ?_
    try dsimp only at hw
    show qZ X 0 0 [(m0, .inr (5, [.int (qI th), .ref m1, .ref m2, .ref m3, .int (qI sm), .ref m4, .int (qI le), .ref m5, .ref m6, .ref m7, .int (qI tk), .int (qI fr), .int (qI ti), .int (qI fa)])), (m1, qA (E 0) 635 g5), (m2, qA (E 0) 635 ma), (m3, qA (E 0) 3175 mv), (m4, qA (E 0) 140 mt), (m5, qA (E 0) 2 mn), (m6, qA (E 0) 64 ml), (m7, qA (E 0) 49152 mr)] _ _ [.int (qI r4)]
    exact hend 49 _ r4 (g5, ml) dX5_carry_49 hw
  · refine z_swIn (off := (49 : Int)) (tgt := 50) C hw.1 (by omega) (by omega) (by rw [c18]; rfl) (by decide) dX5_carry_1 ?_
    replace hw := hw.2.2.2.1 c18
    refine z_aload_n C 0 rfl rfl dX5_carry_50 ?_
    refine z_iload_n C 2 rfl rfl dX5_carry_51 ?_
    refine z_callVW (n := 1) C (c_X5_darkNow l D E m0 m1 m2 m3 m4 m5 m6 m7 th sm le tk fr ti fa ms ma mv mt mn ml mr x2 hw) qF0_ok (fun _ _ _ => trivial) gX5_carry_X5_darkNow rfl (by decide +kernel) ⟨(Nat.le_of_ble_eq_true rfl), (Nat.le_of_ble_eq_true rfl)⟩ rfl 0 rfl rfl [0, 1, 2, 3, 4, 5, 6, 7] [] (wr := []) rfl rfl rfl rfl (by decide) [0, 1, 2, 3, 4, 5, 6, 7] rfl (fun u9 => [(m0, .inr (5, [.int (qI th), .ref m1, .ref m2, .ref m3, .int (qI sm), .ref m4, .int (qI le), .ref m5, .ref m6, .ref m7, .int (qI tk), .int (qI fr), .int (qI ti), .int (qI fa)])), (m1, qA (E 0) 635 u9), (m2, qA (E 0) 635 ma), (m3, qA (E 0) 3175 mv), (m4, qA (E 0) 140 mt), (m5, qA (E 0) 2 mn), (m6, qA (E 0) 64 ml), (m7, qA (E 0) 49152 mr)]) (fun _ => rfl) rfl (Nat.le_of_ble_eq_true rfl) dX5_carry_52 (fun r6 u9 hw => ?_)
    obtain ⟨g7, rfl⟩ : ∃ z, z = u9 := ⟨_, rfl⟩
    refine z_ws (ws' := [(m0, .inr (5, [.int (qI th), .ref m1, .ref m2, .ref m3, .int (qI sm), .ref m4, .int (qI le), .ref m5, .ref m6, .ref m7, .int (qI tk), .int (qI fr), .int (qI ti), .int (qI fa)])), (m1, qA (E 0) 635 g7), (m2, qA (E 0) 635 ma), (m3, qA (E 0) 3175 mv), (m4, qA (E 0) 140 mt), (m5, qA (E 0) 2 mn), (m6, qA (E 0) 64 ml), (m7, qA (E 0) 49152 mr)]) rfl ?_
    try dsimp only at hw
    show qZ X 0 0 [(m0, .inr (5, [.int (qI th), .ref m1, .ref m2, .ref m3, .int (qI sm), .ref m4, .int (qI le), .ref m5, .ref m6, .ref m7, .int (qI tk), .int (qI fr), .int (qI ti), .int (qI fa)])), (m1, qA (E 0) 635 g7), (m2, qA (E 0) 635 ma), (m3, qA (E 0) 3175 mv), (m4, qA (E 0) 140 mt), (m5, qA (E 0) 2 mn), (m6, qA (E 0) 64 ml), (m7, qA (E 0) 49152 mr)] _ _ [.int (qI r6)]
    exact hend 55 _ r6 (g7, ml) dX5_carry_55 hw
  · refine z_swIn (off := (55 : Int)) (tgt := 56) C hw.1 (by omega) (by omega) (by rw [c18]; rfl) (by decide) dX5_carry_1 ?_
    replace hw := hw.2.2.2.2.1 c18
    refine z_aload_n C 0 rfl rfl dX5_carry_56 ?_
    refine z_iload_n C 2 rfl rfl dX5_carry_57 ?_
    refine z_iload_n C 3 rfl rfl dX5_carry_58 ?_
    refine z_callVW (n := 2) C (c_X5_kindNow l D E m0 m1 m2 m3 m4 m5 m6 m7 th sm le tk fr ti fa ms ma mv mt mn ml mr x2 x3 hw) qF0_ok (fun _ _ _ => trivial) gX5_carry_X5_kindNow rfl (by decide +kernel) ⟨(Nat.le_of_ble_eq_true rfl), (Nat.le_of_ble_eq_true rfl)⟩ rfl 0 rfl rfl [0, 1, 2, 3, 4, 5, 6, 7] [] (wr := []) rfl rfl rfl rfl (by decide) [0, 1, 2, 3, 4, 5, 6, 7] rfl (fun u9 => [(m0, .inr (5, [.int (qI th), .ref m1, .ref m2, .ref m3, .int (qI sm), .ref m4, .int (qI le), .ref m5, .ref m6, .ref m7, .int (qI tk), .int (qI fr), .int (qI ti), .int (qI fa)])), (m1, qA (E 0) 635 u9), (m2, qA (E 0) 635 ma), (m3, qA (E 0) 3175 mv), (m4, qA (E 0) 140 mt), (m5, qA (E 0) 2 mn), (m6, qA (E 0) 64 ml), (m7, qA (E 0) 49152 mr)]) (fun _ => rfl) rfl (Nat.le_of_ble_eq_true rfl) dX5_carry_59 (fun r8 u9 hw => ?_)
    obtain ⟨g9, rfl⟩ : ∃ z, z = u9 := ⟨_, rfl⟩
    refine z_ws (ws' := [(m0, .inr (5, [.int (qI th), .ref m1, .ref m2, .ref m3, .int (qI sm), .ref m4, .int (qI le), .ref m5, .ref m6, .ref m7, .int (qI tk), .int (qI fr), .int (qI ti), .int (qI fa)])), (m1, qA (E 0) 635 g9), (m2, qA (E 0) 635 ma), (m3, qA (E 0) 3175 mv), (m4, qA (E 0) 140 mt), (m5, qA (E 0) 2 mn), (m6, qA (E 0) 64 ml), (m7, qA (E 0) 49152 mr)]) rfl ?_
    try dsimp only at hw
    show qZ X 0 0 [(m0, .inr (5, [.int (qI th), .ref m1, .ref m2, .ref m3, .int (qI sm), .ref m4, .int (qI le), .ref m5, .ref m6, .ref m7, .int (qI tk), .int (qI fr), .int (qI ti), .int (qI fa)])), (m1, qA (E 0) 635 g9), (m2, qA (E 0) 635 ma), (m3, qA (E 0) 3175 mv), (m4, qA (E 0) 140 mt), (m5, qA (E 0) 2 mn), (m6, qA (E 0) 64 ml), (m7, qA (E 0) 49152 mr)] _ _ [.int (qI r8)]
    exact hend 62 _ r8 (g9, ml) dX5_carry_62 hw
  · refine z_swIn (off := (75 : Int)) (tgt := 76) C hw.1 (by omega) (by omega) (by rw [c18]; rfl) (by decide) dX5_carry_1 ?_
    replace hw := hw.2.2.2.2.2.1 c18
    refine z_aload_n C 0 rfl rfl dX5_carry_76 ?_
    refine z_iload_n C 1 rfl rfl dX5_carry_77 ?_
    refine z_iconst C dX5_carry_78 ?_
    refine z_icmp_ne (tgt := 86) C hw.1 (by decide) dX5_carry_79 (fun c10 => ?_) (fun c10 => ?_)
    · replace hw := hw.2.1 c10
      refine z_iconst C dX5_carry_86 ?_
      refine z_lst (ps := [2]) (lv' := [(2, .int (qI x2))]) (st' := [.int (qI (1 : Int)), .ref m0]) rfl rfl ?_
      exact hB87 x2 (1 : Int) ms ml hw
    · replace hw := hw.2.2 c10
      refine z_iconst C dX5_carry_82 ?_
      refine z_goto (tgt := 87) C (by decide) dX5_carry_83 ?_
      refine z_lst (ps := [2]) (lv' := [(2, .int (qI x2))]) (st' := [.int (qI (0 : Int)), .ref m0]) rfl rfl ?_
      exact hB87 x2 (0 : Int) ms ml hw
  · refine z_swIn (off := (75 : Int)) (tgt := 76) C hw.1 (by omega) (by omega) (by rw [c18]; rfl) (by decide) dX5_carry_1 ?_
    replace hw := hw.2.2.2.2.2.2.1 c18
    refine z_aload_n C 0 rfl rfl dX5_carry_76 ?_
    refine z_iload_n C 1 rfl rfl dX5_carry_77 ?_
    refine z_iconst C dX5_carry_78 ?_
    refine z_icmp_ne (tgt := 86) C hw.1 (by decide) dX5_carry_79 (fun c11 => ?_) (fun c11 => ?_)
    · replace hw := hw.2.1 c11
      refine z_iconst C dX5_carry_86 ?_
      refine z_lst (ps := [2]) (lv' := [(2, .int (qI x2))]) (st' := [.int (qI (1 : Int)), .ref m0]) rfl rfl ?_
      exact hB87 x2 (1 : Int) ms ml hw
    · replace hw := hw.2.2 c11
      refine z_iconst C dX5_carry_82 ?_
      refine z_goto (tgt := 87) C (by decide) dX5_carry_83 ?_
      refine z_lst (ps := [2]) (lv' := [(2, .int (qI x2))]) (st' := [.int (qI (0 : Int)), .ref m0]) rfl rfl ?_
      exact hB87 x2 (0 : Int) ms ml hw
  · refine z_swIn (off := (62 : Int)) (tgt := 63) C hw.1 (by omega) (by omega) (by rw [c18]; rfl) (by decide) dX5_carry_1 ?_
    replace hw := hw.2.2.2.2.2.2.2.1 c18
    refine z_aload_n C 0 rfl rfl dX5_carry_63 ?_
    refine z_iload_n C 2 rfl rfl dX5_carry_64 ?_
    refine z_callVW (n := 1) C (c_X5_sortNow l D E m0 m1 m2 m3 m4 m5 m6 m7 th sm le tk fr ti fa ms ma mv mt mn ml mr x2 hw) qF0_ok (fun _ _ _ => trivial) gX5_carry_X5_sortNow rfl (by decide +kernel) ⟨(Nat.le_of_ble_eq_true rfl), (Nat.le_of_ble_eq_true rfl)⟩ rfl 0 rfl rfl [0, 1, 2, 3, 4, 5, 6, 7] [] (wr := []) rfl rfl rfl rfl (by decide) [0, 1, 2, 3, 4, 5, 6, 7] rfl (fun u9 => [(m0, .inr (5, [.int (qI th), .ref m1, .ref m2, .ref m3, .int (qI sm), .ref m4, .int (qI le), .ref m5, .ref m6, .ref m7, .int (qI tk), .int (qI fr), .int (qI ti), .int (qI fa)])), (m1, qA (E 0) 635 u9.1), (m2, qA (E 0) 635 ma), (m3, qA (E 0) 3175 mv), (m4, qA (E 0) 140 mt), (m5, qA (E 0) 2 mn), (m6, qA (E 0) 64 u9.2), (m7, qA (E 0) 49152 mr)]) (fun _ => rfl) rfl (Nat.le_of_ble_eq_true rfl) dX5_carry_65 (fun r12 u9 hw => ?_)
    obtain ⟨g13, g14⟩ := u9
    refine z_ws (ws' := [(m0, .inr (5, [.int (qI th), .ref m1, .ref m2, .ref m3, .int (qI sm), .ref m4, .int (qI le), .ref m5, .ref m6, .ref m7, .int (qI tk), .int (qI fr), .int (qI ti), .int (qI fa)])), (m1, qA (E 0) 635 g13), (m2, qA (E 0) 635 ma), (m3, qA (E 0) 3175 mv), (m4, qA (E 0) 140 mt), (m5, qA (E 0) 2 mn), (m6, qA (E 0) 64 g14), (m7, qA (E 0) 49152 mr)]) rfl ?_
    try dsimp only at hw
    show qZ X 0 0 [(m0, .inr (5, [.int (qI th), .ref m1, .ref m2, .ref m3, .int (qI sm), .ref m4, .int (qI le), .ref m5, .ref m6, .ref m7, .int (qI tk), .int (qI fr), .int (qI ti), .int (qI fa)])), (m1, qA (E 0) 635 g13), (m2, qA (E 0) 635 ma), (m3, qA (E 0) 3175 mv), (m4, qA (E 0) 140 mt), (m5, qA (E 0) 2 mn), (m6, qA (E 0) 64 g14), (m7, qA (E 0) 49152 mr)] _ _ [.int (qI r12)]
    exact hend 68 _ r12 (g13, g14) dX5_carry_68 hw
  · refine z_swIn (off := (68 : Int)) (tgt := 69) C hw.1 (by omega) (by omega) (by rw [c18]; rfl) (by decide) dX5_carry_1 ?_
    replace hw := hw.2.2.2.2.2.2.2.2 c18
    refine z_aload_n C 0 rfl rfl dX5_carry_69 ?_
    refine z_iload_n C 2 rfl rfl dX5_carry_70 ?_
    refine z_iload_n C 3 rfl rfl dX5_carry_71 ?_
    refine z_callVW (n := 2) C (c_X5_swapNow l D E m0 m1 m2 m3 m4 m5 m6 m7 th sm le tk fr ti fa ms ma mv mt mn ml mr x2 x3 hw) qF0_ok (fun _ _ _ => trivial) gX5_carry_X5_swapNow rfl (by decide +kernel) ⟨(Nat.le_of_ble_eq_true rfl), (Nat.le_of_ble_eq_true rfl)⟩ rfl 0 rfl rfl [0, 1, 2, 3, 4, 5, 6, 7] [] (wr := []) rfl rfl rfl rfl (by decide) [0, 1, 2, 3, 4, 5, 6, 7] rfl (fun u9 => [(m0, .inr (5, [.int (qI th), .ref m1, .ref m2, .ref m3, .int (qI sm), .ref m4, .int (qI le), .ref m5, .ref m6, .ref m7, .int (qI tk), .int (qI fr), .int (qI ti), .int (qI fa)])), (m1, qA (E 0) 635 u9.1), (m2, qA (E 0) 635 ma), (m3, qA (E 0) 3175 mv), (m4, qA (E 0) 140 mt), (m5, qA (E 0) 2 mn), (m6, qA (E 0) 64 u9.2), (m7, qA (E 0) 49152 mr)]) (fun _ => rfl) rfl (Nat.le_of_ble_eq_true rfl) dX5_carry_72 (fun r15 u9 hw => ?_)
    obtain ⟨g16, g17⟩ := u9
    refine z_ws (ws' := [(m0, .inr (5, [.int (qI th), .ref m1, .ref m2, .ref m3, .int (qI sm), .ref m4, .int (qI le), .ref m5, .ref m6, .ref m7, .int (qI tk), .int (qI fr), .int (qI ti), .int (qI fa)])), (m1, qA (E 0) 635 g16), (m2, qA (E 0) 635 ma), (m3, qA (E 0) 3175 mv), (m4, qA (E 0) 140 mt), (m5, qA (E 0) 2 mn), (m6, qA (E 0) 64 g17), (m7, qA (E 0) 49152 mr)]) rfl ?_
    try dsimp only at hw
    show qZ X 0 0 [(m0, .inr (5, [.int (qI th), .ref m1, .ref m2, .ref m3, .int (qI sm), .ref m4, .int (qI le), .ref m5, .ref m6, .ref m7, .int (qI tk), .int (qI fr), .int (qI ti), .int (qI fa)])), (m1, qA (E 0) 635 g16), (m2, qA (E 0) 635 ma), (m3, qA (E 0) 3175 mv), (m4, qA (E 0) 140 mt), (m5, qA (E 0) 2 mn), (m6, qA (E 0) 64 g17), (m7, qA (E 0) 49152 mr)] _ _ [.int (qI r15)]
    exact hend 75 _ r15 (g16, g17) dX5_carry_75 hw
def wp_X5_command_185 (Φ : Int → Int → Int → Int → Int → (Nat → Int) → (Nat → Int) → (Nat → Int) → Prop)  (k0 : Int) (tk : Int) (fr : Int) (ti : Int) (fa : Int) (ms : Nat → Int) (mn : Nat → Int) (ml : Nat → Int) : Prop := Φ k0 tk fr ti fa ms mn ml
def wp_X5_command_143 (Φ : Int → Int → Int → Int → Int → (Nat → Int) → (Nat → Int) → (Nat → Int) → Prop)  (x2 : Int) (le : Int) (tk : Int) (fr : Int) (ti : Int) (fa : Int) (ms : Nat → Int) (mt : Nat → Int) (mn : Nat → Int) (ml : Nat → Int) : Prop := (qR fa ∧ (fa < (0 : Int) → ((0 ≤ (0 : Int) ∧ (0 : Int) < 2) ∧ (∀ v2 : Int, v2 = mn ((0 : Int)).toNat → ((0 ≤ (1 : Int) ∧ (1 : Int) < 2) ∧ (∀ v3 : Int, v3 = mn ((1 : Int)).toNat → wp_X5_carry x2 v2 v3 ms ml (fun (r4 : Int) (g5 : Nat → Int) (g6 : Nat → Int) => wp_X5_next le tk fr ti mt (fun (g8 : Int) (g9 : Int) (g10 : Int) => (qR r4 ∧ ((0 : Int) ≤ r4 → wp_X5_command_185 Φ  (1 : Int) g8 g9 g10 fa g5 mn g6) ∧ (¬ ((0 : Int) ≤ r4) → wp_X5_command_185 Φ  (0 : Int) g8 g9 g10 fa g5 mn g6))))))))) ∧ (¬ (fa < (0 : Int)) → Φ (0 : Int) tk fr ti fa ms mn ml))
def wp_X5_command_111 (Φ : Int → Int → Int → Int → Int → (Nat → Int) → (Nat → Int) → (Nat → Int) → Prop)  (x1 : Int) (x2 : Int) (le : Int) (tk : Int) (fr : Int) (ti : Int) (fa : Int) (ms : Nat → Int) (mt : Nat → Int) (mn : Nat → Int) (ml : Nat → Int) : Prop := (qR fa ∧ ((0 : Int) ≤ fa → wp_X5_command_143 Φ  x2 le tk fr ti fa ms mt mn ml) ∧ (¬ ((0 : Int) ≤ fa) → ((0 ≤ (0 : Int) ∧ (0 : Int) < 2) ∧ (∀ v13 : Int, v13 = mn ((0 : Int)).toNat → ((0 ≤ (1 : Int) ∧ (1 : Int) < 2) ∧ (∀ v14 : Int, v14 = mn ((1 : Int)).toNat → wp_X5_codeOf x2 v13 v14 ms (fun (r15 : Int) => (qR r15 ∧ ((0 : Int) ≤ r15 → wp_X5_command_143 Φ  x2 le tk fr ti fa ms mt mn ml) ∧ (¬ ((0 : Int) ≤ r15) → wp_X5_fail x1 fa (fun (g18 : Int) => wp_X5_command_143 Φ  x2 le tk fr ti g18 ms mt mn ml))))))))))
def wp_X5_command_103 (Φ : Int → Int → Int → Int → Int → (Nat → Int) → (Nat → Int) → (Nat → Int) → Prop)  (x1 : Int) (x2 : Int) (le : Int) (tk : Int) (fr : Int) (ti : Int) (fa : Int) (ms : Nat → Int) (mt : Nat → Int) (mn : Nat → Int) (ml : Nat → Int) : Prop := wp_X5_fail fr fa (fun (g20 : Int) => wp_X5_command_111 Φ  x1 x2 le tk fr ti g20 ms mt mn ml)
def wp_X5_command_75 (Φ : Int → Int → Int → Int → Int → (Nat → Int) → (Nat → Int) → (Nat → Int) → Prop)  (x1 : Int) (x2 : Int) (le : Int) (tk : Int) (fr : Int) (ti : Int) (fa : Int) (ms : Nat → Int) (mt : Nat → Int) (mn : Nat → Int) (ml : Nat → Int) : Prop := (qR fa ∧ ((0 : Int) ≤ fa → wp_X5_command_111 Φ  x1 x2 le tk fr ti fa ms mt mn ml) ∧ (¬ ((0 : Int) ≤ fa) → ((qR tk ∧ qR (3 : Int)) ∧ (¬ tk = (3 : Int) → wp_X5_command_103 Φ  x1 x2 le tk fr ti fa ms mt mn ml) ∧ (¬ (¬ tk = (3 : Int)) → wp_X5_sign fr le mt (fun (r23 : Int) => ((qR r23 ∧ qR (59 : Int)) ∧ (r23 = (59 : Int) → wp_X5_command_111 Φ  x1 x2 le tk fr ti fa ms mt mn ml) ∧ (¬ (r23 = (59 : Int)) → wp_X5_command_103 Φ  x1 x2 le tk fr ti fa ms mt mn ml)))))))
def wp_X5_command_50 (Φ : Int → Int → Int → Int → Int → (Nat → Int) → (Nat → Int) → (Nat → Int) → Prop)  (x1 : Int) (x2 : Int) (x3 : Int) (le : Int) (ms : Nat → Int) (mt : Nat → Int) (ml : Nat → Int) : Nat → Int → Int → Int → Int → Int → (Nat → Int) → Prop
  | 0, _, _, _, _, _, _ => False
  | n9 + 1, x4, tk, fr, ti, fa, mn => ((qR x4 ∧ qR x3) ∧ (x3 ≤ x4 → wp_X5_command_75 Φ  x1 x2 le tk fr ti fa ms mt mn ml) ∧ (¬ (x3 ≤ x4) → (qR fa ∧ ((0 : Int) ≤ fa → wp_X5_command_75 Φ  x1 x2 le tk fr ti fa ms mt mn ml) ∧ (¬ ((0 : Int) ≤ fa) → wp_X5_readNumber x4 le tk fr ti fa mt mn (fun (g28 : Int) (g29 : Int) (g30 : Int) (g31 : Int) (g32 : Nat → Int) => (∀ v33 : Int, v33 = x4 + (1 : Int) → wp_X5_command_50 Φ  x1 x2 x3 le ms mt ml n9 v33 g28 g29 g30 g31 g32))))))
def wp_X5_command_46 (Φ : Int → Int → Int → Int → Int → (Nat → Int) → (Nat → Int) → (Nat → Int) → Prop)  (x1 : Int) (x2 : Int) (k0 : Int) (le : Int) (tk : Int) (fr : Int) (ti : Int) (fa : Int) (ms : Nat → Int) (mt : Nat → Int) (mn : Nat → Int) (ml : Nat → Int) : Prop := ∃ n : Nat, wp_X5_command_50 Φ  x1 x2 k0 le ms mt ml n (0 : Int) tk fr ti fa mn
def wp_X5_command_41 (Φ : Int → Int → Int → Int → Int → (Nat → Int) → (Nat → Int) → (Nat → Int) → Prop)  (x1 : Int) (x2 : Int) (le : Int) (tk : Int) (fr : Int) (ti : Int) (fa : Int) (ms : Nat → Int) (mt : Nat → Int) (mn : Nat → Int) (ml : Nat → Int) : Prop := wp_X5_command_46 Φ  x1 x2 (2 : Int) le tk fr ti fa ms mt mn ml
def wp_X5_command  (le : Int) (tk : Int) (fr : Int) (ti : Int) (fa : Int) (ms : Nat → Int) (mt : Nat → Int) (mn : Nat → Int) (ml : Nat → Int) (Φ : Int → Int → Int → Int → Int → (Nat → Int) → (Nat → Int) → (Nat → Int) → Prop) : Prop := wp_X5_wordHere le tk fr ti mt (fun (r34 : Int) => ((qR r34 ∧ qR (7 : Int)) ∧ (¬ r34 = (7 : Int) → wp_X5_next le tk fr ti mt (fun (g37 : Int) (g38 : Int) (g39 : Int) => ((qR r34 ∧ qR (2 : Int)) ∧ (r34 = (2 : Int) → wp_X5_command_41 Φ  fr r34 le g37 g38 g39 fa ms mt mn ml) ∧ (¬ (r34 = (2 : Int)) → ((qR r34 ∧ qR (6 : Int)) ∧ (¬ r34 = (6 : Int) → wp_X5_command_46 Φ  fr r34 (1 : Int) le g37 g38 g39 fa ms mt mn ml) ∧ (¬ (¬ r34 = (6 : Int)) → wp_X5_command_41 Φ  fr r34 le g37 g38 g39 fa ms mt mn ml)))))) ∧ (¬ (¬ r34 = (7 : Int)) → wp_X5_fail fr fa (fun (g43 : Int) => Φ (0 : Int) tk fr ti g43 ms mn ml))))
theorem iX5_command_X5 : ∀ w ∈ wsX50, w ∈ wsX5_command := fun w h => List.mem_cons_of_mem _ (List.mem_append_right _ (h))
set_option maxHeartbeats 4000000 in
set_option maxRecDepth 100000 in
theorem c_X5_command (l : Launch) (D : va_G) (E : Nat → ClassId) (m0 m1 m2 m3 m4 m5 m6 m7 : Nat) (th : Int) (sm : Int) (le : Int) (tk : Int) (fr : Int) (ti : Int) (fa : Int) (ms : Nat → Int) (ma : Nat → Int) (mv : Nat → Int) (mt : Nat → Int) (mn : Nat → Int) (ml : Nat → Int) (mr : Nat → Int)  {Φ : Int → Int → Int → Int → Int → (Nat → Int) → (Nat → Int) → (Nat → Int) → Prop} (hw : wp_X5_command  le tk fr ti fa ms mt mn ml Φ) : qRW (σ := (Int) × (Int) × (Int) × (Int) × (Nat → Int) × (Nat → Int) × (Nat → Int)) l D E qF0 yX5_command wsX5_command 6 136 [(m0, .inr (5, [.int (qI th), .ref m1, .ref m2, .ref m3, .int (qI sm), .ref m4, .int (qI le), .ref m5, .ref m6, .ref m7, .int (qI tk), .int (qI fr), .int (qI ti), .int (qI fa)])), (m1, qA (E 0) 635 ms), (m2, qA (E 0) 635 ma), (m3, qA (E 0) 3175 mv), (m4, qA (E 0) 140 mt), (m5, qA (E 0) 2 mn), (m6, qA (E 0) 64 ml), (m7, qA (E 0) 49152 mr)] [.ref m0] qeI (fun u => [(m0, .inr (5, [.int (qI th), .ref m1, .ref m2, .ref m3, .int (qI sm), .ref m4, .int (qI le), .ref m5, .ref m6, .ref m7, .int (qI u.1), .int (qI u.2.1), .int (qI u.2.2.1), .int (qI u.2.2.2.1)])), (m1, qA (E 0) 635 u.2.2.2.2.1), (m2, qA (E 0) 635 ma), (m3, qA (E 0) 3175 mv), (m4, qA (E 0) 140 mt), (m5, qA (E 0) 2 u.2.2.2.2.2.1), (m6, qA (E 0) 64 u.2.2.2.2.2.2), (m7, qA (E 0) 49152 mr)]) (fun r u => Φ r u.1 u.2.1 u.2.2.1 u.2.2.2.1 u.2.2.2.2.1 u.2.2.2.2.2.1 u.2.2.2.2.2.2) := by
  refine qRW_int (nL := 5) (own := RX5) qF0_ok (by decide) rfl rfl (Nat.le_of_ble_eq_true rfl) (fun X C hend => ?_)
  have hB185 : ∀ k0 : Int, ∀ tk : Int, ∀ fr : Int, ∀ ti : Int, ∀ fa : Int, ∀ ms : Nat → Int, ∀ mn : Nat → Int, ∀ ml : Nat → Int, wp_X5_command_185 Φ  k0 tk fr ti fa ms mn ml → qZ X 0 0 [(m0, .inr (5, [.int (qI th), .ref m1, .ref m2, .ref m3, .int (qI sm), .ref m4, .int (qI le), .ref m5, .ref m6, .ref m7, .int (qI tk), .int (qI fr), .int (qI ti), .int (qI fa)])), (m1, qA (E 0) 635 ms), (m2, qA (E 0) 635 ma), (m3, qA (E 0) 3175 mv), (m4, qA (E 0) 140 mt), (m5, qA (E 0) 2 mn), (m6, qA (E 0) 64 ml), (m7, qA (E 0) 49152 mr)] 185 [] [.int (qI k0)] := by
    intro k0 tk fr ti fa ms mn ml hw
    unfold wp_X5_command_185 at hw
    exact hend 185 _ k0 (tk, fr, ti, fa, ms, mn, ml) dX5_command_185 hw
  have hB143 : ∀ x2 : Int, ∀ tk : Int, ∀ fr : Int, ∀ ti : Int, ∀ fa : Int, ∀ ms : Nat → Int, ∀ mn : Nat → Int, ∀ ml : Nat → Int, wp_X5_command_143 Φ  x2 le tk fr ti fa ms mt mn ml → qZ X 0 0 [(m0, .inr (5, [.int (qI th), .ref m1, .ref m2, .ref m3, .int (qI sm), .ref m4, .int (qI le), .ref m5, .ref m6, .ref m7, .int (qI tk), .int (qI fr), .int (qI ti), .int (qI fa)])), (m1, qA (E 0) 635 ms), (m2, qA (E 0) 635 ma), (m3, qA (E 0) 3175 mv), (m4, qA (E 0) 140 mt), (m5, qA (E 0) 2 mn), (m6, qA (E 0) 64 ml), (m7, qA (E 0) 49152 mr)] 143 [(0, .ref m0), (2, .int (qI x2))] [] := by
    intro x2 tk fr ti fa ms mn ml hw
    unfold wp_X5_command_143 at hw
    refine z_aload_n C 0 rfl rfl dX5_command_143 ?_
    refine z_get C iX5_command_X5 0 rfl rfl 13 (by decide) (List.mem_of_getElem? (i := 2) rfl) rfl rfl dX5_command_144 ?_
    refine z_if_lt (tgt := 152) C hw.1 (by decide) dX5_command_147 (fun c1 => ?_) (fun c1 => ?_)
    · replace hw := hw.2.1 c1
      refine z_aload_n C 0 rfl rfl dX5_command_152 ?_
      refine z_iload_n C 1 rfl rfl dX5_command_153 ?_
      refine z_aload_n C 0 rfl rfl dX5_command_154 ?_
      refine z_get C iX5_command_X5 0 rfl rfl 7 (by decide) (List.mem_of_getElem? (i := 4) rfl) rfl rfl dX5_command_155 ?_
      refine z_iconst C dX5_command_158 ?_
      refine z_iald C 5 rfl (by decide) hw.1 dX5_command_159 ?_
      replace hw := hw.2
      refine z_name (fun v2 ev2 => ?_)
      replace hw := hw v2 ev2
      refine z_aload_n C 0 rfl rfl dX5_command_160 ?_
      refine z_get C iX5_command_X5 0 rfl rfl 7 (by decide) (List.mem_of_getElem? (i := 4) rfl) rfl rfl dX5_command_161 ?_
      refine z_iconst C dX5_command_164 ?_
      refine z_iald C 5 rfl (by decide) hw.1 dX5_command_165 ?_
      replace hw := hw.2
      refine z_name (fun v3 ev3 => ?_)
      replace hw := hw v3 ev3
      refine z_callVW (n := 3) C (c_X5_carry l D E m0 m1 m2 m3 m4 m5 m6 m7 th sm le tk fr ti fa ms ma mv mt mn ml mr x2 v2 v3 hw) qF0_ok (fun _ _ _ => trivial) gX5_command_X5_carry rfl (by decide +kernel) ⟨(Nat.le_of_ble_eq_true rfl), (Nat.le_of_ble_eq_true rfl)⟩ rfl 0 rfl rfl [0, 1, 2, 3, 4, 5, 6, 7] [] (wr := []) rfl rfl rfl rfl (by decide) [0, 1, 2, 3, 4, 5, 6, 7] rfl (fun u9 => [(m0, .inr (5, [.int (qI th), .ref m1, .ref m2, .ref m3, .int (qI sm), .ref m4, .int (qI le), .ref m5, .ref m6, .ref m7, .int (qI tk), .int (qI fr), .int (qI ti), .int (qI fa)])), (m1, qA (E 0) 635 u9.1), (m2, qA (E 0) 635 ma), (m3, qA (E 0) 3175 mv), (m4, qA (E 0) 140 mt), (m5, qA (E 0) 2 mn), (m6, qA (E 0) 64 u9.2), (m7, qA (E 0) 49152 mr)]) (fun _ => rfl) rfl (Nat.le_of_ble_eq_true rfl) dX5_command_166 (fun r4 u9 hw => ?_)
      obtain ⟨g5, g6⟩ := u9
      refine z_ws (ws' := [(m0, .inr (5, [.int (qI th), .ref m1, .ref m2, .ref m3, .int (qI sm), .ref m4, .int (qI le), .ref m5, .ref m6, .ref m7, .int (qI tk), .int (qI fr), .int (qI ti), .int (qI fa)])), (m1, qA (E 0) 635 g5), (m2, qA (E 0) 635 ma), (m3, qA (E 0) 3175 mv), (m4, qA (E 0) 140 mt), (m5, qA (E 0) 2 mn), (m6, qA (E 0) 64 g6), (m7, qA (E 0) 49152 mr)]) rfl ?_
      try dsimp only at hw
      show qZ X 0 0 [(m0, .inr (5, [.int (qI th), .ref m1, .ref m2, .ref m3, .int (qI sm), .ref m4, .int (qI le), .ref m5, .ref m6, .ref m7, .int (qI tk), .int (qI fr), .int (qI ti), .int (qI fa)])), (m1, qA (E 0) 635 g5), (m2, qA (E 0) 635 ma), (m3, qA (E 0) 3175 mv), (m4, qA (E 0) 140 mt), (m5, qA (E 0) 2 mn), (m6, qA (E 0) 64 g6), (m7, qA (E 0) 49152 mr)] _ _ [.int (qI r4)]
      refine z_istore C (by decide) rfl dX5_command_169 ?_
      refine z_aload_n C 1 rfl rfl dX5_command_171 ?_
      refine z_callVW (n := 0) C (c_X5_next l D E m0 m1 m2 m3 m4 m5 m6 m7 th sm le tk fr ti fa g5 ma mv mt mn g6 mr  hw) qF0_ok (fun _ _ _ => trivial) gX5_command_X5_next rfl (by decide +kernel) ⟨(Nat.le_of_ble_eq_true rfl), (Nat.le_of_ble_eq_true rfl)⟩ rfl 0 rfl rfl [0, 1, 2, 3, 4, 5, 6, 7] [] (wr := []) rfl rfl rfl rfl (by decide) [0, 1, 2, 3, 4, 5, 6, 7] rfl (fun u9 => [(m0, .inr (5, [.int (qI th), .ref m1, .ref m2, .ref m3, .int (qI sm), .ref m4, .int (qI le), .ref m5, .ref m6, .ref m7, .int (qI u9.1), .int (qI u9.2.1), .int (qI u9.2.2), .int (qI fa)])), (m1, qA (E 0) 635 g5), (m2, qA (E 0) 635 ma), (m3, qA (E 0) 3175 mv), (m4, qA (E 0) 140 mt), (m5, qA (E 0) 2 mn), (m6, qA (E 0) 64 g6), (m7, qA (E 0) 49152 mr)]) (fun _ => rfl) rfl (Nat.le_of_ble_eq_true rfl) dX5_command_172 (fun r7 u9 hw => ?_)
      obtain ⟨g8, g9, g10⟩ := u9
      refine z_ws (ws' := [(m0, .inr (5, [.int (qI th), .ref m1, .ref m2, .ref m3, .int (qI sm), .ref m4, .int (qI le), .ref m5, .ref m6, .ref m7, .int (qI g8), .int (qI g9), .int (qI g10), .int (qI fa)])), (m1, qA (E 0) 635 g5), (m2, qA (E 0) 635 ma), (m3, qA (E 0) 3175 mv), (m4, qA (E 0) 140 mt), (m5, qA (E 0) 2 mn), (m6, qA (E 0) 64 g6), (m7, qA (E 0) 49152 mr)]) rfl ?_
      try dsimp only at hw
      show qZ X 0 0 [(m0, .inr (5, [.int (qI th), .ref m1, .ref m2, .ref m3, .int (qI sm), .ref m4, .int (qI le), .ref m5, .ref m6, .ref m7, .int (qI g8), .int (qI g9), .int (qI g10), .int (qI fa)])), (m1, qA (E 0) 635 g5), (m2, qA (E 0) 635 ma), (m3, qA (E 0) 3175 mv), (m4, qA (E 0) 140 mt), (m5, qA (E 0) 2 mn), (m6, qA (E 0) 64 g6), (m7, qA (E 0) 49152 mr)] _ _ []
      refine z_iload C 0 rfl dX5_command_175 ?_
      refine z_if_ge (tgt := 184) C hw.1 (by decide) dX5_command_177 (fun c11 => ?_) (fun c11 => ?_)
      · replace hw := hw.2.1 c11
        refine z_iconst C dX5_command_184 ?_
        refine z_lst (ps := []) (lv' := []) (st' := [.int (qI (1 : Int))]) rfl rfl ?_
        exact hB185 (1 : Int) g8 g9 g10 fa g5 mn g6 hw
      · replace hw := hw.2.2 c11
        refine z_iconst C dX5_command_180 ?_
        refine z_goto (tgt := 185) C (by decide) dX5_command_181 ?_
        refine z_lst (ps := []) (lv' := []) (st' := [.int (qI (0 : Int))]) rfl rfl ?_
        exact hB185 (0 : Int) g8 g9 g10 fa g5 mn g6 hw
    · replace hw := hw.2.2 c1
      refine z_iconst C dX5_command_150 ?_
      exact hend 151 _ (0 : Int) (tk, fr, ti, fa, ms, mn, ml) dX5_command_151 hw
  have hB111 : ∀ x1 : Int, ∀ x2 : Int, ∀ tk : Int, ∀ fr : Int, ∀ ti : Int, ∀ fa : Int, ∀ ms : Nat → Int, ∀ mn : Nat → Int, ∀ ml : Nat → Int, wp_X5_command_111 Φ  x1 x2 le tk fr ti fa ms mt mn ml → qZ X 0 0 [(m0, .inr (5, [.int (qI th), .ref m1, .ref m2, .ref m3, .int (qI sm), .ref m4, .int (qI le), .ref m5, .ref m6, .ref m7, .int (qI tk), .int (qI fr), .int (qI ti), .int (qI fa)])), (m1, qA (E 0) 635 ms), (m2, qA (E 0) 635 ma), (m3, qA (E 0) 3175 mv), (m4, qA (E 0) 140 mt), (m5, qA (E 0) 2 mn), (m6, qA (E 0) 64 ml), (m7, qA (E 0) 49152 mr)] 111 [(0, .ref m0), (1, .int (qI x1)), (2, .int (qI x2))] [] := by
    intro x1 x2 tk fr ti fa ms mn ml hw
    unfold wp_X5_command_111 at hw
    refine z_aload_n C 0 rfl rfl dX5_command_111 ?_
    refine z_get C iX5_command_X5 0 rfl rfl 13 (by decide) (List.mem_of_getElem? (i := 2) rfl) rfl rfl dX5_command_112 ?_
    refine z_if_ge (tgt := 143) C hw.1 (by decide) dX5_command_115 (fun c12 => ?_) (fun c12 => ?_)
    · replace hw := hw.2.1 c12
      refine z_lst (ps := [0, 2]) (lv' := [(0, .ref m0), (2, .int (qI x2))]) (st' := []) rfl rfl ?_
      exact hB143 x2 tk fr ti fa ms mn ml hw
    · replace hw := hw.2.2 c12
      refine z_aload_n C 0 rfl rfl dX5_command_118 ?_
      refine z_iload_n C 2 rfl rfl dX5_command_119 ?_
      refine z_aload_n C 0 rfl rfl dX5_command_120 ?_
      refine z_get C iX5_command_X5 0 rfl rfl 7 (by decide) (List.mem_of_getElem? (i := 4) rfl) rfl rfl dX5_command_121 ?_
      refine z_iconst C dX5_command_124 ?_
      refine z_iald C 5 rfl (by decide) hw.1 dX5_command_125 ?_
      replace hw := hw.2
      refine z_name (fun v13 ev13 => ?_)
      replace hw := hw v13 ev13
      refine z_aload_n C 0 rfl rfl dX5_command_126 ?_
      refine z_get C iX5_command_X5 0 rfl rfl 7 (by decide) (List.mem_of_getElem? (i := 4) rfl) rfl rfl dX5_command_127 ?_
      refine z_iconst C dX5_command_130 ?_
      refine z_iald C 5 rfl (by decide) hw.1 dX5_command_131 ?_
      replace hw := hw.2
      refine z_name (fun v14 ev14 => ?_)
      replace hw := hw v14 ev14
      refine z_callV (n := 3) C (c_X5_codeOf l D E m0 m1 m2 m3 m4 m5 m6 m7 th sm le tk fr ti fa ms ma mv mt mn ml mr x2 v13 v14 hw) qF0_ok (fun _ _ _ => trivial) gX5_command_X5_codeOf rfl (by decide +kernel) ⟨(Nat.le_of_ble_eq_true rfl), (Nat.le_of_ble_eq_true rfl)⟩ rfl 0 rfl rfl [0, 1, 2, 3, 4, 5, 6, 7] rfl rfl (Nat.le_of_ble_eq_true rfl) dX5_command_132 (fun r15 hw => ?_)
      show qZ X 0 0 [(m0, .inr (5, [.int (qI th), .ref m1, .ref m2, .ref m3, .int (qI sm), .ref m4, .int (qI le), .ref m5, .ref m6, .ref m7, .int (qI tk), .int (qI fr), .int (qI ti), .int (qI fa)])), (m1, qA (E 0) 635 ms), (m2, qA (E 0) 635 ma), (m3, qA (E 0) 3175 mv), (m4, qA (E 0) 140 mt), (m5, qA (E 0) 2 mn), (m6, qA (E 0) 64 ml), (m7, qA (E 0) 49152 mr)] _ _ [.int (qI r15)]
      refine z_if_ge (tgt := 143) C hw.1 (by decide) dX5_command_135 (fun c16 => ?_) (fun c16 => ?_)
      · replace hw := hw.2.1 c16
        refine z_lst (ps := [0, 2]) (lv' := [(0, .ref m0), (2, .int (qI x2))]) (st' := []) rfl rfl ?_
        exact hB143 x2 tk fr ti fa ms mn ml hw
      · replace hw := hw.2.2 c16
        refine z_aload_n C 0 rfl rfl dX5_command_138 ?_
        refine z_iload_n C 1 rfl rfl dX5_command_139 ?_
        refine z_callVW (n := 1) C (c_X5_fail l D E m0 m1 m2 m3 m4 m5 m6 m7 th sm le tk fr ti fa ms ma mv mt mn ml mr x1 hw) qF0_ok (fun _ _ _ => trivial) gX5_command_X5_fail rfl (by decide +kernel) ⟨(Nat.le_of_ble_eq_true rfl), (Nat.le_of_ble_eq_true rfl)⟩ rfl 0 rfl rfl [0, 1, 2, 3, 4, 5, 6, 7] [] (wr := []) rfl rfl rfl rfl (by decide) [0, 1, 2, 3, 4, 5, 6, 7] rfl (fun u9 => [(m0, .inr (5, [.int (qI th), .ref m1, .ref m2, .ref m3, .int (qI sm), .ref m4, .int (qI le), .ref m5, .ref m6, .ref m7, .int (qI tk), .int (qI fr), .int (qI ti), .int (qI u9)])), (m1, qA (E 0) 635 ms), (m2, qA (E 0) 635 ma), (m3, qA (E 0) 3175 mv), (m4, qA (E 0) 140 mt), (m5, qA (E 0) 2 mn), (m6, qA (E 0) 64 ml), (m7, qA (E 0) 49152 mr)]) (fun _ => rfl) rfl (Nat.le_of_ble_eq_true rfl) dX5_command_140 (fun r17 u9 hw => ?_)
        obtain ⟨g18, rfl⟩ : ∃ z, z = u9 := ⟨_, rfl⟩
        refine z_ws (ws' := [(m0, .inr (5, [.int (qI th), .ref m1, .ref m2, .ref m3, .int (qI sm), .ref m4, .int (qI le), .ref m5, .ref m6, .ref m7, .int (qI tk), .int (qI fr), .int (qI ti), .int (qI g18)])), (m1, qA (E 0) 635 ms), (m2, qA (E 0) 635 ma), (m3, qA (E 0) 3175 mv), (m4, qA (E 0) 140 mt), (m5, qA (E 0) 2 mn), (m6, qA (E 0) 64 ml), (m7, qA (E 0) 49152 mr)]) rfl ?_
        try dsimp only at hw
        show qZ X 0 0 [(m0, .inr (5, [.int (qI th), .ref m1, .ref m2, .ref m3, .int (qI sm), .ref m4, .int (qI le), .ref m5, .ref m6, .ref m7, .int (qI tk), .int (qI fr), .int (qI ti), .int (qI g18)])), (m1, qA (E 0) 635 ms), (m2, qA (E 0) 635 ma), (m3, qA (E 0) 3175 mv), (m4, qA (E 0) 140 mt), (m5, qA (E 0) 2 mn), (m6, qA (E 0) 64 ml), (m7, qA (E 0) 49152 mr)] _ _ []
        refine z_lst (ps := [0, 2]) (lv' := [(0, .ref m0), (2, .int (qI x2))]) (st' := []) rfl rfl ?_
        exact hB143 x2 tk fr ti g18 ms mn ml hw
  have hB103 : ∀ x1 : Int, ∀ x2 : Int, ∀ tk : Int, ∀ fr : Int, ∀ ti : Int, ∀ fa : Int, ∀ ms : Nat → Int, ∀ mn : Nat → Int, ∀ ml : Nat → Int, wp_X5_command_103 Φ  x1 x2 le tk fr ti fa ms mt mn ml → qZ X 0 0 [(m0, .inr (5, [.int (qI th), .ref m1, .ref m2, .ref m3, .int (qI sm), .ref m4, .int (qI le), .ref m5, .ref m6, .ref m7, .int (qI tk), .int (qI fr), .int (qI ti), .int (qI fa)])), (m1, qA (E 0) 635 ms), (m2, qA (E 0) 635 ma), (m3, qA (E 0) 3175 mv), (m4, qA (E 0) 140 mt), (m5, qA (E 0) 2 mn), (m6, qA (E 0) 64 ml), (m7, qA (E 0) 49152 mr)] 103 [(0, .ref m0), (1, .int (qI x1)), (2, .int (qI x2))] [] := by
    intro x1 x2 tk fr ti fa ms mn ml hw
    unfold wp_X5_command_103 at hw
    refine z_aload_n C 0 rfl rfl dX5_command_103 ?_
    refine z_aload_n C 0 rfl rfl dX5_command_104 ?_
    refine z_get C iX5_command_X5 0 rfl rfl 11 (by decide) (List.mem_of_getElem? (i := 1) rfl) rfl rfl dX5_command_105 ?_
    refine z_callVW (n := 1) C (c_X5_fail l D E m0 m1 m2 m3 m4 m5 m6 m7 th sm le tk fr ti fa ms ma mv mt mn ml mr fr hw) qF0_ok (fun _ _ _ => trivial) gX5_command_X5_fail rfl (by decide +kernel) ⟨(Nat.le_of_ble_eq_true rfl), (Nat.le_of_ble_eq_true rfl)⟩ rfl 0 rfl rfl [0, 1, 2, 3, 4, 5, 6, 7] [] (wr := []) rfl rfl rfl rfl (by decide) [0, 1, 2, 3, 4, 5, 6, 7] rfl (fun u9 => [(m0, .inr (5, [.int (qI th), .ref m1, .ref m2, .ref m3, .int (qI sm), .ref m4, .int (qI le), .ref m5, .ref m6, .ref m7, .int (qI tk), .int (qI fr), .int (qI ti), .int (qI u9)])), (m1, qA (E 0) 635 ms), (m2, qA (E 0) 635 ma), (m3, qA (E 0) 3175 mv), (m4, qA (E 0) 140 mt), (m5, qA (E 0) 2 mn), (m6, qA (E 0) 64 ml), (m7, qA (E 0) 49152 mr)]) (fun _ => rfl) rfl (Nat.le_of_ble_eq_true rfl) dX5_command_108 (fun r19 u9 hw => ?_)
    obtain ⟨g20, rfl⟩ : ∃ z, z = u9 := ⟨_, rfl⟩
    refine z_ws (ws' := [(m0, .inr (5, [.int (qI th), .ref m1, .ref m2, .ref m3, .int (qI sm), .ref m4, .int (qI le), .ref m5, .ref m6, .ref m7, .int (qI tk), .int (qI fr), .int (qI ti), .int (qI g20)])), (m1, qA (E 0) 635 ms), (m2, qA (E 0) 635 ma), (m3, qA (E 0) 3175 mv), (m4, qA (E 0) 140 mt), (m5, qA (E 0) 2 mn), (m6, qA (E 0) 64 ml), (m7, qA (E 0) 49152 mr)]) rfl ?_
    try dsimp only at hw
    show qZ X 0 0 [(m0, .inr (5, [.int (qI th), .ref m1, .ref m2, .ref m3, .int (qI sm), .ref m4, .int (qI le), .ref m5, .ref m6, .ref m7, .int (qI tk), .int (qI fr), .int (qI ti), .int (qI g20)])), (m1, qA (E 0) 635 ms), (m2, qA (E 0) 635 ma), (m3, qA (E 0) 3175 mv), (m4, qA (E 0) 140 mt), (m5, qA (E 0) 2 mn), (m6, qA (E 0) 64 ml), (m7, qA (E 0) 49152 mr)] _ _ []
    refine z_lst (ps := [0, 1, 2]) (lv' := [(0, .ref m0), (1, .int (qI x1)), (2, .int (qI x2))]) (st' := []) rfl rfl ?_
    exact hB111 x1 x2 tk fr ti g20 ms mn ml hw
  have hB75 : ∀ x1 : Int, ∀ x2 : Int, ∀ tk : Int, ∀ fr : Int, ∀ ti : Int, ∀ fa : Int, ∀ ms : Nat → Int, ∀ mn : Nat → Int, ∀ ml : Nat → Int, wp_X5_command_75 Φ  x1 x2 le tk fr ti fa ms mt mn ml → qZ X 0 0 [(m0, .inr (5, [.int (qI th), .ref m1, .ref m2, .ref m3, .int (qI sm), .ref m4, .int (qI le), .ref m5, .ref m6, .ref m7, .int (qI tk), .int (qI fr), .int (qI ti), .int (qI fa)])), (m1, qA (E 0) 635 ms), (m2, qA (E 0) 635 ma), (m3, qA (E 0) 3175 mv), (m4, qA (E 0) 140 mt), (m5, qA (E 0) 2 mn), (m6, qA (E 0) 64 ml), (m7, qA (E 0) 49152 mr)] 75 [(0, .ref m0), (1, .int (qI x1)), (2, .int (qI x2))] [] := by
    intro x1 x2 tk fr ti fa ms mn ml hw
    unfold wp_X5_command_75 at hw
    refine z_aload_n C 0 rfl rfl dX5_command_75 ?_
    refine z_get C iX5_command_X5 0 rfl rfl 13 (by decide) (List.mem_of_getElem? (i := 2) rfl) rfl rfl dX5_command_76 ?_
    refine z_if_ge (tgt := 111) C hw.1 (by decide) dX5_command_79 (fun c21 => ?_) (fun c21 => ?_)
    · replace hw := hw.2.1 c21
      refine z_lst (ps := [0, 1, 2]) (lv' := [(0, .ref m0), (1, .int (qI x1)), (2, .int (qI x2))]) (st' := []) rfl rfl ?_
      exact hB111 x1 x2 tk fr ti fa ms mn ml hw
    · replace hw := hw.2.2 c21
      refine z_aload_n C 0 rfl rfl dX5_command_82 ?_
      refine z_get C iX5_command_X5 0 rfl rfl 10 (by decide) (List.mem_of_getElem? (i := 3) rfl) rfl rfl dX5_command_83 ?_
      refine z_iconst C dX5_command_86 ?_
      refine z_icmp_ne (tgt := 103) C hw.1 (by decide) dX5_command_87 (fun c22 => ?_) (fun c22 => ?_)
      · replace hw := hw.2.1 c22
        refine z_lst (ps := [0, 1, 2]) (lv' := [(0, .ref m0), (1, .int (qI x1)), (2, .int (qI x2))]) (st' := []) rfl rfl ?_
        exact hB103 x1 x2 tk fr ti fa ms mn ml hw
      · replace hw := hw.2.2 c22
        refine z_aload_n C 0 rfl rfl dX5_command_90 ?_
        refine z_aload_n C 0 rfl rfl dX5_command_91 ?_
        refine z_get C iX5_command_X5 0 rfl rfl 11 (by decide) (List.mem_of_getElem? (i := 1) rfl) rfl rfl dX5_command_92 ?_
        refine z_callV (n := 1) C (c_X5_sign l D E m0 m1 m2 m3 m4 m5 m6 m7 th sm le tk fr ti fa ms ma mv mt mn ml mr fr hw) qF0_ok (fun _ _ _ => trivial) gX5_command_X5_sign rfl (by decide +kernel) ⟨(Nat.le_of_ble_eq_true rfl), (Nat.le_of_ble_eq_true rfl)⟩ rfl 0 rfl rfl [0, 1, 2, 3, 4, 5, 6, 7] rfl rfl (Nat.le_of_ble_eq_true rfl) dX5_command_95 (fun r23 hw => ?_)
        show qZ X 0 0 [(m0, .inr (5, [.int (qI th), .ref m1, .ref m2, .ref m3, .int (qI sm), .ref m4, .int (qI le), .ref m5, .ref m6, .ref m7, .int (qI tk), .int (qI fr), .int (qI ti), .int (qI fa)])), (m1, qA (E 0) 635 ms), (m2, qA (E 0) 635 ma), (m3, qA (E 0) 3175 mv), (m4, qA (E 0) 140 mt), (m5, qA (E 0) 2 mn), (m6, qA (E 0) 64 ml), (m7, qA (E 0) 49152 mr)] _ _ [.int (qI r23)]
        refine z_bipush C (by decide +kernel) dX5_command_98 ?_
        refine z_icmp_eq (tgt := 111) C hw.1 (by decide) dX5_command_100 (fun c24 => ?_) (fun c24 => ?_)
        · replace hw := hw.2.1 c24
          refine z_lst (ps := [0, 1, 2]) (lv' := [(0, .ref m0), (1, .int (qI x1)), (2, .int (qI x2))]) (st' := []) rfl rfl ?_
          exact hB111 x1 x2 tk fr ti fa ms mn ml hw
        · replace hw := hw.2.2 c24
          refine z_lst (ps := [0, 1, 2]) (lv' := [(0, .ref m0), (1, .int (qI x1)), (2, .int (qI x2))]) (st' := []) rfl rfl ?_
          exact hB103 x1 x2 tk fr ti fa ms mn ml hw
  have hB50 : ∀ x1 : Int, ∀ x2 : Int, ∀ x3 : Int, ∀ ms : Nat → Int, ∀ ml : Nat → Int, ∀ n8 : Nat, ∀ x4 : Int, ∀ tk : Int, ∀ fr : Int, ∀ ti : Int, ∀ fa : Int, ∀ mn : Nat → Int, wp_X5_command_50 Φ  x1 x2 x3 le ms mt ml n8 x4 tk fr ti fa mn → qZ X 0 0 [(m0, .inr (5, [.int (qI th), .ref m1, .ref m2, .ref m3, .int (qI sm), .ref m4, .int (qI le), .ref m5, .ref m6, .ref m7, .int (qI tk), .int (qI fr), .int (qI ti), .int (qI fa)])), (m1, qA (E 0) 635 ms), (m2, qA (E 0) 635 ma), (m3, qA (E 0) 3175 mv), (m4, qA (E 0) 140 mt), (m5, qA (E 0) 2 mn), (m6, qA (E 0) 64 ml), (m7, qA (E 0) 49152 mr)] 50 [(0, .ref m0), (1, .int (qI x1)), (2, .int (qI x2)), (3, .int (qI x3)), (4, .int (qI x4))] [] := by
    intro x1 x2 x3 ms ml n8
    induction n8 with
    | zero =>
      intro x4 tk fr ti fa mn hw
      exact hw.elim
    | succ n9 ih =>
      intro x4 tk fr ti fa mn hw
      unfold wp_X5_command_50 at hw
      refine z_iload C 4 rfl dX5_command_50 ?_
      refine z_iload_n C 3 rfl rfl dX5_command_52 ?_
      refine z_icmp_ge (tgt := 75) C hw.1 (by decide) dX5_command_53 (fun c25 => ?_) (fun c25 => ?_)
      · replace hw := hw.2.1 c25
        refine z_lst (ps := [0, 1, 2]) (lv' := [(0, .ref m0), (1, .int (qI x1)), (2, .int (qI x2))]) (st' := []) rfl rfl ?_
        exact hB75 x1 x2 tk fr ti fa ms mn ml hw
      · replace hw := hw.2.2 c25
        refine z_aload_n C 0 rfl rfl dX5_command_56 ?_
        refine z_get C iX5_command_X5 0 rfl rfl 13 (by decide) (List.mem_of_getElem? (i := 2) rfl) rfl rfl dX5_command_57 ?_
        refine z_if_ge (tgt := 75) C hw.1 (by decide) dX5_command_60 (fun c26 => ?_) (fun c26 => ?_)
        · replace hw := hw.2.1 c26
          refine z_lst (ps := [0, 1, 2]) (lv' := [(0, .ref m0), (1, .int (qI x1)), (2, .int (qI x2))]) (st' := []) rfl rfl ?_
          exact hB75 x1 x2 tk fr ti fa ms mn ml hw
        · replace hw := hw.2.2 c26
          refine z_aload_n C 0 rfl rfl dX5_command_63 ?_
          refine z_iload C 4 rfl dX5_command_64 ?_
          refine z_callVW (n := 1) C (c_X5_readNumber l D E m0 m1 m2 m3 m4 m5 m6 m7 th sm le tk fr ti fa ms ma mv mt mn ml mr x4 hw) qF0_ok (fun _ _ _ => trivial) gX5_command_X5_readNumber rfl (by decide +kernel) ⟨(Nat.le_of_ble_eq_true rfl), (Nat.le_of_ble_eq_true rfl)⟩ rfl 0 rfl rfl [0, 1, 2, 3, 4, 5, 6, 7] [] (wr := []) rfl rfl rfl rfl (by decide) [0, 1, 2, 3, 4, 5, 6, 7] rfl (fun u9 => [(m0, .inr (5, [.int (qI th), .ref m1, .ref m2, .ref m3, .int (qI sm), .ref m4, .int (qI le), .ref m5, .ref m6, .ref m7, .int (qI u9.1), .int (qI u9.2.1), .int (qI u9.2.2.1), .int (qI u9.2.2.2.1)])), (m1, qA (E 0) 635 ms), (m2, qA (E 0) 635 ma), (m3, qA (E 0) 3175 mv), (m4, qA (E 0) 140 mt), (m5, qA (E 0) 2 u9.2.2.2.2), (m6, qA (E 0) 64 ml), (m7, qA (E 0) 49152 mr)]) (fun _ => rfl) rfl (Nat.le_of_ble_eq_true rfl) dX5_command_66 (fun r27 u9 hw => ?_)
          obtain ⟨g28, g29, g30, g31, g32⟩ := u9
          refine z_ws (ws' := [(m0, .inr (5, [.int (qI th), .ref m1, .ref m2, .ref m3, .int (qI sm), .ref m4, .int (qI le), .ref m5, .ref m6, .ref m7, .int (qI g28), .int (qI g29), .int (qI g30), .int (qI g31)])), (m1, qA (E 0) 635 ms), (m2, qA (E 0) 635 ma), (m3, qA (E 0) 3175 mv), (m4, qA (E 0) 140 mt), (m5, qA (E 0) 2 g32), (m6, qA (E 0) 64 ml), (m7, qA (E 0) 49152 mr)]) rfl ?_
          try dsimp only at hw
          show qZ X 0 0 [(m0, .inr (5, [.int (qI th), .ref m1, .ref m2, .ref m3, .int (qI sm), .ref m4, .int (qI le), .ref m5, .ref m6, .ref m7, .int (qI g28), .int (qI g29), .int (qI g30), .int (qI g31)])), (m1, qA (E 0) 635 ms), (m2, qA (E 0) 635 ma), (m3, qA (E 0) 3175 mv), (m4, qA (E 0) 140 mt), (m5, qA (E 0) 2 g32), (m6, qA (E 0) 64 ml), (m7, qA (E 0) 49152 mr)] _ _ []
          obtain ⟨v33, ev33⟩ : ∃ v33 : Int, v33 = x4 + (1 : Int) := ⟨_, rfl⟩
          replace hw := hw v33 ev33
          refine z_iinc C 4 rfl (by decide) v33 ev33 rfl dX5_command_69 ?_
          refine z_goto (tgt := 50) C (by decide) dX5_command_72 ?_
          refine z_lst (ps := [1, 2, 3, 4, 0]) (lv' := [(0, .ref m0), (1, .int (qI x1)), (2, .int (qI x2)), (3, .int (qI x3)), (4, .int (qI v33))]) (st' := []) rfl rfl ?_
          exact ih v33 g28 g29 g30 g31 g32 hw
  have hB46 : ∀ x1 : Int, ∀ x2 : Int, ∀ k0 : Int, ∀ tk : Int, ∀ fr : Int, ∀ ti : Int, ∀ fa : Int, ∀ ms : Nat → Int, ∀ mn : Nat → Int, ∀ ml : Nat → Int, wp_X5_command_46 Φ  x1 x2 k0 le tk fr ti fa ms mt mn ml → qZ X 0 0 [(m0, .inr (5, [.int (qI th), .ref m1, .ref m2, .ref m3, .int (qI sm), .ref m4, .int (qI le), .ref m5, .ref m6, .ref m7, .int (qI tk), .int (qI fr), .int (qI ti), .int (qI fa)])), (m1, qA (E 0) 635 ms), (m2, qA (E 0) 635 ma), (m3, qA (E 0) 3175 mv), (m4, qA (E 0) 140 mt), (m5, qA (E 0) 2 mn), (m6, qA (E 0) 64 ml), (m7, qA (E 0) 49152 mr)] 46 [(0, .ref m0), (1, .int (qI x1)), (2, .int (qI x2))] [.int (qI k0)] := by
    intro x1 x2 k0 tk fr ti fa ms mn ml hw
    unfold wp_X5_command_46 at hw
    refine z_istore_n C rfl (by decide) rfl dX5_command_46 ?_
    refine z_iconst C dX5_command_47 ?_
    refine z_istore C (by decide) rfl dX5_command_48 ?_
    refine z_lst (ps := [2, 3, 4, 1, 0]) (lv' := [(0, .ref m0), (1, .int (qI x1)), (2, .int (qI x2)), (3, .int (qI k0)), (4, .int (qI (0 : Int)))]) (st' := []) rfl rfl ?_
    obtain ⟨n8, hw⟩ := hw
    exact hB50 x1 x2 k0 ms ml n8 (0 : Int) tk fr ti fa mn hw
  have hB41 : ∀ x1 : Int, ∀ x2 : Int, ∀ tk : Int, ∀ fr : Int, ∀ ti : Int, ∀ fa : Int, ∀ ms : Nat → Int, ∀ mn : Nat → Int, ∀ ml : Nat → Int, wp_X5_command_41 Φ  x1 x2 le tk fr ti fa ms mt mn ml → qZ X 0 0 [(m0, .inr (5, [.int (qI th), .ref m1, .ref m2, .ref m3, .int (qI sm), .ref m4, .int (qI le), .ref m5, .ref m6, .ref m7, .int (qI tk), .int (qI fr), .int (qI ti), .int (qI fa)])), (m1, qA (E 0) 635 ms), (m2, qA (E 0) 635 ma), (m3, qA (E 0) 3175 mv), (m4, qA (E 0) 140 mt), (m5, qA (E 0) 2 mn), (m6, qA (E 0) 64 ml), (m7, qA (E 0) 49152 mr)] 41 [(0, .ref m0), (1, .int (qI x1)), (2, .int (qI x2))] [] := by
    intro x1 x2 tk fr ti fa ms mn ml hw
    unfold wp_X5_command_41 at hw
    refine z_iconst C dX5_command_41 ?_
    refine z_goto (tgt := 46) C (by decide) dX5_command_42 ?_
    refine z_lst (ps := [0, 1, 2]) (lv' := [(0, .ref m0), (1, .int (qI x1)), (2, .int (qI x2))]) (st' := [.int (qI (2 : Int))]) rfl rfl ?_
    exact hB46 x1 x2 (2 : Int) tk fr ti fa ms mn ml hw
  unfold wp_X5_command at hw
  show qZ X 0 0 [(m0, .inr (5, [.int (qI th), .ref m1, .ref m2, .ref m3, .int (qI sm), .ref m4, .int (qI le), .ref m5, .ref m6, .ref m7, .int (qI tk), .int (qI fr), .int (qI ti), .int (qI fa)])), (m1, qA (E 0) 635 ms), (m2, qA (E 0) 635 ma), (m3, qA (E 0) 3175 mv), (m4, qA (E 0) 140 mt), (m5, qA (E 0) 2 mn), (m6, qA (E 0) 64 ml), (m7, qA (E 0) 49152 mr)] 0 [(0, .ref m0)] []
  refine z_aload_n C 0 rfl rfl dX5_command_0 ?_
  refine z_get C iX5_command_X5 0 rfl rfl 11 (by decide) (List.mem_of_getElem? (i := 1) rfl) rfl rfl dX5_command_1 ?_
  refine z_istore_n C rfl (by decide) rfl dX5_command_4 ?_
  refine z_aload_n C 1 rfl rfl dX5_command_5 ?_
  refine z_callV (n := 0) C (c_X5_wordHere l D E m0 m1 m2 m3 m4 m5 m6 m7 th sm le tk fr ti fa ms ma mv mt mn ml mr  hw) qF0_ok (fun _ _ _ => trivial) gX5_command_X5_wordHere rfl (by decide +kernel) ⟨(Nat.le_of_ble_eq_true rfl), (Nat.le_of_ble_eq_true rfl)⟩ rfl 0 rfl rfl [0, 1, 2, 3, 4, 5, 6, 7] rfl rfl (Nat.le_of_ble_eq_true rfl) dX5_command_6 (fun r34 hw => ?_)
  show qZ X 0 0 [(m0, .inr (5, [.int (qI th), .ref m1, .ref m2, .ref m3, .int (qI sm), .ref m4, .int (qI le), .ref m5, .ref m6, .ref m7, .int (qI tk), .int (qI fr), .int (qI ti), .int (qI fa)])), (m1, qA (E 0) 635 ms), (m2, qA (E 0) 635 ma), (m3, qA (E 0) 3175 mv), (m4, qA (E 0) 140 mt), (m5, qA (E 0) 2 mn), (m6, qA (E 0) 64 ml), (m7, qA (E 0) 49152 mr)] _ _ [.int (qI r34)]
  refine z_istore_n C rfl (by decide) rfl dX5_command_9 ?_
  refine z_iload_n C 0 rfl rfl dX5_command_10 ?_
  refine z_bipush C (by decide +kernel) dX5_command_11 ?_
  refine z_icmp_ne (tgt := 26) C hw.1 (by decide) dX5_command_13 (fun c35 => ?_) (fun c35 => ?_)
  · replace hw := hw.2.1 c35
    refine z_aload_n C 2 rfl rfl dX5_command_26 ?_
    refine z_callVW (n := 0) C (c_X5_next l D E m0 m1 m2 m3 m4 m5 m6 m7 th sm le tk fr ti fa ms ma mv mt mn ml mr  hw) qF0_ok (fun _ _ _ => trivial) gX5_command_X5_next rfl (by decide +kernel) ⟨(Nat.le_of_ble_eq_true rfl), (Nat.le_of_ble_eq_true rfl)⟩ rfl 0 rfl rfl [0, 1, 2, 3, 4, 5, 6, 7] [] (wr := []) rfl rfl rfl rfl (by decide) [0, 1, 2, 3, 4, 5, 6, 7] rfl (fun u9 => [(m0, .inr (5, [.int (qI th), .ref m1, .ref m2, .ref m3, .int (qI sm), .ref m4, .int (qI le), .ref m5, .ref m6, .ref m7, .int (qI u9.1), .int (qI u9.2.1), .int (qI u9.2.2), .int (qI fa)])), (m1, qA (E 0) 635 ms), (m2, qA (E 0) 635 ma), (m3, qA (E 0) 3175 mv), (m4, qA (E 0) 140 mt), (m5, qA (E 0) 2 mn), (m6, qA (E 0) 64 ml), (m7, qA (E 0) 49152 mr)]) (fun _ => rfl) rfl (Nat.le_of_ble_eq_true rfl) dX5_command_27 (fun r36 u9 hw => ?_)
    obtain ⟨g37, g38, g39⟩ := u9
    refine z_ws (ws' := [(m0, .inr (5, [.int (qI th), .ref m1, .ref m2, .ref m3, .int (qI sm), .ref m4, .int (qI le), .ref m5, .ref m6, .ref m7, .int (qI g37), .int (qI g38), .int (qI g39), .int (qI fa)])), (m1, qA (E 0) 635 ms), (m2, qA (E 0) 635 ma), (m3, qA (E 0) 3175 mv), (m4, qA (E 0) 140 mt), (m5, qA (E 0) 2 mn), (m6, qA (E 0) 64 ml), (m7, qA (E 0) 49152 mr)]) rfl ?_
    try dsimp only at hw
    show qZ X 0 0 [(m0, .inr (5, [.int (qI th), .ref m1, .ref m2, .ref m3, .int (qI sm), .ref m4, .int (qI le), .ref m5, .ref m6, .ref m7, .int (qI g37), .int (qI g38), .int (qI g39), .int (qI fa)])), (m1, qA (E 0) 635 ms), (m2, qA (E 0) 635 ma), (m3, qA (E 0) 3175 mv), (m4, qA (E 0) 140 mt), (m5, qA (E 0) 2 mn), (m6, qA (E 0) 64 ml), (m7, qA (E 0) 49152 mr)] _ _ []
    refine z_iload_n C 0 rfl rfl dX5_command_30 ?_
    refine z_iconst C dX5_command_31 ?_
    refine z_icmp_eq (tgt := 41) C hw.1 (by decide) dX5_command_32 (fun c40 => ?_) (fun c40 => ?_)
    · replace hw := hw.2.1 c40
      refine z_lst (ps := [2, 1, 0]) (lv' := [(0, .ref m0), (1, .int (qI fr)), (2, .int (qI r34))]) (st' := []) rfl rfl ?_
      exact hB41 fr r34 g37 g38 g39 fa ms mn ml hw
    · replace hw := hw.2.2 c40
      refine z_iload_n C 0 rfl rfl dX5_command_35 ?_
      refine z_bipush C (by decide +kernel) dX5_command_36 ?_
      refine z_icmp_ne (tgt := 45) C hw.1 (by decide) dX5_command_38 (fun c41 => ?_) (fun c41 => ?_)
      · replace hw := hw.2.1 c41
        refine z_iconst C dX5_command_45 ?_
        refine z_lst (ps := [2, 1, 0]) (lv' := [(0, .ref m0), (1, .int (qI fr)), (2, .int (qI r34))]) (st' := [.int (qI (1 : Int))]) rfl rfl ?_
        exact hB46 fr r34 (1 : Int) g37 g38 g39 fa ms mn ml hw
      · replace hw := hw.2.2 c41
        refine z_lst (ps := [2, 1, 0]) (lv' := [(0, .ref m0), (1, .int (qI fr)), (2, .int (qI r34))]) (st' := []) rfl rfl ?_
        exact hB41 fr r34 g37 g38 g39 fa ms mn ml hw
  · replace hw := hw.2.2 c35
    refine z_aload_n C 2 rfl rfl dX5_command_16 ?_
    refine z_aload_n C 2 rfl rfl dX5_command_17 ?_
    refine z_get C iX5_command_X5 0 rfl rfl 11 (by decide) (List.mem_of_getElem? (i := 1) rfl) rfl rfl dX5_command_18 ?_
    refine z_callVW (n := 1) C (c_X5_fail l D E m0 m1 m2 m3 m4 m5 m6 m7 th sm le tk fr ti fa ms ma mv mt mn ml mr fr hw) qF0_ok (fun _ _ _ => trivial) gX5_command_X5_fail rfl (by decide +kernel) ⟨(Nat.le_of_ble_eq_true rfl), (Nat.le_of_ble_eq_true rfl)⟩ rfl 0 rfl rfl [0, 1, 2, 3, 4, 5, 6, 7] [] (wr := []) rfl rfl rfl rfl (by decide) [0, 1, 2, 3, 4, 5, 6, 7] rfl (fun u9 => [(m0, .inr (5, [.int (qI th), .ref m1, .ref m2, .ref m3, .int (qI sm), .ref m4, .int (qI le), .ref m5, .ref m6, .ref m7, .int (qI tk), .int (qI fr), .int (qI ti), .int (qI u9)])), (m1, qA (E 0) 635 ms), (m2, qA (E 0) 635 ma), (m3, qA (E 0) 3175 mv), (m4, qA (E 0) 140 mt), (m5, qA (E 0) 2 mn), (m6, qA (E 0) 64 ml), (m7, qA (E 0) 49152 mr)]) (fun _ => rfl) rfl (Nat.le_of_ble_eq_true rfl) dX5_command_21 (fun r42 u9 hw => ?_)
    obtain ⟨g43, rfl⟩ : ∃ z, z = u9 := ⟨_, rfl⟩
    refine z_ws (ws' := [(m0, .inr (5, [.int (qI th), .ref m1, .ref m2, .ref m3, .int (qI sm), .ref m4, .int (qI le), .ref m5, .ref m6, .ref m7, .int (qI tk), .int (qI fr), .int (qI ti), .int (qI g43)])), (m1, qA (E 0) 635 ms), (m2, qA (E 0) 635 ma), (m3, qA (E 0) 3175 mv), (m4, qA (E 0) 140 mt), (m5, qA (E 0) 2 mn), (m6, qA (E 0) 64 ml), (m7, qA (E 0) 49152 mr)]) rfl ?_
    try dsimp only at hw
    show qZ X 0 0 [(m0, .inr (5, [.int (qI th), .ref m1, .ref m2, .ref m3, .int (qI sm), .ref m4, .int (qI le), .ref m5, .ref m6, .ref m7, .int (qI tk), .int (qI fr), .int (qI ti), .int (qI g43)])), (m1, qA (E 0) 635 ms), (m2, qA (E 0) 635 ma), (m3, qA (E 0) 3175 mv), (m4, qA (E 0) 140 mt), (m5, qA (E 0) 2 mn), (m6, qA (E 0) 64 ml), (m7, qA (E 0) 49152 mr)] _ _ []
    refine z_iconst C dX5_command_24 ?_
    exact hend 25 _ (0 : Int) (tk, fr, ti, g43, ms, mn, ml) dX5_command_25 hw
def wp_X5_run_135 (Φ : Int → Int → Int → Int → Int → Int → Int → Int → (Nat → Int) → (Nat → Int) → (Nat → Int) → (Nat → Int) → (Nat → Int) → Prop)  (x1 : Int) (th : Int) (sm : Int) (le : Int) (tk : Int) (fr : Int) (ti : Int) (fa : Int) (ma : Nat → Int) (mv : Nat → Int) (mn : Nat → Int) (ml : Nat → Int) : Nat → Int → (Nat → Int) → Prop
  | 0, _, _ => False
  | n9 + 1, x2, ms => ((qR x2 ∧ qR (635 : Int)) ∧ ((635 : Int) ≤ x2 → Φ x1 th sm (0 : Int) tk fr ti fa ms ma mv mn ml) ∧ (¬ ((635 : Int) ≤ x2) → ((0 ≤ x2 ∧ x2 < 635) ∧ (∀ v2 : Int, v2 = ma (x2).toNat → ((0 ≤ x2 ∧ x2 < 635) ∧ ∀ g3 : Nat → Int, g3 = qU ms (x2).toNat v2 → (∀ v4 : Int, v4 = x2 + (1 : Int) → wp_X5_run_135 Φ  x1 th sm le tk fr ti fa ma mv mn ml n9 v4 g3))))))
def wp_X5_run_74 (Φ : Int → Int → Int → Int → Int → Int → Int → Int → (Nat → Int) → (Nat → Int) → (Nat → Int) → (Nat → Int) → (Nat → Int) → Prop)  (x1 : Int) (th : Int) (sm : Int) (le : Int) (tk : Int) (fr : Int) (ti : Int) (fa : Int) (mv : Nat → Int) (mn : Nat → Int) (ml : Nat → Int) : Nat → Int → (Nat → Int) → (Nat → Int) → Prop
  | 0, _, _, _ => False
  | n9 + 1, x2, ms, ma => ((qR x2 ∧ qR (635 : Int)) ∧ ((635 : Int) ≤ x2 → (qR fa ∧ (fa < (0 : Int) → wp_X5_act sm ms mv (fun (g8 : Int) (g9 : Nat → Int) => ∃ n : Nat, wp_X5_run_135 Φ  x1 th g8 le tk fr ti fa ma g9 mn ml n (0 : Int) ms)) ∧ (¬ (fa < (0 : Int)) → Φ ((-1000 : Int) - fa) th sm le tk fr ti fa ms ma mv mn ml))) ∧ (¬ ((635 : Int) ≤ x2) → ((0 ≤ x2 ∧ x2 < 635) ∧ (∀ v10 : Int, v10 = ms (x2).toNat → ((0 ≤ x2 ∧ x2 < 635) ∧ (∀ v11 : Int, v11 = ma (x2).toNat → ((0 ≤ x2 ∧ x2 < 635) ∧ ∀ g12 : Nat → Int, g12 = qU ms (x2).toNat v11 → ((0 ≤ x2 ∧ x2 < 635) ∧ ∀ g13 : Nat → Int, g13 = qU ma (x2).toNat v10 → (∀ v14 : Int, v14 = x2 + (1 : Int) → wp_X5_run_74 Φ  x1 th sm le tk fr ti fa mv mn ml n9 v14 g12 g13)))))))))
def wp_X5_run_72 (Φ : Int → Int → Int → Int → Int → Int → Int → Int → (Nat → Int) → (Nat → Int) → (Nat → Int) → (Nat → Int) → (Nat → Int) → Prop)  (x1 : Int) (th : Int) (sm : Int) (le : Int) (tk : Int) (fr : Int) (ti : Int) (fa : Int) (ms : Nat → Int) (ma : Nat → Int) (mv : Nat → Int) (mn : Nat → Int) (ml : Nat → Int) : Prop := ∃ n : Nat, wp_X5_run_74 Φ  x1 th sm le tk fr ti fa mv mn ml n (0 : Int) ms ma
def wp_X5_run_48 (Φ : Int → Int → Int → Int → Int → Int → Int → Int → (Nat → Int) → (Nat → Int) → (Nat → Int) → (Nat → Int) → (Nat → Int) → Prop)  (th : Int) (sm : Int) (le : Int) (ma : Nat → Int) (mv : Nat → Int) (mt : Nat → Int) : Nat → Int → Int → Int → Int → Int → (Nat → Int) → (Nat → Int) → (Nat → Int) → Prop
  | 0, _, _, _, _, _, _, _, _ => False
  | n9 + 1, x1, tk, fr, ti, fa, ms, mn, ml => (qR fa ∧ ((0 : Int) ≤ fa → wp_X5_run_72 Φ  x1 th sm le tk fr ti fa ms ma mv mn ml) ∧ (¬ ((0 : Int) ≤ fa) → (qR tk ∧ (tk = (0 : Int) → wp_X5_run_72 Φ  x1 th sm le tk fr ti fa ms ma mv mn ml) ∧ (¬ (tk = (0 : Int)) → wp_X5_command le tk fr ti fa ms mt mn ml (fun (r17 : Int) (g18 : Int) (g19 : Int) (g20 : Int) (g21 : Int) (g22 : Nat → Int) (g23 : Nat → Int) (g24 : Nat → Int) => (∀ v25 : Int, v25 = (x1 + r17) → wp_X5_run_48 Φ  th sm le ma mv mt n9 v25 g18 g19 g20 g21 g22 g23 g24))))))
def wp_X5_run_7 (Φ : Int → Int → Int → Int → Int → Int → Int → Int → (Nat → Int) → (Nat → Int) → (Nat → Int) → (Nat → Int) → (Nat → Int) → Prop)  (th : Int) (sm : Int) (le : Int) (tk : Int) (fr : Int) (ti : Int) (fa : Int) (ms : Nat → Int) (mv : Nat → Int) (mt : Nat → Int) (mn : Nat → Int) (ml : Nat → Int) : Nat → Int → (Nat → Int) → Prop
  | 0, _, _ => False
  | n9 + 1, x1, ma => ((qR x1 ∧ qR (635 : Int)) ∧ ((635 : Int) ≤ x1 → wp_X5_next le tk fr (0 : Int) mt (fun (g28 : Int) (g29 : Int) (g30 : Int) => ∃ n : Nat, wp_X5_run_48 Φ  th sm le ma mv mt n (0 : Int) g28 g29 g30 (-1 : Int) ms mn ml)) ∧ (¬ ((635 : Int) ≤ x1) → ((0 ≤ x1 ∧ x1 < 635) ∧ (∀ v31 : Int, v31 = ms (x1).toNat → ((0 ≤ x1 ∧ x1 < 635) ∧ ∀ g32 : Nat → Int, g32 = qU ma (x1).toNat v31 → (∀ v33 : Int, v33 = x1 + (1 : Int) → wp_X5_run_7 Φ  th sm le tk fr ti fa ms mv mt mn ml n9 v33 g32))))))
def wp_X5_run  (th : Int) (sm : Int) (le : Int) (tk : Int) (fr : Int) (ti : Int) (fa : Int) (ms : Nat → Int) (ma : Nat → Int) (mv : Nat → Int) (mt : Nat → Int) (mn : Nat → Int) (ml : Nat → Int) (Φ : Int → Int → Int → Int → Int → Int → Int → Int → (Nat → Int) → (Nat → Int) → (Nat → Int) → (Nat → Int) → (Nat → Int) → Prop) : Prop := ∃ n : Nat, wp_X5_run_7 Φ  (0 : Int) sm le tk fr ti fa ms mv mt mn ml n (0 : Int) ma
theorem iX5_run_X5 : ∀ w ∈ wsX50, w ∈ wsX5_run := fun w h => List.mem_cons_of_mem _ (List.mem_append_right _ (h))
set_option maxHeartbeats 4000000 in
set_option maxRecDepth 100000 in
theorem c_X5_run (l : Launch) (D : va_G) (E : Nat → ClassId) (m0 m1 m2 m3 m4 m5 m6 m7 : Nat) (th : Int) (sm : Int) (le : Int) (tk : Int) (fr : Int) (ti : Int) (fa : Int) (ms : Nat → Int) (ma : Nat → Int) (mv : Nat → Int) (mt : Nat → Int) (mn : Nat → Int) (ml : Nat → Int) (mr : Nat → Int)  {Φ : Int → Int → Int → Int → Int → Int → Int → Int → (Nat → Int) → (Nat → Int) → (Nat → Int) → (Nat → Int) → (Nat → Int) → Prop} (hw : wp_X5_run  th sm le tk fr ti fa ms ma mv mt mn ml Φ) : qRW (σ := (Int) × (Int) × (Int) × (Int) × (Int) × (Int) × (Int) × (Nat → Int) × (Nat → Int) × (Nat → Int) × (Nat → Int) × (Nat → Int)) l D E qF0 yX5_run wsX5_run 7 160 [(m0, .inr (5, [.int (qI th), .ref m1, .ref m2, .ref m3, .int (qI sm), .ref m4, .int (qI le), .ref m5, .ref m6, .ref m7, .int (qI tk), .int (qI fr), .int (qI ti), .int (qI fa)])), (m1, qA (E 0) 635 ms), (m2, qA (E 0) 635 ma), (m3, qA (E 0) 3175 mv), (m4, qA (E 0) 140 mt), (m5, qA (E 0) 2 mn), (m6, qA (E 0) 64 ml), (m7, qA (E 0) 49152 mr)] [.ref m0] qeI (fun u => [(m0, .inr (5, [.int (qI u.1), .ref m1, .ref m2, .ref m3, .int (qI u.2.1), .ref m4, .int (qI u.2.2.1), .ref m5, .ref m6, .ref m7, .int (qI u.2.2.2.1), .int (qI u.2.2.2.2.1), .int (qI u.2.2.2.2.2.1), .int (qI u.2.2.2.2.2.2.1)])), (m1, qA (E 0) 635 u.2.2.2.2.2.2.2.1), (m2, qA (E 0) 635 u.2.2.2.2.2.2.2.2.1), (m3, qA (E 0) 3175 u.2.2.2.2.2.2.2.2.2.1), (m4, qA (E 0) 140 mt), (m5, qA (E 0) 2 u.2.2.2.2.2.2.2.2.2.2.1), (m6, qA (E 0) 64 u.2.2.2.2.2.2.2.2.2.2.2), (m7, qA (E 0) 49152 mr)]) (fun r u => Φ r u.1 u.2.1 u.2.2.1 u.2.2.2.1 u.2.2.2.2.1 u.2.2.2.2.2.1 u.2.2.2.2.2.2.1 u.2.2.2.2.2.2.2.1 u.2.2.2.2.2.2.2.2.1 u.2.2.2.2.2.2.2.2.2.1 u.2.2.2.2.2.2.2.2.2.2.1 u.2.2.2.2.2.2.2.2.2.2.2) := by
  refine qRW_int (nL := 4) (own := RX5) qF0_ok (by decide) rfl rfl (Nat.le_of_ble_eq_true rfl) (fun X C hend => ?_)
  have hB135 : ∀ x1 : Int, ∀ th : Int, ∀ sm : Int, ∀ le : Int, ∀ tk : Int, ∀ fr : Int, ∀ ti : Int, ∀ fa : Int, ∀ ma : Nat → Int, ∀ mv : Nat → Int, ∀ mn : Nat → Int, ∀ ml : Nat → Int, ∀ n8 : Nat, ∀ x2 : Int, ∀ ms : Nat → Int, wp_X5_run_135 Φ  x1 th sm le tk fr ti fa ma mv mn ml n8 x2 ms → qZ X 0 0 [(m0, .inr (5, [.int (qI th), .ref m1, .ref m2, .ref m3, .int (qI sm), .ref m4, .int (qI le), .ref m5, .ref m6, .ref m7, .int (qI tk), .int (qI fr), .int (qI ti), .int (qI fa)])), (m1, qA (E 0) 635 ms), (m2, qA (E 0) 635 ma), (m3, qA (E 0) 3175 mv), (m4, qA (E 0) 140 mt), (m5, qA (E 0) 2 mn), (m6, qA (E 0) 64 ml), (m7, qA (E 0) 49152 mr)] 135 [(0, .ref m0), (1, .int (qI x1)), (2, .int (qI x2))] [] := by
    intro x1 th sm le tk fr ti fa ma mv mn ml n8
    induction n8 with
    | zero =>
      intro x2 ms hw
      exact hw.elim
    | succ n9 ih =>
      intro x2 ms hw
      unfold wp_X5_run_135 at hw
      refine z_iload_n C 2 rfl rfl dX5_run_135 ?_
      refine z_sipush C (by decide +kernel) dX5_run_136 ?_
      refine z_icmp_ge (tgt := 160) C hw.1 (by decide) dX5_run_139 (fun c1 => ?_) (fun c1 => ?_)
      · replace hw := hw.2.1 c1
        refine z_aload_n C 0 rfl rfl dX5_run_160 ?_
        refine z_iconst C dX5_run_161 ?_
        refine z_put (ty := .int) (ws' := [(m0, .inr (5, [.int (qI th), .ref m1, .ref m2, .ref m3, .int (qI sm), .ref m4, .int (qI (0 : Int)), .ref m5, .ref m6, .ref m7, .int (qI tk), .int (qI fr), .int (qI ti), .int (qI fa)])), (m1, qA (E 0) 635 ms), (m2, qA (E 0) 635 ma), (m3, qA (E 0) 3175 mv), (m4, qA (E 0) 140 mt), (m5, qA (E 0) 2 mn), (m6, qA (E 0) 64 ml), (m7, qA (E 0) 49152 mr)]) C iX5_run_X5 tyX5 tyX5_ok nmX5 0 rfl rfl 6 (by decide) (List.mem_of_getElem? (i := 7) rfl) rfl rfl (by decide +kernel) rfl rfl (Nat.le_of_ble_eq_true rfl) rfl dX5_run_162 ?_
        refine z_iload_n C 1 rfl rfl dX5_run_165 ?_
        exact hend 166 _ x1 (th, sm, (0 : Int), tk, fr, ti, fa, ms, ma, mv, mn, ml) dX5_run_166 hw
      · replace hw := hw.2.2 c1
        refine z_aload_n C 0 rfl rfl dX5_run_142 ?_
        refine z_get C iX5_run_X5 0 rfl rfl 1 (by decide) (List.mem_of_getElem? (i := 3) rfl) rfl rfl dX5_run_143 ?_
        refine z_iload_n C 2 rfl rfl dX5_run_146 ?_
        refine z_aload_n C 0 rfl rfl dX5_run_147 ?_
        refine z_get C iX5_run_X5 0 rfl rfl 2 (by decide) (List.mem_of_getElem? (i := 2) rfl) rfl rfl dX5_run_148 ?_
        refine z_iload_n C 2 rfl rfl dX5_run_151 ?_
        refine z_iald C 2 rfl (by decide) hw.1 dX5_run_152 ?_
        replace hw := hw.2
        refine z_name (fun v2 ev2 => ?_)
        replace hw := hw v2 ev2
        refine z_iast C 1 rfl (by decide) hw.1 (fun g3 => [(m0, .inr (5, [.int (qI th), .ref m1, .ref m2, .ref m3, .int (qI sm), .ref m4, .int (qI le), .ref m5, .ref m6, .ref m7, .int (qI tk), .int (qI fr), .int (qI ti), .int (qI fa)])), (m1, qA (E 0) 635 g3), (m2, qA (E 0) 635 ma), (m3, qA (E 0) 3175 mv), (m4, qA (E 0) 140 mt), (m5, qA (E 0) 2 mn), (m6, qA (E 0) 64 ml), (m7, qA (E 0) 49152 mr)]) (fun _ => rfl) dX5_run_153 (fun g3 eg3 => ?_)
        replace hw := hw.2 g3 eg3
        obtain ⟨v4, ev4⟩ : ∃ v4 : Int, v4 = x2 + (1 : Int) := ⟨_, rfl⟩
        replace hw := hw v4 ev4
        refine z_iinc C 2 rfl (by decide) v4 ev4 rfl dX5_run_154 ?_
        refine z_goto (tgt := 135) C (by decide) dX5_run_157 ?_
        refine z_lst (ps := [1, 2, 0]) (lv' := [(0, .ref m0), (1, .int (qI x1)), (2, .int (qI v4))]) (st' := []) rfl rfl ?_
        exact ih v4 g3 hw
  have hB74 : ∀ x1 : Int, ∀ th : Int, ∀ sm : Int, ∀ le : Int, ∀ tk : Int, ∀ fr : Int, ∀ ti : Int, ∀ fa : Int, ∀ mv : Nat → Int, ∀ mn : Nat → Int, ∀ ml : Nat → Int, ∀ n8 : Nat, ∀ x2 : Int, ∀ ms : Nat → Int, ∀ ma : Nat → Int, wp_X5_run_74 Φ  x1 th sm le tk fr ti fa mv mn ml n8 x2 ms ma → qZ X 0 0 [(m0, .inr (5, [.int (qI th), .ref m1, .ref m2, .ref m3, .int (qI sm), .ref m4, .int (qI le), .ref m5, .ref m6, .ref m7, .int (qI tk), .int (qI fr), .int (qI ti), .int (qI fa)])), (m1, qA (E 0) 635 ms), (m2, qA (E 0) 635 ma), (m3, qA (E 0) 3175 mv), (m4, qA (E 0) 140 mt), (m5, qA (E 0) 2 mn), (m6, qA (E 0) 64 ml), (m7, qA (E 0) 49152 mr)] 74 [(0, .ref m0), (1, .int (qI x1)), (2, .int (qI x2))] [] := by
    intro x1 th sm le tk fr ti fa mv mn ml n8
    induction n8 with
    | zero =>
      intro x2 ms ma hw
      exact hw.elim
    | succ n9 ih =>
      intro x2 ms ma hw
      unfold wp_X5_run_74 at hw
      refine z_iload_n C 2 rfl rfl dX5_run_74 ?_
      refine z_sipush C (by decide +kernel) dX5_run_75 ?_
      refine z_icmp_ge (tgt := 113) C hw.1 (by decide) dX5_run_78 (fun c5 => ?_) (fun c5 => ?_)
      · replace hw := hw.2.1 c5
        refine z_aload_n C 0 rfl rfl dX5_run_113 ?_
        refine z_get C iX5_run_X5 0 rfl rfl 13 (by decide) (List.mem_of_getElem? (i := 5) rfl) rfl rfl dX5_run_114 ?_
        refine z_if_lt (tgt := 129) C hw.1 (by decide) dX5_run_117 (fun c6 => ?_) (fun c6 => ?_)
        · replace hw := hw.2.1 c6
          refine z_aload_n C 0 rfl rfl dX5_run_129 ?_
          refine z_callVW (n := 0) C (c_X5_act l D E m0 m1 m2 m3 m4 m5 m6 m7 th sm le tk fr ti fa ms ma mv mt mn ml mr  hw) qF0_ok (fun _ _ _ => trivial) gX5_run_X5_act rfl (by decide +kernel) ⟨(Nat.le_of_ble_eq_true rfl), (Nat.le_of_ble_eq_true rfl)⟩ rfl 0 rfl rfl [0, 1, 2, 3, 4, 5, 6, 7] [] (wr := []) rfl rfl rfl rfl (by decide) [0, 1, 2, 3, 4, 5, 6, 7] rfl (fun u9 => [(m0, .inr (5, [.int (qI th), .ref m1, .ref m2, .ref m3, .int (qI u9.1), .ref m4, .int (qI le), .ref m5, .ref m6, .ref m7, .int (qI tk), .int (qI fr), .int (qI ti), .int (qI fa)])), (m1, qA (E 0) 635 ms), (m2, qA (E 0) 635 ma), (m3, qA (E 0) 3175 u9.2), (m4, qA (E 0) 140 mt), (m5, qA (E 0) 2 mn), (m6, qA (E 0) 64 ml), (m7, qA (E 0) 49152 mr)]) (fun _ => rfl) rfl (Nat.le_of_ble_eq_true rfl) dX5_run_130 (fun r7 u9 hw => ?_)
          obtain ⟨g8, g9⟩ := u9
          refine z_ws (ws' := [(m0, .inr (5, [.int (qI th), .ref m1, .ref m2, .ref m3, .int (qI g8), .ref m4, .int (qI le), .ref m5, .ref m6, .ref m7, .int (qI tk), .int (qI fr), .int (qI ti), .int (qI fa)])), (m1, qA (E 0) 635 ms), (m2, qA (E 0) 635 ma), (m3, qA (E 0) 3175 g9), (m4, qA (E 0) 140 mt), (m5, qA (E 0) 2 mn), (m6, qA (E 0) 64 ml), (m7, qA (E 0) 49152 mr)]) rfl ?_
          try dsimp only at hw
          show qZ X 0 0 [(m0, .inr (5, [.int (qI th), .ref m1, .ref m2, .ref m3, .int (qI g8), .ref m4, .int (qI le), .ref m5, .ref m6, .ref m7, .int (qI tk), .int (qI fr), .int (qI ti), .int (qI fa)])), (m1, qA (E 0) 635 ms), (m2, qA (E 0) 635 ma), (m3, qA (E 0) 3175 g9), (m4, qA (E 0) 140 mt), (m5, qA (E 0) 2 mn), (m6, qA (E 0) 64 ml), (m7, qA (E 0) 49152 mr)] _ _ []
          refine z_iconst C dX5_run_133 ?_
          refine z_istore_n C rfl (by decide) rfl dX5_run_134 ?_
          refine z_lst (ps := [1, 2, 0]) (lv' := [(0, .ref m0), (1, .int (qI x1)), (2, .int (qI (0 : Int)))]) (st' := []) rfl rfl ?_
          obtain ⟨n8, hw⟩ := hw
          exact hB135 x1 th g8 le tk fr ti fa ma g9 mn ml n8 (0 : Int) ms hw
        · replace hw := hw.2.2 c6
          refine z_sipush C (by decide +kernel) dX5_run_120 ?_
          refine z_aload_n C 0 rfl rfl dX5_run_123 ?_
          refine z_get C iX5_run_X5 0 rfl rfl 13 (by decide) (List.mem_of_getElem? (i := 5) rfl) rfl rfl dX5_run_124 ?_
          refine z_isub C dX5_run_127 ?_
          exact hend 128 _ ((-1000 : Int) - fa) (th, sm, le, tk, fr, ti, fa, ms, ma, mv, mn, ml) dX5_run_128 hw
      · replace hw := hw.2.2 c5
        refine z_aload_n C 0 rfl rfl dX5_run_81 ?_
        refine z_get C iX5_run_X5 0 rfl rfl 1 (by decide) (List.mem_of_getElem? (i := 3) rfl) rfl rfl dX5_run_82 ?_
        refine z_iload_n C 2 rfl rfl dX5_run_85 ?_
        refine z_iald C 1 rfl (by decide) hw.1 dX5_run_86 ?_
        replace hw := hw.2
        refine z_name (fun v10 ev10 => ?_)
        replace hw := hw v10 ev10
        refine z_istore_n C rfl (by decide) rfl dX5_run_87 ?_
        refine z_aload_n C 1 rfl rfl dX5_run_88 ?_
        refine z_get C iX5_run_X5 0 rfl rfl 1 (by decide) (List.mem_of_getElem? (i := 3) rfl) rfl rfl dX5_run_89 ?_
        refine z_iload_n C 3 rfl rfl dX5_run_92 ?_
        refine z_aload_n C 1 rfl rfl dX5_run_93 ?_
        refine z_get C iX5_run_X5 0 rfl rfl 2 (by decide) (List.mem_of_getElem? (i := 2) rfl) rfl rfl dX5_run_94 ?_
        refine z_iload_n C 3 rfl rfl dX5_run_97 ?_
        refine z_iald C 2 rfl (by decide) hw.1 dX5_run_98 ?_
        replace hw := hw.2
        refine z_name (fun v11 ev11 => ?_)
        replace hw := hw v11 ev11
        refine z_iast C 1 rfl (by decide) hw.1 (fun g12 => [(m0, .inr (5, [.int (qI th), .ref m1, .ref m2, .ref m3, .int (qI sm), .ref m4, .int (qI le), .ref m5, .ref m6, .ref m7, .int (qI tk), .int (qI fr), .int (qI ti), .int (qI fa)])), (m1, qA (E 0) 635 g12), (m2, qA (E 0) 635 ma), (m3, qA (E 0) 3175 mv), (m4, qA (E 0) 140 mt), (m5, qA (E 0) 2 mn), (m6, qA (E 0) 64 ml), (m7, qA (E 0) 49152 mr)]) (fun _ => rfl) dX5_run_99 (fun g12 eg12 => ?_)
        replace hw := hw.2 g12 eg12
        refine z_aload_n C 1 rfl rfl dX5_run_100 ?_
        refine z_get C iX5_run_X5 0 rfl rfl 2 (by decide) (List.mem_of_getElem? (i := 2) rfl) rfl rfl dX5_run_101 ?_
        refine z_iload_n C 3 rfl rfl dX5_run_104 ?_
        refine z_iload_n C 0 rfl rfl dX5_run_105 ?_
        refine z_iast C 2 rfl (by decide) hw.1 (fun g13 => [(m0, .inr (5, [.int (qI th), .ref m1, .ref m2, .ref m3, .int (qI sm), .ref m4, .int (qI le), .ref m5, .ref m6, .ref m7, .int (qI tk), .int (qI fr), .int (qI ti), .int (qI fa)])), (m1, qA (E 0) 635 g12), (m2, qA (E 0) 635 g13), (m3, qA (E 0) 3175 mv), (m4, qA (E 0) 140 mt), (m5, qA (E 0) 2 mn), (m6, qA (E 0) 64 ml), (m7, qA (E 0) 49152 mr)]) (fun _ => rfl) dX5_run_106 (fun g13 eg13 => ?_)
        replace hw := hw.2 g13 eg13
        obtain ⟨v14, ev14⟩ : ∃ v14 : Int, v14 = x2 + (1 : Int) := ⟨_, rfl⟩
        replace hw := hw v14 ev14
        refine z_iinc C 3 rfl (by decide) v14 ev14 rfl dX5_run_107 ?_
        refine z_goto (tgt := 74) C (by decide) dX5_run_110 ?_
        refine z_lst (ps := [2, 3, 0]) (lv' := [(0, .ref m0), (1, .int (qI x1)), (2, .int (qI v14))]) (st' := []) rfl rfl ?_
        exact ih v14 g12 g13 hw
  have hB72 : ∀ x1 : Int, ∀ th : Int, ∀ sm : Int, ∀ le : Int, ∀ tk : Int, ∀ fr : Int, ∀ ti : Int, ∀ fa : Int, ∀ ms : Nat → Int, ∀ ma : Nat → Int, ∀ mv : Nat → Int, ∀ mn : Nat → Int, ∀ ml : Nat → Int, wp_X5_run_72 Φ  x1 th sm le tk fr ti fa ms ma mv mn ml → qZ X 0 0 [(m0, .inr (5, [.int (qI th), .ref m1, .ref m2, .ref m3, .int (qI sm), .ref m4, .int (qI le), .ref m5, .ref m6, .ref m7, .int (qI tk), .int (qI fr), .int (qI ti), .int (qI fa)])), (m1, qA (E 0) 635 ms), (m2, qA (E 0) 635 ma), (m3, qA (E 0) 3175 mv), (m4, qA (E 0) 140 mt), (m5, qA (E 0) 2 mn), (m6, qA (E 0) 64 ml), (m7, qA (E 0) 49152 mr)] 72 [(0, .ref m0), (1, .int (qI x1))] [] := by
    intro x1 th sm le tk fr ti fa ms ma mv mn ml hw
    unfold wp_X5_run_72 at hw
    refine z_iconst C dX5_run_72 ?_
    refine z_istore_n C rfl (by decide) rfl dX5_run_73 ?_
    refine z_lst (ps := [1, 2, 0]) (lv' := [(0, .ref m0), (1, .int (qI x1)), (2, .int (qI (0 : Int)))]) (st' := []) rfl rfl ?_
    obtain ⟨n8, hw⟩ := hw
    exact hB74 x1 th sm le tk fr ti fa mv mn ml n8 (0 : Int) ms ma hw
  have hB48 : ∀ th : Int, ∀ sm : Int, ∀ le : Int, ∀ ma : Nat → Int, ∀ mv : Nat → Int, ∀ n8 : Nat, ∀ x1 : Int, ∀ tk : Int, ∀ fr : Int, ∀ ti : Int, ∀ fa : Int, ∀ ms : Nat → Int, ∀ mn : Nat → Int, ∀ ml : Nat → Int, wp_X5_run_48 Φ  th sm le ma mv mt n8 x1 tk fr ti fa ms mn ml → qZ X 0 0 [(m0, .inr (5, [.int (qI th), .ref m1, .ref m2, .ref m3, .int (qI sm), .ref m4, .int (qI le), .ref m5, .ref m6, .ref m7, .int (qI tk), .int (qI fr), .int (qI ti), .int (qI fa)])), (m1, qA (E 0) 635 ms), (m2, qA (E 0) 635 ma), (m3, qA (E 0) 3175 mv), (m4, qA (E 0) 140 mt), (m5, qA (E 0) 2 mn), (m6, qA (E 0) 64 ml), (m7, qA (E 0) 49152 mr)] 48 [(0, .ref m0), (1, .int (qI x1))] [] := by
    intro th sm le ma mv n8
    induction n8 with
    | zero =>
      intro x1 tk fr ti fa ms mn ml hw
      exact hw.elim
    | succ n9 ih =>
      intro x1 tk fr ti fa ms mn ml hw
      unfold wp_X5_run_48 at hw
      refine z_aload_n C 0 rfl rfl dX5_run_48 ?_
      refine z_get C iX5_run_X5 0 rfl rfl 13 (by decide) (List.mem_of_getElem? (i := 5) rfl) rfl rfl dX5_run_49 ?_
      refine z_if_ge (tgt := 72) C hw.1 (by decide) dX5_run_52 (fun c15 => ?_) (fun c15 => ?_)
      · replace hw := hw.2.1 c15
        refine z_lst (ps := [0, 1]) (lv' := [(0, .ref m0), (1, .int (qI x1))]) (st' := []) rfl rfl ?_
        exact hB72 x1 th sm le tk fr ti fa ms ma mv mn ml hw
      · replace hw := hw.2.2 c15
        refine z_aload_n C 0 rfl rfl dX5_run_55 ?_
        refine z_get C iX5_run_X5 0 rfl rfl 10 (by decide) (List.mem_of_getElem? (i := 6) rfl) rfl rfl dX5_run_56 ?_
        refine z_if_eq (tgt := 72) C hw.1 (by decide) dX5_run_59 (fun c16 => ?_) (fun c16 => ?_)
        · replace hw := hw.2.1 c16
          refine z_lst (ps := [0, 1]) (lv' := [(0, .ref m0), (1, .int (qI x1))]) (st' := []) rfl rfl ?_
          exact hB72 x1 th sm le tk fr ti fa ms ma mv mn ml hw
        · replace hw := hw.2.2 c16
          refine z_iload_n C 1 rfl rfl dX5_run_62 ?_
          refine z_aload_n C 0 rfl rfl dX5_run_63 ?_
          refine z_callVW (n := 0) C (c_X5_command l D E m0 m1 m2 m3 m4 m5 m6 m7 th sm le tk fr ti fa ms ma mv mt mn ml mr  hw) qF0_ok (fun _ _ _ => trivial) gX5_run_X5_command rfl (by decide +kernel) ⟨(Nat.le_of_ble_eq_true rfl), (Nat.le_of_ble_eq_true rfl)⟩ rfl 0 rfl rfl [0, 1, 2, 3, 4, 5, 6, 7] [] (wr := []) rfl rfl rfl rfl (by decide) [0, 1, 2, 3, 4, 5, 6, 7] rfl (fun u9 => [(m0, .inr (5, [.int (qI th), .ref m1, .ref m2, .ref m3, .int (qI sm), .ref m4, .int (qI le), .ref m5, .ref m6, .ref m7, .int (qI u9.1), .int (qI u9.2.1), .int (qI u9.2.2.1), .int (qI u9.2.2.2.1)])), (m1, qA (E 0) 635 u9.2.2.2.2.1), (m2, qA (E 0) 635 ma), (m3, qA (E 0) 3175 mv), (m4, qA (E 0) 140 mt), (m5, qA (E 0) 2 u9.2.2.2.2.2.1), (m6, qA (E 0) 64 u9.2.2.2.2.2.2), (m7, qA (E 0) 49152 mr)]) (fun _ => rfl) rfl (Nat.le_of_ble_eq_true rfl) dX5_run_64 (fun r17 u9 hw => ?_)
          obtain ⟨g18, g19, g20, g21, g22, g23, g24⟩ := u9
          refine z_ws (ws' := [(m0, .inr (5, [.int (qI th), .ref m1, .ref m2, .ref m3, .int (qI sm), .ref m4, .int (qI le), .ref m5, .ref m6, .ref m7, .int (qI g18), .int (qI g19), .int (qI g20), .int (qI g21)])), (m1, qA (E 0) 635 g22), (m2, qA (E 0) 635 ma), (m3, qA (E 0) 3175 mv), (m4, qA (E 0) 140 mt), (m5, qA (E 0) 2 g23), (m6, qA (E 0) 64 g24), (m7, qA (E 0) 49152 mr)]) rfl ?_
          try dsimp only at hw
          show qZ X 0 0 [(m0, .inr (5, [.int (qI th), .ref m1, .ref m2, .ref m3, .int (qI sm), .ref m4, .int (qI le), .ref m5, .ref m6, .ref m7, .int (qI g18), .int (qI g19), .int (qI g20), .int (qI g21)])), (m1, qA (E 0) 635 g22), (m2, qA (E 0) 635 ma), (m3, qA (E 0) 3175 mv), (m4, qA (E 0) 140 mt), (m5, qA (E 0) 2 g23), (m6, qA (E 0) 64 g24), (m7, qA (E 0) 49152 mr)] _ _ [.int (qI r17), .int (qI x1)]
          refine z_iadd C dX5_run_67 ?_
          refine z_name (fun v25 ev25 => ?_)
          replace hw := hw v25 ev25
          refine z_istore_n C rfl (by decide) rfl dX5_run_68 ?_
          refine z_goto (tgt := 48) C (by decide) dX5_run_69 ?_
          refine z_lst (ps := [1, 0]) (lv' := [(0, .ref m0), (1, .int (qI v25))]) (st' := []) rfl rfl ?_
          exact ih v25 g18 g19 g20 g21 g22 g23 g24 hw
  have hB7 : ∀ th : Int, ∀ sm : Int, ∀ le : Int, ∀ tk : Int, ∀ fr : Int, ∀ ti : Int, ∀ fa : Int, ∀ ms : Nat → Int, ∀ mv : Nat → Int, ∀ mn : Nat → Int, ∀ ml : Nat → Int, ∀ n8 : Nat, ∀ x1 : Int, ∀ ma : Nat → Int, wp_X5_run_7 Φ  th sm le tk fr ti fa ms mv mt mn ml n8 x1 ma → qZ X 0 0 [(m0, .inr (5, [.int (qI th), .ref m1, .ref m2, .ref m3, .int (qI sm), .ref m4, .int (qI le), .ref m5, .ref m6, .ref m7, .int (qI tk), .int (qI fr), .int (qI ti), .int (qI fa)])), (m1, qA (E 0) 635 ms), (m2, qA (E 0) 635 ma), (m3, qA (E 0) 3175 mv), (m4, qA (E 0) 140 mt), (m5, qA (E 0) 2 mn), (m6, qA (E 0) 64 ml), (m7, qA (E 0) 49152 mr)] 7 [(0, .ref m0), (1, .int (qI x1))] [] := by
    intro th sm le tk fr ti fa ms mv mn ml n8
    induction n8 with
    | zero =>
      intro x1 ma hw
      exact hw.elim
    | succ n9 ih =>
      intro x1 ma hw
      unfold wp_X5_run_7 at hw
      refine z_iload_n C 1 rfl rfl dX5_run_7 ?_
      refine z_sipush C (by decide +kernel) dX5_run_8 ?_
      refine z_icmp_ge (tgt := 32) C hw.1 (by decide) dX5_run_11 (fun c26 => ?_) (fun c26 => ?_)
      · replace hw := hw.2.1 c26
        refine z_aload_n C 0 rfl rfl dX5_run_32 ?_
        refine z_iconst C dX5_run_33 ?_
        refine z_put (ty := .int) (ws' := [(m0, .inr (5, [.int (qI th), .ref m1, .ref m2, .ref m3, .int (qI sm), .ref m4, .int (qI le), .ref m5, .ref m6, .ref m7, .int (qI tk), .int (qI fr), .int (qI (0 : Int)), .int (qI fa)])), (m1, qA (E 0) 635 ms), (m2, qA (E 0) 635 ma), (m3, qA (E 0) 3175 mv), (m4, qA (E 0) 140 mt), (m5, qA (E 0) 2 mn), (m6, qA (E 0) 64 ml), (m7, qA (E 0) 49152 mr)]) C iX5_run_X5 tyX5 tyX5_ok nmX5 0 rfl rfl 12 (by decide) (List.mem_of_getElem? (i := 4) rfl) rfl rfl (by decide +kernel) rfl rfl (Nat.le_of_ble_eq_true rfl) rfl dX5_run_34 ?_
        refine z_aload_n C 0 rfl rfl dX5_run_37 ?_
        refine z_iconst C dX5_run_38 ?_
        refine z_put (ty := .int) (ws' := [(m0, .inr (5, [.int (qI th), .ref m1, .ref m2, .ref m3, .int (qI sm), .ref m4, .int (qI le), .ref m5, .ref m6, .ref m7, .int (qI tk), .int (qI fr), .int (qI (0 : Int)), .int (qI (-1 : Int))])), (m1, qA (E 0) 635 ms), (m2, qA (E 0) 635 ma), (m3, qA (E 0) 3175 mv), (m4, qA (E 0) 140 mt), (m5, qA (E 0) 2 mn), (m6, qA (E 0) 64 ml), (m7, qA (E 0) 49152 mr)]) C iX5_run_X5 tyX5 tyX5_ok nmX5 0 rfl rfl 13 (by decide) (List.mem_of_getElem? (i := 5) rfl) rfl rfl (by decide +kernel) rfl rfl (Nat.le_of_ble_eq_true rfl) rfl dX5_run_39 ?_
        refine z_iconst C dX5_run_42 ?_
        refine z_istore_n C rfl (by decide) rfl dX5_run_43 ?_
        refine z_aload_n C 1 rfl rfl dX5_run_44 ?_
        refine z_callVW (n := 0) C (c_X5_next l D E m0 m1 m2 m3 m4 m5 m6 m7 th sm le tk fr (0 : Int) (-1 : Int) ms ma mv mt mn ml mr  hw) qF0_ok (fun _ _ _ => trivial) gX5_run_X5_next rfl (by decide +kernel) ⟨(Nat.le_of_ble_eq_true rfl), (Nat.le_of_ble_eq_true rfl)⟩ rfl 0 rfl rfl [0, 1, 2, 3, 4, 5, 6, 7] [] (wr := []) rfl rfl rfl rfl (by decide) [0, 1, 2, 3, 4, 5, 6, 7] rfl (fun u9 => [(m0, .inr (5, [.int (qI th), .ref m1, .ref m2, .ref m3, .int (qI sm), .ref m4, .int (qI le), .ref m5, .ref m6, .ref m7, .int (qI u9.1), .int (qI u9.2.1), .int (qI u9.2.2), .int (qI (-1 : Int))])), (m1, qA (E 0) 635 ms), (m2, qA (E 0) 635 ma), (m3, qA (E 0) 3175 mv), (m4, qA (E 0) 140 mt), (m5, qA (E 0) 2 mn), (m6, qA (E 0) 64 ml), (m7, qA (E 0) 49152 mr)]) (fun _ => rfl) rfl (Nat.le_of_ble_eq_true rfl) dX5_run_45 (fun r27 u9 hw => ?_)
        obtain ⟨g28, g29, g30⟩ := u9
        refine z_ws (ws' := [(m0, .inr (5, [.int (qI th), .ref m1, .ref m2, .ref m3, .int (qI sm), .ref m4, .int (qI le), .ref m5, .ref m6, .ref m7, .int (qI g28), .int (qI g29), .int (qI g30), .int (qI (-1 : Int))])), (m1, qA (E 0) 635 ms), (m2, qA (E 0) 635 ma), (m3, qA (E 0) 3175 mv), (m4, qA (E 0) 140 mt), (m5, qA (E 0) 2 mn), (m6, qA (E 0) 64 ml), (m7, qA (E 0) 49152 mr)]) rfl ?_
        try dsimp only at hw
        show qZ X 0 0 [(m0, .inr (5, [.int (qI th), .ref m1, .ref m2, .ref m3, .int (qI sm), .ref m4, .int (qI le), .ref m5, .ref m6, .ref m7, .int (qI g28), .int (qI g29), .int (qI g30), .int (qI (-1 : Int))])), (m1, qA (E 0) 635 ms), (m2, qA (E 0) 635 ma), (m3, qA (E 0) 3175 mv), (m4, qA (E 0) 140 mt), (m5, qA (E 0) 2 mn), (m6, qA (E 0) 64 ml), (m7, qA (E 0) 49152 mr)] _ _ []
        refine z_lst (ps := [1, 0]) (lv' := [(0, .ref m0), (1, .int (qI (0 : Int)))]) (st' := []) rfl rfl ?_
        obtain ⟨n8, hw⟩ := hw
        exact hB48 th sm le ma mv n8 (0 : Int) g28 g29 g30 (-1 : Int) ms mn ml hw
      · replace hw := hw.2.2 c26
        refine z_aload_n C 0 rfl rfl dX5_run_14 ?_
        refine z_get C iX5_run_X5 0 rfl rfl 2 (by decide) (List.mem_of_getElem? (i := 2) rfl) rfl rfl dX5_run_15 ?_
        refine z_iload_n C 1 rfl rfl dX5_run_18 ?_
        refine z_aload_n C 0 rfl rfl dX5_run_19 ?_
        refine z_get C iX5_run_X5 0 rfl rfl 1 (by decide) (List.mem_of_getElem? (i := 3) rfl) rfl rfl dX5_run_20 ?_
        refine z_iload_n C 1 rfl rfl dX5_run_23 ?_
        refine z_iald C 1 rfl (by decide) hw.1 dX5_run_24 ?_
        replace hw := hw.2
        refine z_name (fun v31 ev31 => ?_)
        replace hw := hw v31 ev31
        refine z_iast C 2 rfl (by decide) hw.1 (fun g32 => [(m0, .inr (5, [.int (qI th), .ref m1, .ref m2, .ref m3, .int (qI sm), .ref m4, .int (qI le), .ref m5, .ref m6, .ref m7, .int (qI tk), .int (qI fr), .int (qI ti), .int (qI fa)])), (m1, qA (E 0) 635 ms), (m2, qA (E 0) 635 g32), (m3, qA (E 0) 3175 mv), (m4, qA (E 0) 140 mt), (m5, qA (E 0) 2 mn), (m6, qA (E 0) 64 ml), (m7, qA (E 0) 49152 mr)]) (fun _ => rfl) dX5_run_25 (fun g32 eg32 => ?_)
        replace hw := hw.2 g32 eg32
        obtain ⟨v33, ev33⟩ : ∃ v33 : Int, v33 = x1 + (1 : Int) := ⟨_, rfl⟩
        replace hw := hw v33 ev33
        refine z_iinc C 1 rfl (by decide) v33 ev33 rfl dX5_run_26 ?_
        refine z_goto (tgt := 7) C (by decide) dX5_run_29 ?_
        refine z_lst (ps := [1, 0]) (lv' := [(0, .ref m0), (1, .int (qI v33))]) (st' := []) rfl rfl ?_
        exact ih v33 g32 hw
  unfold wp_X5_run at hw
  show qZ X 0 0 [(m0, .inr (5, [.int (qI th), .ref m1, .ref m2, .ref m3, .int (qI sm), .ref m4, .int (qI le), .ref m5, .ref m6, .ref m7, .int (qI tk), .int (qI fr), .int (qI ti), .int (qI fa)])), (m1, qA (E 0) 635 ms), (m2, qA (E 0) 635 ma), (m3, qA (E 0) 3175 mv), (m4, qA (E 0) 140 mt), (m5, qA (E 0) 2 mn), (m6, qA (E 0) 64 ml), (m7, qA (E 0) 49152 mr)] 0 [(0, .ref m0)] []
  refine z_aload_n C 0 rfl rfl dX5_run_0 ?_
  refine z_iconst C dX5_run_1 ?_
  refine z_put (ty := .int) (ws' := [(m0, .inr (5, [.int (qI (0 : Int)), .ref m1, .ref m2, .ref m3, .int (qI sm), .ref m4, .int (qI le), .ref m5, .ref m6, .ref m7, .int (qI tk), .int (qI fr), .int (qI ti), .int (qI fa)])), (m1, qA (E 0) 635 ms), (m2, qA (E 0) 635 ma), (m3, qA (E 0) 3175 mv), (m4, qA (E 0) 140 mt), (m5, qA (E 0) 2 mn), (m6, qA (E 0) 64 ml), (m7, qA (E 0) 49152 mr)]) C iX5_run_X5 tyX5 tyX5_ok nmX5 0 rfl rfl 0 (by decide) (List.mem_of_getElem? (i := 1) rfl) rfl rfl (by decide +kernel) rfl rfl (Nat.le_of_ble_eq_true rfl) rfl dX5_run_2 ?_
  refine z_iconst C dX5_run_5 ?_
  refine z_istore_n C rfl (by decide) rfl dX5_run_6 ?_
  refine z_lst (ps := [1, 0]) (lv' := [(0, .ref m0), (1, .int (qI (0 : Int)))]) (st' := []) rfl rfl ?_
  obtain ⟨n8, hw⟩ := hw
  exact hB7 (0 : Int) sm le tk fr ti fa ms mv mn ml n8 (0 : Int) ma hw
