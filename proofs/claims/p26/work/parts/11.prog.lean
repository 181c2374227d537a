def wp_X0_size  (tl : Int) (Φ : Int → Prop) : Prop := Φ tl
theorem iX0_size_X0 : ∀ w ∈ wsX00, w ∈ wsX0_size := fun w h => List.mem_cons_of_mem _ (List.mem_append_right _ (h))
set_option maxHeartbeats 4000000 in
set_option maxRecDepth 100000 in
theorem c_X0_size (l : Launch) (D : va_G) (E : Nat → ClassId) (p0 p1 p2 : Nat) (tl : Int) (pp : Int) (tx : Nat → Int) (nu : Nat → Int)  {Φ : Int → Prop} (hw : wp_X0_size  tl Φ) : qRO l D E qF0 yX0_size wsX0_size 0 0 [(p0, .inr (0, [.ref p1, .int (qI tl), .int (qI pp), .ref p2])), (p1, qA (E 3) 140 tx), (p2, qA (E 0) 2 nu)] [.ref p0] qeI (fun r => Φ r) := by
  refine qRO_int (nL := 1) (own := RX0) qF0_ok (by decide) rfl rfl (Nat.le_of_ble_eq_true rfl) (fun X C hend => ?_)
  unfold wp_X0_size at hw
  show qZ X 0 0 [(p0, .inr (0, [.ref p1, .int (qI tl), .int (qI pp), .ref p2])), (p1, qA (E 3) 140 tx), (p2, qA (E 0) 2 nu)] 0 [(0, .ref p0)] []
  refine z_aload_n C 0 rfl rfl dX0_size_0 ?_
  refine z_get C iX0_size_X0 0 rfl rfl 1 (by decide) (List.mem_of_getElem? (i := 1) rfl) rfl rfl dX0_size_1 ?_
  exact hend 4 _ tl dX0_size_4 hw
