/-! PURE 26: the class's actions -/
section ZCLS
variable {th kp sm : Int} {ms mv : Nat → Int} {tk : Nat → Int} {szs : Int} {phs ods : Nat → Int} {pis : Nat → Int64} {ses : Nat → Int} {szx : Int} {phx odx : Nat → Int} {pix : Nat → Int64} {sex : Nat → Int} {szy : Int} {phy ody : Nat → Int} {piy : Nat → Int64} {sey : Nat → Int} {ha : Nat → Nat → Nat} {hc : Nat → qSt}
theorem s_X2_isSlot {x : Int} {Φ : Int → Prop} (hx : qR x) (h : Φ (if 0 ≤ x ∧ x < 2 then 1 else 0)) : wp_X2_isSlot x Φ := by
  unfold wp_X2_isSlot wp_X2_isSlot_13 wp_X2_isSlot_14
  refine ⟨hx, fun c => ⟨Or.inl rfl, ?_⟩, fun c => ⟨⟨hx, by decide⟩, fun c2 => ⟨Or.inl rfl, ?_⟩, fun c2 => ⟨Or.inr rfl, ?_⟩⟩⟩
  · rwa [if_neg (by omega)] at h
  · rwa [if_neg (by omega)] at h
  · rwa [if_pos (by omega)] at h
end ZCLS
