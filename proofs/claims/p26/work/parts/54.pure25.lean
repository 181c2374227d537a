theorem qUh_a (f : Nat → qSt) (k : Nat) (x : qSt) (j : Nat) : qUh f k x j = if j = k then x else f j := rfl
/-- the settings' bounds -/
def zsetR (x y : Int) (se : Nat → Int) (r : Int) (se' : Nat → Int) : Prop := (¬ ((0 ≤ x ∧ x < 6) ∧ qLE x.toNat ≤ y ∧ y ≤ qMO x.toNat) ∧ r = -1 ∧ se' = se) ∨ ((0 ≤ x ∧ x < 6) ∧ (qLE x.toNat ≤ y ∧ y ≤ qMO x.toNat) ∧ r = se x.toNat ∧ se' = qU se x.toNat y)
theorem zLM : ∀ k : Nat, k < 6 → (0 ≤ qLE k ∧ qLE k ≤ 8) ∧ (4 ≤ qMO k ∧ qMO k ≤ 200) := by decide +kernel
theorem zSe_b {se : Nat → Int} (hs : zSe se) {k : Nat} (hk : k < 6) : 0 ≤ se k ∧ se k ≤ 200 := by
  obtain ⟨h0, h1, h2, h3, h4, h5⟩ := hs
  rcases (show k = 0 ∨ k = 1 ∨ k = 2 ∨ k = 3 ∨ k = 4 ∨ k = 5 by omega) with rfl | rfl | rfl | rfl | rfl | rfl <;> omega
theorem zsetR_b {x y r : Int} {se se' : Nat → Int} (hs : zSe se) (h : zsetR x y se r se') : zSe se' ∧ -3 ≤ r ∧ r ≤ 200 := by
  rcases h with ⟨c, rfl, rfl⟩ | ⟨c, d, rfl, rfl⟩
  · exact ⟨hs, by decide, by decide⟩
  · have hb := zSe_b hs (k := x.toNat) (by omega)
    refine ⟨?_, by omega, by omega⟩
    obtain ⟨h0, h1, h2, h3, h4, h5⟩ := hs
    unfold zSe
    rcases (show x = 0 ∨ x = 1 ∨ x = 2 ∨ x = 3 ∨ x = 4 ∨ x = 5 by omega) with rfl | rfl | rfl | rfl | rfl | rfl
    · have d1 : 8 ≤ y ∧ y ≤ 200 := d
      exact ⟨d1, h1, h2, h3, h4, h5⟩
    · have d1 : 1 ≤ y ∧ y ≤ 4 := d
      exact ⟨h0, d1, h2, h3, h4, h5⟩
    · have d1 : 1 ≤ y ∧ y ≤ 100 := d
      exact ⟨h0, h1, d1, h3, h4, h5⟩
    · have d1 : 0 ≤ y ∧ y ≤ 199 := d
      exact ⟨h0, h1, h2, d1, h4, h5⟩
    · have d1 : 1 ≤ y ∧ y ≤ 50 := d
      exact ⟨h0, h1, h2, h3, d1, h5⟩
    · have d1 : 1 ≤ y ∧ y ≤ 100 := d
      exact ⟨h0, h1, h2, h3, h4, d1⟩
theorem t_X1_putSetting {x y : Int} {se : Nat → Int} {Φ : Int → (Nat → Int) → Prop} (hx : qR x) (hy : qR y) (h : ∀ r se', zsetR x y se r se' → Φ r se') : wp_X1_putSetting x y se Φ := by
  unfold wp_X1_putSetting wp_X1_putSetting_28
  refine ⟨hx, fun c => h _ _ (Or.inl ⟨by omega, rfl, rfl⟩), fun c => ⟨⟨hx, by decide⟩, fun c2 => h _ _ (Or.inl ⟨by omega, rfl, rfl⟩), fun c2 => ⟨⟨by omega, by omega⟩, fun v3 e3 => ?_⟩⟩⟩
  have hb := zLM x.toNat (by omega)
  rw [e3]
  refine ⟨⟨hy, (qR_i (by omega) (by omega))⟩, fun c3 => h _ _ (Or.inl ⟨by omega, rfl, rfl⟩), fun c3 => ⟨⟨by omega, by omega⟩, fun v5 e5 => ?_⟩⟩
  rw [e5]
  refine ⟨⟨hy, (qR_i (by omega) (by omega))⟩, fun c4 => ⟨⟨by omega, by omega⟩, fun v7 e7 => ⟨⟨by omega, by omega⟩, fun g8 e8 => ?_⟩⟩, fun c4 => h _ _ (Or.inl ⟨by omega, rfl, rfl⟩)⟩
  rw [e7, e8]
  exact h _ _ (Or.inr ⟨by omega, by omega, rfl, rfl⟩)
section ZACT
variable {th sm : Int} {ms mv ml : Nat → Int} {sz : Int} {ph od : Nat → Int} {pi : Nat → Int64} {se : Nat → Int} {r : Int}
end ZACT
