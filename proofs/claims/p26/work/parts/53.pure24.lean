/-! PURE 24: the model's history, and its run -/
theorem zR_c {ms g : Nat → Int} {sz : Int} {ph od : Nat → Int} {pi : Nat → Int64} {se : Nat → Int} (hg : ∀ k : Nat, k < 211 → g k = ms k) (h : zR ms sz ph od pi se) : zR g sz ph od pi se := by
  obtain ⟨h1, h2, h3, h4, h5, h6⟩ := h
  exact ⟨fun k hk => by rw [hg _ (by omega)]; exact h1 k hk, by rw [hg _ (by omega)]; exact h2, fun k hk => by rw [hg _ (by omega)]; exact h3 k hk, fun k hk => by rw [hg _ (by omega)]; exact h4 k hk, fun k hk => by rw [hg _ (by omega)]; exact h5 k hk, fun k hk => by rw [hg _ (by omega)]; exact h6 k hk⟩
theorem zG_c {ms g : Nat → Int} {sz : Int} {ph od : Nat → Int} {pi : Nat → Int64} {se : Nat → Int} (hg : ∀ k : Nat, k < 211 → g k = ms k) (h : zG ms sz ph od pi se) : zG g sz ph od pi se := ⟨zR_c hg h.1, h.2⟩
section ZRUN
variable {Φ : Int → Int → Int → Int → Int → Int → Int → Int → (Nat → Int) → (Nat → Int) → (Nat → Int) → (Nat → Int) → (Nat → Int) → Prop}
end ZRUN
