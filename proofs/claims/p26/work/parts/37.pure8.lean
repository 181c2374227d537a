/-! PURE 8: the model's screen: its cells and the class's fields; way, fading, beam -/
def zR (ms : Nat → Int) (sz : Int) (ph od : Nat → Int) (pi : Nat → Int64) (se : Nat → Int) : Prop := (∀ k : Nat, k < 6 → ms k = se k) ∧ ms 6 = sz ∧ (∀ k : Nat, k < 12 → ms (7 + k) = od k) ∧ (∀ k : Nat, k < 64 → ms (19 + k) = ph k) ∧ (∀ k : Nat, k < 64 → ms (83 + k) = zb (pi 0) k) ∧ ∀ k : Nat, k < 64 → ms (147 + k) = zb (pi 1) k
def zG (ms : Nat → Int) (sz : Int) (ph od : Nat → Int) (pi : Nat → Int64) (se : Nat → Int) : Prop := zR ms sz ph od pi se ∧ zOk sz od ∧ zSe se ∧ zPh ph
theorem zR_se {ms : Nat → Int} {sz : Int} {ph od : Nat → Int} {pi : Nat → Int64} {se : Nat → Int} (h : zR ms sz ph od pi se) {x : Int} (hx : 0 ≤ x ∧ x < 6) : ms ((0 : Int) + x).toNat = se x.toNat := by
  rw [show ((0 : Int) + x).toNat = x.toNat by omega]
  exact h.1 _ (by omega)
theorem zR_od {ms : Nat → Int} {sz : Int} {ph od : Nat → Int} {pi : Nat → Int64} {se : Nat → Int} (h : zR ms sz ph od pi se) {x : Int} (hx : 0 ≤ x ∧ x < 12) : ms ((7 : Int) + x).toNat = od x.toNat := by
  rw [show ((7 : Int) + x).toNat = 7 + x.toNat by omega]
  exact h.2.2.1 _ (by omega)
theorem zR_ph {ms : Nat → Int} {sz : Int} {ph od : Nat → Int} {pi : Nat → Int64} {se : Nat → Int} (h : zR ms sz ph od pi se) {x : Int} (hx : 0 ≤ x ∧ x < 64) : ms ((19 : Int) + x).toNat = ph x.toNat := by
  rw [show ((19 : Int) + x).toNat = 19 + x.toNat by omega]
  exact h.2.2.2.1 _ (by omega)
theorem zR_p0 {ms : Nat → Int} {sz : Int} {ph od : Nat → Int} {pi : Nat → Int64} {se : Nat → Int} (h : zR ms sz ph od pi se) {x : Int} (hx : 0 ≤ x ∧ x < 64) : ms ((83 : Int) + x).toNat = zb (pi 0) x.toNat := by
  rw [show ((83 : Int) + x).toNat = 83 + x.toNat by omega]
  exact h.2.2.2.2.1 _ (by omega)
theorem zR_p1 {ms : Nat → Int} {sz : Int} {ph od : Nat → Int} {pi : Nat → Int64} {se : Nat → Int} (h : zR ms sz ph od pi se) {x : Int} (hx : 0 ≤ x ∧ x < 64) : ms ((147 : Int) + x).toNat = zb (pi 1) x.toNat := by
  rw [show ((147 : Int) + x).toNat = 147 + x.toNat by omega]
  exact h.2.2.2.2.2 _ (by omega)
theorem zif01 {p : Prop} [Decidable p] : (if p then (1 : Int) else 0) = 0 ∨ (if p then (1 : Int) else 0) = 1 := by
  by_cases c : p
  · rw [if_pos c]; exact Or.inr rfl
  · rw [if_neg c]; exact Or.inl rfl
theorem zif_c {p q : Prop} [Decidable p] [Decidable q] (h : p ↔ q) : (if p then (1 : Int) else 0) = if q then 1 else 0 := by
  by_cases c : p
  · rw [if_pos c, if_pos (h.1 c)]
  · rw [if_neg c, if_neg (fun z => c (h.2 z))]
theorem zhalf {age : Int} (ha : 0 ≤ age) : zglow 2 age = ((100 / 2 ^ (age / 5).toNat : Nat) : Int) := by
  unfold zglow
  rw [if_neg (by decide), if_neg (by decide), if_pos rfl]
  by_cases c : age < 35
  · rcases (show age / 5 = 0 ∨ age / 5 = 1 ∨ age / 5 = 2 ∨ age / 5 = 3 ∨ age / 5 = 4 ∨ age / 5 = 5 ∨ age / 5 = 6 by omega) with q | q | q | q | q | q | q <;> rw [q]
    · rw [if_pos (by omega)]; decide
    · rw [if_neg (by omega), if_pos (by omega)]; decide
    · rw [if_neg (by omega), if_neg (by omega), if_pos (by omega)]; decide
    · rw [if_neg (by omega), if_neg (by omega), if_neg (by omega), if_pos (by omega)]; decide
    · rw [if_neg (by omega), if_neg (by omega), if_neg (by omega), if_neg (by omega), if_pos (by omega)]; decide
    · rw [if_neg (by omega), if_neg (by omega), if_neg (by omega), if_neg (by omega), if_neg (by omega), if_pos (by omega)]; decide
    · rw [if_neg (by omega), if_neg (by omega), if_neg (by omega), if_neg (by omega), if_neg (by omega), if_neg (by omega), if_pos (by omega)]; decide
  · rw [if_neg (by omega), if_neg (by omega), if_neg (by omega), if_neg (by omega), if_neg (by omega), if_neg (by omega), if_neg (by omega), show (age / 5).toNat = 7 + (age / 5 - 7).toNat by omega, Nat.pow_add, ← Nat.div_div_eq_div_mul, show 100 / 2 ^ 7 = 0 by decide, Nat.zero_div]
    rfl
/-- the tick of a spot among the first i of the order -/
def zlitN (od se : Nat → Int) (i : Nat) (spot : Int) : Int := if zposN od spot i = -9 then -9 else if zA od (se 1) (zposN od spot i + 1).toNat < se 0 then zA od (se 1) (zposN od spot i + 1).toNat else -9