/-! PURE 27: the model's snapshots, undo, text; the class's text -/
section ZMSN
variable {th sm : Int} {ms mv : Nat → Int} {sz : Int} {ph od : Nat → Int} {pi : Nat → Int64} {se : Nat → Int}
theorem m_take {x : Int} {Φ : Int → Int → Int → (Nat → Int) → (Nat → Int) → Prop} (hs : 0 ≤ sm ∧ sm ≤ 5) (hx : qR x) (h0 : ¬ (0 ≤ x ∧ x < 2) → Φ (-1) 0 sm ms mv) (h1 : ∀ a : Nat, x = a → a < 2 → ∀ sm' g gv, zAct sm ms mv sm' gv → g (211 + 212 * a) = 1 → (∀ k : Nat, k < 211 → g (212 + 212 * a + k) = ms k) → (∀ k : Nat, k < 211 + 212 * a ∨ 423 + 212 * a ≤ k → g k = ms k) → Φ (ms 6) 0 sm' g gv) : wp_X5_take x th sm ms mv Φ := by
  unfold wp_X5_take
  refine s_X5_isBit hx ?_
  by_cases c : 0 ≤ x ∧ x < 2
  · rw [if_pos c]
    obtain ⟨a, rfl⟩ := Int.eq_ofNat_of_zero_le c.1
    have ha : a < 2 := by omega
    refine ⟨by decide, fun _ => s_X5_act hs (fun sm' gv hact => ?_), fun z => absurd (by decide) z⟩
    unfold wp_X5_slotAt
    refine ⟨⟨by omega, by omega⟩, fun g13 e13 => ?_⟩
    refine zl2 (fun (y : Int) (g : Nat → Int) => ∃ i : Nat, y = i ∧ i ≤ 211 ∧ g (211 + 212 * a) = 1 ∧ (∀ k : Nat, k < i → g (212 + 212 * a + k) = ms k) ∧ (∀ k : Nat, k < 211 + 212 * a ∨ 212 + 212 * a + i ≤ k → g k = ms k)) (fun y _ => 211 - y) (fun n y g hi ih => ?_) _ _ ⟨0, rfl, by omega, by rw [e13, qU_a, if_pos (by omega)], fun k hk => absurd hk (by omega), fun k hk => by rw [e13, qU_a, if_neg (by omega)]⟩
    obtain ⟨i, rfl, i1, i2, i3, i4⟩ := hi
    unfold wp_X5_take_30 wp_X5_slotAt
    refine ⟨⟨(qR_i (by omega) (by omega)), (qR_i (by omega) (by omega))⟩, fun c2 => ⟨⟨by omega, by omega⟩, fun v2 e2 => ?_⟩, fun c2 => ⟨⟨by omega, by omega⟩, fun v4 e4 => ⟨⟨by omega, by omega⟩, fun g5 e5 v6 e6 => ?_⟩⟩⟩
    · have e2 : v2 = g 6 := e2
      rw [e2, i4 6 (by omega)]
      exact h1 a rfl ha sm' g gv hact i2 (fun k hk => i3 k (by omega)) (fun k hk => i4 k (by omega))
    · rw [e6]
      have e4 : v4 = g i := e4
      rw [i4 i (by omega)] at e4
      refine ih _ _ ⟨i + 1, by omega, by omega, ?_, fun k hk => ?_, fun k hk => ?_⟩ (show (211 - ((i : Int) + 1)).toNat < (211 - (i : Int)).toNat by omega)
      · rw [e5, qU_a, if_neg (by omega)]
        exact i2
      · rw [e5, qU_a]
        by_cases z : k = i
        · subst z
          rw [if_pos (by omega)]
          exact e4
        · rw [if_neg (by omega)]
          exact i3 k (by omega)
      · rw [e5, qU_a, if_neg (by omega)]
        exact i4 k (by omega)
  · rw [if_neg c]
    exact ⟨by decide, fun z => absurd rfl z, fun _ => h0 c⟩
theorem m_restore {x : Int} {Φ : Int → Int → Int → (Nat → Int) → (Nat → Int) → Prop} (hs : 0 ≤ sm ∧ sm ≤ 5) (hx : qR x) (h0 : ¬ (0 ≤ x ∧ x < 2) → Φ (-1) 0 sm ms mv) (hq : ∀ a : Nat, x = a → a < 2 → ms (211 + 212 * a) = 0 ∨ ms (211 + 212 * a) = 1) (h1 : ∀ a : Nat, x = a → a < 2 → ms (211 + 212 * a) = 0 → Φ (-2) 0 sm ms mv) (h2 : ∀ a : Nat, x = a → a < 2 → ms (211 + 212 * a) = 1 → ∀ sm' g gv, zAct sm ms mv sm' gv → (∀ k : Nat, k < 211 → g k = ms (212 + 212 * a + k)) → (∀ k : Nat, 211 ≤ k → g k = ms k) → Φ (ms (212 + 212 * a + 6)) 0 sm' g gv) : wp_X5_restore x th sm ms mv Φ := by
  unfold wp_X5_restore
  refine s_X5_isBit hx ?_
  by_cases c : 0 ≤ x ∧ x < 2
  · rw [if_pos c]
    obtain ⟨a, rfl⟩ := Int.eq_ofNat_of_zero_le c.1
    have ha : a < 2 := by omega
    have hq := hq a rfl ha
    refine ⟨by decide, fun _ => ?_, fun z => absurd (by decide) z⟩
    unfold wp_X5_slotAt
    refine ⟨⟨by omega, by omega⟩, fun v10 e10 => ?_⟩
    have e10 : v10 = ms (211 + 212 * a) := by rw [e10, show ((211 : Int) + (212 : Int) * (a : Int)).toNat = 211 + 212 * a by omega]
    refine ⟨(qR_i (by omega) (by omega)), fun c2 => s_X5_act hs (fun sm' gv hact => ?_), fun c2 => h1 a rfl ha (by omega)⟩
    refine zl2 (fun (y : Int) (g : Nat → Int) => ∃ i : Nat, y = i ∧ i ≤ 211 ∧ (∀ k : Nat, k < i → g k = ms (212 + 212 * a + k)) ∧ (∀ k : Nat, 211 ≤ k → g k = ms k)) (fun y _ => 211 - y) (fun n y g hi ih => ?_) _ _ ⟨0, rfl, by omega, fun k hk => absurd hk (by omega), fun _ _ => rfl⟩
    obtain ⟨i, rfl, i1, i2, i3⟩ := hi
    unfold wp_X5_restore_35 wp_X5_slotAt
    refine ⟨⟨(qR_i (by omega) (by omega)), (qR_i (by omega) (by omega))⟩, fun c2 => ⟨⟨by omega, by omega⟩, fun v2 e2 => ?_⟩, fun c2 => ⟨⟨by omega, by omega⟩, fun v4 e4 => ⟨⟨by omega, by omega⟩, fun g5 e5 v6 e6 => ?_⟩⟩⟩
    · have e2 : v2 = g 6 := e2
      rw [e2, i2 6 (by omega)]
      exact h2 a rfl ha (by omega) sm' g gv hact (fun k hk => i2 k (by omega)) i3
    · rw [e6]
      rw [show ((211 : Int) + (212 : Int) * (a : Int) + 1 + (i : Int)).toNat = 212 + 212 * a + i by omega, i3 _ (by omega)] at e4
      refine ih _ _ ⟨i + 1, by omega, by omega, fun k hk => ?_, fun k hk => ?_⟩ (show (211 - ((i : Int) + 1)).toNat < (211 - (i : Int)).toNat by omega)
      · rw [e5, qU_a]
        by_cases z : k = i
        · subst z
          rw [if_pos (by omega)]
          exact e4
        · rw [if_neg (by omega)]
          exact i2 k (by omega)
      · rw [e5, qU_a, if_neg (by omega)]
        exact i3 k hk
  · rw [if_neg c]
    exact ⟨by decide, fun z => absurd rfl z, fun _ => h0 c⟩
theorem m_undo {Φ : Int → Int → Int → (Nat → Int) → Prop} (hs : 0 ≤ sm ∧ sm ≤ 5) (h0 : sm = 0 → Φ (-2) 0 sm ms) (h1 : 1 ≤ sm → ∀ g : Nat → Int, (∀ k : Nat, k < 635 → g k = mv (635 * (sm - 1).toNat + k)) → Φ (sm - 1) 0 (sm - 1) g) : wp_X5_undo th sm ms mv Φ := by
  unfold wp_X5_undo
  refine ⟨(qR_i (by omega) (by omega)), fun c v6 e6 => ?_, fun c => h0 (by omega)⟩
  rw [e6]
  refine zl2 (fun (y : Int) (g : Nat → Int) => ∃ i : Nat, y = i ∧ i ≤ 635 ∧ ∀ k : Nat, k < i → g k = mv (635 * (sm - 1).toNat + k)) (fun y _ => 635 - y) (fun n y g hi ih => ?_) _ _ ⟨0, rfl, by omega, fun k hk => absurd hk (by omega)⟩
  obtain ⟨i, rfl, i1, i2⟩ := hi
  unfold wp_X5_undo_27
  refine ⟨⟨(qR_i (by omega) (by omega)), (qR_i (by omega) (by omega))⟩, fun c2 => h1 (by omega) g (fun k hk => i2 k (by omega)), fun c2 => ⟨⟨by omega, by omega⟩, fun v2 e2 => ⟨⟨by omega, by omega⟩, fun g3 e3 v4 e4 => ?_⟩⟩⟩
  rw [e4]
  refine ih _ _ ⟨i + 1, by omega, by omega, fun k hk => ?_⟩ (show (635 - ((i : Int) + 1)).toNat < (635 - (i : Int)).toNat by omega)
  rw [e3, qU_a]
  by_cases z : k = i
  · subst z
    rw [if_pos (by omega), e2, show (635 * (sm - 1) + (k : Int)).toNat = 635 * (sm - 1).toNat + k by omega]
  · rw [if_neg (by omega)]
    exact i2 k (by omega)
end ZMSN
theorem a_append {x tl : Int} {tx : Nat → Int} {Φ : Int → Int → (Nat → Int) → Prop} (ht : zTx tl tx) (hx : qR x) (h0 : ¬ (1 ≤ x ∧ x ≤ 255) → Φ (-1) tl tx) (h1 : (1 ≤ x ∧ x ≤ 255) → tl = 140 → Φ (-3) tl tx) (h2 : (1 ≤ x ∧ x ≤ 255) → tl < 140 → Φ (tl + 1) (tl + 1) (qU tx tl.toNat x)) : wp_X4_append x tl tx Φ := by
  have ht1 := ht.1
  unfold wp_X4_append wp_X0_addCharacter wp_X0_addCharacter_12
  refine ⟨⟨hx, by decide⟩, fun c => h0 (by omega), fun c => ⟨⟨hx, by decide⟩, fun c2 => ⟨⟨(qR_i (by omega) (by omega)), (qR_i (by omega) (by omega))⟩, fun c3 => ⟨⟨by omega, by omega⟩, ⟨by omega, by omega⟩, ⟨by omega, by omega⟩, fun g4 e4 v5 e5 => ?_⟩, fun c3 => h1 ⟨by omega, by omega⟩ (by omega)⟩, fun c2 => h0 (by omega)⟩⟩
  rw [e4, e5]
  exact h2 ⟨by omega, by omega⟩ c3
theorem m_append {x th tl : Int} {tx mt : Nat → Int} {Φ : Int → Int → Int → (Nat → Int) → Prop} (ht : zTx tl tx) (hx : qR x) (h0 : ¬ (1 ≤ x ∧ x ≤ 255) → Φ (-1) 0 tl mt) (h1 : (1 ≤ x ∧ x ≤ 255) → tl = 140 → Φ (-3) 0 tl mt) (h2 : (1 ≤ x ∧ x ≤ 255) → tl < 140 → Φ (tl + 1) 0 (tl + 1) (qU mt tl.toNat x)) : wp_X5_append x th tl mt Φ := by
  have ht1 := ht.1
  unfold wp_X5_append
  refine s_X5_in hx (by decide) (by decide) ?_
  by_cases c : 1 ≤ x ∧ x ≤ 255
  · rw [if_pos c]
    refine ⟨by decide, fun _ => ⟨⟨(qR_i (by omega) (by omega)), (qR_i (by omega) (by omega))⟩, fun c2 => ⟨⟨by omega, by omega⟩, fun g4 e4 v5 e5 => ?_⟩, fun c2 => h1 c (by omega)⟩, fun z => absurd (by decide) z⟩
    rw [e4, e5]
    exact h2 c (by omega)
  · rw [if_neg c]
    exact ⟨by decide, fun z => absurd rfl z, fun _ => h0 c⟩
theorem zTx_app {tl x : Int} {tx : Nat → Int} (ht : zTx tl tx) (hx : 1 ≤ x ∧ x ≤ 255) (h : tl < 140) : zTx (tl + 1) (qU tx tl.toNat x) := by
  have ht1 := ht.1
  refine ⟨⟨by omega, by omega⟩, fun k hk => ?_⟩
  rw [qU_a]
  by_cases z : k = tl.toNat
  · rw [if_pos z]
    exact hx
  · rw [if_neg z]
    exact ht.2 k (by omega)
theorem zTm_app {tl x : Int} {tx mt : Nat → Int} (hm : zTm tl tx mt) : zTm (tl + 1) (qU tx tl.toNat x) (qU mt tl.toNat x) := by
  intro k hk
  rw [qU_a, qU_a]
  by_cases z : k = tl.toNat
  · rw [if_pos z, if_pos z]
  · rw [if_neg z, if_neg z]
    exact hm k (by omega)
theorem zTx_0 (tx : Nat → Int) : zTx 0 tx := ⟨by decide, fun k hk => absurd hk (by omega)⟩
theorem zTm_0 (tx mt : Nat → Int) : zTm 0 tx mt := fun k hk => absurd hk (by omega)
