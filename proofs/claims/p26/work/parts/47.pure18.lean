/-! PURE 18: the six commands on both sides -/
def zkindR (x y : Int) (ph : Nat → Int) (r : Int) (ph' : Nat → Int) : Prop := (¬ ((0 ≤ x ∧ x < 64) ∧ 0 ≤ y ∧ y < 4) ∧ r = -1 ∧ ph' = ph) ∨ ((0 ≤ x ∧ x < 64) ∧ (0 ≤ y ∧ y < 4) ∧ r = ph x.toNat ∧ ph' = qU ph x.toNat y)
def zlightR (x sz : Int) (od : Nat → Int) (r sz' : Int) (od' : Nat → Int) : Prop := (¬ (0 ≤ x ∧ x < 64) ∧ r = -1 ∧ sz' = sz ∧ od' = od) ∨ ((0 ≤ x ∧ x < 64) ∧ zpos sz od x ≠ -9 ∧ r = -2 ∧ sz' = sz ∧ od' = od) ∨ ((0 ≤ x ∧ x < 64) ∧ zpos sz od x = -9 ∧ sz = 12 ∧ r = -3 ∧ sz' = sz ∧ od' = od) ∨ ((0 ≤ x ∧ x < 64) ∧ zpos sz od x = -9 ∧ sz < 12 ∧ r = sz ∧ sz' = sz + 1 ∧ od' = qU od sz.toNat x)
def zdarkR (x sz : Int) (od : Nat → Int) (r sz' : Int) (od' : Nat → Int) : Prop := (¬ (0 ≤ x ∧ x < 64) ∧ r = -1 ∧ sz' = sz ∧ od' = od) ∨ ((0 ≤ x ∧ x < 64) ∧ zpos sz od x = -9 ∧ r = -2 ∧ sz' = sz ∧ od' = od) ∨ ((0 ≤ x ∧ x < 64) ∧ zpos sz od x ≠ -9 ∧ r = zpos sz od x ∧ sz' = sz - 1 ∧ od' = zrm od (zpos sz od x) sz)
def zswapR (i j sz : Int) (od se : Nat → Int) (r : Int) (od' : Nat → Int) : Prop := (¬ ((0 ≤ i ∧ i < sz) ∧ 0 ≤ j ∧ j < sz) ∧ r = -1 ∧ od' = od) ∨ ((0 ≤ i ∧ i < sz) ∧ (0 ≤ j ∧ j < sz) ∧ r = zlsz sz (zsw od i j) se ∧ od' = zsw od i j)
def zsortR (rule sz : Int) (ph od : Nat → Int) (pi : Nat → Int64) (se : Nat → Int) (r : Int) (od' : Nat → Int) : Prop := (¬ (0 ≤ rule ∧ rule ≤ 3) ∧ r = -1 ∧ od' = od) ∨ ((0 ≤ rule ∧ rule ≤ 3) ∧ zOk sz od' ∧ r = zlsz sz od' se ∧ od' = zsrt (zrank ph (pi 1) rule) sz sz.toNat 0 0 od)
def zdrawR (p s b : Int) (pi : Nat → Int64) (r : Int) (pi' : Nat → Int64) : Prop := (¬ ((0 ≤ p ∧ p < 2) ∧ (0 ≤ s ∧ s < 64) ∧ 0 ≤ b ∧ b < 2) ∧ r = -1 ∧ pi' = pi) ∨ ((0 ≤ p ∧ p < 2) ∧ (0 ≤ s ∧ s < 64) ∧ (0 ≤ b ∧ b < 2) ∧ zPu pi pi' p s b ∧ r = zcnt (zb (pi' p.toNat)) 64)
-- the class's side
theorem t_X1_putPhosphor {x y : Int} {ph : Nat → Int} {Φ : Int → (Nat → Int) → Prop} (hx : qR x) (hy : qR y) (h : ∀ r ph', zkindR x y ph r ph' → Φ r ph') : wp_X1_putPhosphor x y ph Φ := s_X1_putPhosphor hx hy (fun c => h _ _ (Or.inl ⟨c, rfl, rfl⟩)) (fun c d => h _ _ (Or.inr ⟨c, d, rfl, rfl⟩))
theorem t_X1_addSpot {x sz : Int} {od : Nat → Int} {Φ : Int → Int → (Nat → Int) → Prop} (hx : qR x) (ho : zOk sz od) (h : ∀ r sz' od', zlightR x sz od r sz' od' → Φ r sz' od') : wp_X1_addSpot x sz od Φ := s_X1_addSpot hx ho (fun c => h _ _ _ (Or.inl ⟨c, rfl, rfl, rfl⟩)) (fun c d => h _ _ _ (Or.inr (Or.inl ⟨c, d, rfl, rfl, rfl⟩))) (fun c d e => h _ _ _ (Or.inr (Or.inr (Or.inl ⟨c, d, e, rfl, rfl, rfl⟩)))) (fun c d e => h _ _ _ (Or.inr (Or.inr (Or.inr ⟨c, d, e, rfl, rfl, rfl⟩))))
theorem t_X1_removeSpot {x sz : Int} {od : Nat → Int} {Φ : Int → Int → (Nat → Int) → Prop} (hx : qR x) (ho : zOk sz od) (h : ∀ r sz' od', zdarkR x sz od r sz' od' → Φ r sz' od') : wp_X1_removeSpot x sz od Φ := s_X1_removeSpot hx ho (fun c => h _ _ _ (Or.inl ⟨c, rfl, rfl, rfl⟩)) (fun c d => h _ _ _ (Or.inr (Or.inl ⟨c, d, rfl, rfl, rfl⟩))) (fun c d => h _ _ _ (Or.inr (Or.inr ⟨c, d, rfl, rfl, rfl⟩)))
theorem t_X1_swapPositions {i j sz : Int} {od se : Nat → Int} {Φ : Int → (Nat → Int) → Prop} (hi : qR i) (hj : qR j) (ho : zOk sz od) (hs : zSe se) (h : ∀ r od', zswapR i j sz od se r od' → Φ r od') : wp_X1_swapPositions i j sz od se Φ := s_X1_swapPositions hi hj ho hs (fun c => h _ _ (Or.inl ⟨c, rfl, rfl⟩)) (fun c d => h _ _ (Or.inr ⟨c, d, rfl, rfl⟩))
theorem t_X1_arrange {rule sz : Int} {ph od se : Nat → Int} {pi : Nat → Int64} {Φ : Int → (Nat → Int) → Prop} (hr : qR rule) (hph : zPh ph) (ho : zOk sz od) (hs : zSe se) (h : ∀ r od', zsortR rule sz ph od pi se r od' → Φ r od') : wp_X1_arrange rule sz ph od pi se Φ := s_X1_arrange hr hph ho hs (fun c => h _ _ (Or.inl ⟨c, rfl, rfl⟩)) (fun c d => h _ _ (Or.inr ⟨c, d, rfl, rfl⟩))
theorem t_X1_paint {p s b : Int} {pi : Nat → Int64} {Φ : Int → (Nat → Int64) → Prop} (hp : qR p) (hs : qR s) (hb : qR b) (h : ∀ r pi', zdrawR p s b pi r pi' → Φ r pi') : wp_X1_paint p s b pi Φ := s_X1_paint hp hs hb (fun c => h _ _ (Or.inl ⟨c, rfl, rfl⟩)) (fun c d e g hg => h _ _ (Or.inr ⟨c, d, e, hg, rfl⟩))
-- the answers' bounds
theorem zkindR_b {x y r : Int} {ph ph' : Nat → Int} (hph : zPh ph) (h : zkindR x y ph r ph') : zPh ph' ∧ -3 ≤ r ∧ r ≤ 200 := by
  rcases h with ⟨-, rfl, rfl⟩ | ⟨c, d, rfl, rfl⟩
  · exact ⟨hph, ⟨by omega, by omega⟩⟩
  · have := hph x.toNat (by omega)
    refine ⟨fun k hk => ?_, ⟨by omega, by omega⟩⟩
    rw [qU_a]
    split
    · omega
    · exact hph k hk
theorem zlightR_b {x sz r sz' : Int} {od od' : Nat → Int} (ho : zOk sz od) (h : zlightR x sz od r sz' od') : zOk sz' od' ∧ -3 ≤ r ∧ r ≤ 200 := by
  have ho0 := ho.1
  rcases h with ⟨-, rfl, rfl, rfl⟩ | ⟨-, -, rfl, rfl, rfl⟩ | ⟨-, -, -, rfl, rfl, rfl⟩ | ⟨c, d, e, rfl, rfl, rfl⟩
  · exact ⟨ho, ⟨by omega, by omega⟩⟩
  · exact ⟨ho, ⟨by omega, by omega⟩⟩
  · exact ⟨ho, ⟨by omega, by omega⟩⟩
  · have hn : ∀ k : Nat, (k : Int) < r → od k ≠ x := fun k hk z => by
      have := zpos_some ho hk z
      omega
    refine ⟨⟨⟨by omega, by omega⟩, fun k hk => ?_, fun a b ha hb q => ?_⟩, ⟨by omega, by omega⟩⟩
    · rw [qU_a]
      by_cases z : k = r.toNat
      · rw [if_pos z]; exact c
      · rw [if_neg z]; exact ho.2.1 k (by omega)
    · rw [qU_a, qU_a] at q
      by_cases z : a = r.toNat
      · by_cases y : b = r.toNat
        · omega
        · rw [if_pos z, if_neg y] at q
          exact absurd q.symm (hn b (by omega))
      · rw [if_neg z] at q
        by_cases y : b = r.toNat
        · rw [if_pos y] at q
          exact absurd q (hn a (by omega))
        · rw [if_neg y] at q
          exact ho.2.2 a b (by omega) (by omega) q
theorem zdarkR_b {x sz r sz' : Int} {od od' : Nat → Int} (ho : zOk sz od) (h : zdarkR x sz od r sz' od') : zOk sz' od' ∧ -3 ≤ r ∧ r ≤ 200 := by
  have ho0 := ho.1
  have hz := zpos_b sz od x
  rcases h with ⟨-, rfl, rfl, rfl⟩ | ⟨-, -, rfl, rfl, rfl⟩ | ⟨c, d, rfl, rfl, rfl⟩
  · exact ⟨ho, ⟨by omega, by omega⟩⟩
  · exact ⟨ho, ⟨by omega, by omega⟩⟩
  · generalize zpos sz od x = pos at hz d ⊢
    refine ⟨⟨⟨by omega, by omega⟩, fun k hk => ?_, fun a b ha hb q => ?_⟩, ⟨by omega, by omega⟩⟩
    · unfold zrm
      split
      · exact ho.2.1 _ (by omega)
      · exact ho.2.1 _ (by omega)
    · unfold zrm at q
      by_cases z : pos ≤ (a : Int) ∧ (a : Int) + 1 < sz
      · rw [if_pos z] at q
        by_cases y : pos ≤ (b : Int) ∧ (b : Int) + 1 < sz
        · rw [if_pos y] at q
          have := ho.2.2 _ _ (by omega) (by omega) q
          omega
        · rw [if_neg y] at q
          have := ho.2.2 _ _ (by omega) (by omega) q
          omega
      · rw [if_neg z] at q
        by_cases y : pos ≤ (b : Int) ∧ (b : Int) + 1 < sz
        · rw [if_pos y] at q
          have := ho.2.2 _ _ (by omega) (by omega) q
          omega
        · rw [if_neg y] at q
          exact ho.2.2 _ _ (by omega) (by omega) q
theorem zlsz_b {sz : Int} {od se : Nat → Int} (ho : zOk sz od) : 0 ≤ zlsz sz od se ∧ zlsz sz od se ≤ 12 := by
  have h1 := (zlsz_s (se := se) ho).1
  have h2 := ho.1
  omega
theorem zswapR_b {i j sz r : Int} {od se od' : Nat → Int} (ho : zOk sz od) (h : zswapR i j sz od se r od') : zOk sz od' ∧ -3 ≤ r ∧ r ≤ 200 := by
  rcases h with ⟨-, rfl, rfl⟩ | ⟨c, d, rfl, rfl⟩
  · exact ⟨ho, ⟨by omega, by omega⟩⟩
  · have ho' := zsw_ok ho c d
    have := zlsz_b (se := se) ho'
    exact ⟨ho', ⟨by omega, by omega⟩⟩
theorem zsortR_b {rule sz r : Int} {ph od se od' : Nat → Int} {pi : Nat → Int64} (ho : zOk sz od) (h : zsortR rule sz ph od pi se r od') : zOk sz od' ∧ -3 ≤ r ∧ r ≤ 200 := by
  rcases h with ⟨-, rfl, rfl⟩ | ⟨c, d, rfl, e⟩
  · exact ⟨ho, ⟨by omega, by omega⟩⟩
  · have := zlsz_b (se := se) d
    exact ⟨d, ⟨by omega, by omega⟩⟩
theorem zdrawR_b {p s b r : Int} {pi pi' : Nat → Int64} (h : zdrawR p s b pi r pi') : -3 ≤ r ∧ r ≤ 200 := by
  rcases h with ⟨-, rfl, rfl⟩ | ⟨c, d, e, f, rfl⟩
  · exact ⟨by omega, by omega⟩
  · have := zcnt_b (f := zb (pi' p.toNat)) 64 (fun k _ => by have := zb_01 (pi' p.toNat) k; omega)
    exact ⟨by omega, by omega⟩
-- the model's side: codes