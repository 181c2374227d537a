/-! PURE 4: the class's screen: what is seen, and the changes -/
/-- seen (1) or not (0) -/
def zsee (m : Int → Int) (bound : Int) (k : Nat) : Int := if bound ≤ m k then 1 else 0
theorem zlit_dark {sz : Int} {od se : Nat → Int} {spot : Int} (h : zpos sz od spot = -9) : zlit sz od se spot = -9 := by
  unfold zlit
  rw [if_pos h]
theorem zpos_s {od : Nat → Int} {i spot : Int} (hi : 0 ≤ i) : zposN od spot (i + 1).toNat = if od i.toNat = spot then i else zposN od spot i.toNat := by
  rw [show (i + 1).toNat = i.toNat + 1 by omega, zposN, show ((i.toNat : Nat) : Int) = i by omega]
theorem s_X1_seen {start len bound sz : Int} {ph od se : Nat → Int} {Φ : Int64 → Prop} (hph : zPh ph) (ho : zOk sz od) (hs : zSe se) (hst : 0 ≤ start ∧ start < se 0) (hlen : 1 ≤ len ∧ len ≤ 1000) (hb : 1 ≤ bound ∧ bound ≤ 100) (h : ∀ r : Int64, (∀ k : Nat, k < 64 → zb r k = zsee (zmean sz ph od se start len) bound k) → Φ r) : wp_X1_seen start len bound sz ph od se Φ := by
  unfold wp_X1_seen
  have ho0 := ho.1
  refine zl2 (fun x i => 0 ≤ i ∧ i ≤ sz ∧ ∀ k : Nat, k < 64 → zb x k = if zposN od k i.toNat ≠ -9 ∧ bound ≤ zmean sz ph od se start len k then 1 else 0) (fun x i => sz - i) (fun n x i hi ih => ?_) _ _ ⟨by omega, by omega, fun k hk => ?_⟩
  · obtain ⟨h1, h2, h3⟩ := hi
    unfold wp_X1_seen_6
    refine ⟨⟨(qR_i (by omega) (by omega)), (qR_i (by omega) (by omega))⟩, fun c => ?_, fun c => ?_⟩
    · refine h x (fun k hk => ?_)
      rw [h3 k hk, show i.toNat = sz.toNat by omega]
      unfold zsee
      by_cases c1 : zposN od k sz.toNat = -9
      · have c2 := zmean_dark (ph := ph) (start := start) (len := len) (zlit_dark (se := se) (show zpos sz od k = -9 from c1))
        rw [if_neg (fun z => z.1 c1), c2, if_neg (by omega)]
      · by_cases c2 : bound ≤ zmean sz ph od se start len k
        · rw [if_pos ⟨c1, c2⟩, if_pos c2]
        · rw [if_neg (fun z => c2 z.2), if_neg c2]
    · have hv := ho.2.1 i.toNat (by omega)
      refine ⟨⟨by omega, by omega⟩, fun v3 e3 => ?_⟩
      rw [← e3] at hv
      have hm := zmean_b (start := start) (len := len) (spot := v3) (ph := ph) ho hs hlen
      refine s_X1_sumOver hv hph ho hs hst ⟨by omega, by omega⟩ ?_
      refine s_X1_mean ⟨by omega, by omega⟩ ⟨by omega, by omega⟩ ?_
      have hm3 := hm.2
      have em : zsum (zshine ph (se 0) (zlit sz od se v3) v3) (se 0) start len.toNat / len = zmean sz ph od se start len v3 := rfl
      rw [em]
      refine ⟨⟨(qR_i (by omega) (by omega)), (qR_i (by omega) (by omega))⟩, fun c2 => ?_, fun c2 => ⟨⟨by omega, by omega⟩, fun v7 e7 v8 e8 => ?_⟩⟩
      · unfold wp_X1_seen_50
        intro v1 e1
        rw [e1]
        refine ih _ _ ⟨by omega, by omega, fun k hk => ?_⟩ (show (sz - (i + 1)).toNat < (sz - i).toNat by omega)
        rw [h3 k hk, zpos_s h1, ← e3]
        by_cases z : v3 = k
        · rw [← z, if_neg (fun y => absurd y.2 (by omega)), if_neg (fun y => absurd y.2 (by omega))]
        · rw [if_neg z]
      · unfold wp_X1_seen_50
        intro v1 e1
        rw [e1]
        refine ih _ _ ⟨by omega, by omega, fun k hk => ?_⟩ (show (sz - (i + 1)).toNat < (sz - i).toNat by omega)
        have e37 : v7 = v3 := by rw [e7, e3]
        rw [e8, e37, zb_set hv hk, h3 k hk, zpos_s h1, ← e3]
        by_cases z : (k : Int) = v3
        · rw [if_pos z, if_pos z.symm, z, if_pos ⟨by omega, by omega⟩]
        · rw [if_neg z, if_neg (show ¬ v3 = (k : Int) from fun y => z y.symm)]
  · rw [zb_zero, if_neg (fun y => y.1 rfl)]
theorem s_X1_seenByEye {sz : Int} {ph od se : Nat → Int} {Φ : Int64 → Prop} (hph : zPh ph) (ho : zOk sz od) (hs : zSe se) (h : ∀ r : Int64, (∀ k : Nat, k < 64 → zb r k = zsee (zmean sz ph od se 0 (se 0)) (se 2) k) → Φ r) : wp_X1_seenByEye sz ph od se Φ := by
  have hs' := hs
  obtain ⟨s0, s1, s2, s3, s4, s5⟩ := hs'
  unfold wp_X1_seenByEye
  refine ⟨by decide, fun v1 e1 => ⟨by decide, fun v2 e2 => ?_⟩⟩
  have e1 : v1 = se 0 := e1
  have e2 : v2 = se 2 := e2
  rw [e1, e2]
  exact s_X1_seen hph ho hs ⟨by omega, by omega⟩ ⟨by omega, by omega⟩ s2 h
theorem s_X1_seenByShutter {len sz : Int} {ph od se : Nat → Int} {Φ : Int64 → Prop} (hph : zPh ph) (ho : zOk sz od) (hs : zSe se) (hlen : 1 ≤ len ∧ len ≤ 1000) (h : ∀ r : Int64, (∀ k : Nat, k < 64 → zb r k = zsee (zmean sz ph od se (se 3 % se 0) len) (se 5) k) → Φ r) : wp_X1_seenByShutter len sz ph od se Φ := by
  have hs' := hs
  obtain ⟨s0, s1, s2, s3, s4, s5⟩ := hs'
  unfold wp_X1_seenByShutter
  refine s_X1_startInFrame hs ⟨by decide, fun v2 e2 => ?_⟩
  have e2 : v2 = se 5 := e2
  rw [e2]
  exact s_X1_seen hph ho hs ⟨Int.emod_nonneg _ (by omega), Int.emod_lt_of_pos _ (by omega)⟩ hlen s5 h
theorem s_X1_wrong {p : Int} {r : Int64} {pi : Nat → Int64} {Φ : Int64 → Prop} (hp : p = 0 ∨ p = 1) (h : Φ (pi p.toNat ^^^ r)) : wp_X1_wrong p r pi Φ := by
  unfold wp_X1_wrong
  refine ⟨⟨by omega, by omega⟩, fun v e => ?_⟩
  rw [e]
  exact h
theorem s_X1_spotsOfOrder {sz : Int} {od : Nat → Int} {Φ : Int64 → Prop} (ho : zOk sz od) (h : ∀ r : Int64, (∀ k : Nat, k < 64 → zb r k = if zpos sz od k = -9 then 0 else 1) → Φ r) : wp_X1_spotsOfOrder sz od Φ := by
  unfold wp_X1_spotsOfOrder
  have ho0 := ho.1
  refine zl2 (fun x i => 0 ≤ i ∧ i ≤ sz ∧ ∀ k : Nat, k < 64 → zb x k = if zposN od k i.toNat = -9 then 0 else 1) (fun x i => sz - i) (fun n x i hi ih => ?_) _ _ ⟨by omega, by omega, fun k hk => ?_⟩
  · obtain ⟨h1, h2, h3⟩ := hi
    unfold wp_X1_spotsOfOrder_4
    refine ⟨⟨(qR_i (by omega) (by omega)), (qR_i (by omega) (by omega))⟩, fun c => ?_, fun c => ⟨⟨by omega, by omega⟩, fun v2 e2 v3 e3 v4 e4 => ?_⟩⟩
    · refine h x (fun k hk => ?_)
      rw [h3 k hk, show i.toNat = sz.toNat by omega]
      rfl
    · have hv := ho.2.1 i.toNat (by omega)
      rw [← e2] at hv
      rw [e4]
      refine ih _ _ ⟨by omega, by omega, fun k hk => ?_⟩ (show (sz - (i + 1)).toNat < (sz - i).toNat by omega)
      rw [e3, zb_set hv hk, h3 k hk, zpos_s h1, ← e2]
      by_cases z : (k : Int) = v2
      · rw [if_pos z, if_pos z.symm, if_neg (by omega)]
      · rw [if_neg z, if_neg (show ¬ v2 = (k : Int) from fun y => z y.symm)]
  · rw [zb_zero]
    rfl
theorem s_X1_sumOfWays {sz : Int} {od : Nat → Int} {Φ : Int → Prop} (ho : zOk sz od) (h : Φ (zS od sz.toNat)) : wp_X1_sumOfWays sz od Φ := by
  unfold wp_X1_sumOfWays
  have ho0 := ho.1
  refine zl3 (fun a b i => 0 ≤ i ∧ i ≤ sz ∧ a = zS od i.toNat ∧ b = zprev od i.toNat) (fun a b i => sz - i) (fun n a b i hi ih => ?_) _ _ _ ⟨by omega, by omega, rfl, rfl⟩
  obtain ⟨h1, h2, h3, h4⟩ := hi
  unfold wp_X1_sumOfWays_6
  refine ⟨⟨(qR_i (by omega) (by omega)), (qR_i (by omega) (by omega))⟩, fun c => ?_, fun c => ⟨⟨by omega, by omega⟩, fun v2 e2 => ?_⟩⟩
  · rw [h3, show i.toNat = sz.toNat by omega]
    exact h
  · have hv := ho.2.1 i.toNat (by omega)
    have hf := zprev_b ho (n := i.toNat) (by omega)
    rw [← e2] at hv
    rw [← h4] at hf
    refine s_X4_way hf hv (fun v4 e4 => ⟨⟨by omega, by omega⟩, fun v5 e5 v6 e6 => ?_⟩)
    rw [e6]
    refine ih _ _ _ ⟨by omega, by omega, ?_, ?_⟩ (show (sz - (i + 1)).toNat < (sz - i).toNat by omega)
    · rw [show (i + 1).toNat = i.toNat + 1 by omega, zS, ← h3, ← h4, ← e2]
      exact e4
    · rw [show (i + 1).toNat = i.toNat + 1 by omega, zprev, if_neg (by omega), e5]
      rfl
theorem s_X1_putPhosphor {x y : Int} {ph : Nat → Int} {Φ : Int → (Nat → Int) → Prop} (hx : qR x) (hy : qR y) (h1 : ¬ ((0 ≤ x ∧ x < 64) ∧ 0 ≤ y ∧ y < 4) → Φ (-1) ph) (h2 : (0 ≤ x ∧ x < 64) → (0 ≤ y ∧ y < 4) → Φ (ph x.toNat) (qU ph x.toNat y)) : wp_X1_putPhosphor x y ph Φ := by
  unfold wp_X1_putPhosphor wp_X1_putPhosphor_14
  refine s_X4_isSpot hx ?_
  by_cases c : 0 ≤ x ∧ x < 64
  · rw [if_pos c]
    refine ⟨(qR_i (by omega) (by omega)), fun z => absurd z (by decide), fun _ => s_X4_isPhosphor hy ?_⟩
    by_cases c2 : 0 ≤ y ∧ y < 4
    · rw [if_pos c2]
      refine ⟨(qR_i (by omega) (by omega)), fun _ => ⟨c, fun v5 e5 => ⟨c, fun g6 e6 => ?_⟩⟩, fun z => absurd (by decide) z⟩
      rw [e5, e6]
      exact h2 c c2
    · rw [if_neg c2]
      exact ⟨(qR_i (by omega) (by omega)), fun z => absurd rfl z, fun _ => h1 (fun z => c2 z.2)⟩
  · rw [if_neg c]
    exact ⟨(qR_i (by omega) (by omega)), fun _ => h1 (fun z => c z.1), fun z => absurd rfl z⟩
theorem s_X1_addSpot {x sz : Int} {od : Nat → Int} {Φ : Int → Int → (Nat → Int) → Prop} (hx : qR x) (ho : zOk sz od) (h1 : ¬ (0 ≤ x ∧ x < 64) → Φ (-1) sz od) (h2 : (0 ≤ x ∧ x < 64) → zpos sz od x ≠ -9 → Φ (-2) sz od) (h3 : (0 ≤ x ∧ x < 64) → zpos sz od x = -9 → sz = 12 → Φ (-3) sz od) (h4 : (0 ≤ x ∧ x < 64) → zpos sz od x = -9 → sz < 12 → Φ sz (sz + 1) (qU od sz.toNat x)) : wp_X1_addSpot x sz od Φ := by
  unfold wp_X1_addSpot
  have ho0 := ho.1
  have hz := zpos_b sz od x
  refine s_X4_isSpot hx ?_
  by_cases c : 0 ≤ x ∧ x < 64
  · rw [if_pos c]
    refine ⟨(qR_i (by omega) (by omega)), fun _ => s_X1_positionOf ho hx ⟨⟨(qR_i (by omega) (by omega)), (qR_i (by omega) (by omega))⟩, fun c2 => ⟨⟨(qR_i (by omega) (by omega)), (qR_i (by omega) (by omega))⟩, fun c3 => ⟨⟨by omega, by omega⟩, fun g6 e6 v7 e7 => ?_⟩, fun c3 => h3 c c2 (by omega)⟩, fun c2 => h2 c c2⟩, fun z => absurd (by decide) z⟩
    rw [e6, e7, show sz + 1 - 1 = sz by omega]
    exact h4 c c2 c3
  · rw [if_neg c]
    exact ⟨(qR_i (by omega) (by omega)), fun z => absurd rfl z, fun _ => h1 c⟩
/-- the places behind pos move up by one -/
def zrm (od : Nat → Int) (pos sz : Int) (k : Nat) : Int := if pos ≤ k ∧ (k : Int) + 1 < sz then od (k + 1) else od k
theorem s_X1_removeSpot {x sz : Int} {od : Nat → Int} {Φ : Int → Int → (Nat → Int) → Prop} (hx : qR x) (ho : zOk sz od) (h1 : ¬ (0 ≤ x ∧ x < 64) → Φ (-1) sz od) (h2 : (0 ≤ x ∧ x < 64) → zpos sz od x = -9 → Φ (-2) sz od) (h4 : (0 ≤ x ∧ x < 64) → zpos sz od x ≠ -9 → Φ (zpos sz od x) (sz - 1) (zrm od (zpos sz od x) sz)) : wp_X1_removeSpot x sz od Φ := by
  unfold wp_X1_removeSpot
  have ho0 := ho.1
  have hz := zpos_b sz od x
  refine s_X4_isSpot hx ?_
  by_cases c : 0 ≤ x ∧ x < 64
  · rw [if_pos c]
    refine ⟨(qR_i (by omega) (by omega)), fun _ => s_X1_positionOf ho hx ⟨⟨(qR_i (by omega) (by omega)), (qR_i (by omega) (by omega))⟩, fun c2 v10 e10 => ?_, fun c2 => h2 c (by omega)⟩, fun z => absurd (by decide) z⟩
    have h4 := h4 c c2
    generalize zpos sz od x = pos at hz h4 c2 e10 ⊢
    rw [e10]
    refine zl2 (fun i g => pos + 1 ≤ i ∧ i ≤ sz ∧ g = zrm od pos i) (fun i g => sz - i) (fun n i g hi ih => ?_) _ _ ⟨by omega, by omega, ?_⟩
    · obtain ⟨i1, i2, i3⟩ := hi
      unfold wp_X1_removeSpot_28
      refine ⟨⟨(qR_i (by omega) (by omega)), (qR_i (by omega) (by omega))⟩, fun c3 v2 e2 => ?_, fun c3 => ⟨⟨by omega, by omega⟩, fun v3 e3 => ⟨⟨by omega, by omega⟩, fun g4 e4 v5 e5 => ?_⟩⟩⟩
      · rw [e2, i3, show i = sz by omega]
        exact h4
      · rw [e5]
        refine ih _ _ ⟨by omega, by omega, ?_⟩ (show (sz - (i + 1)).toNat < (sz - i).toNat by omega)
        rw [e4, e3, i3]
        funext k
        unfold qU zrm
        by_cases z : k = (i - 1).toNat
        · rw [if_pos z, if_neg (by omega), if_pos (by omega), show k + 1 = i.toNat by omega]
        · rw [if_neg z]
          by_cases y : pos ≤ (k : Int) ∧ (k : Int) + 1 < i
          · rw [if_pos y, if_pos (by omega)]
          · rw [if_neg y, if_neg (by omega)]
    · funext k
      unfold zrm
      rw [if_neg (by omega)]
  · rw [if_neg c]
    exact ⟨(qR_i (by omega) (by omega)), fun z => absurd rfl z, fun _ => h1 c⟩
/-- two places change their spots -/
def zsw (od : Nat → Int) (i j : Int) : Nat → Int := qU (qU od i.toNat (od j.toNat)) j.toNat (od i.toNat)
theorem zsw_a (od : Nat → Int) (i j : Int) (k : Nat) : zsw od i j k = if k = j.toNat then od i.toNat else if k = i.toNat then od j.toNat else od k := rfl
theorem zsw_ok {sz i j : Int} {od : Nat → Int} (ho : zOk sz od) (hi : 0 ≤ i ∧ i < sz) (hj : 0 ≤ j ∧ j < sz) : zOk sz (zsw od i j) := by
  obtain ⟨h0, h1, h2⟩ := ho
  have hi1 := h1 i.toNat (by omega)
  have hj1 := h1 j.toNat (by omega)
  refine ⟨h0, fun k hk => ?_, fun a b ha hb e => ?_⟩
  · rw [zsw_a]
    split
    · exact hi1
    · split
      · exact hj1
      · exact h1 k hk
  · rw [zsw_a, zsw_a] at e
    by_cases c1 : a = j.toNat
    · rw [if_pos c1] at e
      by_cases c2 : b = j.toNat
      · omega
      · rw [if_neg c2] at e
        by_cases c3 : b = i.toNat
        · rw [if_pos c3] at e
          have := h2 _ _ (by omega) (by omega) e
          omega
        · rw [if_neg c3] at e
          have := h2 _ _ (by omega) hb e
          omega
    · rw [if_neg c1] at e
      by_cases c4 : a = i.toNat
      · rw [if_pos c4] at e
        by_cases c2 : b = j.toNat
        · rw [if_pos c2] at e
          have := h2 _ _ (by omega) (by omega) e
          omega
        · rw [if_neg c2] at e
          by_cases c3 : b = i.toNat
          · omega
          · rw [if_neg c3] at e
            have := h2 _ _ (by omega) hb e
            omega
      · rw [if_neg c4] at e
        by_cases c2 : b = j.toNat
        · rw [if_pos c2] at e
          have := h2 _ _ ha (by omega) e
          omega
        · rw [if_neg c2] at e
          by_cases c3 : b = i.toNat
          · rw [if_pos c3] at e
            have := h2 _ _ ha (by omega) e
            omega
          · rw [if_neg c3] at e
            exact h2 _ _ ha hb e
theorem s_X1_swap {i j : Int} {od : Nat → Int} {Φ : (Nat → Int) → Prop} (hi : 0 ≤ i ∧ i < 12) (hj : 0 ≤ j ∧ j < 12) (h : Φ (zsw od i j)) : wp_X1_swap i j od Φ := by
  unfold wp_X1_swap
  refine ⟨hi, fun v1 e1 => ⟨hj, fun v2 e2 => ⟨hi, fun g3 e3 => ⟨hj, fun g4 e4 => ?_⟩⟩⟩⟩
  rw [e4, e3, e2, e1]
  exact h
theorem s_X1_swapPositions {i j sz : Int} {od se : Nat → Int} {Φ : Int → (Nat → Int) → Prop} (hi : qR i) (hj : qR j) (ho : zOk sz od) (hs : zSe se) (h1 : ¬ ((0 ≤ i ∧ i < sz) ∧ 0 ≤ j ∧ j < sz) → Φ (-1) od) (h2 : (0 ≤ i ∧ i < sz) → (0 ≤ j ∧ j < sz) → Φ (zlsz sz (zsw od i j) se) (zsw od i j)) : wp_X1_swapPositions i j sz od se Φ := by
  unfold wp_X1_swapPositions wp_X1_swapPositions_24
  have ho0 := ho.1
  refine ⟨hi, fun c => h1 (by omega), fun c => ⟨⟨hi, (qR_i (by omega) (by omega))⟩, fun c2 => h1 (by omega), fun c2 => ⟨hj, fun c3 => h1 (by omega), fun c3 => ⟨⟨hj, (qR_i (by omega) (by omega))⟩, fun c4 => s_X1_swap ⟨by omega, by omega⟩ ⟨by omega, by omega⟩ ?_, fun c4 => h1 (by omega)⟩⟩⟩⟩
  exact s_X1_litSize (zsw_ok ho ⟨by omega, by omega⟩ ⟨by omega, by omega⟩) hs (h2 ⟨by omega, by omega⟩ ⟨by omega, by omega⟩)
