/-! PURE 11: the model's codes and changes -/
theorem s_X5_positionOf {spot : Int} {ms : Nat → Int} {sz : Int} {ph od : Nat → Int} {pi : Nat → Int64} {se : Nat → Int} {Φ : Int → Prop} (hR : zR ms sz ph od pi se) (ho : zOk sz od) (hx : qR spot) (h : Φ (zpos sz od spot)) : wp_X5_positionOf spot ms Φ := by
  have ho0 := ho.1
  unfold wp_X5_positionOf
  refine zl2 (fun a i => 0 ≤ i ∧ i ≤ sz ∧ a = zposN od spot i.toNat) (fun a i => sz - i) (fun n a i hi ih => ?_) _ _ ⟨by omega, by omega, rfl⟩
  obtain ⟨h1, h2, h3⟩ := hi
  unfold wp_X5_positionOf_5 wp_X5_positionOf_30
  refine ⟨by decide, fun v2 e2 => ?_⟩
  have e2 : v2 = sz := e2.trans hR.2.1
  refine ⟨⟨(qR_i (by omega) (by omega)), (qR_i (by omega) (by omega))⟩, fun c => ?_, fun c => s_X5_spotAt hR ⟨by omega, by omega⟩ ?_⟩
  · rw [h3, show i.toNat = sz.toNat by omega]
    exact h
  · have hv := ho.2.1 i.toNat (by omega)
    refine ⟨⟨(qR_i (by omega) (by omega)), hx⟩, fun c2 v1 e1 => ?_, fun c2 v1 e1 => ?_⟩
    · rw [e1]
      refine ih _ _ ⟨by omega, by omega, ?_⟩ (show (sz - (i + 1)).toNat < (sz - i).toNat by omega)
      rw [zpos_s h1, if_neg c2, h3]
    · rw [e1]
      refine ih _ _ ⟨by omega, by omega, ?_⟩ (show (sz - (i + 1)).toNat < (sz - i).toNat by omega)
      rw [zpos_s h1, if_pos (Classical.not_not.mp c2)]
theorem s_X5_kindCode {x y : Int} {Φ : Int → Prop} (hx : qR x) (hy : qR y) (h : Φ (if (0 ≤ x ∧ x < 64) ∧ 0 ≤ y ∧ y < 4 then 0 else -1)) : wp_X5_kindCode x y Φ := by
  unfold wp_X5_kindCode wp_X5_kindCode_20 wp_X5_kindCode_21
  refine s_X5_isSpot hx ?_
  by_cases c : 0 ≤ x ∧ x < 64
  · rw [if_pos c]
    refine ⟨(qR_i (by omega) (by omega)), fun z => absurd z (by decide), fun _ => s_X5_in hy (by decide) (by decide) ?_⟩
    by_cases c2 : 0 ≤ y ∧ y ≤ 3
    · rw [if_pos c2]
      rw [if_pos (by omega)] at h
      exact ⟨(qR_i (by omega) (by omega)), fun z => absurd z (by decide), fun _ => h⟩
    · rw [if_neg c2]
      rw [if_neg (by omega)] at h
      exact ⟨(qR_i (by omega) (by omega)), fun _ => h, fun z => absurd rfl z⟩
  · rw [if_neg c]
    rw [if_neg (by omega)] at h
    exact ⟨(qR_i (by omega) (by omega)), fun _ => h, fun z => absurd rfl z⟩
theorem s_X5_kindNow {x y : Int} {ms : Nat → Int} {sz : Int} {ph od : Nat → Int} {pi : Nat → Int64} {se : Nat → Int} {Φ : Int → (Nat → Int) → Prop} (hR : zR ms sz ph od pi se) (hx : 0 ≤ x ∧ x < 64) (h : ∀ g : Nat → Int, zR g sz (qU ph x.toNat y) od pi se → zFr ms g → Φ (ph x.toNat) g) : wp_X5_kindNow x y ms Φ := by
  unfold wp_X5_kindNow
  refine ⟨⟨by omega, by omega⟩, fun v1 e1 => ⟨⟨by omega, by omega⟩, fun g2 e2 => ?_⟩⟩
  rw [e1, zR_ph hR hx, e2]
  exact h _ (zR_uph hR hx) (zFr_u (fun _ _ => rfl) ⟨by omega, by omega⟩)
theorem s_X5_lightCode {x : Int} {ms : Nat → Int} {sz : Int} {ph od : Nat → Int} {pi : Nat → Int64} {se : Nat → Int} {Φ : Int → Prop} (hR : zR ms sz ph od pi se) (ho : zOk sz od) (hx : qR x) (h : Φ (if 0 ≤ x ∧ x < 64 then (if zpos sz od x = -9 then (if sz = 12 then -3 else 0) else -2) else -1)) : wp_X5_lightCode x ms Φ := by
  have ho0 := ho.1
  have hz := zpos_b sz od x
  unfold wp_X5_lightCode wp_X5_lightCode_44
  refine s_X5_isSpot hx ?_
  by_cases c : 0 ≤ x ∧ x < 64
  · rw [if_pos c] at h ⊢
    refine ⟨(qR_i (by omega) (by omega)), fun _ => s_X5_positionOf hR ho hx ⟨⟨(qR_i (by omega) (by omega)), (qR_i (by omega) (by omega))⟩, fun c2 => ⟨by decide, fun v5 e5 => ?_⟩, fun c2 => ?_⟩, fun z => absurd (by decide) z⟩
    · have e5 : v5 = sz := e5.trans hR.2.1
      rw [if_pos c2] at h
      refine ⟨⟨(qR_i (by omega) (by omega)), (qR_i (by omega) (by omega))⟩, fun c3 => ?_, fun c3 => ?_⟩
      · rwa [if_neg (by omega)] at h
      · rwa [if_pos (by omega)] at h
    · rwa [if_neg c2] at h
  · rw [if_neg c] at h ⊢
    exact ⟨(qR_i (by omega) (by omega)), fun z => absurd rfl z, fun _ => h⟩
theorem s_X5_lightNow {x : Int} {ms : Nat → Int} {sz : Int} {ph od : Nat → Int} {pi : Nat → Int64} {se : Nat → Int} {Φ : Int → (Nat → Int) → Prop} (hR : zR ms sz ph od pi se) (hz : 0 ≤ sz ∧ sz < 12) (h : ∀ g : Nat → Int, zR g (sz + 1) ph (qU od sz.toNat x) pi se → zFr ms g → Φ sz g) : wp_X5_lightNow x ms Φ := by
  unfold wp_X5_lightNow
  refine ⟨by decide, fun v1 e1 => ?_⟩
  have e1 : v1 = sz := e1.trans hR.2.1
  rw [e1]
  refine ⟨⟨by omega, by omega⟩, fun g2 e2 => ⟨by decide, fun v3 e3 => ⟨by decide, fun g4 e4 => ⟨by decide, fun v5 e5 => ?_⟩⟩⟩⟩
  have hR2 : zR g2 sz ph (qU od sz.toNat x) pi se := by
    rw [e2]
    exact zR_uod hR ⟨by omega, by omega⟩
  have e3 : v3 = sz := e3.trans hR2.2.1
  rw [e3] at e4
  have hR4 : zR g4 (sz + 1) ph (qU od sz.toNat x) pi se := by
    rw [e4]
    exact zR_usz hR2
  have e5 : v5 = sz + 1 := e5.trans hR4.2.1
  rw [e5, show sz + 1 - 1 = sz by omega]
  refine h g4 hR4 ?_
  rw [e4, e2]
  exact zFr_u (zFr_u (fun _ _ => rfl) ⟨by omega, by omega⟩) ⟨by omega, by omega⟩
theorem s_X5_darkCode {x : Int} {ms : Nat → Int} {sz : Int} {ph od : Nat → Int} {pi : Nat → Int64} {se : Nat → Int} {Φ : Int → Prop} (hR : zR ms sz ph od pi se) (ho : zOk sz od) (hx : qR x) (h : Φ (if 0 ≤ x ∧ x < 64 then (if zpos sz od x = -9 then -2 else 0) else -1)) : wp_X5_darkCode x ms Φ := by
  have ho0 := ho.1
  have hz := zpos_b sz od x
  unfold wp_X5_darkCode wp_X5_darkCode_27
  refine s_X5_isSpot hx ?_
  by_cases c : 0 ≤ x ∧ x < 64
  · rw [if_pos c] at h ⊢
    refine ⟨(qR_i (by omega) (by omega)), fun _ => s_X5_positionOf hR ho hx ⟨⟨(qR_i (by omega) (by omega)), (qR_i (by omega) (by omega))⟩, fun c2 => ?_, fun c2 => ?_⟩, fun z => absurd (by decide) z⟩
    · rwa [if_neg c2] at h
    · rwa [if_pos (by omega)] at h
  · rw [if_neg c] at h ⊢
    exact ⟨(qR_i (by omega) (by omega)), fun z => absurd rfl z, fun _ => h⟩
theorem s_X5_darkNow {x : Int} {ms : Nat → Int} {sz : Int} {ph od : Nat → Int} {pi : Nat → Int64} {se : Nat → Int} {Φ : Int → (Nat → Int) → Prop} (hR : zR ms sz ph od pi se) (ho : zOk sz od) (hx : qR x) (hp : zpos sz od x ≠ -9) (h : ∀ g : Nat → Int, zR g (sz - 1) ph (zrm od (zpos sz od x) sz) pi se → zFr ms g → Φ (zpos sz od x) g) : wp_X5_darkNow x ms Φ := by
  have ho0 := ho.1
  have hz := zpos_b sz od x
  unfold wp_X5_darkNow
  refine s_X5_positionOf hR ho hx ⟨by decide, fun v7 e7 => ⟨by decide, fun g8 e8 => ?_⟩⟩
  have e7 : v7 = sz := e7.trans hR.2.1
  generalize zpos sz od x = pos at hz h hp ⊢
  have e0 : zrm od pos (pos + 1) = od := by
    funext k
    unfold zrm
    rw [if_neg (by omega)]
  refine zl2 (fun i g => pos ≤ i ∧ i ≤ sz - 1 ∧ zR g (sz - 1) ph (zrm od pos (i + 1)) pi se ∧ zFr ms g) (fun i g => sz - 1 - i) (fun n i g hi ih => ?_) _ _ ⟨by omega, by omega, ?_, ?_⟩
  · obtain ⟨i1, i2, i3, i4⟩ := hi
    unfold wp_X5_darkNow_19
    refine ⟨by decide, fun v1 e1 => ?_⟩
    have e1 : v1 = sz - 1 := e1.trans i3.2.1
    refine ⟨⟨(qR_i (by omega) (by omega)), (qR_i (by omega) (by omega))⟩, fun c => ?_, fun c => ⟨⟨by omega, by omega⟩, fun v3 e3 => ⟨⟨by omega, by omega⟩, fun g4 e4 v5 e5 => ?_⟩⟩⟩
    · rw [show i + 1 = sz by omega] at i3
      exact h g i3 i4
    · rw [e5]
      have q := zR_od i3 (x := i + 1) ⟨by omega, by omega⟩
      rw [show (7 : Int) + (i + 1) = 7 + i + 1 by omega] at q
      rw [q] at e3
      have u := zR_uod i3 (x := i) (v := v3) ⟨by omega, by omega⟩
      rw [← e4] at u
      refine ih _ _ ⟨by omega, by omega, ?_, ?_⟩ (show (sz - 1 - (i + 1)).toNat < (sz - 1 - i).toNat by omega)
      · have e9 : qU (zrm od pos (i + 1)) i.toNat v3 = zrm od pos (i + 1 + 1) := by
          funext k
          rw [qU_a, e3]
          unfold zrm
          by_cases z : k = i.toNat
          · rw [if_pos z, if_neg (show ¬ (pos ≤ ((i + 1).toNat : Int) ∧ ((i + 1).toNat : Int) + 1 < i + 1) by omega), if_pos (show pos ≤ (k : Int) ∧ (k : Int) + 1 < i + 1 + 1 by omega), show (i + 1).toNat = k + 1 by omega]
          · rw [if_neg z]
            by_cases y : pos ≤ (k : Int) ∧ (k : Int) + 1 < i + 1
            · rw [if_pos y, if_pos (show pos ≤ (k : Int) ∧ (k : Int) + 1 < i + 1 + 1 by omega)]
            · rw [if_neg y, if_neg (show ¬ (pos ≤ (k : Int) ∧ (k : Int) + 1 < i + 1 + 1) by omega)]
        rw [← e9]
        exact u
      · rw [e4]
        exact zFr_u i4 ⟨by omega, by omega⟩
  · rw [e0, e8, e7]
    exact zR_usz hR
  · rw [e8]
    exact zFr_u (fun _ _ => rfl) ⟨by omega, by omega⟩
theorem s_X5_swapCode {i j : Int} {ms : Nat → Int} {sz : Int} {ph od : Nat → Int} {pi : Nat → Int64} {se : Nat → Int} {Φ : Int → Prop} (hR : zR ms sz ph od pi se) (ho : zOk sz od) (hi : qR i) (hj : qR j) (h : Φ (if (0 ≤ i ∧ i < sz) ∧ 0 ≤ j ∧ j < sz then 0 else -1)) : wp_X5_swapCode i j ms Φ := by
  have ho0 := ho.1
  unfold wp_X5_swapCode wp_X5_swapCode_38 wp_X5_swapCode_39
  refine ⟨by decide, fun v1 e1 => ?_⟩
  have e1 : v1 = sz := e1.trans hR.2.1
  refine s_X5_in hi (by decide) (qR_i (by omega) (by omega)) ?_
  by_cases c : 0 ≤ i ∧ i ≤ v1 - 1
  · rw [if_pos c]
    refine ⟨(qR_i (by omega) (by omega)), fun z => absurd z (by decide), fun _ => ⟨by decide, fun v4 e4 => ?_⟩⟩
    have e4 : v4 = sz := e4.trans hR.2.1
    refine s_X5_in hj (by decide) (qR_i (by omega) (by omega)) ?_
    by_cases c2 : 0 ≤ j ∧ j ≤ v4 - 1
    · rw [if_pos c2]
      rw [if_pos (by omega)] at h
      exact ⟨(qR_i (by omega) (by omega)), fun z => absurd z (by decide), fun _ => h⟩
    · rw [if_neg c2]
      rw [if_neg (by omega)] at h
      exact ⟨(qR_i (by omega) (by omega)), fun _ => h, fun z => absurd rfl z⟩
  · rw [if_neg c]
    rw [if_neg (by omega)] at h
    exact ⟨(qR_i (by omega) (by omega)), fun _ => h, fun z => absurd rfl z⟩
theorem s_X5_changePlaces {i j : Int} {ms : Nat → Int} {sz : Int} {ph od : Nat → Int} {pi : Nat → Int64} {se : Nat → Int} {Φ : (Nat → Int) → Prop} (hR : zR ms sz ph od pi se) (hi : 0 ≤ i ∧ i < 12) (hj : 0 ≤ j ∧ j < 12) (h : ∀ g : Nat → Int, zR g sz ph (zsw od i j) pi se → zFr ms g → Φ g) : wp_X5_changePlaces i j ms Φ := by
  unfold wp_X5_changePlaces
  refine ⟨⟨by omega, by omega⟩, fun v1 e1 => ⟨⟨by omega, by omega⟩, fun v2 e2 => ⟨⟨by omega, by omega⟩, fun g3 e3 => ⟨⟨by omega, by omega⟩, fun g4 e4 => ?_⟩⟩⟩⟩
  rw [zR_od hR hi] at e1
  rw [zR_od hR hj] at e2
  rw [e4, e3, e1, e2]
  exact h _ (zR_uod (zR_uod hR hi) hj) (zFr_u (zFr_u (fun _ _ => rfl) ⟨by omega, by omega⟩) ⟨by omega, by omega⟩)
theorem zG_sw {ms g : Nat → Int} {sz : Int} {ph od : Nat → Int} {pi : Nat → Int64} {se : Nat → Int} (hG : zG ms sz ph od pi se) {i j : Int} (hi : 0 ≤ i ∧ i < sz) (hj : 0 ≤ j ∧ j < sz) (hg : zR g sz ph (zsw od i j) pi se) : zG g sz ph (zsw od i j) pi se := ⟨hg, zsw_ok hG.2.1 hi hj, hG.2.2.1, hG.2.2.2⟩
theorem s_X5_swapNow {i j : Int} {ms ml : Nat → Int} {sz : Int} {ph od : Nat → Int} {pi : Nat → Int64} {se : Nat → Int} {Φ : Int → (Nat → Int) → (Nat → Int) → Prop} (hG : zG ms sz ph od pi se) (hi : 0 ≤ i ∧ i < sz) (hj : 0 ≤ j ∧ j < sz) (h : ∀ g gl : Nat → Int, zR g sz ph (zsw od i j) pi se → zFr ms g → Φ (zlsz sz (zsw od i j) se) g gl) : wp_X5_swapNow i j ms ml Φ := by
  have ho0 := hG.2.1.1
  unfold wp_X5_swapNow
  refine s_X5_changePlaces hG.1 ⟨by omega, by omega⟩ ⟨by omega, by omega⟩ (fun g hg hf => ?_)
  exact s_X5_litMany (zG_sw hG hi hj hg) (fun gl _ => h g gl hg hf)
theorem s_X5_darkTick {ph : Int} {Φ : Int → Prop} (hp : 0 ≤ ph ∧ ph ≤ 3) (h : Φ (zabv ph 1)) : wp_X5_darkTick ph Φ := by
  unfold wp_X5_darkTick
  refine zl1 (fun a => 0 ≤ a ∧ a ≤ 35 ∧ Φ (zabvN ph 1 (40 - a).toNat a)) (fun a => 40 - a) (fun n a hi ih => ?_) 0 ⟨by omega, by omega, h⟩
  obtain ⟨h1, h2, h3⟩ := hi
  rw [zabvN_s ⟨h1, h2⟩] at h3
  unfold wp_X5_darkTick_2
  have hg := zglow_b (ph := ph) h1
  refine s_X5_fading hp ⟨by omega, by omega⟩ ⟨(qR_i (by omega) (by omega)), fun c2 => ?_, fun c2 v4 e4 => ?_⟩
  · rwa [if_pos (by omega)] at h3
  · rw [if_neg (by omega)] at h3
    have h35 : a ≠ 35 := fun z => by
      subst z
      rw [zglow_35] at c2
      omega
    rw [e4]
    exact ih _ ⟨by omega, by omega, h3⟩ (show (40 - (a + 1)).toNat < (40 - a).toNat by omega)
theorem s_X5_ticks {ph bound th : Int} {Φ : Int → Int → Prop} (hp : qR ph) (hb : qR bound) (h1 : ¬ ((0 ≤ ph ∧ ph < 4) ∧ 1 ≤ bound ∧ bound ≤ 100) → ∀ t, Φ (-1) t) (h2 : (0 ≤ ph ∧ ph < 4) → (1 ≤ bound ∧ bound ≤ 100) → ∀ t, Φ (zabv ph bound) t) : wp_X5_ticks ph bound th Φ := by
  unfold wp_X5_ticks wp_X5_ticks_24
  refine s_X5_in hp (by decide) (by decide) ?_
  by_cases c : 0 ≤ ph ∧ ph ≤ 3
  · rw [if_pos c]
    refine ⟨(qR_i (by omega) (by omega)), fun z => absurd z (by decide), fun _ => s_X5_in hb (by decide) (by decide) ?_⟩
    by_cases c2 : 1 ≤ bound ∧ bound ≤ 100
    · rw [if_pos c2]
      refine ⟨(qR_i (by omega) (by omega)), fun _ => ?_, fun z => absurd (by decide) z⟩
      refine zl1 (fun a => 0 ≤ a ∧ a ≤ 35 ∧ ∀ t, Φ (zabvN ph bound (40 - a).toNat a) t) (fun a => 40 - a) (fun n a hi ih => ?_) 0 ⟨by omega, by omega, h2 ⟨by omega, by omega⟩ c2⟩
      obtain ⟨i1, i2, i3⟩ := hi
      rw [zabvN_s ⟨i1, i2⟩] at i3
      unfold wp_X5_ticks_28
      have hg := zglow_b (ph := ph) i1
      refine s_X5_fading c ⟨by omega, by omega⟩ ⟨⟨(qR_i (by omega) (by omega)), (qR_i (by omega) (by omega))⟩, fun c3 => ?_, fun c3 v4 e4 => ?_⟩
      · rw [if_pos (by omega)] at i3
        exact i3 _
      · rw [if_neg (by omega)] at i3
        have h35 : a ≠ 35 := fun z => by
          subst z
          rw [zglow_35] at c3
          omega
        rw [e4]
        exact ih _ ⟨by omega, by omega, i3⟩ (show (40 - (a + 1)).toNat < (40 - a).toNat by omega)
    · rw [if_neg c2]
      exact ⟨(qR_i (by omega) (by omega)), fun z => absurd rfl z, fun _ => h1 (fun z => c2 z.2) _⟩
  · rw [if_neg c]
    exact ⟨(qR_i (by omega) (by omega)), fun _ => h1 (fun z => c (by omega)) _, fun z => absurd rfl z⟩
/-- the model's key for sorting -/
def zkey (ph : Nat → Int) (p1 : Int64) (rule before spot : Int) : Int := if rule = 0 then spot else if rule = 1 then 10000 * zb p1 spot.toNat + 100 * zway 0 spot + spot else if rule = 2 then 100 * zabv (ph spot.toNat) 1 + spot else 100 * zway before spot + spot
theorem zkey_rank {ph : Nat → Int} {p1 : Int64} {rule before a b : Int} (ha : 0 ≤ a ∧ a < 64) (hb : 0 ≤ b ∧ b < 64) (hq : 0 ≤ before ∧ before < 64) : (zkey ph p1 rule before a < zkey ph p1 rule before b ↔ zrank ph p1 rule before a < zrank ph p1 rule before b) ∧ 0 ≤ zkey ph p1 rule before a ∧ zkey ph p1 rule before a < 20000 := by
  have a1 := zb_01 p1 a.toNat
  have a2 := zway_b (a := 0) (b := a) ⟨by omega, by omega⟩ ha
  have a3 := zway_b hq ha
  have a4 := zabv_b (ph := ph a.toNat) (bound := 1) (by decide)
  have b1 := zb_01 p1 b.toNat
  have b2 := zway_b (a := 0) (b := b) ⟨by omega, by omega⟩ hb
  have b3 := zway_b hq hb
  have b4 := zabv_b (ph := ph b.toNat) (bound := 1) (by decide)
  unfold zkey zrank
  by_cases c0 : rule = 0
  · rw [if_pos c0, if_pos c0, if_pos c0, if_pos c0]
    exact ⟨Iff.rfl, by omega, by omega⟩
  · by_cases c1 : rule = 1
    · simp only [if_neg c0, if_pos c1]
      omega
    · by_cases c2 : rule = 2
      · simp only [if_neg c0, if_neg c1, if_pos c2]
        omega
      · simp only [if_neg c0, if_neg c1, if_neg c2]
        omega
theorem s_X5_keyOf {rule spot before : Int} {ms : Nat → Int} {sz : Int} {ph od : Nat → Int} {pi : Nat → Int64} {se : Nat → Int} {Φ : Int → Prop} (hG : zG ms sz ph od pi se) (hr : 0 ≤ rule ∧ rule ≤ 3) (hsp : 0 ≤ spot ∧ spot < 64) (hb : 0 ≤ before ∧ before < 64) (h : Φ (zkey ph (pi 1) rule before spot)) : wp_X5_keyOf rule spot before ms Φ := by
  obtain ⟨hR, ho, hs, hph⟩ := hG
  unfold wp_X5_keyOf
  unfold zkey at h
  refine ⟨(qR_i (by omega) (by omega)), fun c => ?_, fun c => ?_, fun c => ⟨⟨by omega, by omega⟩, fun v2 e2 => ?_⟩, fun c => ⟨⟨by omega, by omega⟩, fun v4 e4 => ?_⟩⟩
  · rw [if_neg (by omega), if_neg (by omega), if_neg (by omega)] at h
    exact s_X5_way hb hsp h
  · rwa [if_pos c] at h
  · rw [if_neg (by omega), if_pos c] at h
    rw [e2, zR_p1 hR hsp]
    exact s_X5_way ⟨by omega, by omega⟩ hsp h
  · rw [if_neg (by omega), if_neg (by omega), if_pos c] at h
    have := hph spot.toNat (by omega)
    rw [e4, zR_ph hR hsp]
    exact s_X5_darkTick this h
theorem s_X5_sortCode {x : Int} {Φ : Int → Prop} (hx : qR x) (h : Φ (if 0 ≤ x ∧ x ≤ 3 then 0 else -1)) : wp_X5_sortCode x Φ := by
  unfold wp_X5_sortCode wp_X5_sortCode_14
  refine s_X5_in hx (by decide) (by decide) ?_
  by_cases c : 0 ≤ x ∧ x ≤ 3
  · rw [if_pos c] at h ⊢
    exact ⟨(qR_i (by omega) (by omega)), fun z => absurd z (by decide), fun _ => h⟩
  · rw [if_neg c] at h ⊢
    exact ⟨(qR_i (by omega) (by omega)), fun _ => h, fun z => absurd rfl z⟩
theorem s_X5_sortNow {rule : Int} {ms ml : Nat → Int} {sz : Int} {ph od : Nat → Int} {pi : Nat → Int64} {se : Nat → Int} {Φ : Int → (Nat → Int) → (Nat → Int) → Prop} (hG : zG ms sz ph od pi se) (hr : 0 ≤ rule ∧ rule ≤ 3) (h : ∀ g gl : Nat → Int, zR g sz ph (zsrt (zrank ph (pi 1) rule) sz sz.toNat 0 0 od) pi se → zFr ms g → Φ (zlsz sz (zsrt (zrank ph (pi 1) rule) sz sz.toNat 0 0 od) se) g gl) : wp_X5_sortNow rule ms ml Φ := by
  have ho0 := hG.2.1.1
  unfold wp_X5_sortNow
  generalize hfin : zsrt (zrank ph (pi 1) rule) sz sz.toNat 0 0 od = fin at h
  refine zl3 (fun b i g => 0 ≤ i ∧ i ≤ sz ∧ (0 ≤ b ∧ b < 64) ∧ zFr ms g ∧ ∃ q : Nat → Int, zG g sz ph q pi se ∧ zsrt (zrank ph (pi 1) rule) sz (sz - i).toNat b i q = fin) (fun b i g => sz - i) (fun n b i g hi ih => ?_) _ _ _ ⟨by omega, by omega, ⟨by omega, by omega⟩, fun _ _ => rfl, od, hG, by rw [show (sz - 0).toNat = sz.toNat by omega]; exact hfin⟩
  obtain ⟨i1, i2, i3, i4, q, i5, i6⟩ := hi
  unfold wp_X5_sortNow_4
  refine ⟨by decide, fun v13 e13 => ?_⟩
  have e13 : v13 = sz := e13.trans i5.1.2.1
  refine ⟨⟨(qR_i (by omega) (by omega)), (qR_i (by omega) (by omega))⟩, fun c3 => ?_, fun c3 v17 e17 => ?_⟩
  · rw [show (sz - i).toNat = 0 by omega, zsrt] at i6
    subst i6
    exact s_X5_litMany i5 (fun gl _ => h g gl i5.1 i4)
  · rw [e17]
    rw [show (sz - i).toNat = (sz - (i + 1)).toNat + 1 by omega, zsrt] at i6
    have hF := zarg_b (rk := zrank ph (pi 1) rule b) (od := q) (lo := i) (hi := sz) (sz - (i + 1)).toNat i (i + 1) (by omega) (by omega) (by omega) (by omega)
    generalize hFd : zarg (zrank ph (pi 1) rule b) q (sz - (i + 1)).toNat i (i + 1) = F at i6 hF
    refine zl2 (fun f j => i + 1 ≤ j ∧ j ≤ sz ∧ (i ≤ f ∧ f < sz) ∧ zarg (zrank ph (pi 1) rule b) q (sz - j).toNat f j = F) (fun f j => sz - j) (fun m f j hj ih2 => ?_) _ _ ⟨by omega, by omega, ⟨by omega, by omega⟩, hFd⟩
    obtain ⟨j1, j2, j3, j4⟩ := hj
    unfold wp_X5_sortNow_23
    refine ⟨by decide, fun v2 e2 => ?_⟩
    have e2 : v2 = sz := e2.trans i5.1.2.1
    refine ⟨⟨(qR_i (by omega) (by omega)), (qR_i (by omega) (by omega))⟩, fun c4 => s_X5_changePlaces i5.1 ⟨by omega, by omega⟩ ⟨by omega, by omega⟩ (fun g5 h5 hf5 => s_X5_spotAt h5 ⟨by omega, by omega⟩ (fun v7 e7 => ?_)), fun c4 => s_X5_spotAt i5.1 ⟨by omega, by omega⟩ ?_⟩
    · rw [show (sz - j).toNat = 0 by omega, zarg] at j4
      subst j4
      have hok := zG_sw i5 (i := i) (j := f) ⟨by omega, by omega⟩ ⟨by omega, by omega⟩ h5
      rw [e7]
      refine ih _ _ _ ⟨by omega, by omega, hok.2.1.2.1 _ (by omega), fun k hk => (hf5 k hk).trans (i4 k hk), _, hok, i6⟩ (show (sz - (i + 1)).toNat < (sz - i).toNat by omega)
    · have hv := i5.2.1.2.1 j.toNat (by omega)
      have hw := i5.2.1.2.1 f.toNat (by omega)
      rw [show (sz - j).toNat = (sz - (j + 1)).toNat + 1 by omega, zarg] at j4
      refine s_X5_keyOf i5 hr hv i3 (s_X5_spotAt i5.1 ⟨by omega, by omega⟩ (s_X5_keyOf i5 hr hw i3 ?_))
      have r1 := zkey_rank (ph := ph) (p1 := pi 1) (rule := rule) hv hw i3
      have r2 := zkey_rank (ph := ph) (p1 := pi 1) (rule := rule) hw hv i3
      unfold wp_X5_sortNow_69
      refine ⟨⟨(qR_i (by omega) (by omega)), (qR_i (by omega) (by omega))⟩, fun c5 v1 e1 => ?_, fun c5 v1 e1 => ?_⟩
      · rw [if_neg (by omega)] at j4
        rw [e1]
        exact ih2 _ _ ⟨by omega, by omega, j3, j4⟩ (show (sz - (j + 1)).toNat < (sz - j).toNat by omega)
      · rw [if_pos (by omega)] at j4
        rw [e1]
        exact ih2 _ _ ⟨by omega, by omega, ⟨by omega, by omega⟩, j4⟩ (show (sz - (j + 1)).toNat < (sz - j).toNat by omega)
theorem s_X5_drawNow {p s b : Int} {ms : Nat → Int} {sz : Int} {ph od : Nat → Int} {pi gp : Nat → Int64} {se : Nat → Int} {Φ : Int → (Nat → Int) → Prop} (hR : zR ms sz ph od pi se) (hp : 0 ≤ p ∧ p < 2) (hs : 0 ≤ s ∧ s < 64) (hg : zPu pi gp p s b) (h : ∀ g : Nat → Int, zR g sz ph od gp se → zFr ms g → Φ (zcnt (zb (gp p.toNat)) 64) g) : wp_X5_drawNow p s b ms Φ := by
  unfold wp_X5_drawNow wp_X5_drawNow_16
  refine ⟨(qR_i (by omega) (by omega)), fun c => ⟨⟨by omega, by omega⟩, fun g1 e1 => ?_⟩, fun c => ⟨⟨by omega, by omega⟩, fun g1 e1 => ?_⟩⟩
  · have e : p = 1 := by omega
    subst e
    have hR1 : zR g1 sz ph od gp se := by
      rw [e1]
      exact zR_up1 hR hs hg
    refine s_X5_inPicture hR1 hp (h g1 hR1 ?_)
    rw [e1]
    exact zFr_u (fun _ _ => rfl) ⟨by omega, by omega⟩
  · have e : p = 0 := by omega
    subst e
    have hR1 : zR g1 sz ph od gp se := by
      rw [e1]
      exact zR_up0 hR hs hg
    refine s_X5_inPicture hR1 hp (h g1 hR1 ?_)
    rw [e1]
    exact zFr_u (fun _ _ => rfl) ⟨by omega, by omega⟩
