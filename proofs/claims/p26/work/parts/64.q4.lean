/-! P26, 4: looks at fixed places; the row of the order -/
section ZROW
variable {kp tl : Int} {tk : Nat → Int} {sz : Int} {ph od : Nat → Int} {pi : Nat → Int64} {se : Nat → Int} {Φ : Int → Prop}
theorem a_c0 (hG : zX sz ph od pi se) (f0 : tk 0 = 0 ∨ tk 0 = 1) (f1 : tk 1 = 0 ∨ tk 1 = 1) (h : Φ sz) : wp_X4_count 0 kp tl tk sz ph od pi se Φ := a_count hG f0 f1 (by decide) h
theorem a_c1 (hG : zX sz ph od pi se) (f0 : tk 0 = 0 ∨ tk 0 = 1) (f1 : tk 1 = 0 ∨ tk 1 = 1) (h : Φ (zlsz sz od se)) : wp_X4_count 1 kp tl tk sz ph od pi se Φ := a_count hG f0 f1 (by decide) h
theorem a_c4 (hG : zX sz ph od pi se) (f0 : tk 0 = 0 ∨ tk 0 = 1) (f1 : tk 1 = 0 ∨ tk 1 = 1) (h : Φ (zcnt (zsee (zmean sz ph od se 0 (se 0)) (se 2)) 64)) : wp_X4_count 4 kp tl tk sz ph od pi se Φ := a_count hG f0 f1 (by decide) h
theorem a_c5 (hG : zX sz ph od pi se) (f0 : tk 0 = 0 ∨ tk 0 = 1) (f1 : tk 1 = 0 ∨ tk 1 = 1) (h : Φ (zcnt (zsee (zmean sz ph od se (se 3) (se 4)) (se 5)) 64)) : wp_X4_count 5 kp tl tk sz ph od pi se Φ := a_count hG f0 f1 (by decide) h
theorem a_c6 (hG : zX sz ph od pi se) (f0 : tk 0 = 0 ∨ tk 0 = 1) (f1 : tk 1 = 0 ∨ tk 1 = 1) (h : Φ (zcnt (zwr sz ph od pi se 0) 64)) : wp_X4_count 6 kp tl tk sz ph od pi se Φ := a_count hG f0 f1 (by decide) h
theorem a_c7 (hG : zX sz ph od pi se) (f0 : tk 0 = 0 ∨ tk 0 = 1) (f1 : tk 1 = 0 ∨ tk 1 = 1) (h : Φ (zcnt (zwr sz ph od pi se 1) 64)) : wp_X4_count 7 kp tl tk sz ph od pi se Φ := a_count hG f0 f1 (by decide) h
theorem a_c8 (hG : zX sz ph od pi se) (f0 : tk 0 = 0 ∨ tk 0 = 1) (f1 : tk 1 = 0 ∨ tk 1 = 1) (h : Φ (zS od sz.toNat)) : wp_X4_count 8 kp tl tk sz ph od pi se Φ := a_count hG f0 f1 (by decide) h
theorem a_c9 (hG : zX sz ph od pi se) (f0 : tk 0 = 0 ∨ tk 0 = 1) (f1 : tk 1 = 0 ∨ tk 1 = 1) (h : Φ (if zlsz sz od se ≤ 0 then -9 else zA od (se 1) (zlsz sz od se).toNat)) : wp_X4_count 9 kp tl tk sz ph od pi se Φ := a_count hG f0 f1 (by decide) h
theorem a_c13 (hG : zX sz ph od pi se) (f0 : tk 0 = 0 ∨ tk 0 = 1) (f1 : tk 1 = 0 ∨ tk 1 = 1) (h : Φ (se 0)) : wp_X4_count 13 kp tl tk sz ph od pi se Φ := a_count hG f0 f1 (by decide) h
theorem a_at_in {x : Int} (ho : zOk sz od) (hx : 0 ≤ x ∧ x < sz) (h : Φ (od x.toNat)) : wp_X4_at x sz od Φ := by
  have ho1 := ho.1
  refine a_at ho (qR_i (by omega) (by omega)) ?_
  rw [if_neg (by omega), if_pos hx.2]
  exact h
theorem a_at_end (ho : zOk sz od) (h : Φ (-9)) : wp_X4_at sz sz od Φ := by
  have ho1 := ho.1
  refine a_at ho (qR_i (by omega) (by omega)) ?_
  rw [if_neg (by omega), if_neg (by omega)]
  exact h
theorem a_s1 {x : Int} (hG : zX sz ph od pi se) (hx : 0 ≤ x ∧ x < 64) (h : Φ (zb (pi 0) x.toNat)) : wp_X4_spot x 1 sz ph od pi se Φ := by
  refine a_spot hG (qR_i (by omega) (by omega)) (by decide) ?_
  unfold zspot
  rw [if_neg (fun z => z hx)]
  exact h
theorem a_s2 {x : Int} (hG : zX sz ph od pi se) (hx : 0 ≤ x ∧ x < 64) (h : Φ (zb (pi 1) x.toNat)) : wp_X4_spot x 2 sz ph od pi se Φ := by
  refine a_spot hG (qR_i (by omega) (by omega)) (by decide) ?_
  unfold zspot
  rw [if_neg (fun z => z hx)]
  exact h
theorem a_s3 {x : Int} (hG : zX sz ph od pi se) (hx : 0 ≤ x ∧ x < 64) (h : Φ (zpos sz od x)) : wp_X4_spot x 3 sz ph od pi se Φ := by
  refine a_spot hG (qR_i (by omega) (by omega)) (by decide) ?_
  unfold zspot
  rw [if_neg (fun z => z hx)]
  exact h
theorem a_s4 {x : Int} (hG : zX sz ph od pi se) (hx : 0 ≤ x ∧ x < 64) (h : Φ (zlit sz od se x)) : wp_X4_spot x 4 sz ph od pi se Φ := by
  refine a_spot hG (qR_i (by omega) (by omega)) (by decide) ?_
  unfold zspot
  rw [if_neg (fun z => z hx)]
  exact h
theorem a_s5 {x : Int} (hG : zX sz ph od pi se) (hx : 0 ≤ x ∧ x < 64) (h : Φ (zsee (zmean sz ph od se 0 (se 0)) (se 2) x.toNat)) : wp_X4_spot x 5 sz ph od pi se Φ := by
  refine a_spot hG (qR_i (by omega) (by omega)) (by decide) ?_
  unfold zspot
  rw [if_neg (fun z => z hx)]
  exact h
theorem a_s6 {x : Int} (hG : zX sz ph od pi se) (hx : 0 ≤ x ∧ x < 64) (h : Φ (zsee (zmean sz ph od se (se 3) (se 4)) (se 5) x.toNat)) : wp_X4_spot x 6 sz ph od pi se Φ := by
  refine a_spot hG (qR_i (by omega) (by omega)) (by decide) ?_
  unfold zspot
  rw [if_neg (fun z => z hx)]
  exact h
theorem a_s7 {x : Int} (hG : zX sz ph od pi se) (hx : 0 ≤ x ∧ x < 64) (h : Φ (zmean sz ph od se 0 (se 0) x)) : wp_X4_spot x 7 sz ph od pi se Φ := by
  refine a_spot hG (qR_i (by omega) (by omega)) (by decide) ?_
  unfold zspot
  rw [if_neg (fun z => z hx)]
  exact h
theorem a_s9 {x : Int} (hG : zX sz ph od pi se) (hx : 0 ≤ x ∧ x < 64) (h : Φ (zmx (zshine ph (se 0) (zlit sz od se x) x) (se 0).toNat - zmn (zshine ph (se 0) (zlit sz od se x) x) (se 0).toNat)) : wp_X4_spot x 9 sz ph od pi se Φ := by
  refine a_spot hG (qR_i (by omega) (by omega)) (by decide) ?_
  unfold zspot
  rw [if_neg (fun z => z hx)]
  exact h
theorem zglow_0 {p : Int} (hp : 0 ≤ p ∧ p ≤ 3) : zglow p 0 = 100 := by
  rcases (show p = 0 ∨ p = 1 ∨ p = 2 ∨ p = 3 by omega) with rfl | rfl | rfl | rfl <;> rfl
theorem zbri_lit {s T : Int} (hph : zPh ph) (hs : 0 ≤ s ∧ s < 64) (hT : 0 ≤ T ∧ T < se 0) (e : zlit sz od se s = T) : zbri s T sz ph od se = 100 := by
  unfold zbri zshine
  rw [if_pos ⟨hs, hT⟩, e, if_neg (by omega), if_pos (by omega), show T - T = 0 by omega]
  exact zglow_0 (hph s.toNat (by omega))
theorem zA_lt {pace : Int} (ho : zOk sz od) (hp : 1 ≤ pace ∧ pace ≤ 4) {n : Nat} (hn : (n : Int) < sz) : zA od pace n + 1 ≤ zA od pace (n + 1) := by
  rw [zA]
  have h1 := zway_b (zprev_b ho (n := n) (by omega)) (ho.2.1 n hn)
  have h2 : 0 ≤ zway (zprev od n) (od n) * pace := Int.mul_nonneg h1.1 (by omega)
  omega
theorem r_160 {k : Int} (h : Φ 1) (hk : qR k) : wp_L_isRow_160 Φ k k := by
  unfold wp_L_isRow_160 wp_L_isRow_168
  exact ⟨⟨hk, hk⟩, fun z => absurd rfl z, fun _ => ⟨Or.inr rfl, h⟩⟩
set_option maxHeartbeats 4000000 in
theorem a_isRow (hG : zX sz ph od pi se) (f0 : tk 0 = 0 ∨ tk 0 = 1) (f1 : tk 1 = 0 ∨ tk 1 = 1) (h : Φ 1) : wp_L_isRow kp tl tk sz ph od pi se Φ := by
  have ho := hG.2.1
  have hs := hG.2.2.1
  have hph := hG.2.2.2
  have ho1 := ho.1
  have hs0 := hs.1
  have hm := zlsz_s (se := se) ho
  unfold wp_L_isRow
  refine a_c0 hG f0 f1 ?_
  refine zl4 (fun (x2 x3 x4 x5 : Int) => (0 ≤ x5 ∧ x5 ≤ sz) ∧ ((x5 ≤ zlsz sz od se ∧ x2 = x5 ∧ x4 = 0) ∨ (zlsz sz od se < x5 ∧ x2 = zlsz sz od se ∧ x4 = 1)) ∧ x3 = zA od (se 1) x2.toNat) (fun _ _ _ x5 => sz - x5) (fun n x2 x3 x4 x5 hi ih => ?_) _ _ _ _ ⟨by omega, Or.inl (by omega), rfl⟩
  obtain ⟨i1, i2, i3⟩ := hi
  have hx2 : 0 ≤ x2 ∧ x2 ≤ sz := by omega
  have hA := zA_b ho hs.2.1 x2.toNat (by omega)
  rw [← i3] at hA
  unfold wp_L_isRow_16
  refine ⟨⟨(qR_i (by omega) (by omega)), (qR_i (by omega) (by omega))⟩, fun c => ?_, fun c => ?_⟩
  · have e : x2 = zlsz sz od se := by omega
    refine a_c1 hG f0 f1 ⟨⟨(qR_i (by omega) (by omega)), (qR_i (by omega) (by omega))⟩, fun z => absurd e z, fun _ => a_at_end ho ⟨⟨by decide, by decide⟩, fun z => absurd rfl z, fun _ => a_c9 hG f0 f1 ?_⟩⟩
    refine ⟨(qR_i (by omega) (by omega)), fun z => ?_, fun z => ?_⟩
    · rw [if_neg (by omega), ← e, ← i3]
      exact r_160 h (qR_i (by omega) (by omega))
    · rw [if_pos (by omega)]
      exact r_160 h (by decide)
  · have hsb := ho.2.1 x5.toNat (by omega)
    have e4 : zlit sz od se (od x5.toNat) = if x5 < zlsz sz od se then zA od (se 1) (x5.toNat + 1) else -9 := by
      have q := zlit_at ho hs (k := (od x5.toNat).toNat) (j := x5.toNat) (by omega) (by omega)
      rw [show (((od x5.toNat).toNat : Nat) : Int) = od x5.toNat by omega, show ((x5.toNat : Nat) : Int) = x5 by omega] at q
      exact q
    have e3 : zpos sz od (od x5.toNat) = x5 := by
      have q := zpos_some ho (k := x5.toNat) (by omega) (rfl : od x5.toNat = od x5.toNat)
      rw [q]
      omega
    refine a_at_in ho ⟨by omega, by omega⟩ (a_s4 hG hsb (a_s3 hG hsb ?_))
    rw [e3]
    refine ⟨⟨(qR_i (by omega) (by omega)), (qR_i (by omega) (by omega))⟩, fun z => absurd rfl z, fun _ => ?_⟩
    by_cases d : x5 < zlsz sz od se
    · rw [if_pos d] at e4
      rw [e4]
      have hT := hm.2.1 x5.toNat (by omega)
      have hl := zA_lt ho hs.2.1 (n := x5.toNat) (by omega)
      have ex : x2 = x5 := by omega
      rw [ex] at i3
      have hT0 : 0 ≤ zA od (se 1) (x5.toNat + 1) := by omega
      refine ⟨(qR_i (by omega) (by omega)), fun z => absurd z (by omega), fun _ => ⟨(qR_i (by omega) (by omega)), fun z => absurd (by omega) z, fun _ => ⟨⟨(qR_i (by omega) (by omega)), (qR_i (by omega) (by omega))⟩, fun z => absurd z (by omega), fun _ => a_brightness hG (qR_i (by omega) (by omega)) (qR_i (by omega) (by omega)) ?_⟩⟩⟩
      rw [zbri_lit hph hsb ⟨hT0, hT⟩ e4]
      refine ⟨by decide, fun _ => ?_, fun z => absurd rfl z⟩
      unfold wp_L_isRow_82 wp_L_isRow_92 wp_L_isRow_105 wp_L_isRow_117
      refine ⟨(qR_i (by omega) (by omega)), fun _ => ⟨(qR_i (by omega) (by omega)), fun _ => ⟨(qR_i (by omega) (by omega)), fun _ v2 e2 v3 e3 => ?_, fun z => absurd hT0 z⟩, fun z => absurd hT0 z⟩, fun z => absurd hT0 z⟩
      refine ih _ _ _ _ ⟨by omega, Or.inl ⟨by omega, by omega, rfl⟩, ?_⟩ (by omega)
      rw [show v2.toNat = x5.toNat + 1 by omega]
    · rw [if_neg d] at e4
      rw [e4]
      refine ⟨by decide, fun _ => ?_, fun z => absurd (by decide) z⟩
      unfold wp_L_isRow_82 wp_L_isRow_92 wp_L_isRow_105 wp_L_isRow_117
      refine ⟨by decide, fun z => absurd z (by decide), fun _ => ⟨by decide, fun z => absurd z (by decide), fun _ => ⟨by decide, fun z => absurd z (by decide), fun _ v2 e2 v3 e3 => ?_⟩⟩⟩
      refine ih _ _ _ _ ⟨by omega, Or.inr ⟨by omega, by omega, rfl⟩, ?_⟩ (by omega)
      rw [show v2 = x2 by omega]
      exact i3
end ZROW
