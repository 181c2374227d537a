/-! PURE 28: looking: count and spot on both sides -/
theorem zne_xor (x y : Int64) (k : Nat) : zb (x ^^^ y) k = zne (zb y k) (zb x k) := by
  rw [zb_xor]
  unfold zne
  by_cases c : zb x k = zb y k
  · rw [if_pos c, if_pos c.symm]
  · rw [if_neg c, if_neg (fun z => c z.symm)]
theorem zwr_e {sz : Int} {ph od se : Nat → Int} {pi : Nat → Int64} {r : Int64} (hr : ∀ k : Nat, k < 64 → zb r k = zsee (zmean sz ph od se 0 (se 0)) (se 2) k) {k : Nat} (hk : k < 64) : zb (pi 0 ^^^ r) k = zwr sz ph od pi se 0 k := by
  rw [zne_xor, hr k hk]
  unfold zwr
  rw [if_pos rfl]
theorem zwr_s {sz : Int} {ph od se : Nat → Int} {pi : Nat → Int64} {r : Int64} (hr : ∀ k : Nat, k < 64 → zb r k = zsee (zmean sz ph od se (se 3 % se 0) (se 4)) (se 5) k) {k : Nat} (hk : k < 64) : zb (pi 1 ^^^ r) k = zwr sz ph od pi se 1 k := by
  rw [zne_xor, hr k hk, zmean_mod]
  unfold zwr
  rw [if_neg (by decide)]
theorem s_X2_snapshots {tk : Nat → Int} {Φ : Int → Prop} (h0 : tk 0 = 0 ∨ tk 0 = 1) (h1 : tk 1 = 0 ∨ tk 1 = 1) (h : Φ (tk 0 + tk 1)) : wp_X2_snapshots tk Φ := by
  unfold wp_X2_snapshots
  refine ⟨3, ?_⟩
  unfold wp_X2_snapshots_4
  refine ⟨by decide, fun z => absurd z (by decide), fun _ => ⟨by decide, fun v4 e4 => ?_⟩⟩
  have e4 : v4 = tk 0 := e4
  have k1 : ∀ v1 v2 : Int, v1 = tk 0 → v2 = 1 → wp_X2_snapshots_4 Φ tk 2 v1 v2 := by
    intro v1 v2 e1 e2
    unfold wp_X2_snapshots_4
    refine ⟨⟨(qR_i (by omega) (by omega)), (qR_i (by omega) (by omega))⟩, fun z => absurd z (by omega), fun _ => ⟨⟨by omega, by omega⟩, fun v5 e5 => ?_⟩⟩
    rw [e2] at e5
    have e5 : v5 = tk 1 := e5
    have k2 : ∀ w1 w2 : Int, w1 = tk 0 + tk 1 → w2 = 2 → wp_X2_snapshots_4 Φ tk 1 w1 w2 := by
      intro w1 w2 f1 f2
      unfold wp_X2_snapshots_4
      rw [f1]
      exact ⟨⟨(qR_i (by omega) (by omega)), (qR_i (by omega) (by omega))⟩, fun _ => h, fun z => absurd (by omega) z⟩
    unfold wp_X2_snapshots_24
    refine ⟨(qR_i (by omega) (by omega)), fun c w1 f1 w2 f2 => k2 w1 w2 ?_ (by omega), fun c w1 f1 w2 f2 => k2 w1 w2 ?_ (by omega)⟩
    · omega
    · omega
  unfold wp_X2_snapshots_24
  refine ⟨(qR_i (by omega) (by omega)), fun c w1 f1 w2 f2 => k1 w1 w2 ?_ (by omega), fun c w1 f1 w2 f2 => k1 w1 w2 ?_ (by omega)⟩
  · omega
  · omega
/-- what count answers -/
def zcount (x kp tl : Int) (tk : Nat → Int) (sz : Int) (ph od : Nat → Int) (pi : Nat → Int64) (se : Nat → Int) : Int :=
  if x = 0 then sz else if x = 1 then zlsz sz od se else if x = 2 then zcnt (zb (pi 0)) 64 else if x = 3 then zcnt (zb (pi 1)) 64 else if x = 4 then zcnt (zsee (zmean sz ph od se 0 (se 0)) (se 2)) 64 else if x = 5 then zcnt (zsee (zmean sz ph od se (se 3) (se 4)) (se 5)) 64 else if x = 6 then zcnt (zwr sz ph od pi se 0) 64 else if x = 7 then zcnt (zwr sz ph od pi se 1) 64 else if x = 8 then zS od sz.toNat else if x = 9 then (if zlsz sz od se ≤ 0 then -9 else zA od (se 1) (zlsz sz od se).toNat) else if x = 10 then tk 0 + tk 1 else if x = 11 then kp else if x = 12 then tl else if 13 ≤ x ∧ x ≤ 18 then se (x - 13).toNat else -1
theorem zcount_13 {x kp tl : Int} {tk : Nat → Int} {sz : Int} {ph od : Nat → Int} {pi : Nat → Int64} {se : Nat → Int} (hx : x < 0 ∨ 12 < x) : zcount x kp tl tk sz ph od pi se = if 13 ≤ x ∧ x ≤ 18 then se (x - 13).toNat else -1 := by
  unfold zcount
  rw [if_neg (by omega), if_neg (by omega), if_neg (by omega), if_neg (by omega), if_neg (by omega), if_neg (by omega), if_neg (by omega), if_neg (by omega), if_neg (by omega), if_neg (by omega), if_neg (by omega), if_neg (by omega), if_neg (by omega)]
theorem a_count {x kp tl : Int} {ms tk : Nat → Int} {sz : Int} {ph od : Nat → Int} {pi : Nat → Int64} {se : Nat → Int} {Φ : Int → Prop} (hG : zG ms sz ph od pi se) (f0 : tk 0 = 0 ∨ tk 0 = 1) (f1 : tk 1 = 0 ∨ tk 1 = 1) (hx : qR x) (h : Φ (zcount x kp tl tk sz ph od pi se)) : wp_X4_count x kp tl tk sz ph od pi se Φ := by
  obtain ⟨hR, ho, hs, hph⟩ := hG
  have hs4 := hs.2.2.2.2.1
  have hs1 := hs.2.1
  have hl := zlsz_s (se := se) ho
  have ho1 := ho.1
  unfold wp_X4_count
  refine ⟨by decide, fun v1 e1 => ?_⟩
  have e1 : v1 = se 4 := e1
  rw [e1]
  refine ⟨hx, fun c => ?_, fun c => ?_, fun c => ?_, fun c => ?_, fun c => ?_, fun c => ?_, fun c => ?_, fun c => ?_, fun c => ?_, fun c => ?_, fun c => ?_, fun c => ?_, fun c => ?_, fun c => ?_⟩
  · rw [zcount_13 c] at h
    unfold wp_X4_settingCount wp_X4_settingCount_12
    refine ⟨⟨hx, by decide⟩, fun c2 => ?_, fun c2 => ⟨⟨hx, by decide⟩, fun c3 => ⟨⟨by omega, by omega⟩, fun v3 e3 => ?_⟩, fun c3 => ?_⟩⟩
    · rwa [if_neg (by omega)] at h
    · rw [if_pos (by omega), ← e3] at h
      exact h
    · rwa [if_neg (by omega)] at h
  · subst c; exact h
  · subst c; exact s_X1_litSize ho hs h
  · subst c
    refine ⟨by decide, fun v4 e4 => ?_⟩
    rw [e4]
    exact s_J13_bitCount h
  · subst c
    refine ⟨by decide, fun v4 e4 => ?_⟩
    rw [e4]
    exact s_J13_bitCount h
  · subst c
    refine s_X1_seenByEye hph ho hs (fun r hr => s_J13_bitCount ?_)
    rw [zcnt_c 64 hr]
    exact h
  · subst c
    refine s_X1_seenByShutter hph ho hs ⟨by omega, by omega⟩ (fun r hr => s_J13_bitCount ?_)
    rw [zcnt_c 64 hr, zmean_mod]
    exact h
  · subst c
    refine s_X1_seenByEye hph ho hs (fun r hr => s_X1_wrong (Or.inl rfl) (s_J13_bitCount ?_))
    have e := zcnt_c (f := zb (pi 0 ^^^ r)) (g := zwr sz ph od pi se 0) 64 (fun k hk => zwr_e hr hk)
    show Φ (zcnt (zb (pi 0 ^^^ r)) 64)
    rw [e]
    exact h
  · subst c
    refine s_X1_seenByShutter hph ho hs ⟨by omega, by omega⟩ (fun r hr => s_X1_wrong (Or.inr rfl) (s_J13_bitCount ?_))
    have e := zcnt_c (f := zb (pi 1 ^^^ r)) (g := zwr sz ph od pi se 1) 64 (fun k hk => zwr_s hr hk)
    show Φ (zcnt (zb (pi 1 ^^^ r)) 64)
    rw [e]
    exact h
  · subst c; exact s_X1_sumOfWays ho h
  · subst c
    have h : Φ (if zlsz sz od se ≤ 0 then -9 else zA od (se 1) (zlsz sz od se).toNat) := h
    unfold wp_X4_count_185
    refine s_X1_litSize ho hs ⟨(qR_i (by omega) (by omega)), fun c2 => ?_, fun c2 => s_X1_litSize ho hs (s_X1_arrival ho hs1 ⟨by omega, by omega⟩ ?_)⟩
    · rwa [if_pos c2] at h
    · rw [if_neg c2] at h
      rw [show zlsz sz od se - 1 + 1 = zlsz sz od se by omega]
      exact h
  · subst c; exact s_X2_snapshots f0 f1 h
  · subst c; exact h
  · subst c; exact h
/-- what spot answers -/
def zspot (x y sz : Int) (ph od : Nat → Int) (pi : Nat → Int64) (se : Nat → Int) : Int :=
  if ¬ (0 ≤ x ∧ x < 64) then -1 else if y = 0 then ph x.toNat else if y = 1 then zb (pi 0) x.toNat else if y = 2 then zb (pi 1) x.toNat else if y = 3 then zpos sz od x else if y = 4 then zlit sz od se x else if y = 5 then zsee (zmean sz ph od se 0 (se 0)) (se 2) x.toNat else if y = 6 then zsee (zmean sz ph od se (se 3) (se 4)) (se 5) x.toNat else if y = 7 then zmean sz ph od se 0 (se 0) x else if y = 8 then zmean sz ph od se (se 3) (se 4) x else if y = 9 then zmx (zshine ph (se 0) (zlit sz od se x) x) (se 0).toNat - zmn (zshine ph (se 0) (zlit sz od se x) x) (se 0).toNat else -1
theorem zspot_no {x y sz : Int} {ph od : Nat → Int} {pi : Nat → Int64} {se : Nat → Int} (hx : ¬ (0 ≤ x ∧ x < 64)) : zspot x y sz ph od pi se = -1 := by
  unfold zspot
  rw [if_pos hx]
theorem zspot_out {x y sz : Int} {ph od : Nat → Int} {pi : Nat → Int64} {se : Nat → Int} (hx : 0 ≤ x ∧ x < 64) (hy : y < 0 ∨ 9 < y) : zspot x y sz ph od pi se = -1 := by
  unfold zspot
  rw [if_neg (fun z => z hx), if_neg (by omega), if_neg (by omega), if_neg (by omega), if_neg (by omega), if_neg (by omega), if_neg (by omega), if_neg (by omega), if_neg (by omega), if_neg (by omega), if_neg (by omega)]
theorem a_spot {x y : Int} {ms : Nat → Int} {sz : Int} {ph od : Nat → Int} {pi : Nat → Int64} {se : Nat → Int} {Φ : Int → Prop} (hG : zG ms sz ph od pi se) (hx : qR x) (hy : qR y) (h : Φ (zspot x y sz ph od pi se)) : wp_X4_spot x y sz ph od pi se Φ := by
  obtain ⟨hR, ho, hs, hph⟩ := hG
  have hs4 := hs.2.2.2.2.1
  unfold wp_X4_spot
  refine s_X4_isSpot hx ?_
  by_cases c : 0 ≤ x ∧ x < 64
  · rw [if_pos c]
    refine ⟨by decide, fun _ => ⟨hy, fun c2 => ?_, fun c2 => ?_, fun c2 => ?_, fun c2 => ?_, fun c2 => ?_, fun c2 => ?_, fun c2 => ?_, fun c2 => ?_, fun c2 => ?_, fun c2 => ?_, fun c2 => ?_⟩, fun z => absurd (by decide) z⟩
    · rwa [zspot_out c c2] at h
    all_goals (subst c2; unfold zspot at h; rw [if_neg (fun z => z c)] at h)
    · refine ⟨c, fun v3 e3 => ?_⟩
      rw [e3]; exact h
    · refine ⟨by decide, fun v4 e4 => ?_⟩
      rw [e4]; exact s_X4_bit c h
    · refine ⟨by decide, fun v4 e4 => ?_⟩
      rw [e4]; exact s_X4_bit c h
    · exact s_X1_positionOf ho hx h
    · exact s_X1_litTick ho hs hx h
    · refine s_X1_seenByEye hph ho hs (fun r hr => s_X4_bit c ?_)
      rw [hr _ (by omega)]
      exact h
    · refine ⟨by decide, fun v12 e12 => ?_⟩
      have e12 : v12 = se 4 := e12
      rw [e12]
      refine s_X1_seenByShutter hph ho hs ⟨by omega, by omega⟩ (fun r hr => s_X4_bit c ?_)
      rw [hr _ (by omega), zmean_mod]
      exact h
    · exact s_X1_eyeMean c hph ho hs h
    · refine ⟨by decide, fun v12 e12 => ?_⟩
      have e12 : v12 = se 4 := e12
      rw [e12]
      refine s_X1_shutterMean c hph ho hs ⟨by omega, by omega⟩ ?_
      rw [zmean_mod]
      exact h
    · exact s_X1_flicker c hph ho hs h
  · rw [if_neg c]
    rw [zspot_no c] at h
    exact ⟨by decide, fun z => absurd rfl z, fun _ => h⟩