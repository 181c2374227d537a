/-! PURE 28: looking: count and spot on both sides -/
theorem zne_xor (x y : Int64) (k : Nat) : zb (x ^^^ y) k = zne (zb y k) (zb x k) := by
  rw [zb_xor]
  unfold zne
  by_cases c : zb x k = zb y k
  · rw [if_pos c, if_pos c.symm]
  · rw [if_neg c, if_neg (fun z => c z.symm)]
theorem zwr_e {sz : Int} {ph od se : Nat → Int} {pi : Nat → Int64} {r : Int64} (hr : ∀ k : Nat, k < 64 → zb r k = zsee (zmean sz ph od se 0 (se 0)) (se 2) k) {k : Nat} (hk : k < 64) : zb (pi 0 ^^^ r) k = zwr sz ph od pi se 0 k := by
  rw [zne_xor, hr k hk]
  unfold zwr
  rw [if_pos rfl]
theorem zwr_s {sz : Int} {ph od se : Nat → Int} {pi : Nat → Int64} {r : Int64} (hr : ∀ k : Nat, k < 64 → zb r k = zsee (zmean sz ph od se (se 3 % se 0) (se 4)) (se 5) k) {k : Nat} (hk : k < 64) : zb (pi 1 ^^^ r) k = zwr sz ph od pi se 1 k := by
  rw [zne_xor, hr k hk, zmean_mod]
  unfold zwr
  rw [if_neg (by decide)]
theorem s_X2_snapshots {tk : Nat → Int} {Φ : Int → Prop} (h0 : tk 0 = 0 ∨ tk 0 = 1) (h1 : tk 1 = 0 ∨ tk 1 = 1) (h : Φ (tk 0 + tk 1)) : wp_X2_snapshots tk Φ := by
  unfold wp_X2_snapshots
  refine ⟨3, ?_⟩
  unfold wp_X2_snapshots_4
  refine ⟨by decide, fun z => absurd z (by decide), fun _ => ⟨by decide, fun v4 e4 => ?_⟩⟩
  have e4 : v4 = tk 0 := e4
  have k1 : ∀ v1 v2 : Int, v1 = tk 0 → v2 = 1 → wp_X2_snapshots_4 Φ tk 2 v1 v2 := by
    intro v1 v2 e1 e2
    unfold wp_X2_snapshots_4
    refine ⟨⟨(qR_i (by omega) (by omega)), (qR_i (by omega) (by omega))⟩, fun z => absurd z (by omega), fun _ => ⟨⟨by omega, by omega⟩, fun v5 e5 => ?_⟩⟩
    rw [e2] at e5
    have e5 : v5 = tk 1 := e5
    have k2 : ∀ w1 w2 : Int, w1 = tk 0 + tk 1 → w2 = 2 → wp_X2_snapshots_4 Φ tk 1 w1 w2 := by
      intro w1 w2 f1 f2
      unfold wp_X2_snapshots_4
      rw [f1]
      exact ⟨⟨(qR_i (by omega) (by omega)), (qR_i (by omega) (by omega))⟩, fun _ => h, fun z => absurd (by omega) z⟩
    unfold wp_X2_snapshots_24
    refine ⟨(qR_i (by omega) (by omega)), fun c w1 f1 w2 f2 => k2 w1 w2 ?_ (by omega), fun c w1 f1 w2 f2 => k2 w1 w2 ?_ (by omega)⟩
    · omega
    · omega
  unfold wp_X2_snapshots_24
  refine ⟨(qR_i (by omega) (by omega)), fun c w1 f1 w2 f2 => k1 w1 w2 ?_ (by omega), fun c w1 f1 w2 f2 => k1 w1 w2 ?_ (by omega)⟩
  · omega
  · omega
/-- what count answers -/
def zcount (x kp tl : Int) (tk : Nat → Int) (sz : Int) (ph od : Nat → Int) (pi : Nat → Int64) (se : Nat → Int) : Int :=
  if x = 0 then sz else if x = 1 then zlsz sz od se else if x = 2 then zcnt (zb (pi 0)) 64 else if x = 3 then zcnt (zb (pi 1)) 64 else if x = 4 then zcnt (zsee (zmean sz ph od se 0 (se 0)) (se 2)) 64 else if x = 5 then zcnt (zsee (zmean sz ph od se (se 3) (se 4)) (se 5)) 64 else if x = 6 then zcnt (zwr sz ph od pi se 0) 64 else if x = 7 then zcnt (zwr sz ph od pi se 1) 64 else if x = 8 then zS od sz.toNat else if x = 9 then (if zlsz sz od se ≤ 0 then -9 else zA od (se 1) (zlsz sz od se).toNat) else if x = 10 then tk 0 + tk 1 else if x = 11 then kp else if x = 12 then tl else if 13 ≤ x ∧ x ≤ 18 then se (x - 13).toNat else -1
theorem zcount_13 {x kp tl : Int} {tk : Nat → Int} {sz : Int} {ph od : Nat → Int} {pi : Nat → Int64} {se : Nat → Int} (hx : x < 0 ∨ 12 < x) : zcount x kp tl tk sz ph od pi se = if 13 ≤ x ∧ x ≤ 18 then se (x - 13).toNat else -1 := by
  unfold zcount
  rw [if_neg (by omega), if_neg (by omega), if_neg (by omega), if_neg (by omega), if_neg (by omega), if_neg (by omega), if_neg (by omega), if_neg (by omega), if_neg (by omega), if_neg (by omega), if_neg (by omega), if_neg (by omega), if_neg (by omega)]
theorem a_count {x kp tl : Int} {ms tk : Nat → Int} {sz : Int} {ph od : Nat → Int} {pi : Nat → Int64} {se : Nat → Int} {Φ : Int → Prop} (hG : zG ms sz ph od pi se) (f0 : tk 0 = 0 ∨ tk 0 = 1) (f1 : tk 1 = 0 ∨ tk 1 = 1) (hx : qR x) (h : Φ (zcount x kp tl tk sz ph od pi se)) : wp_X4_count x kp tl tk sz ph od pi se Φ := by
  obtain ⟨hR, ho, hs, hph⟩ := hG
  have hs4 := hs.2.2.2.2.1
  have hs1 := hs.2.1
  have hl := zlsz_s (se := se) ho
  have ho1 := ho.1
  unfold wp_X4_count
  refine ⟨by decide, fun v1 e1 => ?_⟩
  have e1 : v1 = se 4 := e1
  rw [e1]
  refine ⟨hx, fun c => ?_, fun c => ?_, fun c => ?_, fun c => ?_, fun c => ?_, fun c => ?_, fun c => ?_, fun c => ?_, fun c => ?_, fun c => ?_, fun c => ?_, fun c => ?_, fun c => ?_, fun c => ?_⟩
  · rw [zcount_13 c] at h
    unfold wp_X4_settingCount wp_X4_settingCount_12
    refine ⟨⟨hx, by decide⟩, fun c2 => ?_, fun c2 => ⟨⟨hx, by decide⟩, fun c3 => ⟨⟨by omega, by omega⟩, fun v3 e3 => ?_⟩, fun c3 => ?_⟩⟩
    · rwa [if_neg (by omega)] at h
    · rw [if_pos (by omega), ← e3] at h
      exact h
    · rwa [if_neg (by omega)] at h
  · subst c; exact h
  · subst c; exact s_X1_litSize ho hs h
  · subst c
    refine ⟨by decide, fun v4 e4 => ?_⟩
    rw [e4]
    exact s_J13_bitCount h
  · subst c
    refine ⟨by decide, fun v4 e4 => ?_⟩
    rw [e4]
    exact s_J13_bitCount h
  · subst c
    refine s_X1_seenByEye hph ho hs (fun r hr => s_J13_bitCount ?_)
    rw [zcnt_c 64 hr]
    exact h
  · subst c
    refine s_X1_seenByShutter hph ho hs ⟨by omega, by omega⟩ (fun r hr => s_J13_bitCount ?_)
    rw [zcnt_c 64 hr, zmean_mod]
    exact h
  · subst c
    refine s_X1_seenByEye hph ho hs (fun r hr => s_X1_wrong (Or.inl rfl) (s_J13_bitCount ?_))
    have e := zcnt_c (f := zb (pi 0 ^^^ r)) (g := zwr sz ph od pi se 0) 64 (fun k hk => zwr_e hr hk)
    show Φ (zcnt (zb (pi 0 ^^^ r)) 64)
    rw [e]
    exact h
  · subst c
    refine s_X1_seenByShutter hph ho hs ⟨by omega, by omega⟩ (fun r hr => s_X1_wrong (Or.inr rfl) (s_J13_bitCount ?_))
    have e := zcnt_c (f := zb (pi 1 ^^^ r)) (g := zwr sz ph od pi se 1) 64 (fun k hk => zwr_s hr hk)
    show Φ (zcnt (zb (pi 1 ^^^ r)) 64)
    rw [e]
    exact h
  · subst c; exact s_X1_sumOfWays ho h
  · subst c
    have h : Φ (if zlsz sz od se ≤ 0 then -9 else zA od (se 1) (zlsz sz od se).toNat) := h
    unfold wp_X4_count_185
    refine s_X1_litSize ho hs ⟨(qR_i (by omega) (by omega)), fun c2 => ?_, fun c2 => s_X1_litSize ho hs (s_X1_arrival ho hs1 ⟨by omega, by omega⟩ ?_)⟩
    · rwa [if_pos c2] at h
    · rw [if_neg c2] at h
      rw [show zlsz sz od se - 1 + 1 = zlsz sz od se by omega]
      exact h
  · subst c; exact s_X2_snapshots f0 f1 h
  · subst c; exact h
  · subst c; exact h
theorem m_count {x th sm tl : Int} {ms ml tk : Nat → Int} {sz : Int} {ph od : Nat → Int} {pi : Nat → Int64} {se : Nat → Int} {Φ : Int → Int → (Nat → Int) → Prop} (hG : zG ms sz ph od pi se) (f0 : ms 211 = tk 0) (f1 : ms 423 = tk 1) (hx : qR x) (h : ∀ g, Φ (zcount x sm tl tk sz ph od pi se) 0 g) : wp_X5_count x th sm tl ms ml Φ := by
  have hs := hG.2.2.1
  unfold wp_X5_count
  refine s_X5_in hx (by decide) (by decide) ?_
  by_cases c : 13 ≤ x ∧ x ≤ 18
  · rw [if_pos c]
    refine ⟨by decide, fun z => absurd z (by decide), fun _ => ⟨⟨by omega, by omega⟩, fun v19 e19 => ?_⟩⟩
    have h := h ml
    rw [zcount_13 (by omega), if_pos c] at h
    have e := hG.1.1 (x - 13).toNat (by omega)
    rw [e19, show ((0 : Int) + x - 13).toNat = (x - 13).toNat by omega, e]
    exact h
  · rw [if_neg c]
    refine ⟨by decide, fun _ => s_X5_litMany hG (fun g hL => ?_), fun z => absurd rfl z⟩
    have h := h g
    refine ⟨hx, fun c => ?_, fun c => ?_, fun c => ?_, fun c => ?_, fun c => ?_, fun c => ?_, fun c => ?_, fun c => ?_, fun c => ?_, fun c => ?_, fun c => ?_, fun c => ?_, fun c => ?_, fun c => ?_⟩
    · rwa [zcount_13 c, if_neg (by omega)] at h
    · subst c
      refine ⟨by decide, fun v5 e5 => ?_⟩
      have e5 : v5 = ms 6 := e5
      rw [e5, hG.1.2.1]
      exact h
    · subst c; exact h
    · subst c; exact s_X5_inPicture hG.1 (by decide) h
    · subst c; exact s_X5_inPicture hG.1 (by decide) h
    · subst c
      refine s_X5_seenBy hG hL (by decide) ?_
      have e := zcnt_c (f := zsb sz ph od se (4 - 4)) (g := zsee (zmean sz ph od se 0 (se 0)) (se 2)) 64 (fun k hk => rfl)
      rw [e]
      exact h
    · subst c
      refine s_X5_seenBy hG hL (by decide) ?_
      have e := zcnt_c (f := zsb sz ph od se (5 - 4)) (g := zsee (zmean sz ph od se (se 3) (se 4)) (se 5)) 64 (fun k hk => rfl)
      rw [e]
      exact h
    · subst c
      exact s_X5_wrongBy (b := 0) hG hL (by decide) h
    · subst c
      exact s_X5_wrongBy (b := 1) hG hL (by decide) h
    · subst c; exact s_X5_travel hG h
    · subst c; exact s_X5_lastLit hL hG.2.1 hs h
    · subst c
      unfold wp_X5_slotAt
      refine ⟨by decide, fun v15 e15 => ⟨by decide, fun v17 e17 => ?_⟩⟩
      have e15 : v15 = ms 211 := e15
      have e17 : v17 = ms 423 := e17
      rw [e15, e17, f0, f1]
      exact h
    · subst c; exact h
    · subst c; exact h
/-- what spot answers -/
def zspot (x y sz : Int) (ph od : Nat → Int) (pi : Nat → Int64) (se : Nat → Int) : Int :=
  if ¬ (0 ≤ x ∧ x < 64) then -1 else if y = 0 then ph x.toNat else if y = 1 then zb (pi 0) x.toNat else if y = 2 then zb (pi 1) x.toNat else if y = 3 then zpos sz od x else if y = 4 then zlit sz od se x else if y = 5 then zsee (zmean sz ph od se 0 (se 0)) (se 2) x.toNat else if y = 6 then zsee (zmean sz ph od se (se 3) (se 4)) (se 5) x.toNat else if y = 7 then zmean sz ph od se 0 (se 0) x else if y = 8 then zmean sz ph od se (se 3) (se 4) x else if y = 9 then zmx (zshine ph (se 0) (zlit sz od se x) x) (se 0).toNat - zmn (zshine ph (se 0) (zlit sz od se x) x) (se 0).toNat else -1
theorem zspot_no {x y sz : Int} {ph od : Nat → Int} {pi : Nat → Int64} {se : Nat → Int} (hx : ¬ (0 ≤ x ∧ x < 64)) : zspot x y sz ph od pi se = -1 := by
  unfold zspot
  rw [if_pos hx]
theorem zspot_out {x y sz : Int} {ph od : Nat → Int} {pi : Nat → Int64} {se : Nat → Int} (hx : 0 ≤ x ∧ x < 64) (hy : y < 0 ∨ 9 < y) : zspot x y sz ph od pi se = -1 := by
  unfold zspot
  rw [if_neg (fun z => z hx), if_neg (by omega), if_neg (by omega), if_neg (by omega), if_neg (by omega), if_neg (by omega), if_neg (by omega), if_neg (by omega), if_neg (by omega), if_neg (by omega), if_neg (by omega)]
theorem a_spot {x y : Int} {ms : Nat → Int} {sz : Int} {ph od : Nat → Int} {pi : Nat → Int64} {se : Nat → Int} {Φ : Int → Prop} (hG : zG ms sz ph od pi se) (hx : qR x) (hy : qR y) (h : Φ (zspot x y sz ph od pi se)) : wp_X4_spot x y sz ph od pi se Φ := by
  obtain ⟨hR, ho, hs, hph⟩ := hG
  have hs4 := hs.2.2.2.2.1
  unfold wp_X4_spot
  refine s_X4_isSpot hx ?_
  by_cases c : 0 ≤ x ∧ x < 64
  · rw [if_pos c]
    refine ⟨by decide, fun _ => ⟨hy, fun c2 => ?_, fun c2 => ?_, fun c2 => ?_, fun c2 => ?_, fun c2 => ?_, fun c2 => ?_, fun c2 => ?_, fun c2 => ?_, fun c2 => ?_, fun c2 => ?_, fun c2 => ?_⟩, fun z => absurd (by decide) z⟩
    · rwa [zspot_out c c2] at h
    all_goals (subst c2; unfold zspot at h; rw [if_neg (fun z => z c)] at h)
    · refine ⟨c, fun v3 e3 => ?_⟩
      rw [e3]; exact h
    · refine ⟨by decide, fun v4 e4 => ?_⟩
      rw [e4]; exact s_X4_bit c h
    · refine ⟨by decide, fun v4 e4 => ?_⟩
      rw [e4]; exact s_X4_bit c h
    · exact s_X1_positionOf ho hx h
    · exact s_X1_litTick ho hs hx h
    · refine s_X1_seenByEye hph ho hs (fun r hr => s_X4_bit c ?_)
      rw [hr _ (by omega)]
      exact h
    · refine ⟨by decide, fun v12 e12 => ?_⟩
      have e12 : v12 = se 4 := e12
      rw [e12]
      refine s_X1_seenByShutter hph ho hs ⟨by omega, by omega⟩ (fun r hr => s_X4_bit c ?_)
      rw [hr _ (by omega), zmean_mod]
      exact h
    · exact s_X1_eyeMean c hph ho hs h
    · refine ⟨by decide, fun v12 e12 => ?_⟩
      have e12 : v12 = se 4 := e12
      rw [e12]
      refine s_X1_shutterMean c hph ho hs ⟨by omega, by omega⟩ ?_
      rw [zmean_mod]
      exact h
    · exact s_X1_flicker c hph ho hs h
  · rw [if_neg c]
    rw [zspot_no c] at h
    exact ⟨by decide, fun z => absurd rfl z, fun _ => h⟩
theorem m_spot {x y th : Int} {ms ml : Nat → Int} {sz : Int} {ph od : Nat → Int} {pi : Nat → Int64} {se : Nat → Int} {Φ : Int → Int → (Nat → Int) → Prop} (hG : zG ms sz ph od pi se) (hx : qR x) (hy : qR y) (h : ∀ g, Φ (zspot x y sz ph od pi se) 0 g) : wp_X5_spot x y th ms ml Φ := by
  have hs := hG.2.2.1
  have hs0 := hs.1
  have hs3 := hs.2.2.2.1
  have hs4 := hs.2.2.2.2.1
  unfold wp_X5_spot wp_X5_spot_22 wp_X5_spot_196 wp_X5_spot_151 wp_X5_spot_137
  refine s_X5_isSpot hx ?_
  by_cases c : 0 ≤ x ∧ x < 64
  · rw [if_pos c]
    refine ⟨by decide, fun z => absurd z (by decide), fun _ => s_X5_in hy (by decide) (by decide) ?_⟩
    by_cases d : 0 ≤ y ∧ y ≤ 9
    · rw [if_pos d]
      refine ⟨by decide, fun _ => s_X5_beam hG (fun g hL => ?_), fun z => absurd (by decide) z⟩
      have hL : zL g sz od se := hL
      have h := h g
      have hlb := zlit_b (sz := sz) (od := od) (se := se) hG.2.1 hs.2.1 x
      unfold zspot at h
      rw [if_neg (fun z => z c)] at h
      refine ⟨hy, fun c2 => ?_, fun c2 => ?_, fun c2 => ?_, fun c2 => ?_, fun c2 => ?_, fun c2 => ?_, fun c2 => ?_, fun c2 => ?_, fun c2 => ?_, fun c2 => ?_⟩
      · have e9 : y = 9 := by omega
        subst e9
        refine ⟨c, fun v7 e7 => ?_⟩
        rw [zL_i hL c] at e7
        refine ⟨⟨(qR_i (by omega) (by omega)), (qR_i (by omega) (by omega))⟩, fun c3 => s_X5_flickerOf hG hL c h, fun c3 => ?_⟩
        have e := zflick_dark (ph := ph) (per := se 0) (spot := x) hs0.1
        have h : Φ (zmx (zshine ph (se 0) (zlit sz od se x) x) (se 0).toNat - zmn (zshine ph (se 0) (zlit sz od se x) x) (se 0).toNat) 0 g := h
        rw [show zlit sz od se x = -9 by omega, e] at h
        exact h
      · subst c2
        refine ⟨⟨by omega, by omega⟩, fun v10 e10 => ?_⟩
        rw [e10, zR_ph hG.1 c]; exact h
      · subst c2
        refine ⟨⟨by omega, by omega⟩, fun v10 e10 => ?_⟩
        rw [e10, zR_p0 hG.1 c]; exact h
      · subst c2
        refine ⟨⟨by omega, by omega⟩, fun v10 e10 => ?_⟩
        rw [e10, zR_p1 hG.1 c]; exact h
      · subst c2
        exact s_X5_positionOf hG.1 hG.2.1 hx h
      · subst c2
        refine ⟨c, fun v10 e10 => ?_⟩
        rw [e10, zL_i hL c]; exact h
      · subst c2
        have h : Φ (zsee (zmean sz ph od se 0 (se 0)) (se 2) x.toNat) 0 g := h
        refine s_X5_isEyed hG hL c ?_
        rcases zsee_b (zmean sz ph od se 0 (se 0)) (se 2) x.toNat with q | q <;> rw [q] at h ⊢
        · exact ⟨by decide, fun _ => h, fun z => absurd rfl z⟩
        · exact ⟨by decide, fun z => absurd z (by decide), fun _ => h⟩
      · subst c2
        have h : Φ (zsee (zmean sz ph od se (se 3) (se 4)) (se 5) x.toNat) 0 g := h
        refine s_X5_isShotNow hG hL c ?_
        rcases zsee_b (zmean sz ph od se (se 3) (se 4)) (se 5) x.toNat with q | q <;> rw [q] at h ⊢
        · exact ⟨by decide, fun _ => h, fun z => absurd rfl z⟩
        · exact ⟨by decide, fun z => absurd z (by decide), fun _ => h⟩
      · subst c2
        exact s_X5_eyeMean hG hL c h
      · subst c2
        refine ⟨by decide, fun v20 e20 => ⟨by decide, fun v21 e21 => ?_⟩⟩
        have e20 : v20 = se 3 := by rw [e20]; exact hG.1.1 3 (by decide)
        have e21 : v21 = se 4 := by rw [e21]; exact hG.1.1 4 (by decide)
        rw [e20, e21]
        exact s_X5_shutterMean hG hL c ⟨by omega, by omega⟩ ⟨by omega, by omega⟩ h
    · rw [if_neg d]
      have h := h ml
      rw [zspot_out c (by omega)] at h
      exact ⟨by decide, fun z => absurd rfl z, fun _ => h⟩
  · rw [if_neg c]
    have h := h ml
    rw [zspot_no c] at h
    exact ⟨by decide, fun _ => h, fun z => absurd rfl z⟩
